/-! ===== deep, the model ===== -/
theorem qm_deepL {m : tZ12} {l : List Spt} (H : SPm m l) (hb : bdL l) {v1 x y v4 v5 v6 dx dy : Int} (hx : x.natAbs ≤ 300) (hy : y.natAbs ≤ 300) (h1 : dx.natAbs ≤ 460) (h2 : dy.natAbs ≤ 460) :
    kwp (kitr 121 (fun q => q_X12_deep_L121 v1 x y m v4 v5 v6 dx dy q) kF ((0 : Int), (0 : Int), (0 : Int), (0 : Int))) (fun e => e.1 = 248 ∧ e.2.1 = (dcL l x y dx dy l.length : Int) ∧ e.2.2.1 = (dcR l x y dx dy l.length : Int) ∧ e.2.2.2.1 = (dcA l x y dx dy l.length : Int)) := by
  have hl := H.2.1
  refine w_mono (w_for (ex := 248) (by decide) (fun i (s : Int × Int × Int × Int) => s.2.2.2 = (i : Int) ∧ s.1 = (dcL l x y dx dy i : Int) ∧ s.2.1 = (dcR l x y dx dy i : Int) ∧ s.2.2.1 = (dcA l x y dx dy i : Int)) l.length ?_ ?_ (Nat.zero_le _) (by have := kF_eq; omega) ⟨rfl, rfl, rfl, rfl⟩) (fun e h => ⟨h.1, h.2.2⟩)
  · rintro i ⟨s1, s2, s3, s⟩ hi ⟨rfl, rfl, rfl, rfl⟩
    have b := bX hb hi
    have e := H.2.2 i hi
    have kt : k32 (dT l x y dx dy i) := (d_bd h1 (by omega) h2 (by omega)).1
    have ka : k32 (dA l x y dx dy i) := (d_bd h1 (by omega) h2 (by omega)).2
    unfold q_X12_deep_L121 q_X12_deep_J173_121 q_X12_deep_J190_121
    rw [H.1]
    simp only [kwp_kb, kwp_some, kwp_kg, kwp_kif, kwp_kl]
    rw [Int.toNat_natCast, show m.2.2.1 12 i = lX l i from e.1, show m.2.2.1 13 i = lY l i from e.2.1]
    rw [show dx * (lY l i - y) - dy * (lX l i - x) = dT l x y dx dy i from rfl, show dx * (lX l i - x) + dy * (lY l i - y) = dA l x y dx dy i from rfl]
    rw [dL_s, dR_s, dA_s]
    generalize dT l x y dx dy i = t at *
    generalize dA l x y dx dy i = a at *
    have k1 : 0 ≤ (i : Int) ∧ (i : Int) < 41 := ⟨by omega, by omega⟩
    have k2 : k32 (lX l i - x) ∧ k32 (lY l i - y) ∧ k64 a := ⟨⟨by omega, by omega⟩, ⟨by omega, by omega⟩, k64_of ka⟩
    have kt' := k64_of kt
    refine ⟨⟨⟨by omega, by omega⟩, ⟨by omega, by omega⟩⟩, fun q => by omega, fun _ => ⟨k1, ⟨k2.2.1, k2.1⟩, kt', fun q1 => ⟨kt', fun q2 => ⟨kt', fun q3 => ⟨k1, k2, fun q4 => ?_, fun q4 => ?_⟩, fun q3 => ?_⟩, fun q2 => ⟨kt', fun q3 => ⟨k1, k2, fun q4 => ?_, fun q4 => ?_⟩, fun q3 => ?_⟩⟩, fun q1 => ⟨kt', fun q2 => ⟨kt', fun q3 => ⟨k1, k2, fun q4 => ?_, fun q4 => ?_⟩, fun q3 => ?_⟩, fun q2 => ⟨kt', fun q3 => ⟨k1, k2, fun q4 => ?_, fun q4 => ?_⟩, fun q3 => ?_⟩⟩⟩⟩
    all_goals first
      | (exfalso; omega)
      | (rw [if_neg (by omega), if_neg (by omega), if_neg (by omega)]; exact ⟨by trivial, by omega, by omega, by omega, by omega⟩)
      | (rw [if_neg (by omega), if_neg (by omega), if_pos (by omega)]; exact ⟨by trivial, by omega, by omega, by omega, by omega⟩)
      | (rw [if_neg (by omega), if_pos (by omega), if_neg (by omega)]; exact ⟨by trivial, by omega, by omega, by omega, by omega⟩)
      | (rw [if_pos (by omega), if_neg (by omega), if_neg (by omega)]; exact ⟨by trivial, by omega, by omega, by omega, by omega⟩)
  · rintro ⟨s1, s2, s3, s⟩ ⟨rfl, h⟩
    dsimp only at h
    unfold q_X12_deep_L121
    rw [H.1]
    simp only [kwp_kb, kwp_some, kwp_kg, kwp_kif, kwp_kl]
    exact ⟨⟨⟨by omega, by omega⟩, ⟨by omega, by omega⟩⟩, fun _ => ⟨by trivial, by trivial, h⟩, fun q => by omega⟩
theorem qm_deepJ {m : tZ12} {l : List Spt} (H : SPm m l) (hb : bdL l) {v1 x y : Int} (hx : x.natAbs ≤ 300) (hy : y.natAbs ≤ 300) :
    kwp (q_X12_deep_J45 v1 x y m (dcO l x y l.length : Int)) (fun r => r.1 = dMn l x y l.length + (dcO l x y l.length : Int) ∧ r.2 = m) := by
  have hl := H.2.1
  have ho : dcO l x y l.length ≤ l.length := cntU_le _ _
  unfold q_X12_deep_J45
  simp only [kwp_kl]
  rw [H.1]
  refine w_kb (w_for (ex := 319) (by decide) (fun i (s : Int × Int) => s.2 = (i : Int) ∧ s.1 = dMn l x y i) l.length ?_ ?_ (Nat.zero_le _) (by have := kF_eq; omega) ⟨rfl, rfl⟩) ?_
  · rintro i ⟨c, s⟩ hi ⟨rfl, rfl⟩
    have b := bX hb hi
    have e := H.2.2 i hi
    have mb := dMn_bd l x y i
    have es : dMn l x y (i + 1) = if lX l i = x ∧ lY l i = y then dMn l x y i else min (dMn l x y i) (dcM l x y i) := rfl
    have J : ¬ (lX l i = x ∧ lY l i = y) → kwp (q_X12_deep_J109_59 v1 x y m (dcO l x y l.length : Int) (dMn l x y i) (i : Int) (lX l i - x) (lY l i - y)) (fun e => e.1 = 59 ∧ e.2.2 = ((i + 1 : Nat) : Int) ∧ e.2.1 = dMn l x y (i + 1)) := fun hn => by
      have c := dc_le l x y (lX l i - x) (lY l i - y) l.length
      have sm := d_sum (l := l) (x := x) (y := y) (dx := lX l i - x) (dy := lY l i - y) (by omega) l.length
      have em : dcM l x y i = min (dcL l x y (lX l i - x) (lY l i - y) l.length : Int) (dcR l x y (lX l i - x) (lY l i - y) l.length : Int) + min (dcA l x y (lX l i - x) (lY l i - y) l.length : Int) (dcB l x y (lX l i - x) (lY l i - y) l.length : Int) := rfl
      unfold q_X12_deep_J109_59
      refine w_kb (qm_deepL H hb hx hy (by omega) (by omega)) ?_
      rintro ⟨lb, s1, s2, s3, s4⟩ ⟨h0, g1, g2, g3⟩
      dsimp only at h0 g1 g2 g3 ⊢
      unfold q_X12_deep_J280_59 q_X12_deep_J294_59
      simp only [kwp_kb, kwp_some, kwp_kg, kwp_kif, kwp_kl]
      rw [H.1, g1, g2, g3, es, if_neg hn, em]
      generalize dcL l x y (lX l i - x) (lY l i - y) l.length = L at *
      generalize dcR l x y (lX l i - x) (lY l i - y) l.length = R at *
      generalize dcA l x y (lX l i - x) (lY l i - y) l.length = A at *
      generalize dcB l x y (lX l i - x) (lY l i - y) l.length = B at *
      generalize dcO l x y l.length = O at *
      generalize dMn l x y i = D at *
      have kk : ∀ a : Int, -200 ≤ a → a ≤ 200 → k32 a := fun a p q => ⟨by omega, by omega⟩
      refine ⟨h0, ⟨kk _ (by omega) (by omega), kk _ (by omega) (by omega)⟩, fun q => ⟨⟨kk _ (by omega) (by omega), kk _ (by omega) (by omega)⟩, fun q1 => ⟨⟨kk _ (by omega) (by omega), kk _ (by omega) (by omega)⟩, fun q2 => ⟨by trivial, by omega, by omega⟩, fun q2 => ⟨by trivial, by omega, by omega⟩⟩, fun q1 => ⟨⟨kk _ (by omega) (by omega), kk _ (by omega) (by omega)⟩, fun q2 => ⟨by trivial, by omega, by omega⟩, fun q2 => ⟨by trivial, by omega, by omega⟩⟩⟩, fun q => ⟨⟨kk _ (by omega) (by omega), kk _ (by omega) (by omega)⟩, fun q1 => ⟨⟨kk _ (by omega) (by omega), kk _ (by omega) (by omega)⟩, fun q2 => ⟨by trivial, by omega, by omega⟩, fun q2 => ⟨by trivial, by omega, by omega⟩⟩, fun q1 => ⟨⟨kk _ (by omega) (by omega), kk _ (by omega) (by omega)⟩, fun q2 => ⟨by trivial, by omega, by omega⟩, fun q2 => ⟨by trivial, by omega, by omega⟩⟩⟩⟩
    unfold q_X12_deep_L59
    rw [H.1]
    simp only [kwp_kb, kwp_some, kwp_kg, kwp_kif, kwp_kl]
    rw [Int.toNat_natCast, show m.2.2.1 12 i = lX l i from e.1, show m.2.2.1 13 i = lY l i from e.2.1]
    have kk : ∀ a : Int, a.natAbs ≤ 1000 → k32 a ∧ k64 a := fun a p => ⟨⟨by omega, by omega⟩, ⟨by omega, by omega⟩⟩
    refine ⟨⟨⟨by omega, by omega⟩, ⟨by omega, by omega⟩⟩, fun q => by omega, fun _ => ⟨⟨by omega, by omega⟩, (kk _ (by omega)).1, (kk _ (by omega)).1, (kk _ (by omega)).2, fun q => ⟨(kk _ (by omega)).2, fun q2 => ⟨by trivial, by omega, ?_⟩, fun q2 => J (fun w => q2 (by omega))⟩, fun q => J (fun w => q (by omega))⟩⟩
    rw [es, if_pos ⟨by omega, by omega⟩]
  · rintro ⟨c, s⟩ ⟨rfl, h⟩
    dsimp only at h
    unfold q_X12_deep_L59
    rw [H.1]
    simp only [kwp_kb, kwp_some, kwp_kg, kwp_kif, kwp_kl]
    exact ⟨⟨⟨by omega, by omega⟩, ⟨by omega, by omega⟩⟩, fun _ => ⟨by trivial, by trivial, h⟩, fun q => by omega⟩
  · rintro ⟨lb, c, s⟩ ⟨h0, _, h⟩
    dsimp only at *
    simp only [kwp_kg, kwp_some]
    exact ⟨h0, by rw [h], (by first | exact trivial | rfl)⟩
theorem T_deep {z11 : tZ11} {z4 : tZ4} {z9 : tZ9} {z10 : tZ10} {z8 : tZ8} {m : tZ12} (H : REL z4 z9 z10 m) {set x y : Int} (hs : k32 set) (hx : k32 x) (hy : k32 y) : QRI m (q_X11_deep z11 z4 z8 set x y) (q_X12_deep m set x y) := by
  have hH := H.1.1
  have ok := GL_ok (set := set) hH.1 hH.1.2.2
  by_cases hn : -300 ≤ x ∧ x ≤ 300 ∧ -300 ≤ y ∧ y ≤ 300
  · by_cases hg : 1 ≤ set ∧ set < 16 ∧ 0 < (GL z4.1 set (z4.1 128)).length
    · obtain ⟨l, hl⟩ : ∃ l, l = GL z4.1 set (z4.1 128) := ⟨_, rfl⟩
      rw [← hl] at ok hg
      have mb := dMn_bd l x y l.length
      refine qri_of (dMn l x y l.length + (dcO l x y l.length : Int)) ?_ ?_ ⟨by omega, by omega⟩
      · unfold q_X11_deep
        rw [q_isNear hx hy (by decide), decide_eq_true hn]
        simp only [kwp_kg, kwp_kif, kwp_kb, kwp_some]
        refine ⟨fun q => absurd q kz_t, fun _ => w_mono (q_gather hH.1 hs) ?_⟩
        rw [← hl]
        rintro ⟨b', z'⟩ h
        rcases h with ⟨h, _⟩ | ⟨_, rfl, hS⟩
        · exact absurd hg h
        · exact ⟨fun q => absurd q kz_t, fun _ => w_of (q_depth hS ok.2.2 (by omega) (by omega)) rfl⟩
      · unfold q_X12_deep
        rw [qm_isFar hx (by decide), qm_isFar hy (by decide), decide_eq_true (show -300 ≤ x ∧ x ≤ 300 by omega), decide_eq_true (show -300 ≤ y ∧ y ≤ 300 by omega)]
        simp only [kwp_kg, kwp_kif, kwp_kb, kwp_some]
        refine ⟨fun q => absurd q kz_t, fun _ => ⟨fun q => absurd q kz_t, fun _ => w_mono (qm_isLaid hH hs) ?_⟩⟩
        rw [← hl]
        rintro ⟨b', m1⟩ ⟨f1, h⟩
        rcases h with ⟨h, _⟩ | ⟨_, hS, rfl⟩
        · exact absurd ⟨hg.1, hg.2.1⟩ h
        · dsimp only at f1 hS ⊢
          rw [decide_eq_true hg.2.2]
          have fin : ∀ r : Int × tZ12, (r.1 = dMn l x y l.length + (dcO l x y l.length : Int) ∧ r.2 = m1) → r.1 = dMn l x y l.length + (dcO l x y l.length : Int) ∧ FRM m r.2 := fun r hr => ⟨hr.1, by rw [hr.2]; exact FQ_frm f1⟩
          refine ⟨fun q => absurd q kz_t, fun _ => w_mono (qm_spotAt hS ok.2.2 hx hy) ?_⟩
          rintro v (⟨i, hi, rfl, e1, e2⟩ | ⟨rfl, hno⟩)
          · have o := dO_one (dif_sor ok.2.1) ⟨e1, e2⟩ l.length (Nat.le_refl _) hi
            refine ⟨⟨by omega, by omega⟩, fun q => by omega, fun _ => ?_⟩
            have t := qm_deepJ (v1 := set) hS ok.2.2 (x := x) (y := y) (by omega) (by omega)
            rw [o] at t
            rw [o] at fin
            rw [o]
            exact w_mono t fin
          · have o := dO_zero (l := l) (x := x) (y := y) l.length hno
            refine ⟨by decide, fun _ => ?_, fun q => (q (by trivial)).elim⟩
            have t := qm_deepJ (v1 := set) hS ok.2.2 (x := x) (y := y) (by omega) (by omega)
            rw [o] at t
            rw [o] at fin
            rw [o]
            exact w_mono t fin
    · refine qri_of (-1) ?_ ?_ (by decide)
      · unfold q_X11_deep
        rw [q_isNear hx hy (by decide), decide_eq_true hn]
        simp only [kwp_kg, kwp_kif, kwp_kb, kwp_some]
        refine ⟨fun q => absurd q kz_t, fun _ => w_mono (q_gather hH.1 hs) ?_⟩
        rintro ⟨b', z'⟩ h
        rcases h with ⟨_, rfl⟩ | ⟨h, _⟩
        · exact ⟨fun _ => (by first | exact trivial | rfl), fun q => (q (by trivial)).elim⟩
        · exact absurd h hg
      · unfold q_X12_deep
        rw [qm_isFar hx (by decide), qm_isFar hy (by decide), decide_eq_true (show -300 ≤ x ∧ x ≤ 300 by omega), decide_eq_true (show -300 ≤ y ∧ y ≤ 300 by omega)]
        simp only [kwp_kg, kwp_kif, kwp_kb, kwp_some]
        refine ⟨fun q => absurd q kz_t, fun _ => ⟨fun q => absurd q kz_t, fun _ => w_mono (qm_isLaid hH hs) ?_⟩⟩
        rintro ⟨b', m1⟩ ⟨f1, h⟩
        have hb : b' = false := by
          rcases h with ⟨_, h⟩ | ⟨h1, _, h2⟩
          · exact h
          · dsimp only at h2
            rw [h2]
            exact decide_eq_false (fun v => hg ⟨h1.1, h1.2, v⟩)
        subst hb
        exact ⟨fun _ => ⟨(by first | exact trivial | rfl), FQ_frm f1⟩, fun q => (q (by trivial)).elim⟩
  · refine qri_of (-1) ?_ ?_ (by decide)
    · unfold q_X11_deep
      rw [q_isNear hx hy (by decide), decide_eq_false hn]
      simp only [kwp_kg, kwp_kif, kwp_kb, kwp_some]
      exact ⟨fun _ => (by first | exact trivial | rfl), fun q => (q (by trivial)).elim⟩
    · unfold q_X12_deep
      rw [qm_isFar hx (by decide), qm_isFar hy (by decide)]
      simp only [kwp_kg, kwp_kif, kwp_kb, kwp_some]
      by_cases hx2 : -300 ≤ x ∧ x ≤ 300
      · rw [decide_eq_true hx2, decide_eq_false (show ¬ (-300 ≤ y ∧ y ≤ 300) by omega)]
        exact ⟨fun q => absurd q kz_t, fun _ => ⟨fun _ => ⟨(by first | exact trivial | rfl), FRM_rfl m⟩, fun q => (q (by trivial)).elim⟩⟩
      · rw [decide_eq_false hx2]
        exact ⟨fun _ => ⟨(by first | exact trivial | rfl), FRM_rfl m⟩, fun q => (q (by trivial)).elim⟩
