/-! ===== changes, 2 ===== -/
theorem SV_k {v : Nat → Int} (h : SV v) : ∀ i, i < 3 → k32 (v i) := by
  obtain ⟨h1, h2, h3, h4, h5, h6⟩ := h
  intro i hi
  rcases (show i = 0 ∨ i = 1 ∨ i = 2 by omega) with rfl | rfl | rfl
  · exact ⟨by omega, by omega⟩
  · exact ⟨by omega, by omega⟩
  · exact ⟨by omega, by omega⟩
theorem q_changesL {z4 : tZ4} (H : VR z4.1) {set : Int} (hs : k32 set) (hg : 1 ≤ set ∧ set < 16) (hpos : ∀ t, 0 < (GL z4.1 set t).length) {z11 : tZ11} {z8 : tZ8} {z0 : tZ0} :
    kwp (kitr 4 (fun q => q_X11_changes_L4 z4 set q) kF ((0 : Int), (0 : Int), z11, z8, z0)) (fun e => e.1 = 102 ∧ e.2.1 = (chN (tgV z4.1 set) 20 : Int)) := by
  refine w_mono (w_for (ex := 102) (by decide) (fun t (s : Int × Int × tZ11 × tZ8 × tZ0) => s.2.1 = (t : Int) ∧ (t = 0 → s.1 = 0) ∧ (0 < t → s.1 = (chN (tgV z4.1 set) (t - 1) : Int) ∧ SV (tgV z4.1 set (t - 1)) ∧ ∀ i, i < 3 → s.2.2.1 i = tgV z4.1 set (t - 1) i)) 21 ?_ ?_ (Nat.zero_le _) (by decide) ⟨rfl, fun _ => rfl, fun h => absurd h (Nat.lt_irrefl _)⟩) ?_
  · rintro t ⟨n, c, s11, s8, s0⟩ ht ⟨g1, g2, g3⟩
    dsimp only at g1 g2 g3
    subst g1
    have ht2 : 0 ≤ (t : Int) ∧ (t : Int) ≤ 20 := ⟨by omega, by omega⟩
    have ok := GL_ok (set := set) H ht2
    unfold q_X11_changes_L4
    simp only [kwp_kg, kwp_kif, kwp_kb, kwp_some, kwp_kl]
    refine ⟨⟨by omega, by omega⟩, fun q => by omega, fun _ => w_mono (q_gatherAt H hs ht2) ?_⟩
    rintro ⟨b', z'⟩ hh
    rcases hh with ⟨hh, _⟩ | ⟨_, hS, rfl⟩
    · exact absurd hg hh
    · dsimp only at hS ⊢
      rw [decide_eq_true (hpos _)]
      refine ⟨fun q => absurd q kz_t, fun _ => w_mono (q_mec H ht2 hS (hpos _)) (fun z2 hz2 => w_mono (q_seekTight hS ok.2.1 ok.2.2 ok.1 (GL_NU _ _ _) (hpos _) hz2.2.1 hz2.2.2.2) (fun z3 hz3 => ?_))⟩
      obtain ⟨v, iv, hv⟩ := TZ_V hz3.2.2
      have sv := isV_SV (GL_NU _ _ _) iv
      have ve := tgV_eq H (show t ≤ 20 by omega) (hpos _) hz2.1 iv
      have J : ∀ n' : Int, n' = (chN (tgV z4.1 set) t : Int) → kwp (q_X11_changes_J61_4 z4 set s11 z' z3 n' (t : Int)) (fun e => e.1 = 4 ∧ e.2.2.1 = ((t + 1 : Nat) : Int) ∧ (t + 1 = 0 → e.2.1 = 0) ∧ (0 < t + 1 → e.2.1 = (chN (tgV z4.1 set) (t + 1 - 1) : Int) ∧ SV (tgV z4.1 set (t + 1 - 1)) ∧ ∀ i, i < 3 → e.2.2.2.1 i = tgV z4.1 set (t + 1 - 1) i)) := fun n' hn' =>
        w_mono (q_keepV hv) (fun e he => ⟨he.1, by rw [he.2.2.1]; omega, fun q => by omega, fun _ => by
          rw [show t + 1 - 1 = t by omega, ← ve]
          exact ⟨by rw [he.2.1, hn'], sv, he.2.2.2⟩⟩)
      refine ⟨fun q => J _ ?_, fun q => ?_⟩
      · have z : t = 0 := by omega
        subst z
        rw [g2 rfl]
        rfl
      · obtain ⟨h1, h2, h3⟩ := g3 (by omega)
        obtain ⟨u, rfl⟩ : ∃ u, t = u + 1 := ⟨t - 1, by omega⟩
        rw [show u + 1 - 1 = u by omega] at h1 h2 h3
        have cs := chN_s (tgV z4.1 set) u
        rw [← ve] at cs
        refine w_mono (q_asAhead hv (SV_k sv) (SV_k h2) h3) (fun b hb => ⟨fun q1 => J _ ?_, fun q1 => J _ ?_⟩)
        · have nb : ¬ sm3 (tgV z4.1 set u) v := fun w => by rw [hb.mpr w] at q1; exact kz_t q1
          have := cs.2 nb
          omega
        · have yb : sm3 (tgV z4.1 set u) v := hb.mp (by
            cases e : b with
            | true => rfl
            | false => rw [e] at q1; exact absurd rfl q1)
          have := cs.1 yb
          omega
  · rintro ⟨n, c, s⟩ ⟨g1, g2, g3⟩
    dsimp only at g1 g2 g3
    subst g1
    unfold q_X11_changes_L4
    simp only [kwp_kg, kwp_kif, kwp_kb, kwp_some, kwp_kl]
    exact ⟨⟨by omega, by omega⟩, fun _ => ⟨by trivial, by trivial, g2, g3⟩, fun q => by omega⟩
  · rintro ⟨lb, n, c, s⟩ ⟨g0, _, _, g3⟩
    dsimp only at g0 g3 ⊢
    exact ⟨g0, (g3 (by decide)).1⟩
/-- the numbers as bits -/
def bitV (x : Int) (v : Nat → Int) : Prop := k64 x ∧ ∀ k : Nat, tb x k = true ↔ ∃ i, i < 3 ∧ v i = (k : Int)
theorem bitV_eq {x y : Int} {v w : Nat → Int} (hx : bitV x v) (hy : bitV y w) (sv : SV v) (sw : SV w) : x = y ↔ sm3 w v := by
  constructor
  · intro e
    rw [sm3_of]
    refine SV_same sw sv (fun k => ?_)
    rw [← hx.2 k, ← hy.2 k, e]
  · intro e
    refine ext64 hx.1 hy.1 (fun k _ => ?_)
    rw [Bool.eq_iff_iff, hx.2 k, hy.2 k]
    have e2 := sm3_of.mp e
    constructor
    · rintro ⟨i, hi, q⟩
      exact ⟨i, hi, by rw [e2 i hi]; exact q⟩
    · rintro ⟨i, hi, q⟩
      exact ⟨i, hi, by rw [← e2 i hi]; exact q⟩
theorem qm_tightNow {m s : tZ12} {r : Nat → Int} (H : HR r (m.2.2.1 0)) (h : FQT m s) {set : Int} {t : Nat} (hs : k32 set) (ht : t ≤ 20) (hg : 1 ≤ set ∧ set < 16) (h0 : 0 < (GL r set (t : Int)).length) :
    kwp (q_X12_tightNow (s.1, s.2.1, va_up s.2.2.1 0 (va_up (s.2.2.1 0) ((168 : Int).toNat) (t : Int)), s.2.2.2) set) (fun x => FQT m x.2 ∧ bitV x.1 (tgV r set t) ∧ SV (tgV r set t)) := by
  have ht2 : 0 ≤ (t : Int) ∧ (t : Int) ≤ 20 := ⟨by omega, by omega⟩
  have ok := GL_ok (set := set) H.1 ht2
  have nu := GL_NU r set (t : Int)
  unfold q_X12_tightNow
  simp only [kwp_kg, kwp_kif, kwp_kb, kwp_some, kwp_kl]
  refine w_mono (qm_circleAt H h hs ht2) ?_
  rintro ⟨b', m2⟩ ⟨f2, hh⟩
  rcases hh with ⟨hh, _⟩ | ⟨_, _, HS, C, hM, hC⟩
  · exact absurd ⟨hg.1, hg.2, h0⟩ hh
  · dsimp only at f2 HS hM ⊢
    refine w_mono (qm_layTight HS ok.2.1 ok.2.2 nu h0 hM hC) (fun m3 hm3 => ?_)
    obtain ⟨n, u, us, k1, k2, k3, k4⟩ := hm3.2
    have HS3 := SPm_fo hm3.1 HS
    have sl := HS.2.1
    have iv : isV (GL r set (t : Int)) C (fun i => if i < n then lP (GL r set (t : Int)) (u i) else -1) := ⟨n, u, us, k2, k3, fun i hi => (k4 i hi).1, fun i => rfl⟩
    have sv := isV_SV nu iv
    have ve := tgV_eq H.1 ht h0 hC iv
    refine w_mono (w_for (ex := 47) (by decide) (fun i (x : Int × Int) => x.2 = (i : Int) ∧ k64 x.1 ∧ ∀ k : Nat, tb x.1 k = true ↔ ∃ j, j < i ∧ lP (GL r set (t : Int)) (u j) = (k : Int)) n ?_ ?_ (Nat.zero_le _) (by have := kF_eq; omega) ⟨rfl, (by decide : k64 0), fun k => by rw [tb_zero]; exact ⟨fun w => absurd w (by decide), fun ⟨j, hj, _⟩ => absurd hj (Nat.not_lt_zero _)⟩⟩) ?_
    · rintro i ⟨x, c⟩ hi ⟨g1, g2, g3⟩
      dsimp only at g1 g2 g3
      subst g1
      have a := k4 i hi
      have nb := nu.1 _ a.1
      obtain ⟨p, hp⟩ : ∃ p : Nat, lP (GL r set (t : Int)) (u i) = (p : Int) := ⟨(lP (GL r set (t : Int)) (u i)).toNat, by omega⟩
      unfold q_X12_tightNow_L15
      dsimp only
      rw [k1, Int.toNat_natCast, a.2, Int.toNat_natCast, (SPm_at HS3 a.1).2.2, hp]
      simp only [kwp_kg, kwp_kif, kwp_kb, kwp_some, kwp_kl]
      refine ⟨⟨⟨by omega, by omega⟩, ⟨by omega, by omega⟩⟩, fun q => by omega, fun _ => ⟨⟨by omega, by omega⟩, ⟨by omega, by omega⟩, ⟨by omega, by omega⟩, by trivial, by omega, k64_or _ _, fun k => ?_⟩⟩
      (try dsimp only)
      rw [tb_or, tb_shl (by omega), Bool.or_eq_true, g3 k, decide_eq_true_iff]
      constructor
      · rintro (⟨j, hj, q⟩ | q)
        · exact ⟨j, by omega, q⟩
        · exact ⟨i, by omega, by rw [hp, q]⟩
      · rintro ⟨j, hj, q⟩
        by_cases e : j = i
        · rw [e, hp] at q
          exact Or.inr (by omega)
        · exact Or.inl ⟨j, by omega, q⟩
    · rintro ⟨x, c⟩ ⟨g1, g2, g3⟩
      dsimp only at g1 g2 g3
      subst g1
      unfold q_X12_tightNow_L15
      dsimp only
      rw [k1]
      simp only [kwp_kg, kwp_kif, kwp_kb, kwp_some, kwp_kl]
      exact ⟨⟨⟨by omega, by omega⟩, ⟨by omega, by omega⟩⟩, fun _ => ⟨by trivial, by trivial, g2, g3⟩, fun q => by omega⟩
    · rintro ⟨lb, x, c⟩ ⟨g0, _, g2, g3⟩
      dsimp only at g0 g2 g3 ⊢
      rw [← ve]
      refine ⟨g0, FQT_q f2 (FO_q hm3.1), ⟨g2, fun k => ?_⟩, sv⟩
      rw [g3 k]
      constructor
      · rintro ⟨j, hj, q⟩
        exact ⟨j, by omega, (if_pos hj).trans q⟩
      · rintro ⟨j, hj, q⟩
        by_cases e : j < n
        · exact ⟨j, e, (if_pos e).symm.trans q⟩
        · have q2 : (-1 : Int) = (k : Int) := (if_neg e).symm.trans q
          omega
theorem T_changes {z11 : tZ11} {z4 : tZ4} {z9 : tZ9} {z10 : tZ10} {z8 : tZ8} {z0 : tZ0} {m : tZ12} (H : REL z4 z9 z10 m) {set : Int} (hs : k32 set) : QRI m (q_X11_changes z11 z4 z8 z0 set) (q_X12_changes m set) := by
  have hH := H.1.1
  by_cases hg : (1 ≤ set ∧ set < 16) ∧ ∃ k, k < 40 ∧ inS z4.1 set k = true
  · obtain ⟨hg, hne⟩ := hg
    have hpos : ∀ t, 0 < (GL z4.1 set t).length := fun t => GL_ne.mpr hne
    have cl := chN_le (tgV z4.1 set) 20
    refine qri_of (chN (tgV z4.1 set) 20 : Int) ?_ ?_ ⟨by omega, by omega⟩
    · unfold q_X11_changes
      simp only [kwp_kg, kwp_kif, kwp_kb, kwp_some, kwp_kl]
      refine w_mono (q_changesL hH.1 hs hg hpos) ?_
      rintro ⟨lb, n, c, s⟩ ⟨g0, g1⟩
      dsimp only at g0 g1 ⊢
      subst g0
      exact ⟨fun q => absurd q (by decide), fun _ => ⟨by trivial, g1⟩⟩
    · unfold q_X12_changes
      simp only [kwp_kg, kwp_kif, kwp_kb, kwp_some, kwp_kl]
      refine w_mono (qm_isLaid hH hs) ?_
      rintro ⟨b', m1⟩ ⟨f1, h⟩
      rcases h with ⟨h, _⟩ | ⟨_, hS, rfl⟩
      · exact absurd hg h
      · dsimp only at f1 hS ⊢
        rw [decide_eq_true (hpos _)]
        refine ⟨fun q => absurd q kz_t, fun _ => ⟨by decide, ?_⟩⟩
        have row : m1.2.2.1 0 ((168 : Int).toNat) = m.2.2.1 0 168 := by rw [f1.2.2.1 0 (by decide)]; rfl
        rw [row]
        refine w_mono (w_for (ex := 82) (by decide) (fun t (s : Int × Int × Int × tZ12) => s.2.2.1 = (t : Int) ∧ FQT m s.2.2.2 ∧ (t = 0 → s.1 = 0) ∧ (0 < t → s.1 = (chN (tgV z4.1 set) (t - 1) : Int) ∧ SV (tgV z4.1 set (t - 1)) ∧ bitV s.2.1 (tgV z4.1 set (t - 1)))) 21 ?_ ?_ (Nat.zero_le _) (by decide) ⟨rfl, FQT_of f1, fun _ => rfl, fun h => absurd h (Nat.lt_irrefl _)⟩) ?_
        · rintro t ⟨n, a, c, s⟩ ht ⟨g1, g2, g3, g4⟩
          dsimp only at g1 g2 g3 g4
          subst g1
          unfold q_X12_changes_L27
          simp only [kwp_kg, kwp_kif, kwp_kb, kwp_some, kwp_kl]
          refine ⟨⟨by omega, by omega⟩, fun q => by omega, fun _ => ⟨by decide, w_mono (qm_tightNow hH g2 hs (show t ≤ 20 by omega) hg (hpos _)) ?_⟩⟩
          rintro ⟨x, m2⟩ ⟨f2, bv, sv⟩
          dsimp only at f2 bv sv ⊢
          refine ⟨fun q => ⟨by trivial, by omega, f2, fun w => by omega, fun _ => ?_⟩, fun q => ?_⟩
          · have z : t = 0 := by omega
            subst z
            rw [g3 rfl]
            exact ⟨rfl, sv, bv⟩
          · obtain ⟨h1, h2, h3⟩ := g4 (by omega)
            obtain ⟨u, rfl⟩ : ∃ u, t = u + 1 := ⟨t - 1, by omega⟩
            rw [show u + 1 - 1 = u by omega] at h1 h2 h3
            have cs := chN_s (tgV z4.1 set) u
            have be := bitV_eq bv h3 sv h2
            refine ⟨⟨bv.1, h3.1⟩, fun q1 => ⟨by trivial, by omega, f2, fun w => by omega, fun _ => ?_⟩, fun q1 => ⟨by trivial, by omega, f2, fun w => by omega, fun _ => ?_⟩⟩
            · have := cs.1 (be.mp q1)
              rw [show u + 1 + 1 - 1 = u + 1 by omega]
              exact ⟨by omega, sv, bv⟩
            · have := cs.2 (fun w => q1 (be.mpr w))
              rw [show u + 1 + 1 - 1 = u + 1 by omega]
              exact ⟨by omega, sv, bv⟩
        · rintro ⟨n, a, c, s⟩ ⟨g1, g2, g3, g4⟩
          dsimp only at g1 g2 g3 g4
          subst g1
          unfold q_X12_changes_L27
          simp only [kwp_kg, kwp_kif, kwp_kb, kwp_some, kwp_kl]
          exact ⟨⟨by omega, by omega⟩, fun _ => ⟨by trivial, by trivial, g2, g3, g4⟩, fun q => by omega⟩
        · rintro ⟨lb, n, a, c, s⟩ ⟨g0, _, g2, _, g4⟩
          dsimp only at g0 g2 g4 ⊢
          exact ⟨g0, (g4 (by decide)).1, FQT_back g2⟩
  · refine qri_of (-1) ?_ ?_ (by decide)
    · unfold q_X11_changes
      simp only [kwp_kg, kwp_kif, kwp_kb, kwp_some, kwp_kl]
      refine w_mono (w_loop (fun n (s : Int × Int × tZ11 × tZ8 × tZ0) => s.2.1 = 0) (Q := fun e => e.1 = 23) ?_ kF 0 _ (by have := kF_eq; omega) rfl) ?_
      · rintro n ⟨n', c, s11, s8, s0⟩ h
        dsimp only at h
        subst h
        unfold q_X11_changes_L4
        simp only [kwp_kg, kwp_kif, kwp_kb, kwp_some, kwp_kl]
        refine ⟨by decide, fun q => absurd q (by decide), fun _ => w_mono (q_gatherAt hH.1 hs (by decide)) ?_⟩
        rintro ⟨b', z'⟩ hh
        have bf : b' = false := by
          rcases hh with ⟨_, e⟩ | ⟨h1, _, e⟩
          · exact e
          · rw [show b' = decide (0 < (GL z4.1 set 0).length) from e]
            exact decide_eq_false (fun w => hg ⟨h1, GL_ne.mp w⟩)
        subst bf
        exact ⟨fun _ => Or.inr ⟨by decide, by trivial⟩, fun q => (q (by trivial)).elim⟩
      · rintro ⟨lb, n, c, s⟩ h
        dsimp only at h ⊢
        subst h
        exact ⟨fun _ => (by first | exact trivial | rfl), fun q => (q (by trivial)).elim⟩
    · unfold q_X12_changes
      simp only [kwp_kg, kwp_kif, kwp_kb, kwp_some, kwp_kl]
      refine w_mono (qm_isLaid hH hs) ?_
      rintro ⟨b', m1⟩ ⟨f1, h⟩
      have bf : b' = false := by
        rcases h with ⟨_, e⟩ | ⟨h1, _, e⟩
        · exact e
        · rw [show b' = decide (0 < (GL z4.1 set (z4.1 128)).length) from e]
          exact decide_eq_false (fun w => hg ⟨h1, GL_ne.mp w⟩)
      subst bf
      exact ⟨fun _ => ⟨(by first | exact trivial | rfl), FQ_frm f1⟩, fun q => (q (by trivial)).elim⟩
