/-! ===== worse ===== -/
theorem gth_stand {f : Nat → Option (Int × Int)} : ∀ n a, a ∈ gth f n → ∃ k, k < n ∧ a.2.2 = (k : Int) ∧ f k = some (a.1, a.2.1)
  | 0, a, h => absurd h List.not_mem_nil
  | n + 1, a, h => by
    have e : gth f (n + 1) = match f n with | none => gth f n | some v => insL v.1 v.2 (n : Int) (gth f n) := rfl
    rw [e] at h
    cases q : f n with
    | none =>
      rw [q] at h
      obtain ⟨k, h1, h2⟩ := gth_stand n a h
      exact ⟨k, by omega, h2⟩
    | some v =>
      rw [q] at h
      dsimp only at h
      rcases ins_mem h with w | w
      · refine ⟨n, by omega, by rw [w], ?_⟩
        rw [q, w]
      · obtain ⟨k, h1, h2⟩ := gth_stand n a w
        exact ⟨k, by omega, h2⟩
theorem LG_stand {z4 : tZ4} {set : Int} {i : Nat} (hi : i < (LG z4 set).length) : ∃ k : Nat, k < 40 ∧ lP (LG z4 set) i = (k : Int) ∧ z4.1 (80 + k) ≠ -1 ∧ inS z4.1 set k = true ∧ stX z4.1 k (z4.1 128) = lX (LG z4 set) i ∧ stY z4.1 k (z4.1 128) = lY (LG z4 set) i := by
  obtain ⟨k, h1, h2, h3⟩ := gth_stand 40 (g8 (LG z4 set) i) (g8_mem hi)
  unfold fB at h3
  split at h3
  · rename_i q
    rw [Bool.and_eq_true] at q
    have inj := Option.some.inj h3
    exact ⟨k, h1, h2, (inS_t.mp q.2).1, q.2, (congrArg Prod.fst inj), (congrArg Prod.snd inj)⟩
  · cases h3
def FX (m m' : tZ12) : Prop := m'.1 = m.1 ∧ m'.2.1 = m.2.1 ∧ (∀ j, j ≠ 33 → j ≠ 34 → m'.2.2.1 j = m.2.2.1 j) ∧ m'.2.2.2 = m.2.2.2
theorem FX_q {m m' : tZ12} (h : FX m m') : FQ m m' := ⟨fun j _ => by rw [h.1], by rw [h.1], fun j hj => h.2.2.1 j (by omega) (by omega), h.2.2.1 54 (by decide) (by decide)⟩
theorem SPm_fx {m m' : tZ12} {l : List Spt} (h : FX m m') (H : SPm m l) : SPm m' l := by
  unfold SPm at *
  rw [h.1, h.2.2.1 12 (by decide) (by decide), h.2.2.1 13 (by decide) (by decide), h.2.2.1 14 (by decide) (by decide)]
  exact H
theorem qm_worL55 {m : tZ12} {l : List Spt} (HS : SPm m l) {n : Nat} {t : Nat → Nat} (hn : n ≤ 3) (ht : ∀ i, i < n → t i < l.length ∧ m.2.2.1 31 i = (t i : Int)) {v1 v2 v3 v4 : Int} :
    kwp (kitr 55 (fun q => q_X12_worse_L55 v1 v2 v3 v4 (n : Int) q) kF ((0 : Int), m)) (fun e => e.1 = 106 ∧ FX m e.2.2 ∧ ∀ i, i < n → e.2.2.2.2.1 33 i = lX l (t i) ∧ e.2.2.2.2.1 34 i = lY l (t i)) := by
  have sl := HS.2.1
  refine w_mono (w_for (ex := 106) (by decide) (fun i (s : Int × tZ12) => s.1 = (i : Int) ∧ FX m s.2 ∧ ∀ j, j < i → s.2.2.2.1 33 j = lX l (t j) ∧ s.2.2.2.1 34 j = lY l (t j)) n ?_ ?_ (Nat.zero_le _) (by have := kF_eq; omega) ⟨rfl, ⟨rfl, rfl, fun _ _ _ => rfl, rfl⟩, fun j hj => absurd hj (Nat.not_lt_zero _)⟩) (fun e g => ⟨g.1, g.2.2⟩)
  · rintro i ⟨x, w⟩ hi ⟨g1, g2, g3⟩
    dsimp only at g1 g2 g3
    subst g1
    have Hw := SPm_fx g2 HS
    have ti := ht i hi
    have e31 : w.2.2.1 31 i = (t i : Int) := by rw [g2.2.2.1 31 (by decide) (by decide)]; exact ti.2
    have sp := SPm_at Hw ti.1
    unfold q_X12_worse_L55
    dsimp only
    simp only [kwp_kb, kwp_some, kwp_kg, kwp_kif, kwp_kl]
    rw [Int.toNat_natCast, va_ne _ _ (show (31 : Nat) ≠ 33 by decide), va_ne _ _ (show (13 : Nat) ≠ 33 by decide), e31, Int.toNat_natCast, sp.1, sp.2.1]
    refine ⟨⟨⟨by omega, by omega⟩, ⟨by omega, by omega⟩⟩, fun q => by omega, fun _ => ⟨⟨by omega, by omega⟩, ⟨by omega, by omega⟩, ⟨by omega, by omega⟩, by trivial, by omega, ⟨g2.1, g2.2.1, fun j q w => ?_, g2.2.2.2⟩, fun j hj => ?_⟩⟩
    · dsimp only
      rw [va_ne _ _ w, va_ne _ _ q]
      exact g2.2.2.1 j q w
    · rw [va_ne _ _ (show (33 : Nat) ≠ 34 by decide), va_same, va_same, va_ne _ _ (show (34 : Nat) ≠ 33 by decide)]
      by_cases e : j = i
      · rw [e, va_same, va_same]
        exact ⟨rfl, rfl⟩
      · rw [va_ne _ _ e, va_ne _ _ e]
        exact g3 j (by omega)
  · rintro ⟨x, w⟩ ⟨g1, g2, g3⟩
    dsimp only at g1 g2 g3
    subst g1
    unfold q_X12_worse_L55
    dsimp only
    simp only [kwp_kb, kwp_some, kwp_kg, kwp_kif, kwp_kl]
    exact ⟨⟨⟨by omega, by omega⟩, ⟨by omega, by omega⟩⟩, fun _ => ⟨by trivial, by trivial, g2, g3⟩, fun q => by omega⟩
def woN (l : List Spt) (C : Cir) (t : Nat → Nat) (n : Nat) : Nat := cntU (fun i => decide (pw C (lX l (t i)) (lY l (t i)) = 0)) n
theorem woN_s (l : List Spt) (C : Cir) (t : Nat → Nat) (n : Nat) : woN l C t (n + 1) = woN l C t n + if pw C (lX l (t n)) (lY l (t n)) = 0 then 1 else 0 := cntU_s _ n
theorem woN_P {l : List Spt} {C D : Cir} (hC : 0 < C.2.2.2) (hD : 0 < D.2.2.2) (h : cP C D) {t u : Nat → Nat} : ∀ n, (∀ i, i < n → t i = u i) → woN l C t n = woN l D u n
  | 0, _ => rfl
  | n + 1, hu => by
    rw [woN_s, woN_s, woN_P hC hD h n (fun i hi => hu i (by omega)), hu n (by omega)]
    congr 1
    by_cases q : pw C (lX l (u n)) (lY l (u n)) = 0
    · rw [if_pos q, if_pos ((cP_on hD hC h).mpr q)]
    · rw [if_neg q, if_neg (fun w => q ((cP_on hD hC h).mp w))]
theorem qm_worL151 {m : tZ12} {l : List Spt} {C : Cir} (hb : bdL l) (hM : MCs m.2.1 16 C) {n : Nat} {t : Nat → Nat} (hn : n ≤ 3) (ht : ∀ i, i < n → t i < l.length) (h3 : ∀ i, i < n → m.2.2.1 33 i = lX l (t i) ∧ m.2.2.1 34 i = lY l (t i)) {v1 v2 v3 v4 : Int} :
    kwp (kitr 151 (fun q => q_X12_worse_L151 v1 v2 v3 v4 m (n : Int) q) kF ((0 : Int), (0 : Int))) (fun e => e.1 = 199 ∧ e.2.1 = (woN l C t n : Int)) := by
  refine w_mono (w_for (ex := 199) (by decide) (fun i (s : Int × Int) => s.2 = (i : Int) ∧ s.1 = (woN l C t i : Int)) n ?_ ?_ (Nat.zero_le _) (by have := kF_eq; omega) ⟨rfl, rfl⟩) (fun e g => ⟨g.1, g.2.2⟩)
  · rintro i ⟨x, w⟩ hi ⟨g1, g2⟩
    dsimp only at g1 g2
    subst g1 g2
    have b := bX hb (ht i hi)
    have x3 := h3 i hi
    have pk := pw_k hM (x := lX l (t i)) (y := lY l (t i)) (by omega) (by omega)
    have ws := woN_s l C t i
    unfold q_X12_worse_L151
    dsimp only
    rw [Int.toNat_natCast, x3.1, x3.2, qm_lies hM]
    simp only [kwp_kb, kwp_some, kwp_kg, kwp_kif, kwp_kl]
    refine ⟨⟨⟨by omega, by omega⟩, ⟨by omega, by omega⟩⟩, fun q => by omega, fun _ => ⟨⟨by omega, by omega⟩, ⟨⟨by omega, by omega⟩, ⟨by omega, by omega⟩⟩, pk, fun q => ⟨by trivial, by omega, ?_⟩, fun q => ⟨by trivial, by omega, ?_⟩⟩⟩
    · rw [if_pos q] at ws
      omega
    · rw [if_neg q] at ws
      omega
  · rintro ⟨x, w⟩ ⟨g1, g2⟩
    dsimp only at g1 g2
    subst g1
    unfold q_X12_worse_L151
    dsimp only
    simp only [kwp_kb, kwp_some, kwp_kg, kwp_kif, kwp_kl]
    exact ⟨⟨⟨by omega, by omega⟩, ⟨by omega, by omega⟩⟩, fun _ => ⟨by trivial, by trivial, g2⟩, fun q => by omega⟩
theorem q_countT {z11 : tZ11} {z4 : tZ4} {z z' : tZ0} {set : Int} (hV : VR z4.1) (hB : BC z') (hb : bdL (LG z4 set)) {n : Nat} {t : Nat → Nat} (hn : n ≤ 3) (h1 : z.2.2.2.2.2.2.2.2 = (n : Int)) (h2 : ∀ i, i < n → t i < (LG z4 set).length ∧ z.2.2.2.2.2.2.2.1 i = lP (LG z4 set) (t i)) :
    q_X11_countTightOnSecond z11 z4 z z' = some (woN (LG z4 set) (CZ z') t n : Int) := by
  refine w_eq ?_
  unfold q_X11_countTightOnSecond
  rw [q_now]
  simp only [kwp_kb, kwp_some]
  refine w_mono (w_for (ex := 72) (by decide) (fun i (s : Int × Int) => s.2 = (i : Int) ∧ s.1 = (woN (LG z4 set) (CZ z') t i : Int)) n ?_ ?_ (Nat.zero_le _) (by have := kF_eq; omega) ⟨rfl, rfl⟩) ?_
  · rintro i ⟨x, w⟩ hi ⟨g1, g2⟩
    dsimp only at g1 g2
    subst g1 g2
    have ti := h2 i hi
    obtain ⟨k, k1, k2, k3, k4, k5, k6⟩ := LG_stand ti.1
    have b := bX hb ti.1
    have ws := woN_s (LG z4 set) (CZ z') t i
    have sk := sd_k (pw (CZ z') (lX (LG z4 set) (t i)) (lY (LG z4 set) (t i)))
    unfold q_X11_countTightOnSecond_L12 q_X0_tightCount
    dsimp only
    rw [h1, q_tightNo h1 hn ⟨by omega, by omega⟩, if_pos ⟨by omega, by omega⟩, Int.toNat_natCast, ti.2, k2]
    simp only [kwp_kb, kwp_some, kwp_kg, kwp_kif, kwp_kl]
    rw [q_standX hV k1 k3, kwp_some, q_standY hV k1 k3, kwp_some, k5, k6, q_side hB (by omega) (by omega), kwp_some]
    refine ⟨⟨⟨by omega, by omega⟩, ⟨by omega, by omega⟩⟩, fun q => by omega, fun _ => ⟨sk, fun q => ⟨by trivial, by omega, ?_⟩, fun q => ⟨by trivial, by omega, ?_⟩⟩⟩
    · rw [if_pos ((sd_0 _).mp q)] at ws
      omega
    · rw [if_neg (fun w => q ((sd_0 _).mpr w))] at ws
      omega
  · rintro ⟨x, w⟩ ⟨g1, g2⟩
    dsimp only at g1 g2
    subst g1
    unfold q_X11_countTightOnSecond_L12 q_X0_tightCount
    dsimp only
    rw [h1]
    simp only [kwp_kb, kwp_some, kwp_kg, kwp_kif, kwp_kl]
    exact ⟨⟨⟨by omega, by omega⟩, ⟨by omega, by omega⟩⟩, fun _ => ⟨by trivial, by trivial, g2⟩, fun q => by omega⟩
  · rintro ⟨lb, x, w⟩ ⟨g0, _, g2⟩
    dsimp only at g0 g2 ⊢
    simp only [kwp_kg, kwp_some]
    exact ⟨g0, g2⟩
theorem woN_le (l : List Spt) (C : Cir) (t : Nat → Nat) (n : Nat) : woN l C t n ≤ n := cntU_le _ n
theorem T_worse {z11 : tZ11} {z4 : tZ4} {z9 : tZ9} {z10 : tZ10} {z8 : tZ8} {z0 z0' : tZ0} {z3 : tZ3} {m : tZ12} (H : REL z4 z9 z10 m) {set x y w : Int} (hs : k32 set) (hx : k32 x) (hy : k32 y) (hw : k32 w) : QRY m (q_X11_worse z11 z4 z8 z0 z0' z3 set x y w) (q_X12_worse m set x y w) := by
  have hH := H.1.1
  have ok := LG_ok hH.1 set
  have nu := LG_NU (z4 := z4) set
  by_cases hg : (0 ≤ w ∧ w ≤ 2) ∧ (-150 ≤ x ∧ x ≤ 150 ∧ -150 ≤ y ∧ y ≤ 150) ∧ gdS z4 set
  · obtain ⟨hw2, hn, hg⟩ := hg
    have h0 := hg.2.2
    have so2 := ins_sor (x := x) (y := y) (p := 40) ok.2.1
    have ln2 := ins_len x y 40 (LG z4 set)
    have po2 := (ins_ge x y 40 (LG z4 set)).2
    have bd2 : bdL (insL x y 40 (LG z4 set)) := fun a ha => by
      rcases ins_mem ha with e | e
      · rw [e]
        dsimp only
        omega
      · exact ok.2.2 a e
    unfold QRY q_X11_worse
    rw [q_isNear hx hy (by decide), decide_eq_true hn]
    simp only [kwp_kg, kwp_kif, kwp_kb, kwp_some]
    refine ⟨hw, fun q => by omega, fun _ => ⟨fun q => by omega, fun _ => ⟨fun q => absurd q kz_t, fun _ => w_mono (gath_t hH.1 hs hg) ?_⟩⟩⟩
    rintro ⟨b', z'⟩ ⟨e, hS⟩
    dsimp only at e hS ⊢
    subst e
    refine ⟨fun q => absurd q kz_t, fun _ => w_mono (q_mecL hH.1 hS h0) (fun z2 hz2 => w_mono (q_seekTight hS ok.2.1 ok.2.2 ok.1 nu h0 hz2.2.1 hz2.2.2) (fun z3' hz3 => w_mono (q_add hS ok.2.1 ok.2.2 (by omega) hx hy) (fun z5 hz5 => w_mono (q_about hz5 so2 bd2 po2) (fun z6 hz6 => ?_))))⟩
    have mec6 := mecOf_in0 hz6.1
    obtain ⟨n, t, ts, e1, n1, n3, e2⟩ := hz3.2.2
    have hm : kwp (q_X12_worse m set x y w) (fun r' => FRM m r'.2 ∧ (w = 0 → r'.1 = szN (CZ z6)) ∧ (w = 1 → r'.1 = szD (CZ z6)) ∧ (w = 2 → r'.1 = (woN (LG z4 set) (CZ z6) t n : Int))) := by
      unfold q_X12_worse
      rw [qm_isFar hx (by decide), qm_isFar hy (by decide), qm_isIn hw (by decide) (by decide), decide_eq_true (show -150 ≤ x ∧ x ≤ 150 by omega), decide_eq_true (show -150 ≤ y ∧ y ≤ 150 by omega), decide_eq_true hw2]
      simp only [kwp_kg, kwp_kif, kwp_kb, kwp_some, kwp_kl]
      refine ⟨fun q => absurd q kz_t, fun _ => ⟨fun q => absurd q kz_t, fun _ => ⟨fun q => absurd q kz_t, fun _ => w_mono (circ_t hH hs hg) ?_⟩⟩⟩
      rintro ⟨b', m2⟩ ⟨e, f2, HS, C, hM, hC⟩
      dsimp only at e f2 HS hM hC ⊢
      subst e
      refine ⟨fun q => absurd q kz_t, fun _ => w_mono (qm_layTight HS ok.2.1 ok.2.2 nu h0 hM hC) (fun m3 hm3 => ?_)⟩
      obtain ⟨n', u, us, k1, k2, k3, k4⟩ := hm3.2
      have oo := TS_only nu.2 (TS_P hz2.1.1 hC.1 (mecOf_only hz2.1 hC) ts) us
      obtain ⟨ee, oo2⟩ := oo
      subst ee
      rw [k1]
      have HS3 := SPm_fo hm3.1 HS
      refine w_mono (qm_worL55 HS3 n3 k4) ?_
      rintro ⟨lb, i', m4⟩ ⟨g0, g1, g2⟩
      dsimp only at g0 g1 g2 ⊢
      have HS4 := SPm_fx g1 HS3
      refine ⟨g0, w_mono (qm_add HS4 ok.2.1 ok.2.2 (by omega) hx hy) (fun m5 hm5 => ?_)⟩
      obtain ⟨a1, a2, a3, a4, a5, a6⟩ := hm5
      rw [qm_all a1, kwp_some]
      refine w_mono (qm_layAll a1 so2 bd2 po2) (fun m6 hm6 => ?_)
      obtain ⟨f6, D, hD, hD2⟩ := hm6
      have cp := mecOf_only mec6 hD2
      have sz := MCs_sz hD
      have szp := sz_P mec6.1 hD2.1 cp
      have fm := FQ_frm (FQ_trans (FQ_trans (FQ_trans (FQ_trans f2 (FO_q hm3.1)) (FX_q g1)) a2) (FC_q f6))
      have r3 : ∀ i, i < n → m6.2.2.1 33 i = lX (LG z4 set) (u i) ∧ m6.2.2.1 34 i = lY (LG z4 set) (u i) := fun i hi => by
        rw [f6.2, a6 33 (by decide) (by decide) (by decide), a6 34 (by decide) (by decide) (by decide)]
        exact g2 i hi
      refine ⟨hw, fun q => w_mono (qm_worL151 ok.2.2 hD n3 (fun i hi => (k4 i hi).1) r3) ?_, fun q => ⟨fun q1 => ⟨fm, fun _ => by rw [sz.1, szp.1], fun q2 => by omega, fun q2 => by omega⟩, fun q1 => ⟨fm, fun q2 => by omega, fun _ => by rw [sz.2, szp.2], fun q2 => by omega⟩⟩⟩
      rintro ⟨lb2, c1, c2⟩ ⟨d0, d1⟩
      dsimp only at d0 d1 ⊢
      have wl := woN_le (LG z4 set) D u n
      refine ⟨d0, ⟨by omega, by omega⟩, fm, fun q2 => by omega, fun q2 => by omega, fun _ => ?_⟩
      rw [d1, woN_P mec6.1 hD2.1 cp n oo2]
    have bd6 := sz_k (bdC_z hz6.2.1)
    refine ⟨fun q => ?_, fun q => ?_⟩
    · rw [q_countT hH.1 hz6.2.1 ok.2.2 n3 e1 e2]
      simp only [kwp_some]
      have wl := woN_le (LG z4 set) (CZ z6) t n
      exact ⟨⟨by omega, by omega⟩, w_mono hm (fun r' h => ⟨(h.2.2.2 q).symm, ⟨by omega, by omega⟩, h.1⟩)⟩
    · rw [q_size hz6.2.1, kwp_some, q_part hw, kwp_some]
      refine w_mono hm (fun r' h => ?_)
      by_cases q1 : w = 0
      · rw [if_pos q1]
        exact ⟨(h.2.1 q1).symm, k64_63 bd6.2.1, h.1⟩
      · rw [if_neg q1]
        exact ⟨(h.2.2.1 (by omega)).symm, k64_63 bd6.2.2.2, h.1⟩
  · refine qry_of (-1) ?_ ?_ (by decide)
    · unfold q_X11_worse
      rw [q_isNear hx hy (by decide)]
      simp only [kwp_kg, kwp_kif, kwp_kb, kwp_some]
      refine ⟨hw, fun _ => (by first | exact trivial | rfl), fun q0 => ⟨fun _ => (by first | exact trivial | rfl), fun q1 => ⟨fun _ => (by first | exact trivial | rfl), fun q2 => ?_⟩⟩⟩
      have a1 : -150 ≤ x ∧ x ≤ 150 ∧ -150 ≤ y ∧ y ≤ 150 := by
        cases e : decide (-150 ≤ x ∧ x ≤ 150 ∧ -150 ≤ y ∧ y ≤ 150) with
        | true => exact of_decide_eq_true e
        | false => rw [e] at q2; exact absurd rfl q2
      refine w_mono (gath_f hH.1 hs (fun c => hg ⟨⟨by omega, by omega⟩, a1, c⟩)) ?_
      rintro ⟨b', z'⟩ e
      dsimp only at e ⊢
      subst e
      exact ⟨fun _ => (by first | exact trivial | rfl), fun q => (q (by trivial)).elim⟩
    · unfold q_X12_worse
      rw [qm_isFar hx (by decide), qm_isFar hy (by decide), qm_isIn hw (by decide) (by decide)]
      simp only [kwp_kg, kwp_kif, kwp_kb, kwp_some]
      refine ⟨fun _ => ⟨(by first | exact trivial | rfl), FRM_rfl m⟩, fun q0 => ⟨fun _ => ⟨(by first | exact trivial | rfl), FRM_rfl m⟩, fun q1 => ⟨fun _ => ⟨(by first | exact trivial | rfl), FRM_rfl m⟩, fun q2 => ?_⟩⟩⟩
      have b1 : -150 ≤ x ∧ x ≤ 150 := by
        cases e : decide (-150 ≤ x ∧ x ≤ 150) with
        | true => exact of_decide_eq_true e
        | false => rw [e] at q0; exact absurd rfl q0
      have b2 : -150 ≤ y ∧ y ≤ 150 := by
        cases e : decide (-150 ≤ y ∧ y ≤ 150) with
        | true => exact of_decide_eq_true e
        | false => rw [e] at q1; exact absurd rfl q1
      have b3 : 0 ≤ w ∧ w ≤ 2 := by
        cases e : decide (0 ≤ w ∧ w ≤ 2) with
        | true => exact of_decide_eq_true e
        | false => rw [e] at q2; exact absurd rfl q2
      refine w_mono (circ_f hH hs (fun c => hg ⟨b3, ⟨b1.1, b1.2, b2.1, b2.2⟩, c⟩)) ?_
      rintro ⟨b', m2⟩ ⟨e, f2⟩
      dsimp only at e f2 ⊢
      subst e
      exact ⟨fun _ => ⟨(by first | exact trivial | rfl), FQ_frm f2⟩, fun q => (q (by trivial)).elim⟩
