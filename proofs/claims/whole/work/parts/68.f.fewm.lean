/-! ===== fewer, the model ===== -/
def FGm (m m' : tZ12) : Prop := (∀ j, j ≠ 50 → m'.1 j = m.1 j) ∧ m'.2.2 = m.2.2
theorem FGm_rfl (m : tZ12) : FGm m m := ⟨fun _ _ => rfl, rfl⟩
theorem FGm_q {m m' : tZ12} (h : FGm m m') : FQ m m' := ⟨fun j hj => h.1 j (by omega), h.1 55 (by decide), fun j _ => by rw [h.2], by rw [h.2]⟩
theorem SPm_fg {m m' : tZ12} {l : List Spt} (h : FGm m m') (H : SPm m l) : SPm m' l := by
  unfold SPm at *
  rw [h.1 15 (by decide), h.2]
  exact H
theorem FGm_c {a b c : tZ12} (h : FGm a b) (g : FC b c) : FGm a c := ⟨fun j q => by rw [g.1]; exact h.1 j q, g.2.trans h.2⟩
/-- the best so far -/
def MFw (l : List Spt) (least : Int) (s : (Nat → Cir) × Nat) (m : tZ12) : Prop :=
  (m.1 50 = 0 ∧ ∀ D, oc s D → ¬ okC l least D) ∨ (∃ C, bdC C ∧ FWc l least s C ∧ m.1 50 = (inN l C : Int) ∧ m.2.1 48 = szN C ∧ m.2.1 49 = szD C)
theorem MFw_skip {l : List Spt} {least : Int} {s : (Nat → Cir) × Nat} {m : tZ12} (h : MFw l least s m) {C : Cir} (hn : ¬ okC l least C) : MFw l least (adF s C) m := by
  rcases h with ⟨h1, h2⟩ | ⟨B, h1, h2, h3⟩
  · refine Or.inl ⟨h1, fun D hD => ?_⟩
    rcases oc_ad.mp hD with w | w
    · exact h2 D w
    · rw [w]
      exact hn
  · refine Or.inr ⟨B, h1, ⟨oc_ad.mpr (Or.inl h2.1), h2.2.1, fun D hD okD => ?_⟩, h3⟩
    rcases oc_ad.mp hD with w | w
    · exact h2.2.2 D w okD
    · rw [w] at okD
      exact absurd okD hn
theorem MFw_worse {l : List Spt} {least : Int} {s : (Nat → Cir) × Nat} {m : tZ12} {B C : Cir} (h1 : bdC B) (h2 : FWc l least s B) (h3 : m.1 50 = (inN l B : Int) ∧ m.2.1 48 = szN B ∧ m.2.1 49 = szD B) (hn : nb l C B) : MFw l least (adF s C) m := by
  refine Or.inr ⟨B, h1, ⟨oc_ad.mpr (Or.inl h2.1), h2.2.1, fun D hD okD => ?_⟩, h3⟩
  rcases oc_ad.mp hD with w | w
  · exact h2.2.2 D w okD
  · rw [w]
    exact hn
theorem MFw_take {l : List Spt} {least : Int} {s : (Nat → Cir) × Nat} {m : tZ12} {C : Cir} (hC : bdC C) (okc : okC l least C) (hs : ∀ D, oc s D → okC l least D → nb l D C) (h3 : m.1 50 = (inN l C : Int) ∧ m.2.1 48 = szN C ∧ m.2.1 49 = szD C) : MFw l least (adF s C) m := by
  refine Or.inr ⟨C, hC, ⟨oc_ad.mpr (Or.inr rfl), okc, fun D hD okD => ?_⟩, h3⟩
  rcases oc_ad.mp hD with w | w
  · exact hs D w okD
  · rw [w]
    exact nb_self _ _
theorem nb_tr {l : List Spt} {D B C : Cir} (hD : 0 < D.2.2.2) (hB : 0 < B.2.2.2) (hC : 0 < C.2.2.2) (h : nb l D B) (g : (leR C B ∧ ¬ leR B C) ∨ (leR C B ∧ leR B C ∧ (pcN (inN l B) < pcN (inN l C) ∨ (pcN (inN l B) = pcN (inN l C) ∧ inN l C < inN l B)))) : nb l D C := by
  rcases g with ⟨g1, g2⟩ | ⟨g1, g2, g3⟩
  · rcases h with h | ⟨h1, h2, _⟩
    · exact Or.inl (fun w => h (leR_tr hD hC hB w g1))
    · exact Or.inl (fun w => g2 (leR_tr hB hD hC h1 w))
  · rcases h with h | ⟨h1, h2, h3⟩
    · exact Or.inl (fun w => h (leR_tr hD hC hB w g1))
    · exact Or.inr ⟨leR_tr hC hB hD g1 h1, leR_tr hD hB hC h2 g2, by omega⟩
theorem qm_tryFew {m0 m : tZ12} {l : List Spt} {C : Cir} {s : (Nat → Cir) × Nat} (hf : FGm m0 m) (HS : SPm m0 l) (hb : bdL l) (hl : l.length ≤ 12) (hM : MCs m.2.1 16 C) {least : Int} (hk : k32 least) (h1 : 1 ≤ least) (h : MFw l least s m) (hs : ∀ D, oc s D → bdC D) :
    kwp (q_X12_tryFew m least) (fun m' => FGm m0 m' ∧ MFw l least (adF s C) m') := by
  have H := SPm_fg hf HS
  have bC := bdC_m hM
  have kC := bdC_k bC
  have sz := MCs_sz hM
  have il := inN_lt hl C
  have pl := pcN_le (inN l C)
  unfold q_X12_tryFew
  simp only [kwp_kb]
  refine w_mono (w_for (ex := 36) (by decide) (fun i (x : Int × Int) => x.2 = (i : Int) ∧ x.1 = (inF l C i : Int)) l.length ?_ ?_ (Nat.zero_le _) (by have := kF_eq; omega) ⟨rfl, rfl⟩) ?_
  · rintro i ⟨x, t⟩ hi ⟨g1, g2⟩
    dsimp only at g1 g2
    subst g1 g2
    have lt := inF_lt l C i
    have e : inF l C (i + 1) = if pw C (lX l i) (lY l i) ≤ 0 then 2 ^ i + inF l C i else inF l C i := rfl
    unfold q_X12_tryFew_L4
    dsimp only
    rw [H.1, qm_holds H hb hM hi, e]
    simp only [kwp_kb, kwp_some, kwp_kg, kwp_kif, kwp_kl]
    refine ⟨⟨⟨by omega, by omega⟩, ⟨by omega, by omega⟩⟩, fun q => by omega, fun _ => ⟨fun q => ⟨by trivial, by omega, ?_⟩, fun q => ⟨by trivial, by omega, ?_⟩⟩⟩
    · rw [if_neg (of_decide_eq_false ((kz_0 _).mp q))]
      have p : 2 ^ i ≤ 2 ^ 12 := Nat.pow_le_pow_right (by decide) (by omega)
      refine ext32 (k32_or _ _) ⟨by omega, by omega⟩ (fun k _ => ?_)
      rw [tc_or, tc_zero, Bool.or_false]
    · have y : pw C (lX l i) (lY l i) ≤ 0 := by
        by_cases w : pw C (lX l i) (lY l i) ≤ 0
        · exact w
        · exact absurd ((kz_0 _).mpr (decide_eq_false w)) q
      rw [if_pos y]
      exact zor_bit (by omega) lt
  · rintro ⟨x, t⟩ ⟨g1, g2⟩
    dsimp only at g1 g2
    subst g1
    unfold q_X12_tryFew_L4
    dsimp only
    rw [H.1]
    simp only [kwp_kb, kwp_some, kwp_kg, kwp_kif, kwp_kl]
    exact ⟨⟨⟨by omega, by omega⟩, ⟨by omega, by omega⟩⟩, fun _ => ⟨by trivial, by trivial, g2⟩, fun q => by omega⟩
  · rintro ⟨lb, x, t⟩ ⟨g0, _, g2⟩
    dsimp only at g0 g2 ⊢
    subst g2
    rw [show inF l C l.length = inN l C from rfl, qm_pc il, sz.1, sz.2]
    simp only [kwp_kb, kwp_some, kwp_kg, kwp_kif, kwp_kl]
    rw [show va_up m.2.1 48 (szN C) 22 = szD C from (va_ne _ _ (by decide)).trans sz.2]
    refine ⟨g0, ⟨hk, ⟨by omega, by omega⟩⟩, fun q => ?_, fun q => ⟨hf, MFw_skip h q⟩⟩
    have okc : okC l least C := q
    have nz : inN l C ≠ 0 := fun e => by
      have : pcN 0 = 0 := by decide
      rw [e, this] at q
      omega
    have fr : FGm m0 (va_up m.1 50 (inN l C : Int), va_up (va_up m.2.1 48 (szN C)) 49 (szD C), m.2.2) := ⟨fun j w => (va_ne _ _ w).trans (hf.1 j w), hf.2⟩
    have put : (∀ D, oc s D → okC l least D → nb l D C) → MFw l least (adF s C) (va_up m.1 50 (inN l C : Int), va_up (va_up m.2.1 48 (szN C)) 49 (szD C), m.2.2) := fun w =>
      MFw_take bC okc w ⟨va_same m.1 50 (inN l C : Int), (va_ne (va_up m.2.1 48 (szN C)) (szD C) (show (48 : Nat) ≠ 49 by decide)).trans (va_same m.2.1 48 (szN C)), va_same (va_up m.2.1 48 (szN C)) 49 (szD C)⟩
    rcases h with ⟨e0, no⟩ | ⟨B, hB, hW, e1, e2, e3⟩
    · rw [e0]
      refine ⟨by decide, fun _ => ⟨fr, put (fun D hD okD => absurd okD (no D hD))⟩, fun q1 => (q1 (by trivial)).elim⟩
    · have kB := bdC_k hB
      have ilB := inN_lt hl B
      have plB := pcN_le (inN l B)
      have nzB : inN l B ≠ 0 := fun e => by
        have : pcN 0 = 0 := by decide
        have o := hW.2.1
        unfold okC at o
        rw [e, this] at o
        omega
      have sg := sgR_C kC.1 kB.1
      have tk : ((leR C B ∧ ¬ leR B C) ∨ (leR C B ∧ leR B C ∧ (pcN (inN l B) < pcN (inN l C) ∨ (pcN (inN l B) = pcN (inN l C) ∧ inN l C < inN l B)))) → MFw l least (adF s C) (va_up m.1 50 (inN l C : Int), va_up (va_up m.2.1 48 (szN C)) 49 (szD C), m.2.2) := fun w =>
        put (fun D hD okD => nb_tr (bdC_k (hs D hD)).1 kB.1 kC.1 (hW.2.2 D hD okD) w)
      rw [e1, e2, e3, qm_pc ilB, qm_agC bC hB, sg]
      simp only [kwp_kb, kwp_some, kwp_kg, kwp_kif, kwp_kl]
      refine ⟨⟨by omega, by omega⟩, fun q1 => by omega, fun _ => ⟨sgR_k _ _, fun q1 => ⟨fun q2 => ⟨⟨⟨by omega, by omega⟩, ⟨by omega, by omega⟩⟩, fun q3 => ⟨hf, ?_⟩, fun q3 => ⟨⟨⟨by omega, by omega⟩, ⟨by omega, by omega⟩⟩, fun q4 => ⟨⟨by omega, by omega⟩, fun q5 => ⟨fr, tk (Or.inr ?_)⟩, fun q5 => ⟨hf, ?_⟩⟩, fun q4 => ⟨fr, tk (Or.inr ?_)⟩⟩⟩, fun q2 => ⟨fr, tk (Or.inl ?_)⟩⟩, fun q1 => ⟨hf, ?_⟩⟩⟩
      · have z := (sgR_0 C B).mp q2
        exact MFw_worse hB hW ⟨e1, e2, e3⟩ (Or.inr ⟨z.2, z.1, by omega⟩)
      · have z := (sgR_0 C B).mp q2
        exact ⟨z.1, z.2, by omega⟩
      · have z := (sgR_0 C B).mp q2
        exact MFw_worse hB hW ⟨e1, e2, e3⟩ (Or.inr ⟨z.2, z.1, by omega⟩)
      · have z := (sgR_0 C B).mp q2
        exact ⟨z.1, z.2, by omega⟩
      · have z := (sgR_le C B).mp q1
        exact ⟨z, fun w => q2 ((sgR_0 C B).mpr ⟨z, w⟩)⟩
      · exact MFw_worse hB hW ⟨e1, e2, e3⟩ (Or.inl (fun w => q1 ((sgR_le C B).mpr w)))
theorem MFw_c {l : List Spt} {least : Int} {s : (Nat → Cir) × Nat} {m m' : tZ12} (h : MFw l least s m) (f : FC m m') (g : ∀ j, ¬ (16 ≤ j ∧ j < 23) → m'.2.1 j = m.2.1 j) : MFw l least s m' := by
  unfold MFw at *
  rw [f.1, g 48 (by omega), g 49 (by omega)]
  exact h
