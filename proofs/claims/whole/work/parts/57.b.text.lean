/-! ===== THE TEXT: the model's number ===== -/
def TB (b : Nat → Int) (n : Int) (m : tZ12) : Prop := m.1 4 = n ∧ ∀ i : Nat, (i : Int) < n → b i = zand32 (m.2.2.1 3 i) 255
def FN (m m' : tZ12) : Prop := m'.2 = m.2 ∧ ∀ j, j ≠ 5 → j ≠ 6 → j ≠ 7 → m'.1 j = m.1 j
theorem FN_rfl (m : tZ12) : FN m m := ⟨rfl, fun _ _ _ _ => rfl⟩
theorem FN_trans {a b c : tZ12} (h : FN a b) (g : FN b c) : FN a c := ⟨g.1.trans h.1, fun j h1 h2 h3 => (g.2 j h1 h2 h3).trans (h.2 j h1 h2 h3)⟩
theorem TB_fn {b : Nat → Int} {n : Int} {m m' : tZ12} (h : TB b n m) (g : FN m m') : TB b n m' := ⟨(g.2 4 (by decide) (by decide) (by decide)).trans h.1, fun i hi => by rw [g.1]; exact h.2 i hi⟩
theorem qm_here {b : Nat → Int} {n : Int} {m : tZ12} {p : Nat} (h : TB b n m) (hp : m.1 5 = (p : Int)) (hn : n ≤ 400) (hn0 : 0 ≤ n) (hp2 : p < 100000) : q_X12_here m = some (NX b n p) := by
  refine w_eq ?_
  obtain ⟨h1, h2⟩ := h
  unfold q_X12_here NX
  simp only [kwp_kg, kwp_kif, kwp_some]
  rw [h1, hp, Int.toNat_natCast]
  refine ⟨⟨⟨by omega, by omega⟩, ⟨by omega, by omega⟩⟩, fun q => by rw [if_neg (by omega)], fun q => ⟨⟨by omega, by omega⟩, ?_⟩⟩
  rw [if_pos (by omega), h2 p (by omega)]
theorem qm_isFigure {v : Int} (h : k32 v) : q_X12_isFigure v = some (dgt v) := by
  refine w_eq ?_
  unfold q_X12_isFigure dgt
  simp only [kwp_kg, kwp_kif, kwp_some]
  refine ⟨h, fun q => (decide_eq_false (by omega)).symm, fun q => ⟨fun q => (decide_eq_false (by omega)).symm, fun q => (decide_eq_true (by omega)).symm⟩⟩
theorem qm_num {b : Nat → Int} {n far : Int} {m : tZ12} {p : Nat} (hb : ∀ i : Nat, (i : Int) < n → 0 ≤ b i ∧ b i ≤ 255) (hT : TB b n m) (hp5 : m.1 5 = (p : Int)) (hn : n ≤ 400) (hn0 : 0 ≤ n) (hp : p < 50000) (hfar : 0 ≤ far ∧ far < 1000) :
    kwp (q_X12_readNumber m far) (fun r => FN m r.2 ∧ ((numF (NX b n) p far = -1 ∧ r.1 = true ∧ r.2.1 5 = (numE (NX b n) p : Int) ∧ r.2.1 7 = numV (NX b n) p ∧ r.2.1 6 = m.1 6) ∨ (numF (NX b n) p far ≠ -1 ∧ r.1 = false ∧ r.2.1 6 = numF (NX b n) p far))) := by
  have hx := fun p => NX_bd hb p
  have qh : ∀ {m' : tZ12} {p' : Nat}, FN m m' → m'.1 5 = (p' : Int) → p' < 100000 → q_X12_here m' = some (NX b n p') := fun g h1 h2 => qm_here (TB_fn hT g) h1 hn hn0 h2
  generalize NX b n = x at *
  have hA := numA_bd x p
  have hE := numE_bd x p
  have hB : nB x p ≤ p + 1 := by unfold nB; split <;> omega
  obtain ⟨mi, hmi⟩ : ∃ mi : Int, mi = if x p = 45 then 1 else 0 := ⟨_, rfl⟩
  have k34 : ∀ m0 : tZ12, FN m m0 → m0.1 6 = m.1 6 → m0.1 5 = (nB x p : Int) → kwp (q_X12_readNumber_J34 far m0 (p : Int) mi) (fun r => FN m r.2 ∧ ((numF x p far = -1 ∧ r.1 = true ∧ r.2.1 5 = (numE x p : Int) ∧ r.2.1 7 = numV x p ∧ r.2.1 6 = m.1 6) ∨ (numF x p far ≠ -1 ∧ r.1 = false ∧ r.2.1 6 = numF x p far))) := by
    intro m0 g0 g6 g5
    unfold q_X12_readNumber_J34
    refine w_kbe (qh g0 g5 (by omega)) (w_kbe (qm_isFigure ⟨by have := hx (nB x p); omega, by have := hx (nB x p); omega⟩) ?_)
    simp only [kwp_kif, kz_0, kwp_kb, kwp_kl]
    refine ⟨fun hd => ?_, fun hd => ?_⟩
    · have e0 : nD x (nB x p) = 0 := nD_of (fun j h => absurd h (Nat.not_lt_zero _)) (Or.inr ⟨by omega, by rw [Nat.add_zero]; exact hd⟩)
      have eE : numE x p = nB x p := by unfold numE; rw [e0]; rfl
      have eF : numF x p far = (nB x p : Int) := by unfold numF; rw [if_pos (Or.inl e0), eE]
      unfold q_X12_fails
      simp only [kwp_kl, kwp_some]
      refine ⟨FN_trans g0 ⟨rfl, fun j _ h6 _ => va_ne _ _ h6⟩, Or.inr ⟨by rw [eF]; omega, by trivial, ?_⟩⟩
      rw [va_same, g5, eF]
    · have hd1 : dgt (x (nB x p)) = true := by simpa using hd
      refine w_mono (P := fun e => e.1 = 117 ∧ FN m e.2 ∧ e.2.1 6 = m.1 6 ∧ e.2.1 5 = (numE x p : Int) ∧ e.2.1 7 = numA x p) ?_ ?_
      · refine w_loop (fun k s => ∃ d : Nat, d ≤ 3 ∧ k = 3 - d ∧ (∀ j, j < d → dgt (x (nB x p + j)) = true) ∧ FN m s ∧ s.1 6 = m.1 6 ∧ s.1 5 = ((nB x p + d : Nat) : Int) ∧ s.1 7 = nV x (nB x p) d) ?_ kF 3 _ (by decide)
          ⟨0, by omega, rfl, fun j h => absurd h (Nat.not_lt_zero _), FN_trans g0 ⟨rfl, fun j _ _ h7 => va_ne _ _ h7⟩, by dsimp only; rw [va_ne _ _ (by decide)]; exact g6, by dsimp only; rw [va_ne _ _ (by decide)]; exact g5, by dsimp only; rw [va_same]; rfl⟩
        rintro k s ⟨d, hd, rfl, hj, f0, f6, f5, f7⟩
        unfold q_X12_readNumber_L64
        simp only [kwp_kg, kwp_kif, kwp_kb, kwp_kl]
        rw [qh f0 f5 (by omega), kwp_some, qm_isFigure ⟨by have := hx (nB x p + d); omega, by have := hx (nB x p + d); omega⟩, kwp_some, kwp_some, kz_0, f5, f7, g5]
        simp only [kwp_some]
        refine ⟨fun q2 => Or.inr ⟨by decide, by trivial, f0, f6, ?_, ?_⟩, fun q2 => ⟨⟨by omega, by omega⟩, fun q3 => Or.inr ⟨by decide, by trivial, f0, f6, ?_, ?_⟩, fun q3 => Or.inl ⟨by trivial, 3 - (d + 1), by omega, d + 1, by omega, rfl, fun j hj' => ?_, ?_, ?_, ?_, ?_⟩⟩⟩
        · have e := nD_of hj (by by_cases h3 : d = 3; exact Or.inl h3; exact Or.inr ⟨by omega, q2⟩)
          unfold numE
          rw [e]
        · have e := nD_of hj (by by_cases h3 : d = 3; exact Or.inl h3; exact Or.inr ⟨by omega, q2⟩)
          unfold numA
          rw [e]
        · have e := nD_of hj (Or.inl (by omega))
          unfold numE
          rw [e]
        · have e := nD_of hj (Or.inl (by omega))
          unfold numA
          rw [e]
        · by_cases e : j = d
          · rw [e]; simpa using q2
          · exact hj j (by omega)
        · exact FN_trans f0 ⟨rfl, fun j h5 _ h7 => by dsimp only; rw [va_ne _ _ h5, va_ne _ _ h7]⟩
        · rw [va_ne _ _ (by decide), va_ne _ _ (by decide)]
          exact f6
        · rw [va_same, va_ne _ _ (by decide), f5]
          omega
        · rw [va_ne _ _ (by decide), va_same]
          rfl
      · rintro ⟨l, m1⟩ ⟨h0, f0, f6, f5, f7⟩
        dsimp only at *
        simp only [kwp_kg]
        refine ⟨h0, ?_⟩
        unfold q_X12_readNumber_J117
        refine w_kbe (qh f0 f5 (by omega)) (w_kbe (qm_isFigure ⟨by have := hx (numE x p); omega, by have := hx (numE x p); omega⟩) ?_)
        have hD0 : nD x (nB x p) ≠ 0 := by
          unfold nD
          rw [hd1, if_pos rfl]
          split
          · split <;> omega
          · omega
        simp only [kwp_kg, kwp_kif, kwp_kb, kwp_kl, kz_0, kwp_some]
        unfold q_X12_fails
        simp only [kwp_kl, kwp_some]
        rw [f7]
        refine ⟨fun q1 => ⟨⟨⟨by omega, by omega⟩, ⟨by omega, by omega⟩⟩, fun q2 => ?_, fun q2 => ?_⟩, fun q1 => ?_⟩
        · have eF : numF x p far = -1 := by
            unfold numF
            rw [if_neg (by rw [q1]; simp [hD0]), if_neg (by omega)]
          by_cases hm : x p = 45
          · rw [if_pos hm] at hmi
            rw [hmi]
            refine ⟨by decide, fun q => absurd q (by decide), fun _ => ⟨FN_trans f0 ⟨rfl, fun j _ _ h7 => va_ne _ _ h7⟩, Or.inl ⟨eF, by trivial, ?_, ?_, ?_⟩⟩⟩
            · rw [va_ne _ _ (by decide)]; exact f5
            · rw [va_same]; unfold numV; rw [if_pos hm]
            · rw [va_ne _ _ (by decide)]; exact f6
          · rw [if_neg hm] at hmi
            rw [hmi]
            refine ⟨by decide, fun _ => ⟨FN_trans f0 ⟨rfl, fun j _ _ h7 => va_ne _ _ h7⟩, Or.inl ⟨eF, by trivial, ?_, ?_, ?_⟩⟩, fun q => (q (by trivial)).elim⟩
            · rw [va_ne _ _ (by decide)]; exact f5
            · rw [va_same]; unfold numV; rw [if_neg hm]
            · rw [va_ne _ _ (by decide)]; exact f6
        · have eF : numF x p far = (p : Int) := by
            unfold numF
            rw [if_neg (by rw [q1]; simp [hD0]), if_pos (by omega)]
          exact ⟨FN_trans f0 ⟨rfl, fun j _ h6 _ => va_ne _ _ h6⟩, Or.inr ⟨by rw [eF]; omega, by trivial, by rw [va_same, eF]⟩⟩
        · have q1 : dgt (x (numE x p)) = true := by simpa using q1
          have eF : numF x p far = (numE x p : Int) := by
            unfold numF
            rw [if_pos (Or.inr q1)]
          exact ⟨FN_trans f0 ⟨rfl, fun j _ h6 _ => va_ne _ _ h6⟩, Or.inr ⟨by rw [eF]; omega, by trivial, by rw [va_same, f5, eF]⟩⟩
  unfold q_X12_readNumber
  simp only [kwp_kl, kwp_kb]
  rw [qh (FN_rfl m) hp5 (by omega), kwp_some, hp5]
  simp only [kwp_kg, kwp_kif]
  have := hx p
  unfold q_X12_readNumber_J19
  simp only [kwp_kg, kwp_kif, kwp_kl]
  refine ⟨⟨by omega, by omega⟩, fun h => ⟨by decide, fun q => absurd q (by decide), fun _ => ?_⟩, fun h => ⟨by decide, fun _ => ?_, fun q => (q (by trivial)).elim⟩⟩
  · rw [if_pos h] at hmi
    subst hmi
    have e : nB x p = p + 1 := if_pos h
    refine k34 _ ⟨rfl, fun j h5 _ _ => va_ne _ _ h5⟩ (by dsimp only; rw [va_ne _ _ (by decide)]) ?_
    dsimp only
    rw [va_same, hp5, e]
    rfl
  · rw [if_neg h] at hmi
    subst hmi
    have e : nB x p = p := if_neg h
    exact k34 m (FN_rfl m) rfl (by rw [e]; exact hp5)
