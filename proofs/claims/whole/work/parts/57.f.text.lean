/-! ===== THE TEXT: the model ===== -/
def FI (m m' : tZ12) : Prop := m'.2.1 = m.2.1 ∧ m'.2.2.2 = m.2.2.2 ∧ (∀ j, j ≠ 5 → j ≠ 6 → j ≠ 7 → j ≠ 11 → m'.1 j = m.1 j) ∧ ∀ j, j ≠ 8 → j ≠ 9 → j ≠ 10 → m'.2.2.1 j = m.2.2.1 j
theorem FI_rfl (m : tZ12) : FI m m := ⟨rfl, rfl, fun _ _ _ _ _ => rfl, fun _ _ _ _ => rfl⟩
theorem FI_trans {a b c : tZ12} (h : FI a b) (g : FI b c) : FI a c :=
  ⟨g.1.trans h.1, g.2.1.trans h.2.1, fun j h1 h2 h3 h4 => (g.2.2.1 j h1 h2 h3 h4).trans (h.2.2.1 j h1 h2 h3 h4), fun j h1 h2 h3 => (g.2.2.2 j h1 h2 h3).trans (h.2.2.2 j h1 h2 h3)⟩
theorem FI_fn {a b : tZ12} (g : FN a b) : FI a b := ⟨by rw [g.1], by rw [g.1], fun j h1 h2 h3 _ => g.2 j h1 h2 h3, fun j _ _ _ => by rw [g.1]⟩
theorem TB_fi {b : Nat → Int} {n : Int} {m m' : tZ12} (h : TB b n m) (g : FI m m') : TB b n m' := ⟨(g.2.2.1 4 (by decide) (by decide) (by decide) (by decide)).trans h.1, fun i hi => by rw [g.2.2.2 3 (by decide) (by decide) (by decide)]; exact h.2 i hi⟩
theorem fst_no {f v : Int} (h : f ≠ -1) : fst f v = f := if_neg h
theorem fst_yes (v : Int) : fst (-1) v = v := if_pos rfl
theorem qm_takes {b : Nat → Int} {n v : Int} {m : tZ12} {p : Nat} (hb : ∀ i : Nat, (i : Int) < n → 0 ≤ b i ∧ b i ≤ 255) (hT : TB b n m) (hp5 : m.1 5 = (p : Int)) (hn : n ≤ 400) (hn0 : 0 ≤ n) (hp : p < 50000) (hv : k32 v) :
    kwp (q_X12_takes m v) (fun r => FN m r.2 ∧ ((NX b n p = v ∧ r.1 = true ∧ r.2.1 5 = ((p + 1 : Nat) : Int) ∧ r.2.1 6 = m.1 6 ∧ r.2.1 7 = m.1 7) ∨ (NX b n p ≠ v ∧ r.1 = false ∧ r.2.1 6 = (p : Int)))) := by
  unfold q_X12_takes
  refine w_kbe (qm_here hT hp5 hn hn0 (by omega)) ?_
  have := NX_bd hb p
  unfold q_X12_fails
  simp only [kwp_kg, kwp_kif, kwp_kb, kwp_kl, kwp_some]
  refine ⟨⟨⟨by omega, by omega⟩, hv⟩, fun q => ⟨⟨rfl, fun j h5 _ _ => va_ne _ _ h5⟩, Or.inl ⟨q, by trivial, ?_, ?_, ?_⟩⟩, fun q => ⟨⟨rfl, fun j _ h6 _ => va_ne _ _ h6⟩, Or.inr ⟨q, by trivial, ?_⟩⟩⟩
  · rw [va_same, hp5]
    rfl
  · exact va_ne _ _ (by decide)
  · exact va_ne _ _ (by decide)
  · rw [va_same, hp5]
def itAns (x : Nat → Int) (k : Int) (p i : Nat) (m m' : tZ12) (ok : Bool) : Prop :=
  FI m m' ∧ ((iF x k p = -1 ∧ ok = true ∧ m'.1 5 = ((iQ2 x p + 1 : Nat) : Int) ∧ m'.1 6 = m.1 6 ∧ m'.1 11 = ((i + 1 : Nat) : Int) ∧
      m'.2.2.1 8 = va_up (m.2.2.1 8) i (itm x p).1 ∧ m'.2.2.1 9 = va_up (m.2.2.1 9) i (itm x p).2.1 ∧ m'.2.2.1 10 = va_up (m.2.2.1 10) i (itm x p).2.2) ∨
    (iF x k p ≠ -1 ∧ ok = false ∧ m'.1 6 = iF x k p))
theorem qm_readItem {b : Nat → Int} {n k left : Int} {m : tZ12} {p i : Nat} (hb : ∀ i : Nat, (i : Int) < n → 0 ≤ b i ∧ b i ≤ 255) (hT : TB b n m) (hp5 : m.1 5 = (p : Int)) (hn : n ≤ 400) (hn0 : 0 ≤ n) (hp : p < 1000)
    (hi : m.1 11 = (i : Int)) (hi2 : i < 100) (hl : left = 0 ↔ k = -1) (hl2 : k32 left) : kwp (q_X12_readItem m left) (fun r => itAns (NX b n) k p i m r.2 r.1) := by
  have hx := fun p => NX_bd hb p
  have hib := i_bd (NX b n) p
  have hB := iF_bd (NX b n) k p
  obtain ⟨x, hX⟩ : ∃ x, x = NX b n := ⟨_, rfl⟩
  obtain ⟨pc, hpc⟩ : ∃ pc : Int, pc = if x p = 112 then 1 else 0 := ⟨_, rfl⟩
  have hpc01 : (pc = 0 ∧ ¬ x p = 112) ∨ (pc = 1 ∧ x p = 112) := by
    by_cases h : x p = 112
    · rw [if_pos h] at hpc; exact Or.inr ⟨hpc, h⟩
    · rw [if_neg h] at hpc; exact Or.inl ⟨hpc, h⟩
  -- behind the heap
  have k94 : ∀ m0 : tZ12, FI m m0 → m0.1 6 = m.1 6 → m0.1 5 = ((iP x p + 1 : Nat) : Int) → m0.1 11 = (i : Int) → m0.2.2.1 = m.2.2.1 → iF1 x k p = -1 → kwp (q_X12_readItem_J94 left m0 pc (iH x p) (iFar x p)) (fun r => itAns x k p i m r.2 r.1) := by
    intro m0 f0 f6 f5 f11 fa hF1
    have hfar : 0 ≤ iFar x p ∧ iFar x p < 1000 := by unfold iFar; split <;> omega
    have e2 : iF2 x k p = numF x (iP x p + 1) (iFar x p) := by unfold iF2; rw [hF1, fst_yes]
    unfold q_X12_readItem_J94
    subst hX
    refine w_kb (qm_num (far := iFar (NX b n) p) hb (TB_fi hT f0) f5 hn hn0 (by omega) hfar) ?_
    rintro ⟨ok1, m1⟩ ⟨g0, g⟩
    dsimp only at g0 g ⊢
    rw [← e2] at g
    simp only [kwp_kif, kz_0]
    rcases g with ⟨gF, rfl, g5, g7, g6⟩ | ⟨gF, rfl, g6⟩
    · refine ⟨fun q => (by cases q), fun _ => ?_⟩
      have h11 : m1.1 11 = (i : Int) := (g0.2 11 (by decide) (by decide) (by decide)).trans f11
      rw [h11]
      simp only [kwp_kg, kwp_kl, Int.toNat_natCast]
      refine ⟨⟨by omega, by omega⟩, ?_⟩
      have e3 : iF3 (NX b n) k p = if NX b n (iQ1 (NX b n) p) = 44 then -1 else (iQ1 (NX b n) p : Int) := by unfold iF3; rw [gF, fst_yes]
      have f1 : FI m (m1.1, m1.2.1, va_up m1.2.2.1 9 (va_up (m1.2.2.1 9) i (m1.1 7)), m1.2.2.2) := FI_trans (FI_trans f0 (FI_fn g0)) ⟨rfl, rfl, fun _ _ _ _ _ => rfl, fun j _ h9 _ => va_ne _ _ h9⟩
      refine w_kb (qm_takes (v := 44) (p := iQ1 (NX b n) p) hb (TB_fi hT f1) g5 hn hn0 (by omega) (by decide)) ?_
      rintro ⟨ok2, m2⟩ ⟨t0, t⟩
      dsimp only at t0 t ⊢
      simp only [kwp_kif, kz_0]
      rcases t with ⟨tF, rfl, t5, t6, t7⟩ | ⟨tF, rfl, t6⟩
      · refine ⟨fun q => (by cases q), fun _ => ?_⟩
        rw [if_pos tF] at e3
        have e4 : iF4 (NX b n) k p = numF (NX b n) (iQ1 (NX b n) p + 1) (iFar (NX b n) p) := by unfold iF4; rw [e3, fst_yes]
        have f2 := FI_trans f1 (FI_fn t0)
        refine w_kb (qm_num (far := iFar (NX b n) p) hb (TB_fi hT f2) t5 hn hn0 (by omega) hfar) ?_
        rintro ⟨ok3, m3⟩ ⟨u0, u⟩
        dsimp only at u0 u ⊢
        rw [← e4] at u
        simp only [kwp_kif, kz_0]
        rcases u with ⟨uF, rfl, u5, u7, u6⟩ | ⟨uF, rfl, u6⟩
        · refine ⟨fun q => (by cases q), fun _ => ?_⟩
          have h11' : m3.1 11 = (i : Int) := by
            rw [u0.2 11 (by decide) (by decide) (by decide), t0.2 11 (by decide) (by decide) (by decide)]
            exact h11
          rw [h11']
          simp only [kwp_kg, kwp_kl, kwp_kif, Int.toNat_natCast]
          refine ⟨⟨by omega, by omega⟩, by rcases hpc01 with h | h <;> rw [h.1] <;> decide, ?_⟩
          have e5 : iF (NX b n) k p = if NX b n (iQ2 (NX b n) p) = 59 then -1 else (iQ2 (NX b n) p : Int) := by unfold iF; rw [uF, fst_yes]
          have f3 : FI m (m3.1, m3.2.1, va_up m3.2.2.1 10 (va_up (m3.2.2.1 10) i (m3.1 7)), m3.2.2.2) := FI_trans (FI_trans f2 (FI_fn u0)) ⟨rfl, rfl, fun _ _ _ _ _ => rfl, fun j _ _ h10 => va_ne _ _ h10⟩
          have k174 : ∀ hd : Int, hd = (itm (NX b n) p).1 → kwp (q_X12_readItem_J174 left (m3.1, m3.2.1, va_up m3.2.2.1 10 (va_up (m3.2.2.1 10) i (m3.1 7)), m3.2.2.2) (i : Int) hd) (fun r => itAns (NX b n) k p i m r.2 r.1) := by
            intro hd ehd
            unfold q_X12_readItem_J174
            simp only [kwp_kg, kwp_kl, Int.toNat_natCast]
            refine ⟨⟨by omega, by omega⟩, ?_⟩
            obtain ⟨m4, hm4⟩ : ∃ m4 : tZ12, m4 = (va_up m3.1 11 (m3.1 11 + 1), m3.2.1, va_up (va_up m3.2.2.1 10 (va_up (m3.2.2.1 10) i (m3.1 7))) 8 (va_up (va_up m3.2.2.1 10 (va_up (m3.2.2.1 10) i (m3.1 7)) 8) i hd), m3.2.2.2) := ⟨_, rfl⟩
            rw [← hm4]
            have f4 : FI m m4 := by
              rw [hm4]
              exact FI_trans f3 ⟨rfl, rfl, fun j _ _ _ h11 => va_ne _ _ h11, fun j h8 _ _ => va_ne _ _ h8⟩
            have v5 : m4.1 5 = (iQ2 (NX b n) p : Int) := by
              rw [hm4]
              dsimp only
              rw [va_ne _ _ (by decide)]
              exact u5
            have ea : m3.2.2.1 = va_up m.2.2.1 9 (va_up (m.2.2.1 9) i (iV1 (NX b n) p)) := by
              rw [u0.1, t0.1]
              dsimp only
              rw [g0.1, fa, g7]
              rfl
            refine w_kb (qm_takes (v := 59) hb (TB_fi hT f4) v5 hn hn0 (by omega) (by decide)) ?_
            rintro ⟨ok5, m5⟩ ⟨w0, w⟩
            dsimp only at w0 w ⊢
            rw [kwp_some]
            refine ⟨FI_trans f4 (FI_fn w0), ?_⟩
            rcases w with ⟨wF, rfl, w5, w6, w7⟩ | ⟨wF, rfl, w6⟩
            · rw [if_pos wF] at e5
              refine Or.inl ⟨e5, rfl, w5, ?_, ?_, ?_, ?_, ?_⟩
              · show m5.1 6 = m.1 6
                rw [w6, hm4]
                dsimp only
                rw [va_ne _ _ (by decide), u6, t6]
                rw [g6, f6]
              · show m5.1 11 = _
                rw [w0.2 11 (by decide) (by decide) (by decide), hm4]
                dsimp only
                rw [va_same, h11']
                rfl
              · show m5.2.2.1 8 = _
                rw [w0.1, hm4]
                dsimp only
                rw [va_same, va_ne _ _ (by decide), ea, va_ne _ _ (by decide), ehd]
              · show m5.2.2.1 9 = _
                rw [w0.1, hm4]
                dsimp only
                rw [va_ne _ _ (by decide), va_ne _ _ (by decide), ea, va_same]
                rfl
              · show m5.2.2.1 10 = _
                rw [w0.1, hm4]
                dsimp only
                rw [va_ne _ _ (by decide), va_same, ea, va_ne _ _ (by decide), u7]
                rfl
            · rw [if_neg wF] at e5
              exact Or.inr ⟨by rw [e5]; omega, rfl, w6.trans e5.symm⟩
          rw [h11']
          refine ⟨fun q => k174 _ ?_, fun q => k174 _ ?_⟩
          · unfold itm
            rcases hpc01 with h | h
            · rw [if_neg h.2]
            · omega
          · unfold itm
            rcases hpc01 with h | h
            · omega
            · rw [if_pos h.2]
        · refine ⟨fun _ => ?_, fun q => (q (by trivial)).elim⟩
          rw [kwp_some]
          have e5 : iF (NX b n) k p = iF4 (NX b n) k p := by unfold iF; rw [fst_no uF]
          exact ⟨FI_trans f2 (FI_fn u0), Or.inr ⟨by rw [e5]; exact uF, rfl, u6.trans e5.symm⟩⟩
      · refine ⟨fun _ => ?_, fun q => (q (by trivial)).elim⟩
        rw [kwp_some]
        rw [if_neg tF] at e3
        have e5 : iF (NX b n) k p = iF3 (NX b n) k p := by unfold iF iF4; rw [fst_no (f := iF3 (NX b n) k p) (by rw [e3]; omega), fst_no (f := iF3 (NX b n) k p) (by rw [e3]; omega)]
        exact ⟨FI_trans f1 (FI_fn t0), Or.inr ⟨by rw [e5, e3]; omega, rfl, by rw [e5, e3]; exact t6⟩⟩
    · refine ⟨fun _ => ?_, fun q => (q (by trivial)).elim⟩
      rw [kwp_some]
      have e5 : iF (NX b n) k p = iF2 (NX b n) k p := by unfold iF iF4 iF3; rw [fst_no gF, fst_no gF, fst_no gF]
      exact ⟨FI_trans f0 (FI_fn g0), Or.inr ⟨by rw [e5]; exact gF, rfl, g6.trans e5.symm⟩⟩
  have k74 : ∀ m0 : tZ12, FI m m0 → m0.1 6 = m.1 6 → m0.1 5 = ((iP x p : Nat) : Int) → m0.1 11 = (i : Int) → m0.2.2.1 = m.2.2.1 → iF1 x k p = -1 → kwp (q_X12_readItem_J74 left m0 pc (iH x p)) (fun r => itAns x k p i m r.2 r.1) := by
    intro m0 f0 f6 f5 f11 fa hF1
    unfold q_X12_readItem_J74
    simp only [kwp_kg, kwp_kl, kwp_kif]
    have f1 : FI m (va_up m0.1 5 (m0.1 5 + 1), m0.2) := FI_trans f0 ⟨rfl, rfl, fun j h5 _ _ _ => va_ne _ _ h5, fun _ _ _ _ => rfl⟩
    have := k94 (va_up m0.1 5 (m0.1 5 + 1), m0.2) f1 (by dsimp only; rw [va_ne _ _ (by decide)]; exact f6) (by dsimp only; rw [va_same, f5]; rfl) (by dsimp only; rw [va_ne _ _ (by decide)]; exact f11) fa hF1
    refine ⟨by rcases hpc01 with h | h <;> rw [h.1] <;> decide, fun q => ?_, fun q => ?_⟩
    · rw [show iFar x p = 100 by unfold iFar; rcases hpc01 with h | h; exact if_neg h.2; omega] at this
      exact this
    · rw [show iFar x p = 3 by unfold iFar; rcases hpc01 with h | h; omega; exact if_pos h.2] at this
      exact this
  have k34 : ∀ m0 : tZ12, FI m m0 → m0.1 6 = m.1 6 → m0.1 5 = ((iP x p : Nat) : Int) → m0.1 11 = (i : Int) → m0.2.2.1 = m.2.2.1 → kwp (q_X12_readItem_J34 left m0 pc (p : Int)) (fun r => itAns x k p i m r.2 r.1) := by
    intro m0 f0 f6 f5 f11 fa
    unfold q_X12_readItem_J34
    have hh : q_X12_here m0 = some (x (iP x p)) := by rw [hX]; rw [hX] at f5; exact qm_here (TB_fi hT f0) f5 hn hn0 (by omega)
    refine w_kbe hh ?_
    have hxx := hx (iP x p)
    rw [← hX] at hxx
    simp only [kwp_kl, kwp_kb]
    rw [show x (iP x p) - 97 = iH x p from rfl]
    have hH : k32 (iH x p) := by unfold iH; exact ⟨by omega, by omega⟩
    rw [qm_isHeap hH, kwp_some]
    unfold q_X12_fails
    simp only [kwp_kl, kwp_kb, kwp_kif, kwp_kg, kwp_some, kz_0, decide_eq_false_iff_not]
    have f1 : ∀ v : Int, FI m (va_up m0.1 6 v, m0.2) := fun v => FI_trans f0 ⟨rfl, rfl, fun j _ h6 _ _ => va_ne _ _ h6, fun _ _ _ _ => rfl⟩
    refine ⟨fun q => ?_, fun q => ⟨by rcases hpc01 with h | h <;> rw [h.1] <;> decide, fun q2 => ⟨hl2, fun q3 => ?_, fun q3 => ?_⟩, fun q2 => ?_⟩⟩
    · have e0 : iF0 x p = (iP x p : Int) := if_neg (by omega)
      have e5 : iF x k p = (iP x p : Int) := by unfold iF iF4 iF3 iF2 iF1; rw [e0]; simp only [fst_no (show ((iP x p : Nat) : Int) ≠ -1 by omega)]
      exact ⟨f1 _, Or.inr ⟨by rw [e5]; omega, rfl, by dsimp only; rw [va_same, f5, e5]⟩⟩
    · have e0 : iF0 x p = -1 := if_pos (by omega)
      have hnp : ¬ x p = 112 := by rcases hpc01 with h | h; exact h.2; omega
      have e1 : iF1 x k p = (p : Int) := by unfold iF1; rw [e0, fst_yes, if_pos ⟨hnp, hl.mp q3⟩]
      have e5 : iF x k p = (p : Int) := by unfold iF iF4 iF3 iF2; rw [e1]; simp only [fst_no (show ((p : Nat) : Int) ≠ -1 by omega)]
      exact ⟨f1 _, Or.inr ⟨by rw [e5]; omega, rfl, by dsimp only; rw [va_same, e5]⟩⟩
    · refine k74 m0 f0 f6 f5 f11 fa ?_
      unfold iF1 iF0
      rw [if_pos (by omega), fst_yes, if_neg (fun w => q3 (hl.mpr w.2))]
    · refine k74 m0 f0 f6 f5 f11 fa ?_
      have hnp : x p = 112 := by rcases hpc01 with h | h; omega; exact h.2
      unfold iF1 iF0
      rw [if_pos (by omega), fst_yes, if_neg (fun w => w.1 hnp)]
  unfold q_X12_readItem
  refine w_kbe (qm_here hT hp5 hn hn0 (by omega)) ?_
  have hxp := hx p
  simp only [kwp_kif, kwp_kg]
  unfold q_X12_readItem_J14
  simp only [kwp_kif, kwp_kg, kwp_kl]
  rw [← hX] at hxp ⊢
  refine ⟨⟨by omega, by omega⟩, fun q => ⟨by decide, fun w => absurd w (by decide), fun _ => ?_⟩, fun q => ⟨by decide, fun _ => ?_, fun w => (w (by trivial)).elim⟩⟩
  · rw [if_pos q] at hpc
    subst hpc
    rw [hp5]
    have eP : iP x p = p + 1 := if_pos q
    refine k34 _ ⟨rfl, rfl, fun j h5 _ _ _ => va_ne _ _ h5, fun _ _ _ _ => rfl⟩ (by dsimp only; rw [va_ne _ _ (by decide)]) (by dsimp only; rw [va_same, eP]; rfl) (by dsimp only; rw [va_ne _ _ (by decide)]; exact hi) rfl
  · rw [if_neg q] at hpc
    subst hpc
    have eP : iP x p = p := if_neg q
    rw [hp5]
    exact k34 m (FI_rfl m) rfl (by rw [eP]; exact hp5) hi rfl
