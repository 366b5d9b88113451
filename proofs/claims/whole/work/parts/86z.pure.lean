/-! ===== the law, pure, from new objects ===== -/
def zi_X4 : tZ4 := ((fun k => if 80 ≤ k ∧ k < 120 then -1 else 0), (fun _ => 0), (fun _ _ => 0), 19, 0)
def zi_X9 : tZ9 := ((fun _ => 0), 0, 0, (-1))
def zi_X10 : tZ10 := ((fun _ => 0), 0)
def zi_X12 : tZ12 := ((fun k => if k = 6 then (-1) else 0), (fun _ => 0), (fun _ _ => 0), (fun _ _ => 0))
theorem zi_rel : REL zi_X4 zi_X9 zi_X10 zi_X12 := by
  have r0 : ∀ k, ¬ (80 ≤ k ∧ k < 120) → zi_X4.1 k = 0 := fun k h => if_neg h
  have r1 : ∀ k, k < 40 → zi_X4.1 (80 + k) = -1 := fun k h => if_pos ⟨by omega, by omega⟩
  have m0 : ∀ j, j ≠ 6 → zi_X12.1 j = 0 := fun j h => if_neg h
  have m6 : zi_X12.1 6 = -1 := rfl
  refine ⟨⟨⟨⟨fun k hk => Or.inl (r1 k hk), fun h hh => ?_, ?_⟩, fun k hk => Or.inl ⟨r1 k hk, rfl⟩, fun h hh => ⟨?_, ?_⟩, ?_⟩, ⟨m0 2 (by decide), by decide, by decide, by decide, by decide, fun i hi => ?_⟩⟩, ⟨?_, ?_, ?_, fun i hi => ?_, ?_, ?_⟩, ⟨?_, ?_, ?_, fun i hi => ?_⟩⟩
  · rw [r0 (120 + h) (by omega), r0 (124 + h) (by omega)]
    decide
  · rw [r0 128 (by omega)]
    decide
  · rw [r0 (120 + h) (by omega)]
    rfl
  · rw [r0 (124 + h) (by omega)]
    rfl
  · rw [r0 128 (by omega)]
    rfl
  · have : (i : Int) < 0 := hi
    omega
  · rw [m0 4 (by decide)]
    rfl
  · rw [m0 4 (by decide)]
    decide
  · rw [m0 4 (by decide)]
    decide
  · rw [m0 4 (by decide)] at hi
    omega
  · rw [m6]
    rfl
  · rw [m6]
    decide
  · rw [m0 55 (by decide)]
    rfl
  · rw [m0 55 (by decide)]
    decide
  · rw [m0 55 (by decide)]
    decide
  · rw [m0 55 (by decide)] at hi
    omega
theorem cF_if (p : Nat → Prop) [DecidablePred p] : cF (fun k => if p k then -1 else 0) = fun k => if p k then -1 else 0 := by
  funext k
  show Int32.ofInt (if p k then -1 else 0) = if p k then -1 else 0
  by_cases h : p k
  · rw [if_pos h, if_pos h]
    rfl
  · rw [if_neg h, if_neg h]
    rfl
theorem xs_cF (xs : Nat → Int32) : xs = cF (fun k => (xs k).toInt) := by
  funext k
  unfold cF
  rw [Int32.ofInt_toInt]
theorem law_pure (L : Nat) (xs : Nat → Int32) (hL : L ≤ 3072) : p_L_law L xs i_X11 i_X4 i_X9 i_X8 i_X8 i_X0 i_X0 i_X5 i_X5 i_X6 i_X8 i_X5 i_X1 i_X7 i_X2 i_X0 i_X10 i_X3 i_X3 i_X12 0 = some () := by
  have h4 : i_X4 = cX4 zi_X4 := by
    unfold i_X4 cX4 zi_X4
    rw [cF_if (fun k => 80 ≤ k ∧ k < 120)]
    rfl
  have h12 : i_X12 = cX12 zi_X12 := by
    unfold i_X12 cX12 zi_X12
    rw [cF_if (fun k => k = 6)]
    rfl
  exact m_L_law (L := L) (xs := fun k => (xs k).toInt) (zP1 := fun _ => 0) (zP1_0 := zi_X4) (zP1_1 := zi_X9) (zP1_2 := ((fun _ => 0), (fun _ => 0), (fun _ => 0), 0)) (zP1_3 := ((fun _ => 0), (fun _ => 0), (fun _ => 0), 0)) (zP1_4 := (0, 0, 1, 0, 0, (fun _ => 0), 0, (fun _ => 0), 0)) (zP1_5 := (0, 0, 1, 0, 0, (fun _ => 0), 0, (fun _ => 0), 0))
    (zP1_6 := ((fun _ => 0), (fun _ => 0), (fun _ => 0), 0)) (zP1_7 := ((fun _ => 0), (fun _ => 0), (fun _ => 0), 0)) (zP1_8 := fun _ => 0) (zP1_8_0 := ((fun _ => 0), (fun _ => 0), (fun _ => 0), 0)) (zP1_8_1 := ((fun _ => 0), (fun _ => 0), (fun _ => 0), 0)) (zP1_9 := ((fun _ => 0), 0)) (zP1_10 := (0, 0, 0, 0, 0, 0, 0, 0, 0, 0))
    (zP1_11 := ((fun _ => 0), (fun _ => 0), (fun _ => 0), (fun _ => 0), 0, 0)) (zP1_11_0 := (0, 0, 1, 0, 0, (fun _ => 0), 0, (fun _ => 0), 0)) (zP1_12 := zi_X10) (zP1_13 := (0, 1)) (zP1_14 := (0, 1)) (zP2 := zi_X12) (v3 := 0)
    (xs_cF xs) rfl h4 rfl rfl rfl rfl rfl rfl rfl rfl rfl rfl rfl rfl rfl rfl rfl rfl rfl h12 rfl () (law_q hL (fun k => ⟨by have := (xs k).le_toInt; omega, by have := (xs k).toInt_lt; omega⟩) zi_rel)
