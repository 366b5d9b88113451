/-! ===== the bits of a few ===== -/
def pcN (t : Nat) : Nat := cntU (fun k => t.testBit k) 12
theorem q_pcT : ∀ h : Fin 64, ∀ t : Fin 64, q_J6_bitCount_0f7a4 ((64 * h.val + t.val : Nat) : Int) = some (pcN (64 * h.val + t.val) : Int) := by decide +kernel
theorem qm_pcT : ∀ h : Fin 64, ∀ t : Fin 64, q_X12_bits ((64 * h.val + t.val : Nat) : Int) = some (pcN (64 * h.val + t.val) : Int) := by decide +kernel
theorem q_pc {t : Nat} (h : t < 4096) : q_J6_bitCount_0f7a4 (t : Int) = some (pcN t : Int) := by
  have := q_pcT ⟨t / 64, by omega⟩ ⟨t % 64, by omega⟩
  dsimp only at this
  rw [show 64 * (t / 64) + t % 64 = t by omega] at this
  exact this
theorem qm_pc {t : Nat} (h : t < 4096) : q_X12_bits (t : Int) = some (pcN t : Int) := by
  have := qm_pcT ⟨t / 64, by omega⟩ ⟨t % 64, by omega⟩
  dsimp only at this
  rw [show 64 * (t / 64) + t % 64 = t by omega] at this
  exact this
theorem pcN_le (t : Nat) : pcN t ≤ 12 := cntU_le _ 12
