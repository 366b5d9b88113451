/-! ===== the model's gcd, any signs ===== -/
theorem qm_common2 {a b : Int} (ha : a.natAbs ≤ 1000) (hb : b.natAbs ≤ 1000) (h0 : Int.gcd a b ≠ 0) : q_X12_common a b = some (Int.gcd a b : Int) := by
  refine w_eq ?_
  have key : ∀ x y : Int, 0 ≤ x → 0 ≤ y → x ≤ 1000 → y ≤ 1000 → Int.gcd x y = Int.gcd a b → kwp (q_X12_common_J26 a b x y) (fun x => x = (Int.gcd a b : Int)) := by
    intro x y hx hy hx2 hy2 hgx
    unfold q_X12_common_J26
    refine w_kb (P := fun e => e.1 = 53 ∧ e.2.1 = (Int.gcd a b : Int) ∧ 0 ≤ e.2.1 ∧ e.2.1 < 9223372036854775808) ?_ (fun e h => ?_)
    · refine w_loop (fun n s => ∃ t, hv n t s.1 s.2 ∧ 0 ≤ s.1 ∧ 0 ≤ s.2 ∧ s.1 < 9223372036854775808 ∧ s.2 < 9223372036854775808 ∧ (0 < t → s.2 ≤ s.1) ∧ Int.gcd s.1 s.2 = Int.gcd a b) ?_ kF 200 _ (by decide)
        ⟨0, hv_start (by dsimp only; omega) (by dsimp only; omega), hx, by dsimp only; omega, by dsimp only; omega, by dsimp only; omega, by omega, hgx⟩
      rintro n ⟨x, y⟩ ⟨t, h1, h3, h4, h5, h6, h7, h8⟩
      dsimp only at *
      have ht := hv_lt h1
      unfold q_X12_common_L28
      simp only [kwp_kg, kwp_kif, kwp_some, kwp_kl]
      refine ⟨⟨by omega, by omega⟩, fun hy => ?_, fun hy => ⟨hy, ⟨by omega, by omega⟩, ?_⟩⟩
      · right
        refine ⟨by decide, by trivial, ?_, h3, h5⟩
        subst hy
        rw [Int.gcd_zero_right] at h8
        omega
      · left
        have hy0 : 0 < y := by omega
        have e := tmod_eq (b := y) h3
        rw [e]
        have m0 := Int.emod_nonneg x hy
        have m1 := Int.emod_lt_of_pos x hy0
        refine ⟨by trivial, n - 1, by omega, t + 1, hv_step h1 m1 h6 (fun q => half_mod hy0 (h7 q)) m0, by omega, m0, by omega, by omega, fun _ => by omega, by rw [gcd_mod]; exact h8⟩
    · simp only [kwp_kg, kwp_kif, kwp_some]
      refine ⟨h.1, ⟨by omega, by omega⟩, fun q => by omega, fun _ => h.2.1⟩
  have n1 : Int.gcd (-a) b = Int.gcd a b := Int.neg_gcd
  have n2 : Int.gcd a (-b) = Int.gcd a b := Int.gcd_neg
  have n3 : Int.gcd (-a) (-b) = Int.gcd a b := by rw [Int.gcd_neg, Int.neg_gcd]
  unfold q_X12_common
  simp only [kwp_kg, kwp_kif]
  refine ⟨⟨by omega, by omega⟩, fun h => ?_, fun h => ?_⟩
  · unfold q_X12_common_J12
    simp only [kwp_kg, kwp_kif]
    exact ⟨⟨by omega, by omega⟩, fun h2 => key a b h h2 (by omega) (by omega) rfl, fun h2 => key a (-b) h (by omega) (by omega) (by omega) n2⟩
  · unfold q_X12_common_J12
    simp only [kwp_kg, kwp_kif]
    exact ⟨⟨by omega, by omega⟩, fun h2 => key (-a) b (by omega) h2 (by omega) (by omega) n1, fun h2 => key (-a) (-b) (by omega) (by omega) (by omega) (by omega) n3⟩
