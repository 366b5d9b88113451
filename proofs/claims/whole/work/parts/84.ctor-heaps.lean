def i_X4 : tX4 := ((fun k => if 80 ≤ k ∧ k < 120 then -1 else 0), (fun _ => 0), (fun _ _ => 0), 19, 0)
theorem n_X4_init (l : Launch) (D : va_G) (g : kG) (a0 : Nat) : kMn l yX4_init cX4_init 2 1 23 2858 12 D (kty g) a0 [(a0, .inr (4, [.null, .null, .null, .int 0, .int 0]))] (fun u => ∃ a : Nat → Nat, a 0 = a0 ∧ u = gX4 g a i_X4) := by
  sorry
