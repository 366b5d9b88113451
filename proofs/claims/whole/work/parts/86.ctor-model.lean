def i_X12 : tX12 := ((fun k => if k = 6 then (-1) else 0), (fun _ => 0), (fun _ _ => 0), (fun _ _ => 0))
set_option maxHeartbeats 4000000 in
set_option maxRecDepth 100000 in
theorem n_X12_init (l : Launch) (D : va_G) (g : kG) (a0 : Nat) : kMn l yX12_init cX12_init 1 1 19 5891 12 D (kty g) a0 [(a0, .inr (12, [.null, .null, .int 0, .null, .int 0, .int 0, .int 0, .int 0, .null, .null, .null, .int 0, .null, .null, .null, .int 0, .long 0, .long 0, .long 0, .long 0, .long 0, .long 0, .long 0, .long 0, .long 0, .long 0, .long 0, .long 0, .long 0, .long 0, .null, .null, .int 0, .null, .null, .null, .null, .int 0, .long 0, .long 0, .long 0, .null, .long 0, .long 0, .long 0, .long 0, .long 0, .int 0, .long 0, .long 0, .int 0, .null, .null, .int 0, .null, .int 0]))] (fun u => ∃ a : Nat → Nat, a 0 = a0 ∧ u = gX12 g a i_X12) := by
  sorry
