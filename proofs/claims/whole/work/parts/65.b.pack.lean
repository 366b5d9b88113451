/-! ===== couples, packed ===== -/
theorem tc_nat {n k : Nat} (hk : k < 32) : tc (n : Int) k = n.testBit k := by
  unfold tc
  show (BitVec.ofInt 32 (n : Int)).getLsbD k = _
  rw [BitVec.ofInt_natCast, BitVec.getLsbD_ofNat]
  simp [hk]
theorem tc_shlN {s : Nat} (hs : s < 32) (x : Int) (k : Nat) : tc (zshl32 x (zand32 (s : Int) 31)) k = (decide (k < 32) && !decide (k < s) && tc x (k - s)) := by
  unfold tc zshl32
  rw [z32, and31 s hs]
  show ((Int32.ofInt x).toBitVec <<< ((Int32.ofInt (s : Int)).toBitVec.smod 32)).getLsbD k = _
  rw [BitVec.getLsbD_shiftLeft', smod32 s hs]
theorem shr_div {s : Nat} (hs : s < 32) {x : Int} (hx : k32 x) : zshr32 x (zand32 (s : Int) 31) = x / 2 ^ s := by
  unfold zshr32
  rw [and31 s hs]
  show (BitVec.sshiftRight (Int32.ofInt x).toBitVec ((Int32.ofInt (s : Int)).toBitVec.smod 32).toNat).toInt = _
  rw [smod32 s hs, BitVec.toInt_sshiftRight, Int.shiftRight_eq_div_pow]
  have e : (Int32.ofInt x).toBitVec.toInt = x := t32 hx
  rw [e, Int.natCast_pow]
  rfl
theorem and_mod {n s : Nat} (hs : s < 31) (hn : n < 2147483648) : zand32 (n : Int) ((2 ^ s - 1 : Nat) : Int) = ((n % 2 ^ s : Nat) : Int) := by
  have p := Nat.mod_le n (2 ^ s)
  refine ext32 (k32_and _ _) ⟨by omega, by omega⟩ (fun k hk => ?_)
  rw [tc_and, tc_nat hk, tc_nat hk, tc_nat hk, Nat.testBit_mod_two_pow, Nat.testBit_two_pow_sub_one, Bool.and_comm]
theorem or_add {a b s : Nat} (hs : s < 31) (ha : a * 2 ^ s + 2 ^ s ≤ 2147483648) (hb : b < 2 ^ s) : zor32 (zshl32 (a : Int) (zand32 (s : Int) 31)) (b : Int) = ((a * 2 ^ s + b : Nat) : Int) := by
  refine ext32 (k32_or _ _) ⟨by omega, by omega⟩ (fun k hk => ?_)
  rw [tc_or, tc_shlN (by omega), tc_nat hk, tc_nat hk, tc_nat (by omega), show a * 2 ^ s + b = 2 ^ s * a + b by rw [Nat.mul_comm], Nat.testBit_two_pow_mul_add a hb]
  by_cases q : k < s
  · rw [if_pos q]
    simp [q]
  · rw [if_neg q]
    have : b.testBit k = false := Nat.testBit_lt_two_pow (Nat.lt_of_lt_of_le hb (Nat.pow_le_pow_right (by decide) (by omega)))
    simp [q, hk, this]
def kyN (d i j : Nat) : Nat := (d * 64 + i) * 64 + j
theorem ky_pack {d i j : Nat} (hd : d ≤ 300000) (hi : i < 64) (hj : j < 64) : zor32 (zshl32 (zor32 (zshl32 (d : Int) (zand32 6 31)) (i : Int)) (zand32 6 31)) (j : Int) = (kyN d i j : Int) := by
  have e1 := or_add (a := d) (b := i) (s := 6) (by decide) (by omega) (by omega)
  have e2 := or_add (a := d * 64 + i) (b := j) (s := 6) (by decide) (by omega) (by omega)
  rw [show ((6 : Nat) : Int) = 6 from rfl, show (2 : Nat) ^ 6 = 64 from rfl] at e1 e2
  rw [e1, e2]
  rfl
theorem ky_un {d i j : Nat} (hd : d ≤ 300000) (hi : i < 64) (hj : j < 64) : zshr32 (kyN d i j : Int) (zand32 12 31) = (d : Int) ∧ zand32 (zshr32 (kyN d i j : Int) (zand32 6 31)) 63 = (i : Int) ∧ zand32 (kyN d i j : Int) 63 = (j : Int) := by
  have b : kyN d i j = (d * 64 + i) * 64 + j := rfl
  have k : k32 (kyN d i j : Int) := ⟨by omega, by omega⟩
  have e1 := shr_div (s := 12) (by decide) k
  have e2 := shr_div (s := 6) (by decide) k
  rw [show ((12 : Nat) : Int) = 12 from rfl, show (2 : Int) ^ 12 = 4096 from rfl] at e1
  rw [show ((6 : Nat) : Int) = 6 from rfl, show (2 : Int) ^ 6 = 64 from rfl] at e2
  have e3 := and_mod (n := kyN d i j) (s := 6) (by decide) (by omega)
  have e4 := and_mod (n := d * 64 + i) (s := 6) (by decide) (by omega)
  rw [show ((2 ^ 6 - 1 : Nat) : Int) = 63 from rfl, show (2 : Nat) ^ 6 = 64 from rfl] at e3 e4
  refine ⟨by rw [e1]; omega, ?_, by rw [e3]; omega⟩
  rw [e2, show (kyN d i j : Int) / 64 = ((d * 64 + i : Nat) : Int) by omega, e4]
  omega
