/-! ===== bits ===== -/
theorem kz_t : ¬ (kz true = 0) := by decide
theorem kz_f : kz false = 0 := rfl
theorem kz_0 (b : Bool) : (kz b = 0) ↔ b = false := by cases b <;> decide
theorem kz_kz (a b : Bool) : (kz a = kz b) ↔ a = b := by cases a <;> cases b <;> decide
def tb (x : Int) (k : Nat) : Bool := (Int64.ofInt x).toBitVec.getLsbD k
def tc (x : Int) (k : Nat) : Bool := (Int32.ofInt x).toBitVec.getLsbD k
theorem and63 : ∀ i : Nat, i < 64 → zand64 (i : Int) 63 = (i : Int) := by decide +kernel
theorem smod64 : ∀ i : Nat, i < 64 → ((Int64.ofInt (i : Int)).toBitVec.smod 64).toNat = i := by decide +kernel
theorem and31 : ∀ i : Nat, i < 32 → zand32 (i : Int) 31 = (i : Int) := by decide +kernel
theorem smod32 : ∀ i : Nat, i < 32 → ((Int32.ofInt (i : Int)).toBitVec.smod 32).toNat = i := by decide +kernel
theorem one64 : (Int64.ofInt 1).toBitVec = 1#64 := by decide +kernel
theorem one32 : (Int32.ofInt 1).toBitVec = 1#32 := by decide +kernel
theorem z64 (x : Int64) : Int64.ofInt x.toInt = x := Int64.ofInt_toInt x
theorem z32 (x : Int32) : Int32.ofInt x.toInt = x := Int32.ofInt_toInt x
theorem tb_or (x y : Int) (k : Nat) : tb (zor64 x y) k = (tb x k || tb y k) := by
  unfold tb zor64
  rw [z64]
  exact BitVec.getLsbD_or
theorem tb_and (x y : Int) (k : Nat) : tb (zand64 x y) k = (tb x k && tb y k) := by
  unfold tb zand64
  rw [z64]
  exact BitVec.getLsbD_and
theorem tb_not (x : Int) (k : Nat) : tb (zxor64 x (-1)) k = (decide (k < 64) && !tb x k) := by
  unfold tb zxor64
  rw [z64, show (Int64.ofInt x ^^^ Int64.ofInt (-1)).toBitVec = (Int64.ofInt x).toBitVec ^^^ BitVec.allOnes 64 from by
    rw [show BitVec.allOnes 64 = (Int64.ofInt (-1)).toBitVec from by decide +kernel]
    rfl]
  rw [BitVec.getLsbD_xor, BitVec.getLsbD_allOnes]
  cases h : decide (k < 64) with
  | true => simp
  | false =>
    have : 64 ≤ k := by simpa using h
    rw [BitVec.getLsbD_of_ge _ _ this]
    rfl
theorem tb_big {x : Int} {k : Nat} (h : 64 ≤ k) : tb x k = false := BitVec.getLsbD_of_ge _ _ h
theorem tb_zero (k : Nat) : tb 0 k = false := by
  unfold tb
  rw [show (Int64.ofInt 0).toBitVec = 0#64 from by decide +kernel]
  exact BitVec.getLsbD_zero
theorem tb_shl {i : Nat} (hi : i < 64) (k : Nat) : tb (zshl64 1 (zand64 (i : Int) 63)) k = decide (k = i) := by
  unfold tb zshl64
  rw [z64, and63 i hi]
  show ((Int64.ofInt 1).toBitVec <<< ((Int64.ofInt (i : Int)).toBitVec.smod 64)).getLsbD k = _
  rw [BitVec.getLsbD_shiftLeft', smod64 i hi, one64, BitVec.getLsbD_one]
  by_cases h : k = i
  · subst h
    simp [hi]
  · by_cases h2 : k < i
    · simp [h2, h]
    · have : k - i ≠ 0 := by omega
      simp [this, h]
theorem ext64 {x y : Int} (hx : k64 x) (hy : k64 y) (h : ∀ k, k < 64 → tb x k = tb y k) : x = y := by
  have e : (Int64.ofInt x).toBitVec = (Int64.ofInt y).toBitVec := BitVec.eq_of_getLsbD_eq (fun i hi => h i hi)
  rw [← t64 hx, ← t64 hy, show Int64.ofInt x = Int64.ofInt y from Int64.toBitVec.inj e]
theorem zero64 {x : Int} (hx : k64 x) : x = 0 ↔ ∀ k, tb x k = false := by
  constructor
  · intro h k
    rw [h]
    exact tb_zero k
  · intro h
    exact ext64 hx (by decide) (fun k _ => by rw [h k, tb_zero])
theorem k64_and (x y : Int) : k64 (zand64 x y) := k64_to _
theorem k64_or (x y : Int) : k64 (zor64 x y) := k64_to _
theorem k64_xor (x y : Int) : k64 (zxor64 x y) := k64_to _
theorem k64_shl (x y : Int) : k64 (zshl64 x y) := k64_to _
theorem k64_shr (x y : Int) : k64 (zshr64 x y) := k64_to _
theorem and_zero (x y : Int) : zand64 x y = 0 ↔ ∀ k, (tb x k && tb y k) = false := by
  rw [zero64 (k64_and x y)]
  exact ⟨fun h k => by rw [← tb_and]; exact h k, fun h k => by rw [tb_and]; exact h k⟩
theorem tb_shr {x : Int} {i : Nat} (hi : i < 64) (k : Nat) (hk : k + i < 64) : tb (zshr64 x (zand64 (i : Int) 63)) k = tb x (i + k) := by
  unfold tb zshr64
  rw [z64, and63 i hi]
  show (BitVec.sshiftRight (Int64.ofInt x).toBitVec ((Int64.ofInt (i : Int)).toBitVec.smod 64).toNat).getLsbD k = _
  rw [smod64 i hi, BitVec.getLsbD_sshiftRight]
  have : ¬ 64 ≤ k := by omega
  have h2 : i + k < 64 := by omega
  simp [this, h2]
theorem and_one (x : Int) : zand64 x 1 = if tb x 0 then 1 else 0 := by
  have h1 : ∀ k, tb 1 k = decide (k = 0) := fun k => by
    unfold tb
    rw [one64, BitVec.getLsbD_one]
    simp
  refine ext64 (k64_and _ _) (by split <;> decide) (fun k _ => ?_)
  rw [tb_and, h1]
  by_cases hk : k = 0
  · subst hk
    cases h : tb x 0 with
    | true => rw [if_pos rfl, h1]; rfl
    | false => rw [if_neg (by decide), tb_zero]; rfl
  · cases h : tb x 0 with
    | true => rw [if_pos rfl, h1]; simp [hk]
    | false => rw [if_neg (by decide), tb_zero]; simp [hk]
theorem bit_at {x : Int} {i : Nat} (hi : i < 64) : zand64 (zshr64 x (zand64 (i : Int) 63)) 1 = if tb x i then 1 else 0 := by
  rw [and_one, tb_shr hi 0 (by omega), Nat.add_zero]
/-- the bit of a heap in a set -/
def sb (set h : Int) : Int := zand32 (zshr32 set (zand32 h 31)) 1
theorem tc_and (x y : Int) (k : Nat) : tc (zand32 x y) k = (tc x k && tc y k) := by
  unfold tc zand32
  rw [z32]
  exact BitVec.getLsbD_and
theorem tc_or (x y : Int) (k : Nat) : tc (zor32 x y) k = (tc x k || tc y k) := by
  unfold tc zor32
  rw [z32]
  exact BitVec.getLsbD_or
theorem tc_zero (k : Nat) : tc 0 k = false := by
  unfold tc
  rw [show (Int32.ofInt 0).toBitVec = 0#32 from by decide +kernel]
  exact BitVec.getLsbD_zero
theorem tc_big {x : Int} {k : Nat} (h : 32 ≤ k) : tc x k = false := BitVec.getLsbD_of_ge _ _ h
theorem tc_not (x : Int) (k : Nat) : tc (zxor32 x (-1)) k = (decide (k < 32) && !tc x k) := by
  unfold tc zxor32
  rw [z32, show (Int32.ofInt x ^^^ Int32.ofInt (-1)).toBitVec = (Int32.ofInt x).toBitVec ^^^ BitVec.allOnes 32 from by
    rw [show BitVec.allOnes 32 = (Int32.ofInt (-1)).toBitVec from by decide +kernel]
    rfl]
  rw [BitVec.getLsbD_xor, BitVec.getLsbD_allOnes]
  cases h : decide (k < 32) with
  | true => simp
  | false =>
    have : 32 ≤ k := by simpa using h
    rw [BitVec.getLsbD_of_ge _ _ this]
    rfl
theorem tc_shl {i : Nat} (hi : i < 32) (k : Nat) : tc (zshl32 1 (zand32 (i : Int) 31)) k = decide (k = i) := by
  unfold tc zshl32
  rw [z32, and31 i hi]
  show ((Int32.ofInt 1).toBitVec <<< ((Int32.ofInt (i : Int)).toBitVec.smod 32)).getLsbD k = _
  rw [BitVec.getLsbD_shiftLeft', smod32 i hi, one32, BitVec.getLsbD_one]
  by_cases h : k = i
  · subst h
    simp [hi]
  · by_cases h2 : k < i
    · simp [h2, h]
    · have : k - i ≠ 0 := by omega
      simp [this, h]
theorem ext32 {x y : Int} (hx : k32 x) (hy : k32 y) (h : ∀ k, k < 32 → tc x k = tc y k) : x = y := by
  have e : (Int32.ofInt x).toBitVec = (Int32.ofInt y).toBitVec := BitVec.eq_of_getLsbD_eq (fun i hi => h i hi)
  rw [← t32 hx, ← t32 hy, show Int32.ofInt x = Int32.ofInt y from Int32.toBitVec.inj e]
theorem k32_and (x y : Int) : k32 (zand32 x y) := k32_to _
theorem k32_or (x y : Int) : k32 (zor32 x y) := k32_to _
theorem k32_xor (x y : Int) : k32 (zxor32 x y) := k32_to _
theorem k32_shl (x y : Int) : k32 (zshl32 x y) := k32_to _
theorem k32_shr (x y : Int) : k32 (zshr32 x y) := k32_to _
theorem zero32 {x : Int} (hx : k32 x) : x = 0 ↔ ∀ k, tc x k = false := by
  constructor
  · intro h k
    rw [h]
    exact tc_zero k
  · intro h
    exact ext32 hx (by decide) (fun k _ => by rw [h k, tc_zero])
theorem and_one32 (x : Int) : zand32 x 1 = if tc x 0 then 1 else 0 := by
  have h1 : ∀ k, tc 1 k = decide (k = 0) := fun k => by
    unfold tc
    rw [one32, BitVec.getLsbD_one]
    simp
  refine ext32 (k32_and _ _) (by split <;> decide) (fun k _ => ?_)
  rw [tc_and, h1]
  by_cases hk : k = 0
  · subst hk
    cases h : tc x 0 with
    | true => rw [if_pos rfl, h1]; rfl
    | false => rw [if_neg (by decide), tc_zero]; rfl
  · cases h : tc x 0 with
    | true => rw [if_pos rfl, h1]; simp [hk]
    | false => rw [if_neg (by decide), tc_zero]; simp [hk]
theorem sb_01 (set h : Int) : sb set h = 0 ∨ sb set h = 1 := by
  unfold sb
  rw [and_one32]
  split
  · exact Or.inr rfl
  · exact Or.inl rfl
theorem q_isHeap {v : Int} (h : k32 v) : q_X11_isHeap v = some (decide (0 ≤ v ∧ v < 4)) := by
  refine w_eq ?_
  unfold q_X11_isHeap
  simp only [kwp_kg, kwp_kif, kwp_some]
  repeat' (first | refine And.intro ?_ ?_ | intro _)
  all_goals first | omega | exact (decide_eq_false (by omega)).symm | exact (decide_eq_true (by omega)).symm
theorem q_isSet {v : Int} (h : k32 v) : q_X11_isSet v = some (decide (1 ≤ v ∧ v < 16)) := by
  refine w_eq ?_
  unfold q_X11_isSet
  simp only [kwp_kg, kwp_kif, kwp_some]
  repeat' (first | refine And.intro ?_ ?_ | intro _)
  all_goals first | omega | exact (decide_eq_false (by omega)).symm | exact (decide_eq_true (by omega)).symm
theorem q_isNear {x y f : Int} (hx : k32 x) (hy : k32 y) (hf : 0 ≤ f ∧ f < 1000) : q_X11_isNear x y f = some (decide (-f ≤ x ∧ x ≤ f ∧ -f ≤ y ∧ y ≤ f)) := by
  refine w_eq ?_
  unfold q_X11_isNear
  simp only [kwp_kg, kwp_kif, kwp_some]
  repeat' (first | refine And.intro ?_ ?_ | intro _)
  all_goals first | omega | exact (decide_eq_false (by omega)).symm | exact (decide_eq_true (by omega)).symm
theorem qm_isIn {v a b : Int} (h : k32 v) (ha : k32 a) (hb : k32 b) : q_X12_isIn v a b = some (decide (a ≤ v ∧ v ≤ b)) := by
  refine w_eq ?_
  unfold q_X12_isIn
  simp only [kwp_kg, kwp_kif, kwp_some]
  repeat' (first | refine And.intro ?_ ?_ | intro _)
  all_goals first | omega | exact (decide_eq_false (by omega)).symm | exact (decide_eq_true (by omega)).symm
theorem qm_isHeap {v : Int} (h : k32 v) : q_X12_isHeap v = some (decide (0 ≤ v ∧ v ≤ 3)) := by
  unfold q_X12_isHeap
  rw [qm_isIn h (by decide) (by decide)]
  rfl
theorem qm_isPace {v : Int} (h : k32 v) : q_X12_isPace v = some (decide (-3 ≤ v ∧ v ≤ 3)) := by
  unfold q_X12_isPace
  rw [qm_isIn h (by decide) (by decide)]
  rfl
theorem qm_isSet {v : Int} (h : k32 v) : q_X12_isSet v = some (decide (1 ≤ v ∧ v ≤ 15)) := by
  unfold q_X12_isSet
  rw [qm_isIn h (by decide) (by decide)]
  rfl
theorem qm_isPlace {x y : Int} (hx : k32 x) (hy : k32 y) : q_X12_isPlace x y = some (decide (-100 ≤ x ∧ x ≤ 100 ∧ -100 ≤ y ∧ y ≤ 100)) := by
  refine w_eq ?_
  unfold q_X12_isPlace
  rw [qm_isIn hx (by decide) (by decide), qm_isIn hy (by decide) (by decide)]
  simp only [kwp_kb, kwp_some, kwp_kif, kz_0]
  repeat' (first | refine And.intro ?_ ?_ | intro _)
  all_goals simp only [decide_eq_false_iff_not, decide_eq_true_eq, Bool.not_eq_false] at *
  all_goals first | exact (decide_eq_false (by omega)).symm | exact (decide_eq_true (by omega)).symm
