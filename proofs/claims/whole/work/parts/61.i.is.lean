/-! ===== is: the bits of a mask ===== -/
theorem land_split {a b c d : Nat} (ha : a < 256) (hc : c < 256) : (a + 256 * b) &&& (c + 256 * d) = (a &&& c) + 256 * (b &&& d) := by
  have hx : a &&& c < 2 ^ 8 := Nat.lt_of_le_of_lt Nat.and_le_left ha
  rw [Nat.add_comm a, Nat.add_comm c, Nat.add_comm (a &&& c), show (256 : Nat) = 2 ^ 8 from rfl]
  refine Nat.eq_of_testBit_eq (fun i => ?_)
  rw [Nat.testBit_and, Nat.testBit_two_pow_mul_add _ ha, Nat.testBit_two_pow_mul_add _ hc, Nat.testBit_two_pow_mul_add _ hx]
  split
  · rw [Nat.testBit_and]
  · rw [Nat.testBit_and]
def mkB (c : Nat) : Nat → Nat
  | 0 => 0
  | n + 1 => c + 256 * mkB c n
def sm (f : Nat → Nat) : Nat → Nat → Nat
  | 0, _ => 0
  | n + 1, x => f (x % 256) + 256 * sm f n (x / 256)
def pg1 (a : Nat) : Nat := a - (a / 2 &&& 85)
def pg2 (y : Nat) : Nat := (y &&& 51) + (y / 4 &&& 51)
def pg3 (y : Nat) : Nat := (y + y / 16) &&& 15
theorem pgT1 : ∀ a : Fin 256, ∀ t : Fin 2, (a.val / 2 + 128 * t.val) &&& 85 = a.val / 2 &&& 85 := by decide +kernel
theorem pgT2 : ∀ a : Fin 256, ∀ t : Fin 4, (pg1 a.val / 4 + 64 * t.val) &&& 51 = pg1 a.val / 4 &&& 51 := by decide +kernel
theorem pgT3 : ∀ a : Fin 256, ∀ t : Fin 5, (pg2 (pg1 a.val) + pg2 (pg1 a.val) / 16 + 16 * t.val) &&& 15 = pg3 (pg2 (pg1 a.val)) ∧ pg2 (pg1 a.val) + pg2 (pg1 a.val) / 16 + 16 * t.val < 256 ∧ pg2 (pg1 a.val) % 16 < 5 ∧ pg2 (pg1 a.val) < 256 ∧ pg1 a.val < 256 ∧ pg3 (pg2 (pg1 a.val)) ≤ 8 := by decide +kernel
theorem pgA : ∀ n x, x < 256 ^ n → x - (x / 2 &&& mkB 85 n) = sm pg1 n x := by
  intro n
  induction n with
  | zero => intro x h; unfold sm; omega
  | succ n ih =>
    intro x h
    have i := ih (x / 256) (by rw [Nat.pow_succ] at h; omega)
    have ha : x % 256 < 256 := Nat.mod_lt _ (by decide)
    have t := pgT1 ⟨x % 256, ha⟩ ⟨x / 256 % 2, Nat.mod_lt _ (by decide)⟩
    dsimp only at t
    have e : x / 2 = (x % 256 / 2 + 128 * (x / 256 % 2)) + 256 * (x / 256 / 2) := by omega
    unfold sm mkB
    rw [e, land_split (by omega) (by decide), t, ← i]
    have l1 : x % 256 / 2 &&& 85 ≤ x % 256 / 2 := Nat.and_le_left
    have l2 : x / 256 / 2 &&& mkB 85 n ≤ x / 256 / 2 := Nat.and_le_left
    unfold pg1
    omega
theorem pgB : ∀ n x, (sm pg1 n x &&& mkB 51 n) + (sm pg1 n x / 4 &&& mkB 51 n) = sm (fun a => pg2 (pg1 a)) n x := by
  intro n
  induction n with
  | zero => intro x; unfold sm mkB; decide
  | succ n ih =>
    intro x
    have i := ih (x / 256)
    have ha : x % 256 < 256 := Nat.mod_lt _ (by decide)
    have q := pgT3 ⟨x % 256, ha⟩ 0
    have t := pgT2 ⟨x % 256, ha⟩ ⟨sm pg1 n (x / 256) % 4, Nat.mod_lt _ (by decide)⟩
    dsimp only at t q
    unfold sm mkB
    generalize sm pg1 n (x / 256) = y at i t ⊢
    rw [← i]
    generalize hb : pg1 (x % 256) = b at t q ⊢
    have e : (b + 256 * y) / 4 = (b / 4 + 64 * (y % 4)) + 256 * (y / 4) := by omega
    rw [e, land_split (by omega) (by decide), land_split (by omega) (by decide), t]
    unfold pg2
    omega
theorem pgC : ∀ n x, (sm (fun a => pg2 (pg1 a)) n x + sm (fun a => pg2 (pg1 a)) n x / 16) &&& mkB 15 n = sm (fun a => pg3 (pg2 (pg1 a))) n x ∧ sm (fun a => pg2 (pg1 a)) n x % 16 < 5 := by
  intro n
  induction n with
  | zero => intro x; unfold sm mkB; decide
  | succ n ih =>
    intro x
    obtain ⟨i, i2⟩ := ih (x / 256)
    have ha : x % 256 < 256 := Nat.mod_lt _ (by decide)
    unfold sm mkB
    generalize sm (fun a => pg2 (pg1 a)) n (x / 256) = y at i i2 ⊢
    have q := pgT3 ⟨x % 256, ha⟩ ⟨y % 16, i2⟩
    dsimp only at q ⊢
    rw [← i]
    generalize hb : pg2 (pg1 (x % 256)) = b at q ⊢
    have e : b + 256 * y + (b + 256 * y) / 16 = (b + b / 16 + 16 * (y % 16)) + 256 * (y + y / 16) := by omega
    refine ⟨?_, by omega⟩
    rw [e, land_split q.2.1 (by decide), q.1]
def pc (a : Nat) : Nat := pg3 (pg2 (pg1 a))
theorem sm_pc : ∀ n x, x < 256 ^ n → ∀ m, n ≤ m → sm pc m x = sm pc n x := by
  intro n
  induction n with
  | zero =>
    intro x h m _
    have : x = 0 := by omega
    subst this
    induction m with
    | zero => rfl
    | succ m ih =>
      unfold sm
      rw [show 0 / 256 = 0 from rfl, ih (by omega)]
      rfl
  | succ n ih =>
    intro x h m hm
    obtain ⟨k, rfl⟩ : ∃ k, m = k + 1 := ⟨m - 1, by omega⟩
    unfold sm
    rw [ih (x / 256) (by rw [Nat.pow_succ] at h; omega) k (by omega)]
def swar (x : Nat) : Nat :=
  let y1 := x - (x / 2 &&& 6148914691236517205)
  let y2 := (y1 &&& 3689348814741910323) + (y1 / 4 &&& 3689348814741910323)
  (y2 + y2 / 16) &&& 1085102592571150095
theorem swar_eq {x : Nat} (h : x < 2 ^ 40) : swar x = sm pc 5 x ∧ x / 2 &&& 6148914691236517205 ≤ x := by
  have a := pgA 8 x (by omega)
  have b := pgB 8 x
  have c := (pgC 8 x).1
  have l : x / 2 &&& 6148914691236517205 ≤ x / 2 := Nat.and_le_left
  refine ⟨?_, by omega⟩
  rw [← sm_pc 5 x h 8 (by decide)]
  unfold swar
  rw [show mkB 85 8 = 6148914691236517205 from rfl] at a
  rw [show mkB 51 8 = 3689348814741910323 from rfl] at b
  rw [show mkB 15 8 = 1085102592571150095 from rfl] at c
  rw [a]
  dsimp only
  rw [b]
  exact c
theorem pcT : ∀ a : Fin 256, pc a.val ≤ 8 ∧ pc a.val = (a.val.testBit 0).toNat + (a.val.testBit 1).toNat + (a.val.testBit 2).toNat + (a.val.testBit 3).toNat + (a.val.testBit 4).toNat + (a.val.testBit 5).toNat + (a.val.testBit 6).toNat + (a.val.testBit 7).toNat := by decide +kernel

theorem i64_and (a b : Int64) : (a &&& b).toBitVec.toNat = a.toBitVec.toNat &&& b.toBitVec.toNat := rfl
theorem i64_add (a b : Int64) : (a + b).toBitVec.toNat = (a.toBitVec.toNat + b.toBitVec.toNat) % 2 ^ 64 := by
  rw [Int64.toBitVec_add, BitVec.toNat_add]
theorem i64_sub (a b : Int64) (h : b.toBitVec.toNat ≤ a.toBitVec.toNat) : (a - b).toBitVec.toNat = a.toBitVec.toNat - b.toBitVec.toNat := by
  rw [Int64.toBitVec_sub, BitVec.toNat_sub]
  have := a.toBitVec.isLt
  have := b.toBitVec.isLt
  omega
theorem i64_shr (a : Int64) (c : UInt64) (h : c.toNat < 64) : (a.toUInt64 >>> c).toInt64.toBitVec.toNat = a.toBitVec.toNat / 2 ^ c.toNat := by
  show ((a.toUInt64 >>> c).toNat) = _
  rw [UInt64.toNat_shiftRight, Nat.mod_eq_of_lt h, Nat.shiftRight_eq_div_pow]
  rfl
def pop64 (v0 : Int64) : Int32 :=
  let y1 := v0 - ((v0.toUInt64 >>> ((1 : Int32).toInt64.toUInt64 &&& Int64.toUInt64 63)).toInt64 &&& (6148914691236517205 : Int64))
  let y2 := (y1 &&& (3689348814741910323 : Int64)) + ((y1.toUInt64 >>> ((2 : Int32).toInt64.toUInt64 &&& Int64.toUInt64 63)).toInt64 &&& (3689348814741910323 : Int64))
  let y3 := (y2 + (y2.toUInt64 >>> ((4 : Int32).toInt64.toUInt64 &&& Int64.toUInt64 63)).toInt64) &&& (1085102592571150095 : Int64)
  let y4 := y3 + (y3.toUInt64 >>> ((8 : Int32).toInt64.toUInt64 &&& Int64.toUInt64 63)).toInt64
  let y5 := y4 + (y4.toUInt64 >>> ((16 : Int32).toInt64.toUInt64 &&& Int64.toUInt64 63)).toInt64
  let y6 := y5 + (y5.toUInt64 >>> ((32 : Int32).toInt64.toUInt64 &&& Int64.toUInt64 63)).toInt64
  y6.toInt32 &&& (127 : Int32)
theorem p_le : ∀ a : Fin 256, pg1 a.val ≤ 170 ∧ pg2 (pg1 a.val) ≤ 68 := by decide +kernel
theorem sm_le {f : Nat → Nat} {b : Nat} (hf : ∀ a, a < 256 → f a ≤ b) : ∀ n x, sm f n x ≤ b * mkB 1 n := by
  intro n
  induction n with
  | zero => intro x; exact Nat.zero_le _
  | succ n ih =>
    intro x
    have := ih (x / 256)
    have := hf (x % 256) (Nat.mod_lt _ (by decide))
    unfold sm mkB
    rw [Nat.mul_add, Nat.mul_one, Nat.mul_left_comm]
    omega
theorem sm_5 (f : Nat → Nat) (x : Nat) : sm f 5 x = f (x % 256) + 256 * (f (x / 256 % 256) + 256 * (f (x / 256 / 256 % 256) + 256 * (f (x / 256 / 256 / 256 % 256) + 256 * (f (x / 256 / 256 / 256 / 256 % 256) + 256 * 0)))) := rfl
theorem sum5 {c0 c1 c2 c3 c4 y3 y4 y5 y6 : Nat} (q0 : c0 ≤ 8) (q1 : c1 ≤ 8) (q2 : c2 ≤ 8) (q3 : c3 ≤ 8) (q4 : c4 ≤ 8)
    (e3 : y3 = c0 + 256 * (c1 + 256 * (c2 + 256 * (c3 + 256 * (c4 + 256 * 0))))) (e4 : y4 = (y3 + y3 / 256) % 2 ^ 64) (e5 : y5 = (y4 + y4 / 65536) % 2 ^ 64) (e6 : y6 = (y5 + y5 / 4294967296) % 2 ^ 64) :
    y6 % 2 ^ 32 % 2 ^ 7 = c0 + c1 + c2 + c3 + c4 := by
  have f3 : y3 / 256 = c1 + 256 * (c2 + 256 * (c3 + 256 * c4)) := by omega
  have f4 : y4 = (c0 + c1) + 256 * ((c1 + c2) + 256 * ((c2 + c3) + 256 * ((c3 + c4) + 256 * c4))) := by rw [e4, f3, e3]; clear e4 e5 e6 f3 e3; omega
  clear e4 f3 e3
  have g4 : y4 / 65536 = (c2 + c3) + 256 * ((c3 + c4) + 256 * c4) := by clear e5 e6; omega
  have f5 : y5 = (c0 + c1 + c2 + c3) + 256 * ((c1 + c2 + c3 + c4) + 256 * ((c2 + c3 + c4) + 256 * ((c3 + c4) + 256 * c4))) := by rw [e5, g4, f4]; clear e5 e6 g4 f4; omega
  clear e5 g4 f4
  have g5 : y5 / 4294967296 = c4 := by clear e6; omega
  have f6 : y6 = (c0 + c1 + c2 + c3 + c4) + 256 * ((c1 + c2 + c3 + c4) + 256 * ((c2 + c3 + c4) + 256 * ((c3 + c4) + 256 * c4))) := by rw [e6, g5, f5]; clear e6 g5 f5; omega
  rw [f6]
  clear e6 g5 f5 f6
  omega
theorem pop64_eq {v : Int64} (h : v.toBitVec.toNat < 2 ^ 40) : (pop64 v).toBitVec.toNat = pc (v.toBitVec.toNat % 256) + pc (v.toBitVec.toNat / 256 % 256) + pc (v.toBitVec.toNat / 256 / 256 % 256) + pc (v.toBitVec.toNat / 256 / 256 / 256 % 256) + pc (v.toBitVec.toNat / 256 / 256 / 256 / 256 % 256) := by
  unfold pop64
  extract_lets y1 y2 y3 y4 y5 y6
  obtain ⟨s1, s2⟩ := swar_eq h
  have sa := pgA 8 _ (show v.toBitVec.toNat < 256 ^ 8 by omega)
  have sb := pgB 8 v.toBitVec.toNat
  have sc := (pgC 8 v.toBitVec.toNat).1
  rw [show mkB 85 8 = 6148914691236517205 from rfl] at sa
  rw [show mkB 51 8 = 3689348814741910323 from rfl] at sb
  have e1 : y1.toBitVec.toNat = sm pg1 8 v.toBitVec.toNat := by
    rw [← sa]
    exact (i64_sub _ _ (by rw [i64_and, i64_shr _ _ (by decide)]; exact s2)).trans (by rw [i64_and, i64_shr _ _ (by decide)]; rfl)
  have l2 := sm_le (f := fun a => pg2 (pg1 a)) (b := 68) (fun a ha => (p_le ⟨a, ha⟩).2) 8 v.toBitVec.toNat
  rw [show mkB 1 8 = 72340172838076673 from rfl] at l2
  have e2 : y2.toBitVec.toNat = sm (fun a => pg2 (pg1 a)) 8 v.toBitVec.toNat := by
    rw [← sb] at l2 ⊢
    refine (i64_add _ _).trans ?_
    rw [i64_and, i64_and, i64_shr _ _ (by decide), e1]
    exact Nat.mod_eq_of_lt (show _ < 2 ^ 64 by exact Nat.lt_of_le_of_lt l2 (by decide))
  have e3 : y3.toBitVec.toNat = sm pc 5 v.toBitVec.toNat := by
    rw [← sm_pc 5 _ h 8 (by decide)]
    refine Eq.trans ?_ sc
    refine (i64_and _ _).trans ?_
    rw [i64_add, i64_shr _ _ (by decide), e2]
    show (sm (fun a => pg2 (pg1 a)) 8 v.toBitVec.toNat + sm (fun a => pg2 (pg1 a)) 8 v.toBitVec.toNat / 16) % 2 ^ 64 &&& 1085102592571150095 = _
    rw [Nat.mod_eq_of_lt (by omega)]
    rfl
  rw [sm_5] at e3
  have q := fun a : Nat => fun ha : a < 256 => (pcT ⟨a, ha⟩).1
  have q0 := q (v.toBitVec.toNat % 256) (Nat.mod_lt _ (by decide))
  have q1 := q (v.toBitVec.toNat / 256 % 256) (Nat.mod_lt _ (by decide))
  have q2 := q (v.toBitVec.toNat / 256 / 256 % 256) (Nat.mod_lt _ (by decide))
  have q3 := q (v.toBitVec.toNat / 256 / 256 / 256 % 256) (Nat.mod_lt _ (by decide))
  have q4 := q (v.toBitVec.toNat / 256 / 256 / 256 / 256 % 256) (Nat.mod_lt _ (by decide))
  dsimp only at q0 q1 q2 q3 q4
  generalize pc (v.toBitVec.toNat % 256) = c0 at *
  generalize pc (v.toBitVec.toNat / 256 % 256) = c1 at *
  generalize pc (v.toBitVec.toNat / 256 / 256 % 256) = c2 at *
  generalize pc (v.toBitVec.toNat / 256 / 256 / 256 % 256) = c3 at *
  generalize pc (v.toBitVec.toNat / 256 / 256 / 256 / 256 % 256) = c4 at *
  have e4 : y4.toBitVec.toNat = (y3.toBitVec.toNat + y3.toBitVec.toNat / 256) % 2 ^ 64 := (i64_add _ _).trans (by rw [i64_shr _ _ (by decide)]; rfl)
  have e5 : y5.toBitVec.toNat = (y4.toBitVec.toNat + y4.toBitVec.toNat / 65536) % 2 ^ 64 := (i64_add _ _).trans (by rw [i64_shr _ _ (by decide)]; rfl)
  have e6 : y6.toBitVec.toNat = (y5.toBitVec.toNat + y5.toBitVec.toNat / 4294967296) % 2 ^ 64 := (i64_add _ _).trans (by rw [i64_shr _ _ (by decide)]; rfl)
  have e7 : (y6.toInt32 &&& (127 : Int32)).toBitVec.toNat = y6.toBitVec.toNat % 2 ^ 32 &&& 127 := by
    show (y6.toBitVec.signExtend 32).toNat &&& 127 = _
    rw [BitVec.signExtend_eq_setWidth_of_le _ (by decide), BitVec.toNat_setWidth]
  rw [e7, show (127 : Nat) = 2 ^ 7 - 1 from rfl, Nat.and_two_pow_sub_one_eq_mod]
  exact sum5 q0 q1 q2 q3 q4 e3 e4 e5 e6
/-- a bit of a byte -/
theorem bt_byte (x i j : Nat) (hj : j < 8) : (x / 256 ^ i % 256).testBit j = x.testBit (8 * i + j) := by
  rw [show (256 : Nat) = 2 ^ 8 from rfl, Nat.testBit_mod_two_pow, decide_eq_true hj, Bool.true_and, ← Nat.pow_mul, Nat.testBit_div_two_pow, Nat.add_comm]
theorem pc_eq {x i : Nat} {P : Nat → Bool} (h : ∀ j, j < 8 → x.testBit (8 * i + j) = P (8 * i + j)) : pc (x / 256 ^ i % 256) + cntU P (8 * i) = cntU P (8 * i + 8) := by
  have t := (pcT ⟨x / 256 ^ i % 256, Nat.mod_lt _ (by decide)⟩).2
  dsimp only at t
  rw [t, bt_byte x i 0 (by decide), bt_byte x i 1 (by decide), bt_byte x i 2 (by decide), bt_byte x i 3 (by decide), bt_byte x i 4 (by decide), bt_byte x i 5 (by decide), bt_byte x i 6 (by decide), bt_byte x i 7 (by decide), h 0 (by decide), h 1 (by decide), h 2 (by decide), h 3 (by decide), h 4 (by decide), h 5 (by decide), h 6 (by decide), h 7 (by decide)]
  have b : ∀ b : Bool, b.toNat = if b = true then 1 else 0 := by decide
  simp only [b]
  rw [Nat.add_zero]
  show _ = cntU P (8 * i) + _ + _ + _ + _ + _ + _ + _ + _
  omega
theorem pop_cnt {v : Int64} {P : Nat → Bool} (h : v.toBitVec.toNat < 2 ^ 40) (hp : ∀ j, j < 40 → v.toBitVec.getLsbD j = P j) : (pop64 v).toBitVec.toNat = cntU P 40 := by
  rw [pop64_eq h]
  have hb : ∀ i, i < 5 → ∀ j, j < 8 → v.toBitVec.toNat.testBit (8 * i + j) = P (8 * i + j) := fun i hi j hj => hp _ (by omega)
  have p0 := pc_eq (hb 0 (by decide))
  have p1 := pc_eq (hb 1 (by decide))
  have p2 := pc_eq (hb 2 (by decide))
  have p3 := pc_eq (hb 3 (by decide))
  have p4 := pc_eq (hb 4 (by decide))
  generalize v.toBitVec.toNat = x at *
  have z : cntU P 0 = 0 := rfl
  simp only [Nat.reduceMul, Nat.reduceAdd, Nat.pow_zero, Nat.div_one, Nat.reducePow, z] at p0 p1 p2 p3 p4
  rw [show x / 256 / 256 = x / 65536 by omega, show x / 65536 / 256 = x / 16777216 by omega, show x / 16777216 / 256 = x / 4294967296 by omega]
  omega
theorem q_pop {x : Int} {P : Nat → Bool} (hp : ∀ k, tb x k = (decide (k < 40) && P k)) : q_J13_bitCount_95d88 x = some (cntU P 40 : Int) := by
  have lt : (Int64.ofInt x).toBitVec.toNat < 2 ^ 40 := Nat.lt_pow_two_of_testBit _ (fun i hi => by
    have := hp i
    rw [decide_eq_false (by omega), Bool.false_and] at this
    exact this)
  have e := pop_cnt (P := P) lt (fun j hj => by
    have := hp j
    rw [decide_eq_true hj, Bool.true_and] at this
    exact this)
  have c := cntU_le P 40
  show some ((pop64 (Int64.ofInt x)).toBitVec.toInt) = _
  rw [BitVec.toInt_eq_toNat_of_lt (by omega), e]
theorem sb_15 : ∀ h : Fin 4, sb 15 (h.val : Int) = 1 := by decide +kernel
theorem sb_one : ∀ w h : Fin 4, sb (zshl32 1 (zand32 (w.val : Int) 31)) (h.val : Int) = 1 ↔ h = w := by decide +kernel
/-- a POINT counts with v: any heap, or heap v -/
def cpP (r : Nat → Int) (v : Int) (k : Nat) : Bool := lv r k && decide (v = -1 ∨ r (80 + k) = v)
theorem cpP_t {r : Nat → Int} {v : Int} {k : Nat} : cpP r v k = true ↔ r (80 + k) ≠ -1 ∧ (v = -1 ∨ r (80 + k) = v) := by
  unfold cpP
  rw [Bool.and_eq_true, lv_t, decide_eq_true_iff]
theorem qm_countPoints {m : tZ12} {r : Nat → Int} (H : HR r (m.2.2.1 0)) {v : Int} (hv : k32 v) : q_X12_countPoints m v = some (cntU (cpP r v) 40 : Int) := by
  refine w_eq ?_
  unfold q_X12_countPoints
  refine w_kb (w_for (ex := 54) (by decide) (fun i (s : Int × Int) => s.2 = (i : Int) ∧ s.1 = (cntU (cpP r v) i : Int)) 40 ?_ ?_ (Nat.zero_le _) (by decide) ⟨rfl, rfl⟩) ?_
  · rintro i ⟨c, s⟩ hi ⟨rfl, rfl⟩
    have e : cntU (cpP r v) (i + 1) = cntU (cpP r v) i + if cpP r v i = true then 1 else 0 := rfl
    unfold q_X12_countPoints_L4
    simp only [kwp_kb, kwp_some, kwp_kg, kwp_kif, kwp_kl]
    have g0 : ((0 : Int) + (i : Int)).toNat = i := by omega
    have g1 : ((120 : Int) + (i : Int)).toNat = 120 + i := by omega
    rw [g0, g1]
    have hh := H.2.1 i hi
    have hk := VR_k H.1 hi
    have ka : k32 (m.2.2.1 0 i) := by
      rcases hh with h | h
      · rw [h.2]; decide
      · rw [h.2.1]; decide
    refine ⟨⟨by omega, by omega⟩, fun q => by omega, fun _ => ⟨⟨by omega, by omega⟩, ka, fun q => ⟨hv, fun q2 => ⟨by trivial, by omega, ?_⟩, fun q2 => ?_⟩, fun q => ⟨by trivial, by omega, ?_⟩⟩⟩
    · rcases hh with h | h
      · omega
      · rw [e, if_pos (cpP_t.mpr ⟨h.1, Or.inl q2⟩)]
        omega
    · rcases hh with h | h
      · omega
      · rw [h.2.2.2.2]
        refine ⟨⟨by omega, by omega⟩, hk, fun q3 => ⟨by trivial, by omega, ?_⟩, fun q3 => ⟨by trivial, by omega, ?_⟩⟩
        · rw [e, if_pos (cpP_t.mpr ⟨h.1, Or.inr q3⟩)]
          omega
        · rw [e, if_neg (fun w => by have := cpP_t.mp w; omega)]
          omega
    · rcases hh with h | h
      · rw [e, if_neg (fun w => (cpP_t.mp w).1 h.1)]
        omega
      · exact absurd h.2.1 q
  · rintro ⟨c, s⟩ ⟨rfl, h⟩
    dsimp only at h
    unfold q_X12_countPoints_L4
    simp only [kwp_kb, kwp_some, kwp_kg, kwp_kif, kwp_kl]
    exact ⟨⟨by omega, by omega⟩, fun _ => ⟨by trivial, by trivial, h⟩, fun q => by omega⟩
  · rintro ⟨lb, c, s⟩ ⟨h0, _, h⟩
    dsimp only at *
    simp only [kwp_kg, kwp_some]
    exact ⟨h0, h⟩
theorem inS_15 {r : Nat → Int} (H : VR r) {k : Nat} (hk : k < 40) : inS r 15 k = cpP r (-1) k := by
  unfold inS cpP
  rw [decide_eq_true (show (-1 : Int) = -1 ∨ r (80 + k) = -1 from Or.inl rfl)]
  rcases H.1 k hk with h | h
  · rw [show lv r k = false from decide_eq_false (fun w => w h)]
    rfl
  · have := sb_15 ⟨(r (80 + k)).toNat, by omega⟩
    dsimp only at this
    rw [show (((r (80 + k)).toNat : Nat) : Int) = r (80 + k) by omega] at this
    rw [decide_eq_true this]
theorem inS_one {r : Nat → Int} (H : VR r) {k : Nat} (hk : k < 40) {w : Int} (hw : 0 ≤ w ∧ w < 4) : inS r (zshl32 1 (zand32 w 31)) k = cpP r w k := by
  unfold inS cpP
  rcases H.1 k hk with h | h
  · rw [show lv r k = false from decide_eq_false (fun w => w h)]
    rfl
  · have := sb_one ⟨w.toNat, by omega⟩ ⟨(r (80 + k)).toNat, by omega⟩
    dsimp only at this
    rw [show (((r (80 + k)).toNat : Nat) : Int) = r (80 + k) by omega, show ((w.toNat : Nat) : Int) = w by omega, Fin.mk.injEq] at this
    refine congrArg _ (decide_eq_decide.mpr (this.trans ?_))
    omega
theorem q_popB {z4 : tZ4} (H : VR z4.1) {set v : Int} (h : ∀ k, k < 40 → inS z4.1 set k = cpP z4.1 v k) : kwp (q_X4_bits z4 set) (fun b => kwp (q_J13_bitCount_95d88 b) (fun x => x = (cntU (cpP z4.1 v) 40 : Int))) :=
  w_mono (q_bits H set) (fun b hb => by
    rw [q_pop (P := cpP z4.1 v) (fun k => by
      rw [hb.2 k]
      by_cases e : k < 40
      · rw [h k e]
      · rw [decide_eq_false e, Bool.false_and, Bool.false_and]), kwp_some])
theorem T_is {z11 : tZ11} {z4 : tZ4} {z9 : tZ9} {z10 : tZ10} {m : tZ12} (H : REL z4 z9 z10 m) {w : Int} (hw : k32 w) : kwp (q_X11_is z11 z4 z9 w) (fun r => kwp (q_X12_is m w) (fun r' => r = r' ∧ k32 r)) := by
  have hH := H.1.1
  have hK := H.1.2
  have hT := H.2.1
  obtain ⟨v, hv⟩ : ∃ v : Int, v = if w = 0 then (cntU (cpP z4.1 (-1)) 40 : Int) else if w = 1 then z4.1 128 else if w = 2 then z4.2.2.2.2 else if w = 3 then z9.2.1 else if w < 4 then -1 else if 8 ≤ w then -1 else (cntU (cpP z4.1 (w - 4)) 40 : Int) := ⟨_, rfl⟩
  have kv : k32 v := by
    have c1 := cntU_le (cpP z4.1 (-1)) 40
    have c2 := cntU_le (cpP z4.1 (w - 4)) 40
    have c3 := hH.1.2.2
    have c4 := hK.2
    have c5 := hT.2
    have c6 := hT.1
    have c7 := hK.1
    rw [hv]
    split
    · exact ⟨by omega, by omega⟩
    · split
      · exact ⟨by omega, by omega⟩
      · split
        · exact ⟨by omega, by omega⟩
        · split
          · exact ⟨by omega, by omega⟩
          · split
            · decide
            · split
              · decide
              · exact ⟨by omega, by omega⟩
  have h1 : kwp (q_X11_is z11 z4 z9 w) (fun r => r = v) := by
    unfold q_X11_is
    simp only [kwp_kg, kwp_kif, kwp_kb, kwp_some]
    refine ⟨hw, fun q => ?_, fun q => ⟨fun q1 => ?_, fun q1 => ⟨fun q2 => ?_, fun q2 => ⟨fun q3 => ?_, fun q3 => ⟨fun q4 => ?_, fun q4 => ⟨fun q5 => ?_, fun q5 => ?_⟩⟩⟩⟩⟩⟩
    · rw [hv, if_pos q]
      exact q_popB hH.1 (fun k hk => inS_15 hH.1 hk)
    · rw [hv, if_neg q, if_pos q1, q_now, kwp_some]
    · rw [hv, if_neg q, if_neg q1, if_pos q2]
      exact w_of rfl rfl
    · rw [hv, if_neg q, if_neg q1, if_neg q2, if_pos q3]
      exact w_of rfl rfl
    · rw [hv, if_neg q, if_neg q1, if_neg q2, if_neg q3, if_pos q4]
    · rw [hv, if_neg q, if_neg q1, if_neg q2, if_neg q3, if_neg q4, if_pos q5]
    · rw [hv, if_neg q, if_neg q1, if_neg q2, if_neg q3, if_neg q4, if_neg q5]
      exact q_popB hH.1 (fun k hk => inS_one hH.1 hk ⟨by omega, by omega⟩)
  have h2 : kwp (q_X12_is m w) (fun r => r = v) := by
    unfold q_X12_is q_X12_is_J73
    simp only [kwp_kg, kwp_kif, kwp_kb, kwp_some]
    have J : ∀ u : Int, w = u → 4 ≤ u → u < 8 → kwp (q_X12_countPoints m (w - 4)) (fun r => r = v) := fun u e h4 h8 => by
      rw [qm_countPoints hH ⟨by omega, by omega⟩, kwp_some, hv, if_neg (by omega), if_neg (by omega), if_neg (by omega), if_neg (by omega), if_neg (by omega), if_neg (by omega)]
    refine ⟨hw, fun q => ?_, fun q => ⟨fun q1 => ⟨by decide, ?_⟩, fun q1 => ⟨fun q2 => ?_, fun q2 => ⟨fun q3 => ?_, fun q3 => ⟨fun q4 => J 4 q4 (by decide) (by decide), fun q4 => ⟨fun q5 => J 5 q5 (by decide) (by decide), fun q5 => ⟨fun q6 => J 6 q6 (by decide) (by decide), fun q6 => ⟨fun q7 => J 7 q7 (by decide) (by decide), fun q7 => ?_⟩⟩⟩⟩⟩⟩⟩⟩
    · rw [qm_countPoints hH (by decide), kwp_some, hv, if_pos q]
    · rw [hv, if_neg q, if_pos q1]
      exact hH.2.2.2
    · rw [hv, if_neg q, if_neg q1, if_pos q2]
      exact hK.1
    · rw [hv, if_neg q, if_neg q1, if_neg q2, if_pos q3]
      exact hT.1.symm
    · rw [hv, if_neg q, if_neg q1, if_neg q2, if_neg q3]
      split
      · rfl
      · rw [if_pos (by omega)]
  exact w_mono h1 (fun r e => w_mono h2 (fun r' e' => ⟨by rw [e, e'], by rw [e]; exact kv⟩))
