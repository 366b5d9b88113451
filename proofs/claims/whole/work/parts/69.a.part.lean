/-! ===== two: parts as numbers ===== -/
def anN (a b : Nat) : Nat := a &&& (4095 ^^^ b)
theorem bit4095 (k : Nat) : (4095 : Nat).testBit k = decide (k < 12) := Nat.testBit_two_pow_sub_one 12 k
theorem bit_hi {a k : Nat} (ha : a < 4096) (hk : 12 ≤ k) : a.testBit k = false := Nat.testBit_lt_two_pow (Nat.lt_of_lt_of_le ha (Nat.pow_le_pow_right (n := 2) (by decide) hk))
theorem anN_bit {a b : Nat} (ha : a < 4096) (k : Nat) : (anN a b).testBit k = (a.testBit k && !b.testBit k) := by
  unfold anN
  rw [Nat.testBit_and, Nat.testBit_xor, bit4095]
  by_cases h : k < 12
  · simp [h]
  · rw [bit_hi ha (by omega)]
    rfl
theorem anN_lt {a b : Nat} (ha : a < 4096) : anN a b < 4096 := Nat.lt_of_le_of_lt Nat.and_le_left ha
theorem or_lt {a b : Nat} (ha : a < 4096) (hb : b < 4096) : a ||| b < 4096 := Nat.or_lt_two_pow (n := 12) ha hb
theorem zor_N {a b : Nat} (ha : a < 4096) (hb : b < 4096) : zor32 (a : Int) (b : Int) = ((a ||| b : Nat) : Int) := by
  have := or_lt ha hb
  refine ext32 (k32_or _ _) ⟨by omega, by omega⟩ (fun k hk => ?_)
  rw [tc_or, tc_nat hk, tc_nat hk, tc_nat hk, Nat.testBit_or]
theorem zandn_N {a b : Nat} (ha : a < 4096) : zand32 (a : Int) (zxor32 (b : Int) (-1)) = ((anN a b : Nat) : Int) := by
  have := anN_lt (b := b) ha
  refine ext32 (k32_and _ _) ⟨by omega, by omega⟩ (fun k hk => ?_)
  rw [tc_and, tc_not, tc_nat hk, tc_nat hk, tc_nat hk, anN_bit ha, decide_eq_true hk, Bool.true_and]
theorem sub_le {a b : Nat} (h : ∀ k, a.testBit k = true → b.testBit k = true) : a ≤ b := by
  have e : a &&& b = a := Nat.eq_of_testBit_eq (fun k => by
    rw [Nat.testBit_and]
    cases q : a.testBit k with
    | false => rfl
    | true => rw [h k q]; rfl)
  rw [← e]
  exact Nat.and_le_right
theorem anN_0 {a b : Nat} (ha : a < 4096) : anN a b = 0 ↔ ∀ k, a.testBit k = true → b.testBit k = true := by
  constructor
  · intro h k hk
    have := anN_bit (b := b) ha k
    rw [h, Nat.zero_testBit, hk] at this
    cases q : b.testBit k with
    | true => rfl
    | false => rw [q] at this; exact absurd this (by decide)
  · intro h
    refine Nat.eq_of_testBit_eq (fun k => ?_)
    rw [anN_bit ha, Nat.zero_testBit]
    cases q : a.testBit k with
    | false => rfl
    | true => rw [h k q]; rfl
def alN (l : List Spt) : Nat := 2 ^ l.length - 1
theorem alN_bit (l : List Spt) (k : Nat) : (alN l).testBit k = decide (k < l.length) := Nat.testBit_two_pow_sub_one l.length k
theorem alN_lt {l : List Spt} (hl : l.length ≤ 12) : alN l < 4096 := by
  have b : 2 ^ l.length ≤ 2 ^ 12 := Nat.pow_le_pow_right (by decide) hl
  have c : 0 < 2 ^ l.length := Nat.pow_pos (by decide)
  unfold alN
  omega
def yN (A b : Nat) : Nat := anN A b ||| 1
theorem yN_bit {A b : Nat} (hA : A < 4096) (k : Nat) : (yN A b).testBit k = true ↔ (A.testBit k = true ∧ b.testBit k = false) ∨ k = 0 := by
  unfold yN
  rw [Nat.testBit_or, anN_bit hA, Bool.or_eq_true, Bool.and_eq_true, Bool.not_eq_true', show (1 : Nat).testBit k = decide (k = 0) from by
    rw [show (1 : Nat) = 2 ^ 0 from rfl, Nat.testBit_two_pow]
    rw [decide_eq_decide]
    omega, decide_eq_true_iff]
def pbN (A a b : Nat) : Nat := if anN (yN A b) a = 0 ∧ yN A b ≠ A then yN A b else 0
theorem yN_lt {A b : Nat} (hA : A < 4096) : yN A b < 4096 := or_lt (anN_lt hA) (by decide)
theorem yN_pos {A b : Nat} (hA : A < 4096) : yN A b ≠ 0 := fun e => by
  have := (yN_bit (b := b) hA 0).mpr (Or.inr rfl)
  rw [e, Nat.zero_testBit] at this
  exact absurd this (by decide)
/-- a part Q: in a, the rest in b, the least such -/
theorem pbN_ok {A a b Q : Nat} (hA : A < 4096) (hQ : Q ≠ 0) (h : Q = pbN A a b) : Q = yN A b ∧ Q ≠ A ∧ Q < 4096 ∧ ∀ k, Q.testBit k = true → a.testBit k = true := by
  unfold pbN at h
  by_cases q : anN (yN A b) a = 0 ∧ yN A b ≠ A
  · rw [if_pos q] at h
    rw [h]
    exact ⟨rfl, q.2, yN_lt hA, (anN_0 (yN_lt hA)).mp q.1⟩
  · rw [if_neg q] at h
    exact absurd h hQ
theorem pbN_of {A a b P : Nat} (hA : A < 4096) (h1 : ∀ k, (yN A b).testBit k = true → P.testBit k = true) (h2 : ∀ k, P.testBit k = true → a.testBit k = true) (h3 : P < A) : pbN A a b = yN A b ∧ yN A b ≤ P := by
  have le := sub_le h1
  refine ⟨?_, le⟩
  unfold pbN
  rw [if_pos ⟨(anN_0 (yN_lt hA)).mpr (fun k hk => h2 k (h1 k hk)), by omega⟩]
theorem pbN_all {A a b : Nat} (hA : A < 4096) (ha : a < 4096) (hb : b < 4096) (sa : ∀ k, a.testBit k = true → A.testBit k = true) (sb : ∀ k, b.testBit k = true → A.testBit k = true) (h : pbN A a b ≠ 0) : a ||| b = A := by
  have o := pbN_ok hA h rfl
  refine Nat.eq_of_testBit_eq (fun k => ?_)
  rw [Nat.testBit_or, Bool.eq_iff_iff, Bool.or_eq_true]
  constructor
  · rintro (w | w)
    · exact sa k w
    · exact sb k w
  · intro w
    cases q : b.testBit k with
    | true => exact Or.inr rfl
    | false =>
      refine Or.inl (o.2.2.2 k ?_)
      rw [o.1, yN_bit hA]
      exact Or.inl ⟨w, q⟩
def lsN (p q : Nat) : Nat := if p = 0 then q else if q = 0 then p else min p q
/-- the least of some, 0: there are none -/
def MinV (V : Nat → Prop) (p : Nat) : Prop := (p = 0 ∧ ∀ Q, ¬ V Q) ∨ (p ≠ 0 ∧ V p ∧ ∀ Q, V Q → p ≤ Q)
theorem MinV_add {V W : Nat → Prop} {p x : Nat} (h : MinV V p) (hW : ∀ Q, W Q ↔ V Q ∨ (Q = x ∧ Q ≠ 0)) : MinV W (lsN p x) := by
  unfold lsN
  rcases h with ⟨e, no⟩ | ⟨e, h1, h2⟩
  · rw [if_pos e]
    by_cases z : x = 0
    · refine Or.inl ⟨z, fun Q w => ?_⟩
      rcases (hW Q).mp w with w | ⟨w, w2⟩
      · exact no Q w
      · omega
    · refine Or.inr ⟨z, (hW x).mpr (Or.inr ⟨rfl, z⟩), fun Q w => ?_⟩
      rcases (hW Q).mp w with w | ⟨w, w2⟩
      · exact absurd w (no Q)
      · omega
  · rw [if_neg e]
    by_cases z : x = 0
    · rw [if_pos z]
      refine Or.inr ⟨e, (hW p).mpr (Or.inl h1), fun Q w => ?_⟩
      rcases (hW Q).mp w with w | ⟨w, w2⟩
      · exact h2 Q w
      · omega
    · rw [if_neg z]
      refine Or.inr ⟨by omega, ?_, fun Q w => ?_⟩
      · by_cases q : p ≤ x
        · rw [show min p x = p by omega]
          exact (hW p).mpr (Or.inl h1)
        · rw [show min p x = x by omega]
          exact (hW x).mpr (Or.inr ⟨rfl, z⟩)
      · rcases (hW Q).mp w with w | ⟨w, w2⟩
        · have := h2 Q w
          omega
        · omega
theorem MinV_same {V W : Nat → Prop} {p : Nat} (h : MinV V p) (hW : ∀ Q, W Q ↔ V Q) : MinV W p := by
  rcases h with ⟨e, no⟩ | ⟨e, h1, h2⟩
  · exact Or.inl ⟨e, fun Q w => no Q ((hW Q).mp w)⟩
  · exact Or.inr ⟨e, (hW p).mpr h1, fun Q w => h2 Q ((hW Q).mp w)⟩
/-! ===== two: the least circles of parts ===== -/
theorem leR_min {X Y : Nat → Int} {M : Nat → Prop} {n : Nat} {C D : Cir} (h : mecOf X Y M n C) (hD : 0 < D.2.2.2) (hin : cIn X Y (fun q => q < n ∧ M q) D) : leR C D := by
  have e1 := h.2.2 D hD hin (fun q hq => hq.elim)
  have e2 := cE_nn h.1 hD e1
  have id := rN_cE C D
  have a := Int.mul_nonneg (Int.le_of_lt hD) (show 0 ≤ -cE C D by omega)
  have b := Int.mul_nonneg (Int.le_of_lt h.1) e2
  rw [Int.mul_neg] at a
  show rN C * (D.2.2.2 * D.2.2.2) ≤ rN D * (C.2.2.2 * C.2.2.2)
  omega
theorem leR_P {C D : Cir} (h : cP C D) : leR C D ∧ leR D C := by
  have := rN_P h
  show rN C * (D.2.2.2 * D.2.2.2) ≤ rN D * (C.2.2.2 * C.2.2.2) ∧ rN D * (C.2.2.2 * C.2.2.2) ≤ rN C * (D.2.2.2 * D.2.2.2)
  omega
abbrev mP (l : List Spt) (P : Nat) (C : Cir) : Prop := mecOf (lX l) (lY l) (fun q => P.testBit q = true) l.length C
/-- C is the greater circle of part P and the rest -/
def MX (l : List Spt) (P : Nat) (C : Cir) : Prop := ∃ C1 C2, mP l P C1 ∧ mP l (anN (alN l) P) C2 ∧ (C = C1 ∨ C = C2) ∧ leR C1 C ∧ leR C2 C
theorem MX_only {l : List Spt} {P : Nat} {C D : Cir} (h : MX l P C) (g : MX l P D) : leR C D ∧ leR D C := by
  obtain ⟨C1, C2, h1, h2, h3, h4, h5⟩ := h
  obtain ⟨D1, D2, g1, g2, g3, g4, g5⟩ := g
  have p1 := leR_P (mecOf_only h1 g1)
  have p2 := leR_P (mecOf_only h2 g2)
  have pC : 0 < C.2.2.2 := by
    rcases h3 with e | e
    · rw [e]; exact h1.1
    · rw [e]; exact h2.1
  have pD : 0 < D.2.2.2 := by
    rcases g3 with e | e
    · rw [e]; exact g1.1
    · rw [e]; exact g2.1
  constructor
  · rcases h3 with e | e
    · rw [e]; exact leR_tr h1.1 g1.1 pD p1.1 g4
    · rw [e]; exact leR_tr h2.1 g2.1 pD p2.1 g5
  · rcases g3 with e | e
    · rw [e]; exact leR_tr g1.1 h1.1 pC p1.2 h4
    · rw [e]; exact leR_tr g2.1 h2.1 pC p2.2 h5
def odP (l : List Spt) (P : Nat) : Prop := P.testBit 0 = true ∧ P < alN l
theorem MX_pos {l : List Spt} {P : Nat} {C : Cir} (h : MX l P C) : 0 < C.2.2.2 := by
  obtain ⟨C1, C2, h1, h2, h3, _⟩ := h
  rcases h3 with e | e
  · rw [e]; exact h1.1
  · rw [e]; exact h2.1
theorem odP_sub {l : List Spt} {P : Nat} (h : odP l P) : ∀ k, P.testBit k = true → k < l.length := fun k hk => by
  by_cases q : k < l.length
  · exact q
  · exfalso
    have : P.testBit k = false := Nat.testBit_lt_two_pow (Nat.lt_of_lt_of_le (Nat.lt_of_lt_of_le h.2 (Nat.sub_le _ _)) (Nat.pow_le_pow_right (by decide) (by omega)))
    rw [this] at hk
    exact absurd hk (by decide)
theorem odP_rest {l : List Spt} (hl : l.length ≤ 12) {P : Nat} (h : odP l P) : ∃ q, q < l.length ∧ P.testBit q = false := by
  refine Classical.byContradiction (fun w => ?_)
  have e : alN l ≤ P := sub_le (fun k hk => by
    rw [alN_bit] at hk
    have hk := of_decide_eq_true hk
    cases q : P.testBit k with
    | true => rfl
    | false => exact absurd ⟨k, hk, q⟩ w)
  have := h.2
  omega
theorem rest_bit {l : List Spt} (hl : l.length ≤ 12) {P : Nat} (k : Nat) : (anN (alN l) P).testBit k = true ↔ k < l.length ∧ P.testBit k = false := by
  rw [anN_bit (alN_lt hl), alN_bit, Bool.and_eq_true, decide_eq_true_iff, Bool.not_eq_true']
theorem MX_ex {l : List Spt} (hs : sorL l) (hl : l.length ≤ 12) {P : Nat} (h : odP l P) : ∃ C, MX l P C := by
  obtain ⟨q, hq, hq2⟩ := odP_rest hl h
  obtain ⟨C1, h1⟩ := mec_ex (M := fun q => P.testBit q = true) (dif_sor hs) l.length (Nat.le_refl _) ⟨0, odP_sub h 0 h.1, h.1⟩
  obtain ⟨C2, h2⟩ := mec_ex (M := fun q => (anN (alN l) P).testBit q = true) (dif_sor hs) l.length (Nat.le_refl _) ⟨q, hq, (rest_bit hl q).mpr ⟨hq, hq2⟩⟩
  rcases leR_tot C1 C2 with w | w
  · exact ⟨C2, C1, C2, mecOf_in0 h1, mecOf_in0 h2, Or.inr rfl, w, Int.le_refl _⟩
  · exact ⟨C1, C1, C2, mecOf_in0 h1, mecOf_in0 h2, Or.inl rfl, Int.le_refl _, w⟩
/-- the best part -/
def TW (l : List Spt) (P : Nat) : Prop := odP l P ∧ ∀ C, MX l P C → ∀ Q, odP l Q → ∀ D, MX l Q D → leR C D ∧ (leR D C → P ≤ Q)
theorem TW_only {l : List Spt} (hs : sorL l) (hl : l.length ≤ 12) {P Q : Nat} (h : TW l P) (g : TW l Q) : P = Q := by
  obtain ⟨C, hC⟩ := MX_ex hs hl h.1
  obtain ⟨D, hD⟩ := MX_ex hs hl g.1
  have a := h.2 C hC Q g.1 D hD
  have b := g.2 D hD P h.1 C hC
  have := a.2 b.1
  have := b.2 a.1
  omega
