/-! ===== the model's least circle about some SPOTS ===== -/
def tbM (set : Int) : Nat → Prop := fun q => tb set q = true
def mecOf (X Y : Nat → Int) (M : Nat → Prop) (n : Nat) (C : Cir) : Prop := 0 < C.2.2.2 ∧ cIn X Y (fun q => q < n ∧ M q) C ∧ cMin X Y (fun q => q < n ∧ M q) (fun _ => False) C
theorem mecOf_in0 {X Y : Nat → Int} {M : Nat → Prop} {n : Nat} {C : Cir} (h : in0 X Y M n C) : mecOf X Y M n C := ⟨h.1, h.2.1, in0_min h⟩
theorem mecOf_only {X Y : Nat → Int} {M : Nat → Prop} {n : Nat} {C D : Cir} (h1 : mecOf X Y M n C) (h2 : mecOf X Y M n D) : cP C D :=
  mec_only h1.1 h2.1 (h1.2.2 D h2.1 h2.2.1 (fun _ h => h.elim)) (h2.2.2 C h1.1 h1.2.1 (fun _ h => h.elim))
theorem mecOf_P {X Y : Nat → Int} {M : Nat → Prop} {n : Nat} {C D : Cir} (h : mecOf X Y M n C) (hD : 0 < D.2.2.2) (hp : cP C D) : mecOf X Y M n D := by
  refine ⟨hD, fun q hq => (cP_in h.1 hD hp).mpr (h.2.1 q hq), fun E hE h1 h2 => ?_⟩
  have e := h.2.2 E hE h1 h2
  obtain ⟨p1, p2, p3⟩ := hp
  have k : C.2.2.2 * C.2.2.2 * cE D E = D.2.2.2 * D.2.2.2 * cE C E := by
    unfold cE
    grind
  have m1 := Int.mul_pos hD hD
  have m2 := Int.mul_pos h.1 h.1
  have m3 := Int.mul_nonneg (Int.le_of_lt m1) (Int.neg_nonneg_of_nonpos e)
  rw [Int.mul_neg] at m3
  exact np_of_mul m2 (by omega)
theorem qm_lies {m : tZ12} {C : Cir} (h : MCs m.2.1 16 C) (x y : Int) : q_X12_lies m x y = some (pw C x y) := by
  obtain ⟨h1, _⟩ := h
  unfold q_X12_lies
  show some _ = _
  rw [h1, pw_cB]
  congr 1
  grind
theorem pw_k {C : Cir} {J : Nat → Int} {o : Nat} (h : MCs J o C) {x y : Int} (hx : x.natAbs ≤ 300) (hy : y.natAbs ≤ 300) : k64 (pw C x y) := by
  obtain ⟨h1, _, _, b1, b2, b3, b4, b5, b6⟩ := h
  rw [h1, pw_cB]
  have d1 : (x - J o).natAbs ≤ 460 := by omega
  have d2 : (y - J (o + 1)).natAbs ≤ 460 := by omega
  have s1 := ab_mul d1 d1
  have s2 := ab_mul d2 d2
  have s3 : ((x - J o) * (x - J o) + (y - J (o + 1)) * (y - J (o + 1))).natAbs ≤ 423200 := by omega
  have s4 := ab_mul (a := J (o + 4)) (A := 409600) (by omega) s3
  have s5 := ab_mul d1 b5
  have s6 := ab_mul d2 b6
  exact ⟨by omega, by omega⟩
theorem qm_holds {m : tZ12} {l : List Spt} {C : Cir} (H : SPm m l) (hb : bdL l) (h : MCs m.2.1 16 C) {i : Nat} (hi : i < l.length) : q_X12_holds m (i : Int) = some (decide (pw C (lX l i) (lY l i) ≤ 0)) := by
  refine w_eq ?_
  have b1 := bX hb hi
  obtain ⟨h1, h2, h3⟩ := H
  unfold q_X12_holds
  simp only [kwp_kg, kwp_kb, Int.toNat_natCast]
  rw [(h3 i hi).1, (h3 i hi).2.1]
  have e1 : (g8 l i).1 = lX l i := rfl
  have e2 : (g8 l i).2.1 = lY l i := rfl
  rw [e1, e2, qm_lies h, kwp_some]
  simp only [kwp_kg, kwp_kif, kwp_some]
  refine ⟨⟨by omega, by omega⟩, ⟨⟨by omega, by omega⟩, ⟨by omega, by omega⟩⟩, pw_k h (by omega) (by omega), fun q => (decide_eq_false (by omega)).symm, fun q => (decide_eq_true (by omega)).symm⟩
theorem qm_has {set : Int} {i : Nat} (hi : i < 64) : q_X12_has set (i : Int) = some (tb set i) := by
  refine w_eq ?_
  unfold q_X12_has
  simp only [kwp_kg, kwp_kif, kwp_some]
  rw [bit_at hi]
  refine ⟨⟨by omega, by omega⟩, fun q => ?_, fun q => ?_⟩
  · cases h : tb set i with
    | true => rfl
    | false => rw [h] at q; exact absurd q (by decide)
  · cases h : tb set i with
    | false => rfl
    | true => rw [h] at q; exact absurd rfl q
theorem qm_holdsAll {m : tZ12} {l : List Spt} {C : Cir} (H : SPm m l) (hb : bdL l) (h : MCs m.2.1 16 C) (set : Int) : kwp (q_X12_holdsAll m set) (fun b => b = true ↔ cIn (lX l) (lY l) (fun q => q < l.length ∧ tbM set q) C) := by
  have hl := H.2.1
  unfold q_X12_holdsAll
  refine w_kb (P := fun e => (e.1 = 26 ∧ ∃ i, i < l.length ∧ tb set i = true ∧ 0 < pw C (lX l i) (lY l i)) ∨ (e.1 = 34 ∧ ∀ i, i < l.length → tb set i = true → pw C (lX l i) (lY l i) ≤ 0)) ?_ ?_
  · refine w_loop (fun n s => ∃ i : Nat, n = l.length - i ∧ i ≤ l.length ∧ s = (i : Int) ∧ ∀ j, j < i → tb set j = true → pw C (lX l j) (lY l j) ≤ 0) ?_ kF l.length _ (by have := kF_eq; omega) ⟨0, rfl, Nat.zero_le _, rfl, fun j hj => absurd hj (Nat.not_lt_zero _)⟩
    rintro n s ⟨i, hn, hi, rfl, hj⟩
    unfold q_X12_holdsAll_L2
    simp only [kwp_kg, kwp_kif, kwp_some, kwp_kb, kwp_kl]
    rw [H.1]
    refine ⟨⟨⟨by omega, by omega⟩, ⟨by omega, by omega⟩⟩, fun q => Or.inr ⟨by decide, Or.inr ⟨by trivial, fun j hj1 hj2 => hj j (by omega) hj2⟩⟩, fun q => ?_⟩
    have hi' : i < l.length := by omega
    rw [qm_has (by omega), kwp_some, qm_holds H hb h hi', kwp_some, kz_0, kz_0, decide_eq_false_iff_not]
    refine ⟨fun q1 => Or.inl ⟨by trivial, l.length - (i + 1), by omega, i + 1, rfl, hi', by omega, fun j hj1 hj2 => ?_⟩, fun q1 => ⟨fun q2 => Or.inr ⟨by decide, Or.inl ⟨by trivial, i, hi', by simpa using q1, by omega⟩⟩, fun q2 => Or.inl ⟨by trivial, l.length - (i + 1), by omega, i + 1, rfl, hi', by omega, fun j hj1 hj2 => ?_⟩⟩⟩
    · by_cases e : j = i
      · rw [e] at hj2
        rw [hj2] at q1
        cases q1
      · exact hj j (by omega) hj2
    · by_cases e : j = i
      · rw [e]
        exact Decidable.not_not.mp q2
      · exact hj j (by omega) hj2
  · rintro ⟨lb, s⟩ h
    dsimp only at h
    simp only [kwp_kg, kwp_kif, kwp_some]
    rcases h with ⟨rfl, i, i1, i2, i3⟩ | ⟨rfl, h⟩
    · refine ⟨fun _ => ⟨fun q => (by cases q), fun q => ?_⟩, fun q => (q (by trivial)).elim⟩
      have := q i ⟨i1, i2⟩
      omega
    · exact ⟨fun q => absurd q (by decide), fun _ => ⟨by trivial, fun _ q hq => h q hq.1 hq.2, fun _ => (by first | exact trivial | rfl)⟩⟩
/-- the two farthest of some pairs -/
def far3 (X Y : Nat → Int) (S : Nat → Nat → Prop) (a b f : Int) : Prop :=
  (f = -1 ∧ ∀ p q, ¬ S p q) ∨ ∃ i j : Nat, a = (i : Int) ∧ b = (j : Int) ∧ S i j ∧ f = ds X Y i j ∧ ∀ p q, S p q → ds X Y p q ≤ f
theorem far3_take {X Y : Nat → Int} {S S' : Nat → Nat → Prop} {a b f : Int} {i j : Nat} (h : far3 X Y S a b f) (h1 : ∀ p q, S' p q → S p q ∨ (p = i ∧ q = j)) (h2 : S' i j) (h3 : f < ds X Y i j) : far3 X Y S' (i : Int) (j : Int) (ds X Y i j) := by
  refine Or.inr ⟨i, j, rfl, rfl, h2, rfl, fun p q hpq => ?_⟩
  rcases h1 p q hpq with w | ⟨rfl, rfl⟩
  · rcases h with ⟨_, g⟩ | ⟨i', j', _, _, _, _, g⟩
    · exact absurd w (g p q)
    · have := g p q w
      omega
  · exact Int.le_refl _
theorem far3_stay {X Y : Nat → Int} {S S' : Nat → Nat → Prop} {a b f : Int} {i j : Nat} (h : far3 X Y S a b f) (h1 : ∀ p q, S' p q → S p q ∨ (p = i ∧ q = j)) (h2 : ∀ p q, S p q → S' p q) (h3 : ds X Y i j ≤ f) (h4 : 0 ≤ ds X Y i j) : far3 X Y S' a b f := by
  rcases h with ⟨g, _⟩ | ⟨i', j', g1, g2, g3, g4, g5⟩
  · omega
  · refine Or.inr ⟨i', j', g1, g2, h2 _ _ g3, g4, fun p q hpq => ?_⟩
    rcases h1 p q hpq with w | ⟨rfl, rfl⟩
    · exact g5 p q w
    · exact h3
theorem far3_same {X Y : Nat → Int} {S S' : Nat → Nat → Prop} {a b f : Int} (h : far3 X Y S a b f) (h1 : ∀ p q, S' p q ↔ S p q) : far3 X Y S' a b f := by
  rcases h with ⟨g1, g2⟩ | ⟨i', j', g1, g2, g3, g4, g5⟩
  · exact Or.inl ⟨g1, fun p q w => g2 p q ((h1 p q).mp w)⟩
  · exact Or.inr ⟨i', j', g1, g2, (h1 _ _).mpr g3, g4, fun p q w => g5 p q ((h1 p q).mp w)⟩
def Sout (M : Nat → Prop) (i p q : Nat) : Prop := p < i ∧ q ≤ p ∧ M p ∧ M q
def Sin (M : Nat → Prop) (i j p q : Nat) : Prop := Sout M i p q ∨ (p = i ∧ q < j ∧ M q)
theorem far3_k {l : List Spt} (hb : bdL l) {S : Nat → Nat → Prop} {a b f : Int} (h : far3 (lX l) (lY l) S a b f) (hS : ∀ p q, S p q → p < l.length ∧ q < l.length) : -1 ≤ f ∧ f ≤ 204800 := by
  rcases h with ⟨g, _⟩ | ⟨i, j, _, _, g3, g4, _⟩
  · omega
  · have := ds_bd hb (hS i j g3).1 (hS i j g3).2
    omega
/-- the best of some triples -/
def ok3 (X Y : Nat → Int) (A : Nat → Prop) (i j k : Nat) : Prop := tn X Y i j k ≠ 0 ∧ cIn X Y A (c3 X Y i j k)
def bst (X Y : Nat → Int) (A : Nat → Prop) (S : Nat → Nat → Nat → Prop) (any : Int) (J : Nat → Int) : Prop :=
  (any = 0 ∧ ∀ i j k, S i j k → ¬ ok3 X Y A i j k) ∨ (any = 1 ∧ ∃ i j k, S i j k ∧ ok3 X Y A i j k ∧ MCs J 23 (c3 X Y i j k) ∧ ∀ p q r, S p q r → ok3 X Y A p q r →
    rN (c3 X Y i j k) * ((c3 X Y p q r).2.2.2 * (c3 X Y p q r).2.2.2) ≤ rN (c3 X Y p q r) * ((c3 X Y i j k).2.2.2 * (c3 X Y i j k).2.2.2))
theorem fr_trans {a b c d e f : Int} (hb : 0 < b) (hd : 0 < d) (hf : 0 < f) (h1 : a * d ≤ c * b) (h2 : c * f ≤ e * d) : a * f ≤ e * b := by
  have k1 := Int.mul_le_mul_of_nonneg_right h1 (Int.le_of_lt hf)
  have k2 := Int.mul_le_mul_of_nonneg_right h2 (Int.le_of_lt hb)
  have e1 : a * d * f = d * (a * f) := by grind
  have e2 : c * b * f = c * f * b := by grind
  have e3 : e * d * b = d * (e * b) := by grind
  exact Int.le_of_mul_le_mul_left (by omega) hd
theorem bst_same {X Y : Nat → Int} {A : Nat → Prop} {S S' : Nat → Nat → Nat → Prop} {any : Int} {J J' : Nat → Int} (h : bst X Y A S any J) (h1 : ∀ p q r, S p q r → S' p q r) (h2 : ∀ p q r, S' p q r → S p q r ∨ ¬ ok3 X Y A p q r) (hJ : ∀ j, 23 ≤ j → j < 30 → J' j = J j) : bst X Y A S' any J' := by
  rcases h with ⟨g1, g2⟩ | ⟨g1, i, j, k, g2, g3, g4, g5⟩
  · refine Or.inl ⟨g1, fun p q r w => ?_⟩
    rcases h2 p q r w with w | w
    · exact g2 p q r w
    · exact w
  · refine Or.inr ⟨g1, i, j, k, h1 _ _ _ g2, g3, ?_, fun p q r w ho => ?_⟩
    · unfold MCs at *
      rw [hJ 23 (by decide) (by decide), hJ (23 + 1) (by decide) (by decide), hJ (23 + 2) (by decide) (by decide), hJ (23 + 3) (by decide) (by decide), hJ (23 + 4) (by decide) (by decide), hJ (23 + 5) (by decide) (by decide), hJ (23 + 6) (by decide) (by decide)]
      exact g4
    · rcases h2 p q r w with w | w
      · exact g5 p q r w ho
      · exact absurd ho w
def S3 (M : Nat → Prop) (i j k : Nat) (p q r : Nat) : Prop := M p ∧ M q ∧ M r ∧ q < p ∧ r < q ∧ (p < i ∨ (p = i ∧ (q < j ∨ (q = j ∧ r < k))))
theorem sgc_le {a b c d : Int} (h : 0 ≤ sgc a b c d) : c * b ≤ a * d := by
  unfold sgc at h
  split at h
  · omega
  · omega
theorem sgc_lt {a b c d : Int} (h : sgc a b c d < 0) : a * d < c * b := by
  unfold sgc at h
  split at h
  · assumption
  · split at h <;> omega
theorem sgc_k (a b c d : Int) : k32 (sgc a b c d) := by
  unfold sgc
  split
  · decide
  · split <;> decide
