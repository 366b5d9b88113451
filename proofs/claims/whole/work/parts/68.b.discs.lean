/-! ===== all circles that one, two or three force ===== -/
def d3F (l : List Spt) (i j : Nat) (s : (Nat → Cir) × Nat) : Nat → (Nat → Cir) × Nat
  | 0 => s
  | k + 1 => if tn (lX l) (lY l) i j k = 0 then d3F l i j s k else (va_up (d3F l i j s k).1 (d3F l i j s k).2 (c3 (lX l) (lY l) i j k), (d3F l i j s k).2 + 1)
def adF (s : (Nat → Cir) × Nat) (C : Cir) : (Nat → Cir) × Nat := (va_up s.1 s.2 C, s.2 + 1)
def d2F (l : List Spt) (i : Nat) (s : (Nat → Cir) × Nat) : Nat → (Nat → Cir) × Nat
  | 0 => s
  | j + 1 => d3F l i j (adF (d2F l i s j) (c2 (lX l) (lY l) i j)) j
def d1F (l : List Spt) : Nat → (Nat → Cir) × Nat
  | 0 => (fun _ => (0, 0, 0, 1), 0)
  | i + 1 => d2F l i (adF (d1F l i) (c1 (lX l) (lY l) i)) i
def b2F : Nat → Nat
  | 0 => 0
  | j + 1 => b2F j + 1 + j
def b1F : Nat → Nat
  | 0 => 0
  | i + 1 => b1F i + 1 + b2F i
theorem d3_n (l : List Spt) (i j : Nat) (s : (Nat → Cir) × Nat) : ∀ k, (d3F l i j s k).2 ≤ s.2 + k
  | 0 => Nat.le_refl _
  | k + 1 => by
    have ih := d3_n l i j s k
    have e : d3F l i j s (k + 1) = if tn (lX l) (lY l) i j k = 0 then d3F l i j s k else (va_up (d3F l i j s k).1 (d3F l i j s k).2 (c3 (lX l) (lY l) i j k), (d3F l i j s k).2 + 1) := rfl
    rw [e]
    split
    · omega
    · dsimp only
      omega
theorem d2_n (l : List Spt) (i : Nat) (s : (Nat → Cir) × Nat) : ∀ j, (d2F l i s j).2 ≤ s.2 + b2F j
  | 0 => Nat.le_refl _
  | j + 1 => by
    have ih := d2_n l i s j
    have a := d3_n l i j (adF (d2F l i s j) (c2 (lX l) (lY l) i j)) j
    have e : d2F l i s (j + 1) = d3F l i j (adF (d2F l i s j) (c2 (lX l) (lY l) i j)) j := rfl
    have e2 : (adF (d2F l i s j) (c2 (lX l) (lY l) i j)).2 = (d2F l i s j).2 + 1 := rfl
    have e3 : b2F (j + 1) = b2F j + 1 + j := rfl
    rw [e]
    omega
theorem d1_n (l : List Spt) : ∀ i, (d1F l i).2 ≤ b1F i
  | 0 => Nat.le_refl _
  | i + 1 => by
    have ih := d1_n l i
    have a := d2_n l i (adF (d1F l i) (c1 (lX l) (lY l) i)) i
    have e : d1F l (i + 1) = d2F l i (adF (d1F l i) (c1 (lX l) (lY l) i)) i := rfl
    have e2 : (adF (d1F l i) (c1 (lX l) (lY l) i)).2 = (d1F l i).2 + 1 := rfl
    have e3 : b1F (i + 1) = b1F i + 1 + b2F i := rfl
    rw [e]
    omega
theorem b_all : ∀ i : Fin 13, b1F i.val ≤ 298 ∧ (i.val < 12 → b1F i.val < 298 ∧ ∀ j : Fin 12, j.val < i.val → b1F i.val + 1 + b2F j.val < 298 ∧ ∀ k : Fin 12, k.val < j.val → b1F i.val + 1 + b2F j.val + 1 + k.val < 298) := by decide +kernel
def oc (s : (Nat → Cir) × Nat) (C : Cir) : Prop := ∃ t, t < s.2 ∧ s.1 t = C
theorem oc_ad {s : (Nat → Cir) × Nat} {C D : Cir} : oc (adF s C) D ↔ oc s D ∨ D = C := by
  unfold adF oc
  constructor
  · rintro ⟨t, ht, e⟩
    dsimp only at ht e
    by_cases q : t = s.2
    · rw [q, va_same] at e
      exact Or.inr e.symm
    · rw [va_ne _ _ q] at e
      exact Or.inl ⟨t, by omega, e⟩
  · rintro (⟨t, ht, e⟩ | e)
    · exact ⟨t, by dsimp only; omega, by dsimp only; rw [va_ne _ _ (by omega)]; exact e⟩
    · exact ⟨s.2, by dsimp only; omega, by dsimp only; rw [va_same, e]⟩
theorem oc_d3 {l : List Spt} {i j : Nat} {s : (Nat → Cir) × Nat} {D : Cir} : ∀ k, oc (d3F l i j s k) D ↔ oc s D ∨ ∃ q, q < k ∧ tn (lX l) (lY l) i j q ≠ 0 ∧ D = c3 (lX l) (lY l) i j q
  | 0 => ⟨fun h => Or.inl h, fun h => h.elim id (fun ⟨q, hq, _⟩ => absurd hq (Nat.not_lt_zero _))⟩
  | k + 1 => by
    have ih := oc_d3 (l := l) (i := i) (j := j) (s := s) (D := D) k
    have e : d3F l i j s (k + 1) = if tn (lX l) (lY l) i j k = 0 then d3F l i j s k else adF (d3F l i j s k) (c3 (lX l) (lY l) i j k) := rfl
    rw [e]
    by_cases z : tn (lX l) (lY l) i j k = 0
    · rw [if_pos z, ih]
      constructor
      · rintro (h | ⟨q, h1, h2⟩)
        · exact Or.inl h
        · exact Or.inr ⟨q, by omega, h2⟩
      · rintro (h | ⟨q, h1, h2, h3⟩)
        · exact Or.inl h
        · refine Or.inr ⟨q, ?_, h2, h3⟩
          by_cases w : q = k
          · rw [w] at h2
            exact absurd z h2
          · omega
    · rw [if_neg z, oc_ad, ih]
      constructor
      · rintro ((h | ⟨q, h1, h2⟩) | h)
        · exact Or.inl h
        · exact Or.inr ⟨q, by omega, h2⟩
        · exact Or.inr ⟨k, by omega, z, h⟩
      · rintro (h | ⟨q, h1, h2, h3⟩)
        · exact Or.inl (Or.inl h)
        · by_cases w : q = k
          · rw [w] at h3
            exact Or.inr h3
          · exact Or.inl (Or.inr ⟨q, by omega, h2, h3⟩)
theorem oc_d2 {l : List Spt} {i : Nat} {s : (Nat → Cir) × Nat} {D : Cir} : ∀ j, oc (d2F l i s j) D ↔ oc s D ∨ ∃ p, p < j ∧ (D = c2 (lX l) (lY l) i p ∨ ∃ q, q < p ∧ tn (lX l) (lY l) i p q ≠ 0 ∧ D = c3 (lX l) (lY l) i p q)
  | 0 => ⟨fun h => Or.inl h, fun h => h.elim id (fun ⟨q, hq, _⟩ => absurd hq (Nat.not_lt_zero _))⟩
  | j + 1 => by
    have ih := oc_d2 (l := l) (i := i) (s := s) (D := D) j
    have e : d2F l i s (j + 1) = d3F l i j (adF (d2F l i s j) (c2 (lX l) (lY l) i j)) j := rfl
    rw [e, oc_d3, oc_ad, ih]
    constructor
    · rintro (((h | ⟨p, h1, h2⟩) | h) | h)
      · exact Or.inl h
      · exact Or.inr ⟨p, by omega, h2⟩
      · exact Or.inr ⟨j, by omega, Or.inl h⟩
      · exact Or.inr ⟨j, by omega, Or.inr h⟩
    · rintro (h | ⟨p, h1, h2⟩)
      · exact Or.inl (Or.inl (Or.inl h))
      · by_cases w : p = j
        · subst w
          rcases h2 with h2 | h2
          · exact Or.inl (Or.inr h2)
          · exact Or.inr h2
        · exact Or.inl (Or.inl (Or.inr ⟨p, by omega, h2⟩))
def isD (l : List Spt) (n : Nat) (D : Cir) : Prop := ∃ i, i < n ∧ (D = c1 (lX l) (lY l) i ∨ ∃ p, p < i ∧ (D = c2 (lX l) (lY l) i p ∨ ∃ q, q < p ∧ tn (lX l) (lY l) i p q ≠ 0 ∧ D = c3 (lX l) (lY l) i p q))
theorem oc_d1 {l : List Spt} {D : Cir} : ∀ n, oc (d1F l n) D ↔ isD l n D
  | 0 => ⟨fun ⟨t, ht, _⟩ => absurd ht (Nat.not_lt_zero _), fun ⟨i, hi, _⟩ => absurd hi (Nat.not_lt_zero _)⟩
  | n + 1 => by
    have ih := oc_d1 (l := l) (D := D) n
    have e : d1F l (n + 1) = d2F l n (adF (d1F l n) (c1 (lX l) (lY l) n)) n := rfl
    rw [e, oc_d2, oc_ad, ih]
    unfold isD
    constructor
    · rintro ((⟨i, h1, h2⟩ | h) | h)
      · exact ⟨i, by omega, h2⟩
      · exact ⟨n, by omega, Or.inl h⟩
      · exact ⟨n, by omega, Or.inr h⟩
    · rintro ⟨i, h1, h2⟩
      by_cases w : i = n
      · subst w
        rcases h2 with h2 | h2
        · exact Or.inl (Or.inr h2)
        · exact Or.inr h2
      · exact Or.inl (Or.inl ⟨i, by omega, h2⟩)
theorem in0_isD {l : List Spt} {M : Nat → Prop} {n : Nat} {C : Cir} (h : in0 (lX l) (lY l) M n C) : isD l n C := by
  rcases h.2.2 with ⟨i, hi, _, e⟩ | ⟨i, j, hi, hj, _, _, e⟩ | ⟨i, j, k, hi, hj, hk, _, _, _, ht, e, _⟩
  · exact ⟨i, hi, Or.inl e⟩
  · exact ⟨i, hi, Or.inr ⟨j, hj, Or.inl e⟩⟩
  · exact ⟨i, hi, Or.inr ⟨j, hj, Or.inr ⟨k, hk, ht, e⟩⟩⟩
/-- those in a circle, as a number -/
def inF (l : List Spt) (C : Cir) : Nat → Nat
  | 0 => 0
  | n + 1 => if pw C (lX l n) (lY l n) ≤ 0 then 2 ^ n + inF l C n else inF l C n
theorem inF_lt (l : List Spt) (C : Cir) : ∀ n, inF l C n < 2 ^ n
  | 0 => by show (0 : Nat) < 2 ^ 0; decide
  | n + 1 => by
    have ih := inF_lt l C n
    have e : inF l C (n + 1) = if pw C (lX l n) (lY l n) ≤ 0 then 2 ^ n + inF l C n else inF l C n := rfl
    rw [e, Nat.pow_succ]
    split <;> omega
theorem inF_bit (l : List Spt) (C : Cir) : ∀ n k, (inF l C n).testBit k = true ↔ k < n ∧ pw C (lX l k) (lY l k) ≤ 0
  | 0, k => by
    show (0 : Nat).testBit k = true ↔ _
    rw [Nat.zero_testBit]
    exact ⟨fun h => absurd h (by decide), fun h => absurd h.1 (Nat.not_lt_zero _)⟩
  | n + 1, k => by
    have ih := inF_bit l C n k
    have lt := inF_lt l C n
    have e : inF l C (n + 1) = if pw C (lX l n) (lY l n) ≤ 0 then 2 ^ n + inF l C n else inF l C n := rfl
    rw [e]
    by_cases q : pw C (lX l n) (lY l n) ≤ 0
    · rw [if_pos q, show 2 ^ n + inF l C n = 2 ^ n * 1 + inF l C n by omega, Nat.testBit_two_pow_mul_add 1 lt]
      by_cases w : k < n
      · rw [if_pos w, ih]
        exact ⟨fun h => ⟨by omega, h.2⟩, fun h => ⟨w, h.2⟩⟩
      · rw [if_neg w]
        by_cases z : k = n
        · subst z
          rw [Nat.sub_self]
          exact ⟨fun _ => ⟨by omega, q⟩, fun _ => rfl⟩
        · have : (1 : Nat).testBit (k - n) = false := Nat.testBit_lt_two_pow (Nat.one_lt_two_pow (by omega))
          rw [this]
          exact ⟨fun h => absurd h (by decide), fun h => by omega⟩
    · rw [if_neg q, ih]
      constructor
      · rintro ⟨h1, h2⟩
        exact ⟨by omega, h2⟩
      · rintro ⟨h1, h2⟩
        by_cases z : k = n
        · rw [z] at h2
          exact absurd h2 q
        · exact ⟨by omega, h2⟩
/-- sizes -/
abbrev leR (C D : Cir) : Prop := rN C * (D.2.2.2 * D.2.2.2) ≤ rN D * (C.2.2.2 * C.2.2.2)
def rkF (D : Nat → Cir) (n a : Nat) : Nat := cntU (fun u => decide (¬ rN (D a) * ((D u).2.2.2 * (D u).2.2.2) ≤ rN (D u) * ((D a).2.2.2 * (D a).2.2.2))) n
theorem leR_tr {C D E : Cir} (hC : 0 < C.2.2.2) (hD : 0 < D.2.2.2) (hE : 0 < E.2.2.2) (h1 : leR C D) (h2 : leR D E) : leR C E := fr_trans (Int.mul_pos hC hC) (Int.mul_pos hD hD) (Int.mul_pos hE hE) h1 h2
theorem leR_tot (C D : Cir) : leR C D ∨ leR D C := by
  omega
theorem rk_le {D : Nat → Cir} {n a b : Nat} (hp : ∀ u, u < n → 0 < (D u).2.2.2) (ha : a < n) (hb : b < n) : rkF D n a ≤ rkF D n b ↔ leR (D a) (D b) := by
  have mono : ∀ a b, a < n → b < n → leR (D a) (D b) → ∀ k, k < n → decide (¬ leR (D a) (D k)) = true → decide (¬ leR (D b) (D k)) = true := fun a b ha hb h k hk q => by
    have q := of_decide_eq_true q
    exact decide_eq_true (fun w => q (leR_tr (hp a ha) (hp b hb) (hp k hk) h w))
  constructor
  · intro h
    refine Classical.byContradiction (fun w => ?_)
    have hba : leR (D b) (D a) := (leR_tot (D a) (D b)).resolve_left w
    have lt := (cntU_lt (P := fun u => decide (¬ leR (D a) (D u))) (Q := fun u => decide (¬ leR (D b) (D u))) n (mono b a hb ha hba)).2 ⟨b, hb, decide_eq_true w, decide_eq_false (fun x => x (Int.le_refl _))⟩
    have e1 : rkF D n a = cntU (fun u => decide (¬ leR (D a) (D u))) n := rfl
    have e2 : rkF D n b = cntU (fun u => decide (¬ leR (D b) (D u))) n := rfl
    omega
  · intro h
    exact (cntU_lt (P := fun u => decide (¬ leR (D b) (D u))) (Q := fun u => decide (¬ leR (D a) (D u))) n (mono a b ha hb h)).1
