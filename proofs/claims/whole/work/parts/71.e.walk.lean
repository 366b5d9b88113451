/-! ===== meets: from a place in common to two sides with one ===== -/
theorem ratio (f g : Nat → Int) (hf : ∀ i, 0 ≤ f i) : ∀ c, (∃ i, i < c ∧ 0 < g i) → ∃ i, i < c ∧ 0 < g i ∧ ∀ k, k < c → 0 < g k → f i * g k ≤ f k * g i
  | 0, h => by
    obtain ⟨i, hi, _⟩ := h
    omega
  | c + 1, h => by
    by_cases q : ∃ i, i < c ∧ 0 < g i
    · obtain ⟨i, hi, gi, hk⟩ := ratio f g hf c q
      by_cases w : 0 < g c ∧ f c * g i < f i * g c
      · refine ⟨c, by omega, w.1, fun k hkc gk => ?_⟩
        by_cases z : k = c
        · rw [z]
          exact Int.le_refl _
        · have h1 := hk k (by omega) gk
          have h2 := Int.mul_le_mul_of_nonneg_left (Int.le_of_lt w.2) (Int.le_of_lt gk)
          have h3 := Int.mul_le_mul_of_nonneg_left h1 (Int.le_of_lt w.1)
          refine mul_le_of gi ?_
          have e1 : g i * (f c * g k) = g k * (f c * g i) := by grind
          have e2 : g k * (f i * g c) = g c * (f i * g k) := by grind
          have e3 : g i * (f k * g c) = g c * (f k * g i) := by grind
          omega
      · refine ⟨i, by omega, gi, fun k hkc gk => ?_⟩
        by_cases z : k = c
        · subst z
          omega
        · exact hk k (by omega) gk
    · obtain ⟨i, hi, gi⟩ := h
      refine ⟨i, hi, gi, fun k hkc gk => ?_⟩
      have ei : i = c := by
        by_cases z : i = c
        · exact z
        · exact absurd ⟨i, by omega, gi⟩ q
      have ek : k = c := by
        by_cases z : k = c
        · exact z
        · exact absurd ⟨k, by omega, gk⟩ q
      rw [ei, ek]
      exact Int.le_refl _
/-- going from a place in the hull to one that is not in it leaves it on a side -/
theorem exits {X Y : Nat → Int} {c : Nat} (H : PG X Y c) (h3 : 3 ≤ c) {x y n : Int} (hn : 0 < n) (hz : ∀ i, i < c → 0 ≤ lf X Y c i x y n) {p q : Int} (hp : ∃ i, i < c ∧ lf X Y c i p q 1 < 0) :
    ∃ i s t, i < c ∧ 0 < s ∧ 0 ≤ t ∧ 0 < s * n + t * 1 ∧ SG (X i) (Y i) (X (nx c i)) (Y (nx c i)) (s * x + t * p) (s * y + t * q) (s * n + t * 1) ∧ ∀ k, k < c → 0 ≤ lf X Y c k (s * x + t * p) (s * y + t * q) (s * n + t * 1) := by
  obtain ⟨i, hi, gi, hk⟩ := ratio (fun i => if i < c then lf X Y c i x y n else 0) (fun i => -lf X Y c i p q 1) (fun i => by
    try dsimp only
    split
    · exact hz i (by assumption)
    · exact Int.le_refl _) c (by
    obtain ⟨i, hi, h⟩ := hp
    exact ⟨i, hi, by omega⟩)
  try dsimp only at gi hk
  rw [if_pos hi] at hk
  have m := Int.mul_pos gi hn
  have z := hz i hi
  have N : 0 < -lf X Y c i p q 1 * n + lf X Y c i x y n * 1 := by omega
  have all : ∀ k, k < c → 0 ≤ lf X Y c k (-lf X Y c i p q 1 * x + lf X Y c i x y n * p) (-lf X Y c i p q 1 * y + lf X Y c i x y n * q) (-lf X Y c i p q 1 * n + lf X Y c i x y n * 1) := fun k hkc => by
    rw [lf_lin]
    by_cases w : 0 < -lf X Y c k p q 1
    · have := hk k hkc w
      rw [if_pos hkc] at this
      have e1 : lf X Y c i x y n * -lf X Y c k p q 1 = -(lf X Y c i x y n * lf X Y c k p q 1) := Int.mul_neg _ _
      have e2 : lf X Y c k x y n * -lf X Y c i p q 1 = -lf X Y c i p q 1 * lf X Y c k x y n := Int.mul_comm _ _
      omega
    · exact Int.add_nonneg (Int.mul_nonneg (by omega) (hz k hkc)) (Int.mul_nonneg z (by omega))
  refine ⟨i, -lf X Y c i p q 1, lf X Y c i x y n, hi, gi, z, N, face H h3 N all hi ?_, all⟩
  rw [lf_lin]
  grind
theorem sg_id (s t s' t' a b c d n : Int) : n * (s * (s' + t') * a + t * (s' + t') * b - (s' * (s + t) * c + t' * (s + t) * d)) = (s' + t') * ((s * a + t * b) * n) - (s + t) * ((s' * c + t' * d) * n) := by grind
theorem SG_SHR {a1 a2 b1 b2 c1 c2 d1 d2 x y n : Int} (hn : 0 < n) (h : SG a1 a2 b1 b2 x y n) (g : SG c1 c2 d1 d2 x y n) : SHR a1 a2 b1 b2 c1 c2 d1 d2 := by
  obtain ⟨s, t, hs, ht, hst, e1, e2⟩ := h
  obtain ⟨s', t', hs', ht', hst', f1, f2⟩ := g
  refine ⟨s * (s' + t'), t * (s' + t'), s' * (s + t), t' * (s + t), Int.mul_nonneg hs (by omega), Int.mul_nonneg ht (by omega), Int.mul_nonneg hs' (by omega), Int.mul_nonneg ht' (by omega), ?_, ?_, ?_, ?_⟩
  · rw [← Int.add_mul]
    exact Int.mul_pos hst hst'
  · rw [← Int.add_mul, ← Int.add_mul, Int.mul_comm]
  · have k : n * (s * (s' + t') * a1 + t * (s' + t') * b1 - (s' * (s + t) * c1 + t' * (s + t) * d1)) = 0 := by
      rw [sg_id, e1, f1, ← Int.mul_assoc, ← Int.mul_assoc, Int.mul_comm (s' + t') (s + t), Int.sub_self]
    rcases Int.mul_eq_zero.1 k with w | w <;> omega
  · have k : n * (s * (s' + t') * a2 + t * (s' + t') * b2 - (s' * (s + t) * c2 + t' * (s + t) * d2)) = 0 := by
      rw [sg_id, e2, f2, ← Int.mul_assoc, ← Int.mul_assoc, Int.mul_comm (s' + t') (s + t), Int.sub_self]
    rcases Int.mul_eq_zero.1 k with w | w <;> omega
/-- what the model asks -/
def MTM (X Y : Nat → Int) (c : Nat) (X' Y' : Nat → Int) (c' : Nat) : Prop :=
  (3 ≤ c' ∧ ∀ i, i < c' → 0 ≤ lf X' Y' c' i (X 0) (Y 0) 1) ∨ (3 ≤ c ∧ ∀ i, i < c → 0 ≤ lf X Y c i (X' 0) (Y' 0) 1) ∨
  ∃ i j, i < c ∧ j < c' ∧ DC (X i) (Y i) (X (nx c i)) (Y (nx c i)) (X' j) (Y' j) (X' (nx c' j)) (Y' (nx c' j))
theorem least_nat (P : Nat → Prop) : ∀ n, P n → ∃ k, P k ∧ ∀ j, j < k → ¬ P j := by
  intro n
  induction n using Nat.strongRecOn with
  | _ n ih =>
    intro h
    by_cases q : ∃ j, j < n ∧ P j
    · obtain ⟨j, hj, pj⟩ := q
      exact ih j hj pj
    · exact ⟨n, h, fun j hj pj => q ⟨j, hj, pj⟩⟩
theorem not_all {c : Nat} {P : Nat → Int} (h : ¬ ∀ i, i < c → 0 ≤ P i) : ∃ i, i < c ∧ P i < 0 := by
  by_cases q : ∃ i, i < c ∧ P i < 0
  · exact q
  · refine absurd (fun i hi => ?_) h
    by_cases w : P i < 0
    · exact absurd ⟨i, hi, w⟩ q
    · omega
theorem share_MTM {X Y X' Y' : Nat → Int} {c c' : Nat} (H : PG X Y c) (H' : PG X' Y' c') {x y n : Int} (hn : 0 < n) (a : InP X Y c x y n) (b : InP X' Y' c' x y n) : MTM X Y c X' Y' c' := by
  by_cases m1 : 3 ≤ c' ∧ ∀ i, i < c' → 0 ≤ lf X' Y' c' i (X 0) (Y 0) 1
  · exact Or.inl m1
  by_cases m2 : 3 ≤ c ∧ ∀ i, i < c → 0 ≤ lf X Y c i (X' 0) (Y' 0) 1
  · exact Or.inr (Or.inl m2)
  have s1 : ∃ j, j < c' ∧ ∃ x y n, 0 < n ∧ InP X Y c x y n ∧ SG (X' j) (Y' j) (X' (nx c' j)) (Y' (nx c' j)) x y n := by
    by_cases h3 : 3 ≤ c'
    · obtain ⟨j, s, t, hj, hs, ht, hN, sg, _⟩ := exits H' h3 hn (b.1 h3) (not_all (P := fun i => lf X' Y' c' i (X 0) (Y 0) 1) (fun q => m1 ⟨h3, q⟩))
      exact ⟨j, hj, _, _, _, hN, InP_lin (Int.le_of_lt hs) ht hn (by decide) hN a (InP_v H H.1), sg⟩
    · exact ⟨0, H'.1, x, y, n, hn, a, b.2 (by omega)⟩
  obtain ⟨j0, hj0⟩ := s1
  obtain ⟨k, ⟨hk, x1, y1, n1, hn1, a1, g1⟩, hmin⟩ := least_nat (fun j => j < c' ∧ ∃ x y n, 0 < n ∧ InP X Y c x y n ∧ SG (X' j) (Y' j) (X' (nx c' j)) (Y' (nx c' j)) x y n) j0 hj0
  refine Or.inr (Or.inr ?_)
  by_cases h3 : 3 ≤ c
  · have out : ∃ i, i < c ∧ lf X Y c i (X' k) (Y' k) 1 < 0 := by
      refine not_all (P := fun i => lf X Y c i (X' k) (Y' k) 1) (fun q => ?_)
      by_cases z : k = 0
      · subst z
        exact m2 ⟨h3, q⟩
      · refine hmin (k - 1) (by omega) ⟨by omega, X' k, Y' k, 1, by decide, ⟨fun _ => q, fun w => by omega⟩, ?_⟩
        have e : nx c' (k - 1) = k := by
          unfold nx
          rw [if_neg (by omega)]
          omega
        rw [e]
        exact SG_q _ _ _ _
    obtain ⟨i, s, t, hi, hs, ht, hN, sg, _⟩ := exits H h3 hn1 (a1.1 h3) out
    exact ⟨i, k, hi, hk, SHR_DC (SG_SHR hN sg (SG_lin (Int.le_of_lt hs) ht hn1 (by decide) hN g1 (SG_p _ _ _ _)))⟩
  · exact ⟨0, k, H.1, hk, SHR_DC (SG_SHR hn1 (a1.2 (by omega)) g1)⟩
