/-! ===== meets: two sides with a place in common ===== -/
def t6 (a1 a2 b1 b2 p1 p2 : Int) : Int := (b1 - a1) * (p2 - a2) - (b2 - a2) * (p1 - a1)
def BW (p q r : Int) : Prop := (p ≤ r ∧ r ≤ q) ∨ (q ≤ r ∧ r ≤ p)
def ON (p1 p2 q1 q2 r1 r2 : Int) : Prop := t6 p1 p2 q1 q2 r1 r2 = 0 ∧ BW p1 q1 r1 ∧ BW p2 q2 r2
def DC (a1 a2 b1 b2 c1 c2 d1 d2 : Int) : Prop :=
  (((t6 a1 a2 b1 b2 c1 c2 < 0 ∧ 0 < t6 a1 a2 b1 b2 d1 d2) ∨ (0 < t6 a1 a2 b1 b2 c1 c2 ∧ t6 a1 a2 b1 b2 d1 d2 < 0)) ∧
    ((t6 c1 c2 d1 d2 a1 a2 < 0 ∧ 0 < t6 c1 c2 d1 d2 b1 b2) ∨ (0 < t6 c1 c2 d1 d2 a1 a2 ∧ t6 c1 c2 d1 d2 b1 b2 < 0))) ∨
  ON a1 a2 b1 b2 c1 c2 ∨ ON a1 a2 b1 b2 d1 d2 ∨ ON c1 c2 d1 d2 a1 a2 ∨ ON c1 c2 d1 d2 b1 b2
def SHR (a1 a2 b1 b2 c1 c2 d1 d2 : Int) : Prop :=
  ∃ s t s' t' : Int, 0 ≤ s ∧ 0 ≤ t ∧ 0 ≤ s' ∧ 0 ≤ t' ∧ 0 < s + t ∧ s' + t' = s + t ∧ s * a1 + t * b1 = s' * c1 + t' * d1 ∧ s * a2 + t * b2 = s' * c2 + t' * d2
theorem ON_seg {p1 p2 q1 q2 r1 r2 : Int} (h : ON p1 p2 q1 q2 r1 r2) : ∃ s t : Int, 0 ≤ s ∧ 0 ≤ t ∧ 0 < s + t ∧ s * p1 + t * q1 = (s + t) * r1 ∧ s * p2 + t * q2 = (s + t) * r2 := by
  obtain ⟨e, b1, b2⟩ := h
  unfold t6 at e
  unfold BW at b1 b2
  by_cases z : p1 = q1
  · have z1 : r1 = p1 := by omega
    subst z z1
    by_cases z2 : p2 = q2
    · have z3 : r2 = p2 := by omega
      subst z2 z3
      exact ⟨1, 0, by omega, by omega, by omega, by grind, by grind⟩
    · by_cases w : p2 < q2
      · exact ⟨q2 - r2, r2 - p2, by omega, by omega, by omega, by grind, by grind⟩
      · exact ⟨r2 - q2, p2 - r2, by omega, by omega, by omega, by grind, by grind⟩
  · by_cases w : p1 < q1
    · exact ⟨q1 - r1, r1 - p1, by omega, by omega, by omega, by grind, by grind⟩
    · exact ⟨r1 - q1, p1 - r1, by omega, by omega, by omega, by grind, by grind⟩
theorem DC_SHR {a1 a2 b1 b2 c1 c2 d1 d2 : Int} (h : DC a1 a2 b1 b2 c1 c2 d1 d2) : SHR a1 a2 b1 b2 c1 c2 d1 d2 := by
  have e0 : t6 a1 a2 b1 b2 d1 d2 - t6 a1 a2 b1 b2 c1 c2 = t6 c1 c2 d1 d2 a1 a2 - t6 c1 c2 d1 d2 b1 b2 := by
    unfold t6
    grind
  have e1 : t6 a1 a2 b1 b2 d1 d2 * c1 - t6 a1 a2 b1 b2 c1 c2 * d1 + t6 c1 c2 d1 d2 b1 b2 * a1 - t6 c1 c2 d1 d2 a1 a2 * b1 = 0 := by
    unfold t6
    grind
  have e2 : t6 a1 a2 b1 b2 d1 d2 * c2 - t6 a1 a2 b1 b2 c1 c2 * d2 + t6 c1 c2 d1 d2 b1 b2 * a2 - t6 c1 c2 d1 d2 a1 a2 * b2 = 0 := by
    unfold t6
    grind
  rcases h with ⟨h, g⟩ | h | h | h | h
  · generalize t6 a1 a2 b1 b2 c1 c2 = o1 at *
    generalize t6 a1 a2 b1 b2 d1 d2 = o2 at *
    generalize t6 c1 c2 d1 d2 a1 a2 = o3 at *
    generalize t6 c1 c2 d1 d2 b1 b2 = o4 at *
    by_cases q : o1 < 0
    · exact ⟨-o4, o3, o2, -o1, by omega, by omega, by omega, by omega, by omega, by omega, by grind, by grind⟩
    · exact ⟨o4, -o3, -o2, o1, by omega, by omega, by omega, by omega, by omega, by omega, by grind, by grind⟩
  · obtain ⟨s, t, hs, ht, hst, f1, f2⟩ := ON_seg h
    exact ⟨s, t, s + t, 0, hs, ht, by omega, by omega, hst, by omega, by rw [f1]; grind, by rw [f2]; grind⟩
  · obtain ⟨s, t, hs, ht, hst, f1, f2⟩ := ON_seg h
    exact ⟨s, t, 0, s + t, hs, ht, by omega, by omega, hst, by omega, by rw [f1]; grind, by rw [f2]; grind⟩
  · obtain ⟨s, t, hs, ht, hst, f1, f2⟩ := ON_seg h
    exact ⟨s + t, 0, s, t, by omega, by omega, hs, ht, by omega, by omega, by rw [f1]; grind, by rw [f2]; grind⟩
  · obtain ⟨s, t, hs, ht, hst, f1, f2⟩ := ON_seg h
    exact ⟨0, s + t, s, t, by omega, by omega, hs, ht, by omega, by omega, by rw [f1]; grind, by rw [f2]; grind⟩
theorem mul_le_of {k a b : Int} (h : 0 < k) (q : k * a ≤ k * b) : a ≤ b := Int.le_of_mul_le_mul_left q h
/-- on the line, and as far along as between the ends -/
theorem ON_of {p1 p2 q1 q2 r1 r2 : Int} (ne : 0 < (q1 - p1) * (q1 - p1) + (q2 - p2) * (q2 - p2)) (e : t6 p1 p2 q1 q2 r1 r2 = 0) (h0 : 0 ≤ (q1 - p1) * (r1 - p1) + (q2 - p2) * (r2 - p2))
    (h1 : (q1 - p1) * (r1 - p1) + (q2 - p2) * (r2 - p2) ≤ (q1 - p1) * (q1 - p1) + (q2 - p2) * (q2 - p2)) : ON p1 p2 q1 q2 r1 r2 := by
  refine ⟨e, ?_, ?_⟩
  · unfold t6 at e
    have g : ((q1 - p1) * (q1 - p1) + (q2 - p2) * (q2 - p2)) * (r1 - p1) = ((q1 - p1) * (r1 - p1) + (q2 - p2) * (r2 - p2)) * (q1 - p1) := by grind
    generalize (q1 - p1) * (q1 - p1) + (q2 - p2) * (q2 - p2) = P at *
    generalize (q1 - p1) * (r1 - p1) + (q2 - p2) * (r2 - p2) = f at *
    unfold BW
    by_cases w : p1 ≤ q1
    · have m1 := Int.mul_nonneg h0 (show 0 ≤ q1 - p1 by omega)
      have m2 := Int.mul_le_mul_of_nonneg_right h1 (show 0 ≤ q1 - p1 by omega)
      have k1 := mul_le_of ne (a := 0) (b := r1 - p1) (by omega)
      have k2 := mul_le_of ne (a := r1 - p1) (b := q1 - p1) (by omega)
      omega
    · have m1 := Int.mul_nonneg h0 (show 0 ≤ -(q1 - p1) by omega)
      have m2 := Int.mul_le_mul_of_nonneg_right h1 (show 0 ≤ -(q1 - p1) by omega)
      rw [Int.mul_neg] at m1 m2
      rw [Int.mul_neg] at m2
      have k1 := mul_le_of ne (a := r1 - p1) (b := 0) (by omega)
      have k2 := mul_le_of ne (a := q1 - p1) (b := r1 - p1) (by omega)
      omega
  · unfold t6 at e
    have g : ((q1 - p1) * (q1 - p1) + (q2 - p2) * (q2 - p2)) * (r2 - p2) = ((q1 - p1) * (r1 - p1) + (q2 - p2) * (r2 - p2)) * (q2 - p2) := by grind
    generalize (q1 - p1) * (q1 - p1) + (q2 - p2) * (q2 - p2) = P at *
    generalize (q1 - p1) * (r1 - p1) + (q2 - p2) * (r2 - p2) = f at *
    unfold BW
    by_cases w : p2 ≤ q2
    · have m1 := Int.mul_nonneg h0 (show 0 ≤ q2 - p2 by omega)
      have m2 := Int.mul_le_mul_of_nonneg_right h1 (show 0 ≤ q2 - p2 by omega)
      have k1 := mul_le_of ne (a := 0) (b := r2 - p2) (by omega)
      have k2 := mul_le_of ne (a := r2 - p2) (b := q2 - p2) (by omega)
      omega
    · have m1 := Int.mul_nonneg h0 (show 0 ≤ -(q2 - p2) by omega)
      have m2 := Int.mul_le_mul_of_nonneg_right h1 (show 0 ≤ -(q2 - p2) by omega)
      rw [Int.mul_neg] at m1 m2
      rw [Int.mul_neg] at m2
      have k1 := mul_le_of ne (a := r2 - p2) (b := 0) (by omega)
      have k2 := mul_le_of ne (a := q2 - p2) (b := r2 - p2) (by omega)
      omega
