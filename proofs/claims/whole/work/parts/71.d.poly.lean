/-! ===== meets: what a hull is, and what lies in it ===== -/
/-- how far left of side i a place (x/n, y/n) lies -/
def lf (X Y : Nat → Int) (c i : Nat) (x y n : Int) : Int := (X (nx c i) - X i) * (y - n * Y i) - (Y (nx c i) - Y i) * (x - n * X i)
def PG (X Y : Nat → Int) (c : Nat) : Prop :=
  0 < c ∧ (3 ≤ c → ∀ i, i < c → (∀ j, j < c → 0 ≤ lf X Y c i (X j) (Y j) 1) ∧ 0 < lf X Y c i (X (nx c (nx c i))) (Y (nx c (nx c i))) 1)
def SG (p1 p2 q1 q2 x y n : Int) : Prop := ∃ s t : Int, 0 ≤ s ∧ 0 ≤ t ∧ 0 < s + t ∧ (s * p1 + t * q1) * n = (s + t) * x ∧ (s * p2 + t * q2) * n = (s + t) * y
def InP (X Y : Nat → Int) (c : Nat) (x y n : Int) : Prop := (3 ≤ c → ∀ i, i < c → 0 ≤ lf X Y c i x y n) ∧ (c < 3 → SG (X 0) (Y 0) (X (nx c 0)) (Y (nx c 0)) x y n)
theorem nx_pre {c i : Nat} (hi : i < c) : ∃ j, j < c ∧ nx c j = i := by
  by_cases z : i = 0
  · refine ⟨c - 1, by omega, ?_⟩
    unfold nx
    rw [if_pos (by omega), z]
  · refine ⟨i - 1, by omega, ?_⟩
    unfold nx
    rw [if_neg (by omega)]
    omega
theorem lf_lin (X Y : Nat → Int) (c i : Nat) (x y n x' y' n' s t : Int) : lf X Y c i (s * x + t * x') (s * y + t * y') (s * n + t * n') = s * lf X Y c i x y n + t * lf X Y c i x' y' n' := by
  unfold lf
  grind
theorem lf_self (X Y : Nat → Int) (c i : Nat) : lf X Y c i (X i) (Y i) 1 = 0 ∧ lf X Y c i (X (nx c i)) (Y (nx c i)) 1 = 0 := by
  unfold lf
  constructor <;> grind
theorem SG_p (p1 p2 q1 q2 : Int) : SG p1 p2 q1 q2 p1 p2 1 := ⟨1, 0, by decide, by decide, by decide, by grind, by grind⟩
theorem SG_q (p1 p2 q1 q2 : Int) : SG p1 p2 q1 q2 q1 q2 1 := ⟨0, 1, by decide, by decide, by decide, by grind, by grind⟩
theorem SG_lin {p1 p2 q1 q2 x y n x' y' n' s t : Int} (hs : 0 ≤ s) (ht : 0 ≤ t) (hn : 0 < n) (hn' : 0 < n') (hN : 0 < s * n + t * n') (a : SG p1 p2 q1 q2 x y n) (b : SG p1 p2 q1 q2 x' y' n') :
    SG p1 p2 q1 q2 (s * x + t * x') (s * y + t * y') (s * n + t * n') := by
  obtain ⟨u, v, hu, hv, huv, e1, e2⟩ := a
  obtain ⟨u', v', hu', hv', huv', f1, f2⟩ := b
  have k1 := Int.mul_nonneg hs (Int.le_of_lt hn)
  have k2 := Int.mul_nonneg ht (Int.le_of_lt hn')
  refine ⟨s * n * ((u' + v') * u) + t * n' * ((u + v) * u'), s * n * ((u' + v') * v) + t * n' * ((u + v) * v'), ?_, ?_, ?_, ?_, ?_⟩
  · exact Int.add_nonneg (Int.mul_nonneg k1 (Int.mul_nonneg (by omega) hu)) (Int.mul_nonneg k2 (Int.mul_nonneg (by omega) hu'))
  · exact Int.add_nonneg (Int.mul_nonneg k1 (Int.mul_nonneg (by omega) hv)) (Int.mul_nonneg k2 (Int.mul_nonneg (by omega) hv'))
  · have e : s * n * ((u' + v') * u) + t * n' * ((u + v) * u') + (s * n * ((u' + v') * v) + t * n' * ((u + v) * v')) = (s * n + t * n') * ((u + v) * (u' + v')) := by grind
    rw [e]
    exact Int.mul_pos hN (Int.mul_pos huv huv')
  · grind
  · grind
theorem InP_lin {X Y : Nat → Int} {c : Nat} {x y n x' y' n' s t : Int} (hs : 0 ≤ s) (ht : 0 ≤ t) (hn : 0 < n) (hn' : 0 < n') (hN : 0 < s * n + t * n') (a : InP X Y c x y n) (b : InP X Y c x' y' n') :
    InP X Y c (s * x + t * x') (s * y + t * y') (s * n + t * n') :=
  ⟨fun h i hi => by
    rw [lf_lin]
    exact Int.add_nonneg (Int.mul_nonneg hs (a.1 h i hi)) (Int.mul_nonneg ht (b.1 h i hi)), fun h => SG_lin hs ht hn hn' hN (a.2 h) (b.2 h)⟩
theorem InP_v {X Y : Nat → Int} {c : Nat} (H : PG X Y c) {j : Nat} (hj : j < c) : InP X Y c (X j) (Y j) 1 := by
  refine ⟨fun h i hi => (H.2 h i hi).1 j hj, fun h => ?_⟩
  by_cases z : j = 0
  · subst z
    exact SG_p _ _ _ _
  · have : nx c 0 = j := by
      unfold nx
      rw [if_neg (by omega)]
      omega
    rw [this]
    exact SG_q _ _ _ _
/-- on a side's line and in the hull: on the side -/
theorem face {X Y : Nat → Int} {c : Nat} (H : PG X Y c) (h3 : 3 ≤ c) {x y n : Int} (hn : 0 < n) (hz : ∀ i, i < c → 0 ≤ lf X Y c i x y n) {j : Nat} (hj : j < c) (e : lf X Y c j x y n = 0) :
    SG (X j) (Y j) (X (nx c j)) (Y (nx c j)) x y n := by
  obtain ⟨o, ho, eo⟩ := nx_pre hj
  have D1 := (H.2 h3 o ho).2
  rw [eo] at D1
  have D2 := (H.2 h3 j hj).2
  have T1 := hz o ho
  have T2 := hz (nx c j) (nx_lt hj)
  have a1 : lf X Y c o (X (nx c j)) (Y (nx c j)) 1 * (x - n * X j) = lf X Y c o x y n * (X (nx c j) - X j) := by
    unfold lf at *
    rw [eo] at *
    grind
  have a2 : lf X Y c o (X (nx c j)) (Y (nx c j)) 1 * (y - n * Y j) = lf X Y c o x y n * (Y (nx c j) - Y j) := by
    unfold lf at *
    rw [eo] at *
    grind
  have b1 : lf X Y c j (X (nx c (nx c j))) (Y (nx c (nx c j))) 1 * (n * X (nx c j) - x) = lf X Y c (nx c j) x y n * (X (nx c j) - X j) := by
    unfold lf at *
    grind
  have b2 : lf X Y c j (X (nx c (nx c j))) (Y (nx c (nx c j))) 1 * (n * Y (nx c j) - y) = lf X Y c (nx c j) x y n * (Y (nx c j) - Y j) := by
    unfold lf at *
    grind
  have nd : X (nx c j) - X j ≠ 0 ∨ Y (nx c j) - Y j ≠ 0 := by
    by_cases z : X (nx c j) - X j = 0 ∧ Y (nx c j) - Y j = 0
    · unfold lf at D2
      rw [z.1, z.2, Int.zero_mul, Int.zero_mul] at D2
      exact absurd D2 (by decide)
    · omega
  generalize lf X Y c o (X (nx c j)) (Y (nx c j)) 1 = d1 at *
  generalize lf X Y c j (X (nx c (nx c j))) (Y (nx c (nx c j))) 1 = d2 at *
  generalize lf X Y c o x y n = t1 at *
  generalize lf X Y c (nx c j) x y n = t2 at *
  have s0 : 0 ≤ n * d1 - t1 := by
    refine nn_of D2 ?_
    have g : d2 * (n * d1 - t1) = t2 * d1 := by
      rcases nd with z | z
      · have k : (X (nx c j) - X j) * (d2 * (n * d1 - t1) - t2 * d1) = 0 := by grind
        rcases Int.mul_eq_zero.1 k with w | w
        · exact absurd w z
        · omega
      · have k : (Y (nx c j) - Y j) * (d2 * (n * d1 - t1) - t2 * d1) = 0 := by grind
        rcases Int.mul_eq_zero.1 k with w | w
        · exact absurd w z
        · omega
    rw [g]
    exact Int.mul_nonneg T2 (Int.le_of_lt D1)
  have p := Int.mul_pos hn D1
  exact ⟨n * d1 - t1, t1, s0, T1, by omega, by grind, by grind⟩
/-- a place in the hull is no farther along any way than some corner -/
theorem cone {X Y : Nat → Int} {c : Nat} (H : PG X Y c) (h3 : 3 ≤ c) {x y : Int} (hz : ∀ i, i < c → 0 ≤ lf X Y c i x y 1) (u v : Int) : ∃ i, i < c ∧ u * X i + v * Y i ≤ u * x + v * y := by
  have f := fiF_ok (fun i => -(u * X i + v * Y i)) (c - 1)
  have g := mxF_ge (fun i => -(u * X i + v * Y i)) (c - 1)
  generalize fiF (fun i => -(u * X i + v * Y i)) (c - 1) = i at *
  have hi : i < c := by omega
  obtain ⟨o, ho, eo⟩ := nx_pre hi
  have D1 := (H.2 h3 o ho).2
  rw [eo] at D1
  have m1 := g o (by omega)
  have m2 := g (nx c i) (by have := nx_lt hi; omega)
  have f1 := f.2.1
  try dsimp only at m1 m2 f1
  have T1 := hz o ho
  have T2 := hz i hi
  have id : lf X Y c o (X (nx c i)) (Y (nx c i)) 1 * ((u * x + v * y) - (u * X i + v * Y i)) = lf X Y c i x y 1 * ((u * X o + v * Y o) - (u * X i + v * Y i)) + lf X Y c o x y 1 * ((u * X (nx c i) + v * Y (nx c i)) - (u * X i + v * Y i)) := by
    unfold lf
    rw [eo]
    grind
  have q1 := Int.mul_nonneg T2 (show 0 ≤ (u * X o + v * Y o) - (u * X i + v * Y i) by omega)
  have q2 := Int.mul_nonneg T1 (show 0 ≤ (u * X (nx c i) + v * Y (nx c i)) - (u * X i + v * Y i) by omega)
  have := nn_of D1 (show 0 ≤ lf X Y c o (X (nx c i)) (Y (nx c i)) 1 * ((u * x + v * y) - (u * X i + v * Y i)) by omega)
  exact ⟨i, hi, by omega⟩
