/-! ===== meets: the class asks what the model asks ===== -/
def dX (X : Nat → Int) (c i : Nat) : Int := X (nx c i) - X i
/-- what the class asks -/
def NAP (X Y : Nat → Int) (c : Nat) (X' Y' : Nat → Int) (c' : Nat) : Prop :=
  ¬ AP X Y c X' Y' c' 1 0 ∧ ¬ AP X Y c X' Y' c' 0 1 ∧ (∀ i, i < c → ¬ AP X Y c X' Y' c' (dX X c i) (dX Y c i) ∧ ¬ AP X Y c X' Y' c' (-dX Y c i) (dX X c i)) ∧
  (∀ i, i < c' → ¬ AP X Y c X' Y' c' (dX X' c' i) (dX Y' c' i) ∧ ¬ AP X Y c X' Y' c' (-dX Y' c' i) (dX X' c' i))
theorem mt_sq (a : Int) : 0 ≤ a * a := by
  rcases Int.le_total 0 a with h | h
  · exact Int.mul_nonneg h h
  · exact Int.mul_nonneg_of_nonpos_of_nonpos h h
theorem sq_z {a b : Int} (h : a * a + b * b = 0) : a = 0 ∧ b = 0 := by
  have h1 := mt_sq a
  have h2 := mt_sq b
  have e1 := Int.mul_eq_zero.1 (show a * a = 0 by omega)
  have e2 := Int.mul_eq_zero.1 (show b * b = 0 by omega)
  omega
theorem InP_of {X Y : Nat → Int} {c : Nat} (H : PG X Y c) {x y n : Int} (hn : 0 < n)
    (g : ∀ u v, (u = 1 ∧ v = 0) ∨ (u = 0 ∧ v = 1) ∨ (∃ i, i < c ∧ ((u = dX X c i ∧ v = dX Y c i) ∨ (u = -dX Y c i ∧ v = dX X c i))) → mnF (aL X Y u v) (c - 1) * n ≤ u * x + v * y ∧ u * x + v * y ≤ mxF (aL X Y u v) (c - 1) * n) : InP X Y c x y n := by
  have mon : ∀ a b : Int, a ≤ b → a * n ≤ b * n := fun a b h => Int.mul_le_mul_of_nonneg_right h (Int.le_of_lt hn)
  refine ⟨fun h3 i hi => ?_, fun h2 => ?_⟩
  · have e := (g (-dX Y c i) (dX X c i) (Or.inr (Or.inr ⟨i, hi, Or.inr ⟨rfl, rfl⟩⟩))).1
    obtain ⟨j, hj, ej⟩ := mnF_at (aL X Y (-dX Y c i) (dX X c i)) (c - 1)
    rw [← ej] at e
    have s := (H.2 h3 i hi).1 j (by omega)
    have m := mon (aL X Y (-dX Y c i) (dX X c i) i) (aL X Y (-dX Y c i) (dX X c i) j) (by
      have k : lf X Y c i (X j) (Y j) 1 = aL X Y (-dX Y c i) (dX X c i) j - aL X Y (-dX Y c i) (dX X c i) i := by
        unfold lf aL dX
        grind
      omega)
    have k : lf X Y c i x y n = -dX Y c i * x + dX X c i * y - aL X Y (-dX Y c i) (dX X c i) i * n := by
      unfold lf aL dX
      grind
    omega
  · have h0 := H.1
    have two : ∀ j, j < c → j = 0 ∨ j = nx c 0 := fun j hj => by
      unfold nx
      split <;> omega
    by_cases z : dX X c 0 * dX X c 0 + dX Y c 0 * dX Y c 0 = 0
    · have z' := sq_z z
      have ex : ∀ j, j < c → X j = X 0 ∧ Y j = Y 0 := fun j hj => by
        rcases two j hj with e | e
        · rw [e]
          exact ⟨rfl, rfl⟩
        · have a := z'.1
          have b := z'.2
          unfold dX at a b
          rw [e]
          omega
      have e1 := g 1 0 (Or.inl ⟨rfl, rfl⟩)
      have e2 := g 0 1 (Or.inr (Or.inl ⟨rfl, rfl⟩))
      obtain ⟨j1, k1, l1⟩ := mnF_at (aL X Y 1 0) (c - 1)
      obtain ⟨j2, k2, l2⟩ := mxF_at (aL X Y 1 0) (c - 1)
      obtain ⟨j3, k3, l3⟩ := mnF_at (aL X Y 0 1) (c - 1)
      obtain ⟨j4, k4, l4⟩ := mxF_at (aL X Y 0 1) (c - 1)
      have v1 : ∀ j, j < c → aL X Y 1 0 j = X 0 := fun j hj => by
        unfold aL
        rw [(ex j hj).1]
        omega
      have v2 : ∀ j, j < c → aL X Y 0 1 j = Y 0 := fun j hj => by
        unfold aL
        rw [(ex j hj).2]
        omega
      rw [← l1, ← l2, v1 j1 (by omega), v1 j2 (by omega)] at e1
      rw [← l3, ← l4, v2 j3 (by omega), v2 j4 (by omega)] at e2
      refine ⟨1, 0, by decide, by decide, by decide, ?_, ?_⟩
      · have : (1 * X 0 + 0 * X (nx c 0)) * n = X 0 * n := by grind
        omega
      · have : (1 * Y 0 + 0 * Y (nx c 0)) * n = Y 0 * n := by grind
        omega
    · have P : 0 < dX X c 0 * dX X c 0 + dX Y c 0 * dX Y c 0 := by
        have := mt_sq (dX X c 0)
        have := mt_sq (dX Y c 0)
        omega
      have e1 := g (dX X c 0) (dX Y c 0) (Or.inr (Or.inr ⟨0, h0, Or.inl ⟨rfl, rfl⟩⟩))
      have e2 := g (-dX Y c 0) (dX X c 0) (Or.inr (Or.inr ⟨0, h0, Or.inr ⟨rfl, rfl⟩⟩))
      obtain ⟨j1, k1, l1⟩ := mnF_at (aL X Y (dX X c 0) (dX Y c 0)) (c - 1)
      obtain ⟨j2, k2, l2⟩ := mxF_at (aL X Y (dX X c 0) (dX Y c 0)) (c - 1)
      obtain ⟨j3, k3, l3⟩ := mnF_at (aL X Y (-dX Y c 0) (dX X c 0)) (c - 1)
      obtain ⟨j4, k4, l4⟩ := mxF_at (aL X Y (-dX Y c 0) (dX X c 0)) (c - 1)
      have df : aL X Y (dX X c 0) (dX Y c 0) (nx c 0) = aL X Y (dX X c 0) (dX Y c 0) 0 + (dX X c 0 * dX X c 0 + dX Y c 0 * dX Y c 0) := by
        unfold aL dX
        grind
      have dn : aL X Y (-dX Y c 0) (dX X c 0) (nx c 0) = aL X Y (-dX Y c 0) (dX X c 0) 0 := by
        unfold aL dX
        grind
      have r1 := mon (aL X Y (dX X c 0) (dX Y c 0) 0) (mnF (aL X Y (dX X c 0) (dX Y c 0)) (c - 1)) (by
        rw [← l1]
        rcases two j1 (by omega) with e | e <;> rw [e] <;> omega)
      have r2 := mon (mxF (aL X Y (dX X c 0) (dX Y c 0)) (c - 1)) (aL X Y (dX X c 0) (dX Y c 0) 0 + (dX X c 0 * dX X c 0 + dX Y c 0 * dX Y c 0)) (by
        rw [← l2]
        rcases two j2 (by omega) with e | e <;> rw [e] <;> omega)
      have r3 : mnF (aL X Y (-dX Y c 0) (dX X c 0)) (c - 1) = aL X Y (-dX Y c 0) (dX X c 0) 0 := by
        rw [← l3]
        rcases two j3 (by omega) with e | e <;> rw [e]
        exact dn
      have r4 : mxF (aL X Y (-dX Y c 0) (dX X c 0)) (c - 1) = aL X Y (-dX Y c 0) (dX X c 0) 0 := by
        rw [← l4]
        rcases two j4 (by omega) with e | e <;> rw [e]
        exact dn
      rw [r3, r4] at e2
      have col : dX X c 0 * (y - n * Y 0) - dX Y c 0 * (x - n * X 0) = 0 := by
        have : dX X c 0 * (y - n * Y 0) - dX Y c 0 * (x - n * X 0) = -dX Y c 0 * x + dX X c 0 * y - aL X Y (-dX Y c 0) (dX X c 0) 0 * n := by
          unfold aL
          grind
        omega
      have ph : dX X c 0 * (x - n * X 0) + dX Y c 0 * (y - n * Y 0) = dX X c 0 * x + dX Y c 0 * y - aL X Y (dX X c 0) (dX Y c 0) 0 * n := by
        unfold aL
        grind
      rw [Int.add_mul] at r2
      have q1 : X (nx c 0) = X 0 + dX X c 0 := by unfold dX; omega
      have q2 : Y (nx c 0) = Y 0 + dX Y c 0 := by unfold dX; omega
      rw [q1, q2]
      have f0 : 0 ≤ dX X c 0 * (x - n * X 0) + dX Y c 0 * (y - n * Y 0) := by omega
      have f1 : dX X c 0 * (x - n * X 0) + dX Y c 0 * (y - n * Y 0) ≤ (dX X c 0 * dX X c 0 + dX Y c 0 * dX Y c 0) * n := by omega
      have Pn := Int.mul_pos P hn
      clear e1 e2 r1 r2 r3 r4 ph df dn l1 l2 l3 l4
      generalize dX X c 0 = d at *
      generalize dX Y c 0 = e at *
      generalize X 0 = a at *
      generalize Y 0 = b at *
      refine ⟨(d * d + e * e) * n - (d * (x - n * a) + e * (y - n * b)), d * (x - n * a) + e * (y - n * b), by omega, f0, by omega, ?_, ?_⟩
      · have k : e * (d * (y - n * b) - e * (x - n * a)) = 0 := by rw [col, Int.mul_zero]
        grind
      · have k : d * (d * (y - n * b) - e * (x - n * a)) = 0 := by rw [col, Int.mul_zero]
        grind
theorem meet_iff {X Y X' Y' : Nat → Int} {c c' : Nat} (H : PG X Y c) (H' : PG X' Y' c') : MTM X Y c X' Y' c' ↔ NAP X Y c X' Y' c' := by
  constructor
  · intro h
    have k := MTM_AP H H' h
    exact ⟨k _ _, k _ _, fun i _ => ⟨k _ _, k _ _⟩, fun i _ => ⟨k _ _, k _ _⟩⟩
  · rintro ⟨n1, n2, n3, n4⟩
    obtain ⟨x, y, n, hn, g⟩ := all_ways (X := X) (Y := Y) (X' := X') (Y' := Y') H.1 H'.1 ((1, 0) :: (0, 1) :: ((List.range c).flatMap (fun i => [(dX X c i, dX Y c i), (-dX Y c i, dX X c i)]) ++ (List.range c').flatMap (fun i => [(dX X' c' i, dX Y' c' i), (-dX Y' c' i, dX X' c' i)]))) (by simp) (fun w hw => by
      rcases List.mem_cons.1 hw with e | hw
      · rw [e]
        exact n1
      rcases List.mem_cons.1 hw with e | hw
      · rw [e]
        exact n2
      rcases List.mem_append.1 hw with hw | hw
      · obtain ⟨i, hi, m⟩ := List.mem_flatMap.1 hw
        simp only [List.mem_cons, List.not_mem_nil, or_false] at m
        rcases m with e | e <;> rw [e]
        · exact (n3 i (List.mem_range.1 hi)).1
        · exact (n3 i (List.mem_range.1 hi)).2
      · obtain ⟨i, hi, m⟩ := List.mem_flatMap.1 hw
        simp only [List.mem_cons, List.not_mem_nil, or_false] at m
        rcases m with e | e <;> rw [e]
        · exact (n4 i (List.mem_range.1 hi)).1
        · exact (n4 i (List.mem_range.1 hi)).2)
    refine share_MTM (x := x) (y := y) H H' hn (InP_of H hn (fun u v h => ?_)) (InP_of H' hn (fun u v h => ?_))
    · have q := g (u, v) (by
        rcases h with ⟨e1, e2⟩ | ⟨e1, e2⟩ | ⟨i, hi, h⟩
        · subst e1 e2
          exact List.mem_cons_self
        · subst e1 e2
          exact List.mem_cons_of_mem _ List.mem_cons_self
        · refine List.mem_cons_of_mem _ (List.mem_cons_of_mem _ (List.mem_append.2 (Or.inl (List.mem_flatMap.2 ⟨i, List.mem_range.2 hi, ?_⟩))))
          rcases h with ⟨e1, e2⟩ | ⟨e1, e2⟩ <;> subst e1 e2 <;> simp)
      exact ⟨q.1, q.2.1⟩
    · have q := g (u, v) (by
        rcases h with ⟨e1, e2⟩ | ⟨e1, e2⟩ | ⟨i, hi, h⟩
        · subst e1 e2
          exact List.mem_cons_self
        · subst e1 e2
          exact List.mem_cons_of_mem _ List.mem_cons_self
        · refine List.mem_cons_of_mem _ (List.mem_cons_of_mem _ (List.mem_append.2 (Or.inr (List.mem_flatMap.2 ⟨i, List.mem_range.2 hi, ?_⟩))))
          rcases h with ⟨e1, e2⟩ | ⟨e1, e2⟩ <;> subst e1 e2 <;> simp)
      exact ⟨q.2.2.1, q.2.2.2⟩
