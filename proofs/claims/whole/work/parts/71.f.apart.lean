/-! ===== meets: apart along no way just if they meet ===== -/
theorem mnF_at (f : Nat → Int) : ∀ n, ∃ i, i ≤ n ∧ f i = mnF f n
  | 0 => ⟨0, Nat.le_refl _, rfl⟩
  | n + 1 => by
    obtain ⟨i, hi, e⟩ := mnF_at f n
    by_cases q : f (n + 1) ≤ mnF f n
    · refine ⟨n + 1, Nat.le_refl _, ?_⟩
      have h1 : mnF f (n + 1) ≤ f (n + 1) := mnF_le f (n + 1) (n + 1) (Nat.le_refl _)
      have e1 : mnF f (n + 1) = min (mnF f n) (f (n + 1)) := rfl
      omega
    · refine ⟨i, by omega, ?_⟩
      have e1 : mnF f (n + 1) = min (mnF f n) (f (n + 1)) := rfl
      omega
theorem mxF_at (f : Nat → Int) (n : Nat) : ∃ i, i ≤ n ∧ f i = mxF f n := ⟨fiF f n, (fiF_ok f n).1, (fiF_ok f n).2.1⟩
def aL (X Y : Nat → Int) (u v : Int) (i : Nat) : Int := u * X i + v * Y i
def AP (X Y : Nat → Int) (c : Nat) (X' Y' : Nat → Int) (c' : Nat) (u v : Int) : Prop := mxF (aL X Y u v) (c - 1) < mnF (aL X' Y' u v) (c' - 1) ∨ mxF (aL X' Y' u v) (c' - 1) < mnF (aL X Y u v) (c - 1)
theorem SHR_AP {X Y X' Y' : Nat → Int} {c c' i i2 j j2 : Nat} (hi : i < c) (hi2 : i2 < c) (hj : j < c') (hj2 : j2 < c') (h : SHR (X i) (Y i) (X i2) (Y i2) (X' j) (Y' j) (X' j2) (Y' j2)) (u v : Int) : ¬ AP X Y c X' Y' c' u v := by
  obtain ⟨s, t, s', t', hs, ht, hs', ht', hn, hn', e1, e2⟩ := h
  have e : s * aL X Y u v i + t * aL X Y u v i2 = s' * aL X' Y' u v j + t' * aL X' Y' u v j2 := by
    have a : s * aL X Y u v i + t * aL X Y u v i2 = u * (s * X i + t * X i2) + v * (s * Y i + t * Y i2) := by
      unfold aL
      grind
    have b : s' * aL X' Y' u v j + t' * aL X' Y' u v j2 = u * (s' * X' j + t' * X' j2) + v * (s' * Y' j + t' * Y' j2) := by
      unfold aL
      grind
    rw [a, b, e1, e2]
  have x1 := mxF_ge (aL X Y u v) (c - 1) i (by omega)
  have x2 := mxF_ge (aL X Y u v) (c - 1) i2 (by omega)
  have y1 := mnF_le (aL X Y u v) (c - 1) i (by omega)
  have y2 := mnF_le (aL X Y u v) (c - 1) i2 (by omega)
  have x3 := mxF_ge (aL X' Y' u v) (c' - 1) j (by omega)
  have x4 := mxF_ge (aL X' Y' u v) (c' - 1) j2 (by omega)
  have y3 := mnF_le (aL X' Y' u v) (c' - 1) j (by omega)
  have y4 := mnF_le (aL X' Y' u v) (c' - 1) j2 (by omega)
  have k : ∀ {s t a b a' b' : Int}, 0 ≤ s → 0 ≤ t → a ≤ a' → b ≤ b' → s * a + t * b ≤ s * a' + t * b' := fun hs ht h1 h2 => Int.add_le_add (Int.mul_le_mul_of_nonneg_left h1 hs) (Int.mul_le_mul_of_nonneg_left h2 ht)
  have d : ∀ m : Int, s' * m + t' * m = (s + t) * m ∧ s * m + t * m = (s + t) * m := fun m => ⟨by rw [← Int.add_mul, hn'], by rw [← Int.add_mul]⟩
  rintro (w | w)
  · have a1 := k hs ht x1 x2
    have a2 := k hs' ht' y3 y4
    have a3 := (d (mxF (aL X Y u v) (c - 1))).2
    have a4 := (d (mnF (aL X' Y' u v) (c' - 1))).1
    have a5 := Int.mul_lt_mul_of_pos_left w hn
    omega
  · have a1 := k hs' ht' x3 x4
    have a2 := k hs ht y1 y2
    have a3 := (d (mxF (aL X' Y' u v) (c' - 1))).1
    have a4 := (d (mnF (aL X Y u v) (c - 1))).2
    have a5 := Int.mul_lt_mul_of_pos_left w hn
    omega
theorem cone_AP {X Y X' Y' : Nat → Int} {c c' : Nat} (h0 : 0 < c) (H : PG X' Y' c') (h3 : 3 ≤ c') (hz : ∀ i, i < c' → 0 ≤ lf X' Y' c' i (X 0) (Y 0) 1) (u v : Int) : ¬ AP X Y c X' Y' c' u v := by
  obtain ⟨j, hj, e1⟩ := cone H h3 hz u v
  obtain ⟨k, hk, e2⟩ := cone H h3 hz (-u) (-v)
  rw [Int.neg_mul, Int.neg_mul, Int.neg_mul, Int.neg_mul] at e2
  have x1 : aL X Y u v 0 ≤ _ := mxF_ge (aL X Y u v) (c - 1) 0 (by omega)
  have y1 : _ ≤ aL X Y u v 0 := mnF_le (aL X Y u v) (c - 1) 0 (by omega)
  have x2 : aL X' Y' u v k ≤ _ := mxF_ge (aL X' Y' u v) (c' - 1) k (by omega)
  have y2 : _ ≤ aL X' Y' u v j := mnF_le (aL X' Y' u v) (c' - 1) j (by omega)
  have r1 : aL X Y u v 0 = u * X 0 + v * Y 0 := rfl
  have r2 : aL X' Y' u v k = u * X' k + v * Y' k := rfl
  have r3 : aL X' Y' u v j = u * X' j + v * Y' j := rfl
  rintro (w | w) <;> omega
theorem MTM_AP {X Y X' Y' : Nat → Int} {c c' : Nat} (H : PG X Y c) (H' : PG X' Y' c') (h : MTM X Y c X' Y' c') (u v : Int) : ¬ AP X Y c X' Y' c' u v := by
  rcases h with ⟨h3, h⟩ | ⟨h3, h⟩ | ⟨i, j, hi, hj, h⟩
  · exact cone_AP H.1 H' h3 h u v
  · exact fun q => cone_AP H'.1 H h3 h u v q.symm
  · exact SHR_AP hi (nx_lt hi) hj (nx_lt hj) (DC_SHR h) u v
def HPg (u v m : Int) : Int → Int → Int → Prop := fun x y n => m * n ≤ u * x + v * y
theorem CC_HPg (u v m : Int) : CC (HPg u v m) := fun x y n x' y' n' s t hs ht h h' => by
  unfold HPg at *
  have a := Int.mul_le_mul_of_nonneg_left h hs
  have b := Int.mul_le_mul_of_nonneg_left h' ht
  have e1 : m * (s * n + t * n') = s * (m * n) + t * (m * n') := by grind
  have e2 : u * (s * x + t * x') + v * (s * y + t * y') = s * (u * x + v * y) + t * (u * x' + v * y') := by grind
  omega
/-- for every way of a list: within the stretch of both -/
theorem all_ways {X Y X' Y' : Nat → Int} {c c' : Nat} (h0 : 0 < c) (h0' : 0 < c') (U : List (Int × Int)) (hne : U ≠ []) (h : ∀ w, w ∈ U → ¬ AP X Y c X' Y' c' w.1 w.2) :
    ∃ x y n, 0 < n ∧ ∀ w, w ∈ U → mnF (aL X Y w.1 w.2) (c - 1) * n ≤ w.1 * x + w.2 * y ∧ w.1 * x + w.2 * y ≤ mxF (aL X Y w.1 w.2) (c - 1) * n ∧
      mnF (aL X' Y' w.1 w.2) (c' - 1) * n ≤ w.1 * x + w.2 * y ∧ w.1 * x + w.2 * y ≤ mxF (aL X' Y' w.1 w.2) (c' - 1) * n := by
  have mem : ∀ S, S ∈ U.flatMap (fun w => [HPg w.1 w.2 (mnF (aL X Y w.1 w.2) (c - 1)), HPg (-w.1) (-w.2) (-mxF (aL X Y w.1 w.2) (c - 1)), HPg w.1 w.2 (mnF (aL X' Y' w.1 w.2) (c' - 1)), HPg (-w.1) (-w.2) (-mxF (aL X' Y' w.1 w.2) (c' - 1))]) →
      CC S ∧ (((∀ i, i < c → S (X i) (Y i) 1) ∧ ∃ j, j < c' ∧ S (X' j) (Y' j) 1) ∨ ((∀ j, j < c' → S (X' j) (Y' j) 1) ∧ ∃ i, i < c ∧ S (X i) (Y i) 1)) := fun S hS => by
    obtain ⟨w, hw, m⟩ := List.mem_flatMap.1 hS
    have na := h w hw
    unfold AP at na
    simp only [List.mem_cons, List.not_mem_nil, or_false] at m
    have a1 := fun i => mnF_le (aL X Y w.1 w.2) (c - 1) i
    have a2 := fun i => mxF_ge (aL X Y w.1 w.2) (c - 1) i
    have b1 := fun i => mnF_le (aL X' Y' w.1 w.2) (c' - 1) i
    have b2 := fun i => mxF_ge (aL X' Y' w.1 w.2) (c' - 1) i
    obtain ⟨i1, j1, k1⟩ := mnF_at (aL X Y w.1 w.2) (c - 1)
    obtain ⟨i2, j2, k2⟩ := mxF_at (aL X Y w.1 w.2) (c - 1)
    obtain ⟨i3, j3, k3⟩ := mnF_at (aL X' Y' w.1 w.2) (c' - 1)
    obtain ⟨i4, j4, k4⟩ := mxF_at (aL X' Y' w.1 w.2) (c' - 1)
    have up : ∀ (x y m : Int), m ≤ w.1 * x + w.2 * y → HPg w.1 w.2 m x y 1 := fun x y m q => by
      unfold HPg
      omega
    have dn : ∀ (x y m : Int), w.1 * x + w.2 * y ≤ m → HPg (-w.1) (-w.2) (-m) x y 1 := fun x y m q => by
      unfold HPg
      have e1 := Int.neg_mul w.1 x
      have e2 := Int.neg_mul w.2 y
      omega
    rcases m with e | e | e | e <;> subst e
    · exact ⟨CC_HPg _ _ _, Or.inl ⟨fun i hi => up _ _ _ (a1 i (by omega)), i4, by omega, up _ _ _ (by show _ ≤ aL X' Y' w.1 w.2 i4; omega)⟩⟩
    · exact ⟨CC_HPg _ _ _, Or.inl ⟨fun i hi => dn _ _ _ (a2 i (by omega)), i3, by omega, dn _ _ _ (by show aL X' Y' w.1 w.2 i3 ≤ _; omega)⟩⟩
    · exact ⟨CC_HPg _ _ _, Or.inr ⟨fun i hi => up _ _ _ (b1 i (by omega)), i2, by omega, up _ _ _ (by show _ ≤ aL X Y w.1 w.2 i2; omega)⟩⟩
    · exact ⟨CC_HPg _ _ _, Or.inr ⟨fun i hi => dn _ _ _ (b2 i (by omega)), i1, by omega, dn _ _ _ (by show aL X Y w.1 w.2 i1 ≤ _; omega)⟩⟩
  have key : ∀ L : List (Int → Int → Int → Prop), L ≠ [] → (∀ S, S ∈ L → CC S ∧ (((∀ i, i < c → S (X i) (Y i) 1) ∧ ∃ j, j < c' ∧ S (X' j) (Y' j) 1) ∨ ((∀ j, j < c' → S (X' j) (Y' j) 1) ∧ ∃ i, i < c ∧ S (X i) (Y i) 1))) → ∃ x y n, 0 < n ∧ ∀ S, S ∈ L → S x y n := fun L hL g => by
    have hl : L.length = (L.length - 1) + 1 := by
      cases L with
      | nil => exact absurd rfl hL
      | cons _ _ => rfl
    refine helly (L.length - 1) L hl (fun S hS => (g S hS).1) (fun A hA B hB C hC => ?_)
    have one : (0 : Int) < 1 := by decide
    rcases (g A hA).2 with ⟨a, i, hi, a'⟩ | ⟨a, i, hi, a'⟩ <;> rcases (g B hB).2 with ⟨b, j, hj, b'⟩ | ⟨b, j, hj, b'⟩ <;> rcases (g C hC).2 with ⟨d, k, hk, d'⟩ | ⟨d, k, hk, d'⟩
    · exact ⟨_, _, 1, one, a 0 h0, b 0 h0, d 0 h0⟩
    · exact ⟨_, _, 1, one, a k hk, b k hk, d'⟩
    · exact ⟨_, _, 1, one, a j hj, b', d j hj⟩
    · exact ⟨_, _, 1, one, a', b i hi, d i hi⟩
    · exact ⟨_, _, 1, one, a', b i hi, d i hi⟩
    · exact ⟨_, _, 1, one, a j hj, b', d j hj⟩
    · exact ⟨_, _, 1, one, a k hk, b k hk, d'⟩
    · exact ⟨_, _, 1, one, a 0 h0', b 0 h0', d 0 h0'⟩
  obtain ⟨x, y, n, hn, g⟩ := key _ (fun e => by
    cases U with
    | nil => exact hne rfl
    | cons w R =>
      rw [List.flatMap_cons] at e
      cases e) mem
  refine ⟨x, y, n, hn, fun w hw => ?_⟩
  have g1 := g (HPg w.1 w.2 (mnF (aL X Y w.1 w.2) (c - 1))) (List.mem_flatMap.2 ⟨w, hw, by simp⟩)
  have g2 := g (HPg (-w.1) (-w.2) (-mxF (aL X Y w.1 w.2) (c - 1))) (List.mem_flatMap.2 ⟨w, hw, by simp⟩)
  have g3 := g (HPg w.1 w.2 (mnF (aL X' Y' w.1 w.2) (c' - 1))) (List.mem_flatMap.2 ⟨w, hw, by simp⟩)
  have g4 := g (HPg (-w.1) (-w.2) (-mxF (aL X' Y' w.1 w.2) (c' - 1))) (List.mem_flatMap.2 ⟨w, hw, by simp⟩)
  unfold HPg at g1 g2 g3 g4
  rw [Int.neg_mul, Int.neg_mul, Int.neg_mul] at g2 g4
  exact ⟨g1, by omega, g3, by omega⟩
