/-! ===== meets: three at a time, all at once ===== -/
def CC (S : Int → Int → Int → Prop) : Prop := ∀ x y n x' y' n' s t, 0 ≤ s → 0 ≤ t → S x y n → S x' y' n' → S (s * x + t * x') (s * y + t * y') (s * n + t * n')
theorem CC_and {S T : Int → Int → Int → Prop} (a : CC S) (b : CC T) : CC (fun x y n => S x y n ∧ T x y n) := fun _ _ _ _ _ _ _ _ hs ht p q => ⟨a _ _ _ _ _ _ _ _ hs ht p.1 q.1, b _ _ _ _ _ _ _ _ hs ht p.2 q.2⟩
theorem CC_3 {S : Int → Int → Int → Prop} (h : CC S) {x y n x' y' n' x2 y2 n2 p q r : Int} (hp : 0 ≤ p) (hq : 0 ≤ q) (hr : 0 ≤ r) (a : S x y n) (b : S x' y' n') (c : S x2 y2 n2) :
    S (p * x + q * x' + r * x2) (p * y + q * y' + r * y2) (p * n + q * n' + r * n2) := by
  have e := h _ _ _ _ _ _ 1 r (by decide) hr (h _ _ _ _ _ _ p q hp hq a b) c
  rw [Int.one_mul, Int.one_mul, Int.one_mul] at e
  exact e
theorem radon {x1 y1 n1 x2 y2 n2 x3 y3 n3 x4 y4 n4 : Int} (h2 : 0 < n2) :
    ∃ a b c d : Int, (a ≠ 0 ∨ b ≠ 0 ∨ c ≠ 0 ∨ d ≠ 0) ∧ a * x1 + b * x2 + c * x3 + d * x4 = 0 ∧ a * y1 + b * y2 + c * y3 + d * y4 = 0 ∧ a * n1 + b * n2 + c * n3 + d * n4 = 0 := by
  by_cases q : x2 * (y3 * n4 - y4 * n3) - x3 * (y2 * n4 - y4 * n2) + x4 * (y2 * n3 - y3 * n2) = 0 ∧ x1 * (y3 * n4 - y4 * n3) - x3 * (y1 * n4 - y4 * n1) + x4 * (y1 * n3 - y3 * n1) = 0 ∧
      x1 * (y2 * n4 - y4 * n2) - x2 * (y1 * n4 - y4 * n1) + x4 * (y1 * n2 - y2 * n1) = 0 ∧ x1 * (y2 * n3 - y3 * n2) - x2 * (y1 * n3 - y3 * n1) + x3 * (y1 * n2 - y2 * n1) = 0
  · have q4 := q.2.2.2
    by_cases r : x2 * n3 - x3 * n2 = 0 ∧ x3 * n1 - x1 * n3 = 0 ∧ x1 * n2 - x2 * n1 = 0
    · by_cases s : y2 * n3 - y3 * n2 = 0 ∧ y3 * n1 - y1 * n3 = 0 ∧ y1 * n2 - y2 * n1 = 0
      · refine ⟨n2, -n1, 0, 0, Or.inl (by omega), ?_, ?_, ?_⟩
        · have := r.2.2
          grind
        · have := s.2.2
          grind
        · grind
      · exact ⟨y2 * n3 - y3 * n2, y3 * n1 - y1 * n3, y1 * n2 - y2 * n1, 0, by omega, by grind, by grind, by grind⟩
    · exact ⟨x2 * n3 - x3 * n2, x3 * n1 - x1 * n3, x1 * n2 - x2 * n1, 0, by omega, by grind, by grind, by grind⟩
  · exact ⟨x2 * (y3 * n4 - y4 * n3) - x3 * (y2 * n4 - y4 * n2) + x4 * (y2 * n3 - y3 * n2), -(x1 * (y3 * n4 - y4 * n3) - x3 * (y1 * n4 - y4 * n1) + x4 * (y1 * n3 - y3 * n1)),
      x1 * (y2 * n4 - y4 * n2) - x2 * (y1 * n4 - y4 * n1) + x4 * (y1 * n2 - y2 * n1), -(x1 * (y2 * n3 - y3 * n2) - x2 * (y1 * n3 - y3 * n1) + x3 * (y1 * n2 - y2 * n1)), by omega, by grind, by grind, by grind⟩
theorem sp_eq {a b c d x1 x2 x3 x4 : Int} (h : a * x1 + b * x2 + c * x3 + d * x4 = 0) : max a 0 * x1 + max b 0 * x2 + max c 0 * x3 + max d 0 * x4 = max (-a) 0 * x1 + max (-b) 0 * x2 + max (-c) 0 * x3 + max (-d) 0 * x4 := by
  have f : ∀ a x : Int, max a 0 * x = max (-a) 0 * x + a * x := fun a x => by
    rw [← Int.add_mul]
    congr 1
    omega
  have := f a x1
  have := f b x2
  have := f c x3
  have := f d x4
  omega
theorem helly4 {A B C D : Int → Int → Int → Prop} (hA : CC A) (hB : CC B) (hC : CC C) (hD : CC D) {x1 y1 n1 x2 y2 n2 x3 y3 n3 x4 y4 n4 : Int} (p1 : 0 < n1) (p2 : 0 < n2) (p3 : 0 < n3) (p4 : 0 < n4)
    (h1 : B x1 y1 n1 ∧ C x1 y1 n1 ∧ D x1 y1 n1) (h2 : A x2 y2 n2 ∧ C x2 y2 n2 ∧ D x2 y2 n2) (h3 : A x3 y3 n3 ∧ B x3 y3 n3 ∧ D x3 y3 n3) (h4 : A x4 y4 n4 ∧ B x4 y4 n4 ∧ C x4 y4 n4) :
    ∃ x y n, 0 < n ∧ A x y n ∧ B x y n ∧ C x y n ∧ D x y n := by
  obtain ⟨a, b, c, d, ne, ex, ey, en⟩ := radon (x1 := x1) (y1 := y1) (n1 := n1) (x2 := x2) (y2 := y2) (x3 := x3) (y3 := y3) (n3 := n3) (x4 := x4) (y4 := y4) (n4 := n4) p2
  have gx := sp_eq ex
  have gy := sp_eq ey
  have gn := sp_eq en
  have nn : ∀ a : Int, 0 ≤ max a 0 := fun a => by omega
  have k : ∀ (a n : Int), 0 < n → 0 ≤ max a 0 * n ∧ (0 < a → 0 < max a 0 * n) := fun a n h => ⟨Int.mul_nonneg (nn a) (by omega), fun q => Int.mul_pos (by omega) h⟩
  have z : ∀ (a x : Int), a ≤ 0 → max a 0 * x = 0 := fun a x h => by rw [show max a 0 = 0 by omega, Int.zero_mul]
  refine ⟨max a 0 * x1 + max b 0 * x2 + max c 0 * x3 + max d 0 * x4, max a 0 * y1 + max b 0 * y2 + max c 0 * y3 + max d 0 * y4, max a 0 * n1 + max b 0 * n2 + max c 0 * n3 + max d 0 * n4, ?_, ?_, ?_, ?_, ?_⟩
  · have k1 := k a n1 p1
    have k2 := k b n2 p2
    have k3 := k c n3 p3
    have k4 := k d n4 p4
    have j1 := k (-a) n1 p1
    have j2 := k (-b) n2 p2
    have j3 := k (-c) n3 p3
    have j4 := k (-d) n4 p4
    omega
  · by_cases q : a ≤ 0
    · rw [z a x1 q, z a y1 q, z a n1 q, Int.zero_add, Int.zero_add, Int.zero_add]
      exact CC_3 hA (nn b) (nn c) (nn d) h2.1 h3.1 h4.1
    · rw [gx, gy, gn, z (-a) x1 (by omega), z (-a) y1 (by omega), z (-a) n1 (by omega), Int.zero_add, Int.zero_add, Int.zero_add]
      exact CC_3 hA (nn _) (nn _) (nn _) h2.1 h3.1 h4.1
  · by_cases q : b ≤ 0
    · rw [z b x2 q, z b y2 q, z b n2 q, Int.add_zero, Int.add_zero, Int.add_zero]
      exact CC_3 hB (nn _) (nn _) (nn _) h1.1 h3.2.1 h4.2.1
    · rw [gx, gy, gn, z (-b) x2 (by omega), z (-b) y2 (by omega), z (-b) n2 (by omega), Int.add_zero, Int.add_zero, Int.add_zero]
      exact CC_3 hB (nn _) (nn _) (nn _) h1.1 h3.2.1 h4.2.1
  · by_cases q : c ≤ 0
    · rw [z c x3 q, z c y3 q, z c n3 q, Int.add_zero, Int.add_zero, Int.add_zero]
      exact CC_3 hC (nn _) (nn _) (nn _) h1.2.1 h2.2.1 h4.2.2
    · rw [gx, gy, gn, z (-c) x3 (by omega), z (-c) y3 (by omega), z (-c) n3 (by omega), Int.add_zero, Int.add_zero, Int.add_zero]
      exact CC_3 hC (nn _) (nn _) (nn _) h1.2.1 h2.2.1 h4.2.2
  · by_cases q : d ≤ 0
    · rw [z d x4 q, z d y4 q, z d n4 q, Int.add_zero, Int.add_zero, Int.add_zero]
      exact CC_3 hD (nn _) (nn _) (nn _) h1.2.2 h2.2.2 h3.2.2
    · rw [gx, gy, gn, z (-d) x4 (by omega), z (-d) y4 (by omega), z (-d) n4 (by omega), Int.add_zero, Int.add_zero, Int.add_zero]
      exact CC_3 hD (nn _) (nn _) (nn _) h1.2.2 h2.2.2 h3.2.2
theorem helly : ∀ (k : Nat) (L : List (Int → Int → Int → Prop)), L.length = k + 1 → (∀ S, S ∈ L → CC S) →
    (∀ A, A ∈ L → ∀ B, B ∈ L → ∀ C, C ∈ L → ∃ x y n, 0 < n ∧ A x y n ∧ B x y n ∧ C x y n) → ∃ x y n, 0 < n ∧ ∀ S, S ∈ L → S x y n
  | 0, [D], _, _, h => by
    obtain ⟨x, y, n, h0, h1, _⟩ := h D (List.mem_singleton.2 rfl) D (List.mem_singleton.2 rfl) D (List.mem_singleton.2 rfl)
    exact ⟨x, y, n, h0, fun S hS => by rw [List.mem_singleton.1 hS]; exact h1⟩
  | 0, [], hl, _, _ => absurd hl (by decide)
  | 0, _ :: _ :: _, hl, _, _ => by
    simp only [List.length_cons] at hl
    omega
  | k + 1, [], hl, _, _ => absurd hl (by simp)
  | k + 1, D :: R, hl, hc, h => by
    have mD : D ∈ D :: R := List.mem_cons_self
    have mR : ∀ S, S ∈ R → S ∈ D :: R := fun S hS => List.mem_cons_of_mem _ hS
    obtain ⟨x, y, n, h0, g⟩ := helly k (R.map (fun S x y n => S x y n ∧ D x y n)) (by rw [List.length_map]; simp only [List.length_cons] at hl; omega) (fun S hS => by
      obtain ⟨S', m, e⟩ := List.mem_map.1 hS
      subst e
      exact CC_and (hc S' (mR S' m)) (hc D mD)) (fun A hA B hB C hC => by
      obtain ⟨A', mA, e⟩ := List.mem_map.1 hA
      subst e
      obtain ⟨B', mB, e⟩ := List.mem_map.1 hB
      subst e
      obtain ⟨C', mC, e⟩ := List.mem_map.1 hC
      subst e
      obtain ⟨x1, y1, n1, p1, a1⟩ := h B' (mR _ mB) C' (mR _ mC) D mD
      obtain ⟨x2, y2, n2, p2, a2⟩ := h A' (mR _ mA) C' (mR _ mC) D mD
      obtain ⟨x3, y3, n3, p3, a3⟩ := h A' (mR _ mA) B' (mR _ mB) D mD
      obtain ⟨x4, y4, n4, p4, a4⟩ := h A' (mR _ mA) B' (mR _ mB) C' (mR _ mC)
      obtain ⟨x, y, n, p, ha, hb, hc', hd⟩ := helly4 (hc A' (mR _ mA)) (hc B' (mR _ mB)) (hc C' (mR _ mC)) (hc D mD) p1 p2 p3 p4 a1 a2 a3 a4
      exact ⟨x, y, n, p, ⟨ha, hd⟩, ⟨hb, hd⟩, ⟨hc', hd⟩⟩)
    refine ⟨x, y, n, h0, fun S hS => ?_⟩
    rcases List.mem_cons.1 hS with e | m
    · subst e
      cases R with
      | nil =>
        simp only [List.length_cons, List.length_nil] at hl
        omega
      | cons E R' => exact (g _ (List.mem_map.2 ⟨E, List.mem_cons_self, rfl⟩)).2
    · exact (g _ (List.mem_map.2 ⟨S, m, rfl⟩)).1
