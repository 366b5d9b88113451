/-! ===== the sides that a place sees are one run ===== -/
def vx (a b c d : Int) : Int := a * d - b * c
theorem vx_cone {a1 a2 b1 b2 c1 c2 w1 w2 : Int} (h1 : 0 < vx a1 a2 c1 c2) (h2 : 0 < vx a1 a2 b1 b2) (h3 : 0 < vx b1 b2 c1 c2) (g1 : vx a1 a2 w1 w2 < 0) (g2 : vx c1 c2 w1 w2 < 0) : vx b1 b2 w1 w2 < 0 := by
  have e : vx a1 a2 c1 c2 * vx b1 b2 w1 w2 = vx b1 b2 c1 c2 * vx a1 a2 w1 w2 + vx a1 a2 b1 b2 * vx c1 c2 w1 w2 := by
    unfold vx
    grind
  have p1 := Int.mul_pos h3 (show 0 < -vx a1 a2 w1 w2 by omega)
  have p2 := Int.mul_pos h2 (show 0 < -vx c1 c2 w1 w2 by omega)
  rw [Int.mul_neg] at p1 p2
  generalize vx b1 b2 w1 w2 = z at e ⊢
  by_cases h : z < 0
  · exact h
  · exfalso
    have := Int.mul_nonneg (Int.le_of_lt h1) (show 0 ≤ z by omega)
    omega
theorem vx_anti (a b c d : Int) : vx c d a b = -vx a b c d := by
  unfold vx
  grind
theorem vx_neg (a b c d : Int) : vx a b (-c) (-d) = -vx a b c d ∧ vx (-a) (-b) c d = -vx a b c d ∧ vx (-a) (-b) (-c) (-d) = vx a b c d := by
  unfold vx
  grind
theorem vx_tr {a b c d e f : Int} (h1 : lp a b) (h2 : lp c d) (h3 : lp e f) (g1 : 0 < vx a b c d) (g2 : 0 < vx c d e f) : 0 < vx a b e f := cr_trans h1 h2 h3 g1 g2
/-- two ways that point one way -/
theorem vx_par {a b c d w1 w2 : Int} (h1 : lp a b) (h2 : lp c d) (z : vx a b c d = 0) (g : vx a b w1 w2 < 0) : vx c d w1 w2 < 0 := by
  unfold vx at *
  rcases h1 with h | ⟨h, h'⟩
  · rcases h2 with k | ⟨k, k'⟩
    · have e : a * (c * w2 - d * w1) = c * (a * w2 - b * w1) := by grind
      have p := Int.mul_pos k (show 0 < -(a * w2 - b * w1) by omega)
      rw [Int.mul_neg] at p
      by_cases q : c * w2 - d * w1 < 0
      · exact q
      · exfalso
        have := Int.mul_nonneg (Int.le_of_lt h) (show 0 ≤ c * w2 - d * w1 by omega)
        omega
    · exfalso
      subst k
      have := Int.mul_pos h k'
      omega
  · subst h
    have c0 : c = 0 := by
      rcases h2 with k | ⟨k, _⟩
      · have := Int.mul_pos h' k
        omega
      · exact k
    subst c0
    have d0 : 0 < d := by unfold lp at h2; omega
    have w : 0 < w1 := by
      by_cases q : 0 < w1
      · exact q
      · have := Int.mul_nonneg (Int.le_of_lt h') (show 0 ≤ -w1 by omega)
        rw [Int.mul_neg] at this
        omega
    have := Int.mul_pos d0 w
    omega
theorem seen_run {x y u v : Nat → Int} {c L : Nat} (hL : ∀ i, i < L → lp (u i) (v i)) (hU : ∀ i, L ≤ i → i < c → lp (-u i) (-v i)) (h1 : ∀ i j, i < j → j < L → 0 < vx (u i) (v i) (u j) (v j)) (h2 : ∀ i j, L ≤ i → i < j → j < c → 0 < vx (u i) (v i) (u j) (v j))
    (hS : ∀ i j, i < c → j < c → 0 ≤ vx (u i) (v i) (x j - x i) (y j - y i)) {qx qy : Int} {a b : Nat} (hab : a < b) (hb : b < c) (sa : vx (u a) (v a) (qx - x a) (qy - y a) < 0) (sb : vx (u b) (v b) (qx - x b) (qy - y b) < 0) :
    (∀ j, a < j → j < b → vx (u j) (v j) (qx - x j) (qy - y j) < 0) ∨ (∀ j, j < c → (j < a ∨ b < j) → vx (u j) (v j) (qx - x j) (qy - y j) < 0) := by
  have mv : ∀ i j, i < c → j < c → vx (u i) (v i) (qx - x i) (qy - y i) < 0 → vx (u i) (v i) (qx - x j) (qy - y j) < 0 := fun i j hi hj h => by
    have s := hS i j hi hj
    have e : vx (u i) (v i) (qx - x j) (qy - y j) = vx (u i) (v i) (qx - x i) (qy - y i) - vx (u i) (v i) (x j - x i) (y j - y i) := by
      unfold vx
      grind
    omega
  by_cases hp : 0 < vx (u a) (v a) (u b) (v b)
  · refine Or.inl (fun j h3 h4 => ?_)
    have m1 := mv a j (by omega) (by omega) sa
    have m2 := mv b j (by omega) (by omega) sb
    have g : 0 < vx (u a) (v a) (u j) (v j) ∧ 0 < vx (u j) (v j) (u b) (v b) := by
      by_cases la : a < L
      · by_cases lj : j < L
        · have g1 := h1 a j h3 lj
          by_cases lb : b < L
          · exact ⟨g1, h1 j b h4 lb⟩
          · refine ⟨g1, ?_⟩
            have t := vx_tr (hU b (by omega) hb) (hL a la) (hL j lj) (by rw [(vx_neg _ _ _ _).2.1, vx_anti]; omega) g1
            rw [(vx_neg _ _ _ _).2.1, vx_anti] at t
            omega
        · have g2 := h2 j b (by omega) h4 hb
          refine ⟨?_, g2⟩
          have t := vx_tr (hU j (by omega) (by omega)) (hU b (by omega) hb) (hL a la) (by rw [(vx_neg _ _ _ _).2.2]; exact g2) (by rw [(vx_neg _ _ _ _).2.1, vx_anti]; omega)
          rw [(vx_neg _ _ _ _).2.1, vx_anti] at t
          omega
      · exact ⟨h2 a j (by omega) h3 (by omega), h2 j b (by omega) h4 hb⟩
    exact vx_cone hp g.1 g.2 m1 m2
  · have la : a < L := by
      by_cases q : a < L
      · exact q
      · exact absurd (h2 a b (by omega) hab hb) hp
    have lb : L ≤ b := by
      by_cases q : b < L
      · exact absurd (h1 a b hab q) hp
      · omega
    by_cases hz : vx (u a) (v a) (u b) (v b) = 0
    · exfalso
      have m1 := mv a b (by omega) hb sa
      have t := vx_par (hL a la) (hU b lb hb) (by rw [(vx_neg _ _ _ _).1, hz]; rfl) m1
      rw [(vx_neg _ _ _ _).2.1] at t
      omega
    · have hn : 0 < vx (u b) (v b) (u a) (v a) := by
        rw [vx_anti]
        omega
      refine Or.inr (fun j hj h3 => ?_)
      have m1 := mv a j (by omega) hj sa
      have m2 := mv b j hb hj sb
      have g : 0 < vx (u b) (v b) (u j) (v j) ∧ 0 < vx (u j) (v j) (u a) (v a) := by
        rcases h3 with h3 | h3
        · have g1 := h1 j a h3 la
          refine ⟨?_, g1⟩
          have t := vx_tr (hL j (by omega)) (hL a la) (hU b lb hb) g1 (by rw [(vx_neg _ _ _ _).1]; rw [vx_anti] at hn; omega)
          rw [(vx_neg _ _ _ _).1, ← vx_anti] at t
          exact t
        · have g1 := h2 b j lb h3 hj
          refine ⟨g1, ?_⟩
          have t := vx_tr (hL a la) (hU b lb hb) (hU j (by omega) hj) (by rw [(vx_neg _ _ _ _).1, ← vx_anti]; exact hn) (by rw [(vx_neg _ _ _ _).2.2]; exact g1)
          rw [(vx_neg _ _ _ _).1, ← vx_anti] at t
          exact t
      exact vx_cone hn g.1 g.2 m2 m1
def pv (c i : Nat) : Nat := if i = 0 then c - 1 else i - 1
theorem run_from {s : Nat → Prop} {c : Nat} (h : ∀ a b, a < b → b < c → s a → s b → (∀ j, a < j → j < b → s j) ∨ (∀ j, j < c → (j < a ∨ b < j) → s j)) {i k : Nat} (hi : i < c) (hk : k < c) (a1 : s i) (a2 : ¬ s (pv c i)) (b1 : s k) (b2 : ¬ s (pv c k)) : ¬ i < k := fun q => by
  have ne1 : k - 1 ≠ i := fun z => b2 (by unfold pv; rw [if_neg (by omega), z]; exact a1)
  rcases h i k q hk a1 b1 with g | g
  · exact b2 (by unfold pv; rw [if_neg (by omega)]; exact g (k - 1) (by omega) (by omega))
  · refine a2 ?_
    by_cases z : pv c i = k
    · rw [z]
      exact b1
    · refine g _ ?_ ?_
      · unfold pv
        split <;> omega
      · unfold pv at z ⊢
        split at z
        · rw [if_pos (by omega)]
          omega
        · rw [if_neg (by omega)]
          omega
theorem run_to {s : Nat → Prop} {c : Nat} (h : ∀ a b, a < b → b < c → s a → s b → (∀ j, a < j → j < b → s j) ∨ (∀ j, j < c → (j < a ∨ b < j) → s j)) {i k : Nat} (hi : i < c) (hk : k < c) (a1 : ¬ s i) (a2 : s (pv c i)) (b1 : ¬ s k) (b2 : s (pv c k)) : ¬ i < k := fun q => by
  have e2 : pv c k = k - 1 := by
    unfold pv
    rw [if_neg (by omega)]
  rw [e2] at b2
  have ne1 : k - 1 ≠ i := fun z => a1 (by rw [← z]; exact b2)
  by_cases z : i = 0
  · have e1 : pv c i = c - 1 := by
      unfold pv
      rw [if_pos z]
    rw [e1] at a2
    have ne2 : k ≠ c - 1 := fun z => b1 (by rw [z]; exact a2)
    rcases h (k - 1) (c - 1) (by omega) (by omega) b2 a2 with g | g
    · exact b1 (g k (by omega) (by omega))
    · exact a1 (g i hi (Or.inl (by omega)))
  · have e1 : pv c i = i - 1 := by
      unfold pv
      rw [if_neg z]
    rw [e1] at a2
    rcases h (i - 1) (k - 1) (by omega) (by omega) a2 b2 with g | g
    · exact a1 (g i (by omega) (by omega))
    · exact b1 (g k hk (Or.inr (by omega)))
