/-! ===== meets: a place in common is told by turns ===== -/
theorem BW_of {s t p q r : Int} (hs : 0 ≤ s) (ht : 0 ≤ t) (hst : 0 < s + t) (e : (s + t) * r = s * p + t * q) : BW p q r := by
  unfold BW
  by_cases w : p ≤ q
  · have m1 := Int.mul_le_mul_of_nonneg_left w ht
    have m2 := Int.mul_le_mul_of_nonneg_left w hs
    have k1 := mul_le_of hst (a := p) (b := r) (by rw [e, Int.add_mul]; omega)
    have k2 := mul_le_of hst (a := r) (b := q) (by rw [e, Int.add_mul]; omega)
    omega
  · have w' : q ≤ p := by omega
    have m1 := Int.mul_le_mul_of_nonneg_left w' ht
    have m2 := Int.mul_le_mul_of_nonneg_left w' hs
    have k1 := mul_le_of hst (a := r) (b := p) (by rw [e, Int.add_mul]; omega)
    have k2 := mul_le_of hst (a := q) (b := r) (by rw [e, Int.add_mul]; omega)
    omega
theorem seg_ON {s t p1 p2 q1 q2 r1 r2 : Int} (hs : 0 ≤ s) (ht : 0 ≤ t) (hst : 0 < s + t) (e1 : (s + t) * r1 = s * p1 + t * q1) (e2 : (s + t) * r2 = s * p2 + t * q2) : ON p1 p2 q1 q2 r1 r2 := by
  refine ⟨?_, BW_of hs ht hst e1, BW_of hs ht hst e2⟩
  have g : (s + t) * t6 p1 p2 q1 q2 r1 r2 = (q1 - p1) * ((s + t) * r2 - (s + t) * p2) - (q2 - p2) * ((s + t) * r1 - (s + t) * p1) := by
    unfold t6
    grind
  rw [e1, e2] at g
  have g2 : (s + t) * t6 p1 p2 q1 q2 r1 r2 = 0 := by rw [g]; grind
  rcases Int.mul_eq_zero.1 g2 with z | z
  · omega
  · exact z
theorem opp {s t o p : Int} (hs : 0 < s) (ht : 0 < t) (e : s * o + t * p = 0) : (o < 0 ∧ 0 < p) ∨ (0 < o ∧ p < 0) ∨ (o = 0 ∧ p = 0) := by
  by_cases a : 0 < o
  · by_cases b : 0 ≤ p
    · have := Int.mul_pos hs a
      have := Int.mul_nonneg (Int.le_of_lt ht) b
      omega
    · omega
  · by_cases b : o = 0
    · subst b
      rw [Int.mul_zero, Int.zero_add] at e
      rcases Int.mul_eq_zero.1 e with z | z <;> omega
    · by_cases c : p ≤ 0
      · have := Int.mul_neg_of_pos_of_neg hs (show o < 0 by omega)
        have := Int.mul_nonneg (Int.le_of_lt ht) (show 0 ≤ -p by omega)
        rw [Int.mul_neg] at this
        omega
      · omega
theorem nn_of {k a : Int} (h : 0 < k) (q : 0 ≤ k * a) : 0 ≤ a := mul_le_of h (by rw [Int.mul_zero]; exact q)
theorem SHR_DC {a1 a2 b1 b2 c1 c2 d1 d2 : Int} (h : SHR a1 a2 b1 b2 c1 c2 d1 d2) : DC a1 a2 b1 b2 c1 c2 d1 d2 := by
  obtain ⟨s, t, s', t', hs, ht, hs', ht', hn, hn', e1, e2⟩ := h
  by_cases zs : s = 0
  · exact Or.inr (Or.inr (Or.inr (Or.inr (seg_ON hs' ht' (by omega) (by rw [← e1, hn', zs]; grind) (by rw [← e2, hn', zs]; grind)))))
  by_cases zt : t = 0
  · exact Or.inr (Or.inr (Or.inr (Or.inl (seg_ON hs' ht' (by omega) (by rw [← e1, hn', zt]; grind) (by rw [← e2, hn', zt]; grind)))))
  by_cases zs' : s' = 0
  · exact Or.inr (Or.inr (Or.inl (seg_ON hs ht hn (by rw [e1, ← hn', zs']; grind) (by rw [e2, ← hn', zs']; grind))))
  by_cases zt' : t' = 0
  · exact Or.inr (Or.inl (seg_ON hs ht hn (by rw [e1, ← hn', zt']; grind) (by rw [e2, ← hn', zt']; grind)))
  have f1 : s' * t6 a1 a2 b1 b2 c1 c2 + t' * t6 a1 a2 b1 b2 d1 d2 = 0 := by
    have g : s' * t6 a1 a2 b1 b2 c1 c2 + t' * t6 a1 a2 b1 b2 d1 d2 = (b1 - a1) * ((s' * c2 + t' * d2) - (s' + t') * a2) - (b2 - a2) * ((s' * c1 + t' * d1) - (s' + t') * a1) := by
      unfold t6
      grind
    rw [g, ← e1, ← e2, hn']
    grind
  have f2 : s * t6 c1 c2 d1 d2 a1 a2 + t * t6 c1 c2 d1 d2 b1 b2 = 0 := by
    have g : s * t6 c1 c2 d1 d2 a1 a2 + t * t6 c1 c2 d1 d2 b1 b2 = (d1 - c1) * ((s * a2 + t * b2) - (s + t) * c2) - (d2 - c2) * ((s * a1 + t * b1) - (s + t) * c1) := by
      unfold t6
      grind
    rw [g, e1, e2, ← hn']
    grind
  have o1 := opp (show 0 < s' by omega) (show 0 < t' by omega) f1
  have o2 := opp (show 0 < s by omega) (show 0 < t by omega) f2
  have e0 : t6 a1 a2 b1 b2 d1 d2 - t6 a1 a2 b1 b2 c1 c2 = t6 c1 c2 d1 d2 a1 a2 - t6 c1 c2 d1 d2 b1 b2 := by
    unfold t6
    grind
  by_cases q : t6 a1 a2 b1 b2 c1 c2 = 0
  · have q2 : t6 a1 a2 b1 b2 d1 d2 = 0 := by omega
    have q3 : t6 c1 c2 d1 d2 a1 a2 = 0 := by omega
    by_cases ab : a1 = b1 ∧ a2 = b2
    · exact Or.inr (Or.inr (Or.inr (Or.inl (seg_ON hs' ht' (by omega) (by rw [← e1, hn', ← ab.1]; grind) (by rw [← e2, hn', ← ab.2]; grind)))))
    · have sq1 : 0 ≤ (b1 - a1) * (b1 - a1) := by rcases Int.le_total 0 (b1 - a1) with h | h; exact Int.mul_nonneg h h; exact Int.mul_nonneg_of_nonpos_of_nonpos h h
      have sq2 : 0 ≤ (b2 - a2) * (b2 - a2) := by rcases Int.le_total 0 (b2 - a2) with h | h; exact Int.mul_nonneg h h; exact Int.mul_nonneg_of_nonpos_of_nonpos h h
      have P : 0 < (b1 - a1) * (b1 - a1) + (b2 - a2) * (b2 - a2) := by
        by_cases w : (b1 - a1) * (b1 - a1) = 0
        · by_cases w2 : (b2 - a2) * (b2 - a2) = 0
          · have := Int.mul_eq_zero.1 w
            have := Int.mul_eq_zero.1 w2
            omega
          · omega
        · omega
      have id1 : ((b1 - a1) * (b1 - a1) + (b2 - a2) * (b2 - a2)) * ((d1 - c1) * (a1 - c1) + (d2 - c2) * (a2 - c2)) = -((b1 - a1) * (c1 - a1) + (b2 - a2) * (c2 - a2)) * (((b1 - a1) * (d1 - a1) + (b2 - a2) * (d2 - a2)) - ((b1 - a1) * (c1 - a1) + (b2 - a2) * (c2 - a2))) + t6 a1 a2 b1 b2 c1 c2 * t6 a1 a2 b1 b2 c1 c2 - t6 a1 a2 b1 b2 c1 c2 * t6 a1 a2 b1 b2 d1 d2 := by
        unfold t6
        grind
      have id2 : ((b1 - a1) * (b1 - a1) + (b2 - a2) * (b2 - a2)) * ((d1 - c1) * (d1 - c1) + (d2 - c2) * (d2 - c2)) = (((b1 - a1) * (d1 - a1) + (b2 - a2) * (d2 - a2)) - ((b1 - a1) * (c1 - a1) + (b2 - a2) * (c2 - a2))) * (((b1 - a1) * (d1 - a1) + (b2 - a2) * (d2 - a2)) - ((b1 - a1) * (c1 - a1) + (b2 - a2) * (c2 - a2))) + (t6 a1 a2 b1 b2 d1 d2 - t6 a1 a2 b1 b2 c1 c2) * (t6 a1 a2 b1 b2 d1 d2 - t6 a1 a2 b1 b2 c1 c2) := by
        unfold t6
        grind
      have id3 : s' * ((b1 - a1) * (c1 - a1) + (b2 - a2) * (c2 - a2)) + t' * ((b1 - a1) * (d1 - a1) + (b2 - a2) * (d2 - a2)) = t * ((b1 - a1) * (b1 - a1) + (b2 - a2) * (b2 - a2)) := by
        have g : s' * ((b1 - a1) * (c1 - a1) + (b2 - a2) * (c2 - a2)) + t' * ((b1 - a1) * (d1 - a1) + (b2 - a2) * (d2 - a2)) = (b1 - a1) * ((s' * c1 + t' * d1) - (s' + t') * a1) + (b2 - a2) * ((s' * c2 + t' * d2) - (s' + t') * a2) := by grind
        rw [g, ← e1, ← e2, hn']
        grind
      rw [q, q2, Int.mul_zero, Int.add_zero, Int.sub_zero] at id1
      rw [q, q2, Int.sub_self, Int.mul_zero, Int.add_zero] at id2
      by_cases w1 : 0 ≤ (b1 - a1) * (c1 - a1) + (b2 - a2) * (c2 - a2) ∧ (b1 - a1) * (c1 - a1) + (b2 - a2) * (c2 - a2) ≤ (b1 - a1) * (b1 - a1) + (b2 - a2) * (b2 - a2)
      · exact Or.inr (Or.inl (ON_of P q w1.1 w1.2))
      by_cases w2 : 0 ≤ (b1 - a1) * (d1 - a1) + (b2 - a2) * (d2 - a2) ∧ (b1 - a1) * (d1 - a1) + (b2 - a2) * (d2 - a2) ≤ (b1 - a1) * (b1 - a1) + (b2 - a2) * (b2 - a2)
      · exact Or.inr (Or.inr (Or.inl (ON_of P q2 w2.1 w2.2)))
      refine Or.inr (Or.inr (Or.inr (Or.inl ?_)))
      have hp : ∀ k x y : Int, 0 < k → x < y → k * x < k * y := fun k x y h1 h2 => Int.mul_lt_mul_of_pos_left h2 h1
      generalize hP : (b1 - a1) * (b1 - a1) + (b2 - a2) * (b2 - a2) = PP at *
      generalize hC : (b1 - a1) * (c1 - a1) + (b2 - a2) * (c2 - a2) = fc at *
      generalize hD : (b1 - a1) * (d1 - a1) + (b2 - a2) * (d2 - a2) = fd at *
      have tP := Int.mul_pos (show 0 < t by omega) P
      have sP := Int.mul_pos (show 0 < s by omega) P
      have key : (fc < 0 ∧ PP < fd) ∨ (PP < fc ∧ fd < 0) := by
        by_cases u : fc < 0
        · by_cases v : fd < 0
          · have := hp s' fc 0 (by omega) u
            have := hp t' fd 0 (by omega) v
            omega
          · omega
        · by_cases v : fd < 0
          · omega
          · have x1 := hp s' PP fc (by omega) (by omega)
            have x2 := hp t' PP fd (by omega) (by omega)
            have x3 : s' * PP + t' * PP = s * PP + t * PP := by rw [← Int.add_mul, ← Int.add_mul, hn']
            omega
      have w : 0 ≤ -fc * (fd - fc) ∧ -fc * (fd - fc) ≤ (fd - fc) * (fd - fc) ∧ 0 < (fd - fc) * (fd - fc) := by
        rcases key with k | k
        · exact ⟨Int.mul_nonneg (by omega) (by omega), Int.mul_le_mul_of_nonneg_right (by omega) (by omega), Int.mul_pos (by omega) (by omega)⟩
        · have y1 := Int.mul_nonneg (show 0 ≤ fc by omega) (show 0 ≤ fc - fd by omega)
          have y2 := Int.mul_le_mul_of_nonneg_right (show fc ≤ fc - fd by omega) (show 0 ≤ fc - fd by omega)
          have y3 := Int.mul_pos (show 0 < fc - fd by omega) (show 0 < fc - fd by omega)
          have z1 : -fc * (fd - fc) = fc * (fc - fd) := by grind
          have z2 : (fd - fc) * (fd - fc) = (fc - fd) * (fc - fd) := by grind
          omega
      refine ON_of ?_ q3 (nn_of P (by omega)) (mul_le_of P (by omega))
      by_cases g : 0 < (d1 - c1) * (d1 - c1) + (d2 - c2) * (d2 - c2)
      · exact g
      · have := Int.mul_nonneg (Int.le_of_lt P) (show 0 ≤ -((d1 - c1) * (d1 - c1) + (d2 - c2) * (d2 - c2)) by omega)
        rw [Int.mul_neg] at this
        omega
  · exact Or.inl ⟨by omega, by omega⟩
