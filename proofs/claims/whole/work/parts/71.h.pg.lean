/-! ===== meets: the hull laid is such a one ===== -/
theorem lf_vx (l : List Spt) (h : Nat → Nat) (c i : Nat) (x y : Int) : lf (fun i => lX l (h i)) (fun i => lY l (h i)) c i x y 1 = vx (dwX l h c i) (dwY l h c i) (x - lX l (h i)) (y - lY l (h i)) := by
  unfold lf vx dwX dwY
  rw [Int.one_mul, Int.one_mul]
theorem ll_par {u1 u2 v1 v2 w1 w2 : Int} (hv : lp v1 v2) (hw : lp w1 w2) (h1 : 0 < vx u1 u2 v1 v2) (h2 : vx v1 v2 w1 w2 = 0) : 0 < vx u1 u2 w1 w2 := by
  unfold vx at *
  rcases hv with h | ⟨h, h'⟩
  · have e : v1 * (u1 * w2 - u2 * w1) = (u1 * v2 - u2 * v1) * w1 + (v1 * w2 - v2 * w1) * u1 := by grind
    rw [h2, Int.zero_mul, Int.add_zero] at e
    have p : 0 < w1 := by
      rcases hw with k | ⟨k, k'⟩
      · exact k
      · subst k
        have := Int.mul_pos h k'
        omega
    have q := Int.mul_pos h1 p
    by_cases z : 0 < u1 * w2 - u2 * w1
    · exact z
    · have := Int.mul_nonneg (Int.le_of_lt h) (show 0 ≤ -(u1 * w2 - u2 * w1) by omega)
      rw [Int.mul_neg] at this
      omega
  · subst h
    have z : w1 = 0 := by
      have k : v2 * w1 = 0 := by omega
      rcases Int.mul_eq_zero.1 k with k | k
      · omega
      · exact k
    subst z
    have w2p : 0 < w2 := by unfold lp at hw; omega
    have u1p : 0 < u1 := by
      by_cases z : 0 < u1
      · exact z
      · have := Int.mul_nonneg (show 0 ≤ -u1 by omega) (Int.le_of_lt h')
        rw [Int.neg_mul] at this
        omega
    have := Int.mul_pos u1p w2p
    omega
theorem vx_negs (a b c d : Int) : vx (-a) (-b) c d = -vx a b c d ∧ vx a b (-c) (-d) = -vx a b c d ∧ vx a b c d = -vx c d a b := by
  unfold vx
  refine ⟨?_, ?_, ?_⟩ <;> grind
/-- at an end of a chain: the side before, e, and the side after, f, make no straight line if another side g stands beside one of them -/
theorem junc {e1 e2 f1 f2 g1 g2 : Int} (h : (lp e1 e2 ∧ lp (-f1) (-f2)) ∨ (lp (-e1) (-e2) ∧ lp f1 f2)) (z : vx e1 e2 f1 f2 = 0) (hg : (0 < vx g1 g2 e1 e2 ∧ 0 ≤ vx g1 g2 f1 f2) ∨ (0 < vx f1 f2 g1 g2 ∧ 0 ≤ vx e1 e2 g1 g2)) : False := by
  have n1 := vx_negs e1 e2 f1 f2
  have n2 := vx_negs g1 g2 f1 f2
  have n3 := vx_negs g1 g2 e1 e2
  have n4 := vx_negs f1 f2 g1 g2
  have n5 := vx_negs e1 e2 g1 g2
  have n6 := vx_negs f1 f2 e1 e2
  have m1 := (vx_negs f1 f2 e1 e2).1
  have m2 := (vx_negs e1 e2 f1 f2).1
  have m3 := (vx_negs f1 f2 e1 e2).2.1
  have m4 := (vx_negs g1 g2 (-e1) (-e2)).1
  have m5 := (vx_negs f1 f2 (-g1) (-g2)).2.2
  rcases h with ⟨a, b⟩ | ⟨a, b⟩
  · rcases hg with ⟨k1, k2⟩ | ⟨k1, k2⟩
    · have := ll_par a b k1 (by omega)
      omega
    · have := ll_par (u1 := g1) (u2 := g2) b a (by omega) (by omega)
      omega
  · rcases hg with ⟨k1, k2⟩ | ⟨k1, k2⟩
    · have := ll_par (u1 := -g1) (u2 := -g2) a b (by omega) (by omega)
      omega
    · have := ll_par (u1 := -g1) (u2 := -g2) b a (by omega) (by omega)
      omega
theorem PG_hull {l : List Spt} (hs : sorL l) (h0 : 0 < l.length) : PG (fun i => lX l (hJ l i)) (fun i => lY l (hJ l i)) (hC l) := by
  refine ⟨hC_pos h0, fun h3 i hi => ⟨fun j hj => ?_, ?_⟩⟩
  · have := hull_sup hs h0 hi (hJ_lt hs h0 hj)
    unfold lf
    unfold tn at this
    rw [Int.one_mul, Int.one_mul]
    exact this
  · have h2 : 2 ≤ l.length := by have := hC_le hs h0; omega
    obtain ⟨f1, f2, f3, f4, f5⟩ := hull_sides hs h2
    have t2 := lo_two2 h2
    obtain ⟨n, hn⟩ : ∃ n, n = nx (hC l) i := ⟨_, rfl⟩
    have nlt : n < hC l := by rw [hn]; exact nx_lt hi
    rw [← hn]
    have e : lf (fun i => lX l (hJ l i)) (fun i => lY l (hJ l i)) (hC l) i (lX l (hJ l (nx (hC l) n))) (lY l (hJ l (nx (hC l) n))) 1 = vx (dwX l (hJ l) (hC l) i) (dwY l (hJ l) (hC l) i) (dwX l (hJ l) (hC l) n) (dwY l (hJ l) (hC l) n) := by
      rw [lf_vx]
      unfold vx dwX dwY
      rw [← hn]
      grind
    show 0 < lf (fun i => lX l (hJ l i)) (fun i => lY l (hJ l i)) (hC l) i (lX l (hJ l (nx (hC l) n))) (lY l (hJ l (nx (hC l) n))) 1
    rw [e]
    by_cases q1 : i + 1 < loN l - 1
    · have : n = i + 1 := by
        rw [hn]
        unfold nx
        rw [if_neg (by omega)]
      rw [this]
      exact f3 i (i + 1) (by omega) q1
    by_cases q2 : loN l - 1 ≤ i ∧ i + 1 < hC l
    · have : n = i + 1 := by
        rw [hn]
        unfold nx
        rw [if_neg (by omega)]
      rw [this]
      exact f4 i (i + 1) q2.1 (by omega) q2.2
    have ge : 0 ≤ vx (dwX l (hJ l) (hC l) i) (dwY l (hJ l) (hC l) i) (dwX l (hJ l) (hC l) n) (dwY l (hJ l) (hC l) n) := by
      have := f5 i (nx (hC l) n) hi (nx_lt nlt)
      rw [← e, lf_vx]
      exact this
    by_cases z : 0 < vx (dwX l (hJ l) (hC l) i) (dwY l (hJ l) (hC l) i) (dwX l (hJ l) (hC l) n) (dwY l (hJ l) (hC l) n)
    · exact z
    have z0 : vx (dwX l (hJ l) (hC l) i) (dwY l (hJ l) (hC l) i) (dwX l (hJ l) (hC l) n) (dwY l (hJ l) (hC l) n) = 0 := by omega
    have before : ∀ g, g < hC l → nx (hC l) g = i → 0 ≤ vx (dwX l (hJ l) (hC l) g) (dwY l (hJ l) (hC l) g) (dwX l (hJ l) (hC l) n) (dwY l (hJ l) (hC l) n) := fun g hg eg => by
      have := f5 n g nlt hg
      have k : vx (dwX l (hJ l) (hC l) n) (dwY l (hJ l) (hC l) n) (lX l (hJ l g) - lX l (hJ l n)) (lY l (hJ l g) - lY l (hJ l n)) = vx (dwX l (hJ l) (hC l) i) (dwY l (hJ l) (hC l) i) (dwX l (hJ l) (hC l) n) (dwY l (hJ l) (hC l) n) + vx (dwX l (hJ l) (hC l) g) (dwY l (hJ l) (hC l) g) (dwX l (hJ l) (hC l) n) (dwY l (hJ l) (hC l) n) := by
        unfold vx dwX dwY
        rw [eg, ← hn]
        grind
      omega
    have after : ∀ g, g < hC l → nx (hC l) n = g → 0 ≤ vx (dwX l (hJ l) (hC l) i) (dwY l (hJ l) (hC l) i) (dwX l (hJ l) (hC l) g) (dwY l (hJ l) (hC l) g) := fun g hg eg => by
      have := f5 i (nx (hC l) g) hi (nx_lt hg)
      have k : vx (dwX l (hJ l) (hC l) i) (dwY l (hJ l) (hC l) i) (lX l (hJ l (nx (hC l) g)) - lX l (hJ l i)) (lY l (hJ l (nx (hC l) g)) - lY l (hJ l i)) = vx (dwX l (hJ l) (hC l) i) (dwY l (hJ l) (hC l) i) (dwX l (hJ l) (hC l) n) (dwY l (hJ l) (hC l) n) + vx (dwX l (hJ l) (hC l) i) (dwY l (hJ l) (hC l) i) (dwX l (hJ l) (hC l) g) (dwY l (hJ l) (hC l) g) := by
        unfold vx dwX dwY
        rw [eg, ← hn]
        grind
      omega
    refine (junc (?_ : (_ ∧ _) ∨ (_ ∧ _)) z0 (?_ : (0 < vx (dwX l (hJ l) (hC l) (if loN l = 2 then (if i + 1 = hC l then i - 1 else n + 1) else (if i + 1 = hC l then 1 else i - 1))) (dwY l (hJ l) (hC l) (if loN l = 2 then (if i + 1 = hC l then i - 1 else n + 1) else (if i + 1 = hC l then 1 else i - 1))) _ _ ∧ _) ∨ _)).elim
    · by_cases w : i + 1 = hC l
      · have e0 : n = 0 := by
          rw [hn]
          unfold nx
          rw [if_pos (by omega)]
        rw [e0]
        exact Or.inr ⟨f2 i (by omega) hi, f1 0 (by omega)⟩
      · have e0 : n = i + 1 := by
          rw [hn]
          unfold nx
          rw [if_neg (by omega)]
        rw [e0]
        exact Or.inl ⟨f1 i (by omega), f2 (i + 1) (by omega) (by omega)⟩
    · by_cases w : i + 1 = hC l
      · have e0 : n = 0 := by
          rw [hn]
          unfold nx
          rw [if_pos (by omega)]
        by_cases t : loN l = 2
        · rw [if_pos t, if_pos w]
          exact Or.inl ⟨f4 (i - 1) i (by omega) (by omega) hi, before (i - 1) (by omega) (by unfold nx; rw [if_neg (by omega)]; omega)⟩
        · rw [if_neg t, if_pos w, e0]
          refine Or.inr ⟨f3 0 1 (by omega) (by omega), ?_⟩
          exact after 1 (by omega) (by rw [e0]; unfold nx; rw [if_neg (by omega)])
      · have e0 : n = i + 1 := by
          rw [hn]
          unfold nx
          rw [if_neg (by omega)]
        by_cases t : loN l = 2
        · rw [if_pos t, if_neg w, e0]
          refine Or.inr ⟨f4 (i + 1) (i + 1 + 1) (by omega) (by omega) (by omega), ?_⟩
          exact after (i + 1 + 1) (by omega) (by rw [e0]; unfold nx; rw [if_neg (by omega)])
        · rw [if_neg t, if_neg w]
          exact Or.inl ⟨f3 (i - 1) i (by omega) (by omega), before (i - 1) (by omega) (by unfold nx; rw [if_neg (by omega)]; omega)⟩
