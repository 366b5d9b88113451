/-! ===== every SPOT lies to the left of every side ===== -/
theorem cr_transW {u1 u2 v1 v2 w1 w2 : Int} (hu : lp u1 u2) (hv : lp v1 v2) (hw : lp w1 w2) (h1 : 0 ≤ u1 * v2 - u2 * v1) (h2 : 0 ≤ v1 * w2 - v2 * w1) : 0 ≤ u1 * w2 - u2 * w1 := by
  have w1n : 0 ≤ w1 := by unfold lp at hw; omega
  have u1n : 0 ≤ u1 := by unfold lp at hu; omega
  rcases hv with h | ⟨h, h'⟩
  · have e : v1 * (u1 * w2 - u2 * w1) = (u1 * v2 - u2 * v1) * w1 + (v1 * w2 - v2 * w1) * u1 := by grind
    have p1 := Int.mul_nonneg h1 w1n
    have p2 := Int.mul_nonneg h2 u1n
    exact nn_of_mul h (by rw [e]; omega)
  · subst h
    have p1 := Int.mul_nonneg (Int.le_of_lt h') w1n
    have z : w1 = 0 := by
      by_cases q : w1 = 0
      · exact q
      · have := Int.mul_pos h' (show 0 < w1 by omega)
        omega
    subst z
    have w2p : 0 < w2 := by unfold lp at hw; omega
    have := Int.mul_nonneg u1n (Int.le_of_lt w2p)
    omega
theorem tn_trW {o : Bool} {u1 u2 v1 v2 w1 w2 : Int} (hu : (o = true ∧ lp u1 u2) ∨ (o = false ∧ lp (-u1) (-u2))) (hv : (o = true ∧ lp v1 v2) ∨ (o = false ∧ lp (-v1) (-v2))) (hw : (o = true ∧ lp w1 w2) ∨ (o = false ∧ lp (-w1) (-w2)))
    (h1 : 0 ≤ u1 * v2 - u2 * v1) (h2 : 0 ≤ v1 * w2 - v2 * w1) : 0 ≤ u1 * w2 - u2 * w1 := by
  cases o with
  | true =>
    have a := hu.resolve_right (fun w => absurd w.1 (by decide))
    have b := hv.resolve_right (fun w => absurd w.1 (by decide))
    have c := hw.resolve_right (fun w => absurd w.1 (by decide))
    exact cr_transW a.2 b.2 c.2 h1 h2
  | false =>
    have a := hu.resolve_left (fun w => absurd w.1 (by decide))
    have b := hv.resolve_left (fun w => absurd w.1 (by decide))
    have c := hw.resolve_left (fun w => absurd w.1 (by decide))
    have := cr_transW a.2 b.2 c.2 (by rw [Int.neg_mul_neg, Int.neg_mul_neg]; exact h1) (by rw [Int.neg_mul_neg, Int.neg_mul_neg]; exact h2)
    rw [Int.neg_mul_neg, Int.neg_mul_neg] at this
    exact this
def SU (l : List Spt) (proc : Nat → Prop) (s : (Nat → Nat) × Nat) : Prop := ∀ t, t + 1 < s.2 → ∀ p, proc p → 0 ≤ tn (lX l) (lY l) (s.1 t) (s.1 (t + 1)) p
theorem Dd_tri (o : Bool) (a b : Nat) : Dd o a b ∨ a = b ∨ Dd o b a := by
  unfold Dd
  cases o <;> simp <;> omega
theorem Dd_irr {o : Bool} {a : Nat} (h : Dd o a a) : False := by
  unfold Dd at h
  cases o <;> simp at h
theorem Dd_asy {o : Bool} {a b : Nat} (h : Dd o a b) (g : Dd o b a) : False := by
  unfold Dd at h g
  cases o <;> simp at h g <;> omega
theorem tn_aa2 (X Y : Nat → Int) (a k : Nat) : tn X Y a k a = 0 := by
  unfold tn
  grind
/-- beyond the corner where the new one is joined -/
theorem SU_pop {l : List Spt} (hs : sorL l) {o : Bool} {proc : Nat → Prop} {s : (Nat → Nat) × Nat} {k : Nat} (ok : okJ l s) (hc : CV l o s) (h : SU l proc s) (hk : k < l.length) (hp : ∀ p, proc p → p < l.length) (hd : ∀ p, proc p → Dd o p k) (hm : ∀ i, i < s.2 → proc (s.1 i)) :
    ∀ t, t ≤ s.2 → (∀ p, proc p → Dd o (s.1 (t - 1)) p → 0 ≤ tn (lX l) (lY l) (s.1 (t - 1)) k p) → ∀ p, proc p → Dd o (s.1 (popF l k s.1 t - 1)) p → 0 ≤ tn (lX l) (lY l) (s.1 (popF l k s.1 t - 1)) k p
  | 0, _, H => H
  | 1, _, H => H
  | t + 2, ht, H => by
    have e : popF l k s.1 (t + 2) = if 0 < tn (lX l) (lY l) (s.1 t) (s.1 (t + 1)) k then t + 2 else popF l k s.1 (t + 1) := rfl
    rw [e]
    by_cases q : 0 < tn (lX l) (lY l) (s.1 t) (s.1 (t + 1)) k
    · rw [if_pos q]
      exact H
    · rw [if_neg q]
      refine SU_pop hs ok hc h hk hp hd hm (t + 1) (by omega) (fun p pp dp => ?_)
      rw [show t + 1 - 1 = t by omega] at dp ⊢
      rw [show t + 2 - 1 = t + 1 by omega] at H
      have su := h t (by omega) p pp
      have lt1 := ok t (by omega)
      have lt2 := ok (t + 1) (by omega)
      have lt3 := hp p pp
      rcases Dd_tri o (s.1 (t + 1)) p with d | d | d
      · have su2 := H p pp d
        generalize s.1 t = a at *
        generalize s.1 (t + 1) = b at *
        have e2 : tn (lX l) (lY l) a k p = tn (lX l) (lY l) b k p - tn (lX l) (lY l) a b k + tn (lX l) (lY l) a b p := by
          unfold tn
          grind
        omega
      · rw [← d]
        have e2 : tn (lX l) (lY l) (s.1 t) k (s.1 (t + 1)) = -tn (lX l) (lY l) (s.1 t) (s.1 (t + 1)) k := by
          unfold tn
          grind
        omega
      · have w1 := Dd_w hs lt1 hk (hd _ (hm t (by omega)))
        have w2 := Dd_w hs lt1 lt2 (hc.1 t (t + 1) (by omega) (by omega))
        have w3 := Dd_w hs lt1 lt3 dp
        have g1 : 0 ≤ (lX l k - lX l (s.1 t)) * (lY l (s.1 (t + 1)) - lY l (s.1 t)) - (lY l k - lY l (s.1 t)) * (lX l (s.1 (t + 1)) - lX l (s.1 t)) := by
          unfold tn at q
          have m1 := Int.mul_comm (lX l k - lX l (s.1 t)) (lY l (s.1 (t + 1)) - lY l (s.1 t))
          have m2 := Int.mul_comm (lY l k - lY l (s.1 t)) (lX l (s.1 (t + 1)) - lX l (s.1 t))
          omega
        exact tn_trW w1 w2 w3 g1 su
theorem SU_stp {l : List Spt} (hs : sorL l) {o : Bool} {proc : Nat → Prop} {s : (Nat → Nat) × Nat} {k : Nat} (ok : okJ l s) (hc : CV l o s) (h : SU l proc s) (hk : k < l.length) (hp : ∀ p, proc p → p < l.length) (hd : ∀ p, proc p → Dd o p k) (hm : ∀ i, i < s.2 → proc (s.1 i))
    (h1 : ∀ p, proc p → 1 ≤ s.2 ∧ (p = s.1 0 ∨ Dd o (s.1 0) p)) (h2 : ∀ p, proc p → ¬ Dd o (s.1 (s.2 - 1)) p) : SU l (fun p => proc p ∨ p = k) (stpF l s k) := by
  have cv := CV_stp hs ok hc hk (fun i hi => hd _ (hm i hi))
  have sp := SU_pop hs ok hc h hk hp hd hm s.2 (Nat.le_refl _) (fun p pp dp => absurd dp (h2 p pp))
  have pl := popF_le l k s.1 s.2
  have pp0 := popF_pos l k s.1 s.2
  have pt := pop_tn l k s.1 s.2
  intro t ht p hpp
  have c3 := cv.2
  revert ht c3 sp
  unfold stpF
  dsimp only
  generalize popF l k s.1 s.2 = r at pl pt pp0
  intro sp ht c3
  have old : ∀ j, j < r → va_up s.1 r k j = s.1 j := fun j hj => va_ne _ _ (by omega)
  have new : va_up s.1 r k r = k := va_same _ _ _
  by_cases e : t + 1 = r
  · rw [e, new, old t (by omega)]
    rcases hpp with hpp | rfl
    · have lt3 := hp p hpp
      have lt1 := ok t (by omega)
      rw [show r - 1 = t by omega] at sp
      rcases Dd_tri o (s.1 t) p with d | d | d
      · exact sp p hpp d
      · rw [d, (tn_aa2 (lX l) (lY l) p k)]
        exact Int.le_refl _
      · by_cases z : t = 0
        · exfalso
          subst z
          rcases (h1 p hpp).2 with g | g
          · rw [g] at d
            exact Dd_irr d
          · exact Dd_asy d g
        · have su := h (t - 1) (by omega) p hpp
          have pk := pt (by omega)
          rw [show t - 1 + 1 = t by omega] at su
          rw [show r - 2 = t - 1 by omega, show r - 1 = t by omega] at pk
          have lt0 := ok (t - 1) (by omega)
          have w1 := Dd_w hs lt3 lt1 d
          have w2 := Dd_w hs lt0 lt1 (hc.1 (t - 1) t (by omega) (by omega))
          have w3 := Dd_w hs lt1 hk (hd _ (hm t (by omega)))
          generalize s.1 t = b at *
          generalize s.1 (t - 1) = a at *
          have g1 : 0 ≤ (lX l b - lX l p) * (lY l b - lY l a) - (lY l b - lY l p) * (lX l b - lX l a) := by
            have q : (lX l b - lX l p) * (lY l b - lY l a) - (lY l b - lY l p) * (lX l b - lX l a) = tn (lX l) (lY l) a b p := by
              unfold tn
              grind
            omega
          have g2 : 0 ≤ (lX l b - lX l a) * (lY l k - lY l b) - (lY l b - lY l a) * (lX l k - lX l b) := by
            have q : (lX l b - lX l a) * (lY l k - lY l b) - (lY l b - lY l a) * (lX l k - lX l b) = tn (lX l) (lY l) a b k := by
              unfold tn
              grind
            omega
          have g := tn_trW w1 w2 w3 g1 g2
          have q : tn (lX l) (lY l) b k p = (lX l b - lX l p) * (lY l k - lY l b) - (lY l b - lY l p) * (lX l k - lX l b) := by
            unfold tn
            grind
          omega
    · rw [(tn_aa (lX l) (lY l) (s.1 t) p).2]
      exact Int.le_refl _
  · rw [old t (by omega), old (t + 1) (by omega)]
    rcases hpp with hpp | rfl
    · exact h t (by omega) p hpp
    · have := c3 t (t + 1) r (by omega) (by omega) (by omega)
      rw [old t (by omega), old (t + 1) (by omega), new] at this
      omega
