/-! ===== the sides of the hull ===== -/
def loN (l : List Spt) : Nat := (loF l aP l.length).2
def upN (l : List Spt) : Nat := (upF l aP (l.length - 1) (l.length - 1)).2
theorem lo_two2 {l : List Spt} (h : 2 ≤ l.length) : 2 ≤ loN l ∧ 2 ≤ upN l ∧ hC l = loN l + upN l - 2 := by
  have a := lo_first (l := l) (P := aP) (l.length - 1) 0 (by omega) rfl
  have b := lo_two (l := l) (P := aP) (n := l.length - 1) rfl a.1
  rw [show l.length - 1 + 1 = l.length by omega] at b
  have c := up_two (l := l) (P := aP) (last := l.length - 1) rfl (l.length - 1) (Nat.le_refl _) ⟨0, by omega, by omega, rfl⟩
  refine ⟨b, c, ?_⟩
  unfold hC hN loN upN
  rw [if_neg (by omega)]
theorem lo_end {l : List Spt} (h : 2 ≤ l.length) : (loF l aP l.length).1 (loN l - 1) = l.length - 1 ∧ (loF l aP l.length).1 0 = 0 := by
  have a := lo_top (l := l) (P := aP) (n := l.length - 1) rfl
  rw [show l.length - 1 + 1 = l.length by omega] at a
  have b := lo_first (l := l) (P := aP) l.length 0 (by omega) rfl
  exact ⟨a.2, by omega⟩
theorem up_end {l : List Spt} (h : 2 ≤ l.length) : (upF l aP (l.length - 1) (l.length - 1)).1 0 = l.length - 1 ∧ (upF l aP (l.length - 1) (l.length - 1)).1 (upN l - 1) = 0 := by
  have a := up_inv l aP (l.length - 1) rfl (l.length - 1) (Nat.le_refl _)
  have b := up_last (l := l) (P := aP) (last := l.length - 1) rfl (l.length - 1) (Nat.le_refl _) 0 (by omega) (by omega) rfl
  unfold upN
  exact ⟨a.2.2.1, by omega⟩
theorem side_lo {l : List Spt} (h : 2 ≤ l.length) {i : Nat} (hi : i + 1 < loN l) : i < hC l ∧ hJ l i = (loF l aP l.length).1 i ∧ hJ l (nx (hC l) i) = (loF l aP l.length).1 (i + 1) := by
  have t := lo_two2 h
  have e : nx (hC l) i = i + 1 := by
    unfold nx
    rw [if_neg (by omega)]
  unfold loN at hi
  refine ⟨by unfold loN at t; omega, ?_, ?_⟩
  · unfold hJ hI2
    rw [if_pos (by omega)]
  · rw [e]
    unfold hJ hI2
    rw [if_pos hi]
theorem side_up {l : List Spt} (h : 2 ≤ l.length) {i : Nat} (hi : loN l ≤ i + 1) (hc : i < hC l) : i + 2 - loN l < upN l ∧ hJ l i = (upF l aP (l.length - 1) (l.length - 1)).1 (i + 1 - loN l) ∧ hJ l (nx (hC l) i) = (upF l aP (l.length - 1) (l.length - 1)).1 (i + 1 - loN l + 1) := by
  have t := lo_two2 h
  have le := lo_end h
  have ue := up_end h
  refine ⟨by omega, ?_, ?_⟩
  · unfold hJ hI2
    by_cases q : i < (loF l aP l.length).2
    · rw [if_pos q]
      have z : i = loN l - 1 := by unfold loN at *; omega
      rw [z, le.1, show loN l - 1 + 1 - loN l = 0 by omega, ue.1]
    · rw [if_neg q]
      rfl
  · by_cases q : hC l ≤ i + 1
    · have e : nx (hC l) i = 0 := by
        unfold nx
        rw [if_pos q]
      rw [e, show i + 1 - loN l + 1 = upN l - 1 by omega, ue.2]
      unfold hJ hI2
      rw [if_pos (by unfold loN at t; omega), le.2]
    · have e : nx (hC l) i = i + 1 := by
        unfold nx
        rw [if_neg q]
      rw [e]
      unfold hJ hI2
      rw [if_neg (by unfold loN at hi; omega), show i + 1 - loN l + 1 = i + 1 + 1 - (loF l aP l.length).2 by unfold loN at *; omega]
theorem hull_sup {l : List Spt} (hs : sorL l) (h0 : 0 < l.length) {i p : Nat} (hi : i < hC l) (hp : p < l.length) : 0 ≤ tn (lX l) (lY l) (hJ l i) (hJ l (nx (hC l) i)) p := by
  by_cases h : 2 ≤ l.length
  · by_cases q : i + 1 < loN l
    · have s := side_lo h q
      rw [s.2.1, s.2.2]
      exact SU_lo hs aP l.length (Nat.le_refl _) i q p ⟨hp, rfl⟩
    · have s := side_up h (by omega) hi
      rw [s.2.1, s.2.2]
      exact SU_up hs (P := aP) (last := l.length - 1) rfl (by omega) (l.length - 1) (Nat.le_refl _) (i + 1 - loN l) (by have := s.1; unfold upN at this; omega) p ⟨by omega, by omega, rfl⟩
  · have a := hJ_lt hs h0 hi
    have b := hJ_lt hs h0 (nx_lt hi)
    rw [show hJ l i = p by omega, show hJ l (nx (hC l) i) = p by omega, (tn_aa (lX l) (lY l) p p).1]
    exact Int.le_refl _
/-- sides of one chain turn left -/
theorem ch_cr {l : List Spt} (hs : sorL l) {o : Bool} {s : (Nat → Nat) × Nat} (ok : okJ l s) (h : CV l o s) {i j : Nat} (hij : i < j) (hj : j + 1 < s.2) :
    0 < vx (lX l (s.1 (i + 1)) - lX l (s.1 i)) (lY l (s.1 (i + 1)) - lY l (s.1 i)) (lX l (s.1 (j + 1)) - lX l (s.1 j)) (lY l (s.1 (j + 1)) - lY l (s.1 j)) := by
  by_cases e : j = i + 1
  · subst e
    have t := h.2 i (i + 1) (i + 1 + 1) (by omega) (by omega) hj
    have q : vx (lX l (s.1 (i + 1)) - lX l (s.1 i)) (lY l (s.1 (i + 1)) - lY l (s.1 i)) (lX l (s.1 (i + 1 + 1)) - lX l (s.1 (i + 1))) (lY l (s.1 (i + 1 + 1)) - lY l (s.1 (i + 1))) = tn (lX l) (lY l) (s.1 i) (s.1 (i + 1)) (s.1 (i + 1 + 1)) := by
      unfold vx tn
      grind
    omega
  · have t1 := h.2 i (i + 1) j (by omega) (by omega) (by omega)
    have t2 := h.2 (i + 1) j (j + 1) (by omega) (by omega) hj
    have w1 := Dd_w hs (ok i (by omega)) (ok (i + 1) (by omega)) (h.1 i (i + 1) (by omega) (by omega))
    have w2 := Dd_w hs (ok (i + 1) (by omega)) (ok j (by omega)) (h.1 (i + 1) j (by omega) (by omega))
    have w3 := Dd_w hs (ok j (by omega)) (ok (j + 1) (by omega)) (h.1 j (j + 1) (by omega) (by omega))
    refine tn_tr w1 w2 w3 ?_ ?_
    · have q : (lX l (s.1 (i + 1)) - lX l (s.1 i)) * (lY l (s.1 j) - lY l (s.1 (i + 1))) - (lY l (s.1 (i + 1)) - lY l (s.1 i)) * (lX l (s.1 j) - lX l (s.1 (i + 1))) = tn (lX l) (lY l) (s.1 i) (s.1 (i + 1)) (s.1 j) := by
        unfold tn
        grind
      omega
    · have q : (lX l (s.1 j) - lX l (s.1 (i + 1))) * (lY l (s.1 (j + 1)) - lY l (s.1 j)) - (lY l (s.1 j) - lY l (s.1 (i + 1))) * (lX l (s.1 (j + 1)) - lX l (s.1 j)) = tn (lX l) (lY l) (s.1 (i + 1)) (s.1 j) (s.1 (j + 1)) := by
        unfold tn
        grind
      omega
theorem lo_ok {l : List Spt} : okJ l (loF l aP l.length) := fun i hi => ((lo_inv l aP l.length).2 i hi).1
theorem up_ok {l : List Spt} (h : 0 < l.length) : okJ l (upF l aP (l.length - 1) (l.length - 1)) := fun i hi => by
  have := ((up_inv l aP (l.length - 1) rfl (l.length - 1) (Nat.le_refl _)).2.2.2 i hi).1
  omega
/-- what a hull's sides are like -/
theorem hull_sides {l : List Spt} (hs : sorL l) (h : 2 ≤ l.length) :
    (∀ i, i < loN l - 1 → lp (dwX l (hJ l) (hC l) i) (dwY l (hJ l) (hC l) i)) ∧ (∀ i, loN l - 1 ≤ i → i < hC l → lp (-dwX l (hJ l) (hC l) i) (-dwY l (hJ l) (hC l) i)) ∧
    (∀ i j, i < j → j < loN l - 1 → 0 < vx (dwX l (hJ l) (hC l) i) (dwY l (hJ l) (hC l) i) (dwX l (hJ l) (hC l) j) (dwY l (hJ l) (hC l) j)) ∧
    (∀ i j, loN l - 1 ≤ i → i < j → j < hC l → 0 < vx (dwX l (hJ l) (hC l) i) (dwY l (hJ l) (hC l) i) (dwX l (hJ l) (hC l) j) (dwY l (hJ l) (hC l) j)) ∧
    ∀ i j, i < hC l → j < hC l → 0 ≤ vx (dwX l (hJ l) (hC l) i) (dwY l (hJ l) (hC l) i) (lX l (hJ l j) - lX l (hJ l i)) (lY l (hJ l j) - lY l (hJ l i)) := by
  have cl := CV_lo hs aP l.length (Nat.le_refl _)
  have cu := CV_up hs (P := aP) (last := l.length - 1) rfl (by omega) (l.length - 1) (Nat.le_refl _)
  have t2 := lo_two2 h
  refine ⟨fun i hi => ?_, fun i hi hc => ?_, fun i j hij hj => ?_, fun i j hi hij hj => ?_, fun i j hi hj => ?_⟩
  · have s := side_lo h (i := i) (by omega)
    have w := Dd_w hs (lo_ok i (by unfold loN at hi; omega)) (lo_ok (i + 1) (by unfold loN at hi; omega)) (cl.1 i (i + 1) (by omega) (by unfold loN at hi; omega))
    unfold dwX dwY
    rw [s.2.1, s.2.2]
    exact (w.resolve_right (fun q => absurd q.1 (by decide))).2
  · have s := side_up h (i := i) (by omega) hc
    have u1 := s.1
    unfold upN at u1
    have w := Dd_w hs (up_ok (by omega) (i + 1 - loN l) (by omega)) (up_ok (by omega) (i + 1 - loN l + 1) (by omega)) (cu.1 (i + 1 - loN l) (i + 1 - loN l + 1) (by omega) (by omega))
    unfold dwX dwY
    rw [s.2.1, s.2.2]
    exact (w.resolve_left (fun q => absurd q.1 (by decide))).2
  · have s1 := side_lo h (i := i) (by omega)
    have s2 := side_lo h (i := j) (by omega)
    unfold dwX dwY
    rw [s1.2.1, s1.2.2, s2.2.1, s2.2.2]
    exact ch_cr hs lo_ok cl hij (by unfold loN at hj; omega)
  · have s1 := side_up h (i := i) (by omega) (by omega)
    have s2 := side_up h (i := j) (by omega) hj
    have u1 := s2.1
    unfold upN at u1
    unfold dwX dwY
    rw [s1.2.1, s1.2.2, s2.2.1, s2.2.2]
    exact ch_cr hs (up_ok (by omega)) cu (by omega) (by omega)
  · exact hull_sup hs (by omega) hi (hJ_lt hs (by omega) hj)
abbrev snS (l : List Spt) (x y : Int) (i : Nat) : Prop := vx (dwX l (hJ l) (hC l) i) (dwY l (hJ l) (hC l) i) (x - lX l (hJ l i)) (y - lY l (hJ l i)) < 0
theorem sn_run {l : List Spt} (hs : sorL l) (h : 2 ≤ l.length) (x y : Int) : ∀ a b, a < b → b < hC l → snS l x y a → snS l x y b → (∀ j, a < j → j < b → snS l x y j) ∨ (∀ j, j < hC l → (j < a ∨ b < j) → snS l x y j) := by
  obtain ⟨f1, f2, f3, f4, f5⟩ := hull_sides hs h
  intro a b hab hb sa sb
  exact seen_run (x := fun i => lX l (hJ l i)) (y := fun i => lY l (hJ l i)) f1 f2 f3 f4 f5 hab hb sa sb
