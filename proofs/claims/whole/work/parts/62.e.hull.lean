/-! ===== the chains are convex ===== -/
def lp (a b : Int) : Prop := 0 < a ∨ (a = 0 ∧ 0 < b)
theorem cr_trans {u1 u2 v1 v2 w1 w2 : Int} (hu : lp u1 u2) (hv : lp v1 v2) (hw : lp w1 w2) (h1 : 0 < u1 * v2 - u2 * v1) (h2 : 0 < v1 * w2 - v2 * w1) : 0 < u1 * w2 - u2 * w1 := by
  have w1n : 0 ≤ w1 := by unfold lp at hw; omega
  have v1p : 0 < v1 := by
    rcases hv with h | ⟨h, h'⟩
    · exact h
    · exfalso
      rw [h] at h2
      have : 0 ≤ v2 * w1 := Int.mul_nonneg (by omega) w1n
      omega
  have u1p : 0 < u1 := by
    rcases hu with h | ⟨h, h'⟩
    · exact h
    · exfalso
      rw [h] at h1
      have := Int.mul_pos h' v1p
      omega
  have e : (u1 * w2 - u2 * w1) * v1 = (u1 * v2 - u2 * v1) * w1 + (v1 * w2 - v2 * w1) * u1 := by grind
  have p1 : 0 ≤ (u1 * v2 - u2 * v1) * w1 := Int.mul_nonneg (by omega) w1n
  have p2 : 0 < (v1 * w2 - v2 * w1) * u1 := Int.mul_pos h2 u1p
  have p3 : 0 < (u1 * w2 - u2 * w1) * v1 := by rw [e]; exact Int.add_pos_of_nonneg_of_pos p1 p2
  generalize u1 * w2 - u2 * w1 = x at p3 ⊢
  by_cases h : 0 < x
  · exact h
  · exfalso
    have := Int.mul_nonneg (show 0 ≤ -x by omega) (Int.le_of_lt v1p)
    rw [Int.neg_mul] at this
    omega
/-- a's number is ahead of b's (o), or behind (not o) -/
def Dd (o : Bool) (a b : Nat) : Prop := if o = true then a < b else b < a
theorem Dd_lp {l : List Spt} (hs : sorL l) {a b : Nat} (ha : a < l.length) (hb : b < l.length) {o : Bool} (h : Dd o a b) : (o = true ∧ lp (lX l b - lX l a) (lY l b - lY l a)) ∨ (o = false ∧ lp (lX l a - lX l b) (lY l a - lY l b)) := by
  unfold Dd at h
  cases o with
  | true =>
    rw [if_pos rfl] at h
    have := sor_lt hs h hb
    refine Or.inl ⟨rfl, ?_⟩
    unfold ltS at this
    unfold lp lX lY
    omega
  | false =>
    rw [if_neg (by decide)] at h
    have := sor_lt hs h ha
    refine Or.inr ⟨rfl, ?_⟩
    unfold ltS at this
    unfold lp lX lY
    omega
/-- ways of one kind: a turn and a turn make a turn -/
theorem tn_tr {o : Bool} {u1 u2 v1 v2 w1 w2 : Int} (hu : (o = true ∧ lp u1 u2) ∨ (o = false ∧ lp (-u1) (-u2))) (hv : (o = true ∧ lp v1 v2) ∨ (o = false ∧ lp (-v1) (-v2))) (hw : (o = true ∧ lp w1 w2) ∨ (o = false ∧ lp (-w1) (-w2)))
    (h1 : 0 < u1 * v2 - u2 * v1) (h2 : 0 < v1 * w2 - v2 * w1) : 0 < u1 * w2 - u2 * w1 := by
  cases o with
  | true =>
    have a := hu.resolve_right (fun w => absurd w.1 (by decide))
    have b := hv.resolve_right (fun w => absurd w.1 (by decide))
    have c := hw.resolve_right (fun w => absurd w.1 (by decide))
    exact cr_trans a.2 b.2 c.2 h1 h2
  | false =>
    have a := hu.resolve_left (fun w => absurd w.1 (by decide))
    have b := hv.resolve_left (fun w => absurd w.1 (by decide))
    have c := hw.resolve_left (fun w => absurd w.1 (by decide))
    have := cr_trans a.2 b.2 c.2 (by rw [Int.neg_mul_neg, Int.neg_mul_neg]; exact h1) (by rw [Int.neg_mul_neg, Int.neg_mul_neg]; exact h2)
    rw [Int.neg_mul_neg, Int.neg_mul_neg] at this
    exact this
theorem Dd_w {l : List Spt} (hs : sorL l) {a b : Nat} (ha : a < l.length) (hb : b < l.length) {o : Bool} (h : Dd o a b) : (o = true ∧ lp (lX l b - lX l a) (lY l b - lY l a)) ∨ (o = false ∧ lp (-(lX l b - lX l a)) (-(lY l b - lY l a))) := by
  rw [Int.neg_sub, Int.neg_sub]
  exact Dd_lp hs ha hb h
/-- i, a, b and a, b, k turn left: so does i, b, k -/
theorem tn_ibk {l : List Spt} (hs : sorL l) {o : Bool} {i a b k : Nat} (hi : i < l.length) (ha : a < l.length) (hb : b < l.length) (hk : k < l.length) (d1 : Dd o i a) (d2 : Dd o a b) (d3 : Dd o b k)
    (h1 : 0 < tn (lX l) (lY l) i a b) (h2 : 0 < tn (lX l) (lY l) a b k) : 0 < tn (lX l) (lY l) i b k := by
  have w1 := Dd_w hs hi ha d1
  have w2 := Dd_w hs ha hb d2
  have w3 := Dd_w hs hb hk d3
  unfold tn at *
  have c1 : 0 < (lX l a - lX l i) * (lY l b - lY l a) - (lY l a - lY l i) * (lX l b - lX l a) := by grind
  have c2 : 0 < (lX l b - lX l a) * (lY l k - lY l b) - (lY l b - lY l a) * (lX l k - lX l b) := by grind
  have c3 := tn_tr w1 w2 w3 c1 c2
  have e : (lX l b - lX l i) * (lY l k - lY l i) - (lY l b - lY l i) * (lX l k - lX l i) = ((lX l a - lX l i) * (lY l k - lY l b) - (lY l a - lY l i) * (lX l k - lX l b)) + ((lX l b - lX l a) * (lY l k - lY l b) - (lY l b - lY l a) * (lX l k - lX l b)) := by grind
  rw [e]
  exact Int.add_pos c3 c2
/-- i, j, b and j, b, k turn left: so does i, j, k -/
theorem tn_ijk {l : List Spt} (hs : sorL l) {o : Bool} {i j b k : Nat} (hi : i < l.length) (hj : j < l.length) (hb : b < l.length) (hk : k < l.length) (d1 : Dd o i j) (d2 : Dd o j b) (d3 : Dd o b k)
    (h1 : 0 < tn (lX l) (lY l) i j b) (h2 : 0 < tn (lX l) (lY l) j b k) : 0 < tn (lX l) (lY l) i j k := by
  have w1 := Dd_w hs hi hj d1
  have w2 := Dd_w hs hj hb d2
  have w3 := Dd_w hs hb hk d3
  unfold tn at *
  have c1 : 0 < (lX l j - lX l i) * (lY l b - lY l j) - (lY l j - lY l i) * (lX l b - lX l j) := by grind
  have c2 : 0 < (lX l b - lX l j) * (lY l k - lY l b) - (lY l b - lY l j) * (lX l k - lX l b) := by grind
  have c3 := tn_tr w1 w2 w3 c1 c2
  have e : (lX l j - lX l i) * (lY l k - lY l i) - (lY l j - lY l i) * (lX l k - lX l i) = ((lX l j - lX l i) * (lY l b - lY l j) - (lY l j - lY l i) * (lX l b - lX l j)) + ((lX l j - lX l i) * (lY l k - lY l b) - (lY l j - lY l i) * (lX l k - lX l b)) := by grind
  rw [e]
  exact Int.add_pos c1 c3
def CV (l : List Spt) (o : Bool) (s : (Nat → Nat) × Nat) : Prop := (∀ i j, i < j → j < s.2 → Dd o (s.1 i) (s.1 j)) ∧ ∀ i j k, i < j → j < k → k < s.2 → 0 < tn (lX l) (lY l) (s.1 i) (s.1 j) (s.1 k)
theorem pop_tn (l : List Spt) (k : Nat) (f : Nat → Nat) : ∀ t, 2 ≤ popF l k f t → 0 < tn (lX l) (lY l) (f (popF l k f t - 2)) (f (popF l k f t - 1)) k := by
  intro t
  induction t with
  | zero => intro h; exact absurd h (by show ¬ 2 ≤ 0; omega)
  | succ t ih =>
    cases t with
    | zero => intro h; exact absurd h (by show ¬ 2 ≤ 1; omega)
    | succ t =>
      unfold popF
      split
      · rename_i h
        intro _
        exact h
      · exact ih
theorem CV_stp {l : List Spt} (hs : sorL l) {o : Bool} {s : (Nat → Nat) × Nat} {k : Nat} (ok : okJ l s) (h : CV l o s) (hk : k < l.length) (hd : ∀ i, i < s.2 → Dd o (s.1 i) k) : CV l o (stpF l s k) := by
  have pl := popF_le l k s.1 s.2
  have pt := pop_tn l k s.1 s.2
  unfold stpF
  generalize popF l k s.1 s.2 = t at pl pt ⊢
  have old : ∀ j, j < t → va_up s.1 t k j = s.1 j := fun j hj => va_ne _ _ (by omega)
  have new : va_up s.1 t k t = k := va_same _ _ _
  have last : ∀ i, i + 1 < t → 0 < tn (lX l) (lY l) (s.1 i) (s.1 (t - 1)) k := fun i hi => by
    by_cases e : i = t - 2
    · rw [e]
      exact pt (by omega)
    · exact tn_ibk hs (o := o) (a := s.1 (t - 2)) (ok i (by omega)) (ok _ (by omega)) (ok _ (by omega)) hk (h.1 _ _ (by omega) (by omega)) (h.1 _ _ (by omega) (by omega)) (hd _ (by omega)) (h.2 _ _ _ (by omega) (by omega) (by omega)) (pt (by omega))
  refine ⟨fun i j hij hj => ?_, fun i j q hij hjq hq => ?_⟩
  · dsimp only at hj ⊢
    by_cases e : j = t
    · rw [e, new, old i (by omega)]
      exact hd i (by omega)
    · rw [old i (by omega), old j (by omega)]
      exact h.1 i j hij (by omega)
  · dsimp only at hq ⊢
    by_cases e : q = t
    · rw [e, new, old i (by omega), old j (by omega)]
      by_cases e2 : j = t - 1
      · rw [e2]
        exact last i (by omega)
      · exact tn_ijk hs (o := o) (b := s.1 (t - 1)) (ok i (by omega)) (ok j (by omega)) (ok _ (by omega)) hk (h.1 _ _ (by omega) (by omega)) (h.1 _ _ (by omega) (by omega)) (hd _ (by omega)) (h.2 _ _ _ (by omega) (by omega) (by omega)) (last j (by omega))
    · rw [old i (by omega), old j (by omega), old q (by omega)]
      exact h.2 i j q hij hjq (by omega)
