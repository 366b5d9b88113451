/-! ===== rows that are sorted ===== -/
def PM (n : Nat) (f g : Nat → Int) : Prop := ∃ s t : Nat → Nat, (∀ i, i < n → s i < n ∧ t i < n ∧ t (s i) = i ∧ s (t i) = i) ∧ ∀ i, i < n → f i = g (s i)
theorem PM_same {n : Nat} {f g : Nat → Int} (h : ∀ i, i < n → f i = g i) : PM n f g := ⟨id, id, fun _ hi => ⟨hi, hi, rfl, rfl⟩, h⟩
theorem PM_trans {n : Nat} {f g h : Nat → Int} (a : PM n f g) (b : PM n g h) : PM n f h := by
  obtain ⟨s, t, h1, h2⟩ := a
  obtain ⟨s', t', h3, h4⟩ := b
  refine ⟨fun i => s' (s i), fun i => t (t' i), fun i hi => ?_, fun i hi => ?_⟩
  · have x := h1 i hi
    have y := h3 _ x.1
    have z := h3 i hi
    have w := h1 _ z.2.1
    exact ⟨y.1, w.2.1, by dsimp only; rw [y.2.2.1, x.2.2.1], by dsimp only; rw [w.2.2.2, z.2.2.2]⟩
  · rw [h2 i hi, h4 _ (h1 i hi).1]
def swp (i j k : Nat) : Nat := if k = i then j else if k = j then i else k
theorem swp_swp (i j k : Nat) : swp i j (swp i j k) = k := by
  unfold swp
  repeat' split
  all_goals omega
theorem PM_swap {n : Nat} {f g : Nat → Int} {i j : Nat} (hi : i < n) (hj : j < n) (h : ∀ k, k < n → f k = g (swp i j k)) : PM n f g := by
  have b : ∀ k, k < n → swp i j k < n := fun k hk => by
    unfold swp
    repeat' split
    all_goals omega
  exact ⟨swp i j, swp i j, fun k hk => ⟨b k hk, b k hk, swp_swp i j k, swp_swp i j k⟩, h⟩
/-- the hole goes from a to b -/
theorem PM_hole {n : Nat} {f : Nat → Int} {a b : Nat} {v : Int} (ha : a < n) (hb : b < n) (hab : a ≠ b) : PM n (va_up (va_up f a (f b)) b v) (va_up f a v) := by
  refine PM_swap ha hb (fun k _ => ?_)
  unfold swp
  by_cases e1 : k = a
  · rw [if_pos e1, va_ne _ _ (by omega), e1, va_same, va_ne _ _ (by omega)]
  · by_cases e2 : k = b
    · rw [if_neg e1, if_pos e2, e2, va_same, va_same]
    · rw [if_neg e1, if_neg e2, va_ne _ _ e2, va_ne _ _ e1, va_ne _ _ e1]
theorem PM_more {n : Nat} {f g : Nat → Int} (h : PM n f g) {f' : Nat → Int} (h1 : ∀ i, i < n → f' i = f i) (h2 : f' n = g n) : PM (n + 1) f' g := by
  obtain ⟨s, t, a, b⟩ := h
  refine ⟨fun i => if i < n then s i else i, fun i => if i < n then t i else i, fun i hi => ?_, fun i hi => ?_⟩
  · by_cases e : i < n
    · have x := a i e
      dsimp only
      rw [if_pos e, if_pos e, if_pos x.1, if_pos x.2.1]
      exact ⟨by omega, by omega, x.2.2.1, x.2.2.2⟩
    · dsimp only
      rw [if_neg e, if_neg e, if_neg e]
      exact ⟨by omega, by omega, rfl, rfl⟩
  · by_cases e : i < n
    · dsimp only
      rw [if_pos e, h1 i e, b i e]
    · dsimp only
      rw [if_neg e, show i = n by omega, h2]
theorem PM_congr {n : Nat} {f g g' : Nat → Int} (h : PM n f g) (e : ∀ i, i < n → g' i = g i) : PM n f g' := PM_trans h (PM_same (fun i hi => (e i hi).symm))
def SO (f : Nat → Int) (n : Nat) : Prop := ∀ i j, i < j → j < n → f i ≤ f j
def InsI (f : Nat → Int) (v : Int) (a e : Nat) : Prop :=
  (∀ i j, i < j → j < a → f i ≤ f j) ∧ (∀ i j, i < a → a < j → j ≤ e → f i ≤ f j) ∧ (∀ i j, a < i → i < j → j ≤ e → f i ≤ f j) ∧ ∀ j, a < j → j ≤ e → v ≤ f j
theorem Ins_start {f : Nat → Int} {v : Int} {n : Nat} (h : SO f n) : InsI f v n n := ⟨fun i j hij hj => h i j hij hj, fun _ j _ h1 h2 => by omega, fun i j h1 h2 h3 => by omega, fun j h1 h2 => by omega⟩
theorem Ins_step {f : Nat → Int} {v : Int} {a e : Nat} (h : InsI f v (a + 1) e) (he : a + 1 ≤ e) (g : v ≤ f a) : InsI (va_up f (a + 1) (f a)) v a e := by
  obtain ⟨h1, h2, h3, h4⟩ := h
  refine ⟨fun i j hij hj => ?_, fun i j hi hj hje => ?_, fun i j hi hij hje => ?_, fun j hj hje => ?_⟩
  · rw [va_ne _ _ (by omega), va_ne _ _ (by omega)]
    exact h1 i j hij (by omega)
  · rw [va_ne _ _ (by omega)]
    by_cases z : j = a + 1
    · rw [z, va_same]
      exact h1 i a hi (by omega)
    · rw [va_ne _ _ z]
      exact h2 i j (by omega) (by omega) hje
  · rw [va_ne _ _ (show j ≠ a + 1 by omega)]
    by_cases z : i = a + 1
    · rw [z, va_same]
      exact h2 a j (by omega) (by omega) hje
    · rw [va_ne _ _ z]
      exact h3 i j (by omega) hij hje
  · by_cases z : j = a + 1
    · rw [z, va_same]
      exact g
    · rw [va_ne _ _ z]
      exact h4 j (by omega) hje
theorem Ins_end {f : Nat → Int} {v : Int} {a e : Nat} (h : InsI f v a e) (g : a = 0 ∨ f (a - 1) ≤ v) : SO (va_up f a v) (e + 1) := by
  obtain ⟨h1, h2, h3, h4⟩ := h
  have lo : ∀ i, i < a → f i ≤ v := fun i hi => by
    rcases g with g | g
    · omega
    · by_cases z : i = a - 1
      · rw [z]
        exact g
      · exact Int.le_trans (h1 i (a - 1) (by omega) (by omega)) g
  intro i j hij hj
  by_cases z1 : i = a
  · rw [z1, va_same, va_ne _ _ (by omega)]
    exact h4 j (by omega) (by omega)
  · by_cases z2 : j = a
    · rw [z2, va_same, va_ne _ _ z1]
      exact lo i (by omega)
    · rw [va_ne _ _ z1, va_ne _ _ z2]
      by_cases z3 : j < a
      · exact h1 i j hij z3
      · by_cases z4 : i < a
        · exact h2 i j z4 (by omega) (by omega)
        · exact h3 i j (by omega) hij (by omega)
theorem mono_id {n : Nat} {s : Nat → Nat} (h : ∀ i j, i < j → j < n → s i < s j) (b : ∀ i, i < n → s i < n) : ∀ i, i < n → s i = i := by
  have lo : ∀ i, i < n → i ≤ s i := by
    intro i
    induction i with
    | zero => exact fun _ => Nat.zero_le _
    | succ k ih =>
      intro hk
      have := ih (by omega)
      have := h k (k + 1) (by omega) hk
      omega
  have hi : ∀ d i, i + d + 1 = n → s i ≤ i := by
    intro d
    induction d with
    | zero =>
      intro i e
      have := b i (by omega)
      omega
    | succ k ih =>
      intro i e
      have := ih (i + 1) (by omega)
      have := h i (i + 1) (by omega) (by omega)
      omega
  intro i hn
  have a1 := lo i hn
  have a2 := hi (n - 1 - i) i (by omega)
  omega
theorem SO_only {n : Nat} {f g b : Nat → Int} (hf : SO f n) (hg : SO g n) (pf : PM n f b) (pg : PM n g b) (inj : ∀ i j, i < n → j < n → b i = b j → i = j) : ∀ i, i < n → f i = g i := by
  obtain ⟨s, t, h1, h2⟩ := pf
  obtain ⟨s', t', h3, h4⟩ := pg
  have fg : ∀ i, i < n → f i = g (t' (s i)) := fun i hi => by
    have x := h1 i hi
    have y := h3 _ x.1
    rw [h2 i hi, h4 _ y.2.1, y.2.2.2]
  have key : ∀ i, i < n → t' (s i) = i := by
    refine mono_id (fun i j hij hj => ?_) (fun i hi => (h3 _ (h1 i hi).1).2.1)
    have x := h1 i (by omega)
    have y := h1 j hj
    have x' := h3 _ x.1
    have y' := h3 _ y.1
    have le := hf i j hij hj
    by_cases q : t' (s i) < t' (s j)
    · exact q
    · exfalso
      have e : t' (s i) = t' (s j) := by
        by_cases z : t' (s j) = t' (s i)
        · exact z.symm
        · have l2 := hg _ _ (show t' (s j) < t' (s i) by omega) x'.2.1
          rw [← fg i (by omega), ← fg j hj] at l2
          have e2 : f i = f j := by omega
          rw [h2 i (by omega), h2 j hj] at e2
          have := inj _ _ x.1 y.1 e2
          rw [this]
      have e2 : s i = s j := by rw [← x'.2.2.2, ← y'.2.2.2, e]
      have e3 : i = j := by rw [← x.2.2.1, ← y.2.2.1, e2]
      omega
  intro i hi
  rw [fg i hi, key i hi]
