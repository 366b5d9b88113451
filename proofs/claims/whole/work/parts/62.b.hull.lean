/-! ===== the outline of the class ===== -/
def loF (l : List Spt) (P : Nat → Bool) : Nat → (Nat → Nat) × Nat
  | 0 => (fun _ => 0, 0)
  | n + 1 => if P n = true then stpF l (loF l P n) n else loF l P n
def upF (l : List Spt) (P : Nat → Bool) (last : Nat) : Nat → (Nat → Nat) × Nat
  | 0 => (fun _ => last, 1)
  | c + 1 => if P (last - 1 - c) = true then stpF l (upF l P last c) (last - 1 - c) else upF l P last c
def hN (l : List Spt) (P : Nat → Bool) (n last : Nat) : Nat := if (loF l P n).2 ≤ 1 then (loF l P n).2 else (loF l P n).2 + (upF l P last last).2 - 2
def hI2 (l : List Spt) (P : Nat → Bool) (n last i : Nat) : Nat := if i < (loF l P n).2 then (loF l P n).1 i else (upF l P last last).1 (i + 1 - (loF l P n).2)
theorem lo_inv (l : List Spt) (P : Nat → Bool) : ∀ n, (loF l P n).2 ≤ n ∧ ∀ i, i < (loF l P n).2 → (loF l P n).1 i < n ∧ P ((loF l P n).1 i) = true := by
  intro n
  induction n with
  | zero => exact ⟨Nat.le_refl _, fun i hi => absurd hi (Nat.not_lt_zero _)⟩
  | succ n ih =>
    unfold loF
    by_cases e : P n = true
    · rw [if_pos e]
      have pl := popF_le l n (loF l P n).1 (loF l P n).2
      unfold stpF
      refine ⟨by dsimp only; omega, fun i hi => ?_⟩
      dsimp only at hi ⊢
      by_cases e2 : i = popF l n (loF l P n).1 (loF l P n).2
      · rw [e2, va_same]
        exact ⟨by omega, e⟩
      · rw [va_ne _ _ e2]
        have := ih.2 i (by omega)
        exact ⟨by omega, this.2⟩
    · rw [if_neg e]
      exact ⟨by omega, fun i hi => by have := ih.2 i hi; exact ⟨by omega, this.2⟩⟩
theorem lo_top {l : List Spt} {P : Nat → Bool} {n : Nat} (h : P n = true) : 1 ≤ (loF l P (n + 1)).2 ∧ (loF l P (n + 1)).1 ((loF l P (n + 1)).2 - 1) = n := by
  have e : loF l P (n + 1) = stpF l (loF l P n) n := if_pos h
  rw [e]
  unfold stpF
  dsimp only
  rw [Nat.add_sub_cancel, va_same]
  exact ⟨by omega, rfl⟩
theorem up_inv (l : List Spt) (P : Nat → Bool) (last : Nat) (hl : P last = true) : ∀ c, c ≤ last → 1 ≤ (upF l P last c).2 ∧ (upF l P last c).2 ≤ c + 1 ∧ (upF l P last c).1 0 = last ∧ ∀ i, i < (upF l P last c).2 → (upF l P last c).1 i ≤ last ∧ P ((upF l P last c).1 i) = true := by
  intro c
  induction c with
  | zero => exact fun _ => ⟨Nat.le_refl _, Nat.le_refl _, rfl, fun i _ => ⟨Nat.le_refl _, hl⟩⟩
  | succ c ih =>
    intro hc
    obtain ⟨h1, h2, h3, h4⟩ := ih (by omega)
    unfold upF
    by_cases e : P (last - 1 - c) = true
    · rw [if_pos e]
      have pl := popF_le l (last - 1 - c) (upF l P last c).1 (upF l P last c).2
      have pp := popF_pos l (last - 1 - c) (upF l P last c).1 (upF l P last c).2 h1
      unfold stpF
      dsimp only
      refine ⟨by omega, by omega, ?_, fun i hi => ?_⟩
      · rw [va_ne _ _ (by omega)]
        exact h3
      · by_cases e2 : i = popF l (last - 1 - c) (upF l P last c).1 (upF l P last c).2
        · rw [e2, va_same]
          exact ⟨by omega, e⟩
        · rw [va_ne _ _ e2]
          exact h4 i (by omega)
    · rw [if_neg e]
      exact ⟨h1, by omega, h3, h4⟩
theorem lo_two {l : List Spt} {P : Nat → Bool} {n : Nat} (h : P n = true) (h1 : 1 ≤ (loF l P n).2) : 2 ≤ (loF l P (n + 1)).2 := by
  have e : loF l P (n + 1) = stpF l (loF l P n) n := if_pos h
  have pp := popF_pos l n (loF l P n).1 (loF l P n).2 h1
  rw [e]
  unfold stpF
  dsimp only
  omega
def aP : Nat → Bool := fun _ => true
def OU (z : tZ5) (l : List Spt) (h : Nat → Nat) (c : Nat) : Prop := z.2.2.2 = (c : Int) ∧ c ≤ 81 ∧ ∀ i, i < c → h i < l.length ∧ z.1 i = lX l (h i) ∧ z.2.1 i = lY l (h i) ∧ z.2.2.1 i = lP l (h i)
theorem q_outline {z : tZ5} {z8 : tZ8} {l : List Spt} (H8 : SPc z8 l) (hb : bdL l) (hl40 : l.length ≤ 40) (h0 : 0 < l.length) :
    kwp (q_X5_about z z8) (fun z' => OU z' l (hI2 l aP l.length (l.length - 1)) (hN l aP l.length (l.length - 1))) := by
  obtain ⟨n, hn⟩ : ∃ n, l.length = n + 1 := ⟨l.length - 1, by omega⟩
  rw [hn, Nat.add_sub_cancel]
  have li := lo_inv l aP (n + 1)
  have lt := lo_top (l := l) (P := aP) (n := n) rfl
  have ui := up_inv l aP n rfl n (Nat.le_refl _)
  unfold q_X5_about
  simp only [kwp_kl]
  refine w_kb (w_for (ex := 28) (by decide) (fun i (s : Int × tZ5) => s.1 = (i : Int) ∧ RC s.2 l 0 (loF l aP i)) (n + 1) ?_ ?_ (Nat.zero_le _) (by have := kF_eq; omega) ⟨rfl, rfl, fun i hi => absurd hi (Nat.not_lt_zero _)⟩) ?_
  · rintro i ⟨c, s⟩ hi ⟨rfl, h⟩
    dsimp only at h
    have vi := lo_inv l aP i
    unfold q_X5_about_L7
    rw [q_sc H8]
    simp only [kwp_kb, kwp_some, kwp_kg, kwp_kif, kwp_kl]
    refine ⟨⟨⟨by omega, by omega⟩, ⟨by omega, by omega⟩⟩, fun q => by omega, fun _ => ?_⟩
    have t := q_lay (b := 0) (k := i) H8 hb h (fun i hi => absurd hi (Nat.not_lt_zero _)) (fun j hj => by have := (vi.2 j hj).1; omega) (by omega) (by omega)
    refine w_mono t (fun z' hz => ⟨by trivial, by omega, ?_⟩)
    have e : loF l aP (i + 1) = stpF l (loF l aP i) i := if_pos rfl
    rw [e]
    exact hz.1
  · rintro ⟨c, s⟩ ⟨rfl, h⟩
    dsimp only at h
    unfold q_X5_about_L7
    rw [q_sc H8]
    simp only [kwp_kb, kwp_some, kwp_kg, kwp_kif, kwp_kl]
    exact ⟨⟨⟨by omega, by omega⟩, ⟨by omega, by omega⟩⟩, fun _ => ⟨by trivial, by trivial, h⟩, fun q => by omega⟩
  · rintro ⟨lb, c, zl⟩ ⟨g0, _, hz⟩
    dsimp only at g0 hz ⊢
    obtain ⟨b, hbb⟩ : ∃ b, (loF l aP (n + 1)).2 = b + 1 := ⟨(loF l aP (n + 1)).2 - 1, by omega⟩
    have ez : zl.2.2.2 = ((b + 1 : Nat) : Int) := by rw [hz.1, hbb, Nat.zero_add]
    have hz2 : ∀ i, i < b + 1 → zl.1 i = lX l ((loF l aP (n + 1)).1 i) ∧ zl.2.1 i = lY l ((loF l aP (n + 1)).1 i) ∧ zl.2.2.1 i = lP l ((loF l aP (n + 1)).1 i) := fun i hi => by
      have := hz.2 i (by omega)
      rw [Nat.zero_add] at this
      exact this
    have hz3 : ∀ i, i < b + 1 → (zl.1 i).natAbs ≤ 400 ∧ (zl.2.1 i).natAbs ≤ 400 := fun i hi => by
      have a := hz2 i hi
      have c := bX hb (show (loF l aP (n + 1)).1 i < l.length by have := (li.2 i (by omega)).1; omega)
      rw [a.1, a.2.1]
      omega
    rw [hbb, Nat.add_sub_cancel] at lt
    rw [q_sc H8]
    simp only [kwp_kb, kwp_some, kwp_kg, kwp_kif, kwp_kl]
    refine ⟨g0, ?_⟩
    rw [ez, show ((b + 1 : Nat) : Int) - 1 = (b : Int) by omega]
    refine w_mono (w_for (ex := 59) (by decide) (fun i (s : Int × tZ5) => s.1 = (n : Int) - 1 - (i : Int) ∧ RC s.2 l b (upF l aP n i) ∧ SAM zl s.2 b) n ?_ ?_ (Nat.zero_le _) (by have := kF_eq; omega) ⟨by dsimp only; omega, ⟨ez, fun i hi => ?_⟩, fun i _ => ⟨rfl, rfl, rfl⟩⟩) ?_
    · rintro i ⟨c, s⟩ hi ⟨rfl, h, hs⟩
      dsimp only at h hs
      have vi := up_inv l aP n rfl i (by omega)
      unfold q_X5_about_L42
      simp only [kwp_kb, kwp_some, kwp_kg, kwp_kif, kwp_kl]
      refine ⟨⟨by omega, by omega⟩, fun q => by omega, fun _ => ?_⟩
      have ek : (n : Int) - 1 - (i : Int) = ((n - 1 - i : Nat) : Int) := by omega
      have t := q_lay (b := b) (k := n - 1 - i) H8 hb h (fun j hj => by
        have := hs j hj
        have := hz3 j (by omega)
        rw [(hs j hj).1, (hs j hj).2.1]
        exact this) (fun j hj => by have := (vi.2.2.2 j hj).1; omega) (by omega) (by omega)
      rw [ek]
      refine w_mono t (fun z' hz => ⟨by trivial, by omega, ?_, fun j hj => ?_⟩)
      · have e : upF l aP n (i + 1) = stpF l (upF l aP n i) (n - 1 - i) := if_pos rfl
        rw [e]
        exact hz.1
      · have a := hs j hj
        have c := hz.2 j hj
        exact ⟨c.1.trans a.1, c.2.1.trans a.2.1, c.2.2.trans a.2.2⟩
    · rintro ⟨c, s⟩ ⟨rfl, h⟩
      dsimp only at h
      unfold q_X5_about_L42
      simp only [kwp_kb, kwp_some, kwp_kg, kwp_kif, kwp_kl]
      exact ⟨⟨by omega, by omega⟩, fun _ => ⟨by trivial, by trivial, h⟩, fun q => by omega⟩
    · have i0 : i = 0 := by
        have : i < 1 := hi
        omega
      subst i0
      have := hz2 b (by omega)
      rw [lt.2] at this
      exact this
    · rintro ⟨lb, c, zu⟩ ⟨g1, _, hu, hs⟩
      dsimp only at g1 hu hs ⊢
      have key : ∀ i, i < b + (upF l aP n n).2 → hI2 l aP (n + 1) n i < n + 1 ∧ zu.1 i = lX l (hI2 l aP (n + 1) n i) ∧ zu.2.1 i = lY l (hI2 l aP (n + 1) n i) ∧ zu.2.2.1 i = lP l (hI2 l aP (n + 1) n i) := fun i hi => by
        unfold hI2
        rw [hbb]
        by_cases e : i < b
        · rw [if_pos (by omega), (hs i e).1, (hs i e).2.1, (hs i e).2.2]
          exact ⟨(li.2 i (by omega)).1, hz2 i (by omega)⟩
        · by_cases e2 : i = b
          · subst e2
            rw [if_pos (by omega), lt.2]
            have := hu.2 0 (by omega)
            rw [ui.2.2.1, Nat.add_zero] at this
            exact ⟨by omega, this⟩
          · rw [if_neg (by omega)]
            have := hu.2 (i - b) (by omega)
            rw [show b + (i - b) = i by omega] at this
            rw [show i + 1 - (b + 1) = i - b by omega]
            have u2 := (ui.2.2.2 (i - b) (by omega)).1
            exact ⟨by omega, this⟩
      refine ⟨g1, ?_, fun q => ?_, fun q => ?_⟩
      · rw [hu.1]
        exact ⟨by omega, by omega⟩
      · rw [hu.1] at q
        have b0 : b = 0 := by omega
        have u1 : (upF l aP n n).2 = 1 := by omega
        have eN : hN l aP (n + 1) n = 1 := by unfold hN; rw [if_pos (by omega)]; omega
        rw [eN]
        refine ⟨by rw [hu.1]; omega, by decide, fun i hi => ?_⟩
        have := key i (by omega)
        rw [hn]
        exact this
      · rw [hu.1] at q
        have n1 : 1 ≤ n := by
          by_cases e : n = 0
          · subst e
            have := ui.2.1
            omega
          · omega
        have b1 : 1 ≤ b := by
          obtain ⟨k, rfl⟩ : ∃ k, n = k + 1 := ⟨n - 1, by omega⟩
          have := lo_two (l := l) (P := aP) (n := k + 1) rfl (lo_top (l := l) (P := aP) (n := k) rfl).1
          omega
        have eN : hN l aP (n + 1) n = b + (upF l aP n n).2 - 1 := by unfold hN; rw [if_neg (by omega)]; omega
        rw [eN]
        refine ⟨?_, by omega, fun i hi => ?_⟩
        · show zu.2.2.2 - 1 = _
          rw [hu.1]
          omega
        · have := key i (by omega)
          rw [hn]
          exact this
