/-! ===== the hull has no more corners than SPOTS ===== -/
theorem CV_lo {l : List Spt} (hs : sorL l) (P : Nat → Bool) : ∀ n, n ≤ l.length → CV l true (loF l P n) := by
  intro n
  induction n with
  | zero => exact fun _ => ⟨fun i j _ h => absurd h (Nat.not_lt_zero _), fun i j k _ _ h => absurd h (Nat.not_lt_zero _)⟩
  | succ n ih =>
    intro hn
    have li := lo_inv l P n
    unfold loF
    split
    · refine CV_stp hs (fun i hi => by have := (li.2 i hi).1; omega) (ih (by omega)) (by omega) (fun i hi => ?_)
      unfold Dd
      rw [if_pos rfl]
      exact (li.2 i hi).1
    · exact ih (by omega)
theorem up_lo {l : List Spt} {P : Nat → Bool} {last : Nat} (hl : P last = true) : ∀ c, c ≤ last → ∀ i, i < (upF l P last c).2 → last - c ≤ (upF l P last c).1 i := by
  intro c
  induction c with
  | zero => exact fun _ i _ => Nat.le_refl _
  | succ c ih =>
    intro hc i hi
    have pl := popF_le l (last - 1 - c) (upF l P last c).1 (upF l P last c).2
    unfold upF at hi ⊢
    by_cases e : P (last - 1 - c) = true
    · rw [if_pos e] at hi ⊢
      unfold stpF at hi ⊢
      dsimp only at hi ⊢
      by_cases e2 : i = popF l (last - 1 - c) (upF l P last c).1 (upF l P last c).2
      · rw [e2, va_same]
        omega
      · rw [va_ne _ _ e2]
        have := ih (by omega) i (by omega)
        omega
    · rw [if_neg e] at hi ⊢
      have := ih (by omega) i hi
      omega
theorem CV_up {l : List Spt} (hs : sorL l) {P : Nat → Bool} {last : Nat} (hl : P last = true) (hn : last < l.length) : ∀ c, c ≤ last → CV l false (upF l P last c) := by
  intro c
  induction c with
  | zero => exact fun _ => ⟨fun i j h1 h2 => by have : j < 1 := h2; omega, fun i j k h1 h2 h3 => by have : k < 1 := h3; omega⟩
  | succ c ih =>
    intro hc
    have ui := up_inv l P last hl c (by omega)
    have ul := up_lo (l := l) hl c (by omega)
    unfold upF
    split
    · refine CV_stp hs (fun i hi => by have := (ui.2.2.2 i hi).1; omega) (ih (by omega)) (by omega) (fun i hi => ?_)
      unfold Dd
      rw [if_neg (by decide)]
      have := ul i hi
      omega
    · exact ih (by omega)
theorem lo_first {l : List Spt} {P : Nat → Bool} : ∀ n k, k < n → P k = true → 1 ≤ (loF l P n).2 ∧ (loF l P n).1 0 ≤ k := by
  intro n
  induction n with
  | zero => intro k h; omega
  | succ n ih =>
    intro k hk h
    unfold loF
    by_cases e : P n = true
    · rw [if_pos e]
      unfold stpF
      dsimp only
      refine ⟨by omega, ?_⟩
      by_cases z : 1 ≤ (loF l P n).2
      · have pp := popF_pos l n (loF l P n).1 (loF l P n).2 z
        rw [va_ne _ _ (by omega)]
        by_cases e2 : k = n
        · have := ((lo_inv l P n).2 0 (by omega)).1
          omega
        · exact (ih k (by omega) h).2
      · have z0 : (loF l P n).2 = 0 := by omega
        have kn : k = n := by
          by_cases e2 : k = n
          · exact e2
          · exact absurd (ih k (by omega) h).1 z
        rw [z0]
        show va_up _ 0 n 0 ≤ k
        rw [va_same, kn]
        exact Nat.le_refl _
    · rw [if_neg e]
      refine ih k ?_ h
      by_cases e2 : k = n
      · rw [e2] at h
        exact absurd h e
      · omega
theorem up_last {l : List Spt} {P : Nat → Bool} {last : Nat} (hl : P last = true) : ∀ c, c ≤ last → ∀ k, last - c ≤ k → k < last → P k = true → (upF l P last c).1 ((upF l P last c).2 - 1) ≤ k := by
  intro c
  induction c with
  | zero => intro _ k h1 h2; omega
  | succ c ih =>
    intro hc k h1 h2 h3
    unfold upF
    by_cases e : P (last - 1 - c) = true
    · rw [if_pos e]
      unfold stpF
      dsimp only
      rw [Nat.add_sub_cancel, va_same]
      omega
    · rw [if_neg e]
      refine ih (by omega) k ?_ h2 h3
      by_cases e2 : k = last - 1 - c
      · rw [e2] at h3
        exact absurd h3 e
      · omega
theorem inj_le : ∀ (n c : Nat) (f : Nat → Nat), (∀ i, i < c → f i < n) → (∀ i j, i < c → j < c → f i = f j → i = j) → c ≤ n := by
  intro n
  induction n with
  | zero =>
    intro c f h _
    by_cases e : c = 0
    · omega
    · have := h 0 (by omega)
      omega
  | succ n ih =>
    intro c f h1 h2
    by_cases e : ∃ i, i < c ∧ f i = n
    · obtain ⟨i, hi, fi⟩ := e
      have := ih (c - 1) (fun j => if j = i then f (c - 1) else f j) (fun j hj => by
        (try dsimp only)
        split
        · have a := h1 (c - 1) (by omega)
          by_cases q : f (c - 1) = n
          · have := h2 (c - 1) i (by omega) hi (by omega)
            omega
          · omega
        · have a := h1 j (by omega)
          by_cases q : f j = n
          · have := h2 j i (by omega) hi (by omega)
            omega
          · omega) (fun a b ha hb hab => by
        (try dsimp only at hab)
        split at hab
        · split at hab
          · omega
          · have := h2 _ _ (by omega) (by omega) hab
            omega
        · split at hab
          · have := h2 _ _ (by omega) (by omega) hab
            omega
          · exact h2 _ _ (by omega) (by omega) hab)
      omega
    · have := ih c f (fun i hi => by
        have a := h1 i hi
        by_cases q : f i = n
        · exact absurd ⟨i, hi, q⟩ e
        · omega) h2
      omega
theorem tn_anti (X Y : Nat → Int) (i p j : Nat) : tn X Y j p i = -tn X Y i p j := by
  unfold tn
  grind
theorem hI2_inj {l : List Spt} (hs : sorL l) {P : Nat → Bool} {last : Nat} (hl : last < l.length) (hPl : P last = true) (hPa : ∀ k, last < k → k < l.length → P k = false) :
    (∀ i, i < hN l P l.length last → hI2 l P l.length last i ≤ last ∧ P (hI2 l P l.length last i) = true) ∧ ∀ i j, i < hN l P l.length last → j < hN l P l.length last → hI2 l P l.length last i = hI2 l P l.length last j → i = j := by
  have li := lo_inv l P l.length
  have lc := lo_cut (l := l) (P := P) (last := last) l.length hl hPa
  have lt := lo_top (l := l) (P := P) (n := last) hPl
  have lil := lo_inv l P (last + 1)
  rw [← lc] at lt lil
  have ui := up_inv l P last hPl last (Nat.le_refl _)
  have C1 := (CV_lo hs P l.length (Nat.le_refl _))
  have C2 := CV_up hs hPl hl last (Nat.le_refl _)
  have lf := lo_first (l := l) (P := P) l.length
  unfold hN hI2
  generalize hL : loF l P l.length = L at *
  generalize hU : upF l P last last = U at *
  have rng : ∀ i, i < (if L.2 ≤ 1 then L.2 else L.2 + U.2 - 2) → (if i < L.2 then L.1 i else U.1 (i + 1 - L.2)) ≤ last ∧ P (if i < L.2 then L.1 i else U.1 (i + 1 - L.2)) = true := fun i hi => by
    split
    · rename_i h
      have := lil.2 i h
      exact ⟨by omega, this.2⟩
    · rename_i h
      split at hi
      · omega
      · have := ui.2.2.2 (i + 1 - L.2) (by omega)
        exact this
  refine ⟨rng, ?_⟩
  have lowinj : ∀ i j, i < L.2 → j < L.2 → L.1 i = L.1 j → i = j := fun i j hi hj e => by
    rcases Nat.lt_trichotomy i j with h | h | h
    · have := C1.1 i j h hj
      unfold Dd at this
      rw [if_pos rfl] at this
      omega
    · exact h
    · have := C1.1 j i h hi
      unfold Dd at this
      rw [if_pos rfl] at this
      omega
  have updec : ∀ i j, i < j → j < U.2 → U.1 j < U.1 i := fun i j h hj => by
    have := C2.1 i j h hj
    unfold Dd at this
    rw [if_neg (by decide)] at this
    exact this
  have upinj : ∀ i j, i < U.2 → j < U.2 → U.1 i = U.1 j → i = j := fun i j hi hj e => by
    rcases Nat.lt_trichotomy i j with h | h | h
    · have := updec i j h hj
      omega
    · exact h
    · have := updec j i h hi
      omega
  have apart : ∀ i j, i < L.2 → 1 ≤ j → j + 1 < U.2 → L.1 i ≠ U.1 j := fun i j hi hj1 hj2 e => by
    have u0 := updec 0 j (by omega) (by omega)
    have ue := updec j (U.2 - 1) (by omega) (by omega)
    have pe := ui.2.2.2 (U.2 - 1) (by omega)
    have f1 := lf _ (show U.1 (U.2 - 1) < l.length by omega) pe.2
    have p0 := lil.2 0 (by omega)
    have ul := up_last (l := l) hPl last (Nat.le_refl _) (L.1 0) (by omega) (by omega) p0.2
    rw [hU] at ul
    have ee : U.1 (U.2 - 1) = L.1 0 := by omega
    have i0 : i ≠ 0 := fun w => by
      rw [w] at e
      omega
    have i1 : i ≠ L.2 - 1 := fun w => by
      rw [w, lt.2] at e
      omega
    have t1 := C1.2 0 i (L.2 - 1) (by omega) (by omega) (by omega)
    have t2 := C2.2 0 j (U.2 - 1) (by omega) (by omega) (by omega)
    rw [lt.2] at t1
    rw [ui.2.2.1, ee, ← e, tn_anti] at t2
    omega
  intro i j hi hj e
  split at hi
  · rename_i h
    rw [if_pos h] at hj
    rw [if_pos hi, if_pos hj] at e
    exact lowinj i j hi hj e
  · rename_i h
    rw [if_neg h] at hj
    by_cases a : i < L.2
    · rw [if_pos a] at e
      by_cases b : j < L.2
      · rw [if_pos b] at e
        exact lowinj i j a b e
      · rw [if_neg b] at e
        exact absurd e (apart i (j + 1 - L.2) a (by omega) (by omega))
    · rw [if_neg a] at e
      by_cases b : j < L.2
      · rw [if_pos b] at e
        exact absurd e.symm (apart j (i + 1 - L.2) b (by omega) (by omega))
      · rw [if_neg b] at e
        have := upinj _ _ (by omega) (by omega) e
        omega
theorem hN_le {l : List Spt} (hs : sorL l) {P : Nat → Bool} {last : Nat} (hl : last < l.length) (hPl : P last = true) (hPa : ∀ k, last < k → k < l.length → P k = false) : hN l P l.length last ≤ last + 1 := by
  have h := hI2_inj hs hl hPl hPa
  exact inj_le _ _ (hI2 l P l.length last) (fun i hi => by have := (h.1 i hi).1; omega) h.2
