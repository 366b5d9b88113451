/-! ===== the few that force the circle ===== -/
theorem mul0_pos {s x : Int} (hs : 0 < s) (h : s * x = 0) : x = 0 := by
  rcases Int.mul_eq_zero.mp h with h | h
  · omega
  · exact h
def T2 (l : List Spt) (C : Cir) (p q : Nat) : Prop := ds (lX l) (lY l) p q * (C.2.2.2 * C.2.2.2) = 4 * rN C
def OP (l : List Spt) (C : Cir) (p q : Nat) : Prop := (lX l p + lX l q) * C.2.2.2 = 2 * C.1 ∧ (lY l p + lY l q) * C.2.2.2 = 2 * C.2.1
theorem pw_sq (C : Cir) (x y : Int) : C.2.2.2 * pw C x y = (C.2.2.2 * x - C.1) * (C.2.2.2 * x - C.1) + (C.2.2.2 * y - C.2.1) * (C.2.2.2 * y - C.2.1) - rN C := by
  unfold pw rN
  grind
theorem T2_id (l : List Spt) (C : Cir) (p q : Nat) : ds (lX l) (lY l) p q * (C.2.2.2 * C.2.2.2) = 2 * (C.2.2.2 * pw C (lX l p) (lY l p)) + 2 * (C.2.2.2 * pw C (lX l q) (lY l q)) + 4 * rN C
    - ((lX l p + lX l q) * C.2.2.2 - 2 * C.1) * ((lX l p + lX l q) * C.2.2.2 - 2 * C.1) - ((lY l p + lY l q) * C.2.2.2 - 2 * C.2.1) * ((lY l p + lY l q) * C.2.2.2 - 2 * C.2.1) := by
  unfold ds pw rN
  grind
theorem T2_iff {l : List Spt} {C : Cir} {p q : Nat} (hs : 0 < C.2.2.2) (hp : pw C (lX l p) (lY l p) ≤ 0) (hq : pw C (lX l q) (lY l q) ≤ 0) : T2 l C p q ↔ OP l C p q ∧ pw C (lX l p) (lY l p) = 0 ∧ pw C (lX l q) (lY l q) = 0 := by
  have id := T2_id l C p q
  unfold T2 OP
  generalize ds (lX l) (lY l) p q * (C.2.2.2 * C.2.2.2) = D at id ⊢
  have np := Int.mul_nonneg (Int.le_of_lt hs) (show 0 ≤ -pw C (lX l p) (lY l p) by omega)
  have nq := Int.mul_nonneg (Int.le_of_lt hs) (show 0 ≤ -pw C (lX l q) (lY l q) by omega)
  rw [Int.mul_neg] at np nq
  generalize pw C (lX l p) (lY l p) = a at *
  generalize pw C (lX l q) (lY l q) = b at *
  have s1 := sq_nn2 ((lX l p + lX l q) * C.2.2.2 - 2 * C.1)
  have s2 := sq_nn2 ((lY l p + lY l q) * C.2.2.2 - 2 * C.2.1)
  constructor
  · intro h
    have u0 : (lX l p + lX l q) * C.2.2.2 - 2 * C.1 = 0 := Classical.byContradiction (fun w => by
      have := sq_pos2 w
      omega)
    have v0 : (lY l p + lY l q) * C.2.2.2 - 2 * C.2.1 = 0 := Classical.byContradiction (fun w => by
      have := sq_pos2 w
      omega)
    exact ⟨⟨by omega, by omega⟩, mul0_pos hs (by omega), mul0_pos hs (by omega)⟩
  · rintro ⟨⟨h1, h2⟩, rfl, rfl⟩
    rw [show (lX l p + lX l q) * C.2.2.2 - 2 * C.1 = 0 by omega, show (lY l p + lY l q) * C.2.2.2 - 2 * C.2.1 = 0 by omega] at id
    simp only [Int.mul_zero] at id
    omega
def SH (l : List Spt) (p q r : Nat) : Prop := ds (lX l) (lY l) p q < ds (lX l) (lY l) q r + ds (lX l) (lY l) r p ∧ ds (lX l) (lY l) q r < ds (lX l) (lY l) p q + ds (lX l) (lY l) r p ∧ ds (lX l) (lY l) r p < ds (lX l) (lY l) p q + ds (lX l) (lY l) q r
def RM (l : List Spt) (C : Cir) (p : Nat) : Prop := pw C (lX l p) (lY l p) = 0
def T3 (l : List Spt) (C : Cir) (p q r : Nat) : Prop := RM l C p ∧ RM l C q ∧ RM l C r ∧ SH l p q r
theorem T2_P {l : List Spt} {C D : Cir} (hC : 0 < C.2.2.2) (hD : 0 < D.2.2.2) (h : cP C D) (p q : Nat) : T2 l C p q ↔ T2 l D p q := by
  have r := rN_P h
  have c2 := Int.mul_pos hC hC
  have d2 := Int.mul_pos hD hD
  unfold T2
  generalize ds (lX l) (lY l) p q = d
  generalize C.2.2.2 * C.2.2.2 = c at *
  generalize D.2.2.2 * D.2.2.2 = e at *
  generalize rN C = x at *
  generalize rN D = y at *
  constructor
  · intro g
    have e1 : c * (d * e - 4 * y) = 0 := by grind
    have := mul0_pos c2 e1
    omega
  · intro g
    have e1 : e * (d * c - 4 * x) = 0 := by grind
    have := mul0_pos d2 e1
    omega
theorem RM_P {l : List Spt} {C D : Cir} (hC : 0 < C.2.2.2) (hD : 0 < D.2.2.2) (h : cP C D) (p : Nat) : RM l C p ↔ RM l D p := (cP_on hD hC h).symm
/-- the pair by numbers, the least -/
def P2 (l : List Spt) (C : Cir) (p q : Nat) : Prop :=
  p < l.length ∧ q < l.length ∧ lP l p < lP l q ∧ T2 l C p q ∧ ∀ a b, a < l.length → b < l.length → lP l a < lP l b → T2 l C a b → lP l p < lP l a ∨ (a = p ∧ lP l q ≤ lP l b)
def N2 (l : List Spt) (C : Cir) : Prop := ∀ a b, a < l.length → b < l.length → lP l a < lP l b → ¬ T2 l C a b
def P3 (l : List Spt) (C : Cir) (p q r : Nat) : Prop :=
  p < l.length ∧ q < l.length ∧ r < l.length ∧ lP l p < lP l q ∧ lP l q < lP l r ∧ T3 l C p q r ∧
  ∀ a b c, a < l.length → b < l.length → c < l.length → lP l a < lP l b → lP l b < lP l c → T3 l C a b c → lP l p < lP l a ∨ (a = p ∧ (lP l q < lP l b ∨ (b = q ∧ lP l r ≤ lP l c)))
def TS (l : List Spt) (C : Cir) (n : Nat) (t : Nat → Nat) : Prop :=
  (l.length = 1 ∧ n = 1 ∧ t 0 = 0) ∨ (2 ≤ l.length ∧ n = 2 ∧ P2 l C (t 0) (t 1)) ∨ (2 ≤ l.length ∧ N2 l C ∧ n = 3 ∧ P3 l C (t 0) (t 1) (t 2))
theorem P2_only {l : List Spt} {C : Cir} {p q a b : Nat} (hn : ∀ i j, i < l.length → j < l.length → lP l i = lP l j → i = j) (h : P2 l C p q) (g : P2 l C a b) : p = a ∧ q = b := by
  obtain ⟨h1, h2, h3, h4, h5⟩ := h
  obtain ⟨g1, g2, g3, g4, g5⟩ := g
  have x := h5 a b g1 g2 g3 g4
  have y := g5 p q h1 h2 h3 h4
  have e : a = p := by omega
  subst e
  refine ⟨rfl, hn _ _ h2 g2 ?_⟩
  omega
theorem P3_only {l : List Spt} {C : Cir} {p q r a b c : Nat} (hn : ∀ i j, i < l.length → j < l.length → lP l i = lP l j → i = j) (h : P3 l C p q r) (g : P3 l C a b c) : p = a ∧ q = b ∧ r = c := by
  obtain ⟨h1, h2, h3, h4, h5, h6, h7⟩ := h
  obtain ⟨g1, g2, g3, g4, g5, g6, g7⟩ := g
  have x := h7 a b c g1 g2 g3 g4 g5 g6
  have y := g7 p q r h1 h2 h3 h4 h5 h6
  have e : a = p := by omega
  subst e
  have e2 : b = q := by omega
  subst e2
  exact ⟨rfl, rfl, hn _ _ h3 g3 (by omega)⟩
theorem TS_only {l : List Spt} {C : Cir} {n m : Nat} {t u : Nat → Nat} (hn : ∀ i j, i < l.length → j < l.length → lP l i = lP l j → i = j) (h : TS l C n t) (g : TS l C m u) : n = m ∧ ∀ i, i < n → t i = u i := by
  rcases h with ⟨h1, h2, h3⟩ | ⟨h1, h2, h3⟩ | ⟨h1, h2, h3, h4⟩
  · rcases g with ⟨g1, g2, g3⟩ | ⟨g1, g2, g3⟩ | ⟨g1, g2, g3, g4⟩
    · refine ⟨by omega, fun i hi => ?_⟩
      rw [show i = 0 by omega, h3, g3]
    · omega
    · omega
  · rcases g with ⟨g1, g2, g3⟩ | ⟨g1, g2, g3⟩ | ⟨g1, g2, g3, g4⟩
    · omega
    · have o := P2_only hn h3 g3
      refine ⟨by omega, fun i hi => ?_⟩
      by_cases z : i = 0
      · rw [z]
        exact o.1
      · rw [show i = 1 by omega]
        exact o.2
    · exact absurd h3.2.2.2.1 (g2 _ _ h3.1 h3.2.1 h3.2.2.1)
  · rcases g with ⟨g1, g2, g3⟩ | ⟨g1, g2, g3⟩ | ⟨g1, g2, g3, g4⟩
    · omega
    · exact absurd g3.2.2.2.1 (h2 _ _ g3.1 g3.2.1 g3.2.2.1)
    · have o := P3_only hn h4 g4
      refine ⟨by omega, fun i hi => ?_⟩
      by_cases z : i = 0
      · rw [z]
        exact o.1
      · by_cases z1 : i = 1
        · rw [z1]
          exact o.2.1
        · rw [show i = 2 by omega]
          exact o.2.2
theorem P2_P {l : List Spt} {C D : Cir} (hC : 0 < C.2.2.2) (hD : 0 < D.2.2.2) (h : cP C D) {p q : Nat} (g : P2 l C p q) : P2 l D p q :=
  ⟨g.1, g.2.1, g.2.2.1, (T2_P hC hD h p q).mp g.2.2.2.1, fun a b h1 h2 h3 h4 => g.2.2.2.2 a b h1 h2 h3 ((T2_P hC hD h a b).mpr h4)⟩
theorem T3_P {l : List Spt} {C D : Cir} (hC : 0 < C.2.2.2) (hD : 0 < D.2.2.2) (h : cP C D) (p q r : Nat) : T3 l C p q r ↔ T3 l D p q r := by
  unfold T3
  rw [RM_P hC hD h p, RM_P hC hD h q, RM_P hC hD h r]
theorem TS_P {l : List Spt} {C D : Cir} (hC : 0 < C.2.2.2) (hD : 0 < D.2.2.2) (h : cP C D) {n : Nat} {t : Nat → Nat} (g : TS l C n t) : TS l D n t := by
  rcases g with g | ⟨g1, g2, g3⟩ | ⟨g1, g2, g3, g4⟩
  · exact Or.inl g
  · exact Or.inr (Or.inl ⟨g1, g2, P2_P hC hD h g3⟩)
  · exact Or.inr (Or.inr ⟨g1, fun a b h1 h2 h3 h4 => g2 a b h1 h2 h3 ((T2_P hC hD h a b).mpr h4), g3, g4.1, g4.2.1, g4.2.2.1, g4.2.2.2.1, g4.2.2.2.2.1, (T3_P hC hD h _ _ _).mp g4.2.2.2.2.2.1, fun a b c h1 h2 h3 h4 h5 h6 => g4.2.2.2.2.2.2 a b c h1 h2 h3 h4 h5 ((T3_P hC hD h a b c).mpr h6)⟩)
theorem T2_sym (l : List Spt) (C : Cir) (p q : Nat) : T2 l C p q ↔ T2 l C q p := by
  unfold T2
  rw [ds_sym]
theorem SH_sym {l : List Spt} {p q r : Nat} (h : SH l p q r) : SH l q p r ∧ SH l q r p := by
  unfold SH at *
  rw [ds_sym (lX l) (lY l) q p, ds_sym (lX l) (lY l) p r, ds_sym (lX l) (lY l) r q]
  omega
theorem c2_at (X Y : Nat → Int) (j k i : Nat) : pw (c2 X Y j k) (X i) (Y i) = ds X Y i j + ds X Y i k - ds X Y j k := by
  unfold c2 ds
  rw [pw_cB]
  grind
theorem c2_T2 {l : List Spt} {C : Cir} (hC : 0 < C.2.2.2) {j k : Nat} (h : cP C (c2 (lX l) (lY l) j k)) : T2 l C j k := by
  refine (T2_P (show 0 < (c2 (lX l) (lY l) j k).2.2.2 by show (0 : Int) < 2; decide) hC (cP_sym h) j k).mp ?_
  unfold T2
  rw [c2_rN, show (c2 (lX l) (lY l) j k).2.2.2 = 2 from rfl]
  omega
/-- blunt or right: the two across are opposite -/
theorem blunt_T2 {l : List Spt} {C : Cir} (hC : 0 < C.2.2.2) {i j k : Nat} {T : Nat → Prop} (hT : ∀ q, T q → q = i ∨ q = j ∨ q = k) (hj : pw C (lX l j) (lY l j) ≤ 0) (hk : pw C (lX l k) (lY l k) ≤ 0) (hm : cMin (lX l) (lY l) T (fun _ => False) C)
    (g : ds (lX l) (lY l) i j + ds (lX l) (lY l) i k ≤ ds (lX l) (lY l) j k) : T2 l C j k := by
  have p2 : 0 < (c2 (lX l) (lY l) j k).2.2.2 := by show (0 : Int) < 2; decide
  have on := c2_on (lX l) (lY l) j k
  have e1 := hm (c2 (lX l) (lY l) j k) p2 (fun q hq => by
    rcases hT q hq with rfl | rfl | rfl
    · rw [c2_at]
      omega
    · rw [on.1]
      exact Int.le_refl _
    · rw [on.2]
      exact Int.le_refl _) (fun q hq => hq.elim)
  have e2 := cMin_c2' (lX l) (lY l) j k C hC (fun q hq => by
    rcases hq with rfl | rfl
    · exact hj
    · exact hk) (fun q hq => hq.elim)
  exact c2_T2 hC (mec_only hC p2 e1 e2)
theorem tri_or {l : List Spt} {C : Cir} (hC : 0 < C.2.2.2) {i j k : Nat} (hi : pw C (lX l i) (lY l i) ≤ 0) (hj : pw C (lX l j) (lY l j) ≤ 0) (hk : pw C (lX l k) (lY l k) ≤ 0) (hm : cMin (lX l) (lY l) (fun q => (q = k ∨ q = j) ∨ q = i) (fun _ => False) C) :
    SH l i j k ∨ T2 l C i j ∨ T2 l C j k ∨ T2 l C i k := by
  by_cases g1 : ds (lX l) (lY l) i j + ds (lX l) (lY l) i k ≤ ds (lX l) (lY l) j k
  · exact Or.inr (Or.inr (Or.inl (blunt_T2 hC (fun q hq => by rcases hq with (h | h) | h <;> simp [h]) hj hk hm g1)))
  · by_cases g2 : ds (lX l) (lY l) j i + ds (lX l) (lY l) j k ≤ ds (lX l) (lY l) i k
    · exact Or.inr (Or.inr (Or.inr (blunt_T2 hC (fun q hq => by rcases hq with (h | h) | h <;> simp [h]) hi hk hm g2)))
    · by_cases g3 : ds (lX l) (lY l) k i + ds (lX l) (lY l) k j ≤ ds (lX l) (lY l) i j
      · exact Or.inr (Or.inl (blunt_T2 hC (fun q hq => by rcases hq with (h | h) | h <;> simp [h]) hi hj hm g3))
      · refine Or.inl ?_
        unfold SH
        rw [ds_sym (lX l) (lY l) j i] at g2
        rw [ds_sym (lX l) (lY l) k j] at g3
        have := ds_sym (lX l) (lY l) k i
        omega
/-- two or three there are -/
theorem tight_ex {l : List Spt} (hs : sorL l) (h2 : 2 ≤ l.length) {C : Cir} (h : in0 (lX l) (lY l) aM l.length C) :
    (∃ p q, p < l.length ∧ q < l.length ∧ p ≠ q ∧ T2 l C p q) ∨ ∃ p q r, p < l.length ∧ q < l.length ∧ r < l.length ∧ p ≠ q ∧ q ≠ r ∧ p ≠ r ∧ T3 l C p q r := by
  obtain ⟨hC, hin, hc⟩ := h
  rcases hc with ⟨i, hi, _, rfl⟩ | ⟨i, j, hi, hji, _, _, rfl⟩ | ⟨i, j, k, hi, hji, hkj, _, _, _, ht, e, hm⟩
  · exfalso
    obtain ⟨j, hj, hne⟩ : ∃ j, j < l.length ∧ j ≠ i := by
      by_cases z : i = 0
      · exact ⟨1, by omega, by omega⟩
      · exact ⟨0, by omega, by omega⟩
    have a := hin j ⟨hj, trivial⟩
    rw [pw_c1] at a
    have b := sq2_0 a
    have d := dif_sor hs j i hj hi hne
    omega
  · exact Or.inl ⟨i, j, hi, by omega, by omega, c2_T2 (C := c2 (lX l) (lY l) i j) hC ⟨rfl, rfl, rfl⟩⟩
  · have a := hin i ⟨hi, trivial⟩
    have b := hin j ⟨by omega, trivial⟩
    have c := hin k ⟨by omega, trivial⟩
    rcases tri_or hC a b c hm with g | g | g | g
    · have on := c3_on (lX l) (lY l) i j k
      rw [← e] at on
      exact Or.inr ⟨i, j, k, hi, by omega, by omega, by omega, by omega, by omega, on.1, on.2.1, on.2.2, g⟩
    · exact Or.inl ⟨i, j, hi, by omega, by omega, g⟩
    · exact Or.inl ⟨j, k, by omega, by omega, by omega, g⟩
    · exact Or.inl ⟨i, k, hi, by omega, by omega, g⟩
