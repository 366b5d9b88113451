theorem cE_c1 (X Y : Nat → Int) (i : Nat) (D : Cir) : cE (c1 X Y i) D = pw D (X i) (Y i) := by
  unfold c1 cE cB pw
  dsimp only
  grind
theorem cE_c2 (X Y : Nat → Int) (i j : Nat) (D : Cir) : cE (c2 X Y i j) D = 2 * (pw D (X i) (Y i) + pw D (X j) (Y j)) := by
  unfold c2 cE cB pw
  dsimp only
  grind
/-- circles that are alike -/
def cP (C D : Cir) : Prop := D.1 * C.2.2.2 = C.1 * D.2.2.2 ∧ D.2.1 * C.2.2.2 = C.2.1 * D.2.2.2 ∧ D.2.2.1 * C.2.2.2 = C.2.2.1 * D.2.2.2
theorem cP_of {C D : Cir} (h : ∀ x y, pw D x y * C.2.2.2 = pw C x y * D.2.2.2) : cP C D := by
  have h0 := h 0 0
  have h1 := h 1 0
  have h2 := h 0 1
  unfold pw at h0 h1 h2
  refine ⟨by grind, by grind, by grind⟩
theorem cP_pw {C D : Cir} (h : cP C D) (x y : Int) : pw D x y * C.2.2.2 = pw C x y * D.2.2.2 := by
  obtain ⟨h1, h2, h3⟩ := h
  unfold pw
  grind
theorem cP_sym {C D : Cir} (h : cP C D) : cP D C := ⟨h.1.symm, h.2.1.symm, h.2.2.symm⟩
theorem cP_in {C D : Cir} (hC : 0 < C.2.2.2) (hD : 0 < D.2.2.2) (h : cP C D) {x y : Int} : pw D x y ≤ 0 ↔ pw C x y ≤ 0 := by
  have e := cP_pw h x y
  constructor
  · intro q
    have := Int.mul_nonneg (Int.neg_nonneg_of_nonpos q) (Int.le_of_lt hC)
    rw [Int.neg_mul, e] at this
    refine np_of_mul hD ?_
    rw [Int.mul_comm]
    omega
  · intro q
    have := Int.mul_nonneg (Int.neg_nonneg_of_nonpos q) (Int.le_of_lt hD)
    rw [Int.neg_mul, ← e] at this
    refine np_of_mul hC ?_
    rw [Int.mul_comm]
    omega
theorem cP_on {C D : Cir} (hD : 0 < D.2.2.2) (hC : 0 < C.2.2.2) (h : cP C D) {x y : Int} : pw D x y = 0 ↔ pw C x y = 0 := by
  have e := cP_pw h x y
  constructor
  · intro q
    rw [q, Int.zero_mul] at e
    rcases Int.mul_eq_zero.mp e.symm with h | h
    · exact h
    · omega
  · intro q
    rw [q, Int.zero_mul] at e
    rcases Int.mul_eq_zero.mp e with h | h
    · exact h
    · omega
theorem cE_P {C D : Cir} (hC : 0 < C.2.2.2) (h : cP C D) : cE C D = 0 := by
  obtain ⟨h1, h2, h3⟩ := h
  have : C.2.2.2 * cE C D = 0 := by
    unfold cE
    grind
  rcases Int.mul_eq_zero.mp this with h | h
  · omega
  · exact h
theorem cMin_mono {X Y : Nat → Int} {T T' R R' : Nat → Prop} {C : Cir} (h : cMin X Y T R C) (hT : ∀ q, T q → T' q) (hR : ∀ q, R q → R' q) : cMin X Y T' R' C :=
  fun D hD h1 h2 => h D hD (fun q k => h1 q (hT q k)) (fun q k => h2 q (hR q k))
theorem cMin_c1 (X Y : Nat → Int) (i : Nat) : cMin X Y (fun _ => False) (fun q => q = i) (c1 X Y i) := fun D _ _ h2 => by rw [cE_c1, h2 i rfl]; exact Int.le_refl _
theorem cMin_c1' (X Y : Nat → Int) (i : Nat) : cMin X Y (fun q => q = i) (fun _ => False) (c1 X Y i) := fun D _ h1 _ => by rw [cE_c1]; exact h1 i rfl
theorem cMin_c2 (X Y : Nat → Int) (i j : Nat) : cMin X Y (fun _ => False) (fun q => q = i ∨ q = j) (c2 X Y i j) := fun D _ _ h2 => by rw [cE_c2, h2 i (Or.inl rfl), h2 j (Or.inr rfl)]; exact Int.le_refl _
theorem cMin_c2' (X Y : Nat → Int) (i j : Nat) : cMin X Y (fun q => q = i ∨ q = j) (fun _ => False) (c2 X Y i j) := fun D _ h1 _ => by
  rw [cE_c2]
  have a := h1 i (Or.inl rfl)
  have b := h1 j (Or.inr rfl)
  omega
theorem cMin_c3 {X Y : Nat → Int} {i j k : Nat} (ht : tn X Y i j k ≠ 0) : cMin X Y (fun _ => False) (fun q => (q = i ∨ q = j) ∨ q = k) (c3 X Y i j k) := fun D _ _ h2 => by
  rw [cE_P (c3_pos ht) (cP_of (c3_only (h2 i (Or.inl (Or.inl rfl))) (h2 j (Or.inl (Or.inr rfl))) (h2 k (Or.inr rfl))))]
  exact Int.le_refl _
theorem c1_on (X Y : Nat → Int) (i : Nat) : pw (c1 X Y i) (X i) (Y i) = 0 := by
  unfold c1
  rw [pw_cB]
  grind
theorem c2_on (X Y : Nat → Int) (i j : Nat) : pw (c2 X Y i j) (X i) (Y i) = 0 ∧ pw (c2 X Y i j) (X j) (Y j) = 0 := by
  unfold c2
  rw [pw_cB, pw_cB]
  constructor <;> grind
/-- three unlike places on a circle are not in one line -/
theorem tn_ne {X Y : Nat → Int} {i j k : Nat} {D : Cir} (hD : 0 < D.2.2.2) (h0 : pw D (X i) (Y i) = 0) (h1 : pw D (X j) (Y j) = 0) (h2 : pw D (X k) (Y k) = 0)
    (hij : X i ≠ X j ∨ Y i ≠ Y j) (hik : X i ≠ X k ∨ Y i ≠ Y k) (hjk : X j ≠ X k ∨ Y j ≠ Y k) : tn X Y i j k ≠ 0 := by
  intro ht
  have e1 := pw_base D (X i) (Y i) (X j) (Y j)
  have e2 := pw_base D (X i) (Y i) (X k) (Y k)
  rw [h0] at e1 e2
  rw [h1] at e1
  rw [h2] at e2
  unfold tn at ht
  have f1 : X j - X i ≠ 0 ∨ Y j - Y i ≠ 0 := by omega
  have f2 : X k - X i ≠ 0 ∨ Y k - Y i ≠ 0 := by omega
  have f3 : X j - X i ≠ X k - X i ∨ Y j - Y i ≠ Y k - Y i := by omega
  generalize D.1 - D.2.2.2 * X i = v at e1 e2
  generalize D.2.1 - D.2.2.2 * Y i = w at e1 e2
  generalize X j - X i = jx at *
  generalize Y j - Y i = jy at *
  generalize X k - X i = kx at *
  generalize Y k - Y i = ky at *
  generalize D.2.2.2 = d at *
  -- d |j|² = 2 j·v, d |k|² = 2 k·v, jx ky = jy kx
  have g1 : d * ((jx * jx + jy * jy) * kx - (kx * kx + ky * ky) * jx) = 0 := by grind
  have g2 : d * ((jx * jx + jy * jy) * ky - (kx * kx + ky * ky) * jy) = 0 := by grind
  have g1 : (jx * jx + jy * jy) * kx - (kx * kx + ky * ky) * jx = 0 := by
    rcases Int.mul_eq_zero.mp g1 with h | h
    · omega
    · exact h
  have g2 : (jx * jx + jy * jy) * ky - (kx * kx + ky * ky) * jy = 0 := by
    rcases Int.mul_eq_zero.mp g2 with h | h
    · omega
    · exact h
  have sq0 : ∀ a b : Int, a * a + b * b = 0 → a = 0 ∧ b = 0 := by
    intro a b h
    have h1 := sq_nn a
    have h2 := sq_nn b
    have h3 : a * a = 0 := by omega
    have h4 : b * b = 0 := by omega
    exact ⟨by rcases Int.mul_eq_zero.mp h3 with h | h <;> exact h, by rcases Int.mul_eq_zero.mp h4 with h | h <;> exact h⟩
  have j0 : jx * jx + jy * jy ≠ 0 := fun h => by have := sq0 _ _ h; omega
  have k0 : kx * kx + ky * ky ≠ 0 := fun h => by have := sq0 _ _ h; omega
  have g3 : (jx * jx + jy * jy) * ((jx * kx + jy * ky) - (kx * kx + ky * ky)) = 0 := by grind
  have g4 : (kx * kx + ky * ky) * ((jx * kx + jy * ky) - (jx * jx + jy * jy)) = 0 := by grind
  have g3 : (jx * kx + jy * ky) - (kx * kx + ky * ky) = 0 := by
    rcases Int.mul_eq_zero.mp g3 with h | h
    · exact absurd h j0
    · exact h
  have g4 : (jx * kx + jy * ky) - (jx * jx + jy * jy) = 0 := by
    rcases Int.mul_eq_zero.mp g4 with h | h
    · exact absurd h k0
    · exact h
  have g5 : (jx - kx) * (jx - kx) + (jy - ky) * (jy - ky) = 0 := by grind
  have := sq0 _ _ g5
  omega
def Dif (X Y : Nat → Int) (n : Nat) : Prop := ∀ i j, i < n → j < n → i ≠ j → X i ≠ X j ∨ Y i ≠ Y j
/-- about those ahead of k, two on the rim -/
def in2 (X Y : Nat → Int) (M : Nat → Prop) (i j k : Nat) (C : Cir) : Prop :=
  0 < C.2.2.2 ∧ cIn X Y (fun q => q < k ∧ M q) C ∧ cOn X Y (fun q => q = i ∨ q = j) C ∧
  (C = c2 X Y i j ∨ ∃ k', k' < k ∧ M k' ∧ tn X Y i j k' ≠ 0 ∧ C = c3 X Y i j k' ∧ cMin X Y (fun q => q = k') (fun q => q = i ∨ q = j) C)
def in1 (X Y : Nat → Int) (M : Nat → Prop) (i j : Nat) (C : Cir) : Prop :=
  0 < C.2.2.2 ∧ cIn X Y (fun q => q < j ∧ M q) C ∧ cOn X Y (fun q => q = i) C ∧
  (C = c1 X Y i ∨ (∃ j', j' < j ∧ M j' ∧ C = c2 X Y i j' ∧ cMin X Y (fun q => q = j') (fun q => q = i) C) ∨
    ∃ j' k', j' < j ∧ k' < j' ∧ M j' ∧ M k' ∧ tn X Y i j' k' ≠ 0 ∧ C = c3 X Y i j' k' ∧ cMin X Y (fun q => q = k' ∨ q = j') (fun q => q = i) C)
def in0 (X Y : Nat → Int) (M : Nat → Prop) (n : Nat) (C : Cir) : Prop :=
  0 < C.2.2.2 ∧ cIn X Y (fun q => q < n ∧ M q) C ∧
  ((∃ i, i < n ∧ M i ∧ C = c1 X Y i) ∨ (∃ i j, i < n ∧ j < i ∧ M i ∧ M j ∧ C = c2 X Y i j) ∨
    ∃ i j k, i < n ∧ j < i ∧ k < j ∧ M i ∧ M j ∧ M k ∧ tn X Y i j k ≠ 0 ∧ C = c3 X Y i j k ∧ cMin X Y (fun q => (q = k ∨ q = j) ∨ q = i) (fun _ => False) C)
def fe1 (X Y : Nat → Int) (M : Nat → Prop) (i : Nat) : Prop := ∃ D : Cir, 0 < D.2.2.2 ∧ cIn X Y (fun q => q < i ∧ M q) D ∧ cOn X Y (fun q => q = i) D
def fe2 (X Y : Nat → Int) (M : Nat → Prop) (i j : Nat) : Prop := ∃ D : Cir, 0 < D.2.2.2 ∧ cIn X Y (fun q => q < j ∧ M q) D ∧ cOn X Y (fun q => q = i ∨ q = j) D
theorem in2_start {X Y : Nat → Int} {M : Nat → Prop} {i j : Nat} : in2 X Y M i j 0 (c2 X Y i j) :=
  ⟨by show (0 : Int) < 2; decide, fun q h => absurd h.1 (Nat.not_lt_zero _), fun q h => by rcases h with h | h <;> subst h; exact (c2_on X Y _ _).1; exact (c2_on X Y _ _).2, Or.inl rfl⟩
theorem in2_same {X Y : Nat → Int} {M : Nat → Prop} {i j k : Nat} {C : Cir} (h : in2 X Y M i j k C) (hk : M k → pw C (X k) (Y k) ≤ 0) : in2 X Y M i j (k + 1) C := by
  obtain ⟨h1, h2, h3, h4⟩ := h
  refine ⟨h1, fun q hq => ?_, h3, ?_⟩
  · by_cases e : q = k
    · subst e; exact hk hq.2
    · exact h2 q ⟨by omega, hq.2⟩
  · rcases h4 with h | ⟨k', a, b⟩
    · exact Or.inl h
    · exact Or.inr ⟨k', by omega, b⟩
theorem in2_step {X Y : Nat → Int} {M : Nat → Prop} {n i j k : Nat} {C : Cir} (hd : Dif X Y n) (hi : i < n) (hji : j < i) (hkj : k < j) (hk : M k) (h : in2 X Y M i j k C) (hp : 0 < pw C (X k) (Y k)) (hf : fe2 X Y M i j) :
    tn X Y i j k ≠ 0 ∧ in2 X Y M i j (k + 1) (c3 X Y i j k) := by
  obtain ⟨h1, h2, h3, h4⟩ := h
  obtain ⟨D, d1, d2, d3⟩ := hf
  obtain ⟨G, g1, g2, g3⟩ := c_feas (p := k) h1 h2 h3 hp d1 (fun q hq => d2 q ⟨by omega, hq.2⟩) d3 (d2 k ⟨hkj, hk⟩)
  have gi := g3 i (Or.inl (Or.inl rfl))
  have gj := g3 j (Or.inl (Or.inr rfl))
  have gk := g3 k (Or.inr rfl)
  have ht : tn X Y i j k ≠ 0 := tn_ne g1 gi gj gk (hd i j hi (by omega) (by omega)) (hd i k hi (by omega) (by omega)) (hd j k (by omega) (by omega) (by omega))
  have hP : cP (c3 X Y i j k) G := cP_of (c3_only gi gj gk)
  have hc := c3_pos ht
  have on3 : cOn X Y (fun q => (q = i ∨ q = j) ∨ q = k) (c3 X Y i j k) := fun q h => by
    rcases h with (h | h) | h <;> subst h
    · exact (c3_on X Y _ _ _).1
    · exact (c3_on X Y _ _ _).2.1
    · exact (c3_on X Y _ _ _).2.2
  have in3 : cIn X Y (fun q => q < k ∧ M q) (c3 X Y i j k) := fun q hq => (cP_in hc g1 hP).mp (g2 q hq)
  have hm : cMin X Y (fun q => q < k ∧ M q) (fun q => q = i ∨ q = j) C := by
    rcases h4 with h | ⟨k', a, b, _, _, c⟩
    · rw [h]
      exact cMin_mono (cMin_c2 X Y i j) (fun q h => h.elim) (fun q h => h)
    · exact cMin_mono c (fun q h => by subst h; exact ⟨a, b⟩) (fun q h => h)
  refine ⟨ht, hc, fun q hq => ?_, fun q hq => on3 q (Or.inl hq), Or.inr ⟨k, by omega, hk, ht, rfl, ?_⟩⟩
  · by_cases e : q = k
    · subst e
      rw [on3 q (Or.inr rfl)]
      exact Int.le_refl _
    · exact in3 q ⟨by omega, hq.2⟩
  · exact cMin_mono (cMin_step h1 h2 h3 hm hp hc in3 on3 (T := fun _ => False) (fun q h => h.elim) (cMin_c3 ht)) (fun q h => by rcases h with h | h; exact h.elim; exact h) (fun q h => h)
theorem in1_start {X Y : Nat → Int} {M : Nat → Prop} {i : Nat} : in1 X Y M i 0 (c1 X Y i) :=
  ⟨by show (0 : Int) < 1; decide, fun q h => absurd h.1 (Nat.not_lt_zero _), fun q h => by subst h; exact c1_on X Y _, Or.inl rfl⟩
theorem in1_same {X Y : Nat → Int} {M : Nat → Prop} {i j : Nat} {C : Cir} (h : in1 X Y M i j C) (hk : M j → pw C (X j) (Y j) ≤ 0) : in1 X Y M i (j + 1) C := by
  obtain ⟨h1, h2, h3, h4⟩ := h
  refine ⟨h1, fun q hq => ?_, h3, ?_⟩
  · by_cases e : q = j
    · subst e; exact hk hq.2
    · exact h2 q ⟨by omega, hq.2⟩
  · rcases h4 with h | ⟨k', a, b⟩ | ⟨j', k', a, b⟩
    · exact Or.inl h
    · exact Or.inr (Or.inl ⟨k', by omega, b⟩)
    · exact Or.inr (Or.inr ⟨j', k', by omega, b⟩)
theorem in1_min {X Y : Nat → Int} {M : Nat → Prop} {i j : Nat} {C : Cir} (h : in1 X Y M i j C) : cMin X Y (fun q => q < j ∧ M q) (fun q => q = i) C := by
  obtain ⟨h1, h2, h3, h4⟩ := h
  rcases h4 with h | ⟨j', a, b, _, c⟩ | ⟨j', k', a, b, c, d, _, _, e⟩
  · rw [h]
    exact cMin_mono (cMin_c1 X Y i) (fun q h => h.elim) (fun q h => h)
  · exact cMin_mono c (fun q h => by subst h; exact ⟨a, b⟩) (fun q h => h)
  · exact cMin_mono e (fun q h => by rcases h with h | h <;> subst h; exact ⟨by omega, d⟩; exact ⟨a, c⟩) (fun q h => h)
theorem in1_fe {X Y : Nat → Int} {M : Nat → Prop} {i j : Nat} {C : Cir} (hji : j < i) (hj : M j) (h : in1 X Y M i j C) (hp : 0 < pw C (X j) (Y j)) (hf : fe1 X Y M i) : fe2 X Y M i j := by
  obtain ⟨h1, h2, h3, h4⟩ := h
  obtain ⟨D, d1, d2, d3⟩ := hf
  exact c_feas (p := j) h1 h2 h3 hp d1 (fun q hq => d2 q ⟨by omega, hq.2⟩) d3 (d2 j ⟨hji, hj⟩)
theorem in1_step {X Y : Nat → Int} {M : Nat → Prop} {i j : Nat} {C C' : Cir} (hj : M j) (h : in1 X Y M i j C) (hp : 0 < pw C (X j) (Y j)) (h' : in2 X Y M i j j C') : in1 X Y M i (j + 1) C' := by
  have hm := in1_min h
  obtain ⟨h1, h2, h3, h4⟩ := h
  obtain ⟨a1, a2, a3, a4⟩ := h'
  refine ⟨a1, fun q hq => ?_, fun q hq => a3 q (Or.inl hq), ?_⟩
  · by_cases e : q = j
    · subst e
      rw [a3 q (Or.inr rfl)]
      exact Int.le_refl _
    · exact a2 q ⟨by omega, hq.2⟩
  · rcases a4 with a | ⟨k', b1, b2, b3, b4, b5⟩
    · refine Or.inr (Or.inl ⟨j, by omega, hj, a, ?_⟩)
      refine cMin_mono (cMin_step h1 h2 h3 hm hp a1 a2 a3 (T := fun _ => False) (fun q h => h.elim) ?_) (fun q h => by rcases h with h | h; exact h.elim; exact h) (fun q h => h)
      rw [a]
      exact cMin_c2 X Y i j
    · refine Or.inr (Or.inr ⟨j, k', by omega, b1, hj, b2, b3, b4, ?_⟩)
      exact cMin_step h1 h2 h3 hm hp a1 a2 a3 (T := fun q => q = k') (fun q h => by subst h; exact ⟨b1, b2⟩) b5
theorem in0_start {X Y : Nat → Int} {M : Nat → Prop} {i n : Nat} (hi : M i) (hn : i < n) (h : ∀ q, q < n → M q → q = i) : in0 X Y M n (c1 X Y i) :=
  ⟨by show (0 : Int) < 1; decide, fun q hq => by rw [h q hq.1 hq.2, c1_on]; exact Int.le_refl _, Or.inl ⟨i, hn, hi, rfl⟩⟩
theorem in0_same {X Y : Nat → Int} {M : Nat → Prop} {n : Nat} {C : Cir} (h : in0 X Y M n C) (hk : M n → pw C (X n) (Y n) ≤ 0) : in0 X Y M (n + 1) C := by
  obtain ⟨h1, h2, h4⟩ := h
  refine ⟨h1, fun q hq => ?_, ?_⟩
  · by_cases e : q = n
    · subst e; exact hk hq.2
    · exact h2 q ⟨by omega, hq.2⟩
  · rcases h4 with ⟨i, a, b⟩ | ⟨i, j, a, b⟩ | ⟨i, j, k, a, b⟩
    · exact Or.inl ⟨i, by omega, b⟩
    · exact Or.inr (Or.inl ⟨i, j, by omega, b⟩)
    · exact Or.inr (Or.inr ⟨i, j, k, by omega, b⟩)
theorem in0_min {X Y : Nat → Int} {M : Nat → Prop} {n : Nat} {C : Cir} (h : in0 X Y M n C) : cMin X Y (fun q => q < n ∧ M q) (fun _ => False) C := by
  obtain ⟨h1, h2, h4⟩ := h
  rcases h4 with ⟨i, a, b, c⟩ | ⟨i, j, a, b, c, d, e⟩ | ⟨i, j, k, a, b, c, d, e, f, _, _, g⟩
  · rw [c]
    exact cMin_mono (cMin_c1' X Y i) (fun q h => by subst h; exact ⟨a, b⟩) (fun q h => h)
  · rw [e]
    exact cMin_mono (cMin_c2' X Y i j) (fun q h => by rcases h with h | h <;> subst h; exact ⟨a, c⟩; exact ⟨by omega, d⟩) (fun q h => h)
  · exact cMin_mono g (fun q h => by rcases h with (h | h) | h <;> subst h; exact ⟨by omega, f⟩; exact ⟨by omega, e⟩; exact ⟨a, d⟩) (fun q h => h)
theorem big_circle (X Y : Nat → Int) : ∀ n : Nat, ∃ B : Int, ∀ q, q < n → X q * X q + Y q * Y q ≤ B := by
  intro n
  induction n with
  | zero => exact ⟨0, fun q h => absurd h (Nat.not_lt_zero _)⟩
  | succ n ih =>
    obtain ⟨B, h⟩ := ih
    refine ⟨max B (X n * X n + Y n * Y n), fun q hq => ?_⟩
    by_cases e : q = n
    · subst e; omega
    · have := h q (by omega)
      omega
theorem in0_fe {X Y : Nat → Int} {M : Nat → Prop} {i : Nat} {C : Cir} (h : in0 X Y M i C) (hp : 0 < pw C (X i) (Y i)) : fe1 X Y M i := by
  obtain ⟨h1, h2, h4⟩ := h
  obtain ⟨B, hB⟩ := big_circle X Y (i + 1)
  have hpw : ∀ q, q < i + 1 → pw (0, 0, -B, 1) (X q) (Y q) ≤ 0 := fun q hq => by
    have := hB q hq
    show 1 * (X q * X q + Y q * Y q) - 2 * (0 * X q + 0 * Y q) + -B ≤ 0
    omega
  obtain ⟨G, g1, g2, g3⟩ := c_feas (R := fun _ => False) (p := i) (D := (0, 0, -B, 1)) h1 h2 (fun q h => h.elim) hp (by show (0 : Int) < 1; decide) (fun q hq => hpw q (by omega)) (fun q h => h.elim) (hpw i (by omega))
  exact ⟨G, g1, g2, fun q h => g3 q (Or.inr h)⟩
theorem in0_step {X Y : Nat → Int} {M : Nat → Prop} {i : Nat} {C C' : Cir} (hi : M i) (h : in0 X Y M i C) (hp : 0 < pw C (X i) (Y i)) (h' : in1 X Y M i i C') : in0 X Y M (i + 1) C' := by
  have hm := in0_min h
  obtain ⟨h1, h2, h4⟩ := h
  obtain ⟨a1, a2, a3, a4⟩ := h'
  refine ⟨a1, fun q hq => ?_, ?_⟩
  · by_cases e : q = i
    · subst e
      rw [a3 q rfl]
      exact Int.le_refl _
    · exact a2 q ⟨by omega, hq.2⟩
  · rcases a4 with a | ⟨j', b1, b2, b3, b4⟩ | ⟨j', k', b1, b2, b3, b4, b5, b6, b7⟩
    · exact Or.inl ⟨i, by omega, hi, a⟩
    · exact Or.inr (Or.inl ⟨i, j', by omega, b1, hi, b2, b3⟩)
    · refine Or.inr (Or.inr ⟨i, j', k', by omega, b1, b2, hi, b3, b4, b5, b6, ?_⟩)
      exact cMin_mono (cMin_step h1 h2 (fun q h => h.elim) hm hp a1 a2 (R := fun _ => False) (fun q hq => a3 q (hq.elim (fun h => h.elim) id)) (T := fun q => q = k' ∨ q = j') (fun q h => by rcases h with h | h <;> subst h; exact ⟨by omega, b4⟩; exact ⟨b1, b3⟩)
        (cMin_mono b7 (fun q h => h) (fun q h => Or.inr h))) (fun q h => h) (fun q h => h)
/-- there is one -/
theorem mec_ex2 {X Y : Nat → Int} {M : Nat → Prop} {n i j : Nat} (hd : Dif X Y n) (hi : i < n) (hji : j < i) (hf : fe2 X Y M i j) : ∀ k, k ≤ j → ∃ C, in2 X Y M i j k C := by
  intro k
  induction k with
  | zero => exact fun _ => ⟨_, in2_start⟩
  | succ k ih =>
    intro hk
    obtain ⟨C, h⟩ := ih (by omega)
    by_cases hM : M k
    · by_cases hp : pw C (X k) (Y k) ≤ 0
      · exact ⟨C, in2_same h (fun _ => hp)⟩
      · exact ⟨_, (in2_step hd hi hji (by omega) hM h (by omega) hf).2⟩
    · exact ⟨C, in2_same h (fun q => absurd q hM)⟩
theorem mec_ex1 {X Y : Nat → Int} {M : Nat → Prop} {n i : Nat} (hd : Dif X Y n) (hi : i < n) (hf : fe1 X Y M i) : ∀ j, j ≤ i → ∃ C, in1 X Y M i j C := by
  intro j
  induction j with
  | zero => exact fun _ => ⟨_, in1_start⟩
  | succ j ih =>
    intro hj
    obtain ⟨C, h⟩ := ih (by omega)
    by_cases hM : M j
    · by_cases hp : pw C (X j) (Y j) ≤ 0
      · exact ⟨C, in1_same h (fun _ => hp)⟩
      · obtain ⟨C', h'⟩ := mec_ex2 hd hi (by omega) (in1_fe (by omega) hM h (by omega) hf) j (Nat.le_refl _)
        exact ⟨C', in1_step hM h (by omega) h'⟩
    · exact ⟨C, in1_same h (fun q => absurd q hM)⟩
theorem mec_ex {X Y : Nat → Int} {M : Nat → Prop} {n : Nat} (hd : Dif X Y n) : ∀ i, i ≤ n → (∃ q, q < i ∧ M q) → ∃ C, in0 X Y M i C := by
  intro i
  induction i with
  | zero => exact fun _ ⟨q, h, _⟩ => absurd h (Nat.not_lt_zero _)
  | succ i ih =>
    intro hi hq
    by_cases hex : ∃ q, q < i ∧ M q
    · obtain ⟨C, h⟩ := ih (by omega) hex
      by_cases hM : M i
      · by_cases hp : pw C (X i) (Y i) ≤ 0
        · exact ⟨C, in0_same h (fun _ => hp)⟩
        · obtain ⟨C', h'⟩ := mec_ex1 hd (by omega) (in0_fe h (by omega)) i (Nat.le_refl _)
          exact ⟨C', in0_step hM h (by omega) h'⟩
      · exact ⟨C, in0_same h (fun q => absurd q hM)⟩
    · obtain ⟨q, h1, h2⟩ := hq
      have e : q = i := by
        by_cases e : q = i
        · exact e
        · exact absurd ⟨q, by omega, h2⟩ hex
      subst e
      exact ⟨_, in0_start h2 (by omega) (fun r hr hM => by
        by_cases e : r = q
        · exact e
        · exact absurd ⟨r, by omega, hM⟩ hex)⟩
/-- there is but one -/
theorem mec_only {C D : Cir} (hC : 0 < C.2.2.2) (hD : 0 < D.2.2.2) (h1 : cE C D ≤ 0) (h2 : cE D C ≤ 0) : cP C D := by
  have e := cE_sym C D
  have q1 := sq_nn (C.1 * D.2.2.2 - D.1 * C.2.2.2)
  have q2 := sq_nn (C.2.1 * D.2.2.2 - D.2.1 * C.2.2.2)
  have m1 := Int.mul_nonneg (Int.le_of_lt hD) (Int.neg_nonneg_of_nonpos h1)
  have m2 := Int.mul_nonneg (Int.le_of_lt hC) (Int.neg_nonneg_of_nonpos h2)
  rw [Int.mul_neg] at m1 m2
  have z : ∀ a : Int, a * a = 0 → a = 0 := fun a h => by rcases Int.mul_eq_zero.mp h with h | h <;> exact h
  have a1 := z _ (show (C.1 * D.2.2.2 - D.1 * C.2.2.2) * (C.1 * D.2.2.2 - D.1 * C.2.2.2) = 0 by omega)
  have a2 := z _ (show (C.2.1 * D.2.2.2 - D.2.1 * C.2.2.2) * (C.2.1 * D.2.2.2 - D.2.1 * C.2.2.2) = 0 by omega)
  have a3 : cE C D = 0 := by
    have : D.2.2.2 * cE C D = 0 := by omega
    rcases Int.mul_eq_zero.mp this with h | h
    · omega
    · exact h
  refine ⟨by omega, by omega, ?_⟩
  have b : C.2.2.2 * (D.2.2.1 * C.2.2.2 - C.2.2.1 * D.2.2.2) = 0 := by
    unfold cE at a3
    grind
  rcases Int.mul_eq_zero.mp b with h | h
  · omega
  · omega
theorem in0_only {X Y : Nat → Int} {M : Nat → Prop} {n : Nat} {C D : Cir} (h1 : in0 X Y M n C) (h2 : in0 X Y M n D) : cP C D :=
  mec_only h1.1 h2.1 (in0_min h1 D h2.1 h2.2.1 (fun _ h => h.elim)) (in0_min h2 C h1.1 h1.2.1 (fun _ h => h.elim))
