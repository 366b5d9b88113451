/-! ===== the smallest circle: a circle is (a, b, m, s), its power at x, y is s (x² + y²) - 2 (a x + b y) + m ===== -/
abbrev Cir : Type := Int × Int × Int × Int
def pw (C : Cir) (x y : Int) : Int := C.2.2.2 * (x * x + y * y) - 2 * (C.1 * x + C.2.1 * y) + C.2.2.1
def cE (C D : Cir) : Int := 2 * (C.1 * C.1 + C.2.1 * C.2.1) * D.2.2.2 - 2 * (C.1 * D.1 + C.2.1 * D.2.1) * C.2.2.2 - C.2.2.1 * C.2.2.2 * D.2.2.2 + D.2.2.1 * C.2.2.2 * C.2.2.2
def cmix (u v : Int) (C D : Cir) : Cir := (u * C.1 + v * D.1, u * C.2.1 + v * D.2.1, u * C.2.2.1 + v * D.2.2.1, u * C.2.2.2 + v * D.2.2.2)
theorem pw_mix (u v : Int) (C D : Cir) (x y : Int) : pw (cmix u v C D) x y = u * pw C x y + v * pw D x y := by
  unfold pw cmix
  dsimp only
  grind
theorem cE_mix (u v : Int) (C D E : Cir) : cE C (cmix u v D E) = u * cE C D + v * cE C E := by
  unfold cE cmix
  dsimp only
  grind
theorem cE_sym (C D : Cir) : D.2.2.2 * cE C D + C.2.2.2 * cE D C = 2 * ((C.1 * D.2.2.2 - D.1 * C.2.2.2) * (C.1 * D.2.2.2 - D.1 * C.2.2.2) + (C.2.1 * D.2.2.2 - D.2.1 * C.2.2.2) * (C.2.1 * D.2.2.2 - D.2.1 * C.2.2.2)) := by
  unfold cE
  grind
theorem sq_nn (x : Int) : 0 ≤ x * x := by
  rcases Int.le_total 0 x with h | h
  · exact Int.mul_nonneg h h
  · exact Int.mul_nonneg_of_nonpos_of_nonpos h h
theorem nn_of_mul {a b : Int} (ha : 0 < a) (h : 0 ≤ a * b) : 0 ≤ b := by
  rcases Int.lt_or_le b 0 with hb | hb
  · have := Int.mul_neg_of_pos_of_neg ha hb
    omega
  · exact hb
theorem np_of_mul {a b : Int} (ha : 0 < a) (h : a * b ≤ 0) : b ≤ 0 := by
  rcases Int.lt_or_le 0 b with hb | hb
  · have := Int.mul_pos ha hb
    omega
  · exact hb
def cIn (X Y : Nat → Int) (T : Nat → Prop) (C : Cir) : Prop := ∀ q, T q → pw C (X q) (Y q) ≤ 0
def cOn (X Y : Nat → Int) (R : Nat → Prop) (C : Cir) : Prop := ∀ q, R q → pw C (X q) (Y q) = 0
/-- the least one of those with T in it and R on its rim, by far: what it needs to be so -/
def cMin (X Y : Nat → Int) (T R : Nat → Prop) (C : Cir) : Prop := ∀ D : Cir, 0 < D.2.2.2 → cIn X Y T D → cOn X Y R D → cE C D ≤ 0
theorem cmix_pos {u v : Int} {C D : Cir} (hu : 0 ≤ u) (hv : 0 < v) (hC : 0 < C.2.2.2) (hD : 0 < D.2.2.2) : 0 < (cmix u v C D).2.2.2 := by
  have h1 := Int.mul_nonneg hu (Int.le_of_lt hC)
  have h2 := Int.mul_pos hv hD
  show 0 < u * C.2.2.2 + v * D.2.2.2
  omega
theorem c_mixIn {X Y : Nat → Int} {T : Nat → Prop} {u v : Int} {C D : Cir} (hu : 0 ≤ u) (hv : 0 ≤ v) (hC : cIn X Y T C) (hD : cIn X Y T D) : cIn X Y T (cmix u v C D) := by
  intro q hq
  rw [pw_mix]
  have h1 := Int.mul_nonneg hu (Int.neg_nonneg_of_nonpos (hC q hq))
  have h2 := Int.mul_nonneg hv (Int.neg_nonneg_of_nonpos (hD q hq))
  rw [Int.mul_neg] at h1 h2
  omega
theorem c_mixOn {X Y : Nat → Int} {R : Nat → Prop} {u v : Int} {C D : Cir} (hC : cOn X Y R C) (hD : cOn X Y R D) : cOn X Y R (cmix u v C D) := by
  intro q hq
  rw [pw_mix, hC q hq, hD q hq]
  omega
theorem cE_nn {C D : Cir} (hC : 0 < C.2.2.2) (hD : 0 < D.2.2.2) (h : cE C D ≤ 0) : 0 ≤ cE D C := by
  have h1 := cE_sym C D
  have h2 := sq_nn (C.1 * D.2.2.2 - D.1 * C.2.2.2)
  have h3 := sq_nn (C.2.1 * D.2.2.2 - D.2.1 * C.2.2.2)
  have h4 := Int.mul_nonneg (Int.le_of_lt hD) (Int.neg_nonneg_of_nonpos h)
  rw [Int.mul_neg] at h4
  refine nn_of_mul hC ?_
  omega
/-- the place that lies outside comes onto the rim -/
theorem cMin_step {X Y : Nat → Int} {P T R : Nat → Prop} {p : Nat} {C C' : Cir} (hs : 0 < C.2.2.2) (hC : cIn X Y P C) (hR : cOn X Y R C) (hm : cMin X Y P R C) (hp : 0 < pw C (X p) (Y p))
    (hs' : 0 < C'.2.2.2) (hC' : cIn X Y P C') (hR' : cOn X Y (fun q => R q ∨ q = p) C') (hT : ∀ q, T q → P q) (hm' : cMin X Y T (fun q => R q ∨ q = p) C') : cMin X Y (fun q => T q ∨ q = p) R C' := by
  intro D hD h1 h2
  have hDp : pw D (X p) (Y p) ≤ 0 := h1 p (Or.inr rfl)
  have a1 : cE C C' ≤ 0 := hm C' hs' hC' (fun q h => hR' q (Or.inl h))
  have a2 := cE_nn hs hs' a1
  have hb : 0 ≤ -pw D (X p) (Y p) := by omega
  have a3 := hm' (cmix (-pw D (X p) (Y p)) (pw C (X p) (Y p)) C D) (cmix_pos hb hp hs hD) (c_mixIn hb (Int.le_of_lt hp) (fun q h => hC q (hT q h)) (fun q h => h1 q (Or.inl h))) (fun q h => by
    rcases h with h | h
    · exact c_mixOn hR h2 q h
    · subst h
      rw [pw_mix]
      grind)
  rw [cE_mix] at a3
  have a4 := Int.mul_nonneg hb a2
  exact np_of_mul hp (by omega)
theorem c_feas {X Y : Nat → Int} {P R : Nat → Prop} {p : Nat} {C D : Cir} (hs : 0 < C.2.2.2) (hC : cIn X Y P C) (hR : cOn X Y R C) (hp : 0 < pw C (X p) (Y p))
    (hD : 0 < D.2.2.2) (h1 : cIn X Y P D) (h2 : cOn X Y R D) (h3 : pw D (X p) (Y p) ≤ 0) : ∃ G : Cir, 0 < G.2.2.2 ∧ cIn X Y P G ∧ cOn X Y (fun q => R q ∨ q = p) G := by
  have hb : 0 ≤ -pw D (X p) (Y p) := by omega
  refine ⟨cmix (-pw D (X p) (Y p)) (pw C (X p) (Y p)) C D, cmix_pos hb hp hs hD, c_mixIn hb (Int.le_of_lt hp) hC h1, fun q h => ?_⟩
  rcases h with h | h
  · exact c_mixOn hR h2 q h
  · subst h
    rw [pw_mix]
    grind
/-- a circle by a base and a way -/
def cB (bx bz wx wz s : Int) : Cir := (s * bx + wx, s * bz + wz, s * (bx * bx + bz * bz) + 2 * (bx * wx + bz * wz), s)
theorem pw_cB (bx bz wx wz s x y : Int) : pw (cB bx bz wx wz s) x y = s * ((x - bx) * (x - bx) + (y - bz) * (y - bz)) - 2 * ((x - bx) * wx + (y - bz) * wz) := by
  unfold pw cB
  dsimp only
  grind
/-- any circle from a base on its rim -/
theorem pw_base (D : Cir) (bx bz x y : Int) : pw D x y = D.2.2.2 * ((x - bx) * (x - bx) + (y - bz) * (y - bz)) - 2 * ((x - bx) * (D.1 - D.2.2.2 * bx) + (y - bz) * (D.2.1 - D.2.2.2 * bz)) + pw D bx bz := by
  unfold pw
  grind
def c1 (X Y : Nat → Int) (i : Nat) : Cir := cB (X i) (Y i) 0 0 1
def c2 (X Y : Nat → Int) (i j : Nat) : Cir := cB (X i) (Y i) (X j - X i) (Y j - Y i) 2
def tn (X Y : Nat → Int) (i j k : Nat) : Int := (X j - X i) * (Y k - Y i) - (Y j - Y i) * (X k - X i)
def sg (t : Int) : Int := if t < 0 then -1 else 1
def ds (X Y : Nat → Int) (i j : Nat) : Int := (X j - X i) * (X j - X i) + (Y j - Y i) * (Y j - Y i)
def c3 (X Y : Nat → Int) (i j k : Nat) : Cir :=
  cB (X i) (Y i) ((Y k - Y i) * (sg (tn X Y i j k) * ds X Y i j) - (Y j - Y i) * (sg (tn X Y i j k) * ds X Y i k)) ((X j - X i) * (sg (tn X Y i j k) * ds X Y i k) - (X k - X i) * (sg (tn X Y i j k) * ds X Y i j)) (2 * sg (tn X Y i j k) * tn X Y i j k)
theorem sg_sq (t : Int) : sg t * sg t = 1 := by
  unfold sg
  by_cases h : t < 0
  · rw [if_pos h]; rfl
  · rw [if_neg h]; rfl
theorem sg_mul {t : Int} (h : t ≠ 0) : 0 < sg t * t := by
  unfold sg
  by_cases h : t < 0
  · rw [if_pos h]; omega
  · rw [if_neg h]; omega
theorem c3_pos {X Y : Nat → Int} {i j k : Nat} (h : tn X Y i j k ≠ 0) : 0 < (c3 X Y i j k).2.2.2 := by
  show 0 < 2 * sg (tn X Y i j k) * tn X Y i j k
  have := sg_mul h
  rw [Int.mul_assoc]
  omega
theorem c3_on (X Y : Nat → Int) (i j k : Nat) : pw (c3 X Y i j k) (X i) (Y i) = 0 ∧ pw (c3 X Y i j k) (X j) (Y j) = 0 ∧ pw (c3 X Y i j k) (X k) (Y k) = 0 := by
  unfold c3
  rw [pw_cB, pw_cB, pw_cB]
  unfold ds
  generalize hs : sg (tn X Y i j k) = g
  unfold tn
  refine ⟨by grind, by grind, by grind⟩
/-- only one circle goes through three places -/
theorem c3_only {X Y : Nat → Int} {i j k : Nat} {D : Cir} (h0 : pw D (X i) (Y i) = 0) (h1 : pw D (X j) (Y j) = 0) (h2 : pw D (X k) (Y k) = 0) (x y : Int) :
    pw D x y * (c3 X Y i j k).2.2.2 = pw (c3 X Y i j k) x y * D.2.2.2 := by
  have e1 := pw_base D (X i) (Y i) (X j) (Y j)
  have e2 := pw_base D (X i) (Y i) (X k) (Y k)
  have e3 := pw_base D (X i) (Y i) x y
  rw [h0] at e1 e2 e3
  rw [h1] at e1
  rw [h2] at e2
  rw [e3]
  unfold c3
  rw [pw_cB]
  unfold ds
  generalize hs : sg (tn X Y i j k) = g
  unfold tn
  show _ * (2 * g * tn X Y i j k) = _
  unfold tn
  generalize D.1 - D.2.2.2 * X i = v at e1 e2 ⊢
  generalize D.2.1 - D.2.2.2 * Y i = w at e1 e2 ⊢
  generalize X j - X i = jx at e1 e2 ⊢
  generalize Y j - Y i = jy at e1 e2 ⊢
  generalize X k - X i = kx at e1 e2 ⊢
  generalize Y k - Y i = ky at e1 e2 ⊢
  generalize x - X i = qx
  generalize y - Y i = qy
  generalize D.2.2.2 = d at e1 e2 ⊢
  grind
