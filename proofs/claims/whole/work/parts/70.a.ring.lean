/-! ===== ring: the centres ===== -/
abbrev Ctr : Type := Int × Int × Int
def crs (l : List Spt) (i j k m : Nat) : Int := (lX l j - lX l i) * (lY l m - lY l k) - (lY l j - lY l i) * (lX l m - lX l k)
def sqP (l : List Spt) (i : Nat) : Int := lX l i * lX l i + lY l i * lY l i
def ctr (l : List Spt) (i j k m : Nat) : Ctr :=
  (2 * sg (crs l i j k m) * crs l i j k m, (sg (crs l i j k m) * (sqP l j - sqP l i)) * (lY l m - lY l k) - (sg (crs l i j k m) * (sqP l m - sqP l k)) * (lY l j - lY l i), (lX l j - lX l i) * (sg (crs l i j k m) * (sqP l m - sqP l k)) - (lX l m - lX l k) * (sg (crs l i j k m) * (sqP l j - sqP l i)))
theorem crs_sw (l : List Spt) (i j k m : Nat) : crs l k m i j = -crs l i j k m := by
  unfold crs
  grind
theorem sg_neg {t : Int} (h : t ≠ 0) : sg (-t) = -sg t := by
  unfold sg
  split
  · rw [if_neg (by omega)]
  · rw [if_pos (by omega)]
    rfl
theorem ctr_sw {l : List Spt} {i j k m : Nat} (h : crs l i j k m ≠ 0) : ctr l k m i j = ctr l i j k m := by
  unfold ctr
  rw [crs_sw, sg_neg h]
  generalize sg (crs l i j k m) = s
  generalize crs l i j k m = t
  refine Prod.ext (by dsimp only; grind) (Prod.ext (by dsimp only; grind) (by dsimp only; grind))
theorem ctr_pos {l : List Spt} {i j k m : Nat} (h : crs l i j k m ≠ 0) : 0 < (ctr l i j k m).1 := by
  have := sg_mul h
  show 0 < 2 * sg (crs l i j k m) * crs l i j k m
  rw [Int.mul_assoc]
  omega
def farC (l : List Spt) (C : Ctr) (i : Nat) : Int := (lX l i * C.1 - C.2.1) * (lX l i * C.1 - C.2.1) + (lY l i * C.1 - C.2.2) * (lY l i * C.1 - C.2.2)
def powC (l : List Spt) (C : Ctr) (i : Nat) : Int := sqP l i * (2 * C.1) - 2 * ((2 * C.2.1) * lX l i + (2 * C.2.2) * lY l i)
theorem far_pow (l : List Spt) (C : Ctr) (i : Nat) : 2 * farC l C i = 2 * (C.2.1 * C.2.1 + C.2.2 * C.2.2) + C.1 * powC l C i := by
  unfold farC powC sqP
  grind
theorem mn_aff {f g : Nat → Int} {c s : Int} (hs : 0 < s) (h : ∀ i, 2 * f i = c + s * g i) : ∀ n, 2 * mnF f n = c + s * mnF g n ∧ 2 * mxF f n = c + s * mxF g n
  | 0 => ⟨h 0, h 0⟩
  | n + 1 => by
    have ih := mn_aff hs h n
    have a := h (n + 1)
    have e1 : mnF f (n + 1) = min (mnF f n) (f (n + 1)) := rfl
    have e2 : mnF g (n + 1) = min (mnF g n) (g (n + 1)) := rfl
    have e3 : mxF f (n + 1) = max (mxF f n) (f (n + 1)) := rfl
    have e4 : mxF g (n + 1) = max (mxF g n) (g (n + 1)) := rfl
    rw [e1, e2, e3, e4]
    constructor
    · by_cases q : mnF g n ≤ g (n + 1)
      · have := Int.mul_le_mul_of_nonneg_left q (Int.le_of_lt hs)
        rw [show min (mnF g n) (g (n + 1)) = mnF g n by omega]
        omega
      · have := Int.mul_le_mul_of_nonneg_left (show g (n + 1) ≤ mnF g n by omega) (Int.le_of_lt hs)
        rw [show min (mnF g n) (g (n + 1)) = g (n + 1) by omega]
        omega
    · by_cases q : mxF g n ≤ g (n + 1)
      · have := Int.mul_le_mul_of_nonneg_left q (Int.le_of_lt hs)
        rw [show max (mxF g n) (g (n + 1)) = g (n + 1) by omega]
        omega
      · have := Int.mul_le_mul_of_nonneg_left (show g (n + 1) ≤ mxF g n by omega) (Int.le_of_lt hs)
        rw [show max (mxF g n) (g (n + 1)) = mxF g n by omega]
        omega
def inC (l : List Spt) (C : Ctr) : Int := mnF (farC l C) (l.length - 1)
def ouC (l : List Spt) (C : Ctr) : Int := mxF (farC l C) (l.length - 1)
def loC (l : List Spt) (C : Ctr) : Int := mnF (powC l C) (l.length - 1)
def gpC (l : List Spt) (C : Ctr) : Int := mxF (powC l C) (l.length - 1) - mnF (powC l C) (l.length - 1)
theorem in_lo (l : List Spt) {C : Ctr} (h : 0 < C.1) : 2 * inC l C = 2 * (C.2.1 * C.2.1 + C.2.2 * C.2.2) + C.1 * loC l C ∧ 2 * (ouC l C - inC l C) = C.1 * gpC l C := by
  have a := mn_aff h (far_pow l C) (l.length - 1)
  unfold inC ouC loC gpC
  rw [Int.mul_sub, Int.mul_sub]
  omega
/-- by gap, by x, by y -/
def ltF (a b c d : Int) : Prop := a * d < c * b
def eqF (a b c d : Int) : Prop := a * d = c * b
def LTc (l : List Spt) (C D : Ctr) : Prop :=
  ltF (gpC l C) C.1 (gpC l D) D.1 ∨ (eqF (gpC l C) C.1 (gpC l D) D.1 ∧ (ltF C.2.1 C.1 D.2.1 D.1 ∨ (eqF C.2.1 C.1 D.2.1 D.1 ∧ ltF C.2.2 C.1 D.2.2 D.1)))
theorem frc_le {a b c d e f : Int} (hb : 0 < b) (hd : 0 < d) (hf : 0 < f) (h1 : a * d ≤ c * b) (h2 : c * f ≤ e * d) : a * f ≤ e * b ∧ (a * f = e * b → a * d = c * b ∧ c * f = e * d) := by
  have t := fr_trans hb hd hf h1 h2
  refine ⟨t, fun w => ?_⟩
  have m1 := Int.mul_le_mul_of_nonneg_right h1 (Int.le_of_lt hf)
  have m2 := Int.mul_le_mul_of_nonneg_right h2 (Int.le_of_lt hb)
  have e1 : a * d * f = d * (a * f) := by grind
  have e2 : e * d * b = d * (e * b) := by grind
  have e3 : c * b * f = c * f * b := by grind
  have e4 : d * (a * f) = d * (e * b) := by rw [w]
  have z1 : f * (c * b - a * d) = 0 := by
    have : f * (c * b - a * d) = c * b * f - a * d * f := by grind
    omega
  have z2 : b * (e * d - c * f) = 0 := by
    have : b * (e * d - c * f) = e * d * b - c * f * b := by grind
    omega
  have := mul0_pos hf z1
  have := mul0_pos hb z2
  omega
theorem LTc_tr {l : List Spt} {B C D : Ctr} (hB : 0 < B.1) (hC : 0 < C.1) (hD : 0 < D.1) (h : LTc l B C) (g : LTc l C D) : LTc l B D := by
  have l1 : gpC l B * C.1 ≤ gpC l C * B.1 := by
    rcases h with h | ⟨h, _⟩
    · exact Int.le_of_lt h
    · exact Int.le_of_eq h
  have l2 : gpC l C * D.1 ≤ gpC l D * C.1 := by
    rcases g with g | ⟨g, _⟩
    · exact Int.le_of_lt g
    · exact Int.le_of_eq g
  have f1 := frc_le hB hC hD l1 l2
  by_cases q : gpC l B * D.1 = gpC l D * B.1
  · have e := f1.2 q
    have h' := h.resolve_left (fun w => by unfold ltF at w; omega)
    have g' := g.resolve_left (fun w => by unfold ltF at w; omega)
    have m1 : B.2.1 * C.1 ≤ C.2.1 * B.1 := by
      rcases h'.2 with w | ⟨w, _⟩
      · exact Int.le_of_lt w
      · exact Int.le_of_eq w
    have m2 : C.2.1 * D.1 ≤ D.2.1 * C.1 := by
      rcases g'.2 with w | ⟨w, _⟩
      · exact Int.le_of_lt w
      · exact Int.le_of_eq w
    have f2 := frc_le hB hC hD m1 m2
    refine Or.inr ⟨q, ?_⟩
    by_cases q2 : B.2.1 * D.1 = D.2.1 * B.1
    · have e2 := f2.2 q2
      have h'' := h'.2.resolve_left (fun w => by unfold ltF at w; omega)
      have g'' := g'.2.resolve_left (fun w => by unfold ltF at w; omega)
      have f3 := frc_le hB hC hD (Int.le_of_lt h''.2) (Int.le_of_lt g''.2)
      refine Or.inr ⟨q2, ?_⟩
      by_cases q3 : B.2.2 * D.1 = D.2.2 * B.1
      · have e3 := f3.2 q3
        have := h''.2
        unfold ltF at this
        omega
      · have := f3.1
        show B.2.2 * D.1 < D.2.2 * B.1
        omega
    · have := f2.1
      exact Or.inl (show B.2.1 * D.1 < D.2.1 * B.1 by omega)
  · have := f1.1
    exact Or.inl (show gpC l B * D.1 < gpC l D * B.1 by omega)
theorem LTc_irr (l : List Spt) (C : Ctr) : ¬ LTc l C C := by
  unfold LTc ltF eqF
  omega
/-- neither before the other: the same place -/
theorem LTc_same {l : List Spt} {C D : Ctr} (h : ¬ LTc l C D) (g : ¬ LTc l D C) : gpC l C * D.1 = gpC l D * C.1 ∧ C.2.1 * D.1 = D.2.1 * C.1 ∧ C.2.2 * D.1 = D.2.2 * C.1 := by
  unfold LTc ltF eqF at *
  omega
/-- the best of some centres -/
def BRv (l : List Spt) (V : Ctr → Prop) (C : Ctr) : Prop := V C ∧ ∀ D, V D → ¬ LTc l D C
theorem BRv_take {l : List Spt} {V W : Ctr → Prop} {B C : Ctr} (hp : ∀ D, W D → 0 < D.1) (h : BRv l V B) (hW : ∀ D, W D ↔ V D ∨ D = C) (g : LTc l C B) : BRv l W C := by
  refine ⟨(hW C).mpr (Or.inr rfl), fun D hD w => ?_⟩
  rcases (hW D).mp hD with q | q
  · exact h.2 D q (LTc_tr (hp D hD) (hp C ((hW C).mpr (Or.inr rfl))) (hp B ((hW B).mpr (Or.inl h.1))) w g)
  · rw [q] at w
    exact LTc_irr l C w
theorem BRv_keep {l : List Spt} {V W : Ctr → Prop} {B C : Ctr} (h : BRv l V B) (hW : ∀ D, W D ↔ V D ∨ D = C) (g : ¬ LTc l C B) : BRv l W B := by
  refine ⟨(hW B).mpr (Or.inl h.1), fun D hD w => ?_⟩
  rcases (hW D).mp hD with q | q
  · exact h.2 D q w
  · rw [q] at w
    exact g w
theorem BRv_first {l : List Spt} {V W : Ctr → Prop} {C : Ctr} (h : ∀ D, ¬ V D) (hW : ∀ D, W D ↔ V D ∨ D = C) : BRv l W C := by
  refine ⟨(hW C).mpr (Or.inr rfl), fun D hD w => ?_⟩
  rcases (hW D).mp hD with q | q
  · exact h D q
  · rw [q] at w
    exact LTc_irr l C w
def cand (l : List Spt) (C : Ctr) : Prop := ∃ i j k m, i < j ∧ j < l.length ∧ k < m ∧ m < l.length ∧ crs l i j k m ≠ 0 ∧ C = ctr l i j k m
theorem cand_pos {l : List Spt} {C : Ctr} (h : cand l C) : 0 < C.1 := by
  obtain ⟨i, j, k, m, _, _, _, _, h5, e⟩ := h
  rw [e]
  exact ctr_pos h5
/-- what a centre tells -/
def tlC (l : List Spt) (C : Ctr) (w : Int) : Int :=
  if w = 0 then fN (ouC l C - inC l C) (C.1 * C.1) else if w = 1 then fD (ouC l C - inC l C) (C.1 * C.1) else if w = 2 then fN (inC l C) (C.1 * C.1) else if w = 3 then fD (inC l C) (C.1 * C.1)
  else if w = 4 then fN (ouC l C) (C.1 * C.1) else if w = 5 then fD (ouC l C) (C.1 * C.1) else if w = 6 then fN C.2.1 C.1 else if w = 7 then fD C.2.1 C.1 else if w = 8 then fN C.2.2 C.1 else fD C.2.2 C.1
theorem far_same {l : List Spt} {C D : Ctr} (h1 : C.2.1 * D.1 = D.2.1 * C.1) (h2 : C.2.2 * D.1 = D.2.2 * C.1) (i : Nat) : farC l C i * (D.1 * D.1) = farC l D i * (C.1 * C.1) := by
  unfold farC
  have e1 : (lX l i * C.1 - C.2.1) * D.1 = (lX l i * D.1 - D.2.1) * C.1 := by grind
  have e2 : (lY l i * C.1 - C.2.2) * D.1 = (lY l i * D.1 - D.2.2) * C.1 := by grind
  have e3 : ((lX l i * C.1 - C.2.1) * D.1) * ((lX l i * C.1 - C.2.1) * D.1) = ((lX l i * D.1 - D.2.1) * C.1) * ((lX l i * D.1 - D.2.1) * C.1) := by rw [e1]
  have e4 : ((lY l i * C.1 - C.2.2) * D.1) * ((lY l i * C.1 - C.2.2) * D.1) = ((lY l i * D.1 - D.2.2) * C.1) * ((lY l i * D.1 - D.2.2) * C.1) := by rw [e2]
  generalize lX l i * C.1 - C.2.1 = a at *
  generalize lY l i * C.1 - C.2.2 = b at *
  generalize lX l i * D.1 - D.2.1 = c at *
  generalize lY l i * D.1 - D.2.2 = d at *
  grind
theorem mx_scale {f g : Nat → Int} {p q : Int} (hp : 0 < p) (hq : 0 < q) (h : ∀ i, f i * p = g i * q) : ∀ n, mnF f n * p = mnF g n * q ∧ mxF f n * p = mxF g n * q
  | 0 => ⟨h 0, h 0⟩
  | n + 1 => by
    have ih := mx_scale hp hq h n
    have a := h (n + 1)
    have e1 : mnF f (n + 1) = min (mnF f n) (f (n + 1)) := rfl
    have e2 : mnF g (n + 1) = min (mnF g n) (g (n + 1)) := rfl
    have e3 : mxF f (n + 1) = max (mxF f n) (f (n + 1)) := rfl
    have e4 : mxF g (n + 1) = max (mxF g n) (g (n + 1)) := rfl
    have cmp : ∀ x y u v : Int, x * p = u * q → y * p = v * q → (x ≤ y ↔ u ≤ v) := fun x y u v e1 e2 => by
      constructor
      · intro w
        have := Int.mul_le_mul_of_nonneg_right w (Int.le_of_lt hp)
        exact Int.le_of_mul_le_mul_right (by omega) hq
      · intro w
        have := Int.mul_le_mul_of_nonneg_right w (Int.le_of_lt hq)
        exact Int.le_of_mul_le_mul_right (by omega) hp
    have c1 := cmp _ _ _ _ ih.1 a
    have c2 := cmp _ _ _ _ ih.2 a
    rw [e1, e2, e3, e4]
    constructor
    · by_cases w : mnF f n ≤ f (n + 1)
      · have := c1.mp w
        rw [show min (mnF f n) (f (n + 1)) = mnF f n by omega, show min (mnF g n) (g (n + 1)) = mnF g n by omega]
        exact ih.1
      · have : ¬ mnF g n ≤ g (n + 1) := fun x => w (c1.mpr x)
        rw [show min (mnF f n) (f (n + 1)) = f (n + 1) by omega, show min (mnF g n) (g (n + 1)) = g (n + 1) by omega]
        exact a
    · by_cases w : mxF f n ≤ f (n + 1)
      · have := c2.mp w
        rw [show max (mxF f n) (f (n + 1)) = f (n + 1) by omega, show max (mxF g n) (g (n + 1)) = g (n + 1) by omega]
        exact a
      · have : ¬ mxF g n ≤ g (n + 1) := fun x => w (c2.mpr x)
        rw [show max (mxF f n) (f (n + 1)) = mxF f n by omega, show max (mxF g n) (g (n + 1)) = mxF g n by omega]
        exact ih.2
theorem tl_same {l : List Spt} {C D : Ctr} (hC : 0 < C.1) (hD : 0 < D.1) (h1 : C.2.1 * D.1 = D.2.1 * C.1) (h2 : C.2.2 * D.1 = D.2.2 * C.1) (w : Int) : tlC l C w = tlC l D w := by
  have c2 := Int.mul_pos hC hC
  have d2 := Int.mul_pos hD hD
  have s := mx_scale d2 c2 (far_same (l := l) h1 h2) (l.length - 1)
  have s1 : inC l C * (D.1 * D.1) = inC l D * (C.1 * C.1) := s.1
  have s2 : ouC l C * (D.1 * D.1) = ouC l D * (C.1 * C.1) := s.2
  have g0 := f_eq c2 d2 (show (ouC l C - inC l C) * (D.1 * D.1) = (ouC l D - inC l D) * (C.1 * C.1) by rw [Int.sub_mul, Int.sub_mul, s1, s2])
  have g1 := f_eq c2 d2 s1
  have g2 := f_eq c2 d2 s2
  have g3 := f_eq hC hD h1
  have g4 := f_eq hC hD h2
  unfold tlC
  rw [g0.1, g0.2, g1.1, g1.2, g2.1, g2.2, g3.1, g3.2, g4.1, g4.2]
