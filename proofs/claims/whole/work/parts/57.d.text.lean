/-! ===== THE TEXT: all ITEMS ===== -/
def cntU (P : Nat → Bool) : Nat → Nat
  | 0 => 0
  | n + 1 => cntU P n + if P n = true then 1 else 0
theorem cntU_le (P : Nat → Bool) : ∀ n, cntU P n ≤ n := by
  intro n
  induction n with
  | zero => exact Nat.le_refl _
  | succ n ih => unfold cntU; split <;> omega
theorem cntU_full (P : Nat → Bool) : ∀ n, cntU P n = n ↔ ∀ j, j < n → P j = true := by
  intro n
  induction n with
  | zero => exact ⟨fun _ j h => absurd h (Nat.not_lt_zero _), fun _ => rfl⟩
  | succ n ih =>
    have := cntU_le P n
    unfold cntU
    constructor
    · intro h j hj
      by_cases hn : P n = true
      · rw [if_pos hn] at h
        by_cases e : j = n
        · rw [e]; exact hn
        · exact ih.mp (by omega) j (by omega)
      · rw [if_neg hn] at h
        omega
    · intro h
      rw [if_pos (h n (by omega)), ih.mpr (fun j hj => h j (by omega))]
theorem cntU_congr {P Q : Nat → Bool} : ∀ n, (∀ j, j < n → P j = Q j) → cntU P n = cntU Q n := by
  intro n
  induction n with
  | zero => intro _; rfl
  | succ n ih =>
    intro h
    unfold cntU
    rw [h n (by omega), ih (fun j hj => h j (by omega))]
theorem cntU_upd {P Q : Nat → Bool} {k : Nat} (h1 : P k = false) (h2 : Q k = true) (h3 : ∀ j, j ≠ k → Q j = P j) : ∀ n, k < n → cntU Q n = cntU P n + 1 := by
  intro n
  induction n with
  | zero => intro h; omega
  | succ n ih =>
    intro h
    unfold cntU
    by_cases e : k = n
    · subst e
      rw [h1, h2, cntU_congr k (fun j hj => h3 j (by omega))]
      simp
    · rw [ih (by omega), h3 n (by omega)]
      omega
def lv (r : Nat → Int) (k : Nat) : Bool := decide (r (80 + k) ≠ -1)
theorem lv_t {r : Nat → Int} {k : Nat} : lv r k = true ↔ r (80 + k) ≠ -1 := by
  unfold lv
  exact decide_eq_true_iff
theorem lv_f {r : Nat → Int} {k : Nat} : lv r k = false ↔ r (80 + k) = -1 := by
  unfold lv
  rw [decide_eq_false_iff_not, Decidable.not_not]
def cnt (r : Nat → Int) : Nat := cntU (lv r) 40
theorem cnt_full (r : Nat → Int) {k : Int} (h : FreeOf r k) : k = -1 ↔ cnt r = 40 := by
  have e := cntU_full (lv r) 40
  unfold cnt
  rw [e]
  constructor
  · intro e j hj
    rcases h with ⟨i, h1, h2, _⟩ | ⟨_, h2⟩
    · omega
    · exact lv_t.mpr (h2 j hj)
  · intro q
    rcases h with ⟨i, h1, h2, h3, _⟩ | ⟨h1, h2⟩
    · exact absurd h3 (lv_t.mp (q i h1))
    · exact h1
theorem cnt_put {r : Nat → Int} {k : Nat} (hk : k < 40) (hl : r (80 + k) = -1) {x y h : Int} (hh : 0 ≤ h) : cnt (putR r k x y h) = cnt r + 1 := by
  have h1 : lv r k = false := lv_f.mpr hl
  have h2 : lv (putR r k x y h) k = true := by
    rw [lv_t]
    unfold putR
    rw [va_same]
    omega
  have h3 : ∀ j, j ≠ k → lv (putR r k x y h) j = lv r j := by
    intro j hj
    unfold lv putR
    rw [va_ne _ _ (by omega), va_ne _ _ (by omega), va_ne _ _ (by omega)]
  have e := cntU_upd (P := lv r) (Q := lv (putR r k x y h)) h1 h2 h3 40 hk
  unfold cnt
  exact e
theorem cnt_congr {r r' : Nat → Int} (h : ∀ k, k < 40 → r' (80 + k) = r (80 + k)) : cnt r' = cnt r := by
  have e := cntU_congr (P := lv r') (Q := lv r) 40 (fun j hj => by unfold lv; rw [h j hj])
  unfold cnt
  exact e
theorem VR_put {r : Nat → Int} (H : VR r) {k : Nat} (hk : k < 40) {x y h : Int} (hx : -100 ≤ x ∧ x ≤ 100) (hy : -100 ≤ y ∧ y ≤ 100) (hh : 0 ≤ h ∧ h < 4) : VR (putR r k x y h) := by
  obtain ⟨v1, v2, v3⟩ := H
  unfold putR
  refine ⟨fun j hj => ?_, fun j hj => ?_, ?_⟩
  · have := v1 j hj
    by_cases e : j = k
    · subst e
      simp (disch := omega) only [va_same, va_ne, and_true, true_and, true_or, or_true] <;> omega
    · simp (disch := omega) only [va_same, va_ne]
      exact this
  · have := v2 j hj
    simp (disch := omega) only [va_ne]
    exact this
  · simp (disch := omega) only [va_ne]
    exact v3
theorem VR_pace {r : Nat → Int} (H : VR r) {k : Nat} (hk : k < 4) {x y : Int} (hx : -3 ≤ x ∧ x ≤ 3) (hy : -3 ≤ y ∧ y ≤ 3) : VR (va_up (va_up r (120 + k) x) (124 + k) y) := by
  obtain ⟨v1, v2, v3⟩ := H
  refine ⟨fun j hj => ?_, fun j hj => ?_, ?_⟩
  · have := v1 j hj
    simp (disch := omega) only [va_ne]
    exact this
  · have := v2 j hj
    by_cases e : j = k
    · subst e
      simp (disch := omega) only [va_same, va_ne, and_true, true_and, true_or, or_true] <;> omega
    · simp (disch := omega) only [va_same, va_ne]
      exact this
  · simp (disch := omega) only [va_ne]
    exact v3
/-- what an ITEM that is well brings -/
theorem app_ok {r : Nat → Int} {k : Int} {x : Nat → Int} {p : Nat} (H : VR r) (hk : FreeOf r k) (h : iF x k p = -1) : VR (appI r k x p) ∧ (x p = 112 → (0 ≤ iH x p ∧ iH x p < 4) ∧ (-3 ≤ iV1 x p ∧ iV1 x p ≤ 3) ∧ (-3 ≤ iV2 x p ∧ iV2 x p ≤ 3) ∧ cnt (appI r k x p) = cnt r) ∧
    (¬ x p = 112 → (0 ≤ iH x p ∧ iH x p < 4) ∧ (-100 ≤ iV1 x p ∧ iV1 x p ≤ 100) ∧ (-100 ≤ iV2 x p ∧ iV2 x p ≤ 100) ∧ (∃ j : Nat, j < 40 ∧ k = (j : Int)) ∧ cnt (appI r k x p) = cnt r + 1) := by
  have ok := iF_ok h
  have n1 := numV_ok ok.2.2.1
  have n2 := numV_ok ok.2.2.2.2.1
  unfold appI
  by_cases hp : x p = 112
  · have eF : iFar x p = 3 := if_pos hp
    rw [eF] at n1 n2
    rw [if_pos hp]
    have hh : (iH x p).toNat < 4 := by have := ok.1; omega
    refine ⟨VR_pace H hh n1 n2, fun _ => ⟨ok.1, n1, n2, cnt_congr (fun k hk => by rw [va_ne _ _ (by omega), va_ne _ _ (by omega)])⟩, fun q => absurd hp q⟩
  · have eF : iFar x p = 100 := if_neg hp
    rw [eF] at n1 n2
    rw [if_neg hp]
    rcases hk with ⟨j, j1, rfl, j2, j3⟩ | ⟨j1, _⟩
    · rw [Int.toNat_natCast]
      exact ⟨VR_put H j1 n1 n2 ok.1, fun q => absurd q hp, fun _ => ⟨ok.1, n1, n2, ⟨j, j1, rfl⟩, cnt_put j1 j2 ok.1.1⟩⟩
    · exact absurd j1 (ok.2.1 hp)
noncomputable def freI (r : Nat → Int) : Int := Classical.epsilon (fun x => FreeOf r x)
theorem freI_eq {r : Nat → Int} {k : Int} (h : FreeOf r k) : freI r = k := free_only (Classical.epsilon_spec (p := fun x => FreeOf r x) ⟨k, h⟩) h
abbrev Itm : Type := Int × Int × Int
def itm (x : Nat → Int) (p : Nat) : Itm := (if x p = 112 then 4 + iH x p else iH x p, iV1 x p, iV2 x p)
/-- all ITEMS from p on: the FAULT (-1: none), the ITEMS, the row -/
noncomputable def runS (x : Nat → Int) (n : Int) : Nat → Nat → (Nat → Int) → List Itm → Int × List Itm × (Nat → Int)
  | 0, _, r, its => (-2, its, r)
  | f + 1, p, r, its => if n ≤ (p : Int) then (-1, its, r) else if iF x (freI r) p = -1 then runS x n f (iQ2 x p + 1) (appI r (freI r) x p) (its ++ [itm x p]) else (iF x (freI r) p, its, r)
