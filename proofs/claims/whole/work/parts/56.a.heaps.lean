/-! ===== POINTS, PACES, TICK: the class's row r (129) and the model's row a (170) ===== -/
theorem va_same {α : Type} (f : Nat → α) (k : Nat) (v : α) : va_up f k v k = v := by unfold va_up; rw [if_pos rfl]
theorem va_ne {α : Type} (f : Nat → α) {k j : Nat} (v : α) (h : j ≠ k) : va_up f k v j = f j := by unfold va_up; rw [if_neg h]
theorem tn0 (k : Nat) : ((0 : Int) + (k : Int)).toNat = k := by omega
theorem tn40 (k : Nat) : ((40 : Int) + (k : Int)).toNat = 40 + k := by omega
theorem tn80 (k : Nat) : ((80 : Int) + (k : Int)).toNat = 80 + k := by omega
theorem tn120 (k : Nat) : ((120 : Int) + (k : Int)).toNat = 120 + k := by omega
theorem tn124 (k : Nat) : ((124 : Int) + (k : Int)).toNat = 124 + k := by omega
theorem tn160 (k : Nat) : ((160 : Int) + ((2 : Int) * (k : Int))).toNat = 160 + 2 * k := by omega
theorem tn161 (k : Nat) : (((160 : Int) + ((2 : Int) * (k : Int))) + (1 : Int)).toNat = 161 + 2 * k := by omega
theorem tn128 : (128 : Int).toNat = 128 := rfl
theorem tn168 : (168 : Int).toNat = 168 := rfl
theorem nat_of {v : Int} (h : 0 ≤ v) : ∃ k : Nat, v = (k : Int) := ⟨v.toNat, by omega⟩
def VR (r : Nat → Int) : Prop :=
  (∀ k, k < 40 → r (80 + k) = -1 ∨ (0 ≤ r (80 + k) ∧ r (80 + k) < 4 ∧ -100 ≤ r k ∧ r k ≤ 100 ∧ -100 ≤ r (40 + k) ∧ r (40 + k) ≤ 100)) ∧
  (∀ h, h < 4 → -3 ≤ r (120 + h) ∧ r (120 + h) ≤ 3 ∧ -3 ≤ r (124 + h) ∧ r (124 + h) ≤ 3) ∧ 0 ≤ r 128 ∧ r 128 ≤ 20
def HR (r a : Nat → Int) : Prop :=
  VR r ∧ (∀ k, k < 40 → (r (80 + k) = -1 ∧ a k = 0) ∨ (r (80 + k) ≠ -1 ∧ a k = 1 ∧ a (40 + k) = r k ∧ a (80 + k) = r (40 + k) ∧ a (120 + k) = r (80 + k))) ∧
  (∀ h, h < 4 → a (160 + 2 * h) = r (120 + h) ∧ a (161 + 2 * h) = r (124 + h)) ∧ a 168 = r 128
theorem VR_congr {r r' : Nat → Int} (h : ∀ k, k < 129 → r' k = r k) (H : VR r) : VR r' := by
  obtain ⟨h1, h2, h3⟩ := H
  refine ⟨fun k hk => ?_, fun k hk => ?_, ?_⟩
  · rw [h _ (by omega), h _ (by omega), h _ (by omega)]; exact h1 k hk
  · rw [h _ (by omega), h _ (by omega)]; exact h2 k hk
  · rw [h _ (by omega)]; exact h3
theorem HR_congr {r r' a a' : Nat → Int} (h : ∀ k, k < 129 → r' k = r k) (g : ∀ k, k < 170 → a' k = a k) (H : HR r a) : HR r' a' := by
  obtain ⟨h0, h1, h2, h3⟩ := H
  refine ⟨VR_congr h h0, fun k hk => ?_, fun k hk => ?_, ?_⟩
  · rw [h _ (by omega), h _ (by omega), h _ (by omega), g _ (by omega), g _ (by omega), g _ (by omega), g _ (by omega)]; exact h1 k hk
  · rw [h _ (by omega), h _ (by omega), g _ (by omega), g _ (by omega)]; exact h2 k hk
  · rw [h _ (by omega), g _ (by omega)]; exact h3
theorem VR_k {r : Nat → Int} (H : VR r) {k : Nat} (hk : k < 40) : k32 (r (80 + k)) := by
  rcases H.1 k hk with h | h
  · rw [h]; decide
  · exact ⟨by omega, by omega⟩
theorem q_has {z : tZ4} {v : Int} (hv : k32 v) (H : VR z.1) : q_X4_has z v = some (decide (0 ≤ v ∧ v < 40 ∧ z.1 (80 + v.toNat) ≠ -1)) := by
  refine w_eq ?_
  unfold q_X4_has
  simp only [kwp_kg, kwp_kif, kwp_some]
  refine ⟨hv, fun h => (decide_eq_false (by omega)).symm, fun h1 => ⟨fun h => (decide_eq_false (by omega)).symm, fun h2 => ?_⟩⟩
  obtain ⟨k, rfl⟩ := nat_of (show 0 ≤ v by omega)
  have hk : k < 40 := by omega
  have := VR_k H hk
  rw [tn80, Int.toNat_natCast]
  refine ⟨⟨by omega, by omega⟩, this, fun h => (decide_eq_false ?_).symm, fun h => (decide_eq_true ?_).symm⟩
  · exact fun q => q.2.2 h
  · exact ⟨by omega, by omega, h⟩
/-- the least number that is free -/
def FreeOf (r : Nat → Int) (x : Int) : Prop := (∃ k : Nat, k < 40 ∧ x = (k : Int) ∧ r (80 + k) = -1 ∧ ∀ j, j < k → r (80 + j) ≠ -1) ∨ (x = -1 ∧ ∀ j, j < 40 → r (80 + j) ≠ -1)
theorem free_only {r : Nat → Int} {x y : Int} (h : FreeOf r x) (g : FreeOf r y) : x = y := by
  rcases h with ⟨k, h1, h2, h3, h4⟩ | ⟨h1, h2⟩
  · rcases g with ⟨j, g1, g2, g3, g4⟩ | ⟨g1, g2⟩
    · have a : ¬ j < k := fun q => h4 j q g3
      have b : ¬ k < j := fun q => g4 k q h3
      omega
    · exact absurd h3 (g2 k h1)
  · rcases g with ⟨j, g1, g2, g3, g4⟩ | ⟨g1, g2⟩
    · exact absurd g3 (h2 j g1)
    · omega
theorem free_k {r : Nat → Int} {x : Int} (h : FreeOf r x) : k32 x := by
  rcases h with ⟨k, h1, h2, _⟩ | ⟨h1, _⟩
  · exact ⟨by omega, by omega⟩
  · rw [h1]; decide
theorem q_free {z : tZ4} (H : VR z.1) : kwp (q_X4_free z) (FreeOf z.1) := by
  unfold q_X4_free
  refine w_kb (P := fun e => (e.1 = 21 ∧ ∃ k : Nat, k < 40 ∧ e.2 = (k : Int) ∧ z.1 (80 + k) = -1 ∧ ∀ j, j < k → z.1 (80 + j) ≠ -1) ∨ (e.1 = 29 ∧ ∀ j, j < 40 → z.1 (80 + j) ≠ -1)) ?_ (fun e h => ?_)
  · refine w_loop (fun n s => ∃ k : Nat, n = 40 - k ∧ k ≤ 40 ∧ s = (k : Int) ∧ ∀ j, j < k → z.1 (80 + j) ≠ -1) ?_ kF 40 _ (by decide) ⟨0, rfl, by omega, rfl, fun j h => absurd h (Nat.not_lt_zero _)⟩
    rintro n s ⟨k, rfl, hk, rfl, hj⟩
    unfold q_X4_free_L2
    simp only [kwp_kg, kwp_kif, kwp_some, kwp_kl, tn80]
    refine ⟨⟨by omega, by omega⟩, fun h => Or.inr ⟨by decide, Or.inr ⟨by trivial, fun j h' => hj j (by omega)⟩⟩, fun h => ⟨⟨by omega, by omega⟩, VR_k H (by omega), fun h1 => ?_, fun h1 => ?_⟩⟩
    · exact Or.inr ⟨by decide, Or.inl ⟨by trivial, k, by omega, rfl, h1, hj⟩⟩
    · refine Or.inl ⟨by trivial, 40 - (k + 1), by omega, k + 1, rfl, by omega, by omega, fun j h' => ?_⟩
      by_cases e : j = k
      · rw [e]; exact h1
      · exact hj j (by omega)
  · simp only [kwp_kg, kwp_kif, kwp_some]
    rcases h with ⟨h1, h2⟩ | ⟨h1, h2⟩
    · exact ⟨fun _ => Or.inl h2, fun q => absurd h1 q⟩
    · rw [h1]
      exact ⟨fun q => absurd q (by decide), fun _ => ⟨by trivial, Or.inr ⟨rfl, h2⟩⟩⟩
theorem qm_free {m : tZ12} {r : Nat → Int} (H : HR r (m.2.2.1 0)) : kwp (q_X12_free m) (FreeOf r) := by
  have H1 := H.2.1
  have hk : ∀ k, k < 40 → k32 (m.2.2.1 0 k) := fun k h => by
    rcases H1 k h with q | q
    · rw [q.2]; decide
    · rw [q.2.1]; decide
  have hz : ∀ k, k < 40 → (m.2.2.1 0 k = 0 ↔ r (80 + k) = -1) := fun k h => by
    rcases H1 k h with q | q
    · exact ⟨fun _ => q.1, fun _ => q.2⟩
    · exact ⟨fun e => by omega, fun e => absurd e q.1⟩
  unfold q_X12_free
  refine w_kb (P := fun e => (e.1 = 19 ∧ ∃ k : Nat, k < 40 ∧ e.2 = (k : Int) ∧ r (80 + k) = -1 ∧ ∀ j, j < k → r (80 + j) ≠ -1) ∨ (e.1 = 27 ∧ ∀ j, j < 40 → r (80 + j) ≠ -1)) ?_ (fun e h => ?_)
  · refine w_loop (fun n s => ∃ k : Nat, n = 40 - k ∧ k ≤ 40 ∧ s = (k : Int) ∧ ∀ j, j < k → r (80 + j) ≠ -1) ?_ kF 40 _ (by decide) ⟨0, rfl, by omega, rfl, fun j h => absurd h (Nat.not_lt_zero _)⟩
    rintro n s ⟨k, rfl, hk', rfl, hj⟩
    unfold q_X12_free_L2
    simp only [kwp_kg, kwp_kif, kwp_some, kwp_kl, tn0]
    refine ⟨⟨by omega, by omega⟩, fun h => Or.inr ⟨by decide, Or.inr ⟨by trivial, fun j h' => hj j (by omega)⟩⟩, fun h => ⟨⟨by omega, by omega⟩, hk k (by omega), fun h1 => ?_, fun h1 => ?_⟩⟩
    · exact Or.inr ⟨by decide, Or.inl ⟨by trivial, k, by omega, rfl, (hz k (by omega)).mp h1, hj⟩⟩
    · refine Or.inl ⟨by trivial, 40 - (k + 1), by omega, k + 1, rfl, by omega, by omega, fun j h' => ?_⟩
      by_cases e : j = k
      · rw [e]; exact fun q => h1 ((hz k (by omega)).mpr q)
      · exact hj j (by omega)
  · simp only [kwp_kg, kwp_kif, kwp_some]
    rcases h with ⟨h1, h2⟩ | ⟨h1, h2⟩
    · exact ⟨fun _ => Or.inl h2, fun q => absurd h1 q⟩
    · rw [h1]
      exact ⟨fun q => absurd q (by decide), fun _ => ⟨by trivial, Or.inr ⟨rfl, h2⟩⟩⟩
def putR (r : Nat → Int) (k : Nat) (x y h : Int) : Nat → Int := va_up (va_up (va_up r k x) (40 + k) y) (80 + k) h
theorem q_place {z : tZ4} {k : Nat} {x y h : Int} (hk : k < 40) (hh : 0 ≤ h ∧ h < 4) : q_X4_place z (k : Int) x y h = some (putR z.1 k x y h, z.2) := by
  refine w_eq ?_
  unfold q_X4_place
  simp only [kwp_kg, kwp_kif, kwp_some, kwp_kl, kwp_kb, tn0, tn40, tn80]
  refine ⟨⟨by omega, by omega⟩, fun q => by omega, fun _ => ⟨fun q => by omega, fun _ => ?_⟩⟩
  rw [q_isHeap ⟨by omega, by omega⟩, kwp_some, decide_eq_true hh, kz_0]
  refine ⟨fun q => (by cases q), fun _ => ⟨⟨by omega, by omega⟩, ⟨by omega, by omega⟩, ⟨by omega, by omega⟩, rfl⟩⟩
theorem q_setPace {z : tZ4} {k : Nat} {x y : Int} (hk : k < 4) : q_X4_setPace z (k : Int) x y = some (va_up (va_up z.1 (120 + k) x) (124 + k) y, z.2) := by
  refine w_eq ?_
  unfold q_X4_setPace
  simp only [kwp_kg, kwp_kif, kwp_some, kwp_kl, kwp_kb, tn120, tn124]
  rw [q_isHeap ⟨by omega, by omega⟩, kwp_some, decide_eq_true (by omega), kz_0]
  refine ⟨fun q => (by cases q), fun _ => ⟨⟨by omega, by omega⟩, ⟨by omega, by omega⟩, by trivial⟩⟩
theorem q_now (z : tZ4) : q_X4_now z = some (z.1 128) := rfl
theorem q_setNow (z : tZ4) (t : Int) : q_X4_setNow z t = some (va_up z.1 128 t, z.2) := rfl
theorem q_heapOf {z : tZ4} {k : Nat} (H : VR z.1) (hk : k < 40) (hl : z.1 (80 + k) ≠ -1) : q_X4_heapOf z (k : Int) = some (z.1 (80 + k)) := by
  refine w_eq ?_
  unfold q_X4_heapOf
  refine w_kbe (q_has ⟨by omega, by omega⟩ H) ?_
  rw [Int.toNat_natCast, decide_eq_true ⟨by omega, by omega, hl⟩]
  simp only [kwp_kg, kwp_kif, kwp_some, kz_0, tn80]
  exact ⟨fun q => (by cases q), fun _ => ⟨⟨by omega, by omega⟩, by trivial⟩⟩
theorem q_x {z : tZ4} {k : Nat} (H : VR z.1) (hk : k < 40) (hl : z.1 (80 + k) ≠ -1) : q_X4_x z (k : Int) = some (z.1 k) := by
  refine w_eq ?_
  unfold q_X4_x
  refine w_kbe (q_has ⟨by omega, by omega⟩ H) ?_
  rw [Int.toNat_natCast, decide_eq_true ⟨by omega, by omega, hl⟩]
  simp only [kwp_kg, kwp_kif, kwp_some, kz_0, tn0]
  exact ⟨fun q => (by cases q), fun _ => ⟨⟨by omega, by omega⟩, by trivial⟩⟩
theorem q_y {z : tZ4} {k : Nat} (H : VR z.1) (hk : k < 40) (hl : z.1 (80 + k) ≠ -1) : q_X4_y z (k : Int) = some (z.1 (40 + k)) := by
  refine w_eq ?_
  unfold q_X4_y
  refine w_kbe (q_has ⟨by omega, by omega⟩ H) ?_
  rw [Int.toNat_natCast, decide_eq_true ⟨by omega, by omega, hl⟩]
  simp only [kwp_kg, kwp_kif, kwp_some, kz_0, tn40]
  exact ⟨fun q => (by cases q), fun _ => ⟨⟨by omega, by omega⟩, by trivial⟩⟩
/-- where a POINT stands at a TICK -/
def stX (r : Nat → Int) (k : Nat) (t : Int) : Int := r k + r (120 + (r (80 + k)).toNat) * t
def stY (r : Nat → Int) (k : Nat) (t : Int) : Int := r (40 + k) + r (124 + (r (80 + k)).toNat) * t
theorem VR_live {r : Nat → Int} (H : VR r) {k : Nat} (hk : k < 40) (hl : r (80 + k) ≠ -1) : ∃ h : Nat, h < 4 ∧ r (80 + k) = (h : Int) ∧ -100 ≤ r k ∧ r k ≤ 100 ∧ -100 ≤ r (40 + k) ∧ r (40 + k) ≤ 100 ∧ -3 ≤ r (120 + h) ∧ r (120 + h) ≤ 3 ∧ -3 ≤ r (124 + h) ∧ r (124 + h) ≤ 3 := by
  rcases H.1 k hk with h | h
  · exact absurd h hl
  · obtain ⟨j, hj⟩ := nat_of h.1
    have hj4 : j < 4 := by omega
    have := H.2.1 j hj4
    exact ⟨j, hj4, hj, by omega, by omega, by omega, by omega, this⟩
theorem mul_bd {a b A B : Int} (h1 : -A ≤ a) (h2 : a ≤ A) (h3 : 0 ≤ b) (h4 : b ≤ B) : -(A * B) ≤ a * b ∧ a * b ≤ A * B := by
  have hA : 0 ≤ A := by omega
  have e1 : a * b ≤ A * b := Int.mul_le_mul_of_nonneg_right h2 h3
  have e2 : A * b ≤ A * B := Int.mul_le_mul_of_nonneg_left h4 hA
  have e3 : (-A) * b ≤ a * b := Int.mul_le_mul_of_nonneg_right h1 h3
  rw [Int.neg_mul] at e3
  omega
theorem st_bd {r : Nat → Int} (H : VR r) {k : Nat} (hk : k < 40) (hl : r (80 + k) ≠ -1) {t : Int} (ht : 0 ≤ t ∧ t ≤ 20) : -160 ≤ stX r k t ∧ stX r k t ≤ 160 ∧ -160 ≤ stY r k t ∧ stY r k t ≤ 160 := by
  obtain ⟨h, h1, h2, h3, h4, h5, h6, h7, h8, h9, h10⟩ := VR_live H hk hl
  unfold stX stY
  rw [h2, Int.toNat_natCast]
  have := mul_bd h7 h8 ht.1 ht.2
  have := mul_bd h9 h10 ht.1 ht.2
  omega
theorem q_standX {z : tZ4} {k : Nat} (H : VR z.1) (hk : k < 40) (hl : z.1 (80 + k) ≠ -1) (t : Int) : q_X4_standX z (k : Int) t = some (stX z.1 k t) := by
  refine w_eq ?_
  obtain ⟨h, h1, h2, _⟩ := VR_live H hk hl
  unfold q_X4_standX stX
  refine w_kbe (q_has ⟨by omega, by omega⟩ H) ?_
  rw [Int.toNat_natCast, decide_eq_true ⟨by omega, by omega, hl⟩]
  simp only [kwp_kg, kwp_kif, kwp_some, kz_0, tn0, tn80, h2, tn120, Int.toNat_natCast]
  exact ⟨fun q => (by cases q), fun _ => ⟨⟨by omega, by omega⟩, ⟨by omega, by omega⟩, ⟨by omega, by omega⟩, by trivial⟩⟩
theorem q_standY {z : tZ4} {k : Nat} (H : VR z.1) (hk : k < 40) (hl : z.1 (80 + k) ≠ -1) (t : Int) : q_X4_standY z (k : Int) t = some (stY z.1 k t) := by
  refine w_eq ?_
  obtain ⟨h, h1, h2, _⟩ := VR_live H hk hl
  unfold q_X4_standY stY
  refine w_kbe (q_has ⟨by omega, by omega⟩ H) ?_
  rw [Int.toNat_natCast, decide_eq_true ⟨by omega, by omega, hl⟩]
  simp only [kwp_kg, kwp_kif, kwp_some, kz_0, tn40, tn80, h2, tn124, Int.toNat_natCast]
  exact ⟨fun q => (by cases q), fun _ => ⟨⟨by omega, by omega⟩, ⟨by omega, by omega⟩, ⟨by omega, by omega⟩, by trivial⟩⟩
theorem qm_isPoint {m : tZ12} {r : Nat → Int} (H : HR r (m.2.2.1 0)) {v : Int} (hv : k32 v) : q_X12_isPoint m v = some (decide (0 ≤ v ∧ v < 40 ∧ r (80 + v.toNat) ≠ -1)) := by
  refine w_eq ?_
  unfold q_X12_isPoint
  refine w_kbe (qm_isIn hv (by decide) (by decide)) ?_
  by_cases h : 0 ≤ v ∧ v ≤ 39
  · rw [decide_eq_true h]
    obtain ⟨k, rfl⟩ := nat_of h.1
    have hk : k < 40 := by omega
    simp only [kwp_kg, kwp_kif, kwp_some, kz_0, tn0, Int.toNat_natCast]
    refine ⟨fun q => (by cases q), fun _ => ⟨⟨by omega, by omega⟩, ?_, fun q => ?_, fun q => ?_⟩⟩
    · rcases H.2.1 k hk with e | e
      · rw [e.2]; decide
      · rw [e.2.1]; decide
    · rcases H.2.1 k hk with e | e
      · omega
      · exact (decide_eq_true ⟨by omega, by omega, e.1⟩).symm
    · rcases H.2.1 k hk with e | e
      · exact (decide_eq_false (fun w => w.2.2 e.1)).symm
      · exact absurd e.2.1 q
  · rw [decide_eq_false h]
    simp only [kwp_kg, kwp_kif, kwp_some, kz_0]
    exact ⟨fun _ => (decide_eq_false (by omega)).symm, fun q => (q (by trivial)).elim⟩
theorem qm_standsX {m : tZ12} {r : Nat → Int} (H : HR r (m.2.2.1 0)) {k : Nat} (hk : k < 40) (hl : r (80 + k) ≠ -1) : q_X12_standsX m (k : Int) = some (stX r k (r 128)) := by
  refine w_eq ?_
  obtain ⟨h, h1, h2, _⟩ := VR_live H.1 hk hl
  rcases H.2.1 k hk with e | e
  · exact absurd e.1 hl
  · unfold q_X12_standsX stX
    have e3 := e.2.2.2.2
    rw [h2] at e3
    simp only [kwp_kg, kwp_some, tn40, tn120, e3, tn160, tn168, Int.toNat_natCast, h2]
    rw [e.2.2.1, (H.2.2.1 h h1).1, H.2.2.2]
    exact ⟨⟨by omega, by omega⟩, ⟨by omega, by omega⟩, ⟨by omega, by omega⟩, by decide, by trivial⟩
theorem qm_standsY {m : tZ12} {r : Nat → Int} (H : HR r (m.2.2.1 0)) {k : Nat} (hk : k < 40) (hl : r (80 + k) ≠ -1) : q_X12_standsY m (k : Int) = some (stY r k (r 128)) := by
  refine w_eq ?_
  obtain ⟨h, h1, h2, _⟩ := VR_live H.1 hk hl
  rcases H.2.1 k hk with e | e
  · exact absurd e.1 hl
  · unfold q_X12_standsY stY
    have e3 := e.2.2.2.2
    rw [h2] at e3
    simp only [kwp_kg, kwp_some, tn80, tn120, e3, tn161, tn168, Int.toNat_natCast, h2]
    rw [e.2.2.2.1, (H.2.2.1 h h1).2, H.2.2.2]
    exact ⟨⟨by omega, by omega⟩, ⟨by omega, by omega⟩, ⟨by omega, by omega⟩, by decide, by trivial⟩
def layR (a : Nat → Int) (k : Nat) (x y h : Int) : Nat → Int := va_up (va_up (va_up (va_up a k 1) (40 + k) x) (80 + k) y) (120 + k) h
theorem qm_lay {m : tZ12} {k : Nat} {x y h : Int} (hk : k < 40) : kwp (q_X12_lay m (k : Int) x y h) (fun m' => m'.1 = m.1 ∧ m'.2.1 = m.2.1 ∧ m'.2.2.2 = m.2.2.2 ∧ m'.2.2.1 0 = layR (m.2.2.1 0) k x y h ∧ ∀ j, j ≠ 0 → m'.2.2.1 j = m.2.2.1 j) := by
  unfold q_X12_lay
  simp only [kwp_kg, kwp_some, kwp_kl, tn0, tn40, tn80, tn120]
  refine ⟨⟨by omega, by omega⟩, ⟨by omega, by omega⟩, ⟨by omega, by omega⟩, ⟨by omega, by omega⟩, by trivial, by trivial, by trivial, ?_, fun j hj => ?_⟩
  · simp only [va_same]
    rfl
  · simp only [va_ne _ _ hj]
theorem HR_put {r a : Nat → Int} (H : HR r a) {k : Nat} (hk : k < 40) {x y h : Int} (hx : -100 ≤ x ∧ x ≤ 100) (hy : -100 ≤ y ∧ y ≤ 100) (hh : 0 ≤ h ∧ h < 4) : HR (putR r k x y h) (layR a k x y h) := by
  obtain ⟨⟨v1, v2, v3⟩, h1, h2, h3⟩ := H
  unfold putR layR
  refine ⟨⟨fun j hj => ?_, fun j hj => ?_, ?_⟩, fun j hj => ?_, fun j hj => ?_, ?_⟩
  · have := v1 j hj
    by_cases e : j = k
    · subst e
      simp (disch := omega) only [va_same, va_ne, and_true, true_and, true_or, or_true] <;> omega
    · simp (disch := omega) only [va_same, va_ne]
      exact this
  · have := v2 j hj
    simp (disch := omega) only [va_ne]
    exact this
  · simp (disch := omega) only [va_ne]
    exact v3
  · have := h1 j hj
    by_cases e : j = k
    · subst e
      simp (disch := omega) only [va_same, va_ne, and_true, true_and, true_or, or_true] <;> omega
    · simp (disch := omega) only [va_same, va_ne]
      exact this
  · have := h2 j hj
    simp (disch := omega) only [va_ne]
    exact this
  · simp (disch := omega) only [va_ne]
    exact h3
theorem HR_gone {r a : Nat → Int} (H : HR r a) {k : Nat} (hk : k < 40) : HR (va_up r (80 + k) (-1)) (va_up a k 0) := by
  obtain ⟨⟨v1, v2, v3⟩, h1, h2, h3⟩ := H
  refine ⟨⟨fun j hj => ?_, fun j hj => ?_, ?_⟩, fun j hj => ?_, fun j hj => ?_, ?_⟩
  · have := v1 j hj
    by_cases e : j = k
    · subst e
      simp (disch := omega) only [va_same, va_ne, and_true, true_and, true_or, or_true] <;> omega
    · simp (disch := omega) only [va_same, va_ne]
      exact this
  · have := v2 j hj
    simp (disch := omega) only [va_ne]
    exact this
  · simp (disch := omega) only [va_ne]
    exact v3
  · have := h1 j hj
    by_cases e : j = k
    · subst e
      simp (disch := omega) only [va_same, va_ne, and_true, true_and, true_or, or_true] <;> omega
    · simp (disch := omega) only [va_same, va_ne]
      exact this
  · have := h2 j hj
    simp (disch := omega) only [va_ne]
    exact this
  · simp (disch := omega) only [va_ne]
    exact h3
theorem HR_pace {r a : Nat → Int} (H : HR r a) {k : Nat} (hk : k < 4) {x y : Int} (hx : -3 ≤ x ∧ x ≤ 3) (hy : -3 ≤ y ∧ y ≤ 3) : HR (va_up (va_up r (120 + k) x) (124 + k) y) (va_up (va_up a (160 + 2 * k) x) (161 + 2 * k) y) := by
  obtain ⟨⟨v1, v2, v3⟩, h1, h2, h3⟩ := H
  refine ⟨⟨fun j hj => ?_, fun j hj => ?_, ?_⟩, fun j hj => ?_, fun j hj => ?_, ?_⟩
  · have := v1 j hj
    simp (disch := omega) only [va_ne]
    exact this
  · have := v2 j hj
    by_cases e : j = k
    · subst e
      simp (disch := omega) only [va_same, va_ne, and_true, true_and, true_or, or_true] <;> omega
    · simp (disch := omega) only [va_same, va_ne]
      exact this
  · simp (disch := omega) only [va_ne]
    exact v3
  · have := h1 j hj
    simp (disch := omega) only [va_ne]
    exact this
  · have := h2 j hj
    by_cases e : j = k
    · subst e
      simp (disch := omega) only [va_same, va_ne, and_true, true_and, true_or, or_true] <;> omega
    · simp (disch := omega) only [va_same, va_ne]
      exact this
  · simp (disch := omega) only [va_ne]
    exact h3
theorem HR_tick {r a : Nat → Int} (H : HR r a) {t : Int} (ht : 0 ≤ t ∧ t ≤ 20) : HR (va_up r 128 t) (va_up a 168 t) := by
  obtain ⟨⟨v1, v2, v3⟩, h1, h2, h3⟩ := H
  refine ⟨⟨fun j hj => ?_, fun j hj => ?_, ?_⟩, fun j hj => ?_, fun j hj => ?_, ?_⟩
  · have := v1 j hj
    simp (disch := omega) only [va_ne]
    exact this
  · have := v2 j hj
    simp (disch := omega) only [va_ne]
    exact this
  · simp (disch := omega) only [va_same]
    exact ht
  · have := h1 j hj
    simp (disch := omega) only [va_ne]
    exact this
  · have := h2 j hj
    simp (disch := omega) only [va_ne]
    exact this
  · simp only [va_same]
