/-! ===== meets: within ===== -/
theorem lf_t6 (X Y : Nat → Int) (c i : Nat) (x y : Int) : lf X Y c i x y 1 = t6 (X i) (Y i) (X (nx c i)) (Y (nx c i)) x y := by
  unfold lf t6
  rw [Int.one_mul, Int.one_mul]
def SVm (m : tZ12) (X Y : Nat → Int) (c : Nat) : Prop := m.1 53 = (c : Int) ∧ ∀ i, i < c → m.2.2.1 51 i = X i ∧ m.2.2.1 52 i = Y i
theorem MH_at {m : tZ12} {l : List Spt} (hs : sorL l) (h0 : 0 < l.length) (H : MH m l) {i : Nat} (hi : i < hC l) : m.2.2.1 35 i = (hJ l i : Int) ∧ hJ l i < 41 ∧ m.2.2.1 12 (hJ l i) = hX l (hJ l) i ∧ m.2.2.1 13 (hJ l i) = hY l (hJ l) i := by
  have lt := hJ_lt hs h0 hi
  have e := H.1.2.2 _ lt
  have := H.1.2.1
  exact ⟨H.2.2 i hi, by omega, e.1, e.2.1⟩
theorem mhB {l : List Spt} (hs : sorL l) (hb : bdL l) (h0 : 0 < l.length) {i : Nat} (hi : i < hC l) : (hX l (hJ l) i).natAbs ≤ 160 ∧ (hY l (hJ l) i).natAbs ≤ 160 := bX hb (hJ_lt hs h0 hi)
theorem qm_isWithin {m : tZ12} {l : List Spt} (hs : sorL l) (hb : bdL l) (h0 : 0 < l.length) (h40 : l.length ≤ 40) (H : MH m l) {x y : Int} (hx : x.natAbs ≤ 160) (hy : y.natAbs ≤ 160) :
    kwp (q_X12_isWithin m x y) (fun b => b = true ↔ (3 ≤ hC l ∧ ∀ i, i < hC l → 0 ≤ lf (hX l (hJ l)) (hY l (hJ l)) (hC l) i x y 1)) := by
  have hle := hC_le hs h0
  have h37 := H.2.1
  unfold q_X12_isWithin
  refine w_kb (w_loop (fun n s => ∃ i : Nat, n = hC l - i ∧ i ≤ hC l ∧ s = (i : Int) ∧ (3 ≤ hC l → ∀ j, j < i → 0 ≤ lf (hX l (hJ l)) (hY l (hJ l)) (hC l) j x y 1))
    (Q := fun e => (e.1 = 90 ∧ 3 ≤ hC l ∧ ∃ i, i < hC l ∧ lf (hX l (hJ l)) (hY l (hJ l)) (hC l) i x y 1 < 0) ∨ (e.1 = 98 ∧ (3 ≤ hC l → ∀ j, j < hC l → 0 ≤ lf (hX l (hJ l)) (hY l (hJ l)) (hC l) j x y 1))) ?_ kF (hC l) 0 (by have := kF_eq; omega) ⟨0, rfl, by omega, rfl, fun _ j hj => absurd hj (Nat.not_lt_zero _)⟩) ?_
  · rintro n s ⟨i, rfl, hi, rfl, g⟩
    unfold q_X12_isWithin_L3
    rw [h37]
    simp only [kwp_kb, kwp_kg, kwp_kif, kwp_some, kwp_kl]
    refine ⟨⟨⟨by omega, by omega⟩, ⟨by omega, by omega⟩⟩, fun q => Or.inr ⟨by decide, Or.inr ⟨by trivial, fun h j hj => g h j (by omega)⟩⟩, fun q => ⟨fun q2 => Or.inr ⟨by decide, Or.inr ⟨by trivial, fun h => by omega⟩⟩, fun q2 => ?_⟩⟩
    have hi' : i < hC l := by omega
    have nl := nx_lt hi'
    have a := MH_at hs h0 H hi'
    have b := MH_at hs h0 H nl
    have b1 := mhB hs hb h0 hi'
    have b2 := mhB hs hb h0 nl
    simp only [qm_after h37 (by omega) hi', kwp_some, Int.toNat_natCast, a.1, b.1, a.2.2.1, a.2.2.2, b.2.2.1, b.2.2.2]
    rw [qm_turn6, kwp_some]
    refine ⟨⟨by omega, by omega⟩, ⟨by omega, by omega⟩, ⟨by omega, by omega⟩, ⟨by omega, by omega⟩, ⟨by omega, by omega⟩, ⟨by omega, by omega⟩, ⟨⟨by omega, by omega⟩, ⟨by omega, by omega⟩, ⟨by omega, by omega⟩, ⟨by omega, by omega⟩⟩, t6_bd b1.1 b1.2 b2.1 b2.2 hx hy, fun q3 => Or.inl ⟨by trivial, hC l - (i + 1), by omega, i + 1, rfl, by omega, by omega, fun h j hj => ?_⟩, fun q3 => Or.inr ⟨by decide, Or.inl ⟨by trivial, by omega, i, hi', ?_⟩⟩⟩
    · by_cases w : j = i
      · subst w
        rw [lf_t6]
        exact q3
      · exact g h j (by omega)
    · rw [lf_t6]
      exact Int.not_le.1 q3
  · rintro ⟨lb, s⟩ g
    dsimp only at g
    simp only [kwp_kg, kwp_kif, kwp_some]
    rcases g with ⟨e, g1, i, hi, g⟩ | ⟨e, g⟩
    · exact ⟨fun _ => ⟨fun q => nf q, fun q => by have := q.2 i hi; omega⟩, fun q => absurd e q⟩
    · refine ⟨fun q => by omega, fun _ => ⟨e, ?_⟩⟩
      unfold q_X12_isWithin_J98
      rw [h37]
      simp only [kwp_kg, kwp_kif, kwp_some]
      exact ⟨⟨by omega, by omega⟩, fun q => ⟨fun w => nf w, fun w => by omega⟩, fun q => ⟨fun _ => ⟨by omega, g (by omega)⟩, fun _ => (by first | exact trivial | rfl)⟩⟩
theorem qm_inOther {m : tZ12} {X Y : Nat → Int} {c : Nat} (hc : c ≤ 41) (hb : ∀ i, i < c → (X i).natAbs ≤ 160 ∧ (Y i).natAbs ≤ 160) (H : SVm m X Y c) {x y : Int} (hx : x.natAbs ≤ 160) (hy : y.natAbs ≤ 160) :
    kwp (q_X12_isInOther m x y) (fun b => b = true ↔ (3 ≤ c ∧ ∀ i, i < c → 0 ≤ lf X Y c i x y 1)) := by
  have h53 := H.1
  unfold q_X12_isInOther
  refine w_kb (w_loop (fun n s => ∃ i : Nat, n = c - i ∧ i ≤ c ∧ s = (i : Int) ∧ (3 ≤ c → ∀ j, j < i → 0 ≤ lf X Y c j x y 1))
    (Q := fun e => (e.1 = 83 ∧ 3 ≤ c ∧ ∃ i, i < c ∧ lf X Y c i x y 1 < 0) ∨ (e.1 = 91 ∧ (3 ≤ c → ∀ j, j < c → 0 ≤ lf X Y c j x y 1))) ?_ kF c 0 (by have := kF_eq; omega) ⟨0, rfl, by omega, rfl, fun _ j hj => absurd hj (Nat.not_lt_zero _)⟩) ?_
  · rintro n s ⟨i, rfl, hi, rfl, g⟩
    have J : 3 ≤ c → i < c → kwp (q_X12_isInOther_J39_3 m x y (i : Int) (nx c i : Int)) (fun e => (e.1 = 3 ∧ ∃ k, k < c - i ∧ ∃ i : Nat, k = c - i ∧ i ≤ c ∧ e.2 = (i : Int) ∧ (3 ≤ c → ∀ j, j < i → 0 ≤ lf X Y c j x y 1)) ∨ (e.1 ≠ 3 ∧ ((e.1 = 83 ∧ 3 ≤ c ∧ ∃ i, i < c ∧ lf X Y c i x y 1 < 0) ∨ (e.1 = 91 ∧ (3 ≤ c → ∀ j, j < c → 0 ≤ lf X Y c j x y 1))))) := fun h3 hi' => by
      have nl := nx_lt hi'
      have a := H.2 i hi'
      have b := H.2 _ nl
      have b1 := hb i hi'
      have b2 := hb _ nl
      unfold q_X12_isInOther_J39_3
      simp only [kwp_kb, kwp_kg, kwp_kif, kwp_some, kwp_kl, Int.toNat_natCast, a.1, a.2, b.1, b.2]
      rw [qm_turn6, kwp_some]
      refine ⟨⟨by omega, by omega⟩, ⟨by omega, by omega⟩, ⟨⟨by omega, by omega⟩, ⟨by omega, by omega⟩, ⟨by omega, by omega⟩, ⟨by omega, by omega⟩⟩, t6_bd b1.1 b1.2 b2.1 b2.2 hx hy, fun q3 => Or.inl ⟨by trivial, c - (i + 1), by omega, i + 1, rfl, by omega, by omega, fun h j hj => ?_⟩, fun q3 => Or.inr ⟨by decide, Or.inl ⟨by trivial, h3, i, hi', ?_⟩⟩⟩
      · by_cases w : j = i
        · subst w
          rw [lf_t6]
          exact q3
        · exact g h j (by omega)
      · rw [lf_t6]
        exact Int.not_le.1 q3
    unfold q_X12_isInOther_L3
    rw [h53]
    simp only [kwp_kb, kwp_kg, kwp_kif, kwp_some, kwp_kl]
    refine ⟨⟨⟨by omega, by omega⟩, ⟨by omega, by omega⟩⟩, fun q => Or.inr ⟨by decide, Or.inr ⟨by trivial, fun h j hj => g h j (by omega)⟩⟩, fun q => ⟨fun q2 => Or.inr ⟨by decide, Or.inr ⟨by trivial, fun h => by omega⟩⟩, fun q2 => ⟨⟨by omega, by omega⟩, fun q3 => ?_, fun q3 => ?_⟩⟩⟩
    · have e : (nx c i : Int) = 0 := by
        unfold nx
        rw [if_pos (by omega)]
        rfl
      have j := J (by omega) (by omega)
      rw [e] at j
      exact j
    · have e : (nx c i : Int) = (i : Int) + 1 := by
        unfold nx
        rw [if_neg (by omega)]
        omega
      have j := J (by omega) (by omega)
      rw [e] at j
      exact j
  · rintro ⟨lb, s⟩ g
    dsimp only at g
    simp only [kwp_kg, kwp_kif, kwp_some]
    rcases g with ⟨e, g1, i, hi, g⟩ | ⟨e, g⟩
    · exact ⟨fun _ => ⟨fun q => nf q, fun q => by have := q.2 i hi; omega⟩, fun q => absurd e q⟩
    · refine ⟨fun q => by omega, fun _ => ⟨e, ?_⟩⟩
      unfold q_X12_isInOther_J91
      rw [h53]
      simp only [kwp_kg, kwp_kif, kwp_some]
      exact ⟨⟨by omega, by omega⟩, fun q => ⟨fun w => nf w, fun w => by omega⟩, fun q => ⟨fun _ => ⟨by omega, g (by omega)⟩, fun _ => (by first | exact trivial | rfl)⟩⟩
