/-! ===== reach ===== -/
theorem qm_reachL {m : tZ12} {l : List Spt} {h : Nat → Nat} {c : Nat} (HS : SPm m l) (hb : bdL l) (h37 : m.1 37 = (c : Int)) (h35 : ∀ i, i < c → m.2.2.1 35 i = (h i : Int)) (hl : ∀ i, i < c → h i < l.length) (h0 : 0 < c) (hc : c ≤ 41) {v1 u v v4 : Int} (hu : u.natAbs ≤ 1000) (hv : v.natAbs ≤ 1000) :
    kwp (kitr 60 (fun q => q_X12_reach_L60 v1 u v v4 m q) kF ((0 : Int), (0 : Int), (0 : Int), (0 : Int))) (fun e => e.1 = 153 ∧ e.2.1 = (fiF (alF l h u v) (c - 1) : Int) ∧ e.2.2.1 = mxF (alF l h u v) (c - 1) ∧ e.2.2.2.1 = mnF (alF l h u v) (c - 1)) := by
  refine w_mono (w_for (ex := 153) (by decide) (fun i (s : Int × Int × Int × Int) => s.2.2.2 = (i : Int) ∧ (0 < i → s.1 = (fiF (alF l h u v) (i - 1) : Int) ∧ s.2.1 = mxF (alF l h u v) (i - 1) ∧ s.2.2.1 = mnF (alF l h u v) (i - 1))) c ?_ ?_ (Nat.zero_le _) (by have := kF_eq; omega) ⟨rfl, fun w => absurd w (Nat.lt_irrefl _)⟩) (fun e h => ⟨h.1, h.2.2 h0⟩)
  · rintro i ⟨s1, s2, s3, s⟩ hi ⟨rfl, g⟩
    dsimp only at g
    have lt := hl i hi
    have b := bX hb lt
    have sl := HS.2.1
    have e := HS.2.2 _ lt
    have m2 := alF_bd hb hu hv (i := i) lt
    unfold q_X12_reach_L60
    rw [h37]
    simp only [kwp_kb, kwp_some, kwp_kg, kwp_kif, kwp_kl]
    rw [Int.toNat_natCast, h35 i hi, Int.toNat_natCast, show m.2.2.1 12 (h i) = lX l (h i) from e.1, show m.2.2.1 13 (h i) = lY l (h i) from e.2.1, show u * lX l (h i) + v * lY l (h i) = alF l h u v i from rfl]
    refine ⟨⟨⟨by omega, by omega⟩, ⟨by omega, by omega⟩⟩, fun q => by omega, fun _ => ⟨⟨by omega, by omega⟩, ⟨by omega, by omega⟩, ⟨⟨by omega, by omega⟩, ⟨by omega, by omega⟩, ⟨by omega, by omega⟩, ⟨by omega, by omega⟩⟩, fun q => ?_, fun q => ?_⟩⟩
    · have i0 : i = 0 := by omega
      subst i0
      unfold q_X12_reach_J117_60 q_X12_reach_J125_60
      simp only [kwp_kb, kwp_some, kwp_kg, kwp_kif, kwp_kl]
      exact ⟨by decide, fun _ => ⟨by trivial, by trivial, fun _ => ⟨rfl, rfl, rfl⟩⟩, fun w => absurd rfl w⟩
    · obtain ⟨k, rfl⟩ : ∃ k, i = k + 1 := ⟨i - 1, by omega⟩
      obtain ⟨g1, g2, g3⟩ : s1 = (fiF (alF l h u v) k : Int) ∧ s2 = mxF (alF l h u v) k ∧ s3 = mnF (alF l h u v) k := g (by omega)
      have mb := mxF_bd (f := alF l h u v) (B := 320000) k (fun j hj => alF_bd hb hu hv (hl j (by omega)))
      have em : mxF (alF l h u v) (k + 1) = max (mxF (alF l h u v) k) (alF l h u v (k + 1)) := rfl
      have en : mnF (alF l h u v) (k + 1) = min (mnF (alF l h u v) k) (alF l h u v (k + 1)) := rfl
      have e1 : ¬ mxF (alF l h u v) k < alF l h u v (k + 1) → fiF (alF l h u v) (k + 1) = fiF (alF l h u v) k := fun w => if_neg w
      have e2 : mxF (alF l h u v) k < alF l h u v (k + 1) → fiF (alF l h u v) (k + 1) = k + 1 := fun w => if_pos w
      rw [g1, g2, g3]
      generalize alF l h u v (k + 1) = y at *
      have ky : k64 y := ⟨by omega, by omega⟩
      have k3 : k64 (mnF (alF l h u v) k) := ⟨by omega, by omega⟩
      refine ⟨⟨ky, ⟨by omega, by omega⟩⟩, fun q1 => ?_, fun q1 => ?_⟩
      · have ef : fiF (alF l h u v) (k + 1) = fiF (alF l h u v) k := e1 (by omega)
        unfold q_X12_reach_J125_60
        simp only [kwp_kb, kwp_some, kwp_kg, kwp_kif, kwp_kl]
        rw [Nat.add_sub_cancel, em, en, ef]
        exact ⟨⟨by omega, by omega⟩, fun w => absurd w q, fun _ => ⟨⟨ky, k3⟩, fun q3 => ⟨by trivial, by omega, fun _ => ⟨(by first | exact trivial | rfl), by omega, by omega⟩⟩, fun q3 => ⟨by trivial, by omega, fun _ => ⟨(by first | exact trivial | rfl), by omega, by omega⟩⟩⟩⟩
      · have ef : fiF (alF l h u v) (k + 1) = k + 1 := e2 (by omega)
        unfold q_X12_reach_J117_60 q_X12_reach_J125_60
        simp only [kwp_kb, kwp_some, kwp_kg, kwp_kif, kwp_kl]
        rw [Nat.add_sub_cancel, em, en, ef]
        exact ⟨⟨by omega, by omega⟩, fun w => absurd w q, fun _ => ⟨⟨ky, k3⟩, fun q3 => ⟨by trivial, by omega, fun _ => ⟨(by first | exact trivial | rfl), by omega, by omega⟩⟩, fun q3 => ⟨by trivial, by omega, fun _ => ⟨(by first | exact trivial | rfl), by omega, by omega⟩⟩⟩⟩
  · rintro ⟨s1, s2, s3, s⟩ ⟨rfl, g⟩
    dsimp only at g
    unfold q_X12_reach_L60
    rw [h37]
    simp only [kwp_kb, kwp_some, kwp_kg, kwp_kif, kwp_kl]
    exact ⟨⟨⟨by omega, by omega⟩, ⟨by omega, by omega⟩⟩, fun _ => ⟨by trivial, by trivial, g⟩, fun q => by omega⟩
