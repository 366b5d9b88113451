/-! ===== whole: the model's rim ===== -/
theorem qm_after {m : tZ12} {c i : Nat} (h37 : m.1 37 = (c : Int)) (hc : c ≤ 41) (hi : i < c) : q_X12_after m (i : Int) = some (nx c i : Int) := by
  refine w_eq ?_
  unfold q_X12_after nx
  rw [h37]
  simp only [kwp_kg, kwp_kif, kwp_some]
  refine ⟨⟨⟨by omega, by omega⟩, ⟨by omega, by omega⟩⟩, fun q => ?_, fun q => ?_⟩
  · rw [if_pos (by omega)]
    rfl
  · rw [if_neg (by omega)]
    omega
theorem qm_wholeL {m : tZ12} {l : List Spt} {h : Nat → Nat} {c : Nat} (HS : SPm m l) (hb : bdL l) (h37 : m.1 37 = (c : Int)) (h35 : ∀ i, i < c → m.2.2.1 35 i = (h i : Int)) (hl : ∀ i, i < c → h i < l.length) (hc : c ≤ 41) (hne : ∀ i, i < c → gS l h c i ≠ 0) {v1 v2 : Int} :
    kwp (kitr 42 (fun q => q_X12_whole_L42 v1 v2 m q) kF ((0 : Int), (0 : Int))) (fun e => e.1 = 118 ∧ e.2.1 = sumG l h c c) := by
  refine w_mono (w_for (ex := 118) (by decide) (fun i (s : Int × Int) => s.2 = (i : Int) ∧ s.1 = sumG l h c i) c ?_ ?_ (Nat.zero_le _) (by have := kF_eq; omega) ⟨rfl, rfl⟩) (fun e g => ⟨g.1, g.2.2⟩)
  · rintro i ⟨t, s⟩ hi ⟨rfl, rfl⟩
    have sl := HS.2.1
    have l1 := hl i hi
    have l2 := hl _ (nx_lt hi)
    have b1 := bX hb l1
    have b2 := bX hb l2
    have e1 := HS.2.2 _ l1
    have e2 := HS.2.2 _ l2
    have nl := nx_lt hi
    unfold q_X12_whole_L42
    rw [h37]
    simp only [kwp_kb, kwp_some, kwp_kg, kwp_kif, kwp_kl]
    rw [qm_after h37 hc hi, kwp_some, Int.toNat_natCast, Int.toNat_natCast, h35 i hi, h35 _ nl, Int.toNat_natCast, Int.toNat_natCast, show m.2.2.1 12 (h i) = lX l (h i) from e1.1, show m.2.2.1 13 (h i) = lY l (h i) from e1.2.1, show m.2.2.1 12 (h (nx c i)) = lX l (h (nx c i)) from e2.1, show m.2.2.1 13 (h (nx c i)) = lY l (h (nx c i)) from e2.2.1]
    exact ⟨⟨⟨by omega, by omega⟩, ⟨by omega, by omega⟩⟩, fun q => by omega, fun _ => ⟨⟨by omega, by omega⟩, ⟨by omega, by omega⟩, ⟨by omega, by omega⟩, ⟨by omega, by omega⟩, ⟨⟨by omega, by omega⟩, ⟨by omega, by omega⟩⟩, w_of (qm_common2 (by omega) (by omega) (hne i hi)) ⟨by trivial, by omega, rfl⟩⟩⟩
  · rintro ⟨t, s⟩ ⟨rfl, h⟩
    dsimp only at h
    unfold q_X12_whole_L42
    rw [h37]
    simp only [kwp_kb, kwp_some, kwp_kg, kwp_kif, kwp_kl]
    exact ⟨⟨⟨by omega, by omega⟩, ⟨by omega, by omega⟩⟩, fun _ => ⟨by trivial, by trivial, h⟩, fun q => by omega⟩
