/-! ===== whole: the class's rim ===== -/
def gS (l : List Spt) (h : Nat → Nat) (c i : Nat) : Nat := Int.gcd (lX l (h (nx c i)) - lX l (h i)) (lY l (h (nx c i)) - lY l (h i))
def sumG (l : List Spt) (h : Nat → Nat) (c : Nat) : Nat → Int
  | 0 => 0
  | n + 1 => sumG l h c n + (gS l h c n : Int)
theorem q_osideH {z : tZ5} {l : List Spt} {h : Nat → Nat} {c : Nat} (hb : bdL l) (H : OU z l h c) {i : Nat} (hi : i < c) :
    q_X5_sideX z (i : Int) = some (lX l (h (nx c i)) - lX l (h i)) ∧ q_X5_sideY z (i : Int) = some (lY l (h (nx c i)) - lY l (h i)) := by
  have a := H.2.2 i hi
  have b := H.2.2 _ (nx_lt hi)
  have hc := H.2.1
  have s := q_oside H.1 (by omega) hi (OU_bd hb H)
  rw [s.1, s.2, a.2.1, a.2.2.1, b.2.1, b.2.2.1]
  exact ⟨rfl, rfl⟩
theorem q_gS {l : List Spt} {h : Nat → Nat} {c : Nat} (hb : bdL l) (hl : ∀ i, i < c → h i < l.length) {i : Nat} (hi : i < c) :
    q_X3_gcd (lX l (h (nx c i)) - lX l (h i)) (lY l (h (nx c i)) - lY l (h i)) = some (gS l h c i : Int) := by
  have b1 := bX hb (hl i hi)
  have b2 := bX hb (hl _ (nx_lt hi))
  rw [q_gcd ⟨by omega, by omega⟩ (by omega) ⟨by omega, by omega⟩ (by omega)]
  rfl
theorem q_wholeOnRim {z : tZ5} {l : List Spt} {h : Nat → Nat} {c : Nat} (hb : bdL l) (H : OU z l h c) (h0 : 0 < c) : q_X5_wholeOnRim z = some (if c = 1 then 1 else if c = 2 then (gS l h c 0 : Int) + 1 else sumG l h c c) := by
  refine w_eq ?_
  have hc := H.2.1
  have hl : ∀ i, i < c → h i < l.length := fun i hi => (H.2.2 i hi).1
  unfold q_X5_wholeOnRim
  rw [H.1]
  simp only [kwp_kg, kwp_kif, kwp_kb, kwp_some]
  refine ⟨⟨by omega, by omega⟩, fun q => by rw [if_pos (by omega)], fun q => ⟨fun q2 => ?_, fun q2 => ?_⟩⟩
  · rw [if_neg (by omega), if_pos (by omega)]
    have s := q_osideH hb H h0
    exact w_of s.1 (w_of s.2 (w_of (q_gS hb hl h0) rfl))
  · rw [if_neg (by omega), if_neg (by omega)]
    refine w_mono (w_for (ex := 68) (by decide) (fun i (s : Int × Int) => s.2 = (i : Int) ∧ s.1 = sumG l h c i) c ?_ ?_ (Nat.zero_le _) (by have := kF_eq; omega) ⟨rfl, rfl⟩) ?_
    · rintro i ⟨t, s⟩ hi ⟨rfl, rfl⟩
      have s := q_osideH hb H hi
      unfold q_X5_wholeOnRim_L38
      rw [H.1]
      simp only [kwp_kb, kwp_some, kwp_kg, kwp_kif, kwp_kl]
      exact ⟨⟨⟨by omega, by omega⟩, ⟨by omega, by omega⟩⟩, fun q => by omega, fun _ => w_of s.1 (w_of s.2 (w_of (q_gS hb hl hi) ⟨by trivial, by omega, rfl⟩))⟩
    · rintro ⟨t, s⟩ ⟨rfl, h⟩
      dsimp only at h
      unfold q_X5_wholeOnRim_L38
      rw [H.1]
      simp only [kwp_kb, kwp_some, kwp_kg, kwp_kif, kwp_kl]
      exact ⟨⟨⟨by omega, by omega⟩, ⟨by omega, by omega⟩⟩, fun _ => ⟨by trivial, by trivial, h⟩, fun q => by omega⟩
    · rintro ⟨lb, t, s⟩ ⟨g0, _, g⟩
      dsimp only at *
      exact ⟨g0, g⟩
