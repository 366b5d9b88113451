/-! ===== most and least along a way ===== -/
def mxF (f : Nat → Int) : Nat → Int
  | 0 => f 0
  | n + 1 => max (mxF f n) (f (n + 1))
def mnF (f : Nat → Int) : Nat → Int
  | 0 => f 0
  | n + 1 => min (mnF f n) (f (n + 1))
def fiF (f : Nat → Int) : Nat → Nat
  | 0 => 0
  | n + 1 => if mxF f n < f (n + 1) then n + 1 else fiF f n
theorem mxF_ge (f : Nat → Int) : ∀ n i, i ≤ n → f i ≤ mxF f n := by
  intro n
  induction n with
  | zero =>
    intro i hi
    obtain rfl : i = 0 := by omega
    exact Int.le_refl _
  | succ n ih =>
    intro i hi
    unfold mxF
    by_cases e : i = n + 1
    · rw [e]
      omega
    · have := ih i (by omega)
      omega
theorem mnF_le (f : Nat → Int) : ∀ n i, i ≤ n → mnF f n ≤ f i := by
  intro n
  induction n with
  | zero =>
    intro i hi
    obtain rfl : i = 0 := by omega
    exact Int.le_refl _
  | succ n ih =>
    intro i hi
    unfold mnF
    by_cases e : i = n + 1
    · rw [e]
      omega
    · have := ih i (by omega)
      omega
theorem mxF_bd {f : Nat → Int} {B : Nat} : ∀ n, (∀ i, i ≤ n → (f i).natAbs ≤ B) → (mxF f n).natAbs ≤ B ∧ (mnF f n).natAbs ≤ B := by
  intro n
  induction n with
  | zero => exact fun h => ⟨h 0 (by decide), h 0 (by decide)⟩
  | succ n ih =>
    intro h
    have a := ih (fun i hi => h i (by omega))
    have b := h (n + 1) (Nat.le_refl _)
    unfold mxF mnF
    omega
theorem fiF_ok (f : Nat → Int) : ∀ n, fiF f n ≤ n ∧ f (fiF f n) = mxF f n ∧ ∀ j, j < fiF f n → f j < mxF f n := by
  intro n
  induction n with
  | zero => exact ⟨Nat.le_refl _, rfl, fun j h => absurd h (Nat.not_lt_zero _)⟩
  | succ n ih =>
    have em : mxF f (n + 1) = max (mxF f n) (f (n + 1)) := rfl
    by_cases h : mxF f n < f (n + 1)
    · have e : fiF f (n + 1) = n + 1 := if_pos h
      rw [e, em]
      refine ⟨Nat.le_refl _, by omega, fun j hj => ?_⟩
      have := mxF_ge f n j (by omega)
      omega
    · have e : fiF f (n + 1) = fiF f n := if_neg h
      rw [e, em]
      refine ⟨by omega, by rw [ih.2.1]; omega, fun j hj => ?_⟩
      have := ih.2.2 j hj
      omega
/-- a corner's place along the way u, v -/
def alF (l : List Spt) (h : Nat → Nat) (u v : Int) (i : Nat) : Int := u * lX l (h i) + v * lY l (h i)
theorem alF_bd {l : List Spt} (hb : bdL l) {h : Nat → Nat} {u v : Int} (hu : u.natAbs ≤ 1000) (hv : v.natAbs ≤ 1000) {i : Nat} (hi : h i < l.length) : (alF l h u v i).natAbs ≤ 320000 := by
  have b := bX hb hi
  have m1 := ab_mul hu b.1
  have m2 := ab_mul hv b.2
  unfold alF
  omega
theorem q_most {z : tZ5} {l : List Spt} {h : Nat → Nat} {c : Nat} (hb : bdL l) (H : OU z l h c) (h0 : 0 < c) {u v : Int} (hu : u.natAbs ≤ 1000) (hv : v.natAbs ≤ 1000) : q_X5_most z u v = some (mxF (alF l h u v) (c - 1)) := by
  refine w_eq ?_
  have hc := H.2.1
  have a0 := H.2.2 0 h0
  have b0 := bX hb a0.1
  unfold q_X5_most
  simp only [kwp_kg, kwp_kl]
  rw [show ((0 : Int)).toNat = 0 from rfl, a0.2.1, a0.2.2.1]
  refine ⟨by decide, ⟨⟨by omega, by omega⟩, ⟨by omega, by omega⟩⟩, ?_⟩
  refine w_kb (w_for (ex := 67) (by decide) (fun i (s : Int × Int) => s.2 = (i : Int) + 1 ∧ s.1 = mxF (alF l h u v) i) (c - 1) ?_ ?_ (Nat.zero_le _) (by have := kF_eq; omega) ⟨rfl, rfl⟩) ?_
  · rintro i ⟨t, s⟩ hi ⟨rfl, rfl⟩
    have a := H.2.2 (i + 1) (by omega)
    have b := bX hb a.1
    have m1 := (mxF_bd (f := alF l h u v) (B := 320000) i (fun j hj => alF_bd hb hu hv (H.2.2 j (by omega)).1)).1
    have m2 := alF_bd hb hu hv (i := i + 1) a.1
    unfold q_X5_most_L24
    rw [H.1]
    simp only [kwp_kb, kwp_some, kwp_kg, kwp_kif, kwp_kl]
    rw [show ((i : Int) + 1).toNat = i + 1 by omega, a.2.1, a.2.2.1]
    refine ⟨⟨⟨by omega, by omega⟩, ⟨by omega, by omega⟩⟩, fun q => by omega, fun _ => ⟨⟨by omega, by omega⟩, ⟨⟨by omega, by omega⟩, ⟨by omega, by omega⟩⟩, w_of (q_max64 (a := mxF (alF l h u v) i) (b := alF l h u v (i + 1)) ⟨by omega, by omega⟩ ⟨by omega, by omega⟩) ⟨by trivial, by omega, rfl⟩⟩⟩
  · rintro ⟨t, s⟩ ⟨rfl, h⟩
    dsimp only at h
    unfold q_X5_most_L24
    rw [H.1]
    simp only [kwp_kb, kwp_some, kwp_kg, kwp_kif, kwp_kl]
    exact ⟨⟨⟨by omega, by omega⟩, ⟨by omega, by omega⟩⟩, fun _ => ⟨by trivial, by trivial, h⟩, fun q => by omega⟩
  · rintro ⟨lb, t, s⟩ ⟨g0, _, g⟩
    dsimp only at *
    simp only [kwp_kg, kwp_some]
    exact ⟨g0, g⟩
theorem q_least {z : tZ5} {l : List Spt} {h : Nat → Nat} {c : Nat} (hb : bdL l) (H : OU z l h c) (h0 : 0 < c) {u v : Int} (hu : u.natAbs ≤ 1000) (hv : v.natAbs ≤ 1000) : q_X5_least z u v = some (mnF (alF l h u v) (c - 1)) := by
  refine w_eq ?_
  have hc := H.2.1
  have a0 := H.2.2 0 h0
  have b0 := bX hb a0.1
  unfold q_X5_least
  simp only [kwp_kg, kwp_kl]
  rw [show ((0 : Int)).toNat = 0 from rfl, a0.2.1, a0.2.2.1]
  refine ⟨by decide, ⟨⟨by omega, by omega⟩, ⟨by omega, by omega⟩⟩, ?_⟩
  refine w_kb (w_for (ex := 67) (by decide) (fun i (s : Int × Int) => s.2 = (i : Int) + 1 ∧ s.1 = mnF (alF l h u v) i) (c - 1) ?_ ?_ (Nat.zero_le _) (by have := kF_eq; omega) ⟨rfl, rfl⟩) ?_
  · rintro i ⟨t, s⟩ hi ⟨rfl, rfl⟩
    have a := H.2.2 (i + 1) (by omega)
    have b := bX hb a.1
    have m1 := (mxF_bd (f := alF l h u v) (B := 320000) i (fun j hj => alF_bd hb hu hv (H.2.2 j (by omega)).1)).2
    have m2 := alF_bd hb hu hv (i := i + 1) a.1
    unfold q_X5_least_L24
    rw [H.1]
    simp only [kwp_kb, kwp_some, kwp_kg, kwp_kif, kwp_kl]
    rw [show ((i : Int) + 1).toNat = i + 1 by omega, a.2.1, a.2.2.1]
    refine ⟨⟨⟨by omega, by omega⟩, ⟨by omega, by omega⟩⟩, fun q => by omega, fun _ => ⟨⟨by omega, by omega⟩, ⟨⟨by omega, by omega⟩, ⟨by omega, by omega⟩⟩, w_of (q_min64 (a := mnF (alF l h u v) i) (b := alF l h u v (i + 1)) ⟨by omega, by omega⟩ ⟨by omega, by omega⟩) ⟨by trivial, by omega, rfl⟩⟩⟩
  · rintro ⟨t, s⟩ ⟨rfl, h⟩
    dsimp only at h
    unfold q_X5_least_L24
    rw [H.1]
    simp only [kwp_kb, kwp_some, kwp_kg, kwp_kif, kwp_kl]
    exact ⟨⟨⟨by omega, by omega⟩, ⟨by omega, by omega⟩⟩, fun _ => ⟨by trivial, by trivial, h⟩, fun q => by omega⟩
  · rintro ⟨lb, t, s⟩ ⟨g0, _, g⟩
    dsimp only at *
    simp only [kwp_kg, kwp_some]
    exact ⟨g0, g⟩
theorem q_farthest {z : tZ5} {l : List Spt} {h : Nat → Nat} {c : Nat} (hb : bdL l) (H : OU z l h c) (h0 : 0 < c) {u v : Int} (hu : u.natAbs ≤ 1000) (hv : v.natAbs ≤ 1000) : q_X5_farthest z u v = some (fiF (alF l h u v) (c - 1) : Int) := by
  refine w_eq ?_
  have hc := H.2.1
  have fo := fiF_ok (alF l h u v) (c - 1)
  have m1 := (mxF_bd (f := alF l h u v) (B := 320000) (c - 1) (fun j hj => alF_bd hb hu hv (H.2.2 j (by omega)).1)).1
  unfold q_X5_farthest
  rw [q_most hb H h0 hu hv]
  simp only [kwp_kb, kwp_some]
  generalize fiF (alF l h u v) (c - 1) = w at fo ⊢
  refine w_mono (w_loop (fun n s => ∃ i : Nat, n = c - i ∧ i ≤ w ∧ s = (i : Int)) (Q := fun e => e.1 = 47 ∧ e.2 = (w : Int)) ?_ kF c 0 (by have := kF_eq; omega) ⟨0, rfl, by omega, rfl⟩) ?_
  · rintro n s ⟨i, rfl, hi, rfl⟩
    have a := H.2.2 i (by omega)
    have b := bX hb a.1
    have m2 := alF_bd hb hu hv (i := i) a.1
    unfold q_X5_farthest_L11
    rw [H.1]
    simp only [kwp_kb, kwp_some, kwp_kg, kwp_kif, kwp_kl]
    rw [Int.toNat_natCast, a.2.1, a.2.2.1, show u * lX l (h i) + v * lY l (h i) = alF l h u v i from rfl]
    refine ⟨⟨⟨by omega, by omega⟩, ⟨by omega, by omega⟩⟩, fun q => by omega, fun _ => ⟨⟨by omega, by omega⟩, ⟨⟨by omega, by omega⟩, ⟨by omega, by omega⟩, ⟨by omega, by omega⟩, ⟨by omega, by omega⟩⟩, fun q => Or.inr ⟨by decide, by trivial, ?_⟩, fun q => Or.inl ⟨by trivial, c - (i + 1), by omega, i + 1, rfl, ?_, by omega⟩⟩⟩
    · by_cases e : i = w
      · rw [e]
      · have := fo.2.2 i (by omega)
        omega
    · by_cases e : i = w
      · rw [e] at q
        exact absurd fo.2.1 q
      · omega
  · rintro ⟨lb, s⟩ ⟨g0, g⟩
    dsimp only at g0 g
    subst g0
    simp only [kwp_kif, kwp_some, kwp_kg]
    exact ⟨fun _ => g, fun q => (q (by trivial)).elim⟩
