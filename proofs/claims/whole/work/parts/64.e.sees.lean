/-! ===== sees ===== -/
theorem sn_bd {l : List Spt} (hb : bdL l) {x y : Int} (hx : x.natAbs ≤ 300) (hy : y.natAbs ≤ 300) {h : Nat → Nat} {c i : Nat} (hl : ∀ i, i < c → h i < l.length) (hi : i < c) :
    (vx (dwX l h c i) (dwY l h c i) (x - lX l (h i)) (y - lY l (h i))).natAbs ≤ 294400 := by
  have d := dw_bd hb hl hi
  have b := bX hb (hl i hi)
  have m1 := ab_mul (a := dwX l h c i) (b := y - lY l (h i)) (A := 320) (B := 460) (by omega) (by omega)
  have m2 := ab_mul (a := dwY l h c i) (b := x - lX l (h i)) (A := 320) (B := 460) (by omega) (by omega)
  unfold vx
  omega
theorem q_turnS {z : tZ5} {l : List Spt} (hb : bdL l) (H : OU z l (hJ l) (hC l)) {i : Nat} (hi : i < hC l) {x y : Int} (hx : x.natAbs ≤ 300) (hy : y.natAbs ≤ 300) :
    q_X5_turn z (i : Int) x y = some (vx (dwX l (hJ l) (hC l) i) (dwY l (hJ l) (hC l) i) (x - lX l (hJ l i)) (y - lY l (hJ l i))) := q_oturnH hb H hi (by omega) (by omega)
def snN (l : List Spt) (x y : Int) (n : Nat) : Nat := cntU (fun i => decide (snS l x y i)) n
theorem snN_s (l : List Spt) (x y : Int) (n : Nat) : snN l x y (n + 1) = snN l x y n + if snS l x y n then 1 else 0 := cntU_s _ n
theorem snN_le (l : List Spt) (x y : Int) (n : Nat) : snN l x y n ≤ n := cntU_le _ n
def OneOf (c : Nat) (Q : Nat → Prop) (f : Nat → Int) (v : Int) : Prop := (∃ j, j < c ∧ v = f j ∧ Q j) ∨ (v = -1 ∧ ∀ j, j < c → ¬ Q j)
theorem one_only {c : Nat} {Q : Nat → Prop} {f : Nat → Int} {v w : Int} (h : ∀ i k, i < c → k < c → Q i → Q k → ¬ i < k) (a : OneOf c Q f v) (b : OneOf c Q f w) : v = w := by
  rcases a with ⟨i, hi, rfl, qi⟩ | ⟨rfl, na⟩
  · rcases b with ⟨k, hk, rfl, qk⟩ | ⟨rfl, nb⟩
    · have a1 := h i k hi hk qi qk
      have a2 := h k i hk hi qk qi
      rw [show i = k by omega]
    · exact absurd qi (nb i hi)
  · rcases b with ⟨k, hk, rfl, qk⟩ | ⟨rfl, nb⟩
    · exact absurd qk (na k hk)
    · rfl
def fromQ (l : List Spt) (x y : Int) (i : Nat) : Prop := snS l x y i ∧ ¬ snS l x y (pv (hC l) i)
def toQ (l : List Spt) (x y : Int) (i : Nat) : Prop := ¬ snS l x y i ∧ snS l x y (pv (hC l) i)
def cnP (l : List Spt) (i : Nat) : Int := lP l (hJ l i)
theorem pv_lt {c i : Nat} (h : i < c) : pv c i < c := by
  unfold pv
  split <;> omega
theorem q_before {z : tZ5} {c i : Nat} (hz : z.2.2.2 = (c : Int)) (h2 : c ≤ 82) (hi : i < c) : q_X5_before z (i : Int) = some (pv c i : Int) := by
  refine w_eq ?_
  unfold q_X5_before pv
  rw [hz]
  simp only [kwp_kg, kwp_kif, kwp_some]
  refine ⟨⟨by omega, by omega⟩, fun q => ?_, fun q => ?_⟩
  · rw [if_pos (by omega)]
    omega
  · rw [if_neg (by omega)]
    omega
theorem q_sidesSeen {z : tZ5} {l : List Spt} (hb : bdL l) (H : OU z l (hJ l) (hC l)) {x y : Int} (hx : x.natAbs ≤ 300) (hy : y.natAbs ≤ 300) : q_X5_sidesSeen z x y = some (snN l x y (hC l) : Int) := by
  refine w_eq ?_
  have hc := H.2.1
  have hl : ∀ i, i < hC l → hJ l i < l.length := fun i hi => (H.2.2 i hi).1
  unfold q_X5_sidesSeen
  refine w_kb (w_for (ex := 36) (by decide) (fun i (s : Int × Int) => s.2 = (i : Int) ∧ s.1 = (snN l x y i : Int)) (hC l) ?_ ?_ (Nat.zero_le _) (by have := kF_eq; omega) ⟨rfl, rfl⟩) ?_
  · rintro i ⟨t, s⟩ hi ⟨rfl, rfl⟩
    have sb := sn_bd hb hx hy hl hi
    have ss := snN_s l x y i
    have sl := snN_le l x y i
    unfold q_X5_sidesSeen_L5
    rw [H.1]
    simp only [kwp_kb, kwp_some, kwp_kg, kwp_kif, kwp_kl]
    refine ⟨⟨⟨by omega, by omega⟩, ⟨by omega, by omega⟩⟩, fun q => by omega, fun _ => w_of (q_turnS hb H hi hx hy) ⟨⟨by omega, by omega⟩, fun q => ⟨by trivial, by omega, ?_⟩, fun q => ⟨by trivial, by omega, ?_⟩⟩⟩
    · rw [if_neg (show ¬ snS l x y i from fun w => absurd q (by unfold snS at w; omega))] at ss
      omega
    · rw [if_pos (show snS l x y i by unfold snS; omega)] at ss
      omega
  · rintro ⟨t, s⟩ ⟨rfl, h⟩
    dsimp only at h
    unfold q_X5_sidesSeen_L5
    rw [H.1]
    simp only [kwp_kb, kwp_some, kwp_kg, kwp_kif, kwp_kl]
    exact ⟨⟨⟨by omega, by omega⟩, ⟨by omega, by omega⟩⟩, fun _ => ⟨by trivial, by trivial, h⟩, fun q => by omega⟩
  · rintro ⟨lb, t, s⟩ ⟨g0, _, g⟩
    dsimp only at *
    simp only [kwp_kg, kwp_some]
    exact ⟨g0, g⟩
theorem q_seenFrom {z : tZ5} {l : List Spt} (hb : bdL l) (H : OU z l (hJ l) (hC l)) {x y : Int} (hx : x.natAbs ≤ 300) (hy : y.natAbs ≤ 300) : kwp (q_X5_seenFrom z x y) (fun v => OneOf (hC l) (fromQ l x y) (cnP l) v) := by
  have hc := H.2.1
  have hl : ∀ i, i < hC l → hJ l i < l.length := fun i hi => (H.2.2 i hi).1
  unfold q_X5_seenFrom
  refine w_kb (w_loop (fun n s => ∃ i : Nat, n = hC l - i ∧ i ≤ hC l ∧ s = (i : Int) ∧ ∀ j, j < i → ¬ fromQ l x y j) (Q := fun e => (e.1 = 38 ∧ ∃ i : Nat, i < hC l ∧ e.2 = (i : Int) ∧ fromQ l x y i) ∨ (e.1 = 50 ∧ ∀ j, j < hC l → ¬ fromQ l x y j)) ?_ kF (hC l) 0 (by have := kF_eq; omega) ⟨0, rfl, by omega, rfl, fun j hj => absurd hj (Nat.not_lt_zero _)⟩) ?_
  · rintro n s ⟨i, rfl, hi, rfl, no⟩
    unfold q_X5_seenFrom_L2
    rw [H.1]
    simp only [kwp_kb, kwp_some, kwp_kg, kwp_kif, kwp_kl]
    refine ⟨⟨⟨by omega, by omega⟩, ⟨by omega, by omega⟩⟩, fun q => Or.inr ⟨by decide, Or.inr ⟨by trivial, fun j hj => no j (by omega)⟩⟩, fun q => ?_⟩
    have hi2 : i < hC l := by omega
    have sb := sn_bd hb hx hy hl hi2
    have sb2 := sn_bd hb hx hy hl (pv_lt hi2)
    refine w_of (q_turnS hb H hi2 hx hy) ⟨⟨by omega, by omega⟩, fun q1 => Or.inl ⟨by trivial, hC l - (i + 1), by omega, i + 1, rfl, by omega, by omega, fun j hj => ?_⟩, fun q1 => w_of (q_before H.1 (by omega) hi2) (w_of (q_turnS hb H (pv_lt hi2) hx hy) ⟨⟨by omega, by omega⟩, fun q2 => Or.inl ⟨by trivial, hC l - (i + 1), by omega, i + 1, rfl, by omega, by omega, fun j hj => ?_⟩, fun q2 => Or.inr ⟨by (try dsimp only); omega, Or.inl ⟨by trivial, i, hi2, by trivial, ?_, ?_⟩⟩⟩)⟩
    · by_cases e : j = i
      · subst e
        rintro ⟨w, _⟩
        unfold snS at w
        omega
      · exact no j (by omega)
    · by_cases e : j = i
      · subst e
        rintro ⟨_, w⟩
        exact w q2
      · exact no j (by omega)
    · unfold snS
      omega
    · exact q2
  · rintro ⟨lb, s⟩ h
    dsimp only at h
    simp only [kwp_kif, kwp_kb, kwp_some, kwp_kg]
    rcases h with ⟨rfl, i, hi, rfl, fq⟩ | ⟨rfl, no⟩
    · refine ⟨fun _ => w_of (q_on (by rw [H.1]; omega) (by rw [H.1]; omega)) (Or.inl ⟨i, hi, (H.2.2 i hi).2.2.2, fq⟩), fun q => (q (by trivial)).elim⟩
    · exact ⟨fun q => absurd q (by decide), fun _ => ⟨by trivial, Or.inr ⟨rfl, no⟩⟩⟩
theorem q_seenTo {z : tZ5} {l : List Spt} (hb : bdL l) (H : OU z l (hJ l) (hC l)) {x y : Int} (hx : x.natAbs ≤ 300) (hy : y.natAbs ≤ 300) : kwp (q_X5_seenTo z x y) (fun v => OneOf (hC l) (toQ l x y) (cnP l) v) := by
  have hc := H.2.1
  have hl : ∀ i, i < hC l → hJ l i < l.length := fun i hi => (H.2.2 i hi).1
  unfold q_X5_seenTo
  refine w_kb (w_loop (fun n s => ∃ i : Nat, n = hC l - i ∧ i ≤ hC l ∧ s = (i : Int) ∧ ∀ j, j < i → ¬ toQ l x y j) (Q := fun e => (e.1 = 38 ∧ ∃ i : Nat, i < hC l ∧ e.2 = (i : Int) ∧ toQ l x y i) ∨ (e.1 = 50 ∧ ∀ j, j < hC l → ¬ toQ l x y j)) ?_ kF (hC l) 0 (by have := kF_eq; omega) ⟨0, rfl, by omega, rfl, fun j hj => absurd hj (Nat.not_lt_zero _)⟩) ?_
  · rintro n s ⟨i, rfl, hi, rfl, no⟩
    unfold q_X5_seenTo_L2
    rw [H.1]
    simp only [kwp_kb, kwp_some, kwp_kg, kwp_kif, kwp_kl]
    refine ⟨⟨⟨by omega, by omega⟩, ⟨by omega, by omega⟩⟩, fun q => Or.inr ⟨by decide, Or.inr ⟨by trivial, fun j hj => no j (by omega)⟩⟩, fun q => ?_⟩
    have hi2 : i < hC l := by omega
    have sb := sn_bd hb hx hy hl hi2
    have sb2 := sn_bd hb hx hy hl (pv_lt hi2)
    refine w_of (q_turnS hb H hi2 hx hy) ⟨⟨by omega, by omega⟩, fun q1 => Or.inl ⟨by trivial, hC l - (i + 1), by omega, i + 1, rfl, by omega, by omega, fun j hj => ?_⟩, fun q1 => w_of (q_before H.1 (by omega) hi2) (w_of (q_turnS hb H (pv_lt hi2) hx hy) ⟨⟨by omega, by omega⟩, fun q2 => Or.inl ⟨by trivial, hC l - (i + 1), by omega, i + 1, rfl, by omega, by omega, fun j hj => ?_⟩, fun q2 => Or.inr ⟨by (try dsimp only); omega, Or.inl ⟨by trivial, i, hi2, by trivial, ?_, ?_⟩⟩⟩)⟩
    · by_cases e : j = i
      · subst e
        rintro ⟨w, _⟩
        exact w q1
      · exact no j (by omega)
    · by_cases e : j = i
      · subst e
        rintro ⟨_, w⟩
        unfold snS at w
        omega
      · exact no j (by omega)
    · exact q1
    · unfold snS
      omega
  · rintro ⟨lb, s⟩ h
    dsimp only at h
    simp only [kwp_kif, kwp_kb, kwp_some, kwp_kg]
    rcases h with ⟨rfl, i, hi, rfl, fq⟩ | ⟨rfl, no⟩
    · refine ⟨fun _ => w_of (q_on (by rw [H.1]; omega) (by rw [H.1]; omega)) (Or.inl ⟨i, hi, (H.2.2 i hi).2.2.2, fq⟩), fun q => (q (by trivial)).elim⟩
    · exact ⟨fun q => absurd q (by decide), fun _ => ⟨by trivial, Or.inr ⟨rfl, no⟩⟩⟩
