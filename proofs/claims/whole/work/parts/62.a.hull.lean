/-! ===== the outline: the chain of the class ===== -/
def popF (l : List Spt) (k : Nat) (f : Nat → Nat) : Nat → Nat
  | 0 => 0
  | 1 => 1
  | t + 2 => if 0 < tn (lX l) (lY l) (f t) (f (t + 1)) k then t + 2 else popF l k f (t + 1)
theorem popF_le (l : List Spt) (k : Nat) (f : Nat → Nat) : ∀ t, popF l k f t ≤ t := by
  intro t
  induction t with
  | zero => exact Nat.le_refl _
  | succ t ih =>
    cases t with
    | zero => exact Nat.le_refl _
    | succ t => unfold popF; split <;> omega
theorem popF_pos (l : List Spt) (k : Nat) (f : Nat → Nat) : ∀ t, 1 ≤ t → 1 ≤ popF l k f t := by
  intro t
  induction t with
  | zero => intro h; omega
  | succ t ih =>
    intro _
    cases t with
    | zero => exact Nat.le_refl _
    | succ t =>
      unfold popF
      split
      · omega
      · exact ih (by omega)
def stpF (l : List Spt) (s : (Nat → Nat) × Nat) (k : Nat) : (Nat → Nat) × Nat := (va_up s.1 (popF l k s.1 s.2) k, popF l k s.1 s.2 + 1)
def RC (z : tZ5) (l : List Spt) (b : Nat) (s : (Nat → Nat) × Nat) : Prop := z.2.2.2 = ((b + s.2 : Nat) : Int) ∧ ∀ i, i < s.2 → z.1 (b + i) = lX l (s.1 i) ∧ z.2.1 (b + i) = lY l (s.1 i) ∧ z.2.2.1 (b + i) = lP l (s.1 i)
def SAM (z z' : tZ5) (b : Nat) : Prop := ∀ i, i < b → z'.1 i = z.1 i ∧ z'.2.1 i = z.2.1 i ∧ z'.2.2.1 i = z.2.2.1 i
def okJ (l : List Spt) (s : (Nat → Nat) × Nat) : Prop := ∀ i, i < s.2 → s.1 i < l.length
theorem okJ_stp {l : List Spt} {s : (Nat → Nat) × Nat} {k : Nat} (h : okJ l s) (hk : k < l.length) : okJ l (stpF l s k) := by
  intro i hi
  have := popF_le l k s.1 s.2
  unfold stpF at hi ⊢
  dsimp only at hi ⊢
  by_cases e : i = popF l k s.1 s.2
  · rw [e, va_same]
    exact hk
  · rw [va_ne _ _ e]
    exact h i (by omega)
theorem q_ox {z : tZ5} {i : Nat} (h : (i : Int) < z.2.2.2) (h2 : z.2.2.2 ≤ 82) : q_X5_x z (i : Int) = some (z.1 i) := by
  refine w_eq ?_
  unfold q_X5_x
  simp only [kwp_kg, kwp_kif, kwp_some]
  exact ⟨⟨by omega, by omega⟩, fun q => by omega, fun _ => ⟨⟨by omega, by omega⟩, fun q => by omega, fun _ => ⟨⟨by omega, by omega⟩, by rw [Int.toNat_natCast]⟩⟩⟩
theorem q_oy {z : tZ5} {i : Nat} (h : (i : Int) < z.2.2.2) (h2 : z.2.2.2 ≤ 82) : q_X5_y z (i : Int) = some (z.2.1 i) := by
  refine w_eq ?_
  unfold q_X5_y
  simp only [kwp_kg, kwp_kif, kwp_some]
  exact ⟨⟨by omega, by omega⟩, fun q => by omega, fun _ => ⟨⟨by omega, by omega⟩, fun q => by omega, fun _ => ⟨⟨by omega, by omega⟩, by rw [Int.toNat_natCast]⟩⟩⟩
theorem q_on {z : tZ5} {i : Nat} (h : (i : Int) < z.2.2.2) (h2 : z.2.2.2 ≤ 82) : q_X5_number z (i : Int) = some (z.2.2.1 i) := by
  refine w_eq ?_
  unfold q_X5_number
  simp only [kwp_kg, kwp_kif, kwp_some]
  exact ⟨⟨by omega, by omega⟩, fun q => by omega, fun _ => ⟨⟨by omega, by omega⟩, fun q => by omega, fun _ => ⟨⟨by omega, by omega⟩, by rw [Int.toNat_natCast]⟩⟩⟩
/-- the place after i -/
def nx (c i : Nat) : Nat := if c ≤ i + 1 then 0 else i + 1
theorem q_oafter {z : tZ5} {c i : Nat} (hz : z.2.2.2 = (c : Int)) (h2 : c ≤ 82) (hi : i < c) : q_X5_after z (i : Int) = some (nx c i : Int) := by
  refine w_eq ?_
  unfold q_X5_after nx
  rw [hz]
  simp only [kwp_kg, kwp_kif, kwp_some]
  refine ⟨⟨⟨by omega, by omega⟩, ⟨by omega, by omega⟩⟩, fun q => ?_, fun q => ?_⟩
  · rw [if_pos (by omega)]
    rfl
  · rw [if_neg (by omega)]
    omega
theorem q_oside {z : tZ5} {c i : Nat} (hz : z.2.2.2 = (c : Int)) (h2 : c ≤ 82) (hi : i < c) (hb : ∀ j, j < c → (z.1 j).natAbs ≤ 400 ∧ (z.2.1 j).natAbs ≤ 400) :
    q_X5_sideX z (i : Int) = some (z.1 (nx c i) - z.1 i) ∧ q_X5_sideY z (i : Int) = some (z.2.1 (nx c i) - z.2.1 i) := by
  have hn : nx c i < c := by unfold nx; split <;> omega
  have b1 := hb _ hi
  have b2 := hb _ hn
  constructor
  · refine w_eq ?_
    unfold q_X5_sideX
    simp only [kwp_kb, kwp_some, kwp_kg]
    rw [q_oafter hz h2 hi, kwp_some, q_ox (by rw [hz]; omega) (by rw [hz]; omega), kwp_some, q_ox (by rw [hz]; omega) (by rw [hz]; omega), kwp_some]
    exact ⟨⟨by omega, by omega⟩, by trivial⟩
  · refine w_eq ?_
    unfold q_X5_sideY
    simp only [kwp_kb, kwp_some, kwp_kg]
    rw [q_oafter hz h2 hi, kwp_some, q_oy (by rw [hz]; omega) (by rw [hz]; omega), kwp_some, q_oy (by rw [hz]; omega) (by rw [hz]; omega), kwp_some]
    exact ⟨⟨by omega, by omega⟩, by trivial⟩
theorem q_oturn {z : tZ5} {c i : Nat} {x y : Int} (hz : z.2.2.2 = (c : Int)) (h2 : c ≤ 82) (hi : i < c) (hb : ∀ j, j < c → (z.1 j).natAbs ≤ 400 ∧ (z.2.1 j).natAbs ≤ 400) (hx : x.natAbs ≤ 400) (hy : y.natAbs ≤ 400) :
    q_X5_turn z (i : Int) x y = some ((z.1 (nx c i) - z.1 i) * (y - z.2.1 i) - (z.2.1 (nx c i) - z.2.1 i) * (x - z.1 i)) := by
  have b1 := hb _ hi
  have sd := q_oside hz h2 hi hb
  refine w_eq ?_
  unfold q_X5_turn
  simp only [kwp_kb, kwp_some, kwp_kg]
  rw [sd.1, kwp_some, q_oy (by rw [hz]; omega) (by rw [hz]; omega), kwp_some, sd.2, kwp_some, q_ox (by rw [hz]; omega) (by rw [hz]; omega), kwp_some]
  exact ⟨⟨⟨by omega, by omega⟩, ⟨by omega, by omega⟩⟩, by trivial⟩
theorem tn_k {l : List Spt} (hb : bdL l) {i j k : Nat} (hi : i < l.length) (hj : j < l.length) (hk : k < l.length) : k32 (tn (lX l) (lY l) i j k) := by
  have b1 := bX hb hi
  have b2 := bX hb hj
  have b3 := bX hb hk
  unfold tn
  exact (d_bd (by omega) (by omega) (by omega) (by omega)).1
theorem q_lay {z : tZ5} {z8 : tZ8} {l : List Spt} (H8 : SPc z8 l) (hb : bdL l) {b : Nat} {s : (Nat → Nat) × Nat} (H : RC z l b s) (hpre : ∀ i, i < b → (z.1 i).natAbs ≤ 400 ∧ (z.2.1 i).natAbs ≤ 400) (ok : okJ l s) {k : Nat} (hk : k < l.length) (hbs : b + s.2 < 82) :
    kwp (q_X5_lay z z8 (k : Int) (b : Int)) (fun z' => RC z' l b (stpF l s k) ∧ SAM z z' b) := by
  have bk := bX hb hk
  have zb : ∀ j, j < b + s.2 → (z.1 j).natAbs ≤ 400 ∧ (z.2.1 j).natAbs ≤ 400 := fun j hj => by
    by_cases e : j < b
    · exact hpre j e
    · obtain ⟨u, rfl⟩ : ∃ u, j = b + u := ⟨j - b, by omega⟩
      have r := H.2 u (by omega)
      have := bX hb (ok u (by omega))
      rw [r.1, r.2.1]
      omega
  have pl := popF_le l k s.1 s.2
  unfold q_X5_lay
  refine w_kb (w_loop (fun n z' => n ≤ s.2 ∧ z' = (z.1, z.2.1, z.2.2.1, ((b + n : Nat) : Int)) ∧ popF l k s.1 n = popF l k s.1 s.2) (Q := fun e => e.1 = 56 ∧ e.2 = (z.1, z.2.1, z.2.2.1, ((b + popF l k s.1 s.2 : Nat) : Int))) ?_ kF s.2 z (by have := kF_eq; omega) ⟨Nat.le_refl _, by rw [← H.1], rfl⟩) ?_
  · rintro n z' ⟨hn, rfl, hp⟩
    unfold q_X5_lay_L0
    simp only [kwp_kb, kwp_some, kwp_kg, kwp_kif, kwp_kl]
    refine ⟨⟨⟨by omega, by omega⟩, ⟨by omega, by omega⟩⟩, fun q => Or.inr ⟨by decide, by trivial, ?_⟩, fun q => ⟨fun q1 => by omega, fun _ => ?_⟩⟩
    · have : popF l k s.1 n = n := by
        obtain rfl | rfl : n = 0 ∨ n = 1 := by omega
        · rfl
        · rfl
      rw [← hp, this]
    · obtain ⟨t, rfl⟩ : ∃ t, n = t + 2 := ⟨n - 2, by omega⟩
      rw [q_sx H8 hk, kwp_some, q_sy H8 hk, kwp_some, show ((b + (t + 2) : Nat) : Int) - 2 = ((b + t : Nat) : Int) by omega]
      rw [q_oturn (z := (z.1, z.2.1, z.2.2.1, ((b + (t + 2) : Nat) : Int))) (c := b + (t + 2)) (i := b + t) (x := lX l k) (y := lY l k) rfl (by omega) (by omega) (fun j hj => zb j (by omega)) (by omega) (by omega), kwp_some]
      have e1 : nx (b + (t + 2)) (b + t) = b + (t + 1) := by unfold nx; rw [if_neg (by omega)]; omega
      have r1 := H.2 t (by omega)
      have r2 := H.2 (t + 1) (by omega)
      dsimp only
      rw [e1, r1.1, r1.2.1, r2.1, r2.2.1]
      have et : (lX l (s.1 (t + 1)) - lX l (s.1 t)) * (lY l k - lY l (s.1 t)) - (lY l (s.1 (t + 1)) - lY l (s.1 t)) * (lX l k - lX l (s.1 t)) = tn (lX l) (lY l) (s.1 t) (s.1 (t + 1)) k := by unfold tn; rfl
      rw [et]
      have kt := tn_k hb (ok t (by omega)) (ok (t + 1) (by omega)) hk
      have ep : popF l k s.1 (t + 2) = if 0 < tn (lX l) (lY l) (s.1 t) (s.1 (t + 1)) k then t + 2 else popF l k s.1 (t + 1) := rfl
      refine ⟨k64_of kt, fun q2 => Or.inr ⟨by decide, by trivial, ?_⟩, fun q2 => Or.inl ⟨by trivial, t + 1, by omega, by omega, ?_, ?_⟩⟩
      · rw [← hp, ep, if_pos q2]
      · rw [show ((b + (t + 2) : Nat) : Int) - 1 = ((b + (t + 1) : Nat) : Int) by omega]
      · rw [← hp, ep, if_neg q2]
  · rintro ⟨lb, z'⟩ ⟨h0, h⟩
    dsimp only at h0 h
    subst h
    simp only [kwp_kg]
    refine ⟨h0, ?_⟩
    generalize hq : popF l k s.1 s.2 = t at *
    unfold q_X5_lay_J56
    simp only [kwp_kb, kwp_some, kwp_kg, kwp_kif, kwp_kl]
    rw [q_sx H8 hk, kwp_some, q_sy H8 hk, kwp_some, q_sn H8 hk, kwp_some, Int.toNat_natCast]
    have g : 0 ≤ ((b + t : Nat) : Int) ∧ ((b + t : Nat) : Int) < 82 := ⟨by omega, by omega⟩
    refine ⟨⟨by omega, by omega⟩, fun q => by omega, fun _ => ⟨fun _ => ⟨g, g, g, ⟨?_, ?_⟩, ?_⟩, fun q => by omega⟩⟩
    · unfold stpF
      rw [hq]
      show ((b + t : Nat) : Int) + 1 = ((b + (t + 1) : Nat) : Int)
      omega
    · intro i hi
      unfold stpF at hi ⊢
      rw [hq] at hi ⊢
      dsimp only at hi ⊢
      by_cases e : i = t
      · subst e
        rw [va_same, va_same, va_same, va_same]
        exact ⟨rfl, rfl, rfl⟩
      · rw [va_ne _ _ (show b + i ≠ b + t by omega), va_ne _ _ (show b + i ≠ b + t by omega), va_ne _ _ (show b + i ≠ b + t by omega), va_ne _ _ e]
        exact H.2 i (by omega)
    · intro i hi
      dsimp only
      rw [va_ne _ _ (show i ≠ b + t by omega), va_ne _ _ (show i ≠ b + t by omega), va_ne _ _ (show i ≠ b + t by omega)]
      exact ⟨rfl, rfl, rfl⟩
