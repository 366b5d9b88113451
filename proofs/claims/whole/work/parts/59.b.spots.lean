/-! ===== SPOTS: the model's ===== -/
/-- a query touches these alone: fields 15 .. 50 but the DEEDS and the tape; rows 12 and on, but what is written -/
def FQ (m m' : tZ12) : Prop := (∀ j, j < 15 → m'.1 j = m.1 j) ∧ m'.1 55 = m.1 55 ∧ (∀ j, j < 12 → m'.2.2.1 j = m.2.2.1 j) ∧ m'.2.2.1 54 = m.2.2.1 54
theorem FQ_rfl (m : tZ12) : FQ m m := ⟨fun _ _ => rfl, rfl, fun _ _ => rfl, rfl⟩
theorem FQ_trans {a b c : tZ12} (h : FQ a b) (g : FQ b c) : FQ a c := ⟨fun j hj => (g.1 j hj).trans (h.1 j hj), g.2.1.trans h.2.1, fun j hj => (g.2.2.1 j hj).trans (h.2.2.1 j hj), g.2.2.2.trans h.2.2.2⟩
theorem FQ_frm {m m' : tZ12} (h : FQ m m') : FRM m m' := ⟨h.2.2.1 0 (by decide), h.2.2.1 1 (by decide), h.2.2.1 3 (by decide), h.2.2.2, h.1 2 (by decide), h.1 4 (by decide), h.1 6 (by decide), h.2.1⟩
theorem HR_fq {r : Nat → Int} {m m' : tZ12} (h : FQ m m') (H : HR r (m.2.2.1 0)) : HR r (m'.2.2.1 0) := by rw [h.2.2.1 0 (by decide)]; exact H
theorem qm_add {m : tZ12} {l : List Spt} (H : SPm m l) (hs : sorL l) (hb : bdL l) (hl : l.length < 41) {x y p : Int} (hx : k32 x) (hy : k32 y) : kwp (q_X12_addSpot m x y p) (fun m' => SPm m' (insL x y p l) ∧ FQ m m' ∧ m'.2.1 = m.2.1 ∧ (∀ j, j ≠ 15 → m'.1 j = m.1 j) ∧ m'.2.2.2 = m.2.2.2 ∧ ∀ j, j ≠ 12 → j ≠ 13 → j ≠ 14 → m'.2.2.1 j = m.2.2.1 j) := by
  obtain ⟨h1, h2, h3⟩ := H
  obtain ⟨at', a1, a2, a3, a4⟩ := ins_spec x y p hs
  have kk : ∀ i, i < l.length → k32 (m.2.2.1 12 i) ∧ k32 (m.2.2.1 13 i) := fun i hi => by
    have := bd_g8 hb hi
    rw [(h3 i hi).1, (h3 i hi).2.1]
    exact ⟨⟨by omega, by omega⟩, ⟨by omega, by omega⟩⟩
  have k83 : (insL x y p l).length = l.length + 1 → (∀ i, i < at' → g8 (insL x y p l) i = g8 l i) → g8 (insL x y p l) at' = (x, y, p) → (∀ i, at' ≤ i → i < l.length → g8 (insL x y p l) (i + 1) = g8 l i) →
      kwp (q_X12_addSpot_J83 x y p m (at' : Int)) (fun m' => SPm m' (insL x y p l) ∧ FQ m m' ∧ m'.2.1 = m.2.1 ∧ (∀ j, j ≠ 15 → m'.1 j = m.1 j) ∧ m'.2.2.2 = m.2.2.2 ∧ ∀ j, j ≠ 12 → j ≠ 13 → j ≠ 14 → m'.2.2.1 j = m.2.2.1 j) := by
    intro q2 q3 q4 q5
    unfold q_X12_addSpot_J83
    simp only [kwp_kl]
    refine w_kb (P := fun e => e.1 = 150 ∧ e.2.2.1 = m.1 ∧ e.2.2.2.1 = m.2.1 ∧ e.2.2.2.2.2 = m.2.2.2 ∧ e.2.2.2.2.1 12 = shf (m.2.2.1 12) at' l.length ∧ e.2.2.2.2.1 13 = shf (m.2.2.1 13) at' l.length ∧ e.2.2.2.2.1 14 = shf (m.2.2.1 14) at' l.length ∧ ∀ j, j ≠ 12 → j ≠ 13 → j ≠ 14 → e.2.2.2.2.1 j = m.2.2.1 j) ?_ ?_
    · refine w_loop (fun k s => ∃ i, at' ≤ i ∧ i ≤ l.length ∧ k = i - at' ∧ s.1 = (i : Int) ∧ s.2.1 = m.1 ∧ s.2.2.1 = m.2.1 ∧ s.2.2.2.2 = m.2.2.2 ∧ s.2.2.2.1 12 = shf (m.2.2.1 12) i l.length ∧ s.2.2.2.1 13 = shf (m.2.2.1 13) i l.length ∧ s.2.2.2.1 14 = shf (m.2.2.1 14) i l.length ∧ ∀ j, j ≠ 12 → j ≠ 13 → j ≠ 14 → s.2.2.2.1 j = m.2.2.1 j) ?_ kF (l.length - at') _ (Nat.lt_of_le_of_lt (Nat.sub_le _ _) (Nat.lt_of_le_of_lt h2 (by decide))) ?_
      · rintro k ⟨c, s⟩ ⟨i, i1, i2, rfl, rfl, s1, s2, s3, s4, s5, s6, s7⟩
        dsimp only at s1 s2 s3 s4 s5 s6 s7
        unfold q_X12_addSpot_L89
        simp only [kwp_kg, kwp_kif, kwp_some, kwp_kl, kwp_kb]
        refine ⟨⟨⟨by omega, by omega⟩, ⟨by omega, by omega⟩⟩, fun q => Or.inr ⟨by decide, by trivial, s1, s2, s3, ?_⟩, fun q => ?_⟩
        · have : i = at' := by omega
          rw [← this]
          exact ⟨s4, s5, s6, s7⟩
        · obtain ⟨j, rfl⟩ : ∃ j, i = j + 1 := ⟨i - 1, by omega⟩
          rw [show (((j + 1 : Nat) : Int) - 1).toNat = j by omega, Int.toNat_natCast]
          refine ⟨⟨by omega, by omega⟩, ⟨by omega, by omega⟩, Or.inl ⟨by trivial, j - at', by omega, j, by omega, by omega, rfl, by omega, s1, s2, s3, ?_, ?_, ?_, fun t t1 t2 t3 => ?_⟩⟩
          · rw [va_ne _ _ (by decide), va_ne _ _ (by decide), va_same, s4, shf_step _ i2]
          · rw [va_ne _ _ (by decide), va_same, va_ne _ _ (by decide), s5, shf_step _ i2]
          · rw [va_same, va_ne _ _ (by decide), va_ne _ _ (by decide), s6, shf_step _ i2]
          · rw [va_ne _ _ t3, va_ne _ _ t2, va_ne _ _ t1]
            exact s7 t t1 t2 t3
      · exact ⟨l.length, a1, Nat.le_refl _, rfl, h1, rfl, rfl, rfl, by rw [shf_top], by rw [shf_top], by rw [shf_top], fun _ _ _ _ => rfl⟩
    · rintro ⟨lb, c, s⟩ ⟨h0, s1, s2, s3, s4, s5, s6, s7⟩
      dsimp only at h0 s1 s2 s3 s4 s5 s6 s7
      simp only [kwp_kg, kwp_some, kwp_kl, Int.toNat_natCast]
      refine ⟨h0, ⟨by omega, by omega⟩, ⟨?_, by omega, fun i hi => ⟨?_, ?_, ?_⟩⟩, ⟨fun j hj => ?_, ?_, fun j hj => ?_, ?_⟩, s2, fun j hj => ?_, s3, fun j j1 j2 j3 => ?_⟩
      · try dsimp only
        rw [va_same, s1, h1, q2]
        rfl
      · try dsimp only
        simp (disch := decide) only [va_same, va_ne]
        rw [s4]
        exact put_rep (c := fun a => a.1) a1 q2 (fun i hi => (h3 i hi).1) q3 q4 q5 i hi
      · try dsimp only
        simp (disch := decide) only [va_same, va_ne]
        rw [s5]
        exact put_rep (c := fun a => a.2.1) a1 q2 (fun i hi => (h3 i hi).2.1) q3 q4 q5 i hi
      · try dsimp only
        simp (disch := decide) only [va_same, va_ne]
        rw [s6]
        exact put_rep (c := fun a => a.2.2) a1 q2 (fun i hi => (h3 i hi).2.2) q3 q4 q5 i hi
      · try dsimp only
        rw [va_ne _ _ (by omega), s1]
      · try dsimp only
        rw [va_ne _ _ (by decide), s1]
      · try dsimp only
        rw [va_ne _ _ (by omega), va_ne _ _ (by omega), va_ne _ _ (by omega)]
        exact s7 j (by omega) (by omega) (by omega)
      · try dsimp only
        rw [va_ne _ _ (by decide), va_ne _ _ (by decide), va_ne _ _ (by decide)]
        exact s7 54 (by decide) (by decide) (by decide)
      · try dsimp only
        rw [va_ne _ _ hj, s1]
      · try dsimp only
        rw [va_ne _ _ j3, va_ne _ _ j2, va_ne _ _ j1]
        exact s7 j j1 j2 j3
  unfold q_X12_addSpot
  refine w_kb (P := fun e => e.1 = 51 ∧ e.2 = (at' : Int)) ?_ ?_
  · refine w_loop (fun k s => ∃ i : Nat, i ≤ at' ∧ k = at' - i ∧ s = (i : Int)) ?_ kF at' _ (Nat.lt_of_le_of_lt a1 (Nat.lt_of_le_of_lt h2 (by decide))) ⟨0, Nat.zero_le _, rfl, rfl⟩
    rintro k s ⟨i, i1, rfl, rfl⟩
    unfold q_X12_addSpot_L3
    simp only [kwp_kg, kwp_kif, kwp_some, kwp_kl, Int.toNat_natCast]
    rw [h1]
    refine ⟨⟨⟨by omega, by omega⟩, ⟨by omega, by omega⟩⟩, fun q => Or.inr ⟨by decide, by trivial, by omega⟩, fun q => ⟨⟨by omega, by omega⟩, ?_⟩⟩
    have hi : i < l.length := by omega
    obtain ⟨c1, c2, _⟩ := h3 i hi
    have kj := kk i hi
    have lts : i < at' → ltS (g8 l i) x y := a2 i
    have ge : i = at' → gtS (g8 l i) x y ∨ eqS (g8 l i) x y := fun w => by
      rcases a3 i (by omega) hi with h | h
      · exact Or.inl h
      · exact Or.inr h.2
    rw [c1, c2] at *
    unfold ltS gtS eqS at *
    refine ⟨⟨kj.1, hx⟩, fun q1 => Or.inl ⟨by trivial, at' - (i + 1), by omega, i + 1, by omega, rfl, by omega⟩, fun q1 => ⟨fun q2 => ⟨⟨hy, kj.2⟩, fun q3 => Or.inr ⟨by decide, by trivial, by omega⟩, fun q3 => Or.inl ⟨by trivial, at' - (i + 1), by omega, i + 1, by omega, rfl, by omega⟩⟩, fun q2 => Or.inr ⟨by decide, by trivial, by omega⟩⟩⟩
  · rintro ⟨lb, c⟩ ⟨h0, rfl⟩
    dsimp only at h0
    simp only [kwp_kg]
    refine ⟨h0, ?_⟩
    unfold q_X12_addSpot_J51
    simp only [kwp_kg, kwp_kif, kwp_some, Int.toNat_natCast]
    rw [h1]
    refine ⟨⟨⟨by omega, by omega⟩, ⟨by omega, by omega⟩⟩, fun q => ?_, fun q => ⟨⟨by omega, by omega⟩, ?_⟩⟩
    · rcases a4 with ⟨q1, q2, q3⟩ | ⟨q1, q2, q3, q4, q5⟩
      · omega
      · exact k83 q2 q3 q4 q5
    · have hi : at' < l.length := by omega
      obtain ⟨c1, c2, _⟩ := h3 at' hi
      have kj := kk at' hi
      have other : ¬ eqS (g8 l at') x y → kwp (q_X12_addSpot_J83 x y p m (at' : Int)) (fun m' => SPm m' (insL x y p l) ∧ FQ m m' ∧ m'.2.1 = m.2.1 ∧ (∀ j, j ≠ 15 → m'.1 j = m.1 j) ∧ m'.2.2.2 = m.2.2.2 ∧ ∀ j, j ≠ 12 → j ≠ 13 → j ≠ 14 → m'.2.2.1 j = m.2.2.1 j) := fun w => by
        rcases a4 with ⟨q1, q2, q3⟩ | ⟨q1, q2, q3, q4, q5⟩
        · exact absurd q2 w
        · exact k83 q2 q3 q4 q5
      rw [c1, c2] at *
      refine ⟨⟨kj.1, hx⟩, fun q1 => ⟨⟨kj.2, hy⟩, fun q2 => ?_, fun q2 => other (fun w => q2 w.2)⟩, fun q1 => other (fun w => q1 w.1)⟩
      rcases a4 with ⟨q3, q4, q5⟩ | ⟨q3, _⟩
      · rw [q5]
        exact ⟨⟨h1, h2, h3⟩, FQ_rfl m, (by first | exact trivial | rfl), fun _ _ => (by first | exact trivial | rfl), (by first | exact trivial | rfl), fun _ _ _ _ => (by first | exact trivial | rfl)⟩
      · exact absurd ⟨q1, q2⟩ (q3 hi)
/-- the SPOTS of POINTS that f tells -/
noncomputable def gth (f : Nat → Option (Int × Int)) : Nat → List Spt
  | 0 => []
  | k + 1 => match f k with
    | none => gth f k
    | some v => insL v.1 v.2 (k : Int) (gth f k)
theorem ins_len (x y p : Int) : ∀ l : List Spt, (insL x y p l).length ≤ l.length + 1 := by
  intro l
  induction l with
  | nil => unfold insL; exact Nat.le_refl _
  | cons a l ih =>
    unfold insL
    split
    · simp only [List.length_cons]; omega
    · split
      · simp only [List.length_cons]; omega
      · simp only [List.length_cons]; omega
theorem gth_ok {f : Nat → Option (Int × Int)} (hf : ∀ k v, f k = some v → -160 ≤ v.1 ∧ v.1 ≤ 160 ∧ -160 ≤ v.2 ∧ v.2 ≤ 160) : ∀ k, k ≤ 40 → (gth f k).length ≤ k ∧ sorL (gth f k) ∧ bdL (gth f k) := by
  intro k
  induction k with
  | zero => intro _; exact ⟨Nat.le_refl _, trivial, fun a h => absurd h (List.not_mem_nil)⟩
  | succ k ih =>
    intro hk
    obtain ⟨h1, h2, h3⟩ := ih (by omega)
    unfold gth
    cases e : f k with
    | none => exact ⟨by dsimp only; omega, h2, h3⟩
    | some v =>
      have := hf k v e
      have hl := ins_len v.1 v.2 (k : Int) (gth f k)
      refine ⟨by dsimp only; omega, ins_sor h2, fun a ha => ?_⟩
      rcases ins_mem ha with h | h
      · rw [h]
        dsimp only
        omega
      · exact h3 a h
