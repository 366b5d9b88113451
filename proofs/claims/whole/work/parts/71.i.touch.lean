/-! ===== meets: the class ===== -/
abbrev hX (l : List Spt) (h : Nat → Nat) : Nat → Int := fun i => lX l (h i)
abbrev hY (l : List Spt) (h : Nat → Nat) : Nat → Int := fun i => lY l (h i)
theorem AP_sym {X Y X' Y' : Nat → Int} {c c' : Nat} {u v : Int} : AP X Y c X' Y' c' u v ↔ AP X' Y' c' X Y c u v := ⟨Or.symm, Or.symm⟩
theorem aL_bd {l : List Spt} (hb : bdL l) {h : Nat → Nat} {c : Nat} (hl : ∀ i, i < c → h i < l.length) (h0 : 0 < c) {u v : Int} (hu : u.natAbs ≤ 1000) (hv : v.natAbs ≤ 1000) : k64 (mxF (aL (hX l h) (hY l h) u v) (c - 1)) ∧ k64 (mnF (aL (hX l h) (hY l h) u v) (c - 1)) := by
  have b := mxF_bd (f := alF l h u v) (B := 320000) (c - 1) (fun i hi => alF_bd hb hu hv (hl i (by omega)))
  have e : aL (hX l h) (hY l h) u v = alF l h u v := rfl
  rw [e]
  exact ⟨⟨by omega, by omega⟩, ⟨by omega, by omega⟩⟩
theorem q_isApart {z z' : tZ5} {l l' : List Spt} {h h' : Nat → Nat} {c c' : Nat} (hb : bdL l) (hb' : bdL l') (H : OU z l h c) (H' : OU z' l' h' c') (h0 : 0 < c) (h0' : 0 < c') {u v : Int} (hu : u.natAbs ≤ 1000) (hv : v.natAbs ≤ 1000) :
    kwp (q_X5_isApart z z' u v) (fun b => b = true ↔ AP (hX l h) (hY l h) c (hX l' h') (hY l' h') c' u v) := by
  have k := aL_bd hb (fun i hi => (H.2.2 i hi).1) h0 hu hv
  have k' := aL_bd hb' (fun i hi => (H'.2.2 i hi).1) h0' hu hv
  unfold q_X5_isApart
  simp only [kwp_kb, kwp_kg, kwp_kif, kwp_some]
  refine w_of (q_most hb H h0 hu hv) (w_of (q_least hb' H' h0' hu hv) ⟨⟨k.1, k'.2⟩, fun lt => ⟨fun _ => Or.inl lt, fun _ => (by first | exact trivial | rfl)⟩, fun nlt => w_of (q_most hb' H' h0' hu hv) (w_of (q_least hb H h0 hu hv) ⟨⟨k'.1, k.2⟩, fun le => ⟨fun q => (Bool.noConfusion q : False).elim, fun q => ?_⟩, fun gt => ⟨fun _ => Or.inr (Int.not_le.1 gt), fun _ => (by first | exact trivial | rfl)⟩⟩)⟩)
  rcases q with q | q
  · exact absurd q nlt
  · exact absurd q (Int.not_lt.2 le)
theorem q_apartSides {z z' : tZ5} {l l' : List Spt} {h h' : Nat → Nat} {c c' : Nat} (hb : bdL l) (hb' : bdL l') (H : OU z l h c) (H' : OU z' l' h' c') (h0 : 0 < c) (h0' : 0 < c') :
    kwp (q_X5_isApartBySides z z') (fun b => b = true ↔ ∃ i, i < c ∧ (AP (hX l h) (hY l h) c (hX l' h') (hY l' h') c' (dX (hX l h) c i) (dX (hY l h) c i) ∨ AP (hX l h) (hY l h) c (hX l' h') (hY l' h') c' (-dX (hY l h) c i) (dX (hX l h) c i))) := by
  have hc := H.2.1
  unfold q_X5_isApartBySides
  refine w_kb (w_loop (fun n s => ∃ i : Nat, n = c - i ∧ i ≤ c ∧ s = (i : Int) ∧ ∀ j, j < i → ¬ (AP (hX l h) (hY l h) c (hX l' h') (hY l' h') c' (dX (hX l h) c j) (dX (hY l h) c j) ∨ AP (hX l h) (hY l h) c (hX l' h') (hY l' h') c' (-dX (hY l h) c j) (dX (hX l h) c j)))
    (Q := fun e => (e.1 = 47 ∧ ∃ i, i < c ∧ (AP (hX l h) (hY l h) c (hX l' h') (hY l' h') c' (dX (hX l h) c i) (dX (hY l h) c i) ∨ AP (hX l h) (hY l h) c (hX l' h') (hY l' h') c' (-dX (hY l h) c i) (dX (hX l h) c i))) ∨
      (e.1 = 55 ∧ ∀ j, j < c → ¬ (AP (hX l h) (hY l h) c (hX l' h') (hY l' h') c' (dX (hX l h) c j) (dX (hY l h) c j) ∨ AP (hX l h) (hY l h) c (hX l' h') (hY l' h') c' (-dX (hY l h) c j) (dX (hX l h) c j)))) ?_ kF c 0 (by have := kF_eq; omega) ⟨0, rfl, by omega, rfl, fun j hj => absurd hj (Nat.not_lt_zero _)⟩) ?_
  · rintro n s ⟨i, rfl, hi, rfl, g⟩
    unfold q_X5_isApartBySides_L2
    rw [H.1]
    simp only [kwp_kb, kwp_kg, kwp_kif, kwp_some, kwp_kl]
    refine ⟨⟨⟨by omega, by omega⟩, ⟨by omega, by omega⟩⟩, fun q => Or.inr ⟨by decide, Or.inr ⟨by trivial, fun j hj => g j (by omega)⟩⟩, fun q => ?_⟩
    have hi' : i < c := by omega
    have sd := q_osideH hb H hi'
    have b1 := bX hb (H.2.2 i hi').1
    have b2 := bX hb (H.2.2 _ (nx_lt hi')).1
    refine w_of sd.1 (w_of sd.2 (w_mono (q_isApart hb hb' H H' h0 h0' (by omega) (by omega)) (fun b1' e1 => ⟨fun z0 => ?_, fun z0 => ?_⟩)))
    · refine w_of sd.2 (w_of sd.1 (w_mono (q_isApart hb hb' H H' h0 h0' (by omega) (by omega)) (fun b2' e2 => ⟨fun z2 => ?_, fun z2 => ?_⟩)))
      · refine Or.inl ⟨by trivial, c - (i + 1), by omega, i + 1, rfl, by omega, by omega, fun j hj => ?_⟩
        by_cases w : j = i
        · subst w
          rintro (a | a)
          · have := e1.2 a
            rw [this] at z0
            exact kz_t z0
          · have := e2.2 a
            rw [this] at z2
            exact kz_t z2
        · exact g j (by omega)
      · refine Or.inr ⟨by decide, Or.inl ⟨by trivial, i, hi', Or.inr (e2.1 ?_)⟩⟩
        cases b2'
        · exact absurd kz_f z2
        · rfl
    · refine Or.inr ⟨by decide, Or.inl ⟨by trivial, i, hi', Or.inl (e1.1 ?_)⟩⟩
      cases b1'
      · exact absurd kz_f z0
      · rfl
  · rintro ⟨lb, s⟩ g
    dsimp only at g
    simp only [kwp_kg, kwp_kif, kwp_some]
    rcases g with ⟨e, g⟩ | ⟨e, g⟩
    · exact ⟨fun _ => ⟨fun _ => g, fun _ => (by first | exact trivial | rfl)⟩, fun q => absurd e q⟩
    · exact ⟨fun q => by omega, fun _ => ⟨e, fun q => (Bool.noConfusion q : False).elim, fun ⟨i, hi, q⟩ => (g i hi q).elim⟩⟩
theorem q_touches {z z' : tZ5} {l l' : List Spt} {h h' : Nat → Nat} {c c' : Nat} (hb : bdL l) (hb' : bdL l') (H : OU z l h c) (H' : OU z' l' h' c') (h0 : 0 < c) (h0' : 0 < c') :
    kwp (q_X5_touches z z') (fun b => b = true ↔ NAP (hX l h) (hY l h) c (hX l' h') (hY l' h') c') := by
  unfold q_X5_touches
  simp only [kwp_kb, kwp_kg, kwp_kif, kwp_some]
  have tt : ∀ b : Bool, ¬ kz b = 0 → b = true := fun b q => by
    cases b
    · exact absurd kz_f q
    · rfl
  have ff : ∀ {b : Bool} {P : Prop}, (b = true ↔ P) → kz b = 0 → ¬ P := fun e q p => by
    rw [e.2 p] at q
    exact kz_t q
  refine w_mono (q_isApart hb hb' H H' h0 h0' (by decide) (by decide)) (fun b1 e1 => ⟨fun z1 => ?_, fun z1 => ⟨fun q => (Bool.noConfusion q : False).elim, fun q => (q.1 (e1.1 (tt _ z1))).elim⟩⟩)
  refine w_mono (q_isApart hb hb' H H' h0 h0' (by decide) (by decide)) (fun b2 e2 => ⟨fun z2 => ?_, fun z2 => ⟨fun q => (Bool.noConfusion q : False).elim, fun q => (q.2.1 (e2.1 (tt _ z2))).elim⟩⟩)
  refine w_mono (q_apartSides hb hb' H H' h0 h0') (fun b3 e3 => ⟨fun z3 => ?_, fun z3 => ⟨fun q => (Bool.noConfusion q : False).elim, fun q => ?_⟩⟩)
  · refine w_mono (q_apartSides hb' hb H' H h0' h0) (fun b4 e4 => ⟨fun z4 => ⟨fun _ => ?_, fun _ => (by first | exact trivial | rfl)⟩, fun z4 => ⟨fun q => (Bool.noConfusion q : False).elim, fun q => ?_⟩⟩)
    · refine ⟨ff e1 z1, ff e2 z2, fun i hi => ⟨fun a => ff e3 z3 ⟨i, hi, Or.inl a⟩, fun a => ff e3 z3 ⟨i, hi, Or.inr a⟩⟩, fun i hi => ⟨fun a => ff e4 z4 ⟨i, hi, Or.inl (AP_sym.1 a)⟩, fun a => ff e4 z4 ⟨i, hi, Or.inr (AP_sym.1 a)⟩⟩⟩
    · obtain ⟨i, hi, a | a⟩ := e4.1 (tt _ z4)
      · exact ((q.2.2.2 i hi).1 (AP_sym.1 a)).elim
      · exact ((q.2.2.2 i hi).2 (AP_sym.1 a)).elim
  · obtain ⟨i, hi, a | a⟩ := e3.1 (tt _ z3)
    · exact ((q.2.2.1 i hi).1 a).elim
    · exact ((q.2.2.1 i hi).2 a).elim
