/-! ===== meets: the model's questions ===== -/
theorem bt {b : Bool} (q : ¬ kz b = 0) : b = true := by
  cases b
  · exact absurd kz_f q
  · rfl
theorem bn {b : Bool} {P : Prop} (e : b = true ↔ P) (q : kz b = 0) : ¬ P := fun p => by
  rw [e.2 p] at q
  exact kz_t q
theorem nf {P : Prop} (q : false = true) : P := Bool.noConfusion q
theorem t6_bd {a1 a2 b1 b2 p1 p2 : Int} (h1 : a1.natAbs ≤ 160) (h2 : a2.natAbs ≤ 160) (h3 : b1.natAbs ≤ 160) (h4 : b2.natAbs ≤ 160) (h5 : p1.natAbs ≤ 160) (h6 : p2.natAbs ≤ 160) : k64 (t6 a1 a2 b1 b2 p1 p2) := by
  have m1 := ab_mul (a := b1 - a1) (b := p2 - a2) (A := 320) (B := 320) (by omega) (by omega)
  have m2 := ab_mul (a := b2 - a2) (b := p1 - a1) (A := 320) (B := 320) (by omega) (by omega)
  unfold t6
  exact ⟨by omega, by omega⟩
theorem qm_turn6 (a1 a2 b1 b2 p1 p2 : Int) : q_X12_turnOf a1 a2 b1 b2 p1 p2 = some (t6 a1 a2 b1 b2 p1 p2) := rfl
theorem qm_isBetween {p q r : Int} (h1 : p.natAbs ≤ 160) (h2 : q.natAbs ≤ 160) (h3 : r.natAbs ≤ 160) : kwp (q_X12_isBetween p q r) (fun b => b = true ↔ BW p q r) := by
  unfold q_X12_isBetween BW
  simp only [kwp_kg, kwp_kif, kwp_some]
  refine ⟨⟨⟨by omega, by omega⟩, ⟨by omega, by omega⟩⟩, fun w => ⟨⟨by omega, by omega⟩, fun w1 => ⟨fun q => nf q, fun q => by omega⟩, fun w1 => ⟨fun w2 => ⟨fun q => nf q, fun q => by omega⟩, fun w2 => ⟨fun _ => by omega, fun _ => (by first | exact trivial | rfl)⟩⟩⟩, fun w => ⟨⟨by omega, by omega⟩, fun w1 => ⟨fun q => nf q, fun q => by omega⟩, fun w1 => ⟨fun w2 => ⟨fun q => nf q, fun q => by omega⟩, fun w2 => ⟨fun _ => by omega, fun _ => (by first | exact trivial | rfl)⟩⟩⟩⟩
theorem qm_isOn {p1 p2 q1 q2 r1 r2 : Int} (h1 : p1.natAbs ≤ 160) (h2 : p2.natAbs ≤ 160) (h3 : q1.natAbs ≤ 160) (h4 : q2.natAbs ≤ 160) (h5 : r1.natAbs ≤ 160) (h6 : r2.natAbs ≤ 160) :
    kwp (q_X12_isOn p1 p2 q1 q2 r1 r2) (fun b => b = true ↔ ON p1 p2 q1 q2 r1 r2) := by
  unfold q_X12_isOn ON
  rw [qm_turn6]
  simp only [kwp_kb, kwp_kg, kwp_kif, kwp_some]
  refine ⟨t6_bd h1 h2 h3 h4 h5 h6, fun z => w_mono (qm_isBetween h1 h3 h5) (fun b e => ⟨fun w => ⟨fun q => nf q, fun q => (bn e w q.2.1).elim⟩, fun w => w_mono (qm_isBetween h2 h4 h6) (fun b' e' => ⟨fun w' => ⟨fun q => nf q, fun q => (bn e' w' q.2.2).elim⟩, fun w' => ⟨fun _ => ⟨z, e.1 (bt w), e'.1 (bt w')⟩, fun _ => (by first | exact trivial | rfl)⟩⟩)⟩), fun z => ⟨fun q => nf q, fun q => (z q.1).elim⟩⟩
theorem qm_doCross {a1 a2 b1 b2 c1 c2 d1 d2 : Int} (h1 : a1.natAbs ≤ 160) (h2 : a2.natAbs ≤ 160) (h3 : b1.natAbs ≤ 160) (h4 : b2.natAbs ≤ 160) (h5 : c1.natAbs ≤ 160) (h6 : c2.natAbs ≤ 160) (h7 : d1.natAbs ≤ 160) (h8 : d2.natAbs ≤ 160) :
    kwp (q_X12_doCross a1 a2 b1 b2 c1 c2 d1 d2) (fun b => b = true ↔ DC a1 a2 b1 b2 c1 c2 d1 d2) := by
  have k1 := t6_bd h1 h2 h3 h4 h5 h6
  have k2 := t6_bd h1 h2 h3 h4 h7 h8
  have k3 := t6_bd h5 h6 h7 h8 h1 h2
  have k4 := t6_bd h5 h6 h7 h8 h3 h4
  have J120 : kwp (q_X12_doCross_J120 a1 a2 b1 b2 c1 c2 d1 d2) (fun b => b = true ↔ (ON a1 a2 b1 b2 c1 c2 ∨ ON a1 a2 b1 b2 d1 d2 ∨ ON c1 c2 d1 d2 a1 a2 ∨ ON c1 c2 d1 d2 b1 b2)) := by
    unfold q_X12_doCross_J120
    simp only [kwp_kb, kwp_kg, kwp_kif, kwp_some]
    refine w_mono (qm_isOn h1 h2 h3 h4 h5 h6) (fun b e1 => ⟨fun w1 => ?_, fun w1 => ⟨fun _ => Or.inl (e1.1 (bt w1)), fun _ => (by first | exact trivial | rfl)⟩⟩)
    refine w_mono (qm_isOn h1 h2 h3 h4 h7 h8) (fun b e2 => ⟨fun w2 => ?_, fun w2 => ⟨fun _ => Or.inr (Or.inl (e2.1 (bt w2))), fun _ => (by first | exact trivial | rfl)⟩⟩)
    refine w_mono (qm_isOn h5 h6 h7 h8 h1 h2) (fun b e3 => ⟨fun w3 => ?_, fun w3 => ⟨fun _ => Or.inr (Or.inr (Or.inl (e3.1 (bt w3)))), fun _ => (by first | exact trivial | rfl)⟩⟩)
    refine w_mono (qm_isOn h5 h6 h7 h8 h3 h4) (fun b e4 => ⟨fun w4 => ⟨fun q => nf q, fun q => ?_⟩, fun w4 => ⟨fun _ => Or.inr (Or.inr (Or.inr (e4.1 (bt w4)))), fun _ => (by first | exact trivial | rfl)⟩⟩)
    rcases q with q | q | q | q
    · exact (bn e1 w1 q).elim
    · exact (bn e2 w2 q).elim
    · exact (bn e3 w3 q).elim
    · exact (bn e4 w4 q).elim
  unfold q_X12_doCross
  simp only [qm_turn6]
  unfold DC
  generalize ho1 : t6 a1 a2 b1 b2 c1 c2 = o1 at *
  generalize ho2 : t6 a1 a2 b1 b2 d1 d2 = o2 at *
  generalize ho3 : t6 c1 c2 d1 d2 a1 a2 = o3 at *
  generalize ho4 : t6 c1 c2 d1 d2 b1 b2 = o4 at *
  clear ho1 ho2 ho3 ho4
  have J120n : (¬ (((o1 < 0 ∧ 0 < o2) ∨ (0 < o1 ∧ o2 < 0)) ∧ ((o3 < 0 ∧ 0 < o4) ∨ (0 < o3 ∧ o4 < 0)))) → kwp (q_X12_doCross_J120 a1 a2 b1 b2 c1 c2 d1 d2) (fun b => b = true ↔ ((((o1 < 0 ∧ 0 < o2) ∨ (0 < o1 ∧ o2 < 0)) ∧ ((o3 < 0 ∧ 0 < o4) ∨ (0 < o3 ∧ o4 < 0))) ∨ ON a1 a2 b1 b2 c1 c2 ∨ ON a1 a2 b1 b2 d1 d2 ∨ ON c1 c2 d1 d2 a1 a2 ∨ ON c1 c2 d1 d2 b1 b2)) := fun w =>
    w_mono J120 (fun b e => ⟨fun q => Or.inr (e.1 q), fun q => e.2 (q.resolve_left w)⟩)
  have J90 : ((o1 < 0 ∧ 0 < o2) ∨ (0 < o1 ∧ o2 < 0)) → kwp (q_X12_doCross_J90 a1 a2 b1 b2 c1 c2 d1 d2 o3 o4) (fun b => b = true ↔ ((((o1 < 0 ∧ 0 < o2) ∨ (0 < o1 ∧ o2 < 0)) ∧ ((o3 < 0 ∧ 0 < o4) ∨ (0 < o3 ∧ o4 < 0))) ∨ ON a1 a2 b1 b2 c1 c2 ∨ ON a1 a2 b1 b2 d1 d2 ∨ ON c1 c2 d1 d2 a1 a2 ∨ ON c1 c2 d1 d2 b1 b2)) := fun w => by
    have J104 : ¬ (o3 < 0 ∧ 0 < o4) → kwp (q_X12_doCross_J104 a1 a2 b1 b2 c1 c2 d1 d2 o3 o4) (fun b => b = true ↔ ((((o1 < 0 ∧ 0 < o2) ∨ (0 < o1 ∧ o2 < 0)) ∧ ((o3 < 0 ∧ 0 < o4) ∨ (0 < o3 ∧ o4 < 0))) ∨ ON a1 a2 b1 b2 c1 c2 ∨ ON a1 a2 b1 b2 d1 d2 ∨ ON c1 c2 d1 d2 a1 a2 ∨ ON c1 c2 d1 d2 b1 b2)) := fun w2 => by
      unfold q_X12_doCross_J104
      simp only [kwp_kb, kwp_kg, kwp_kif, kwp_some]
      exact ⟨k3, fun q => J120n (fun h => by omega), fun q => ⟨k4, fun q2 => J120n (fun h => by omega), fun q2 => ⟨fun _ => Or.inl ⟨w, by omega⟩, fun _ => (by first | exact trivial | rfl)⟩⟩⟩
    unfold q_X12_doCross_J90
    simp only [kwp_kb, kwp_kg, kwp_kif, kwp_some]
    exact ⟨k3, fun q => J104 (by omega), fun q => ⟨k4, fun q2 => ⟨fun _ => Or.inl ⟨w, by omega⟩, fun _ => (by first | exact trivial | rfl)⟩, fun q2 => J104 (by omega)⟩⟩
  have J76 : ¬ (o1 < 0 ∧ 0 < o2) → kwp (q_X12_doCross_J76 a1 a2 b1 b2 c1 c2 d1 d2 o1 o2 o3 o4) (fun b => b = true ↔ ((((o1 < 0 ∧ 0 < o2) ∨ (0 < o1 ∧ o2 < 0)) ∧ ((o3 < 0 ∧ 0 < o4) ∨ (0 < o3 ∧ o4 < 0))) ∨ ON a1 a2 b1 b2 c1 c2 ∨ ON a1 a2 b1 b2 d1 d2 ∨ ON c1 c2 d1 d2 a1 a2 ∨ ON c1 c2 d1 d2 b1 b2)) := fun w => by
    unfold q_X12_doCross_J76
    simp only [kwp_kb, kwp_kg, kwp_kif, kwp_some]
    exact ⟨k1, fun q => J120n (fun h => by omega), fun q => ⟨k2, fun q2 => J120n (fun h => by omega), fun q2 => J90 (by omega)⟩⟩
  simp only [kwp_kb, kwp_kg, kwp_kif, kwp_some]
  exact ⟨k1, fun q => J76 (by omega), fun q => ⟨k2, fun q2 => J90 (by omega), fun q2 => J76 (by omega)⟩⟩
