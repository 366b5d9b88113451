/-! ===== circle, rim, inside ===== -/
def QRY {α : Type} (m : tZ12) (o : Option (Int × α)) (o' : Option (Int × tZ12)) : Prop := kwp o (fun r => kwp o' (fun r' => r.1 = r'.1 ∧ k64 r.1 ∧ FRM m r'.2))
def QRI {α : Type} (m : tZ12) (o : Option (Int × α)) (o' : Option (Int × tZ12)) : Prop := kwp o (fun r => kwp o' (fun r' => r.1 = r'.1 ∧ k32 r.1 ∧ FRM m r'.2))
def good (r : Nat → Int) (set t : Int) : Prop := 1 ≤ set ∧ set < 16 ∧ 0 < (GL r set t).length
/-- both answer v if the SET is none, or has no SPOTS; else both answer what h tells -/
theorem qri_of {α : Type} {m : tZ12} {o : Option (Int × α)} {o' : Option (Int × tZ12)} (v : Int) (h1 : kwp o (fun r => r.1 = v)) (h2 : kwp o' (fun r => r.1 = v ∧ FRM m r.2)) (hk : k32 v) : QRI m o o' :=
  w_mono h1 (fun r e => w_mono h2 (fun r' e' => ⟨by rw [e, e'.1], by rw [e]; exact hk, e'.2⟩))
theorem qry_of {α : Type} {m : tZ12} {o : Option (Int × α)} {o' : Option (Int × tZ12)} (v : Int) (h1 : kwp o (fun r => r.1 = v)) (h2 : kwp o' (fun r => r.1 = v ∧ FRM m r.2)) (hk : k64 v) : QRY m o o' :=
  w_mono h1 (fun r e => w_mono h2 (fun r' e' => ⟨by rw [e, e'.1], by rw [e]; exact hk, e'.2⟩))
def ansC (C : Cir) (w : Int) : Int :=
  if w = 0 then fN (rN C) (C.2.2.2 * C.2.2.2) else if w = 1 then fD (rN C) (C.2.2.2 * C.2.2.2) else if w = 2 then fN C.1 C.2.2.2 else if w = 3 then fD C.1 C.2.2.2 else if w = 4 then fN C.2.1 C.2.2.2 else if w = 5 then fD C.2.1 C.2.2.2 else -1000
theorem ansC_P {C D : Cir} (hC : 0 < C.2.2.2) (hD : 0 < D.2.2.2) (h : cP C D) (w : Int) : ansC C w = ansC D w := by
  have a := f_eq (Int.mul_pos hC hC) (Int.mul_pos hD hD) (rN_P h)
  have b := f_eq (a := C.1) (c := D.1) hC hD h.1.symm
  have c := f_eq (a := C.2.1) (c := D.2.1) hC hD h.2.1.symm
  unfold ansC
  rw [a.1, a.2, b.1, b.2, c.1, c.2]
/-- a circle with its bounds -/
def bdC (C : Cir) : Prop := ∃ bx bz wx wz s, C = cB bx bz wx wz s ∧ BM bx bz s wx wz
theorem bdC_z {z : tZ0} (h : BC z) : bdC (CZ z) := ⟨z.1, z.2.1, z.2.2.2.1, z.2.2.2.2.1, z.2.2.1, rfl, h⟩
theorem bdC_m {J : Nat → Int} {o : Nat} {C : Cir} (h : MCs J o C) : bdC C := ⟨_, _, _, _, _, h.1, h.2.2.2⟩
theorem bdC_k {C : Cir} (h : bdC C) : 0 < C.2.2.2 ∧ 0 ≤ rN C ∧ k63 (rN C) ∧ 0 < C.2.2.2 * C.2.2.2 ∧ k63 (C.2.2.2 * C.2.2.2) ∧ k63 C.1 ∧ k63 C.2.1 ∧ k63 C.2.2.2 := by
  obtain ⟨bx, bz, wx, wz, s, rfl, hb⟩ := h
  have r := rN_bd hb
  obtain ⟨b1, b2, b3, b4, b5, b6⟩ := hb
  have m1 := ab_mul (a := s) (A := 409600) (by omega) b1
  have m2 := ab_mul (a := s) (A := 409600) (by omega) b2
  refine ⟨b3, r.1, r.2.1, r.2.2.1, r.2.2.2, ?_, ?_, ?_⟩
  · show k63 (s * bx + wx)
    exact ⟨by omega, by omega⟩
  · show k63 (s * bz + wz)
    exact ⟨by omega, by omega⟩
  · show k63 s
    exact ⟨by omega, by omega⟩
theorem ansC_k {C : Cir} (h : bdC C) (w : Int) : k64 (ansC C w) := by
  obtain ⟨k1, k2, k3, k4, k5, k6, k7, k8⟩ := bdC_k h
  unfold ansC
  split
  · exact k64_63 (fN_k k4 k3)
  · split
    · exact k64_63 (fD_k k4 k5)
    · split
      · exact k64_63 (fN_k k1 k6)
      · split
        · exact k64_63 (fD_k k1 k8)
        · split
          · exact k64_63 (fN_k k1 k7)
          · split
            · exact k64_63 (fD_k k1 k8)
            · decide
theorem q_size {z : tZ0} (h : BC z) (f : tZ3) : q_X0_size z f = some (fN (rN (CZ z)) ((CZ z).2.2.2 * (CZ z).2.2.2), fD (rN (CZ z)) ((CZ z).2.2.2 * (CZ z).2.2.2)) := by
  obtain ⟨k1, k2, k3, k4, k5, _⟩ := bdC_k (bdC_z h)
  have e : rN (CZ z) = z.2.2.2.1 * z.2.2.2.1 + z.2.2.2.2.1 * z.2.2.2.2.1 := rN_cB _ _ _ _ _
  unfold q_X0_size q_X0_sizeAbove q_X0_sizeBelow
  rw [← e, show z.2.2.1 * z.2.2.1 = (CZ z).2.2.2 * (CZ z).2.2.2 from rfl]
  show kb (q_X3_set f _ _) _ = _
  rw [q_set k3 k4 k5]
  rfl
theorem q_midX {z : tZ0} (h : BC z) (f : tZ3) : q_X0_middleX z f = some (fN (CZ z).1 (CZ z).2.2.2, fD (CZ z).1 (CZ z).2.2.2) := by
  refine w_eq ?_
  obtain ⟨k1, k2, k3, k4, k5, k6, k7, k8⟩ := bdC_k (bdC_z h)
  have e : z.1 * z.2.2.1 + z.2.2.2.1 = (CZ z).1 := by
    show _ = z.2.2.1 * z.1 + z.2.2.2.1
    rw [Int.mul_comm]
  obtain ⟨b1, b2, _⟩ := h
  unfold q_X0_middleX
  simp only [kwp_kg, kwp_kb]
  rw [e, show z.2.2.1 = (CZ z).2.2.2 from rfl, q_set k6 k1 k8]
  simp only [kwp_some]
  exact ⟨⟨by omega, by omega⟩, (by first | exact trivial | rfl)⟩
theorem q_midY {z : tZ0} (h : BC z) (f : tZ3) : q_X0_middleY z f = some (fN (CZ z).2.1 (CZ z).2.2.2, fD (CZ z).2.1 (CZ z).2.2.2) := by
  refine w_eq ?_
  obtain ⟨k1, k2, k3, k4, k5, k6, k7, k8⟩ := bdC_k (bdC_z h)
  have e : z.2.1 * z.2.2.1 + z.2.2.2.2.1 = (CZ z).2.1 := by
    show _ = z.2.2.1 * z.2.1 + z.2.2.2.2.1
    rw [Int.mul_comm]
  obtain ⟨b1, b2, _⟩ := h
  unfold q_X0_middleY
  simp only [kwp_kg, kwp_kb]
  rw [e, show z.2.2.1 = (CZ z).2.2.2 from rfl, q_set k7 k1 k8]
  simp only [kwp_some]
  exact ⟨⟨by omega, by omega⟩, (by first | exact trivial | rfl)⟩
/-- the class's least circle of a SET -/
theorem q_mec {z4 : tZ4} {z8 : tZ8} {z0 : tZ0} {set t : Int} (hV : VR z4.1) (ht : 0 ≤ t ∧ t ≤ 20) (hS : SPc z8 (GL z4.1 set t)) (h0 : 0 < (GL z4.1 set t).length) :
    kwp (q_X0_about z0 z8) (fun z' => mecOf (lX (GL z4.1 set t)) (lY (GL z4.1 set t)) aM (GL z4.1 set t).length (CZ z') ∧ BC z' ∧ z'.2.2.2.2.2 = z0.2.2.2.2.2 ∧ in0 (lX (GL z4.1 set t)) (lY (GL z4.1 set t)) aM (GL z4.1 set t).length (CZ z')) := by
  have ok := GL_ok (set := set) hV ht
  exact w_mono (q_about hS ok.2.1 ok.2.2 h0) (fun z' h => ⟨mecOf_in0 h.1, h.2.1, h.2.2, h.1⟩)
theorem T_circle {z11 : tZ11} {z4 : tZ4} {z9 : tZ9} {z10 : tZ10} {z8 : tZ8} {z0 : tZ0} {z3 : tZ3} {m : tZ12} (H : REL z4 z9 z10 m) {set w : Int} (hs : k32 set) (hw : k32 w) : QRY m (q_X11_circle z11 z4 z8 z0 z3 set w) (q_X12_circle m set w) := by
  have hH := H.1.1
  obtain ⟨⟨b, m1⟩, em, f1, hc⟩ := qm_hasCircle hH hs
  dsimp only at f1 hc
  have hg := q_gather (z11 := z11) (z8 := z8) hH.1 hs
  rcases hc with ⟨hno, rfl⟩ | ⟨hyes, rfl, hS, C, hC, hmec⟩
  · refine qry_of (-1000) ?_ ?_ (by decide)
    · unfold q_X11_circle
      simp only [kwp_kg, kwp_kif, kwp_some, kwp_kb]
      refine ⟨hw, fun _ => (by first | exact trivial | rfl), fun _ => ⟨fun _ => (by first | exact trivial | rfl), fun _ => w_mono hg ?_⟩⟩
      rintro ⟨b', z'⟩ h
      rcases h with ⟨_, rfl⟩ | ⟨h, _⟩
      · exact ⟨fun _ => (by first | exact trivial | rfl), fun q => (q (by trivial)).elim⟩
      · exact absurd h hno
    · unfold q_X12_circle
      refine w_kbe em ?_
      simp only [kwp_kif, kwp_some, kz_0]
      exact ⟨fun _ => ⟨(by first | exact trivial | rfl), FQ_frm f1⟩, fun q => (q (by trivial)).elim⟩
  · have bC := bdC_m hC
    obtain ⟨k1, k2, k3, k4, k5, k6, k7, k8⟩ := bdC_k bC
    refine qry_of (ansC C w) ?_ ?_ (ansC_k bC w)
    · unfold q_X11_circle
      simp only [kwp_kg, kwp_kif, kwp_some, kwp_kb]
      have out : ∀ w : Int, (w < 0 ∨ 5 < w) → -1000 = ansC C w := fun w h => by
        unfold ansC
        rw [if_neg (by omega), if_neg (by omega), if_neg (by omega), if_neg (by omega), if_neg (by omega), if_neg (by omega)]
      refine ⟨hw, fun q => out w (Or.inl q), fun q1 => ⟨fun q => out w (Or.inr q), fun q2 => w_mono hg ?_⟩⟩
      rintro ⟨b', z'⟩ h
      rcases h with ⟨h, _⟩ | ⟨_, rfl, hSc⟩
      · exact absurd hyes h
      · dsimp only at hSc ⊢
        refine ⟨fun q => absurd q kz_t, fun _ => w_mono (q_mec hH.1 hH.1.2.2 hSc hyes.2.2) (fun z'' ⟨g1, g2, g3, _⟩ => ?_)⟩
        have hP := mecOf_only g1 hmec
        have key : ∀ w, ansC (CZ z'') w = ansC C w := ansC_P g1.1 k1 hP
        rw [← key w]
        have fin : ∀ f : tZ3, (w = 0 ∨ w = 2 ∨ w = 4 → f.1 = ansC (CZ z'') w) → (w = 1 ∨ w = 3 ∨ w = 5 → f.2 = ansC (CZ z'') w) → kwp (q_X11_circle_J81 z11 z4 set w z' z'' f) (fun r => r.1 = ansC (CZ z'') w) := fun f a1 a2 => by
          unfold q_X11_circle_J81
          have e : w - w.tdiv 2 * 2 = w % 2 := tmod_eq (by omega)
          simp only [kwp_kg, kwp_kb]
          rw [e, q_part ⟨by omega, by omega⟩, kwp_some, kwp_some]
          refine ⟨hw, ?_⟩
          dsimp only
          split
          · exact a1 (by omega)
          · exact a2 (by omega)
        refine ⟨fun q3 => ⟨fun q4 => ?_, fun q4 => ?_⟩, fun q3 => ?_⟩
        · refine w_of (q_midY g2 z3) (fin _ (fun e => ?_) (fun e => ?_))
          · have : w = 4 := by omega
            rw [this]; rfl
          · have : w = 5 := by omega
            rw [this]; rfl
        · refine w_of (q_midX g2 z3) (fin _ (fun e => ?_) (fun e => ?_))
          · have : w = 2 := by omega
            rw [this]; rfl
          · have : w = 3 := by omega
            rw [this]; rfl
        · refine w_of (q_size g2 z3) (fin _ (fun e => ?_) (fun e => ?_))
          · have : w = 0 := by omega
            rw [this]; rfl
          · have : w = 1 := by omega
            rw [this]; rfl
    · unfold q_X12_circle
      refine w_kbe em ?_
      have e5 := hC.2.1
      have e6 := hC.2.2.1
      have eX : m1.2.1 16 * m1.2.1 20 + m1.2.1 18 = C.1 := by
        rw [hC.1]
        show _ = m1.2.1 20 * m1.2.1 16 + m1.2.1 18
        rw [Int.mul_comm]
      have eY : m1.2.1 17 * m1.2.1 20 + m1.2.1 19 = C.2.1 := by
        rw [hC.1]
        show _ = m1.2.1 20 * m1.2.1 17 + m1.2.1 19
        rw [Int.mul_comm]
      have eS : m1.2.1 20 = C.2.2.2 := by rw [hC.1]; rfl
      simp only [kwp_kif, kwp_some, kwp_kg, kwp_kb]
      rw [eX, eY, eS, qm_above k6 k1 k8, qm_below k6 k1 k8, qm_above k7 k1 k8, qm_below k7 k1 k8]
      simp only [kwp_some]
      have ff := FQ_frm f1
      unfold ansC
      refine ⟨fun q => absurd q kz_t, fun _ => ⟨hw, fun e => ⟨?_, ff⟩, fun e0 => ⟨fun e => ⟨?_, ff⟩, fun e1 => ⟨fun e => ⟨?_, ff⟩, fun e2 => ⟨fun e => ⟨?_, ff⟩, fun e3 => ⟨fun e => ⟨?_, ff⟩, fun e4 => ⟨fun e => ⟨?_, ff⟩, fun e5 => ⟨?_, ff⟩⟩⟩⟩⟩⟩⟩⟩
      · rw [if_pos e]; exact e5
      · rw [if_neg e0, if_pos e]; exact e6
      · rw [if_neg e0, if_neg e1, if_pos e]
      · rw [if_neg e0, if_neg e1, if_neg e2, if_pos e]
      · rw [if_neg e0, if_neg e1, if_neg e2, if_neg e3, if_pos e]
      · rw [if_neg e0, if_neg e1, if_neg e2, if_neg e3, if_neg e4, if_pos e]
      · rw [if_neg e0, if_neg e1, if_neg e2, if_neg e3, if_neg e4, if_neg e5]
