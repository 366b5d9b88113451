/-! ===== ring ===== -/
theorem wide_tn {l : List Spt} (hs : sorL l) (hw : 2 < hC l) (h2 : 2 ≤ l.length) : ∃ C, cand l C := by
  have t := lo_two2 h2
  by_cases q : 3 ≤ loN l
  · have cv := CV_lo hs aP l.length (Nat.le_refl _)
    unfold loN at q
    have d1 := cv.1 0 1 (by omega) (by omega)
    have d2 := cv.1 0 2 (by omega) (by omega)
    have tt := cv.2 0 1 2 (by omega) (by omega) (by omega)
    have o1 := lo_ok (l := l) 1 (by omega)
    have o2 := lo_ok (l := l) 2 (by omega)
    have e : crs l ((loF l aP l.length).1 0) ((loF l aP l.length).1 1) ((loF l aP l.length).1 0) ((loF l aP l.length).1 2) ≠ 0 := by
      have : crs l ((loF l aP l.length).1 0) ((loF l aP l.length).1 1) ((loF l aP l.length).1 0) ((loF l aP l.length).1 2) = tn (lX l) (lY l) ((loF l aP l.length).1 0) ((loF l aP l.length).1 1) ((loF l aP l.length).1 2) := rfl
      omega
    exact ⟨_, _, _, _, _, d1, o1, d2, o2, e, rfl⟩
  · have q2 : 3 ≤ upN l := by omega
    have cv := CV_up hs (P := aP) (last := l.length - 1) rfl (by omega) (l.length - 1) (Nat.le_refl _)
    unfold upN at q2
    have d1 := cv.1 1 2 (by omega) (by omega)
    have d2 := cv.1 0 2 (by omega) (by omega)
    have tt := cv.2 0 1 2 (by omega) (by omega) (by omega)
    have o0 := up_ok (l := l) (by omega) 0 (by omega)
    have o1 := up_ok (l := l) (by omega) 1 (by omega)
    generalize (upF l aP (l.length - 1) (l.length - 1)).1 0 = u0 at *
    generalize (upF l aP (l.length - 1) (l.length - 1)).1 1 = u1 at *
    generalize (upF l aP (l.length - 1) (l.length - 1)).1 2 = u2 at *
    have e : crs l u2 u1 u2 u0 ≠ 0 := by
      have : crs l u2 u1 u2 u0 = -tn (lX l) (lY l) u0 u1 u2 := by
        unfold crs tn
        grind
      omega
    exact ⟨_, u2, u1, u2, u0, d1, o1, d2, o0, e, rfl⟩
theorem BR_same {l : List Spt} {C D : Ctr} (h : BRv l (cand l) C) (g : BRv l (cand l) D) (w : Int) : tlC l C w = tlC l D w := by
  have s := LTc_same (g.2 C h.1) (h.2 D g.1)
  exact tl_same (cand_pos h.1) (cand_pos g.1) s.2.1 s.2.2 w
theorem tl_k {l : List Spt} (hb : bdL l) (h0 : 0 < l.length) {C : Ctr} (hC : bdR C) (w : Int) : k64 (tlC l C w) := by
  have io := io_bd hb h0 hC
  have k := bdR_k hC
  have k1 : k63 (ouC l C - inC l C) := ⟨by omega, by omega⟩
  have k2 : k63 (inC l C) := ⟨by omega, by omega⟩
  have k3 : k63 (ouC l C) := ⟨by omega, by omega⟩
  unfold tlC
  split
  · exact k64_63 (fN_k k.2.2.1 k1)
  · split
    · exact k64_63 (fD_k k.2.2.1 k.2.1)
    · split
      · exact k64_63 (fN_k k.2.2.1 k2)
      · split
        · exact k64_63 (fD_k k.2.2.1 k.2.1)
        · split
          · exact k64_63 (fN_k k.2.2.1 k3)
          · split
            · exact k64_63 (fD_k k.2.2.1 k.2.1)
            · split
              · exact k64_63 (fN_k hC.1 k.2.2.2.1)
              · split
                · exact k64_63 (fD_k hC.1 k.1)
                · split
                  · exact k64_63 (fN_k hC.1 k.2.2.2.2)
                  · exact k64_63 (fD_k hC.1 k.1)
theorem T_ring {z11 : tZ11} {z4 : tZ4} {z9 : tZ9} {z10 : tZ10} {z8 : tZ8} {z5 : tZ5} {z1 : tZ1} {z7 : tZ7} {z3 : tZ3} {m : tZ12} (H : REL z4 z9 z10 m) {set w : Int} (hs : k32 set) (hw : k32 w) : QRY m (q_X11_ring z11 z4 z8 z5 z1 z7 z3 set w) (q_X12_ring m set w) := by
  have hH := H.1.1
  have ok := LG_ok hH.1 set
  by_cases hg : (0 ≤ w ∧ w ≤ 9) ∧ wdS z4 set ∧ (LG z4 set).length ≤ 12
  · obtain ⟨hw2, hg, hl⟩ := hg
    have h0 := hg.1.2.2
    have fc := hull_fc hH.1 hg.1
    have h2 : 2 ≤ (LG z4 set).length := by have := hg.2; omega
    have cu := cu_ok ok.2.2 ok.1
    have hm : kwp (q_X12_ring m set w) (fun r' => FRM m r'.2 ∧ ∃ C, bdR C ∧ BRv (LG z4 set) (cand (LG z4 set)) C ∧ r'.1 = tlC (LG z4 set) C w) := by
      unfold q_X12_ring
      rw [qm_isIn hw (by decide) (by decide), decide_eq_true hw2]
      simp only [kwp_kg, kwp_kif, kwp_kb, kwp_some, kwp_kl]
      refine ⟨fun q => absurd q kz_t, fun _ => w_mono (widm_t hH hs hg) ?_⟩
      rintro ⟨b', m2⟩ ⟨e, f2, HM⟩
      dsimp only at e f2 HM ⊢
      subst e
      rw [HM.1.1]
      refine ⟨fun q => absurd q kz_t, fun _ => ⟨⟨by omega, by omega⟩, fun _ => w_mono (qm_layRing HM.1 ok.2.2 h0) (fun m3 hm3 => ?_), fun q => by omega⟩⟩
      have fm := FQ_frm (FQ_trans f2 (FR_q hm3.1))
      rcases hm3.2 with ⟨_, no⟩ | ⟨_, C, bc, br, r1, r2, r3, r4, r5⟩
      · obtain ⟨C, hC⟩ := wide_tn ok.2.1 hg.2 h2
        exact absurd hC (no C)
      · have lg := lg_bd ok.2.2 h0 bc
        have io := io_bd ok.2.2 h0 bc
        have kC := bdR_k bc
        have c1 := bc.1
        have c2 := bc.2.1
        have c3 := bc.2.2.1
        have c4 := bc.2.2.2
        have il := in_lo (LG z4 set) c1
        rw [r1, r2, r3, r4, r5]
        have e5 : ((2 * C.2.1) * (2 * C.2.1) + (2 * C.2.2) * (2 * C.2.2)) + loC (LG z4 set) C * (2 * C.1) = 4 * inC (LG z4 set) C := by
          have : ((2 * C.2.1) * (2 * C.2.1) + (2 * C.2.2) * (2 * C.2.2)) + loC (LG z4 set) C * (2 * C.1) = 2 * (2 * (C.2.1 * C.2.1 + C.2.2 * C.2.2) + C.1 * loC (LG z4 set) C) := by grind
          omega
        have e6 : 4 * inC (LG z4 set) C + gpC (LG z4 set) C * (2 * C.1) = 4 * ouC (LG z4 set) C := by
          have : gpC (LG z4 set) C * (2 * C.1) = 2 * (C.1 * gpC (LG z4 set) C) := by grind
          omega
        have e7 : (2 * C.1) * (2 * C.1) = 4 * (C.1 * C.1) := by grind
        rw [e5, e6, e7]
        have d1 : 0 < 4 * (C.1 * C.1) := by have := kC.2.2.1; omega
        have ab := ab_mul (a := C.1) (b := C.1) (A := 409600) (B := 409600) (by omega) (by omega)
        have kd : k63 (4 * (C.1 * C.1)) := ⟨by omega, by omega⟩
        have k2 : k63 (2 * C.1) := ⟨by omega, by omega⟩
        have kg1 : k63 (gpC (LG z4 set) C) := ⟨by omega, by omega⟩
        have ki : k63 (4 * inC (LG z4 set) C) := ⟨by omega, by omega⟩
        have ko : k63 (4 * ouC (LG z4 set) C) := ⟨by omega, by omega⟩
        have kx : k63 (2 * C.2.1) := ⟨by omega, by omega⟩
        have ky2 : k63 (2 * C.2.2) := ⟨by omega, by omega⟩
        have p2 : 0 < 2 * C.1 := by omega
        have g0 := f_eq p2 kC.2.2.1 (show gpC (LG z4 set) C * (C.1 * C.1) = (ouC (LG z4 set) C - inC (LG z4 set) C) * (2 * C.1) by
          have : (ouC (LG z4 set) C - inC (LG z4 set) C) * (2 * C.1) = (2 * (ouC (LG z4 set) C - inC (LG z4 set) C)) * C.1 := by grind
          rw [this, il.2]
          grind)
        have g1 := f_eq d1 kC.2.2.1 (show (4 * inC (LG z4 set) C) * (C.1 * C.1) = inC (LG z4 set) C * (4 * (C.1 * C.1)) by grind)
        have g2 := f_eq d1 kC.2.2.1 (show (4 * ouC (LG z4 set) C) * (C.1 * C.1) = ouC (LG z4 set) C * (4 * (C.1 * C.1)) by grind)
        have g3 := f_eq p2 c1 (show (2 * C.2.1) * C.1 = C.2.1 * (2 * C.1) by grind)
        have g4 := f_eq p2 c1 (show (2 * C.2.2) * C.1 = C.2.2 * (2 * C.1) by grind)
        rw [qm_above kg1 p2 k2, qm_below kg1 p2 k2, qm_above ki d1 kd, qm_below ki d1 kd, qm_above ko d1 kd, qm_below ko d1 kd, qm_above kx p2 k2, qm_below kx p2 k2, qm_above ky2 p2 k2, qm_below ky2 p2 k2]
        simp only [kwp_some]
        rw [g0.1, g0.2, g1.1, g1.2, g2.1, g2.2, g3.1, g3.2, g4.1, g4.2]
        clear io lg il ab kd k2 kg1 ki ko kx ky2 p2 d1 e5 e6 e7 g0 g1 g2 g3 g4 kC c1 c2 c3 c4 r1 r2 r3 r4 r5
        refine ⟨hw, fun q0 => ⟨fm, C, bc, br, by unfold tlC; rw [if_pos q0]⟩, fun q0 => ⟨fun q1 => ⟨fm, C, bc, br, by unfold tlC; rw [if_neg q0, if_pos q1]⟩, fun q1 => ⟨fun q2 => ⟨fm, C, bc, br, by unfold tlC; rw [if_neg q0, if_neg q1, if_pos q2]⟩, fun q2 => ⟨fun q3 => ⟨fm, C, bc, br, by unfold tlC; rw [if_neg q0, if_neg q1, if_neg q2, if_pos q3]⟩, fun q3 => ⟨fun q4 => ⟨fm, C, bc, br, by unfold tlC; rw [if_neg q0, if_neg q1, if_neg q2, if_neg q3, if_pos q4]⟩, fun q4 => ⟨fun q5 => ⟨fm, C, bc, br, by unfold tlC; rw [if_neg q0, if_neg q1, if_neg q2, if_neg q3, if_neg q4, if_pos q5]⟩, fun q5 => ⟨fun q6 => ⟨fm, C, bc, br, by unfold tlC; rw [if_neg q0, if_neg q1, if_neg q2, if_neg q3, if_neg q4, if_neg q5, if_pos q6]⟩, fun q6 => ⟨fun q7 => ⟨fm, C, bc, br, by unfold tlC; rw [if_neg q0, if_neg q1, if_neg q2, if_neg q3, if_neg q4, if_neg q5, if_neg q6, if_pos q7]⟩, fun q7 => ⟨fun q8 => ⟨fm, C, bc, br, by unfold tlC; rw [if_neg q0, if_neg q1, if_neg q2, if_neg q3, if_neg q4, if_neg q5, if_neg q6, if_neg q7, if_pos q8]⟩, fun q8 => ⟨fm, C, bc, br, by unfold tlC; rw [if_neg q0, if_neg q1, if_neg q2, if_neg q3, if_neg q4, if_neg q5, if_neg q6, if_neg q7, if_neg q8]⟩⟩⟩⟩⟩⟩⟩⟩⟩⟩
    unfold QRY q_X11_ring
    simp only [kwp_kg, kwp_kif, kwp_kb, kwp_some]
    refine ⟨hw, fun q => by omega, fun _ => ⟨fun q => by omega, fun _ => w_mono (wide_t hH.1 hs hg) ?_⟩⟩
    rintro ⟨b', z', z2⟩ ⟨e, hS, ho⟩
    dsimp only at e hS ho ⊢
    subst e
    rw [q_sc hS]
    simp only [kwp_some]
    refine ⟨fun q => absurd q kz_t, fun _ => ⟨⟨by omega, by omega⟩, fun _ => w_mono (q_orderC hS ok.2.2 ok.1 cu.2.2.2.2) (fun zc hc => ?_), fun q => by omega⟩⟩
    have pm : PM (cuN (LG z4 set)) zc.1 (cuB (LG z4 set)) := hc.2.1
    have hA : ∀ t, t < cuN (LG z4 set) → ∃ i j, CpA (LG z4 set) zc.1 t i j := fun t ht => by
      obtain ⟨i, j, h1, h2', h3⟩ := PM_all (P := fun v => ∃ i j, i < j ∧ j < (LG z4 set).length ∧ v = ky (LG z4 set) i j) pm cu.2.2.1 t ht
      exact ⟨i, j, h3, h1, h2'⟩
    refine w_mono (q_ringA hS ok.2.2 ok.1 h0 cu.1 hc.1 hA z7) (fun zr hr => ?_)
    rcases hr with ⟨_, no⟩ | ⟨C, bc, br, r1⟩
    · obtain ⟨C, hC⟩ := wide_tn ok.2.1 hg.2 h2
      exact absurd ((VC_all ok.1 pm C).mpr hC) (no C)
    · have br2 : BRv (LG z4 set) (cand (LG z4 set)) C := ⟨(VC_all ok.1 pm C).mp br.1, fun D hD => br.2 D ((VC_all ok.1 pm D).mpr hD)⟩
      refine w_mono (q_tellR ok.2.2 h0 bc r1 z3 hw2) (fun f hf => ?_)
      rw [hf, kwp_some]
      refine w_mono hm (fun r' h => ?_)
      obtain ⟨fm, D, d1, d2, d3⟩ := h
      rw [d3, BR_same br2 d2 w]
      exact ⟨rfl, tl_k ok.2.2 h0 d1 w, fm⟩
  · refine qry_of (-1000) ?_ ?_ (by decide)
    · unfold q_X11_ring
      simp only [kwp_kg, kwp_kif, kwp_kb, kwp_some]
      refine ⟨hw, fun _ => (by first | exact trivial | rfl), fun q0 => ⟨fun _ => (by first | exact trivial | rfl), fun q1 => ?_⟩⟩
      by_cases hgd : wdS z4 set
      · refine w_mono (wide_t hH.1 hs hgd) ?_
        rintro ⟨b', z', z2⟩ ⟨e, hS, ho⟩
        dsimp only at e hS ho ⊢
        subst e
        rw [q_sc hS]
        simp only [kwp_some]
        exact ⟨fun q => absurd q kz_t, fun _ => ⟨⟨by omega, by omega⟩, fun q => absurd ⟨⟨by omega, by omega⟩, hgd, by omega⟩ hg, fun _ => (by first | exact trivial | rfl)⟩⟩
      · refine w_mono (wide_f hH.1 hs hgd) ?_
        rintro ⟨b', z', z2⟩ e
        dsimp only at e ⊢
        subst e
        exact ⟨fun _ => (by first | exact trivial | rfl), fun q => (q (by trivial)).elim⟩
    · unfold q_X12_ring
      rw [qm_isIn hw (by decide) (by decide)]
      simp only [kwp_kg, kwp_kif, kwp_kb, kwp_some, kwp_kl]
      refine ⟨fun _ => ⟨(by first | exact trivial | rfl), FRM_rfl m⟩, fun q0 => ?_⟩
      have b3 : 0 ≤ w ∧ w ≤ 9 := by
        cases e : decide (0 ≤ w ∧ w ≤ 9) with
        | true => exact of_decide_eq_true e
        | false => rw [e] at q0; exact absurd rfl q0
      by_cases hgd : wdS z4 set
      · refine w_mono (widm_t hH hs hgd) ?_
        rintro ⟨b', m2⟩ ⟨e, f2, HM⟩
        dsimp only at e f2 HM ⊢
        subst e
        rw [HM.1.1]
        exact ⟨fun q => absurd q kz_t, fun _ => ⟨⟨by omega, by omega⟩, fun q => absurd ⟨b3, hgd, by omega⟩ hg, fun _ => ⟨(by first | exact trivial | rfl), FQ_frm f2⟩⟩⟩
      · refine w_mono (widm_f hH hs hgd) ?_
        rintro ⟨b', m2⟩ ⟨e, f2⟩
        dsimp only at e f2 ⊢
        subst e
        exact ⟨fun _ => ⟨(by first | exact trivial | rfl), FQ_frm f2⟩, fun q => (q (by trivial)).elim⟩
