/-! ===== tight ===== -/
theorem circ_t {z4 : tZ4} {m : tZ12} (H : HR z4.1 (m.2.2.1 0)) {set : Int} (hs : k32 set) (hg : gdS z4 set) :
    kwp (q_X12_hasCircle m set) (fun x => x.1 = true ∧ FQ m x.2 ∧ SPm x.2 (LG z4 set) ∧ ∃ C, MCs x.2.2.1 16 C ∧ mecOf (lX (LG z4 set)) (lY (LG z4 set)) aM (LG z4 set).length C) :=
  w_mono (qm_hasCircle H hs) (fun x h => by
    rcases h with ⟨f, ⟨h, _⟩ | ⟨_, h1, h2, h3⟩⟩
    · exact absurd hg h
    · exact ⟨h1, f, h2, h3⟩)
theorem circ_f {z4 : tZ4} {m : tZ12} (H : HR z4.1 (m.2.2.1 0)) {set : Int} (hs : k32 set) (hg : ¬ gdS z4 set) : kwp (q_X12_hasCircle m set) (fun x => x.1 = false ∧ FQ m x.2) :=
  w_mono (qm_hasCircle H hs) (fun x h => by
    rcases h with ⟨f, ⟨_, h⟩ | ⟨h, _⟩⟩
    · exact ⟨h, f⟩
    · exact absurd h hg)
theorem q_mecL {z4 : tZ4} {z8 : tZ8} {z0 : tZ0} {set : Int} (hV : VR z4.1) (hS : SPc z8 (LG z4 set)) (h0 : 0 < (LG z4 set).length) :
    kwp (q_X0_about z0 z8) (fun z' => mecOf (lX (LG z4 set)) (lY (LG z4 set)) aM (LG z4 set).length (CZ z') ∧ BC z' ∧ in0 (lX (LG z4 set)) (lY (LG z4 set)) aM (LG z4 set).length (CZ z')) :=
  w_mono (q_mec hV hV.2.2 hS h0) (fun z' h => ⟨h.1, h.2.1, h.2.2.2⟩)
theorem TZ_TM {z : tZ0} {m : tZ12} {l : List Spt} {C D : Cir} (hn : NU l) (hC : 0 < C.2.2.2) (hD : 0 < D.2.2.2) (cp : cP C D) (h : TZ z l C) (g : TMm m l D) :
    ∃ (n : Nat) (t : Nat → Nat), TS l D n t ∧ 1 ≤ n ∧ n ≤ 3 ∧ z.2.2.2.2.2.2.2.2 = (n : Int) ∧ m.1 32 = (n : Int) ∧ ∀ i, i < n → t i < l.length ∧ z.2.2.2.2.2.2.2.1 i = lP l (t i) ∧ m.2.2.1 31 i = (t i : Int) := by
  obtain ⟨n, t, h1, h2, h3, h4, h5⟩ := h
  obtain ⟨k, u, g1, g2, g3, g4, g5⟩ := g
  have o := TS_only hn.2 (TS_P hC hD cp h1) g1
  obtain ⟨e, o2⟩ := o
  subst e
  exact ⟨n, u, g1, h3, h4, h2, g2, fun i hi => ⟨(g5 i hi).1, by rw [(h5 i hi).2, o2 i hi], (g5 i hi).2⟩⟩
theorem q_tightNo {z : tZ0} {n : Nat} (h : z.2.2.2.2.2.2.2.2 = (n : Int)) (hn : n ≤ 3) {w : Int} (hw : k32 w) : q_X0_tightNumber z w = some (if 0 ≤ w ∧ w < (n : Int) then z.2.2.2.2.2.2.2.1 w.toNat else -1) := by
  refine w_eq ?_
  unfold q_X0_tightNumber
  rw [h]
  simp only [kwp_kg, kwp_kif, kwp_some]
  refine ⟨hw, fun q => ?_, fun q => ⟨⟨by omega, by omega⟩, fun q1 => ?_, fun q1 => ⟨fun q2 => by omega, fun _ => ⟨⟨by omega, by omega⟩, ?_⟩⟩⟩⟩
  · rw [if_neg (by omega)]
  · rw [if_neg (by omega)]
  · rw [if_pos (by omega)]
theorem T_tight {z11 : tZ11} {z4 : tZ4} {z9 : tZ9} {z10 : tZ10} {z8 : tZ8} {z0 : tZ0} {m : tZ12} (H : REL z4 z9 z10 m) {set w : Int} (hs : k32 set) (hw : k32 w) : QRI m (q_X11_tight z11 z4 z8 z0 set w) (q_X12_tight m set w) := by
  have hH := H.1.1
  have ok := LG_ok hH.1 set
  have nu := LG_NU (z4 := z4) set
  by_cases hg : -1 ≤ w ∧ gdS z4 set
  · obtain ⟨hw1, hg⟩ := hg
    have h0 := hg.2.2
    unfold QRI q_X11_tight
    simp only [kwp_kg, kwp_kif, kwp_kb, kwp_some]
    refine ⟨hw, fun q => by omega, fun _ => w_mono (gath_t hH.1 hs hg) ?_⟩
    rintro ⟨b', z'⟩ ⟨e, hS⟩
    dsimp only at e hS ⊢
    subst e
    refine ⟨fun q => absurd q kz_t, fun _ => w_mono (q_mecL hH.1 hS h0) (fun z2 hz2 => w_mono (q_seekTight hS ok.2.1 ok.2.2 ok.1 nu h0 hz2.2.1 hz2.2.2) (fun z3 hz3 => ?_))⟩
    have hm : kwp (q_X12_tight m set w) (fun r' => FRM m r'.2 ∧ ∃ (n : Nat) (t : Nat → Nat), 1 ≤ n ∧ n ≤ 3 ∧ z3.2.2.2.2.2.2.2.2 = (n : Int) ∧ (∀ i, i < n → t i < (LG z4 set).length ∧ z3.2.2.2.2.2.2.2.1 i = lP (LG z4 set) (t i)) ∧ r'.1 = if w = -1 then (n : Int) else if w < (n : Int) then lP (LG z4 set) (t w.toNat) else -1) := by
      unfold q_X12_tight
      simp only [kwp_kg, kwp_kif, kwp_kb, kwp_some]
      refine ⟨hw, fun q => by omega, fun _ => w_mono (circ_t hH hs hg) ?_⟩
      rintro ⟨b', m2⟩ ⟨e, f2, HS, C, hM, hC⟩
      dsimp only at e f2 HS hM hC ⊢
      subst e
      refine ⟨fun q => absurd q kz_t, fun _ => w_mono (qm_layTight HS ok.2.1 ok.2.2 nu h0 hM hC) (fun m3 hm3 => ?_)⟩
      obtain ⟨n, t, _, n1, n3, e1, e2, e3⟩ := TZ_TM nu hz2.1.1 hC.1 (mecOf_only hz2.1 hC) hz3.2.2 hm3.2
      have fm := FQ_frm (FQ_trans f2 (FO_q hm3.1))
      rw [e2]
      refine ⟨fun q => ⟨fm, n, t, n1, n3, e1, fun i hi => ⟨(e3 i hi).1, (e3 i hi).2.1⟩, by rw [if_pos q]⟩, fun q => ⟨⟨by omega, by omega⟩, fun q1 => ⟨fm, n, t, n1, n3, e1, fun i hi => ⟨(e3 i hi).1, (e3 i hi).2.1⟩, by rw [if_neg q, if_neg (by omega)]⟩, fun q1 => ?_⟩⟩
      have x := e3 w.toNat (by omega)
      rw [x.2.2, Int.toNat_natCast, (SPm_at (SPm_fo hm3.1 HS) x.1).2.2]
      have sl := HS.2.1
      exact ⟨⟨by omega, by omega⟩, ⟨by omega, by omega⟩, fm, n, t, n1, n3, e1, fun i hi => ⟨(e3 i hi).1, (e3 i hi).2.1⟩, by rw [if_neg q, if_pos (by omega)]⟩
    refine ⟨fun q => ?_, fun q => ?_⟩
    · unfold q_X0_tightCount
      simp only [kwp_some]
      refine w_mono hm (fun r' h => ?_)
      obtain ⟨fm, n, t, n1, n3, e1, e2, e3⟩ := h
      rw [e3, e1, if_pos q]
      exact ⟨rfl, ⟨by omega, by omega⟩, fm⟩
    · obtain ⟨n, t, _, e1, n1, n3, e2⟩ := hz3.2.2
      rw [q_tightNo e1 n3 hw]
      simp only [kwp_some]
      refine w_mono hm (fun r' h => ?_)
      obtain ⟨fm, n', t', n1', n3', e1', e2', e3'⟩ := h
      have nn : n' = n := by omega
      subst nn
      rw [e3', if_neg q]
      by_cases q1 : w < (n' : Int)
      · have x := e2' w.toNat (by omega)
        have bp := bP ok.2.2 x.1
        rw [if_pos (by omega), if_pos q1, x.2]
        exact ⟨rfl, ⟨by omega, by omega⟩, fm⟩
      · rw [if_neg (by omega), if_neg q1]
        exact ⟨rfl, by decide, fm⟩
  · refine qri_of (-1) ?_ ?_ (by decide)
    · unfold q_X11_tight
      simp only [kwp_kg, kwp_kif, kwp_kb, kwp_some]
      refine ⟨hw, fun _ => (by first | exact trivial | rfl), fun q => w_mono (gath_f hH.1 hs (fun c => hg ⟨by omega, c⟩)) ?_⟩
      rintro ⟨b', z'⟩ e
      dsimp only at e ⊢
      subst e
      exact ⟨fun _ => (by first | exact trivial | rfl), fun q => (q (by trivial)).elim⟩
    · unfold q_X12_tight
      simp only [kwp_kg, kwp_kif, kwp_kb, kwp_some]
      refine ⟨hw, fun _ => ⟨(by first | exact trivial | rfl), FRM_rfl m⟩, fun q => w_mono (circ_f hH hs (fun c => hg ⟨by omega, c⟩)) ?_⟩
      rintro ⟨b', m2⟩ ⟨e, f2⟩
      dsimp only at e f2 ⊢
      subst e
      exact ⟨fun _ => ⟨(by first | exact trivial | rfl), FQ_frm f2⟩, fun q => (q (by trivial)).elim⟩
