/-! ===== hull ===== -/
def hC (l : List Spt) : Nat := hN l aP l.length (l.length - 1)
def hJ (l : List Spt) (i : Nat) : Nat := hI2 l aP l.length (l.length - 1) i
theorem hC_le {l : List Spt} (hs : sorL l) (h0 : 0 < l.length) : hC l ≤ l.length := by
  have := hN_le (P := aP) (last := l.length - 1) hs (by omega) rfl (fun k h1 h2 => by omega)
  unfold hC
  omega
theorem hJ_lt {l : List Spt} (hs : sorL l) (h0 : 0 < l.length) {i : Nat} (hi : i < hC l) : hJ l i < l.length := by
  have := (hI2_inj (P := aP) (last := l.length - 1) hs (by omega) rfl (fun k h1 h2 => by omega)).1 i hi
  unfold hJ
  omega
theorem qm_hasHull {m : tZ12} {r : Nat → Int} (H : HR r (m.2.2.1 0)) {set : Int} (hs : k32 set) :
    kwp (q_X12_hasHull m set) (fun x => FQ m x.2 ∧ ((¬ (1 ≤ set ∧ set < 16 ∧ 0 < (GL r set (r 128)).length) ∧ x.1 = false) ∨ ((1 ≤ set ∧ set < 16 ∧ 0 < (GL r set (r 128)).length) ∧ x.1 = true ∧ SPm x.2 (GL r set (r 128)) ∧ x.2.1 37 = (hC (GL r set (r 128)) : Int) ∧ ∀ i, i < hC (GL r set (r 128)) → x.2.2.2.1 35 i = (hJ (GL r set (r 128)) i : Int)))) := by
  have ok := GL_ok (set := set) H.1 H.1.2.2
  unfold q_X12_hasHull
  refine w_kb (qm_isLaid H hs) ?_
  rintro ⟨b, m1⟩ ⟨f0, h⟩
  dsimp only at f0 h ⊢
  simp only [kwp_kif, kz_0, kwp_some, kwp_kb]
  rcases h with ⟨h1, rfl⟩ | ⟨h1, h2, rfl⟩
  · exact ⟨fun _ => ⟨f0, Or.inl ⟨fun w => h1 ⟨w.1, w.2.1⟩, (by first | exact trivial | rfl)⟩⟩, fun w => (w (by trivial)).elim⟩
  · refine ⟨fun w => ⟨f0, Or.inl ⟨fun v => of_decide_eq_false w v.2.2, (by first | exact trivial | rfl)⟩⟩, fun w => ?_⟩
    have h0 : 0 < (GL r set (r 128)).length := by
      rw [decide_eq_false_iff_not] at w
      exact Decidable.not_not.mp w
    have hle := hC_le ok.2.1 h0
    rw [qm_all h2, kwp_some]
    refine w_mono (qm_layHull (P := aP) (last := (GL r set (r 128)).length - 1) h2 ok.2.2 ok.1 (fun k hk => ?_) (by omega) rfl (fun k a b => by omega) (show hC _ ≤ 41 by omega)) (fun m2 ⟨g0, g1, g2⟩ => ⟨FQ_trans f0 (FH_q g0), Or.inr ⟨⟨h1.1, h1.2, h0⟩, (by first | exact trivial | rfl), SPm_fh g0 h2, g1, g2⟩⟩)
    rw [tb_all h2.2.1, decide_eq_true hk]
    rfl
theorem q_hasOutline {z4 : tZ4} {z5 : tZ5} {set : Int} (H : VR z4.1) {l : List Spt} (hl : l = GL z4.1 set (z4.1 128)) (h0 : 0 < l.length) {z' : tZ8} (hS : SPc z' l) : kwp (q_X5_about z5 z') (fun z => OU z l (hJ l) (hC l)) := by
  have ok := GL_ok (set := set) H H.2.2
  rw [← hl] at ok
  exact q_outline hS ok.2.2 ok.1 h0
theorem T_hull {z11 : tZ11} {z4 : tZ4} {z9 : tZ9} {z10 : tZ10} {z8 : tZ8} {z5 : tZ5} {m : tZ12} (H : REL z4 z9 z10 m) {set w : Int} (hs : k32 set) (hw : k32 w) : QRI m (q_X11_hull z11 z4 z8 z5 set w) (q_X12_hull m set w) := by
  have hH := H.1.1
  have ok := GL_ok (set := set) hH.1 hH.1.2.2
  by_cases hw0 : -1 ≤ w
  · have hm := qm_hasHull hH hs
    have hc := q_gather (z11 := z11) (z8 := z8) hH.1 hs
    obtain ⟨l, hl⟩ : ∃ l, l = GL z4.1 set (z4.1 128) := ⟨_, rfl⟩
    rw [← hl] at hm hc ok
    by_cases hg : 1 ≤ set ∧ set < 16 ∧ 0 < l.length
    · have hle := hC_le ok.2.1 hg.2.2
      obtain ⟨v, hv⟩ : ∃ v : Int, v = if w = -1 then (hC l : Int) else if w < (hC l : Int) then lP l (hJ l w.toNat) else -1 := ⟨_, rfl⟩
      have kv : k32 v := by
        rw [hv]
        split
        · exact ⟨by omega, by omega⟩
        · split
          · have := bP ok.2.2 (hJ_lt ok.2.1 hg.2.2 (i := w.toNat) (by omega))
            exact ⟨by omega, by omega⟩
          · decide
      refine qri_of v ?_ ?_ kv
      · unfold q_X11_hull
        simp only [kwp_kg, kwp_kif, kwp_kb, kwp_some]
        refine ⟨hw, fun q => by omega, fun _ => w_mono hc ?_⟩
        rintro ⟨b', z'⟩ h
        rcases h with ⟨h, _⟩ | ⟨_, rfl, hS⟩
        · exact absurd hg h
        · refine ⟨fun q => absurd q kz_t, fun _ => w_mono (q_hasOutline (set := set) hH.1 hl hg.2.2 hS) (fun z2 ho => ⟨fun q => w_of (show q_X5_count z2 = some z2.2.2.2 from rfl) ?_, fun q => ?_⟩)⟩
          · rw [ho.1, hv, if_pos q]
          · rw [hv, if_neg q]
            unfold q_X5_number
            simp only [kwp_kg, kwp_kif, kwp_some]
            rw [ho.1]
            refine ⟨hw, fun q2 => by omega, fun _ => ⟨⟨by omega, by omega⟩, fun q2 => ?_, fun q2 => ⟨⟨by omega, by omega⟩, ?_⟩⟩⟩
            · rw [if_neg (by omega)]
            · rw [if_pos (by omega)]
              exact (ho.2.2 w.toNat (by omega)).2.2.2
      · unfold q_X12_hull
        simp only [kwp_kg, kwp_kif, kwp_kb, kwp_some]
        refine ⟨hw, fun q => by omega, fun _ => w_mono hm ?_⟩
        rintro ⟨b', m2⟩ ⟨f2, h⟩
        rcases h with ⟨h, _⟩ | ⟨_, rfl, hS, h37, h35⟩
        · exact absurd hg h
        · dsimp only at f2 hS h37 h35 ⊢
          have fm := FQ_frm f2
          rw [h37]
          refine ⟨fun q => absurd q kz_t, fun _ => ⟨fun q => ⟨by rw [hv, if_pos q], fm⟩, fun q => ⟨⟨by omega, by omega⟩, fun q2 => ⟨by rw [hv, if_neg q, if_neg (by omega)], fm⟩, fun q2 => ?_⟩⟩⟩
          have lt := hJ_lt ok.2.1 hg.2.2 (i := w.toNat) (by omega)
          rw [h35 w.toNat (by omega), Int.toNat_natCast]
          refine ⟨⟨by omega, by omega⟩, ⟨by omega, by omega⟩, ?_, fm⟩
          rw [hv, if_neg q, if_pos (by omega)]
          exact (hS.2.2 _ lt).2.2
    · refine qri_of (-1) ?_ ?_ (by decide)
      · unfold q_X11_hull
        simp only [kwp_kg, kwp_kif, kwp_kb, kwp_some]
        refine ⟨hw, fun q => by omega, fun _ => w_mono hc ?_⟩
        rintro ⟨b', z'⟩ h
        rcases h with ⟨_, rfl⟩ | ⟨h, _⟩
        · exact ⟨fun _ => (by first | exact trivial | rfl), fun q => (q (by trivial)).elim⟩
        · exact absurd h hg
      · unfold q_X12_hull
        simp only [kwp_kg, kwp_kif, kwp_kb, kwp_some]
        refine ⟨hw, fun q => by omega, fun _ => w_mono hm ?_⟩
        rintro ⟨b', m2⟩ ⟨f2, h⟩
        rcases h with ⟨_, rfl⟩ | ⟨h, _⟩
        · exact ⟨fun _ => ⟨(by first | exact trivial | rfl), FQ_frm f2⟩, fun q => (q (by trivial)).elim⟩
        · exact absurd h hg
  · refine qri_of (-1) ?_ ?_ (by decide)
    · unfold q_X11_hull
      simp only [kwp_kg, kwp_kif, kwp_kb, kwp_some]
      exact ⟨hw, fun _ => (by first | exact trivial | rfl), fun q => by omega⟩
    · unfold q_X12_hull
      simp only [kwp_kg, kwp_kif, kwp_kb, kwp_some]
      exact ⟨hw, fun _ => ⟨(by first | exact trivial | rfl), FRM_rfl m⟩, fun q => by omega⟩
