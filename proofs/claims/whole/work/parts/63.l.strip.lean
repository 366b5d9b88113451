/-! ===== strip, box: both ===== -/
theorem nrV_k {l : List Spt} (hs : sorL l) (hb : bdL l) (h0 : 0 < l.length) (h2 : 2 ≤ hC l) (bx : Bool) (w : Int) : k64 (nrV l bx w) := by
  have ni := nS_le l bx (hC l - 1)
  have k2 := uS_k hs hb h0 h2 bx (i := nS l bx (hC l - 1)) (by omega)
  have bp := bP hb (hJ_lt hs h0 (i := nS l bx (hC l - 1)) (by omega))
  unfold nrV
  split
  · exact k64_63 (fN_k k2.2.2.1 k2.2.1)
  · split
    · exact k64_63 (fD_k k2.2.2.1 k2.2.2.2)
    · exact ⟨by omega, by omega⟩
theorem T_strip {z11 : tZ11} {z4 : tZ4} {z9 : tZ9} {z10 : tZ10} {z8 : tZ8} {z5 : tZ5} {z3 : tZ3} {m : tZ12} (H : REL z4 z9 z10 m) {set w : Int} (hs : k32 set) (hw : k32 w) : QRY m (q_X11_strip z11 z4 z8 z5 z3 set w) (q_X12_strip m set w) := by
  have hH := H.1.1
  have ok := LG_ok hH.1 set
  have hm := qm_narrowest hH hs hw (bx := false) (v3 := 0) rfl
  by_cases hg : (0 ≤ w ∧ w ≤ 2) ∧ wdS z4 set
  · obtain ⟨hw2, hg⟩ := hg
    have h2 : 2 ≤ hC (LG z4 set) := by have := hg.2; omega
    refine qry_of (nrV (LG z4 set) false w) ?_ ?_ (nrV_k ok.2.1 ok.2.2 hg.1.2.2 h2 _ _)
    · unfold q_X11_strip
      simp only [kwp_kg, kwp_kif, kwp_kb, kwp_some]
      refine ⟨hw, fun q => by omega, fun _ => ⟨fun q => by omega, fun _ => w_mono (wide_t hH.1 hs hg) ?_⟩⟩
      rintro ⟨b', z', z2⟩ ⟨e, hS, ho⟩
      dsimp only at e hS ho ⊢
      subst e
      refine ⟨fun q => absurd q kz_t, fun _ => w_mono (q_narrowest ok.2.1 ok.2.2 hg.1.2.2 h2 ho z3) ?_⟩
      rintro ⟨x, f⟩ ⟨e1, e2⟩
      dsimp only at e1 e2 ⊢
      have ni := nS_le (LG z4 set) false (hC (LG z4 set) - 1)
      have bp := bP ok.2.2 (hJ_lt ok.2.1 hg.1.2.2 (i := nS (LG z4 set) false (hC (LG z4 set) - 1)) (by omega))
      refine ⟨fun q => ⟨⟨by omega, by omega⟩, ?_⟩, fun q => w_of (q_part hw) ?_⟩
      · unfold nrV
        rw [if_neg (by omega), if_neg (by omega)]
        exact e1
      · unfold nrV
        rw [e2]
        by_cases q0 : w = 0
        · rw [if_pos q0, if_pos q0]
        · rw [if_neg q0, if_neg q0, if_pos (by omega)]
    · unfold q_X12_strip
      simp only [kwp_kb, kwp_some]
      exact w_mono hm (fun r h => ⟨h.2.1 ⟨hw2, hg⟩, h.1⟩)
  · refine qry_of (-1) ?_ ?_ (by decide)
    · unfold q_X11_strip
      simp only [kwp_kg, kwp_kif, kwp_kb, kwp_some]
      refine ⟨hw, fun _ => (by first | exact trivial | rfl), fun q0 => ⟨fun _ => (by first | exact trivial | rfl), fun q1 => w_mono (wide_f hH.1 hs (fun x => hg ⟨⟨by omega, by omega⟩, x⟩)) ?_⟩⟩
      rintro ⟨b', z', z2⟩ e
      dsimp only at e ⊢
      subst e
      exact ⟨fun _ => (by first | exact trivial | rfl), fun q => (q (by trivial)).elim⟩
    · unfold q_X12_strip
      simp only [kwp_kb, kwp_some]
      exact w_mono hm (fun r h => ⟨h.2.2 hg, h.1⟩)
theorem T_box {z11 : tZ11} {z4 : tZ4} {z9 : tZ9} {z10 : tZ10} {z8 : tZ8} {z5 : tZ5} {z3 : tZ3} {m : tZ12} (H : REL z4 z9 z10 m) {set w : Int} (hs : k32 set) (hw : k32 w) : QRY m (q_X11_box z11 z4 z8 z5 z3 set w) (q_X12_box m set w) := by
  have hH := H.1.1
  have ok := LG_ok hH.1 set
  have hm := qm_narrowest hH hs hw (bx := true) (v3 := 1) rfl
  by_cases hg : (0 ≤ w ∧ w ≤ 2) ∧ wdS z4 set
  · obtain ⟨hw2, hg⟩ := hg
    have h2 : 2 ≤ hC (LG z4 set) := by have := hg.2; omega
    refine qry_of (nrV (LG z4 set) true w) ?_ ?_ (nrV_k ok.2.1 ok.2.2 hg.1.2.2 h2 _ _)
    · unfold q_X11_box
      simp only [kwp_kg, kwp_kif, kwp_kb, kwp_some]
      refine ⟨hw, fun q => by omega, fun _ => ⟨fun q => by omega, fun _ => w_mono (wide_t hH.1 hs hg) ?_⟩⟩
      rintro ⟨b', z', z2⟩ ⟨e, hS, ho⟩
      dsimp only at e hS ho ⊢
      subst e
      refine ⟨fun q => absurd q kz_t, fun _ => w_mono (q_leastBox ok.2.1 ok.2.2 hg.1.2.2 h2 ho z3) ?_⟩
      rintro ⟨x, f⟩ ⟨e1, e2⟩
      dsimp only at e1 e2 ⊢
      have ni := nS_le (LG z4 set) true (hC (LG z4 set) - 1)
      have bp := bP ok.2.2 (hJ_lt ok.2.1 hg.1.2.2 (i := nS (LG z4 set) true (hC (LG z4 set) - 1)) (by omega))
      refine ⟨fun q => ⟨⟨by omega, by omega⟩, ?_⟩, fun q => w_of (q_part hw) ?_⟩
      · unfold nrV
        rw [if_neg (by omega), if_neg (by omega)]
        exact e1
      · unfold nrV
        rw [e2]
        by_cases q0 : w = 0
        · rw [if_pos q0, if_pos q0]
        · rw [if_neg q0, if_neg q0, if_pos (by omega)]
    · unfold q_X12_box
      simp only [kwp_kb, kwp_some]
      exact w_mono hm (fun r h => ⟨h.2.1 ⟨hw2, hg⟩, h.1⟩)
  · refine qry_of (-1) ?_ ?_ (by decide)
    · unfold q_X11_box
      simp only [kwp_kg, kwp_kif, kwp_kb, kwp_some]
      refine ⟨hw, fun _ => (by first | exact trivial | rfl), fun q0 => ⟨fun _ => (by first | exact trivial | rfl), fun q1 => w_mono (wide_f hH.1 hs (fun x => hg ⟨⟨by omega, by omega⟩, x⟩)) ?_⟩⟩
      rintro ⟨b', z', z2⟩ e
      dsimp only at e ⊢
      subst e
      exact ⟨fun _ => (by first | exact trivial | rfl), fun q => (q (by trivial)).elim⟩
    · unfold q_X12_box
      simp only [kwp_kb, kwp_some]
      exact w_mono hm (fun r h => ⟨h.2.2 hg, h.1⟩)
