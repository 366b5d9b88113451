/-! ===== write ===== -/
def wrF (l : List Spt) (h : Nat → Nat) : Nat → List Int
  | 0 => []
  | n + 1 => nuB (nuB (wrF l h n) (lX l (h n)) ++ [44]) (lY l (h n)) ++ [59]
theorem wrF_len (l : List Spt) (h : Nat → Nat) : ∀ n, (wrF l h n).length ≤ 10 * n
  | 0 => Nat.le_refl _
  | n + 1 => by
    have ih := wrF_len l h n
    have e : wrF l h (n + 1) = nuB (nuB (wrF l h n) (lX l (h n)) ++ [44]) (lY l (h n)) ++ [59] := rfl
    have a := (nuB_len (wrF l h n) (lX l (h n))).2.2.2
    have b := (nuB_len (nuB (wrF l h n) (lX l (h n)) ++ [44]) (lY l (h n))).2.2.2
    rw [len_app] at b
    rw [e, len_app]
    omega
theorem FW_hm {a b : tZ12} {l : List Spt} (h : FW a b) (H : MH a l) : MH b l := by
  obtain ⟨⟨s1, s2, s3⟩, h2, h3⟩ := H
  refine ⟨⟨by rw [h.1 15 (by decide)]; exact s1, s2, fun i hi => ?_⟩, by rw [h.1 37 (by decide)]; exact h2, fun i hi => by rw [h.2.2.1 35 (by decide)]; exact h3 i hi⟩
  rw [h.2.2.1 12 (by decide), h.2.2.1 13 (by decide), h.2.2.1 14 (by decide)]
  exact s3 i hi
theorem REL_fw {z4 : tZ4} {z9 : tZ9} {z10 z10' : tZ10} {m m1 m2 : tZ12} (H : REL z4 z9 z10 m) (h1 : FRM m m1) (h2 : ∀ j, j ≠ 55 → m2.1 j = m1.1 j) (h3 : ∀ j, j ≠ 54 → m2.2.2.1 j = m1.2.2.1 j) (hw : WR z10' m2) : REL z4 z9 z10' m2 := by
  have A := DR_frm h1 H.1
  have B := TR_frm h1 H.2.1
  refine ⟨?_, ?_, hw⟩
  · unfold DR at *
    rw [h3 0 (by decide), h3 1 (by decide), h2 2 (by decide)]
    exact A
  · unfold TR at *
    rw [h3 3 (by decide), h2 4 (by decide), h2 6 (by decide)]
    exact B
theorem q_writeL {z11 : tZ11} {z4 : tZ4} {z8 : tZ8} {z : tZ5} {l : List Spt} {h : Nat → Nat} {c : Nat} (hb : bdL l) (H : OU z l h c) (hc : c ≤ 40) {v1 : Int} {z10 : tZ10} (hz : WLc z10 []) :
    kwp (kitr 30 (fun q => q_X11_write_L30 z11 z4 v1 z8 z q) kF ((0 : Int), z10)) (fun e => e.1 = 95 ∧ WLc e.2.2 (wrF l h c)) := by
  refine w_mono (w_for (ex := 95) (by decide) (fun i (s : Int × tZ10) => s.1 = (i : Int) ∧ WLc s.2 (wrF l h i)) c ?_ ?_ (Nat.zero_le _) (by have := kF_eq; omega) ⟨rfl, hz⟩) (fun e g => ⟨g.1, g.2.2⟩)
  · rintro i ⟨t, w⟩ hi ⟨g1, g2⟩
    dsimp only at g1 g2
    subst g1
    have a := H.2.2 i hi
    have b := bX hb a.1
    have ln := wrF_len l h i
    have n1 := (nuB_len (wrF l h i) (lX l (h i))).2.2.2
    have n2 := (nuB_len (nuB (wrF l h i) (lX l (h i)) ++ [44]) (lY l (h i))).2.2.2
    rw [len_app] at n2
    unfold q_X11_write_L30 q_X5_count
    dsimp only
    rw [H.1, q_ox (by rw [H.1]; omega) (by rw [H.1]; omega), q_oy (by rw [H.1]; omega) (by rw [H.1]; omega), a.2.1, a.2.2.1]
    simp only [kwp_kb, kwp_some, kwp_kg, kwp_kif, kwp_kl]
    refine ⟨⟨⟨by omega, by omega⟩, ⟨by omega, by omega⟩⟩, fun q => by omega, fun _ => w_mono (q_addNumber g2 (by omega) (by omega)) (fun y1 h1 => w_mono (q_addByte h1 (by omega) (by decide)) (fun y2 h2 => w_mono (q_addNumber h2 (by omega) (by rw [len_app]; omega)) (fun y3 h3 => w_mono (q_addByte h3 (by omega) (by decide)) (fun y4 h4 => ⟨by trivial, by omega, h4⟩))))⟩
  · rintro ⟨t, w⟩ ⟨g1, g2⟩
    dsimp only at g1 g2
    subst g1
    unfold q_X11_write_L30 q_X5_count
    dsimp only
    rw [H.1]
    simp only [kwp_kb, kwp_some, kwp_kg, kwp_kif, kwp_kl]
    exact ⟨⟨⟨by omega, by omega⟩, ⟨by omega, by omega⟩⟩, fun _ => ⟨by trivial, by trivial, g2⟩, fun q => by omega⟩
theorem qm_writeL {m : tZ12} {l : List Spt} (hs : sorL l) (hb : bdL l) (hl40 : l.length ≤ 40) (h0 : 0 < l.length) (HM : MH m l) {v1 : Int} (hz : WLm m []) :
    kwp (kitr 17 (fun q => q_X12_write_L17 v1 q) kF ((0 : Int), m)) (fun e => e.1 = 73 ∧ FW m e.2.2 ∧ WLm e.2.2 (wrF l (hJ l) (hC l))) := by
  have hle := hC_le hs h0
  refine w_mono (w_for (ex := 73) (by decide) (fun i (s : Int × tZ12) => s.1 = (i : Int) ∧ FW m s.2 ∧ WLm s.2 (wrF l (hJ l) i)) (hC l) ?_ ?_ (Nat.zero_le _) (by have := kF_eq; omega) ⟨rfl, FW_rfl m, hz⟩) (fun e g => ⟨g.1, g.2.2⟩)
  · rintro i ⟨t, mm⟩ hi ⟨g1, g2, g3⟩
    dsimp only at g1 g2 g3
    subst g1
    have H' := FW_hm g2 HM
    have hj := hJ_lt hs h0 hi
    have b := bX hb hj
    have sp := SPm_at H'.1 hj
    have ln := wrF_len l (hJ l) i
    have n1 := (nuB_len (wrF l (hJ l) i) (lX l (hJ l i))).2.2.2
    have n2 := (nuB_len (nuB (wrF l (hJ l) i) (lX l (hJ l i)) ++ [44]) (lY l (hJ l i))).2.2.2
    rw [len_app] at n2
    unfold q_X12_write_L17
    dsimp only
    rw [H'.2.1]
    simp only [kwp_kb, kwp_some, kwp_kg, kwp_kif, kwp_kl]
    rw [Int.toNat_natCast, H'.2.2 i hi, Int.toNat_natCast, sp.1]
    refine ⟨⟨⟨by omega, by omega⟩, ⟨by omega, by omega⟩⟩, fun q => by omega, fun _ => ⟨⟨by omega, by omega⟩, ⟨by omega, by omega⟩, w_mono (qm_layNumber g3 (by omega) (by omega)) (fun y1 h1 => w_mono (qm_lay1 h1.2 (by omega) (by decide)) (fun y2 h2 => ?_))⟩⟩
    have f2 := FW_trans g2 (FW_trans h1.1 h2.1)
    have H2 := FW_hm f2 HM
    have sp2 := SPm_at H2.1 hj
    rw [H2.2.2 i hi, Int.toNat_natCast, sp2.2.1]
    exact ⟨⟨by omega, by omega⟩, w_mono (qm_layNumber h2.2 (by omega) (by rw [len_app]; omega)) (fun y3 h3 => w_mono (qm_lay1 h3.2 (by omega) (by decide)) (fun y4 h4 => ⟨by trivial, by omega, FW_trans f2 (FW_trans h3.1 h4.1), h4.2⟩))⟩
  · rintro ⟨t, mm⟩ ⟨g1, g2, g3⟩
    dsimp only at g1 g2 g3
    subst g1
    have H' := FW_hm g2 HM
    unfold q_X12_write_L17
    dsimp only
    rw [H'.2.1]
    simp only [kwp_kb, kwp_some, kwp_kg, kwp_kif, kwp_kl]
    exact ⟨⟨⟨by omega, by omega⟩, ⟨by omega, by omega⟩⟩, fun _ => ⟨by trivial, by trivial, g2, g3⟩, fun q => by omega⟩
theorem T_write {z11 : tZ11} {z4 : tZ4} {z9 : tZ9} {z10 : tZ10} {z8 : tZ8} {z5 : tZ5} {m : tZ12} (H : REL z4 z9 z10 m) {set : Int} (hs : k32 set) :
    kwp (q_X11_write z11 z4 z8 z5 z10 set) (fun r => kwp (q_X12_write m set) (fun r' => r.1 = r'.1 ∧ k32 r.1 ∧ REL z4 z9 r.2.2.2 r'.2)) := by
  have hH := H.1.1
  have ok := LG_ok hH.1 set
  unfold q_X11_write q_X12_write q_X10_clear q_X10_length
  simp only [kwp_kg, kwp_kif, kwp_kb, kwp_some, kwp_kl]
  by_cases hg : gdS z4 set
  · obtain ⟨hle, hp, hj⟩ := hull_fc hH.1 hg
    refine w_mono (gath_t hH.1 hs hg) ?_
    rintro ⟨b', z'⟩ ⟨e, hS⟩
    dsimp only at e hS ⊢
    subst e
    refine ⟨fun q => absurd q kz_t, fun _ => w_mono (q_hasOutline (set := set) (l := LG z4 set) hH.1 rfl hg.2.2 hS) (fun z2 ho => w_mono (q_writeL ok.2.2 ho (by omega) (z10 := (z10.1, 0)) ⟨rfl, fun i hi => absurd hi (Nat.not_lt_zero _)⟩) ?_)⟩
    rintro ⟨lb, t, w⟩ ⟨g0, g1⟩
    dsimp only at g0 g1 ⊢
    refine ⟨g0, w_mono (hulm_t hH hs hg) ?_⟩
    rintro ⟨b', m2⟩ ⟨e, f2, HM⟩
    dsimp only at e f2 HM ⊢
    subst e
    have fm := FQ_frm f2
    have f3 : FW m2 (va_up m2.1 55 0, m2.2) := ⟨fun j q => va_ne _ _ q, rfl, fun _ _ => rfl, rfl⟩
    refine ⟨fun q => absurd q kz_t, fun _ => w_mono (qm_writeL ok.2.1 ok.2.2 ok.1 hg.2.2 (FW_hm f3 HM) ⟨by show va_up m2.1 55 0 55 = _; rw [va_same]; rfl, fun i hi => absurd hi (Nat.not_lt_zero _)⟩) ?_⟩
    rintro ⟨lb', t', m4⟩ ⟨g0', g1', g2'⟩
    dsimp only at g0' g1' g2' ⊢
    have ln := wrF_len (LG z4 set) (hJ (LG z4 set)) (hC (LG z4 set))
    have f4 := FW_trans f3 g1'
    refine ⟨g0', by rw [g1.1, g2'.1], by rw [g1.1]; exact ⟨by omega, by omega⟩, REL_fw H fm f4.1 f4.2.2.1 ⟨by rw [g1.1, g2'.1], by rw [g2'.1]; omega, by rw [g2'.1]; omega, fun i hi => ?_⟩⟩
    rw [g2'.1] at hi
    have x1 := g1.2 i (by omega)
    have x2 := g2'.2 i (by omega)
    rw [x1.1, x2]
    exact ⟨rfl, by omega, by omega⟩
  · refine w_mono (gath_f hH.1 hs hg) ?_
    rintro ⟨b', z'⟩ e
    dsimp only at e ⊢
    subst e
    refine ⟨fun _ => w_mono (hulm_f hH hs hg) ?_, fun q => (q (by trivial)).elim⟩
    rintro ⟨b', m2⟩ ⟨e, f2⟩
    dsimp only at e f2 ⊢
    subst e
    exact ⟨fun _ => ⟨(by first | exact trivial | rfl), by decide, REL_frm (FQ_frm f2) H⟩, fun q => (q (by trivial)).elim⟩
