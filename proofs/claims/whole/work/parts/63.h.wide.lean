/-! ===== a SET that is good: what both have before them ===== -/
noncomputable def LG (z4 : tZ4) (set : Int) : List Spt := GL z4.1 set (z4.1 128)
def gdS (z4 : tZ4) (set : Int) : Prop := 1 ≤ set ∧ set < 16 ∧ 0 < (LG z4 set).length
theorem LG_ok {z4 : tZ4} (H : VR z4.1) (set : Int) : (LG z4 set).length ≤ 40 ∧ sorL (LG z4 set) ∧ bdL (LG z4 set) := GL_ok (set := set) H H.2.2
theorem gath_t {z11 : tZ11} {z4 : tZ4} {z8 : tZ8} {set : Int} (H : VR z4.1) (hs : k32 set) (hg : gdS z4 set) : kwp (q_X11_gather z11 z4 z8 set) (fun x => x.1 = true ∧ SPc x.2 (LG z4 set)) :=
  w_mono (q_gather H hs) (fun x h => by
    rcases h with ⟨h, _⟩ | ⟨_, h1, h2⟩
    · exact absurd hg h
    · exact ⟨h1, h2⟩)
theorem gath_f {z11 : tZ11} {z4 : tZ4} {z8 : tZ8} {set : Int} (H : VR z4.1) (hs : k32 set) (hg : ¬ gdS z4 set) : kwp (q_X11_gather z11 z4 z8 set) (fun x => x.1 = false) :=
  w_mono (q_gather H hs) (fun x h => by
    rcases h with ⟨_, h⟩ | ⟨h, _⟩
    · exact h
    · exact absurd h hg)
def MH (m : tZ12) (l : List Spt) : Prop := SPm m l ∧ m.1 37 = (hC l : Int) ∧ ∀ i, i < hC l → m.2.2.1 35 i = (hJ l i : Int)
theorem hulm_t {z4 : tZ4} {m : tZ12} (H : HR z4.1 (m.2.2.1 0)) {set : Int} (hs : k32 set) (hg : gdS z4 set) : kwp (q_X12_hasHull m set) (fun x => x.1 = true ∧ FQ m x.2 ∧ MH x.2 (LG z4 set)) :=
  w_mono (qm_hasHull H hs) (fun x h => by
    rcases h with ⟨f, ⟨h, _⟩ | ⟨_, h1, h2, h3, h4⟩⟩
    · exact absurd hg h
    · exact ⟨h1, f, h2, h3, h4⟩)
theorem hulm_f {z4 : tZ4} {m : tZ12} (H : HR z4.1 (m.2.2.1 0)) {set : Int} (hs : k32 set) (hg : ¬ gdS z4 set) : kwp (q_X12_hasHull m set) (fun x => x.1 = false ∧ FQ m x.2) :=
  w_mono (qm_hasHull H hs) (fun x h => by
    rcases h with ⟨f, ⟨_, h⟩ | ⟨h, _⟩⟩
    · exact ⟨h, f⟩
    · exact absurd h hg)
theorem hull_fc {z4 : tZ4} (H : VR z4.1) {set : Int} (hg : gdS z4 set) : hC (LG z4 set) ≤ (LG z4 set).length ∧ 0 < hC (LG z4 set) ∧ (∀ i, i < hC (LG z4 set) → hJ (LG z4 set) i < (LG z4 set).length) :=
  ⟨hC_le (LG_ok H set).2.1 hg.2.2, hC_pos hg.2.2, fun _ hi => hJ_lt (LG_ok H set).2.1 hg.2.2 hi⟩
theorem hJ_ne {l : List Spt} (hs : sorL l) (h0 : 0 < l.length) {i j : Nat} (hi : i < hC l) (hj : j < hC l) (h : i ≠ j) : hJ l i ≠ hJ l j :=
  fun e => h ((hI2_inj hs (P := aP) (last := l.length - 1) (by omega) rfl (fun k _ _ => by omega)).2 i j hi hj e)
theorem hJ_dif {l : List Spt} (hs : sorL l) (h0 : 0 < l.length) {i j : Nat} (hi : i < hC l) (hj : j < hC l) (h : i ≠ j) : lX l (hJ l i) ≠ lX l (hJ l j) ∨ lY l (hJ l i) ≠ lY l (hJ l j) :=
  dif_sor hs _ _ (hJ_lt hs h0 hi) (hJ_lt hs h0 hj) (hJ_ne hs h0 hi hj h)
theorem nx_ne {c i : Nat} (hc : 2 ≤ c) (hi : i < c) : nx c i ≠ i := by
  unfold nx
  split <;> omega
def wdS (z4 : tZ4) (set : Int) : Prop := gdS z4 set ∧ 2 < hC (LG z4 set)
theorem wide_t {z11 : tZ11} {z4 : tZ4} {z8 : tZ8} {z5 : tZ5} {set : Int} (H : VR z4.1) (hs : k32 set) (hg : wdS z4 set) :
    kwp (q_X11_outlineIsWide z11 z4 z8 z5 set) (fun x => x.1 = true ∧ SPc x.2.1 (LG z4 set) ∧ OU x.2.2 (LG z4 set) (hJ (LG z4 set)) (hC (LG z4 set))) := by
  have fc := hull_fc H hg.1
  have ok := LG_ok H set
  have hw := hg.2
  unfold q_X11_outlineIsWide
  simp only [kwp_kg, kwp_kif, kwp_kb, kwp_some]
  refine w_mono (gath_t H hs hg.1) ?_
  rintro ⟨b', z'⟩ ⟨e, hS⟩
  dsimp only at e hS ⊢
  subst e
  refine ⟨fun q => absurd q kz_t, fun _ => w_mono (q_hasOutline (set := set) (l := LG z4 set) H rfl hg.1.2.2 hS) (fun z2 ho => ?_)⟩
  have oc := ho.1
  unfold q_X5_count
  simp only [kwp_kg, kwp_kif, kwp_kb, kwp_some]
  exact ⟨⟨by omega, by omega⟩, fun q => by omega, fun _ => ⟨(by first | exact trivial | rfl), hS, ho⟩⟩
theorem wide_f {z11 : tZ11} {z4 : tZ4} {z8 : tZ8} {z5 : tZ5} {set : Int} (H : VR z4.1) (hs : k32 set) (hg : ¬ wdS z4 set) :
    kwp (q_X11_outlineIsWide z11 z4 z8 z5 set) (fun x => x.1 = false) := by
  unfold q_X11_outlineIsWide
  simp only [kwp_kg, kwp_kif, kwp_kb, kwp_some]
  by_cases h : gdS z4 set
  · have fc := hull_fc H h
    have ok := LG_ok H set
    refine w_mono (gath_t H hs h) ?_
    rintro ⟨b', z'⟩ ⟨e, hS⟩
    dsimp only at e hS ⊢
    subst e
    refine ⟨fun q => absurd q kz_t, fun _ => w_mono (q_hasOutline (set := set) (l := LG z4 set) H rfl h.2.2 hS) (fun z2 ho => ?_)⟩
    have oc := ho.1
    have nw : ¬ 2 < hC (LG z4 set) := fun q => hg ⟨h, q⟩
    unfold q_X5_count
    simp only [kwp_kg, kwp_kif, kwp_kb, kwp_some]
    exact ⟨⟨by omega, by omega⟩, fun q => (by first | exact trivial | rfl), fun q => by omega⟩
  · refine w_mono (gath_f H hs h) ?_
    rintro ⟨b', z'⟩ e
    dsimp only at e ⊢
    subst e
    exact ⟨fun _ => (by first | exact trivial | rfl), fun q => (q (by trivial)).elim⟩
theorem widm_t {z4 : tZ4} {m : tZ12} (H : HR z4.1 (m.2.2.1 0)) {set : Int} (hs : k32 set) (hg : wdS z4 set) : kwp (q_X12_isWide m set) (fun x => x.1 = true ∧ FQ m x.2 ∧ MH x.2 (LG z4 set)) := by
  have fc := hull_fc H.1 hg.1
  have ok := LG_ok H.1 set
  have hw := hg.2
  unfold q_X12_isWide
  simp only [kwp_kg, kwp_kif, kwp_kb, kwp_some]
  refine w_mono (hulm_t H hs hg.1) ?_
  rintro ⟨b', m'⟩ ⟨e, f, hS⟩
  dsimp only at e f hS ⊢
  subst e
  have h37 := hS.2.1
  exact ⟨fun q => absurd q kz_t, fun _ => ⟨⟨by omega, by omega⟩, fun q => by omega, fun _ => ⟨(by first | exact trivial | rfl), f, hS⟩⟩⟩
theorem widm_f {z4 : tZ4} {m : tZ12} (H : HR z4.1 (m.2.2.1 0)) {set : Int} (hs : k32 set) (hg : ¬ wdS z4 set) : kwp (q_X12_isWide m set) (fun x => x.1 = false ∧ FQ m x.2) := by
  unfold q_X12_isWide
  simp only [kwp_kg, kwp_kif, kwp_kb, kwp_some]
  by_cases h : gdS z4 set
  · have fc := hull_fc H.1 h
    have ok := LG_ok H.1 set
    refine w_mono (hulm_t H hs h) ?_
    rintro ⟨b', m'⟩ ⟨e, f, hS⟩
    dsimp only at e f hS ⊢
    subst e
    have nw : ¬ 2 < hC (LG z4 set) := fun q => hg ⟨h, q⟩
    have h37 := hS.2.1
    exact ⟨fun q => absurd q kz_t, fun _ => ⟨⟨by omega, by omega⟩, fun q => ⟨(by first | exact trivial | rfl), f⟩, fun q => by omega⟩⟩
  · refine w_mono (hulm_f H hs h) ?_
    rintro ⟨b', m'⟩ ⟨e, f⟩
    dsimp only at e f ⊢
    subst e
    exact ⟨fun _ => ⟨(by first | exact trivial | rfl), f⟩, fun q => (q (by trivial)).elim⟩
