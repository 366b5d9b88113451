/-! ===== fewer ===== -/
theorem oc_isD {l : List Spt} (hb : bdL l) {s : (Nat → Cir) × Nat} (h : ∀ D, oc s D → isD l l.length D) : ∀ D, oc s D → bdC D := fun D hD => isD_bd hb (Nat.le_refl _) (h D hD)
theorem qm_few96 {m0 : tZ12} {l : List Spt} (HS : SPm m0 l) (hb : bdL l) (hl : l.length ≤ 12) {i j : Nat} (hi : i < l.length) (hj : j < i) {s : (Nat → Cir) × Nat} (hs : ∀ D, oc s D → isD l l.length D) {m : tZ12} (hf : FGm m0 m) {least : Int} (hk : k32 least) (h1 : 1 ≤ least) (h : MFw l least s m) {v1 v3 : Int} :
    kwp (kitr 96 (fun q => q_X12_fewer_L96 v1 least v3 (i : Int) (j : Int) q) kF ((0 : Int), m)) (fun e => e.1 = 127 ∧ FGm m0 e.2.2 ∧ MFw l least (d3F l i j s j) e.2.2) := by
  refine w_mono (w_for (ex := 127) (by decide) (fun k (x : Int × tZ12) => x.1 = (k : Int) ∧ FGm m0 x.2 ∧ MFw l least (d3F l i j s k) x.2) j ?_ ?_ (Nat.zero_le _) (by have := kF_eq; omega) ⟨rfl, hf, h⟩) (fun e g => ⟨g.1, g.2.2⟩)
  · rintro k ⟨x, w⟩ hk2 ⟨g1, g2, g3⟩
    dsimp only at g1 g2 g3
    subst g1
    have H := SPm_fg g2 HS
    have e : d3F l i j s (k + 1) = if tn (lX l) (lY l) i j k = 0 then d3F l i j s k else adF (d3F l i j s k) (c3 (lX l) (lY l) i j k) := rfl
    have od : ∀ D, oc (d3F l i j s k) D → isD l l.length D := fun D hD => by
      rcases (oc_d3 k).mp hD with w | ⟨q, h1, h2, h3⟩
      · exact hs D w
      · exact ⟨i, hi, Or.inr ⟨j, hj, Or.inr ⟨q, by omega, h2, h3⟩⟩⟩
    unfold q_X12_fewer_L96
    dsimp only
    simp only [kwp_kb, kwp_some, kwp_kg, kwp_kif, kwp_kl]
    refine ⟨⟨⟨by omega, by omega⟩, ⟨by omega, by omega⟩⟩, fun q => by omega, fun _ => w_mono (qm_triple H hb hi (show j < l.length by omega) (show k < l.length by omega)) (fun r hr => ?_)⟩
    rw [e]
    rcases hr with ⟨z, er⟩ | ⟨z, er, c1, c2, c3⟩
    · rw [if_pos z, er]
      exact ⟨fun _ => ⟨by trivial, by omega, g2, g3⟩, fun q => (q (by trivial)).elim⟩
    · rw [if_neg z, er]
      exact ⟨fun q => absurd q kz_t, fun _ => w_mono (qm_tryFew (FGm_c g2 c1) HS hb hl c3 hk h1 (MFw_c g3 c1 c2) (oc_isD hb od)) (fun m' hm' => ⟨by trivial, by omega, hm'.1, hm'.2⟩)⟩
  · rintro ⟨x, w⟩ ⟨g1, g2, g3⟩
    dsimp only at g1 g2 g3
    subst g1
    unfold q_X12_fewer_L96
    dsimp only
    simp only [kwp_kb, kwp_some, kwp_kg, kwp_kif, kwp_kl]
    exact ⟨⟨⟨by omega, by omega⟩, ⟨by omega, by omega⟩⟩, fun _ => ⟨by trivial, by trivial, g2, g3⟩, fun q => by omega⟩
theorem qm_few73 {m0 : tZ12} {l : List Spt} (HS : SPm m0 l) (hb : bdL l) (hl : l.length ≤ 12) {i : Nat} (hi : i < l.length) {s : (Nat → Cir) × Nat} (hs : ∀ D, oc s D → isD l l.length D) {m : tZ12} (hf : FGm m0 m) {least : Int} (hk : k32 least) (h1 : 1 ≤ least) (h : MFw l least s m) {v1 v3 : Int} :
    kwp (kitr 73 (fun q => q_X12_fewer_L73 v1 least v3 (i : Int) q) kF ((0 : Int), m)) (fun e => e.1 = 133 ∧ FGm m0 e.2.2 ∧ MFw l least (d2F l i s i) e.2.2) := by
  refine w_mono (w_for (ex := 133) (by decide) (fun j (x : Int × tZ12) => x.1 = (j : Int) ∧ FGm m0 x.2 ∧ MFw l least (d2F l i s j) x.2) i ?_ ?_ (Nat.zero_le _) (by have := kF_eq; omega) ⟨rfl, hf, h⟩) (fun e g => ⟨g.1, g.2.2⟩)
  · rintro j ⟨x, w⟩ hj ⟨g1, g2, g3⟩
    dsimp only at g1 g2 g3
    subst g1
    have H := SPm_fg g2 HS
    have od : ∀ D, oc (d2F l i s j) D → isD l l.length D := fun D hD => by
      rcases (oc_d2 j).mp hD with w | ⟨p, h1, h2⟩
      · exact hs D w
      · exact ⟨i, hi, Or.inr ⟨p, by omega, h2⟩⟩
    have od2 : ∀ D, oc (adF (d2F l i s j) (c2 (lX l) (lY l) i j)) D → isD l l.length D := fun D hD => by
      rcases oc_ad.mp hD with w | w
      · exact od D w
      · exact ⟨i, hi, Or.inr ⟨j, hj, Or.inl w⟩⟩
    unfold q_X12_fewer_L73
    dsimp only
    simp only [kwp_kb, kwp_some, kwp_kg, kwp_kif, kwp_kl]
    refine ⟨⟨⟨by omega, by omega⟩, ⟨by omega, by omega⟩⟩, fun q => by omega, fun _ => w_mono (qm_pair H hb hi (show j < l.length by omega)) (fun m1 hm1 => w_mono (qm_tryFew (FGm_c g2 hm1.1) HS hb hl hm1.2.2 hk h1 (MFw_c g3 hm1.1 hm1.2.1) (oc_isD hb od)) (fun m2 hm2 => w_mono (qm_few96 HS hb hl hi hj od2 hm2.1 hk h1 hm2.2) ?_))⟩
    rintro ⟨lb, x, w⟩ ⟨f0, f1, f2⟩
    dsimp only at f0 f1 f2 ⊢
    exact ⟨f0, by trivial, by omega, f1, f2⟩
  · rintro ⟨x, w⟩ ⟨g1, g2, g3⟩
    dsimp only at g1 g2 g3
    subst g1
    unfold q_X12_fewer_L73
    dsimp only
    simp only [kwp_kb, kwp_some, kwp_kg, kwp_kif, kwp_kl]
    exact ⟨⟨⟨by omega, by omega⟩, ⟨by omega, by omega⟩⟩, fun _ => ⟨by trivial, by trivial, g2, g3⟩, fun q => by omega⟩
theorem qm_few50 {m0 : tZ12} {l : List Spt} (HS : SPm m0 l) (hb : bdL l) (hl : l.length ≤ 12) {m : tZ12} (hf : FGm m0 m) {least : Int} (hk : k32 least) (h1 : 1 ≤ least) (h : m.1 50 = 0) {v1 v3 : Int} :
    kwp (kitr 50 (fun q => q_X12_fewer_L50 v1 least v3 q) kF ((0 : Int), m)) (fun e => e.1 = 139 ∧ FGm m0 e.2.2 ∧ MFw l least (d1F l l.length) e.2.2) := by
  refine w_mono (w_for (ex := 139) (by decide) (fun i (x : Int × tZ12) => x.1 = (i : Int) ∧ FGm m0 x.2 ∧ MFw l least (d1F l i) x.2) l.length ?_ ?_ (Nat.zero_le _) (by have := kF_eq; have := HS.2.1; omega) ⟨rfl, hf, Or.inl ⟨h, fun D ⟨t, ht, _⟩ => absurd ht (Nat.not_lt_zero _)⟩⟩) (fun e g => ⟨g.1, g.2.2⟩)
  · rintro i ⟨x, w⟩ hi ⟨g1, g2, g3⟩
    dsimp only at g1 g2 g3
    subst g1
    have H := SPm_fg g2 HS
    have od : ∀ D, oc (d1F l i) D → isD l l.length D := fun D hD => by
      obtain ⟨a, h1, h2⟩ := (oc_d1 i).mp hD
      exact ⟨a, by omega, h2⟩
    have od2 : ∀ D, oc (adF (d1F l i) (c1 (lX l) (lY l) i)) D → isD l l.length D := fun D hD => by
      rcases oc_ad.mp hD with w | w
      · exact od D w
      · exact ⟨i, hi, Or.inl w⟩
    unfold q_X12_fewer_L50
    dsimp only
    rw [H.1]
    simp only [kwp_kb, kwp_some, kwp_kg, kwp_kif, kwp_kl]
    refine ⟨⟨⟨by omega, by omega⟩, ⟨by omega, by omega⟩⟩, fun q => by omega, fun _ => w_mono (qm_one H hb hi) (fun m1 hm1 => w_mono (qm_tryFew (FGm_c g2 hm1.1) HS hb hl hm1.2.2 hk h1 (MFw_c g3 hm1.1 hm1.2.1) (oc_isD hb od)) (fun m2 hm2 => w_mono (qm_few73 HS hb hl hi od2 hm2.1 hk h1 hm2.2) ?_))⟩
    rintro ⟨lb, x, w⟩ ⟨f0, f1, f2⟩
    dsimp only at f0 f1 f2 ⊢
    exact ⟨f0, by trivial, by omega, f1, f2⟩
  · rintro ⟨x, w⟩ ⟨g1, g2, g3⟩
    dsimp only at g1 g2 g3
    subst g1
    unfold q_X12_fewer_L50
    dsimp only
    rw [(SPm_fg g2 HS).1]
    simp only [kwp_kb, kwp_some, kwp_kg, kwp_kif, kwp_kl]
    exact ⟨⟨⟨by omega, by omega⟩, ⟨by omega, by omega⟩⟩, fun _ => ⟨by trivial, by trivial, g2, g3⟩, fun q => by omega⟩
theorem T_fewer {z11 : tZ11} {z4 : tZ4} {z9 : tZ9} {z10 : tZ10} {z8 : tZ8} {z2 : tZ2} {z0 : tZ0} {z3 : tZ3} {m : tZ12} (H : REL z4 z9 z10 m) {set least w : Int} (hs : k32 set) (hk : k32 least) (hw : k32 w) : QRY m (q_X11_fewer z11 z4 z8 z2 z0 z3 set least w) (q_X12_fewer m set least w) := by
  have hH := H.1.1
  have ok := LG_ok hH.1 set
  by_cases hg : (0 ≤ w ∧ w ≤ 2) ∧ 1 ≤ least ∧ gdS z4 set ∧ (LG z4 set).length ≤ 12 ∧ least ≤ ((LG z4 set).length : Int)
  · obtain ⟨hw2, h1, hg, hl, hle⟩ := hg
    have h0 := hg.2.2
    have hm : kwp (q_X12_fewer m set least w) (fun r' => FRM m r'.2 ∧ ∃ C, bdC C ∧ FWc (LG z4 set) least (d1F (LG z4 set) (LG z4 set).length) C ∧ r'.1 = if w = 0 then szN C else if w = 1 then szD C else (inN (LG z4 set) C : Int)) := by
      unfold q_X12_fewer
      rw [qm_isIn hw (by decide) (by decide), decide_eq_true hw2]
      simp only [kwp_kg, kwp_kif, kwp_kb, kwp_some, kwp_kl]
      refine ⟨fun q => absurd q kz_t, fun _ => w_mono (laid_t hH hs hg) ?_⟩
      rintro ⟨b', m2⟩ ⟨e, f2, HS⟩
      dsimp only at e f2 HS ⊢
      subst e
      rw [HS.1, qm_isIn hk (by decide) ⟨by omega, by omega⟩, decide_eq_true (show 1 ≤ least ∧ least ≤ ((LG z4 set).length : Int) from ⟨h1, hle⟩)]
      simp only [kwp_some]
      refine ⟨fun q => absurd q kz_t, fun _ => ⟨⟨by omega, by omega⟩, fun q => by omega, fun _ => ⟨fun q => absurd q kz_t, fun _ => w_mono (qm_few50 (m0 := m2) HS ok.2.2 hl (m := (va_up m2.1 50 0, m2.2)) ⟨fun j q => va_ne _ _ q, rfl⟩ hk h1 (va_same m2.1 50 0)) ?_⟩⟩⟩
      rintro ⟨lb, x, m3⟩ ⟨g0, g1, g2⟩
      dsimp only at g0 g1 g2 ⊢
      have fm := FQ_frm (FQ_trans f2 (FGm_q g1))
      rcases g2 with ⟨_, no⟩ | ⟨C, c1, c2, c3, c4, c5⟩
      · exfalso
        obtain ⟨C, hC, okc⟩ := ok_ex ok.2.1 hl h0 hle
        exact no C hC okc
      · have il := inN_lt hl C
        rw [c3, c4, c5]
        refine ⟨g0, hw, fun q => ⟨fm, C, c1, c2, by rw [if_pos q]⟩, fun q => ⟨fun q1 => ⟨fm, C, c1, c2, by rw [if_neg q, if_pos q1]⟩, fun q1 => ⟨⟨by omega, by omega⟩, fm, C, c1, c2, by rw [if_neg q, if_neg q1]⟩⟩⟩
    unfold QRY q_X11_fewer
    simp only [kwp_kg, kwp_kif, kwp_kb, kwp_some]
    refine ⟨hw, fun q => by omega, fun _ => ⟨fun q => by omega, fun _ => ⟨hk, fun q => by omega, fun _ => w_mono (gath_t hH.1 hs hg) ?_⟩⟩⟩
    rintro ⟨b', z'⟩ ⟨e, hS⟩
    dsimp only at e hS ⊢
    subst e
    rw [q_sc hS]
    simp only [kwp_some]
    refine ⟨fun q => absurd q kz_t, fun _ => ⟨⟨by omega, by omega⟩, fun q => by omega, fun _ => ⟨⟨by omega, by omega⟩, fun _ => w_mono (q_aboutD hS ok.2.2 hl) (fun r hr => w_mono (q_holding hr ok.2.1 ok.2.2 hl h0 hk hle z3) ?_), fun q => by omega⟩⟩⟩
    rintro ⟨x, f⟩ ⟨C, c1, c2, c3, c4⟩
    dsimp only at c3 c4 ⊢
    subst c3 c4
    have il := inN_lt hl C
    have sk := sz_k c1
    have kC := bdC_k c1
    refine ⟨fun q => ⟨⟨by omega, by omega⟩, w_mono hm (fun r' h => ?_)⟩, fun q => ?_⟩
    · obtain ⟨fm, D, d1, d2, d3⟩ := h
      have o := FWc_only kC.1 (bdC_k d1).1 c2 d2
      rw [d3, if_neg (by omega), if_neg (by omega), ← o.2.2]
      exact ⟨rfl, ⟨by omega, by omega⟩, fm⟩
    · rw [q_part hw, kwp_some]
      refine w_mono hm (fun r' h => ?_)
      obtain ⟨fm, D, d1, d2, d3⟩ := h
      have o := FWc_only kC.1 (bdC_k d1).1 c2 d2
      rw [d3]
      by_cases q1 : w = 0
      · rw [if_pos q1, if_pos q1, ← o.1]
        exact ⟨rfl, k64_63 sk.2.1, fm⟩
      · rw [if_neg q1, if_neg q1, if_pos (by omega), ← o.2.1]
        exact ⟨rfl, k64_63 sk.2.2.2, fm⟩
  · refine qry_of (-1) ?_ ?_ (by decide)
    · unfold q_X11_fewer
      simp only [kwp_kg, kwp_kif, kwp_kb, kwp_some]
      refine ⟨hw, fun _ => (by first | exact trivial | rfl), fun q0 => ⟨fun _ => (by first | exact trivial | rfl), fun q1 => ⟨hk, fun _ => (by first | exact trivial | rfl), fun q2 => ?_⟩⟩⟩
      by_cases hgd : gdS z4 set
      · refine w_mono (gath_t hH.1 hs hgd) ?_
        rintro ⟨b', z'⟩ ⟨e, hS⟩
        dsimp only at e hS ⊢
        subst e
        rw [q_sc hS]
        simp only [kwp_some]
        exact ⟨fun q => absurd q kz_t, fun _ => ⟨⟨by omega, by omega⟩, fun _ => (by first | exact trivial | rfl), fun q3 => ⟨⟨by omega, by omega⟩, fun q4 => absurd ⟨⟨by omega, by omega⟩, by omega, hgd, by omega, q4⟩ hg, fun _ => (by first | exact trivial | rfl)⟩⟩⟩
      · refine w_mono (gath_f hH.1 hs hgd) ?_
        rintro ⟨b', z'⟩ e
        dsimp only at e ⊢
        subst e
        exact ⟨fun _ => (by first | exact trivial | rfl), fun q => (q (by trivial)).elim⟩
    · unfold q_X12_fewer
      rw [qm_isIn hw (by decide) (by decide)]
      simp only [kwp_kg, kwp_kif, kwp_kb, kwp_some, kwp_kl]
      refine ⟨fun _ => ⟨(by first | exact trivial | rfl), FRM_rfl m⟩, fun q0 => ?_⟩
      have b3 : 0 ≤ w ∧ w ≤ 2 := by
        cases e : decide (0 ≤ w ∧ w ≤ 2) with
        | true => exact of_decide_eq_true e
        | false => rw [e] at q0; exact absurd rfl q0
      by_cases hgd : gdS z4 set
      · refine w_mono (laid_t hH hs hgd) ?_
        rintro ⟨b', m2⟩ ⟨e, f2, HS⟩
        dsimp only at e f2 HS ⊢
        subst e
        rw [HS.1, qm_isIn hk (by decide) ⟨by omega, by omega⟩]
        simp only [kwp_some]
        refine ⟨fun q => absurd q kz_t, fun _ => ⟨⟨by omega, by omega⟩, fun _ => ⟨(by first | exact trivial | rfl), FQ_frm f2⟩, fun q3 => ⟨fun _ => ⟨(by first | exact trivial | rfl), FQ_frm f2⟩, fun q4 => ?_⟩⟩⟩
        have b4 : 1 ≤ least ∧ least ≤ ((LG z4 set).length : Int) := by
          cases e : decide (1 ≤ least ∧ least ≤ ((LG z4 set).length : Int)) with
          | true => exact of_decide_eq_true e
          | false => rw [e] at q4; exact absurd rfl q4
        exact absurd ⟨b3, b4.1, hgd, by omega, b4.2⟩ hg
      · refine w_mono (laid_f hH hs hgd) ?_
        rintro ⟨b', m2⟩ ⟨e, f2⟩
        dsimp only at e f2 ⊢
        subst e
        exact ⟨fun _ => ⟨(by first | exact trivial | rfl), FQ_frm f2⟩, fun q => (q (by trivial)).elim⟩
