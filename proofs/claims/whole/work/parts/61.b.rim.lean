def szN (C : Cir) : Int := fN (rN C) (C.2.2.2 * C.2.2.2)
def szD (C : Cir) : Int := fD (rN C) (C.2.2.2 * C.2.2.2)
theorem sz_P {C D : Cir} (hC : 0 < C.2.2.2) (hD : 0 < D.2.2.2) (h : cP C D) : szN C = szN D ∧ szD C = szD D := f_eq (Int.mul_pos hC hC) (Int.mul_pos hD hD) (rN_P h)
theorem sz_k {C : Cir} (h : bdC C) : 0 ≤ szN C ∧ k63 (szN C) ∧ 0 < szD C ∧ k63 (szD C) := by
  obtain ⟨k1, k2, k3, k4, k5, _⟩ := bdC_k h
  exact ⟨fN_nn k4 k2, fN_k k4 k3, fD_pos k4, fD_k k4 k5⟩
def sgC (C D : Cir) : Int := sgc (szN C) (szD C) (szN D) (szD D)
theorem sgC_P {C C' D D' : Cir} (hC : 0 < C.2.2.2) (hC' : 0 < C'.2.2.2) (hD : 0 < D.2.2.2) (hD' : 0 < D'.2.2.2) (h : cP C C') (g : cP D D') : sgC C D = sgC C' D' := by
  have a := sz_P hC hC' h
  have b := sz_P hD hD' g
  unfold sgC
  rw [a.1, a.2, b.1, b.2]
theorem q_sizeAgainst {z z' : tZ0} (h : BC z) (h' : BC z') : q_X0_sizeAgainst z z' = some (sgC (CZ z) (CZ z')) := by
  refine w_eq ?_
  obtain ⟨k1, k2, k3, k4, k5, _⟩ := bdC_k (bdC_z h)
  obtain ⟨j1, j2, j3, j4, j5, _⟩ := bdC_k (bdC_z h')
  have e : rN (CZ z) = z.2.2.2.1 * z.2.2.2.1 + z.2.2.2.2.1 * z.2.2.2.2.1 := rN_cB _ _ _ _ _
  have e' : rN (CZ z') = z'.2.2.2.1 * z'.2.2.2.1 + z'.2.2.2.2.1 * z'.2.2.2.2.1 := rN_cB _ _ _ _ _
  unfold q_X0_sizeAgainst q_X0_sizeAbove q_X0_sizeBelow
  rw [← e, ← e', show z.2.2.1 * z.2.2.1 = (CZ z).2.2.2 * (CZ z).2.2.2 from rfl, show z'.2.2.1 * z'.2.2.1 = (CZ z').2.2.2 * (CZ z').2.2.2 from rfl]
  simp only [kwp_kb, kwp_some]
  rw [q_compare (k64_63 k3) k4 (k64_63 k5) (k64_63 j3) j4 (k64_63 j5), kwp_some]
  unfold sgC szN szD
  rw [sgc_f k4, sgc_f2 j4]
theorem sd_P {C D : Cir} (hC : 0 < C.2.2.2) (hD : 0 < D.2.2.2) (h : cP C D) (x y : Int) : sd (pw C x y) = sd (pw D x y) := by
  have a := cP_in hC hD h (x := x) (y := y)
  have b := cP_on hD hC h (x := x) (y := y)
  unfold sd
  by_cases h1 : pw C x y < 0
  · rw [if_pos h1, if_pos (show pw D x y < 0 by omega)]
  · rw [if_neg h1, if_neg (show ¬ pw D x y < 0 by omega)]
    by_cases h2 : pw C x y = 0
    · rw [if_pos h2, if_pos (b.mpr h2)]
    · rw [if_neg h2, if_neg (fun w => h2 (b.mp w))]
theorem sd_0 (v : Int) : sd v = 0 ↔ v = 0 := by
  unfold sd
  split
  · constructor <;> intro h <;> omega
  · split
    · constructor <;> intro h <;> first | assumption | rfl
    · constructor <;> intro h <;> omega
def onR (C : Cir) (l : List Spt) (i : Nat) : Bool := decide (pw C (lX l i) (lY l i) = 0)
theorem onR_t {C : Cir} {l : List Spt} {i : Nat} : onR C l i = true ↔ pw C (lX l i) (lY l i) = 0 := by
  unfold onR
  exact decide_eq_true_iff
theorem onR_P {C D : Cir} (hC : 0 < C.2.2.2) (hD : 0 < D.2.2.2) (h : cP C D) (l : List Spt) : ∀ n, cntU (onR C l) n = cntU (onR D l) n := fun n => cntU_congr n (fun j _ => by
  unfold onR
  have b := cP_on hD hC h (x := lX l j) (y := lY l j)
  by_cases w : pw C (lX l j) (lY l j) = 0
  · rw [decide_eq_true w, decide_eq_true (b.mpr w)]
  · rw [decide_eq_false w, decide_eq_false (fun v => w (b.mp v))])
theorem q_countRim {z : tZ0} {z8 : tZ8} {l : List Spt} (H : BC z) (hS : SPc z8 l) (hb : bdL l) : q_X0_countOnRim z z8 = some (cntU (onR (CZ z) l) l.length : Int) := by
  refine w_eq ?_
  have hl := hS.2.1
  unfold q_X0_countOnRim
  refine w_kb (w_for (ex := 38) (by decide) (fun i (s : Int × Int) => s.2 = (i : Int) ∧ s.1 = (cntU (onR (CZ z) l) i : Int)) l.length ?_ ?_ (Nat.zero_le _) (by have := kF_eq; omega) ⟨rfl, rfl⟩) ?_
  · rintro i ⟨c, s⟩ hi ⟨rfl, rfl⟩
    have bx := bX hb hi
    unfold q_X0_countOnRim_L4
    rw [q_sc hS]
    simp only [kwp_kb, kwp_some, kwp_kg, kwp_kif, kwp_kl]
    rw [q_sx hS hi, kwp_some, q_sy hS hi, kwp_some, q_side H (by omega) (by omega), kwp_some, sd_0]
    have e : cntU (onR (CZ z) l) (i + 1) = cntU (onR (CZ z) l) i + if onR (CZ z) l i = true then 1 else 0 := rfl
    refine ⟨⟨⟨by omega, by omega⟩, ⟨by omega, by omega⟩⟩, fun q => by omega, fun _ => ⟨sd_k _, fun q => ⟨by trivial, by omega, ?_⟩, fun q => ⟨by trivial, by omega, ?_⟩⟩⟩
    · rw [e, if_pos (onR_t.mpr q)]
      omega
    · rw [e, if_neg (fun w => q (onR_t.mp w))]
      omega
  · rintro ⟨c, s⟩ ⟨rfl, h⟩
    dsimp only at h
    unfold q_X0_countOnRim_L4
    rw [q_sc hS]
    simp only [kwp_kb, kwp_some, kwp_kg, kwp_kif, kwp_kl]
    exact ⟨⟨⟨by omega, by omega⟩, ⟨by omega, by omega⟩⟩, fun _ => ⟨by trivial, by trivial, h⟩, fun q => by omega⟩
  · rintro ⟨lb, c, s⟩ ⟨h0, _, h⟩
    simp only [kwp_kg, kwp_some]
    exact ⟨h0, h⟩
theorem T_rim {z11 : tZ11} {z4 : tZ4} {z9 : tZ9} {z10 : tZ10} {z8 : tZ8} {z0 : tZ0} {m : tZ12} (H : REL z4 z9 z10 m) {set : Int} (hs : k32 set) : QRI m (q_X11_rim z11 z4 z8 z0 set) (q_X12_rim m set) := by
  have hH := H.1.1
  obtain ⟨⟨b, m1⟩, em, f1, hc⟩ := qm_hasCircle hH hs
  dsimp only at f1 hc
  have hg := q_gather (z11 := z11) (z8 := z8) hH.1 hs
  rcases hc with ⟨hno, rfl⟩ | ⟨hyes, rfl, hS, C, hC, hmec⟩
  · refine qri_of (-1) ?_ ?_ (by decide)
    · unfold q_X11_rim
      rw [kwp_kb]
      refine w_mono hg ?_
      rintro ⟨b', z'⟩ h
      simp only [kwp_kif, kwp_some]
      rcases h with ⟨_, rfl⟩ | ⟨h, _⟩
      · exact ⟨fun _ => (by first | exact trivial | rfl), fun q => (q (by trivial)).elim⟩
      · exact absurd h hno
    · unfold q_X12_rim
      refine w_kbe em ?_
      simp only [kwp_kif, kwp_some, kz_0]
      exact ⟨fun _ => ⟨(by first | exact trivial | rfl), FQ_frm f1⟩, fun q => (q (by trivial)).elim⟩
  · have ok := GL_ok (set := set) hH.1 hH.1.2.2
    have hcnt := cntU_le (onR C (GL z4.1 set (z4.1 128))) (GL z4.1 set (z4.1 128)).length
    refine qri_of (cntU (onR C (GL z4.1 set (z4.1 128))) (GL z4.1 set (z4.1 128)).length : Int) ?_ ?_ ⟨by omega, by omega⟩
    · unfold q_X11_rim
      rw [kwp_kb]
      refine w_mono hg ?_
      rintro ⟨b', z'⟩ h
      simp only [kwp_kif, kwp_some, kwp_kb]
      rcases h with ⟨h, _⟩ | ⟨_, rfl, hSc⟩
      · exact absurd hyes h
      · dsimp only at hSc ⊢
        refine ⟨fun q => absurd q kz_t, fun _ => w_mono (q_mec hH.1 hH.1.2.2 hSc hyes.2.2) (fun z'' ⟨g1, g2, g3, _⟩ => ?_)⟩
        rw [q_countRim g2 hSc ok.2.2, kwp_some, onR_P g1.1 hmec.1 (mecOf_only g1 hmec)]
    · unfold q_X12_rim
      refine w_kbe em ?_
      simp only [kwp_kif, kwp_some, kwp_kb]
      refine ⟨fun q => absurd q kz_t, fun _ => ?_⟩
      have hl := hS.2.1
      refine w_mono (w_for (ex := 59) (by decide) (fun i (s : Int × Int) => s.2 = (i : Int) ∧ s.1 = (cntU (onR C (GL z4.1 set (z4.1 128))) i : Int)) (GL z4.1 set (z4.1 128)).length ?_ ?_ (Nat.zero_le _) (by have := kF_eq; omega) ⟨rfl, rfl⟩) ?_
      · rintro i ⟨c, s⟩ hi ⟨rfl, rfl⟩
        have bx := bX ok.2.2 hi
        have h3 := hS.2.2 i hi
        unfold q_X12_rim_L14
        simp only [kwp_kb, kwp_some, kwp_kg, kwp_kif, kwp_kl, Int.toNat_natCast]
        rw [hS.1, h3.1, h3.2.1, qm_lies hC, kwp_some]
        have e1 : (g8 (GL z4.1 set (z4.1 128)) i).1 = lX (GL z4.1 set (z4.1 128)) i := rfl
        have e2 : (g8 (GL z4.1 set (z4.1 128)) i).2.1 = lY (GL z4.1 set (z4.1 128)) i := rfl
        rw [e1, e2]
        have e : cntU (onR C (GL z4.1 set (z4.1 128))) (i + 1) = cntU (onR C (GL z4.1 set (z4.1 128))) i + if onR C (GL z4.1 set (z4.1 128)) i = true then 1 else 0 := rfl
        refine ⟨⟨⟨by omega, by omega⟩, ⟨by omega, by omega⟩⟩, fun q => by omega, fun _ => ⟨⟨by omega, by omega⟩, ⟨⟨by omega, by omega⟩, ⟨by omega, by omega⟩⟩, pw_k hC (by omega) (by omega), fun q => ⟨by trivial, by omega, ?_⟩, fun q => ⟨by trivial, by omega, ?_⟩⟩⟩
        · rw [e, if_pos (onR_t.mpr q)]
          omega
        · rw [e, if_neg (fun w => q (onR_t.mp w))]
          omega
      · rintro ⟨c, s⟩ ⟨rfl, h⟩
        dsimp only at h
        unfold q_X12_rim_L14
        simp only [kwp_kb, kwp_some, kwp_kg, kwp_kif, kwp_kl]
        rw [hS.1]
        exact ⟨⟨⟨by omega, by omega⟩, ⟨by omega, by omega⟩⟩, fun _ => ⟨by trivial, by trivial, h⟩, fun q => by omega⟩
      · rintro ⟨lb, c, s⟩ ⟨h0, _, h⟩
        simp only [kwp_kg, kwp_some]
        exact ⟨h0, h, FQ_frm f1⟩
theorem qm_isFar {v f : Int} (hv : k32 v) (hf : 0 ≤ f ∧ f < 1000) : q_X12_isFar v f = some (decide (-f ≤ v ∧ v ≤ f)) := by
  unfold q_X12_isFar
  rw [qm_isIn hv ⟨by omega, by omega⟩ ⟨by omega, by omega⟩]
  rfl
theorem T_inside {z11 : tZ11} {z4 : tZ4} {z9 : tZ9} {z10 : tZ10} {z8 : tZ8} {z0 : tZ0} {m : tZ12} (H : REL z4 z9 z10 m) {set x y : Int} (hs : k32 set) (hx : k32 x) (hy : k32 y) : QRI m (q_X11_inside z11 z4 z8 z0 set x y) (q_X12_inside m set x y) := by
  have hH := H.1.1
  by_cases hn : -300 ≤ x ∧ x ≤ 300 ∧ -300 ≤ y ∧ y ≤ 300
  · obtain ⟨⟨b, m1⟩, em, f1, hc⟩ := qm_hasCircle hH hs
    dsimp only at f1 hc
    have hg := q_gather (z11 := z11) (z8 := z8) hH.1 hs
    have hf1 : q_X12_isFar x 300 = some true := by rw [qm_isFar hx (by decide), decide_eq_true ⟨hn.1, hn.2.1⟩]
    have hf2 : q_X12_isFar y 300 = some true := by rw [qm_isFar hy (by decide), decide_eq_true ⟨hn.2.2.1, hn.2.2.2⟩]
    have hnr : q_X11_isNear x y 300 = some true := by rw [q_isNear hx hy (by decide), decide_eq_true hn]
    rcases hc with ⟨hno, rfl⟩ | ⟨hyes, rfl, hS, C, hC, hmec⟩
    · refine qri_of (-1) ?_ ?_ (by decide)
      · unfold q_X11_inside
        rw [hnr]
        simp only [kwp_kif, kwp_some, kwp_kb]
        refine ⟨fun _ => (by first | exact trivial | rfl), fun _ => w_mono hg ?_⟩
        rintro ⟨b', z'⟩ h
        rcases h with ⟨_, rfl⟩ | ⟨h, _⟩
        · exact ⟨fun _ => (by first | exact trivial | rfl), fun q => (q (by trivial)).elim⟩
        · exact absurd h hno
      · unfold q_X12_inside
        rw [hf1, hf2]
        simp only [kwp_kif, kwp_some, kwp_kb]
        refine ⟨fun q => absurd q kz_t, fun _ => ⟨fun q => absurd q kz_t, fun _ => w_of em ⟨fun _ => ⟨(by first | exact trivial | rfl), FQ_frm f1⟩, fun q => (q (by trivial)).elim⟩⟩⟩
    · refine qri_of (1 - sd (pw C x y)) ?_ ?_ ?_
      · unfold q_X11_inside
        rw [hnr]
        simp only [kwp_kif, kwp_some, kwp_kb]
        refine ⟨fun q => absurd q kz_t, fun _ => w_mono hg ?_⟩
        rintro ⟨b', z'⟩ h
        rcases h with ⟨h, _⟩ | ⟨_, rfl, hSc⟩
        · exact absurd hyes h
        · dsimp only at hSc ⊢
          refine ⟨fun q => absurd q kz_t, fun _ => w_mono (q_mec hH.1 hH.1.2.2 hSc hyes.2.2) (fun z'' ⟨g1, g2, g3, _⟩ => ?_)⟩
          rw [q_side g2 (by omega) (by omega), kwp_some, sd_P g1.1 hmec.1 (mecOf_only g1 hmec)]
      · unfold q_X12_inside
        rw [hf1, hf2]
        simp only [kwp_kif, kwp_some, kwp_kb]
        refine ⟨fun q => absurd q kz_t, fun _ => ⟨fun q => absurd q kz_t, fun _ => w_of em ⟨fun q => absurd q kz_t, fun _ => ?_⟩⟩⟩
        rw [qm_lies hC]
        simp only [kwp_kif, kwp_some, kwp_kg, kwp_kb]
        refine ⟨⟨hx, hy⟩, pw_k hC (by omega) (by omega), fun q => ⟨fun q2 => ⟨?_, FQ_frm f1⟩, fun q2 => ⟨?_, FQ_frm f1⟩⟩, fun q => ⟨?_, FQ_frm f1⟩⟩
        · unfold sd
          rw [if_neg (show ¬ pw C x y < 0 by omega), if_pos q2]
          rfl
        · unfold sd
          rw [if_neg (show ¬ pw C x y < 0 by omega), if_neg q2]
          rfl
        · unfold sd
          rw [if_pos (show pw C x y < 0 by omega)]
          rfl
      · have := sd_k (pw C x y)
        unfold sd
        split
        · decide
        · split <;> decide
  · refine qri_of (-1) ?_ ?_ (by decide)
    · unfold q_X11_inside
      rw [q_isNear hx hy (by decide), decide_eq_false hn]
      simp only [kwp_kif, kwp_some, kwp_kb]
      exact ⟨fun _ => (by first | exact trivial | rfl), fun q => (q (by trivial)).elim⟩
    · unfold q_X12_inside
      rw [qm_isFar hx (by decide), qm_isFar hy (by decide)]
      simp only [kwp_kif, kwp_some, kwp_kb, kz_0, decide_eq_false_iff_not]
      exact ⟨fun _ => ⟨(by first | exact trivial | rfl), FRM_rfl m⟩, fun q => ⟨fun _ => ⟨(by first | exact trivial | rfl), FRM_rfl m⟩, fun q2 => by omega⟩⟩
