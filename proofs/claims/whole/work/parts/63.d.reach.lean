/-! ===== reach, 2 ===== -/
def rcV (l : List Spt) (u v w : Int) : Int :=
  if w = 0 then lP l (hJ l (fiF (alF l (hJ l) u v) (hC l - 1))) else if w = 1 then mxF (alF l (hJ l) u v) (hC l - 1)
  else if w = 2 then fN ((mxF (alF l (hJ l) u v) (hC l - 1) - mnF (alF l (hJ l) u v) (hC l - 1)) * (mxF (alF l (hJ l) u v) (hC l - 1) - mnF (alF l (hJ l) u v) (hC l - 1))) (u * u + v * v)
  else fD ((mxF (alF l (hJ l) u v) (hC l - 1) - mnF (alF l (hJ l) u v) (hC l - 1)) * (mxF (alF l (hJ l) u v) (hC l - 1) - mnF (alF l (hJ l) u v) (hC l - 1))) (u * u + v * v)
theorem T_reach {z11 : tZ11} {z4 : tZ4} {z9 : tZ9} {z10 : tZ10} {z8 : tZ8} {z5 : tZ5} {z3 : tZ3} {m : tZ12} (H : REL z4 z9 z10 m) {set u v w : Int} (hs : k32 set) (hu : k32 u) (hv : k32 v) (hw : k32 w) : QRY m (q_X11_reach z11 z4 z8 z5 z3 set u v w) (q_X12_reach m set u v w) := by
  have hH := H.1.1
  have ok := GL_ok (set := set) hH.1 hH.1.2.2
  have hm := qm_hasHull hH hs
  have hc := q_gather (z11 := z11) (z8 := z8) hH.1 hs
  obtain ⟨l, hl⟩ : ∃ l, l = GL z4.1 set (z4.1 128) := ⟨_, rfl⟩
  rw [← hl] at hm hc ok
  by_cases hn : (-100 ≤ u ∧ u ≤ 100 ∧ -100 ≤ v ∧ v ≤ 100) ∧ ¬ (u = 0 ∧ v = 0) ∧ 0 ≤ w ∧ w ≤ 3 ∧ (1 ≤ set ∧ set < 16 ∧ 0 < l.length)
  · obtain ⟨hn1, hn2, hw1, hw2, hg⟩ := hn
    have hle := hC_le ok.2.1 hg.2.2
    have hp := hC_pos hg.2.2
    have hj : ∀ i, i < hC l → hJ l i < l.length := fun i hi => hJ_lt ok.2.1 hg.2.2 hi
    have mb := mxF_bd (f := alF l (hJ l) u v) (B := 320000) (hC l - 1) (fun j hj2 => alF_bd ok.2.2 (by omega) (by omega) (hj j (by omega)))
    have fo := (fiF_ok (alF l (hJ l) u v) (hC l - 1)).1
    have lf := hj _ (show fiF (alF l (hJ l) u v) (hC l - 1) < hC l by omega)
    have bp := bP ok.2.2 lf
    have pu := sq_nn2 u
    have pv := sq_nn2 v
    have den : 0 < u * u + v * v := by
      by_cases e : u = 0
      · have := sq_pos2 (a := v) (fun q => hn2 ⟨e, q⟩)
        omega
      · have := sq_pos2 e
        omega
    have bu := ab_mul (a := u) (b := u) (A := 100) (B := 100) (by omega) (by omega)
    have bv := ab_mul (a := v) (b := v) (A := 100) (B := 100) (by omega) (by omega)
    have kd : k63 (u * u + v * v) := ⟨by omega, by omega⟩
    have kn : k63 ((mxF (alF l (hJ l) u v) (hC l - 1) - mnF (alF l (hJ l) u v) (hC l - 1)) * (mxF (alF l (hJ l) u v) (hC l - 1) - mnF (alF l (hJ l) u v) (hC l - 1))) := by
      have := ab_mul (a := mxF (alF l (hJ l) u v) (hC l - 1) - mnF (alF l (hJ l) u v) (hC l - 1)) (b := mxF (alF l (hJ l) u v) (hC l - 1) - mnF (alF l (hJ l) u v) (hC l - 1)) (A := 640000) (B := 640000) (by omega) (by omega)
      exact ⟨by omega, by omega⟩
    have kv : k64 (rcV l u v w) := by
      unfold rcV
      split
      · exact ⟨by omega, by omega⟩
      · split
        · exact ⟨by omega, by omega⟩
        · split
          · exact k64_63 (fN_k den kn)
          · exact k64_63 (fD_k den kd)
    refine qry_of (rcV l u v w) ?_ ?_ kv
    · have J : kwp (q_X11_reach_J29 z11 z4 set u v w z8 z5 z3) (fun r => r.1 = rcV l u v w) := by
        unfold q_X11_reach_J29
        simp only [kwp_kg, kwp_kif, kwp_kb, kwp_some, kwp_kl]
        refine w_mono hc ?_
        rintro ⟨b', z'⟩ h
        rcases h with ⟨h, _⟩ | ⟨_, rfl, hS⟩
        · exact absurd hg h
        · refine ⟨fun q => absurd q kz_t, fun _ => w_mono (q_hasOutline (set := set) hH.1 hl hg.2.2 hS) (fun z2 ho => ⟨hw, fun q => ⟨⟨hu, hv⟩, ?_⟩, fun q => ⟨⟨hu, hv⟩, ?_⟩⟩)⟩
          · have a := ho.2.2 _ (show fiF (alF l (hJ l) u v) (hC l - 1) < hC l by omega)
            refine w_of (q_farthest ok.2.2 ho hp (by omega) (by omega)) (w_of (q_on (by rw [ho.1]; omega) (by rw [ho.1]; omega)) ⟨?_, ?_⟩)
            · rw [a.2.2.2]
              exact ⟨by omega, by omega⟩
            · rw [a.2.2.2]
              unfold rcV
              rw [if_pos q]
          · refine w_of (q_most ok.2.2 ho hp (by omega) (by omega)) ⟨fun q1 => ?_, fun q1 => ?_⟩
            · unfold rcV
              rw [if_neg q, if_pos q1]
            · refine w_of (q_least ok.2.2 ho hp (by omega) (by omega)) (w_of (q_set kn den kd) (w_of (q_part ⟨by omega, by omega⟩) ?_))
              unfold rcV
              rw [if_neg q, if_neg q1]
              by_cases e : w = 2
              · rw [if_pos e, if_pos (by omega)]
              · rw [if_neg e, if_neg (by omega)]
      unfold q_X11_reach
      rw [q_isNear hu hv (by decide), decide_eq_true hn1]
      simp only [kwp_kg, kwp_kif, kwp_kb, kwp_some]
      exact ⟨hw, fun q => by omega, fun _ => ⟨fun q => by omega, fun _ => ⟨fun q => absurd q kz_t, fun _ => ⟨hu, fun q1 => ⟨hv, fun q2 => absurd ⟨q1, q2⟩ hn2, fun _ => J⟩, fun _ => J⟩⟩⟩⟩
    · have J : kwp (q_X12_reach_J26 set u v w m) (fun r => r.1 = rcV l u v w ∧ FRM m r.2) := by
        unfold q_X12_reach_J26
        rw [qm_isIn hw (by decide) (by decide), decide_eq_true (show 0 ≤ w ∧ w ≤ 3 from ⟨hw1, hw2⟩)]
        simp only [kwp_kg, kwp_kif, kwp_kb, kwp_some, kwp_kl]
        refine ⟨fun q => absurd q kz_t, fun _ => w_mono hm ?_⟩
        rintro ⟨b', m2⟩ ⟨f2, h⟩
        rcases h with ⟨h, _⟩ | ⟨_, rfl, hS, h37, h35⟩
        · exact absurd hg h
        · dsimp only at f2 hS h37 h35 ⊢
          have fm := FQ_frm f2
          refine ⟨fun q => absurd q kz_t, fun _ => w_mono (qm_reachL hS ok.2.2 h37 h35 hj hp (by omega) (by omega) (by omega)) ?_⟩
          rintro ⟨lb, s1, s2, s3, s4⟩ ⟨g0, g1, g2, g3⟩
          dsimp only at g0 g1 g2 g3 ⊢
          rw [g1, g2, g3, Int.toNat_natCast, h35 _ (show fiF (alF l (hJ l) u v) (hC l - 1) < hC l by omega), Int.toNat_natCast, show m2.2.2.1 14 (hJ l (fiF (alF l (hJ l) u v) (hC l - 1))) = lP l (hJ l (fiF (alF l (hJ l) u v) (hC l - 1))) from (hS.2.2 _ lf).2.2]
          unfold rcV
          refine ⟨g0, ⟨hu, hv⟩, hw, fun q => ⟨⟨by omega, by omega⟩, ⟨by omega, by omega⟩, ⟨by omega, by omega⟩, by rw [if_pos q], fm⟩, fun q => ⟨fun q1 => ⟨by rw [if_neg q, if_pos q1], fm⟩, fun q1 => ⟨fun q2 => w_of (qm_above kn den kd) ⟨by rw [if_neg q, if_neg q1, if_pos q2], fm⟩, fun q2 => w_of (qm_below kn den kd) ⟨by rw [if_neg q, if_neg q1, if_neg q2], fm⟩⟩⟩⟩
      unfold q_X12_reach
      rw [qm_isFar hu (by decide), qm_isFar hv (by decide), decide_eq_true (show -100 ≤ u ∧ u ≤ 100 by omega), decide_eq_true (show -100 ≤ v ∧ v ≤ 100 by omega)]
      simp only [kwp_kg, kwp_kif, kwp_kb, kwp_some]
      exact ⟨fun q => absurd q kz_t, fun _ => ⟨fun q => absurd q kz_t, fun _ => ⟨hu, fun q1 => ⟨hv, fun q2 => absurd ⟨q1, q2⟩ hn2, fun _ => J⟩, fun _ => J⟩⟩⟩
  · refine qry_of (-1000) ?_ ?_ (by decide)
    · have J : (-100 ≤ u ∧ u ≤ 100 ∧ -100 ≤ v ∧ v ≤ 100) → ¬ (u = 0 ∧ v = 0) → 0 ≤ w ∧ w ≤ 3 → kwp (q_X11_reach_J29 z11 z4 set u v w z8 z5 z3) (fun r => r.1 = -1000) := fun a1 a2 a3 => by
        unfold q_X11_reach_J29
        simp only [kwp_kg, kwp_kif, kwp_kb, kwp_some, kwp_kl]
        refine w_mono hc ?_
        rintro ⟨b', z'⟩ h
        rcases h with ⟨_, rfl⟩ | ⟨h, _⟩
        · exact ⟨fun _ => (by first | exact trivial | rfl), fun q => (q (by trivial)).elim⟩
        · exact absurd ⟨a1, a2, a3.1, a3.2, h⟩ hn
      unfold q_X11_reach
      rw [q_isNear hu hv (by decide)]
      simp only [kwp_kg, kwp_kif, kwp_kb, kwp_some]
      refine ⟨hw, fun _ => (by first | exact trivial | rfl), fun q0 => ⟨fun _ => (by first | exact trivial | rfl), fun q1 => ⟨fun _ => (by first | exact trivial | rfl), fun q2 => ?_⟩⟩⟩
      have a1 : -100 ≤ u ∧ u ≤ 100 ∧ -100 ≤ v ∧ v ≤ 100 := by
        cases e : decide (-100 ≤ u ∧ u ≤ 100 ∧ -100 ≤ v ∧ v ≤ 100) with
        | true => exact of_decide_eq_true e
        | false => rw [e] at q2; exact absurd rfl q2
      exact ⟨hu, fun q3 => ⟨hv, fun _ => (by first | exact trivial | rfl), fun q4 => J a1 (fun x => q4 x.2) ⟨by omega, by omega⟩⟩, fun q3 => J a1 (fun x => q3 x.1) ⟨by omega, by omega⟩⟩
    · have J : (-100 ≤ u ∧ u ≤ 100 ∧ -100 ≤ v ∧ v ≤ 100) → ¬ (u = 0 ∧ v = 0) → kwp (q_X12_reach_J26 set u v w m) (fun r => r.1 = -1000 ∧ FRM m r.2) := fun a1 a2 => by
        unfold q_X12_reach_J26
        rw [qm_isIn hw (by decide) (by decide)]
        simp only [kwp_kg, kwp_kif, kwp_kb, kwp_some, kwp_kl]
        refine ⟨fun _ => ⟨(by first | exact trivial | rfl), FRM_rfl m⟩, fun q2 => w_mono hm ?_⟩
        have a3 : 0 ≤ w ∧ w ≤ 3 := by
          cases e : decide (0 ≤ w ∧ w ≤ 3) with
          | true => exact of_decide_eq_true e
          | false => rw [e] at q2; exact absurd rfl q2
        rintro ⟨b', m2⟩ ⟨f2, h⟩
        rcases h with ⟨_, rfl⟩ | ⟨h, _⟩
        · exact ⟨fun _ => ⟨(by first | exact trivial | rfl), FQ_frm f2⟩, fun q => (q (by trivial)).elim⟩
        · exact absurd ⟨a1, a2, a3.1, a3.2, h⟩ hn
      unfold q_X12_reach
      rw [qm_isFar hu (by decide), qm_isFar hv (by decide)]
      simp only [kwp_kg, kwp_kif, kwp_kb, kwp_some]
      refine ⟨fun _ => ⟨(by first | exact trivial | rfl), FRM_rfl m⟩, fun q0 => ⟨fun _ => ⟨(by first | exact trivial | rfl), FRM_rfl m⟩, fun q1 => ?_⟩⟩
      have b1 : -100 ≤ u ∧ u ≤ 100 := by
        cases e : decide (-100 ≤ u ∧ u ≤ 100) with
        | true => exact of_decide_eq_true e
        | false => rw [e] at q0; exact absurd rfl q0
      have b2 : -100 ≤ v ∧ v ≤ 100 := by
        cases e : decide (-100 ≤ v ∧ v ≤ 100) with
        | true => exact of_decide_eq_true e
        | false => rw [e] at q1; exact absurd rfl q1
      exact ⟨hu, fun q3 => ⟨hv, fun _ => ⟨(by first | exact trivial | rfl), FRM_rfl m⟩, fun q4 => J ⟨b1.1, b1.2, b2.1, b2.2⟩ (fun x => q4 x.2)⟩, fun q3 => J ⟨b1.1, b1.2, b2.1, b2.2⟩ (fun x => q3 x.1)⟩
