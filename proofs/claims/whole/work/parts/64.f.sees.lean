/-! ===== sees, the model ===== -/
theorem qm_isSeen {m : tZ12} {l : List Spt} (hs : sorL l) (hb : bdL l) (h0 : 0 < l.length) (HM : MH m l) {x y : Int} (hx : x.natAbs ≤ 300) (hy : y.natAbs ≤ 300) {i : Nat} (hi : i < hC l) : q_X12_isSeen m (i : Int) x y = some (decide (snS l x y i)) := by
  refine w_eq ?_
  have hl : ∀ i, i < hC l → hJ l i < l.length := fun i hi => hJ_lt hs h0 hi
  have hle := hC_le hs h0
  have sl := HM.1.2.1
  have nl := nx_lt hi
  have l1 := hl i hi
  have l2 := hl _ nl
  have b1 := bX hb l1
  have b2 := bX hb l2
  have e1 := SPm_at HM.1 l1
  have e2 := SPm_at HM.1 l2
  have sb := sn_bd hb hx hy hl hi
  unfold q_X12_isSeen
  simp only [kwp_kb, kwp_some, kwp_kg, kwp_kif, kwp_kl]
  rw [qm_after HM.2.1 (by omega) hi]
  simp only [kwp_some]
  rw [Int.toNat_natCast, Int.toNat_natCast, HM.2.2 i hi, HM.2.2 _ nl, Int.toNat_natCast, Int.toNat_natCast, e1.1, e1.2.1, e2.1, e2.2.1]
  refine ⟨⟨by omega, by omega⟩, ⟨by omega, by omega⟩, ⟨by omega, by omega⟩, ⟨by omega, by omega⟩, ⟨by omega, by omega⟩, ⟨by omega, by omega⟩, ⟨⟨by omega, by omega⟩, ⟨by omega, by omega⟩, ⟨by omega, by omega⟩, ⟨by omega, by omega⟩, ⟨by omega, by omega⟩, ⟨by omega, by omega⟩⟩, w_of (v := vx (dwX l (hJ l) (hC l) i) (dwY l (hJ l) (hC l) i) (x - lX l (hJ l i)) (y - lY l (hJ l i))) rfl ⟨⟨by omega, by omega⟩, fun q => ?_, fun q => ?_⟩⟩
  · exact (decide_eq_false (show ¬ snS l x y i by unfold snS; omega)).symm
  · exact (decide_eq_true (show snS l x y i by unfold snS; omega)).symm
theorem pv_nx {c j : Nat} (h : j < c) : pv c (nx c j) = j := by
  unfold pv nx
  by_cases q : c ≤ j + 1
  · rw [if_pos q, if_pos rfl]
    omega
  · rw [if_neg q, if_neg (by omega)]
    omega
theorem nx_pv {c j : Nat} (h : j < c) : nx c (pv c j) = j := by
  unfold pv nx
  by_cases q : j = 0
  · rw [if_pos q, if_pos (by omega)]
    omega
  · rw [if_neg q, if_neg (by omega)]
    omega
def toR (l : List Spt) (x y : Int) (i : Nat) : Prop := snS l x y i ∧ ¬ snS l x y (nx (hC l) i)
def cnN (l : List Spt) (i : Nat) : Int := lP l (hJ l (nx (hC l) i))
theorem one_turn {l : List Spt} {x y v : Int} (h : OneOf (hC l) (toR l x y) (cnN l) v) : OneOf (hC l) (toQ l x y) (cnP l) v := by
  rcases h with ⟨j, hj, e, q1, q2⟩ | ⟨e, no⟩
  · exact Or.inl ⟨nx (hC l) j, nx_lt hj, e, q2, by rw [pv_nx hj]; exact q1⟩
  · exact Or.inr ⟨e, fun j hj q => no (pv (hC l) j) (pv_lt hj) ⟨q.2, by rw [nx_pv hj]; exact q.1⟩⟩
theorem one_keep {n : Nat} {Q : Nat → Prop} {f : Nat → Int} {v : Int} (h : OneOf n Q f v) (g : ¬ Q n) : OneOf (n + 1) Q f v := by
  rcases h with ⟨j, hj, e, q⟩ | ⟨e, no⟩
  · exact Or.inl ⟨j, by omega, e, q⟩
  · refine Or.inr ⟨e, fun j hj => ?_⟩
    by_cases z : j = n
    · rw [z]
      exact g
    · exact no j (by omega)
theorem qm_seesL {m : tZ12} {l : List Spt} (hs : sorL l) (hb : bdL l) (hl40 : l.length ≤ 40) (h0 : 0 < l.length) (HM : MH m l) {v1 x y v4 : Int} (hx : x.natAbs ≤ 300) (hy : y.natAbs ≤ 300) :
    kwp (kitr 52 (fun q => q_X12_sees_L52 v1 x y v4 m q) kF ((0 : Int), (-1 : Int), (-1 : Int), (0 : Int))) (fun e => e.1 = 162 ∧ e.2.1 = (snN l x y (hC l) : Int) ∧ OneOf (hC l) (fromQ l x y) (cnP l) e.2.2.1 ∧ OneOf (hC l) (toR l x y) (cnN l) e.2.2.2.1) := by
  have hl : ∀ i, i < hC l → hJ l i < l.length := fun i hi => hJ_lt hs h0 hi
  have hle := hC_le hs h0
  refine w_mono (w_for (ex := 162) (by decide) (fun i (s : Int × Int × Int × Int) => s.2.2.2 = (i : Int) ∧ s.1 = (snN l x y i : Int) ∧ OneOf i (fromQ l x y) (cnP l) s.2.1 ∧ OneOf i (toR l x y) (cnN l) s.2.2.1) (hC l) ?_ ?_ (Nat.zero_le _) (by have := kF_eq; omega) ⟨rfl, rfl, Or.inr ⟨rfl, fun j hj => absurd hj (Nat.not_lt_zero _)⟩, Or.inr ⟨rfl, fun j hj => absurd hj (Nat.not_lt_zero _)⟩⟩) (fun e g => ⟨g.1, g.2.2⟩)
  · rintro i ⟨mn, bg, en, t⟩ hi ⟨g1, g2, g3, g4⟩
    dsimp only at g1 g2 g3 g4
    subst g1 g2
    have ss := snN_s l x y i
    have sl := snN_le l x y i
    have nl := nx_lt hi
    have pl := pv_lt hi
    have e1 := SPm_at HM.1 (hl i hi)
    have e2 := SPm_at HM.1 (hl _ nl)
    have b1 := bX hb (hl i hi)
    have hi1 := hl i hi
    have hi2 := hl _ nl
    have J2 : ∀ b, snS l x y i → OneOf (i + 1) (fromQ l x y) (cnP l) b → kwp (q_X12_sees_J123_52 v1 x y v4 m (((snN l x y i : Nat) : Int) + 1) b en (i : Int)) (fun e => e.1 = 52 ∧ e.2.2.2.2 = ((i + 1 : Nat) : Int) ∧ e.2.1 = (snN l x y (i + 1) : Int) ∧ OneOf (i + 1) (fromQ l x y) (cnP l) e.2.2.1 ∧ OneOf (i + 1) (toR l x y) (cnN l) e.2.2.2.1) := fun b si hbq => by
      rw [if_pos si] at ss
      unfold q_X12_sees_J123_52
      rw [qm_after HM.2.1 (by omega) hi]
      simp only [kwp_kb, kwp_some]
      rw [qm_isSeen hs hb h0 HM hx hy nl]
      simp only [kwp_kb, kwp_some, kwp_kg, kwp_kif, kwp_kl]
      rw [Int.toNat_natCast, HM.2.2 _ nl, Int.toNat_natCast, e2.2.2]
      refine ⟨fun q => ⟨⟨by omega, by omega⟩, ⟨by omega, by omega⟩, by trivial, by omega, by omega, hbq, Or.inl ⟨i, by omega, by trivial, si, of_decide_eq_false ((kz_0 _).mp q)⟩⟩, fun q => ⟨by trivial, by omega, by omega, hbq, one_keep g4 (fun w => q ((kz_0 _).mpr (decide_eq_false w.2)))⟩⟩
    have J1 : snS l x y i → kwp (q_X12_sees_J96_52 v1 x y v4 m (((snN l x y i : Nat) : Int) + 1) bg en (i : Int) (pv (hC l) i : Int)) (fun e => e.1 = 52 ∧ e.2.2.2.2 = ((i + 1 : Nat) : Int) ∧ e.2.1 = (snN l x y (i + 1) : Int) ∧ OneOf (i + 1) (fromQ l x y) (cnP l) e.2.2.1 ∧ OneOf (i + 1) (toR l x y) (cnN l) e.2.2.2.1) := fun si => by
      unfold q_X12_sees_J96_52
      rw [qm_isSeen hs hb h0 HM hx hy pl]
      simp only [kwp_kb, kwp_some, kwp_kg, kwp_kif, kwp_kl]
      rw [Int.toNat_natCast, HM.2.2 i hi, Int.toNat_natCast, e1.2.2]
      exact ⟨fun q => ⟨⟨by omega, by omega⟩, ⟨by omega, by omega⟩, J2 _ si (Or.inl ⟨i, by omega, rfl, si, of_decide_eq_false ((kz_0 _).mp q)⟩)⟩, fun q => J2 _ si (one_keep g3 (fun w => q ((kz_0 _).mpr (decide_eq_false w.2))))⟩
    unfold q_X12_sees_L52
    dsimp only
    rw [HM.2.1, qm_isSeen hs hb h0 HM hx hy hi]
    simp only [kwp_kb, kwp_some, kwp_kg, kwp_kif, kwp_kl]
    refine ⟨⟨⟨by omega, by omega⟩, ⟨by omega, by omega⟩⟩, fun q => by omega, fun _ => ⟨fun q => ?_, fun q => ?_⟩⟩
    · have ns : ¬ snS l x y i := of_decide_eq_false ((kz_0 _).mp q)
      rw [if_neg ns] at ss
      exact ⟨by trivial, by omega, by omega, one_keep g3 (fun w => ns w.1), one_keep g4 (fun w => ns w.1)⟩
    · have si : snS l x y i := by
        by_cases w : snS l x y i
        · exact w
        · exact absurd ((kz_0 _).mpr (decide_eq_false w)) q
      refine ⟨fun q1 => ?_, fun q1 => ?_⟩
      · have e : ((pv (hC l) i : Nat) : Int) = (hC l : Int) - 1 := by
          unfold pv
          rw [if_pos (by omega)]
          omega
        rw [← e]
        exact J1 si
      · have e : ((pv (hC l) i : Nat) : Int) = (i : Int) - 1 := by
          unfold pv
          rw [if_neg (by omega)]
          omega
        rw [← e]
        exact J1 si
  · rintro ⟨mn, bg, en, t⟩ ⟨g1, g2, g3, g4⟩
    dsimp only at g1 g2 g3 g4
    subst g1
    unfold q_X12_sees_L52
    dsimp only
    rw [HM.2.1]
    simp only [kwp_kb, kwp_some, kwp_kg, kwp_kif, kwp_kl]
    exact ⟨⟨⟨by omega, by omega⟩, ⟨by omega, by omega⟩⟩, fun _ => ⟨by trivial, by trivial, g2, g3, g4⟩, fun q => by omega⟩
theorem one_k {l : List Spt} (hs : sorL l) (hb : bdL l) (h0 : 0 < l.length) {Q : Nat → Prop} {v : Int} (h : OneOf (hC l) Q (cnP l) v) : k32 v := by
  rcases h with ⟨j, hj, rfl, _⟩ | ⟨rfl, _⟩
  · have bp := bP hb (hJ_lt hs h0 hj)
    unfold cnP
    exact ⟨by omega, by omega⟩
  · decide
theorem T_sees {z11 : tZ11} {z4 : tZ4} {z9 : tZ9} {z10 : tZ10} {z8 : tZ8} {z5 : tZ5} {m : tZ12} (H : REL z4 z9 z10 m) {set x y w : Int} (hs : k32 set) (hx : k32 x) (hy : k32 y) (hw : k32 w) : QRI m (q_X11_sees z11 z4 z8 z5 set x y w) (q_X12_sees m set x y w) := by
  have hH := H.1.1
  have ok := LG_ok hH.1 set
  by_cases hn : (-300 ≤ x ∧ x ≤ 300 ∧ -300 ≤ y ∧ y ≤ 300) ∧ (0 ≤ w ∧ w ≤ 2) ∧ wdS z4 set
  · obtain ⟨hn, hw2, hg⟩ := hn
    have h2 : 2 ≤ (LG z4 set).length := by
      have a := hull_fc hH.1 hg.1
      have b := hg.2
      omega
    have hp := hg.1.2.2
    have run := sn_run ok.2.1 h2 x y
    unfold QRI q_X11_sees
    rw [q_isNear hx hy (by decide), decide_eq_true hn]
    simp only [kwp_kg, kwp_kif, kwp_kb, kwp_some]
    have hm : kwp (q_X12_sees m set x y w) (fun r' => FRM m r'.2 ∧ (w = 0 → r'.1 = (snN (LG z4 set) x y (hC (LG z4 set)) : Int)) ∧ (w = 1 → OneOf (hC (LG z4 set)) (fromQ (LG z4 set) x y) (cnP (LG z4 set)) r'.1) ∧ (w = 2 → OneOf (hC (LG z4 set)) (toQ (LG z4 set) x y) (cnP (LG z4 set)) r'.1)) := by
      unfold q_X12_sees
      rw [qm_isFar hx (by decide), qm_isFar hy (by decide), qm_isIn hw (by decide) (by decide), decide_eq_true (show -300 ≤ x ∧ x ≤ 300 by omega), decide_eq_true (show -300 ≤ y ∧ y ≤ 300 by omega), decide_eq_true hw2]
      simp only [kwp_kg, kwp_kif, kwp_kb, kwp_some]
      refine ⟨fun q => absurd q kz_t, fun _ => ⟨fun q => absurd q kz_t, fun _ => ⟨fun q => absurd q kz_t, fun _ => w_mono (widm_t hH hs hg) ?_⟩⟩⟩
      rintro ⟨b', m2⟩ ⟨e, f2, HM⟩
      dsimp only at e f2 HM ⊢
      subst e
      have fm := FQ_frm f2
      refine ⟨fun q => absurd q kz_t, fun _ => w_mono (qm_seesL ok.2.1 ok.2.2 ok.1 hp HM (by omega) (by omega)) ?_⟩
      rintro ⟨lb, s1, s2, s3, s4⟩ ⟨g0, g1, g2, g3⟩
      dsimp only at g0 g1 g2 g3 ⊢
      exact ⟨g0, hw, fun q => ⟨fm, fun _ => g1, fun q1 => by omega, fun q1 => by omega⟩, fun q => ⟨fun q1 => ⟨fm, fun q1 => by omega, fun _ => g2, fun q1 => by omega⟩, fun q1 => ⟨fm, fun q1 => by omega, fun q1 => by omega, fun _ => one_turn g3⟩⟩⟩
    refine ⟨hw, fun q => by omega, fun _ => ⟨fun q => by omega, fun _ => ⟨fun q => absurd q kz_t, fun _ => w_mono (wide_t hH.1 hs hg) ?_⟩⟩⟩
    rintro ⟨b', z', z2⟩ ⟨e, hS, ho⟩
    dsimp only at e hS ho ⊢
    subst e
    refine ⟨fun q => absurd q kz_t, fun _ => ⟨fun q => w_of (q_sidesSeen ok.2.2 ho (by omega) (by omega)) (w_mono hm (fun r' h => ⟨(h.2.1 q).symm, ?_, h.1⟩)), fun q => ⟨fun q1 => w_mono (q_seenFrom ok.2.2 ho (by omega) (by omega)) (fun v hv => w_mono hm (fun r' h => ⟨?_, one_k ok.2.1 ok.2.2 hp hv, h.1⟩)), fun q1 => w_mono (q_seenTo ok.2.2 ho (by omega) (by omega)) (fun v hv => w_mono hm (fun r' h => ⟨?_, one_k ok.2.1 ok.2.2 hp hv, h.1⟩))⟩⟩⟩
    · have a := snN_le (LG z4 set) x y (hC (LG z4 set))
      have b := (hull_fc hH.1 hg.1).1
      exact ⟨by omega, by omega⟩
    · exact one_only (fun i k hi hk qi qk => run_from run hi hk qi.1 qi.2 qk.1 qk.2) hv (h.2.2.1 q1)
    · exact one_only (fun i k hi hk qi qk => run_to run hi hk qi.1 qi.2 qk.1 qk.2) hv (h.2.2.2 (by omega))
  · refine qri_of (-1) ?_ ?_ (by decide)
    · unfold q_X11_sees
      rw [q_isNear hx hy (by decide)]
      simp only [kwp_kg, kwp_kif, kwp_kb, kwp_some]
      refine ⟨hw, fun _ => (by first | exact trivial | rfl), fun q0 => ⟨fun _ => (by first | exact trivial | rfl), fun q1 => ⟨fun _ => (by first | exact trivial | rfl), fun q2 => ?_⟩⟩⟩
      have a1 : -300 ≤ x ∧ x ≤ 300 ∧ -300 ≤ y ∧ y ≤ 300 := by
        cases e : decide (-300 ≤ x ∧ x ≤ 300 ∧ -300 ≤ y ∧ y ≤ 300) with
        | true => exact of_decide_eq_true e
        | false => rw [e] at q2; exact absurd rfl q2
      refine w_mono (wide_f hH.1 hs (fun c => hn ⟨a1, ⟨by omega, by omega⟩, c⟩)) ?_
      rintro ⟨b', z', z2⟩ e
      dsimp only at e ⊢
      subst e
      exact ⟨fun _ => (by first | exact trivial | rfl), fun q => (q (by trivial)).elim⟩
    · unfold q_X12_sees
      rw [qm_isFar hx (by decide), qm_isFar hy (by decide), qm_isIn hw (by decide) (by decide)]
      simp only [kwp_kg, kwp_kif, kwp_kb, kwp_some]
      refine ⟨fun _ => ⟨(by first | exact trivial | rfl), FRM_rfl m⟩, fun q0 => ⟨fun _ => ⟨(by first | exact trivial | rfl), FRM_rfl m⟩, fun q1 => ⟨fun _ => ⟨(by first | exact trivial | rfl), FRM_rfl m⟩, fun q2 => ?_⟩⟩⟩
      have b1 : -300 ≤ x ∧ x ≤ 300 := by
        cases e : decide (-300 ≤ x ∧ x ≤ 300) with
        | true => exact of_decide_eq_true e
        | false => rw [e] at q0; exact absurd rfl q0
      have b2 : -300 ≤ y ∧ y ≤ 300 := by
        cases e : decide (-300 ≤ y ∧ y ≤ 300) with
        | true => exact of_decide_eq_true e
        | false => rw [e] at q1; exact absurd rfl q1
      have b3 : 0 ≤ w ∧ w ≤ 2 := by
        cases e : decide (0 ≤ w ∧ w ≤ 2) with
        | true => exact of_decide_eq_true e
        | false => rw [e] at q2; exact absurd rfl q2
      refine w_mono (widm_f hH hs (fun c => hn ⟨⟨b1.1, b1.2, b2.1, b2.2⟩, b3, c⟩)) ?_
      rintro ⟨b', m2⟩ ⟨e, f2⟩
      dsimp only at e f2 ⊢
      subst e
      exact ⟨fun _ => ⟨(by first | exact trivial | rfl), FQ_frm f2⟩, fun q => (q (by trivial)).elim⟩
