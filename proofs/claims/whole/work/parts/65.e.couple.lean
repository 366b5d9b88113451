/-! ===== couple ===== -/
def dec (l : List Spt) (v w : Int) : Int := if w = 0 then v / 4096 else if w = 1 then lP l (v / 64 % 64).toNat else lP l (v % 64).toNat
def cuN (l : List Spt) : Nat := (paF l l.length).2
def cuB (l : List Spt) : Nat → Int := (paF l l.length).1
theorem cu_ok {l : List Spt} (hb : bdL l) (hl : l.length ≤ 40) : cuN l ≤ 780 ∧ (cuN l : Int) * 2 = (l.length : Int) * ((l.length : Int) - 1) ∧ (∀ t, t < cuN l → ∃ i j, i < j ∧ j < l.length ∧ cuB l t = ky l i j) ∧ (∀ t u, t < cuN l → u < cuN l → cuB l t = cuB l u → t = u) ∧ ∀ t, t < cuN l → k32 (cuB l t) := by
  have call := cpN_all ⟨l.length, by omega⟩
  have n2 := paF_n l l.length
  have pr := paF_PR hl l.length (Nat.le_refl _)
  dsimp only at call
  have n3 : cuN l = cpN l.length l.length := n2
  refine ⟨by omega, ?_, fun t ht => ?_, PR_inj pr, fun t ht => ?_⟩
  · by_cases z : l.length = 0
    · rw [n3, z]
      decide
    · rw [show (l.length : Int) - 1 = ((l.length - 1 : Nat) : Int) by omega, ← Int.natCast_mul, ← call.1]
      omega
  · obtain ⟨i, j, h1, h2, h3, _⟩ := pr.1 t ht
    exact ⟨i, j, h1, h2, h3⟩
  · have := PR_k hb hl pr t ht
    exact ⟨by show _ ≤ (paF l l.length).1 t; omega, this.2⟩
theorem T_couple {z11 : tZ11} {z4 : tZ4} {z9 : tZ9} {z10 : tZ10} {z8 : tZ8} {z1 : tZ1} {m : tZ12} (H : REL z4 z9 z10 m) {set k w : Int} (hs : k32 set) (hk : k32 k) (hw : k32 w) : QRI m (q_X11_couple z11 z4 z8 z1 set k w) (q_X12_couple m set k w) := by
  have hH := H.1.1
  have ok := LG_ok hH.1 set
  have cu := cu_ok ok.2.2 ok.1
  by_cases hg : (0 ≤ w ∧ w ≤ 2) ∧ gdS z4 set ∧ 0 ≤ k ∧ k < (cuN (LG z4 set) : Int)
  · obtain ⟨hw2, hg, hk0, hk1⟩ := hg
    have hm : kwp (q_X12_couple m set k w) (fun r' => FRM m r'.2 ∧ ∃ row : Nat → Int, SO row (cuN (LG z4 set)) ∧ PM (cuN (LG z4 set)) row (cuB (LG z4 set)) ∧ r'.1 = dec (LG z4 set) (row k.toNat) w) := by
      unfold q_X12_couple
      rw [qm_isIn hw (by decide) (by decide), decide_eq_true hw2]
      simp only [kwp_kg, kwp_kif, kwp_kb, kwp_some, kwp_kl]
      refine ⟨fun q => absurd q kz_t, fun _ => w_mono (laid_t hH hs hg) ?_⟩
      rintro ⟨b', m2⟩ ⟨e, f2, HS⟩
      dsimp only at e f2 HS ⊢
      subst e
      rw [HS.1, ← cu.2.1, Int.tdiv_eq_ediv_of_nonneg (by omega), show (cuN (LG z4 set) : Int) * 2 / 2 = (cuN (LG z4 set) : Int) by omega, qm_isIn hk (by decide) ⟨by omega, by omega⟩, decide_eq_true (show 0 ≤ k ∧ k ≤ (cuN (LG z4 set) : Int) - 1 by omega)]
      simp only [kwp_some]
      refine ⟨fun q => absurd q kz_t, fun _ => ⟨⟨by omega, by omega⟩, fun q => absurd q kz_t, fun _ => w_mono (qm_coupleL HS ok.2.2 ok.1) ?_⟩⟩
      rintro ⟨lb, n, t, m3⟩ ⟨g0, g1, g2, g3, g4⟩
      dsimp only at g0 g1 g2 g3 g4 ⊢
      obtain ⟨i, j, h1, h2, h3⟩ := PM_all (P := fun v => ∃ i j, i < j ∧ j < (LG z4 set).length ∧ v = ky (LG z4 set) i j) g3 cu.2.2.1 k.toNat (by show _ < cuN (LG z4 set); omega)
      have kb := ky_bd ok.2.2 (i := i) (j := j) (by omega) h2 ok.1
      have km := ky_mod (l := LG z4 set) (i := i) (j := j) (by omega) (by omega)
      have fm := FQ_frm (FQ_trans f2 (FK_q g1))
      have s14 := fun {i : Nat} (hi : i < (LG z4 set).length) => SPm_at (SPm_fk g1 HS) hi
      have e64 : (m3.2.2.2 41 k.toNat).tdiv 64 = m3.2.2.2 41 k.toNat / 64 := Int.tdiv_eq_ediv_of_nonneg (by omega)
      have e4096 : (m3.2.2.2 41 k.toNat).tdiv 4096 = m3.2.2.2 41 k.toNat / 4096 := Int.tdiv_eq_ediv_of_nonneg (by omega)
      have e642 : (m3.2.2.2 41 k.toNat / 64).tdiv 64 = m3.2.2.2 41 k.toNat / 64 / 64 := Int.tdiv_eq_ediv_of_nonneg (by omega)
      rw [e64, e4096, e642, show m3.2.2.2 41 k.toNat / 64 - m3.2.2.2 41 k.toNat / 64 / 64 * 64 = m3.2.2.2 41 k.toNat / 64 % 64 by omega, show m3.2.2.2 41 k.toNat - m3.2.2.2 41 k.toNat / 64 * 64 = m3.2.2.2 41 k.toNat % 64 by omega]
      refine ⟨g0, ⟨by omega, by omega⟩, hw, fun q => ⟨⟨by omega, by omega⟩, fm, m3.2.2.2 41, g4, g3, ?_⟩, fun q => ⟨fun q1 => ⟨⟨⟨by omega, by omega⟩, ⟨by omega, by omega⟩⟩, ⟨by omega, by omega⟩, fm, m3.2.2.2 41, g4, g3, ?_⟩, fun q1 => ⟨⟨by omega, by omega⟩, ⟨by omega, by omega⟩, fm, m3.2.2.2 41, g4, g3, ?_⟩⟩⟩
      · unfold dec
        rw [if_pos q]
      · unfold dec
        rw [if_neg q, if_pos q1]
        exact (s14 (by omega)).2.2
      · unfold dec
        rw [if_neg q, if_neg q1]
        exact (s14 (by omega)).2.2
    unfold QRI q_X11_couple
    simp only [kwp_kg, kwp_kif, kwp_kb, kwp_some]
    refine ⟨hk, fun q => by omega, fun _ => ⟨hw, fun q => by omega, fun _ => ⟨fun q => by omega, fun _ => w_mono (gath_t hH.1 hs hg) ?_⟩⟩⟩
    rintro ⟨b', z'⟩ ⟨e, hS⟩
    dsimp only at e hS ⊢
    subst e
    refine ⟨fun q => absurd q kz_t, fun _ => w_mono (q_orderC hS ok.2.2 ok.1 cu.2.2.2.2) (fun z2 ho => ?_)⟩
    obtain ⟨o1, o2, o3⟩ := ho
    unfold q_X1_count
    simp only [kwp_kg, kwp_kif, kwp_kb, kwp_some]
    rw [o1]
    have c1 := cu.1
    have c2 : cuN (LG z4 set) = (paF (LG z4 set) (LG z4 set).length).2 := rfl
    obtain ⟨i, j, h1, h2, h3⟩ := PM_all (P := fun v => ∃ i j, i < j ∧ j < (LG z4 set).length ∧ v = ky (LG z4 set) i j) o2 cu.2.2.1 k.toNat (by omega)
    have pk : q_X1_packedAt z2 k = some (ky (LG z4 set) i j) := by
      have := q_pkAt (i := k.toNat) o1 (by omega) (by omega)
      rw [show ((k.toNat : Nat) : Int) = k by omega, h3] at this
      exact this
    have d := ds_bd ok.2.2 (i := i) (j := j) (by omega) h2
    have km := ky_mod (l := LG z4 set) (i := i) (j := j) (by omega) (by omega)
    have un := ky_un (d := (ds (lX (LG z4 set)) (lY (LG z4 set)) i j).toNat) (i := i) (j := j) (by omega) (by omega) (by omega)
    have hm2 : kwp (q_X12_couple m set k w) (fun r' => dec (LG z4 set) (ky (LG z4 set) i j) w = r'.1 ∧ FRM m r'.2) := w_mono hm (fun r' h => by
      obtain ⟨fm, row, r1, r2, r3⟩ := h
      refine ⟨?_, fm⟩
      rw [r3, ← SO_only o3 r1 o2 r2 cu.2.2.2.1 k.toNat (by omega), h3])
    have b1 := bP ok.2.2 (show i < (LG z4 set).length by omega)
    have b2 := bP ok.2.2 h2
    refine ⟨⟨by omega, by omega⟩, fun _ => ⟨fun q => ?_, fun q => ⟨fun q1 => ?_, fun q1 => ?_⟩⟩, fun q => by omega⟩
    · unfold q_X1_distance
      rw [pk]
      simp only [kwp_kb, kwp_some]
      rw [show ky (LG z4 set) i j = (kyN (ds (lX (LG z4 set)) (lY (LG z4 set)) i j).toNat i j : Int) from rfl, un.1]
      refine w_mono hm2 (fun r' h => ⟨?_, ⟨by omega, by omega⟩, h.2⟩)
      rw [← h.1]
      unfold dec
      rw [if_pos q, km.2.1]
    · unfold q_X1_first q_X11_couple_J88
      rw [pk]
      simp only [kwp_kb, kwp_some]
      rw [show ky (LG z4 set) i j = (kyN (ds (lX (LG z4 set)) (lY (LG z4 set)) i j).toNat i j : Int) from rfl, un.2.1, q_sn hS (show i < (LG z4 set).length by omega)]
      simp only [kwp_some]
      refine w_mono hm2 (fun r' h => ⟨?_, ⟨by omega, by omega⟩, h.2⟩)
      rw [← h.1]
      unfold dec
      rw [if_neg q, if_pos q1, km.2.2.1, Int.toNat_natCast]
    · unfold q_X1_second q_X11_couple_J88
      rw [pk]
      simp only [kwp_kb, kwp_some]
      rw [show ky (LG z4 set) i j = (kyN (ds (lX (LG z4 set)) (lY (LG z4 set)) i j).toNat i j : Int) from rfl, un.2.2, q_sn hS h2]
      simp only [kwp_some]
      refine w_mono hm2 (fun r' h => ⟨?_, ⟨by omega, by omega⟩, h.2⟩)
      rw [← h.1]
      unfold dec
      rw [if_neg q, if_neg q1, km.2.2.2, Int.toNat_natCast]
  · refine qri_of (-1) ?_ ?_ (by decide)
    · unfold q_X11_couple
      simp only [kwp_kg, kwp_kif, kwp_kb, kwp_some]
      refine ⟨hk, fun _ => (by first | exact trivial | rfl), fun q0 => ⟨hw, fun _ => (by first | exact trivial | rfl), fun q1 => ⟨fun _ => (by first | exact trivial | rfl), fun q2 => ?_⟩⟩⟩
      by_cases hgd : gdS z4 set
      · refine w_mono (gath_t hH.1 hs hgd) ?_
        rintro ⟨b', z'⟩ ⟨e, hS⟩
        dsimp only at e hS ⊢
        subst e
        refine ⟨fun q => absurd q kz_t, fun _ => w_mono (q_orderC hS ok.2.2 ok.1 cu.2.2.2.2) (fun z2 ho => ?_)⟩
        unfold q_X1_count
        simp only [kwp_kg, kwp_kif, kwp_kb, kwp_some]
        rw [ho.1]
        have c1 := cu.1
        have c2 : cuN (LG z4 set) = (paF (LG z4 set) (LG z4 set).length).2 := rfl
        exact ⟨⟨by omega, by omega⟩, fun q => absurd ⟨⟨by omega, by omega⟩, hgd, by omega, by omega⟩ hg, fun _ => (by first | exact trivial | rfl)⟩
      · refine w_mono (gath_f hH.1 hs hgd) ?_
        rintro ⟨b', z'⟩ e
        dsimp only at e ⊢
        subst e
        exact ⟨fun _ => (by first | exact trivial | rfl), fun q => (q (by trivial)).elim⟩
    · unfold q_X12_couple
      rw [qm_isIn hw (by decide) (by decide)]
      simp only [kwp_kg, kwp_kif, kwp_kb, kwp_some]
      refine ⟨fun _ => ⟨(by first | exact trivial | rfl), FRM_rfl m⟩, fun q0 => ?_⟩
      have b3 : 0 ≤ w ∧ w ≤ 2 := by
        cases e : decide (0 ≤ w ∧ w ≤ 2) with
        | true => exact of_decide_eq_true e
        | false => rw [e] at q0; exact absurd rfl q0
      by_cases hgd : gdS z4 set
      · refine w_mono (laid_t hH hs hgd) ?_
        rintro ⟨b', m2⟩ ⟨e, f2, HS⟩
        dsimp only at e f2 HS ⊢
        subst e
        have c1 := cu.1
        rw [HS.1, ← cu.2.1, Int.tdiv_eq_ediv_of_nonneg (by omega), show (cuN (LG z4 set) : Int) * 2 / 2 = (cuN (LG z4 set) : Int) by omega, qm_isIn hk (by decide) ⟨by omega, by omega⟩, decide_eq_false (show ¬ (0 ≤ k ∧ k ≤ (cuN (LG z4 set) : Int) - 1) from fun q => hg ⟨b3, hgd, by omega, by omega⟩)]
        simp only [kwp_some]
        exact ⟨fun q => absurd q kz_t, fun _ => ⟨⟨by omega, by omega⟩, fun _ => ⟨(by first | exact trivial | rfl), FQ_frm f2⟩, fun q => (q (by trivial)).elim⟩⟩
      · refine w_mono (laid_f hH hs hgd) ?_
        rintro ⟨b', m2⟩ ⟨e, f2⟩
        dsimp only at e f2 ⊢
        subst e
        exact ⟨fun _ => ⟨(by first | exact trivial | rfl), FQ_frm f2⟩, fun q => (q (by trivial)).elim⟩
