/-! ===== whole ===== -/
theorem gS_le {l : List Spt} (hb : bdL l) {h : Nat → Nat} {c : Nat} (hl : ∀ i, i < c → h i < l.length) {i : Nat} (hi : i < c) : gS l h c i ≤ 320 := by
  have b1 := bX hb (hl i hi)
  have b2 := bX hb (hl _ (nx_lt hi))
  unfold gS Int.gcd
  by_cases e : (lX l (h (nx c i)) - lX l (h i)).natAbs = 0
  · rw [e, Nat.gcd_zero_left]
    omega
  · have := Nat.gcd_le_left (lY l (h (nx c i)) - lY l (h i)).natAbs (Nat.pos_of_ne_zero e)
    omega
theorem sumG_bd {l : List Spt} (hb : bdL l) {h : Nat → Nat} {c : Nat} (hl : ∀ i, i < c → h i < l.length) : ∀ n, n ≤ c → 0 ≤ sumG l h c n ∧ sumG l h c n ≤ n * 320
  | 0, _ => ⟨Int.le_refl _, by show (0 : Int) ≤ ((0 : Nat) : Int) * 320; decide⟩
  | n + 1, hn => by
    have ih := sumG_bd hb hl n (by omega)
    have g := gS_le hb hl (i := n) (by omega)
    have e : sumG l h c (n + 1) = sumG l h c n + (gS l h c n : Int) := rfl
    omega
theorem gS_ne {l : List Spt} (hs : sorL l) (h0 : 0 < l.length) (h2 : 2 ≤ hC l) {i : Nat} (hi : i < hC l) : gS l (hJ l) (hC l) i ≠ 0 := by
  intro e
  have d := hJ_dif hs h0 (nx_lt hi) hi (nx_ne h2 hi)
  have z := Int.gcd_eq_zero_iff.mp e
  omega
theorem gS_two (l : List Spt) (h : Nat → Nat) : gS l h 2 1 = gS l h 2 0 := by
  have e1 : nx 2 1 = 0 := rfl
  have e2 : nx 2 0 = 1 := rfl
  unfold gS
  rw [e1, e2]
  unfold Int.gcd
  rw [show lX l (h 0) - lX l (h 1) = -(lX l (h 1) - lX l (h 0)) by omega, show lY l (h 0) - lY l (h 1) = -(lY l (h 1) - lY l (h 0)) by omega, Int.natAbs_neg, Int.natAbs_neg]
def rmV (l : List Spt) : Int := if hC l = 1 then 1 else if hC l = 2 then (gS l (hJ l) (hC l) 0 : Int) + 1 else sumG l (hJ l) (hC l) (hC l)
def whV (l : List Spt) (w : Int) : Int :=
  if w = 0 then rmV l else if 3 ≤ hC l then ((sumA l (hJ l) (hC l) (hC l) - rmV l) + 2).tdiv 2 else 0
theorem tdiv2 {a : Int} (h : k63 a) : k32 a → k32 (a.tdiv 2) := fun h => by
  have e : a.tdiv 2 = if 0 ≤ a then a / 2 else -((-a) / 2) := by
    split
    · exact Int.tdiv_eq_ediv_of_nonneg (by omega)
    · rw [← Int.neg_neg a, Int.neg_tdiv, Int.tdiv_eq_ediv_of_nonneg (by omega), Int.neg_neg]
  rw [e]
  obtain ⟨h1, h2⟩ := h
  split <;> exact ⟨by omega, by omega⟩
theorem T_whole {z11 : tZ11} {z4 : tZ4} {z9 : tZ9} {z10 : tZ10} {z8 : tZ8} {z5 : tZ5} {m : tZ12} (H : REL z4 z9 z10 m) {set w : Int} (hs : k32 set) (hw : k32 w) : QRI m (q_X11_whole z11 z4 z8 z5 set w) (q_X12_whole m set w) := by
  have hH := H.1.1
  have ok := LG_ok hH.1 set
  by_cases hg : (0 ≤ w ∧ w ≤ 1) ∧ gdS z4 set
  · obtain ⟨⟨w0, w1⟩, hg⟩ := hg
    obtain ⟨hle, hp, hj⟩ := hull_fc hH.1 hg
    have bA := sumA_bd ok.2.2 hj _ (Nat.le_refl _)
    have bG := sumG_bd ok.2.2 hj _ (Nat.le_refl _)
    have g0 := gS_le ok.2.2 hj hp
    have kr : 0 ≤ rmV (LG z4 set) ∧ rmV (LG z4 set) ≤ 13000 := by
      unfold rmV
      split
      · omega
      · split <;> omega
    have kA : k32 ((sumA (LG z4 set) (hJ (LG z4 set)) (hC (LG z4 set)) (hC (LG z4 set)) - rmV (LG z4 set)) + 2) := ⟨by omega, by omega⟩
    have kv : k32 (whV (LG z4 set) w) := by
      unfold whV
      split
      · exact ⟨by omega, by omega⟩
      · split
        · exact tdiv2 ⟨by omega, by omega⟩ kA
        · exact ⟨by omega, by omega⟩
    refine qri_of (whV (LG z4 set) w) ?_ ?_ kv
    · unfold q_X11_whole
      simp only [kwp_kg, kwp_kif, kwp_kb, kwp_some]
      refine ⟨hw, fun q => by omega, fun _ => ⟨fun q => by omega, fun _ => w_mono (gath_t hH.1 hs hg) ?_⟩⟩
      rintro ⟨b', z'⟩ ⟨e, hS⟩
      dsimp only at e hS ⊢
      subst e
      refine ⟨fun q => absurd q kz_t, fun _ => w_mono (q_hasOutline (set := set) (l := LG z4 set) hH.1 rfl hg.2.2 hS) (fun z2 ho => ⟨fun q => ?_, fun q => ?_⟩)⟩
      · refine w_of (q_wholeOnRim ok.2.2 ho hp) ?_
        unfold whV
        rw [if_pos q]
        rfl
      · unfold q_X5_wholeWithin
        have oc := ho.1
        simp only [kwp_kg, kwp_kif, kwp_kb, kwp_some]
        have hr : q_X5_wholeOnRim z2 = some (rmV (LG z4 set)) := q_wholeOnRim ok.2.2 ho hp
        refine ⟨⟨by omega, by omega⟩, fun q1 => w_of (q_area ok.2.2 ho hp) (w_of hr ⟨⟨by omega, by omega⟩, ?_⟩), fun q1 => ?_⟩
        · unfold whV
          rw [if_neg q, if_pos (by omega)]
        · unfold whV
          rw [if_neg q, if_neg (by omega)]
    · unfold q_X12_whole
      rw [qm_isIn hw (by decide) (by decide), decide_eq_true (show 0 ≤ w ∧ w ≤ 1 from ⟨w0, w1⟩)]
      simp only [kwp_kg, kwp_kif, kwp_kb, kwp_some]
      refine ⟨fun q => absurd q kz_t, fun _ => w_mono (hulm_t hH hs hg) ?_⟩
      rintro ⟨b', m2⟩ ⟨e, f2, hS, h37, h35⟩
      dsimp only at e f2 hS h37 h35 ⊢
      subst e
      have fm := FQ_frm f2
      refine ⟨fun q => absurd q kz_t, fun _ => ⟨⟨by omega, by omega⟩, fun q1 => ⟨hw, fun q => ⟨?_, fm⟩, fun q => ⟨?_, fm⟩⟩, fun q1 => w_mono (qm_wholeL hS ok.2.2 h37 h35 hj (by omega) (fun i hi => gS_ne ok.2.1 hg.2.2 (by omega) hi)) ?_⟩⟩
      · unfold whV rmV
        rw [if_pos q, if_pos (by omega)]
      · unfold whV rmV
        rw [if_neg q, if_neg (by omega)]
      · rintro ⟨lb, s1, s2⟩ ⟨e0, e1⟩
        dsimp only at e0 e1 ⊢
        rw [e1]
        refine ⟨e0, fun q2 => ⟨hw, fun q => ⟨⟨by omega, by omega⟩, ?_, fm⟩, fun q => ⟨?_, fm⟩⟩, fun q2 => ⟨hw, fun q => ⟨?_, fm⟩, fun q => w_of (qm_area hS ok.2.2 h37 h35 hj hp (by omega)) ?_⟩⟩
        · have c2 : hC (LG z4 set) = 2 := by omega
          have e2 : sumG (LG z4 set) (hJ (LG z4 set)) 2 2 = 0 + (gS (LG z4 set) (hJ (LG z4 set)) 2 0 : Int) + (gS (LG z4 set) (hJ (LG z4 set)) 2 1 : Int) := rfl
          unfold whV rmV
          rw [if_pos q, if_neg (by omega), if_pos c2, c2, e2, gS_two, Int.tdiv_eq_ediv_of_nonneg (by omega)]
          omega
        · unfold whV
          rw [if_neg q, if_neg (by omega)]
        · unfold whV rmV
          rw [if_pos q, if_neg (by omega), if_neg (by omega)]
        · have er : rmV (LG z4 set) = sumG (LG z4 set) (hJ (LG z4 set)) (hC (LG z4 set)) (hC (LG z4 set)) := by
            unfold rmV
            rw [if_neg (by omega), if_neg (by omega)]
          refine ⟨by rw [← er]; exact kA, ?_, fm⟩
          unfold whV
          rw [if_neg q, if_pos (by omega), er]
  · refine qri_of (-1) ?_ ?_ (by decide)
    · unfold q_X11_whole
      simp only [kwp_kg, kwp_kif, kwp_kb, kwp_some]
      refine ⟨hw, fun _ => (by first | exact trivial | rfl), fun q0 => ⟨fun _ => (by first | exact trivial | rfl), fun q1 => w_mono (gath_f hH.1 hs (fun x => hg ⟨⟨by omega, by omega⟩, x⟩)) ?_⟩⟩
      rintro ⟨b', z'⟩ e
      dsimp only at e ⊢
      subst e
      exact ⟨fun _ => (by first | exact trivial | rfl), fun q => (q (by trivial)).elim⟩
    · unfold q_X12_whole
      rw [qm_isIn hw (by decide) (by decide)]
      simp only [kwp_kg, kwp_kif, kwp_kb, kwp_some]
      refine ⟨fun _ => ⟨(by first | exact trivial | rfl), FRM_rfl m⟩, fun q0 => ?_⟩
      have a1 : 0 ≤ w ∧ w ≤ 1 := by
        cases e : decide (0 ≤ w ∧ w ≤ 1) with
        | true => exact of_decide_eq_true e
        | false => rw [e] at q0; exact absurd rfl q0
      refine w_mono (hulm_f hH hs (fun x => hg ⟨a1, x⟩)) ?_
      rintro ⟨b', m2⟩ ⟨e, f2⟩
      dsimp only at e f2 ⊢
      subst e
      exact ⟨fun _ => ⟨(by first | exact trivial | rfl), FQ_frm f2⟩, fun q => (q (by trivial)).elim⟩
