/-! ===== spots, spot ===== -/
theorem T_spots {z11 : tZ11} {z4 : tZ4} {z9 : tZ9} {z10 : tZ10} {z8 : tZ8} {m : tZ12} (H : REL z4 z9 z10 m) {set : Int} (hs : k32 set) : QRI m (q_X11_spots z11 z4 z8 set) (q_X12_spots m set) := by
  have hH := H.1.1
  have ok := GL_ok (set := set) hH.1 hH.1.2.2
  by_cases hg : 1 ≤ set ∧ set < 16
  · refine qri_of ((GL z4.1 set (z4.1 128)).length : Int) ?_ ?_ ⟨by omega, by omega⟩
    · unfold q_X11_spots q_X11_gather
      rw [q_isSet hs, decide_eq_true hg]
      simp only [kwp_kg, kwp_kif, kwp_kb, kwp_some]
      refine ⟨fun q => absurd q kz_t, fun _ => w_of (q_now z4) (w_mono (q_gatherAt hH.1 hs hH.1.2.2) ?_)⟩
      rintro ⟨b', z'⟩ h
      rcases h with ⟨h, _⟩ | ⟨_, hS, _⟩
      · exact absurd hg h
      · exact w_of (show q_X8_count z' = some z'.2.2.2 from rfl) hS.1
    · unfold q_X12_spots
      rw [qm_isSet hs, decide_eq_true (show 1 ≤ set ∧ set ≤ 15 by omega)]
      simp only [kwp_kg, kwp_kif, kwp_kb, kwp_some]
      refine ⟨fun q => absurd q kz_t, fun _ => w_mono (qm_laySet hH set) (fun x h => ⟨h.1, FQ_frm h.2.2⟩)⟩
  · refine qri_of (-1) ?_ ?_ (by decide)
    · unfold q_X11_spots
      rw [q_isSet hs, decide_eq_false hg]
      simp only [kwp_kg, kwp_kif, kwp_kb, kwp_some]
      exact ⟨fun _ => (by first | exact trivial | rfl), fun q => (q (by trivial)).elim⟩
    · unfold q_X12_spots
      rw [qm_isSet hs, decide_eq_false (show ¬ (1 ≤ set ∧ set ≤ 15) by omega)]
      simp only [kwp_kg, kwp_kif, kwp_kb, kwp_some]
      exact ⟨fun _ => ⟨(by first | exact trivial | rfl), FRM_rfl m⟩, fun q => (q (by trivial)).elim⟩
def spV (l : List Spt) (n w : Int) : Int := if 0 ≤ n ∧ n < (l.length : Int) ∧ 0 ≤ w ∧ w ≤ 2 then (if w = 0 then (g8 l n.toNat).1 else if w = 1 then (g8 l n.toNat).2.1 else (g8 l n.toNat).2.2) else -1000
theorem T_spot {z11 : tZ11} {z4 : tZ4} {z9 : tZ9} {z10 : tZ10} {z8 : tZ8} {m : tZ12} (H : REL z4 z9 z10 m) {set n w : Int} (hs : k32 set) (hn : k32 n) (hw : k32 w) : QRI m (q_X11_spot z11 z4 z8 set n w) (q_X12_spot m set n w) := by
  have hH := H.1.1
  have ok := GL_ok (set := set) hH.1 hH.1.2.2
  by_cases hg : 1 ≤ set ∧ set < 16 ∧ 0 < (GL z4.1 set (z4.1 128)).length
  · obtain ⟨l, hl⟩ : ∃ l, l = GL z4.1 set (z4.1 128) := ⟨_, rfl⟩
    rw [← hl] at ok hg
    have hk : k32 (spV l n w) := by
      unfold spV
      split
      · rename_i h
        have b := bd_g8 ok.2.2 (i := n.toNat) (by omega)
        split
        · exact ⟨by omega, by omega⟩
        · split
          · exact ⟨by omega, by omega⟩
          · exact ⟨by omega, by omega⟩
      · decide
    refine qri_of (spV l n w) ?_ ?_ hk
    · unfold q_X11_spot
      simp only [kwp_kg, kwp_kif, kwp_kb, kwp_some]
      refine w_mono (q_gather hH.1 hs) ?_
      rw [← hl]
      rintro ⟨b', z'⟩ h
      rcases h with ⟨h, _⟩ | ⟨_, rfl, hS⟩
      · exact absurd hg h
      · dsimp only at hS ⊢
        have ec : q_X8_count z' = some (l.length : Int) := congrArg some hS.1
        refine ⟨fun q => absurd q kz_t, fun _ => ⟨hn, fun q => ?_, fun q => w_of ec ⟨⟨by omega, by omega⟩, fun q2 => ⟨hw, fun q3 => ?_, fun q3 => ⟨fun q4 => ?_, fun q4 => ⟨fun q5 => ?_, fun q5 => ?_⟩⟩⟩, fun q2 => ?_⟩⟩⟩
        · unfold spV; rw [if_neg (by omega)]
        · unfold q_X8_x
          simp only [kwp_kg, kwp_kif, kwp_some]
          rw [hS.1]
          refine ⟨hn, fun v => by omega, fun _ => ⟨⟨by omega, by omega⟩, fun v => by omega, fun _ => ⟨⟨by omega, by omega⟩, ?_⟩⟩⟩
          unfold spV
          rw [if_pos (by omega), if_pos q3]
          exact (hS.2.2 _ (by omega)).1
        · unfold q_X8_y
          simp only [kwp_kg, kwp_kif, kwp_some]
          rw [hS.1]
          refine ⟨hn, fun v => by omega, fun _ => ⟨⟨by omega, by omega⟩, fun v => by omega, fun _ => ⟨⟨by omega, by omega⟩, ?_⟩⟩⟩
          unfold spV
          rw [if_pos (by omega), if_neg q3, if_pos q4]
          exact (hS.2.2 _ (by omega)).2.1
        · unfold q_X8_number
          simp only [kwp_kg, kwp_kif, kwp_some]
          rw [hS.1]
          refine ⟨hn, fun v => by omega, fun _ => ⟨⟨by omega, by omega⟩, fun v => by omega, fun _ => ⟨⟨by omega, by omega⟩, ?_⟩⟩⟩
          unfold spV
          rw [if_pos (by omega), if_neg q3, if_neg q4]
          exact (hS.2.2 _ (by omega)).2.2
        · unfold spV; rw [if_neg (by omega)]
        · unfold spV; rw [if_neg (by omega)]
    · unfold q_X12_spot
      simp only [kwp_kg, kwp_kif, kwp_kb, kwp_some]
      refine w_mono (qm_isLaid hH hs) ?_
      rw [← hl]
      rintro ⟨b', m1⟩ ⟨f1, h⟩
      rcases h with ⟨h, _⟩ | ⟨_, hS, rfl⟩
      · exact absurd ⟨hg.1, hg.2.1⟩ h
      · dsimp only at f1 hS ⊢
        rw [decide_eq_true hg.2.2]
        refine ⟨fun q => absurd q kz_t, fun _ => ?_⟩
        have fm := FQ_frm f1
        rw [qm_isIn hn (by decide) ⟨by rw [hS.1]; omega, by rw [hS.1]; omega⟩, hS.1, kwp_some]
        refine ⟨fun q => ?_, fun q => ?_⟩
        · have q' := of_decide_eq_false ((kz_0 _).mp q)
          unfold spV
          rw [if_neg (by omega)]
          exact ⟨(by first | exact trivial | rfl), fm⟩
        · rw [qm_isIn hw (by decide) (by decide), kwp_some]
          have q' : 0 ≤ n ∧ n ≤ (l.length : Int) - 1 := by
            cases e : decide (0 ≤ n ∧ n ≤ (l.length : Int) - 1) with
            | true => exact of_decide_eq_true e
            | false => rw [e] at q; exact absurd rfl q
          have h3 := hS.2.2 n.toNat (by omega)
          refine ⟨fun q2 => ?_, fun q2 => ⟨hw, fun q3 => ⟨⟨by omega, by omega⟩, ?_, fm⟩, fun q3 => ⟨fun q4 => ⟨⟨by omega, by omega⟩, ?_, fm⟩, fun q4 => ⟨⟨by omega, by omega⟩, ?_, fm⟩⟩⟩⟩
          · have q2' := of_decide_eq_false ((kz_0 _).mp q2)
            unfold spV
            rw [if_neg (by omega)]
            exact ⟨(by first | exact trivial | rfl), fm⟩
          all_goals
            have q2' : 0 ≤ w ∧ w ≤ 2 := by
              cases e : decide (0 ≤ w ∧ w ≤ 2) with
              | true => exact of_decide_eq_true e
              | false => rw [e] at q2; exact absurd rfl q2
            unfold spV
            rw [if_pos (by omega)]
          · rw [if_pos q3]
            exact h3.1
          · rw [if_neg q3, if_pos q4]
            exact h3.2.1
          · rw [if_neg q3, if_neg q4]
            exact h3.2.2
  · refine qri_of (-1000) ?_ ?_ (by decide)
    · unfold q_X11_spot
      simp only [kwp_kg, kwp_kif, kwp_kb, kwp_some]
      refine w_mono (q_gather hH.1 hs) ?_
      rintro ⟨b', z'⟩ h
      rcases h with ⟨_, rfl⟩ | ⟨h, _⟩
      · exact ⟨fun _ => (by first | exact trivial | rfl), fun q => (q (by trivial)).elim⟩
      · exact absurd h hg
    · unfold q_X12_spot
      simp only [kwp_kg, kwp_kif, kwp_kb, kwp_some]
      refine w_mono (qm_isLaid hH hs) ?_
      rintro ⟨b', m1⟩ ⟨f1, h⟩
      have hb : b' = false := by
        rcases h with ⟨_, h⟩ | ⟨h1, _, h2⟩
        · exact h
        · dsimp only at h2
          rw [h2]
          exact decide_eq_false (fun v => hg ⟨h1.1, h1.2, v⟩)
      subst hb
      exact ⟨fun _ => ⟨(by first | exact trivial | rfl), FQ_frm f1⟩, fun q => (q (by trivial)).elim⟩
