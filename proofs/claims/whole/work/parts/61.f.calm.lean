/-! ===== calm, heaviest ===== -/
theorem f_idem {a b : Int} (hb : 0 < b) : fN (fN a b) (fD a b) = fN a b ∧ fD (fN a b) (fD a b) = fD a b := f_eq (fD_pos hb) hb f_cross
theorem sz_idem {C : Cir} (h : bdC C) : fN (szN C) (szD C) = szN C ∧ fD (szN C) (szD C) = szD C := f_idem (bdC_k h).2.2.2.1
noncomputable def bT (f : Nat → Int × Int) : Nat → Nat
  | 0 => 0
  | t + 1 => if sgc (f (t + 1)).1 (f (t + 1)).2 (f (bT f t)).1 (f (bT f t)).2 < 0 then t + 1 else bT f t
theorem bT_le (f : Nat → Int × Int) : ∀ t, bT f t ≤ t := by
  intro t
  induction t with
  | zero => exact Nat.le_refl _
  | succ t ih => unfold bT; split <;> omega
def okF (p : Int × Int) : Prop := 0 ≤ p.1 ∧ k63 p.1 ∧ 0 < p.2 ∧ k63 p.2 ∧ fN p.1 p.2 = p.1 ∧ fD p.1 p.2 = p.2
theorem okF_C {C : Cir} (h : bdC C) : okF (szN C, szD C) := by
  have k := sz_k h
  have i := sz_idem h
  exact ⟨k.1, k.2.1, k.2.2.1, k.2.2.2, i.1, i.2⟩
noncomputable def fT (r : Nat → Int) (set : Int) (t : Nat) : Int × Int := (szN (MT r set (t : Int)), szD (MT r set (t : Int)))
theorem fT_eq {r : Nat → Int} {set : Int} {t : Nat} (H : VR r) (ht : t ≤ 20) (h0 : 0 < (GL r set (t : Int)).length) {C : Cir} (hC : mecOf (lX (GL r set (t : Int))) (lY (GL r set (t : Int))) aM (GL r set (t : Int)).length C) : (szN C, szD C) = fT r set t := by
  have e := MT_sz H ⟨by omega, by omega⟩ h0 hC
  unfold fT
  rw [e.1, e.2]
theorem fT_ok {r : Nat → Int} {set : Int} {t : Nat} (H : VR r) (ht : t ≤ 20) (h0 : 0 < (GL r set (t : Int)).length) : okF (fT r set t) := by
  have ok := GL_ok (set := set) (t := (t : Int)) H ⟨by omega, by omega⟩
  obtain ⟨z8, hz8⟩ : ∃ z8 : tZ8, SPc z8 (GL r set (t : Int)) := ⟨(fun i => (g8 (GL r set (t : Int)) i).1, fun i => (g8 (GL r set (t : Int)) i).2.1, fun i => (g8 (GL r set (t : Int)) i).2.2, ((GL r set (t : Int)).length : Int)), rfl, by omega, fun i _ => ⟨rfl, rfl, rfl⟩⟩
  obtain ⟨z, _, h1, h2, _⟩ := q_about (z := (0, 0, 0, 0, 0, fun _ => 0, 0, fun _ => 0, 0)) hz8 ok.2.1 ok.2.2 h0
  rw [← fT_eq H ht h0 (mecOf_in0 h1)]
  exact okF_C (bdC_z h2)
theorem T_calm {z11 : tZ11} {z4 : tZ4} {z9 : tZ9} {z10 : tZ10} {z8 : tZ8} {z0 : tZ0} {z3 z3' : tZ3} {m : tZ12} (H : REL z4 z9 z10 m) {set w : Int} (hs : k32 set) (hw : k32 w) : QRY m (q_X11_calm z11 z4 z8 z0 z3 z3' set w) (q_X12_calm m set w) := by
  have hH := H.1.1
  by_cases hw0 : 0 ≤ w ∧ w ≤ 2
  · by_cases hg : 1 ≤ set ∧ set < 16 ∧ ∃ k, k < 40 ∧ inS z4.1 set k = true
    · have hpos : ∀ t, 0 < (GL z4.1 set t).length := fun t => GL_ne.mpr hg.2.2
      obtain ⟨f, hf⟩ : ∃ f, f = fT z4.1 set := ⟨_, rfl⟩
      have fok : ∀ t, t ≤ 20 → okF (f t) := fun t ht => by rw [hf]; exact fT_ok hH.1 ht (hpos _)
      have bok : ∀ t, t ≤ 20 → okF (f (bT f t)) := fun t ht => fok _ (by have := bT_le f t; omega)
      have hans : k64 (if w = 0 then (bT f 20 : Int) else if w = 1 then (f (bT f 20)).1 else (f (bT f 20)).2) := by
        have := bT_le f 20
        have o := bok 20 (Nat.le_refl _)
        split
        · exact ⟨by omega, by omega⟩
        · split
          · exact k64_63 o.2.1
          · exact k64_63 o.2.2.2.1
      refine qry_of (if w = 0 then (bT f 20 : Int) else if w = 1 then (f (bT f 20)).1 else (f (bT f 20)).2) ?_ ?_ hans
      · unfold q_X11_calm
        simp only [kwp_kg, kwp_kif, kwp_kb, kwp_some]
        refine ⟨hw, fun q => by omega, fun _ => ⟨fun _ => ?_, fun q => by omega⟩⟩
        refine w_mono (w_for (ex := 128) (by decide) (fun t (s : Int × Int × tZ8 × tZ0 × tZ3 × tZ3) => s.2.1 = (t : Int) ∧ (0 < t → s.1 = (bT f (t - 1) : Int) ∧ s.2.2.2.2.2 = f (bT f (t - 1)))) 21 ?_ ?_ (Nat.zero_le _) (by decide) ⟨rfl, fun h => absurd h (Nat.lt_irrefl _)⟩) ?_
        · rintro t ⟨cm, c, s8, s0, s3, sb⟩ ht ⟨rfl, h⟩
          dsimp only at h
          unfold q_X11_calm_L18
          simp only [kwp_kg, kwp_kif, kwp_kb, kwp_some, kwp_kl]
          refine ⟨⟨by omega, by omega⟩, fun q => by omega, fun _ => ?_⟩
          have ht2 : 0 ≤ (t : Int) ∧ (t : Int) ≤ 20 := ⟨by omega, by omega⟩
          refine w_mono (q_gatherAt hH.1 hs ht2) ?_
          rintro ⟨b', z'⟩ hh
          rcases hh with ⟨hh, _⟩ | ⟨_, hS, rfl⟩
          · exact absurd ⟨hg.1, hg.2.1⟩ hh
          · dsimp only at hS ⊢
            rw [decide_eq_true (hpos _)]
            refine ⟨fun q => absurd q kz_t, fun _ => w_mono (q_mec hH.1 ht2 hS (hpos _)) (fun z'' ⟨g1, g2, g3, _⟩ => ?_)⟩
            have e := fT_eq hH.1 (show t ≤ 20 by omega) (hpos _) g1
            rw [← hf] at e
            have o := fok t (by omega)
            have e0 : q_X0_size z'' s3 = some (f t) := by rw [q_size g2 s3]; exact congrArg some e
            refine w_of e0 ?_
            have J : (0 < t → sgc (f t).1 (f t).2 (f (bT f (t - 1))).1 (f (bT f (t - 1))).2 < 0) → kwp (q_X11_calm_J96_18 z11 z4 set w z' z'' (f t) sb (t : Int)) (fun e => e.1 = 18 ∧ e.2.2.1 = ((t + 1 : Nat) : Int) ∧ (0 < t + 1 → e.2.1 = (bT f (t + 1 - 1) : Int) ∧ e.2.2.2.2.2.2 = f (bT f (t + 1 - 1)))) := fun hl => by
              have eb : bT f t = t := by
                cases t with
                | zero => rfl
                | succ t =>
                  have hl' := hl (by omega)
                  rw [Nat.add_sub_cancel] at hl'
                  unfold bT
                  rw [if_pos hl']
              unfold q_X11_calm_J96_18
              rw [q_part0, q_part1]
              simp only [kwp_kb, kwp_some, kwp_kl]
              rw [q_set o.2.1 o.2.2.1 o.2.2.2.1]
              simp only [kwp_some]
              refine ⟨by trivial, by omega, fun _ => ⟨by rw [Nat.add_sub_cancel, eb], ?_⟩⟩
              rw [Nat.add_sub_cancel, eb, o.2.2.2.2.1, o.2.2.2.2.2]
            refine ⟨fun q => J (fun w => by omega), fun q => ?_⟩
            have ht0 : 0 < t := by omega
            obtain ⟨h1, h2⟩ := h ht0
            have ob := bok (t - 1) (by omega)
            rw [q_part0, q_part1, h2]
            simp only [kwp_some]
            refine w_of (q_against (k64_63 o.2.1) o.2.2.1 (k64_63 o.2.2.2.1) (k64_63 ob.2.1) ob.2.2.1 (k64_63 ob.2.2.2.1)) ⟨sgc_k _ _ _ _, fun v => ⟨by trivial, by omega, fun _ => ?_⟩, fun v => ?_⟩
            · have eb : bT f t = bT f (t - 1) := by
                obtain ⟨u, rfl⟩ : ∃ u, t = u + 1 := ⟨t - 1, by omega⟩
                show (if sgc (f (u + 1)).1 (f (u + 1)).2 (f (bT f u)).1 (f (bT f u)).2 < 0 then u + 1 else bT f u) = _
                rw [Nat.add_sub_cancel] at v
                rw [if_neg (by omega)]
                rfl
              rw [Nat.add_sub_cancel, eb]
              exact ⟨h1, (by first | exact trivial | rfl)⟩
            · rw [← h2]
              exact J (fun _ => by omega)
        · rintro ⟨cm, c, s⟩ ⟨rfl, h⟩
          dsimp only at h
          unfold q_X11_calm_L18
          simp only [kwp_kg, kwp_kif, kwp_kb, kwp_some, kwp_kl]
          exact ⟨⟨by omega, by omega⟩, fun _ => ⟨by trivial, by trivial, h⟩, fun q => by omega⟩
        · rintro ⟨lb, cm, c, s8, s0, s3, sb⟩ ⟨h0, _, h⟩
          dsimp only at h0 h ⊢
          subst h0
          obtain ⟨h1, h2⟩ : cm = (bT f 20 : Int) ∧ sb = f (bT f 20) := h (by decide)
          have hb := bT_le f 20
          rw [h1, h2]
          refine ⟨fun q => absurd q (by decide), fun _ => ⟨by trivial, fun q => ⟨⟨by omega, by omega⟩, by rw [if_pos q]⟩, fun q => ?_⟩⟩
          rw [q_part ⟨by omega, by omega⟩, kwp_some, if_neg q]
          by_cases e : w = 1
          · rw [if_pos e, if_pos (by omega)]
          · rw [if_neg e, if_neg (by omega)]
      · unfold q_X12_calm
        rw [qm_isIn hw (by decide) (by decide), decide_eq_true hw0]
        simp only [kwp_kg, kwp_kif, kwp_kb, kwp_some, kwp_kl]
        refine ⟨fun q => absurd q kz_t, fun _ => w_mono (qm_isLaid hH hs) ?_⟩
        rintro ⟨b', m1⟩ ⟨f1, h⟩
        rcases h with ⟨h, _⟩ | ⟨_, hS, rfl⟩
        · exact absurd ⟨hg.1, hg.2.1⟩ h
        · dsimp only at f1 hS ⊢
          rw [decide_eq_true (hpos _)]
          refine ⟨fun q => absurd q kz_t, fun _ => ⟨by decide, ?_⟩⟩
          have row : m1.2.2.1 0 ((168 : Int).toNat) = m.2.2.1 0 168 := by rw [f1.2.2.1 0 (by decide)]; rfl
          rw [row]
          refine w_mono (w_for (ex := 115) (by decide) (fun t (s : Int × Int × Int × Int × tZ12) => s.2.2.2.1 = (t : Int) ∧ FQT m s.2.2.2.2 ∧ (t = 0 → s.1 = -1) ∧ (0 < t → s.1 = (bT f (t - 1) : Int) ∧ s.2.1 = (f (bT f (t - 1))).1 ∧ s.2.2.1 = (f (bT f (t - 1))).2)) 21 ?_ ?_ (Nat.zero_le _) (by decide) ⟨rfl, FQT_of f1, fun _ => rfl, fun h => absurd h (Nat.lt_irrefl _)⟩) ?_
          · rintro t ⟨cm, a, b, c, s⟩ ht ⟨rfl, fq, hz, h⟩
            dsimp only at fq hz h
            unfold q_X12_calm_L42
            simp only [kwp_kg, kwp_kif, kwp_kb, kwp_some, kwp_kl]
            have ht2 : 0 ≤ (t : Int) ∧ (t : Int) ≤ 20 := ⟨by omega, by omega⟩
            refine ⟨⟨by omega, by omega⟩, fun q => by omega, fun _ => ⟨by decide, w_mono (qm_circleAt hH fq hs ht2) ?_⟩⟩
            rintro ⟨b', m2⟩ ⟨f2, hh⟩
            rcases hh with ⟨hh, _⟩ | ⟨_, rfl, _, C, hC, hmec⟩
            · exact absurd ⟨hg.1, hg.2.1, hpos _⟩ hh
            · dsimp only at f2 hC ⊢
              have e := fT_eq hH.1 (show t ≤ 20 by omega) (hpos _) hmec
              rw [← hf] at e
              have s1 := MCs_sz hC
              have e1 : m2.2.1 21 = (f t).1 := by rw [s1.1, ← e]
              have e2 : m2.2.1 22 = (f t).2 := by rw [s1.2, ← e]
              rw [e1, e2]
              have o := fok t (by omega)
              have hcm : k32 cm := by
                by_cases e : t = 0
                · rw [hz e]; decide
                · have := bT_le f (t - 1)
                  rw [(h (by omega)).1]
                  exact ⟨by omega, by omega⟩
              have take : (0 < t → sgc (f t).1 (f t).2 (f (bT f (t - 1))).1 (f (bT f (t - 1))).2 < 0) → bT f t = t := fun hl => by
                cases t with
                | zero => rfl
                | succ t =>
                  have hl' := hl (by omega)
                  rw [Nat.add_sub_cancel] at hl'
                  unfold bT
                  rw [if_pos hl']
              refine ⟨hcm, fun q => ⟨by trivial, by omega, f2, fun w => by omega, fun _ => ?_⟩, fun q => ?_⟩
              · have ht0 : t = 0 := by
                  by_cases e : t = 0
                  · exact e
                  · rw [(h (by omega)).1] at q
                    omega
                rw [Nat.add_sub_cancel, take (fun w => by omega)]
                exact ⟨(by first | exact trivial | rfl), (by first | exact trivial | rfl), (by first | exact trivial | rfl)⟩
              · have ht0 : 0 < t := by
                  by_cases e : t = 0
                  · exact absurd (hz e) q
                  · omega
                obtain ⟨h1, h2, h3⟩ := h ht0
                have ob := bok (t - 1) (by omega)
                rw [h2, h3]
                refine w_of (qm_against o.1 (k64_63 o.2.1) o.2.2.1 (k64_63 o.2.2.2.1) ob.1 (k64_63 ob.2.1) ob.2.2.1 (k64_63 ob.2.2.2.1)) ⟨sgc_k _ _ _ _, fun v => ⟨by trivial, by omega, f2, fun w => by omega, fun _ => ?_⟩, fun v => ⟨by trivial, by omega, f2, fun w => by omega, fun _ => ?_⟩⟩
                · rw [Nat.add_sub_cancel, take (fun _ => v)]
                  exact ⟨(by first | exact trivial | rfl), (by first | exact trivial | rfl), (by first | exact trivial | rfl)⟩
                · have eb : bT f t = bT f (t - 1) := by
                    obtain ⟨u, rfl⟩ : ∃ u, t = u + 1 := ⟨t - 1, by omega⟩
                    show (if sgc (f (u + 1)).1 (f (u + 1)).2 (f (bT f u)).1 (f (bT f u)).2 < 0 then u + 1 else bT f u) = _
                    rw [Nat.add_sub_cancel] at v
                    rw [if_neg v]
                    rfl
                  rw [Nat.add_sub_cancel, eb]
                  exact ⟨h1, (by first | exact trivial | rfl), (by first | exact trivial | rfl)⟩
          · rintro ⟨cm, a, b, c, s⟩ ⟨rfl, h⟩
            dsimp only at h
            unfold q_X12_calm_L42
            simp only [kwp_kg, kwp_kif, kwp_kb, kwp_some, kwp_kl]
            exact ⟨⟨by omega, by omega⟩, fun _ => ⟨by trivial, by trivial, h⟩, fun q => by omega⟩
          · rintro ⟨lb, cm, a, b, c, s⟩ ⟨h0, _, fq, _, h⟩
            dsimp only at h0 fq h ⊢
            obtain ⟨h1, h2, h3⟩ : cm = (bT f 20 : Int) ∧ a = (f (bT f 20)).1 ∧ b = (f (bT f 20)).2 := h (by decide)
            have hb := bT_le f 20
            rw [h1, h2, h3]
            refine ⟨h0, hw, fun q => ⟨⟨by omega, by omega⟩, by rw [if_pos q], FQT_back fq⟩, fun q => ⟨fun q2 => ⟨by rw [if_neg q, if_pos q2], FQT_back fq⟩, fun q2 => ⟨by rw [if_neg q, if_neg q2], FQT_back fq⟩⟩⟩
    · have hno : ∀ t, ¬ (1 ≤ set ∧ set < 16 ∧ 0 < (GL z4.1 set t).length) := fun t h => hg ⟨h.1, h.2.1, GL_ne.mp h.2.2⟩
      refine qry_of (-1) ?_ ?_ (by decide)
      · unfold q_X11_calm
        simp only [kwp_kg, kwp_kif, kwp_kb, kwp_some]
        refine ⟨hw, fun q => by omega, fun _ => ⟨fun _ => ?_, fun q => by omega⟩⟩
        refine w_mono (w_loop (fun n s => n = 0 ∧ s.2.1 = 0) (Q := fun e => e.1 = 39) ?_ kF 0 _ (by decide) ⟨rfl, rfl⟩) ?_
        · rintro n ⟨cm, c, s8, s0, s3⟩ ⟨rfl, rfl⟩
          unfold q_X11_calm_L18
          simp only [kwp_kg, kwp_kif, kwp_kb, kwp_some, kwp_kl]
          refine ⟨by decide, fun q => absurd q (by decide), fun _ => w_mono (q_gatherAt hH.1 hs (by decide)) ?_⟩
          rintro ⟨b', z'⟩ h
          have hb : b' = false := by
            rcases h with ⟨_, h⟩ | ⟨h1, _, h2⟩
            · exact h
            · dsimp only at h2
              rw [h2]
              exact decide_eq_false (fun v => hno 0 ⟨h1.1, h1.2, v⟩)
          subst hb
          exact ⟨fun _ => Or.inr ⟨by decide, by trivial⟩, fun q => (q (by trivial)).elim⟩
        · rintro ⟨lb, c, s⟩ h
          dsimp only at h
          subst h
          exact ⟨fun _ => (by first | exact trivial | rfl), fun q => (q (by trivial)).elim⟩
      · unfold q_X12_calm
        rw [qm_isIn hw (by decide) (by decide), decide_eq_true hw0]
        simp only [kwp_kg, kwp_kif, kwp_kb, kwp_some]
        refine ⟨fun q => absurd q kz_t, fun _ => w_mono (qm_isLaid hH hs) ?_⟩
        rintro ⟨b', m1⟩ ⟨f1, h⟩
        have hb : b' = false := by
          rcases h with ⟨_, h⟩ | ⟨h1, _, h2⟩
          · exact h
          · dsimp only at h2
            rw [h2]
            exact decide_eq_false (fun v => hno _ ⟨h1.1, h1.2, v⟩)
        subst hb
        exact ⟨fun _ => ⟨(by first | exact trivial | rfl), FQ_frm f1⟩, fun q => (q (by trivial)).elim⟩
  · refine qry_of (-1) ?_ ?_ (by decide)
    · unfold q_X11_calm
      simp only [kwp_kg, kwp_kif, kwp_kb, kwp_some]
      exact ⟨hw, fun _ => (by first | exact trivial | rfl), fun q => ⟨fun q2 => by omega, fun _ => (by first | exact trivial | rfl)⟩⟩
    · unfold q_X12_calm
      rw [qm_isIn hw (by decide) (by decide), decide_eq_false hw0]
      simp only [kwp_kg, kwp_kif, kwp_kb, kwp_some]
      exact ⟨fun _ => ⟨(by first | exact trivial | rfl), FRM_rfl m⟩, fun q => (q (by trivial)).elim⟩
