/-! ===== over all TICKS: when, calm ===== -/
theorem live_tick {r : Nat → Int} {t : Int} {k : Nat} (hk : k < 40) : va_up r 128 t (80 + k) = r (80 + k) := va_ne _ _ (by omega)
theorem GL_tick {r : Nat → Int} (H : VR r) (set t u : Int) : GL (va_up r 128 u) set t = GL r set t := by
  refine gth_congr 40 (fun k hk => ?_)
  have hin : inS (va_up r 128 u) set k = inS r set k := by
    unfold inS lv
    rw [live_tick hk]
  unfold fB
  dsimp only
  simp only [hin]
  by_cases h : (decide (k < 40) && inS r set k) = true
  · rw [if_pos h, if_pos h]
    have := PS_ok k h
    obtain ⟨j, j1, j2, _⟩ := VR_live H hk this.2
    unfold stX stY
    rw [live_tick hk, j2, Int.toNat_natCast, va_ne _ _ (by omega), va_ne _ _ (by omega), va_ne _ _ (by omega), va_ne _ _ (by omega)]
  · rw [if_neg h, if_neg h]
theorem GL_ne {r : Nat → Int} {set t : Int} : 0 < (GL r set t).length ↔ ∃ k, k < 40 ∧ inS r set k = true := by
  constructor
  · intro h
    refine Classical.byContradiction (fun w => ?_)
    have e : GL r set t = [] := gth_none 40 (fun k hk => by
      unfold fB
      rw [if_neg]
      intro q
      rw [Bool.and_eq_true] at q
      exact w ⟨k, hk, q.2⟩)
    rw [e] at h
    exact absurd h (Nat.lt_irrefl _)
  · rintro ⟨k, h1, h2⟩
    exact GL_pos h1 h2
/-- the least circle of a SET at a TICK -/
noncomputable def MT (r : Nat → Int) (set t : Int) : Cir := Classical.epsilon (fun C => mecOf (lX (GL r set t)) (lY (GL r set t)) aM (GL r set t).length C)
theorem MT_ok {r : Nat → Int} {set t : Int} (H : VR r) (ht : 0 ≤ t ∧ t ≤ 20) (h0 : 0 < (GL r set t).length) : mecOf (lX (GL r set t)) (lY (GL r set t)) aM (GL r set t).length (MT r set t) := by
  obtain ⟨C, hC⟩ := mec_ex (M := aM) (dif_sor (GL_ok (set := set) H ht).2.1) (GL r set t).length (Nat.le_refl _) ⟨0, h0, trivial⟩
  exact Classical.epsilon_spec (p := fun C => mecOf (lX (GL r set t)) (lY (GL r set t)) aM (GL r set t).length C) ⟨C, mecOf_in0 hC⟩
theorem MT_sz {r : Nat → Int} {set t : Int} (H : VR r) (ht : 0 ≤ t ∧ t ≤ 20) (h0 : 0 < (GL r set t).length) {C : Cir} (hC : mecOf (lX (GL r set t)) (lY (GL r set t)) aM (GL r set t).length C) : szN C = szN (MT r set t) ∧ szD C = szD (MT r set t) := by
  have hM := MT_ok H ht h0
  exact sz_P hC.1 hM.1 (mecOf_only hC hM)
/-- a query that moves TICK and puts it back -/
def FQT (m m' : tZ12) : Prop := (∀ j, j < 15 → m'.1 j = m.1 j) ∧ m'.1 55 = m.1 55 ∧ (∀ j, 0 < j → j < 12 → m'.2.2.1 j = m.2.2.1 j) ∧ m'.2.2.1 54 = m.2.2.1 54 ∧ ∀ k, k ≠ 168 → m'.2.2.1 0 k = m.2.2.1 0 k
theorem FQT_rfl (m : tZ12) : FQT m m := ⟨fun _ _ => rfl, rfl, fun _ _ _ => rfl, rfl, fun _ _ => rfl⟩
theorem FQT_q {a b c : tZ12} (h : FQT a b) (g : FQ b c) : FQT a c :=
  ⟨fun j hj => (g.1 j hj).trans (h.1 j hj), g.2.1.trans h.2.1, fun j h0 hj => (g.2.2.1 j hj).trans (h.2.2.1 j h0 hj), g.2.2.2.trans h.2.2.2.1, fun k hk => by rw [g.2.2.1 0 (by decide)]; exact h.2.2.2.2 k hk⟩
theorem FQT_of {a b : tZ12} (g : FQ a b) : FQT a b := FQT_q (FQT_rfl a) g
theorem FQT_set {m s : tZ12} (h : FQT m s) (t : Int) : FQT m (s.1, s.2.1, va_up s.2.2.1 0 (va_up (s.2.2.1 0) ((168 : Int).toNat) t), s.2.2.2) := by
  refine ⟨h.1, h.2.1, fun j h0 hj => ?_, ?_, fun k hk => ?_⟩
  · dsimp only
    rw [va_ne _ _ (by omega)]
    exact h.2.2.1 j h0 hj
  · dsimp only
    rw [va_ne _ _ (by decide)]
    exact h.2.2.2.1
  · dsimp only
    rw [va_same, va_ne _ _ (by exact hk)]
    exact h.2.2.2.2 k hk
theorem FQT_back {m s : tZ12} (h : FQT m s) : FRM m (s.1, s.2.1, va_up s.2.2.1 0 (va_up (s.2.2.1 0) ((168 : Int).toNat) (m.2.2.1 0 168)), s.2.2.2) := by
  refine ⟨?_, ?_, ?_, ?_, h.1 2 (by decide), h.1 4 (by decide), h.1 6 (by decide), h.2.1⟩
  · dsimp only
    rw [va_same]
    funext k
    by_cases e : k = 168
    · rw [e]
      exact va_same _ _ _
    · rw [va_ne _ _ (by exact e)]
      exact h.2.2.2.2 k e
  · dsimp only
    rw [va_ne _ _ (by decide)]
    exact h.2.2.1 1 (by decide) (by decide)
  · dsimp only
    rw [va_ne _ _ (by decide)]
    exact h.2.2.1 3 (by decide) (by decide)
  · dsimp only
    rw [va_ne _ _ (by decide)]
    exact h.2.2.2.1
theorem HR_at {m s : tZ12} {r : Nat → Int} (H : HR r (m.2.2.1 0)) (h : FQT m s) {t : Int} (ht : 0 ≤ t ∧ t ≤ 20) : HR (va_up r 128 t) (va_up s.2.2.1 0 (va_up (s.2.2.1 0) ((168 : Int).toNat) t) 0) := by
  refine HR_congr (r := va_up r 128 t) (a := va_up (m.2.2.1 0) 168 t) (fun _ _ => rfl) (fun k _ => ?_) (HR_tick H ht)
  rw [va_same]
  by_cases e : k = 168
  · rw [e]
    rw [show va_up (m.2.2.1 0) 168 t 168 = t from va_same _ _ _]
    exact va_same _ _ _
  · rw [va_ne _ _ (by exact e), va_ne _ _ e]
    exact h.2.2.2.2 k e
/-- the model's circle at a TICK -/
theorem qm_circleAt {m s : tZ12} {r : Nat → Int} (H : HR r (m.2.2.1 0)) (h : FQT m s) {set t : Int} (hs : k32 set) (ht : 0 ≤ t ∧ t ≤ 20) :
    kwp (q_X12_hasCircle (s.1, s.2.1, va_up s.2.2.1 0 (va_up (s.2.2.1 0) ((168 : Int).toNat) t), s.2.2.2) set) (fun x => FQT m x.2 ∧ ((¬ (1 ≤ set ∧ set < 16 ∧ 0 < (GL r set t).length) ∧ x.1 = false) ∨
      ((1 ≤ set ∧ set < 16 ∧ 0 < (GL r set t).length) ∧ x.1 = true ∧ SPm x.2 (GL r set t) ∧ ∃ C, MCs x.2.2.1 16 C ∧ mecOf (lX (GL r set t)) (lY (GL r set t)) aM (GL r set t).length C))) := by
  have h1 := qm_hasCircle (m := (s.1, s.2.1, va_up s.2.2.1 0 (va_up (s.2.2.1 0) ((168 : Int).toNat) t), s.2.2.2)) (r := va_up r 128 t) (HR_at H h ht) hs
  rw [show va_up r 128 t 128 = t from va_same _ _ _, GL_tick H.1] at h1
  exact w_mono h1 (fun x hx => ⟨FQT_q (FQT_set h t) hx.1, hx.2⟩)
/-- the first TICK -/
def FTk (p : Nat → Prop) (v : Int) : Prop := (∃ t : Nat, t ≤ 20 ∧ v = (t : Int) ∧ p t ∧ ∀ u, u < t → ¬ p u) ∨ (v = -1 ∧ ∀ u, u ≤ 20 → ¬ p u)
theorem FTk_only {p : Nat → Prop} {v w : Int} (h : FTk p v) (g : FTk p w) : v = w := by
  rcases h with ⟨t, t1, rfl, t2, t3⟩ | ⟨rfl, t1⟩
  · rcases g with ⟨u, u1, rfl, u2, u3⟩ | ⟨rfl, u1⟩
    · have a : ¬ u < t := fun w => t3 u w u2
      have b : ¬ t < u := fun w => u3 t w t2
      omega
    · exact absurd t2 (u1 t t1)
  · rcases g with ⟨u, u1, rfl, u2, u3⟩ | ⟨rfl, u1⟩
    · exact absurd u2 (t1 u u1)
    · rfl
theorem FTk_k {p : Nat → Prop} {v : Int} (h : FTk p v) : k32 v := by
  rcases h with ⟨t, t1, rfl, _⟩ | ⟨rfl, _⟩
  · exact ⟨by omega, by omega⟩
  · decide
theorem q_against1 {C : Cir} (hC : bdC C) {a b : Int} (ha : k64 a) (hb : 0 < b) (hb2 : k64 b) : q_X3_against (szN C, szD C) a b = some (sgc (szN C) (szD C) a b) := by
  have k := sz_k hC
  exact q_against (k64_63 k.2.1) k.2.2.1 (k64_63 k.2.2.2) ha hb hb2
theorem T_when {z11 : tZ11} {z4 : tZ4} {z9 : tZ9} {z10 : tZ10} {z8 : tZ8} {z0 : tZ0} {z3 : tZ3} {m : tZ12} (H : REL z4 z9 z10 m) {set w : Int} (hs : k32 set) (hw : k32 w) : QRI m (q_X11_when z11 z4 z8 z0 z3 set w) (q_X12_when m set w) := by
  have hH := H.1.1
  by_cases hw0 : 0 ≤ w
  · by_cases hg : 1 ≤ set ∧ set < 16 ∧ ∃ k, k < 40 ∧ inS z4.1 set k = true
    · have hpos : ∀ t, 0 < (GL z4.1 set t).length := fun t => GL_ne.mpr hg.2.2
      obtain ⟨p, hp⟩ : ∃ p : Nat → Prop, p = fun t : Nat => 0 < sgc (szN (MT z4.1 set (t : Int))) (szD (MT z4.1 set (t : Int))) w 1 := ⟨_, rfl⟩
      have hc : kwp (q_X11_when z11 z4 z8 z0 z3 set w) (fun r => FTk p r.1) := by
        unfold q_X11_when
        simp only [kwp_kg, kwp_kif, kwp_kb, kwp_some]
        refine ⟨hw, fun _ => ?_, fun q => absurd hw0 q⟩
        refine w_mono (P := fun e => (e.1 = 64 ∧ ∃ t : Nat, t ≤ 20 ∧ e.2.1 = (t : Int) ∧ p t ∧ ∀ u, u < t → ¬ p u) ∨ (e.1 = 72 ∧ ∀ u, u ≤ 20 → ¬ p u)) ?_ ?_
        · refine w_loop (fun n s => ∃ t : Nat, n = 21 - t ∧ t ≤ 21 ∧ s.1 = (t : Int) ∧ ∀ u, u < t → ¬ p u) ?_ kF 21 _ (by decide) ⟨0, rfl, by omega, rfl, fun u h => absurd h (Nat.not_lt_zero _)⟩
          rintro n ⟨c, s8, s0, s3⟩ ⟨t, hn, ht, rfl, hj⟩
          unfold q_X11_when_L8
          simp only [kwp_kg, kwp_kif, kwp_kb, kwp_some, kwp_kl]
          refine ⟨⟨by omega, by omega⟩, fun q => Or.inr ⟨by decide, Or.inr ⟨by trivial, fun u h => hj u (by omega)⟩⟩, fun q => ?_⟩
          have ht2 : 0 ≤ (t : Int) ∧ (t : Int) ≤ 20 := ⟨by omega, by omega⟩
          refine w_mono (q_gatherAt hH.1 hs ht2) ?_
          rintro ⟨b', z'⟩ h
          rcases h with ⟨h, _⟩ | ⟨_, hS, rfl⟩
          · exact absurd ⟨hg.1, hg.2.1⟩ h
          · dsimp only at hS ⊢
            rw [decide_eq_true (hpos _)]
            refine ⟨fun q => absurd q kz_t, fun _ => w_mono (q_mec hH.1 ht2 hS (hpos _)) (fun z'' ⟨g1, g2, g3, _⟩ => ?_)⟩
            have sz := MT_sz hH.1 ht2 (hpos _) g1
            refine w_of (q_size g2 s3) ⟨hw, ?_⟩
            refine w_of (q_against1 (bdC_z g2) (k64_of hw) (by decide) (by decide)) ⟨sgc_k _ _ _ _, fun v => Or.inl ⟨by trivial, 21 - (t + 1), by omega, t + 1, rfl, by omega, by omega, fun u hu => ?_⟩, fun v => Or.inr ⟨by decide, Or.inl ⟨by trivial, t, by omega, rfl, ?_, hj⟩⟩⟩
            · by_cases e : u = t
              · rw [e, hp]
                dsimp only
                rw [← sz.1, ← sz.2]
                omega
              · exact hj u (by omega)
            · rw [hp]
              dsimp only
              rw [← sz.1, ← sz.2]
              omega
        · rintro ⟨lb, c, s⟩ h
          dsimp only at h ⊢
          rcases h with ⟨rfl, h⟩ | ⟨rfl, h⟩
          · exact ⟨fun q => absurd q (by decide), fun _ => ⟨fun _ => Or.inl h, fun q => (q (by trivial)).elim⟩⟩
          · exact ⟨fun q => absurd q (by decide), fun _ => ⟨fun q => absurd q (by decide), fun _ => ⟨by trivial, Or.inr ⟨(by first | exact trivial | rfl), h⟩⟩⟩⟩
      have hm : kwp (q_X12_when m set w) (fun r => FTk p r.1 ∧ FRM m r.2) := by
        unfold q_X12_when
        simp only [kwp_kg, kwp_kif, kwp_kb, kwp_some, kwp_kl]
        refine ⟨hw, fun q => by omega, fun _ => w_mono (qm_isLaid hH hs) ?_⟩
        rintro ⟨b', m1⟩ ⟨f1, h⟩
        rcases h with ⟨h, _⟩ | ⟨_, hS, rfl⟩
        · exact absurd ⟨hg.1, hg.2.1⟩ h
        · dsimp only at f1 hS ⊢
          rw [decide_eq_true (hpos _)]
          refine ⟨fun q => absurd q kz_t, fun _ => ⟨by decide, ?_⟩⟩
          have row : m1.2.2.1 0 ((168 : Int).toNat) = m.2.2.1 0 168 := by rw [f1.2.2.1 0 (by decide)]; rfl
          rw [row]
          refine w_mono (P := fun e => e.1 = 87 ∧ FQT m e.2.2.2 ∧ FTk p e.2.1) ?_ ?_
          · refine w_loop (fun n s => ∃ t : Nat, n = 21 - t ∧ t ≤ 21 ∧ s.2.1 = (t : Int) ∧ FQT m s.2.2 ∧ ((s.1 = -1 ∧ ∀ u, u < t → ¬ p u) ∨ ∃ u : Nat, u ≤ 20 ∧ s.1 = (u : Int) ∧ p u ∧ ∀ v, v < u → ¬ p v)) ?_ kF 21 _ (by decide) ⟨0, rfl, by omega, rfl, FQT_of f1, Or.inl ⟨rfl, fun u h => absurd h (Nat.not_lt_zero _)⟩⟩
            rintro n ⟨fd, c, s⟩ ⟨t, hn, ht, rfl, fq, hj⟩
            dsimp only at fq hj
            unfold q_X12_when_L29
            simp only [kwp_kg, kwp_kif, kwp_kb, kwp_some, kwp_kl]
            have hfd : k32 fd := by
              rcases hj with ⟨e, _⟩ | ⟨u, u1, e, _⟩ <;> rw [e]
              · decide
              · exact ⟨by omega, by omega⟩
            refine ⟨⟨by omega, by omega⟩, fun q => Or.inr ⟨by decide, by trivial, fq, ?_⟩, fun q => ⟨hfd, fun e => ⟨by decide, ?_⟩, fun e => Or.inr ⟨by decide, by trivial, fq, ?_⟩⟩⟩
            · rcases hj with ⟨e, h⟩ | h
              · exact Or.inr ⟨e, fun u hu => h u (by omega)⟩
              · exact Or.inl h
            · have ht2 : 0 ≤ (t : Int) ∧ (t : Int) ≤ 20 := ⟨by omega, by omega⟩
              have hno : ∀ u, u < t → ¬ p u := by
                rcases hj with ⟨_, h⟩ | ⟨u, u1, e2, _⟩
                · exact h
                · omega
              refine w_mono (qm_circleAt hH fq hs ht2) ?_
              rintro ⟨b', m2⟩ ⟨f2, h⟩
              rcases h with ⟨h, _⟩ | ⟨_, rfl, _, C, hC, hmec⟩
              · exact absurd ⟨hg.1, hg.2.1, hpos _⟩ h
              · dsimp only at f2 hC ⊢
                have sz := MT_sz hH.1 ht2 (hpos _) hmec
                have s1 := MCs_sz hC
                have kk := sz_k (bdC_m hC)
                rw [s1.1, s1.2]
                refine ⟨fun q => absurd q kz_t, fun _ => ⟨hw, w_of (qm_against kk.1 (k64_63 kk.2.1) kk.2.2.1 (k64_63 kk.2.2.2) hw0 (k64_of hw) (by decide) (by decide)) ⟨sgc_k _ _ _ _, fun v => Or.inl ⟨by trivial, 21 - (t + 1), by omega, t + 1, rfl, by omega, by omega, f2, Or.inl ⟨e, fun u hu => ?_⟩⟩, fun v => Or.inl ⟨by trivial, 21 - (t + 1), by omega, t + 1, rfl, by omega, by omega, f2, Or.inr ⟨t, by omega, rfl, ?_, hno⟩⟩⟩⟩⟩
                · by_cases e2 : u = t
                  · rw [e2, hp]
                    dsimp only
                    rw [← sz.1, ← sz.2]
                    omega
                  · exact hno u (by omega)
                · rw [hp]
                  dsimp only
                  rw [← sz.1, ← sz.2]
                  omega
            · rcases hj with ⟨e2, _⟩ | h
              · exact absurd e2 e
              · exact Or.inl h
          · rintro ⟨lb, fd, c, s⟩ ⟨h0, fq, h⟩
            dsimp only at h0 fq h ⊢
            exact ⟨h0, h, FQT_back fq⟩
      obtain ⟨x, ex, hx⟩ := hc
      obtain ⟨y, ey, hy⟩ := hm
      exact ⟨x, ex, y, ey, FTk_only hx hy.1, FTk_k hx, hy.2⟩
    · have hno : ∀ t, ¬ (1 ≤ set ∧ set < 16 ∧ 0 < (GL z4.1 set t).length) := fun t h => hg ⟨h.1, h.2.1, GL_ne.mp h.2.2⟩
      refine qri_of (-1) ?_ ?_ (by decide)
      · unfold q_X11_when
        simp only [kwp_kg, kwp_kif, kwp_kb, kwp_some]
        refine ⟨hw, fun _ => ?_, fun q => absurd hw0 q⟩
        refine w_mono (w_loop (fun n s => n = 0 ∧ s.1 = 0) (Q := fun e => e.1 = 27) ?_ kF 0 _ (by decide) ⟨rfl, rfl⟩) ?_
        · rintro n ⟨c, s8, s0, s3⟩ ⟨rfl, rfl⟩
          unfold q_X11_when_L8
          simp only [kwp_kg, kwp_kif, kwp_kb, kwp_some, kwp_kl]
          refine ⟨by decide, fun q => absurd q (by decide), fun _ => w_mono (q_gatherAt hH.1 hs (by decide)) ?_⟩
          rintro ⟨b', z'⟩ h
          have hb : b' = false := by
            rcases h with ⟨_, h⟩ | ⟨h1, _, h2⟩
            · exact h
            · dsimp only at h2
              rw [h2]
              exact decide_eq_false (fun v => hno 0 ⟨h1.1, h1.2, v⟩)
          subst hb
          exact ⟨fun _ => Or.inr ⟨by decide, by trivial⟩, fun q => (q (by trivial)).elim⟩
        · rintro ⟨lb, c, s⟩ h
          dsimp only at h
          subst h
          exact ⟨fun _ => (by first | exact trivial | rfl), fun q => (q (by trivial)).elim⟩
      · unfold q_X12_when
        simp only [kwp_kg, kwp_kif, kwp_kb, kwp_some]
        refine ⟨hw, fun q => by omega, fun _ => w_mono (qm_isLaid hH hs) ?_⟩
        rintro ⟨b', m1⟩ ⟨f1, h⟩
        have hb : b' = false := by
          rcases h with ⟨_, h⟩ | ⟨h1, _, h2⟩
          · exact h
          · dsimp only at h2
            rw [h2]
            exact decide_eq_false (fun v => hno _ ⟨h1.1, h1.2, v⟩)
        subst hb
        exact ⟨fun _ => ⟨(by first | exact trivial | rfl), FQ_frm f1⟩, fun q => (q (by trivial)).elim⟩
  · refine qri_of (-1) ?_ ?_ (by decide)
    · unfold q_X11_when
      simp only [kwp_kg, kwp_kif, kwp_kb, kwp_some]
      exact ⟨hw, fun q => absurd q hw0, fun _ => (by first | exact trivial | rfl)⟩
    · unfold q_X12_when
      simp only [kwp_kg, kwp_kif, kwp_kb, kwp_some]
      exact ⟨hw, fun _ => ⟨(by first | exact trivial | rfl), FRM_rfl m⟩, fun q => by omega⟩
