/-! ===== meetsAt ===== -/
theorem gdR_t {r : Nat → Int} {set t u : Int} (h : gdR r set t) : gdR r set u := ⟨h.1, h.2.1, GL_ne.mpr (GL_ne.mp h.2.2)⟩
theorem T_meetsAt {z11 : tZ11} {z4 : tZ4} {z9 : tZ9} {z10 : tZ10} {z8 z8' : tZ8} {z5 z5' : tZ5} {m : tZ12} (H : REL z4 z9 z10 m) {v1 v2 : Int} (hs1 : k32 v1) (hs2 : k32 v2) : QRI m (q_X11_meetsAt z11 z4 z8 z8' z5 z5' v1 v2) (q_X12_meetsAt m v1 v2) := by
  have hH := H.1.1
  obtain ⟨p, hp⟩ : ∃ p : Nat → Prop, p = fun (t : Nat) => (gdR z4.1 v1 (t : Int) ∧ gdR z4.1 v2 (t : Int)) ∧ MM (GL z4.1 v1 (t : Int)) (GL z4.1 v2 (t : Int)) := ⟨_, rfl⟩
  have hc : kwp (q_X11_meetsAt z11 z4 z8 z8' z5 z5' v1 v2) (fun r => FTk p r.1) := by
    unfold q_X11_meetsAt
    simp only [kwp_kg, kwp_kif, kwp_kb, kwp_some, kwp_kl]
    refine w_mono (w_loop (fun n (s : Int × tZ8 × tZ8 × tZ5 × tZ5) => ∃ t : Nat, n = 21 - t ∧ t ≤ 21 ∧ s.1 = (t : Int) ∧ ∀ u, u < t → ¬ p u) (Q := fun e => (e.1 = 23 ∧ ∀ u, ¬ p u) ∨ (e.1 = 31 ∧ FTk p e.2.1) ∨ (e.1 = 39 ∧ ∀ u, u ≤ 20 → ¬ p u)) ?_ kF 21 _ (by decide) ⟨0, rfl, by omega, rfl, fun u h => absurd h (Nat.not_lt_zero _)⟩) ?_
    · rintro n ⟨c, s⟩ ⟨t, rfl, ht, rfl, g⟩
      unfold q_X11_meetsAt_L2
      simp only [kwp_kg, kwp_kif, kwp_kb, kwp_some, kwp_kl]
      refine ⟨⟨by omega, by omega⟩, fun q => Or.inr ⟨by decide, Or.inr (Or.inr ⟨by trivial, fun u hu => g u (by omega)⟩)⟩, fun q => w_mono (q_meetAt hH.1 hs1 hs2 (t := (t : Int)) ⟨by omega, by omega⟩) ?_⟩
      rintro ⟨v, x⟩ h
      dsimp only at h ⊢
      rcases h with ⟨n', rfl⟩ | ⟨gd, ⟨q', rfl⟩ | ⟨q', rfl⟩⟩
      · refine ⟨by decide, fun _ => Or.inr ⟨by decide, Or.inl ⟨by trivial, fun u hu => ?_⟩⟩, fun w => absurd rfl w⟩
        rw [hp] at hu
        exact n' ⟨gdR_t hu.1.1, gdR_t hu.1.2⟩
      · refine ⟨by decide, fun w => absurd w (by decide), fun _ => ⟨fun _ => Or.inr ⟨by decide, Or.inr (Or.inl ⟨by trivial, Or.inl ⟨t, by omega, rfl, ?_, g⟩⟩)⟩, fun w => absurd rfl w⟩⟩
        rw [hp]
        exact ⟨gd, q'⟩
      · refine ⟨by decide, fun w => absurd w (by decide), fun _ => ⟨fun w => absurd w (by decide), fun _ => Or.inl ⟨by trivial, 21 - (t + 1), by omega, t + 1, rfl, by omega, by omega, fun u hu => ?_⟩⟩⟩
        by_cases e : u = t
        · rw [e, hp]
          exact fun w => q' w.2
        · exact g u (by omega)
    · rintro ⟨lb, c, s⟩ h
      dsimp only at h ⊢
      rcases h with ⟨e, h⟩ | ⟨e, h⟩ | ⟨e, h⟩
      · exact ⟨fun _ => Or.inr ⟨(by first | exact trivial | rfl), fun u _ => h u⟩, fun q => absurd e q⟩
      · exact ⟨fun q => by omega, fun _ => ⟨fun _ => h, fun q => absurd e q⟩⟩
      · exact ⟨fun q => by omega, fun _ => ⟨fun q => by omega, fun _ => ⟨e, Or.inr ⟨(by first | exact trivial | rfl), h⟩⟩⟩⟩
  have hm : kwp (q_X12_meetsAt m v1 v2) (fun r => FTk p r.1 ∧ FRM m r.2) := by
    unfold q_X12_meetsAt
    simp only [kwp_kg, kwp_kif, kwp_kb, kwp_some, kwp_kl]
    refine ⟨by decide, w_mono (P := fun e => e.1 = 58 ∧ FQT m e.2.2.2 ∧ FTk p e.2.1) ?_ ?_⟩
    · refine w_loop (fun n s => ∃ t : Nat, n = 21 - t ∧ t ≤ 21 ∧ s.2.1 = (t : Int) ∧ FQT m s.2.2 ∧ ((s.1 = -1 ∧ ∀ u, u < t → ¬ p u) ∨ ∃ u : Nat, u ≤ 20 ∧ s.1 = (u : Int) ∧ p u ∧ ∀ v, v < u → ¬ p v)) ?_ kF 21 _ (by decide) ⟨0, rfl, by omega, rfl, FQT_rfl m, Or.inl ⟨rfl, fun u h => absurd h (Nat.not_lt_zero _)⟩⟩
      rintro n ⟨fd, c, s⟩ ⟨t, hn, ht, rfl, fq, hj⟩
      dsimp only at fq hj
      unfold q_X12_meetsAt_L15
      simp only [kwp_kg, kwp_kif, kwp_kb, kwp_some, kwp_kl]
      have hfd : k32 fd := by
        rcases hj with ⟨e, _⟩ | ⟨u, u1, e, _⟩ <;> rw [e]
        · decide
        · exact ⟨by omega, by omega⟩
      refine ⟨⟨by omega, by omega⟩, fun q => Or.inr ⟨by decide, by trivial, fq, ?_⟩, fun q => ⟨hfd, fun e => ⟨by decide, ?_⟩, fun e => Or.inr ⟨by decide, by trivial, fq, ?_⟩⟩⟩
      · rcases hj with ⟨e, h⟩ | h
        · exact Or.inr ⟨e, fun u hu => h u (by omega)⟩
        · exact Or.inl h
      · have ht2 : 0 ≤ (t : Int) ∧ (t : Int) ≤ 20 := ⟨by omega, by omega⟩
        have hno : ∀ u, u < t → ¬ p u := by
          rcases hj with ⟨_, h⟩ | ⟨u, u1, e2, _⟩
          · exact h
          · omega
        clear hj
        have h1 := qm_meets (m := (s.1, s.2.1, va_up s.2.2.1 0 (va_up (s.2.2.1 0) ((168 : Int).toNat) (t : Int)), s.2.2.2)) (r := va_up z4.1 128 (t : Int)) (HR_at hH fq ht2) hs1 hs2
        unfold gdR at h1
        rw [show va_up z4.1 128 (t : Int) 128 = (t : Int) from va_same _ _ _, GL_tick hH.1, GL_tick hH.1] at h1
        refine w_mono h1 ?_
        rintro ⟨v, m2⟩ ⟨f2, h⟩
        dsimp only at f2 h ⊢
        have f3 := FQT_q (FQT_set fq (t : Int)) f2
        rcases h with ⟨n', rfl⟩ | ⟨gd, ⟨q', rfl⟩ | ⟨q', rfl⟩⟩
        · refine ⟨by decide, fun w => absurd w (by decide), fun _ => Or.inl ⟨by trivial, 21 - (t + 1), by omega, t + 1, rfl, by omega, by omega, f3, Or.inl ⟨e, fun u hu => ?_⟩⟩⟩
          by_cases e2 : u = t
          · rw [e2, hp]
            exact fun w => n' w.1
          · exact hno u (by omega)
        · refine ⟨by decide, fun _ => Or.inl ⟨by trivial, 21 - (t + 1), by omega, t + 1, rfl, by omega, by omega, f3, Or.inr ⟨t, by omega, rfl, ?_, hno⟩⟩, fun w => absurd rfl w⟩
          rw [hp]
          exact ⟨gd, q'⟩
        · refine ⟨by decide, fun w => absurd w (by decide), fun _ => Or.inl ⟨by trivial, 21 - (t + 1), by omega, t + 1, rfl, by omega, by omega, f3, Or.inl ⟨e, fun u hu => ?_⟩⟩⟩
          by_cases e2 : u = t
          · rw [e2, hp]
            exact fun w => q' w.2
          · exact hno u (by omega)
      · rcases hj with ⟨e2, _⟩ | h
        · exact absurd e2 e
        · exact Or.inl h
    · rintro ⟨lb, fd, c, s⟩ ⟨h0, fq, h⟩
      dsimp only at h0 fq h ⊢
      exact ⟨h0, h, FQT_back fq⟩
  obtain ⟨x, ex, hx⟩ := hc
  obtain ⟨y, ey, hy⟩ := hm
  exact ⟨x, ex, y, ey, FTk_only hx hy.1, FTk_k hx, hy.2⟩
