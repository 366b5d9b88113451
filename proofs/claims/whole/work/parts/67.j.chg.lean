/-! ===== changes ===== -/
theorem GL_NU (r : Nat → Int) (set t : Int) : NU (GL r set t) := by
  have g := gth_num (f := fB r (fun k => decide (k < 40) && inS r set k) t) 40
  exact NU_of (fun a ha => by have := g.1 a ha; omega) g.2
/-- the numbers of those that force it, by order; -1 behind them -/
def isV (l : List Spt) (C : Cir) (v : Nat → Int) : Prop := ∃ (n : Nat) (t : Nat → Nat), TS l C n t ∧ 1 ≤ n ∧ n ≤ 3 ∧ (∀ i, i < n → t i < l.length) ∧ ∀ i, v i = if i < n then lP l (t i) else -1
theorem isV_only {l : List Spt} {C D : Cir} (hn : NU l) (hC : 0 < C.2.2.2) (hD : 0 < D.2.2.2) (cp : cP C D) {v w : Nat → Int} (h : isV l C v) (g : isV l D w) : v = w := by
  obtain ⟨n, t, h1, h2, h3, h4, h5⟩ := h
  obtain ⟨m, u, g1, g2, g3, g4, g5⟩ := g
  obtain ⟨e, o⟩ := TS_only hn.2 (TS_P hC hD cp h1) g1
  subst e
  funext i
  rw [h5, g5]
  by_cases q : i < n
  · rw [if_pos q, if_pos q, o i q]
  · rw [if_neg q, if_neg q]
noncomputable def tgV (r : Nat → Int) (set : Int) (t : Nat) : Nat → Int := @Classical.epsilon (Nat → Int) ⟨fun _ => 0⟩ (fun v => isV (GL r set (t : Int)) (MT r set (t : Int)) v)
theorem tgV_eq {r : Nat → Int} {set : Int} {t : Nat} (H : VR r) (ht : t ≤ 20) (h0 : 0 < (GL r set (t : Int)).length) {C : Cir} (hC : mecOf (lX (GL r set (t : Int))) (lY (GL r set (t : Int))) aM (GL r set (t : Int)).length C) {v : Nat → Int} (h : isV (GL r set (t : Int)) C v) : v = tgV r set t := by
  have mt := MT_ok (set := set) (t := (t : Int)) H ⟨by omega, by omega⟩ h0
  have cp := mecOf_only hC mt
  have hv : isV (GL r set (t : Int)) (MT r set (t : Int)) v := by
    obtain ⟨n, u, h1, h2⟩ := h
    exact ⟨n, u, TS_P hC.1 mt.1 cp h1, h2⟩
  exact isV_only (GL_NU r set t) mt.1 mt.1 ⟨rfl, rfl, rfl⟩ hv (Classical.epsilon_spec (p := fun v => isV (GL r set (t : Int)) (MT r set (t : Int)) v) ⟨v, hv⟩)
def SV (v : Nat → Int) : Prop := 0 ≤ v 0 ∧ (v 1 = -1 ∨ v 0 < v 1) ∧ (v 2 = -1 ∨ (v 1 < v 2 ∧ v 0 < v 1)) ∧ v 0 < 40 ∧ v 1 < 40 ∧ v 2 < 40
theorem isV_SV {l : List Spt} {C : Cir} (hn : NU l) {v : Nat → Int} (h : isV l C v) : SV v := by
  obtain ⟨n, t, h1, h2, h3, h4, h5⟩ := h
  have e0 := h5 0
  have e1 := h5 1
  have e2 := h5 2
  have b0 := hn.1 _ (h4 0 (by omega))
  rw [if_pos (by omega)] at e0
  unfold SV
  rcases h1 with ⟨_, n1, _⟩ | ⟨_, n2, p⟩ | ⟨_, _, n3, p⟩
  · rw [if_neg (by omega)] at e1 e2
    omega
  · have b1 := hn.1 _ (h4 1 (by omega))
    rw [if_pos (by omega)] at e1
    rw [if_neg (by omega)] at e2
    have := p.2.2.1
    omega
  · have b1 := hn.1 _ (h4 1 (by omega))
    have b2 := hn.1 _ (h4 2 (by omega))
    rw [if_pos (by omega)] at e1 e2
    have := p.2.2.2.1
    have := p.2.2.2.2.1
    omega
theorem SV_half {v w : Nat → Int} (h : SV v) (g : SV w) (e : ∀ k : Nat, (∃ i, i < 3 ∧ v i = (k : Int)) → ∃ i, i < 3 ∧ w i = (k : Int)) :
    w 0 ≤ v 0 ∧ (v 0 = w 0 → (v 1 ≠ -1 → w 1 ≠ -1 ∧ w 1 ≤ v 1) ∧ (v 1 = w 1 → v 2 ≠ -1 → w 2 ≠ -1 ∧ w 2 ≤ v 2)) := by
  obtain ⟨h1, h2, h3, h4, h5, h6⟩ := h
  obtain ⟨g1, g2, g3, g4, g5, g6⟩ := g
  have get : ∀ i, i < 3 → 0 ≤ v i → v i = w 0 ∨ v i = w 1 ∨ v i = w 2 := fun i hi hv => by
    obtain ⟨j, hj, ej⟩ := e (v i).toNat ⟨i, hi, by omega⟩
    rcases (show j = 0 ∨ j = 1 ∨ j = 2 by omega) with rfl | rfl | rfl
    · exact Or.inl (by omega)
    · exact Or.inr (Or.inl (by omega))
    · exact Or.inr (Or.inr (by omega))
  refine ⟨?_, fun e0 => ⟨fun n1 => ?_, fun e1 n2 => ?_⟩⟩
  · have := get 0 (by decide) h1
    omega
  · have := get 1 (by decide) (by omega)
    omega
  · have := get 2 (by decide) (by omega)
    omega
theorem SV_same {v w : Nat → Int} (h : SV v) (g : SV w) (e : ∀ k : Nat, (∃ i, i < 3 ∧ v i = (k : Int)) ↔ ∃ i, i < 3 ∧ w i = (k : Int)) : ∀ i, i < 3 → v i = w i := by
  have a := SV_half h g (fun k => (e k).mp)
  have b := SV_half g h (fun k => (e k).mpr)
  have e0 : v 0 = w 0 := by omega
  have a1 := a.2 e0
  have b1 := b.2 e0.symm
  have e1 : v 1 = w 1 := by
    by_cases q : v 1 = -1
    · by_cases q2 : w 1 = -1
      · omega
      · have := (b1.1 q2).1
        omega
    · have x := a1.1 q
      have y := b1.1 x.1
      omega
  have e2 : v 2 = w 2 := by
    by_cases q : v 2 = -1
    · by_cases q2 : w 2 = -1
      · omega
      · have := (b1.2 e1.symm q2).1
        omega
    · have x := a1.2 e1 q
      have y := b1.2 e1.symm x.1
      omega
  intro i hi
  rcases (show i = 0 ∨ i = 1 ∨ i = 2 by omega) with rfl | rfl | rfl
  · exact e0
  · exact e1
  · exact e2
abbrev sm3 (v w : Nat → Int) : Prop := v 0 = w 0 ∧ v 1 = w 1 ∧ v 2 = w 2
theorem sm3_of {v w : Nat → Int} : sm3 v w ↔ ∀ i, i < 3 → v i = w i := by
  constructor
  · rintro ⟨a, b, c⟩ i hi
    rcases (show i = 0 ∨ i = 1 ∨ i = 2 by omega) with rfl | rfl | rfl
    · exact a
    · exact b
    · exact c
  · intro h
    exact ⟨h 0 (by decide), h 1 (by decide), h 2 (by decide)⟩
def chN (f : Nat → Nat → Int) : Nat → Nat
  | 0 => 0
  | t + 1 => chN f t + if sm3 (f t) (f (t + 1)) then 0 else 1
theorem chN_s (f : Nat → Nat → Int) (t : Nat) : (sm3 (f t) (f (t + 1)) → chN f (t + 1) = chN f t) ∧ (¬ sm3 (f t) (f (t + 1)) → chN f (t + 1) = chN f t + 1) := by
  constructor
  · intro h
    show chN f t + _ = _
    rw [if_pos h]
    rfl
  · intro h
    show chN f t + _ = _
    rw [if_neg h]
theorem chN_le (f : Nat → Nat → Int) : ∀ t, chN f t ≤ t
  | 0 => Nat.le_refl _
  | t + 1 => by
    have ih := chN_le f t
    have s := chN_s f t
    by_cases q : sm3 (f t) (f (t + 1))
    · have := s.1 q
      omega
    · have := s.2 q
      omega
/-- the class's tight ones are the numbers v -/
def hasV (z : tZ0) (v : Nat → Int) : Prop := ∀ i : Nat, i < 3 → q_X0_tightNumber z (i : Int) = some (v i)
theorem TZ_V {z : tZ0} {l : List Spt} {C : Cir} (h : TZ z l C) : ∃ v, isV l C v ∧ hasV z v := by
  obtain ⟨n, t, h1, h2, h3, h4, h5⟩ := h
  refine ⟨fun i => if i < n then lP l (t i) else -1, ⟨n, t, h1, h3, h4, fun i hi => (h5 i hi).1, fun i => rfl⟩, fun i hi => ?_⟩
  rw [q_tightNo h2 h4 ⟨by omega, by omega⟩, Int.toNat_natCast]
  congr 1
  show (if 0 ≤ (i : Int) ∧ (i : Int) < (n : Int) then z.2.2.2.2.2.2.2.1 i else -1) = if i < n then lP l (t i) else -1
  by_cases q : i < n
  · rw [if_pos (by omega), if_pos q, (h5 i q).2]
  · rw [if_neg (by omega), if_neg q]
theorem q_asAhead {z11 : tZ11} {z : tZ0} {v w : Nat → Int} (hv : hasV z v) (kv : ∀ i, i < 3 → k32 (v i)) (kw : ∀ i, i < 3 → k32 (w i)) (h : ∀ i, i < 3 → z11 i = w i) : kwp (q_X11_tightIsAsAhead z11 z) (fun b => b = true ↔ sm3 w v) := by
  unfold q_X11_tightIsAsAhead
  refine w_kb (w_loop (fun n (s : Int) => ∃ i : Nat, n = 3 - i ∧ i ≤ 3 ∧ s = (i : Int) ∧ ∀ j, j < i → w j = v j) (Q := fun e => (e.1 = 28 ∧ ¬ sm3 w v) ∨ (e.1 = 36 ∧ sm3 w v)) ?_ kF 3 _ (by have := kF_eq; omega) ⟨0, rfl, by decide, rfl, fun j hj => absurd hj (Nat.not_lt_zero _)⟩) ?_
  · rintro n s ⟨i, rfl, hi, rfl, g⟩
    unfold q_X11_tightIsAsAhead_L2
    simp only [kwp_kb, kwp_some, kwp_kg, kwp_kif, kwp_kl]
    refine ⟨⟨by omega, by omega⟩, fun q => Or.inr ⟨by decide, Or.inr ⟨by trivial, sm3_of.mpr (fun j hj => g j (by omega))⟩⟩, fun q => ?_⟩
    have i3 : i < 3 := by omega
    rw [hv i i3, kwp_some, Int.toNat_natCast, h i i3]
    refine ⟨⟨by omega, by omega⟩, ⟨kw i i3, kv i i3⟩, fun q1 => Or.inl ⟨by trivial, 3 - (i + 1), by omega, i + 1, rfl, by omega, by omega, fun j hj => ?_⟩, fun q1 => Or.inr ⟨by decide, Or.inl ⟨by trivial, fun w => q1 (sm3_of.mp w i i3)⟩⟩⟩
    by_cases e : j = i
    · rw [e]
      exact q1
    · exact g j (by omega)
  · rintro ⟨lb, s⟩ h
    dsimp only at h ⊢
    simp only [kwp_kb, kwp_some, kwp_kg, kwp_kif, kwp_kl]
    rcases h with ⟨rfl, h⟩ | ⟨rfl, h⟩
    · exact ⟨fun _ => ⟨fun w => absurd w (by decide), fun w => absurd w h⟩, fun q => (q (by trivial)).elim⟩
    · exact ⟨fun q => absurd q (by decide), fun _ => ⟨by trivial, fun _ => h, fun _ => (by first | exact trivial | rfl)⟩⟩
theorem q_keepV {z11 : tZ11} {z4 : tZ4} {z8 : tZ8} {z : tZ0} {v : Nat → Int} (hv : hasV z v) {v1 v2 t : Int} :
    kwp (q_X11_changes_J61_4 z4 v1 z11 z8 z v2 t) (fun e => e.1 = 4 ∧ e.2.1 = v2 ∧ e.2.2.1 = t + 1 ∧ ∀ i, i < 3 → e.2.2.2.1 i = v i) := by
  unfold q_X11_changes_J61_4
  simp only [kwp_kb, kwp_some, kwp_kg, kwp_kif, kwp_kl]
  refine w_mono (w_for (ex := 96) (by decide) (fun i (s : Int × tZ11) => s.1 = (i : Int) ∧ ∀ j, j < i → s.2 j = v j) 3 ?_ ?_ (Nat.zero_le _) (by have := kF_eq; omega) ⟨rfl, fun j hj => absurd hj (Nat.not_lt_zero _)⟩) ?_
  · rintro i ⟨x, w⟩ hi ⟨g1, g2⟩
    dsimp only at g1 g2
    subst g1
    unfold q_X11_changes_L64
    simp only [kwp_kb, kwp_some, kwp_kg, kwp_kif, kwp_kl]
    rw [hv i hi, kwp_some, Int.toNat_natCast]
    refine ⟨⟨by omega, by omega⟩, fun q => by omega, fun _ => ⟨⟨by omega, by omega⟩, by trivial, by omega, fun j hj => ?_⟩⟩
    (try dsimp only)
    by_cases e : j = i
    · rw [e, va_same]
    · rw [va_ne _ _ e]
      exact g2 j (by omega)
  · rintro ⟨x, w⟩ ⟨g1, g2⟩
    dsimp only at g1 g2
    subst g1
    unfold q_X11_changes_L64
    simp only [kwp_kb, kwp_some, kwp_kg, kwp_kif, kwp_kl]
    exact ⟨⟨by omega, by omega⟩, fun _ => ⟨by trivial, by trivial, g2⟩, fun q => by omega⟩
  · rintro ⟨lb, x, w⟩ ⟨g0, _, g2⟩
    dsimp only at g0 g2 ⊢
    exact ⟨g0, by trivial, by trivial, by trivial, g2⟩
