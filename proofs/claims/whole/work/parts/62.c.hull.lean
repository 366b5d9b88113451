/-! ===== the hull of the model ===== -/
def FH (m m' : tZ12) : Prop := (∀ j, j ≠ 37 → m'.1 j = m.1 j) ∧ m'.2.1 = m.2.1 ∧ (∀ j, j ≠ 35 → j ≠ 36 → m'.2.2.1 j = m.2.2.1 j) ∧ m'.2.2.2 = m.2.2.2
theorem FH_rfl (m : tZ12) : FH m m := ⟨fun _ _ => rfl, rfl, fun _ _ _ => rfl, rfl⟩
theorem FH_q {m m' : tZ12} (h : FH m m') : FQ m m' := ⟨fun j hj => h.1 j (by omega), h.1 55 (by decide), fun j hj => h.2.2.1 j (by omega) (by omega), h.2.2.1 54 (by decide) (by decide)⟩
theorem SPm_fh {m m' : tZ12} {l : List Spt} (h : FH m m') (H : SPm m l) : SPm m' l := by
  unfold SPm at H ⊢
  rw [h.1 15 (by decide), h.2.2.1 12 (by decide) (by decide), h.2.2.1 13 (by decide) (by decide), h.2.2.1 14 (by decide) (by decide)]
  exact H
theorem FH_36 {m s : tZ12} (h : FH m s) (k : Nat) (v : Int) : FH m (s.1, s.2.1, va_up s.2.2.1 36 (va_up (s.2.2.1 36) k v), s.2.2.2) :=
  ⟨h.1, h.2.1, fun j h1 h2 => by dsimp only; rw [va_ne _ _ h2]; exact h.2.2.1 j h1 h2, h.2.2.2⟩
theorem FH_35 {m s : tZ12} (h : FH m s) (k : Nat) (v : Int) : FH m (s.1, s.2.1, va_up s.2.2.1 35 (va_up (s.2.2.1 35) k v), s.2.2.2) :=
  ⟨h.1, h.2.1, fun j h1 h2 => by dsimp only; rw [va_ne _ _ h1]; exact h.2.2.1 j h1 h2, h.2.2.2⟩
theorem FH_37 {m s : tZ12} (h : FH m s) (v : Int) : FH m (va_up s.1 37 v, s.2) :=
  ⟨fun j h1 => by dsimp only; rw [va_ne _ _ h1]; exact h.1 j h1, h.2.1, h.2.2.1, h.2.2.2⟩
theorem up_two {l : List Spt} {P : Nat → Bool} {last : Nat} (hl : P last = true) : ∀ c, c ≤ last → (∃ k, last - c ≤ k ∧ k < last ∧ P k = true) → 2 ≤ (upF l P last c).2 := by
  intro c
  induction c with
  | zero => rintro _ ⟨k, h1, h2, _⟩; omega
  | succ c ih =>
    rintro hc ⟨k, h1, h2, h3⟩
    have ui := up_inv l P last hl c (by omega)
    unfold upF
    by_cases e : P (last - 1 - c) = true
    · rw [if_pos e]
      have pp := popF_pos l (last - 1 - c) (upF l P last c).1 (upF l P last c).2 ui.1
      unfold stpF
      dsimp only
      omega
    · rw [if_neg e]
      refine ih (by omega) ⟨k, ?_, h2, h3⟩
      by_cases e2 : k = last - 1 - c
      · rw [e2] at h3
        exact absurd h3 e
      · omega
theorem lo_cut {l : List Spt} {P : Nat → Bool} {last : Nat} : ∀ n, last < n → (∀ k, last < k → k < n → P k = false) → loF l P n = loF l P (last + 1) := by
  intro n
  induction n with
  | zero => intro h; omega
  | succ n ih =>
    intro h1 h2
    by_cases e : n = last
    · rw [e]
    · have := h2 n (by omega) (by omega)
      rw [← ih (by omega) (fun k a b => h2 k a (by omega))]
      show (if P n = true then _ else _) = _
      rw [this, if_neg (by decide)]
theorem qm_pop26 {m : tZ12} {l : List Spt} (H : SPm m l) (hb : bdL l) {set : Int} {f : Nat → Nat} {T k : Nat} (hT : T ≤ 41) (hf : ∀ j, j < T → m.2.2.1 36 j = (f j : Int) ∧ f j < l.length) (hk : k < l.length) :
    kwp (kitr 26 (fun q => q_X12_layHull_L26 set m (k : Int) q) kF (T : Int)) (fun e => e.1 = 64 ∧ e.2 = (popF l k f T : Int)) := by
  refine w_loop (fun n s => n ≤ T ∧ s = (n : Int) ∧ popF l k f n = popF l k f T) ?_ kF T _ (by have := kF_eq; omega) ⟨Nat.le_refl _, rfl, rfl⟩
  rintro n s ⟨hn, rfl, hp⟩
  unfold q_X12_layHull_L26
  simp only [kwp_kb, kwp_some, kwp_kg, kwp_kif, kwp_kl]
  refine ⟨⟨by omega, by omega⟩, fun q => Or.inr ⟨by decide, by trivial, ?_⟩, fun q => ?_⟩
  · have : popF l k f n = n := by
      obtain rfl | rfl : n = 0 ∨ n = 1 := by omega
      · rfl
      · rfl
    rw [← hp, this]
  · obtain ⟨t, rfl⟩ : ∃ t, n = t + 2 := ⟨n - 2, by omega⟩
    rw [show (((t + 2 : Nat) : Int) - 2).toNat = t by omega, show (((t + 2 : Nat) : Int) - 1).toNat = t + 1 by omega]
    have r1 := hf t (by omega)
    have r2 := hf (t + 1) (by omega)
    rw [r1.1, r2.1, qm_turn H hb r1.2 r2.2 hk, kwp_some]
    have kt := tn_k hb r1.2 r2.2 hk
    have ep : popF l k f (t + 2) = if 0 < tn (lX l) (lY l) (f t) (f (t + 1)) k then t + 2 else popF l k f (t + 1) := rfl
    refine ⟨⟨by omega, by omega⟩, ⟨by omega, by omega⟩, k64_of kt, fun q2 => Or.inr ⟨by decide, by trivial, ?_⟩, fun q2 => Or.inl ⟨by trivial, t + 1, by omega, by omega, by omega, ?_⟩⟩
    · rw [← hp, ep, if_pos q2]
    · rw [← hp, ep, if_neg q2]
theorem qm_pop164 {m : tZ12} {l : List Spt} (H : SPm m l) (hb : bdL l) {set : Int} {f : Nat → Nat} {T k : Nat} (hT : T ≤ 41) (hf : ∀ j, j < T → m.2.2.1 36 j = (f j : Int) ∧ f j < l.length) (hk : k < l.length) :
    kwp (kitr 164 (fun q => q_X12_layHull_L164 set m (k : Int) q) kF (T : Int)) (fun e => e.1 = 202 ∧ e.2 = (popF l k f T : Int)) := by
  refine w_loop (fun n s => n ≤ T ∧ s = (n : Int) ∧ popF l k f n = popF l k f T) ?_ kF T _ (by have := kF_eq; omega) ⟨Nat.le_refl _, rfl, rfl⟩
  rintro n s ⟨hn, rfl, hp⟩
  unfold q_X12_layHull_L164
  simp only [kwp_kb, kwp_some, kwp_kg, kwp_kif, kwp_kl]
  refine ⟨⟨by omega, by omega⟩, fun q => Or.inr ⟨by decide, by trivial, ?_⟩, fun q => ?_⟩
  · have : popF l k f n = n := by
      obtain rfl | rfl : n = 0 ∨ n = 1 := by omega
      · rfl
      · rfl
    rw [← hp, this]
  · obtain ⟨t, rfl⟩ : ∃ t, n = t + 2 := ⟨n - 2, by omega⟩
    rw [show (((t + 2 : Nat) : Int) - 2).toNat = t by omega, show (((t + 2 : Nat) : Int) - 1).toNat = t + 1 by omega]
    have r1 := hf t (by omega)
    have r2 := hf (t + 1) (by omega)
    rw [r1.1, r2.1, qm_turn H hb r1.2 r2.2 hk, kwp_some]
    have kt := tn_k hb r1.2 r2.2 hk
    have ep : popF l k f (t + 2) = if 0 < tn (lX l) (lY l) (f t) (f (t + 1)) k then t + 2 else popF l k f (t + 1) := rfl
    refine ⟨⟨by omega, by omega⟩, ⟨by omega, by omega⟩, k64_of kt, fun q2 => Or.inr ⟨by decide, by trivial, ?_⟩, fun q2 => Or.inl ⟨by trivial, t + 1, by omega, by omega, by omega, ?_⟩⟩
    · rw [← hp, ep, if_pos q2]
    · rw [← hp, ep, if_neg q2]
