/-! ===== the model's few that force the circle ===== -/
def FO (m m' : tZ12) : Prop := (∀ j, j ≠ 32 → m'.1 j = m.1 j) ∧ m'.2.1 = m.2.1 ∧ (∀ j, j ≠ 30 → j ≠ 31 → m'.2.2.1 j = m.2.2.1 j) ∧ m'.2.2.2 = m.2.2.2
theorem FO_rfl (m : tZ12) : FO m m := ⟨fun _ _ => rfl, rfl, fun _ _ _ => rfl, rfl⟩
theorem FO_trans {a b c : tZ12} (h : FO a b) (g : FO b c) : FO a c :=
  ⟨fun j q => (g.1 j q).trans (h.1 j q), g.2.1.trans h.2.1, fun j q w => (g.2.2.1 j q w).trans (h.2.2.1 j q w), g.2.2.2.trans h.2.2.2⟩
theorem FO_q {m m' : tZ12} (h : FO m m') : FQ m m' := ⟨fun j hj => h.1 j (by omega), h.1 55 (by decide), fun j hj => h.2.2.1 j (by omega) (by omega), h.2.2.1 54 (by decide) (by decide)⟩
theorem SPm_fo {m m' : tZ12} {l : List Spt} (h : FO m m') (H : SPm m l) : SPm m' l := by
  unfold SPm at *
  rw [h.1 15 (by decide), h.2.2.1 12 (by decide) (by decide), h.2.2.1 13 (by decide) (by decide), h.2.2.1 14 (by decide) (by decide)]
  exact H
theorem FO_30 {m s : tZ12} (h : FO m s) (k : Nat) (v : Int) : FO m (s.1, s.2.1, va_up s.2.2.1 30 (va_up (s.2.2.1 30) k v), s.2.2.2) :=
  ⟨h.1, h.2.1, fun j q w => (va_ne _ _ q).trans (h.2.2.1 j q w), h.2.2.2⟩
theorem FO_31 {m s : tZ12} (h : FO m s) (k : Nat) (v : Int) : FO m (s.1, s.2.1, va_up s.2.2.1 31 (va_up (s.2.2.1 31) k v), s.2.2.2) :=
  ⟨h.1, h.2.1, fun j q w => (va_ne _ _ w).trans (h.2.2.1 j q w), h.2.2.2⟩
theorem FO_32 {m s : tZ12} (h : FO m s) (v : Int) : FO m (va_up s.1 32 v, s.2) := ⟨fun j q => (va_ne _ _ q).trans (h.1 j q), h.2.1, h.2.2.1, h.2.2.2⟩
def idF (t : Nat) : Int := (t : Int)
theorem idF_up (n : Nat) : va_up idF n (n : Int) = idF := by
  funext t
  by_cases e : t = n
  · rw [e, va_same]
    rfl
  · rw [va_ne _ _ e]
theorem qm_ordL12 {m mm : tZ12} {l : List Spt} (HS : SPm m l) (hb : bdL l) (hf : FO m mm) {k : Nat} (hk : k < l.length) (pm : PM k (mm.2.2.1 30) idF) (so : SO (KF l (mm.2.2.1 30)) k) :
    kwp (kitr 12 (fun q => q_X12_layOrder_L12 (k : Int) q) kF ((k : Int), mm)) (fun e => e.1 = 58 ∧ ∃ a : Nat, e.2.1 = (a : Int) ∧ a ≤ k ∧ FO m e.2.2 ∧ PM (k + 1) (va_up (e.2.2.2.2.1 30) a (k : Int)) idF ∧ SO (KF l (va_up (e.2.2.2.2.1 30) a (k : Int))) (k + 1)) := by
  have sl := HS.2.1
  have bi := bP hb hk
  have p0 := PM_set pm (k : Int)
  rw [idF_up] at p0
  refine w_loop (fun n (s : Int × tZ12) => ∃ a : Nat, a = n ∧ s.1 = (a : Int) ∧ a ≤ k ∧ FO m s.2 ∧ PM (k + 1) (va_up (s.2.2.2.1 30) a (k : Int)) idF ∧ InsI (KF l (s.2.2.2.1 30)) (lP l k) a k) (Q := fun e => e.1 = 58 ∧ ∃ a : Nat, e.2.1 = (a : Int) ∧ a ≤ k ∧ FO m e.2.2 ∧ PM (k + 1) (va_up (e.2.2.2.2.1 30) a (k : Int)) idF ∧ SO (KF l (va_up (e.2.2.2.2.1 30) a (k : Int))) (k + 1)) ?_ kF k _ (by have := kF_eq; omega) ⟨k, rfl, rfl, Nat.le_refl _, hf, p0, Ins_start so⟩
  rintro n ⟨t, w⟩ ⟨a, rfl, g1, g2, g3, g4, g5⟩
  dsimp only at g1 g3 g4 g5
  subst g1
  have Hw := SPm_fo g3 HS
  unfold q_X12_layOrder_L12
  dsimp only
  simp only [kwp_kb, kwp_some, kwp_kg, kwp_kif, kwp_kl]
  refine ⟨⟨by omega, by omega⟩, fun q => Or.inr ⟨by decide, by trivial, a, by trivial, g2, g3, g4, ?_⟩, fun q => ?_⟩
  · rw [KF_up, Int.toNat_natCast]
    exact Ins_end g5 (Or.inl (by omega))
  · obtain ⟨c, hc⟩ : ∃ c : Nat, a = c + 1 := ⟨a - 1, by omega⟩
    subst hc
    have ep : ∃ p : Nat, w.2.2.1 30 c = (p : Int) ∧ p < l.length := by
      have := PM_all (P := fun v => ∃ p : Nat, v = (p : Int) ∧ p < l.length) g4 (fun t ht => ⟨t, rfl, by omega⟩) c (by omega)
      rw [va_ne _ _ (by omega)] at this
      exact this
    obtain ⟨p, ep, hp⟩ := ep
    have bp := bP hb hp
    have kc : KF l (w.2.2.1 30) c = lP l p := by
      unfold KF
      rw [ep, Int.toNat_natCast]
    rw [show ((c + 1 : Nat) : Int) - 1 = (c : Int) by omega, Int.toNat_natCast, Int.toNat_natCast, Int.toNat_natCast, ep, Int.toNat_natCast, (SPm_at Hw hp).2.2, (SPm_at Hw hk).2.2]
    refine ⟨⟨by omega, by omega⟩, ⟨by omega, by omega⟩, ⟨by omega, by omega⟩, ⟨⟨by omega, by omega⟩, ⟨by omega, by omega⟩⟩, fun q1 => Or.inr ⟨by decide, by trivial, c + 1, by trivial, g2, g3, g4, ?_⟩, fun q1 => ⟨⟨by omega, by omega⟩, Or.inl ⟨by trivial, c, by omega, c, rfl, by omega, by omega, FO_30 g3 _ _, ?_, ?_⟩⟩⟩
    · rw [KF_up, Int.toNat_natCast]
      refine Ins_end g5 (Or.inr ?_)
      rw [show c + 1 - 1 = c by omega, kc]
      exact q1
    · rw [va_same, ← ep]
      exact PM_trans (PM_hole (by omega) (by omega) (by omega)) g4
    · rw [va_same, ← ep, KF_up]
      exact Ins_step g5 g2 (by rw [kc]; omega)
def OM (z : tZ12) (o : Nat → Nat) (N : Nat) : Prop := z.1 15 = (N : Int) ∧ N ≤ 41 ∧ ∀ a, a < N → z.2.2.1 30 a = (o a : Int)
theorem qm_layOrder {m : tZ12} {l : List Spt} (HS : SPm m l) (hb : bdL l) (hn : NU l) :
    kwp (q_X12_layOrder m) (fun m' => FO m m' ∧ ∃ o, OM m' o l.length ∧ OS l (fun _ => True) o l.length) := by
  have sl := HS.2.1
  unfold q_X12_layOrder
  simp only [kwp_kb]
  refine w_mono (w_for (ex := 71) (by decide) (fun k (s : Int × tZ12) => s.1 = (k : Int) ∧ FO m s.2 ∧ PM k (s.2.2.2.1 30) idF ∧ SO (KF l (s.2.2.2.1 30)) k) l.length ?_ ?_ (Nat.zero_le _) (by have := kF_eq; omega) ⟨rfl, FO_rfl m, PM_same (fun i hi => absurd hi (Nat.not_lt_zero _)), fun i j _ hj => absurd hj (Nat.not_lt_zero _)⟩) ?_
  · rintro k ⟨t, w⟩ hk ⟨g1, g2, g3, g4⟩
    dsimp only at g1 g2 g3 g4
    subst g1
    unfold q_X12_layOrder_L2
    dsimp only
    rw [(SPm_fo g2 HS).1]
    simp only [kwp_kb, kwp_some, kwp_kg, kwp_kif, kwp_kl]
    refine ⟨⟨⟨by omega, by omega⟩, ⟨by omega, by omega⟩⟩, fun q => by omega, fun _ => w_mono (qm_ordL12 HS hb g2 hk g3 g4) ?_⟩
    rintro ⟨lb, t2, w2⟩ ⟨f0, a, f1, f2, f3, f4, f5⟩
    dsimp only at f0 f1 f3 f4 f5 ⊢
    subst f1
    rw [Int.toNat_natCast]
    refine ⟨f0, ⟨by omega, by omega⟩, by trivial, by omega, FO_30 f3 _ _, ?_, ?_⟩
    · rw [va_same]
      exact f4
    · rw [va_same]
      exact f5
  · rintro ⟨t, w⟩ ⟨g1, g2, g3, g4⟩
    dsimp only at g1 g2 g3 g4
    subst g1
    unfold q_X12_layOrder_L2
    dsimp only
    rw [(SPm_fo g2 HS).1]
    simp only [kwp_kb, kwp_some, kwp_kg, kwp_kif, kwp_kl]
    exact ⟨⟨⟨by omega, by omega⟩, ⟨by omega, by omega⟩⟩, fun _ => ⟨by trivial, by trivial, g2, g3, g4⟩, fun q => by omega⟩
  · rintro ⟨lb, t, w⟩ ⟨g0, _, g2, g3, g4⟩
    dsimp only at g0 g2 g3 g4 ⊢
    simp only [kwp_kg, kwp_some]
    have hO : OS l (fun _ => True) (rO l (w.2.2.1 30)) l.length := OS_of hn.2 g3 g4 (fun t ht => ⟨t, rfl, ht, trivial⟩) (fun t u ht hu e => by unfold idF at e; omega) (fun p hp _ => ⟨p, hp, rfl⟩)
    refine ⟨g0, g2, rO l (w.2.2.1 30), ⟨(SPm_fo g2 HS).1, sl, fun a ha => ?_⟩, hO⟩
    obtain ⟨p, e, _⟩ := PM_all (P := fun v => ∃ p : Nat, v = (p : Int) ∧ p < l.length) g3 (fun t ht => ⟨t, rfl, ht⟩) a ha
    show w.2.2.1 30 a = _
    unfold rO
    rw [e, Int.toNat_natCast]
theorem T2_sz {l : List Spt} {C : Cir} (hC : 0 < C.2.2.2) (p q : Nat) : T2 l C p q ↔ fN (ds (lX l) (lY l) p q) 4 = szN C ∧ fD (ds (lX l) (lY l) p q) 4 = szD C := by
  have s2 := Int.mul_pos hC hC
  unfold T2 szN szD
  generalize ds (lX l) (lY l) p q = d
  generalize rN C = r
  generalize C.2.2.2 * C.2.2.2 = S at *
  constructor
  · intro h
    exact f_eq (by decide) s2 (by omega)
  · rintro ⟨h1, h2⟩
    have c1 := f_cross (a := d) (b := 4)
    have c2 := f_cross (a := r) (b := S)
    rw [h1, h2] at c1
    have dp := fD_pos (a := r) s2
    generalize fN r S = x at *
    generalize fD r S = y at *
    have e : y * (d * S - 4 * r) = 0 := by grind
    have := mul0_pos dp e
    omega
theorem qm_tightPair {m : tZ12} {l : List Spt} {C : Cir} (HS : SPm m l) (hb : bdL l) (hM : MCs m.2.1 16 C) {p q : Nat} (hp : p < l.length) (hq : q < l.length) : kwp (q_X12_isTightPair m (p : Int) (q : Int)) (fun b => b = true ↔ T2 l C p q) := by
  have d := ds_bd hb hp hq
  have bd := bdC_k (bdC_m hM)
  have sz := MCs_sz hM
  have sk := sz_k (bdC_m hM)
  have kd : k63 (ds (lX l) (lY l) p q) := ⟨by omega, by omega⟩
  unfold q_X12_isTightPair
  rw [qm_apart HS hb hp hq]
  simp only [kwp_kb, kwp_some]
  rw [qm_above kd (by decide) (by decide), kwp_some, qm_below kd (by decide) (by decide), sz.1, sz.2, T2_sz bd.1]
  simp only [kwp_kb, kwp_some, kwp_kg, kwp_kif, kwp_kl]
  exact ⟨⟨k64_63 (fN_k (by decide) kd), k64_63 sk.2.1⟩, fun q1 => ⟨⟨k64_63 (fD_k (by decide) (by decide)), k64_63 sk.2.2.2⟩, fun q2 => ⟨fun _ => ⟨q1, q2⟩, fun _ => (by first | exact trivial | rfl)⟩, fun q2 => ⟨fun w => absurd w (by decide), fun w => absurd w.2 q2⟩⟩, fun q1 => ⟨fun w => absurd w (by decide), fun w => absurd w.1 q1⟩⟩
theorem qm_tightTriple {m : tZ12} {l : List Spt} {C : Cir} (HS : SPm m l) (hb : bdL l) (hM : MCs m.2.1 16 C) {p q r : Nat} (hp : p < l.length) (hq : q < l.length) (hr : r < l.length) : kwp (q_X12_isTightTriple m (p : Int) (q : Int) (r : Int)) (fun b => b = true ↔ T3 l C p q r) := by
  have sl := HS.2.1
  have d1 := ds_bd hb hp hq
  have d2 := ds_bd hb hq hr
  have d3 := ds_bd hb hr hp
  have x1 := bX hb hp
  have x2 := bX hb hq
  have x3 := bX hb hr
  have e1 := SPm_at HS hp
  have e2 := SPm_at HS hq
  have e3 := SPm_at HS hr
  have k1 := pw_k hM (x := lX l p) (y := lY l p) (by omega) (by omega)
  have k2 := pw_k hM (x := lX l q) (y := lY l q) (by omega) (by omega)
  have k3 := pw_k hM (x := lX l r) (y := lY l r) (by omega) (by omega)
  unfold q_X12_isTightTriple
  rw [Int.toNat_natCast, Int.toNat_natCast, Int.toNat_natCast, e1.1, e1.2.1, e2.1, e2.2.1, e3.1, e3.2.1, qm_lies hM, qm_lies hM, qm_lies hM, qm_apart HS hb hp hq, qm_apart HS hb hq hr, qm_apart HS hb hr hp]
  simp only [kwp_kb, kwp_some, kwp_kg, kwp_kif, kwp_kl]
  unfold T3 RM SH
  refine ⟨⟨by omega, by omega⟩, ⟨⟨by omega, by omega⟩, ⟨by omega, by omega⟩⟩, k1, fun q1 => ⟨⟨by omega, by omega⟩, ⟨⟨by omega, by omega⟩, ⟨by omega, by omega⟩⟩, k2, fun q2 => ⟨⟨by omega, by omega⟩, ⟨⟨by omega, by omega⟩, ⟨by omega, by omega⟩⟩, k3, fun q3 => ⟨⟨⟨by omega, by omega⟩, ⟨by omega, by omega⟩⟩, fun q4 => ⟨fun w => absurd w (by decide), fun w => by omega⟩, fun q4 => ⟨⟨⟨by omega, by omega⟩, ⟨by omega, by omega⟩⟩, fun q5 => ⟨fun w => absurd w (by decide), fun w => by omega⟩, fun q5 => ⟨⟨⟨by omega, by omega⟩, ⟨by omega, by omega⟩⟩, fun q6 => ⟨fun w => absurd w (by decide), fun w => by omega⟩, fun q6 => ⟨fun _ => ⟨q1, q2, q3, by omega, by omega, by omega⟩, fun _ => (by first | exact trivial | rfl)⟩⟩⟩⟩, fun q3 => ⟨fun w => absurd w (by decide), fun w => absurd w.2.2.1 q3⟩⟩, fun q2 => ⟨fun w => absurd w (by decide), fun w => absurd w.2.1 q2⟩⟩, fun q1 => ⟨fun w => absurd w (by decide), fun w => absurd w.1 q1⟩⟩
