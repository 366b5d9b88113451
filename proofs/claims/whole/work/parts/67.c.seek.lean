/-! ===== the class seeks them ===== -/
theorem PM_ups {n a : Nat} {l : List Spt} {g b : Nat → Int} {i : Nat} (hp : PM (n + 1) (va_up g a (i : Int)) (va_up b n (i : Int))) (hi : i < l.length) (hb : ∀ t, t < n → ∃ p : Nat, b t = (p : Int) ∧ p < l.length) {c : Nat} (hc : c < n + 1) (hca : c ≠ a) : ∃ p : Nat, g c = (p : Int) ∧ p < l.length := by
  have := PM_all (P := fun v => ∃ p : Nat, v = (p : Int) ∧ p < l.length) hp (fun t ht => by
    by_cases e : t = n
    · rw [e, va_same]
      exact ⟨i, rfl, hi⟩
    · rw [va_ne _ _ e]
      exact hb t (by omega)) c hc
  rw [va_ne _ _ hca] at this
  exact this
theorem q_putOnRim {z8 : tZ8} {l : List Spt} (H : SPc z8 l) (hb : bdL l) {bx bz s wx wz k : Int} {f tt b : Nat → Int} {n i : Nat} (hn : n < 41) (hi : i < l.length) (hbp : ∀ t, t < n → ∃ p : Nat, b t = (p : Int) ∧ p < l.length) (pm : PM n f b) (so : SO (KF l f) n) :
    kwp (q_X0_putOnRim (bx, bz, s, wx, wz, f, (n : Int), tt, k) z8 (i : Int)) (fun z' => ∃ f', z' = (bx, bz, s, wx, wz, f', ((n + 1 : Nat) : Int), tt, k) ∧ PM (n + 1) f' (va_up b n (i : Int)) ∧ SO (KF l f') (n + 1)) := by
  unfold q_X0_putOnRim
  dsimp only
  simp only [kwp_kb, kwp_some, kwp_kg, kwp_kif, kwp_kl]
  have bi := bP hb hi
  refine ⟨⟨by omega, by omega⟩, fun _ => ?_, fun q => by omega⟩
  refine w_mono (w_loop (fun m (x : Int × tZ0) => ∃ a : Nat, a = m ∧ x.1 = (a : Int) ∧ a ≤ n ∧ ∃ g, x.2 = (bx, bz, s, wx, wz, g, (n : Int), tt, k) ∧ PM (n + 1) (va_up g a (i : Int)) (va_up b n (i : Int)) ∧ InsI (KF l g) (lP l i) a n)
    (Q := fun e => e.1 = 59 ∧ ∃ a : Nat, e.2.1 = (a : Int) ∧ a ≤ n ∧ ∃ g, e.2.2 = (bx, bz, s, wx, wz, g, (n : Int), tt, k) ∧ PM (n + 1) (va_up g a (i : Int)) (va_up b n (i : Int)) ∧ SO (KF l (va_up g a (i : Int))) (n + 1)) ?_ kF n _ (by have := kF_eq; omega) ⟨n, rfl, rfl, Nat.le_refl _, f, rfl, PM_set pm _, Ins_start so⟩) ?_
  · rintro m ⟨t, w⟩ ⟨a, rfl, g1, g2, g, g3, g4, g5⟩
    dsimp only at g1 g3
    subst g1 g3
    unfold q_X0_putOnRim_L15
    dsimp only
    simp only [kwp_kb, kwp_some, kwp_kg, kwp_kif, kwp_kl]
    refine ⟨⟨by omega, by omega⟩, fun q => Or.inr ⟨by decide, by trivial, a, by trivial, g2, g, by trivial, g4, ?_⟩, fun q => ?_⟩
    · rw [KF_up, Int.toNat_natCast]
      exact Ins_end g5 (Or.inl (by omega))
    · obtain ⟨c, hc⟩ : ∃ c : Nat, a = c + 1 := ⟨a - 1, by omega⟩
      subst hc
      obtain ⟨p, ep, hp⟩ := PM_ups g4 hi hbp (c := c) (by omega) (by omega)
      have bp := bP hb hp
      have kc : KF l g c = lP l p := by
        unfold KF
        rw [ep, Int.toNat_natCast]
      rw [show ((c + 1 : Nat) : Int) - 1 = (c : Int) by omega, Int.toNat_natCast, Int.toNat_natCast, ep, q_sn H hp, kwp_some, q_sn H hi, kwp_some]
      refine ⟨⟨by omega, by omega⟩, ⟨⟨by omega, by omega⟩, ⟨by omega, by omega⟩⟩, fun q1 => Or.inr ⟨by decide, by trivial, c + 1, by trivial, g2, g, by trivial, g4, ?_⟩, fun q1 => ⟨⟨by omega, by omega⟩, Or.inl ⟨by trivial, c, by omega, c, rfl, by omega, by omega, va_up g (c + 1) (g c), by rw [ep], PM_trans (PM_hole (by omega) (by omega) (by omega)) g4, ?_⟩⟩⟩
      · rw [KF_up, Int.toNat_natCast]
        refine Ins_end g5 (Or.inr ?_)
        rw [show c + 1 - 1 = c by omega, kc]
        exact q1
      · rw [KF_up]
        exact Ins_step g5 g2 (by rw [kc]; omega)
  · rintro ⟨lb, t, w⟩ ⟨g0, a, g1, g2, g, g3, g4, g5⟩
    dsimp only at g0 g1 g3 ⊢
    subst g1 g3
    dsimp only
    rw [Int.toNat_natCast]
    refine ⟨g0, ⟨by omega, by omega⟩, va_up g a (i : Int), ?_, g4, g5⟩
    rw [show (n : Int) + 1 = ((n + 1 : Nat) : Int) by omega]
/-- those on the rim, as they come -/
def rsF (l : List Spt) (C : Cir) : Nat → (Nat → Int) × Nat
  | 0 => (fun _ => 0, 0)
  | i + 1 => if pw C (lX l i) (lY l i) = 0 then (va_up (rsF l C i).1 (rsF l C i).2 (i : Int), (rsF l C i).2 + 1) else rsF l C i
theorem rs_ok (l : List Spt) (C : Cir) : ∀ i, (rsF l C i).2 ≤ i ∧ (∀ t, t < (rsF l C i).2 → ∃ p : Nat, (rsF l C i).1 t = (p : Int) ∧ p < i ∧ RM l C p) ∧ (∀ t u, t < u → u < (rsF l C i).2 → (rsF l C i).1 t < (rsF l C i).1 u) ∧ ∀ p, p < i → RM l C p → ∃ t, t < (rsF l C i).2 ∧ (rsF l C i).1 t = (p : Int)
  | 0 => ⟨Nat.le_refl _, fun t ht => absurd ht (Nat.not_lt_zero _), fun t u _ hu => absurd hu (Nat.not_lt_zero _), fun p hp => absurd hp (Nat.not_lt_zero _)⟩
  | i + 1 => by
    obtain ⟨h1, h2, h3, h4⟩ := rs_ok l C i
    by_cases q : pw C (lX l i) (lY l i) = 0
    · have e : rsF l C (i + 1) = (va_up (rsF l C i).1 (rsF l C i).2 (i : Int), (rsF l C i).2 + 1) := if_pos q
      rw [e]
      dsimp only
      refine ⟨by omega, fun t ht => ?_, fun t u htu hu => ?_, fun p hp hr => ?_⟩
      · by_cases z : t = (rsF l C i).2
        · rw [z, va_same]
          exact ⟨i, rfl, by omega, q⟩
        · rw [va_ne _ _ z]
          obtain ⟨p, a, b, c⟩ := h2 t (by omega)
          exact ⟨p, a, by omega, c⟩
      · by_cases z : u = (rsF l C i).2
        · obtain ⟨p, a, b, c⟩ := h2 t (by omega)
          rw [z, va_same, va_ne _ _ (by omega), a]
          omega
        · rw [va_ne _ _ z, va_ne _ _ (by omega)]
          exact h3 t u htu (by omega)
      · by_cases z : p = i
        · exact ⟨(rsF l C i).2, by omega, by rw [va_same, z]⟩
        · obtain ⟨t, a, b⟩ := h4 p (by omega) hr
          exact ⟨t, by omega, by rw [va_ne _ _ (by omega)]; exact b⟩
    · have e : rsF l C (i + 1) = rsF l C i := if_neg q
      rw [e]
      refine ⟨by omega, fun t ht => ?_, h3, fun p hp hr => ?_⟩
      · obtain ⟨p, a, b, c⟩ := h2 t ht
        exact ⟨p, a, by omega, c⟩
      · by_cases z : p = i
        · rw [z] at hr
          exact absurd hr q
        · exact h4 p (by omega) hr
def RZ (z : tZ0) (o : Nat → Nat) (N : Nat) : Prop := z.2.2.2.2.2.2.1 = (N : Int) ∧ N ≤ 41 ∧ ∀ a, a < N → z.2.2.2.2.2.1 a = (o a : Int)
theorem q_rimSpot {z : tZ0} {o : Nat → Nat} {N a : Nat} (h : RZ z o N) (ha : a < N) : q_X0_rimSpot z (a : Int) = some (o a : Int) := by
  refine w_eq ?_
  have h2 := h.2.1
  unfold q_X0_rimSpot
  rw [h.1]
  simp only [kwp_kg, kwp_kif, kwp_some]
  rw [Int.toNat_natCast]
  exact ⟨⟨by omega, by omega⟩, fun q => by omega, fun _ => ⟨⟨by omega, by omega⟩, fun q => by omega, fun _ => ⟨⟨by omega, by omega⟩, h.2.2 a ha⟩⟩⟩
theorem op_k {a b c : Int} (ha : a.natAbs ≤ 160) (hb : b.natAbs ≤ 160) (hc : c.natAbs ≤ 160) : k32 ((a + b) - 2 * c) ∧ ((a + b) - 2 * c).natAbs ≤ 640 := ⟨⟨by omega, by omega⟩, by omega⟩
theorem two_k {w : Int} (h : w.natAbs ≤ 131072000) : k64 (2 * w) := ⟨by omega, by omega⟩
theorem q_opposite {z : tZ0} {z8 : tZ8} {l : List Spt} (hB : BC z) (H : SPc z8 l) (hb : bdL l) {p q : Nat} (hp : p < l.length) (hq : q < l.length) (r1 : RM l (CZ z) p) (r2 : RM l (CZ z) q) :
    kwp (q_X0_areOpposite z z8 (p : Int) (q : Int)) (fun b => b = true ↔ T2 l (CZ z) p q) := by
  obtain ⟨b1, b2, b3, b4, b5, b6⟩ := hB
  have x1 := bX hb hp
  have x2 := bX hb hq
  have iff := T2_iff (l := l) (C := CZ z) (p := p) (q := q) b3 (by rw [show pw (CZ z) (lX l p) (lY l p) = 0 from r1]; exact Int.le_refl _) (by rw [show pw (CZ z) (lX l q) (lY l q) = 0 from r2]; exact Int.le_refl _)
  have op : OP l (CZ z) p q ↔ ((lX l p + lX l q) - 2 * z.1) * z.2.2.1 = 2 * z.2.2.2.1 ∧ ((lY l p + lY l q) - 2 * z.2.1) * z.2.2.1 = 2 * z.2.2.2.2.1 := by
    unfold OP CZ cB
    dsimp only
    rw [Int.sub_mul, Int.sub_mul, Int.mul_assoc, Int.mul_assoc, Int.mul_comm z.1, Int.mul_comm z.2.1]
    constructor
    · rintro ⟨u, v⟩
      exact ⟨by omega, by omega⟩
    · rintro ⟨u, v⟩
      exact ⟨by omega, by omega⟩
  have o1 := op_k x1.1 x2.1 b1
  have o2 := op_k x1.2 x2.2 b2
  have m1 := k64_nat (ab_mul (a := (lX l p + lX l q) - 2 * z.1) (b := z.2.2.1) (A := 640) (B := 409600) o1.2 (by clear o1 o2 op iff x1 x2 b1 b2 b5 b6; omega)) (by decide)
  have m2 := k64_nat (ab_mul (a := (lY l p + lY l q) - 2 * z.2.1) (b := z.2.2.1) (A := 640) (B := 409600) o2.2 (by clear o1 o2 op iff x1 x2 b1 b2 b5 b6; omega)) (by decide)
  have w1 := two_k b5
  have w2 := two_k b6
  unfold q_X0_areOpposite
  rw [q_sx H hp, q_sx H hq, q_sy H hp, q_sy H hq]
  simp only [kwp_kb, kwp_some, kwp_kg, kwp_kif, kwp_kl]
  rw [iff, op]
  exact ⟨o1.1, o2.1, ⟨m1, w1⟩, fun q1 => ⟨⟨m2, w2⟩, fun q2 => ⟨fun _ => ⟨⟨q1, q2⟩, r1, r2⟩, fun _ => (by first | exact trivial | rfl)⟩, fun q2 => ⟨fun w => absurd w (by decide), fun w => absurd w.1.2 q2⟩⟩, fun q1 => ⟨fun w => absurd w (by decide), fun w => absurd w.1.1 q1⟩⟩
theorem q_sharp {z8 : tZ8} {l : List Spt} (H : SPc z8 l) (hb : bdL l) {p q r : Nat} (hp : p < l.length) (hq : q < l.length) (hr : r < l.length) : kwp (q_X0_areSharp z8 (p : Int) (q : Int) (r : Int)) (fun b => b = true ↔ SH l p q r) := by
  have d1 := ds_bd hb hp hq
  have d2 := ds_bd hb hq hr
  have d3 := ds_bd hb hr hp
  unfold q_X0_areSharp
  rw [q_distanceZ H hp hq, q_distanceZ H hq hr, q_distanceZ H hr hp]
  simp only [kwp_kb, kwp_some, kwp_kg, kwp_kif, kwp_kl]
  unfold SH
  exact ⟨⟨⟨by omega, by omega⟩, ⟨by omega, by omega⟩⟩, fun q1 => ⟨fun w => absurd w (by decide), fun w => by omega⟩, fun q1 => ⟨⟨⟨by omega, by omega⟩, ⟨by omega, by omega⟩⟩, fun q2 => ⟨fun w => absurd w (by decide), fun w => by omega⟩, fun q2 => ⟨⟨⟨by omega, by omega⟩, ⟨by omega, by omega⟩⟩, fun q3 => ⟨fun w => absurd w (by decide), fun w => by omega⟩, fun q3 => ⟨fun _ => ⟨by omega, by omega, by omega⟩, fun _ => (by first | exact trivial | rfl)⟩⟩⟩⟩
theorem q_setTight {bx bz s wx wz k nN : Int} {f tt : Nat → Int} {z8 : tZ8} {l : List Spt} (H : SPc z8 l) {o : Nat → Nat} {N : Nat} (ho : ∀ a, a < N → o a < l.length) (h : nN = (N : Int)) (hN : N ≤ 41) (hf : ∀ a, a < N → f a = (o a : Int)) {a b c : Nat} (ha : a < N) (hb : b < N) (hc : c < N) (n : Int) :
    q_X0_setTight (bx, bz, s, wx, wz, f, nN, tt, k) z8 n (a : Int) (b : Int) (c : Int) = some (bx, bz, s, wx, wz, f, nN, va_up (va_up (va_up tt 0 (lP l (o a))) 1 (lP l (o b))) 2 (lP l (o c)), n) := by
  refine w_eq ?_
  unfold q_X0_setTight
  dsimp only
  simp only [kwp_kb, kwp_some, kwp_kg, kwp_kif, kwp_kl]
  rw [q_rimSpot (o := o) (N := N) ⟨h, hN, hf⟩ ha, kwp_some, q_sn H (ho a ha), kwp_some]
  refine ⟨by decide, ?_⟩
  rw [q_rimSpot (o := o) (N := N) ⟨h, hN, hf⟩ hb, kwp_some, q_sn H (ho b hb), kwp_some]
  refine ⟨by decide, ?_⟩
  rw [q_rimSpot (o := o) (N := N) ⟨h, hN, hf⟩ hc, kwp_some, q_sn H (ho c hc), kwp_some]
  exact ⟨by decide, rfl⟩
