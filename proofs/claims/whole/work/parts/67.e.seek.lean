/-! ===== the class seeks them, 3 ===== -/
def rO (l : List Spt) (f : Nat → Int) (a : Nat) : Nat := (f a).toNat
theorem rs_OS {l : List Spt} (hn : NU l) {C : Cir} {f : Nat → Int} (pm : PM (rsF l C l.length).2 f (rsF l C l.length).1) (so : SO (KF l f) (rsF l C l.length).2) : OS l (RM l C) (rO l f) (rsF l C l.length).2 := by
  obtain ⟨h1, h2, h3, h4⟩ := rs_ok l C l.length
  refine OS_of hn.2 pm so (fun t ht => ?_) (fun t u ht hu e => ?_) (fun p hp hr => h4 p hp hr)
  · obtain ⟨p, a, b, c⟩ := h2 t ht
    exact ⟨p, a, b, c⟩
  · by_cases x : t < u
    · have := h3 t u x hu
      omega
    · by_cases y : u < t
      · have := h3 u t y ht
        omega
      · omega
theorem rim_two {l : List Spt} (hs : sorL l) (h2 : 2 ≤ l.length) {C : Cir} (hC : in0 (lX l) (lY l) aM l.length C) {o : Nat → Nat} {N : Nat} (hO : OS l (RM l C) o N) : 2 ≤ N := by
  have key : ∀ p q, p < l.length → q < l.length → p ≠ q → RM l C p → RM l C q → 2 ≤ N := fun p q hp hq hpq r1 r2 => by
    obtain ⟨a, ha, e1⟩ := hO.2.2 p hp r1
    obtain ⟨b, hb, e2⟩ := hO.2.2 q hq r2
    by_cases e : a = b
    · rw [e] at e1
      exact absurd (e1.symm.trans e2) hpq
    · omega
  rcases tight_ex hs h2 hC with ⟨p, q, hp, hq, hpq, ht⟩ | ⟨p, q, r, hp, hq, hr, h1, h3, h4, ht⟩
  · have i := (T2_iff hC.1 (hC.2.1 p ⟨hp, trivial⟩) (hC.2.1 q ⟨hq, trivial⟩)).mp ht
    exact key p q hp hq hpq i.2.1 i.2.2
  · exact key p q hp hq h1 ht.1 ht.2.1
theorem rim_one {l : List Spt} (h1 : l.length = 1) {C : Cir} (hC : in0 (lX l) (lY l) aM l.length C) {o : Nat → Nat} {N : Nat} (hO : OS l (RM l C) o N) : 1 ≤ N := by
  have r0 : RM l C 0 := by
    rcases hC.2.2 with ⟨i, hi, _, e⟩ | ⟨i, j, hi, hj, _⟩ | ⟨i, j, k, hi, hj, _⟩
    · have z : i = 0 := by omega
      subst z
      show pw C _ _ = 0
      rw [e]
      exact c1_on (lX l) (lY l) 0
    · omega
    · omega
  obtain ⟨a, ha, _⟩ := hO.2.2 0 (by omega) r0
  omega
def TZ (z : tZ0) (l : List Spt) (C : Cir) : Prop := ∃ (n : Nat) (t : Nat → Nat), TS l C n t ∧ z.2.2.2.2.2.2.2.2 = (n : Int) ∧ 1 ≤ n ∧ n ≤ 3 ∧ ∀ i, i < n → t i < l.length ∧ z.2.2.2.2.2.2.2.1 i = lP l (t i)
theorem T2_S {l : List Spt} {C : Cir} (hC : 0 < C.2.2.2) (hin : cIn (lX l) (lY l) (fun q => q < l.length ∧ aM q) C) : ∀ p q, p < l.length → q < l.length → T2 l C p q → RM l C p ∧ RM l C q := fun p q hp hq ht => by
  have i := (T2_iff hC (hin p ⟨hp, trivial⟩) (hin q ⟨hq, trivial⟩)).mp ht
  exact i.2
theorem q_seekTight {z8 : tZ8} {z : tZ0} {l : List Spt} (H : SPc z8 l) (hs : sorL l) (hb : bdL l) (hl : l.length ≤ 40) (hn : NU l) (h0 : 0 < l.length) (hB : BC z) (hC : in0 (lX l) (lY l) aM l.length (CZ z)) :
    kwp (q_X0_seekTight z z8) (fun z' => CZ z' = CZ z ∧ BC z' ∧ TZ z' l (CZ z)) := by
  obtain ⟨bx, bz, s, wx, wz, f0, n0, tt, k0⟩ := z
  obtain ⟨C, hCe⟩ : ∃ C, C = CZ (bx, bz, s, wx, wz, f0, n0, tt, k0) := ⟨_, rfl⟩
  have same : ∀ r : (Nat → Int) × Int × (Nat → Int) × Int, CZ (bx, bz, s, wx, wz, r) = C := fun r => by rw [hCe]; rfl
  have bsame : ∀ r : (Nat → Int) × Int × (Nat → Int) × Int, BC (bx, bz, s, wx, wz, r) := fun r => hB
  unfold q_X0_seekTight
  dsimp only
  simp only [kwp_kb, kwp_kl]
  rw [← hCe] at hC ⊢
  refine w_mono (w_for (ex := 44) (by decide) (fun i (x : Int × tZ0) => x.1 = (i : Int) ∧ ∃ f, x.2 = (bx, bz, s, wx, wz, f, ((rsF l C i).2 : Int), tt, k0) ∧ PM (rsF l C i).2 f (rsF l C i).1 ∧ SO (KF l f) (rsF l C i).2) l.length ?_ ?_ (Nat.zero_le _) (by have := kF_eq; omega) ⟨rfl, f0, rfl, PM_same (fun i hi => absurd hi (Nat.not_lt_zero _)), fun i j _ hj => absurd hj (Nat.not_lt_zero _)⟩) ?_
  · rintro i ⟨t, w⟩ hi ⟨g1, f, g2, g3, g4⟩
    dsimp only at g1 g2
    subst g1 g2
    have rs := rs_ok l C i
    have x := bX hb hi
    have sk := sd_k (pw C (lX l i) (lY l i))
    unfold q_X0_seekTight_L7
    dsimp only
    rw [q_sc H]
    simp only [kwp_kb, kwp_some, kwp_kg, kwp_kif, kwp_kl]
    rw [q_sx H hi, kwp_some, q_sy H hi, kwp_some, q_side (bsame _) (by omega) (by omega), kwp_some, same]
    refine ⟨⟨⟨by omega, by omega⟩, ⟨by omega, by omega⟩⟩, fun q => by omega, fun _ => ⟨sk, fun q => ?_, fun q => ?_⟩⟩
    · rw [sd_0] at q
      have e : rsF l C (i + 1) = (va_up (rsF l C i).1 (rsF l C i).2 (i : Int), (rsF l C i).2 + 1) := if_pos q
      refine w_mono (q_putOnRim H hb (by omega) hi (fun t ht => ?_) g3 g4) (fun z' hz' => ?_)
      · obtain ⟨p, a, b, _⟩ := rs.2.1 t ht
        exact ⟨p, a, by omega⟩
      · obtain ⟨f', e1, e2, e3⟩ := hz'
        subst e1
        rw [e]
        exact ⟨by trivial, by omega, f', by trivial, e2, e3⟩
    · rw [sd_0] at q
      have e : rsF l C (i + 1) = rsF l C i := if_neg q
      rw [e]
      exact ⟨by trivial, by omega, f, by trivial, g3, g4⟩
  · rintro ⟨t, w⟩ ⟨g1, f, g2, g3, g4⟩
    dsimp only at g1 g2
    subst g1 g2
    unfold q_X0_seekTight_L7
    dsimp only
    rw [q_sc H]
    simp only [kwp_kb, kwp_some, kwp_kg, kwp_kif, kwp_kl]
    exact ⟨⟨⟨by omega, by omega⟩, ⟨by omega, by omega⟩⟩, fun _ => ⟨by trivial, by trivial, f, by trivial, g3, g4⟩, fun q => by omega⟩
  · rintro ⟨lb, t, w⟩ ⟨g0, _, f, g2, g3, g4⟩
    dsimp only at g0 g2
    subst g2
    have rs := rs_ok l C l.length
    have hO := rs_OS hn g3 g4
    have ol : ∀ a, a < (rsF l C l.length).2 → rO l f a < l.length := fun a ha => (hO.1 a ha).1
    have fo : ∀ a, a < (rsF l C l.length).2 → f a = (rO l f a : Int) := fun a ha => by
      obtain ⟨p, e, _⟩ := PM_all (P := fun v => ∃ p : Nat, v = (p : Int) ∧ p < l.length) g3 (fun t ht => by
        obtain ⟨p, a, b, _⟩ := rs.2.1 t ht
        exact ⟨p, a, b⟩) a ha
      unfold rO
      rw [e, Int.toNat_natCast]
    generalize (rsF l C l.length).2 = N at *
    have hR : ∀ tt k, RZ (bx, bz, s, wx, wz, f, (N : Int), tt, k) (rO l f) N := fun tt k => ⟨rfl, by omega, fo⟩
    dsimp only
    simp only [kwp_kg, kwp_kif, kwp_kb, kwp_kl, kwp_some]
    refine ⟨g0, ⟨by omega, by omega⟩, fun q => ?_, fun q => ?_⟩
    · have n1 : N = 1 := by omega
      have st := q_setTight H (o := rO l f) (N := N) ol (bx := bx) (bz := bz) (s := s) (wx := wx) (wz := wz) (k := 0) (tt := tt) rfl (by omega) fo (a := 0) (b := 0) (c := 0) (by omega) (by omega) (by omega) 1
      rw [show ((0 : Nat) : Int) = 0 from rfl] at st
      refine w_of st ⟨same _, bsame _, 1, fun _ => 0, Or.inl ⟨?_, rfl, rfl⟩, rfl, by omega, by omega, fun i hi => ⟨h0, ?_⟩⟩
      · by_cases z : l.length = 1
        · exact z
        · have := rim_two hs (by omega) hC hO
          omega
      · have z : i = 0 := by omega
        subst z
        dsimp only
        rw [va_ne _ _ (by decide), va_ne _ _ (by decide), va_same]
        have l1 : l.length = 1 := by
          by_cases z : l.length = 1
          · exact z
          · have := rim_two hs (by omega) hC hO
            omega
        have := ol 0 (by omega)
        rw [show rO l f 0 = 0 by omega]
    · have l2 : 2 ≤ l.length := by
        by_cases z : l.length = 1
        · have := rim_one z hC hO
          omega
        · omega
      have tp := T2_S hC.1 hC.2.1
      unfold q_X0_seekTwo
      simp only [kwp_kg, kwp_kif, kwp_kb, kwp_some]
      have tw := q_twoL H hb (bsame (f, (N : Int), tt, 0)) (hR tt 0) (by rw [same]; exact hO)
      rw [same] at tw
      refine w_mono tw ?_
      rintro ⟨lb2, a', b'⟩ h
      dsimp only at h ⊢
      rcases h with ⟨rfl, a, b, rfl, rfl, fp⟩ | ⟨rfl, np⟩
      · have st := q_setTight H (o := rO l f) (N := N) ol (bx := bx) (bz := bz) (s := s) (wx := wx) (wz := wz) (k := 0) (tt := tt) rfl (by omega) fo (a := a) (b := b) (c := 0) (by have := fp.1; have := fp.2.1; omega) fp.2.1 (by have := fp.2.1; omega) 2
        rw [show ((0 : Nat) : Int) = 0 from rfl] at st
        have p2 := P2_of hO tp fp
        refine ⟨fun _ => w_of st ⟨fun q => absurd q kz_t, fun _ => ⟨same _, bsame _, 2, fun i => if i = 0 then rO l f a else rO l f b, Or.inr (Or.inl ⟨l2, rfl, ?_⟩), rfl, by omega, by omega, fun i hi => ?_⟩⟩, fun q => (q (by trivial)).elim⟩
        · exact p2
        · by_cases z : i = 0
          · subst z
            dsimp only
            rw [va_ne _ _ (by decide), va_ne _ _ (by decide), va_same, if_pos rfl]
            exact ⟨p2.1, rfl⟩
          · have z1 : i = 1 := by omega
            subst z1
            dsimp only
            rw [va_ne _ _ (by decide), va_same, if_neg (by decide)]
            exact ⟨p2.2.1, rfl⟩
      · refine ⟨fun q => absurd q (by decide), fun _ => ⟨by trivial, fun _ => ?_, fun q => (q (by trivial)).elim⟩⟩
        have n2 := N2_of hO tp np
        unfold q_X0_seekThree
        simp only [kwp_kg, kwp_kif, kwp_kb, kwp_some]
        have th := q_threeL H hb (hR tt 0) (z := (bx, bz, s, wx, wz, f, (N : Int), tt, 0)) (by rw [same]; exact hO)
        rw [same] at th
        refine w_mono th ?_
        rintro ⟨lb3, a', b', c'⟩ h
        dsimp only at h ⊢
        rcases h with ⟨rfl, a, b, c, rfl, rfl, rfl, ft⟩ | ⟨rfl, nt⟩
        · have st := q_setTight H (o := rO l f) (N := N) ol (bx := bx) (bz := bz) (s := s) (wx := wx) (wz := wz) (k := 0) (tt := tt) rfl (by omega) fo (a := a) (b := b) (c := c) (by have := ft.1; have := ft.2.1; have := ft.2.2.1; omega) (by have := ft.2.1; have := ft.2.2.1; omega) ft.2.2.1 3
          have p3 := P3_of hO (fun p _ hr => hr) ft
          refine ⟨fun _ => w_of st ⟨same _, bsame _, 3, fun i => if i = 0 then rO l f a else if i = 1 then rO l f b else rO l f c, Or.inr (Or.inr ⟨l2, n2, rfl, ?_⟩), rfl, by omega, by omega, fun i hi => ?_⟩, fun q => (q (by trivial)).elim⟩
          · exact p3
          · by_cases z : i = 0
            · subst z
              dsimp only
              rw [va_ne _ _ (by decide), va_ne _ _ (by decide), va_same, if_pos rfl]
              exact ⟨p3.1, rfl⟩
            · by_cases z1 : i = 1
              · subst z1
                dsimp only
                rw [va_ne _ _ (by decide), va_same, if_neg (by decide), if_pos rfl]
                exact ⟨p3.2.1, rfl⟩
              · have z2 : i = 2 := by omega
                subst z2
                dsimp only
                rw [va_same, if_neg (by decide), if_neg (by decide)]
                exact ⟨p3.2.2.1, rfl⟩
        · exact (no_trip hn.2 hs l2 hC hO (fun p _ hr => hr) n2 nt).elim
