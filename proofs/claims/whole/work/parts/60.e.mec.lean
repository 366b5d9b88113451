/-! ===== the model lays the least circle ===== -/
theorem pw_c1 (X Y : Nat → Int) (i : Nat) (x y : Int) : pw (c1 X Y i) x y = (x - X i) * (x - X i) + (y - Y i) * (y - Y i) := by
  unfold c1
  rw [pw_cB]
  grind
theorem sq2_0 {a b : Int} (h : a * a + b * b ≤ 0) : a = 0 ∧ b = 0 := by
  have h1 := sq_nn a
  have h2 := sq_nn b
  have h3 : a * a = 0 := by omega
  have h4 : b * b = 0 := by omega
  exact ⟨by rcases Int.mul_eq_zero.mp h3 with h | h <;> exact h, by rcases Int.mul_eq_zero.mp h4 with h | h <;> exact h⟩
theorem c2_rN (X Y : Nat → Int) (i j : Nat) : rN (c2 X Y i j) = ds X Y i j := by
  unfold c2
  rw [rN_cB]
  rfl
theorem qm_layCircle {m : tZ12} {l : List Spt} (H : SPm m l) (hs : sorL l) (hb : bdL l) {set : Int} (hne : ∃ q, q < l.length ∧ tbM set q) : kwp (q_X12_layCircle m set) (fun m' => FC m m' ∧ ∃ C, MCs m'.2.1 16 C ∧ mecOf (lX l) (lY l) (tbM set) l.length C) := by
  have hl := H.2.1
  have hd := dif_sor hs
  unfold q_X12_layCircle
  refine w_kb (qm_far H hb set) ?_
  rintro ⟨lb, a, b, f, c⟩ ⟨h0, h⟩
  dsimp only at h0 h
  simp only [kwp_kg, kwp_kif, kwp_kb, kwp_some]
  obtain ⟨q0, hq0, hM0⟩ := hne
  rcases h with ⟨_, z⟩ | ⟨i, j, rfl, rfl, ⟨hi, hji, hMi, hMj⟩, rfl, hmax⟩
  · exact absurd ⟨hq0, Nat.le_refl _, hM0, hM0⟩ (z q0 q0)
  have hmax2 : ∀ p q, p < l.length → q < l.length → tbM set p → tbM set q → ds (lX l) (lY l) p q ≤ ds (lX l) (lY l) i j := fun p q h1 h2 h3 h4 => by
    rcases Nat.le_total q p with w | w
    · exact hmax p q ⟨h1, w, h3, h4⟩
    · rw [ds_sym]
      exact hmax q p ⟨h2, w, h4, h3⟩
  refine ⟨h0, ⟨⟨by omega, by omega⟩, ⟨by omega, by omega⟩⟩, fun e => ?_, fun e => ?_⟩
  · have eij : j = i := by omega
    subst eij
    refine w_mono (qm_one H hb hi) (fun m' ⟨g0, _, g2⟩ => ⟨g0, _, g2, mecOf_in0 (in0_start hMi hi (fun q hq hMq => ?_))⟩)
    have hz := hmax2 q j hq hi hMq hMi
    have h1 : ds (lX l) (lY l) j j = 0 := by
      unfold ds
      grind
    rw [h1] at hz
    unfold ds at hz
    have := sq2_0 hz
    by_cases e2 : q = j
    · exact e2
    · have := hd q j hq hi e2
      omega
  · have hj : j < l.length := by omega
    have hne : i ≠ j := fun w => e (by rw [w])
    refine w_mono (qm_pair H hb hi hj) (fun m1 ⟨g0, g1, g2⟩ => ?_)
    have H1 := SPm_fc g0 H
    refine w_mono (qm_holdsAll H1 hb g2 set) (fun ok hok => ?_)
    simp only [kz_0]
    refine ⟨fun w => ?_, fun w => ?_⟩
    · have hno : ¬ cIn (lX l) (lY l) (fun q => q < l.length ∧ tbM set q) (c2 (lX l) (lY l) i j) := fun v => by
        rw [w] at hok
        exact absurd (hok.mpr v) (by decide)
      -- the least one goes through three
      obtain ⟨E, hE⟩ := mec_ex (M := tbM set) hd l.length (Nat.le_refl _) ⟨q0, hq0, hM0⟩
      have hex : ∃ p q r, S3 (tbM set) l.length 0 0 p q r ∧ ok3 (lX l) (lY l) (fun q => q < l.length ∧ tbM set q) p q r ∧ mecOf (lX l) (lY l) (tbM set) l.length (c3 (lX l) (lY l) p q r) := by
        have hEm := mecOf_in0 hE
        obtain ⟨e1, e2, e3⟩ := hE
        rcases e3 with ⟨p, p1, p2, p3⟩ | ⟨p, q, p1, p2, p3, p4, p5⟩ | ⟨p, q, r, p1, p2, p3, p4, p5, p6, p7, p8, p9⟩
        · exfalso
          have v1 := e2 i ⟨hi, hMi⟩
          have v2 := e2 j ⟨hj, hMj⟩
          rw [p3, pw_c1] at v1 v2
          have v1 := sq2_0 v1
          have v2 := sq2_0 v2
          have := hd i j hi hj hne
          omega
        · exfalso
          apply hno
          have v1 := e2 i ⟨hi, hMi⟩
          have v2 := e2 j ⟨hj, hMj⟩
          rw [p5] at v1 v2 e1 e2
          have b1 := cE_c2 (lX l) (lY l) i j (c2 (lX l) (lY l) p q)
          have b2 := rN_cE (c2 (lX l) (lY l) p q) (c2 (lX l) (lY l) i j)
          rw [c2_rN, c2_rN, show (c2 (lX l) (lY l) p q).2.2.2 = 2 from rfl, show (c2 (lX l) (lY l) i j).2.2.2 = 2 from rfl] at b2
          have b3 := hmax2 p q p1 (by omega) p3 p4
          have hP : cP (c2 (lX l) (lY l) p q) (c2 (lX l) (lY l) i j) := mec_only (show (0 : Int) < 2 by decide) (show (0 : Int) < 2 by decide) (by omega) (by omega)
          exact fun t ht => (cP_in e1 (show (0 : Int) < 2 by decide) hP).mpr (e2 t ht)
        · rw [p8] at e2 hEm
          exact ⟨p, q, r, ⟨p4, p5, p6, p2, p3, by omega⟩, ⟨p7, e2⟩, hEm⟩
      obtain ⟨p, q, r, s1, s2, s3⟩ := hex
      refine w_mono (qm_triples H1 hb set) (fun m2 ⟨k0, k1⟩ => ?_)
      obtain ⟨i', j', k', r1, r2, r3, r4⟩ := k1 ⟨p, q, r, s1, s2⟩
      refine ⟨FC_trans g0 k0, _, r3, ?_⟩
      have w1 := c3_pos r2.1
      have w2 := s3.2.2 _ w1 r2.2 (fun _ h => h.elim)
      have w3 := r4 p q r s1 s2
      have w4 := rN_cE (c3 (lX l) (lY l) i' j' k') (c3 (lX l) (lY l) p q r)
      have w5 := Int.mul_nonneg (Int.le_of_lt w1) (Int.neg_nonneg_of_nonpos w2)
      rw [Int.mul_neg] at w5
      have w6 : cE (c3 (lX l) (lY l) i' j' k') (c3 (lX l) (lY l) p q r) ≤ 0 := np_of_mul s3.1 (by omega)
      exact mecOf_P s3 w1 (mec_only s3.1 w1 w2 w6)
    · have v : cIn (lX l) (lY l) (fun q => q < l.length ∧ tbM set q) (c2 (lX l) (lY l) i j) := hok.mp (by simpa using w)
      exact ⟨g0, _, g2, (by decide : (0 : Int) < 2), v, cMin_mono (cMin_c2' (lX l) (lY l) i j) (fun t ht => by rcases ht with ht | ht <;> subst ht; exact ⟨hi, hMi⟩; exact ⟨hj, hMj⟩) (fun _ h => h)⟩
theorem tb_all {n : Nat} (hn : n ≤ 41) (k : Nat) : tb (zshl64 1 (zand64 (n : Int) 63) - 1) k = decide (k < n) := by
  have h : ∀ n : Nat, n ≤ 41 → ∀ k, k < 64 → tb (zshl64 1 (zand64 (n : Int) 63) - 1) k = decide (k < n) := by decide +kernel
  by_cases hk : k < 64
  · exact h n hn k hk
  · rw [tb_big (by omega), decide_eq_false (by omega)]
theorem qm_all {m : tZ12} {l : List Spt} (H : SPm m l) : q_X12_allSpots m = some (zshl64 1 (zand64 (l.length : Int) 63) - 1) := by
  refine w_eq ?_
  have := H.2.1
  unfold q_X12_allSpots
  simp only [kwp_kg, kwp_some]
  rw [H.1]
  exact ⟨⟨by omega, by omega⟩, (by first | exact trivial | rfl)⟩
theorem mecOf_all {X Y : Nat → Int} {M : Nat → Prop} {n : Nat} {C : Cir} (hM : ∀ q, q < n → M q) : mecOf X Y M n C ↔ mecOf X Y aM n C := by
  unfold mecOf cIn cMin
  constructor
  · rintro ⟨h1, h2, h3⟩
    exact ⟨h1, fun q hq => h2 q ⟨hq.1, hM q hq.1⟩, fun D d1 d2 d3 => h3 D d1 (fun q hq => d2 q ⟨hq.1, trivial⟩) d3⟩
  · rintro ⟨h1, h2, h3⟩
    exact ⟨h1, fun q hq => h2 q ⟨hq.1, trivial⟩, fun D d1 d2 d3 => h3 D d1 (fun q hq => d2 q ⟨hq.1, hM q hq.1⟩) d3⟩
theorem qm_layAll {m : tZ12} {l : List Spt} (H : SPm m l) (hs : sorL l) (hb : bdL l) (h0 : 0 < l.length) : kwp (q_X12_layCircle m (zshl64 1 (zand64 (l.length : Int) 63) - 1)) (fun m' => FC m m' ∧ ∃ C, MCs m'.2.1 16 C ∧ mecOf (lX l) (lY l) aM l.length C) := by
  have hM : ∀ q, q < l.length → tbM (zshl64 1 (zand64 (l.length : Int) 63) - 1) q := fun q hq => by
    unfold tbM
    rw [tb_all H.2.1, decide_eq_true hq]
  refine w_mono (qm_layCircle H hs hb ⟨0, h0, hM 0 h0⟩) (fun m' ⟨h1, C, h2, h3⟩ => ⟨h1, C, h2, (mecOf_all hM).mp h3⟩)
/-- the model: the SET has SPOTS, their circle is laid -/
theorem qm_hasCircle {m : tZ12} {r : Nat → Int} (H : HR r (m.2.2.1 0)) {set : Int} (hs : k32 set) :
    kwp (q_X12_hasCircle m set) (fun x => FQ m x.2 ∧ ((¬ (1 ≤ set ∧ set < 16 ∧ 0 < (GL r set (r 128)).length) ∧ x.1 = false) ∨ ((1 ≤ set ∧ set < 16 ∧ 0 < (GL r set (r 128)).length) ∧ x.1 = true ∧ SPm x.2 (GL r set (r 128)) ∧ ∃ C, MCs x.2.2.1 16 C ∧ mecOf (lX (GL r set (r 128))) (lY (GL r set (r 128))) aM (GL r set (r 128)).length C))) := by
  have ok := GL_ok (set := set) H.1 H.1.2.2
  unfold q_X12_hasCircle
  refine w_kb (qm_isLaid H hs) ?_
  rintro ⟨b, m1⟩ ⟨f0, h⟩
  dsimp only at f0 h ⊢
  simp only [kwp_kif, kz_0, kwp_some, kwp_kb]
  rcases h with ⟨h1, rfl⟩ | ⟨h1, h2, rfl⟩
  · exact ⟨fun _ => ⟨f0, Or.inl ⟨fun w => h1 ⟨w.1, w.2.1⟩, (by first | exact trivial | rfl)⟩⟩, fun w => (w (by trivial)).elim⟩
  · refine ⟨fun w => ⟨f0, Or.inl ⟨fun v => of_decide_eq_false w v.2.2, (by first | exact trivial | rfl)⟩⟩, fun w => ?_⟩
    have h0 : 0 < (GL r set (r 128)).length := by
      rw [decide_eq_false_iff_not] at w
      exact Decidable.not_not.mp w
    rw [qm_all h2, kwp_some]
    exact w_mono (qm_layAll h2 ok.2.1 ok.2.2 h0) (fun m2 ⟨g0, C, g1, g2⟩ => ⟨FQ_trans f0 (FC_q g0), Or.inr ⟨⟨h1.1, h1.2, h0⟩, (by first | exact trivial | rfl), SPm_fc g0 h2, C, g1, g2⟩⟩)
/-- the class: the same -/
theorem q_gather {z11 : tZ11} {z4 : tZ4} {z8 : tZ8} {set : Int} (H : VR z4.1) (hs : k32 set) :
    kwp (q_X11_gather z11 z4 z8 set) (fun x => (¬ (1 ≤ set ∧ set < 16 ∧ 0 < (GL z4.1 set (z4.1 128)).length) ∧ x.1 = false) ∨ ((1 ≤ set ∧ set < 16 ∧ 0 < (GL z4.1 set (z4.1 128)).length) ∧ x.1 = true ∧ SPc x.2 (GL z4.1 set (z4.1 128)))) := by
  unfold q_X11_gather
  refine w_kbe (q_now z4) ?_
  refine w_kb (q_gatherAt H hs H.2.2) ?_
  rintro ⟨b, z⟩ h
  rw [kwp_some]
  dsimp only at h ⊢
  rcases h with ⟨h1, rfl⟩ | ⟨h1, h2, rfl⟩
  · exact Or.inl ⟨fun w => h1 ⟨w.1, w.2.1⟩, rfl⟩
  · by_cases h0 : 0 < (GL z4.1 set (z4.1 128)).length
    · exact Or.inr ⟨⟨h1.1, h1.2, h0⟩, decide_eq_true h0, h2⟩
    · exact Or.inl ⟨fun w => h0 w.2.2, decide_eq_false h0⟩
