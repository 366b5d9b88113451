/-! ===== two: discs and parts ===== -/
def bs (z : tZ2) (p : Nat) : Nat := (z.2.2.2.1 p).toNat
theorem bs_at {z : tZ2} {l : List Spt} (h : DQ z l) {p : Nat} (hp : p < dN l) : z.2.2.2.1 p = (bs z p : Int) ∧ bs z p < dN l := by
  obtain ⟨t, e, ht⟩ := DQ_at h hp
  unfold bs
  rw [e, Int.toNat_natCast]
  exact ⟨rfl, ht⟩
theorem bs_le {z : tZ2} {l : List Spt} (hb : bdL l) (h : DQ z l) {p q : Nat} (hpq : p ≤ q) (hq : q < dN l) : leR (dC l (bs z p)) (dC l (bs z q)) :=
  DQ_so hb h hpq hq (bs_at h (by omega)).1 (bs_at h hq).1 (bs_at h (by omega)).2 (bs_at h hq).2
theorem bs_ex {z : tZ2} {l : List Spt} (h : DQ z l) {t : Nat} (ht : t < dN l) : ∃ p, p < dN l ∧ bs z p = t := by
  obtain ⟨q, hq, e⟩ := PM_ex (P := fun v => v = (t : Int)) h.2.1 ⟨t, ht, rfl⟩
  exact ⟨q, hq, by unfold bs; rw [e, Int.toNat_natCast]⟩
def sIn (z : tZ2) (l : List Spt) (p : Nat) : Nat := inN l (dC l (bs z p))
theorem inN_bit (l : List Spt) (C : Cir) (k : Nat) : (inN l C).testBit k = true ↔ k < l.length ∧ pw C (lX l k) (lY l k) ≤ 0 := inF_bit l C l.length k
def vld (z : tZ2) (l : List Spt) (q r Q : Nat) : Prop := Q ≠ 0 ∧ (Q = pbN (alN l) (sIn z l q) (sIn z l r) ∨ Q = pbN (alN l) (sIn z l r) (sIn z l q))
def WV (z : tZ2) (l : List Spt) (p Q : Nat) : Prop := ∃ q r, r < q ∧ q < p ∧ vld z l q r Q
theorem dC_pos {l : List Spt} (hb : bdL l) {t : Nat} (ht : t < dN l) : 0 < (dC l t).2.2.2 := (bdC_k (dC_bd hb ht)).1
/-- a part that two discs allow is at most as wide -/
theorem part_B {z : tZ2} {l : List Spt} (hs : sorL l) (hb : bdL l) (hl : l.length ≤ 12) (h : DQ z l) {q r Q : Nat} (hrq : r < q) (hq : q < dN l) (hv : vld z l q r Q) : odP l Q ∧ ∀ M, MX l Q M → leR M (dC l (bs z q)) := by
  have hA := alN_lt hl
  have key : ∀ a b : Nat, a < dN l → b < dN l → leR (dC l a) (dC l (bs z q)) → leR (dC l b) (dC l (bs z q)) → Q = pbN (alN l) (inN l (dC l a)) (inN l (dC l b)) → odP l Q ∧ ∀ M, MX l Q M → leR M (dC l (bs z q)) := fun a b ha hb2 la lb e => by
    obtain ⟨e1, e2, e3, e4⟩ := pbN_ok hA hv.1 e
    have sub : ∀ k, Q.testBit k = true → (alN l).testBit k = true := fun k hk => by
      rw [alN_bit]
      exact decide_eq_true ((inN_bit l _ k).mp (e4 k hk)).1
    have le := sub_le sub
    refine ⟨⟨by rw [e1]; exact (yN_bit hA 0).mpr (Or.inr rfl), by omega⟩, fun M hM => ?_⟩
    obtain ⟨C1, C2, h1, h2, h3, _, _⟩ := hM
    have pq := dC_pos hb (bs_at h hq).2
    have m1 : leR C1 (dC l a) := leR_min h1 (dC_pos hb ha) (fun k hk => ((inN_bit l _ k).mp (e4 k hk.2)).2)
    have m2 : leR C2 (dC l b) := leR_min h2 (dC_pos hb hb2) (fun k hk => by
      have r := (rest_bit hl k).mp hk.2
      cases w : (inN l (dC l b)).testBit k with
      | true => exact ((inN_bit l _ k).mp w).2
      | false =>
        exfalso
        have : Q.testBit k = true := by
          rw [e1]
          exact (yN_bit hA k).mpr (Or.inl ⟨by rw [alN_bit]; exact decide_eq_true r.1, w⟩)
        rw [r.2] at this
        exact absurd this (by decide))
    rcases h3 with e | e
    · rw [e]
      exact leR_tr h1.1 (dC_pos hb ha) pq m1 la
    · rw [e]
      exact leR_tr h2.1 (dC_pos hb hb2) pq m2 lb
  have aq := (bs_at h hq).2
  have ar := (bs_at h (show r < dN l by omega)).2
  have lr := bs_le hb h (show r ≤ q by omega) hq
  rcases hv.2 with e | e
  · exact key _ _ aq ar (Int.le_refl _) lr e
  · exact key _ _ ar aq lr (Int.le_refl _) e
theorem c1_in {l : List Spt} (hs : sorL l) {i k : Nat} (hi : i < l.length) (hk : k < l.length) (h : pw (c1 (lX l) (lY l) i) (lX l k) (lY l k) ≤ 0) : k = i := by
  rw [pw_c1] at h
  have b := sq2_0 h
  by_cases e : k = i
  · exact e
  · have d := dif_sor hs k i hk hi e
    omega
/-- every part has two discs that allow one at most as great -/
theorem part_A {z : tZ2} {l : List Spt} (hs : sorL l) (hb : bdL l) (hl : l.length ≤ 12) (h2 : 2 ≤ l.length) (h : DQ z l) {P : Nat} (hP : odP l P) {M : Cir} (hM : MX l P M) : ∃ q r Q, r < q ∧ q < dN l ∧ vld z l q r Q ∧ Q ≤ P ∧ leR (dC l (bs z q)) M := by
  have hA := alN_lt hl
  have mpos := MX_pos hM
  obtain ⟨C1, C2, h1, h2', h3, h4, h5⟩ := hM
  obtain ⟨x, hx, hx2⟩ := odP_rest hl hP
  obtain ⟨D1, hD1⟩ := mec_ex (M := fun q => P.testBit q = true) (dif_sor hs) l.length (Nat.le_refl _) ⟨0, odP_sub hP 0 hP.1, hP.1⟩
  obtain ⟨D2, hD2⟩ := mec_ex (M := fun q => (anN (alN l) P).testBit q = true) (dif_sor hs) l.length (Nat.le_refl _) ⟨x, hx, (rest_bit hl x).mpr ⟨hx, hx2⟩⟩
  have k1 := leR_P (mecOf_only (mecOf_in0 hD1) h1)
  have k2 := leR_P (mecOf_only (mecOf_in0 hD2) h2')
  have l1 : leR D1 M := leR_tr hD1.1 h1.1 mpos k1.1 h4
  have l2 : leR D2 M := leR_tr hD2.1 h2'.1 mpos k2.1 h5
  obtain ⟨a, ha, ea⟩ := (oc_d1 l.length).mpr (in0_isD hD1)
  obtain ⟨b, hb2, eb⟩ := (oc_d1 l.length).mpr (in0_isD hD2)
  have ea' : dC l a = D1 := ea
  have eb' : dC l b = D2 := eb
  obtain ⟨pa, hpa, ba⟩ := bs_ex h (show a < dN l from ha)
  obtain ⟨pb, hpb, bb⟩ := bs_ex h (show b < dN l from hb2)
  have inA : ∀ k, P.testBit k = true → (sIn z l pa).testBit k = true := fun k hk => by
    unfold sIn
    rw [ba, ea']
    exact (inN_bit l _ k).mpr ⟨odP_sub hP k hk, hD1.2.1 k ⟨odP_sub hP k hk, hk⟩⟩
  have inB : ∀ k, k < l.length → P.testBit k = false → (sIn z l pb).testBit k = true := fun k hk hk2 => by
    unfold sIn
    rw [bb, eb']
    exact (inN_bit l _ k).mpr ⟨hk, hD2.2.1 k ⟨hk, (rest_bit hl k).mpr ⟨hk, hk2⟩⟩⟩
  have mk : ∀ p1 p2, p1 < dN l → p2 < dN l → p1 ≠ p2 → leR (dC l (bs z p1)) M → leR (dC l (bs z p2)) M → (pbN (alN l) (sIn z l p1) (sIn z l p2) ≠ 0 ∧ pbN (alN l) (sIn z l p1) (sIn z l p2) ≤ P) → ∃ q r Q, r < q ∧ q < dN l ∧ vld z l q r Q ∧ Q ≤ P ∧ leR (dC l (bs z q)) M := fun p1 p2 g1 g2 ne m1 m2 g => by
    by_cases w : p2 < p1
    · exact ⟨p1, p2, _, w, g1, ⟨g.1, Or.inl rfl⟩, g.2, m1⟩
    · exact ⟨p2, p1, _, by omega, g2, ⟨g.1, Or.inr rfl⟩, g.2, m2⟩
  by_cases e : pa = pb
  · -- one disc about all
    have allIn : ∀ k, k < l.length → (sIn z l pa).testBit k = true := fun k hk => by
      cases w : P.testBit k with
      | true => exact inA k w
      | false => rw [e]; exact inB k hk w
    obtain ⟨c, hc, ec⟩ := (oc_d1 l.length).mpr (show isD l l.length (c1 (lX l) (lY l) 0) from ⟨0, by omega, Or.inl rfl⟩)
    have ec' : dC l c = c1 (lX l) (lY l) 0 := ec
    obtain ⟨pc, hpc, bc2⟩ := bs_ex h (show c < dN l from hc)
    have ne : pc ≠ pa := fun w => by
      have := allIn 1 (by omega)
      rw [← w] at this
      unfold sIn at this
      rw [bc2, ec'] at this
      have := c1_in hs (i := 0) (k := 1) (by omega) (by omega) ((inN_bit l _ 1).mp this).2
      omega
    have y1 : yN (alN l) (sIn z l pa) = 1 := Nat.eq_of_testBit_eq (fun k => by
      rw [Bool.eq_iff_iff, yN_bit hA, show (1 : Nat).testBit k = decide (k = 0) from by
        rw [show (1 : Nat) = 2 ^ 0 from rfl, Nat.testBit_two_pow]
        rw [decide_eq_decide]
        omega, decide_eq_true_iff]
      constructor
      · rintro (⟨w1, w2⟩ | w)
        · rw [alN_bit] at w1
          rw [allIn k (of_decide_eq_true w1)] at w2
          exact absurd w2 (by decide)
        · exact w
      · exact fun w => Or.inr w)
    have one : 1 < alN l := by
      have : 2 ^ 2 ≤ 2 ^ l.length := Nat.pow_le_pow_right (by decide) h2
      unfold alN
      omega
    have c0 : (sIn z l pc).testBit 0 = true := by
      unfold sIn
      rw [bc2, ec']
      exact (inN_bit l _ 0).mpr ⟨by omega, by rw [c1_on]; exact Int.le_refl _⟩
    have pb1 : pbN (alN l) (sIn z l pc) (sIn z l pa) = 1 := by
      have := (pbN_of (A := alN l) (a := sIn z l pc) (b := sIn z l pa) (P := 1) hA (fun k hk => by rw [y1] at hk; exact hk) (fun k hk => by
        rw [show (1 : Nat).testBit k = decide (k = 0) from by
          rw [show (1 : Nat) = 2 ^ 0 from rfl, Nat.testBit_two_pow]
          rw [decide_eq_decide]
          omega] at hk
        rw [of_decide_eq_true hk]
        exact c0) one).1
      rw [this, y1]
    have P1 : 1 ≤ P := by
      by_cases w : P = 0
      · have := hP.1
        rw [w, Nat.zero_testBit] at this
        exact absurd this (by decide)
      · omega
    refine mk pc pa hpc hpa ne ?_ ?_ (by rw [pb1]; exact ⟨by decide, P1⟩)
    · rw [bc2, ec']
      have r0 : rN (c1 (lX l) (lY l) 0) = 0 := by
        unfold c1
        rw [rN_cB]
        rfl
      show rN (c1 (lX l) (lY l) 0) * (M.2.2.2 * M.2.2.2) ≤ _
      rw [r0, Int.zero_mul]
      have rM : 0 ≤ rN M := by
        have p : leR D1 M := l1
        have d1 := bdC_k (isD_bd hb (Nat.le_refl _) (in0_isD hD1))
        have x1 := Int.mul_nonneg d1.2.1 (Int.le_of_lt (Int.mul_pos mpos mpos))
        have x2 : 0 ≤ rN M * (D1.2.2.2 * D1.2.2.2) := Int.le_trans x1 p
        rw [Int.mul_comm] at x2
        exact nn_of_mul d1.2.2.2.1 x2
      have : (c1 (lX l) (lY l) 0).2.2.2 = 1 := rfl
      rw [this]
      omega
    · rw [ba, ea']
      exact l1
  · refine mk pa pb hpa hpb e (by rw [ba, ea']; exact l1) (by rw [bb, eb']; exact l2) ?_
    have o := pbN_of (A := alN l) (a := sIn z l pa) (b := sIn z l pb) (P := P) hA (fun k hk => by
      rcases (yN_bit hA k).mp hk with ⟨w1, w2⟩ | w
      · rw [alN_bit] at w1
        cases q : P.testBit k with
        | true => rfl
        | false =>
          rw [inB k (of_decide_eq_true w1) q] at w2
          exact absurd w2 (by decide)
      · rw [w]
        exact hP.1) inA hP.2
    rw [o.1]
    exact ⟨yN_pos hA, o.2⟩
/-- what the class finds is the best part -/
theorem part_win {z : tZ2} {l : List Spt} (hs : sorL l) (hb : bdL l) (hl : l.length ≤ 12) (h2 : 2 ≤ l.length) (h : DQ z l) {g0 pe P : Nat} (hg : g0 < pe) (hpe : pe ≤ dN l) (hP : P ≠ 0) (hm : MinV (WV z l pe) P) (hno : ∀ Q, ¬ WV z l g0 Q) (hin : ∀ q, g0 ≤ q → q < pe → leR (dC l (bs z q)) (dC l (bs z g0))) (hout : ∀ q, pe ≤ q → q < dN l → ¬ leR (dC l (bs z q)) (dC l (bs z g0))) :
    TW l P ∧ ∀ C, MX l P C → leR C (dC l (bs z g0)) ∧ leR (dC l (bs z g0)) C := by
  have pg := dC_pos hb (bs_at h (show g0 < dN l by omega)).2
  obtain ⟨_, ⟨q0, r0, hr, hq, hv⟩, hmin⟩ := hm.resolve_left (fun w => hP w.1)
  have hq0 : g0 ≤ q0 := by
    by_cases w : q0 < g0
    · exact absurd ⟨q0, r0, hr, w, hv⟩ (hno P)
    · omega
  have B := part_B hs hb hl h hr (show q0 < dN l by omega) hv
  have up : ∀ C, MX l P C → leR C (dC l (bs z g0)) := fun C hC => leR_tr (MX_pos hC) (dC_pos hb (bs_at h (show q0 < dN l by omega)).2) pg (B.2 C hC) (hin q0 hq0 hq)
  have lowr : ∀ Q, odP l Q → ∀ D, MX l Q D → leR (dC l (bs z g0)) D := fun Q hQ D hD => by
    obtain ⟨q, r, R, a1, a2, a3, a4, a5⟩ := part_A hs hb hl h2 h hQ hD
    have hq2 : g0 ≤ q := by
      by_cases w : q < g0
      · exact absurd ⟨q, r, a1, w, a3⟩ (hno R)
      · omega
    exact leR_tr pg (dC_pos hb (bs_at h a2).2) (MX_pos hD) (bs_le hb h hq2 a2) a5
  refine ⟨⟨B.1, fun C hC Q hQ D hD => ⟨leR_tr (MX_pos hC) pg (MX_pos hD) (up C hC) (lowr Q hQ D hD), fun w => ?_⟩⟩, fun C hC => ⟨up C hC, lowr P B.1 C hC⟩⟩
  obtain ⟨q, r, R, a1, a2, a3, a4, a5⟩ := part_A hs hb hl h2 h hQ hD
  have lq : leR (dC l (bs z q)) (dC l (bs z g0)) := leR_tr (dC_pos hb (bs_at h a2).2) (MX_pos hD) pg a5 (leR_tr (MX_pos hD) (MX_pos hC) pg w (up C hC))
  have hqp : q < pe := by
    by_cases w2 : q < pe
    · exact w2
    · exact absurd lq (hout q (by omega) a2)
  have := hmin R ⟨q, r, a1, hqp, a3⟩
  omega
