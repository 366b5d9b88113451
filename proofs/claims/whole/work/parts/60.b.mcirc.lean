/-! ===== the model's CIRCLE ===== -/
theorem qm_against {a b c d : Int} (ha0 : 0 ≤ a) (ha : k64 a) (hb : 0 < b) (hb2 : k64 b) (hc0 : 0 ≤ c) (hc : k64 c) (hd : 0 < d) (hd2 : k64 d) : q_X12_against a b c d = some (sgc a b c d) := by
  refine w_eq ?_
  unfold q_X12_against
  refine w_kb (P := fun e => (e.1 = 39 ∧ (e.2.2.2.2.2.1 = 1 ∨ e.2.2.2.2.2.1 = -1) ∧ k64 e.2.2.2.2.2.2.1 ∧ k64 e.2.2.2.2.2.2.2 ∧ e.2.2.2.2.2.2.1 ≠ e.2.2.2.2.2.2.2 ∧ sgc a b c d = if e.2.2.2.2.2.2.1 < e.2.2.2.2.2.2.2 then -e.2.2.2.2.2.1 else e.2.2.2.2.2.1) ∨
      (e.1 = 90 ∧ k64 e.2.1 ∧ k64 e.2.2.2.1 ∧ (e.2.1 = 0 ∨ e.2.2.2.1 = 0) ∧ sgc a b c d = if e.2.1 = e.2.2.2.1 then 0 else if e.2.1 = 0 then -e.2.2.2.2.2.1 else e.2.2.2.2.2.1)) ?_ (fun e h => ?_)
  · refine w_loop (fun n s => ∃ t, hv n t s.1 s.2.1 ∧ 0 ≤ s.1 ∧ s.1 < 9223372036854775808 ∧ 0 < s.2.1 ∧ s.2.1 < 9223372036854775808 ∧ 0 ≤ s.2.2.1 ∧ s.2.2.1 < 9223372036854775808 ∧ 0 < s.2.2.2.1 ∧ s.2.2.2.1 < 9223372036854775808 ∧ (0 < t → s.2.1 ≤ s.1) ∧ (s.2.2.2.2.1 = 1 ∨ s.2.2.2.2.1 = -1) ∧ s.2.2.2.2.1 * sgc s.1 s.2.1 s.2.2.1 s.2.2.2.1 = sgc a b c d) ?_ kF 200 _ (by decide)
      ⟨0, hv_start ha.2 hb2.2, ha0, ha.2, hb, hb2.2, hc0, hc.2, hd, hd2.2, by omega, Or.inl rfl, by dsimp only; rw [Int.one_mul]⟩
    rintro n ⟨x, y, z, w, g, o1, o2⟩ ⟨t, h1, h3, h4, h5, h6, h7, h8, h9, h10, h11, h12, h13⟩
    dsimp only at *
    have ht := hv_lt h1
    unfold q_X12_against_L17
    simp only [kwp_kg, kwp_kif, kwp_some, kwp_kl]
    rw [Int.tdiv_eq_ediv_of_nonneg h3, Int.tdiv_eq_ediv_of_nonneg h7]
    have e1 := Int.emod_add_mul_ediv x y
    have e2 := Int.emod_add_mul_ediv z w
    have f1 : x - x / y * y = x % y := by rw [Int.mul_comm]; omega
    have f2 : z - z / w * w = z % w := by rw [Int.mul_comm]; omega
    rw [f1, f2]
    have m0 := Int.emod_nonneg x (show y ≠ 0 by omega)
    have m1 := Int.emod_lt_of_pos x h5
    have n0 := Int.emod_nonneg z (show w ≠ 0 by omega)
    have n1 := Int.emod_lt_of_pos z h9
    have p0 := Int.ediv_nonneg h3 (Int.le_of_lt h5)
    have p1 := Int.ediv_le_self y h3
    have r0 := Int.ediv_nonneg h7 (Int.le_of_lt h9)
    have r1 := Int.ediv_le_self w h7
    refine ⟨⟨by omega, by omega⟩, by omega, ⟨by omega, by omega⟩, ⟨by omega, by omega⟩, by omega, ⟨by omega, by omega⟩, ⟨⟨by omega, by omega⟩, ⟨by omega, by omega⟩⟩, fun hq => ⟨⟨by omega, by omega⟩, fun h0 => ?_, fun h0 => ⟨⟨by omega, by omega⟩, fun g0 => ?_, fun g0 => ?_⟩⟩, fun hq => ?_⟩
    · right
      refine ⟨by decide, Or.inr ⟨by trivial, ⟨by omega, by omega⟩, ⟨by omega, by omega⟩, Or.inl h0, ?_⟩⟩
      have hl := sgc_left hq
      rw [h0, Int.zero_mul] at hl
      rw [← h13, h0]
      unfold sgc
      by_cases hz : z % w = 0
      · rw [hz, Int.zero_mul] at hl
        rw [hz, if_neg (by omega), if_pos (by omega), if_pos rfl, Int.mul_zero]
      · have hp := Int.mul_pos (show 0 < z % w by omega) h5
        rw [if_pos (by omega), if_neg (show ¬ (0 : Int) = z % w by omega), if_pos rfl]
        rcases h12 with q | q <;> rw [q] <;> rfl
    · right
      refine ⟨by decide, Or.inr ⟨by trivial, ⟨by omega, by omega⟩, ⟨by omega, by omega⟩, Or.inr g0, ?_⟩⟩
      have hl := sgc_left hq
      rw [g0, Int.zero_mul] at hl
      rw [← h13, g0]
      unfold sgc
      have hp := Int.mul_pos (show 0 < x % y by omega) h9
      rw [if_neg (show ¬ x * w < z * y by omega), if_neg (show ¬ x * w = z * y by omega), if_neg h0, if_neg h0, Int.mul_one]
    · left
      refine ⟨by trivial, n - 1, by omega, t + 1, hv_step h1 m1 h6 (fun q => half_mod h5 (h11 q)) m0, by omega, by omega, by omega, by omega, by omega, by omega, by omega, by omega, fun _ => by omega, by omega, ?_⟩
      have hl := sgc_left hq
      rw [← h13]
      unfold sgc
      rw [Int.mul_comm y (z % w), Int.mul_comm w (x % y)]
      by_cases q1 : x * w < z * y
      · rw [if_pos q1, if_neg (show ¬ z % w * y < x % y * w by omega), if_neg (show ¬ z % w * y = x % y * w by omega)]
        omega
      · rw [if_neg q1]
        by_cases q2 : x * w = z * y
        · rw [if_pos q2, if_neg (show ¬ z % w * y < x % y * w by omega), if_pos (show z % w * y = x % y * w by omega)]
          omega
        · rw [if_neg q2, if_pos (show z % w * y < x % y * w by omega)]
          omega
    · right
      refine ⟨by decide, Or.inl ⟨by trivial, h12, ⟨by omega, by omega⟩, ⟨by omega, by omega⟩, hq, ?_⟩⟩
      rw [← h13]
      unfold sgc
      by_cases q1 : x / y < z / w
      · rw [if_pos q1, if_pos (sgc_whole h5 h9 q1)]
        omega
      · have hw := sgc_whole (a := z) (b := w) (c := x) (d := y) h9 h5 (by omega)
        rw [if_neg q1, if_neg (show ¬ x * w < z * y by omega), if_neg (show ¬ x * w = z * y by omega)]
        omega
  · obtain ⟨lb, x1, x2, x3, x4, x5, x6, x7⟩ := e
    dsimp only at *
    rcases h with ⟨rfl, h1, h2, h3, h4, h5⟩ | ⟨rfl, h1, h2, h3, h4⟩
    · simp only [kwp_kg, kwp_kif, kwp_some]
      refine ⟨fun _ => ⟨⟨h2, h3⟩, fun q => ?_, fun q => ?_⟩, fun q => (q (by trivial)).elim⟩
      · rw [h5, if_neg (by omega)]
      · rw [h5, if_pos (by omega)]
    · simp only [kwp_kg, kwp_kif]
      refine ⟨fun q => absurd q (by decide), fun _ => ⟨by trivial, ?_⟩⟩
      unfold q_X12_against_J90
      simp only [kwp_kg, kwp_kif, kwp_some]
      refine ⟨⟨h1, h2⟩, fun q => ?_, fun q => ⟨fun q2 => ?_, fun q2 => ?_⟩⟩
      · rw [h4, if_pos q]
      · rw [h4, if_neg q, if_pos q2]
      · rw [h4, if_neg q, if_neg q2]
/-- the square of the radius, over s² -/
def rN (C : Cir) : Int := C.1 * C.1 + C.2.1 * C.2.1 - C.2.2.1 * C.2.2.2
theorem rN_cB (bx bz wx wz s : Int) : rN (cB bx bz wx wz s) = wx * wx + wz * wz := by
  unfold rN cB
  dsimp only
  grind
theorem rN_cE (C D : Cir) : D.2.2.2 * cE C D = C.2.2.2 * cE D C + 2 * (rN C * (D.2.2.2 * D.2.2.2) - rN D * (C.2.2.2 * C.2.2.2)) := by
  unfold rN cE
  grind
theorem rN_P {C D : Cir} (h : cP C D) : rN C * (D.2.2.2 * D.2.2.2) = rN D * (C.2.2.2 * C.2.2.2) := by
  obtain ⟨h1, h2, h3⟩ := h
  unfold rN
  grind
def BM (bx bz s wx wz : Int) : Prop := bx.natAbs ≤ 160 ∧ bz.natAbs ≤ 160 ∧ 0 < s ∧ s ≤ 409600 ∧ wx.natAbs ≤ 131072000 ∧ wz.natAbs ≤ 131072000
theorem rN_bd {bx bz s wx wz : Int} (h : BM bx bz s wx wz) : 0 ≤ rN (cB bx bz wx wz s) ∧ k63 (rN (cB bx bz wx wz s)) ∧ 0 < s * s ∧ k63 (s * s) := by
  obtain ⟨b1, b2, b3, b4, b5, b6⟩ := h
  rw [rN_cB]
  have h1 := sq_nn wx
  have h2 := sq_nn wz
  have h3 := ab_mul b5 b5
  have h4 := ab_mul b6 b6
  have h5 := ab_mul (a := s) (b := s) (A := 409600) (B := 409600) (by omega) (by omega)
  have h6 := Int.mul_pos b3 b3
  exact ⟨by omega, ⟨by omega, by omega⟩, h6, ⟨by omega, by omega⟩⟩
/-- the circle that lies in the model's fields from o on -/
def MCs (J : Nat → Int) (o : Nat) (C : Cir) : Prop :=
  C = cB (J o) (J (o + 1)) (J (o + 2)) (J (o + 3)) (J (o + 4)) ∧ J (o + 5) = fN (rN C) (C.2.2.2 * C.2.2.2) ∧ J (o + 6) = fD (rN C) (C.2.2.2 * C.2.2.2) ∧ BM (J o) (J (o + 1)) (J (o + 4)) (J (o + 2)) (J (o + 3))
theorem MCs_bd {J : Nat → Int} {o : Nat} {C : Cir} (h : MCs J o C) : 0 < C.2.2.2 ∧ 0 ≤ rN C ∧ k63 (rN C) ∧ 0 < C.2.2.2 * C.2.2.2 ∧ k63 (C.2.2.2 * C.2.2.2) := by
  obtain ⟨h1, h2, h3, h4⟩ := h
  have := rN_bd h4
  rw [h1]
  exact ⟨h4.2.2.1, this⟩
/-- nothing but the long fields has changed -/
def FC (m m' : tZ12) : Prop := m'.1 = m.1 ∧ m'.2.2 = m.2.2
theorem FC_rfl (m : tZ12) : FC m m := ⟨rfl, rfl⟩
theorem FC_trans {a b c : tZ12} (h : FC a b) (g : FC b c) : FC a c := ⟨g.1.trans h.1, g.2.trans h.2⟩
theorem FC_q {m m' : tZ12} (h : FC m m') : FQ m m' := ⟨fun _ _ => by rw [h.1], by rw [h.1], fun _ _ => by rw [h.2], by rw [h.2]⟩
theorem SPm_fc {m m' : tZ12} {l : List Spt} (h : FC m m') (H : SPm m l) : SPm m' l := by
  unfold SPm at *
  rw [h.1, h.2]
  exact H
theorem ds_sym (X Y : Nat → Int) (i j : Nat) : ds X Y i j = ds X Y j i := by
  unfold ds
  grind
theorem ds_bd {l : List Spt} (hb : bdL l) {i j : Nat} (hi : i < l.length) (hj : j < l.length) : 0 ≤ ds (lX l) (lY l) i j ∧ ds (lX l) (lY l) i j ≤ 204800 := by
  have h1 := bX hb hi
  have h2 := bX hb hj
  have d1 : (lX l j - lX l i).natAbs ≤ 320 := by omega
  have d2 : (lY l j - lY l i).natAbs ≤ 320 := by omega
  have a1 := ab_mul d1 d1
  have a2 := ab_mul d2 d2
  have a3 := sq_nn (lX l j - lX l i)
  have a4 := sq_nn (lY l j - lY l i)
  unfold ds
  omega
theorem qm_apart {m : tZ12} {l : List Spt} (H : SPm m l) (hb : bdL l) {i j : Nat} (hi : i < l.length) (hj : j < l.length) : q_X12_apart m (i : Int) (j : Int) = some (ds (lX l) (lY l) i j) := by
  refine w_eq ?_
  obtain ⟨h1, h2, h3⟩ := H
  have b1 := bX hb hi
  have b2 := bX hb hj
  unfold q_X12_apart
  simp only [kwp_kg, kwp_some, Int.toNat_natCast]
  rw [(h3 i hi).1, (h3 i hi).2.1, (h3 j hj).1, (h3 j hj).2.1, ds_sym]
  unfold lX lY at b1 b2
  exact ⟨⟨by omega, by omega⟩, ⟨by omega, by omega⟩, ⟨⟨by omega, by omega⟩, ⟨by omega, by omega⟩⟩, rfl⟩
theorem qm_turn {m : tZ12} {l : List Spt} (H : SPm m l) (hb : bdL l) {i j k : Nat} (hi : i < l.length) (hj : j < l.length) (hk : k < l.length) : q_X12_turn m (i : Int) (j : Int) (k : Int) = some (tn (lX l) (lY l) i j k) := by
  refine w_eq ?_
  obtain ⟨h1, h2, h3⟩ := H
  have b1 := bX hb hi
  have b2 := bX hb hj
  have b3 := bX hb hk
  unfold q_X12_turn
  simp only [kwp_kg, kwp_some, Int.toNat_natCast]
  rw [(h3 i hi).1, (h3 i hi).2.1, (h3 j hj).1, (h3 j hj).2.1, (h3 k hk).1, (h3 k hk).2.1]
  unfold lX lY at b1 b2 b3
  refine ⟨⟨by omega, by omega⟩, ⟨by omega, by omega⟩, ⟨by omega, by omega⟩, ?_⟩
  repeat' (first | refine And.intro ?_ ?_)
  all_goals first | omega | rfl
def isC (m m' : tZ12) (C : Cir) : Prop := FC m m' ∧ (∀ j, ¬ (16 ≤ j ∧ j < 23) → m'.2.1 j = m.2.1 j) ∧ MCs m'.2.1 16 C
theorem qm_one {m : tZ12} {l : List Spt} (H : SPm m l) (hb : bdL l) {i : Nat} (hi : i < l.length) : kwp (q_X12_one m (i : Int)) (fun m' => isC m m' (c1 (lX l) (lY l) i)) := by
  obtain ⟨h1, h2, h3⟩ := H
  have b1 := bX hb hi
  unfold q_X12_one
  simp only [kwp_kg, kwp_some, kwp_kl, Int.toNat_natCast]
  rw [(h3 i hi).1, (h3 i hi).2.1]
  have e1 : (g8 l i).1 = lX l i := rfl
  have e2 : (g8 l i).2.1 = lY l i := rfl
  rw [e1, e2]
  refine ⟨⟨by omega, by omega⟩, ⟨by omega, by omega⟩, ⟨by omega, by omega⟩, ⟨rfl, rfl⟩, fun j hj => ?_, ?_⟩
  · simp (disch := omega) only [va_ne]
  · unfold MCs c1
    simp (disch := decide) only [va_same, va_ne]
    rw [rN_cB]
    exact ⟨(by first | exact trivial | rfl), by show (0 : Int) = fN (0 * 0 + 0 * 0) (1 * 1); decide, by show (1 : Int) = fD (0 * 0 + 0 * 0) (1 * 1); decide, b1.1, b1.2, by decide, by decide, by decide, by decide⟩
theorem qm_pair {m : tZ12} {l : List Spt} (H : SPm m l) (hb : bdL l) {i j : Nat} (hi : i < l.length) (hj : j < l.length) : kwp (q_X12_pair m (i : Int) (j : Int)) (fun m' => isC m m' (c2 (lX l) (lY l) i j)) := by
  have H0 := H
  obtain ⟨h1, h2, h3⟩ := H
  have b1 := bX hb hi
  have b2 := bX hb hj
  have hd := ds_bd hb hi hj
  unfold q_X12_pair
  simp only [kwp_kg, kwp_kl, kwp_kb, Int.toNat_natCast]
  rw [(h3 i hi).1, (h3 i hi).2.1, (h3 j hj).1, (h3 j hj).2.1]
  have e1 : (g8 l i).1 = lX l i := rfl
  have e2 : (g8 l i).2.1 = lY l i := rfl
  have e3 : (g8 l j).1 = lX l j := rfl
  have e4 : (g8 l j).2.1 = lY l j := rfl
  rw [e1, e2, e3, e4]
  refine ⟨⟨by omega, by omega⟩, ⟨by omega, by omega⟩, ⟨by omega, by omega⟩, ⟨by omega, by omega⟩, ⟨by omega, by omega⟩, ⟨by omega, by omega⟩, ?_⟩
  refine w_of (qm_apart (l := l) (SPm_fc (m := m) ⟨rfl, rfl⟩ H0) hb hi hj) (w_of (qm_above ⟨by omega, by omega⟩ (by decide) (by decide)) (w_of (qm_below ⟨by omega, by omega⟩ (by decide) (by decide)) ?_))
  rw [kwp_some]
  refine ⟨⟨rfl, rfl⟩, fun t ht => ?_, ?_⟩
  · simp (disch := omega) only [va_ne]
  · unfold MCs c2
    simp (disch := decide) only [va_same, va_ne]
    rw [rN_cB]
    refine ⟨(by first | exact trivial | rfl), (by first | exact trivial | rfl), (by first | exact trivial | rfl), b1.1, b1.2, by decide, by decide, by omega, by omega⟩
theorem qm_triple {m : tZ12} {l : List Spt} (H : SPm m l) (hb : bdL l) {i j k : Nat} (hi : i < l.length) (hj : j < l.length) (hk : k < l.length) :
    kwp (q_X12_isTriple m (i : Int) (j : Int) (k : Int)) (fun r => (tn (lX l) (lY l) i j k = 0 ∧ r = (false, m)) ∨ (tn (lX l) (lY l) i j k ≠ 0 ∧ r.1 = true ∧ isC m r.2 (c3 (lX l) (lY l) i j k))) := by
  have H0 := H
  obtain ⟨h1, h2, h3⟩ := H
  have b1 := bX hb hi
  have b2 := bX hb hj
  have b3 := bX hb hk
  obtain ⟨t1, t2, t3, t4, t5, t6, t7⟩ := tri_bd hb hi hj hk
  unfold q_X12_isTriple
  refine w_kbe (qm_turn H0 hb hi hj hk) ?_
  simp only [kwp_kg, kwp_kl, kwp_kif, kwp_some, Int.toNat_natCast]
  rw [(h3 i hi).1, (h3 i hi).2.1, (h3 j hj).1, (h3 j hj).2.1, (h3 k hk).1, (h3 k hk).2.1]
  have e1 : (g8 l i).1 = lX l i := rfl
  have e2 : (g8 l i).2.1 = lY l i := rfl
  have e3 : (g8 l j).1 = lX l j := rfl
  have e4 : (g8 l j).2.1 = lY l j := rfl
  have e5 : (g8 l k).1 = lX l k := rfl
  have e6 : (g8 l k).2.1 = lY l k := rfl
  rw [e1, e2, e3, e4, e5, e6]
  have ed1 : (lX l j - lX l i) * (lX l j - lX l i) + (lY l j - lY l i) * (lY l j - lY l i) = ds (lX l) (lY l) i j := rfl
  have ed2 : (lX l k - lX l i) * (lX l k - lX l i) + (lY l k - lY l i) * (lY l k - lY l i) = ds (lX l) (lY l) i k := rfl
  rw [ed1, ed2]
  have key : ∀ g : Int, g = sg (tn (lX l) (lY l) i j k) → tn (lX l) (lY l) i j k ≠ 0 →
      kwp (q_X12_isTriple_J122 (i : Int) (j : Int) (k : Int) m (tn (lX l) (lY l) i j k) (lX l j - lX l i) (lY l j - lY l i) (lX l k - lX l i) (lY l k - lY l i) (ds (lX l) (lY l) i j) (ds (lX l) (lY l) i k) g) (fun r => (tn (lX l) (lY l) i j k = 0 ∧ r = (false, m)) ∨ (tn (lX l) (lY l) i j k ≠ 0 ∧ r.1 = true ∧ isC m r.2 (c3 (lX l) (lY l) i j k))) := by
    intro g hg ht
    have hjk := ds_bd hb hj hk
    have d1 := ds_bd hb hi hj
    have d2 := ds_bd hb hi hk
    have n1 := ab_mul t2 t3
    have n2 := ab_mul n1 (show (ds (lX l) (lY l) j k).natAbs ≤ 204800 by omega)
    have n3 := ab_mul t1 t1
    have np : 0 < tn (lX l) (lY l) i j k * tn (lX l) (lY l) i j k := by
      have := sq_nn (tn (lX l) (lY l) i j k)
      have h0 : tn (lX l) (lY l) i j k * tn (lX l) (lY l) i j k ≠ 0 := fun e => by
        rcases Int.mul_eq_zero.mp e with h | h <;> exact ht h
      omega
    unfold q_X12_isTriple_J122
    simp only [kwp_kg, kwp_kl, kwp_kb, Int.toNat_natCast]
    rw [(h3 i hi).1, (h3 i hi).2.1, e1, e2]
    refine ⟨⟨by omega, by omega⟩, ⟨by omega, by omega⟩, ⟨by omega, by omega⟩, ?_⟩
    have f4 : 4 * tn (lX l) (lY l) i j k * tn (lX l) (lY l) i j k = 4 * (tn (lX l) (lY l) i j k * tn (lX l) (lY l) i j k) := Int.mul_assoc _ _ _
    rw [f4]
    refine w_of (qm_apart (l := l) (SPm_fc (m := m) ⟨rfl, rfl⟩ H0) hb hj hk) (w_of (qm_above ⟨by omega, by omega⟩ (by omega) ⟨by omega, by omega⟩) (w_of (qm_below ⟨by omega, by omega⟩ (by omega) ⟨by omega, by omega⟩) ?_))
    rw [kwp_some]
    refine Or.inr ⟨ht, (by first | exact trivial | rfl), ⟨rfl, rfl⟩, fun t ht => ?_, ?_⟩
    · simp (disch := omega) only [va_ne]
    · have hw1 := way_bd t7 t2 t5 t3 (sg_bd (tn (lX l) (lY l) i j k))
      have hw2 := way_bd t4 t3 t6 t2 (sg_bd (tn (lX l) (lY l) i j k))
      have hp := sg_mul ht
      have hm := ab_mul (sg_bd (tn (lX l) (lY l) i j k)) t1
      have hsq := sg_sq (tn (lX l) (lY l) i j k)
      have er : rN (c3 (lX l) (lY l) i j k) = ds (lX l) (lY l) i j * ds (lX l) (lY l) i k * ds (lX l) (lY l) j k := by
        unfold c3
        rw [rN_cB]
        unfold ds
        grind
      have es : (c3 (lX l) (lY l) i j k).2.2.2 * (c3 (lX l) (lY l) i j k).2.2.2 = 4 * (tn (lX l) (lY l) i j k * tn (lX l) (lY l) i j k) := by
        show (2 * sg (tn (lX l) (lY l) i j k) * tn (lX l) (lY l) i j k) * (2 * sg (tn (lX l) (lY l) i j k) * tn (lX l) (lY l) i j k) = _
        grind
      unfold MCs
      rw [er, es]
      simp (disch := decide) only [va_same, va_ne]
      have g1 : g * ((lY l k - lY l i) * ds (lX l) (lY l) i j - (lY l j - lY l i) * ds (lX l) (lY l) i k) = (lY l k - lY l i) * (g * ds (lX l) (lY l) i j) - (lY l j - lY l i) * (g * ds (lX l) (lY l) i k) := by grind
      have g2 : g * ((lX l j - lX l i) * ds (lX l) (lY l) i k - (lX l k - lX l i) * ds (lX l) (lY l) i j) = (lX l j - lX l i) * (g * ds (lX l) (lY l) i k) - (lX l k - lX l i) * (g * ds (lX l) (lY l) i j) := by grind
      have g3 : g * 2 * tn (lX l) (lY l) i j k = 2 * g * tn (lX l) (lY l) i j k := by grind
      rw [g1, g2, g3, hg]
      refine ⟨(by first | exact trivial | rfl), (by first | exact trivial | rfl), (by first | exact trivial | rfl), b1.1, b1.2, ?_, ?_, hw1, hw2⟩
      · rw [Int.mul_assoc]
        omega
      · rw [Int.mul_assoc]
        omega
  refine ⟨⟨by omega, by omega⟩, fun q => Or.inl ⟨q, (by first | exact trivial | rfl)⟩, fun q => ⟨⟨by omega, by omega⟩, ⟨by omega, by omega⟩, ⟨by omega, by omega⟩, ⟨by omega, by omega⟩, ⟨by omega, by omega⟩, ⟨by omega, by omega⟩, ⟨by omega, by omega⟩, fun q2 => key 1 (if_neg (by omega)).symm q, fun q2 => key (-1) (if_pos (by omega)).symm q⟩⟩
