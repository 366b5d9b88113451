/-! ===== the class's discs ===== -/
theorem zor_comm (x y : Int) : zor32 x y = zor32 y x := ext32 (k32_or _ _) (k32_or _ _) (fun k _ => by rw [tc_or, tc_or, Bool.or_comm])
theorem zor_bit {b i : Nat} (hi : i ≤ 12) (hb : b < 2 ^ i) : zor32 (b : Int) (zshl32 1 (zand32 (i : Int) 31)) = ((2 ^ i + b : Nat) : Int) := by
  have p : 2 ^ i ≤ 2 ^ 12 := Nat.pow_le_pow_right (by decide) hi
  have e := or_add (a := 1) (b := b) (s := i) (by omega) (by omega) hb
  rw [zor_comm]
  rw [Nat.one_mul] at e
  exact e
def DK (z : tZ2) (l : List Spt) (s : (Nat → Cir) × Nat) : Prop :=
  z.2.2.2.2.1 = (s.2 : Int) ∧ ∀ t, t < s.2 → z.1 t = rN (s.1 t) ∧ z.2.1 t = (s.1 t).2.2.2 * (s.1 t).2.2.2 ∧ z.2.2.1 t = (inF l (s.1 t) l.length : Int) ∧ z.2.2.2.1 t = (t : Int)
theorem q_addD {z : tZ2} {z0 : tZ0} {z8 : tZ8} {l : List Spt} {s : (Nat → Cir) × Nat} (H : SPc z8 l) (hb : bdL l) (hl : l.length ≤ 12) (hB : BC z0) (h : DK z l s) (hs : s.2 < 298) :
    kwp (q_X2_add z z0 z8) (fun z' => DK z' l (adF s (CZ z0)) ∧ z'.2.2.2.2.2 = z.2.2.2.2.2) := by
  obtain ⟨ab, be, wi, bs, n, al⟩ := z
  obtain ⟨h1, h2⟩ := h
  dsimp only at h1 h2
  subst h1
  unfold q_X2_add q_X0_sizeAbove q_X0_sizeBelow
  dsimp only
  simp only [kwp_kb, kwp_some, kwp_kg, kwp_kif, kwp_kl]
  refine ⟨⟨by omega, by omega⟩, fun _ => w_mono (w_for (ex := 55) (by decide) (fun i (x : Int × Int) => x.2 = (i : Int) ∧ x.1 = (inF l (CZ z0) i : Int)) l.length ?_ ?_ (Nat.zero_le _) (by have := kF_eq; omega) ⟨rfl, rfl⟩) ?_, fun q => by omega⟩
  · rintro i ⟨x, t⟩ hi ⟨g1, g2⟩
    dsimp only at g1 g2
    subst g1 g2
    have b := bX hb hi
    have lt := inF_lt l (CZ z0) i
    have e : inF l (CZ z0) (i + 1) = if pw (CZ z0) (lX l i) (lY l i) ≤ 0 then 2 ^ i + inF l (CZ z0) i else inF l (CZ z0) i := rfl
    have sd1 : sd (pw (CZ z0) (lX l i) (lY l i)) ≤ 0 ↔ pw (CZ z0) (lX l i) (lY l i) ≤ 0 := by
      unfold sd
      split
      · omega
      · split <;> omega
    unfold q_X2_add_L15
    dsimp only
    rw [q_sc H]
    simp only [kwp_kb, kwp_some, kwp_kg, kwp_kif, kwp_kl]
    rw [q_sx H hi, kwp_some, q_sy H hi, kwp_some, q_side hB (by omega) (by omega), kwp_some, e]
    refine ⟨⟨⟨by omega, by omega⟩, ⟨by omega, by omega⟩⟩, fun q => by omega, fun _ => ⟨sd_k _, fun q => ⟨by trivial, by omega, ?_⟩, fun q => ⟨by trivial, by omega, ?_⟩⟩⟩
    · rw [if_neg (fun w => by have := sd1.mpr w; omega)]
    · rw [if_pos (sd1.mp (by omega))]
      exact zor_bit (by omega) lt
  · rintro ⟨x, t⟩ ⟨g1, g2⟩
    dsimp only at g1 g2
    subst g1
    unfold q_X2_add_L15
    dsimp only
    rw [q_sc H]
    simp only [kwp_kb, kwp_some, kwp_kg, kwp_kif, kwp_kl]
    exact ⟨⟨⟨by omega, by omega⟩, ⟨by omega, by omega⟩⟩, fun _ => ⟨by trivial, by trivial, g2⟩, fun q => by omega⟩
  · rintro ⟨lb, x, t⟩ ⟨g0, _, g2⟩
    dsimp only at g0 g2 ⊢
    subst g2
    rw [Int.toNat_natCast]
    refine ⟨g0, ⟨by omega, by omega⟩, ⟨by omega, by omega⟩, ⟨by omega, by omega⟩, ⟨by omega, by omega⟩, ⟨?_, fun t ht => ?_⟩, by trivial⟩
    · show (s.2 : Int) + 1 = ((s.2 + 1 : Nat) : Int)
      omega
    · unfold adF at ht ⊢
      dsimp only at ht ⊢
      by_cases q : t = s.2
      · rw [q, va_same, va_same, va_same, va_same, va_same]
        refine ⟨?_, rfl, rfl, rfl⟩
        unfold CZ
        rw [rN_cB]
      · rw [va_ne _ _ q, va_ne _ _ q, va_ne _ _ q, va_ne _ _ q, va_ne _ _ q]
        exact h2 t (by omega)
theorem q_disc71 {z8 : tZ8} {l : List Spt} (H : SPc z8 l) (hb : bdL l) (hl : l.length ≤ 12) {i j : Nat} (hi : i < l.length) (hj : j < i) {s : (Nat → Cir) × Nat} (hs : ∀ k, k < j → s.2 + k < 298) {z : tZ2} {z0 : tZ0} (h : DK z l s) :
    kwp (kitr 71 (fun q => q_X2_about_L71 z8 (i : Int) (j : Int) q) kF ((0 : Int), z, z0)) (fun e => e.1 = 103 ∧ DK e.2.2.1 l (d3F l i j s j) ∧ e.2.2.1.2.2.2.2.2 = z.2.2.2.2.2) := by
  refine w_mono (w_for (ex := 103) (by decide) (fun k (x : Int × tZ2 × tZ0) => x.1 = (k : Int) ∧ DK x.2.1 l (d3F l i j s k) ∧ x.2.1.2.2.2.2.2 = z.2.2.2.2.2) j ?_ ?_ (Nat.zero_le _) (by have := kF_eq; omega) ⟨rfl, h, rfl⟩) (fun e g => ⟨g.1, g.2.2⟩)
  · rintro k ⟨x, w, w0⟩ hk ⟨g1, g2, g3⟩
    dsimp only at g1 g2 g3
    subst g1
    have d3 := d3_n l i j s k
    have hs2 := hs k hk
    have e : d3F l i j s (k + 1) = if tn (lX l) (lY l) i j k = 0 then d3F l i j s k else adF (d3F l i j s k) (c3 (lX l) (lY l) i j k) := rfl
    unfold q_X2_about_L71
    dsimp only
    rw [q_three H hb hi (show j < l.length by omega) (show k < l.length by omega)]
    simp only [kwp_kb, kwp_some, kwp_kg, kwp_kif, kwp_kl]
    by_cases z : tn (lX l) (lY l) i j k = 0
    · rw [if_pos z, e, if_pos z]
      exact ⟨⟨⟨by omega, by omega⟩, ⟨by omega, by omega⟩⟩, fun q => by omega, fun _ => ⟨fun _ => ⟨by trivial, by omega, g2, g3⟩, fun q => (q (by trivial)).elim⟩⟩
    · rw [if_neg z, e, if_neg z]
      exact ⟨⟨⟨by omega, by omega⟩, ⟨by omega, by omega⟩⟩, fun q => by omega, fun _ => ⟨fun q => absurd q kz_t, fun _ => w_mono (q_addD H hb hl (BC_3 hb hi (show j < l.length by omega) (show k < l.length by omega) z _) g2 (by omega)) (fun z' hz' => ⟨by trivial, by omega, hz'.1, hz'.2.trans g3⟩)⟩⟩
  · rintro ⟨x, w, w0⟩ ⟨g1, g2, g3⟩
    dsimp only at g1 g2 g3
    subst g1
    unfold q_X2_about_L71
    dsimp only
    simp only [kwp_kb, kwp_some, kwp_kg, kwp_kif, kwp_kl]
    exact ⟨⟨⟨by omega, by omega⟩, ⟨by omega, by omega⟩⟩, fun _ => ⟨by trivial, by trivial, g2, g3⟩, fun q => by omega⟩
theorem q_disc48 {z8 : tZ8} {l : List Spt} (H : SPc z8 l) (hb : bdL l) (hl : l.length ≤ 12) {i : Nat} (hi : i < l.length) {s : (Nat → Cir) × Nat} (hs : ∀ j, j < i → s.2 + b2F j < 298 ∧ ∀ k, k < j → s.2 + b2F j + 1 + k < 298) {z : tZ2} {z0 : tZ0} (h : DK z l s) :
    kwp (kitr 48 (fun q => q_X2_about_L48 z8 (i : Int) q) kF ((0 : Int), z, z0)) (fun e => e.1 = 109 ∧ DK e.2.2.1 l (d2F l i s i) ∧ e.2.2.1.2.2.2.2.2 = z.2.2.2.2.2) := by
  refine w_mono (w_for (ex := 109) (by decide) (fun j (x : Int × tZ2 × tZ0) => x.1 = (j : Int) ∧ DK x.2.1 l (d2F l i s j) ∧ x.2.1.2.2.2.2.2 = z.2.2.2.2.2) i ?_ ?_ (Nat.zero_le _) (by have := kF_eq; omega) ⟨rfl, h, rfl⟩) (fun e g => ⟨g.1, g.2.2⟩)
  · rintro j ⟨x, w, w0⟩ hj ⟨g1, g2, g3⟩
    dsimp only at g1 g2 g3
    subst g1
    have d2 := d2_n l i s j
    have hs2 := hs j hj
    unfold q_X2_about_L48
    dsimp only
    rw [q_across H hb hi (show j < l.length by omega)]
    simp only [kwp_kb, kwp_some, kwp_kg, kwp_kif, kwp_kl]
    refine ⟨⟨⟨by omega, by omega⟩, ⟨by omega, by omega⟩⟩, fun q => by omega, fun _ => w_mono (q_addD H hb hl (BC_2 hb hi (show j < l.length by omega) _) g2 (by omega)) (fun z' hz' => w_mono (q_disc71 H hb hl hi hj (s := adF (d2F l i s j) (c2 (lX l) (lY l) i j)) (fun k hk => ?_) hz'.1) ?_)⟩
    · have := hs2.2 k hk
      show (d2F l i s j).2 + 1 + k < 298
      omega
    · rintro ⟨lb, x, w, w0⟩ ⟨f0, f1, f2⟩
      dsimp only at f0 f1 f2 ⊢
      exact ⟨f0, by trivial, by omega, f1, f2.trans (hz'.2.trans g3)⟩
  · rintro ⟨x, w, w0⟩ ⟨g1, g2, g3⟩
    dsimp only at g1 g2 g3
    subst g1
    unfold q_X2_about_L48
    dsimp only
    simp only [kwp_kb, kwp_some, kwp_kg, kwp_kif, kwp_kl]
    exact ⟨⟨⟨by omega, by omega⟩, ⟨by omega, by omega⟩⟩, fun _ => ⟨by trivial, by trivial, g2, g3⟩, fun q => by omega⟩
theorem b_bd {i : Nat} (hi : i < 12) : b1F i < 298 ∧ ∀ j, j < i → b1F i + 1 + b2F j < 298 ∧ ∀ k, k < j → b1F i + 1 + b2F j + 1 + k < 298 := by
  have a := (b_all ⟨i, by omega⟩).2 hi
  refine ⟨a.1, fun j hj => ?_⟩
  have b := a.2 ⟨j, by omega⟩ hj
  exact ⟨b.1, fun k hk => b.2 ⟨k, by omega⟩ hk⟩
theorem q_disc24 {z8 : tZ8} {l : List Spt} (H : SPc z8 l) (hb : bdL l) (hl : l.length ≤ 12) {z : tZ2} {z0 : tZ0} (h : z.2.2.2.2.1 = 0) :
    kwp (kitr 24 (fun q => q_X2_about_L24 z8 q) kF ((0 : Int), z, z0)) (fun e => e.1 = 115 ∧ DK e.2.2.1 l (d1F l l.length) ∧ e.2.2.1.2.2.2.2.2 = z.2.2.2.2.2) := by
  refine w_mono (w_for (ex := 115) (by decide) (fun i (x : Int × tZ2 × tZ0) => x.1 = (i : Int) ∧ DK x.2.1 l (d1F l i) ∧ x.2.1.2.2.2.2.2 = z.2.2.2.2.2) l.length ?_ ?_ (Nat.zero_le _) (by have := kF_eq; omega) ⟨rfl, ⟨h, fun t ht => absurd ht (Nat.not_lt_zero _)⟩, rfl⟩) (fun e g => ⟨g.1, g.2.2⟩)
  · rintro i ⟨x, w, w0⟩ hi ⟨g1, g2, g3⟩
    dsimp only at g1 g2 g3
    subst g1
    have d1 := d1_n l i
    have bd := b_bd (show i < 12 by omega)
    unfold q_X2_about_L24
    dsimp only
    rw [q_sc H, q_atOne H hi]
    simp only [kwp_kb, kwp_some, kwp_kg, kwp_kif, kwp_kl]
    refine ⟨⟨⟨by omega, by omega⟩, ⟨by omega, by omega⟩⟩, fun q => by omega, fun _ => w_mono (q_addD H hb hl (BC_1 hb hi _) g2 (by omega)) (fun z' hz' => w_mono (q_disc48 H hb hl hi (s := adF (d1F l i) (c1 (lX l) (lY l) i)) (fun j hj => ?_) hz'.1) ?_)⟩
    · have a := bd.2 j hj
      have e : (adF (d1F l i) (c1 (lX l) (lY l) i)).2 = (d1F l i).2 + 1 := rfl
      rw [e]
      exact ⟨by omega, fun k hk => by have := a.2 k hk; omega⟩
    · rintro ⟨lb, x, w, w0⟩ ⟨f0, f1, f2⟩
      dsimp only at f0 f1 f2 ⊢
      exact ⟨f0, by trivial, by omega, f1, f2.trans (hz'.2.trans g3)⟩
  · rintro ⟨x, w, w0⟩ ⟨g1, g2, g3⟩
    dsimp only at g1 g2 g3
    subst g1
    unfold q_X2_about_L24
    dsimp only
    rw [q_sc H]
    simp only [kwp_kb, kwp_some, kwp_kg, kwp_kif, kwp_kl]
    exact ⟨⟨⟨by omega, by omega⟩, ⟨by omega, by omega⟩⟩, fun _ => ⟨by trivial, by trivial, g2, g3⟩, fun q => by omega⟩
