/-- a fraction in lowest terms -/
def fN (a b : Int) : Int := a / (Int.gcd a b : Int)
def fD (a b : Int) : Int := b / (Int.gcd a b : Int)
theorem f_mkRat {a b : Int} (hb : 0 < b) : fN a b = (mkRat a b.toNat).num ∧ fD a b = ((mkRat a b.toNat).den : Int) := by
  have hz : b.toNat ≠ 0 := by omega
  have e : b.toNat.gcd a.natAbs = Int.gcd a b := by
    unfold Int.gcd
    rw [Nat.gcd_comm, show b.toNat = b.natAbs by omega]
  rw [Rat.num_mkRat, Rat.den_mkRat, if_neg hz, if_neg hz, e]
  refine ⟨rfl, ?_⟩
  unfold fD
  rw [Int.natCast_ediv, Int.toNat_of_nonneg (Int.le_of_lt hb)]
theorem f_eq {a b c d : Int} (hb : 0 < b) (hd : 0 < d) (h : a * d = c * b) : fN a b = fN c d ∧ fD a b = fD c d := by
  have e : mkRat a b.toNat = mkRat c d.toNat := by
    rw [Rat.mkRat_eq_iff (by omega) (by omega), Int.toNat_of_nonneg (Int.le_of_lt hb), Int.toNat_of_nonneg (Int.le_of_lt hd)]
    exact h
  rw [(f_mkRat hb).1, (f_mkRat hb).2, (f_mkRat hd).1, (f_mkRat hd).2, e]
  exact ⟨rfl, rfl⟩
theorem f_gcd {a b : Int} (hb : 0 < b) : 0 < (Int.gcd a b : Int) := by
  have := Int.gcd_pos_of_ne_zero_right a (show b ≠ 0 by omega)
  omega
theorem f_mulN {a b : Int} : fN a b * (Int.gcd a b : Int) = a := Int.ediv_mul_cancel (Int.gcd_dvd_left a b)
theorem f_mulD {a b : Int} : fD a b * (Int.gcd a b : Int) = b := Int.ediv_mul_cancel (Int.gcd_dvd_right a b)
theorem fD_pos {a b : Int} (hb : 0 < b) : 0 < fD a b := Int.ediv_pos_of_pos_of_dvd hb (Int.le_of_lt (f_gcd hb)) (Int.gcd_dvd_right a b)
theorem fD_le {a b : Int} (hb : 0 < b) : fD a b ≤ b := by
  have h1 := f_mulD (a := a) (b := b)
  have h2 := f_gcd (a := a) hb
  have h3 := fD_pos (a := a) hb
  have := Int.mul_le_mul_of_nonneg_left (show 1 ≤ (Int.gcd a b : Int) by omega) (Int.le_of_lt h3)
  omega
theorem f_cross {a b : Int} : fN a b * b = a * fD a b := by
  have h1 := f_mulN (a := a) (b := b)
  have h2 := f_mulD (a := a) (b := b)
  generalize fN a b = x at *
  generalize fD a b = y at *
  generalize (Int.gcd a b : Int) = g at *
  subst h1
  subst h2
  grind
theorem fN_abs {a b : Int} (hb : 0 < b) : -(a.natAbs : Int) ≤ fN a b ∧ fN a b ≤ (a.natAbs : Int) := by
  have h1 := f_mulN (a := a) (b := b)
  have h2 := f_gcd (a := a) hb
  have h3 := congrArg Int.natAbs h1
  rw [Int.natAbs_mul] at h3
  have h4 : 1 ≤ (Int.gcd a b : Int).natAbs := by omega
  have h5 := Nat.mul_le_mul_left (fN a b).natAbs h4
  omega
theorem fN_nn {a b : Int} (hb : 0 < b) (ha : 0 ≤ a) : 0 ≤ fN a b := Int.ediv_nonneg ha (Int.le_of_lt (f_gcd hb))
theorem sgc_f {a b c d : Int} (hb : 0 < b) : sgc (fN a b) (fD a b) c d = sgc a b c d := by
  have h1 := f_mulN (a := a) (b := b)
  have h2 := f_mulD (a := a) (b := b)
  have h3 := f_gcd (a := a) hb
  generalize fN a b = x at *
  generalize fD a b = y at *
  generalize (Int.gcd a b : Int) = g at *
  have e1 : a * d = g * (x * d) := by subst h1; grind
  have e2 : c * b = g * (c * y) := by subst h2; grind
  unfold sgc
  rw [e1, e2]
  by_cases q1 : x * d < c * y
  · rw [if_pos q1, if_pos (Int.mul_lt_mul_of_pos_left q1 h3)]
  · have q2 : ¬ g * (x * d) < g * (c * y) := fun q => q1 (Int.lt_of_mul_lt_mul_left q (Int.le_of_lt h3))
    rw [if_neg q1, if_neg q2]
    by_cases q3 : x * d = c * y
    · rw [if_pos q3, if_pos (by rw [q3])]
    · rw [if_neg q3, if_neg (fun q => q3 (Int.eq_of_mul_eq_mul_left (by omega) q))]
theorem sgc_swap {a b c d : Int} : sgc c d a b = - sgc a b c d := by
  unfold sgc
  by_cases h1 : a * d < c * b
  · rw [if_neg (by omega), if_neg (by omega), if_pos h1]; rfl
  · by_cases h2 : a * d = c * b
    · rw [if_neg (by omega), if_pos h2.symm, if_neg h1, if_pos h2]; rfl
    · rw [if_pos (by omega), if_neg h1, if_neg h2]
theorem sgc_f2 {a b c d : Int} (hd : 0 < d) : sgc a b (fN c d) (fD c d) = sgc a b c d := by rw [sgc_swap, sgc_f hd, ← sgc_swap]
abbrev k63 (x : Int) : Prop := -9223372036854775807 ≤ x ∧ x ≤ 9223372036854775807
theorem k64_63 {x : Int} (h : k63 x) : k64 x := ⟨by have := h.1; omega, by have := h.2; omega⟩
theorem fN_k {a b : Int} (hb : 0 < b) (ha : k63 a) : k63 (fN a b) := by
  have := fN_abs (a := a) hb
  have h1 := ha.1
  have h2 := ha.2
  exact ⟨by omega, by omega⟩
theorem fD_k {a b : Int} (hb : 0 < b) (hb2 : k63 b) : k63 (fD a b) := by
  have := fD_le (a := a) hb
  have := fD_pos (a := a) hb
  have h2 := hb2.2
  exact ⟨by omega, by omega⟩
theorem tdiv_g {a b : Int} (ha : b ∣ a) : a.tdiv b = a / b := Int.tdiv_eq_ediv_of_dvd ha
theorem gcd_k {a b : Int} (hb : 0 < b) (hb2 : k63 b) : k63 (Int.gcd a b : Int) := by
  have := Int.gcd_le_right a hb
  have h2 := hb2.2
  exact ⟨by omega, by omega⟩
theorem q_set {z : tZ3} {a b : Int} (ha : k63 a) (hb : 0 < b) (hb2 : k63 b) : q_X3_set z a b = some (fN a b, fD a b) := by
  refine w_eq ?_
  have a1 := ha.1
  have b2 := hb2.2
  have hg := f_gcd (a := a) hb
  unfold q_X3_set
  refine w_kbe (q_gcd (k64_63 ha) (by omega) (k64_63 hb2) (by omega)) ?_
  simp only [kwp_kg, kwp_kif]
  refine ⟨k64_63 hb2, fun _ => ?_, fun h => absurd (Int.le_of_lt hb) h⟩
  unfold q_X3_set_J18
  simp only [kwp_kg, kwp_kif, kwp_kl, kwp_some]
  refine ⟨k64_63 hb2, fun h => by omega, fun _ => ⟨k64_63 (gcd_k hb hb2), fun h => by omega, fun _ => ⟨by decide, fun _ => ?_, fun q => (q (by trivial)).elim⟩⟩⟩
  unfold q_X3_set_J56
  simp only [kwp_kg, kwp_kif, kwp_kl, kwp_some]
  refine ⟨k64_63 (gcd_k hb hb2), by omega, k64_63 ha, by decide, fun _ => ⟨by omega, k64_63 hb2, ?_⟩, fun q => (q (by trivial)).elim⟩
  rw [tdiv_g (Int.gcd_dvd_left a b), tdiv_g (Int.gcd_dvd_right a b)]
  rfl
theorem q_part0 (z : tZ3) : q_X3_part z 0 = some z.1 := rfl
theorem q_part1 (z : tZ3) : q_X3_part z 1 = some z.2 := rfl
theorem q_part {z : tZ3} {w : Int} (h : k32 w) : q_X3_part z w = some (if w = 0 then z.1 else z.2) := by
  refine w_eq ?_
  unfold q_X3_part
  simp only [kwp_kg, kwp_kif, kwp_some]
  exact ⟨h, fun q => by rw [if_pos q], fun q => by rw [if_neg q]⟩
theorem q_against {z : tZ3} {c d : Int} (ha : k64 z.1) (hb : 0 < z.2) (hb2 : k64 z.2) (hc : k64 c) (hd : 0 < d) (hd2 : k64 d) : q_X3_against z c d = some (sgc z.1 z.2 c d) := by
  unfold q_X3_against
  rw [q_compare ha hb hb2 hc hd hd2]
  rfl
/-- the model's -/
theorem qm_common {a b : Int} (ha : k63 a) (hb : 0 < b) (hb2 : k63 b) : q_X12_common a b = some (Int.gcd a b : Int) := by
  refine w_eq ?_
  have a1 := ha.1
  have a2 := ha.2
  have b2 := hb2.2
  have hg := f_gcd (a := a) hb
  have key : ∀ x : Int, 0 ≤ x → k63 x → Int.gcd x b = Int.gcd a b → kwp (q_X12_common_J26 a b x b) (fun x => x = (Int.gcd a b : Int)) := by
    intro x hx hx2 hgx
    unfold q_X12_common_J26
    have x2 := hx2.2
    refine w_kb (P := fun e => e.1 = 53 ∧ e.2.1 = (Int.gcd a b : Int)) ?_ (fun e h => ?_)
    · refine w_loop (fun n s => ∃ t, hv n t s.1 s.2 ∧ 0 ≤ s.1 ∧ 0 ≤ s.2 ∧ s.1 < 9223372036854775808 ∧ s.2 < 9223372036854775808 ∧ (0 < t → s.2 ≤ s.1) ∧ Int.gcd s.1 s.2 = Int.gcd a b) ?_ kF 200 _ (by decide)
        ⟨0, hv_start (by dsimp only; omega) (by dsimp only; omega), hx, by dsimp only; omega, by dsimp only; omega, by dsimp only; omega, by omega, hgx⟩
      rintro n ⟨x, y⟩ ⟨t, h1, h3, h4, h5, h6, h7, h8⟩
      dsimp only at *
      have ht := hv_lt h1
      unfold q_X12_common_L28
      simp only [kwp_kg, kwp_kif, kwp_some, kwp_kl]
      refine ⟨⟨by omega, by omega⟩, fun hy => ?_, fun hy => ⟨hy, ⟨by omega, by omega⟩, ?_⟩⟩
      · right
        refine ⟨by decide, by trivial, ?_⟩
        subst hy
        rw [Int.gcd_zero_right] at h8
        omega
      · left
        have hy0 : 0 < y := by omega
        have e := tmod_eq (b := y) h3
        rw [e]
        have m0 := Int.emod_nonneg x hy
        have m1 := Int.emod_lt_of_pos x hy0
        refine ⟨by trivial, n - 1, by omega, t + 1, hv_step h1 m1 h6 (fun q => half_mod hy0 (h7 q)) m0, by omega, m0, by omega, by omega, fun _ => by omega, by rw [gcd_mod]; exact h8⟩
    · simp only [kwp_kg, kwp_kif, kwp_some]
      have hk := gcd_k (a := a) hb hb2
      refine ⟨h.1, by rw [h.2]; exact k64_63 hk, fun q => by omega, fun _ => h.2⟩
  unfold q_X12_common
  simp only [kwp_kg, kwp_kif]
  refine ⟨k64_63 ha, fun h => ?_, fun h => ?_⟩
  · unfold q_X12_common_J12
    simp only [kwp_kg, kwp_kif]
    exact ⟨k64_63 hb2, fun _ => key a h ha rfl, fun q => by omega⟩
  · unfold q_X12_common_J12
    simp only [kwp_kg, kwp_kif]
    exact ⟨k64_63 hb2, fun _ => key (-a) (by omega) ⟨by omega, by omega⟩ Int.neg_gcd, fun q => by omega⟩
theorem qm_above {a b : Int} (ha : k63 a) (hb : 0 < b) (hb2 : k63 b) : q_X12_above a b = some (fN a b) := by
  refine w_eq ?_
  have hg := f_gcd (a := a) hb
  unfold q_X12_above
  simp only [kwp_kg, kwp_kif]
  refine ⟨k64_63 hb2, fun _ => ?_, fun q => by omega⟩
  unfold q_X12_above_J12
  refine w_kbe (qm_common ha hb hb2) ?_
  simp only [kwp_kg, kwp_some]
  exact ⟨k64_63 (gcd_k hb hb2), by omega, k64_63 ha, by rw [tdiv_g (Int.gcd_dvd_left a b)]; rfl⟩
theorem qm_below {a b : Int} (ha : k63 a) (hb : 0 < b) (hb2 : k63 b) : q_X12_below a b = some (fD a b) := by
  refine w_eq ?_
  have hg := f_gcd (a := a) hb
  unfold q_X12_below
  simp only [kwp_kg, kwp_kif]
  refine ⟨k64_63 hb2, fun _ => ?_, fun q => by omega⟩
  unfold q_X12_below_J12
  refine w_kbe (qm_common ha hb hb2) ?_
  simp only [kwp_kg, kwp_some]
  exact ⟨k64_63 (gcd_k hb hb2), by omega, k64_63 hb2, by rw [tdiv_g (Int.gcd_dvd_right a b)]; rfl⟩
