theorem two_pow_succ (e : Nat) : (2 : Int) ^ (e + 1) = 2 * 2 ^ e := by rw [Int.pow_succ, Int.mul_comm]
theorem half_lt {x y : Int} {e : Nat} (h : 2 * x < y) (hy : y < 2 ^ (e + 1)) : x < 2 ^ e := by
  rw [two_pow_succ] at hy
  omega
theorem half_mod {a b : Int} (hb : 0 < b) (h : b ≤ a) : 2 * (a % b) < a := by
  have hm := Int.emod_add_mul_ediv a b
  have hm1 := Int.emod_lt_of_pos a hb
  have hq : 1 ≤ a / b := by
    rw [Int.le_ediv_iff_mul_le hb]
    omega
  have := Int.mul_le_mul_of_nonneg_left hq (Int.le_of_lt hb)
  omega
theorem half_mod' {a b : Int} {e : Nat} (hb : 0 < b) (h : b ≤ a) (ha : a < 2 ^ e) : ∃ e', e = e' + 1 ∧ a % b < 2 ^ e' := by
  cases e with
  | zero => simp at ha; omega
  | succ e => exact ⟨e, rfl, half_lt (half_mod hb h) ha⟩
theorem tmod_eq {a b : Int} (ha : 0 ≤ a) : a - a.tdiv b * b = a % b := by
  have h := Int.tmod_add_mul_tdiv a b
  rw [← Int.tmod_eq_emod_of_nonneg ha, Int.mul_comm]
  omega
theorem two63 : (2 : Int) ^ 63 = 9223372036854775808 := by decide
/-- the loop's rounds over a pair that halves -/
def hv (n t : Nat) (a b : Int) : Prop := n + t = 200 ∧ ∃ e1 e2 : Nat, a < 2 ^ e1 ∧ b < 2 ^ e2 ∧ 2 * e1 + t ≤ 128 ∧ 2 * e2 + t ≤ 127
theorem hv_start {a b : Int} (ha : a < 9223372036854775808) (hb : b < 9223372036854775808) : hv 200 0 a b := ⟨rfl, 63, 63, by rw [two63]; exact ha, by rw [two63]; exact hb, by omega, by omega⟩
theorem hv_lt {n t : Nat} {a b : Int} (h : hv n t a b) : t ≤ 127 ∧ n = 200 - t := by
  obtain ⟨h1, e1, e2, _, _, _, h2⟩ := h
  omega
/-- one more round: a, b become b, r, where r is below, and less than half of a if it isn't the first -/
theorem hv_step {n t : Nat} {a b r c : Int} (h : hv n t a b) (hr : r < c) (hc : c < 9223372036854775808) (ht : 0 < t → 2 * r < a) (h0 : 0 ≤ r) : hv (n - 1) (t + 1) b r := by
  obtain ⟨h1, e1, e2, g1, g2, g3, g4⟩ := h
  refine ⟨by omega, e2, ?_⟩
  by_cases h : t = 0
  · subst h
    exact ⟨63, g2, by rw [two63]; omega, by omega, by omega⟩
  · have := ht (by omega)
    cases e1 with
    | zero => simp at g1; omega
    | succ e => exact ⟨e, g2, half_lt this g1, by omega, by omega⟩
theorem gcd_mod (a b : Int) : Int.gcd b (a % b) = Int.gcd a b := by
  have h := Int.gcd_add_mul_left_right b (a % b) (a / b)
  rw [Int.emod_add_mul_ediv] at h
  rw [← h, Int.gcd_comm]
theorem gcd_abs (a b : Int) : Int.gcd (a.natAbs : Int) (b.natAbs : Int) = Int.gcd a b := by
  unfold Int.gcd
  rw [Int.natAbs_natCast, Int.natAbs_natCast]
theorem q_gcd {a b : Int} (ha : k64 a) (ha' : a ≠ -9223372036854775808) (hb : k64 b) (hb' : b ≠ -9223372036854775808) : q_X3_gcd a b = some (Int.gcd a b : Int) := by
  refine w_eq ?_
  unfold q_X3_gcd
  refine w_kbe (q_abs64 ha) (w_kbe (q_abs64 hb) ?_)
  refine w_kb (P := fun e => e.1 = 51 ∧ e.2.1 = (Int.gcd a b : Int)) ?_ (fun e h => ?_)
  · refine w_loop (fun n s => ∃ t, hv n t s.1 s.2.1 ∧ s.2.2 = (t : Int) ∧ 0 ≤ s.1 ∧ 0 ≤ s.2.1 ∧ s.1 < 9223372036854775808 ∧ s.2.1 < 9223372036854775808 ∧ (0 < t → s.2.1 ≤ s.1) ∧ Int.gcd s.1 s.2.1 = Int.gcd a b) ?_ kF 200 _ (by decide)
      ⟨0, hv_start (by dsimp only; omega) (by dsimp only; omega), rfl, by dsimp only; omega, by dsimp only; omega, by dsimp only; omega, by dsimp only; omega, by omega, by dsimp only; exact gcd_abs a b⟩
    rintro n ⟨x, y, z⟩ ⟨t, h1, h2, h3, h4, h5, h6, h7, h8⟩
    dsimp only at *
    subst h2
    have ht := hv_lt h1
    unfold q_X3_gcd_L15
    simp only [kwp_kg, kwp_kif, kwp_some, kwp_kl]
    refine ⟨⟨by omega, by omega⟩, fun _ => by omega, fun _ => ⟨⟨by omega, by omega⟩, fun hy => ?_, fun hy => ⟨hy, ⟨by omega, by omega⟩, ?_⟩⟩⟩
    · right
      refine ⟨by decide, by trivial, ?_⟩
      subst hy
      rw [Int.gcd_zero_right] at h8
      omega
    · left
      have hy0 : 0 < y := by omega
      have e := tmod_eq (b := y) h3
      rw [e]
      have m0 := Int.emod_nonneg x hy
      have m1 := Int.emod_lt_of_pos x hy0
      refine ⟨by trivial, n - 1, by omega, t + 1, hv_step h1 m1 h6 (fun q => half_mod hy0 (h7 q)) m0, by omega, by omega, m0, by omega, by omega, fun _ => by omega, by rw [gcd_mod]; exact h8⟩
  · simp only [kwp_kg, kwp_some]
    exact h
def sgc (a b c d : Int) : Int := if a * d < c * b then -1 else if a * d = c * b then 0 else 1
theorem sgc_whole {a b c d : Int} (hb : 0 < b) (hd : 0 < d) (h : a / b < c / d) : a * d < c * b := by
  have e1 := Int.emod_add_mul_ediv a b
  have e2 := Int.emod_add_mul_ediv c d
  have m1 := Int.emod_lt_of_pos a hb
  have m2 := Int.emod_nonneg c (show d ≠ 0 by omega)
  have h1 : a < b * (a / b + 1) := by rw [Int.mul_add]; omega
  have h2 : d * (c / d) ≤ c := by omega
  have h3 : a * d < b * (a / b + 1) * d := Int.mul_lt_mul_of_pos_right h1 hd
  have h4 : b * (d * (c / d)) ≤ b * c := Int.mul_le_mul_of_nonneg_left h2 (Int.le_of_lt hb)
  have h5 : b * d * (a / b + 1) ≤ b * d * (c / d) := Int.mul_le_mul_of_nonneg_left (by omega) (Int.le_of_lt (Int.mul_pos hb hd))
  have r1 : b * (a / b + 1) * d = b * d * (a / b + 1) := by grind
  have r2 : b * (d * (c / d)) = b * d * (c / d) := by grind
  rw [Int.mul_comm c b]
  omega
theorem sgc_left {a b c d : Int} (h : a / b = c / d) : a * d - c * b = (a % b) * d - (c % d) * b := by
  have e1 := Int.emod_add_mul_ediv a b
  have e2 := Int.emod_add_mul_ediv c d
  rw [h] at e1
  generalize c / d = w at *
  generalize a % b = r at *
  generalize c % d = r2 at *
  subst e1
  subst e2
  grind
theorem q_compare {a b c d : Int} (ha : k64 a) (hb : 0 < b) (hb2 : k64 b) (hc : k64 c) (hd : 0 < d) (hd2 : k64 d) : q_X3_compare a b c d = some (sgc a b c d) := by
  refine w_eq ?_
  unfold q_X3_compare
  refine w_kb (P := fun e => (e.1 = 85 ∧ k64 e.2.2.2.2.2.2.1 ∧ k64 e.2.2.2.2.2.2.2.1 ∧ e.2.2.2.2.2.2.1 ≠ e.2.2.2.2.2.2.2.1 ∧ sgc a b c d = if e.2.2.2.2.2.2.1 < e.2.2.2.2.2.2.2.1 then -1 else 1) ∨
      (e.1 = 113 ∧ k64 e.2.2.2.2.2.2.2.2.1 ∧ k64 e.2.2.2.2.2.2.2.2.2 ∧ sgc a b c d = if e.2.2.2.2.2.2.2.2.1 < e.2.2.2.2.2.2.2.2.2 then -1 else if e.2.2.2.2.2.2.2.2.1 = e.2.2.2.2.2.2.2.2.2 then 0 else 1)) ?_ (fun e h => ?_)
  · refine w_loop (fun n s => ∃ t, hv n t s.1 s.2.2.2.1 ∧ s.2.2.2.2.1 = (t : Int) ∧ k64 s.1 ∧ 0 < s.2.1 ∧ s.2.1 < 9223372036854775808 ∧ k64 s.2.2.1 ∧ 0 < s.2.2.2.1 ∧ s.2.2.2.1 < 9223372036854775808 ∧ (0 < t → s.2.1 ≤ s.1) ∧ sgc s.1 s.2.1 s.2.2.1 s.2.2.2.1 = sgc a b c d) ?_ kF 200 _ (by decide)
      ⟨0, hv_start ha.2 hd2.2, rfl, ha, hb, hb2.2, hc, hd, hd2.2, by omega, rfl⟩
    rintro n ⟨x, y, z, w, t', o1, o2, o3, o4⟩ ⟨t, h1, h2, h3, h4, h5, h6, h7, h8, h9, h10⟩
    dsimp only at *
    subst h2
    have ht := hv_lt h1
    unfold q_X3_compare_L17
    simp only [kwp_kg, kwp_kif, kwp_some, kwp_kl, kwp_kb]
    refine ⟨⟨by omega, by omega⟩, fun _ => by omega, fun _ => ⟨⟨by omega, by omega⟩, fun _ => by omega, fun _ => ⟨⟨by omega, by omega⟩, fun _ => by omega, fun _ => ?_⟩⟩⟩
    refine w_of (q_floorDiv h3 h4 ⟨by omega, h5⟩) (w_of (q_floorDiv h6 h7 ⟨by omega, h8⟩) ?_)
    have e1 := Int.emod_add_mul_ediv x y
    have e2 := Int.emod_add_mul_ediv z w
    have f1 : x - x / y * y = x % y := by rw [Int.mul_comm]; omega
    have f2 : z - z / w * w = z % w := by rw [Int.mul_comm]; omega
    rw [f1, f2]
    have m0 := Int.emod_nonneg x (show y ≠ 0 by omega)
    have m1 := Int.emod_lt_of_pos x h4
    have n0 := Int.emod_nonneg z (show w ≠ 0 by omega)
    have n1 := Int.emod_lt_of_pos z h7
    have d1 : k64 (x / y) := by
      have := Int.natAbs_ediv_le_natAbs x y
      unfold k64 at h3 ⊢
      have u := h3.1
      have v := h3.2
      by_cases hx : 0 ≤ x
      · have := Int.ediv_nonneg hx (Int.le_of_lt h4)
        omega
      · have := Int.ediv_neg_of_neg_of_pos (show x < 0 by omega) h4
        omega
    have d2 : k64 (z / w) := by
      have := Int.natAbs_ediv_le_natAbs z w
      unfold k64 at h6 ⊢
      have u := h6.1
      have v := h6.2
      by_cases hx : 0 ≤ z
      · have := Int.ediv_nonneg hx (Int.le_of_lt h7)
        omega
      · have := Int.ediv_neg_of_neg_of_pos (show z < 0 by omega) h7
        omega
    refine ⟨⟨d1, d2⟩, fun hq => ⟨⟨by omega, by omega⟩, fun h0 => ?_, fun h0 => ⟨⟨by omega, by omega⟩, fun g0 => ?_, fun g0 => ?_⟩⟩, fun hq => ?_⟩
    · right
      refine ⟨by decide, Or.inr ⟨by trivial, ⟨by omega, by omega⟩, ⟨by omega, by omega⟩, ?_⟩⟩
      have := sgc_left hq
      rw [h0, Int.zero_mul] at this
      rw [← h10, h0]
      unfold sgc
      by_cases hz : z % w = 0
      · rw [hz, Int.zero_mul] at this
        rw [hz, if_neg (by omega), if_pos (by omega)]
        rfl
      · have := Int.mul_pos (show 0 < z % w by omega) h4
        rw [if_pos (by omega), if_pos (by omega)]
    · right
      refine ⟨by decide, Or.inr ⟨by trivial, ⟨by omega, by omega⟩, ⟨by omega, by omega⟩, ?_⟩⟩
      have := sgc_left hq
      rw [g0, Int.zero_mul] at this
      rw [← h10, g0]
      unfold sgc
      have := Int.mul_pos (show 0 < x % y by omega) h7
      rw [if_neg (by omega), if_neg (by omega), if_neg (by omega), if_neg (by omega)]
    · left
      refine ⟨by trivial, n - 1, by omega, t + 1, hv_step h1 m1 h5 (fun q => half_mod h4 (h9 q)) m0, by omega, ⟨by omega, by omega⟩, by omega, by omega, ⟨by omega, by omega⟩, by omega, by omega, fun _ => by omega, ?_⟩
      have := sgc_left hq
      rw [← h10]
      unfold sgc
      rw [Int.mul_comm w (x % y), Int.mul_comm y (z % w)]
      by_cases q1 : x * w < z * y
      · rw [if_pos q1, if_pos (by omega)]
      · rw [if_neg q1, if_neg (by omega)]
        by_cases q2 : x * w = z * y
        · rw [if_pos q2, if_pos (by omega)]
        · rw [if_neg q2, if_neg (by omega)]
    · right
      refine ⟨by decide, Or.inl ⟨by trivial, d1, d2, hq, ?_⟩⟩
      rw [← h10]
      unfold sgc
      by_cases q1 : x / y < z / w
      · rw [if_pos q1, if_pos (sgc_whole h4 h7 q1)]
      · have := sgc_whole (a := z) (b := w) (c := x) (d := y) h7 h4 (by omega)
        rw [if_neg q1, if_neg (by omega), if_neg (by omega)]
  · obtain ⟨l, x1, x2, x3, x4, x5, x6, x7, x8, x9⟩ := e
    dsimp only at *
    rcases h with ⟨h0, h1, h2, h3, h4⟩ | ⟨h0, h1, h2, h4⟩
    · subst h0
      simp only [kwp_kg, kwp_kif, kwp_some]
      refine ⟨fun _ => ⟨⟨h1, h2⟩, fun q => ?_, fun q => ?_⟩, fun q => (q (by trivial)).elim⟩
      · rw [h4, if_neg (by omega)]
      · rw [h4, if_pos (by omega)]
    · subst h0
      simp only [kwp_kg, kwp_kif, kwp_some]
      refine ⟨fun q => absurd q (by decide), fun _ => ⟨fun _ => ?_, fun q => (q (by trivial)).elim⟩⟩
      unfold q_X3_compare_J113
      refine w_kbe (q_cmp64 h1 h2) ?_
      rw [kwp_some, h4]
