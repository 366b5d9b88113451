/-! ===== the class's CIRCLE ===== -/
def lX (l : List Spt) (i : Nat) : Int := (g8 l i).1
def lY (l : List Spt) (i : Nat) : Int := (g8 l i).2.1
def lP (l : List Spt) (i : Nat) : Int := (g8 l i).2.2
theorem q_sx {z : tZ8} {l : List Spt} (H : SPc z l) {i : Nat} (hi : i < l.length) : q_X8_x z (i : Int) = some (lX l i) := by
  refine w_eq ?_
  obtain ⟨h1, h2, h3⟩ := H
  unfold q_X8_x
  simp only [kwp_kg, kwp_kif, kwp_some, Int.toNat_natCast]
  rw [h1, (h3 i hi).1]
  exact ⟨⟨by omega, by omega⟩, fun q => by omega, fun _ => ⟨⟨by omega, by omega⟩, fun q => by omega, fun _ => ⟨⟨by omega, by omega⟩, rfl⟩⟩⟩
theorem q_sy {z : tZ8} {l : List Spt} (H : SPc z l) {i : Nat} (hi : i < l.length) : q_X8_y z (i : Int) = some (lY l i) := by
  refine w_eq ?_
  obtain ⟨h1, h2, h3⟩ := H
  unfold q_X8_y
  simp only [kwp_kg, kwp_kif, kwp_some, Int.toNat_natCast]
  rw [h1, (h3 i hi).2.1]
  exact ⟨⟨by omega, by omega⟩, fun q => by omega, fun _ => ⟨⟨by omega, by omega⟩, fun q => by omega, fun _ => ⟨⟨by omega, by omega⟩, rfl⟩⟩⟩
theorem q_sn {z : tZ8} {l : List Spt} (H : SPc z l) {i : Nat} (hi : i < l.length) : q_X8_number z (i : Int) = some (lP l i) := by
  refine w_eq ?_
  obtain ⟨h1, h2, h3⟩ := H
  unfold q_X8_number
  simp only [kwp_kg, kwp_kif, kwp_some, Int.toNat_natCast]
  rw [h1, (h3 i hi).2.2]
  exact ⟨⟨by omega, by omega⟩, fun q => by omega, fun _ => ⟨⟨by omega, by omega⟩, fun q => by omega, fun _ => ⟨⟨by omega, by omega⟩, rfl⟩⟩⟩
theorem q_sc {z : tZ8} {l : List Spt} (H : SPc z l) : q_X8_count z = some (l.length : Int) := by
  unfold q_X8_count
  rw [H.1]
theorem bX {l : List Spt} (h : bdL l) {i : Nat} (hi : i < l.length) : (lX l i).natAbs ≤ 160 ∧ (lY l i).natAbs ≤ 160 := by
  have := bd_g8 h hi
  unfold lX lY
  omega
theorem bP {l : List Spt} (h : bdL l) {i : Nat} (hi : i < l.length) : 0 ≤ lP l i ∧ lP l i ≤ 40 := by
  have := bd_g8 h hi
  unfold lP
  omega
theorem dif_sor {l : List Spt} (h : sorL l) : Dif (lX l) (lY l) l.length := by
  intro i j hi hj hij
  have key : ∀ a b, a < b → b < l.length → lX l a ≠ lX l b ∨ lY l a ≠ lY l b := fun a b hab hb => by
    have := sor_lt h hab hb
    unfold ltS at this
    unfold lX lY
    omega
  rcases Nat.lt_or_ge i j with q | q
  · exact key i j q hj
  · have := key j i (by omega) hi
    omega
theorem ab_mul {a b : Int} {A B : Nat} (h1 : a.natAbs ≤ A) (h2 : b.natAbs ≤ B) : (a * b).natAbs ≤ A * B := by
  rw [Int.natAbs_mul]
  exact Nat.mul_le_mul h1 h2
def CZ (z : tZ0) : Cir := cB z.1 z.2.1 z.2.2.2.1 z.2.2.2.2.1 z.2.2.1
def BC (z : tZ0) : Prop := z.1.natAbs ≤ 160 ∧ z.2.1.natAbs ≤ 160 ∧ 0 < z.2.2.1 ∧ z.2.2.1 ≤ 409600 ∧ z.2.2.2.1.natAbs ≤ 131072000 ∧ z.2.2.2.2.1.natAbs ≤ 131072000
def sd (v : Int) : Int := if v < 0 then -1 else if v = 0 then 0 else 1
theorem q_side {z : tZ0} (H : BC z) {x y : Int} (hx : x.natAbs ≤ 300) (hy : y.natAbs ≤ 300) : q_X0_side z x y = some (sd (pw (CZ z) x y)) := by
  refine w_eq ?_
  obtain ⟨b1, b2, b3, b4, b5, b6⟩ := H
  have e : pw (CZ z) x y = z.2.2.1 * ((x - z.1) * (x - z.1) + (y - z.2.1) * (y - z.2.1)) - 2 * ((x - z.1) * z.2.2.2.1 + (y - z.2.1) * z.2.2.2.2.1) := pw_cB _ _ _ _ _ _ _
  have d1 : (x - z.1).natAbs ≤ 460 := by omega
  have d2 : (y - z.2.1).natAbs ≤ 460 := by omega
  have s1 := ab_mul d1 d1
  have s2 := ab_mul d2 d2
  have s3 : ((x - z.1) * (x - z.1) + (y - z.2.1) * (y - z.2.1)).natAbs ≤ 423200 := by omega
  have s4 := ab_mul (a := z.2.2.1) (A := 409600) (by omega) s3
  have s5 := ab_mul d1 b5
  have s6 := ab_mul d2 b6
  unfold q_X0_side
  simp only [kwp_kg, kwp_kl, kwp_kb]
  refine ⟨⟨by omega, by omega⟩, ⟨by omega, by omega⟩, w_of (q_cmp64 ⟨by omega, by omega⟩ ⟨by omega, by omega⟩) ?_⟩
  rw [kwp_some, e]
  unfold sd
  generalize z.2.2.1 * ((x - z.1) * (x - z.1) + (y - z.2.1) * (y - z.2.1)) = a
  generalize 2 * ((x - z.1) * z.2.2.2.1 + (y - z.2.1) * z.2.2.2.2.1) = b
  by_cases h1 : a < b
  · rw [if_pos h1, if_pos (by omega)]
  · rw [if_neg h1, if_neg (show ¬ a - b < 0 by omega)]
    by_cases h2 : a = b
    · rw [if_pos h2, if_pos (show a - b = 0 by omega)]
    · rw [if_neg h2, if_neg (show ¬ a - b = 0 by omega)]
theorem sd_k (v : Int) : k32 (sd v) := by
  unfold sd
  split
  · decide
  · split <;> decide
theorem q_outside {z : tZ0} {z8 : tZ8} {l : List Spt} (H : BC z) (hS : SPc z8 l) (hb : bdL l) {i : Nat} (hi : i < l.length) : q_X0_isOutside z z8 (i : Int) = some (decide (0 < pw (CZ z) (lX l i) (lY l i))) := by
  refine w_eq ?_
  have := bX hb hi
  unfold q_X0_isOutside
  rw [q_sx hS hi, q_sy hS hi]
  simp only [kwp_kb, kwp_some]
  rw [q_side H (by omega) (by omega)]
  simp only [kwp_some, kwp_kg, kwp_kif]
  refine ⟨sd_k _, fun q => (decide_eq_false ?_).symm, fun q => (decide_eq_true ?_).symm⟩
  · unfold sd at q
    split at q
    · omega
    · split at q <;> omega
  · unfold sd at q
    split at q
    · omega
    · split at q <;> omega
theorem q_atOne {z : tZ0} {z8 : tZ8} {l : List Spt} (hS : SPc z8 l) {i : Nat} (hi : i < l.length) : q_X0_atOne z z8 (i : Int) = some (lX l i, lY l i, 1, 0, 0, z.2.2.2.2.2) := by
  unfold q_X0_atOne
  rw [q_sx hS hi, q_sy hS hi]
  rfl
theorem q_across {z : tZ0} {z8 : tZ8} {l : List Spt} (hS : SPc z8 l) (hb : bdL l) {i j : Nat} (hi : i < l.length) (hj : j < l.length) : q_X0_acrossTwo z z8 (i : Int) (j : Int) = some (lX l i, lY l i, 2, lX l j - lX l i, lY l j - lY l i, z.2.2.2.2.2) := by
  refine w_eq ?_
  have := bX hb hi
  have := bX hb hj
  unfold q_X0_acrossTwo
  rw [q_atOne hS hi, q_sx hS hj, q_sy hS hj]
  simp only [kwp_kb, kwp_some, kwp_kl, kwp_kg]
  exact ⟨⟨by omega, by omega⟩, ⟨by omega, by omega⟩, (by first | exact trivial | rfl)⟩
theorem BC_1 {l : List Spt} (hb : bdL l) {i : Nat} (hi : i < l.length) (r : (Nat → Int) × Int × (Nat → Int) × Int) : BC (lX l i, lY l i, 1, 0, 0, r) := by
  have := bX hb hi
  exact ⟨this.1, this.2, by show (0 : Int) < 1; omega, by show (1 : Int) ≤ 409600; omega, by show (0 : Int).natAbs ≤ _; omega, by show (0 : Int).natAbs ≤ _; omega⟩
theorem BC_2 {l : List Spt} (hb : bdL l) {i j : Nat} (hi : i < l.length) (hj : j < l.length) (r : (Nat → Int) × Int × (Nat → Int) × Int) : BC (lX l i, lY l i, 2, lX l j - lX l i, lY l j - lY l i, r) := by
  have h1 := bX hb hi
  have h2 := bX hb hj
  exact ⟨h1.1, h1.2, by show (0 : Int) < 2; omega, by show (2 : Int) ≤ 409600; omega, by show (lX l j - lX l i).natAbs ≤ _; omega, by show (lY l j - lY l i).natAbs ≤ _; omega⟩
/-- what is told of three: their turn, the squares -/
theorem tri_bd {l : List Spt} (hb : bdL l) {i j k : Nat} (hi : i < l.length) (hj : j < l.length) (hk : k < l.length) : (tn (lX l) (lY l) i j k).natAbs ≤ 204800 ∧ (ds (lX l) (lY l) i j).natAbs ≤ 204800 ∧ (ds (lX l) (lY l) i k).natAbs ≤ 204800 ∧ (lX l j - lX l i).natAbs ≤ 320 ∧ (lY l j - lY l i).natAbs ≤ 320 ∧ (lX l k - lX l i).natAbs ≤ 320 ∧ (lY l k - lY l i).natAbs ≤ 320 := by
  have h1 := bX hb hi
  have h2 := bX hb hj
  have h3 := bX hb hk
  have d1 : (lX l j - lX l i).natAbs ≤ 320 := by omega
  have d2 : (lY l j - lY l i).natAbs ≤ 320 := by omega
  have d3 : (lX l k - lX l i).natAbs ≤ 320 := by omega
  have d4 : (lY l k - lY l i).natAbs ≤ 320 := by omega
  have a1 := ab_mul d1 d4
  have a2 := ab_mul d2 d3
  have a3 := ab_mul d1 d1
  have a4 := ab_mul d2 d2
  have a5 := ab_mul d3 d3
  have a6 := ab_mul d4 d4
  unfold tn ds
  omega
theorem sg_bd (t : Int) : (sg t).natAbs ≤ 1 := by
  unfold sg
  split <;> omega
theorem way_bd {a b c d g : Int} (ha : a.natAbs ≤ 320) (hb : b.natAbs ≤ 204800) (hc : c.natAbs ≤ 320) (hd : d.natAbs ≤ 204800) (hg : g.natAbs ≤ 1) : (a * (g * b) - c * (g * d)).natAbs ≤ 131072000 := by
  have h1 := ab_mul ha (ab_mul hg hb)
  have h2 := ab_mul hc (ab_mul hg hd)
  omega
def z3 (X Y : Nat → Int) (i j k : Nat) (r : (Nat → Int) × Int × (Nat → Int) × Int) : tZ0 :=
  (X i, Y i, 2 * sg (tn X Y i j k) * tn X Y i j k, (Y k - Y i) * (sg (tn X Y i j k) * ds X Y i j) - (Y j - Y i) * (sg (tn X Y i j k) * ds X Y i k), (X j - X i) * (sg (tn X Y i j k) * ds X Y i k) - (X k - X i) * (sg (tn X Y i j k) * ds X Y i j), r)
theorem q_three {z : tZ0} {z8 : tZ8} {l : List Spt} (hS : SPc z8 l) (hb : bdL l) {i j k : Nat} (hi : i < l.length) (hj : j < l.length) (hk : k < l.length) :
    q_X0_throughThree z z8 (i : Int) (j : Int) (k : Int) = some (if tn (lX l) (lY l) i j k = 0 then (false, z) else (true, z3 (lX l) (lY l) i j k z.2.2.2.2.2)) := by
  refine w_eq ?_
  have hbd := tri_bd hb hi hj hk
  unfold q_X0_throughThree
  rw [q_sx hS hi, q_sy hS hi, q_sx hS hj, q_sy hS hj, q_sx hS hk, q_sy hS hk]
  simp only [kwp_kb, kwp_some, kwp_kl, kwp_kg, kwp_kif]
  have et : (lX l j - lX l i) * (lY l k - lY l i) - (lY l j - lY l i) * (lX l k - lX l i) = tn (lX l) (lY l) i j k := rfl
  rw [et]
  refine ⟨⟨by omega, by omega⟩, ⟨by omega, by omega⟩, ⟨by omega, by omega⟩, ⟨by omega, by omega⟩, ⟨by omega, by omega⟩, fun q => by rw [if_pos q], fun q => ⟨fun q2 => ?_, fun q2 => ?_⟩⟩
  · rw [if_neg q]
    unfold q_X0_throughThree_J94
    rw [q_atOne hS hi]
    simp only [kwp_kb, kwp_some, kwp_kl]
    have es : sg (tn (lX l) (lY l) i j k) = 1 := if_neg (by omega)
    unfold z3
    rw [es]
    rfl
  · rw [if_neg q]
    unfold q_X0_throughThree_J94
    rw [q_atOne hS hi]
    simp only [kwp_kb, kwp_some, kwp_kl]
    have es : sg (tn (lX l) (lY l) i j k) = -1 := if_pos (by omega)
    unfold z3
    rw [es]
    rfl
theorem BC_3 {l : List Spt} (hb : bdL l) {i j k : Nat} (hi : i < l.length) (hj : j < l.length) (hk : k < l.length) (ht : tn (lX l) (lY l) i j k ≠ 0) (r : (Nat → Int) × Int × (Nat → Int) × Int) : BC (z3 (lX l) (lY l) i j k r) := by
  have h1 := bX hb hi
  obtain ⟨t1, t2, t3, t4, t5, t6, t7⟩ := tri_bd hb hi hj hk
  have hg := sg_bd (tn (lX l) (lY l) i j k)
  have hp := sg_mul ht
  have hm := ab_mul hg t1
  refine ⟨h1.1, h1.2, ?_, ?_, way_bd t7 t2 t5 t3 hg, way_bd t4 t3 t6 t2 hg⟩
  · show 0 < 2 * sg (tn (lX l) (lY l) i j k) * tn (lX l) (lY l) i j k
    rw [Int.mul_assoc]
    omega
  · show 2 * sg (tn (lX l) (lY l) i j k) * tn (lX l) (lY l) i j k ≤ 409600
    rw [Int.mul_assoc]
    omega
abbrev aM : Nat → Prop := fun _ => True
/-- the circle with two on its rim -/
theorem q_two {z : tZ0} {z8 : tZ8} {l : List Spt} (hS : SPc z8 l) (hs : sorL l) (hb : bdL l) {i j : Nat} (hi : i < l.length) (hj : j < i) (hf : fe2 (lX l) (lY l) aM i j) :
    kwp (q_X0_aboutWithTwo z z8 (i : Int) (j : Int)) (fun z' => in2 (lX l) (lY l) aM i j j (CZ z') ∧ BC z' ∧ z'.2.2.2.2.2 = z.2.2.2.2.2) := by
  have hlen := hS.2.1
  unfold q_X0_aboutWithTwo
  refine w_kbe (q_across hS hb hi (by omega)) ?_
  refine w_kb (w_for (ex := 42) (by decide) (fun k (s : Int × tZ0) => s.1 = (k : Int) ∧ in2 (lX l) (lY l) aM i j k (CZ s.2) ∧ BC s.2 ∧ s.2.2.2.2.2.2 = z.2.2.2.2.2) j ?_ ?_ (Nat.zero_le _) (by have := kF_eq; omega) ⟨rfl, in2_start, BC_2 hb hi (by omega) _, rfl⟩) ?_
  · rintro k ⟨c, s⟩ hk ⟨rfl, s2, s3, s4⟩
    dsimp only at s2 s3 s4
    unfold q_X0_aboutWithTwo_L10
    simp only [kwp_kb, kwp_some, kwp_kl, kwp_kg, kwp_kif]
    rw [q_outside s3 hS hb (by omega), kwp_some, kz_0, q_three hS hb hi (by omega) (by omega), kwp_some, decide_eq_false_iff_not]
    refine ⟨⟨⟨by omega, by omega⟩, ⟨by omega, by omega⟩⟩, fun q => by omega, fun _ => ⟨fun q => ⟨by trivial, by omega, in2_same s2 (fun _ => by omega), s3, s4⟩, fun q => ?_⟩⟩
    have q := Decidable.not_not.mp q
    obtain ⟨ht, h2⟩ := in2_step (dif_sor hs) hi hj hk trivial s2 q hf
    rw [if_neg ht]
    exact ⟨by trivial, by omega, h2, BC_3 hb hi (by omega) (by omega) ht _, s4⟩
  · rintro ⟨c, s⟩ ⟨rfl, h⟩
    dsimp only at h
    unfold q_X0_aboutWithTwo_L10
    simp only [kwp_kb, kwp_some, kwp_kl, kwp_kg, kwp_kif]
    exact ⟨⟨⟨by omega, by omega⟩, ⟨by omega, by omega⟩⟩, fun _ => ⟨by trivial, by trivial, h⟩, fun q => by omega⟩
  · rintro ⟨lb, c, s⟩ ⟨h0, _, h⟩
    dsimp only at h0 h
    simp only [kwp_kg, kwp_some]
    exact ⟨h0, h⟩
theorem q_oneR {z : tZ0} {z8 : tZ8} {l : List Spt} (hS : SPc z8 l) (hs : sorL l) (hb : bdL l) {i : Nat} (hi : i < l.length) (hf : fe1 (lX l) (lY l) aM i) :
    kwp (q_X0_aboutWithOne z z8 (i : Int)) (fun z' => in1 (lX l) (lY l) aM i i (CZ z') ∧ BC z' ∧ z'.2.2.2.2.2 = z.2.2.2.2.2) := by
  have hlen := hS.2.1
  unfold q_X0_aboutWithOne
  refine w_kbe (q_atOne hS hi) ?_
  refine w_kb (w_for (ex := 35) (by decide) (fun k (s : Int × tZ0) => s.1 = (k : Int) ∧ in1 (lX l) (lY l) aM i k (CZ s.2) ∧ BC s.2 ∧ s.2.2.2.2.2.2 = z.2.2.2.2.2) i ?_ ?_ (Nat.zero_le _) (by have := kF_eq; omega) ⟨rfl, in1_start, BC_1 hb hi _, rfl⟩) ?_
  · rintro k ⟨c, s⟩ hk ⟨rfl, s2, s3, s4⟩
    dsimp only at s2 s3 s4
    unfold q_X0_aboutWithOne_L8
    simp only [kwp_kb, kwp_some, kwp_kl, kwp_kg, kwp_kif]
    rw [q_outside s3 hS hb (by omega), kwp_some, kz_0, decide_eq_false_iff_not]
    refine ⟨⟨⟨by omega, by omega⟩, ⟨by omega, by omega⟩⟩, fun q => by omega, fun _ => ⟨fun q => ⟨by trivial, by omega, in1_same s2 (fun _ => by omega), s3, s4⟩, fun q => ?_⟩⟩
    have q := Decidable.not_not.mp q
    exact w_mono (q_two hS hs hb hi hk (in1_fe hk trivial s2 q hf)) (fun z' h => ⟨by trivial, by omega, in1_step trivial s2 q h.1, h.2.1, h.2.2.trans s4⟩)
  · rintro ⟨c, s⟩ ⟨rfl, h⟩
    dsimp only at h
    unfold q_X0_aboutWithOne_L8
    simp only [kwp_kb, kwp_some, kwp_kl, kwp_kg, kwp_kif]
    exact ⟨⟨⟨by omega, by omega⟩, ⟨by omega, by omega⟩⟩, fun _ => ⟨by trivial, by trivial, h⟩, fun q => by omega⟩
  · rintro ⟨lb, c, s⟩ ⟨h0, _, h⟩
    dsimp only at h0 h
    simp only [kwp_kg, kwp_some]
    exact ⟨h0, h⟩
/-- the least circle about all SPOTS -/
theorem q_about {z : tZ0} {z8 : tZ8} {l : List Spt} (hS : SPc z8 l) (hs : sorL l) (hb : bdL l) (h0 : 0 < l.length) :
    kwp (q_X0_about z z8) (fun z' => in0 (lX l) (lY l) aM l.length (CZ z') ∧ BC z' ∧ z'.2.2.2.2.2 = z.2.2.2.2.2) := by
  have hlen := hS.2.1
  unfold q_X0_about
  refine w_kbe (q_atOne (i := 0) hS h0) ?_
  refine w_kb (w_for (ex := 37) (by decide) (fun k (s : Int × tZ0) => s.1 = (k : Int) ∧ in0 (lX l) (lY l) aM k (CZ s.2) ∧ BC s.2 ∧ s.2.2.2.2.2.2 = z.2.2.2.2.2) l.length ?_ ?_ (i := 1) h0 (by have := kF_eq; omega) ⟨rfl, in0_start (i := 0) trivial (by omega) (fun q hq _ => by omega), BC_1 hb h0 _, rfl⟩) ?_
  · rintro k ⟨c, s⟩ hk ⟨rfl, s2, s3, s4⟩
    dsimp only at s2 s3 s4
    unfold q_X0_about_L8
    rw [q_sc hS]
    simp only [kwp_kb, kwp_some, kwp_kl, kwp_kg, kwp_kif]
    rw [q_outside s3 hS hb hk, kwp_some, kz_0, decide_eq_false_iff_not]
    refine ⟨⟨⟨by omega, by omega⟩, ⟨by omega, by omega⟩⟩, fun q => by omega, fun _ => ⟨fun q => ⟨by trivial, by omega, in0_same s2 (fun _ => by omega), s3, s4⟩, fun q => ?_⟩⟩
    have q := Decidable.not_not.mp q
    exact w_mono (q_oneR hS hs hb hk (in0_fe s2 q)) (fun z' h => ⟨by trivial, by omega, in0_step trivial s2 q h.1, h.2.1, h.2.2.trans s4⟩)
  · rintro ⟨c, s⟩ ⟨rfl, h⟩
    dsimp only at h
    unfold q_X0_about_L8
    rw [q_sc hS]
    simp only [kwp_kb, kwp_some, kwp_kl, kwp_kg, kwp_kif]
    exact ⟨⟨⟨by omega, by omega⟩, ⟨by omega, by omega⟩⟩, fun _ => ⟨by trivial, by trivial, h⟩, fun q => by omega⟩
  · rintro ⟨lb, c, s⟩ ⟨h0, _, h⟩
    dsimp only at h0 h
    simp only [kwp_kg, kwp_some]
    exact ⟨h0, h⟩
