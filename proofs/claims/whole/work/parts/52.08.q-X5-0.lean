def q_X5_count (zT : tZ5) : Option Int :=
  some zT.2.2.2
theorem m_X5_count {zT : tZ5} {u0 : tX5} (e0 : u0 = (cX5 zT)) : sim Int32.ofInt (q_X5_count zT) (p_X5_count u0) := by
  subst e0
  unfold q_X5_count p_X5_count
  exact sim_some rfl

def q_X5_x (zT : tZ5) (v1 : Int) : Option Int :=
  kg (k32 v1) (kif (v1 < (0 : Int)) (some (0 : Int)) (kg (k32 zT.2.2.2) (kif (zT.2.2.2 ≤ v1) (some (0 : Int)) (kg (0 ≤ v1 ∧ v1 < 82) (some (zT.1 (v1.toNat)))))))
theorem m_X5_x {zT : tZ5} {u0 : tX5} {v1 : Int} {u1 : Int32} (e0 : u0 = (cX5 zT)) (e1 : u1 = (Int32.ofInt v1)) : sim Int32.ofInt (q_X5_x zT v1) (p_X5_x u0 u1) := by
  subst e0 e1
  unfold q_X5_x p_X5_x
  exact sim_g (fun g1 => sim_kif (i_lt rfl l32_0 g1 (by decide)) (sim_some l32_0) (sim_g (fun g2 => sim_kif (i_le rfl rfl g2 g1) (sim_some l32_0) (sim_kii rfl (by decide) (fun g3 => sim_some (c_ap zT.1 (c_idx rfl g3 (by decide))))))))

def q_X5_y (zT : tZ5) (v1 : Int) : Option Int :=
  kg (k32 v1) (kif (v1 < (0 : Int)) (some (0 : Int)) (kg (k32 zT.2.2.2) (kif (zT.2.2.2 ≤ v1) (some (0 : Int)) (kg (0 ≤ v1 ∧ v1 < 82) (some (zT.2.1 (v1.toNat)))))))
theorem m_X5_y {zT : tZ5} {u0 : tX5} {v1 : Int} {u1 : Int32} (e0 : u0 = (cX5 zT)) (e1 : u1 = (Int32.ofInt v1)) : sim Int32.ofInt (q_X5_y zT v1) (p_X5_y u0 u1) := by
  subst e0 e1
  unfold q_X5_y p_X5_y
  exact sim_g (fun g1 => sim_kif (i_lt rfl l32_0 g1 (by decide)) (sim_some l32_0) (sim_g (fun g2 => sim_kif (i_le rfl rfl g2 g1) (sim_some l32_0) (sim_kii rfl (by decide) (fun g3 => sim_some (c_ap zT.2.1 (c_idx rfl g3 (by decide))))))))

def q_X5_number (zT : tZ5) (v1 : Int) : Option Int :=
  kg (k32 v1) (kif (v1 < (0 : Int)) (some (-1 : Int)) (kg (k32 zT.2.2.2) (kif (zT.2.2.2 ≤ v1) (some (-1 : Int)) (kg (0 ≤ v1 ∧ v1 < 82) (some (zT.2.2.1 (v1.toNat)))))))
theorem m_X5_number {zT : tZ5} {u0 : tX5} {v1 : Int} {u1 : Int32} (e0 : u0 = (cX5 zT)) (e1 : u1 = (Int32.ofInt v1)) : sim Int32.ofInt (q_X5_number zT v1) (p_X5_number u0 u1) := by
  subst e0 e1
  unfold q_X5_number p_X5_number
  exact sim_g (fun g1 => sim_kif (i_lt rfl l32_0 g1 (by decide)) (sim_some l32_m1) (sim_g (fun g2 => sim_kif (i_le rfl rfl g2 g1) (sim_some l32_m1) (sim_kii rfl (by decide) (fun g3 => sim_some (c_ap zT.2.2.1 (c_idx rfl g3 (by decide))))))))

def q_X5_after (zT : tZ5) (v1 : Int) : Option Int :=
  kg (k32 zT.2.2.2 ∧ k32 (v1 + (1 : Int))) (kif (zT.2.2.2 ≤ (v1 + (1 : Int))) (some (0 : Int)) (some (v1 + (1 : Int))))
theorem m_X5_after {zT : tZ5} {u0 : tX5} {v1 : Int} {u1 : Int32} (e0 : u0 = (cX5 zT)) (e1 : u1 = (Int32.ofInt v1)) : sim Int32.ofInt (q_X5_after zT v1) (p_X5_after u0 u1) := by
  subst e0 e1
  unfold q_X5_after p_X5_after
  exact sim_g (fun g1 => sim_kif (i_le rfl (c_add rfl l32_1) g1.1 g1.2) (sim_some l32_0) (sim_some (c_add rfl l32_1)))

def q_X5_before (zT : tZ5) (v1 : Int) : Option Int :=
  kg (k32 v1) (kif (v1 ≤ (0 : Int)) (some (zT.2.2.2 - (1 : Int))) (some (v1 - (1 : Int))))
theorem m_X5_before {zT : tZ5} {u0 : tX5} {v1 : Int} {u1 : Int32} (e0 : u0 = (cX5 zT)) (e1 : u1 = (Int32.ofInt v1)) : sim Int32.ofInt (q_X5_before zT v1) (p_X5_before u0 u1) := by
  subst e0 e1
  unfold q_X5_before p_X5_before
  exact sim_g (fun g1 => sim_kif (i_le rfl l32_0 g1 (by decide)) (sim_some (c_sub rfl l32_1)) (sim_some (c_sub rfl l32_1)))

def q_X5_sideX (zT : tZ5) (v1 : Int) : Option Int :=
  kb (q_X5_after zT v1) (fun x1 : Int => kb (q_X5_x zT x1) (fun x2 : Int => kb (q_X5_x zT v1) (fun x3 : Int => kg (k32 (x2 - x3)) (some (x2 - x3)))))
theorem m_X5_sideX {zT : tZ5} {u0 : tX5} {v1 : Int} {u1 : Int32} (e0 : u0 = (cX5 zT)) (e1 : u1 = (Int32.ofInt v1)) : sim Int64.ofInt (q_X5_sideX zT v1) (p_X5_sideX u0 u1) := by
  subst e0 e1
  unfold q_X5_sideX p_X5_sideX
  exact sim_kb (c1 := Int32.ofInt) (m_X5_after rfl rfl) (fun x1 => sim_kb (c1 := Int32.ofInt) (m_X5_x rfl rfl) (fun x2 => sim_kb (c1 := Int32.ofInt) (m_X5_x rfl rfl) (fun x3 => sim_g (fun g1 => sim_some (c_toJ (c_sub rfl rfl) g1)))))

def q_X5_sideY (zT : tZ5) (v1 : Int) : Option Int :=
  kb (q_X5_after zT v1) (fun x1 : Int => kb (q_X5_y zT x1) (fun x2 : Int => kb (q_X5_y zT v1) (fun x3 : Int => kg (k32 (x2 - x3)) (some (x2 - x3)))))
theorem m_X5_sideY {zT : tZ5} {u0 : tX5} {v1 : Int} {u1 : Int32} (e0 : u0 = (cX5 zT)) (e1 : u1 = (Int32.ofInt v1)) : sim Int64.ofInt (q_X5_sideY zT v1) (p_X5_sideY u0 u1) := by
  subst e0 e1
  unfold q_X5_sideY p_X5_sideY
  exact sim_kb (c1 := Int32.ofInt) (m_X5_after rfl rfl) (fun x1 => sim_kb (c1 := Int32.ofInt) (m_X5_y rfl rfl) (fun x2 => sim_kb (c1 := Int32.ofInt) (m_X5_y rfl rfl) (fun x3 => sim_g (fun g1 => sim_some (c_toJ (c_sub rfl rfl) g1)))))

def q_X5_sideSquared (zT : tZ5) (v1 : Int) : Option Int :=
  kb (q_X5_sideX zT v1) (fun x1 : Int => kb (q_X5_sideX zT v1) (fun x2 : Int => kb (q_X5_sideY zT v1) (fun x3 : Int => kb (q_X5_sideY zT v1) (fun x4 : Int => some ((x1 * x2) + (x3 * x4))))))
theorem m_X5_sideSquared {zT : tZ5} {u0 : tX5} {v1 : Int} {u1 : Int32} (e0 : u0 = (cX5 zT)) (e1 : u1 = (Int32.ofInt v1)) : sim Int64.ofInt (q_X5_sideSquared zT v1) (p_X5_sideSquared u0 u1) := by
  subst e0 e1
  unfold q_X5_sideSquared p_X5_sideSquared
  exact sim_kb (c1 := Int64.ofInt) (m_X5_sideX rfl rfl) (fun x1 => sim_kb (c1 := Int64.ofInt) (m_X5_sideX rfl rfl) (fun x2 => sim_kb (c1 := Int64.ofInt) (m_X5_sideY rfl rfl) (fun x3 => sim_kb (c1 := Int64.ofInt) (m_X5_sideY rfl rfl) (fun x4 => sim_some (d_add (d_mul rfl rfl) (d_mul rfl rfl))))))

def q_X5_turn (zT : tZ5) (v1 : Int) (v2 : Int) (v3 : Int) : Option Int :=
  kb (q_X5_sideX zT v1) (fun x1 : Int => kb (q_X5_y zT v1) (fun x2 : Int => kb (q_X5_sideY zT v1) (fun x3 : Int => kb (q_X5_x zT v1) (fun x4 : Int => kg (k32 (v3 - x2) ∧ k32 (v2 - x4)) (some ((x1 * (v3 - x2)) - (x3 * (v2 - x4))))))))
theorem m_X5_turn {zT : tZ5} {u0 : tX5} {v1 : Int} {u1 : Int32} {v2 : Int} {u2 : Int32} {v3 : Int} {u3 : Int32} (e0 : u0 = (cX5 zT)) (e1 : u1 = (Int32.ofInt v1)) (e2 : u2 = (Int32.ofInt v2)) (e3 : u3 = (Int32.ofInt v3)) : sim Int64.ofInt (q_X5_turn zT v1 v2 v3) (p_X5_turn u0 u1 u2 u3) := by
  subst e0 e1 e2 e3
  unfold q_X5_turn p_X5_turn
  exact sim_kb (c1 := Int64.ofInt) (m_X5_sideX rfl rfl) (fun x1 => sim_kb (c1 := Int32.ofInt) (m_X5_y rfl rfl) (fun x2 => sim_kb (c1 := Int64.ofInt) (m_X5_sideY rfl rfl) (fun x3 => sim_kb (c1 := Int32.ofInt) (m_X5_x rfl rfl) (fun x4 => sim_g (fun g1 => sim_some (d_sub (d_mul rfl (c_toJ (c_sub rfl rfl) g1.1)) (d_mul rfl (c_toJ (c_sub rfl rfl) g1.2))))))))

def q_X5_lay_L0 (zP1 : tZ8) (v2 : Int) (v3 : Int) (s : tZ5) : Option (Nat × tZ5) :=
  kg (k32 s.2.2.2 ∧ k32 (v3 + (1 : Int))) (kif (s.2.2.2 ≤ (v3 + (1 : Int))) (some (56, s)) (kif (s.2.2.2 ≤ (1 : Int)) (some (56, s)) (kb (q_X8_x zP1 v2) (fun x1 : Int => kb (q_X8_y zP1 v2) (fun x2 : Int => kb (q_X5_turn s (s.2.2.2 - (2 : Int)) x1 x2) (fun x3 : Int => kg (k64 x3) (kif ((0 : Int) < x3) (some (56, s)) (kl (s.1, s.2.1, s.2.2.1, (s.2.2.2 - (1 : Int))) (fun z4 : ((Nat → Int) × (Nat → Int) × (Nat → Int) × Int) => some (0, z4))))))))))
theorem m_X5_lay_L0 {zP1 : tZ8} {u0 : tX8} {v2 : Int} {u1 : Int32} {v3 : Int} {u2 : Int32} {s : tZ5} {u3 : tX5} (e0 : u0 = (cX8 zP1)) (e1 : u1 = (Int32.ofInt v2)) (e2 : u2 = (Int32.ofInt v3)) (e3 : u3 = (cX5 s)) : sim (fun r : (Nat × tZ5) => (r.1, (cX5 r.2))) (q_X5_lay_L0 zP1 v2 v3 s) (p_X5_lay_L0 u0 u1 u2 u3) := by
  subst e0 e1 e2 e3
  unfold q_X5_lay_L0 p_X5_lay_L0
  exact sim_g (fun g1 => sim_kif (i_le rfl (c_add rfl l32_1) g1.1 g1.2) (sim_some rfl) (sim_kif (i_le rfl l32_1 g1.1 (by decide)) (sim_some rfl) (sim_kb (c1 := Int32.ofInt) (m_X8_x rfl rfl) (fun x1 => sim_kb (c1 := Int32.ofInt) (m_X8_y rfl rfl) (fun x2 => sim_kb (c1 := Int64.ofInt) (m_X5_turn rfl (c_sub rfl l32_2) rfl rfl) (fun x3 => sim_g (fun g2 => sim_kif (j_gt rfl l64_0 g2 (by decide)) (sim_some rfl) (sim_kl (c := (fun r : ((Nat → Int) × (Nat → Int) × (Nat → Int) × Int) => ((cF r.1), (cF r.2.1), (cF r.2.2.1), (Int32.ofInt r.2.2.2)))) (c_pr rfl (c_pr rfl (c_pr rfl (c_sub rfl l32_1)))) (fun z4 => sim_some rfl)))))))))

def q_X5_lay_J56 (zP1 : tZ8) (v2 : Int) (v3 : Int) (zT : tZ5) : Option tZ5 :=
  kg (k32 zT.2.2.2) (kif (zT.2.2.2 < (0 : Int)) (some zT) (kif (zT.2.2.2 < (82 : Int)) (kb (q_X8_x zP1 v2) (fun x6 : Int => kg (0 ≤ zT.2.2.2 ∧ zT.2.2.2 < 82) (kl ((va_up zT.1 (zT.2.2.2.toNat) x6), zT.2) (fun z7 : ((Nat → Int) × ((Nat → Int) × (Nat → Int) × Int)) => kb (q_X8_y zP1 v2) (fun x8 : Int => kg (0 ≤ z7.2.2.2 ∧ z7.2.2.2 < 82) (kl (z7.1, (va_up z7.2.1 (z7.2.2.2.toNat) x8), z7.2.2) (fun z9 : ((Nat → Int) × (Nat → Int) × ((Nat → Int) × Int)) => kb (q_X8_number zP1 v2) (fun x10 : Int => kg (0 ≤ z9.2.2.2 ∧ z9.2.2.2 < 82) (kl (z9.1, z9.2.1, (va_up z9.2.2.1 (z9.2.2.2.toNat) x10), z9.2.2.2) (fun z11 : ((Nat → Int) × (Nat → Int) × (Nat → Int) × Int) => kl (z11.1, z11.2.1, z11.2.2.1, (z11.2.2.2 + (1 : Int))) (fun z12 : ((Nat → Int) × (Nat → Int) × (Nat → Int) × Int) => some z12))))))))))) (some zT)))
theorem m_X5_lay_J56 {zP1 : tZ8} {u0 : tX8} {v2 : Int} {u1 : Int32} {v3 : Int} {u2 : Int32} {zT : tZ5} {u3 : tX5} (e0 : u0 = (cX8 zP1)) (e1 : u1 = (Int32.ofInt v2)) (e2 : u2 = (Int32.ofInt v3)) (e3 : u3 = (cX5 zT)) : sim cX5 (q_X5_lay_J56 zP1 v2 v3 zT) (p_X5_lay_J56 u0 u1 u2 u3) := by
  subst e0 e1 e2 e3
  unfold q_X5_lay_J56 p_X5_lay_J56
  exact sim_g (fun g1 => sim_kif (i_lt rfl l32_0 g1 (by decide)) (sim_some rfl) (sim_kif (i_lt rfl l32_82 g1 (by decide)) (sim_kb (c1 := Int32.ofInt) (m_X8_x rfl rfl) (fun x6 => sim_kii rfl (by decide) (fun g2 => sim_kl (c := (fun r : ((Nat → Int) × ((Nat → Int) × (Nat → Int) × Int)) => ((cF r.1), ((cF r.2.1), (cF r.2.2.1), (Int32.ofInt r.2.2.2))))) (c_pr (c_upd rfl (c_idx rfl g2 (by decide)) rfl) rfl) (fun z7 => sim_kb (c1 := Int32.ofInt) (m_X8_y rfl rfl) (fun x8 => sim_kii rfl (by decide) (fun g3 => sim_kl (c := (fun r : ((Nat → Int) × (Nat → Int) × ((Nat → Int) × Int)) => ((cF r.1), (cF r.2.1), ((cF r.2.2.1), (Int32.ofInt r.2.2.2))))) (c_pr rfl (c_pr (c_upd rfl (c_idx rfl g3 (by decide)) rfl) rfl)) (fun z9 => sim_kb (c1 := Int32.ofInt) (m_X8_number rfl rfl) (fun x10 => sim_kii rfl (by decide) (fun g4 => sim_kl (c := (fun r : ((Nat → Int) × (Nat → Int) × (Nat → Int) × Int) => ((cF r.1), (cF r.2.1), (cF r.2.2.1), (Int32.ofInt r.2.2.2)))) (c_pr rfl (c_pr rfl (c_pr (c_upd rfl (c_idx rfl g4 (by decide)) rfl) rfl))) (fun z11 => sim_kl (c := (fun r : ((Nat → Int) × (Nat → Int) × (Nat → Int) × Int) => ((cF r.1), (cF r.2.1), (cF r.2.2.1), (Int32.ofInt r.2.2.2)))) (c_pr rfl (c_pr rfl (c_pr rfl (c_add rfl l32_1)))) (fun z12 => sim_some rfl))))))))))) (sim_some rfl)))

def q_X5_lay (zT : tZ5) (zP1 : tZ8) (v2 : Int) (v3 : Int) : Option tZ5 :=
  kb (kitr 0 (fun q => q_X5_lay_L0 zP1 v2 v3 q) kF zT) (fun x5 : (Nat × tZ5) => kg ((x5.1 = 56)) (q_X5_lay_J56 zP1 v2 v3 x5.2))
theorem m_X5_lay {zT : tZ5} {u0 : tX5} {zP1 : tZ8} {u1 : tX8} {v2 : Int} {u2 : Int32} {v3 : Int} {u3 : Int32} (e0 : u0 = (cX5 zT)) (e1 : u1 = (cX8 zP1)) (e2 : u2 = (Int32.ofInt v2)) (e3 : u3 = (Int32.ofInt v3)) : sim cX5 (q_X5_lay zT zP1 v2 v3) (p_X5_lay u0 u1 u2 u3) := by
  subst e0 e1 e2 e3
  unfold q_X5_lay p_X5_lay
  exact sim_kb (c1 := (fun r : (Nat × tZ5) => (r.1, (cX5 r.2)))) (sim_kitr (c := cX5) (fun _ => m_X5_lay_L0 rfl rfl rfl rfl) rfl) (fun x5 => sim_kg Iff.rfl (m_X5_lay_J56 rfl rfl rfl rfl))

def q_X5_about_L7 (zP1 : tZ8) (s : (Int × tZ5)) : Option (Nat × (Int × tZ5)) :=
  kb (q_X8_count zP1) (fun x2 : Int => kg (k32 x2 ∧ k32 s.1) (kif (x2 ≤ s.1) (some (28, (s.1, s.2))) (kb (q_X5_lay s.2 zP1 s.1 (0 : Int)) (fun x3 : tZ5 => kl (s.1 + (1 : Int)) (fun y4 : Int => some (7, (y4, x3)))))))
theorem m_X5_about_L7 {zP1 : tZ8} {u0 : tX8} {s : (Int × tZ5)} {u1 : (Int32 × tX5)} (e0 : u0 = (cX8 zP1)) (e1 : u1 = ((Int32.ofInt s.1), (cX5 s.2))) : sim (fun r : (Nat × (Int × tZ5)) => (r.1, ((Int32.ofInt r.2.1), (cX5 r.2.2)))) (q_X5_about_L7 zP1 s) (p_X5_about_L7 u0 u1) := by
  subst e0 e1
  unfold q_X5_about_L7 p_X5_about_L7
  exact sim_kb (c1 := Int32.ofInt) (m_X8_count rfl) (fun x2 => sim_g (fun g1 => sim_kif (i_le rfl rfl g1.1 g1.2) (sim_some rfl) (sim_kb (c1 := cX5) (m_X5_lay rfl rfl rfl l32_0) (fun x3 => sim_kl (c := Int32.ofInt) (c_add rfl l32_1) (fun y4 => sim_some rfl)))))

def q_X5_about_L42 (zP1 : tZ8) (v2 : Int) (s : (Int × tZ5)) : Option (Nat × (Int × tZ5)) :=
  kg (k32 s.1) (kif (s.1 < (0 : Int)) (some (59, (s.1, s.2))) (kb (q_X5_lay s.2 zP1 s.1 v2) (fun x9 : tZ5 => kl (s.1 + (-1 : Int)) (fun y10 : Int => some (42, (y10, x9))))))
theorem m_X5_about_L42 {zP1 : tZ8} {u0 : tX8} {v2 : Int} {u1 : Int32} {s : (Int × tZ5)} {u2 : (Int32 × tX5)} (e0 : u0 = (cX8 zP1)) (e1 : u1 = (Int32.ofInt v2)) (e2 : u2 = ((Int32.ofInt s.1), (cX5 s.2))) : sim (fun r : (Nat × (Int × tZ5)) => (r.1, ((Int32.ofInt r.2.1), (cX5 r.2.2)))) (q_X5_about_L42 zP1 v2 s) (p_X5_about_L42 u0 u1 u2) := by
  subst e0 e1 e2
  unfold q_X5_about_L42 p_X5_about_L42
  exact sim_g (fun g1 => sim_kif (i_lt rfl l32_0 g1 (by decide)) (sim_some rfl) (sim_kb (c1 := cX5) (m_X5_lay rfl rfl rfl rfl) (fun x9 => sim_kl (c := Int32.ofInt) (c_add rfl l32_m1) (fun y10 => sim_some rfl))))

def q_X5_about (zT : tZ5) (zP1 : tZ8) : Option tZ5 :=
  kl (zT.1, zT.2.1, zT.2.2.1, (0 : Int)) (fun z1 : ((Nat → Int) × (Nat → Int) × (Nat → Int) × Int) => kb (kitr 7 (fun q => q_X5_about_L7 zP1 q) kF ((0 : Int), z1)) (fun x5 : (Nat × Int × tZ5) => kg ((x5.1 = 28)) (kl (x5.2.2.2.2.2 - (1 : Int)) (fun y6 : Int => kb (q_X8_count zP1) (fun x7 : Int => kl (x7 - (2 : Int)) (fun y8 : Int => kb (kitr 42 (fun q => q_X5_about_L42 zP1 y6 q) kF (y8, x5.2.2)) (fun x11 : (Nat × Int × tZ5) => kg ((x11.1 = 59)) (kg (k32 x11.2.2.2.2.2) (kif (x11.2.2.2.2.2 ≤ (1 : Int)) (some x11.2.2) (kl (x11.2.2.1, x11.2.2.2.1, x11.2.2.2.2.1, (x11.2.2.2.2.2 - (1 : Int))) (fun z12 : ((Nat → Int) × (Nat → Int) × (Nat → Int) × Int) => some z12)))))))))))
theorem m_X5_about {zT : tZ5} {u0 : tX5} {zP1 : tZ8} {u1 : tX8} (e0 : u0 = (cX5 zT)) (e1 : u1 = (cX8 zP1)) : sim cX5 (q_X5_about zT zP1) (p_X5_about u0 u1) := by
  subst e0 e1
  unfold q_X5_about p_X5_about
  exact sim_kl (c := (fun r : ((Nat → Int) × (Nat → Int) × (Nat → Int) × Int) => ((cF r.1), (cF r.2.1), (cF r.2.2.1), (Int32.ofInt r.2.2.2)))) (c_pr rfl (c_pr rfl (c_pr rfl l32_0))) (fun z1 => sim_kb (c1 := (fun r : (Nat × Int × tZ5) => (r.1, (Int32.ofInt r.2.1), (cX5 r.2.2)))) (sim_kitr (c := (fun r : (Int × tZ5) => ((Int32.ofInt r.1), (cX5 r.2)))) (fun _ => m_X5_about_L7 rfl rfl) (c_pr l32_0 rfl)) (fun x5 => sim_kg Iff.rfl (sim_kl (c := Int32.ofInt) (c_sub rfl l32_1) (fun y6 => sim_kb (c1 := Int32.ofInt) (m_X8_count rfl) (fun x7 => sim_kl (c := Int32.ofInt) (c_sub rfl l32_2) (fun y8 => sim_kb (c1 := (fun r : (Nat × Int × tZ5) => (r.1, (Int32.ofInt r.2.1), (cX5 r.2.2)))) (sim_kitr (c := (fun r : (Int × tZ5) => ((Int32.ofInt r.1), (cX5 r.2)))) (fun _ => m_X5_about_L42 rfl rfl rfl) rfl) (fun x11 => sim_kg Iff.rfl (sim_g (fun g1 => sim_kif (i_le rfl l32_1 g1 (by decide)) (sim_some rfl) (sim_kl (c := (fun r : ((Nat → Int) × (Nat → Int) × (Nat → Int) × Int) => ((cF r.1), (cF r.2.1), (cF r.2.2.1), (Int32.ofInt r.2.2.2)))) (c_pr rfl (c_pr rfl (c_pr rfl (c_sub rfl l32_1)))) (fun z12 => sim_some rfl)))))))))))

def q_X5_twiceArea_L4 (zT : tZ5) (s : (Int × Int)) : Option (Nat × (Int × Int)) :=
  kg (k32 zT.2.2.2 ∧ k32 s.2) (kif (zT.2.2.2 ≤ s.2) (some (36, (s.1, s.2))) (kb (q_X5_x zT (0 : Int)) (fun x1 : Int => kb (q_X5_y zT (0 : Int)) (fun x2 : Int => kb (q_X5_turn zT s.2 x1 x2) (fun x3 : Int => kl (s.1 + x3) (fun y4 : Int => kl (s.2 + (1 : Int)) (fun y5 : Int => some (4, (y4, y5)))))))))
theorem m_X5_twiceArea_L4 {zT : tZ5} {u0 : tX5} {s : (Int × Int)} {u1 : (Int64 × Int32)} (e0 : u0 = (cX5 zT)) (e1 : u1 = ((Int64.ofInt s.1), (Int32.ofInt s.2))) : sim (fun r : (Nat × (Int × Int)) => (r.1, ((Int64.ofInt r.2.1), (Int32.ofInt r.2.2)))) (q_X5_twiceArea_L4 zT s) (p_X5_twiceArea_L4 u0 u1) := by
  subst e0 e1
  unfold q_X5_twiceArea_L4 p_X5_twiceArea_L4
  exact sim_g (fun g1 => sim_kif (i_le rfl rfl g1.1 g1.2) (sim_some rfl) (sim_kb (c1 := Int32.ofInt) (m_X5_x rfl l32_0) (fun x1 => sim_kb (c1 := Int32.ofInt) (m_X5_y rfl l32_0) (fun x2 => sim_kb (c1 := Int64.ofInt) (m_X5_turn rfl rfl rfl rfl) (fun x3 => sim_kl (c := Int64.ofInt) (d_add rfl rfl) (fun y4 => sim_kl (c := Int32.ofInt) (c_add rfl l32_1) (fun y5 => sim_some rfl)))))))

def q_X5_twiceArea (zT : tZ5) : Option Int :=
  kb (kitr 4 (fun q => q_X5_twiceArea_L4 zT q) kF ((0 : Int), (0 : Int))) (fun x6 : (Nat × Int × Int) => kg ((x6.1 = 36)) (some x6.2.1))
theorem m_X5_twiceArea {zT : tZ5} {u0 : tX5} (e0 : u0 = (cX5 zT)) : sim Int64.ofInt (q_X5_twiceArea zT) (p_X5_twiceArea u0) := by
  subst e0
  unfold q_X5_twiceArea p_X5_twiceArea
  exact sim_kb (c1 := (fun r : (Nat × Int × Int) => (r.1, (Int64.ofInt r.2.1), (Int32.ofInt r.2.2)))) (sim_kitr (c := (fun r : (Int × Int) => ((Int64.ofInt r.1), (Int32.ofInt r.2)))) (fun _ => m_X5_twiceArea_L4 rfl rfl) (c_pr l64_0 l32_0)) (fun x6 => sim_kg Iff.rfl (sim_some rfl))

def q_X5_height_L5 (zT : tZ5) (v1 : Int) (s : (Int × Int)) : Option (Nat × (Int × Int)) :=
  kg (k32 zT.2.2.2 ∧ k32 s.2) (kif (zT.2.2.2 ≤ s.2) (some (44, (s.1, s.2))) (kg (0 ≤ s.2 ∧ s.2 < 82) (kb (q_X5_turn zT v1 (zT.1 (s.2.toNat)) (zT.2.1 (s.2.toNat))) (fun x1 : Int => kb (q_J9_max_f86c9 s.1 x1) (fun x2 : Int => kl (s.2 + (1 : Int)) (fun y3 : Int => some (5, (x2, y3))))))))
theorem m_X5_height_L5 {zT : tZ5} {u0 : tX5} {v1 : Int} {u1 : Int32} {s : (Int × Int)} {u2 : (Int64 × Int32)} (e0 : u0 = (cX5 zT)) (e1 : u1 = (Int32.ofInt v1)) (e2 : u2 = ((Int64.ofInt s.1), (Int32.ofInt s.2))) : sim (fun r : (Nat × (Int × Int)) => (r.1, ((Int64.ofInt r.2.1), (Int32.ofInt r.2.2)))) (q_X5_height_L5 zT v1 s) (p_X5_height_L5 u0 u1 u2) := by
  subst e0 e1 e2
  unfold q_X5_height_L5 p_X5_height_L5
  exact sim_g (fun g1 => sim_kif (i_le rfl rfl g1.1 g1.2) (sim_some rfl) (sim_kii rfl (by decide) (fun g2 => sim_kii0 rfl (by decide) g2 (sim_kb (c1 := Int64.ofInt) (m_X5_turn rfl rfl (c_ap zT.1 (c_idx rfl g2 (by decide))) (c_ap zT.2.1 (c_idx rfl g2 (by decide)))) (fun x1 => sim_kb (c1 := Int64.ofInt) (m_J9_max_f86c9 rfl rfl) (fun x2 => sim_kl (c := Int32.ofInt) (c_add rfl l32_1) (fun y3 => sim_some rfl)))))))

def q_X5_height (zT : tZ5) (v1 : Int) : Option Int :=
  kb (kitr 5 (fun q => q_X5_height_L5 zT v1 q) kF ((0 : Int), (0 : Int))) (fun x4 : (Nat × Int × Int) => kg ((x4.1 = 44)) (some x4.2.1))
theorem m_X5_height {zT : tZ5} {u0 : tX5} {v1 : Int} {u1 : Int32} (e0 : u0 = (cX5 zT)) (e1 : u1 = (Int32.ofInt v1)) : sim Int64.ofInt (q_X5_height zT v1) (p_X5_height u0 u1) := by
  subst e0 e1
  unfold q_X5_height p_X5_height
  exact sim_kb (c1 := (fun r : (Nat × Int × Int) => (r.1, (Int64.ofInt r.2.1), (Int32.ofInt r.2.2)))) (sim_kitr (c := (fun r : (Int × Int) => ((Int64.ofInt r.1), (Int32.ofInt r.2)))) (fun _ => m_X5_height_L5 rfl rfl rfl) (c_pr l64_0 l32_0)) (fun x4 => sim_kg Iff.rfl (sim_some rfl))

def q_X5_narrowest_J43_4 (zT : tZ5) (zP1 : tZ3) (v3 : Int) (v4 : Int) : Option (Nat × (Int × Int × tZ3)) :=
  kb (q_X5_sideSquared zT v3) (fun x4 : Int => kb (q_X3_set zP1 v4 x4) (fun x5 : tZ3 => kl (v3 + (1 : Int)) (fun y6 : Int => some (4, (v3, y6, x5)))))
theorem m_X5_narrowest_J43_4 {zT : tZ5} {u0 : tX5} {zP1 : tZ3} {u1 : tX3} {v3 : Int} {u2 : Int32} {v4 : Int} {u3 : Int64} (e0 : u0 = (cX5 zT)) (e1 : u1 = (cX3 zP1)) (e2 : u2 = (Int32.ofInt v3)) (e3 : u3 = (Int64.ofInt v4)) : sim (fun r : (Nat × (Int × Int × tZ3)) => (r.1, ((Int32.ofInt r.2.1), (Int32.ofInt r.2.2.1), (cX3 r.2.2.2)))) (q_X5_narrowest_J43_4 zT zP1 v3 v4) (p_X5_narrowest_J43_4 u0 u1 u2 u3) := by
  subst e0 e1 e2 e3
  unfold q_X5_narrowest_J43_4 p_X5_narrowest_J43_4
  exact sim_kb (c1 := Int64.ofInt) (m_X5_sideSquared rfl rfl) (fun x4 => sim_kb (c1 := cX3) (m_X3_set rfl rfl rfl) (fun x5 => sim_kl (c := Int32.ofInt) (c_add rfl l32_1) (fun y6 => sim_some rfl)))

def q_X5_narrowest_L4 (zT : tZ5) (s : (Int × Int × tZ3)) : Option (Nat × (Int × Int × tZ3)) :=
  kg (k32 zT.2.2.2 ∧ k32 s.2.1) (kif (zT.2.2.2 ≤ s.2.1) (some (62, (s.1, s.2.1, s.2.2))) (kb (q_X5_height zT s.2.1) (fun x1 : Int => kb (q_X5_height zT s.2.1) (fun x2 : Int => kl (x1 * x2) (fun y3 : Int => kif (s.2.1 = (0 : Int)) (q_X5_narrowest_J43_4 zT s.2.2 s.2.1 y3) (kb (q_X5_sideSquared zT s.2.1) (fun x7 : Int => kb (q_X3_against s.2.2 y3 x7) (fun x8 : Int => kg (k32 x8) (kif (x8 ≤ (0 : Int)) (kl (s.2.1 + (1 : Int)) (fun y9 : Int => some (4, (s.1, y9, s.2.2)))) (q_X5_narrowest_J43_4 zT s.2.2 s.2.1 y3))))))))))
theorem m_X5_narrowest_L4 {zT : tZ5} {u0 : tX5} {s : (Int × Int × tZ3)} {u1 : (Int32 × Int32 × tX3)} (e0 : u0 = (cX5 zT)) (e1 : u1 = ((Int32.ofInt s.1), (Int32.ofInt s.2.1), (cX3 s.2.2))) : sim (fun r : (Nat × (Int × Int × tZ3)) => (r.1, ((Int32.ofInt r.2.1), (Int32.ofInt r.2.2.1), (cX3 r.2.2.2)))) (q_X5_narrowest_L4 zT s) (p_X5_narrowest_L4 u0 u1) := by
  subst e0 e1
  unfold q_X5_narrowest_L4 p_X5_narrowest_L4
  exact sim_g (fun g1 => sim_kif (i_le rfl rfl g1.1 g1.2) (sim_some rfl) (sim_kb (c1 := Int64.ofInt) (m_X5_height rfl rfl) (fun x1 => sim_kb (c1 := Int64.ofInt) (m_X5_height rfl rfl) (fun x2 => sim_kl (c := Int64.ofInt) (d_mul rfl rfl) (fun y3 => sim_kif (i_eq rfl l32_0 g1.2 (by decide)) (m_X5_narrowest_J43_4 rfl rfl rfl rfl) (sim_kb (c1 := Int64.ofInt) (m_X5_sideSquared rfl rfl) (fun x7 => sim_kb (c1 := Int32.ofInt) (m_X3_against rfl rfl rfl) (fun x8 => sim_g (fun g2 => sim_kif (i_le rfl l32_0 g2 (by decide)) (sim_kl (c := Int32.ofInt) (c_add rfl l32_1) (fun y9 => sim_some rfl)) (m_X5_narrowest_J43_4 rfl rfl rfl rfl))))))))))

def q_X5_narrowest (zT : tZ5) (zP1 : tZ3) : Option (Int × tZ3) :=
  kb (kitr 4 (fun q => q_X5_narrowest_L4 zT q) kF ((0 : Int), (0 : Int), zP1)) (fun x10 : (Nat × Int × Int × tZ3) => kg ((x10.1 = 62)) (kb (q_X5_number zT x10.2.1) (fun x11 : Int => some (x11, x10.2.2.2))))
theorem m_X5_narrowest {zT : tZ5} {u0 : tX5} {zP1 : tZ3} {u1 : tX3} (e0 : u0 = (cX5 zT)) (e1 : u1 = (cX3 zP1)) : sim (fun r : (Int × tZ3) => ((Int32.ofInt r.1), (cX3 r.2))) (q_X5_narrowest zT zP1) (p_X5_narrowest u0 u1) := by
  subst e0 e1
  unfold q_X5_narrowest p_X5_narrowest
  exact sim_kb (c1 := (fun r : (Nat × Int × Int × tZ3) => (r.1, (Int32.ofInt r.2.1), (Int32.ofInt r.2.2.1), (cX3 r.2.2.2)))) (sim_kitr (c := (fun r : (Int × Int × tZ3) => ((Int32.ofInt r.1), (Int32.ofInt r.2.1), (cX3 r.2.2)))) (fun _ => m_X5_narrowest_L4 rfl rfl) (c_pr l32_0 (c_pr l32_0 rfl))) (fun x10 => sim_kg Iff.rfl (sim_kb (c1 := Int32.ofInt) (m_X5_number rfl rfl) (fun x11 => sim_some rfl)))

def q_X5_most_L24 (zT : tZ5) (v1 : Int) (v3 : Int) (s : (Int × Int)) : Option (Nat × (Int × Int)) :=
  kg (k32 zT.2.2.2 ∧ k32 s.2) (kif (zT.2.2.2 ≤ s.2) (some (67, (s.1, s.2))) (kg (0 ≤ s.2 ∧ s.2 < 82) (kg (k32 (zT.1 (s.2.toNat)) ∧ k32 (zT.2.1 (s.2.toNat))) (kb (q_J9_max_f86c9 s.1 ((v1 * (zT.1 (s.2.toNat))) + (v3 * (zT.2.1 (s.2.toNat))))) (fun x2 : Int => kl (s.2 + (1 : Int)) (fun y3 : Int => some (24, (x2, y3))))))))
theorem m_X5_most_L24 {zT : tZ5} {u0 : tX5} {v1 : Int} {u1 : Int64} {v3 : Int} {u2 : Int64} {s : (Int × Int)} {u3 : (Int64 × Int32)} (e0 : u0 = (cX5 zT)) (e1 : u1 = (Int64.ofInt v1)) (e2 : u2 = (Int64.ofInt v3)) (e3 : u3 = ((Int64.ofInt s.1), (Int32.ofInt s.2))) : sim (fun r : (Nat × (Int × Int)) => (r.1, ((Int64.ofInt r.2.1), (Int32.ofInt r.2.2)))) (q_X5_most_L24 zT v1 v3 s) (p_X5_most_L24 u0 u1 u2 u3) := by
  subst e0 e1 e2 e3
  unfold q_X5_most_L24 p_X5_most_L24
  exact sim_g (fun g1 => sim_kif (i_le rfl rfl g1.1 g1.2) (sim_some rfl) (sim_kii rfl (by decide) (fun g2 => sim_kii0 rfl (by decide) g2 (sim_g (fun g3 => sim_kb (c1 := Int64.ofInt) (m_J9_max_f86c9 rfl (d_add (d_mul rfl (c_toJ (c_ap zT.1 (c_idx rfl g2 (by decide))) g3.1)) (d_mul rfl (c_toJ (c_ap zT.2.1 (c_idx rfl g2 (by decide))) g3.2)))) (fun x2 => sim_kl (c := Int32.ofInt) (c_add rfl l32_1) (fun y3 => sim_some rfl)))))))

def q_X5_most (zT : tZ5) (v1 : Int) (v3 : Int) : Option Int :=
  kg (0 ≤ (0 : Int) ∧ (0 : Int) < 82) (kg (k32 (zT.1 ((0 : Int).toNat)) ∧ k32 (zT.2.1 ((0 : Int).toNat))) (kl ((v1 * (zT.1 ((0 : Int).toNat))) + (v3 * (zT.2.1 ((0 : Int).toNat)))) (fun y1 : Int => kb (kitr 24 (fun q => q_X5_most_L24 zT v1 v3 q) kF (y1, (1 : Int))) (fun x4 : (Nat × Int × Int) => kg ((x4.1 = 67)) (some x4.2.1)))))
theorem m_X5_most {zT : tZ5} {u0 : tX5} {v1 : Int} {u1 : Int64} {v3 : Int} {u2 : Int64} (e0 : u0 = (cX5 zT)) (e1 : u1 = (Int64.ofInt v1)) (e2 : u2 = (Int64.ofInt v3)) : sim Int64.ofInt (q_X5_most zT v1 v3) (p_X5_most u0 u1 u2) := by
  subst e0 e1 e2
  unfold q_X5_most p_X5_most
  exact sim_kii l32_0 (by decide) (fun g1 => sim_kii0 l32_0 (by decide) g1 (sim_g (fun g2 => sim_kl (c := Int64.ofInt) (d_add (d_mul rfl (c_toJ (c_ap zT.1 (c_idx l32_0 g1 (by decide))) g2.1)) (d_mul rfl (c_toJ (c_ap zT.2.1 (c_idx l32_0 g1 (by decide))) g2.2))) (fun y1 => sim_kb (c1 := (fun r : (Nat × Int × Int) => (r.1, (Int64.ofInt r.2.1), (Int32.ofInt r.2.2)))) (sim_kitr (c := (fun r : (Int × Int) => ((Int64.ofInt r.1), (Int32.ofInt r.2)))) (fun _ => m_X5_most_L24 rfl rfl rfl rfl) (c_pr rfl l32_1)) (fun x4 => sim_kg Iff.rfl (sim_some rfl))))))

def q_X5_least_L24 (zT : tZ5) (v1 : Int) (v3 : Int) (s : (Int × Int)) : Option (Nat × (Int × Int)) :=
  kg (k32 zT.2.2.2 ∧ k32 s.2) (kif (zT.2.2.2 ≤ s.2) (some (67, (s.1, s.2))) (kg (0 ≤ s.2 ∧ s.2 < 82) (kg (k32 (zT.1 (s.2.toNat)) ∧ k32 (zT.2.1 (s.2.toNat))) (kb (q_J9_min_f86c9 s.1 ((v1 * (zT.1 (s.2.toNat))) + (v3 * (zT.2.1 (s.2.toNat))))) (fun x2 : Int => kl (s.2 + (1 : Int)) (fun y3 : Int => some (24, (x2, y3))))))))
theorem m_X5_least_L24 {zT : tZ5} {u0 : tX5} {v1 : Int} {u1 : Int64} {v3 : Int} {u2 : Int64} {s : (Int × Int)} {u3 : (Int64 × Int32)} (e0 : u0 = (cX5 zT)) (e1 : u1 = (Int64.ofInt v1)) (e2 : u2 = (Int64.ofInt v3)) (e3 : u3 = ((Int64.ofInt s.1), (Int32.ofInt s.2))) : sim (fun r : (Nat × (Int × Int)) => (r.1, ((Int64.ofInt r.2.1), (Int32.ofInt r.2.2)))) (q_X5_least_L24 zT v1 v3 s) (p_X5_least_L24 u0 u1 u2 u3) := by
  subst e0 e1 e2 e3
  unfold q_X5_least_L24 p_X5_least_L24
  exact sim_g (fun g1 => sim_kif (i_le rfl rfl g1.1 g1.2) (sim_some rfl) (sim_kii rfl (by decide) (fun g2 => sim_kii0 rfl (by decide) g2 (sim_g (fun g3 => sim_kb (c1 := Int64.ofInt) (m_J9_min_f86c9 rfl (d_add (d_mul rfl (c_toJ (c_ap zT.1 (c_idx rfl g2 (by decide))) g3.1)) (d_mul rfl (c_toJ (c_ap zT.2.1 (c_idx rfl g2 (by decide))) g3.2)))) (fun x2 => sim_kl (c := Int32.ofInt) (c_add rfl l32_1) (fun y3 => sim_some rfl)))))))

def q_X5_least (zT : tZ5) (v1 : Int) (v3 : Int) : Option Int :=
  kg (0 ≤ (0 : Int) ∧ (0 : Int) < 82) (kg (k32 (zT.1 ((0 : Int).toNat)) ∧ k32 (zT.2.1 ((0 : Int).toNat))) (kl ((v1 * (zT.1 ((0 : Int).toNat))) + (v3 * (zT.2.1 ((0 : Int).toNat)))) (fun y1 : Int => kb (kitr 24 (fun q => q_X5_least_L24 zT v1 v3 q) kF (y1, (1 : Int))) (fun x4 : (Nat × Int × Int) => kg ((x4.1 = 67)) (some x4.2.1)))))
theorem m_X5_least {zT : tZ5} {u0 : tX5} {v1 : Int} {u1 : Int64} {v3 : Int} {u2 : Int64} (e0 : u0 = (cX5 zT)) (e1 : u1 = (Int64.ofInt v1)) (e2 : u2 = (Int64.ofInt v3)) : sim Int64.ofInt (q_X5_least zT v1 v3) (p_X5_least u0 u1 u2) := by
  subst e0 e1 e2
  unfold q_X5_least p_X5_least
  exact sim_kii l32_0 (by decide) (fun g1 => sim_kii0 l32_0 (by decide) g1 (sim_g (fun g2 => sim_kl (c := Int64.ofInt) (d_add (d_mul rfl (c_toJ (c_ap zT.1 (c_idx l32_0 g1 (by decide))) g2.1)) (d_mul rfl (c_toJ (c_ap zT.2.1 (c_idx l32_0 g1 (by decide))) g2.2))) (fun y1 => sim_kb (c1 := (fun r : (Nat × Int × Int) => (r.1, (Int64.ofInt r.2.1), (Int32.ofInt r.2.2)))) (sim_kitr (c := (fun r : (Int × Int) => ((Int64.ofInt r.1), (Int32.ofInt r.2)))) (fun _ => m_X5_least_L24 rfl rfl rfl rfl) (c_pr rfl l32_1)) (fun x4 => sim_kg Iff.rfl (sim_some rfl))))))

def q_X5_leastBox_J67_4 (zT : tZ5) (zP1 : tZ3) (v3 : Int) (v4 : Int) : Option (Nat × (Int × Int × tZ3)) :=
  kb (q_X5_sideSquared zT v3) (fun x9 : Int => kb (q_X3_set zP1 v4 x9) (fun x10 : tZ3 => kl (v3 + (1 : Int)) (fun y11 : Int => some (4, (v3, y11, x10)))))
theorem m_X5_leastBox_J67_4 {zT : tZ5} {u0 : tX5} {zP1 : tZ3} {u1 : tX3} {v3 : Int} {u2 : Int32} {v4 : Int} {u3 : Int64} (e0 : u0 = (cX5 zT)) (e1 : u1 = (cX3 zP1)) (e2 : u2 = (Int32.ofInt v3)) (e3 : u3 = (Int64.ofInt v4)) : sim (fun r : (Nat × (Int × Int × tZ3)) => (r.1, ((Int32.ofInt r.2.1), (Int32.ofInt r.2.2.1), (cX3 r.2.2.2)))) (q_X5_leastBox_J67_4 zT zP1 v3 v4) (p_X5_leastBox_J67_4 u0 u1 u2 u3) := by
  subst e0 e1 e2 e3
  unfold q_X5_leastBox_J67_4 p_X5_leastBox_J67_4
  exact sim_kb (c1 := Int64.ofInt) (m_X5_sideSquared rfl rfl) (fun x9 => sim_kb (c1 := cX3) (m_X3_set rfl rfl rfl) (fun x10 => sim_kl (c := Int32.ofInt) (c_add rfl l32_1) (fun y11 => sim_some rfl)))

def q_X5_leastBox_L4 (zT : tZ5) (s : (Int × Int × tZ3)) : Option (Nat × (Int × Int × tZ3)) :=
  kg (k32 zT.2.2.2 ∧ k32 s.2.1) (kif (zT.2.2.2 ≤ s.2.1) (some (86, (s.1, s.2.1, s.2.2))) (kb (q_X5_height zT s.2.1) (fun x1 : Int => kb (q_X5_sideX zT s.2.1) (fun x2 : Int => kb (q_X5_sideY zT s.2.1) (fun x3 : Int => kb (q_X5_most zT x2 x3) (fun x4 : Int => kb (q_X5_sideX zT s.2.1) (fun x5 : Int => kb (q_X5_sideY zT s.2.1) (fun x6 : Int => kb (q_X5_least zT x5 x6) (fun x7 : Int => kl (x1 * (x4 - x7)) (fun y8 : Int => kif (s.2.1 = (0 : Int)) (q_X5_leastBox_J67_4 zT s.2.2 s.2.1 y8) (kb (q_X5_sideSquared zT s.2.1) (fun x12 : Int => kb (q_X3_against s.2.2 y8 x12) (fun x13 : Int => kg (k32 x13) (kif (x13 ≤ (0 : Int)) (kl (s.2.1 + (1 : Int)) (fun y14 : Int => some (4, (s.1, y14, s.2.2)))) (q_X5_leastBox_J67_4 zT s.2.2 s.2.1 y8)))))))))))))))
theorem m_X5_leastBox_L4 {zT : tZ5} {u0 : tX5} {s : (Int × Int × tZ3)} {u1 : (Int32 × Int32 × tX3)} (e0 : u0 = (cX5 zT)) (e1 : u1 = ((Int32.ofInt s.1), (Int32.ofInt s.2.1), (cX3 s.2.2))) : sim (fun r : (Nat × (Int × Int × tZ3)) => (r.1, ((Int32.ofInt r.2.1), (Int32.ofInt r.2.2.1), (cX3 r.2.2.2)))) (q_X5_leastBox_L4 zT s) (p_X5_leastBox_L4 u0 u1) := by
  subst e0 e1
  unfold q_X5_leastBox_L4 p_X5_leastBox_L4
  exact sim_g (fun g1 => sim_kif (i_le rfl rfl g1.1 g1.2) (sim_some rfl) (sim_kb (c1 := Int64.ofInt) (m_X5_height rfl rfl) (fun x1 => sim_kb (c1 := Int64.ofInt) (m_X5_sideX rfl rfl) (fun x2 => sim_kb (c1 := Int64.ofInt) (m_X5_sideY rfl rfl) (fun x3 => sim_kb (c1 := Int64.ofInt) (m_X5_most rfl rfl rfl) (fun x4 => sim_kb (c1 := Int64.ofInt) (m_X5_sideX rfl rfl) (fun x5 => sim_kb (c1 := Int64.ofInt) (m_X5_sideY rfl rfl) (fun x6 => sim_kb (c1 := Int64.ofInt) (m_X5_least rfl rfl rfl) (fun x7 => sim_kl (c := Int64.ofInt) (d_mul rfl (d_sub rfl rfl)) (fun y8 => sim_kif (i_eq rfl l32_0 g1.2 (by decide)) (m_X5_leastBox_J67_4 rfl rfl rfl rfl) (sim_kb (c1 := Int64.ofInt) (m_X5_sideSquared rfl rfl) (fun x12 => sim_kb (c1 := Int32.ofInt) (m_X3_against rfl rfl rfl) (fun x13 => sim_g (fun g2 => sim_kif (i_le rfl l32_0 g2 (by decide)) (sim_kl (c := Int32.ofInt) (c_add rfl l32_1) (fun y14 => sim_some rfl)) (m_X5_leastBox_J67_4 rfl rfl rfl rfl)))))))))))))))

def q_X5_leastBox (zT : tZ5) (zP1 : tZ3) : Option (Int × tZ3) :=
  kb (kitr 4 (fun q => q_X5_leastBox_L4 zT q) kF ((0 : Int), (0 : Int), zP1)) (fun x15 : (Nat × Int × Int × tZ3) => kg ((x15.1 = 86)) (kb (q_X5_number zT x15.2.1) (fun x16 : Int => some (x16, x15.2.2.2))))
theorem m_X5_leastBox {zT : tZ5} {u0 : tX5} {zP1 : tZ3} {u1 : tX3} (e0 : u0 = (cX5 zT)) (e1 : u1 = (cX3 zP1)) : sim (fun r : (Int × tZ3) => ((Int32.ofInt r.1), (cX3 r.2))) (q_X5_leastBox zT zP1) (p_X5_leastBox u0 u1) := by
  subst e0 e1
  unfold q_X5_leastBox p_X5_leastBox
  exact sim_kb (c1 := (fun r : (Nat × Int × Int × tZ3) => (r.1, (Int32.ofInt r.2.1), (Int32.ofInt r.2.2.1), (cX3 r.2.2.2)))) (sim_kitr (c := (fun r : (Int × Int × tZ3) => ((Int32.ofInt r.1), (Int32.ofInt r.2.1), (cX3 r.2.2)))) (fun _ => m_X5_leastBox_L4 rfl rfl) (c_pr l32_0 (c_pr l32_0 rfl))) (fun x15 => sim_kg Iff.rfl (sim_kb (c1 := Int32.ofInt) (m_X5_number rfl rfl) (fun x16 => sim_some rfl)))

def q_X5_farthest_L11 (zT : tZ5) (v1 : Int) (v3 : Int) (v5 : Int) (s : Int) : Option (Nat × Int) :=
  kg (k32 zT.2.2.2 ∧ k32 s) (kif (zT.2.2.2 ≤ s) (some (56, s)) (kg (0 ≤ s ∧ s < 82) (kg (k32 (zT.1 (s.toNat)) ∧ k32 (zT.2.1 (s.toNat)) ∧ k64 ((v1 * (zT.1 (s.toNat))) + (v3 * (zT.2.1 (s.toNat)))) ∧ k64 v5) (kif (((v1 * (zT.1 (s.toNat))) + (v3 * (zT.2.1 (s.toNat)))) = v5) (some (47, s)) (kl (s + (1 : Int)) (fun y2 : Int => some (11, y2)))))))
theorem m_X5_farthest_L11 {zT : tZ5} {u0 : tX5} {v1 : Int} {u1 : Int64} {v3 : Int} {u2 : Int64} {v5 : Int} {u3 : Int64} {s : Int} {u4 : Int32} (e0 : u0 = (cX5 zT)) (e1 : u1 = (Int64.ofInt v1)) (e2 : u2 = (Int64.ofInt v3)) (e3 : u3 = (Int64.ofInt v5)) (e4 : u4 = (Int32.ofInt s)) : sim (fun r : (Nat × Int) => (r.1, (Int32.ofInt r.2))) (q_X5_farthest_L11 zT v1 v3 v5 s) (p_X5_farthest_L11 u0 u1 u2 u3 u4) := by
  subst e0 e1 e2 e3 e4
  unfold q_X5_farthest_L11 p_X5_farthest_L11
  exact sim_g (fun g1 => sim_kif (i_le rfl rfl g1.1 g1.2) (sim_some rfl) (sim_kii rfl (by decide) (fun g2 => sim_kii0 rfl (by decide) g2 (sim_g (fun g3 => sim_kif (j_eq (d_add (d_mul rfl (c_toJ (c_ap zT.1 (c_idx rfl g2 (by decide))) g3.1)) (d_mul rfl (c_toJ (c_ap zT.2.1 (c_idx rfl g2 (by decide))) g3.2.1))) rfl g3.2.2.1 g3.2.2.2) (sim_some rfl) (sim_kl (c := Int32.ofInt) (c_add rfl l32_1) (fun y2 => sim_some rfl)))))))

def q_X5_farthest (zT : tZ5) (v1 : Int) (v3 : Int) : Option Int :=
  kb (q_X5_most zT v1 v3) (fun x1 : Int => kb (kitr 11 (fun q => q_X5_farthest_L11 zT v1 v3 x1 q) kF (0 : Int)) (fun x3 : (Nat × Int) => kif (x3.1 = 47) (some x3.2) (kg ((x3.1 = 56)) (some (-1 : Int)))))
theorem m_X5_farthest {zT : tZ5} {u0 : tX5} {v1 : Int} {u1 : Int64} {v3 : Int} {u2 : Int64} (e0 : u0 = (cX5 zT)) (e1 : u1 = (Int64.ofInt v1)) (e2 : u2 = (Int64.ofInt v3)) : sim Int32.ofInt (q_X5_farthest zT v1 v3) (p_X5_farthest u0 u1 u2) := by
  subst e0 e1 e2
  unfold q_X5_farthest p_X5_farthest
  exact sim_kb (c1 := Int64.ofInt) (m_X5_most rfl rfl rfl) (fun x1 => sim_kb (c1 := (fun r : (Nat × Int) => (r.1, (Int32.ofInt r.2)))) (sim_kitr (c := Int32.ofInt) (fun _ => m_X5_farthest_L11 rfl rfl rfl rfl rfl) l32_0) (fun x3 => sim_kif Iff.rfl (sim_some rfl) (sim_kg Iff.rfl (sim_some l32_m1))))

def q_X5_isApart (zT : tZ5) (zP1 : tZ5) (v2 : Int) (v4 : Int) : Option Bool :=
  kb (q_X5_most zT v2 v4) (fun x1 : Int => kb (q_X5_least zP1 v2 v4) (fun x2 : Int => kg (k64 x1 ∧ k64 x2) (kif (x1 < x2) (some true) (kb (q_X5_most zP1 v2 v4) (fun x3 : Int => kb (q_X5_least zT v2 v4) (fun x4 : Int => kg (k64 x3 ∧ k64 x4) (kif (x4 ≤ x3) (some false) (some true))))))))
theorem m_X5_isApart {zT : tZ5} {u0 : tX5} {zP1 : tZ5} {u1 : tX5} {v2 : Int} {u2 : Int64} {v4 : Int} {u3 : Int64} (e0 : u0 = (cX5 zT)) (e1 : u1 = (cX5 zP1)) (e2 : u2 = (Int64.ofInt v2)) (e3 : u3 = (Int64.ofInt v4)) : sim (fun r : Bool => r) (q_X5_isApart zT zP1 v2 v4) (p_X5_isApart u0 u1 u2 u3) := by
  subst e0 e1 e2 e3
  unfold q_X5_isApart p_X5_isApart
  exact sim_kb (c1 := Int64.ofInt) (m_X5_most rfl rfl rfl) (fun x1 => sim_kb (c1 := Int64.ofInt) (m_X5_least rfl rfl rfl) (fun x2 => sim_g (fun g1 => sim_kif (j_lt rfl rfl g1.1 g1.2) (sim_some rfl) (sim_kb (c1 := Int64.ofInt) (m_X5_most rfl rfl rfl) (fun x3 => sim_kb (c1 := Int64.ofInt) (m_X5_least rfl rfl rfl) (fun x4 => sim_g (fun g2 => sim_kif (j_ge rfl rfl g2.1 g2.2) (sim_some rfl) (sim_some rfl))))))))

def q_X5_isApartBySides_L2 (zT : tZ5) (zP1 : tZ5) (s : Int) : Option (Nat × Int) :=
  kg (k32 zT.2.2.2 ∧ k32 s) (kif (zT.2.2.2 ≤ s) (some (55, s)) (kb (q_X5_sideX zT s) (fun x1 : Int => kb (q_X5_sideY zT s) (fun x2 : Int => kb (q_X5_isApart zT zP1 x1 x2) (fun x3 : Bool => kif (kz x3 = 0) (kb (q_X5_sideY zT s) (fun x4 : Int => kb (q_X5_sideX zT s) (fun x5 : Int => kb (q_X5_isApart zT zP1 (-x4) x5) (fun x6 : Bool => kif (kz x6 = 0) (kl (s + (1 : Int)) (fun y7 : Int => some (2, y7))) (some (47, s)))))) (some (47, s)))))))
theorem m_X5_isApartBySides_L2 {zT : tZ5} {u0 : tX5} {zP1 : tZ5} {u1 : tX5} {s : Int} {u2 : Int32} (e0 : u0 = (cX5 zT)) (e1 : u1 = (cX5 zP1)) (e2 : u2 = (Int32.ofInt s)) : sim (fun r : (Nat × Int) => (r.1, (Int32.ofInt r.2))) (q_X5_isApartBySides_L2 zT zP1 s) (p_X5_isApartBySides_L2 u0 u1 u2) := by
  subst e0 e1 e2
  unfold q_X5_isApartBySides_L2 p_X5_isApartBySides_L2
  exact sim_g (fun g1 => sim_kif (i_le rfl rfl g1.1 g1.2) (sim_some rfl) (sim_kb (c1 := Int64.ofInt) (m_X5_sideX rfl rfl) (fun x1 => sim_kb (c1 := Int64.ofInt) (m_X5_sideY rfl rfl) (fun x2 => sim_kb (c1 := (fun r : Bool => r)) (m_X5_isApart rfl rfl rfl rfl) (fun x3 => sim_kif Iff.rfl (sim_kb (c1 := Int64.ofInt) (m_X5_sideY rfl rfl) (fun x4 => sim_kb (c1 := Int64.ofInt) (m_X5_sideX rfl rfl) (fun x5 => sim_kb (c1 := (fun r : Bool => r)) (m_X5_isApart rfl rfl (d_neg rfl) rfl) (fun x6 => sim_kif Iff.rfl (sim_kl (c := Int32.ofInt) (c_add rfl l32_1) (fun y7 => sim_some rfl)) (sim_some rfl))))) (sim_some rfl))))))

def q_X5_isApartBySides (zT : tZ5) (zP1 : tZ5) : Option Bool :=
  kb (kitr 2 (fun q => q_X5_isApartBySides_L2 zT zP1 q) kF (0 : Int)) (fun x8 : (Nat × Int) => kif (x8.1 = 47) (some true) (kg ((x8.1 = 55)) (some false)))
theorem m_X5_isApartBySides {zT : tZ5} {u0 : tX5} {zP1 : tZ5} {u1 : tX5} (e0 : u0 = (cX5 zT)) (e1 : u1 = (cX5 zP1)) : sim (fun r : Bool => r) (q_X5_isApartBySides zT zP1) (p_X5_isApartBySides u0 u1) := by
  subst e0 e1
  unfold q_X5_isApartBySides p_X5_isApartBySides
  exact sim_kb (c1 := (fun r : (Nat × Int) => (r.1, (Int32.ofInt r.2)))) (sim_kitr (c := Int32.ofInt) (fun _ => m_X5_isApartBySides_L2 rfl rfl rfl) l32_0) (fun x8 => sim_kif Iff.rfl (sim_some rfl) (sim_kg Iff.rfl (sim_some rfl)))

def q_X5_touches (zT : tZ5) (zP1 : tZ5) : Option Bool :=
  kb (q_X5_isApart zT zP1 (1 : Int) (0 : Int)) (fun x1 : Bool => kif (kz x1 = 0) (kb (q_X5_isApart zT zP1 (0 : Int) (1 : Int)) (fun x2 : Bool => kif (kz x2 = 0) (kb (q_X5_isApartBySides zT zP1) (fun x3 : Bool => kif (kz x3 = 0) (kb (q_X5_isApartBySides zP1 zT) (fun x4 : Bool => kif (kz x4 = 0) (some true) (some false))) (some false))) (some false))) (some false))
theorem m_X5_touches {zT : tZ5} {u0 : tX5} {zP1 : tZ5} {u1 : tX5} (e0 : u0 = (cX5 zT)) (e1 : u1 = (cX5 zP1)) : sim (fun r : Bool => r) (q_X5_touches zT zP1) (p_X5_touches u0 u1) := by
  subst e0 e1
  unfold q_X5_touches p_X5_touches
  exact sim_kb (c1 := (fun r : Bool => r)) (m_X5_isApart rfl rfl l64_1 l64_0) (fun x1 => sim_kif Iff.rfl (sim_kb (c1 := (fun r : Bool => r)) (m_X5_isApart rfl rfl l64_0 l64_1) (fun x2 => sim_kif Iff.rfl (sim_kb (c1 := (fun r : Bool => r)) (m_X5_isApartBySides rfl rfl) (fun x3 => sim_kif Iff.rfl (sim_kb (c1 := (fun r : Bool => r)) (m_X5_isApartBySides rfl rfl) (fun x4 => sim_kif Iff.rfl (sim_some rfl) (sim_some rfl))) (sim_some rfl))) (sim_some rfl))) (sim_some rfl))

def q_X5_wholeOnRim_L38 (zT : tZ5) (s : (Int × Int)) : Option (Nat × (Int × Int)) :=
  kg (k32 zT.2.2.2 ∧ k32 s.2) (kif (zT.2.2.2 ≤ s.2) (some (68, (s.1, s.2))) (kb (q_X5_sideX zT s.2) (fun x4 : Int => kb (q_X5_sideY zT s.2) (fun x5 : Int => kb (q_X3_gcd x4 x5) (fun x6 : Int => kl (s.1 + x6) (fun y7 : Int => kl (s.2 + (1 : Int)) (fun y8 : Int => some (38, (y7, y8)))))))))
theorem m_X5_wholeOnRim_L38 {zT : tZ5} {u0 : tX5} {s : (Int × Int)} {u1 : (Int64 × Int32)} (e0 : u0 = (cX5 zT)) (e1 : u1 = ((Int64.ofInt s.1), (Int32.ofInt s.2))) : sim (fun r : (Nat × (Int × Int)) => (r.1, ((Int64.ofInt r.2.1), (Int32.ofInt r.2.2)))) (q_X5_wholeOnRim_L38 zT s) (p_X5_wholeOnRim_L38 u0 u1) := by
  subst e0 e1
  unfold q_X5_wholeOnRim_L38 p_X5_wholeOnRim_L38
  exact sim_g (fun g1 => sim_kif (i_le rfl rfl g1.1 g1.2) (sim_some rfl) (sim_kb (c1 := Int64.ofInt) (m_X5_sideX rfl rfl) (fun x4 => sim_kb (c1 := Int64.ofInt) (m_X5_sideY rfl rfl) (fun x5 => sim_kb (c1 := Int64.ofInt) (m_X3_gcd rfl rfl) (fun x6 => sim_kl (c := Int64.ofInt) (d_add rfl rfl) (fun y7 => sim_kl (c := Int32.ofInt) (c_add rfl l32_1) (fun y8 => sim_some rfl)))))))

def q_X5_wholeOnRim (zT : tZ5) : Option Int :=
  kg (k32 zT.2.2.2) (kif (zT.2.2.2 = (1 : Int)) (some (1 : Int)) (kif (zT.2.2.2 = (2 : Int)) (kb (q_X5_sideX zT (0 : Int)) (fun x1 : Int => kb (q_X5_sideY zT (0 : Int)) (fun x2 : Int => kb (q_X3_gcd x1 x2) (fun x3 : Int => some (x3 + (1 : Int)))))) (kb (kitr 38 (fun q => q_X5_wholeOnRim_L38 zT q) kF ((0 : Int), (0 : Int))) (fun x9 : (Nat × Int × Int) => kg ((x9.1 = 68)) (some x9.2.1)))))
theorem m_X5_wholeOnRim {zT : tZ5} {u0 : tX5} (e0 : u0 = (cX5 zT)) : sim Int64.ofInt (q_X5_wholeOnRim zT) (p_X5_wholeOnRim u0) := by
  subst e0
  unfold q_X5_wholeOnRim p_X5_wholeOnRim
  exact sim_g (fun g1 => sim_kif (i_eq rfl l32_1 g1 (by decide)) (sim_some l64_1) (sim_kif (i_eq rfl l32_2 g1 (by decide)) (sim_kb (c1 := Int64.ofInt) (m_X5_sideX rfl l32_0) (fun x1 => sim_kb (c1 := Int64.ofInt) (m_X5_sideY rfl l32_0) (fun x2 => sim_kb (c1 := Int64.ofInt) (m_X3_gcd rfl rfl) (fun x3 => sim_some (d_add rfl l64_1))))) (sim_kb (c1 := (fun r : (Nat × Int × Int) => (r.1, (Int64.ofInt r.2.1), (Int32.ofInt r.2.2)))) (sim_kitr (c := (fun r : (Int × Int) => ((Int64.ofInt r.1), (Int32.ofInt r.2)))) (fun _ => m_X5_wholeOnRim_L38 rfl rfl) (c_pr l64_0 l32_0)) (fun x9 => sim_kg Iff.rfl (sim_some rfl)))))

def q_X5_wholeWithin (zT : tZ5) : Option Int :=
  kg (k32 zT.2.2.2) (kif ((3 : Int) ≤ zT.2.2.2) (kb (q_X5_twiceArea zT) (fun x1 : Int => kb (q_X5_wholeOnRim zT) (fun x2 : Int => kg (k64 ((x1 - x2) + (2 : Int))) (some (((x1 - x2) + (2 : Int)).tdiv (2 : Int)))))) (some (0 : Int)))
theorem m_X5_wholeWithin {zT : tZ5} {u0 : tX5} (e0 : u0 = (cX5 zT)) : sim Int64.ofInt (q_X5_wholeWithin zT) (p_X5_wholeWithin u0) := by
  subst e0
  unfold q_X5_wholeWithin p_X5_wholeWithin
  exact sim_g (fun g1 => sim_kif (i_le l32_3 rfl (by decide) g1) (sim_kb (c1 := Int64.ofInt) (m_X5_twiceArea rfl) (fun x1 => sim_kb (c1 := Int64.ofInt) (m_X5_wholeOnRim rfl) (fun x2 => sim_g (fun g2 => sim_some (d_div (d_add (d_sub rfl rfl) l64_2) l64_2 g2 (by decide)))))) (sim_some l64_0))

def q_X5_sidesSeen_L5 (zT : tZ5) (v1 : Int) (v2 : Int) (s : (Int × Int)) : Option (Nat × (Int × Int)) :=
  kg (k32 zT.2.2.2 ∧ k32 s.2) (kif (zT.2.2.2 ≤ s.2) (some (36, (s.1, s.2))) (kb (q_X5_turn zT s.2 v1 v2) (fun x1 : Int => kg (k64 x1) (kif ((0 : Int) ≤ x1) (kl (s.2 + (1 : Int)) (fun y2 : Int => some (5, (s.1, y2)))) (kl (s.1 + (1 : Int)) (fun y3 : Int => kl (s.2 + (1 : Int)) (fun y4 : Int => some (5, (y3, y4)))))))))
theorem m_X5_sidesSeen_L5 {zT : tZ5} {u0 : tX5} {v1 : Int} {u1 : Int32} {v2 : Int} {u2 : Int32} {s : (Int × Int)} {u3 : (Int32 × Int32)} (e0 : u0 = (cX5 zT)) (e1 : u1 = (Int32.ofInt v1)) (e2 : u2 = (Int32.ofInt v2)) (e3 : u3 = ((Int32.ofInt s.1), (Int32.ofInt s.2))) : sim (fun r : (Nat × (Int × Int)) => (r.1, ((Int32.ofInt r.2.1), (Int32.ofInt r.2.2)))) (q_X5_sidesSeen_L5 zT v1 v2 s) (p_X5_sidesSeen_L5 u0 u1 u2 u3) := by
  subst e0 e1 e2 e3
  unfold q_X5_sidesSeen_L5 p_X5_sidesSeen_L5
  exact sim_g (fun g1 => sim_kif (i_le rfl rfl g1.1 g1.2) (sim_some rfl) (sim_kb (c1 := Int64.ofInt) (m_X5_turn rfl rfl rfl rfl) (fun x1 => sim_g (fun g2 => sim_kif (j_ge rfl l64_0 g2 (by decide)) (sim_kl (c := Int32.ofInt) (c_add rfl l32_1) (fun y2 => sim_some rfl)) (sim_kl (c := Int32.ofInt) (c_add rfl l32_1) (fun y3 => sim_kl (c := Int32.ofInt) (c_add rfl l32_1) (fun y4 => sim_some rfl)))))))

def q_X5_sidesSeen (zT : tZ5) (v1 : Int) (v2 : Int) : Option Int :=
  kb (kitr 5 (fun q => q_X5_sidesSeen_L5 zT v1 v2 q) kF ((0 : Int), (0 : Int))) (fun x5 : (Nat × Int × Int) => kg ((x5.1 = 36)) (some x5.2.1))
theorem m_X5_sidesSeen {zT : tZ5} {u0 : tX5} {v1 : Int} {u1 : Int32} {v2 : Int} {u2 : Int32} (e0 : u0 = (cX5 zT)) (e1 : u1 = (Int32.ofInt v1)) (e2 : u2 = (Int32.ofInt v2)) : sim Int32.ofInt (q_X5_sidesSeen zT v1 v2) (p_X5_sidesSeen u0 u1 u2) := by
  subst e0 e1 e2
  unfold q_X5_sidesSeen p_X5_sidesSeen
  exact sim_kb (c1 := (fun r : (Nat × Int × Int) => (r.1, (Int32.ofInt r.2.1), (Int32.ofInt r.2.2)))) (sim_kitr (c := (fun r : (Int × Int) => ((Int32.ofInt r.1), (Int32.ofInt r.2)))) (fun _ => m_X5_sidesSeen_L5 rfl rfl rfl rfl) (c_pr l32_0 l32_0)) (fun x5 => sim_kg Iff.rfl (sim_some rfl))

def q_X5_seenFrom_L2 (zT : tZ5) (v1 : Int) (v2 : Int) (s : Int) : Option (Nat × Int) :=
  kg (k32 zT.2.2.2 ∧ k32 s) (kif (zT.2.2.2 ≤ s) (some (50, s)) (kb (q_X5_turn zT s v1 v2) (fun x1 : Int => kg (k64 x1) (kif ((0 : Int) ≤ x1) (kl (s + (1 : Int)) (fun y2 : Int => some (2, y2))) (kb (q_X5_before zT s) (fun x3 : Int => kb (q_X5_turn zT x3 v1 v2) (fun x4 : Int => kg (k64 x4) (kif (x4 < (0 : Int)) (kl (s + (1 : Int)) (fun y5 : Int => some (2, y5))) (some (38, s))))))))))
theorem m_X5_seenFrom_L2 {zT : tZ5} {u0 : tX5} {v1 : Int} {u1 : Int32} {v2 : Int} {u2 : Int32} {s : Int} {u3 : Int32} (e0 : u0 = (cX5 zT)) (e1 : u1 = (Int32.ofInt v1)) (e2 : u2 = (Int32.ofInt v2)) (e3 : u3 = (Int32.ofInt s)) : sim (fun r : (Nat × Int) => (r.1, (Int32.ofInt r.2))) (q_X5_seenFrom_L2 zT v1 v2 s) (p_X5_seenFrom_L2 u0 u1 u2 u3) := by
  subst e0 e1 e2 e3
  unfold q_X5_seenFrom_L2 p_X5_seenFrom_L2
  exact sim_g (fun g1 => sim_kif (i_le rfl rfl g1.1 g1.2) (sim_some rfl) (sim_kb (c1 := Int64.ofInt) (m_X5_turn rfl rfl rfl rfl) (fun x1 => sim_g (fun g2 => sim_kif (j_ge rfl l64_0 g2 (by decide)) (sim_kl (c := Int32.ofInt) (c_add rfl l32_1) (fun y2 => sim_some rfl)) (sim_kb (c1 := Int32.ofInt) (m_X5_before rfl rfl) (fun x3 => sim_kb (c1 := Int64.ofInt) (m_X5_turn rfl rfl rfl rfl) (fun x4 => sim_g (fun g3 => sim_kif (j_lt rfl l64_0 g3 (by decide)) (sim_kl (c := Int32.ofInt) (c_add rfl l32_1) (fun y5 => sim_some rfl)) (sim_some rfl)))))))))

def q_X5_seenFrom (zT : tZ5) (v1 : Int) (v2 : Int) : Option Int :=
  kb (kitr 2 (fun q => q_X5_seenFrom_L2 zT v1 v2 q) kF (0 : Int)) (fun x6 : (Nat × Int) => kif (x6.1 = 38) (kb (q_X5_number zT x6.2) (fun x7 : Int => some x7)) (kg ((x6.1 = 50)) (some (-1 : Int))))
theorem m_X5_seenFrom {zT : tZ5} {u0 : tX5} {v1 : Int} {u1 : Int32} {v2 : Int} {u2 : Int32} (e0 : u0 = (cX5 zT)) (e1 : u1 = (Int32.ofInt v1)) (e2 : u2 = (Int32.ofInt v2)) : sim Int32.ofInt (q_X5_seenFrom zT v1 v2) (p_X5_seenFrom u0 u1 u2) := by
  subst e0 e1 e2
  unfold q_X5_seenFrom p_X5_seenFrom
  exact sim_kb (c1 := (fun r : (Nat × Int) => (r.1, (Int32.ofInt r.2)))) (sim_kitr (c := Int32.ofInt) (fun _ => m_X5_seenFrom_L2 rfl rfl rfl rfl) l32_0) (fun x6 => sim_kif Iff.rfl (sim_kb (c1 := Int32.ofInt) (m_X5_number rfl rfl) (fun x7 => sim_some rfl)) (sim_kg Iff.rfl (sim_some l32_m1)))

def q_X5_seenTo_L2 (zT : tZ5) (v1 : Int) (v2 : Int) (s : Int) : Option (Nat × Int) :=
  kg (k32 zT.2.2.2 ∧ k32 s) (kif (zT.2.2.2 ≤ s) (some (50, s)) (kb (q_X5_turn zT s v1 v2) (fun x1 : Int => kg (k64 x1) (kif (x1 < (0 : Int)) (kl (s + (1 : Int)) (fun y2 : Int => some (2, y2))) (kb (q_X5_before zT s) (fun x3 : Int => kb (q_X5_turn zT x3 v1 v2) (fun x4 : Int => kg (k64 x4) (kif ((0 : Int) ≤ x4) (kl (s + (1 : Int)) (fun y5 : Int => some (2, y5))) (some (38, s))))))))))
theorem m_X5_seenTo_L2 {zT : tZ5} {u0 : tX5} {v1 : Int} {u1 : Int32} {v2 : Int} {u2 : Int32} {s : Int} {u3 : Int32} (e0 : u0 = (cX5 zT)) (e1 : u1 = (Int32.ofInt v1)) (e2 : u2 = (Int32.ofInt v2)) (e3 : u3 = (Int32.ofInt s)) : sim (fun r : (Nat × Int) => (r.1, (Int32.ofInt r.2))) (q_X5_seenTo_L2 zT v1 v2 s) (p_X5_seenTo_L2 u0 u1 u2 u3) := by
  subst e0 e1 e2 e3
  unfold q_X5_seenTo_L2 p_X5_seenTo_L2
  exact sim_g (fun g1 => sim_kif (i_le rfl rfl g1.1 g1.2) (sim_some rfl) (sim_kb (c1 := Int64.ofInt) (m_X5_turn rfl rfl rfl rfl) (fun x1 => sim_g (fun g2 => sim_kif (j_lt rfl l64_0 g2 (by decide)) (sim_kl (c := Int32.ofInt) (c_add rfl l32_1) (fun y2 => sim_some rfl)) (sim_kb (c1 := Int32.ofInt) (m_X5_before rfl rfl) (fun x3 => sim_kb (c1 := Int64.ofInt) (m_X5_turn rfl rfl rfl rfl) (fun x4 => sim_g (fun g3 => sim_kif (j_ge rfl l64_0 g3 (by decide)) (sim_kl (c := Int32.ofInt) (c_add rfl l32_1) (fun y5 => sim_some rfl)) (sim_some rfl)))))))))

def q_X5_seenTo (zT : tZ5) (v1 : Int) (v2 : Int) : Option Int :=
  kb (kitr 2 (fun q => q_X5_seenTo_L2 zT v1 v2 q) kF (0 : Int)) (fun x6 : (Nat × Int) => kif (x6.1 = 38) (kb (q_X5_number zT x6.2) (fun x7 : Int => some x7)) (kg ((x6.1 = 50)) (some (-1 : Int))))
theorem m_X5_seenTo {zT : tZ5} {u0 : tX5} {v1 : Int} {u1 : Int32} {v2 : Int} {u2 : Int32} (e0 : u0 = (cX5 zT)) (e1 : u1 = (Int32.ofInt v1)) (e2 : u2 = (Int32.ofInt v2)) : sim Int32.ofInt (q_X5_seenTo zT v1 v2) (p_X5_seenTo u0 u1 u2) := by
  subst e0 e1 e2
  unfold q_X5_seenTo p_X5_seenTo
  exact sim_kb (c1 := (fun r : (Nat × Int) => (r.1, (Int32.ofInt r.2)))) (sim_kitr (c := Int32.ofInt) (fun _ => m_X5_seenTo_L2 rfl rfl rfl rfl) l32_0) (fun x6 => sim_kif Iff.rfl (sim_kb (c1 := Int32.ofInt) (m_X5_number rfl rfl) (fun x7 => sim_some rfl)) (sim_kg Iff.rfl (sim_some l32_m1)))
