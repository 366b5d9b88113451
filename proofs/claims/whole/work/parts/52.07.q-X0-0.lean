def q_X0_atOne (zT : tZ0) (zP1 : tZ8) (v2 : Int) : Option tZ0 :=
  kb (q_X8_x zP1 v2) (fun x1 : Int => kl (x1, zT.2) (fun z2 : (Int × (Int × Int × Int × Int × (Nat → Int) × Int × (Nat → Int) × Int)) => kb (q_X8_y zP1 v2) (fun x3 : Int => kl (z2.1, x3, z2.2.2) (fun z4 : (Int × Int × (Int × Int × Int × (Nat → Int) × Int × (Nat → Int) × Int)) => kl (z4.1, z4.2.1, (1 : Int), z4.2.2.2) (fun z5 : (Int × Int × Int × (Int × Int × (Nat → Int) × Int × (Nat → Int) × Int)) => kl (z5.1, z5.2.1, z5.2.2.1, (0 : Int), z5.2.2.2.2) (fun z6 : (Int × Int × Int × Int × (Int × (Nat → Int) × Int × (Nat → Int) × Int)) => kl (z6.1, z6.2.1, z6.2.2.1, z6.2.2.2.1, (0 : Int), z6.2.2.2.2.2) (fun z7 : (Int × Int × Int × Int × Int × ((Nat → Int) × Int × (Nat → Int) × Int)) => some z7)))))))
theorem m_X0_atOne {zT : tZ0} {u0 : tX0} {zP1 : tZ8} {u1 : tX8} {v2 : Int} {u2 : Int32} (e0 : u0 = (cX0 zT)) (e1 : u1 = (cX8 zP1)) (e2 : u2 = (Int32.ofInt v2)) : sim cX0 (q_X0_atOne zT zP1 v2) (p_X0_atOne u0 u1 u2) := by
  subst e0 e1 e2
  unfold q_X0_atOne p_X0_atOne
  exact sim_kb (c1 := Int32.ofInt) (m_X8_x rfl rfl) (fun x1 => sim_kl (c := (fun r : (Int × (Int × Int × Int × Int × (Nat → Int) × Int × (Nat → Int) × Int)) => ((Int32.ofInt r.1), ((Int32.ofInt r.2.1), (Int64.ofInt r.2.2.1), (Int64.ofInt r.2.2.2.1), (Int64.ofInt r.2.2.2.2.1), (cF r.2.2.2.2.2.1), (Int32.ofInt r.2.2.2.2.2.2.1), (cF r.2.2.2.2.2.2.2.1), (Int32.ofInt r.2.2.2.2.2.2.2.2))))) rfl (fun z2 => sim_kb (c1 := Int32.ofInt) (m_X8_y rfl rfl) (fun x3 => sim_kl (c := (fun r : (Int × Int × (Int × Int × Int × (Nat → Int) × Int × (Nat → Int) × Int)) => ((Int32.ofInt r.1), (Int32.ofInt r.2.1), ((Int64.ofInt r.2.2.1), (Int64.ofInt r.2.2.2.1), (Int64.ofInt r.2.2.2.2.1), (cF r.2.2.2.2.2.1), (Int32.ofInt r.2.2.2.2.2.2.1), (cF r.2.2.2.2.2.2.2.1), (Int32.ofInt r.2.2.2.2.2.2.2.2))))) rfl (fun z4 => sim_kl (c := (fun r : (Int × Int × Int × (Int × Int × (Nat → Int) × Int × (Nat → Int) × Int)) => ((Int32.ofInt r.1), (Int32.ofInt r.2.1), (Int64.ofInt r.2.2.1), ((Int64.ofInt r.2.2.2.1), (Int64.ofInt r.2.2.2.2.1), (cF r.2.2.2.2.2.1), (Int32.ofInt r.2.2.2.2.2.2.1), (cF r.2.2.2.2.2.2.2.1), (Int32.ofInt r.2.2.2.2.2.2.2.2))))) (c_pr rfl (c_pr rfl (c_pr l64_1 rfl))) (fun z5 => sim_kl (c := (fun r : (Int × Int × Int × Int × (Int × (Nat → Int) × Int × (Nat → Int) × Int)) => ((Int32.ofInt r.1), (Int32.ofInt r.2.1), (Int64.ofInt r.2.2.1), (Int64.ofInt r.2.2.2.1), ((Int64.ofInt r.2.2.2.2.1), (cF r.2.2.2.2.2.1), (Int32.ofInt r.2.2.2.2.2.2.1), (cF r.2.2.2.2.2.2.2.1), (Int32.ofInt r.2.2.2.2.2.2.2.2))))) (c_pr rfl (c_pr rfl (c_pr rfl (c_pr l64_0 rfl)))) (fun z6 => sim_kl (c := (fun r : (Int × Int × Int × Int × Int × ((Nat → Int) × Int × (Nat → Int) × Int)) => ((Int32.ofInt r.1), (Int32.ofInt r.2.1), (Int64.ofInt r.2.2.1), (Int64.ofInt r.2.2.2.1), (Int64.ofInt r.2.2.2.2.1), ((cF r.2.2.2.2.2.1), (Int32.ofInt r.2.2.2.2.2.2.1), (cF r.2.2.2.2.2.2.2.1), (Int32.ofInt r.2.2.2.2.2.2.2.2))))) (c_pr rfl (c_pr rfl (c_pr rfl (c_pr rfl (c_pr l64_0 rfl))))) (fun z7 => sim_some rfl)))))))

def q_X0_side (zT : tZ0) (v1 : Int) (v2 : Int) : Option Int :=
  kg (k32 (v1 - zT.1)) (kl (v1 - zT.1) (fun y1 : Int => kg (k32 (v2 - zT.2.1)) (kl (v2 - zT.2.1) (fun y2 : Int => kb (q_J13_compare_74951 (zT.2.2.1 * ((y1 * y1) + (y2 * y2))) ((2 : Int) * ((y1 * zT.2.2.2.1) + (y2 * zT.2.2.2.2.1)))) (fun x3 : Int => some x3)))))
theorem m_X0_side {zT : tZ0} {u0 : tX0} {v1 : Int} {u1 : Int32} {v2 : Int} {u2 : Int32} (e0 : u0 = (cX0 zT)) (e1 : u1 = (Int32.ofInt v1)) (e2 : u2 = (Int32.ofInt v2)) : sim Int32.ofInt (q_X0_side zT v1 v2) (p_X0_side u0 u1 u2) := by
  subst e0 e1 e2
  unfold q_X0_side p_X0_side
  exact sim_g (fun g1 => sim_kl (c := Int64.ofInt) (c_toJ (c_sub rfl rfl) g1) (fun y1 => sim_g (fun g2 => sim_kl (c := Int64.ofInt) (c_toJ (c_sub rfl rfl) g2) (fun y2 => sim_kb (c1 := Int32.ofInt) (m_J13_compare_74951 (d_mul rfl (d_add (d_mul rfl rfl) (d_mul rfl rfl))) (d_mul l64_2 (d_add (d_mul rfl rfl) (d_mul rfl rfl)))) (fun x3 => sim_some rfl)))))

def q_X0_isOutside (zT : tZ0) (zP1 : tZ8) (v2 : Int) : Option Bool :=
  kb (q_X8_x zP1 v2) (fun x1 : Int => kb (q_X8_y zP1 v2) (fun x2 : Int => kb (q_X0_side zT x1 x2) (fun x3 : Int => kg (k32 x3) (kif (x3 ≤ (0 : Int)) (some false) (some true)))))
theorem m_X0_isOutside {zT : tZ0} {u0 : tX0} {zP1 : tZ8} {u1 : tX8} {v2 : Int} {u2 : Int32} (e0 : u0 = (cX0 zT)) (e1 : u1 = (cX8 zP1)) (e2 : u2 = (Int32.ofInt v2)) : sim (fun r : Bool => r) (q_X0_isOutside zT zP1 v2) (p_X0_isOutside u0 u1 u2) := by
  subst e0 e1 e2
  unfold q_X0_isOutside p_X0_isOutside
  exact sim_kb (c1 := Int32.ofInt) (m_X8_x rfl rfl) (fun x1 => sim_kb (c1 := Int32.ofInt) (m_X8_y rfl rfl) (fun x2 => sim_kb (c1 := Int32.ofInt) (m_X0_side rfl rfl rfl) (fun x3 => sim_g (fun g1 => sim_kif (i_le rfl l32_0 g1 (by decide)) (sim_some rfl) (sim_some rfl)))))

def q_X0_acrossTwo (zT : tZ0) (zP1 : tZ8) (v2 : Int) (v3 : Int) : Option tZ0 :=
  kb (q_X0_atOne zT zP1 v2) (fun x1 : tZ0 => kl (x1.1, x1.2.1, (2 : Int), x1.2.2.2) (fun z2 : (Int × Int × Int × (Int × Int × (Nat → Int) × Int × (Nat → Int) × Int)) => kb (q_X8_x zP1 v3) (fun x3 : Int => kg (k32 (x3 - z2.1)) (kl (z2.1, z2.2.1, z2.2.2.1, (x3 - z2.1), z2.2.2.2.2) (fun z4 : (Int × Int × Int × Int × (Int × (Nat → Int) × Int × (Nat → Int) × Int)) => kb (q_X8_y zP1 v3) (fun x5 : Int => kg (k32 (x5 - z4.2.1)) (kl (z4.1, z4.2.1, z4.2.2.1, z4.2.2.2.1, (x5 - z4.2.1), z4.2.2.2.2.2) (fun z6 : (Int × Int × Int × Int × Int × ((Nat → Int) × Int × (Nat → Int) × Int)) => some z6))))))))
theorem m_X0_acrossTwo {zT : tZ0} {u0 : tX0} {zP1 : tZ8} {u1 : tX8} {v2 : Int} {u2 : Int32} {v3 : Int} {u3 : Int32} (e0 : u0 = (cX0 zT)) (e1 : u1 = (cX8 zP1)) (e2 : u2 = (Int32.ofInt v2)) (e3 : u3 = (Int32.ofInt v3)) : sim cX0 (q_X0_acrossTwo zT zP1 v2 v3) (p_X0_acrossTwo u0 u1 u2 u3) := by
  subst e0 e1 e2 e3
  unfold q_X0_acrossTwo p_X0_acrossTwo
  exact sim_kb (c1 := cX0) (m_X0_atOne rfl rfl rfl) (fun x1 => sim_kl (c := (fun r : (Int × Int × Int × (Int × Int × (Nat → Int) × Int × (Nat → Int) × Int)) => ((Int32.ofInt r.1), (Int32.ofInt r.2.1), (Int64.ofInt r.2.2.1), ((Int64.ofInt r.2.2.2.1), (Int64.ofInt r.2.2.2.2.1), (cF r.2.2.2.2.2.1), (Int32.ofInt r.2.2.2.2.2.2.1), (cF r.2.2.2.2.2.2.2.1), (Int32.ofInt r.2.2.2.2.2.2.2.2))))) (c_pr rfl (c_pr rfl (c_pr l64_2 rfl))) (fun z2 => sim_kb (c1 := Int32.ofInt) (m_X8_x rfl rfl) (fun x3 => sim_g (fun g1 => sim_kl (c := (fun r : (Int × Int × Int × Int × (Int × (Nat → Int) × Int × (Nat → Int) × Int)) => ((Int32.ofInt r.1), (Int32.ofInt r.2.1), (Int64.ofInt r.2.2.1), (Int64.ofInt r.2.2.2.1), ((Int64.ofInt r.2.2.2.2.1), (cF r.2.2.2.2.2.1), (Int32.ofInt r.2.2.2.2.2.2.1), (cF r.2.2.2.2.2.2.2.1), (Int32.ofInt r.2.2.2.2.2.2.2.2))))) (c_pr rfl (c_pr rfl (c_pr rfl (c_pr (c_toJ (c_sub rfl rfl) g1) rfl)))) (fun z4 => sim_kb (c1 := Int32.ofInt) (m_X8_y rfl rfl) (fun x5 => sim_g (fun g2 => sim_kl (c := (fun r : (Int × Int × Int × Int × Int × ((Nat → Int) × Int × (Nat → Int) × Int)) => ((Int32.ofInt r.1), (Int32.ofInt r.2.1), (Int64.ofInt r.2.2.1), (Int64.ofInt r.2.2.2.1), (Int64.ofInt r.2.2.2.2.1), ((cF r.2.2.2.2.2.1), (Int32.ofInt r.2.2.2.2.2.2.1), (cF r.2.2.2.2.2.2.2.1), (Int32.ofInt r.2.2.2.2.2.2.2.2))))) (c_pr rfl (c_pr rfl (c_pr rfl (c_pr rfl (c_pr (c_toJ (c_sub rfl rfl) g2) rfl))))) (fun z6 => sim_some rfl))))))))

def q_X0_throughThree_J94 (zP1 : tZ8) (v2 : Int) (v3 : Int) (v4 : Int) (zT : tZ0) (v5 : Int) (v7 : Int) (v9 : Int) (v11 : Int) (v13 : Int) (k94_0 : Int) : Option (Bool × tZ0) :=
  kl (k94_0 * ((v5 * v5) + (v7 * v7))) (fun y14 : Int => kl (k94_0 * ((v9 * v9) + (v11 * v11))) (fun y15 : Int => kb (q_X0_atOne zT zP1 v2) (fun x16 : tZ0 => kl (x16.1, x16.2.1, (((2 : Int) * k94_0) * v13), x16.2.2.2) (fun z17 : (Int × Int × Int × (Int × Int × (Nat → Int) × Int × (Nat → Int) × Int)) => kl (z17.1, z17.2.1, z17.2.2.1, ((v11 * y14) - (v7 * y15)), z17.2.2.2.2) (fun z18 : (Int × Int × Int × Int × (Int × (Nat → Int) × Int × (Nat → Int) × Int)) => kl (z18.1, z18.2.1, z18.2.2.1, z18.2.2.2.1, ((v5 * y15) - (v9 * y14)), z18.2.2.2.2.2) (fun z19 : (Int × Int × Int × Int × Int × ((Nat → Int) × Int × (Nat → Int) × Int)) => some (true, z19)))))))
theorem m_X0_throughThree_J94 {zP1 : tZ8} {u0 : tX8} {v2 : Int} {u1 : Int32} {v3 : Int} {u2 : Int32} {v4 : Int} {u3 : Int32} {zT : tZ0} {u4 : tX0} {v5 : Int} {u5 : Int64} {v7 : Int} {u6 : Int64} {v9 : Int} {u7 : Int64} {v11 : Int} {u8 : Int64} {v13 : Int} {u9 : Int64} {k94_0 : Int} {u10 : Int64} (e0 : u0 = (cX8 zP1)) (e1 : u1 = (Int32.ofInt v2)) (e2 : u2 = (Int32.ofInt v3)) (e3 : u3 = (Int32.ofInt v4)) (e4 : u4 = (cX0 zT)) (e5 : u5 = (Int64.ofInt v5)) (e6 : u6 = (Int64.ofInt v7)) (e7 : u7 = (Int64.ofInt v9)) (e8 : u8 = (Int64.ofInt v11)) (e9 : u9 = (Int64.ofInt v13)) (e10 : u10 = (Int64.ofInt k94_0)) : sim (fun r : (Bool × tZ0) => (r.1, (cX0 r.2))) (q_X0_throughThree_J94 zP1 v2 v3 v4 zT v5 v7 v9 v11 v13 k94_0) (p_X0_throughThree_J94 u0 u1 u2 u3 u4 u5 u6 u7 u8 u9 u10) := by
  subst e0 e1 e2 e3 e4 e5 e6 e7 e8 e9 e10
  unfold q_X0_throughThree_J94 p_X0_throughThree_J94
  exact sim_kl (c := Int64.ofInt) (d_mul rfl (d_add (d_mul rfl rfl) (d_mul rfl rfl))) (fun y14 => sim_kl (c := Int64.ofInt) (d_mul rfl (d_add (d_mul rfl rfl) (d_mul rfl rfl))) (fun y15 => sim_kb (c1 := cX0) (m_X0_atOne rfl rfl rfl) (fun x16 => sim_kl (c := (fun r : (Int × Int × Int × (Int × Int × (Nat → Int) × Int × (Nat → Int) × Int)) => ((Int32.ofInt r.1), (Int32.ofInt r.2.1), (Int64.ofInt r.2.2.1), ((Int64.ofInt r.2.2.2.1), (Int64.ofInt r.2.2.2.2.1), (cF r.2.2.2.2.2.1), (Int32.ofInt r.2.2.2.2.2.2.1), (cF r.2.2.2.2.2.2.2.1), (Int32.ofInt r.2.2.2.2.2.2.2.2))))) (c_pr rfl (c_pr rfl (c_pr (d_mul (d_mul l64_2 rfl) rfl) rfl))) (fun z17 => sim_kl (c := (fun r : (Int × Int × Int × Int × (Int × (Nat → Int) × Int × (Nat → Int) × Int)) => ((Int32.ofInt r.1), (Int32.ofInt r.2.1), (Int64.ofInt r.2.2.1), (Int64.ofInt r.2.2.2.1), ((Int64.ofInt r.2.2.2.2.1), (cF r.2.2.2.2.2.1), (Int32.ofInt r.2.2.2.2.2.2.1), (cF r.2.2.2.2.2.2.2.1), (Int32.ofInt r.2.2.2.2.2.2.2.2))))) (c_pr rfl (c_pr rfl (c_pr rfl (c_pr (d_sub (d_mul rfl rfl) (d_mul rfl rfl)) rfl)))) (fun z18 => sim_kl (c := (fun r : (Int × Int × Int × Int × Int × ((Nat → Int) × Int × (Nat → Int) × Int)) => ((Int32.ofInt r.1), (Int32.ofInt r.2.1), (Int64.ofInt r.2.2.1), (Int64.ofInt r.2.2.2.1), (Int64.ofInt r.2.2.2.2.1), ((cF r.2.2.2.2.2.1), (Int32.ofInt r.2.2.2.2.2.2.1), (cF r.2.2.2.2.2.2.2.1), (Int32.ofInt r.2.2.2.2.2.2.2.2))))) (c_pr rfl (c_pr rfl (c_pr rfl (c_pr rfl (c_pr (d_sub (d_mul rfl rfl) (d_mul rfl rfl)) rfl))))) (fun z19 => sim_some rfl))))))

def q_X0_throughThree (zT : tZ0) (zP1 : tZ8) (v2 : Int) (v3 : Int) (v4 : Int) : Option (Bool × tZ0) :=
  kb (q_X8_x zP1 v3) (fun x1 : Int => kb (q_X8_x zP1 v2) (fun x2 : Int => kg (k32 (x1 - x2)) (kl (x1 - x2) (fun y3 : Int => kb (q_X8_y zP1 v3) (fun x4 : Int => kb (q_X8_y zP1 v2) (fun x5 : Int => kg (k32 (x4 - x5)) (kl (x4 - x5) (fun y6 : Int => kb (q_X8_x zP1 v4) (fun x7 : Int => kb (q_X8_x zP1 v2) (fun x8 : Int => kg (k32 (x7 - x8)) (kl (x7 - x8) (fun y9 : Int => kb (q_X8_y zP1 v4) (fun x10 : Int => kb (q_X8_y zP1 v2) (fun x11 : Int => kg (k32 (x10 - x11)) (kl (x10 - x11) (fun y12 : Int => kl ((y3 * y12) - (y6 * y9)) (fun y13 : Int => kg (k64 y13) (kif (y13 = (0 : Int)) (some (false, zT)) (kif ((0 : Int) ≤ y13) (q_X0_throughThree_J94 zP1 v2 v3 v4 zT y3 y6 y9 y12 y13 (1 : Int)) (q_X0_throughThree_J94 zP1 v2 v3 v4 zT y3 y6 y9 y12 y13 (-1 : Int)))))))))))))))))))))
theorem m_X0_throughThree {zT : tZ0} {u0 : tX0} {zP1 : tZ8} {u1 : tX8} {v2 : Int} {u2 : Int32} {v3 : Int} {u3 : Int32} {v4 : Int} {u4 : Int32} (e0 : u0 = (cX0 zT)) (e1 : u1 = (cX8 zP1)) (e2 : u2 = (Int32.ofInt v2)) (e3 : u3 = (Int32.ofInt v3)) (e4 : u4 = (Int32.ofInt v4)) : sim (fun r : (Bool × tZ0) => (r.1, (cX0 r.2))) (q_X0_throughThree zT zP1 v2 v3 v4) (p_X0_throughThree u0 u1 u2 u3 u4) := by
  subst e0 e1 e2 e3 e4
  unfold q_X0_throughThree p_X0_throughThree
  exact sim_kb (c1 := Int32.ofInt) (m_X8_x rfl rfl) (fun x1 => sim_kb (c1 := Int32.ofInt) (m_X8_x rfl rfl) (fun x2 => sim_g (fun g1 => sim_kl (c := Int64.ofInt) (c_toJ (c_sub rfl rfl) g1) (fun y3 => sim_kb (c1 := Int32.ofInt) (m_X8_y rfl rfl) (fun x4 => sim_kb (c1 := Int32.ofInt) (m_X8_y rfl rfl) (fun x5 => sim_g (fun g2 => sim_kl (c := Int64.ofInt) (c_toJ (c_sub rfl rfl) g2) (fun y6 => sim_kb (c1 := Int32.ofInt) (m_X8_x rfl rfl) (fun x7 => sim_kb (c1 := Int32.ofInt) (m_X8_x rfl rfl) (fun x8 => sim_g (fun g3 => sim_kl (c := Int64.ofInt) (c_toJ (c_sub rfl rfl) g3) (fun y9 => sim_kb (c1 := Int32.ofInt) (m_X8_y rfl rfl) (fun x10 => sim_kb (c1 := Int32.ofInt) (m_X8_y rfl rfl) (fun x11 => sim_g (fun g4 => sim_kl (c := Int64.ofInt) (c_toJ (c_sub rfl rfl) g4) (fun y12 => sim_kl (c := Int64.ofInt) (d_sub (d_mul rfl rfl) (d_mul rfl rfl)) (fun y13 => sim_g (fun g5 => sim_kif (j_eq rfl l64_0 g5 (by decide)) (sim_some rfl) (sim_kif (j_ge rfl l64_0 g5 (by decide)) (m_X0_throughThree_J94 rfl rfl rfl rfl rfl rfl rfl rfl rfl rfl l64_1) (m_X0_throughThree_J94 rfl rfl rfl rfl rfl rfl rfl rfl rfl rfl l64_m1))))))))))))))))))))

def q_X0_aboutWithTwo_L10 (zP1 : tZ8) (v2 : Int) (v3 : Int) (s : (Int × tZ0)) : Option (Nat × (Int × tZ0)) :=
  kg (k32 v3 ∧ k32 s.1) (kif (v3 ≤ s.1) (some (42, (s.1, s.2))) (kb (q_X0_isOutside s.2 zP1 s.1) (fun x2 : Bool => kif (kz x2 = 0) (kl (s.1 + (1 : Int)) (fun y3 : Int => some (10, (y3, s.2)))) (kb (q_X0_throughThree s.2 zP1 v2 v3 s.1) (fun x4 : (Bool × tZ0) => kl (s.1 + (1 : Int)) (fun y5 : Int => some (10, (y5, x4.2))))))))
theorem m_X0_aboutWithTwo_L10 {zP1 : tZ8} {u0 : tX8} {v2 : Int} {u1 : Int32} {v3 : Int} {u2 : Int32} {s : (Int × tZ0)} {u3 : (Int32 × tX0)} (e0 : u0 = (cX8 zP1)) (e1 : u1 = (Int32.ofInt v2)) (e2 : u2 = (Int32.ofInt v3)) (e3 : u3 = ((Int32.ofInt s.1), (cX0 s.2))) : sim (fun r : (Nat × (Int × tZ0)) => (r.1, ((Int32.ofInt r.2.1), (cX0 r.2.2)))) (q_X0_aboutWithTwo_L10 zP1 v2 v3 s) (p_X0_aboutWithTwo_L10 u0 u1 u2 u3) := by
  subst e0 e1 e2 e3
  unfold q_X0_aboutWithTwo_L10 p_X0_aboutWithTwo_L10
  exact sim_g (fun g1 => sim_kif (i_le rfl rfl g1.1 g1.2) (sim_some rfl) (sim_kb (c1 := (fun r : Bool => r)) (m_X0_isOutside rfl rfl rfl) (fun x2 => sim_kif Iff.rfl (sim_kl (c := Int32.ofInt) (c_add rfl l32_1) (fun y3 => sim_some rfl)) (sim_kb (c1 := (fun r : (Bool × tZ0) => (r.1, (cX0 r.2)))) (m_X0_throughThree rfl rfl rfl rfl rfl) (fun x4 => sim_kl (c := Int32.ofInt) (c_add rfl l32_1) (fun y5 => sim_some rfl))))))

def q_X0_aboutWithTwo (zT : tZ0) (zP1 : tZ8) (v2 : Int) (v3 : Int) : Option tZ0 :=
  kb (q_X0_acrossTwo zT zP1 v2 v3) (fun x1 : tZ0 => kb (kitr 10 (fun q => q_X0_aboutWithTwo_L10 zP1 v2 v3 q) kF ((0 : Int), x1)) (fun x6 : (Nat × Int × tZ0) => kg ((x6.1 = 42)) (some x6.2.2)))
theorem m_X0_aboutWithTwo {zT : tZ0} {u0 : tX0} {zP1 : tZ8} {u1 : tX8} {v2 : Int} {u2 : Int32} {v3 : Int} {u3 : Int32} (e0 : u0 = (cX0 zT)) (e1 : u1 = (cX8 zP1)) (e2 : u2 = (Int32.ofInt v2)) (e3 : u3 = (Int32.ofInt v3)) : sim cX0 (q_X0_aboutWithTwo zT zP1 v2 v3) (p_X0_aboutWithTwo u0 u1 u2 u3) := by
  subst e0 e1 e2 e3
  unfold q_X0_aboutWithTwo p_X0_aboutWithTwo
  exact sim_kb (c1 := cX0) (m_X0_acrossTwo rfl rfl rfl rfl) (fun x1 => sim_kb (c1 := (fun r : (Nat × Int × tZ0) => (r.1, (Int32.ofInt r.2.1), (cX0 r.2.2)))) (sim_kitr (c := (fun r : (Int × tZ0) => ((Int32.ofInt r.1), (cX0 r.2)))) (fun _ => m_X0_aboutWithTwo_L10 rfl rfl rfl rfl) (c_pr l32_0 rfl)) (fun x6 => sim_kg Iff.rfl (sim_some rfl)))

def q_X0_aboutWithOne_L8 (zP1 : tZ8) (v2 : Int) (s : (Int × tZ0)) : Option (Nat × (Int × tZ0)) :=
  kg (k32 v2 ∧ k32 s.1) (kif (v2 ≤ s.1) (some (35, (s.1, s.2))) (kb (q_X0_isOutside s.2 zP1 s.1) (fun x2 : Bool => kif (kz x2 = 0) (kl (s.1 + (1 : Int)) (fun y3 : Int => some (8, (y3, s.2)))) (kb (q_X0_aboutWithTwo s.2 zP1 v2 s.1) (fun x4 : tZ0 => kl (s.1 + (1 : Int)) (fun y5 : Int => some (8, (y5, x4))))))))
theorem m_X0_aboutWithOne_L8 {zP1 : tZ8} {u0 : tX8} {v2 : Int} {u1 : Int32} {s : (Int × tZ0)} {u2 : (Int32 × tX0)} (e0 : u0 = (cX8 zP1)) (e1 : u1 = (Int32.ofInt v2)) (e2 : u2 = ((Int32.ofInt s.1), (cX0 s.2))) : sim (fun r : (Nat × (Int × tZ0)) => (r.1, ((Int32.ofInt r.2.1), (cX0 r.2.2)))) (q_X0_aboutWithOne_L8 zP1 v2 s) (p_X0_aboutWithOne_L8 u0 u1 u2) := by
  subst e0 e1 e2
  unfold q_X0_aboutWithOne_L8 p_X0_aboutWithOne_L8
  exact sim_g (fun g1 => sim_kif (i_le rfl rfl g1.1 g1.2) (sim_some rfl) (sim_kb (c1 := (fun r : Bool => r)) (m_X0_isOutside rfl rfl rfl) (fun x2 => sim_kif Iff.rfl (sim_kl (c := Int32.ofInt) (c_add rfl l32_1) (fun y3 => sim_some rfl)) (sim_kb (c1 := cX0) (m_X0_aboutWithTwo rfl rfl rfl rfl) (fun x4 => sim_kl (c := Int32.ofInt) (c_add rfl l32_1) (fun y5 => sim_some rfl))))))

def q_X0_aboutWithOne (zT : tZ0) (zP1 : tZ8) (v2 : Int) : Option tZ0 :=
  kb (q_X0_atOne zT zP1 v2) (fun x1 : tZ0 => kb (kitr 8 (fun q => q_X0_aboutWithOne_L8 zP1 v2 q) kF ((0 : Int), x1)) (fun x6 : (Nat × Int × tZ0) => kg ((x6.1 = 35)) (some x6.2.2)))
theorem m_X0_aboutWithOne {zT : tZ0} {u0 : tX0} {zP1 : tZ8} {u1 : tX8} {v2 : Int} {u2 : Int32} (e0 : u0 = (cX0 zT)) (e1 : u1 = (cX8 zP1)) (e2 : u2 = (Int32.ofInt v2)) : sim cX0 (q_X0_aboutWithOne zT zP1 v2) (p_X0_aboutWithOne u0 u1 u2) := by
  subst e0 e1 e2
  unfold q_X0_aboutWithOne p_X0_aboutWithOne
  exact sim_kb (c1 := cX0) (m_X0_atOne rfl rfl rfl) (fun x1 => sim_kb (c1 := (fun r : (Nat × Int × tZ0) => (r.1, (Int32.ofInt r.2.1), (cX0 r.2.2)))) (sim_kitr (c := (fun r : (Int × tZ0) => ((Int32.ofInt r.1), (cX0 r.2)))) (fun _ => m_X0_aboutWithOne_L8 rfl rfl rfl) (c_pr l32_0 rfl)) (fun x6 => sim_kg Iff.rfl (sim_some rfl)))

def q_X0_about_L8 (zP1 : tZ8) (s : (Int × tZ0)) : Option (Nat × (Int × tZ0)) :=
  kb (q_X8_count zP1) (fun x2 : Int => kg (k32 x2 ∧ k32 s.1) (kif (x2 ≤ s.1) (some (37, (s.1, s.2))) (kb (q_X0_isOutside s.2 zP1 s.1) (fun x3 : Bool => kif (kz x3 = 0) (kl (s.1 + (1 : Int)) (fun y4 : Int => some (8, (y4, s.2)))) (kb (q_X0_aboutWithOne s.2 zP1 s.1) (fun x5 : tZ0 => kl (s.1 + (1 : Int)) (fun y6 : Int => some (8, (y6, x5)))))))))
theorem m_X0_about_L8 {zP1 : tZ8} {u0 : tX8} {s : (Int × tZ0)} {u1 : (Int32 × tX0)} (e0 : u0 = (cX8 zP1)) (e1 : u1 = ((Int32.ofInt s.1), (cX0 s.2))) : sim (fun r : (Nat × (Int × tZ0)) => (r.1, ((Int32.ofInt r.2.1), (cX0 r.2.2)))) (q_X0_about_L8 zP1 s) (p_X0_about_L8 u0 u1) := by
  subst e0 e1
  unfold q_X0_about_L8 p_X0_about_L8
  exact sim_kb (c1 := Int32.ofInt) (m_X8_count rfl) (fun x2 => sim_g (fun g1 => sim_kif (i_le rfl rfl g1.1 g1.2) (sim_some rfl) (sim_kb (c1 := (fun r : Bool => r)) (m_X0_isOutside rfl rfl rfl) (fun x3 => sim_kif Iff.rfl (sim_kl (c := Int32.ofInt) (c_add rfl l32_1) (fun y4 => sim_some rfl)) (sim_kb (c1 := cX0) (m_X0_aboutWithOne rfl rfl rfl) (fun x5 => sim_kl (c := Int32.ofInt) (c_add rfl l32_1) (fun y6 => sim_some rfl)))))))

def q_X0_about (zT : tZ0) (zP1 : tZ8) : Option tZ0 :=
  kb (q_X0_atOne zT zP1 (0 : Int)) (fun x1 : tZ0 => kb (kitr 8 (fun q => q_X0_about_L8 zP1 q) kF ((1 : Int), x1)) (fun x7 : (Nat × Int × tZ0) => kg ((x7.1 = 37)) (some x7.2.2)))
theorem m_X0_about {zT : tZ0} {u0 : tX0} {zP1 : tZ8} {u1 : tX8} (e0 : u0 = (cX0 zT)) (e1 : u1 = (cX8 zP1)) : sim cX0 (q_X0_about zT zP1) (p_X0_about u0 u1) := by
  subst e0 e1
  unfold q_X0_about p_X0_about
  exact sim_kb (c1 := cX0) (m_X0_atOne rfl rfl l32_0) (fun x1 => sim_kb (c1 := (fun r : (Nat × Int × tZ0) => (r.1, (Int32.ofInt r.2.1), (cX0 r.2.2)))) (sim_kitr (c := (fun r : (Int × tZ0) => ((Int32.ofInt r.1), (cX0 r.2)))) (fun _ => m_X0_about_L8 rfl rfl) (c_pr l32_1 rfl)) (fun x7 => sim_kg Iff.rfl (sim_some rfl)))

def q_X0_sizeAbove (zT : tZ0) : Option Int :=
  some ((zT.2.2.2.1 * zT.2.2.2.1) + (zT.2.2.2.2.1 * zT.2.2.2.2.1))
theorem m_X0_sizeAbove {zT : tZ0} {u0 : tX0} (e0 : u0 = (cX0 zT)) : sim Int64.ofInt (q_X0_sizeAbove zT) (p_X0_sizeAbove u0) := by
  subst e0
  unfold q_X0_sizeAbove p_X0_sizeAbove
  exact sim_some (d_add (d_mul rfl rfl) (d_mul rfl rfl))

def q_X0_sizeBelow (zT : tZ0) : Option Int :=
  some (zT.2.2.1 * zT.2.2.1)
theorem m_X0_sizeBelow {zT : tZ0} {u0 : tX0} (e0 : u0 = (cX0 zT)) : sim Int64.ofInt (q_X0_sizeBelow zT) (p_X0_sizeBelow u0) := by
  subst e0
  unfold q_X0_sizeBelow p_X0_sizeBelow
  exact sim_some (d_mul rfl rfl)

def q_X0_size (zT : tZ0) (zP1 : tZ3) : Option tZ3 :=
  kb (q_X0_sizeAbove zT) (fun x1 : Int => kb (q_X0_sizeBelow zT) (fun x2 : Int => kb (q_X3_set zP1 x1 x2) (fun x3 : tZ3 => some x3)))
theorem m_X0_size {zT : tZ0} {u0 : tX0} {zP1 : tZ3} {u1 : tX3} (e0 : u0 = (cX0 zT)) (e1 : u1 = (cX3 zP1)) : sim cX3 (q_X0_size zT zP1) (p_X0_size u0 u1) := by
  subst e0 e1
  unfold q_X0_size p_X0_size
  exact sim_kb (c1 := Int64.ofInt) (m_X0_sizeAbove rfl) (fun x1 => sim_kb (c1 := Int64.ofInt) (m_X0_sizeBelow rfl) (fun x2 => sim_kb (c1 := cX3) (m_X3_set rfl rfl rfl) (fun x3 => sim_some rfl)))

def q_X0_middleX (zT : tZ0) (zP1 : tZ3) : Option tZ3 :=
  kg (k32 zT.1) (kb (q_X3_set zP1 ((zT.1 * zT.2.2.1) + zT.2.2.2.1) zT.2.2.1) (fun x1 : tZ3 => some x1))
theorem m_X0_middleX {zT : tZ0} {u0 : tX0} {zP1 : tZ3} {u1 : tX3} (e0 : u0 = (cX0 zT)) (e1 : u1 = (cX3 zP1)) : sim cX3 (q_X0_middleX zT zP1) (p_X0_middleX u0 u1) := by
  subst e0 e1
  unfold q_X0_middleX p_X0_middleX
  exact sim_g (fun g1 => sim_kb (c1 := cX3) (m_X3_set rfl (d_add (d_mul (c_toJ rfl g1) rfl) rfl) rfl) (fun x1 => sim_some rfl))

def q_X0_middleY (zT : tZ0) (zP1 : tZ3) : Option tZ3 :=
  kg (k32 zT.2.1) (kb (q_X3_set zP1 ((zT.2.1 * zT.2.2.1) + zT.2.2.2.2.1) zT.2.2.1) (fun x1 : tZ3 => some x1))
theorem m_X0_middleY {zT : tZ0} {u0 : tX0} {zP1 : tZ3} {u1 : tX3} (e0 : u0 = (cX0 zT)) (e1 : u1 = (cX3 zP1)) : sim cX3 (q_X0_middleY zT zP1) (p_X0_middleY u0 u1) := by
  subst e0 e1
  unfold q_X0_middleY p_X0_middleY
  exact sim_g (fun g1 => sim_kb (c1 := cX3) (m_X3_set rfl (d_add (d_mul (c_toJ rfl g1) rfl) rfl) rfl) (fun x1 => sim_some rfl))

def q_X0_sizeAgainst (zT : tZ0) (zP1 : tZ0) : Option Int :=
  kb (q_X0_sizeAbove zT) (fun x1 : Int => kb (q_X0_sizeBelow zT) (fun x2 : Int => kb (q_X0_sizeAbove zP1) (fun x3 : Int => kb (q_X0_sizeBelow zP1) (fun x4 : Int => kb (q_X3_compare x1 x2 x3 x4) (fun x5 : Int => some x5)))))
theorem m_X0_sizeAgainst {zT : tZ0} {u0 : tX0} {zP1 : tZ0} {u1 : tX0} (e0 : u0 = (cX0 zT)) (e1 : u1 = (cX0 zP1)) : sim Int32.ofInt (q_X0_sizeAgainst zT zP1) (p_X0_sizeAgainst u0 u1) := by
  subst e0 e1
  unfold q_X0_sizeAgainst p_X0_sizeAgainst
  exact sim_kb (c1 := Int64.ofInt) (m_X0_sizeAbove rfl) (fun x1 => sim_kb (c1 := Int64.ofInt) (m_X0_sizeBelow rfl) (fun x2 => sim_kb (c1 := Int64.ofInt) (m_X0_sizeAbove rfl) (fun x3 => sim_kb (c1 := Int64.ofInt) (m_X0_sizeBelow rfl) (fun x4 => sim_kb (c1 := Int32.ofInt) (m_X3_compare rfl rfl rfl rfl) (fun x5 => sim_some rfl)))))

def q_X0_countOnRim_L4 (zT : tZ0) (zP1 : tZ8) (s : (Int × Int)) : Option (Nat × (Int × Int)) :=
  kb (q_X8_count zP1) (fun x1 : Int => kg (k32 x1 ∧ k32 s.2) (kif (x1 ≤ s.2) (some (38, (s.1, s.2))) (kb (q_X8_x zP1 s.2) (fun x2 : Int => kb (q_X8_y zP1 s.2) (fun x3 : Int => kb (q_X0_side zT x2 x3) (fun x4 : Int => kg (k32 x4) (kif (x4 = (0 : Int)) (kl (s.1 + (1 : Int)) (fun y5 : Int => kl (s.2 + (1 : Int)) (fun y6 : Int => some (4, (y5, y6))))) (kl (s.2 + (1 : Int)) (fun y7 : Int => some (4, (s.1, y7)))))))))))
theorem m_X0_countOnRim_L4 {zT : tZ0} {u0 : tX0} {zP1 : tZ8} {u1 : tX8} {s : (Int × Int)} {u2 : (Int32 × Int32)} (e0 : u0 = (cX0 zT)) (e1 : u1 = (cX8 zP1)) (e2 : u2 = ((Int32.ofInt s.1), (Int32.ofInt s.2))) : sim (fun r : (Nat × (Int × Int)) => (r.1, ((Int32.ofInt r.2.1), (Int32.ofInt r.2.2)))) (q_X0_countOnRim_L4 zT zP1 s) (p_X0_countOnRim_L4 u0 u1 u2) := by
  subst e0 e1 e2
  unfold q_X0_countOnRim_L4 p_X0_countOnRim_L4
  exact sim_kb (c1 := Int32.ofInt) (m_X8_count rfl) (fun x1 => sim_g (fun g1 => sim_kif (i_le rfl rfl g1.1 g1.2) (sim_some rfl) (sim_kb (c1 := Int32.ofInt) (m_X8_x rfl rfl) (fun x2 => sim_kb (c1 := Int32.ofInt) (m_X8_y rfl rfl) (fun x3 => sim_kb (c1 := Int32.ofInt) (m_X0_side rfl rfl rfl) (fun x4 => sim_g (fun g2 => sim_kif (i_eq rfl l32_0 g2 (by decide)) (sim_kl (c := Int32.ofInt) (c_add rfl l32_1) (fun y5 => sim_kl (c := Int32.ofInt) (c_add rfl l32_1) (fun y6 => sim_some rfl))) (sim_kl (c := Int32.ofInt) (c_add rfl l32_1) (fun y7 => sim_some rfl)))))))))

def q_X0_countOnRim (zT : tZ0) (zP1 : tZ8) : Option Int :=
  kb (kitr 4 (fun q => q_X0_countOnRim_L4 zT zP1 q) kF ((0 : Int), (0 : Int))) (fun x8 : (Nat × Int × Int) => kg ((x8.1 = 38)) (some x8.2.1))
theorem m_X0_countOnRim {zT : tZ0} {u0 : tX0} {zP1 : tZ8} {u1 : tX8} (e0 : u0 = (cX0 zT)) (e1 : u1 = (cX8 zP1)) : sim Int32.ofInt (q_X0_countOnRim zT zP1) (p_X0_countOnRim u0 u1) := by
  subst e0 e1
  unfold q_X0_countOnRim p_X0_countOnRim
  exact sim_kb (c1 := (fun r : (Nat × Int × Int) => (r.1, (Int32.ofInt r.2.1), (Int32.ofInt r.2.2)))) (sim_kitr (c := (fun r : (Int × Int) => ((Int32.ofInt r.1), (Int32.ofInt r.2)))) (fun _ => m_X0_countOnRim_L4 rfl rfl rfl) (c_pr l32_0 l32_0)) (fun x8 => sim_kg Iff.rfl (sim_some rfl))

def q_X0_tightCount (zT : tZ0) : Option Int :=
  some zT.2.2.2.2.2.2.2.2
theorem m_X0_tightCount {zT : tZ0} {u0 : tX0} (e0 : u0 = (cX0 zT)) : sim Int32.ofInt (q_X0_tightCount zT) (p_X0_tightCount u0) := by
  subst e0
  unfold q_X0_tightCount p_X0_tightCount
  exact sim_some rfl

def q_X0_tightNumber (zT : tZ0) (v1 : Int) : Option Int :=
  kg (k32 v1) (kif (v1 < (0 : Int)) (some (-1 : Int)) (kg (k32 zT.2.2.2.2.2.2.2.2) (kif (zT.2.2.2.2.2.2.2.2 ≤ v1) (some (-1 : Int)) (kif ((3 : Int) ≤ v1) (some (-1 : Int)) (kg (0 ≤ v1 ∧ v1 < 3) (some (zT.2.2.2.2.2.2.2.1 (v1.toNat))))))))
theorem m_X0_tightNumber {zT : tZ0} {u0 : tX0} {v1 : Int} {u1 : Int32} (e0 : u0 = (cX0 zT)) (e1 : u1 = (Int32.ofInt v1)) : sim Int32.ofInt (q_X0_tightNumber zT v1) (p_X0_tightNumber u0 u1) := by
  subst e0 e1
  unfold q_X0_tightNumber p_X0_tightNumber
  exact sim_g (fun g1 => sim_kif (i_lt rfl l32_0 g1 (by decide)) (sim_some l32_m1) (sim_g (fun g2 => sim_kif (i_le rfl rfl g2 g1) (sim_some l32_m1) (sim_kif (i_le l32_3 rfl (by decide) g1) (sim_some l32_m1) (sim_kii rfl (by decide) (fun g3 => sim_some (c_ap zT.2.2.2.2.2.2.2.1 (c_idx rfl g3 (by decide)))))))))

def q_X0_putOnRim_L15 (zP1 : tZ8) (v2 : Int) (s : (Int × tZ0)) : Option (Nat × (Int × tZ0)) :=
  kg (k32 s.1) (kif (s.1 ≤ (0 : Int)) (some (59, (s.1, s.2))) (kg (0 ≤ (s.1 - (1 : Int)) ∧ (s.1 - (1 : Int)) < 41) (kb (q_X8_number zP1 (s.2.2.2.2.2.2.1 ((s.1 - (1 : Int)).toNat))) (fun x1 : Int => kb (q_X8_number zP1 v2) (fun x2 : Int => kg (k32 x1 ∧ k32 x2) (kif (x1 ≤ x2) (some (59, (s.1, s.2))) (kg (0 ≤ s.1 ∧ s.1 < 41) (kl (s.2.1, s.2.2.1, s.2.2.2.1, s.2.2.2.2.1, s.2.2.2.2.2.1, (va_up s.2.2.2.2.2.2.1 (s.1.toNat) (s.2.2.2.2.2.2.1 ((s.1 - (1 : Int)).toNat))), s.2.2.2.2.2.2.2) (fun z3 : (Int × Int × Int × Int × Int × (Nat → Int) × (Int × (Nat → Int) × Int)) => kl (s.1 + (-1 : Int)) (fun y4 : Int => some (15, (y4, z3))))))))))))
theorem m_X0_putOnRim_L15 {zP1 : tZ8} {u0 : tX8} {v2 : Int} {u1 : Int32} {s : (Int × tZ0)} {u2 : (Int32 × tX0)} (e0 : u0 = (cX8 zP1)) (e1 : u1 = (Int32.ofInt v2)) (e2 : u2 = ((Int32.ofInt s.1), (cX0 s.2))) : sim (fun r : (Nat × (Int × tZ0)) => (r.1, ((Int32.ofInt r.2.1), (cX0 r.2.2)))) (q_X0_putOnRim_L15 zP1 v2 s) (p_X0_putOnRim_L15 u0 u1 u2) := by
  subst e0 e1 e2
  unfold q_X0_putOnRim_L15 p_X0_putOnRim_L15
  exact sim_g (fun g1 => sim_kif (i_le rfl l32_0 g1 (by decide)) (sim_some rfl) (sim_kii (c_sub rfl l32_1) (by decide) (fun g2 => sim_kb (c1 := Int32.ofInt) (m_X8_number rfl (c_ap s.2.2.2.2.2.2.1 (c_idx (c_sub rfl l32_1) g2 (by decide)))) (fun x1 => sim_kb (c1 := Int32.ofInt) (m_X8_number rfl rfl) (fun x2 => sim_g (fun g3 => sim_kif (i_le rfl rfl g3.1 g3.2) (sim_some rfl) (sim_kii0 (c_sub rfl l32_1) (by decide) g2 (sim_kii rfl (by decide) (fun g4 => sim_kl (c := (fun r : (Int × Int × Int × Int × Int × (Nat → Int) × (Int × (Nat → Int) × Int)) => ((Int32.ofInt r.1), (Int32.ofInt r.2.1), (Int64.ofInt r.2.2.1), (Int64.ofInt r.2.2.2.1), (Int64.ofInt r.2.2.2.2.1), (cF r.2.2.2.2.2.1), ((Int32.ofInt r.2.2.2.2.2.2.1), (cF r.2.2.2.2.2.2.2.1), (Int32.ofInt r.2.2.2.2.2.2.2.2))))) (c_pr rfl (c_pr rfl (c_pr rfl (c_pr rfl (c_pr rfl (c_pr (c_upd rfl (c_idx rfl g4 (by decide)) (c_ap s.2.2.2.2.2.2.1 (c_idx (c_sub rfl l32_1) g2 (by decide)))) rfl)))))) (fun z3 => sim_kl (c := Int32.ofInt) (c_add rfl l32_m1) (fun y4 => sim_some rfl)))))))))))

def q_X0_putOnRim (zT : tZ0) (zP1 : tZ8) (v2 : Int) : Option tZ0 :=
  kg (k32 zT.2.2.2.2.2.2.1) (kif (zT.2.2.2.2.2.2.1 < (41 : Int)) (kb (kitr 15 (fun q => q_X0_putOnRim_L15 zP1 v2 q) kF (zT.2.2.2.2.2.2.1, zT)) (fun x5 : (Nat × Int × tZ0) => kg ((x5.1 = 59)) (kg (0 ≤ x5.2.1 ∧ x5.2.1 < 41) (kl (x5.2.2.1, x5.2.2.2.1, x5.2.2.2.2.1, x5.2.2.2.2.2.1, x5.2.2.2.2.2.2.1, (va_up x5.2.2.2.2.2.2.2.1 (x5.2.1.toNat) v2), x5.2.2.2.2.2.2.2.2) (fun z6 : (Int × Int × Int × Int × Int × (Nat → Int) × (Int × (Nat → Int) × Int)) => kl (z6.1, z6.2.1, z6.2.2.1, z6.2.2.2.1, z6.2.2.2.2.1, z6.2.2.2.2.2.1, (z6.2.2.2.2.2.2.1 + (1 : Int)), z6.2.2.2.2.2.2.2) (fun z7 : (Int × Int × Int × Int × Int × (Nat → Int) × Int × ((Nat → Int) × Int)) => some z7)))))) (some zT))
theorem m_X0_putOnRim {zT : tZ0} {u0 : tX0} {zP1 : tZ8} {u1 : tX8} {v2 : Int} {u2 : Int32} (e0 : u0 = (cX0 zT)) (e1 : u1 = (cX8 zP1)) (e2 : u2 = (Int32.ofInt v2)) : sim cX0 (q_X0_putOnRim zT zP1 v2) (p_X0_putOnRim u0 u1 u2) := by
  subst e0 e1 e2
  unfold q_X0_putOnRim p_X0_putOnRim
  exact sim_g (fun g1 => sim_kif (i_lt rfl l32_41 g1 (by decide)) (sim_kb (c1 := (fun r : (Nat × Int × tZ0) => (r.1, (Int32.ofInt r.2.1), (cX0 r.2.2)))) (sim_kitr (c := (fun r : (Int × tZ0) => ((Int32.ofInt r.1), (cX0 r.2)))) (fun _ => m_X0_putOnRim_L15 rfl rfl rfl) rfl) (fun x5 => sim_kg Iff.rfl (sim_kii rfl (by decide) (fun g2 => sim_kl (c := (fun r : (Int × Int × Int × Int × Int × (Nat → Int) × (Int × (Nat → Int) × Int)) => ((Int32.ofInt r.1), (Int32.ofInt r.2.1), (Int64.ofInt r.2.2.1), (Int64.ofInt r.2.2.2.1), (Int64.ofInt r.2.2.2.2.1), (cF r.2.2.2.2.2.1), ((Int32.ofInt r.2.2.2.2.2.2.1), (cF r.2.2.2.2.2.2.2.1), (Int32.ofInt r.2.2.2.2.2.2.2.2))))) (c_pr rfl (c_pr rfl (c_pr rfl (c_pr rfl (c_pr rfl (c_pr (c_upd rfl (c_idx rfl g2 (by decide)) rfl) rfl)))))) (fun z6 => sim_kl (c := (fun r : (Int × Int × Int × Int × Int × (Nat → Int) × Int × ((Nat → Int) × Int)) => ((Int32.ofInt r.1), (Int32.ofInt r.2.1), (Int64.ofInt r.2.2.1), (Int64.ofInt r.2.2.2.1), (Int64.ofInt r.2.2.2.2.1), (cF r.2.2.2.2.2.1), (Int32.ofInt r.2.2.2.2.2.2.1), ((cF r.2.2.2.2.2.2.2.1), (Int32.ofInt r.2.2.2.2.2.2.2.2))))) (c_pr rfl (c_pr rfl (c_pr rfl (c_pr rfl (c_pr rfl (c_pr rfl (c_pr (c_add rfl l32_1) rfl))))))) (fun z7 => sim_some rfl)))))) (sim_some rfl))

def q_X0_rimSpot (zT : tZ0) (v1 : Int) : Option Int :=
  kg (k32 v1) (kif (v1 < (0 : Int)) (some (-1 : Int)) (kg (k32 zT.2.2.2.2.2.2.1) (kif (zT.2.2.2.2.2.2.1 ≤ v1) (some (-1 : Int)) (kg (0 ≤ v1 ∧ v1 < 41) (some (zT.2.2.2.2.2.1 (v1.toNat)))))))
theorem m_X0_rimSpot {zT : tZ0} {u0 : tX0} {v1 : Int} {u1 : Int32} (e0 : u0 = (cX0 zT)) (e1 : u1 = (Int32.ofInt v1)) : sim Int32.ofInt (q_X0_rimSpot zT v1) (p_X0_rimSpot u0 u1) := by
  subst e0 e1
  unfold q_X0_rimSpot p_X0_rimSpot
  exact sim_g (fun g1 => sim_kif (i_lt rfl l32_0 g1 (by decide)) (sim_some l32_m1) (sim_g (fun g2 => sim_kif (i_le rfl rfl g2 g1) (sim_some l32_m1) (sim_kii rfl (by decide) (fun g3 => sim_some (c_ap zT.2.2.2.2.2.1 (c_idx rfl g3 (by decide))))))))

def q_X0_setTight (zT : tZ0) (zP1 : tZ8) (v2 : Int) (v3 : Int) (v4 : Int) (v5 : Int) : Option tZ0 :=
  kb (q_X0_rimSpot zT v3) (fun x1 : Int => kb (q_X8_number zP1 x1) (fun x2 : Int => kg (0 ≤ (0 : Int) ∧ (0 : Int) < 3) (kl (zT.1, zT.2.1, zT.2.2.1, zT.2.2.2.1, zT.2.2.2.2.1, zT.2.2.2.2.2.1, zT.2.2.2.2.2.2.1, (va_up zT.2.2.2.2.2.2.2.1 ((0 : Int).toNat) x2), zT.2.2.2.2.2.2.2.2) (fun z3 : (Int × Int × Int × Int × Int × (Nat → Int) × Int × (Nat → Int) × Int) => kb (q_X0_rimSpot z3 v4) (fun x4 : Int => kb (q_X8_number zP1 x4) (fun x5 : Int => kg (0 ≤ (1 : Int) ∧ (1 : Int) < 3) (kl (z3.1, z3.2.1, z3.2.2.1, z3.2.2.2.1, z3.2.2.2.2.1, z3.2.2.2.2.2.1, z3.2.2.2.2.2.2.1, (va_up z3.2.2.2.2.2.2.2.1 ((1 : Int).toNat) x5), z3.2.2.2.2.2.2.2.2) (fun z6 : (Int × Int × Int × Int × Int × (Nat → Int) × Int × (Nat → Int) × Int) => kb (q_X0_rimSpot z6 v5) (fun x7 : Int => kb (q_X8_number zP1 x7) (fun x8 : Int => kg (0 ≤ (2 : Int) ∧ (2 : Int) < 3) (kl (z6.1, z6.2.1, z6.2.2.1, z6.2.2.2.1, z6.2.2.2.2.1, z6.2.2.2.2.2.1, z6.2.2.2.2.2.2.1, (va_up z6.2.2.2.2.2.2.2.1 ((2 : Int).toNat) x8), z6.2.2.2.2.2.2.2.2) (fun z9 : (Int × Int × Int × Int × Int × (Nat → Int) × Int × (Nat → Int) × Int) => kl (z9.1, z9.2.1, z9.2.2.1, z9.2.2.2.1, z9.2.2.2.2.1, z9.2.2.2.2.2.1, z9.2.2.2.2.2.2.1, z9.2.2.2.2.2.2.2.1, v2) (fun z10 : (Int × Int × Int × Int × Int × (Nat → Int) × Int × (Nat → Int) × Int) => some z10)))))))))))))
theorem m_X0_setTight {zT : tZ0} {u0 : tX0} {zP1 : tZ8} {u1 : tX8} {v2 : Int} {u2 : Int32} {v3 : Int} {u3 : Int32} {v4 : Int} {u4 : Int32} {v5 : Int} {u5 : Int32} (e0 : u0 = (cX0 zT)) (e1 : u1 = (cX8 zP1)) (e2 : u2 = (Int32.ofInt v2)) (e3 : u3 = (Int32.ofInt v3)) (e4 : u4 = (Int32.ofInt v4)) (e5 : u5 = (Int32.ofInt v5)) : sim cX0 (q_X0_setTight zT zP1 v2 v3 v4 v5) (p_X0_setTight u0 u1 u2 u3 u4 u5) := by
  subst e0 e1 e2 e3 e4 e5
  unfold q_X0_setTight p_X0_setTight
  exact sim_kb (c1 := Int32.ofInt) (m_X0_rimSpot rfl rfl) (fun x1 => sim_kb (c1 := Int32.ofInt) (m_X8_number rfl rfl) (fun x2 => sim_kii l32_0 (by decide) (fun g1 => sim_kl (c := (fun r : (Int × Int × Int × Int × Int × (Nat → Int) × Int × (Nat → Int) × Int) => ((Int32.ofInt r.1), (Int32.ofInt r.2.1), (Int64.ofInt r.2.2.1), (Int64.ofInt r.2.2.2.1), (Int64.ofInt r.2.2.2.2.1), (cF r.2.2.2.2.2.1), (Int32.ofInt r.2.2.2.2.2.2.1), (cF r.2.2.2.2.2.2.2.1), (Int32.ofInt r.2.2.2.2.2.2.2.2)))) (c_pr rfl (c_pr rfl (c_pr rfl (c_pr rfl (c_pr rfl (c_pr rfl (c_pr rfl (c_pr (c_upd rfl (c_idx l32_0 g1 (by decide)) rfl) rfl)))))))) (fun z3 => sim_kb (c1 := Int32.ofInt) (m_X0_rimSpot rfl rfl) (fun x4 => sim_kb (c1 := Int32.ofInt) (m_X8_number rfl rfl) (fun x5 => sim_kii l32_1 (by decide) (fun g2 => sim_kl (c := (fun r : (Int × Int × Int × Int × Int × (Nat → Int) × Int × (Nat → Int) × Int) => ((Int32.ofInt r.1), (Int32.ofInt r.2.1), (Int64.ofInt r.2.2.1), (Int64.ofInt r.2.2.2.1), (Int64.ofInt r.2.2.2.2.1), (cF r.2.2.2.2.2.1), (Int32.ofInt r.2.2.2.2.2.2.1), (cF r.2.2.2.2.2.2.2.1), (Int32.ofInt r.2.2.2.2.2.2.2.2)))) (c_pr rfl (c_pr rfl (c_pr rfl (c_pr rfl (c_pr rfl (c_pr rfl (c_pr rfl (c_pr (c_upd rfl (c_idx l32_1 g2 (by decide)) rfl) rfl)))))))) (fun z6 => sim_kb (c1 := Int32.ofInt) (m_X0_rimSpot rfl rfl) (fun x7 => sim_kb (c1 := Int32.ofInt) (m_X8_number rfl rfl) (fun x8 => sim_kii l32_2 (by decide) (fun g3 => sim_kl (c := (fun r : (Int × Int × Int × Int × Int × (Nat → Int) × Int × (Nat → Int) × Int) => ((Int32.ofInt r.1), (Int32.ofInt r.2.1), (Int64.ofInt r.2.2.1), (Int64.ofInt r.2.2.2.1), (Int64.ofInt r.2.2.2.2.1), (cF r.2.2.2.2.2.1), (Int32.ofInt r.2.2.2.2.2.2.1), (cF r.2.2.2.2.2.2.2.1), (Int32.ofInt r.2.2.2.2.2.2.2.2)))) (c_pr rfl (c_pr rfl (c_pr rfl (c_pr rfl (c_pr rfl (c_pr rfl (c_pr rfl (c_pr (c_upd rfl (c_idx l32_2 g3 (by decide)) rfl) rfl)))))))) (fun z9 => sim_kl (c := (fun r : (Int × Int × Int × Int × Int × (Nat → Int) × Int × (Nat → Int) × Int) => ((Int32.ofInt r.1), (Int32.ofInt r.2.1), (Int64.ofInt r.2.2.1), (Int64.ofInt r.2.2.2.1), (Int64.ofInt r.2.2.2.2.1), (cF r.2.2.2.2.2.1), (Int32.ofInt r.2.2.2.2.2.2.1), (cF r.2.2.2.2.2.2.2.1), (Int32.ofInt r.2.2.2.2.2.2.2.2)))) rfl (fun z10 => sim_some rfl)))))))))))))

def q_X0_areOpposite (zT : tZ0) (zP1 : tZ8) (v2 : Int) (v3 : Int) : Option Bool :=
  kb (q_X8_x zP1 v2) (fun x1 : Int => kb (q_X8_x zP1 v3) (fun x2 : Int => kg (k32 ((x1 + x2) - ((2 : Int) * zT.1))) (kl ((x1 + x2) - ((2 : Int) * zT.1)) (fun y3 : Int => kb (q_X8_y zP1 v2) (fun x4 : Int => kb (q_X8_y zP1 v3) (fun x5 : Int => kg (k32 ((x4 + x5) - ((2 : Int) * zT.2.1))) (kl ((x4 + x5) - ((2 : Int) * zT.2.1)) (fun y6 : Int => kg (k64 (y3 * zT.2.2.1) ∧ k64 ((2 : Int) * zT.2.2.2.1)) (kif ((y3 * zT.2.2.1) = ((2 : Int) * zT.2.2.2.1)) (kg (k64 (y6 * zT.2.2.1) ∧ k64 ((2 : Int) * zT.2.2.2.2.1)) (kif ((y6 * zT.2.2.1) = ((2 : Int) * zT.2.2.2.2.1)) (some true) (some false))) (some false))))))))))
theorem m_X0_areOpposite {zT : tZ0} {u0 : tX0} {zP1 : tZ8} {u1 : tX8} {v2 : Int} {u2 : Int32} {v3 : Int} {u3 : Int32} (e0 : u0 = (cX0 zT)) (e1 : u1 = (cX8 zP1)) (e2 : u2 = (Int32.ofInt v2)) (e3 : u3 = (Int32.ofInt v3)) : sim (fun r : Bool => r) (q_X0_areOpposite zT zP1 v2 v3) (p_X0_areOpposite u0 u1 u2 u3) := by
  subst e0 e1 e2 e3
  unfold q_X0_areOpposite p_X0_areOpposite
  exact sim_kb (c1 := Int32.ofInt) (m_X8_x rfl rfl) (fun x1 => sim_kb (c1 := Int32.ofInt) (m_X8_x rfl rfl) (fun x2 => sim_g (fun g1 => sim_kl (c := Int64.ofInt) (c_toJ (c_sub (c_add rfl rfl) (c_mul l32_2 rfl)) g1) (fun y3 => sim_kb (c1 := Int32.ofInt) (m_X8_y rfl rfl) (fun x4 => sim_kb (c1 := Int32.ofInt) (m_X8_y rfl rfl) (fun x5 => sim_g (fun g2 => sim_kl (c := Int64.ofInt) (c_toJ (c_sub (c_add rfl rfl) (c_mul l32_2 rfl)) g2) (fun y6 => sim_g (fun g3 => sim_kif (j_eq (d_mul rfl rfl) (d_mul l64_2 rfl) g3.1 g3.2) (sim_g (fun g4 => sim_kif (j_eq (d_mul rfl rfl) (d_mul l64_2 rfl) g4.1 g4.2) (sim_some rfl) (sim_some rfl))) (sim_some rfl))))))))))

def q_X0_seekTwo_L14 (zP1 : tZ8) (zT : tZ0) (v2 : Int) (s : Int) : Option (Nat × Int) :=
  kg (k32 zT.2.2.2.2.2.2.1 ∧ k32 s) (kif (zT.2.2.2.2.2.2.1 ≤ s) (some (57, s)) (kb (q_X0_rimSpot zT v2) (fun x2 : Int => kb (q_X0_rimSpot zT s) (fun x3 : Int => kb (q_X0_areOpposite zT zP1 x2 x3) (fun x4 : Bool => kif (kz x4 = 0) (kl (s + (1 : Int)) (fun y5 : Int => some (14, y5))) (some (40, s)))))))
theorem m_X0_seekTwo_L14 {zP1 : tZ8} {u0 : tX8} {zT : tZ0} {u1 : tX0} {v2 : Int} {u2 : Int32} {s : Int} {u3 : Int32} (e0 : u0 = (cX8 zP1)) (e1 : u1 = (cX0 zT)) (e2 : u2 = (Int32.ofInt v2)) (e3 : u3 = (Int32.ofInt s)) : sim (fun r : (Nat × Int) => (r.1, (Int32.ofInt r.2))) (q_X0_seekTwo_L14 zP1 zT v2 s) (p_X0_seekTwo_L14 u0 u1 u2 u3) := by
  subst e0 e1 e2 e3
  unfold q_X0_seekTwo_L14 p_X0_seekTwo_L14
  exact sim_g (fun g1 => sim_kif (i_le rfl rfl g1.1 g1.2) (sim_some rfl) (sim_kb (c1 := Int32.ofInt) (m_X0_rimSpot rfl rfl) (fun x2 => sim_kb (c1 := Int32.ofInt) (m_X0_rimSpot rfl rfl) (fun x3 => sim_kb (c1 := (fun r : Bool => r)) (m_X0_areOpposite rfl rfl rfl rfl) (fun x4 => sim_kif Iff.rfl (sim_kl (c := Int32.ofInt) (c_add rfl l32_1) (fun y5 => sim_some rfl)) (sim_some rfl))))))

def q_X0_seekTwo_L2 (zP1 : tZ8) (zT : tZ0) (s : (Int × Int)) : Option (Nat × (Int × Int)) :=
  kg (k32 zT.2.2.2.2.2.2.1 ∧ k32 s.1) (kif (zT.2.2.2.2.2.2.1 ≤ s.1) (some (63, (s.1, (0 : Int)))) (kl (s.1 + (1 : Int)) (fun y1 : Int => kb (kitr 14 (fun q => q_X0_seekTwo_L14 zP1 zT s.1 q) kF y1) (fun x6 : (Nat × Int) => kif (x6.1 = 40) (some (40, (s.1, x6.2))) (kg ((x6.1 = 57)) (kl (s.1 + (1 : Int)) (fun y7 : Int => some (2, (y7, (0 : Int))))))))))
theorem m_X0_seekTwo_L2 {zP1 : tZ8} {u0 : tX8} {zT : tZ0} {u1 : tX0} {s : (Int × Int)} {u2 : (Int32 × Int32)} (e0 : u0 = (cX8 zP1)) (e1 : u1 = (cX0 zT)) (e2 : u2 = ((Int32.ofInt s.1), (Int32.ofInt s.2))) : sim (fun r : (Nat × (Int × Int)) => (r.1, ((Int32.ofInt r.2.1), (Int32.ofInt r.2.2)))) (q_X0_seekTwo_L2 zP1 zT s) (p_X0_seekTwo_L2 u0 u1 u2) := by
  subst e0 e1 e2
  unfold q_X0_seekTwo_L2 p_X0_seekTwo_L2
  exact sim_g (fun g1 => sim_kif (i_le rfl rfl g1.1 g1.2) (sim_some (c_pr rfl (c_pr rfl l32_0))) (sim_kl (c := Int32.ofInt) (c_add rfl l32_1) (fun y1 => sim_kb (c1 := (fun r : (Nat × Int) => (r.1, (Int32.ofInt r.2)))) (sim_kitr (c := Int32.ofInt) (fun _ => m_X0_seekTwo_L14 rfl rfl rfl rfl) rfl) (fun x6 => sim_kif Iff.rfl (sim_some rfl) (sim_kg Iff.rfl (sim_kl (c := Int32.ofInt) (c_add rfl l32_1) (fun y7 => sim_some (c_pr rfl (c_pr rfl l32_0)))))))))

def q_X0_seekTwo (zT : tZ0) (zP1 : tZ8) : Option (Bool × tZ0) :=
  kb (kitr 2 (fun q => q_X0_seekTwo_L2 zP1 zT q) kF ((0 : Int), (0 : Int))) (fun x8 : (Nat × Int × Int) => kif (x8.1 = 40) (kb (q_X0_setTight zT zP1 (2 : Int) x8.2.1 x8.2.2 (0 : Int)) (fun x9 : tZ0 => some (true, x9))) (kg ((x8.1 = 63)) (some (false, zT))))
theorem m_X0_seekTwo {zT : tZ0} {u0 : tX0} {zP1 : tZ8} {u1 : tX8} (e0 : u0 = (cX0 zT)) (e1 : u1 = (cX8 zP1)) : sim (fun r : (Bool × tZ0) => (r.1, (cX0 r.2))) (q_X0_seekTwo zT zP1) (p_X0_seekTwo u0 u1) := by
  subst e0 e1
  unfold q_X0_seekTwo p_X0_seekTwo
  exact sim_kb (c1 := (fun r : (Nat × Int × Int) => (r.1, (Int32.ofInt r.2.1), (Int32.ofInt r.2.2)))) (sim_kitr (c := (fun r : (Int × Int) => ((Int32.ofInt r.1), (Int32.ofInt r.2)))) (fun _ => m_X0_seekTwo_L2 rfl rfl rfl) (c_pr l32_0 l32_0)) (fun x8 => sim_kif Iff.rfl (sim_kb (c1 := cX0) (m_X0_setTight rfl rfl l32_2 rfl rfl l32_0) (fun x9 => sim_some rfl)) (sim_kg Iff.rfl (sim_some rfl)))

def q_X0_areSharp (zP0 : tZ8) (v1 : Int) (v2 : Int) (v3 : Int) : Option Bool :=
  kb (q_X8_distance zP0 v1 v2) (fun x1 : Int => kb (q_X8_distance zP0 v2 v3) (fun x2 : Int => kb (q_X8_distance zP0 v3 v1) (fun x3 : Int => kg (k32 (x1 + x2) ∧ k32 x3) (kif ((x1 + x2) ≤ x3) (some false) (kg (k32 (x2 + x3) ∧ k32 x1) (kif ((x2 + x3) ≤ x1) (some false) (kg (k32 (x3 + x1) ∧ k32 x2) (kif ((x3 + x1) ≤ x2) (some false) (some true)))))))))
theorem m_X0_areSharp {zP0 : tZ8} {u0 : tX8} {v1 : Int} {u1 : Int32} {v2 : Int} {u2 : Int32} {v3 : Int} {u3 : Int32} (e0 : u0 = (cX8 zP0)) (e1 : u1 = (Int32.ofInt v1)) (e2 : u2 = (Int32.ofInt v2)) (e3 : u3 = (Int32.ofInt v3)) : sim (fun r : Bool => r) (q_X0_areSharp zP0 v1 v2 v3) (p_X0_areSharp u0 u1 u2 u3) := by
  subst e0 e1 e2 e3
  unfold q_X0_areSharp p_X0_areSharp
  exact sim_kb (c1 := Int32.ofInt) (m_X8_distance rfl rfl rfl) (fun x1 => sim_kb (c1 := Int32.ofInt) (m_X8_distance rfl rfl rfl) (fun x2 => sim_kb (c1 := Int32.ofInt) (m_X8_distance rfl rfl rfl) (fun x3 => sim_g (fun g1 => sim_kif (i_le (c_add rfl rfl) rfl g1.1 g1.2) (sim_some rfl) (sim_g (fun g2 => sim_kif (i_le (c_add rfl rfl) rfl g2.1 g2.2) (sim_some rfl) (sim_g (fun g3 => sim_kif (i_le (c_add rfl rfl) rfl g3.1 g3.2) (sim_some rfl) (sim_some rfl)))))))))

def q_X0_seekThree_L27 (zP1 : tZ8) (zT : tZ0) (v2 : Int) (v3 : Int) (s : Int) : Option (Nat × Int) :=
  kg (k32 zT.2.2.2.2.2.2.1 ∧ k32 s) (kif (zT.2.2.2.2.2.2.1 ≤ s) (some (76, s)) (kb (q_X0_rimSpot zT v2) (fun x3 : Int => kb (q_X0_rimSpot zT v3) (fun x4 : Int => kb (q_X0_rimSpot zT s) (fun x5 : Int => kb (q_X0_areSharp zP1 x3 x4 x5) (fun x6 : Bool => kif (kz x6 = 0) (kl (s + (1 : Int)) (fun y7 : Int => some (27, y7))) (some (59, s))))))))
theorem m_X0_seekThree_L27 {zP1 : tZ8} {u0 : tX8} {zT : tZ0} {u1 : tX0} {v2 : Int} {u2 : Int32} {v3 : Int} {u3 : Int32} {s : Int} {u4 : Int32} (e0 : u0 = (cX8 zP1)) (e1 : u1 = (cX0 zT)) (e2 : u2 = (Int32.ofInt v2)) (e3 : u3 = (Int32.ofInt v3)) (e4 : u4 = (Int32.ofInt s)) : sim (fun r : (Nat × Int) => (r.1, (Int32.ofInt r.2))) (q_X0_seekThree_L27 zP1 zT v2 v3 s) (p_X0_seekThree_L27 u0 u1 u2 u3 u4) := by
  subst e0 e1 e2 e3 e4
  unfold q_X0_seekThree_L27 p_X0_seekThree_L27
  exact sim_g (fun g1 => sim_kif (i_le rfl rfl g1.1 g1.2) (sim_some rfl) (sim_kb (c1 := Int32.ofInt) (m_X0_rimSpot rfl rfl) (fun x3 => sim_kb (c1 := Int32.ofInt) (m_X0_rimSpot rfl rfl) (fun x4 => sim_kb (c1 := Int32.ofInt) (m_X0_rimSpot rfl rfl) (fun x5 => sim_kb (c1 := (fun r : Bool => r)) (m_X0_areSharp rfl rfl rfl rfl) (fun x6 => sim_kif Iff.rfl (sim_kl (c := Int32.ofInt) (c_add rfl l32_1) (fun y7 => sim_some rfl)) (sim_some rfl)))))))

def q_X0_seekThree_L14 (zP1 : tZ8) (zT : tZ0) (v2 : Int) (s : (Int × Int)) : Option (Nat × (Int × Int)) :=
  kg (k32 zT.2.2.2.2.2.2.1 ∧ k32 s.1) (kif (zT.2.2.2.2.2.2.1 ≤ s.1) (some (82, (s.1, (0 : Int)))) (kl (s.1 + (1 : Int)) (fun y2 : Int => kb (kitr 27 (fun q => q_X0_seekThree_L27 zP1 zT v2 s.1 q) kF y2) (fun x8 : (Nat × Int) => kif (x8.1 = 59) (some (59, (s.1, x8.2))) (kg ((x8.1 = 76)) (kl (s.1 + (1 : Int)) (fun y9 : Int => some (14, (y9, (0 : Int))))))))))
theorem m_X0_seekThree_L14 {zP1 : tZ8} {u0 : tX8} {zT : tZ0} {u1 : tX0} {v2 : Int} {u2 : Int32} {s : (Int × Int)} {u3 : (Int32 × Int32)} (e0 : u0 = (cX8 zP1)) (e1 : u1 = (cX0 zT)) (e2 : u2 = (Int32.ofInt v2)) (e3 : u3 = ((Int32.ofInt s.1), (Int32.ofInt s.2))) : sim (fun r : (Nat × (Int × Int)) => (r.1, ((Int32.ofInt r.2.1), (Int32.ofInt r.2.2)))) (q_X0_seekThree_L14 zP1 zT v2 s) (p_X0_seekThree_L14 u0 u1 u2 u3) := by
  subst e0 e1 e2 e3
  unfold q_X0_seekThree_L14 p_X0_seekThree_L14
  exact sim_g (fun g1 => sim_kif (i_le rfl rfl g1.1 g1.2) (sim_some (c_pr rfl (c_pr rfl l32_0))) (sim_kl (c := Int32.ofInt) (c_add rfl l32_1) (fun y2 => sim_kb (c1 := (fun r : (Nat × Int) => (r.1, (Int32.ofInt r.2)))) (sim_kitr (c := Int32.ofInt) (fun _ => m_X0_seekThree_L27 rfl rfl rfl rfl rfl) rfl) (fun x8 => sim_kif Iff.rfl (sim_some rfl) (sim_kg Iff.rfl (sim_kl (c := Int32.ofInt) (c_add rfl l32_1) (fun y9 => sim_some (c_pr rfl (c_pr rfl l32_0)))))))))

def q_X0_seekThree_L2 (zP1 : tZ8) (zT : tZ0) (s : (Int × Int × Int)) : Option (Nat × (Int × Int × Int)) :=
  kg (k32 zT.2.2.2.2.2.2.1 ∧ k32 s.1) (kif (zT.2.2.2.2.2.2.1 ≤ s.1) (some (88, (s.1, (0 : Int), (0 : Int)))) (kl (s.1 + (1 : Int)) (fun y1 : Int => kb (kitr 14 (fun q => q_X0_seekThree_L14 zP1 zT s.1 q) kF (y1, (0 : Int))) (fun x10 : (Nat × Int × Int) => kif (x10.1 = 59) (some (59, (s.1, x10.2.1, x10.2.2))) (kg ((x10.1 = 82)) (kl (s.1 + (1 : Int)) (fun y11 : Int => some (2, (y11, (0 : Int), (0 : Int))))))))))
theorem m_X0_seekThree_L2 {zP1 : tZ8} {u0 : tX8} {zT : tZ0} {u1 : tX0} {s : (Int × Int × Int)} {u2 : (Int32 × Int32 × Int32)} (e0 : u0 = (cX8 zP1)) (e1 : u1 = (cX0 zT)) (e2 : u2 = ((Int32.ofInt s.1), (Int32.ofInt s.2.1), (Int32.ofInt s.2.2))) : sim (fun r : (Nat × (Int × Int × Int)) => (r.1, ((Int32.ofInt r.2.1), (Int32.ofInt r.2.2.1), (Int32.ofInt r.2.2.2)))) (q_X0_seekThree_L2 zP1 zT s) (p_X0_seekThree_L2 u0 u1 u2) := by
  subst e0 e1 e2
  unfold q_X0_seekThree_L2 p_X0_seekThree_L2
  exact sim_g (fun g1 => sim_kif (i_le rfl rfl g1.1 g1.2) (sim_some (c_pr rfl (c_pr rfl (c_pr l32_0 l32_0)))) (sim_kl (c := Int32.ofInt) (c_add rfl l32_1) (fun y1 => sim_kb (c1 := (fun r : (Nat × Int × Int) => (r.1, (Int32.ofInt r.2.1), (Int32.ofInt r.2.2)))) (sim_kitr (c := (fun r : (Int × Int) => ((Int32.ofInt r.1), (Int32.ofInt r.2)))) (fun _ => m_X0_seekThree_L14 rfl rfl rfl rfl) (c_pr rfl l32_0)) (fun x10 => sim_kif Iff.rfl (sim_some rfl) (sim_kg Iff.rfl (sim_kl (c := Int32.ofInt) (c_add rfl l32_1) (fun y11 => sim_some (c_pr rfl (c_pr rfl (c_pr l32_0 l32_0))))))))))

def q_X0_seekThree (zT : tZ0) (zP1 : tZ8) : Option tZ0 :=
  kb (kitr 2 (fun q => q_X0_seekThree_L2 zP1 zT q) kF ((0 : Int), (0 : Int), (0 : Int))) (fun x12 : (Nat × Int × Int × Int) => kif (x12.1 = 59) (kb (q_X0_setTight zT zP1 (3 : Int) x12.2.1 x12.2.2.1 x12.2.2.2) (fun x13 : tZ0 => some x13)) (kg ((x12.1 = 88)) (some zT)))
theorem m_X0_seekThree {zT : tZ0} {u0 : tX0} {zP1 : tZ8} {u1 : tX8} (e0 : u0 = (cX0 zT)) (e1 : u1 = (cX8 zP1)) : sim cX0 (q_X0_seekThree zT zP1) (p_X0_seekThree u0 u1) := by
  subst e0 e1
  unfold q_X0_seekThree p_X0_seekThree
  exact sim_kb (c1 := (fun r : (Nat × Int × Int × Int) => (r.1, (Int32.ofInt r.2.1), (Int32.ofInt r.2.2.1), (Int32.ofInt r.2.2.2)))) (sim_kitr (c := (fun r : (Int × Int × Int) => ((Int32.ofInt r.1), (Int32.ofInt r.2.1), (Int32.ofInt r.2.2)))) (fun _ => m_X0_seekThree_L2 rfl rfl rfl) (c_pr l32_0 (c_pr l32_0 l32_0))) (fun x12 => sim_kif Iff.rfl (sim_kb (c1 := cX0) (m_X0_setTight rfl rfl l32_3 rfl rfl rfl) (fun x13 => sim_some rfl)) (sim_kg Iff.rfl (sim_some rfl)))

def q_X0_seekTight_L7 (zP1 : tZ8) (s : (Int × tZ0)) : Option (Nat × (Int × tZ0)) :=
  kb (q_X8_count zP1) (fun x2 : Int => kg (k32 x2 ∧ k32 s.1) (kif (x2 ≤ s.1) (some (44, (s.1, s.2))) (kb (q_X8_x zP1 s.1) (fun x3 : Int => kb (q_X8_y zP1 s.1) (fun x4 : Int => kb (q_X0_side s.2 x3 x4) (fun x5 : Int => kg (k32 x5) (kif (x5 = (0 : Int)) (kb (q_X0_putOnRim s.2 zP1 s.1) (fun x6 : tZ0 => kl (s.1 + (1 : Int)) (fun y7 : Int => some (7, (y7, x6))))) (kl (s.1 + (1 : Int)) (fun y8 : Int => some (7, (y8, s.2)))))))))))
theorem m_X0_seekTight_L7 {zP1 : tZ8} {u0 : tX8} {s : (Int × tZ0)} {u1 : (Int32 × tX0)} (e0 : u0 = (cX8 zP1)) (e1 : u1 = ((Int32.ofInt s.1), (cX0 s.2))) : sim (fun r : (Nat × (Int × tZ0)) => (r.1, ((Int32.ofInt r.2.1), (cX0 r.2.2)))) (q_X0_seekTight_L7 zP1 s) (p_X0_seekTight_L7 u0 u1) := by
  subst e0 e1
  unfold q_X0_seekTight_L7 p_X0_seekTight_L7
  exact sim_kb (c1 := Int32.ofInt) (m_X8_count rfl) (fun x2 => sim_g (fun g1 => sim_kif (i_le rfl rfl g1.1 g1.2) (sim_some rfl) (sim_kb (c1 := Int32.ofInt) (m_X8_x rfl rfl) (fun x3 => sim_kb (c1 := Int32.ofInt) (m_X8_y rfl rfl) (fun x4 => sim_kb (c1 := Int32.ofInt) (m_X0_side rfl rfl rfl) (fun x5 => sim_g (fun g2 => sim_kif (i_eq rfl l32_0 g2 (by decide)) (sim_kb (c1 := cX0) (m_X0_putOnRim rfl rfl rfl) (fun x6 => sim_kl (c := Int32.ofInt) (c_add rfl l32_1) (fun y7 => sim_some rfl))) (sim_kl (c := Int32.ofInt) (c_add rfl l32_1) (fun y8 => sim_some rfl)))))))))

def q_X0_seekTight (zT : tZ0) (zP1 : tZ8) : Option tZ0 :=
  kl (zT.1, zT.2.1, zT.2.2.1, zT.2.2.2.1, zT.2.2.2.2.1, zT.2.2.2.2.2.1, (0 : Int), zT.2.2.2.2.2.2.2) (fun z1 : (Int × Int × Int × Int × Int × (Nat → Int) × Int × ((Nat → Int) × Int)) => kb (kitr 7 (fun q => q_X0_seekTight_L7 zP1 q) kF ((0 : Int), z1)) (fun x9 : (Nat × Int × tZ0) => kg ((x9.1 = 44)) (kl (x9.2.2.1, x9.2.2.2.1, x9.2.2.2.2.1, x9.2.2.2.2.2.1, x9.2.2.2.2.2.2.1, x9.2.2.2.2.2.2.2.1, x9.2.2.2.2.2.2.2.2.1, x9.2.2.2.2.2.2.2.2.2.1, (0 : Int)) (fun z10 : (Int × Int × Int × Int × Int × (Nat → Int) × Int × (Nat → Int) × Int) => kg (k32 z10.2.2.2.2.2.2.1) (kif (z10.2.2.2.2.2.2.1 = (1 : Int)) (kb (q_X0_setTight z10 zP1 (1 : Int) (0 : Int) (0 : Int) (0 : Int)) (fun x11 : tZ0 => some x11)) (kb (q_X0_seekTwo z10 zP1) (fun x12 : (Bool × tZ0) => kif (kz x12.1 = 0) (kb (q_X0_seekThree x12.2 zP1) (fun x13 : tZ0 => some x13)) (some x12.2))))))))
theorem m_X0_seekTight {zT : tZ0} {u0 : tX0} {zP1 : tZ8} {u1 : tX8} (e0 : u0 = (cX0 zT)) (e1 : u1 = (cX8 zP1)) : sim cX0 (q_X0_seekTight zT zP1) (p_X0_seekTight u0 u1) := by
  subst e0 e1
  unfold q_X0_seekTight p_X0_seekTight
  exact sim_kl (c := (fun r : (Int × Int × Int × Int × Int × (Nat → Int) × Int × ((Nat → Int) × Int)) => ((Int32.ofInt r.1), (Int32.ofInt r.2.1), (Int64.ofInt r.2.2.1), (Int64.ofInt r.2.2.2.1), (Int64.ofInt r.2.2.2.2.1), (cF r.2.2.2.2.2.1), (Int32.ofInt r.2.2.2.2.2.2.1), ((cF r.2.2.2.2.2.2.2.1), (Int32.ofInt r.2.2.2.2.2.2.2.2))))) (c_pr rfl (c_pr rfl (c_pr rfl (c_pr rfl (c_pr rfl (c_pr rfl (c_pr l32_0 rfl))))))) (fun z1 => sim_kb (c1 := (fun r : (Nat × Int × tZ0) => (r.1, (Int32.ofInt r.2.1), (cX0 r.2.2)))) (sim_kitr (c := (fun r : (Int × tZ0) => ((Int32.ofInt r.1), (cX0 r.2)))) (fun _ => m_X0_seekTight_L7 rfl rfl) (c_pr l32_0 rfl)) (fun x9 => sim_kg Iff.rfl (sim_kl (c := (fun r : (Int × Int × Int × Int × Int × (Nat → Int) × Int × (Nat → Int) × Int) => ((Int32.ofInt r.1), (Int32.ofInt r.2.1), (Int64.ofInt r.2.2.1), (Int64.ofInt r.2.2.2.1), (Int64.ofInt r.2.2.2.2.1), (cF r.2.2.2.2.2.1), (Int32.ofInt r.2.2.2.2.2.2.1), (cF r.2.2.2.2.2.2.2.1), (Int32.ofInt r.2.2.2.2.2.2.2.2)))) (c_pr rfl (c_pr rfl (c_pr rfl (c_pr rfl (c_pr rfl (c_pr rfl (c_pr rfl (c_pr rfl l32_0)))))))) (fun z10 => sim_g (fun g1 => sim_kif (i_eq rfl l32_1 g1 (by decide)) (sim_kb (c1 := cX0) (m_X0_setTight rfl rfl l32_1 l32_0 l32_0 l32_0) (fun x11 => sim_some rfl)) (sim_kb (c1 := (fun r : (Bool × tZ0) => (r.1, (cX0 r.2)))) (m_X0_seekTwo rfl rfl) (fun x12 => sim_kif Iff.rfl (sim_kb (c1 := cX0) (m_X0_seekThree rfl rfl) (fun x13 => sim_some rfl)) (sim_some rfl))))))))
