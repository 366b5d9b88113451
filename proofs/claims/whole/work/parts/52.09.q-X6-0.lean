def q_X6_takeAway_J17 (v1 : Int) (v2 : Int) (zT : tZ6) (zT_0 : tZ8) : Option (tZ6 × tZ8) :=
  kb (q_X8_drop zT_0 v1) (fun x1 : tZ8 => some (zT, x1))
theorem m_X6_takeAway_J17 {v1 : Int} {u0 : Int32} {v2 : Int} {u1 : Int32} {zT : tZ6} {u2 : tX6} {zT_0 : tZ8} {u3 : tX8} (e0 : u0 = (Int32.ofInt v1)) (e1 : u1 = (Int32.ofInt v2)) (e2 : u2 = (cX6 zT)) (e3 : u3 = (cX8 zT_0)) : sim (fun r : (tZ6 × tZ8) => ((cX6 r.1), (cX8 r.2))) (q_X6_takeAway_J17 v1 v2 zT zT_0) (p_X6_takeAway_J17 u0 u1 u2 u3) := by
  subst e0 e1 e2 e3
  unfold q_X6_takeAway_J17 p_X6_takeAway_J17
  exact sim_kb (c1 := cX8) (m_X8_drop rfl rfl) (fun x1 => sim_some rfl)

def q_X6_takeAway (zT : tZ6) (zT_0 : tZ8) (v1 : Int) (v2 : Int) : Option (tZ6 × tZ8) :=
  kg (k32 v1) (kif (v1 < (0 : Int)) (q_X6_takeAway_J17 v1 v2 zT zT_0) (kif ((40 : Int) ≤ v1) (q_X6_takeAway_J17 v1 v2 zT zT_0) (kg (0 ≤ v1 ∧ v1 < 40) (kl (va_up zT (v1.toNat) v2) (fun z2 : (Nat → Int) => q_X6_takeAway_J17 v1 v2 z2 zT_0)))))
theorem m_X6_takeAway {zT : tZ6} {u0 : tX6} {zT_0 : tZ8} {u1 : tX8} {v1 : Int} {u2 : Int32} {v2 : Int} {u3 : Int32} (e0 : u0 = (cX6 zT)) (e1 : u1 = (cX8 zT_0)) (e2 : u2 = (Int32.ofInt v1)) (e3 : u3 = (Int32.ofInt v2)) : sim (fun r : (tZ6 × tZ8) => ((cX6 r.1), (cX8 r.2))) (q_X6_takeAway zT zT_0 v1 v2) (p_X6_takeAway u0 u1 u2 u3) := by
  subst e0 e1 e2 e3
  unfold q_X6_takeAway p_X6_takeAway
  exact sim_g (fun g1 => sim_kif (i_lt rfl l32_0 g1 (by decide)) (m_X6_takeAway_J17 rfl rfl rfl rfl) (sim_kif (i_le l32_40 rfl (by decide) g1) (m_X6_takeAway_J17 rfl rfl rfl rfl) (sim_kii rfl (by decide) (fun g2 => sim_kl (c := (fun r : (Nat → Int) => (cF r))) (c_upd rfl (c_idx rfl g2 (by decide)) rfl) (fun z2 => m_X6_takeAway_J17 rfl rfl rfl rfl)))))

def q_X6_peel_L39 (zP1 : tZ8) (zT_1 : tZ5) (v2 : Int) (s : (Int × tZ6 × tZ8)) : Option (Nat × (Int × tZ6 × tZ8)) :=
  kb (q_X5_count zT_1) (fun x4 : Int => kg (k32 x4 ∧ k32 s.1) (kif (x4 ≤ s.1) (some (69, (s.1, s.2.1, s.2.2))) (kb (q_X5_number zT_1 s.1) (fun x5 : Int => kb (q_X6_takeAway s.2.1 s.2.2 x5 v2) (fun x6 : (tZ6 × tZ8) => kl (s.1 + (1 : Int)) (fun y7 : Int => some (39, (y7, x6.1, x6.2))))))))
theorem m_X6_peel_L39 {zP1 : tZ8} {u0 : tX8} {zT_1 : tZ5} {u1 : tX5} {v2 : Int} {u2 : Int32} {s : (Int × tZ6 × tZ8)} {u3 : (Int32 × tX6 × tX8)} (e0 : u0 = (cX8 zP1)) (e1 : u1 = (cX5 zT_1)) (e2 : u2 = (Int32.ofInt v2)) (e3 : u3 = ((Int32.ofInt s.1), (cX6 s.2.1), (cX8 s.2.2))) : sim (fun r : (Nat × (Int × tZ6 × tZ8)) => (r.1, ((Int32.ofInt r.2.1), (cX6 r.2.2.1), (cX8 r.2.2.2)))) (q_X6_peel_L39 zP1 zT_1 v2 s) (p_X6_peel_L39 u0 u1 u2 u3) := by
  subst e0 e1 e2 e3
  unfold q_X6_peel_L39 p_X6_peel_L39
  exact sim_kb (c1 := Int32.ofInt) (m_X5_count rfl) (fun x4 => sim_g (fun g1 => sim_kif (i_le rfl rfl g1.1 g1.2) (sim_some rfl) (sim_kb (c1 := Int32.ofInt) (m_X5_number rfl rfl) (fun x5 => sim_kb (c1 := (fun r : (tZ6 × tZ8) => ((cX6 r.1), (cX8 r.2)))) (m_X6_takeAway rfl rfl rfl rfl) (fun x6 => sim_kl (c := Int32.ofInt) (c_add rfl l32_1) (fun y7 => sim_some rfl))))))

def q_X6_peel_L10 (zP1 : tZ8) (s : (Int × tZ6 × tZ8 × tZ5)) : Option (Nat × (Int × tZ6 × tZ8 × tZ5)) :=
  kg (k32 s.1) (kif ((40 : Int) ≤ s.1) (some (75, (s.1, s.2.1, s.2.2.1, s.2.2.2))) (kb (q_X8_count s.2.2.1) (fun x2 : Int => kg (k32 x2) (kif (x2 ≤ (0 : Int)) (some (75, (s.1, s.2.1, s.2.2.1, s.2.2.2))) (kb (q_X5_about s.2.2.2 s.2.2.1) (fun x3 : tZ5 => kb (kitr 39 (fun q => q_X6_peel_L39 zP1 x3 s.1 q) kF ((0 : Int), s.2.1, s.2.2.1)) (fun x8 : (Nat × Int × tZ6 × tZ8) => kg ((x8.1 = 69)) (kl (s.1 + (1 : Int)) (fun y9 : Int => some (10, (y9, x8.2.2.1, x8.2.2.2, x3)))))))))))
theorem m_X6_peel_L10 {zP1 : tZ8} {u0 : tX8} {s : (Int × tZ6 × tZ8 × tZ5)} {u1 : (Int32 × tX6 × tX8 × tX5)} (e0 : u0 = (cX8 zP1)) (e1 : u1 = ((Int32.ofInt s.1), (cX6 s.2.1), (cX8 s.2.2.1), (cX5 s.2.2.2))) : sim (fun r : (Nat × (Int × tZ6 × tZ8 × tZ5)) => (r.1, ((Int32.ofInt r.2.1), (cX6 r.2.2.1), (cX8 r.2.2.2.1), (cX5 r.2.2.2.2)))) (q_X6_peel_L10 zP1 s) (p_X6_peel_L10 u0 u1) := by
  subst e0 e1
  unfold q_X6_peel_L10 p_X6_peel_L10
  exact sim_g (fun g1 => sim_kif (i_le l32_40 rfl (by decide) g1) (sim_some rfl) (sim_kb (c1 := Int32.ofInt) (m_X8_count rfl) (fun x2 => sim_g (fun g2 => sim_kif (i_le rfl l32_0 g2 (by decide)) (sim_some rfl) (sim_kb (c1 := cX5) (m_X5_about rfl rfl) (fun x3 => sim_kb (c1 := (fun r : (Nat × Int × tZ6 × tZ8) => (r.1, (Int32.ofInt r.2.1), (cX6 r.2.2.1), (cX8 r.2.2.2)))) (sim_kitr (c := (fun r : (Int × tZ6 × tZ8) => ((Int32.ofInt r.1), (cX6 r.2.1), (cX8 r.2.2)))) (fun _ => m_X6_peel_L39 rfl rfl rfl rfl) (c_pr l32_0 (c_pr rfl rfl))) (fun x8 => sim_kg Iff.rfl (sim_kl (c := Int32.ofInt) (c_add rfl l32_1) (fun y9 => sim_some rfl)))))))))

def q_X6_peel (zT : tZ6) (zT_0 : tZ8) (zT_1 : tZ5) (zP1 : tZ8) : Option (Int × tZ6 × tZ8 × tZ5) :=
  kb (q_X8_copy zT_0 zP1) (fun x1 : tZ8 => kb (kitr 10 (fun q => q_X6_peel_L10 zP1 q) kF ((0 : Int), zT, x1, zT_1)) (fun x10 : (Nat × Int × tZ6 × tZ8 × tZ5) => kg ((x10.1 = 75)) (some (x10.2.1, x10.2.2.1, x10.2.2.2.1, x10.2.2.2.2))))
theorem m_X6_peel {zT : tZ6} {u0 : tX6} {zT_0 : tZ8} {u1 : tX8} {zT_1 : tZ5} {u2 : tX5} {zP1 : tZ8} {u3 : tX8} (e0 : u0 = (cX6 zT)) (e1 : u1 = (cX8 zT_0)) (e2 : u2 = (cX5 zT_1)) (e3 : u3 = (cX8 zP1)) : sim (fun r : (Int × tZ6 × tZ8 × tZ5) => ((Int32.ofInt r.1), (cX6 r.2.1), (cX8 r.2.2.1), (cX5 r.2.2.2))) (q_X6_peel zT zT_0 zT_1 zP1) (p_X6_peel u0 u1 u2 u3) := by
  subst e0 e1 e2 e3
  unfold q_X6_peel p_X6_peel
  exact sim_kb (c1 := cX8) (m_X8_copy rfl rfl) (fun x1 => sim_kb (c1 := (fun r : (Nat × Int × tZ6 × tZ8 × tZ5) => (r.1, (Int32.ofInt r.2.1), (cX6 r.2.2.1), (cX8 r.2.2.2.1), (cX5 r.2.2.2.2)))) (sim_kitr (c := (fun r : (Int × tZ6 × tZ8 × tZ5) => ((Int32.ofInt r.1), (cX6 r.2.1), (cX8 r.2.2.1), (cX5 r.2.2.2)))) (fun _ => m_X6_peel_L10 rfl rfl) (c_pr l32_0 (c_pr rfl (c_pr rfl rfl)))) (fun x10 => sim_kg Iff.rfl (sim_some rfl)))

def q_X6_layerOf (zT : tZ6) (v1 : Int) : Option Int :=
  kg (k32 v1) (kif (v1 < (0 : Int)) (some (-1 : Int)) (kif ((40 : Int) ≤ v1) (some (-1 : Int)) (kg (0 ≤ v1 ∧ v1 < 40) (some (zT (v1.toNat))))))
theorem m_X6_layerOf {zT : tZ6} {u0 : tX6} {v1 : Int} {u1 : Int32} (e0 : u0 = (cX6 zT)) (e1 : u1 = (Int32.ofInt v1)) : sim Int32.ofInt (q_X6_layerOf zT v1) (p_X6_layerOf u0 u1) := by
  subst e0 e1
  unfold q_X6_layerOf p_X6_layerOf
  exact sim_g (fun g1 => sim_kif (i_lt rfl l32_0 g1 (by decide)) (sim_some l32_m1) (sim_kif (i_le l32_40 rfl (by decide) g1) (sim_some l32_m1) (sim_kii rfl (by decide) (fun g2 => sim_some (c_ap zT (c_idx rfl g2 (by decide)))))))
