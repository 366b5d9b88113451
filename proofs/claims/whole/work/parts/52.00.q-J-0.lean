def q_J13_compare_74951 (v0 : Int) (v2 : Int) : Option Int :=
  kg (k64 v0 ∧ k64 v2) (kif (v2 ≤ v0) (kif (v0 = v2) (some (0 : Int)) (some (1 : Int))) (some (-1 : Int)))
theorem m_J13_compare_74951 {v0 : Int} {u0 : Int64} {v2 : Int} {u1 : Int64} (e0 : u0 = (Int64.ofInt v0)) (e1 : u1 = (Int64.ofInt v2)) : sim Int32.ofInt (q_J13_compare_74951 v0 v2) (p_J13_compare_74951 u0 u1) := by
  subst e0 e1
  unfold q_J13_compare_74951 p_J13_compare_74951
  exact sim_g (fun g1 => sim_kif (j_ge rfl rfl g1.1 g1.2) (sim_kif (j_eq rfl rfl g1.1 g1.2) (sim_some l32_0) (sim_some l32_1)) (sim_some l32_m1))

def q_J9_abs_067f4 (v0 : Int) : Option Int :=
  kg (k64 v0) (kif ((0 : Int) ≤ v0) (some v0) (some (-v0)))
theorem m_J9_abs_067f4 {v0 : Int} {u0 : Int64} (e0 : u0 = (Int64.ofInt v0)) : sim Int64.ofInt (q_J9_abs_067f4 v0) (p_J9_abs_067f4 u0) := by
  subst e0
  unfold q_J9_abs_067f4 p_J9_abs_067f4
  exact sim_g (fun g1 => sim_kif (j_ge rfl l64_0 g1 (by decide)) (sim_some rfl) (sim_some (d_neg rfl)))

def q_J9_floorDiv_f86c9 (v0 : Int) (v2 : Int) : Option Int :=
  kg (k64 v2) (kg (¬ (v2 = (0 : Int))) (kg (k64 v0) (kl (v0.tdiv v2) (fun y1 : Int => kif ((0 : Int) ≤ (zxor64 v0 v2)) (some y1) (kg (k64 (y1 * v2)) (kif ((y1 * v2) = v0) (some y1) (some (y1 - (1 : Int)))))))))
theorem m_J9_floorDiv_f86c9 {v0 : Int} {u0 : Int64} {v2 : Int} {u1 : Int64} (e0 : u0 = (Int64.ofInt v0)) (e1 : u1 = (Int64.ofInt v2)) : sim Int64.ofInt (q_J9_floorDiv_f86c9 v0 v2) (p_J9_floorDiv_f86c9 u0 u1) := by
  subst e0 e1
  unfold q_J9_floorDiv_f86c9 p_J9_floorDiv_f86c9
  exact sim_g (fun g1 => sim_kg (not_congr (l_eq rfl l64_0 g1 (by decide))) (sim_g (fun g2 => sim_kl (c := Int64.ofInt) (d_div rfl rfl g2 g1) (fun y1 => sim_kif (j_ge (d_xor rfl rfl) l64_0 (k64_to _) (by decide)) (sim_some rfl) (sim_g (fun g3 => sim_kif (j_eq (d_mul rfl rfl) rfl g3 g2) (sim_some rfl) (sim_some (d_sub rfl l64_1))))))))

def q_J9_min_7cf53 (v0 : Int) (v1 : Int) : Option Int :=
  kg (k32 v1 ∧ k32 v0) (kif (v1 < v0) (some v1) (some v0))
theorem m_J9_min_7cf53 {v0 : Int} {u0 : Int32} {v1 : Int} {u1 : Int32} (e0 : u0 = (Int32.ofInt v0)) (e1 : u1 = (Int32.ofInt v1)) : sim Int32.ofInt (q_J9_min_7cf53 v0 v1) (p_J9_min_7cf53 u0 u1) := by
  subst e0 e1
  unfold q_J9_min_7cf53 p_J9_min_7cf53
  exact sim_g (fun g1 => sim_kif (i_lt rfl rfl g1.1 g1.2) (sim_some rfl) (sim_some rfl))

def q_J6_bitCount_0f7a4 (v0 : Int) : Option Int :=
  (p_J6_bitCount_0f7a4 (Int32.ofInt v0)).map (fun r => r.toInt)
theorem m_J6_bitCount_0f7a4 {v0 : Int} {u0 : Int32} (e0 : u0 = (Int32.ofInt v0)) : sim Int32.ofInt (q_J6_bitCount_0f7a4 v0) (p_J6_bitCount_0f7a4 u0) := by
  subst e0
  exact sim_hand _

def q_J9_max_f86c9 (v0 : Int) (v2 : Int) : Option Int :=
  kg (k64 v0 ∧ k64 v2) (kif (v0 < v2) (some v2) (some v0))
theorem m_J9_max_f86c9 {v0 : Int} {u0 : Int64} {v2 : Int} {u1 : Int64} (e0 : u0 = (Int64.ofInt v0)) (e1 : u1 = (Int64.ofInt v2)) : sim Int64.ofInt (q_J9_max_f86c9 v0 v2) (p_J9_max_f86c9 u0 u1) := by
  subst e0 e1
  unfold q_J9_max_f86c9 p_J9_max_f86c9
  exact sim_g (fun g1 => sim_kif (j_lt rfl rfl g1.1 g1.2) (sim_some rfl) (sim_some rfl))

def q_J9_min_f86c9 (v0 : Int) (v2 : Int) : Option Int :=
  kg (k64 v0 ∧ k64 v2) (kif (v2 < v0) (some v2) (some v0))
theorem m_J9_min_f86c9 {v0 : Int} {u0 : Int64} {v2 : Int} {u1 : Int64} (e0 : u0 = (Int64.ofInt v0)) (e1 : u1 = (Int64.ofInt v2)) : sim Int64.ofInt (q_J9_min_f86c9 v0 v2) (p_J9_min_f86c9 u0 u1) := by
  subst e0 e1
  unfold q_J9_min_f86c9 p_J9_min_f86c9
  exact sim_g (fun g1 => sim_kif (j_gt rfl rfl g1.1 g1.2) (sim_some rfl) (sim_some rfl))

def q_J9_abs_0f7a4 (v0 : Int) : Option Int :=
  kg (k32 v0) (kif ((0 : Int) ≤ v0) (some v0) (some (-v0)))
theorem m_J9_abs_0f7a4 {v0 : Int} {u0 : Int32} (e0 : u0 = (Int32.ofInt v0)) : sim Int32.ofInt (q_J9_abs_0f7a4 v0) (p_J9_abs_0f7a4 u0) := by
  subst e0
  unfold q_J9_abs_0f7a4 p_J9_abs_0f7a4
  exact sim_g (fun g1 => sim_kif (i_le l32_0 rfl (by decide) g1) (sim_some rfl) (sim_some (c_neg rfl)))

def q_J13_bitCount_95d88 (v0 : Int) : Option Int :=
  (p_J13_bitCount_95d88 (Int64.ofInt v0)).map (fun r => r.toInt)
theorem m_J13_bitCount_95d88 {v0 : Int} {u0 : Int64} (e0 : u0 = (Int64.ofInt v0)) : sim Int32.ofInt (q_J13_bitCount_95d88 v0) (p_J13_bitCount_95d88 u0) := by
  subst e0
  exact sim_hand _
