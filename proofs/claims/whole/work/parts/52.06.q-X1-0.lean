def q_X1_count (zT : tZ1) : Option Int :=
  some zT.2
theorem m_X1_count {zT : tZ1} {u0 : tX1} (e0 : u0 = (cX1 zT)) : sim Int32.ofInt (q_X1_count zT) (p_X1_count u0) := by
  subst e0
  unfold q_X1_count p_X1_count
  exact sim_some rfl

def q_X1_packedAt (zT : tZ1) (v1 : Int) : Option Int :=
  kg (k32 v1) (kif (v1 < (0 : Int)) (some (0 : Int)) (kg (k32 zT.2) (kif (zT.2 ≤ v1) (some (0 : Int)) (kg (0 ≤ v1 ∧ v1 < 780) (some (zT.1 (v1.toNat)))))))
theorem m_X1_packedAt {zT : tZ1} {u0 : tX1} {v1 : Int} {u1 : Int32} (e0 : u0 = (cX1 zT)) (e1 : u1 = (Int32.ofInt v1)) : sim Int32.ofInt (q_X1_packedAt zT v1) (p_X1_packedAt u0 u1) := by
  subst e0 e1
  unfold q_X1_packedAt p_X1_packedAt
  exact sim_g (fun g1 => sim_kif (i_lt rfl l32_0 g1 (by decide)) (sim_some l32_0) (sim_g (fun g2 => sim_kif (i_le rfl rfl g2 g1) (sim_some l32_0) (sim_kii rfl (by decide) (fun g3 => sim_some (c_ap zT.1 (c_idx rfl g3 (by decide))))))))

def q_X1_distance (zT : tZ1) (v1 : Int) : Option Int :=
  kb (q_X1_packedAt zT v1) (fun x1 : Int => some (zshr32 x1 (zand32 (12 : Int) (31 : Int))))
theorem m_X1_distance {zT : tZ1} {u0 : tX1} {v1 : Int} {u1 : Int32} (e0 : u0 = (cX1 zT)) (e1 : u1 = (Int32.ofInt v1)) : sim Int32.ofInt (q_X1_distance zT v1) (p_X1_distance u0 u1) := by
  subst e0 e1
  unfold q_X1_distance p_X1_distance
  exact sim_kb (c1 := Int32.ofInt) (m_X1_packedAt rfl rfl) (fun x1 => sim_some (c_shr rfl (c_and l32_12 l32_31)))

def q_X1_first (zT : tZ1) (v1 : Int) : Option Int :=
  kb (q_X1_packedAt zT v1) (fun x1 : Int => some (zand32 (zshr32 x1 (zand32 (6 : Int) (31 : Int))) (63 : Int)))
theorem m_X1_first {zT : tZ1} {u0 : tX1} {v1 : Int} {u1 : Int32} (e0 : u0 = (cX1 zT)) (e1 : u1 = (Int32.ofInt v1)) : sim Int32.ofInt (q_X1_first zT v1) (p_X1_first u0 u1) := by
  subst e0 e1
  unfold q_X1_first p_X1_first
  exact sim_kb (c1 := Int32.ofInt) (m_X1_packedAt rfl rfl) (fun x1 => sim_some (c_and (c_shr rfl (c_and l32_6 l32_31)) l32_63))

def q_X1_second (zT : tZ1) (v1 : Int) : Option Int :=
  kb (q_X1_packedAt zT v1) (fun x1 : Int => some (zand32 x1 (63 : Int)))
theorem m_X1_second {zT : tZ1} {u0 : tX1} {v1 : Int} {u1 : Int32} (e0 : u0 = (cX1 zT)) (e1 : u1 = (Int32.ofInt v1)) : sim Int32.ofInt (q_X1_second zT v1) (p_X1_second u0 u1) := by
  subst e0 e1
  unfold q_X1_second p_X1_second
  exact sim_kb (c1 := Int32.ofInt) (m_X1_packedAt rfl rfl) (fun x1 => sim_some (c_and rfl l32_63))

def q_X1_pack (zT : tZ1) (v1 : Int) (v2 : Int) (v3 : Int) : Option tZ1 :=
  kg (k32 zT.2) (kif (zT.2 < (780 : Int)) (kg (0 ≤ zT.2 ∧ zT.2 < 780) (kl ((va_up zT.1 (zT.2.toNat) (zor32 (zshl32 (zor32 (zshl32 v1 (zand32 (6 : Int) (31 : Int))) v2) (zand32 (6 : Int) (31 : Int))) v3)), zT.2) (fun z1 : ((Nat → Int) × Int) => kl (z1.1, (z1.2 + (1 : Int))) (fun z2 : ((Nat → Int) × Int) => some z2)))) (some zT))
theorem m_X1_pack {zT : tZ1} {u0 : tX1} {v1 : Int} {u1 : Int32} {v2 : Int} {u2 : Int32} {v3 : Int} {u3 : Int32} (e0 : u0 = (cX1 zT)) (e1 : u1 = (Int32.ofInt v1)) (e2 : u2 = (Int32.ofInt v2)) (e3 : u3 = (Int32.ofInt v3)) : sim cX1 (q_X1_pack zT v1 v2 v3) (p_X1_pack u0 u1 u2 u3) := by
  subst e0 e1 e2 e3
  unfold q_X1_pack p_X1_pack
  exact sim_g (fun g1 => sim_kif (i_lt rfl l32_780 g1 (by decide)) (sim_kii rfl (by decide) (fun g2 => sim_kl (c := (fun r : ((Nat → Int) × Int) => ((cF r.1), (Int32.ofInt r.2)))) (c_pr (c_upd rfl (c_idx rfl g2 (by decide)) (c_or (c_shl (c_or (c_shl rfl (c_and l32_6 l32_31)) rfl) (c_and l32_6 l32_31)) rfl)) rfl) (fun z1 => sim_kl (c := (fun r : ((Nat → Int) × Int) => ((cF r.1), (Int32.ofInt r.2)))) (c_pr rfl (c_add rfl l32_1)) (fun z2 => sim_some rfl)))) (sim_some rfl))

def q_X1_sink_L28 (v1 : Int) (v2 : Int) (v3 : Int) (s : (Int × tZ1)) : Option (Nat × (Int × tZ1)) :=
  kg (k32 s.1 ∧ k32 v2) (kif (s.1 < v2) (some (71, (s.1, s.2))) (kb (q_X1_packedAt s.2 (s.1 - v2)) (fun x2 : Int => kg (k32 x2 ∧ k32 v3) (kif (x2 ≤ v3) (some (71, (s.1, s.2))) (kg (0 ≤ (s.1 - v2) ∧ (s.1 - v2) < 780) (kg (0 ≤ s.1 ∧ s.1 < 780) (kl ((va_up s.2.1 (s.1.toNat) (s.2.1 ((s.1 - v2).toNat))), s.2.2) (fun z3 : ((Nat → Int) × Int) => kl (s.1 - v2) (fun y4 : Int => some (28, (y4, z3)))))))))))
theorem m_X1_sink_L28 {v1 : Int} {u0 : Int32} {v2 : Int} {u1 : Int32} {v3 : Int} {u2 : Int32} {s : (Int × tZ1)} {u3 : (Int32 × tX1)} (e0 : u0 = (Int32.ofInt v1)) (e1 : u1 = (Int32.ofInt v2)) (e2 : u2 = (Int32.ofInt v3)) (e3 : u3 = ((Int32.ofInt s.1), (cX1 s.2))) : sim (fun r : (Nat × (Int × tZ1)) => (r.1, ((Int32.ofInt r.2.1), (cX1 r.2.2)))) (q_X1_sink_L28 v1 v2 v3 s) (p_X1_sink_L28 u0 u1 u2 u3) := by
  subst e0 e1 e2 e3
  unfold q_X1_sink_L28 p_X1_sink_L28
  exact sim_g (fun g1 => sim_kif (i_lt rfl rfl g1.1 g1.2) (sim_some rfl) (sim_kb (c1 := Int32.ofInt) (m_X1_packedAt rfl (c_sub rfl rfl)) (fun x2 => sim_g (fun g2 => sim_kif (i_le rfl rfl g2.1 g2.2) (sim_some rfl) (sim_kii (c_sub rfl rfl) (by decide) (fun g3 => sim_kii rfl (by decide) (fun g4 => sim_kl (c := (fun r : ((Nat → Int) × Int) => ((cF r.1), (Int32.ofInt r.2)))) (c_pr (c_upd rfl (c_idx rfl g4 (by decide)) (c_ap s.2.1 (c_idx (c_sub rfl rfl) g3 (by decide)))) rfl) (fun z3 => sim_kl (c := Int32.ofInt) (c_sub rfl rfl) (fun y4 => sim_some rfl)))))))))

def q_X1_sink (zT : tZ1) (v1 : Int) (v2 : Int) : Option tZ1 :=
  kg (k32 v2) (kif (v2 < (1 : Int)) (some zT) (kg (k32 v1) (kif (v1 < v2) (some zT) (kg (k32 zT.2) (kif (v1 < zT.2) (kb (q_X1_packedAt zT v1) (fun x1 : Int => kb (kitr 28 (fun q => q_X1_sink_L28 v1 v2 x1 q) kF (v1, zT)) (fun x5 : (Nat × Int × tZ1) => kg ((x5.1 = 71)) (kg (0 ≤ x5.2.1 ∧ x5.2.1 < 780) (kl ((va_up x5.2.2.1 (x5.2.1.toNat) x1), x5.2.2.2) (fun z6 : ((Nat → Int) × Int) => some z6)))))) (some zT))))))
theorem m_X1_sink {zT : tZ1} {u0 : tX1} {v1 : Int} {u1 : Int32} {v2 : Int} {u2 : Int32} (e0 : u0 = (cX1 zT)) (e1 : u1 = (Int32.ofInt v1)) (e2 : u2 = (Int32.ofInt v2)) : sim cX1 (q_X1_sink zT v1 v2) (p_X1_sink u0 u1 u2) := by
  subst e0 e1 e2
  unfold q_X1_sink p_X1_sink
  exact sim_g (fun g1 => sim_kif (i_lt rfl l32_1 g1 (by decide)) (sim_some rfl) (sim_g (fun g2 => sim_kif (i_lt rfl rfl g2 g1) (sim_some rfl) (sim_g (fun g3 => sim_kif (i_lt rfl rfl g2 g3) (sim_kb (c1 := Int32.ofInt) (m_X1_packedAt rfl rfl) (fun x1 => sim_kb (c1 := (fun r : (Nat × Int × tZ1) => (r.1, (Int32.ofInt r.2.1), (cX1 r.2.2)))) (sim_kitr (c := (fun r : (Int × tZ1) => ((Int32.ofInt r.1), (cX1 r.2)))) (fun _ => m_X1_sink_L28 rfl rfl rfl rfl) rfl) (fun x5 => sim_kg Iff.rfl (sim_kii rfl (by decide) (fun g4 => sim_kl (c := (fun r : ((Nat → Int) × Int) => ((cF r.1), (Int32.ofInt r.2)))) (c_pr (c_upd rfl (c_idx rfl g4 (by decide)) rfl) rfl) (fun z6 => sim_some rfl)))))) (sim_some rfl))))))

def q_X1_order_L19 (zP1 : tZ8) (v2 : Int) (s : (Int × tZ1)) : Option (Nat × (Int × tZ1)) :=
  kb (q_X8_count zP1) (fun x4 : Int => kg (k32 x4 ∧ k32 s.1) (kif (x4 ≤ s.1) (some (45, (s.1, s.2))) (kb (q_X8_distance zP1 v2 s.1) (fun x5 : Int => kb (q_X1_pack s.2 x5 v2 s.1) (fun x6 : tZ1 => kl (s.1 + (1 : Int)) (fun y7 : Int => some (19, (y7, x6))))))))
theorem m_X1_order_L19 {zP1 : tZ8} {u0 : tX8} {v2 : Int} {u1 : Int32} {s : (Int × tZ1)} {u2 : (Int32 × tX1)} (e0 : u0 = (cX8 zP1)) (e1 : u1 = (Int32.ofInt v2)) (e2 : u2 = ((Int32.ofInt s.1), (cX1 s.2))) : sim (fun r : (Nat × (Int × tZ1)) => (r.1, ((Int32.ofInt r.2.1), (cX1 r.2.2)))) (q_X1_order_L19 zP1 v2 s) (p_X1_order_L19 u0 u1 u2) := by
  subst e0 e1 e2
  unfold q_X1_order_L19 p_X1_order_L19
  exact sim_kb (c1 := Int32.ofInt) (m_X8_count rfl) (fun x4 => sim_g (fun g1 => sim_kif (i_le rfl rfl g1.1 g1.2) (sim_some rfl) (sim_kb (c1 := Int32.ofInt) (m_X8_distance rfl rfl rfl) (fun x5 => sim_kb (c1 := cX1) (m_X1_pack rfl rfl rfl rfl) (fun x6 => sim_kl (c := Int32.ofInt) (c_add rfl l32_1) (fun y7 => sim_some rfl))))))

def q_X1_order_L7 (zP1 : tZ8) (s : (Int × tZ1)) : Option (Nat × (Int × tZ1)) :=
  kb (q_X8_count zP1) (fun x2 : Int => kg (k32 x2 ∧ k32 s.1) (kif (x2 ≤ s.1) (some (51, (s.1, s.2))) (kl (s.1 + (1 : Int)) (fun y3 : Int => kb (kitr 19 (fun q => q_X1_order_L19 zP1 s.1 q) kF (y3, s.2)) (fun x8 : (Nat × Int × tZ1) => kg ((x8.1 = 45)) (kl (s.1 + (1 : Int)) (fun y9 : Int => some (7, (y9, x8.2.2)))))))))
theorem m_X1_order_L7 {zP1 : tZ8} {u0 : tX8} {s : (Int × tZ1)} {u1 : (Int32 × tX1)} (e0 : u0 = (cX8 zP1)) (e1 : u1 = ((Int32.ofInt s.1), (cX1 s.2))) : sim (fun r : (Nat × (Int × tZ1)) => (r.1, ((Int32.ofInt r.2.1), (cX1 r.2.2)))) (q_X1_order_L7 zP1 s) (p_X1_order_L7 u0 u1) := by
  subst e0 e1
  unfold q_X1_order_L7 p_X1_order_L7
  exact sim_kb (c1 := Int32.ofInt) (m_X8_count rfl) (fun x2 => sim_g (fun g1 => sim_kif (i_le rfl rfl g1.1 g1.2) (sim_some rfl) (sim_kl (c := Int32.ofInt) (c_add rfl l32_1) (fun y3 => sim_kb (c1 := (fun r : (Nat × Int × tZ1) => (r.1, (Int32.ofInt r.2.1), (cX1 r.2.2)))) (sim_kitr (c := (fun r : (Int × tZ1) => ((Int32.ofInt r.1), (cX1 r.2)))) (fun _ => m_X1_order_L19 rfl rfl rfl) rfl) (fun x8 => sim_kg Iff.rfl (sim_kl (c := Int32.ofInt) (c_add rfl l32_1) (fun y9 => sim_some rfl)))))))

def q_X1_order_L64 (zP1 : tZ8) (v2 : Int) (s : (Int × tZ1)) : Option (Nat × (Int × tZ1)) :=
  kg (k32 s.2.2 ∧ k32 s.1) (kif (s.2.2 ≤ s.1) (some (84, (s.1, s.2))) (kb (q_X1_sink s.2 s.1 v2) (fun x12 : tZ1 => kl (s.1 + (1 : Int)) (fun y13 : Int => some (64, (y13, x12))))))
theorem m_X1_order_L64 {zP1 : tZ8} {u0 : tX8} {v2 : Int} {u1 : Int32} {s : (Int × tZ1)} {u2 : (Int32 × tX1)} (e0 : u0 = (cX8 zP1)) (e1 : u1 = (Int32.ofInt v2)) (e2 : u2 = ((Int32.ofInt s.1), (cX1 s.2))) : sim (fun r : (Nat × (Int × tZ1)) => (r.1, ((Int32.ofInt r.2.1), (cX1 r.2.2)))) (q_X1_order_L64 zP1 v2 s) (p_X1_order_L64 u0 u1 u2) := by
  subst e0 e1 e2
  unfold q_X1_order_L64 p_X1_order_L64
  exact sim_g (fun g1 => sim_kif (i_le rfl rfl g1.1 g1.2) (sim_some rfl) (sim_kb (c1 := cX1) (m_X1_sink rfl rfl rfl) (fun x12 => sim_kl (c := Int32.ofInt) (c_add rfl l32_1) (fun y13 => sim_some rfl))))

def q_X1_order_L58 (zP1 : tZ8) (s : (Int × tZ1)) : Option (Nat × (Int × tZ1)) :=
  kg (k32 s.1) (kif (s.1 ≤ (0 : Int)) (some (91, (s.1, s.2))) (kb (kitr 64 (fun q => q_X1_order_L64 zP1 s.1 q) kF (s.1, s.2)) (fun x14 : (Nat × Int × tZ1) => kg ((x14.1 = 84)) (kl (s.1.tdiv (2 : Int)) (fun y15 : Int => some (58, (y15, x14.2.2)))))))
theorem m_X1_order_L58 {zP1 : tZ8} {u0 : tX8} {s : (Int × tZ1)} {u1 : (Int32 × tX1)} (e0 : u0 = (cX8 zP1)) (e1 : u1 = ((Int32.ofInt s.1), (cX1 s.2))) : sim (fun r : (Nat × (Int × tZ1)) => (r.1, ((Int32.ofInt r.2.1), (cX1 r.2.2)))) (q_X1_order_L58 zP1 s) (p_X1_order_L58 u0 u1) := by
  subst e0 e1
  unfold q_X1_order_L58 p_X1_order_L58
  exact sim_g (fun g1 => sim_kif (i_le rfl l32_0 g1 (by decide)) (sim_some rfl) (sim_kb (c1 := (fun r : (Nat × Int × tZ1) => (r.1, (Int32.ofInt r.2.1), (cX1 r.2.2)))) (sim_kitr (c := (fun r : (Int × tZ1) => ((Int32.ofInt r.1), (cX1 r.2)))) (fun _ => m_X1_order_L64 rfl rfl rfl) rfl) (fun x14 => sim_kg Iff.rfl (sim_kl (c := Int32.ofInt) (c_div rfl l32_2 g1 (by decide)) (fun y15 => sim_some rfl)))))

def q_X1_order (zT : tZ1) (zP1 : tZ8) : Option tZ1 :=
  kl (zT.1, (0 : Int)) (fun z1 : ((Nat → Int) × Int) => kb (kitr 7 (fun q => q_X1_order_L7 zP1 q) kF ((0 : Int), z1)) (fun x10 : (Nat × Int × tZ1) => kg ((x10.1 = 51)) (kg (k32 x10.2.2.2) (kl (x10.2.2.2.tdiv (2 : Int)) (fun y11 : Int => kb (kitr 58 (fun q => q_X1_order_L58 zP1 q) kF (y11, x10.2.2)) (fun x16 : (Nat × Int × tZ1) => kg ((x16.1 = 91)) (some x16.2.2)))))))
theorem m_X1_order {zT : tZ1} {u0 : tX1} {zP1 : tZ8} {u1 : tX8} (e0 : u0 = (cX1 zT)) (e1 : u1 = (cX8 zP1)) : sim cX1 (q_X1_order zT zP1) (p_X1_order u0 u1) := by
  subst e0 e1
  unfold q_X1_order p_X1_order
  exact sim_kl (c := (fun r : ((Nat → Int) × Int) => ((cF r.1), (Int32.ofInt r.2)))) (c_pr rfl l32_0) (fun z1 => sim_kb (c1 := (fun r : (Nat × Int × tZ1) => (r.1, (Int32.ofInt r.2.1), (cX1 r.2.2)))) (sim_kitr (c := (fun r : (Int × tZ1) => ((Int32.ofInt r.1), (cX1 r.2)))) (fun _ => m_X1_order_L7 rfl rfl) (c_pr l32_0 rfl)) (fun x10 => sim_kg Iff.rfl (sim_g (fun g1 => sim_kl (c := Int32.ofInt) (c_div rfl l32_2 g1 (by decide)) (fun y11 => sim_kb (c1 := (fun r : (Nat × Int × tZ1) => (r.1, (Int32.ofInt r.2.1), (cX1 r.2.2)))) (sim_kitr (c := (fun r : (Int × tZ1) => ((Int32.ofInt r.1), (cX1 r.2)))) (fun _ => m_X1_order_L58 rfl rfl) rfl) (fun x16 => sim_kg Iff.rfl (sim_some rfl)))))))
