def q_X8_x (zT : tZ8) (v1 : Int) : Option Int :=
  kg (k32 v1) (kif (v1 < (0 : Int)) (some (0 : Int)) (kg (k32 zT.2.2.2) (kif (zT.2.2.2 ≤ v1) (some (0 : Int)) (kg (0 ≤ v1 ∧ v1 < 41) (some (zT.1 (v1.toNat)))))))
theorem m_X8_x {zT : tZ8} {u0 : tX8} {v1 : Int} {u1 : Int32} (e0 : u0 = (cX8 zT)) (e1 : u1 = (Int32.ofInt v1)) : sim Int32.ofInt (q_X8_x zT v1) (p_X8_x u0 u1) := by
  subst e0 e1
  unfold q_X8_x p_X8_x
  exact sim_g (fun g1 => sim_kif (i_lt rfl l32_0 g1 (by decide)) (sim_some l32_0) (sim_g (fun g2 => sim_kif (i_le rfl rfl g2 g1) (sim_some l32_0) (sim_kii rfl (by decide) (fun g3 => sim_some (c_ap zT.1 (c_idx rfl g3 (by decide))))))))

def q_X8_y (zT : tZ8) (v1 : Int) : Option Int :=
  kg (k32 v1) (kif (v1 < (0 : Int)) (some (0 : Int)) (kg (k32 zT.2.2.2) (kif (zT.2.2.2 ≤ v1) (some (0 : Int)) (kg (0 ≤ v1 ∧ v1 < 41) (some (zT.2.1 (v1.toNat)))))))
theorem m_X8_y {zT : tZ8} {u0 : tX8} {v1 : Int} {u1 : Int32} (e0 : u0 = (cX8 zT)) (e1 : u1 = (Int32.ofInt v1)) : sim Int32.ofInt (q_X8_y zT v1) (p_X8_y u0 u1) := by
  subst e0 e1
  unfold q_X8_y p_X8_y
  exact sim_g (fun g1 => sim_kif (i_lt rfl l32_0 g1 (by decide)) (sim_some l32_0) (sim_g (fun g2 => sim_kif (i_le rfl rfl g2 g1) (sim_some l32_0) (sim_kii rfl (by decide) (fun g3 => sim_some (c_ap zT.2.1 (c_idx rfl g3 (by decide))))))))

def q_X8_count (zT : tZ8) : Option Int :=
  some zT.2.2.2
theorem m_X8_count {zT : tZ8} {u0 : tX8} (e0 : u0 = (cX8 zT)) : sim Int32.ofInt (q_X8_count zT) (p_X8_count u0) := by
  subst e0
  unfold q_X8_count p_X8_count
  exact sim_some rfl

def q_X8_number (zT : tZ8) (v1 : Int) : Option Int :=
  kg (k32 v1) (kif (v1 < (0 : Int)) (some (-1 : Int)) (kg (k32 zT.2.2.2) (kif (zT.2.2.2 ≤ v1) (some (-1 : Int)) (kg (0 ≤ v1 ∧ v1 < 41) (some (zT.2.2.1 (v1.toNat)))))))
theorem m_X8_number {zT : tZ8} {u0 : tX8} {v1 : Int} {u1 : Int32} (e0 : u0 = (cX8 zT)) (e1 : u1 = (Int32.ofInt v1)) : sim Int32.ofInt (q_X8_number zT v1) (p_X8_number u0 u1) := by
  subst e0 e1
  unfold q_X8_number p_X8_number
  exact sim_g (fun g1 => sim_kif (i_lt rfl l32_0 g1 (by decide)) (sim_some l32_m1) (sim_g (fun g2 => sim_kif (i_le rfl rfl g2 g1) (sim_some l32_m1) (sim_kii rfl (by decide) (fun g3 => sim_some (c_ap zT.2.2.1 (c_idx rfl g3 (by decide))))))))

def q_X8_distance (zT : tZ8) (v1 : Int) (v2 : Int) : Option Int :=
  kb (q_X8_x zT v2) (fun x1 : Int => kb (q_X8_x zT v1) (fun x2 : Int => kl (x1 - x2) (fun y3 : Int => kb (q_X8_y zT v2) (fun x4 : Int => kb (q_X8_y zT v1) (fun x5 : Int => kl (x4 - x5) (fun y6 : Int => some ((y3 * y3) + (y6 * y6))))))))
theorem m_X8_distance {zT : tZ8} {u0 : tX8} {v1 : Int} {u1 : Int32} {v2 : Int} {u2 : Int32} (e0 : u0 = (cX8 zT)) (e1 : u1 = (Int32.ofInt v1)) (e2 : u2 = (Int32.ofInt v2)) : sim Int32.ofInt (q_X8_distance zT v1 v2) (p_X8_distance u0 u1 u2) := by
  subst e0 e1 e2
  unfold q_X8_distance p_X8_distance
  exact sim_kb (c1 := Int32.ofInt) (m_X8_x rfl rfl) (fun x1 => sim_kb (c1 := Int32.ofInt) (m_X8_x rfl rfl) (fun x2 => sim_kl (c := Int32.ofInt) (c_sub rfl rfl) (fun y3 => sim_kb (c1 := Int32.ofInt) (m_X8_y rfl rfl) (fun x4 => sim_kb (c1 := Int32.ofInt) (m_X8_y rfl rfl) (fun x5 => sim_kl (c := Int32.ofInt) (c_sub rfl rfl) (fun y6 => sim_some (c_add (c_mul rfl rfl) (c_mul rfl rfl))))))))

def q_X8_copy_L7 (zP1 : tZ8) (s : (Int × tZ8)) : Option (Nat × (Int × tZ8)) :=
  kg (k32 zP1.2.2.2 ∧ k32 s.1) (kif (zP1.2.2.2 ≤ s.1) (some (73, (s.1, s.2))) (kif ((41 : Int) ≤ s.1) (some (73, (s.1, s.2))) (kg (0 ≤ s.1 ∧ s.1 < 41) (kl ((va_up s.2.1 (s.1.toNat) (zP1.1 (s.1.toNat))), s.2.2) (fun z2 : ((Nat → Int) × ((Nat → Int) × (Nat → Int) × Int)) => kl (z2.1, (va_up z2.2.1 (s.1.toNat) (zP1.2.1 (s.1.toNat))), z2.2.2) (fun z3 : ((Nat → Int) × (Nat → Int) × ((Nat → Int) × Int)) => kl (z3.1, z3.2.1, (va_up z3.2.2.1 (s.1.toNat) (zP1.2.2.1 (s.1.toNat))), z3.2.2.2) (fun z4 : ((Nat → Int) × (Nat → Int) × (Nat → Int) × Int) => kl (z4.1, z4.2.1, z4.2.2.1, (z4.2.2.2 + (1 : Int))) (fun z5 : ((Nat → Int) × (Nat → Int) × (Nat → Int) × Int) => kl (s.1 + (1 : Int)) (fun y6 : Int => some (7, (y6, z5)))))))))))
theorem m_X8_copy_L7 {zP1 : tZ8} {u0 : tX8} {s : (Int × tZ8)} {u1 : (Int32 × tX8)} (e0 : u0 = (cX8 zP1)) (e1 : u1 = ((Int32.ofInt s.1), (cX8 s.2))) : sim (fun r : (Nat × (Int × tZ8)) => (r.1, ((Int32.ofInt r.2.1), (cX8 r.2.2)))) (q_X8_copy_L7 zP1 s) (p_X8_copy_L7 u0 u1) := by
  subst e0 e1
  unfold q_X8_copy_L7 p_X8_copy_L7
  exact sim_g (fun g1 => sim_kif (i_le rfl rfl g1.1 g1.2) (sim_some rfl) (sim_kif (i_le l32_41 rfl (by decide) g1.2) (sim_some rfl) (sim_kii rfl (by decide) (fun g2 => sim_kii0 rfl (by decide) g2 (sim_kl (c := (fun r : ((Nat → Int) × ((Nat → Int) × (Nat → Int) × Int)) => ((cF r.1), ((cF r.2.1), (cF r.2.2.1), (Int32.ofInt r.2.2.2))))) (c_pr (c_upd rfl (c_idx rfl g2 (by decide)) (c_ap zP1.1 (c_idx rfl g2 (by decide)))) rfl) (fun z2 => sim_kii0 rfl (by decide) g2 (sim_kii0 rfl (by decide) g2 (sim_kl (c := (fun r : ((Nat → Int) × (Nat → Int) × ((Nat → Int) × Int)) => ((cF r.1), (cF r.2.1), ((cF r.2.2.1), (Int32.ofInt r.2.2.2))))) (c_pr rfl (c_pr (c_upd rfl (c_idx rfl g2 (by decide)) (c_ap zP1.2.1 (c_idx rfl g2 (by decide)))) rfl)) (fun z3 => sim_kii0 rfl (by decide) g2 (sim_kii0 rfl (by decide) g2 (sim_kl (c := (fun r : ((Nat → Int) × (Nat → Int) × (Nat → Int) × Int) => ((cF r.1), (cF r.2.1), (cF r.2.2.1), (Int32.ofInt r.2.2.2)))) (c_pr rfl (c_pr rfl (c_pr (c_upd rfl (c_idx rfl g2 (by decide)) (c_ap zP1.2.2.1 (c_idx rfl g2 (by decide)))) rfl))) (fun z4 => sim_kl (c := (fun r : ((Nat → Int) × (Nat → Int) × (Nat → Int) × Int) => ((cF r.1), (cF r.2.1), (cF r.2.2.1), (Int32.ofInt r.2.2.2)))) (c_pr rfl (c_pr rfl (c_pr rfl (c_add rfl l32_1)))) (fun z5 => sim_kl (c := Int32.ofInt) (c_add rfl l32_1) (fun y6 => sim_some rfl))))))))))))))

def q_X8_copy (zT : tZ8) (zP1 : tZ8) : Option tZ8 :=
  kl (zT.1, zT.2.1, zT.2.2.1, (0 : Int)) (fun z1 : ((Nat → Int) × (Nat → Int) × (Nat → Int) × Int) => kb (kitr 7 (fun q => q_X8_copy_L7 zP1 q) kF ((0 : Int), z1)) (fun x7 : (Nat × Int × tZ8) => kg ((x7.1 = 73)) (some x7.2.2)))
theorem m_X8_copy {zT : tZ8} {u0 : tX8} {zP1 : tZ8} {u1 : tX8} (e0 : u0 = (cX8 zT)) (e1 : u1 = (cX8 zP1)) : sim cX8 (q_X8_copy zT zP1) (p_X8_copy u0 u1) := by
  subst e0 e1
  unfold q_X8_copy p_X8_copy
  exact sim_kl (c := (fun r : ((Nat → Int) × (Nat → Int) × (Nat → Int) × Int) => ((cF r.1), (cF r.2.1), (cF r.2.2.1), (Int32.ofInt r.2.2.2)))) (c_pr rfl (c_pr rfl (c_pr rfl l32_0))) (fun z1 => sim_kb (c1 := (fun r : (Nat × Int × tZ8) => (r.1, (Int32.ofInt r.2.1), (cX8 r.2.2)))) (sim_kitr (c := (fun r : (Int × tZ8) => ((Int32.ofInt r.1), (cX8 r.2)))) (fun _ => m_X8_copy_L7 rfl rfl) (c_pr l32_0 rfl)) (fun x7 => sim_kg Iff.rfl (sim_some rfl)))

def q_X8_move (zT : tZ8) (v1 : Int) (v2 : Int) : Option tZ8 :=
  kg (k32 v1) (kif (v1 < (0 : Int)) (some zT) (kif ((41 : Int) ≤ v1) (some zT) (kg (k32 v2) (kif (v2 < (0 : Int)) (some zT) (kif (v2 < (41 : Int)) (kg (0 ≤ v1 ∧ v1 < 41) (kg (0 ≤ v2 ∧ v2 < 41) (kl ((va_up zT.1 (v2.toNat) (zT.1 (v1.toNat))), zT.2) (fun z1 : ((Nat → Int) × ((Nat → Int) × (Nat → Int) × Int)) => kl (z1.1, (va_up z1.2.1 (v2.toNat) (z1.2.1 (v1.toNat))), z1.2.2) (fun z2 : ((Nat → Int) × (Nat → Int) × ((Nat → Int) × Int)) => kl (z2.1, z2.2.1, (va_up z2.2.2.1 (v2.toNat) (z2.2.2.1 (v1.toNat))), z2.2.2.2) (fun z3 : ((Nat → Int) × (Nat → Int) × (Nat → Int) × Int) => some z3)))))) (some zT))))))
theorem m_X8_move {zT : tZ8} {u0 : tX8} {v1 : Int} {u1 : Int32} {v2 : Int} {u2 : Int32} (e0 : u0 = (cX8 zT)) (e1 : u1 = (Int32.ofInt v1)) (e2 : u2 = (Int32.ofInt v2)) : sim cX8 (q_X8_move zT v1 v2) (p_X8_move u0 u1 u2) := by
  subst e0 e1 e2
  unfold q_X8_move p_X8_move
  exact sim_g (fun g1 => sim_kif (i_lt rfl l32_0 g1 (by decide)) (sim_some rfl) (sim_kif (i_le l32_41 rfl (by decide) g1) (sim_some rfl) (sim_g (fun g2 => sim_kif (i_lt rfl l32_0 g2 (by decide)) (sim_some rfl) (sim_kif (i_lt rfl l32_41 g2 (by decide)) (sim_kii rfl (by decide) (fun g3 => sim_kii rfl (by decide) (fun g4 => sim_kl (c := (fun r : ((Nat → Int) × ((Nat → Int) × (Nat → Int) × Int)) => ((cF r.1), ((cF r.2.1), (cF r.2.2.1), (Int32.ofInt r.2.2.2))))) (c_pr (c_upd rfl (c_idx rfl g4 (by decide)) (c_ap zT.1 (c_idx rfl g3 (by decide)))) rfl) (fun z1 => sim_kii0 rfl (by decide) g3 (sim_kii0 rfl (by decide) g4 (sim_kl (c := (fun r : ((Nat → Int) × (Nat → Int) × ((Nat → Int) × Int)) => ((cF r.1), (cF r.2.1), ((cF r.2.2.1), (Int32.ofInt r.2.2.2))))) (c_pr rfl (c_pr (c_upd rfl (c_idx rfl g4 (by decide)) (c_ap z1.2.1 (c_idx rfl g3 (by decide)))) rfl)) (fun z2 => sim_kii0 rfl (by decide) g3 (sim_kii0 rfl (by decide) g4 (sim_kl (c := (fun r : ((Nat → Int) × (Nat → Int) × (Nat → Int) × Int) => ((cF r.1), (cF r.2.1), (cF r.2.2.1), (Int32.ofInt r.2.2.2)))) (c_pr rfl (c_pr rfl (c_pr (c_upd rfl (c_idx rfl g4 (by decide)) (c_ap z2.2.2.1 (c_idx rfl g3 (by decide)))) rfl))) (fun z3 => sim_some rfl)))))))))) (sim_some rfl))))))

def q_X8_drop_L4 (v1 : Int) (s : (Int × Int × tZ8)) : Option (Nat × (Int × Int × tZ8)) :=
  kg (k32 s.2.2.2.2.2 ∧ k32 s.2.1) (kif (s.2.2.2.2.2 ≤ s.2.1) (some (40, (s.1, s.2.1, s.2.2))) (kg (0 ≤ s.2.1 ∧ s.2.1 < 41) (kg (k32 (s.2.2.2.2.1 (s.2.1.toNat)) ∧ k32 v1) (kif ((s.2.2.2.2.1 (s.2.1.toNat)) = v1) (kl (s.2.1 + (1 : Int)) (fun y1 : Int => some (4, (s.1, y1, s.2.2)))) (kb (q_X8_move s.2.2 s.2.1 s.1) (fun x2 : tZ8 => kl (s.1 + (1 : Int)) (fun y3 : Int => kl (s.2.1 + (1 : Int)) (fun y4 : Int => some (4, (y3, y4, x2))))))))))
theorem m_X8_drop_L4 {v1 : Int} {u0 : Int32} {s : (Int × Int × tZ8)} {u1 : (Int32 × Int32 × tX8)} (e0 : u0 = (Int32.ofInt v1)) (e1 : u1 = ((Int32.ofInt s.1), (Int32.ofInt s.2.1), (cX8 s.2.2))) : sim (fun r : (Nat × (Int × Int × tZ8)) => (r.1, ((Int32.ofInt r.2.1), (Int32.ofInt r.2.2.1), (cX8 r.2.2.2)))) (q_X8_drop_L4 v1 s) (p_X8_drop_L4 u0 u1) := by
  subst e0 e1
  unfold q_X8_drop_L4 p_X8_drop_L4
  exact sim_g (fun g1 => sim_kif (i_le rfl rfl g1.1 g1.2) (sim_some rfl) (sim_kii rfl (by decide) (fun g2 => sim_g (fun g3 => sim_kif (i_eq (c_ap s.2.2.2.2.1 (c_idx rfl g2 (by decide))) rfl g3.1 g3.2) (sim_kl (c := Int32.ofInt) (c_add rfl l32_1) (fun y1 => sim_some rfl)) (sim_kb (c1 := cX8) (m_X8_move rfl rfl rfl) (fun x2 => sim_kl (c := Int32.ofInt) (c_add rfl l32_1) (fun y3 => sim_kl (c := Int32.ofInt) (c_add rfl l32_1) (fun y4 => sim_some rfl))))))))

def q_X8_drop (zT : tZ8) (v1 : Int) : Option tZ8 :=
  kb (kitr 4 (fun q => q_X8_drop_L4 v1 q) kF ((0 : Int), (0 : Int), zT)) (fun x5 : (Nat × Int × Int × tZ8) => kg ((x5.1 = 40)) (kl (x5.2.2.2.1, x5.2.2.2.2.1, x5.2.2.2.2.2.1, x5.2.1) (fun z6 : ((Nat → Int) × (Nat → Int) × (Nat → Int) × Int) => some z6)))
theorem m_X8_drop {zT : tZ8} {u0 : tX8} {v1 : Int} {u1 : Int32} (e0 : u0 = (cX8 zT)) (e1 : u1 = (Int32.ofInt v1)) : sim cX8 (q_X8_drop zT v1) (p_X8_drop u0 u1) := by
  subst e0 e1
  unfold q_X8_drop p_X8_drop
  exact sim_kb (c1 := (fun r : (Nat × Int × Int × tZ8) => (r.1, (Int32.ofInt r.2.1), (Int32.ofInt r.2.2.1), (cX8 r.2.2.2)))) (sim_kitr (c := (fun r : (Int × Int × tZ8) => ((Int32.ofInt r.1), (Int32.ofInt r.2.1), (cX8 r.2.2)))) (fun _ => m_X8_drop_L4 rfl rfl) (c_pr l32_0 (c_pr l32_0 rfl))) (fun x5 => sim_kg Iff.rfl (sim_kl (c := (fun r : ((Nat → Int) × (Nat → Int) × (Nat → Int) × Int) => ((cF r.1), (cF r.2.1), (cF r.2.2.1), (Int32.ofInt r.2.2.2)))) rfl (fun z6 => sim_some rfl)))

def q_X8_add_L6 (v1 : Int) (v2 : Int) (v3 : Int) (zT : tZ8) (s : Int) : Option (Nat × Int) :=
  kg (k32 s) (kif (s ≤ (0 : Int)) (some (56, s)) (kg (0 ≤ (s - (1 : Int)) ∧ (s - (1 : Int)) < 41) (kg (k32 v1 ∧ k32 (zT.1 ((s - (1 : Int)).toNat))) (kif (v1 < (zT.1 ((s - (1 : Int)).toNat))) (kl (s + (-1 : Int)) (fun y1 : Int => some (6, y1))) (kif ((zT.1 ((s - (1 : Int)).toNat)) = v1) (kg (k32 (zT.2.1 ((s - (1 : Int)).toNat)) ∧ k32 v2) (kif ((zT.2.1 ((s - (1 : Int)).toNat)) ≤ v2) (some (56, s)) (kl (s + (-1 : Int)) (fun y2 : Int => some (6, y2))))) (some (56, s)))))))
theorem m_X8_add_L6 {v1 : Int} {u0 : Int32} {v2 : Int} {u1 : Int32} {v3 : Int} {u2 : Int32} {zT : tZ8} {u3 : tX8} {s : Int} {u4 : Int32} (e0 : u0 = (Int32.ofInt v1)) (e1 : u1 = (Int32.ofInt v2)) (e2 : u2 = (Int32.ofInt v3)) (e3 : u3 = (cX8 zT)) (e4 : u4 = (Int32.ofInt s)) : sim (fun r : (Nat × Int) => (r.1, (Int32.ofInt r.2))) (q_X8_add_L6 v1 v2 v3 zT s) (p_X8_add_L6 u0 u1 u2 u3 u4) := by
  subst e0 e1 e2 e3 e4
  unfold q_X8_add_L6 p_X8_add_L6
  exact sim_g (fun g1 => sim_kif (i_le rfl l32_0 g1 (by decide)) (sim_some rfl) (sim_kii (c_sub rfl l32_1) (by decide) (fun g2 => sim_g (fun g3 => sim_kif (i_lt rfl (c_ap zT.1 (c_idx (c_sub rfl l32_1) g2 (by decide))) g3.1 g3.2) (sim_kl (c := Int32.ofInt) (c_add rfl l32_m1) (fun y1 => sim_some rfl)) (sim_kii0 (c_sub rfl l32_1) (by decide) g2 (sim_kif (i_eq (c_ap zT.1 (c_idx (c_sub rfl l32_1) g2 (by decide))) rfl g3.2 g3.1) (sim_kii0 (c_sub rfl l32_1) (by decide) g2 (sim_g (fun g4 => sim_kif (i_le (c_ap zT.2.1 (c_idx (c_sub rfl l32_1) g2 (by decide))) rfl g4.1 g4.2) (sim_some rfl) (sim_kl (c := Int32.ofInt) (c_add rfl l32_m1) (fun y2 => sim_some rfl))))) (sim_some rfl)))))))

def q_X8_add_L103 (v1 : Int) (v2 : Int) (v3 : Int) (v4 : Int) (s : (Int × tZ8)) : Option (Nat × (Int × tZ8)) :=
  kg (k32 s.1 ∧ k32 v4) (kif (s.1 ≤ v4) (some (126, (s.1, s.2))) (kb (q_X8_move s.2 (s.1 - (1 : Int)) s.1) (fun x4 : tZ8 => kl (s.1 + (-1 : Int)) (fun y5 : Int => some (103, (y5, x4))))))
theorem m_X8_add_L103 {v1 : Int} {u0 : Int32} {v2 : Int} {u1 : Int32} {v3 : Int} {u2 : Int32} {v4 : Int} {u3 : Int32} {s : (Int × tZ8)} {u4 : (Int32 × tX8)} (e0 : u0 = (Int32.ofInt v1)) (e1 : u1 = (Int32.ofInt v2)) (e2 : u2 = (Int32.ofInt v3)) (e3 : u3 = (Int32.ofInt v4)) (e4 : u4 = ((Int32.ofInt s.1), (cX8 s.2))) : sim (fun r : (Nat × (Int × tZ8)) => (r.1, ((Int32.ofInt r.2.1), (cX8 r.2.2)))) (q_X8_add_L103 v1 v2 v3 v4 s) (p_X8_add_L103 u0 u1 u2 u3 u4) := by
  subst e0 e1 e2 e3 e4
  unfold q_X8_add_L103 p_X8_add_L103
  exact sim_g (fun g1 => sim_kif (i_le rfl rfl g1.1 g1.2) (sim_some rfl) (sim_kb (c1 := cX8) (m_X8_move rfl (c_sub rfl l32_1) rfl) (fun x4 => sim_kl (c := Int32.ofInt) (c_add rfl l32_m1) (fun y5 => sim_some rfl))))

def q_X8_add_J97 (v1 : Int) (v2 : Int) (v3 : Int) (zT : tZ8) (v4 : Int) : Option tZ8 :=
  kb (kitr 103 (fun q => q_X8_add_L103 v1 v2 v3 v4 q) kF (zT.2.2.2, zT)) (fun x6 : (Nat × Int × tZ8) => kg ((x6.1 = 126)) (kg (0 ≤ v4 ∧ v4 < 41) (kl ((va_up x6.2.2.1 (v4.toNat) v1), x6.2.2.2) (fun z7 : ((Nat → Int) × ((Nat → Int) × (Nat → Int) × Int)) => kl (z7.1, (va_up z7.2.1 (v4.toNat) v2), z7.2.2) (fun z8 : ((Nat → Int) × (Nat → Int) × ((Nat → Int) × Int)) => kl (z8.1, z8.2.1, (va_up z8.2.2.1 (v4.toNat) v3), z8.2.2.2) (fun z9 : ((Nat → Int) × (Nat → Int) × (Nat → Int) × Int) => kl (z9.1, z9.2.1, z9.2.2.1, (z9.2.2.2 + (1 : Int))) (fun z10 : ((Nat → Int) × (Nat → Int) × (Nat → Int) × Int) => some z10)))))))
theorem m_X8_add_J97 {v1 : Int} {u0 : Int32} {v2 : Int} {u1 : Int32} {v3 : Int} {u2 : Int32} {zT : tZ8} {u3 : tX8} {v4 : Int} {u4 : Int32} (e0 : u0 = (Int32.ofInt v1)) (e1 : u1 = (Int32.ofInt v2)) (e2 : u2 = (Int32.ofInt v3)) (e3 : u3 = (cX8 zT)) (e4 : u4 = (Int32.ofInt v4)) : sim cX8 (q_X8_add_J97 v1 v2 v3 zT v4) (p_X8_add_J97 u0 u1 u2 u3 u4) := by
  subst e0 e1 e2 e3 e4
  unfold q_X8_add_J97 p_X8_add_J97
  exact sim_kb (c1 := (fun r : (Nat × Int × tZ8) => (r.1, (Int32.ofInt r.2.1), (cX8 r.2.2)))) (sim_kitr (c := (fun r : (Int × tZ8) => ((Int32.ofInt r.1), (cX8 r.2)))) (fun _ => m_X8_add_L103 rfl rfl rfl rfl rfl) rfl) (fun x6 => sim_kg Iff.rfl (sim_kii rfl (by decide) (fun g1 => sim_kl (c := (fun r : ((Nat → Int) × ((Nat → Int) × (Nat → Int) × Int)) => ((cF r.1), ((cF r.2.1), (cF r.2.2.1), (Int32.ofInt r.2.2.2))))) (c_pr (c_upd rfl (c_idx rfl g1 (by decide)) rfl) rfl) (fun z7 => sim_kii0 rfl (by decide) g1 (sim_kl (c := (fun r : ((Nat → Int) × (Nat → Int) × ((Nat → Int) × Int)) => ((cF r.1), (cF r.2.1), ((cF r.2.2.1), (Int32.ofInt r.2.2.2))))) (c_pr rfl (c_pr (c_upd rfl (c_idx rfl g1 (by decide)) rfl) rfl)) (fun z8 => sim_kii0 rfl (by decide) g1 (sim_kl (c := (fun r : ((Nat → Int) × (Nat → Int) × (Nat → Int) × Int) => ((cF r.1), (cF r.2.1), (cF r.2.2.1), (Int32.ofInt r.2.2.2)))) (c_pr rfl (c_pr rfl (c_pr (c_upd rfl (c_idx rfl g1 (by decide)) rfl) rfl))) (fun z9 => sim_kl (c := (fun r : ((Nat → Int) × (Nat → Int) × (Nat → Int) × Int) => ((cF r.1), (cF r.2.1), (cF r.2.2.1), (Int32.ofInt r.2.2.2)))) (c_pr rfl (c_pr rfl (c_pr rfl (c_add rfl l32_1)))) (fun z10 => sim_some rfl)))))))))

def q_X8_add_J56 (v1 : Int) (v2 : Int) (v3 : Int) (zT : tZ8) (v4 : Int) : Option tZ8 :=
  kg (k32 zT.2.2.2) (kif ((41 : Int) ≤ zT.2.2.2) (some zT) (kg (k32 v4) (kif (v4 ≤ (0 : Int)) (q_X8_add_J97 v1 v2 v3 zT v4) (kg (0 ≤ (v4 - (1 : Int)) ∧ (v4 - (1 : Int)) < 41) (kg (k32 (zT.1 ((v4 - (1 : Int)).toNat)) ∧ k32 v1) (kif ((zT.1 ((v4 - (1 : Int)).toNat)) = v1) (kg (k32 (zT.2.1 ((v4 - (1 : Int)).toNat)) ∧ k32 v2) (kif ((zT.2.1 ((v4 - (1 : Int)).toNat)) = v2) (some zT) (q_X8_add_J97 v1 v2 v3 zT v4))) (q_X8_add_J97 v1 v2 v3 zT v4)))))))
theorem m_X8_add_J56 {v1 : Int} {u0 : Int32} {v2 : Int} {u1 : Int32} {v3 : Int} {u2 : Int32} {zT : tZ8} {u3 : tX8} {v4 : Int} {u4 : Int32} (e0 : u0 = (Int32.ofInt v1)) (e1 : u1 = (Int32.ofInt v2)) (e2 : u2 = (Int32.ofInt v3)) (e3 : u3 = (cX8 zT)) (e4 : u4 = (Int32.ofInt v4)) : sim cX8 (q_X8_add_J56 v1 v2 v3 zT v4) (p_X8_add_J56 u0 u1 u2 u3 u4) := by
  subst e0 e1 e2 e3 e4
  unfold q_X8_add_J56 p_X8_add_J56
  exact sim_g (fun g1 => sim_kif (i_le l32_41 rfl (by decide) g1) (sim_some rfl) (sim_g (fun g2 => sim_kif (i_le rfl l32_0 g2 (by decide)) (m_X8_add_J97 rfl rfl rfl rfl rfl) (sim_kii (c_sub rfl l32_1) (by decide) (fun g3 => sim_g (fun g4 => sim_kif (i_eq (c_ap zT.1 (c_idx (c_sub rfl l32_1) g3 (by decide))) rfl g4.1 g4.2) (sim_kii0 (c_sub rfl l32_1) (by decide) g3 (sim_g (fun g5 => sim_kif (i_eq (c_ap zT.2.1 (c_idx (c_sub rfl l32_1) g3 (by decide))) rfl g5.1 g5.2) (sim_some rfl) (m_X8_add_J97 rfl rfl rfl rfl rfl)))) (m_X8_add_J97 rfl rfl rfl rfl rfl)))))))

def q_X8_add (zT : tZ8) (v1 : Int) (v2 : Int) (v3 : Int) : Option tZ8 :=
  kb (kitr 6 (fun q => q_X8_add_L6 v1 v2 v3 zT q) kF zT.2.2.2) (fun x3 : (Nat × Int) => kg ((x3.1 = 56)) (q_X8_add_J56 v1 v2 v3 zT x3.2))
theorem m_X8_add {zT : tZ8} {u0 : tX8} {v1 : Int} {u1 : Int32} {v2 : Int} {u2 : Int32} {v3 : Int} {u3 : Int32} (e0 : u0 = (cX8 zT)) (e1 : u1 = (Int32.ofInt v1)) (e2 : u2 = (Int32.ofInt v2)) (e3 : u3 = (Int32.ofInt v3)) : sim cX8 (q_X8_add zT v1 v2 v3) (p_X8_add u0 u1 u2 u3) := by
  subst e0 e1 e2 e3
  unfold q_X8_add p_X8_add
  exact sim_kb (c1 := (fun r : (Nat × Int) => (r.1, (Int32.ofInt r.2)))) (sim_kitr (c := Int32.ofInt) (fun _ => m_X8_add_L6 rfl rfl rfl rfl rfl) rfl) (fun x3 => sim_kg Iff.rfl (m_X8_add_J56 rfl rfl rfl rfl rfl))

def q_X8_collect_L8 (zP1 : tZ4) (v2 : Int) (v4 : Int) (s : (Int × tZ8)) : Option (Nat × (Int × tZ8)) :=
  kg (k32 s.1) (kif ((40 : Int) ≤ s.1) (some (54, (s.1, s.2))) (kif ((zand64 (zshr64 v2 (zand64 s.1 (63 : Int))) (1 : Int)) = (0 : Int)) (kl (s.1 + (1 : Int)) (fun y2 : Int => some (8, (y2, s.2)))) (kb (q_X4_standX zP1 s.1 v4) (fun x3 : Int => kb (q_X4_standY zP1 s.1 v4) (fun x4 : Int => kb (q_X8_add s.2 x3 x4 s.1) (fun x5 : tZ8 => kl (s.1 + (1 : Int)) (fun y6 : Int => some (8, (y6, x5)))))))))
theorem m_X8_collect_L8 {zP1 : tZ4} {u0 : tX4} {v2 : Int} {u1 : Int64} {v4 : Int} {u2 : Int32} {s : (Int × tZ8)} {u3 : (Int32 × tX8)} (e0 : u0 = (cX4 zP1)) (e1 : u1 = (Int64.ofInt v2)) (e2 : u2 = (Int32.ofInt v4)) (e3 : u3 = ((Int32.ofInt s.1), (cX8 s.2))) : sim (fun r : (Nat × (Int × tZ8)) => (r.1, ((Int32.ofInt r.2.1), (cX8 r.2.2)))) (q_X8_collect_L8 zP1 v2 v4 s) (p_X8_collect_L8 u0 u1 u2 u3) := by
  subst e0 e1 e2 e3
  unfold q_X8_collect_L8 p_X8_collect_L8
  exact sim_g (fun g1 => sim_kif (i_le l32_40 rfl (by decide) g1) (sim_some rfl) (sim_kif (j_eq (d_and (d_shr rfl (d_and (c_toJ rfl g1) l64_63)) l64_1) l64_0 (k64_to _) (by decide)) (sim_kl (c := Int32.ofInt) (c_add rfl l32_1) (fun y2 => sim_some rfl)) (sim_kb (c1 := Int32.ofInt) (m_X4_standX rfl rfl rfl) (fun x3 => sim_kb (c1 := Int32.ofInt) (m_X4_standY rfl rfl rfl) (fun x4 => sim_kb (c1 := cX8) (m_X8_add rfl rfl rfl rfl) (fun x5 => sim_kl (c := Int32.ofInt) (c_add rfl l32_1) (fun y6 => sim_some rfl)))))))

def q_X8_collect (zT : tZ8) (zP1 : tZ4) (v2 : Int) (v4 : Int) : Option tZ8 :=
  kl (zT.1, zT.2.1, zT.2.2.1, (0 : Int)) (fun z1 : ((Nat → Int) × (Nat → Int) × (Nat → Int) × Int) => kb (kitr 8 (fun q => q_X8_collect_L8 zP1 v2 v4 q) kF ((0 : Int), z1)) (fun x7 : (Nat × Int × tZ8) => kg ((x7.1 = 54)) (some x7.2.2)))
theorem m_X8_collect {zT : tZ8} {u0 : tX8} {zP1 : tZ4} {u1 : tX4} {v2 : Int} {u2 : Int64} {v4 : Int} {u3 : Int32} (e0 : u0 = (cX8 zT)) (e1 : u1 = (cX4 zP1)) (e2 : u2 = (Int64.ofInt v2)) (e3 : u3 = (Int32.ofInt v4)) : sim cX8 (q_X8_collect zT zP1 v2 v4) (p_X8_collect u0 u1 u2 u3) := by
  subst e0 e1 e2 e3
  unfold q_X8_collect p_X8_collect
  exact sim_kl (c := (fun r : ((Nat → Int) × (Nat → Int) × (Nat → Int) × Int) => ((cF r.1), (cF r.2.1), (cF r.2.2.1), (Int32.ofInt r.2.2.2)))) (c_pr rfl (c_pr rfl (c_pr rfl l32_0))) (fun z1 => sim_kb (c1 := (fun r : (Nat × Int × tZ8) => (r.1, (Int32.ofInt r.2.1), (cX8 r.2.2)))) (sim_kitr (c := (fun r : (Int × tZ8) => ((Int32.ofInt r.1), (cX8 r.2)))) (fun _ => m_X8_collect_L8 rfl rfl rfl rfl) (c_pr l32_0 rfl)) (fun x7 => sim_kg Iff.rfl (sim_some rfl)))

def q_X8_indexOf_L2 (zT : tZ8) (v1 : Int) (v2 : Int) (s : Int) : Option (Nat × Int) :=
  kg (k32 zT.2.2.2 ∧ k32 s) (kif (zT.2.2.2 ≤ s) (some (38, s)) (kg (0 ≤ s ∧ s < 41) (kg (k32 (zT.1 (s.toNat)) ∧ k32 v1) (kif ((zT.1 (s.toNat)) = v1) (kg (k32 (zT.2.1 (s.toNat)) ∧ k32 v2) (kif ((zT.2.1 (s.toNat)) = v2) (some (30, s)) (kl (s + (1 : Int)) (fun y1 : Int => some (2, y1))))) (kl (s + (1 : Int)) (fun y2 : Int => some (2, y2)))))))
theorem m_X8_indexOf_L2 {zT : tZ8} {u0 : tX8} {v1 : Int} {u1 : Int32} {v2 : Int} {u2 : Int32} {s : Int} {u3 : Int32} (e0 : u0 = (cX8 zT)) (e1 : u1 = (Int32.ofInt v1)) (e2 : u2 = (Int32.ofInt v2)) (e3 : u3 = (Int32.ofInt s)) : sim (fun r : (Nat × Int) => (r.1, (Int32.ofInt r.2))) (q_X8_indexOf_L2 zT v1 v2 s) (p_X8_indexOf_L2 u0 u1 u2 u3) := by
  subst e0 e1 e2 e3
  unfold q_X8_indexOf_L2 p_X8_indexOf_L2
  exact sim_g (fun g1 => sim_kif (i_le rfl rfl g1.1 g1.2) (sim_some rfl) (sim_kii rfl (by decide) (fun g2 => sim_g (fun g3 => sim_kif (i_eq (c_ap zT.1 (c_idx rfl g2 (by decide))) rfl g3.1 g3.2) (sim_kii0 rfl (by decide) g2 (sim_g (fun g4 => sim_kif (i_eq (c_ap zT.2.1 (c_idx rfl g2 (by decide))) rfl g4.1 g4.2) (sim_some rfl) (sim_kl (c := Int32.ofInt) (c_add rfl l32_1) (fun y1 => sim_some rfl))))) (sim_kl (c := Int32.ofInt) (c_add rfl l32_1) (fun y2 => sim_some rfl))))))

def q_X8_indexOf (zT : tZ8) (v1 : Int) (v2 : Int) : Option Int :=
  kb (kitr 2 (fun q => q_X8_indexOf_L2 zT v1 v2 q) kF (0 : Int)) (fun x3 : (Nat × Int) => kif (x3.1 = 30) (some x3.2) (kg ((x3.1 = 38)) (some (-1 : Int))))
theorem m_X8_indexOf {zT : tZ8} {u0 : tX8} {v1 : Int} {u1 : Int32} {v2 : Int} {u2 : Int32} (e0 : u0 = (cX8 zT)) (e1 : u1 = (Int32.ofInt v1)) (e2 : u2 = (Int32.ofInt v2)) : sim Int32.ofInt (q_X8_indexOf zT v1 v2) (p_X8_indexOf u0 u1 u2) := by
  subst e0 e1 e2
  unfold q_X8_indexOf p_X8_indexOf
  exact sim_kb (c1 := (fun r : (Nat × Int) => (r.1, (Int32.ofInt r.2)))) (sim_kitr (c := Int32.ofInt) (fun _ => m_X8_indexOf_L2 rfl rfl rfl rfl) l32_0) (fun x3 => sim_kif Iff.rfl (sim_some rfl) (sim_kg Iff.rfl (sim_some l32_m1)))

def q_X8_depthBeside_L15 (zT : tZ8) (v1 : Int) (v2 : Int) (v3 : Int) (v4 : Int) (s : (Int × Int × Int × Int × Int)) : Option (Nat × (Int × Int × Int × Int × Int)) :=
  kg (k32 zT.2.2.2 ∧ k32 s.2.2.2.2) (kif (zT.2.2.2 ≤ s.2.2.2.2) (some (123, (s.1, s.2.1, s.2.2.1, s.2.2.2.1, s.2.2.2.2))) (kg (0 ≤ s.2.2.2.2 ∧ s.2.2.2.2 < 41) (kl ((v3 * ((zT.2.1 (s.2.2.2.2.toNat)) - v2)) - (v4 * ((zT.1 (s.2.2.2.2.toNat)) - v1))) (fun y1 : Int => kl ((v3 * ((zT.1 (s.2.2.2.2.toNat)) - v1)) + (v4 * ((zT.2.1 (s.2.2.2.2.toNat)) - v2))) (fun y2 : Int => kg (k32 y1) (kif (y1 ≤ (0 : Int)) (kif ((0 : Int) ≤ y1) (kg (k32 y2) (kif (y2 ≤ (0 : Int)) (kif ((0 : Int) ≤ y2) (kl (s.2.2.2.2 + (1 : Int)) (fun y3 : Int => some (15, (s.1, s.2.1, s.2.2.1, s.2.2.2.1, y3)))) (kl (s.2.2.2.1 + (1 : Int)) (fun y4 : Int => kl (s.2.2.2.2 + (1 : Int)) (fun y5 : Int => some (15, (s.1, s.2.1, s.2.2.1, y4, y5)))))) (kl (s.2.2.1 + (1 : Int)) (fun y6 : Int => kl (s.2.2.2.2 + (1 : Int)) (fun y7 : Int => some (15, (s.1, s.2.1, y6, s.2.2.2.1, y7))))))) (kl (s.2.1 + (1 : Int)) (fun y8 : Int => kl (s.2.2.2.2 + (1 : Int)) (fun y9 : Int => some (15, (s.1, y8, s.2.2.1, s.2.2.2.1, y9)))))) (kl (s.1 + (1 : Int)) (fun y10 : Int => kl (s.2.2.2.2 + (1 : Int)) (fun y11 : Int => some (15, (y10, s.2.1, s.2.2.1, s.2.2.2.1, y11)))))))))))
theorem m_X8_depthBeside_L15 {zT : tZ8} {u0 : tX8} {v1 : Int} {u1 : Int32} {v2 : Int} {u2 : Int32} {v3 : Int} {u3 : Int32} {v4 : Int} {u4 : Int32} {s : (Int × Int × Int × Int × Int)} {u5 : (Int32 × Int32 × Int32 × Int32 × Int32)} (e0 : u0 = (cX8 zT)) (e1 : u1 = (Int32.ofInt v1)) (e2 : u2 = (Int32.ofInt v2)) (e3 : u3 = (Int32.ofInt v3)) (e4 : u4 = (Int32.ofInt v4)) (e5 : u5 = ((Int32.ofInt s.1), (Int32.ofInt s.2.1), (Int32.ofInt s.2.2.1), (Int32.ofInt s.2.2.2.1), (Int32.ofInt s.2.2.2.2))) : sim (fun r : (Nat × (Int × Int × Int × Int × Int)) => (r.1, ((Int32.ofInt r.2.1), (Int32.ofInt r.2.2.1), (Int32.ofInt r.2.2.2.1), (Int32.ofInt r.2.2.2.2.1), (Int32.ofInt r.2.2.2.2.2)))) (q_X8_depthBeside_L15 zT v1 v2 v3 v4 s) (p_X8_depthBeside_L15 u0 u1 u2 u3 u4 u5) := by
  subst e0 e1 e2 e3 e4 e5
  unfold q_X8_depthBeside_L15 p_X8_depthBeside_L15
  exact sim_g (fun g1 => sim_kif (i_le rfl rfl g1.1 g1.2) (sim_some rfl) (sim_kii rfl (by decide) (fun g2 => sim_kii0 rfl (by decide) g2 (sim_kl (c := Int32.ofInt) (c_sub (c_mul rfl (c_sub (c_ap zT.2.1 (c_idx rfl g2 (by decide))) rfl)) (c_mul rfl (c_sub (c_ap zT.1 (c_idx rfl g2 (by decide))) rfl))) (fun y1 => sim_kii0 rfl (by decide) g2 (sim_kii0 rfl (by decide) g2 (sim_kl (c := Int32.ofInt) (c_add (c_mul rfl (c_sub (c_ap zT.1 (c_idx rfl g2 (by decide))) rfl)) (c_mul rfl (c_sub (c_ap zT.2.1 (c_idx rfl g2 (by decide))) rfl))) (fun y2 => sim_g (fun g3 => sim_kif (i_le rfl l32_0 g3 (by decide)) (sim_kif (i_le l32_0 rfl (by decide) g3) (sim_g (fun g4 => sim_kif (i_le rfl l32_0 g4 (by decide)) (sim_kif (i_le l32_0 rfl (by decide) g4) (sim_kl (c := Int32.ofInt) (c_add rfl l32_1) (fun y3 => sim_some rfl)) (sim_kl (c := Int32.ofInt) (c_add rfl l32_1) (fun y4 => sim_kl (c := Int32.ofInt) (c_add rfl l32_1) (fun y5 => sim_some rfl)))) (sim_kl (c := Int32.ofInt) (c_add rfl l32_1) (fun y6 => sim_kl (c := Int32.ofInt) (c_add rfl l32_1) (fun y7 => sim_some rfl))))) (sim_kl (c := Int32.ofInt) (c_add rfl l32_1) (fun y8 => sim_kl (c := Int32.ofInt) (c_add rfl l32_1) (fun y9 => sim_some rfl)))) (sim_kl (c := Int32.ofInt) (c_add rfl l32_1) (fun y10 => sim_kl (c := Int32.ofInt) (c_add rfl l32_1) (fun y11 => sim_some rfl))))))))))))

def q_X8_depthBeside (zT : tZ8) (v1 : Int) (v2 : Int) (v3 : Int) (v4 : Int) : Option Int :=
  kb (kitr 15 (fun q => q_X8_depthBeside_L15 zT v1 v2 v3 v4 q) kF ((0 : Int), (0 : Int), (0 : Int), (0 : Int), (0 : Int))) (fun x12 : (Nat × Int × Int × Int × Int × Int) => kg ((x12.1 = 123)) (kl ((((zT.2.2.2 - x12.2.1) - x12.2.2.1) - x12.2.2.2.1) - x12.2.2.2.2.1) (fun y13 : Int => kb (q_J9_min_7cf53 x12.2.1 x12.2.2.1) (fun x14 : Int => kb (q_J9_min_7cf53 x12.2.2.2.1 x12.2.2.2.2.1) (fun x15 : Int => some ((y13 + x14) + x15))))))
theorem m_X8_depthBeside {zT : tZ8} {u0 : tX8} {v1 : Int} {u1 : Int32} {v2 : Int} {u2 : Int32} {v3 : Int} {u3 : Int32} {v4 : Int} {u4 : Int32} (e0 : u0 = (cX8 zT)) (e1 : u1 = (Int32.ofInt v1)) (e2 : u2 = (Int32.ofInt v2)) (e3 : u3 = (Int32.ofInt v3)) (e4 : u4 = (Int32.ofInt v4)) : sim Int32.ofInt (q_X8_depthBeside zT v1 v2 v3 v4) (p_X8_depthBeside u0 u1 u2 u3 u4) := by
  subst e0 e1 e2 e3 e4
  unfold q_X8_depthBeside p_X8_depthBeside
  exact sim_kb (c1 := (fun r : (Nat × Int × Int × Int × Int × Int) => (r.1, (Int32.ofInt r.2.1), (Int32.ofInt r.2.2.1), (Int32.ofInt r.2.2.2.1), (Int32.ofInt r.2.2.2.2.1), (Int32.ofInt r.2.2.2.2.2)))) (sim_kitr (c := (fun r : (Int × Int × Int × Int × Int) => ((Int32.ofInt r.1), (Int32.ofInt r.2.1), (Int32.ofInt r.2.2.1), (Int32.ofInt r.2.2.2.1), (Int32.ofInt r.2.2.2.2)))) (fun _ => m_X8_depthBeside_L15 rfl rfl rfl rfl rfl rfl) (c_pr l32_0 (c_pr l32_0 (c_pr l32_0 (c_pr l32_0 l32_0))))) (fun x12 => sim_kg Iff.rfl (sim_kl (c := Int32.ofInt) (c_sub (c_sub (c_sub (c_sub rfl rfl) rfl) rfl) rfl) (fun y13 => sim_kb (c1 := Int32.ofInt) (m_J9_min_7cf53 rfl rfl) (fun x14 => sim_kb (c1 := Int32.ofInt) (m_J9_min_7cf53 rfl rfl) (fun x15 => sim_some (c_add (c_add rfl rfl) rfl))))))

def q_X8_depth_J39_8 (zT : tZ8) (v1 : Int) (v2 : Int) (v3 : Int) (v4 : Int) : Option (Nat × (Int × Int)) :=
  kg (0 ≤ v4 ∧ v4 < 41) (kb (q_X8_depthBeside zT v1 v2 ((zT.1 (v4.toNat)) - v1) ((zT.2.1 (v4.toNat)) - v2)) (fun x2 : Int => kb (q_J9_min_7cf53 v3 x2) (fun x3 : Int => kl (v4 + (1 : Int)) (fun y4 : Int => some (8, (x3, y4))))))
theorem m_X8_depth_J39_8 {zT : tZ8} {u0 : tX8} {v1 : Int} {u1 : Int32} {v2 : Int} {u2 : Int32} {v3 : Int} {u3 : Int32} {v4 : Int} {u4 : Int32} (e0 : u0 = (cX8 zT)) (e1 : u1 = (Int32.ofInt v1)) (e2 : u2 = (Int32.ofInt v2)) (e3 : u3 = (Int32.ofInt v3)) (e4 : u4 = (Int32.ofInt v4)) : sim (fun r : (Nat × (Int × Int)) => (r.1, ((Int32.ofInt r.2.1), (Int32.ofInt r.2.2)))) (q_X8_depth_J39_8 zT v1 v2 v3 v4) (p_X8_depth_J39_8 u0 u1 u2 u3 u4) := by
  subst e0 e1 e2 e3 e4
  unfold q_X8_depth_J39_8 p_X8_depth_J39_8
  exact sim_kii rfl (by decide) (fun g1 => sim_kii0 rfl (by decide) g1 (sim_kb (c1 := Int32.ofInt) (m_X8_depthBeside rfl rfl rfl (c_sub (c_ap zT.1 (c_idx rfl g1 (by decide))) rfl) (c_sub (c_ap zT.2.1 (c_idx rfl g1 (by decide))) rfl)) (fun x2 => sim_kb (c1 := Int32.ofInt) (m_J9_min_7cf53 rfl rfl) (fun x3 => sim_kl (c := Int32.ofInt) (c_add rfl l32_1) (fun y4 => sim_some rfl)))))

def q_X8_depth_L8 (zT : tZ8) (v1 : Int) (v2 : Int) (s : (Int × Int)) : Option (Nat × (Int × Int)) :=
  kg (k32 zT.2.2.2 ∧ k32 s.2) (kif (zT.2.2.2 ≤ s.2) (some (74, (s.1, s.2))) (kg (0 ≤ s.2 ∧ s.2 < 41) (kg (k32 (zT.1 (s.2.toNat)) ∧ k32 v1) (kif ((zT.1 (s.2.toNat)) = v1) (kg (k32 (zT.2.1 (s.2.toNat)) ∧ k32 v2) (kif ((zT.2.1 (s.2.toNat)) = v2) (kl (s.2 + (1 : Int)) (fun y1 : Int => some (8, (s.1, y1)))) (q_X8_depth_J39_8 zT v1 v2 s.1 s.2))) (q_X8_depth_J39_8 zT v1 v2 s.1 s.2)))))
theorem m_X8_depth_L8 {zT : tZ8} {u0 : tX8} {v1 : Int} {u1 : Int32} {v2 : Int} {u2 : Int32} {s : (Int × Int)} {u3 : (Int32 × Int32)} (e0 : u0 = (cX8 zT)) (e1 : u1 = (Int32.ofInt v1)) (e2 : u2 = (Int32.ofInt v2)) (e3 : u3 = ((Int32.ofInt s.1), (Int32.ofInt s.2))) : sim (fun r : (Nat × (Int × Int)) => (r.1, ((Int32.ofInt r.2.1), (Int32.ofInt r.2.2)))) (q_X8_depth_L8 zT v1 v2 s) (p_X8_depth_L8 u0 u1 u2 u3) := by
  subst e0 e1 e2 e3
  unfold q_X8_depth_L8 p_X8_depth_L8
  exact sim_g (fun g1 => sim_kif (i_le rfl rfl g1.1 g1.2) (sim_some rfl) (sim_kii rfl (by decide) (fun g2 => sim_g (fun g3 => sim_kif (i_eq (c_ap zT.1 (c_idx rfl g2 (by decide))) rfl g3.1 g3.2) (sim_kii0 rfl (by decide) g2 (sim_g (fun g4 => sim_kif (i_eq (c_ap zT.2.1 (c_idx rfl g2 (by decide))) rfl g4.1 g4.2) (sim_kl (c := Int32.ofInt) (c_add rfl l32_1) (fun y1 => sim_some rfl)) (m_X8_depth_J39_8 rfl rfl rfl rfl rfl)))) (m_X8_depth_J39_8 rfl rfl rfl rfl rfl)))))

def q_X8_depth (zT : tZ8) (v1 : Int) (v2 : Int) : Option Int :=
  kb (kitr 8 (fun q => q_X8_depth_L8 zT v1 v2 q) kF (zT.2.2.2, (0 : Int))) (fun x5 : (Nat × Int × Int) => kg ((x5.1 = 74)) (some x5.2.1))
theorem m_X8_depth {zT : tZ8} {u0 : tX8} {v1 : Int} {u1 : Int32} {v2 : Int} {u2 : Int32} (e0 : u0 = (cX8 zT)) (e1 : u1 = (Int32.ofInt v1)) (e2 : u2 = (Int32.ofInt v2)) : sim Int32.ofInt (q_X8_depth zT v1 v2) (p_X8_depth u0 u1 u2) := by
  subst e0 e1 e2
  unfold q_X8_depth p_X8_depth
  exact sim_kb (c1 := (fun r : (Nat × Int × Int) => (r.1, (Int32.ofInt r.2.1), (Int32.ofInt r.2.2)))) (sim_kitr (c := (fun r : (Int × Int) => ((Int32.ofInt r.1), (Int32.ofInt r.2)))) (fun _ => m_X8_depth_L8 rfl rfl rfl rfl) (c_pr rfl l32_0)) (fun x5 => sim_kg Iff.rfl (sim_some rfl))
