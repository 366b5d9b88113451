def q_X4_has (zT : tZ4) (v1 : Int) : Option Bool :=
  kg (k32 v1) (kif (v1 < (0 : Int)) (some false) (kif ((40 : Int) ≤ v1) (some false) (kg (0 ≤ ((80 : Int) + v1) ∧ ((80 : Int) + v1) < 129) (kg (k32 (zT.1 (((80 : Int) + v1).toNat))) (kif ((zT.1 (((80 : Int) + v1).toNat)) = (-1 : Int)) (some false) (some true))))))
theorem m_X4_has {zT : tZ4} {u0 : tX4} {v1 : Int} {u1 : Int32} (e0 : u0 = (cX4 zT)) (e1 : u1 = (Int32.ofInt v1)) : sim (fun r : Bool => r) (q_X4_has zT v1) (p_X4_has u0 u1) := by
  subst e0 e1
  unfold q_X4_has p_X4_has
  exact sim_g (fun g1 => sim_kif (i_lt rfl l32_0 g1 (by decide)) (sim_some rfl) (sim_kif (i_le l32_40 rfl (by decide) g1) (sim_some rfl) (sim_kii (c_add l32_80 rfl) (by decide) (fun g2 => sim_g (fun g3 => sim_kif (i_eq (c_ap zT.1 (c_idx (c_add l32_80 rfl) g2 (by decide))) l32_m1 g3 (by decide)) (sim_some rfl) (sim_some rfl))))))

def q_X4_free_L2 (zT : tZ4) (s : Int) : Option (Nat × Int) :=
  kg (k32 s) (kif ((40 : Int) ≤ s) (some (29, s)) (kg (0 ≤ ((80 : Int) + s) ∧ ((80 : Int) + s) < 129) (kg (k32 (zT.1 (((80 : Int) + s).toNat))) (kif ((zT.1 (((80 : Int) + s).toNat)) = (-1 : Int)) (some (21, s)) (kl (s + (1 : Int)) (fun y1 : Int => some (2, y1)))))))
theorem m_X4_free_L2 {zT : tZ4} {u0 : tX4} {s : Int} {u1 : Int32} (e0 : u0 = (cX4 zT)) (e1 : u1 = (Int32.ofInt s)) : sim (fun r : (Nat × Int) => (r.1, (Int32.ofInt r.2))) (q_X4_free_L2 zT s) (p_X4_free_L2 u0 u1) := by
  subst e0 e1
  unfold q_X4_free_L2 p_X4_free_L2
  exact sim_g (fun g1 => sim_kif (i_le l32_40 rfl (by decide) g1) (sim_some rfl) (sim_kii (c_add l32_80 rfl) (by decide) (fun g2 => sim_g (fun g3 => sim_kif (i_eq (c_ap zT.1 (c_idx (c_add l32_80 rfl) g2 (by decide))) l32_m1 g3 (by decide)) (sim_some rfl) (sim_kl (c := Int32.ofInt) (c_add rfl l32_1) (fun y1 => sim_some rfl))))))

def q_X4_free (zT : tZ4) : Option Int :=
  kb (kitr 2 (fun q => q_X4_free_L2 zT q) kF (0 : Int)) (fun x2 : (Nat × Int) => kif (x2.1 = 21) (some x2.2) (kg ((x2.1 = 29)) (some (-1 : Int))))
theorem m_X4_free {zT : tZ4} {u0 : tX4} (e0 : u0 = (cX4 zT)) : sim Int32.ofInt (q_X4_free zT) (p_X4_free u0) := by
  subst e0
  unfold q_X4_free p_X4_free
  exact sim_kb (c1 := (fun r : (Nat × Int) => (r.1, (Int32.ofInt r.2)))) (sim_kitr (c := Int32.ofInt) (fun _ => m_X4_free_L2 rfl rfl) l32_0) (fun x2 => sim_kif Iff.rfl (sim_some rfl) (sim_kg Iff.rfl (sim_some l32_m1)))

def q_X4_place (zT : tZ4) (v1 : Int) (v2 : Int) (v3 : Int) (v4 : Int) : Option tZ4 :=
  kg (k32 v1) (kif (v1 < (0 : Int)) (some zT) (kif ((40 : Int) ≤ v1) (some zT) (kb (q_X11_isHeap v4) (fun x1 : Bool => kif (kz x1 = 0) (some zT) (kg (0 ≤ ((0 : Int) + v1) ∧ ((0 : Int) + v1) < 129) (kl ((va_up zT.1 (((0 : Int) + v1).toNat) v2), zT.2) (fun z2 : ((Nat → Int) × ((Nat → Int) × (Nat → Nat → Int) × Int × Int)) => kg (0 ≤ ((40 : Int) + v1) ∧ ((40 : Int) + v1) < 129) (kl ((va_up z2.1 (((40 : Int) + v1).toNat) v3), z2.2) (fun z3 : ((Nat → Int) × ((Nat → Int) × (Nat → Nat → Int) × Int × Int)) => kg (0 ≤ ((80 : Int) + v1) ∧ ((80 : Int) + v1) < 129) (kl ((va_up z3.1 (((80 : Int) + v1).toNat) v4), z3.2) (fun z4 : ((Nat → Int) × ((Nat → Int) × (Nat → Nat → Int) × Int × Int)) => some z4)))))))))))
theorem m_X4_place {zT : tZ4} {u0 : tX4} {v1 : Int} {u1 : Int32} {v2 : Int} {u2 : Int32} {v3 : Int} {u3 : Int32} {v4 : Int} {u4 : Int32} (e0 : u0 = (cX4 zT)) (e1 : u1 = (Int32.ofInt v1)) (e2 : u2 = (Int32.ofInt v2)) (e3 : u3 = (Int32.ofInt v3)) (e4 : u4 = (Int32.ofInt v4)) : sim cX4 (q_X4_place zT v1 v2 v3 v4) (p_X4_place u0 u1 u2 u3 u4) := by
  subst e0 e1 e2 e3 e4
  unfold q_X4_place p_X4_place
  exact sim_g (fun g1 => sim_kif (i_lt rfl l32_0 g1 (by decide)) (sim_some rfl) (sim_kif (i_le l32_40 rfl (by decide) g1) (sim_some rfl) (sim_kb (c1 := (fun r : Bool => r)) (m_X11_isHeap rfl) (fun x1 => sim_kif Iff.rfl (sim_some rfl) (sim_kii (c_add l32_0 rfl) (by decide) (fun g2 => sim_kl (c := (fun r : ((Nat → Int) × ((Nat → Int) × (Nat → Nat → Int) × Int × Int)) => ((cF r.1), ((cF r.2.1), (cFF r.2.2.1), (Int32.ofInt r.2.2.2.1), (Int32.ofInt r.2.2.2.2))))) (c_pr (c_upd rfl (c_idx (c_add l32_0 rfl) g2 (by decide)) rfl) rfl) (fun z2 => sim_kii (c_add l32_40 rfl) (by decide) (fun g3 => sim_kl (c := (fun r : ((Nat → Int) × ((Nat → Int) × (Nat → Nat → Int) × Int × Int)) => ((cF r.1), ((cF r.2.1), (cFF r.2.2.1), (Int32.ofInt r.2.2.2.1), (Int32.ofInt r.2.2.2.2))))) (c_pr (c_upd rfl (c_idx (c_add l32_40 rfl) g3 (by decide)) rfl) rfl) (fun z3 => sim_kii (c_add l32_80 rfl) (by decide) (fun g4 => sim_kl (c := (fun r : ((Nat → Int) × ((Nat → Int) × (Nat → Nat → Int) × Int × Int)) => ((cF r.1), ((cF r.2.1), (cFF r.2.2.1), (Int32.ofInt r.2.2.2.1), (Int32.ofInt r.2.2.2.2))))) (c_pr (c_upd rfl (c_idx (c_add l32_80 rfl) g4 (by decide)) rfl) rfl) (fun z4 => sim_some rfl)))))))))))

def q_X4_remove (zT : tZ4) (v1 : Int) : Option tZ4 :=
  kb (q_X4_has zT v1) (fun x1 : Bool => kif (kz x1 = 0) (some zT) (kg (0 ≤ ((80 : Int) + v1) ∧ ((80 : Int) + v1) < 129) (kl ((va_up zT.1 (((80 : Int) + v1).toNat) (-1 : Int)), zT.2) (fun z2 : ((Nat → Int) × ((Nat → Int) × (Nat → Nat → Int) × Int × Int)) => some z2))))
theorem m_X4_remove {zT : tZ4} {u0 : tX4} {v1 : Int} {u1 : Int32} (e0 : u0 = (cX4 zT)) (e1 : u1 = (Int32.ofInt v1)) : sim cX4 (q_X4_remove zT v1) (p_X4_remove u0 u1) := by
  subst e0 e1
  unfold q_X4_remove p_X4_remove
  exact sim_kb (c1 := (fun r : Bool => r)) (m_X4_has rfl rfl) (fun x1 => sim_kif Iff.rfl (sim_some rfl) (sim_kii (c_add l32_80 rfl) (by decide) (fun g1 => sim_kl (c := (fun r : ((Nat → Int) × ((Nat → Int) × (Nat → Nat → Int) × Int × Int)) => ((cF r.1), ((cF r.2.1), (cFF r.2.2.1), (Int32.ofInt r.2.2.2.1), (Int32.ofInt r.2.2.2.2))))) (c_pr (c_upd rfl (c_idx (c_add l32_80 rfl) g1 (by decide)) l32_m1) rfl) (fun z2 => sim_some rfl))))

def q_X4_setPace (zT : tZ4) (v1 : Int) (v2 : Int) (v3 : Int) : Option tZ4 :=
  kb (q_X11_isHeap v1) (fun x1 : Bool => kif (kz x1 = 0) (some zT) (kg (0 ≤ ((120 : Int) + v1) ∧ ((120 : Int) + v1) < 129) (kl ((va_up zT.1 (((120 : Int) + v1).toNat) v2), zT.2) (fun z2 : ((Nat → Int) × ((Nat → Int) × (Nat → Nat → Int) × Int × Int)) => kg (0 ≤ ((124 : Int) + v1) ∧ ((124 : Int) + v1) < 129) (kl ((va_up z2.1 (((124 : Int) + v1).toNat) v3), z2.2) (fun z3 : ((Nat → Int) × ((Nat → Int) × (Nat → Nat → Int) × Int × Int)) => some z3))))))
theorem m_X4_setPace {zT : tZ4} {u0 : tX4} {v1 : Int} {u1 : Int32} {v2 : Int} {u2 : Int32} {v3 : Int} {u3 : Int32} (e0 : u0 = (cX4 zT)) (e1 : u1 = (Int32.ofInt v1)) (e2 : u2 = (Int32.ofInt v2)) (e3 : u3 = (Int32.ofInt v3)) : sim cX4 (q_X4_setPace zT v1 v2 v3) (p_X4_setPace u0 u1 u2 u3) := by
  subst e0 e1 e2 e3
  unfold q_X4_setPace p_X4_setPace
  exact sim_kb (c1 := (fun r : Bool => r)) (m_X11_isHeap rfl) (fun x1 => sim_kif Iff.rfl (sim_some rfl) (sim_kii (c_add l32_120 rfl) (by decide) (fun g1 => sim_kl (c := (fun r : ((Nat → Int) × ((Nat → Int) × (Nat → Nat → Int) × Int × Int)) => ((cF r.1), ((cF r.2.1), (cFF r.2.2.1), (Int32.ofInt r.2.2.2.1), (Int32.ofInt r.2.2.2.2))))) (c_pr (c_upd rfl (c_idx (c_add l32_120 rfl) g1 (by decide)) rfl) rfl) (fun z2 => sim_kii (c_add l32_124 rfl) (by decide) (fun g2 => sim_kl (c := (fun r : ((Nat → Int) × ((Nat → Int) × (Nat → Nat → Int) × Int × Int)) => ((cF r.1), ((cF r.2.1), (cFF r.2.2.1), (Int32.ofInt r.2.2.2.1), (Int32.ofInt r.2.2.2.2))))) (c_pr (c_upd rfl (c_idx (c_add l32_124 rfl) g2 (by decide)) rfl) rfl) (fun z3 => sim_some rfl))))))

def q_X4_now (zT : tZ4) : Option Int :=
  kg (0 ≤ (128 : Int) ∧ (128 : Int) < 129) (some (zT.1 ((128 : Int).toNat)))
theorem m_X4_now {zT : tZ4} {u0 : tX4} (e0 : u0 = (cX4 zT)) : sim Int32.ofInt (q_X4_now zT) (p_X4_now u0) := by
  subst e0
  unfold q_X4_now p_X4_now
  exact sim_kii l32_128 (by decide) (fun g1 => sim_some (c_ap zT.1 (c_idx l32_128 g1 (by decide))))

def q_X4_setNow (zT : tZ4) (v1 : Int) : Option tZ4 :=
  kg (0 ≤ (128 : Int) ∧ (128 : Int) < 129) (kl ((va_up zT.1 ((128 : Int).toNat) v1), zT.2) (fun z1 : ((Nat → Int) × ((Nat → Int) × (Nat → Nat → Int) × Int × Int)) => some z1))
theorem m_X4_setNow {zT : tZ4} {u0 : tX4} {v1 : Int} {u1 : Int32} (e0 : u0 = (cX4 zT)) (e1 : u1 = (Int32.ofInt v1)) : sim cX4 (q_X4_setNow zT v1) (p_X4_setNow u0 u1) := by
  subst e0 e1
  unfold q_X4_setNow p_X4_setNow
  exact sim_kii l32_128 (by decide) (fun g1 => sim_kl (c := (fun r : ((Nat → Int) × ((Nat → Int) × (Nat → Nat → Int) × Int × Int)) => ((cF r.1), ((cF r.2.1), (cFF r.2.2.1), (Int32.ofInt r.2.2.2.1), (Int32.ofInt r.2.2.2.2))))) (c_pr (c_upd rfl (c_idx l32_128 g1 (by decide)) rfl) rfl) (fun z1 => sim_some rfl))

def q_X4_x (zT : tZ4) (v1 : Int) : Option Int :=
  kb (q_X4_has zT v1) (fun x1 : Bool => kif (kz x1 = 0) (some (0 : Int)) (kg (0 ≤ ((0 : Int) + v1) ∧ ((0 : Int) + v1) < 129) (some (zT.1 (((0 : Int) + v1).toNat)))))
theorem m_X4_x {zT : tZ4} {u0 : tX4} {v1 : Int} {u1 : Int32} (e0 : u0 = (cX4 zT)) (e1 : u1 = (Int32.ofInt v1)) : sim Int32.ofInt (q_X4_x zT v1) (p_X4_x u0 u1) := by
  subst e0 e1
  unfold q_X4_x p_X4_x
  exact sim_kb (c1 := (fun r : Bool => r)) (m_X4_has rfl rfl) (fun x1 => sim_kif Iff.rfl (sim_some l32_0) (sim_kii (c_add l32_0 rfl) (by decide) (fun g1 => sim_some (c_ap zT.1 (c_idx (c_add l32_0 rfl) g1 (by decide))))))

def q_X4_y (zT : tZ4) (v1 : Int) : Option Int :=
  kb (q_X4_has zT v1) (fun x1 : Bool => kif (kz x1 = 0) (some (0 : Int)) (kg (0 ≤ ((40 : Int) + v1) ∧ ((40 : Int) + v1) < 129) (some (zT.1 (((40 : Int) + v1).toNat)))))
theorem m_X4_y {zT : tZ4} {u0 : tX4} {v1 : Int} {u1 : Int32} (e0 : u0 = (cX4 zT)) (e1 : u1 = (Int32.ofInt v1)) : sim Int32.ofInt (q_X4_y zT v1) (p_X4_y u0 u1) := by
  subst e0 e1
  unfold q_X4_y p_X4_y
  exact sim_kb (c1 := (fun r : Bool => r)) (m_X4_has rfl rfl) (fun x1 => sim_kif Iff.rfl (sim_some l32_0) (sim_kii (c_add l32_40 rfl) (by decide) (fun g1 => sim_some (c_ap zT.1 (c_idx (c_add l32_40 rfl) g1 (by decide))))))

def q_X4_heapOf (zT : tZ4) (v1 : Int) : Option Int :=
  kb (q_X4_has zT v1) (fun x1 : Bool => kif (kz x1 = 0) (some (-1 : Int)) (kg (0 ≤ ((80 : Int) + v1) ∧ ((80 : Int) + v1) < 129) (some (zT.1 (((80 : Int) + v1).toNat)))))
theorem m_X4_heapOf {zT : tZ4} {u0 : tX4} {v1 : Int} {u1 : Int32} (e0 : u0 = (cX4 zT)) (e1 : u1 = (Int32.ofInt v1)) : sim Int32.ofInt (q_X4_heapOf zT v1) (p_X4_heapOf u0 u1) := by
  subst e0 e1
  unfold q_X4_heapOf p_X4_heapOf
  exact sim_kb (c1 := (fun r : Bool => r)) (m_X4_has rfl rfl) (fun x1 => sim_kif Iff.rfl (sim_some l32_m1) (sim_kii (c_add l32_80 rfl) (by decide) (fun g1 => sim_some (c_ap zT.1 (c_idx (c_add l32_80 rfl) g1 (by decide))))))

def q_X4_standX (zT : tZ4) (v1 : Int) (v2 : Int) : Option Int :=
  kb (q_X4_has zT v1) (fun x1 : Bool => kif (kz x1 = 0) (some (0 : Int)) (kg (0 ≤ ((0 : Int) + v1) ∧ ((0 : Int) + v1) < 129) (kg (0 ≤ ((80 : Int) + v1) ∧ ((80 : Int) + v1) < 129) (kg (0 ≤ ((120 : Int) + (zT.1 (((80 : Int) + v1).toNat))) ∧ ((120 : Int) + (zT.1 (((80 : Int) + v1).toNat))) < 129) (some ((zT.1 (((0 : Int) + v1).toNat)) + ((zT.1 (((120 : Int) + (zT.1 (((80 : Int) + v1).toNat))).toNat)) * v2)))))))
theorem m_X4_standX {zT : tZ4} {u0 : tX4} {v1 : Int} {u1 : Int32} {v2 : Int} {u2 : Int32} (e0 : u0 = (cX4 zT)) (e1 : u1 = (Int32.ofInt v1)) (e2 : u2 = (Int32.ofInt v2)) : sim Int32.ofInt (q_X4_standX zT v1 v2) (p_X4_standX u0 u1 u2) := by
  subst e0 e1 e2
  unfold q_X4_standX p_X4_standX
  exact sim_kb (c1 := (fun r : Bool => r)) (m_X4_has rfl rfl) (fun x1 => sim_kif Iff.rfl (sim_some l32_0) (sim_kii (c_add l32_0 rfl) (by decide) (fun g1 => sim_kii (c_add l32_80 rfl) (by decide) (fun g2 => sim_kii (c_add l32_120 (c_ap zT.1 (c_idx (c_add l32_80 rfl) g2 (by decide)))) (by decide) (fun g3 => sim_some (c_add (c_ap zT.1 (c_idx (c_add l32_0 rfl) g1 (by decide))) (c_mul (c_ap zT.1 (c_idx (c_add l32_120 (c_ap zT.1 (c_idx (c_add l32_80 rfl) g2 (by decide)))) g3 (by decide))) rfl)))))))

def q_X4_standY (zT : tZ4) (v1 : Int) (v2 : Int) : Option Int :=
  kb (q_X4_has zT v1) (fun x1 : Bool => kif (kz x1 = 0) (some (0 : Int)) (kg (0 ≤ ((40 : Int) + v1) ∧ ((40 : Int) + v1) < 129) (kg (0 ≤ ((80 : Int) + v1) ∧ ((80 : Int) + v1) < 129) (kg (0 ≤ ((124 : Int) + (zT.1 (((80 : Int) + v1).toNat))) ∧ ((124 : Int) + (zT.1 (((80 : Int) + v1).toNat))) < 129) (some ((zT.1 (((40 : Int) + v1).toNat)) + ((zT.1 (((124 : Int) + (zT.1 (((80 : Int) + v1).toNat))).toNat)) * v2)))))))
theorem m_X4_standY {zT : tZ4} {u0 : tX4} {v1 : Int} {u1 : Int32} {v2 : Int} {u2 : Int32} (e0 : u0 = (cX4 zT)) (e1 : u1 = (Int32.ofInt v1)) (e2 : u2 = (Int32.ofInt v2)) : sim Int32.ofInt (q_X4_standY zT v1 v2) (p_X4_standY u0 u1 u2) := by
  subst e0 e1 e2
  unfold q_X4_standY p_X4_standY
  exact sim_kb (c1 := (fun r : Bool => r)) (m_X4_has rfl rfl) (fun x1 => sim_kif Iff.rfl (sim_some l32_0) (sim_kii (c_add l32_40 rfl) (by decide) (fun g1 => sim_kii (c_add l32_80 rfl) (by decide) (fun g2 => sim_kii (c_add l32_124 (c_ap zT.1 (c_idx (c_add l32_80 rfl) g2 (by decide)))) (by decide) (fun g3 => sim_some (c_add (c_ap zT.1 (c_idx (c_add l32_40 rfl) g1 (by decide))) (c_mul (c_ap zT.1 (c_idx (c_add l32_124 (c_ap zT.1 (c_idx (c_add l32_80 rfl) g2 (by decide)))) g3 (by decide))) rfl)))))))

def q_X4_bits_L5 (zT : tZ4) (v1 : Int) (s : (Int × Int)) : Option (Nat × (Int × Int)) :=
  kg (k32 s.2) (kif ((40 : Int) ≤ s.2) (some (54, (s.1, s.2))) (kg (0 ≤ ((80 : Int) + s.2) ∧ ((80 : Int) + s.2) < 129) (kl (zT.1 (((80 : Int) + s.2).toNat)) (fun y1 : Int => kb (q_X11_isHeap y1) (fun x2 : Bool => kif (kz x2 = 0) (kl (s.2 + (1 : Int)) (fun y3 : Int => some (5, (s.1, y3)))) (kif ((zand32 (zshr32 v1 (zand32 y1 (31 : Int))) (1 : Int)) = (0 : Int)) (kl (s.2 + (1 : Int)) (fun y4 : Int => some (5, (s.1, y4)))) (kl (zor64 s.1 (zshl64 (1 : Int) (zand64 s.2 (63 : Int)))) (fun y5 : Int => kl (s.2 + (1 : Int)) (fun y6 : Int => some (5, (y5, y6)))))))))))
theorem m_X4_bits_L5 {zT : tZ4} {u0 : tX4} {v1 : Int} {u1 : Int32} {s : (Int × Int)} {u2 : (Int64 × Int32)} (e0 : u0 = (cX4 zT)) (e1 : u1 = (Int32.ofInt v1)) (e2 : u2 = ((Int64.ofInt s.1), (Int32.ofInt s.2))) : sim (fun r : (Nat × (Int × Int)) => (r.1, ((Int64.ofInt r.2.1), (Int32.ofInt r.2.2)))) (q_X4_bits_L5 zT v1 s) (p_X4_bits_L5 u0 u1 u2) := by
  subst e0 e1 e2
  unfold q_X4_bits_L5 p_X4_bits_L5
  exact sim_g (fun g1 => sim_kif (i_le l32_40 rfl (by decide) g1) (sim_some rfl) (sim_kii (c_add l32_80 rfl) (by decide) (fun g2 => sim_kl (c := Int32.ofInt) (c_ap zT.1 (c_idx (c_add l32_80 rfl) g2 (by decide))) (fun y1 => sim_kb (c1 := (fun r : Bool => r)) (m_X11_isHeap rfl) (fun x2 => sim_kif Iff.rfl (sim_kl (c := Int32.ofInt) (c_add rfl l32_1) (fun y3 => sim_some rfl)) (sim_kif (i_eq (c_and (c_shr rfl (c_and rfl l32_31)) l32_1) l32_0 (k32_to _) (by decide)) (sim_kl (c := Int32.ofInt) (c_add rfl l32_1) (fun y4 => sim_some rfl)) (sim_kl (c := Int64.ofInt) (d_or rfl (d_shl l64_1 (d_and (c_toJ rfl g1) l64_63))) (fun y5 => sim_kl (c := Int32.ofInt) (c_add rfl l32_1) (fun y6 => sim_some rfl)))))))))

def q_X4_bits (zT : tZ4) (v1 : Int) : Option Int :=
  kb (kitr 5 (fun q => q_X4_bits_L5 zT v1 q) kF ((0 : Int), (0 : Int))) (fun x7 : (Nat × Int × Int) => kg ((x7.1 = 54)) (some x7.2.1))
theorem m_X4_bits {zT : tZ4} {u0 : tX4} {v1 : Int} {u1 : Int32} (e0 : u0 = (cX4 zT)) (e1 : u1 = (Int32.ofInt v1)) : sim Int64.ofInt (q_X4_bits zT v1) (p_X4_bits u0 u1) := by
  subst e0 e1
  unfold q_X4_bits p_X4_bits
  exact sim_kb (c1 := (fun r : (Nat × Int × Int) => (r.1, (Int64.ofInt r.2.1), (Int32.ofInt r.2.2)))) (sim_kitr (c := (fun r : (Int × Int) => ((Int64.ofInt r.1), (Int32.ofInt r.2)))) (fun _ => m_X4_bits_L5 rfl rfl rfl) (c_pr l64_0 l32_0)) (fun x7 => sim_kg Iff.rfl (sim_some rfl))

def q_X4_mark (zT : tZ4) : Option tZ4 :=
  kl (zT.1, (va_cpy zT.1 zT.2.1 0 0 129), zT.2.2) (fun z1 : ((Nat → Int) × (Nat → Int) × ((Nat → Nat → Int) × Int × Int)) => some z1)
theorem m_X4_mark {zT : tZ4} {u0 : tX4} (e0 : u0 = (cX4 zT)) : sim cX4 (q_X4_mark zT) (p_X4_mark u0) := by
  subst e0
  unfold q_X4_mark p_X4_mark
  exact sim_kl (c := (fun r : ((Nat → Int) × (Nat → Int) × ((Nat → Nat → Int) × Int × Int)) => ((cF r.1), (cF r.2.1), ((cFF r.2.2.1), (Int32.ofInt r.2.2.2.1), (Int32.ofInt r.2.2.2.2))))) (c_pr rfl (c_pr (c_cpy rfl rfl) rfl)) (fun z1 => sim_some rfl)

def q_X4_returnToMark (zT : tZ4) : Option tZ4 :=
  kl ((va_cpy zT.2.1 zT.1 0 0 129), zT.2) (fun z1 : ((Nat → Int) × ((Nat → Int) × (Nat → Nat → Int) × Int × Int)) => some z1)
theorem m_X4_returnToMark {zT : tZ4} {u0 : tX4} (e0 : u0 = (cX4 zT)) : sim cX4 (q_X4_returnToMark zT) (p_X4_returnToMark u0) := by
  subst e0
  unfold q_X4_returnToMark p_X4_returnToMark
  exact sim_kl (c := (fun r : ((Nat → Int) × ((Nat → Int) × (Nat → Nat → Int) × Int × Int)) => ((cF r.1), ((cF r.2.1), (cFF r.2.2.1), (Int32.ofInt r.2.2.2.1), (Int32.ofInt r.2.2.2.2))))) (c_pr (c_cpy rfl rfl) rfl) (fun z1 => sim_some rfl)

def q_X4_keep (zT : tZ4) : Option tZ4 :=
  kg (k32 (zT.2.2.2.1 + (1 : Int))) (kl (zT.1, zT.2.1, zT.2.2.1, ((zT.2.2.2.1 + (1 : Int)) - (((zT.2.2.2.1 + (1 : Int)).tdiv (20 : Int)) * (20 : Int))), zT.2.2.2.2) (fun z1 : ((Nat → Int) × (Nat → Int) × (Nat → Nat → Int) × Int × Int) => kg (k32 z1.2.2.2.1) (kif (z1.2.2.2.1 < (0 : Int)) (some z1) (kif (z1.2.2.2.1 < (20 : Int)) (kg (0 ≤ z1.2.2.2.1 ∧ z1.2.2.2.1 < 20) (kl (z1.1, z1.2.1, (va_up z1.2.2.1 (z1.2.2.2.1.toNat) (va_cpy z1.2.1 (z1.2.2.1 (z1.2.2.2.1.toNat)) 0 0 129)), z1.2.2.2) (fun z2 : ((Nat → Int) × (Nat → Int) × (Nat → Nat → Int) × (Int × Int)) => kb (q_J9_min_7cf53 (z2.2.2.2.2 + (1 : Int)) (20 : Int)) (fun x3 : Int => kl (z2.1, z2.2.1, z2.2.2.1, z2.2.2.2.1, x3) (fun z4 : ((Nat → Int) × (Nat → Int) × (Nat → Nat → Int) × Int × Int) => some z4))))) (some z1)))))
theorem m_X4_keep {zT : tZ4} {u0 : tX4} (e0 : u0 = (cX4 zT)) : sim cX4 (q_X4_keep zT) (p_X4_keep u0) := by
  subst e0
  unfold q_X4_keep p_X4_keep
  exact sim_g (fun g1 => sim_kl (c := (fun r : ((Nat → Int) × (Nat → Int) × (Nat → Nat → Int) × Int × Int) => ((cF r.1), (cF r.2.1), (cFF r.2.2.1), (Int32.ofInt r.2.2.2.1), (Int32.ofInt r.2.2.2.2)))) (c_pr rfl (c_pr rfl (c_pr rfl (c_pr (c_sub (c_add rfl l32_1) (c_mul (c_div (c_add rfl l32_1) l32_20 g1 (by decide)) l32_20)) rfl)))) (fun z1 => sim_g (fun g2 => sim_kif (i_lt rfl l32_0 g2 (by decide)) (sim_some rfl) (sim_kif (i_lt rfl l32_20 g2 (by decide)) (sim_kii rfl (by decide) (fun g3 => sim_kl (c := (fun r : ((Nat → Int) × (Nat → Int) × (Nat → Nat → Int) × (Int × Int)) => ((cF r.1), (cF r.2.1), (cFF r.2.2.1), ((Int32.ofInt r.2.2.2.1), (Int32.ofInt r.2.2.2.2))))) (c_pr rfl (c_pr rfl (c_pr (c_vupp rfl (c_idx rfl g3 (by decide)) (c_cpy rfl (c_app z1.2.2.1 (c_idx rfl g3 (by decide))))) rfl))) (fun z2 => sim_kb (c1 := Int32.ofInt) (m_J9_min_7cf53 (c_add rfl l32_1) l32_20) (fun x3 => sim_kl (c := (fun r : ((Nat → Int) × (Nat → Int) × (Nat → Nat → Int) × Int × Int) => ((cF r.1), (cF r.2.1), (cFF r.2.2.1), (Int32.ofInt r.2.2.2.1), (Int32.ofInt r.2.2.2.2)))) rfl (fun z4 => sim_some rfl))))) (sim_some rfl)))))

def q_X4_takeBack (zT : tZ4) : Option (Int × tZ4) :=
  kg (k32 zT.2.2.2.2) (kif (zT.2.2.2.2 ≤ (0 : Int)) (some ((-1 : Int), zT)) (kg (k32 zT.2.2.2.1) (kif (zT.2.2.2.1 < (0 : Int)) (some ((-1 : Int), zT)) (kif (zT.2.2.2.1 < (20 : Int)) (kg (0 ≤ zT.2.2.2.1 ∧ zT.2.2.2.1 < 20) (kl ((va_cpy (zT.2.2.1 (zT.2.2.2.1.toNat)) zT.1 0 0 129), zT.2) (fun z1 : ((Nat → Int) × ((Nat → Int) × (Nat → Nat → Int) × Int × Int)) => kg (k32 ((z1.2.2.2.1 + (20 : Int)) - (1 : Int))) (kl (z1.1, z1.2.1, z1.2.2.1, (((z1.2.2.2.1 + (20 : Int)) - (1 : Int)) - ((((z1.2.2.2.1 + (20 : Int)) - (1 : Int)).tdiv (20 : Int)) * (20 : Int))), z1.2.2.2.2) (fun z2 : ((Nat → Int) × (Nat → Int) × (Nat → Nat → Int) × Int × Int) => kl (z2.1, z2.2.1, z2.2.2.1, z2.2.2.2.1, (z2.2.2.2.2 - (1 : Int))) (fun z3 : ((Nat → Int) × (Nat → Int) × (Nat → Nat → Int) × Int × Int) => some (z3.2.2.2.2, z3))))))) (some ((-1 : Int), zT))))))
theorem m_X4_takeBack {zT : tZ4} {u0 : tX4} (e0 : u0 = (cX4 zT)) : sim (fun r : (Int × tZ4) => ((Int32.ofInt r.1), (cX4 r.2))) (q_X4_takeBack zT) (p_X4_takeBack u0) := by
  subst e0
  unfold q_X4_takeBack p_X4_takeBack
  exact sim_g (fun g1 => sim_kif (i_le rfl l32_0 g1 (by decide)) (sim_some (c_pr l32_m1 rfl)) (sim_g (fun g2 => sim_kif (i_lt rfl l32_0 g2 (by decide)) (sim_some (c_pr l32_m1 rfl)) (sim_kif (i_lt rfl l32_20 g2 (by decide)) (sim_kii rfl (by decide) (fun g3 => sim_kl (c := (fun r : ((Nat → Int) × ((Nat → Int) × (Nat → Nat → Int) × Int × Int)) => ((cF r.1), ((cF r.2.1), (cFF r.2.2.1), (Int32.ofInt r.2.2.2.1), (Int32.ofInt r.2.2.2.2))))) (c_pr (c_cpy (c_app zT.2.2.1 (c_idx rfl g3 (by decide))) rfl) rfl) (fun z1 => sim_g (fun g4 => sim_kl (c := (fun r : ((Nat → Int) × (Nat → Int) × (Nat → Nat → Int) × Int × Int) => ((cF r.1), (cF r.2.1), (cFF r.2.2.1), (Int32.ofInt r.2.2.2.1), (Int32.ofInt r.2.2.2.2)))) (c_pr rfl (c_pr rfl (c_pr rfl (c_pr (c_sub (c_sub (c_add rfl l32_20) l32_1) (c_mul (c_div (c_sub (c_add rfl l32_20) l32_1) l32_20 g4 (by decide)) l32_20)) rfl)))) (fun z2 => sim_kl (c := (fun r : ((Nat → Int) × (Nat → Int) × (Nat → Nat → Int) × Int × Int) => ((cF r.1), (cF r.2.1), (cFF r.2.2.1), (Int32.ofInt r.2.2.2.1), (Int32.ofInt r.2.2.2.2)))) (c_pr rfl (c_pr rfl (c_pr rfl (c_pr rfl (c_sub rfl l32_1))))) (fun z3 => sim_some rfl)))))) (sim_some (c_pr l32_m1 rfl))))))

def q_X4_deeds (zT : tZ4) : Option Int :=
  some zT.2.2.2.2
theorem m_X4_deeds {zT : tZ4} {u0 : tX4} (e0 : u0 = (cX4 zT)) : sim Int32.ofInt (q_X4_deeds zT) (p_X4_deeds u0) := by
  subst e0
  unfold q_X4_deeds p_X4_deeds
  exact sim_some rfl
