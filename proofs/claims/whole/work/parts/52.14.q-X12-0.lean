def q_X12_isIn (v0 : Int) (v1 : Int) (v2 : Int) : Option Bool :=
  kg (k32 v0 ∧ k32 v1) (kif (v0 < v1) (some false) (kg (k32 v2) (kif (v2 < v0) (some false) (some true))))
theorem m_X12_isIn {v0 : Int} {u0 : Int32} {v1 : Int} {u1 : Int32} {v2 : Int} {u2 : Int32} (e0 : u0 = (Int32.ofInt v0)) (e1 : u1 = (Int32.ofInt v1)) (e2 : u2 = (Int32.ofInt v2)) : sim (fun r : Bool => r) (q_X12_isIn v0 v1 v2) (p_X12_isIn u0 u1 u2) := by
  subst e0 e1 e2
  unfold q_X12_isIn p_X12_isIn
  exact sim_g (fun g1 => sim_kif (i_lt rfl rfl g1.1 g1.2) (sim_some rfl) (sim_g (fun g2 => sim_kif (i_lt rfl rfl g2 g1.1) (sim_some rfl) (sim_some rfl))))

def q_X12_keep_L11 (s : (Int × tZ12)) : Option (Nat × (Int × tZ12)) :=
  kg (k32 s.1) (kif ((3230 : Int) ≤ s.1) (some (40, (s.1, s.2))) (kg (0 ≤ (s.1 + (170 : Int)) ∧ (s.1 + (170 : Int)) < 3400) (kg (0 ≤ s.1 ∧ s.1 < 3400) (kl (s.2.1, s.2.2.1, (va_up s.2.2.2.1 1 (va_up (s.2.2.2.1 1) (s.1.toNat) ((s.2.2.2.1 1) ((s.1 + (170 : Int)).toNat)))), s.2.2.2.2) (fun z1 : ((Nat → Int) × (Nat → Int) × (Nat → Nat → Int) × (Nat → Nat → Int)) => kl (s.1 + (1 : Int)) (fun y2 : Int => some (11, (y2, z1))))))))
theorem m_X12_keep_L11 {s : (Int × tZ12)} {u0 : (Int32 × tX12)} (e0 : u0 = ((Int32.ofInt s.1), (cX12 s.2))) : sim (fun r : (Nat × (Int × tZ12)) => (r.1, ((Int32.ofInt r.2.1), (cX12 r.2.2)))) (q_X12_keep_L11 s) (p_X12_keep_L11 u0) := by
  subst e0
  unfold q_X12_keep_L11 p_X12_keep_L11
  exact sim_g (fun g1 => sim_kif (i_le l32_3230 rfl (by decide) g1) (sim_some rfl) (sim_kii (c_add rfl l32_170) (by decide) (fun g2 => sim_kii rfl (by decide) (fun g3 => sim_kl (c := (fun r : ((Nat → Int) × (Nat → Int) × (Nat → Nat → Int) × (Nat → Nat → Int)) => ((cF r.1), (cG r.2.1), (cFF r.2.2.1), (cGG r.2.2.2)))) (c_pr rfl (c_pr rfl (c_pr (c_vupp rfl rfl (c_upd rfl (c_idx rfl g3 (by decide)) (c_ap (s.2.2.2.1 1) (c_idx (c_add rfl l32_170) g2 (by decide))))) rfl))) (fun z1 => sim_kl (c := Int32.ofInt) (c_add rfl l32_1) (fun y2 => sim_some rfl))))))

def q_X12_keep_L52 (s : (Int × tZ12)) : Option (Nat × (Int × tZ12)) :=
  kg (k32 s.1) (kif ((170 : Int) ≤ s.1) (some (86, (s.1, s.2))) (kg (0 ≤ s.1 ∧ s.1 < 170) (kg (0 ≤ (((170 : Int) * (s.2.1 2)) + s.1) ∧ (((170 : Int) * (s.2.1 2)) + s.1) < 3400) (kl (s.2.1, s.2.2.1, (va_up s.2.2.2.1 1 (va_up (s.2.2.2.1 1) ((((170 : Int) * (s.2.1 2)) + s.1).toNat) ((s.2.2.2.1 0) (s.1.toNat)))), s.2.2.2.2) (fun z5 : ((Nat → Int) × (Nat → Int) × (Nat → Nat → Int) × (Nat → Nat → Int)) => kl (s.1 + (1 : Int)) (fun y6 : Int => some (52, (y6, z5))))))))
theorem m_X12_keep_L52 {s : (Int × tZ12)} {u0 : (Int32 × tX12)} (e0 : u0 = ((Int32.ofInt s.1), (cX12 s.2))) : sim (fun r : (Nat × (Int × tZ12)) => (r.1, ((Int32.ofInt r.2.1), (cX12 r.2.2)))) (q_X12_keep_L52 s) (p_X12_keep_L52 u0) := by
  subst e0
  unfold q_X12_keep_L52 p_X12_keep_L52
  exact sim_g (fun g1 => sim_kif (i_le l32_170 rfl (by decide) g1) (sim_some rfl) (sim_kii rfl (by decide) (fun g2 => sim_kii (c_add (c_mul l32_170 rfl) rfl) (by decide) (fun g3 => sim_kl (c := (fun r : ((Nat → Int) × (Nat → Int) × (Nat → Nat → Int) × (Nat → Nat → Int)) => ((cF r.1), (cG r.2.1), (cFF r.2.2.1), (cGG r.2.2.2)))) (c_pr rfl (c_pr rfl (c_pr (c_vupp rfl rfl (c_upd rfl (c_idx (c_add (c_mul l32_170 rfl) rfl) g3 (by decide)) (c_ap (s.2.2.2.1 0) (c_idx rfl g2 (by decide))))) rfl))) (fun z5 => sim_kl (c := Int32.ofInt) (c_add rfl l32_1) (fun y6 => sim_some rfl))))))

def q_X12_keep_J50 (zT : tZ12) : Option tZ12 :=
  kb (kitr 52 (fun q => q_X12_keep_L52  q) kF ((0 : Int), zT)) (fun x7 : (Nat × Int × tZ12) => kg ((x7.1 = 86)) (kl ((va_up x7.2.2.1 2 ((x7.2.2.1 2) + (1 : Int))), x7.2.2.2) (fun z8 : ((Nat → Int) × ((Nat → Int) × (Nat → Nat → Int) × (Nat → Nat → Int))) => some z8)))
theorem m_X12_keep_J50 {zT : tZ12} {u0 : tX12} (e0 : u0 = (cX12 zT)) : sim cX12 (q_X12_keep_J50 zT) (p_X12_keep_J50 u0) := by
  subst e0
  unfold q_X12_keep_J50 p_X12_keep_J50
  exact sim_kb (c1 := (fun r : (Nat × Int × tZ12) => (r.1, (Int32.ofInt r.2.1), (cX12 r.2.2)))) (sim_kitr (c := (fun r : (Int × tZ12) => ((Int32.ofInt r.1), (cX12 r.2)))) (fun _ => m_X12_keep_L52  rfl) (c_pr l32_0 rfl)) (fun x7 => sim_kg Iff.rfl (sim_kl (c := (fun r : ((Nat → Int) × ((Nat → Int) × (Nat → Nat → Int) × (Nat → Nat → Int))) => ((cF r.1), ((cG r.2.1), (cFF r.2.2.1), (cGG r.2.2.2))))) (c_pr (c_vup rfl rfl (c_add rfl l32_1)) rfl) (fun z8 => sim_some rfl)))

def q_X12_keep (zT : tZ12) : Option tZ12 :=
  kg (k32 (zT.1 2)) (kif ((zT.1 2) = (20 : Int)) (kb (kitr 11 (fun q => q_X12_keep_L11  q) kF ((0 : Int), zT)) (fun x3 : (Nat × Int × tZ12) => kg ((x3.1 = 40)) (kl ((va_up x3.2.2.1 2 ((x3.2.2.1 2) - (1 : Int))), x3.2.2.2) (fun z4 : ((Nat → Int) × ((Nat → Int) × (Nat → Nat → Int) × (Nat → Nat → Int))) => q_X12_keep_J50 z4)))) (q_X12_keep_J50 zT))
theorem m_X12_keep {zT : tZ12} {u0 : tX12} (e0 : u0 = (cX12 zT)) : sim cX12 (q_X12_keep zT) (p_X12_keep u0) := by
  subst e0
  unfold q_X12_keep p_X12_keep
  exact sim_g (fun g1 => sim_kif (i_eq rfl l32_20 g1 (by decide)) (sim_kb (c1 := (fun r : (Nat × Int × tZ12) => (r.1, (Int32.ofInt r.2.1), (cX12 r.2.2)))) (sim_kitr (c := (fun r : (Int × tZ12) => ((Int32.ofInt r.1), (cX12 r.2)))) (fun _ => m_X12_keep_L11  rfl) (c_pr l32_0 rfl)) (fun x3 => sim_kg Iff.rfl (sim_kl (c := (fun r : ((Nat → Int) × ((Nat → Int) × (Nat → Nat → Int) × (Nat → Nat → Int))) => ((cF r.1), ((cG r.2.1), (cFF r.2.2.1), (cGG r.2.2.2))))) (c_pr (c_vup rfl rfl (c_sub rfl l32_1)) rfl) (fun z4 => m_X12_keep_J50 rfl)))) (m_X12_keep_J50 rfl))

def q_X12_back_L21 (s : (Int × tZ12)) : Option (Nat × (Int × tZ12)) :=
  kg (k32 s.1) (kif ((170 : Int) ≤ s.1) (some (55, (s.1, s.2))) (kg (0 ≤ (((170 : Int) * (s.2.1 2)) + s.1) ∧ (((170 : Int) * (s.2.1 2)) + s.1) < 3400) (kg (0 ≤ s.1 ∧ s.1 < 170) (kl (s.2.1, s.2.2.1, (va_up s.2.2.2.1 0 (va_up (s.2.2.2.1 0) (s.1.toNat) ((s.2.2.2.1 1) ((((170 : Int) * (s.2.1 2)) + s.1).toNat)))), s.2.2.2.2) (fun z2 : ((Nat → Int) × (Nat → Int) × (Nat → Nat → Int) × (Nat → Nat → Int)) => kl (s.1 + (1 : Int)) (fun y3 : Int => some (21, (y3, z2))))))))
theorem m_X12_back_L21 {s : (Int × tZ12)} {u0 : (Int32 × tX12)} (e0 : u0 = ((Int32.ofInt s.1), (cX12 s.2))) : sim (fun r : (Nat × (Int × tZ12)) => (r.1, ((Int32.ofInt r.2.1), (cX12 r.2.2)))) (q_X12_back_L21 s) (p_X12_back_L21 u0) := by
  subst e0
  unfold q_X12_back_L21 p_X12_back_L21
  exact sim_g (fun g1 => sim_kif (i_le l32_170 rfl (by decide) g1) (sim_some rfl) (sim_kii (c_add (c_mul l32_170 rfl) rfl) (by decide) (fun g2 => sim_kii rfl (by decide) (fun g3 => sim_kl (c := (fun r : ((Nat → Int) × (Nat → Int) × (Nat → Nat → Int) × (Nat → Nat → Int)) => ((cF r.1), (cG r.2.1), (cFF r.2.2.1), (cGG r.2.2.2)))) (c_pr rfl (c_pr rfl (c_pr (c_vupp rfl rfl (c_upd rfl (c_idx rfl g3 (by decide)) (c_ap (s.2.2.2.1 1) (c_idx (c_add (c_mul l32_170 rfl) rfl) g2 (by decide))))) rfl))) (fun z2 => sim_kl (c := Int32.ofInt) (c_add rfl l32_1) (fun y3 => sim_some rfl))))))

def q_X12_back (zT : tZ12) : Option (Int × tZ12) :=
  kg (k32 (zT.1 2)) (kif ((zT.1 2) = (0 : Int)) (some ((-1 : Int), zT)) (kl ((va_up zT.1 2 ((zT.1 2) - (1 : Int))), zT.2) (fun z1 : ((Nat → Int) × ((Nat → Int) × (Nat → Nat → Int) × (Nat → Nat → Int))) => kb (kitr 21 (fun q => q_X12_back_L21  q) kF ((0 : Int), z1)) (fun x4 : (Nat × Int × tZ12) => kg ((x4.1 = 55)) (some ((x4.2.2.1 2), x4.2.2))))))
theorem m_X12_back {zT : tZ12} {u0 : tX12} (e0 : u0 = (cX12 zT)) : sim (fun r : (Int × tZ12) => ((Int32.ofInt r.1), (cX12 r.2))) (q_X12_back zT) (p_X12_back u0) := by
  subst e0
  unfold q_X12_back p_X12_back
  exact sim_g (fun g1 => sim_kif (i_eq rfl l32_0 g1 (by decide)) (sim_some (c_pr l32_m1 rfl)) (sim_kl (c := (fun r : ((Nat → Int) × ((Nat → Int) × (Nat → Nat → Int) × (Nat → Nat → Int))) => ((cF r.1), ((cG r.2.1), (cFF r.2.2.1), (cGG r.2.2.2))))) (c_pr (c_vup rfl rfl (c_sub rfl l32_1)) rfl) (fun z1 => sim_kb (c1 := (fun r : (Nat × Int × tZ12) => (r.1, (Int32.ofInt r.2.1), (cX12 r.2.2)))) (sim_kitr (c := (fun r : (Int × tZ12) => ((Int32.ofInt r.1), (cX12 r.2)))) (fun _ => m_X12_back_L21  rfl) (c_pr l32_0 rfl)) (fun x4 => sim_kg Iff.rfl (sim_some rfl)))))

def q_X12_isPoint (zT : tZ12) (v1 : Int) : Option Bool :=
  kb (q_X12_isIn v1 (0 : Int) (39 : Int)) (fun x1 : Bool => kif (kz x1 = 0) (some false) (kg (0 ≤ ((0 : Int) + v1) ∧ ((0 : Int) + v1) < 170) (kg (k32 ((zT.2.2.1 0) (((0 : Int) + v1).toNat))) (kif (((zT.2.2.1 0) (((0 : Int) + v1).toNat)) = (1 : Int)) (some true) (some false)))))
theorem m_X12_isPoint {zT : tZ12} {u0 : tX12} {v1 : Int} {u1 : Int32} (e0 : u0 = (cX12 zT)) (e1 : u1 = (Int32.ofInt v1)) : sim (fun r : Bool => r) (q_X12_isPoint zT v1) (p_X12_isPoint u0 u1) := by
  subst e0 e1
  unfold q_X12_isPoint p_X12_isPoint
  exact sim_kb (c1 := (fun r : Bool => r)) (m_X12_isIn rfl l32_0 l32_39) (fun x1 => sim_kif Iff.rfl (sim_some rfl) (sim_kii (c_add l32_0 rfl) (by decide) (fun g1 => sim_g (fun g2 => sim_kif (i_eq (c_ap (zT.2.2.1 0) (c_idx (c_add l32_0 rfl) g1 (by decide))) l32_1 g2 (by decide)) (sim_some rfl) (sim_some rfl)))))

def q_X12_isPlace (v0 : Int) (v1 : Int) : Option Bool :=
  kb (q_X12_isIn v0 (-100 : Int) (100 : Int)) (fun x1 : Bool => kif (kz x1 = 0) (some false) (kb (q_X12_isIn v1 (-100 : Int) (100 : Int)) (fun x2 : Bool => kif (kz x2 = 0) (some false) (some true))))
theorem m_X12_isPlace {v0 : Int} {u0 : Int32} {v1 : Int} {u1 : Int32} (e0 : u0 = (Int32.ofInt v0)) (e1 : u1 = (Int32.ofInt v1)) : sim (fun r : Bool => r) (q_X12_isPlace v0 v1) (p_X12_isPlace u0 u1) := by
  subst e0 e1
  unfold q_X12_isPlace p_X12_isPlace
  exact sim_kb (c1 := (fun r : Bool => r)) (m_X12_isIn rfl l32_m100 l32_100) (fun x1 => sim_kif Iff.rfl (sim_some rfl) (sim_kb (c1 := (fun r : Bool => r)) (m_X12_isIn rfl l32_m100 l32_100) (fun x2 => sim_kif Iff.rfl (sim_some rfl) (sim_some rfl))))

def q_X12_isHeap (v0 : Int) : Option Bool :=
  kb (q_X12_isIn v0 (0 : Int) (3 : Int)) (fun x1 : Bool => some x1)
theorem m_X12_isHeap {v0 : Int} {u0 : Int32} (e0 : u0 = (Int32.ofInt v0)) : sim (fun r : Bool => r) (q_X12_isHeap v0) (p_X12_isHeap u0) := by
  subst e0
  unfold q_X12_isHeap p_X12_isHeap
  exact sim_kb (c1 := (fun r : Bool => r)) (m_X12_isIn rfl l32_0 l32_3) (fun x1 => sim_some rfl)

def q_X12_free_L2 (zT : tZ12) (s : Int) : Option (Nat × Int) :=
  kg (k32 s) (kif ((40 : Int) ≤ s) (some (27, s)) (kg (0 ≤ ((0 : Int) + s) ∧ ((0 : Int) + s) < 170) (kg (k32 ((zT.2.2.1 0) (((0 : Int) + s).toNat))) (kif (((zT.2.2.1 0) (((0 : Int) + s).toNat)) = (0 : Int)) (some (19, s)) (kl (s + (1 : Int)) (fun y1 : Int => some (2, y1)))))))
theorem m_X12_free_L2 {zT : tZ12} {u0 : tX12} {s : Int} {u1 : Int32} (e0 : u0 = (cX12 zT)) (e1 : u1 = (Int32.ofInt s)) : sim (fun r : (Nat × Int) => (r.1, (Int32.ofInt r.2))) (q_X12_free_L2 zT s) (p_X12_free_L2 u0 u1) := by
  subst e0 e1
  unfold q_X12_free_L2 p_X12_free_L2
  exact sim_g (fun g1 => sim_kif (i_le l32_40 rfl (by decide) g1) (sim_some rfl) (sim_kii (c_add l32_0 rfl) (by decide) (fun g2 => sim_g (fun g3 => sim_kif (i_eq (c_ap (zT.2.2.1 0) (c_idx (c_add l32_0 rfl) g2 (by decide))) l32_0 g3 (by decide)) (sim_some rfl) (sim_kl (c := Int32.ofInt) (c_add rfl l32_1) (fun y1 => sim_some rfl))))))

def q_X12_free (zT : tZ12) : Option Int :=
  kb (kitr 2 (fun q => q_X12_free_L2 zT q) kF (0 : Int)) (fun x2 : (Nat × Int) => kif (x2.1 = 19) (some x2.2) (kg ((x2.1 = 27)) (some (-1 : Int))))
theorem m_X12_free {zT : tZ12} {u0 : tX12} (e0 : u0 = (cX12 zT)) : sim Int32.ofInt (q_X12_free zT) (p_X12_free u0) := by
  subst e0
  unfold q_X12_free p_X12_free
  exact sim_kb (c1 := (fun r : (Nat × Int) => (r.1, (Int32.ofInt r.2)))) (sim_kitr (c := Int32.ofInt) (fun _ => m_X12_free_L2 rfl rfl) l32_0) (fun x2 => sim_kif Iff.rfl (sim_some rfl) (sim_kg Iff.rfl (sim_some l32_m1)))

def q_X12_lay (zT : tZ12) (v1 : Int) (v2 : Int) (v3 : Int) (v4 : Int) : Option tZ12 :=
  kg (0 ≤ ((0 : Int) + v1) ∧ ((0 : Int) + v1) < 170) (kl (zT.1, zT.2.1, (va_up zT.2.2.1 0 (va_up (zT.2.2.1 0) (((0 : Int) + v1).toNat) (1 : Int))), zT.2.2.2) (fun z1 : ((Nat → Int) × (Nat → Int) × (Nat → Nat → Int) × (Nat → Nat → Int)) => kg (0 ≤ ((40 : Int) + v1) ∧ ((40 : Int) + v1) < 170) (kl (z1.1, z1.2.1, (va_up z1.2.2.1 0 (va_up (z1.2.2.1 0) (((40 : Int) + v1).toNat) v2)), z1.2.2.2) (fun z2 : ((Nat → Int) × (Nat → Int) × (Nat → Nat → Int) × (Nat → Nat → Int)) => kg (0 ≤ ((80 : Int) + v1) ∧ ((80 : Int) + v1) < 170) (kl (z2.1, z2.2.1, (va_up z2.2.2.1 0 (va_up (z2.2.2.1 0) (((80 : Int) + v1).toNat) v3)), z2.2.2.2) (fun z3 : ((Nat → Int) × (Nat → Int) × (Nat → Nat → Int) × (Nat → Nat → Int)) => kg (0 ≤ ((120 : Int) + v1) ∧ ((120 : Int) + v1) < 170) (kl (z3.1, z3.2.1, (va_up z3.2.2.1 0 (va_up (z3.2.2.1 0) (((120 : Int) + v1).toNat) v4)), z3.2.2.2) (fun z4 : ((Nat → Int) × (Nat → Int) × (Nat → Nat → Int) × (Nat → Nat → Int)) => some z4))))))))
theorem m_X12_lay {zT : tZ12} {u0 : tX12} {v1 : Int} {u1 : Int32} {v2 : Int} {u2 : Int32} {v3 : Int} {u3 : Int32} {v4 : Int} {u4 : Int32} (e0 : u0 = (cX12 zT)) (e1 : u1 = (Int32.ofInt v1)) (e2 : u2 = (Int32.ofInt v2)) (e3 : u3 = (Int32.ofInt v3)) (e4 : u4 = (Int32.ofInt v4)) : sim cX12 (q_X12_lay zT v1 v2 v3 v4) (p_X12_lay u0 u1 u2 u3 u4) := by
  subst e0 e1 e2 e3 e4
  unfold q_X12_lay p_X12_lay
  exact sim_kii (c_add l32_0 rfl) (by decide) (fun g1 => sim_kl (c := (fun r : ((Nat → Int) × (Nat → Int) × (Nat → Nat → Int) × (Nat → Nat → Int)) => ((cF r.1), (cG r.2.1), (cFF r.2.2.1), (cGG r.2.2.2)))) (c_pr rfl (c_pr rfl (c_pr (c_vupp rfl rfl (c_upd rfl (c_idx (c_add l32_0 rfl) g1 (by decide)) l32_1)) rfl))) (fun z1 => sim_kii (c_add l32_40 rfl) (by decide) (fun g2 => sim_kl (c := (fun r : ((Nat → Int) × (Nat → Int) × (Nat → Nat → Int) × (Nat → Nat → Int)) => ((cF r.1), (cG r.2.1), (cFF r.2.2.1), (cGG r.2.2.2)))) (c_pr rfl (c_pr rfl (c_pr (c_vupp rfl rfl (c_upd rfl (c_idx (c_add l32_40 rfl) g2 (by decide)) rfl)) rfl))) (fun z2 => sim_kii (c_add l32_80 rfl) (by decide) (fun g3 => sim_kl (c := (fun r : ((Nat → Int) × (Nat → Int) × (Nat → Nat → Int) × (Nat → Nat → Int)) => ((cF r.1), (cG r.2.1), (cFF r.2.2.1), (cGG r.2.2.2)))) (c_pr rfl (c_pr rfl (c_pr (c_vupp rfl rfl (c_upd rfl (c_idx (c_add l32_80 rfl) g3 (by decide)) rfl)) rfl))) (fun z3 => sim_kii (c_add l32_120 rfl) (by decide) (fun g4 => sim_kl (c := (fun r : ((Nat → Int) × (Nat → Int) × (Nat → Nat → Int) × (Nat → Nat → Int)) => ((cF r.1), (cG r.2.1), (cFF r.2.2.1), (cGG r.2.2.2)))) (c_pr rfl (c_pr rfl (c_pr (c_vupp rfl rfl (c_upd rfl (c_idx (c_add l32_120 rfl) g4 (by decide)) rfl)) rfl))) (fun z4 => sim_some rfl))))))))

def q_X12_put (zT : tZ12) (v1 : Int) (v2 : Int) (v3 : Int) : Option (Int × tZ12) :=
  kb (q_X12_free zT) (fun x1 : Int => kb (q_X12_isPlace v1 v2) (fun x2 : Bool => kif (kz x2 = 0) (some ((-1 : Int), zT)) (kb (q_X12_isHeap v3) (fun x3 : Bool => kif (kz x3 = 0) (some ((-1 : Int), zT)) (kg (k32 x1) (kif (x1 = (-1 : Int)) (some ((-1 : Int), zT)) (kb (q_X12_keep zT) (fun x4 : tZ12 => kb (q_X12_lay x4 x1 v1 v2 v3) (fun x5 : tZ12 => some (x1, x5))))))))))
theorem m_X12_put {zT : tZ12} {u0 : tX12} {v1 : Int} {u1 : Int32} {v2 : Int} {u2 : Int32} {v3 : Int} {u3 : Int32} (e0 : u0 = (cX12 zT)) (e1 : u1 = (Int32.ofInt v1)) (e2 : u2 = (Int32.ofInt v2)) (e3 : u3 = (Int32.ofInt v3)) : sim (fun r : (Int × tZ12) => ((Int32.ofInt r.1), (cX12 r.2))) (q_X12_put zT v1 v2 v3) (p_X12_put u0 u1 u2 u3) := by
  subst e0 e1 e2 e3
  unfold q_X12_put p_X12_put
  exact sim_kb (c1 := Int32.ofInt) (m_X12_free rfl) (fun x1 => sim_kb (c1 := (fun r : Bool => r)) (m_X12_isPlace rfl rfl) (fun x2 => sim_kif Iff.rfl (sim_some (c_pr l32_m1 rfl)) (sim_kb (c1 := (fun r : Bool => r)) (m_X12_isHeap rfl) (fun x3 => sim_kif Iff.rfl (sim_some (c_pr l32_m1 rfl)) (sim_g (fun g1 => sim_kif (i_eq rfl l32_m1 g1 (by decide)) (sim_some (c_pr l32_m1 rfl)) (sim_kb (c1 := cX12) (m_X12_keep rfl) (fun x4 => sim_kb (c1 := cX12) (m_X12_lay rfl rfl rfl rfl rfl) (fun x5 => sim_some rfl)))))))))

def q_X12_gone (zT : tZ12) (v1 : Int) : Option (Bool × tZ12) :=
  kb (q_X12_isPoint zT v1) (fun x1 : Bool => kif (kz x1 = 0) (some (false, zT)) (kb (q_X12_keep zT) (fun x2 : tZ12 => kg (0 ≤ ((0 : Int) + v1) ∧ ((0 : Int) + v1) < 170) (kl (x2.1, x2.2.1, (va_up x2.2.2.1 0 (va_up (x2.2.2.1 0) (((0 : Int) + v1).toNat) (0 : Int))), x2.2.2.2) (fun z3 : ((Nat → Int) × (Nat → Int) × (Nat → Nat → Int) × (Nat → Nat → Int)) => some (true, z3))))))
theorem m_X12_gone {zT : tZ12} {u0 : tX12} {v1 : Int} {u1 : Int32} (e0 : u0 = (cX12 zT)) (e1 : u1 = (Int32.ofInt v1)) : sim (fun r : (Bool × tZ12) => (r.1, (cX12 r.2))) (q_X12_gone zT v1) (p_X12_gone u0 u1) := by
  subst e0 e1
  unfold q_X12_gone p_X12_gone
  exact sim_kb (c1 := (fun r : Bool => r)) (m_X12_isPoint rfl rfl) (fun x1 => sim_kif Iff.rfl (sim_some rfl) (sim_kb (c1 := cX12) (m_X12_keep rfl) (fun x2 => sim_kii (c_add l32_0 rfl) (by decide) (fun g1 => sim_kl (c := (fun r : ((Nat → Int) × (Nat → Int) × (Nat → Nat → Int) × (Nat → Nat → Int)) => ((cF r.1), (cG r.2.1), (cFF r.2.2.1), (cGG r.2.2.2)))) (c_pr rfl (c_pr rfl (c_pr (c_vupp rfl rfl (c_upd rfl (c_idx (c_add l32_0 rfl) g1 (by decide)) l32_0)) rfl))) (fun z3 => sim_some rfl)))))

def q_X12_moved (zT : tZ12) (v1 : Int) (v2 : Int) (v3 : Int) : Option (Bool × tZ12) :=
  kb (q_X12_isPoint zT v1) (fun x1 : Bool => kif (kz x1 = 0) (some (false, zT)) (kb (q_X12_isPlace v2 v3) (fun x2 : Bool => kif (kz x2 = 0) (some (false, zT)) (kb (q_X12_keep zT) (fun x3 : tZ12 => kg (0 ≤ ((120 : Int) + v1) ∧ ((120 : Int) + v1) < 170) (kb (q_X12_lay x3 v1 v2 v3 ((x3.2.2.1 0) (((120 : Int) + v1).toNat))) (fun x4 : tZ12 => some (true, x4))))))))
theorem m_X12_moved {zT : tZ12} {u0 : tX12} {v1 : Int} {u1 : Int32} {v2 : Int} {u2 : Int32} {v3 : Int} {u3 : Int32} (e0 : u0 = (cX12 zT)) (e1 : u1 = (Int32.ofInt v1)) (e2 : u2 = (Int32.ofInt v2)) (e3 : u3 = (Int32.ofInt v3)) : sim (fun r : (Bool × tZ12) => (r.1, (cX12 r.2))) (q_X12_moved zT v1 v2 v3) (p_X12_moved u0 u1 u2 u3) := by
  subst e0 e1 e2 e3
  unfold q_X12_moved p_X12_moved
  exact sim_kb (c1 := (fun r : Bool => r)) (m_X12_isPoint rfl rfl) (fun x1 => sim_kif Iff.rfl (sim_some rfl) (sim_kb (c1 := (fun r : Bool => r)) (m_X12_isPlace rfl rfl) (fun x2 => sim_kif Iff.rfl (sim_some rfl) (sim_kb (c1 := cX12) (m_X12_keep rfl) (fun x3 => sim_kii (c_add l32_120 rfl) (by decide) (fun g1 => sim_kb (c1 := cX12) (m_X12_lay rfl rfl rfl rfl (c_ap (x3.2.2.1 0) (c_idx (c_add l32_120 rfl) g1 (by decide)))) (fun x4 => sim_some rfl)))))))

def q_X12_isPace (v0 : Int) : Option Bool :=
  kb (q_X12_isIn v0 (-3 : Int) (3 : Int)) (fun x1 : Bool => some x1)
theorem m_X12_isPace {v0 : Int} {u0 : Int32} (e0 : u0 = (Int32.ofInt v0)) : sim (fun r : Bool => r) (q_X12_isPace v0) (p_X12_isPace u0) := by
  subst e0
  unfold q_X12_isPace p_X12_isPace
  exact sim_kb (c1 := (fun r : Bool => r)) (m_X12_isIn rfl l32_m3 l32_3) (fun x1 => sim_some rfl)

def q_X12_layPace (zT : tZ12) (v1 : Int) (v2 : Int) (v3 : Int) : Option tZ12 :=
  kg (0 ≤ ((160 : Int) + ((2 : Int) * v1)) ∧ ((160 : Int) + ((2 : Int) * v1)) < 170) (kl (zT.1, zT.2.1, (va_up zT.2.2.1 0 (va_up (zT.2.2.1 0) (((160 : Int) + ((2 : Int) * v1)).toNat) v2)), zT.2.2.2) (fun z1 : ((Nat → Int) × (Nat → Int) × (Nat → Nat → Int) × (Nat → Nat → Int)) => kg (0 ≤ (((160 : Int) + ((2 : Int) * v1)) + (1 : Int)) ∧ (((160 : Int) + ((2 : Int) * v1)) + (1 : Int)) < 170) (kl (z1.1, z1.2.1, (va_up z1.2.2.1 0 (va_up (z1.2.2.1 0) ((((160 : Int) + ((2 : Int) * v1)) + (1 : Int)).toNat) v3)), z1.2.2.2) (fun z2 : ((Nat → Int) × (Nat → Int) × (Nat → Nat → Int) × (Nat → Nat → Int)) => some z2))))
theorem m_X12_layPace {zT : tZ12} {u0 : tX12} {v1 : Int} {u1 : Int32} {v2 : Int} {u2 : Int32} {v3 : Int} {u3 : Int32} (e0 : u0 = (cX12 zT)) (e1 : u1 = (Int32.ofInt v1)) (e2 : u2 = (Int32.ofInt v2)) (e3 : u3 = (Int32.ofInt v3)) : sim cX12 (q_X12_layPace zT v1 v2 v3) (p_X12_layPace u0 u1 u2 u3) := by
  subst e0 e1 e2 e3
  unfold q_X12_layPace p_X12_layPace
  exact sim_kii (c_add l32_160 (c_mul l32_2 rfl)) (by decide) (fun g1 => sim_kl (c := (fun r : ((Nat → Int) × (Nat → Int) × (Nat → Nat → Int) × (Nat → Nat → Int)) => ((cF r.1), (cG r.2.1), (cFF r.2.2.1), (cGG r.2.2.2)))) (c_pr rfl (c_pr rfl (c_pr (c_vupp rfl rfl (c_upd rfl (c_idx (c_add l32_160 (c_mul l32_2 rfl)) g1 (by decide)) rfl)) rfl))) (fun z1 => sim_kii (c_add (c_add l32_160 (c_mul l32_2 rfl)) l32_1) (by decide) (fun g2 => sim_kl (c := (fun r : ((Nat → Int) × (Nat → Int) × (Nat → Nat → Int) × (Nat → Nat → Int)) => ((cF r.1), (cG r.2.1), (cFF r.2.2.1), (cGG r.2.2.2)))) (c_pr rfl (c_pr rfl (c_pr (c_vupp rfl rfl (c_upd rfl (c_idx (c_add (c_add l32_160 (c_mul l32_2 rfl)) l32_1) g2 (by decide)) rfl)) rfl))) (fun z2 => sim_some rfl))))

def q_X12_pace (zT : tZ12) (v1 : Int) (v2 : Int) (v3 : Int) : Option (Bool × tZ12) :=
  kb (q_X12_isHeap v1) (fun x1 : Bool => kif (kz x1 = 0) (some (false, zT)) (kb (q_X12_isPace v2) (fun x2 : Bool => kif (kz x2 = 0) (some (false, zT)) (kb (q_X12_isPace v3) (fun x3 : Bool => kif (kz x3 = 0) (some (false, zT)) (kb (q_X12_keep zT) (fun x4 : tZ12 => kb (q_X12_layPace x4 v1 v2 v3) (fun x5 : tZ12 => some (true, x5)))))))))
theorem m_X12_pace {zT : tZ12} {u0 : tX12} {v1 : Int} {u1 : Int32} {v2 : Int} {u2 : Int32} {v3 : Int} {u3 : Int32} (e0 : u0 = (cX12 zT)) (e1 : u1 = (Int32.ofInt v1)) (e2 : u2 = (Int32.ofInt v2)) (e3 : u3 = (Int32.ofInt v3)) : sim (fun r : (Bool × tZ12) => (r.1, (cX12 r.2))) (q_X12_pace zT v1 v2 v3) (p_X12_pace u0 u1 u2 u3) := by
  subst e0 e1 e2 e3
  unfold q_X12_pace p_X12_pace
  exact sim_kb (c1 := (fun r : Bool => r)) (m_X12_isHeap rfl) (fun x1 => sim_kif Iff.rfl (sim_some rfl) (sim_kb (c1 := (fun r : Bool => r)) (m_X12_isPace rfl) (fun x2 => sim_kif Iff.rfl (sim_some rfl) (sim_kb (c1 := (fun r : Bool => r)) (m_X12_isPace rfl) (fun x3 => sim_kif Iff.rfl (sim_some rfl) (sim_kb (c1 := cX12) (m_X12_keep rfl) (fun x4 => sim_kb (c1 := cX12) (m_X12_layPace rfl rfl rfl rfl) (fun x5 => sim_some rfl))))))))

def q_X12_tick (zT : tZ12) (v1 : Int) : Option (Int × tZ12) :=
  kb (q_X12_isIn v1 (0 : Int) (20 : Int)) (fun x1 : Bool => kif (kz x1 = 0) (some ((-1 : Int), zT)) (kg (0 ≤ (168 : Int) ∧ (168 : Int) < 170) (kl ((zT.2.2.1 0) ((168 : Int).toNat)) (fun y2 : Int => kb (q_X12_keep zT) (fun x3 : tZ12 => kl (x3.1, x3.2.1, (va_up x3.2.2.1 0 (va_up (x3.2.2.1 0) ((168 : Int).toNat) v1)), x3.2.2.2) (fun z4 : ((Nat → Int) × (Nat → Int) × (Nat → Nat → Int) × (Nat → Nat → Int)) => some (y2, z4)))))))
theorem m_X12_tick {zT : tZ12} {u0 : tX12} {v1 : Int} {u1 : Int32} (e0 : u0 = (cX12 zT)) (e1 : u1 = (Int32.ofInt v1)) : sim (fun r : (Int × tZ12) => ((Int32.ofInt r.1), (cX12 r.2))) (q_X12_tick zT v1) (p_X12_tick u0 u1) := by
  subst e0 e1
  unfold q_X12_tick p_X12_tick
  exact sim_kb (c1 := (fun r : Bool => r)) (m_X12_isIn rfl l32_0 l32_20) (fun x1 => sim_kif Iff.rfl (sim_some (c_pr l32_m1 rfl)) (sim_kii l32_168 (by decide) (fun g1 => sim_kl (c := Int32.ofInt) (c_ap (zT.2.2.1 0) (c_idx l32_168 g1 (by decide))) (fun y2 => sim_kb (c1 := cX12) (m_X12_keep rfl) (fun x3 => sim_kii0 l32_168 (by decide) g1 (sim_kl (c := (fun r : ((Nat → Int) × (Nat → Int) × (Nat → Nat → Int) × (Nat → Nat → Int)) => ((cF r.1), (cG r.2.1), (cFF r.2.2.1), (cGG r.2.2.2)))) (c_pr rfl (c_pr rfl (c_pr (c_vupp rfl rfl (c_upd rfl (c_idx l32_168 g1 (by decide)) rfl)) rfl))) (fun z4 => sim_some rfl)))))))

def q_X12_countPoints_L4 (zT : tZ12) (v1 : Int) (s : (Int × Int)) : Option (Nat × (Int × Int)) :=
  kg (k32 s.2) (kif ((40 : Int) ≤ s.2) (some (54, (s.1, s.2))) (kg (0 ≤ ((0 : Int) + s.2) ∧ ((0 : Int) + s.2) < 170) (kg (k32 ((zT.2.2.1 0) (((0 : Int) + s.2).toNat))) (kif (((zT.2.2.1 0) (((0 : Int) + s.2).toNat)) = (1 : Int)) (kg (k32 v1) (kif (v1 = (-1 : Int)) (kl (s.1 + (1 : Int)) (fun y1 : Int => kl (s.2 + (1 : Int)) (fun y2 : Int => some (4, (y1, y2))))) (kg (0 ≤ ((120 : Int) + s.2) ∧ ((120 : Int) + s.2) < 170) (kg (k32 ((zT.2.2.1 0) (((120 : Int) + s.2).toNat))) (kif (((zT.2.2.1 0) (((120 : Int) + s.2).toNat)) = v1) (kl (s.1 + (1 : Int)) (fun y3 : Int => kl (s.2 + (1 : Int)) (fun y4 : Int => some (4, (y3, y4))))) (kl (s.1 + (0 : Int)) (fun y5 : Int => kl (s.2 + (1 : Int)) (fun y6 : Int => some (4, (y5, y6)))))))))) (kl (s.1 + (0 : Int)) (fun y7 : Int => kl (s.2 + (1 : Int)) (fun y8 : Int => some (4, (y7, y8)))))))))
theorem m_X12_countPoints_L4 {zT : tZ12} {u0 : tX12} {v1 : Int} {u1 : Int32} {s : (Int × Int)} {u2 : (Int32 × Int32)} (e0 : u0 = (cX12 zT)) (e1 : u1 = (Int32.ofInt v1)) (e2 : u2 = ((Int32.ofInt s.1), (Int32.ofInt s.2))) : sim (fun r : (Nat × (Int × Int)) => (r.1, ((Int32.ofInt r.2.1), (Int32.ofInt r.2.2)))) (q_X12_countPoints_L4 zT v1 s) (p_X12_countPoints_L4 u0 u1 u2) := by
  subst e0 e1 e2
  unfold q_X12_countPoints_L4 p_X12_countPoints_L4
  exact sim_g (fun g1 => sim_kif (i_le l32_40 rfl (by decide) g1) (sim_some rfl) (sim_kii (c_add l32_0 rfl) (by decide) (fun g2 => sim_g (fun g3 => sim_kif (i_eq (c_ap (zT.2.2.1 0) (c_idx (c_add l32_0 rfl) g2 (by decide))) l32_1 g3 (by decide)) (sim_g (fun g4 => sim_kif (i_eq rfl l32_m1 g4 (by decide)) (sim_kl (c := Int32.ofInt) (c_add rfl l32_1) (fun y1 => sim_kl (c := Int32.ofInt) (c_add rfl l32_1) (fun y2 => sim_some rfl))) (sim_kii (c_add l32_120 rfl) (by decide) (fun g5 => sim_g (fun g6 => sim_kif (i_eq (c_ap (zT.2.2.1 0) (c_idx (c_add l32_120 rfl) g5 (by decide))) rfl g6 g4) (sim_kl (c := Int32.ofInt) (c_add rfl l32_1) (fun y3 => sim_kl (c := Int32.ofInt) (c_add rfl l32_1) (fun y4 => sim_some rfl))) (sim_kl (c := Int32.ofInt) (c_add rfl l32_0) (fun y5 => sim_kl (c := Int32.ofInt) (c_add rfl l32_1) (fun y6 => sim_some rfl)))))))) (sim_kl (c := Int32.ofInt) (c_add rfl l32_0) (fun y7 => sim_kl (c := Int32.ofInt) (c_add rfl l32_1) (fun y8 => sim_some rfl)))))))

def q_X12_countPoints (zT : tZ12) (v1 : Int) : Option Int :=
  kb (kitr 4 (fun q => q_X12_countPoints_L4 zT v1 q) kF ((0 : Int), (0 : Int))) (fun x9 : (Nat × Int × Int) => kg ((x9.1 = 54)) (some x9.2.1))
theorem m_X12_countPoints {zT : tZ12} {u0 : tX12} {v1 : Int} {u1 : Int32} (e0 : u0 = (cX12 zT)) (e1 : u1 = (Int32.ofInt v1)) : sim Int32.ofInt (q_X12_countPoints zT v1) (p_X12_countPoints u0 u1) := by
  subst e0 e1
  unfold q_X12_countPoints p_X12_countPoints
  exact sim_kb (c1 := (fun r : (Nat × Int × Int) => (r.1, (Int32.ofInt r.2.1), (Int32.ofInt r.2.2)))) (sim_kitr (c := (fun r : (Int × Int) => ((Int32.ofInt r.1), (Int32.ofInt r.2)))) (fun _ => m_X12_countPoints_L4 rfl rfl rfl) (c_pr l32_0 l32_0)) (fun x9 => sim_kg Iff.rfl (sim_some rfl))

def q_X12_is_J73 (zT : tZ12) (v1 : Int) : Option Int :=
  kb (q_X12_countPoints zT (v1 - (4 : Int))) (fun x2 : Int => some x2)
theorem m_X12_is_J73 {zT : tZ12} {u0 : tX12} {v1 : Int} {u1 : Int32} (e0 : u0 = (cX12 zT)) (e1 : u1 = (Int32.ofInt v1)) : sim Int32.ofInt (q_X12_is_J73 zT v1) (p_X12_is_J73 u0 u1) := by
  subst e0 e1
  unfold q_X12_is_J73 p_X12_is_J73
  exact sim_kb (c1 := Int32.ofInt) (m_X12_countPoints rfl (c_sub rfl l32_4)) (fun x2 => sim_some rfl)

def q_X12_is (zT : tZ12) (v1 : Int) : Option Int :=
  kg (k32 v1) (kif (v1 = (0 : Int)) (kb (q_X12_countPoints zT (-1 : Int)) (fun x1 : Int => some x1)) (kif (v1 = (1 : Int)) (kg (0 ≤ (168 : Int) ∧ (168 : Int) < 170) (some ((zT.2.2.1 0) ((168 : Int).toNat)))) (kif (v1 = (2 : Int)) (some (zT.1 2)) (kif (v1 = (3 : Int)) (some (zT.1 4)) (kif (v1 = (4 : Int)) (q_X12_is_J73 zT v1) (kif (v1 = (5 : Int)) (q_X12_is_J73 zT v1) (kif (v1 = (6 : Int)) (q_X12_is_J73 zT v1) (kif (v1 = (7 : Int)) (q_X12_is_J73 zT v1) (some (-1 : Int))))))))))
theorem m_X12_is {zT : tZ12} {u0 : tX12} {v1 : Int} {u1 : Int32} (e0 : u0 = (cX12 zT)) (e1 : u1 = (Int32.ofInt v1)) : sim Int32.ofInt (q_X12_is zT v1) (p_X12_is u0 u1) := by
  subst e0 e1
  unfold q_X12_is p_X12_is
  exact sim_g (fun g1 => sim_kif (i_eq rfl l32_0 g1 (by decide)) (sim_kb (c1 := Int32.ofInt) (m_X12_countPoints rfl l32_m1) (fun x1 => sim_some rfl)) (sim_kif (i_eq rfl l32_1 g1 (by decide)) (sim_kii l32_168 (by decide) (fun g2 => sim_some (c_ap (zT.2.2.1 0) (c_idx l32_168 g2 (by decide))))) (sim_kif (i_eq rfl l32_2 g1 (by decide)) (sim_some rfl) (sim_kif (i_eq rfl l32_3 g1 (by decide)) (sim_some rfl) (sim_kif (i_eq rfl l32_4 g1 (by decide)) (m_X12_is_J73 rfl rfl) (sim_kif (i_eq rfl l32_5 g1 (by decide)) (m_X12_is_J73 rfl rfl) (sim_kif (i_eq rfl l32_6 g1 (by decide)) (m_X12_is_J73 rfl rfl) (sim_kif (i_eq rfl l32_7 g1 (by decide)) (m_X12_is_J73 rfl rfl) (sim_some l32_m1)))))))))

def q_X12_standsX (zT : tZ12) (v1 : Int) : Option Int :=
  kg (0 ≤ ((40 : Int) + v1) ∧ ((40 : Int) + v1) < 170) (kg (0 ≤ ((120 : Int) + v1) ∧ ((120 : Int) + v1) < 170) (kg (0 ≤ ((160 : Int) + ((2 : Int) * ((zT.2.2.1 0) (((120 : Int) + v1).toNat)))) ∧ ((160 : Int) + ((2 : Int) * ((zT.2.2.1 0) (((120 : Int) + v1).toNat)))) < 170) (kg (0 ≤ (168 : Int) ∧ (168 : Int) < 170) (some (((zT.2.2.1 0) (((40 : Int) + v1).toNat)) + (((zT.2.2.1 0) (((160 : Int) + ((2 : Int) * ((zT.2.2.1 0) (((120 : Int) + v1).toNat)))).toNat)) * ((zT.2.2.1 0) ((168 : Int).toNat))))))))
theorem m_X12_standsX {zT : tZ12} {u0 : tX12} {v1 : Int} {u1 : Int32} (e0 : u0 = (cX12 zT)) (e1 : u1 = (Int32.ofInt v1)) : sim Int32.ofInt (q_X12_standsX zT v1) (p_X12_standsX u0 u1) := by
  subst e0 e1
  unfold q_X12_standsX p_X12_standsX
  exact sim_kii (c_add l32_40 rfl) (by decide) (fun g1 => sim_kii (c_add l32_120 rfl) (by decide) (fun g2 => sim_kii (c_add l32_160 (c_mul l32_2 (c_ap (zT.2.2.1 0) (c_idx (c_add l32_120 rfl) g2 (by decide))))) (by decide) (fun g3 => sim_kii l32_168 (by decide) (fun g4 => sim_some (c_add (c_ap (zT.2.2.1 0) (c_idx (c_add l32_40 rfl) g1 (by decide))) (c_mul (c_ap (zT.2.2.1 0) (c_idx (c_add l32_160 (c_mul l32_2 (c_ap (zT.2.2.1 0) (c_idx (c_add l32_120 rfl) g2 (by decide))))) g3 (by decide))) (c_ap (zT.2.2.1 0) (c_idx l32_168 g4 (by decide)))))))))

def q_X12_standsY (zT : tZ12) (v1 : Int) : Option Int :=
  kg (0 ≤ ((80 : Int) + v1) ∧ ((80 : Int) + v1) < 170) (kg (0 ≤ ((120 : Int) + v1) ∧ ((120 : Int) + v1) < 170) (kg (0 ≤ (((160 : Int) + ((2 : Int) * ((zT.2.2.1 0) (((120 : Int) + v1).toNat)))) + (1 : Int)) ∧ (((160 : Int) + ((2 : Int) * ((zT.2.2.1 0) (((120 : Int) + v1).toNat)))) + (1 : Int)) < 170) (kg (0 ≤ (168 : Int) ∧ (168 : Int) < 170) (some (((zT.2.2.1 0) (((80 : Int) + v1).toNat)) + (((zT.2.2.1 0) ((((160 : Int) + ((2 : Int) * ((zT.2.2.1 0) (((120 : Int) + v1).toNat)))) + (1 : Int)).toNat)) * ((zT.2.2.1 0) ((168 : Int).toNat))))))))
theorem m_X12_standsY {zT : tZ12} {u0 : tX12} {v1 : Int} {u1 : Int32} (e0 : u0 = (cX12 zT)) (e1 : u1 = (Int32.ofInt v1)) : sim Int32.ofInt (q_X12_standsY zT v1) (p_X12_standsY u0 u1) := by
  subst e0 e1
  unfold q_X12_standsY p_X12_standsY
  exact sim_kii (c_add l32_80 rfl) (by decide) (fun g1 => sim_kii (c_add l32_120 rfl) (by decide) (fun g2 => sim_kii (c_add (c_add l32_160 (c_mul l32_2 (c_ap (zT.2.2.1 0) (c_idx (c_add l32_120 rfl) g2 (by decide))))) l32_1) (by decide) (fun g3 => sim_kii l32_168 (by decide) (fun g4 => sim_some (c_add (c_ap (zT.2.2.1 0) (c_idx (c_add l32_80 rfl) g1 (by decide))) (c_mul (c_ap (zT.2.2.1 0) (c_idx (c_add (c_add l32_160 (c_mul l32_2 (c_ap (zT.2.2.1 0) (c_idx (c_add l32_120 rfl) g2 (by decide))))) l32_1) g3 (by decide))) (c_ap (zT.2.2.1 0) (c_idx l32_168 g4 (by decide)))))))))

def q_X12_point (zT : tZ12) (v1 : Int) (v2 : Int) : Option Int :=
  kb (q_X12_isPoint zT v1) (fun x1 : Bool => kif (kz x1 = 0) (some (-1000 : Int)) (kg (k32 v2) (kif (v2 = (0 : Int)) (kg (0 ≤ ((40 : Int) + v1) ∧ ((40 : Int) + v1) < 170) (some ((zT.2.2.1 0) (((40 : Int) + v1).toNat)))) (kif (v2 = (1 : Int)) (kg (0 ≤ ((80 : Int) + v1) ∧ ((80 : Int) + v1) < 170) (some ((zT.2.2.1 0) (((80 : Int) + v1).toNat)))) (kif (v2 = (2 : Int)) (kg (0 ≤ ((120 : Int) + v1) ∧ ((120 : Int) + v1) < 170) (some ((zT.2.2.1 0) (((120 : Int) + v1).toNat)))) (kif (v2 = (3 : Int)) (kb (q_X12_standsX zT v1) (fun x2 : Int => some x2)) (kif (v2 = (4 : Int)) (kb (q_X12_standsY zT v1) (fun x3 : Int => some x3)) (some (-1000 : Int)))))))))
theorem m_X12_point {zT : tZ12} {u0 : tX12} {v1 : Int} {u1 : Int32} {v2 : Int} {u2 : Int32} (e0 : u0 = (cX12 zT)) (e1 : u1 = (Int32.ofInt v1)) (e2 : u2 = (Int32.ofInt v2)) : sim Int32.ofInt (q_X12_point zT v1 v2) (p_X12_point u0 u1 u2) := by
  subst e0 e1 e2
  unfold q_X12_point p_X12_point
  exact sim_kb (c1 := (fun r : Bool => r)) (m_X12_isPoint rfl rfl) (fun x1 => sim_kif Iff.rfl (sim_some l32_m1000) (sim_g (fun g1 => sim_kif (i_eq rfl l32_0 g1 (by decide)) (sim_kii (c_add l32_40 rfl) (by decide) (fun g2 => sim_some (c_ap (zT.2.2.1 0) (c_idx (c_add l32_40 rfl) g2 (by decide))))) (sim_kif (i_eq rfl l32_1 g1 (by decide)) (sim_kii (c_add l32_80 rfl) (by decide) (fun g3 => sim_some (c_ap (zT.2.2.1 0) (c_idx (c_add l32_80 rfl) g3 (by decide))))) (sim_kif (i_eq rfl l32_2 g1 (by decide)) (sim_kii (c_add l32_120 rfl) (by decide) (fun g4 => sim_some (c_ap (zT.2.2.1 0) (c_idx (c_add l32_120 rfl) g4 (by decide))))) (sim_kif (i_eq rfl l32_3 g1 (by decide)) (sim_kb (c1 := Int32.ofInt) (m_X12_standsX rfl rfl) (fun x2 => sim_some rfl)) (sim_kif (i_eq rfl l32_4 g1 (by decide)) (sim_kb (c1 := Int32.ofInt) (m_X12_standsY rfl rfl) (fun x3 => sim_some rfl)) (sim_some l32_m1000))))))))

def q_X12_four_L3 (v1 : Int) (s : (Int × tZ12)) : Option (Nat × (Int × tZ12)) :=
  kg (k32 s.1) (kif (s.1 < (0 : Int)) (some (36, (s.1, s.2))) (kg (0 ≤ (s.2.1 4) ∧ (s.2.1 4) < 400) (kl (s.2.1, s.2.2.1, (va_up s.2.2.2.1 3 (va_up (s.2.2.2.1 3) ((s.2.1 4).toNat) (znar (zbyte (zshr32 v1 (zand32 s.1 (31 : Int))))))), s.2.2.2.2) (fun z1 : ((Nat → Int) × (Nat → Int) × (Nat → Nat → Int) × (Nat → Nat → Int)) => kl ((va_up z1.1 4 ((z1.1 4) + (1 : Int))), z1.2) (fun z2 : ((Nat → Int) × ((Nat → Int) × (Nat → Nat → Int) × (Nat → Nat → Int))) => kl (s.1 + (-8 : Int)) (fun y3 : Int => some (3, (y3, z2))))))))
theorem m_X12_four_L3 {v1 : Int} {u0 : Int32} {s : (Int × tZ12)} {u1 : (Int32 × tX12)} (e0 : u0 = (Int32.ofInt v1)) (e1 : u1 = ((Int32.ofInt s.1), (cX12 s.2))) : sim (fun r : (Nat × (Int × tZ12)) => (r.1, ((Int32.ofInt r.2.1), (cX12 r.2.2)))) (q_X12_four_L3 v1 s) (p_X12_four_L3 u0 u1) := by
  subst e0 e1
  unfold q_X12_four_L3 p_X12_four_L3
  exact sim_g (fun g1 => sim_kif (i_lt rfl l32_0 g1 (by decide)) (sim_some rfl) (sim_kii rfl (by decide) (fun g2 => sim_kl (c := (fun r : ((Nat → Int) × (Nat → Int) × (Nat → Nat → Int) × (Nat → Nat → Int)) => ((cF r.1), (cG r.2.1), (cFF r.2.2.1), (cGG r.2.2.2)))) (c_pr rfl (c_pr rfl (c_pr (c_vupp rfl rfl (c_upd rfl (c_idx rfl g2 (by decide)) (c_nar (c_byte (c_shr rfl (c_and rfl l32_31)))))) rfl))) (fun z1 => sim_kl (c := (fun r : ((Nat → Int) × ((Nat → Int) × (Nat → Nat → Int) × (Nat → Nat → Int))) => ((cF r.1), ((cG r.2.1), (cFF r.2.2.1), (cGG r.2.2.2))))) (c_pr (c_vup rfl rfl (c_add rfl l32_1)) rfl) (fun z2 => sim_kl (c := Int32.ofInt) (c_add rfl l32_m8) (fun y3 => sim_some rfl))))))

def q_X12_four (zT : tZ12) (v1 : Int) : Option tZ12 :=
  kb (kitr 3 (fun q => q_X12_four_L3 v1 q) kF ((24 : Int), zT)) (fun x4 : (Nat × Int × tZ12) => kg ((x4.1 = 36)) (some x4.2.2))
theorem m_X12_four {zT : tZ12} {u0 : tX12} {v1 : Int} {u1 : Int32} (e0 : u0 = (cX12 zT)) (e1 : u1 = (Int32.ofInt v1)) : sim cX12 (q_X12_four zT v1) (p_X12_four u0 u1) := by
  subst e0 e1
  unfold q_X12_four p_X12_four
  exact sim_kb (c1 := (fun r : (Nat × Int × tZ12) => (r.1, (Int32.ofInt r.2.1), (cX12 r.2.2)))) (sim_kitr (c := (fun r : (Int × tZ12) => ((Int32.ofInt r.1), (cX12 r.2)))) (fun _ => m_X12_four_L3 rfl rfl) (c_pr l32_24 rfl)) (fun x4 => sim_kg Iff.rfl (sim_some rfl))

def q_X12_feed (zT : tZ12) (v1 : Int) (v2 : Int) (v3 : Int) (v4 : Int) (v5 : Int) : Option (Int × tZ12) :=
  kg (k32 ((zT.1 4) + (20 : Int))) (kif (((zT.1 4) + (20 : Int)) ≤ (400 : Int)) (kb (q_X12_four zT v1) (fun x1 : tZ12 => kb (q_X12_four x1 v2) (fun x2 : tZ12 => kb (q_X12_four x2 v3) (fun x3 : tZ12 => kb (q_X12_four x3 v4) (fun x4 : tZ12 => kb (q_X12_four x4 v5) (fun x5 : tZ12 => some ((x5.1 4), x5))))))) (some ((-1 : Int), zT)))
theorem m_X12_feed {zT : tZ12} {u0 : tX12} {v1 : Int} {u1 : Int32} {v2 : Int} {u2 : Int32} {v3 : Int} {u3 : Int32} {v4 : Int} {u4 : Int32} {v5 : Int} {u5 : Int32} (e0 : u0 = (cX12 zT)) (e1 : u1 = (Int32.ofInt v1)) (e2 : u2 = (Int32.ofInt v2)) (e3 : u3 = (Int32.ofInt v3)) (e4 : u4 = (Int32.ofInt v4)) (e5 : u5 = (Int32.ofInt v5)) : sim (fun r : (Int × tZ12) => ((Int32.ofInt r.1), (cX12 r.2))) (q_X12_feed zT v1 v2 v3 v4 v5) (p_X12_feed u0 u1 u2 u3 u4 u5) := by
  subst e0 e1 e2 e3 e4 e5
  unfold q_X12_feed p_X12_feed
  exact sim_g (fun g1 => sim_kif (i_le (c_add rfl l32_20) l32_400 g1 (by decide)) (sim_kb (c1 := cX12) (m_X12_four rfl rfl) (fun x1 => sim_kb (c1 := cX12) (m_X12_four rfl rfl) (fun x2 => sim_kb (c1 := cX12) (m_X12_four rfl rfl) (fun x3 => sim_kb (c1 := cX12) (m_X12_four rfl rfl) (fun x4 => sim_kb (c1 := cX12) (m_X12_four rfl rfl) (fun x5 => sim_some rfl)))))) (sim_some (c_pr l32_m1 rfl)))

def q_X12_end (zT : tZ12) (v1 : Int) : Option (Int × tZ12) :=
  kb (q_X12_isIn v1 (0 : Int) (zT.1 4)) (fun x1 : Bool => kif (kz x1 = 0) (some ((-1 : Int), zT)) (kl ((va_up zT.1 4 v1), zT.2) (fun z2 : ((Nat → Int) × ((Nat → Int) × (Nat → Nat → Int) × (Nat → Nat → Int))) => some (v1, z2))))
theorem m_X12_end {zT : tZ12} {u0 : tX12} {v1 : Int} {u1 : Int32} (e0 : u0 = (cX12 zT)) (e1 : u1 = (Int32.ofInt v1)) : sim (fun r : (Int × tZ12) => ((Int32.ofInt r.1), (cX12 r.2))) (q_X12_end zT v1) (p_X12_end u0 u1) := by
  subst e0 e1
  unfold q_X12_end p_X12_end
  exact sim_kb (c1 := (fun r : Bool => r)) (m_X12_isIn rfl l32_0 rfl) (fun x1 => sim_kif Iff.rfl (sim_some (c_pr l32_m1 rfl)) (sim_kl (c := (fun r : ((Nat → Int) × ((Nat → Int) × (Nat → Nat → Int) × (Nat → Nat → Int))) => ((cF r.1), ((cG r.2.1), (cFF r.2.2.1), (cGG r.2.2.2))))) (c_pr (c_vup rfl rfl rfl) rfl) (fun z2 => sim_some rfl)))

def q_X12_here (zT : tZ12) : Option Int :=
  kg (k32 (zT.1 4) ∧ k32 (zT.1 5)) (kif ((zT.1 4) ≤ (zT.1 5)) (some (-1 : Int)) (kg (0 ≤ (zT.1 5) ∧ (zT.1 5) < 400) (some (zand32 ((zT.2.2.1 3) ((zT.1 5).toNat)) (255 : Int)))))
theorem m_X12_here {zT : tZ12} {u0 : tX12} (e0 : u0 = (cX12 zT)) : sim Int32.ofInt (q_X12_here zT) (p_X12_here u0) := by
  subst e0
  unfold q_X12_here p_X12_here
  exact sim_g (fun g1 => sim_kif (i_le rfl rfl g1.1 g1.2) (sim_some l32_m1) (sim_kii rfl (by decide) (fun g2 => sim_some (c_and (c_ap (zT.2.2.1 3) (c_idx rfl g2 (by decide))) l32_255))))

def q_X12_isFigure (v0 : Int) : Option Bool :=
  kg (k32 v0) (kif (v0 < (48 : Int)) (some false) (kif ((57 : Int) < v0) (some false) (some true)))
theorem m_X12_isFigure {v0 : Int} {u0 : Int32} (e0 : u0 = (Int32.ofInt v0)) : sim (fun r : Bool => r) (q_X12_isFigure v0) (p_X12_isFigure u0) := by
  subst e0
  unfold q_X12_isFigure p_X12_isFigure
  exact sim_g (fun g1 => sim_kif (i_lt rfl l32_48 g1 (by decide)) (sim_some rfl) (sim_kif (i_lt l32_57 rfl (by decide) g1) (sim_some rfl) (sim_some rfl)))

def q_X12_fails (zT : tZ12) (v1 : Int) : Option (Bool × tZ12) :=
  kl ((va_up zT.1 6 v1), zT.2) (fun z1 : ((Nat → Int) × ((Nat → Int) × (Nat → Nat → Int) × (Nat → Nat → Int))) => some (false, z1))
theorem m_X12_fails {zT : tZ12} {u0 : tX12} {v1 : Int} {u1 : Int32} (e0 : u0 = (cX12 zT)) (e1 : u1 = (Int32.ofInt v1)) : sim (fun r : (Bool × tZ12) => (r.1, (cX12 r.2))) (q_X12_fails zT v1) (p_X12_fails u0 u1) := by
  subst e0 e1
  unfold q_X12_fails p_X12_fails
  exact sim_kl (c := (fun r : ((Nat → Int) × ((Nat → Int) × (Nat → Nat → Int) × (Nat → Nat → Int))) => ((cF r.1), ((cG r.2.1), (cFF r.2.2.1), (cGG r.2.2.2))))) (c_pr (c_vup rfl rfl rfl) rfl) (fun z1 => sim_some rfl)

def q_X12_takes (zT : tZ12) (v1 : Int) : Option (Bool × tZ12) :=
  kb (q_X12_here zT) (fun x1 : Int => kg (k32 x1 ∧ k32 v1) (kif (x1 = v1) (kl ((va_up zT.1 5 ((zT.1 5) + (1 : Int))), zT.2) (fun z2 : ((Nat → Int) × ((Nat → Int) × (Nat → Nat → Int) × (Nat → Nat → Int))) => some (true, z2))) (kb (q_X12_fails zT (zT.1 5)) (fun x3 : (Bool × tZ12) => some (x3.1, x3.2)))))
theorem m_X12_takes {zT : tZ12} {u0 : tX12} {v1 : Int} {u1 : Int32} (e0 : u0 = (cX12 zT)) (e1 : u1 = (Int32.ofInt v1)) : sim (fun r : (Bool × tZ12) => (r.1, (cX12 r.2))) (q_X12_takes zT v1) (p_X12_takes u0 u1) := by
  subst e0 e1
  unfold q_X12_takes p_X12_takes
  exact sim_kb (c1 := Int32.ofInt) (m_X12_here rfl) (fun x1 => sim_g (fun g1 => sim_kif (i_eq rfl rfl g1.1 g1.2) (sim_kl (c := (fun r : ((Nat → Int) × ((Nat → Int) × (Nat → Nat → Int) × (Nat → Nat → Int))) => ((cF r.1), ((cG r.2.1), (cFF r.2.2.1), (cGG r.2.2.2))))) (c_pr (c_vup rfl rfl (c_add rfl l32_1)) rfl) (fun z2 => sim_some rfl)) (sim_kb (c1 := (fun r : (Bool × tZ12) => (r.1, (cX12 r.2)))) (m_X12_fails rfl rfl) (fun x3 => sim_some rfl))))

def q_X12_readNumber_L64 (v1 : Int) (v2 : Int) (v3 : Int) (v4 : Int) (s : tZ12) : Option (Nat × tZ12) :=
  kb (q_X12_here s) (fun x8 : Int => kb (q_X12_isFigure x8) (fun x9 : Bool => kif (kz x9 = 0) (some (117, s)) (kg (k32 ((s.1 5) - v4)) (kif ((3 : Int) ≤ ((s.1 5) - v4)) (some (117, s)) (kb (q_X12_here s) (fun x10 : Int => kl ((va_up s.1 7 ((((10 : Int) * (s.1 7)) + x10) - (48 : Int))), s.2) (fun z11 : ((Nat → Int) × ((Nat → Int) × (Nat → Nat → Int) × (Nat → Nat → Int))) => kl ((va_up z11.1 5 ((z11.1 5) + (1 : Int))), z11.2) (fun z12 : ((Nat → Int) × ((Nat → Int) × (Nat → Nat → Int) × (Nat → Nat → Int))) => some (64, z12)))))))))
theorem m_X12_readNumber_L64 {v1 : Int} {u0 : Int32} {v2 : Int} {u1 : Int32} {v3 : Int} {u2 : Int32} {v4 : Int} {u3 : Int32} {s : tZ12} {u4 : tX12} (e0 : u0 = (Int32.ofInt v1)) (e1 : u1 = (Int32.ofInt v2)) (e2 : u2 = (Int32.ofInt v3)) (e3 : u3 = (Int32.ofInt v4)) (e4 : u4 = (cX12 s)) : sim (fun r : (Nat × tZ12) => (r.1, (cX12 r.2))) (q_X12_readNumber_L64 v1 v2 v3 v4 s) (p_X12_readNumber_L64 u0 u1 u2 u3 u4) := by
  subst e0 e1 e2 e3 e4
  unfold q_X12_readNumber_L64 p_X12_readNumber_L64
  exact sim_kb (c1 := Int32.ofInt) (m_X12_here rfl) (fun x8 => sim_kb (c1 := (fun r : Bool => r)) (m_X12_isFigure rfl) (fun x9 => sim_kif Iff.rfl (sim_some rfl) (sim_g (fun g1 => sim_kif (i_le l32_3 (c_sub rfl rfl) (by decide) g1) (sim_some rfl) (sim_kb (c1 := Int32.ofInt) (m_X12_here rfl) (fun x10 => sim_kl (c := (fun r : ((Nat → Int) × ((Nat → Int) × (Nat → Nat → Int) × (Nat → Nat → Int))) => ((cF r.1), ((cG r.2.1), (cFF r.2.2.1), (cGG r.2.2.2))))) (c_pr (c_vup rfl rfl (c_sub (c_add (c_mul l32_10 rfl) rfl) l32_48)) rfl) (fun z11 => sim_kl (c := (fun r : ((Nat → Int) × ((Nat → Int) × (Nat → Nat → Int) × (Nat → Nat → Int))) => ((cF r.1), ((cG r.2.1), (cFF r.2.2.1), (cGG r.2.2.2))))) (c_pr (c_vup rfl rfl (c_add rfl l32_1)) rfl) (fun z12 => sim_some rfl))))))))

def q_X12_readNumber_J117 (v1 : Int) (zT : tZ12) (v2 : Int) (v3 : Int) : Option (Bool × tZ12) :=
  kb (q_X12_here zT) (fun x14 : Int => kb (q_X12_isFigure x14) (fun x15 : Bool => kif (kz x15 = 0) (kg (k32 (zT.1 7) ∧ k32 v1) (kif ((zT.1 7) ≤ v1) (kg (k32 v3) (kif (v3 = (0 : Int)) (kl ((va_up zT.1 7 (zT.1 7)), zT.2) (fun z16 : ((Nat → Int) × ((Nat → Int) × (Nat → Nat → Int) × (Nat → Nat → Int))) => some (true, z16))) (kl ((va_up zT.1 7 (-(zT.1 7))), zT.2) (fun z17 : ((Nat → Int) × ((Nat → Int) × (Nat → Nat → Int) × (Nat → Nat → Int))) => some (true, z17))))) (kb (q_X12_fails zT v2) (fun x18 : (Bool × tZ12) => some (x18.1, x18.2))))) (kb (q_X12_fails zT (zT.1 5)) (fun x19 : (Bool × tZ12) => some (x19.1, x19.2)))))
theorem m_X12_readNumber_J117 {v1 : Int} {u0 : Int32} {zT : tZ12} {u1 : tX12} {v2 : Int} {u2 : Int32} {v3 : Int} {u3 : Int32} (e0 : u0 = (Int32.ofInt v1)) (e1 : u1 = (cX12 zT)) (e2 : u2 = (Int32.ofInt v2)) (e3 : u3 = (Int32.ofInt v3)) : sim (fun r : (Bool × tZ12) => (r.1, (cX12 r.2))) (q_X12_readNumber_J117 v1 zT v2 v3) (p_X12_readNumber_J117 u0 u1 u2 u3) := by
  subst e0 e1 e2 e3
  unfold q_X12_readNumber_J117 p_X12_readNumber_J117
  exact sim_kb (c1 := Int32.ofInt) (m_X12_here rfl) (fun x14 => sim_kb (c1 := (fun r : Bool => r)) (m_X12_isFigure rfl) (fun x15 => sim_kif Iff.rfl (sim_g (fun g1 => sim_kif (i_le rfl rfl g1.1 g1.2) (sim_g (fun g2 => sim_kif (i_eq rfl l32_0 g2 (by decide)) (sim_kl (c := (fun r : ((Nat → Int) × ((Nat → Int) × (Nat → Nat → Int) × (Nat → Nat → Int))) => ((cF r.1), ((cG r.2.1), (cFF r.2.2.1), (cGG r.2.2.2))))) (c_pr (c_vup rfl rfl rfl) rfl) (fun z16 => sim_some rfl)) (sim_kl (c := (fun r : ((Nat → Int) × ((Nat → Int) × (Nat → Nat → Int) × (Nat → Nat → Int))) => ((cF r.1), ((cG r.2.1), (cFF r.2.2.1), (cGG r.2.2.2))))) (c_pr (c_vup rfl rfl (c_neg rfl)) rfl) (fun z17 => sim_some rfl)))) (sim_kb (c1 := (fun r : (Bool × tZ12) => (r.1, (cX12 r.2)))) (m_X12_fails rfl rfl) (fun x18 => sim_some rfl)))) (sim_kb (c1 := (fun r : (Bool × tZ12) => (r.1, (cX12 r.2)))) (m_X12_fails rfl rfl) (fun x19 => sim_some rfl))))

def q_X12_readNumber_J34 (v1 : Int) (zT : tZ12) (v2 : Int) (v3 : Int) : Option (Bool × tZ12) :=
  kb (q_X12_here zT) (fun x3 : Int => kb (q_X12_isFigure x3) (fun x4 : Bool => kif (kz x4 = 0) (kb (q_X12_fails zT (zT.1 5)) (fun x5 : (Bool × tZ12) => some (x5.1, x5.2))) (kl (zT.1 5) (fun y6 : Int => kl ((va_up zT.1 7 (0 : Int)), zT.2) (fun z7 : ((Nat → Int) × ((Nat → Int) × (Nat → Nat → Int) × (Nat → Nat → Int))) => kb (kitr 64 (fun q => q_X12_readNumber_L64 v1 v2 v3 y6 q) kF z7) (fun x13 : (Nat × tZ12) => kg ((x13.1 = 117)) (q_X12_readNumber_J117 v1 x13.2 v2 v3)))))))
theorem m_X12_readNumber_J34 {v1 : Int} {u0 : Int32} {zT : tZ12} {u1 : tX12} {v2 : Int} {u2 : Int32} {v3 : Int} {u3 : Int32} (e0 : u0 = (Int32.ofInt v1)) (e1 : u1 = (cX12 zT)) (e2 : u2 = (Int32.ofInt v2)) (e3 : u3 = (Int32.ofInt v3)) : sim (fun r : (Bool × tZ12) => (r.1, (cX12 r.2))) (q_X12_readNumber_J34 v1 zT v2 v3) (p_X12_readNumber_J34 u0 u1 u2 u3) := by
  subst e0 e1 e2 e3
  unfold q_X12_readNumber_J34 p_X12_readNumber_J34
  exact sim_kb (c1 := Int32.ofInt) (m_X12_here rfl) (fun x3 => sim_kb (c1 := (fun r : Bool => r)) (m_X12_isFigure rfl) (fun x4 => sim_kif Iff.rfl (sim_kb (c1 := (fun r : (Bool × tZ12) => (r.1, (cX12 r.2)))) (m_X12_fails rfl rfl) (fun x5 => sim_some rfl)) (sim_kl (c := Int32.ofInt) rfl (fun y6 => sim_kl (c := (fun r : ((Nat → Int) × ((Nat → Int) × (Nat → Nat → Int) × (Nat → Nat → Int))) => ((cF r.1), ((cG r.2.1), (cFF r.2.2.1), (cGG r.2.2.2))))) (c_pr (c_vup rfl rfl l32_0) rfl) (fun z7 => sim_kb (c1 := (fun r : (Nat × tZ12) => (r.1, (cX12 r.2)))) (sim_kitr (c := cX12) (fun _ => m_X12_readNumber_L64 rfl rfl rfl rfl rfl) rfl) (fun x13 => sim_kg Iff.rfl (m_X12_readNumber_J117 rfl rfl rfl rfl)))))))

def q_X12_readNumber_J19 (v1 : Int) (zT : tZ12) (v2 : Int) (k19_0 : Int) : Option (Bool × tZ12) :=
  kg (k32 k19_0) (kif (k19_0 = (0 : Int)) (q_X12_readNumber_J34 v1 zT v2 k19_0) (kl ((va_up zT.1 5 ((zT.1 5) + (1 : Int))), zT.2) (fun z20 : ((Nat → Int) × ((Nat → Int) × (Nat → Nat → Int) × (Nat → Nat → Int))) => q_X12_readNumber_J34 v1 z20 v2 k19_0)))
theorem m_X12_readNumber_J19 {v1 : Int} {u0 : Int32} {zT : tZ12} {u1 : tX12} {v2 : Int} {u2 : Int32} {k19_0 : Int} {u3 : Int32} (e0 : u0 = (Int32.ofInt v1)) (e1 : u1 = (cX12 zT)) (e2 : u2 = (Int32.ofInt v2)) (e3 : u3 = (Int32.ofInt k19_0)) : sim (fun r : (Bool × tZ12) => (r.1, (cX12 r.2))) (q_X12_readNumber_J19 v1 zT v2 k19_0) (p_X12_readNumber_J19 u0 u1 u2 u3) := by
  subst e0 e1 e2 e3
  unfold q_X12_readNumber_J19 p_X12_readNumber_J19
  exact sim_g (fun g1 => sim_kif (i_eq rfl l32_0 g1 (by decide)) (m_X12_readNumber_J34 rfl rfl rfl rfl) (sim_kl (c := (fun r : ((Nat → Int) × ((Nat → Int) × (Nat → Nat → Int) × (Nat → Nat → Int))) => ((cF r.1), ((cG r.2.1), (cFF r.2.2.1), (cGG r.2.2.2))))) (c_pr (c_vup rfl rfl (c_add rfl l32_1)) rfl) (fun z20 => m_X12_readNumber_J34 rfl rfl rfl rfl)))

def q_X12_readNumber (zT : tZ12) (v1 : Int) : Option (Bool × tZ12) :=
  kl (zT.1 5) (fun y1 : Int => kb (q_X12_here zT) (fun x2 : Int => kg (k32 x2) (kif (x2 = (45 : Int)) (q_X12_readNumber_J19 v1 zT y1 (1 : Int)) (q_X12_readNumber_J19 v1 zT y1 (0 : Int)))))
theorem m_X12_readNumber {zT : tZ12} {u0 : tX12} {v1 : Int} {u1 : Int32} (e0 : u0 = (cX12 zT)) (e1 : u1 = (Int32.ofInt v1)) : sim (fun r : (Bool × tZ12) => (r.1, (cX12 r.2))) (q_X12_readNumber zT v1) (p_X12_readNumber u0 u1) := by
  subst e0 e1
  unfold q_X12_readNumber p_X12_readNumber
  exact sim_kl (c := Int32.ofInt) rfl (fun y1 => sim_kb (c1 := Int32.ofInt) (m_X12_here rfl) (fun x2 => sim_g (fun g1 => sim_kif (i_eq rfl l32_45 g1 (by decide)) (m_X12_readNumber_J19 rfl rfl rfl l32_1) (m_X12_readNumber_J19 rfl rfl rfl l32_0))))

def q_X12_readItem_J174 (v1 : Int) (zT : tZ12) (k174_1 : Int) (k174_2 : Int) : Option (Bool × tZ12) :=
  kg (0 ≤ k174_1 ∧ k174_1 < 100) (kl (zT.1, zT.2.1, (va_up zT.2.2.1 8 (va_up (zT.2.2.1 8) (k174_1.toNat) k174_2)), zT.2.2.2) (fun z14 : ((Nat → Int) × (Nat → Int) × (Nat → Nat → Int) × (Nat → Nat → Int)) => kl ((va_up z14.1 11 ((z14.1 11) + (1 : Int))), z14.2) (fun z15 : ((Nat → Int) × ((Nat → Int) × (Nat → Nat → Int) × (Nat → Nat → Int))) => kb (q_X12_takes z15 (59 : Int)) (fun x16 : (Bool × tZ12) => some (x16.1, x16.2)))))
theorem m_X12_readItem_J174 {v1 : Int} {u0 : Int32} {zT : tZ12} {u1 : tX12} {k174_1 : Int} {u2 : Int32} {k174_2 : Int} {u3 : Int32} (e0 : u0 = (Int32.ofInt v1)) (e1 : u1 = (cX12 zT)) (e2 : u2 = (Int32.ofInt k174_1)) (e3 : u3 = (Int32.ofInt k174_2)) : sim (fun r : (Bool × tZ12) => (r.1, (cX12 r.2))) (q_X12_readItem_J174 v1 zT k174_1 k174_2) (p_X12_readItem_J174 u0 u1 u2 u3) := by
  subst e0 e1 e2 e3
  unfold q_X12_readItem_J174 p_X12_readItem_J174
  exact sim_kii rfl (by decide) (fun g1 => sim_kl (c := (fun r : ((Nat → Int) × (Nat → Int) × (Nat → Nat → Int) × (Nat → Nat → Int)) => ((cF r.1), (cG r.2.1), (cFF r.2.2.1), (cGG r.2.2.2)))) (c_pr rfl (c_pr rfl (c_pr (c_vupp rfl rfl (c_upd rfl (c_idx rfl g1 (by decide)) rfl)) rfl))) (fun z14 => sim_kl (c := (fun r : ((Nat → Int) × ((Nat → Int) × (Nat → Nat → Int) × (Nat → Nat → Int))) => ((cF r.1), ((cG r.2.1), (cFF r.2.2.1), (cGG r.2.2.2))))) (c_pr (c_vup rfl rfl (c_add rfl l32_1)) rfl) (fun z15 => sim_kb (c1 := (fun r : (Bool × tZ12) => (r.1, (cX12 r.2)))) (m_X12_takes rfl l32_59) (fun x16 => sim_some rfl))))

def q_X12_readItem_J94 (v1 : Int) (zT : tZ12) (v2 : Int) (v4 : Int) (k94_0 : Int) : Option (Bool × tZ12) :=
  kb (q_X12_readNumber zT k94_0) (fun x9 : (Bool × tZ12) => kif (kz x9.1 = 0) (some (false, x9.2)) (kg (0 ≤ (x9.2.1 11) ∧ (x9.2.1 11) < 100) (kl (x9.2.1, x9.2.2.1, (va_up x9.2.2.2.1 9 (va_up (x9.2.2.2.1 9) ((x9.2.1 11).toNat) (x9.2.1 7))), x9.2.2.2.2) (fun z10 : ((Nat → Int) × (Nat → Int) × (Nat → Nat → Int) × (Nat → Nat → Int)) => kb (q_X12_takes z10 (44 : Int)) (fun x11 : (Bool × tZ12) => kif (kz x11.1 = 0) (some (false, x11.2)) (kb (q_X12_readNumber x11.2 k94_0) (fun x12 : (Bool × tZ12) => kif (kz x12.1 = 0) (some (false, x12.2)) (kg (0 ≤ (x12.2.1 11) ∧ (x12.2.1 11) < 100) (kl (x12.2.1, x12.2.2.1, (va_up x12.2.2.2.1 10 (va_up (x12.2.2.2.1 10) ((x12.2.1 11).toNat) (x12.2.1 7))), x12.2.2.2.2) (fun z13 : ((Nat → Int) × (Nat → Int) × (Nat → Nat → Int) × (Nat → Nat → Int)) => kg (k32 v2) (kif (v2 = (0 : Int)) (q_X12_readItem_J174 v1 z13 (z13.1 11) v4) (q_X12_readItem_J174 v1 z13 (z13.1 11) ((4 : Int) + v4)))))))))))))
theorem m_X12_readItem_J94 {v1 : Int} {u0 : Int32} {zT : tZ12} {u1 : tX12} {v2 : Int} {u2 : Int32} {v4 : Int} {u3 : Int32} {k94_0 : Int} {u4 : Int32} (e0 : u0 = (Int32.ofInt v1)) (e1 : u1 = (cX12 zT)) (e2 : u2 = (Int32.ofInt v2)) (e3 : u3 = (Int32.ofInt v4)) (e4 : u4 = (Int32.ofInt k94_0)) : sim (fun r : (Bool × tZ12) => (r.1, (cX12 r.2))) (q_X12_readItem_J94 v1 zT v2 v4 k94_0) (p_X12_readItem_J94 u0 u1 u2 u3 u4) := by
  subst e0 e1 e2 e3 e4
  unfold q_X12_readItem_J94 p_X12_readItem_J94
  exact sim_kb (c1 := (fun r : (Bool × tZ12) => (r.1, (cX12 r.2)))) (m_X12_readNumber rfl rfl) (fun x9 => sim_kif Iff.rfl (sim_some rfl) (sim_kii rfl (by decide) (fun g1 => sim_kl (c := (fun r : ((Nat → Int) × (Nat → Int) × (Nat → Nat → Int) × (Nat → Nat → Int)) => ((cF r.1), (cG r.2.1), (cFF r.2.2.1), (cGG r.2.2.2)))) (c_pr rfl (c_pr rfl (c_pr (c_vupp rfl rfl (c_upd rfl (c_idx rfl g1 (by decide)) rfl)) rfl))) (fun z10 => sim_kb (c1 := (fun r : (Bool × tZ12) => (r.1, (cX12 r.2)))) (m_X12_takes rfl l32_44) (fun x11 => sim_kif Iff.rfl (sim_some rfl) (sim_kb (c1 := (fun r : (Bool × tZ12) => (r.1, (cX12 r.2)))) (m_X12_readNumber rfl rfl) (fun x12 => sim_kif Iff.rfl (sim_some rfl) (sim_kii rfl (by decide) (fun g2 => sim_kl (c := (fun r : ((Nat → Int) × (Nat → Int) × (Nat → Nat → Int) × (Nat → Nat → Int)) => ((cF r.1), (cG r.2.1), (cFF r.2.2.1), (cGG r.2.2.2)))) (c_pr rfl (c_pr rfl (c_pr (c_vupp rfl rfl (c_upd rfl (c_idx rfl g2 (by decide)) rfl)) rfl))) (fun z13 => sim_g (fun g3 => sim_kif (i_eq rfl l32_0 g3 (by decide)) (m_X12_readItem_J174 rfl rfl rfl rfl) (m_X12_readItem_J174 rfl rfl rfl (c_add l32_4 rfl)))))))))))))

def q_X12_readItem_J74 (v1 : Int) (zT : tZ12) (v2 : Int) (v4 : Int) : Option (Bool × tZ12) :=
  kl ((va_up zT.1 5 ((zT.1 5) + (1 : Int))), zT.2) (fun z8 : ((Nat → Int) × ((Nat → Int) × (Nat → Nat → Int) × (Nat → Nat → Int))) => kg (k32 v2) (kif (v2 = (0 : Int)) (q_X12_readItem_J94 v1 z8 v2 v4 (100 : Int)) (q_X12_readItem_J94 v1 z8 v2 v4 (3 : Int))))
theorem m_X12_readItem_J74 {v1 : Int} {u0 : Int32} {zT : tZ12} {u1 : tX12} {v2 : Int} {u2 : Int32} {v4 : Int} {u3 : Int32} (e0 : u0 = (Int32.ofInt v1)) (e1 : u1 = (cX12 zT)) (e2 : u2 = (Int32.ofInt v2)) (e3 : u3 = (Int32.ofInt v4)) : sim (fun r : (Bool × tZ12) => (r.1, (cX12 r.2))) (q_X12_readItem_J74 v1 zT v2 v4) (p_X12_readItem_J74 u0 u1 u2 u3) := by
  subst e0 e1 e2 e3
  unfold q_X12_readItem_J74 p_X12_readItem_J74
  exact sim_kl (c := (fun r : ((Nat → Int) × ((Nat → Int) × (Nat → Nat → Int) × (Nat → Nat → Int))) => ((cF r.1), ((cG r.2.1), (cFF r.2.2.1), (cGG r.2.2.2))))) (c_pr (c_vup rfl rfl (c_add rfl l32_1)) rfl) (fun z8 => sim_g (fun g1 => sim_kif (i_eq rfl l32_0 g1 (by decide)) (m_X12_readItem_J94 rfl rfl rfl rfl l32_100) (m_X12_readItem_J94 rfl rfl rfl rfl l32_3)))

def q_X12_readItem_J34 (v1 : Int) (zT : tZ12) (v2 : Int) (v3 : Int) : Option (Bool × tZ12) :=
  kb (q_X12_here zT) (fun x3 : Int => kl (x3 - (97 : Int)) (fun y4 : Int => kb (q_X12_isHeap y4) (fun x5 : Bool => kif (kz x5 = 0) (kb (q_X12_fails zT (zT.1 5)) (fun x6 : (Bool × tZ12) => some (x6.1, x6.2))) (kg (k32 v2) (kif (v2 = (0 : Int)) (kg (k32 v1) (kif (v1 = (0 : Int)) (kb (q_X12_fails zT v3) (fun x7 : (Bool × tZ12) => some (x7.1, x7.2))) (q_X12_readItem_J74 v1 zT v2 y4))) (q_X12_readItem_J74 v1 zT v2 y4))))))
theorem m_X12_readItem_J34 {v1 : Int} {u0 : Int32} {zT : tZ12} {u1 : tX12} {v2 : Int} {u2 : Int32} {v3 : Int} {u3 : Int32} (e0 : u0 = (Int32.ofInt v1)) (e1 : u1 = (cX12 zT)) (e2 : u2 = (Int32.ofInt v2)) (e3 : u3 = (Int32.ofInt v3)) : sim (fun r : (Bool × tZ12) => (r.1, (cX12 r.2))) (q_X12_readItem_J34 v1 zT v2 v3) (p_X12_readItem_J34 u0 u1 u2 u3) := by
  subst e0 e1 e2 e3
  unfold q_X12_readItem_J34 p_X12_readItem_J34
  exact sim_kb (c1 := Int32.ofInt) (m_X12_here rfl) (fun x3 => sim_kl (c := Int32.ofInt) (c_sub rfl l32_97) (fun y4 => sim_kb (c1 := (fun r : Bool => r)) (m_X12_isHeap rfl) (fun x5 => sim_kif Iff.rfl (sim_kb (c1 := (fun r : (Bool × tZ12) => (r.1, (cX12 r.2)))) (m_X12_fails rfl rfl) (fun x6 => sim_some rfl)) (sim_g (fun g1 => sim_kif (i_eq rfl l32_0 g1 (by decide)) (sim_g (fun g2 => sim_kif (i_eq rfl l32_0 g2 (by decide)) (sim_kb (c1 := (fun r : (Bool × tZ12) => (r.1, (cX12 r.2)))) (m_X12_fails rfl rfl) (fun x7 => sim_some rfl)) (m_X12_readItem_J74 rfl rfl rfl rfl))) (m_X12_readItem_J74 rfl rfl rfl rfl))))))

def q_X12_readItem_J14 (v1 : Int) (zT : tZ12) (k14_0 : Int) : Option (Bool × tZ12) :=
  kl (zT.1 5) (fun y2 : Int => kg (k32 k14_0) (kif (k14_0 = (0 : Int)) (q_X12_readItem_J34 v1 zT k14_0 y2) (kl ((va_up zT.1 5 ((zT.1 5) + (1 : Int))), zT.2) (fun z17 : ((Nat → Int) × ((Nat → Int) × (Nat → Nat → Int) × (Nat → Nat → Int))) => q_X12_readItem_J34 v1 z17 k14_0 y2))))
theorem m_X12_readItem_J14 {v1 : Int} {u0 : Int32} {zT : tZ12} {u1 : tX12} {k14_0 : Int} {u2 : Int32} (e0 : u0 = (Int32.ofInt v1)) (e1 : u1 = (cX12 zT)) (e2 : u2 = (Int32.ofInt k14_0)) : sim (fun r : (Bool × tZ12) => (r.1, (cX12 r.2))) (q_X12_readItem_J14 v1 zT k14_0) (p_X12_readItem_J14 u0 u1 u2) := by
  subst e0 e1 e2
  unfold q_X12_readItem_J14 p_X12_readItem_J14
  exact sim_kl (c := Int32.ofInt) rfl (fun y2 => sim_g (fun g1 => sim_kif (i_eq rfl l32_0 g1 (by decide)) (m_X12_readItem_J34 rfl rfl rfl rfl) (sim_kl (c := (fun r : ((Nat → Int) × ((Nat → Int) × (Nat → Nat → Int) × (Nat → Nat → Int))) => ((cF r.1), ((cG r.2.1), (cFF r.2.2.1), (cGG r.2.2.2))))) (c_pr (c_vup rfl rfl (c_add rfl l32_1)) rfl) (fun z17 => m_X12_readItem_J34 rfl rfl rfl rfl))))

def q_X12_readItem (zT : tZ12) (v1 : Int) : Option (Bool × tZ12) :=
  kb (q_X12_here zT) (fun x1 : Int => kg (k32 x1) (kif (x1 = (112 : Int)) (q_X12_readItem_J14 v1 zT (1 : Int)) (q_X12_readItem_J14 v1 zT (0 : Int))))
theorem m_X12_readItem {zT : tZ12} {u0 : tX12} {v1 : Int} {u1 : Int32} (e0 : u0 = (cX12 zT)) (e1 : u1 = (Int32.ofInt v1)) : sim (fun r : (Bool × tZ12) => (r.1, (cX12 r.2))) (q_X12_readItem zT v1) (p_X12_readItem u0 u1) := by
  subst e0 e1
  unfold q_X12_readItem p_X12_readItem
  exact sim_kb (c1 := Int32.ofInt) (m_X12_here rfl) (fun x1 => sim_g (fun g1 => sim_kif (i_eq rfl l32_112 g1 (by decide)) (m_X12_readItem_J14 rfl rfl l32_1) (m_X12_readItem_J14 rfl rfl l32_0)))

def q_X12_readText_L24 (s : (Int × tZ12)) : Option (Nat × (Int × tZ12)) :=
  kg (k32 (s.2.1 4) ∧ k32 (s.2.1 5)) (kif ((s.2.1 4) ≤ (s.2.1 5)) (some (71, (s.1, s.2))) (kl (s.2.1 11) (fun y6 : Int => kb (q_X12_readItem s.2 s.1) (fun x7 : (Bool × tZ12) => kif (kz x7.1 = 0) (some (48, (s.1, x7.2))) (kg (0 ≤ y6 ∧ y6 < 100) (kg (k32 ((x7.2.2.2.1 8) (y6.toNat))) (kif ((4 : Int) ≤ ((x7.2.2.2.1 8) (y6.toNat))) (kl (s.1 - (0 : Int)) (fun y8 : Int => some (24, (y8, x7.2)))) (kl (s.1 - (1 : Int)) (fun y9 : Int => some (24, (y9, x7.2)))))))))))
theorem m_X12_readText_L24 {s : (Int × tZ12)} {u0 : (Int32 × tX12)} (e0 : u0 = ((Int32.ofInt s.1), (cX12 s.2))) : sim (fun r : (Nat × (Int × tZ12)) => (r.1, ((Int32.ofInt r.2.1), (cX12 r.2.2)))) (q_X12_readText_L24 s) (p_X12_readText_L24 u0) := by
  subst e0
  unfold q_X12_readText_L24 p_X12_readText_L24
  exact sim_g (fun g1 => sim_kif (i_le rfl rfl g1.1 g1.2) (sim_some rfl) (sim_kl (c := Int32.ofInt) rfl (fun y6 => sim_kb (c1 := (fun r : (Bool × tZ12) => (r.1, (cX12 r.2)))) (m_X12_readItem rfl rfl) (fun x7 => sim_kif Iff.rfl (sim_some rfl) (sim_kii rfl (by decide) (fun g2 => sim_g (fun g3 => sim_kif (i_le l32_4 (c_ap (x7.2.2.2.1 8) (c_idx rfl g2 (by decide))) (by decide) g3) (sim_kl (c := Int32.ofInt) (c_sub rfl l32_0) (fun y8 => sim_some rfl)) (sim_kl (c := Int32.ofInt) (c_sub rfl l32_1) (fun y9 => sim_some rfl)))))))))

def q_X12_readText (zT : tZ12) : Option (Bool × tZ12) :=
  kl ((va_up zT.1 5 (0 : Int)), zT.2) (fun z1 : ((Nat → Int) × ((Nat → Int) × (Nat → Nat → Int) × (Nat → Nat → Int))) => kl ((va_up z1.1 6 (-1 : Int)), z1.2) (fun z2 : ((Nat → Int) × ((Nat → Int) × (Nat → Nat → Int) × (Nat → Nat → Int))) => kl ((va_up z2.1 11 (0 : Int)), z2.2) (fun z3 : ((Nat → Int) × ((Nat → Int) × (Nat → Nat → Int) × (Nat → Nat → Int))) => kb (q_X12_countPoints z3 (-1 : Int)) (fun x4 : Int => kl ((40 : Int) - x4) (fun y5 : Int => kb (kitr 24 (fun q => q_X12_readText_L24  q) kF (y5, z3)) (fun x10 : (Nat × Int × tZ12) => kif (x10.1 = 48) (some (false, x10.2.2)) (kg ((x10.1 = 71)) (some (true, x10.2.2)))))))))
theorem m_X12_readText {zT : tZ12} {u0 : tX12} (e0 : u0 = (cX12 zT)) : sim (fun r : (Bool × tZ12) => (r.1, (cX12 r.2))) (q_X12_readText zT) (p_X12_readText u0) := by
  subst e0
  unfold q_X12_readText p_X12_readText
  exact sim_kl (c := (fun r : ((Nat → Int) × ((Nat → Int) × (Nat → Nat → Int) × (Nat → Nat → Int))) => ((cF r.1), ((cG r.2.1), (cFF r.2.2.1), (cGG r.2.2.2))))) (c_pr (c_vup rfl rfl l32_0) rfl) (fun z1 => sim_kl (c := (fun r : ((Nat → Int) × ((Nat → Int) × (Nat → Nat → Int) × (Nat → Nat → Int))) => ((cF r.1), ((cG r.2.1), (cFF r.2.2.1), (cGG r.2.2.2))))) (c_pr (c_vup rfl rfl l32_m1) rfl) (fun z2 => sim_kl (c := (fun r : ((Nat → Int) × ((Nat → Int) × (Nat → Nat → Int) × (Nat → Nat → Int))) => ((cF r.1), ((cG r.2.1), (cFF r.2.2.1), (cGG r.2.2.2))))) (c_pr (c_vup rfl rfl l32_0) rfl) (fun z3 => sim_kb (c1 := Int32.ofInt) (m_X12_countPoints rfl l32_m1) (fun x4 => sim_kl (c := Int32.ofInt) (c_sub l32_40 rfl) (fun y5 => sim_kb (c1 := (fun r : (Nat × Int × tZ12) => (r.1, (Int32.ofInt r.2.1), (cX12 r.2.2)))) (sim_kitr (c := (fun r : (Int × tZ12) => ((Int32.ofInt r.1), (cX12 r.2)))) (fun _ => m_X12_readText_L24  rfl) rfl) (fun x10 => sim_kif Iff.rfl (sim_some rfl) (sim_kg Iff.rfl (sim_some rfl))))))))

def q_X12_text_L22 (s : (Int × tZ12)) : Option (Nat × (Int × tZ12)) :=
  kg (k32 (s.2.1 11) ∧ k32 s.1) (kif ((s.2.1 11) ≤ s.1) (some (99, (s.1, s.2))) (kg (0 ≤ s.1 ∧ s.1 < 100) (kg (k32 ((s.2.2.2.1 8) (s.1.toNat))) (kif ((4 : Int) ≤ ((s.2.2.2.1 8) (s.1.toNat))) (kb (q_X12_layPace s.2 (((s.2.2.2.1 8) (s.1.toNat)) - (4 : Int)) ((s.2.2.2.1 9) (s.1.toNat)) ((s.2.2.2.1 10) (s.1.toNat))) (fun x5 : tZ12 => kl (s.1 + (1 : Int)) (fun y6 : Int => some (22, (y6, x5))))) (kb (q_X12_free s.2) (fun x7 : Int => kb (q_X12_lay s.2 x7 ((s.2.2.2.1 9) (s.1.toNat)) ((s.2.2.2.1 10) (s.1.toNat)) ((s.2.2.2.1 8) (s.1.toNat))) (fun x8 : tZ12 => kl (s.1 + (1 : Int)) (fun y9 : Int => some (22, (y9, x8))))))))))
theorem m_X12_text_L22 {s : (Int × tZ12)} {u0 : (Int32 × tX12)} (e0 : u0 = ((Int32.ofInt s.1), (cX12 s.2))) : sim (fun r : (Nat × (Int × tZ12)) => (r.1, ((Int32.ofInt r.2.1), (cX12 r.2.2)))) (q_X12_text_L22 s) (p_X12_text_L22 u0) := by
  subst e0
  unfold q_X12_text_L22 p_X12_text_L22
  exact sim_g (fun g1 => sim_kif (i_le rfl rfl g1.1 g1.2) (sim_some rfl) (sim_kii rfl (by decide) (fun g2 => sim_g (fun g3 => sim_kif (i_le l32_4 (c_ap (s.2.2.2.1 8) (c_idx rfl g2 (by decide))) (by decide) g3) (sim_kii0 rfl (by decide) g2 (sim_kii0 rfl (by decide) g2 (sim_kii0 rfl (by decide) g2 (sim_kb (c1 := cX12) (m_X12_layPace rfl (c_sub (c_ap (s.2.2.2.1 8) (c_idx rfl g2 (by decide))) l32_4) (c_ap (s.2.2.2.1 9) (c_idx rfl g2 (by decide))) (c_ap (s.2.2.2.1 10) (c_idx rfl g2 (by decide)))) (fun x5 => sim_kl (c := Int32.ofInt) (c_add rfl l32_1) (fun y6 => sim_some rfl)))))) (sim_kb (c1 := Int32.ofInt) (m_X12_free rfl) (fun x7 => sim_kii0 rfl (by decide) g2 (sim_kii0 rfl (by decide) g2 (sim_kii0 rfl (by decide) g2 (sim_kb (c1 := cX12) (m_X12_lay rfl rfl (c_ap (s.2.2.2.1 9) (c_idx rfl g2 (by decide))) (c_ap (s.2.2.2.1 10) (c_idx rfl g2 (by decide))) (c_ap (s.2.2.2.1 8) (c_idx rfl g2 (by decide)))) (fun x8 => sim_kl (c := Int32.ofInt) (c_add rfl l32_1) (fun y9 => sim_some rfl)))))))))))

def q_X12_text (zT : tZ12) : Option (Int × tZ12) :=
  kb (q_X12_readText zT) (fun x1 : (Bool × tZ12) => kl (kzI x1.1) (fun y2 : Int => kl ((va_up x1.2.1 4 (0 : Int)), x1.2.2) (fun z3 : ((Nat → Int) × ((Nat → Int) × (Nat → Nat → Int) × (Nat → Nat → Int))) => kg (k32 y2) (kif (y2 = (0 : Int)) (some ((-1 : Int), z3)) (kb (q_X12_keep z3) (fun x4 : tZ12 => kb (kitr 22 (fun q => q_X12_text_L22  q) kF ((0 : Int), x4)) (fun x10 : (Nat × Int × tZ12) => kg ((x10.1 = 99)) (some ((x10.2.2.1 11), x10.2.2)))))))))
theorem m_X12_text {zT : tZ12} {u0 : tX12} (e0 : u0 = (cX12 zT)) : sim (fun r : (Int × tZ12) => ((Int32.ofInt r.1), (cX12 r.2))) (q_X12_text zT) (p_X12_text u0) := by
  subst e0
  unfold q_X12_text p_X12_text
  exact sim_kb (c1 := (fun r : (Bool × tZ12) => (r.1, (cX12 r.2)))) (m_X12_readText rfl) (fun x1 => sim_kl (c := Int32.ofInt) (c_kz _) (fun y2 => sim_kl (c := (fun r : ((Nat → Int) × ((Nat → Int) × (Nat → Nat → Int) × (Nat → Nat → Int))) => ((cF r.1), ((cG r.2.1), (cFF r.2.2.1), (cGG r.2.2.2))))) (c_pr (c_vup rfl rfl l32_0) rfl) (fun z3 => sim_g (fun g1 => sim_kif (i_eq rfl l32_0 g1 (by decide)) (sim_some (c_pr l32_m1 rfl)) (sim_kb (c1 := cX12) (m_X12_keep rfl) (fun x4 => sim_kb (c1 := (fun r : (Nat × Int × tZ12) => (r.1, (Int32.ofInt r.2.1), (cX12 r.2.2)))) (sim_kitr (c := (fun r : (Int × tZ12) => ((Int32.ofInt r.1), (cX12 r.2)))) (fun _ => m_X12_text_L22  rfl) (c_pr l32_0 rfl)) (fun x10 => sim_kg Iff.rfl (sim_some rfl))))))))

def q_X12_fault (zT : tZ12) : Option Int :=
  some (zT.1 6)
theorem m_X12_fault {zT : tZ12} {u0 : tX12} (e0 : u0 = (cX12 zT)) : sim Int32.ofInt (q_X12_fault zT) (p_X12_fault u0) := by
  subst e0
  unfold q_X12_fault p_X12_fault
  exact sim_some rfl

def q_X12_isOf (zT : tZ12) (v1 : Int) (v2 : Int) : Option Bool :=
  kg (0 ≤ ((0 : Int) + v2) ∧ ((0 : Int) + v2) < 170) (kg (k32 ((zT.2.2.1 0) (((0 : Int) + v2).toNat))) (kif (((zT.2.2.1 0) (((0 : Int) + v2).toNat)) = (1 : Int)) (kg (0 ≤ ((120 : Int) + v2) ∧ ((120 : Int) + v2) < 170) (kif ((zand32 (zshr32 v1 (zand32 ((zT.2.2.1 0) (((120 : Int) + v2).toNat)) (31 : Int))) (1 : Int)) = (1 : Int)) (some true) (some false))) (some false)))
theorem m_X12_isOf {zT : tZ12} {u0 : tX12} {v1 : Int} {u1 : Int32} {v2 : Int} {u2 : Int32} (e0 : u0 = (cX12 zT)) (e1 : u1 = (Int32.ofInt v1)) (e2 : u2 = (Int32.ofInt v2)) : sim (fun r : Bool => r) (q_X12_isOf zT v1 v2) (p_X12_isOf u0 u1 u2) := by
  subst e0 e1 e2
  unfold q_X12_isOf p_X12_isOf
  exact sim_kii (c_add l32_0 rfl) (by decide) (fun g1 => sim_g (fun g2 => sim_kif (i_eq (c_ap (zT.2.2.1 0) (c_idx (c_add l32_0 rfl) g1 (by decide))) l32_1 g2 (by decide)) (sim_kii (c_add l32_120 rfl) (by decide) (fun g3 => sim_kif (i_eq (c_and (c_shr rfl (c_and (c_ap (zT.2.2.1 0) (c_idx (c_add l32_120 rfl) g3 (by decide))) l32_31)) l32_1) l32_1 (k32_to _) (by decide)) (sim_some rfl) (sim_some rfl))) (sim_some rfl)))

def q_X12_isSet (v0 : Int) : Option Bool :=
  kb (q_X12_isIn v0 (1 : Int) (15 : Int)) (fun x1 : Bool => some x1)
theorem m_X12_isSet {v0 : Int} {u0 : Int32} (e0 : u0 = (Int32.ofInt v0)) : sim (fun r : Bool => r) (q_X12_isSet v0) (p_X12_isSet u0) := by
  subst e0
  unfold q_X12_isSet p_X12_isSet
  exact sim_kb (c1 := (fun r : Bool => r)) (m_X12_isIn rfl l32_1 l32_15) (fun x1 => sim_some rfl)

def q_X12_addSpot_L3 (v1 : Int) (v2 : Int) (v3 : Int) (zT : tZ12) (s : Int) : Option (Nat × Int) :=
  kg (k32 (zT.1 15) ∧ k32 s) (kif ((zT.1 15) ≤ s) (some (51, s)) (kg (0 ≤ s ∧ s < 41) (kg (k32 ((zT.2.2.1 12) (s.toNat)) ∧ k32 v1) (kif (((zT.2.2.1 12) (s.toNat)) < v1) (kl (s + (1 : Int)) (fun y1 : Int => some (3, y1))) (kif (((zT.2.2.1 12) (s.toNat)) = v1) (kg (k32 v2 ∧ k32 ((zT.2.2.1 13) (s.toNat))) (kif (v2 ≤ ((zT.2.2.1 13) (s.toNat))) (some (51, s)) (kl (s + (1 : Int)) (fun y2 : Int => some (3, y2))))) (some (51, s)))))))
theorem m_X12_addSpot_L3 {v1 : Int} {u0 : Int32} {v2 : Int} {u1 : Int32} {v3 : Int} {u2 : Int32} {zT : tZ12} {u3 : tX12} {s : Int} {u4 : Int32} (e0 : u0 = (Int32.ofInt v1)) (e1 : u1 = (Int32.ofInt v2)) (e2 : u2 = (Int32.ofInt v3)) (e3 : u3 = (cX12 zT)) (e4 : u4 = (Int32.ofInt s)) : sim (fun r : (Nat × Int) => (r.1, (Int32.ofInt r.2))) (q_X12_addSpot_L3 v1 v2 v3 zT s) (p_X12_addSpot_L3 u0 u1 u2 u3 u4) := by
  subst e0 e1 e2 e3 e4
  unfold q_X12_addSpot_L3 p_X12_addSpot_L3
  exact sim_g (fun g1 => sim_kif (i_le rfl rfl g1.1 g1.2) (sim_some rfl) (sim_kii rfl (by decide) (fun g2 => sim_g (fun g3 => sim_kif (i_lt (c_ap (zT.2.2.1 12) (c_idx rfl g2 (by decide))) rfl g3.1 g3.2) (sim_kl (c := Int32.ofInt) (c_add rfl l32_1) (fun y1 => sim_some rfl)) (sim_kii0 rfl (by decide) g2 (sim_kif (i_eq (c_ap (zT.2.2.1 12) (c_idx rfl g2 (by decide))) rfl g3.1 g3.2) (sim_kii0 rfl (by decide) g2 (sim_g (fun g4 => sim_kif (i_le rfl (c_ap (zT.2.2.1 13) (c_idx rfl g2 (by decide))) g4.1 g4.2) (sim_some rfl) (sim_kl (c := Int32.ofInt) (c_add rfl l32_1) (fun y2 => sim_some rfl))))) (sim_some rfl)))))))

def q_X12_addSpot_L89 (v1 : Int) (v2 : Int) (v3 : Int) (v4 : Int) (s : (Int × tZ12)) : Option (Nat × (Int × tZ12)) :=
  kg (k32 s.1 ∧ k32 v4) (kif (s.1 ≤ v4) (some (150, (s.1, s.2))) (kg (0 ≤ (s.1 - (1 : Int)) ∧ (s.1 - (1 : Int)) < 41) (kg (0 ≤ s.1 ∧ s.1 < 41) (kl (s.2.1, s.2.2.1, (va_up s.2.2.2.1 12 (va_up (s.2.2.2.1 12) (s.1.toNat) ((s.2.2.2.1 12) ((s.1 - (1 : Int)).toNat)))), s.2.2.2.2) (fun z5 : ((Nat → Int) × (Nat → Int) × (Nat → Nat → Int) × (Nat → Nat → Int)) => kl (z5.1, z5.2.1, (va_up z5.2.2.1 13 (va_up (z5.2.2.1 13) (s.1.toNat) ((z5.2.2.1 13) ((s.1 - (1 : Int)).toNat)))), z5.2.2.2) (fun z6 : ((Nat → Int) × (Nat → Int) × (Nat → Nat → Int) × (Nat → Nat → Int)) => kl (z6.1, z6.2.1, (va_up z6.2.2.1 14 (va_up (z6.2.2.1 14) (s.1.toNat) ((z6.2.2.1 14) ((s.1 - (1 : Int)).toNat)))), z6.2.2.2) (fun z7 : ((Nat → Int) × (Nat → Int) × (Nat → Nat → Int) × (Nat → Nat → Int)) => kl (s.1 + (-1 : Int)) (fun y8 : Int => some (89, (y8, z7))))))))))
theorem m_X12_addSpot_L89 {v1 : Int} {u0 : Int32} {v2 : Int} {u1 : Int32} {v3 : Int} {u2 : Int32} {v4 : Int} {u3 : Int32} {s : (Int × tZ12)} {u4 : (Int32 × tX12)} (e0 : u0 = (Int32.ofInt v1)) (e1 : u1 = (Int32.ofInt v2)) (e2 : u2 = (Int32.ofInt v3)) (e3 : u3 = (Int32.ofInt v4)) (e4 : u4 = ((Int32.ofInt s.1), (cX12 s.2))) : sim (fun r : (Nat × (Int × tZ12)) => (r.1, ((Int32.ofInt r.2.1), (cX12 r.2.2)))) (q_X12_addSpot_L89 v1 v2 v3 v4 s) (p_X12_addSpot_L89 u0 u1 u2 u3 u4) := by
  subst e0 e1 e2 e3 e4
  unfold q_X12_addSpot_L89 p_X12_addSpot_L89
  exact sim_g (fun g1 => sim_kif (i_le rfl rfl g1.1 g1.2) (sim_some rfl) (sim_kii (c_sub rfl l32_1) (by decide) (fun g2 => sim_kii rfl (by decide) (fun g3 => sim_kl (c := (fun r : ((Nat → Int) × (Nat → Int) × (Nat → Nat → Int) × (Nat → Nat → Int)) => ((cF r.1), (cG r.2.1), (cFF r.2.2.1), (cGG r.2.2.2)))) (c_pr rfl (c_pr rfl (c_pr (c_vupp rfl rfl (c_upd rfl (c_idx rfl g3 (by decide)) (c_ap (s.2.2.2.1 12) (c_idx (c_sub rfl l32_1) g2 (by decide))))) rfl))) (fun z5 => sim_kii0 (c_sub rfl l32_1) (by decide) g2 (sim_kii0 rfl (by decide) g3 (sim_kl (c := (fun r : ((Nat → Int) × (Nat → Int) × (Nat → Nat → Int) × (Nat → Nat → Int)) => ((cF r.1), (cG r.2.1), (cFF r.2.2.1), (cGG r.2.2.2)))) (c_pr rfl (c_pr rfl (c_pr (c_vupp rfl rfl (c_upd rfl (c_idx rfl g3 (by decide)) (c_ap (z5.2.2.1 13) (c_idx (c_sub rfl l32_1) g2 (by decide))))) rfl))) (fun z6 => sim_kii0 (c_sub rfl l32_1) (by decide) g2 (sim_kii0 rfl (by decide) g3 (sim_kl (c := (fun r : ((Nat → Int) × (Nat → Int) × (Nat → Nat → Int) × (Nat → Nat → Int)) => ((cF r.1), (cG r.2.1), (cFF r.2.2.1), (cGG r.2.2.2)))) (c_pr rfl (c_pr rfl (c_pr (c_vupp rfl rfl (c_upd rfl (c_idx rfl g3 (by decide)) (c_ap (z6.2.2.1 14) (c_idx (c_sub rfl l32_1) g2 (by decide))))) rfl))) (fun z7 => sim_kl (c := Int32.ofInt) (c_add rfl l32_m1) (fun y8 => sim_some rfl))))))))))))

def q_X12_addSpot_J83 (v1 : Int) (v2 : Int) (v3 : Int) (zT : tZ12) (v4 : Int) : Option tZ12 :=
  kl (zT.1 15) (fun y4 : Int => kb (kitr 89 (fun q => q_X12_addSpot_L89 v1 v2 v3 v4 q) kF (y4, zT)) (fun x9 : (Nat × Int × tZ12) => kg ((x9.1 = 150)) (kg (0 ≤ v4 ∧ v4 < 41) (kl (x9.2.2.1, x9.2.2.2.1, (va_up x9.2.2.2.2.1 12 (va_up (x9.2.2.2.2.1 12) (v4.toNat) v1)), x9.2.2.2.2.2) (fun z10 : ((Nat → Int) × (Nat → Int) × (Nat → Nat → Int) × (Nat → Nat → Int)) => kl (z10.1, z10.2.1, (va_up z10.2.2.1 13 (va_up (z10.2.2.1 13) (v4.toNat) v2)), z10.2.2.2) (fun z11 : ((Nat → Int) × (Nat → Int) × (Nat → Nat → Int) × (Nat → Nat → Int)) => kl (z11.1, z11.2.1, (va_up z11.2.2.1 14 (va_up (z11.2.2.1 14) (v4.toNat) v3)), z11.2.2.2) (fun z12 : ((Nat → Int) × (Nat → Int) × (Nat → Nat → Int) × (Nat → Nat → Int)) => kl ((va_up z12.1 15 ((z12.1 15) + (1 : Int))), z12.2) (fun z13 : ((Nat → Int) × ((Nat → Int) × (Nat → Nat → Int) × (Nat → Nat → Int))) => some z13))))))))
theorem m_X12_addSpot_J83 {v1 : Int} {u0 : Int32} {v2 : Int} {u1 : Int32} {v3 : Int} {u2 : Int32} {zT : tZ12} {u3 : tX12} {v4 : Int} {u4 : Int32} (e0 : u0 = (Int32.ofInt v1)) (e1 : u1 = (Int32.ofInt v2)) (e2 : u2 = (Int32.ofInt v3)) (e3 : u3 = (cX12 zT)) (e4 : u4 = (Int32.ofInt v4)) : sim cX12 (q_X12_addSpot_J83 v1 v2 v3 zT v4) (p_X12_addSpot_J83 u0 u1 u2 u3 u4) := by
  subst e0 e1 e2 e3 e4
  unfold q_X12_addSpot_J83 p_X12_addSpot_J83
  exact sim_kl (c := Int32.ofInt) rfl (fun y4 => sim_kb (c1 := (fun r : (Nat × Int × tZ12) => (r.1, (Int32.ofInt r.2.1), (cX12 r.2.2)))) (sim_kitr (c := (fun r : (Int × tZ12) => ((Int32.ofInt r.1), (cX12 r.2)))) (fun _ => m_X12_addSpot_L89 rfl rfl rfl rfl rfl) rfl) (fun x9 => sim_kg Iff.rfl (sim_kii rfl (by decide) (fun g1 => sim_kl (c := (fun r : ((Nat → Int) × (Nat → Int) × (Nat → Nat → Int) × (Nat → Nat → Int)) => ((cF r.1), (cG r.2.1), (cFF r.2.2.1), (cGG r.2.2.2)))) (c_pr rfl (c_pr rfl (c_pr (c_vupp rfl rfl (c_upd rfl (c_idx rfl g1 (by decide)) rfl)) rfl))) (fun z10 => sim_kii0 rfl (by decide) g1 (sim_kl (c := (fun r : ((Nat → Int) × (Nat → Int) × (Nat → Nat → Int) × (Nat → Nat → Int)) => ((cF r.1), (cG r.2.1), (cFF r.2.2.1), (cGG r.2.2.2)))) (c_pr rfl (c_pr rfl (c_pr (c_vupp rfl rfl (c_upd rfl (c_idx rfl g1 (by decide)) rfl)) rfl))) (fun z11 => sim_kii0 rfl (by decide) g1 (sim_kl (c := (fun r : ((Nat → Int) × (Nat → Int) × (Nat → Nat → Int) × (Nat → Nat → Int)) => ((cF r.1), (cG r.2.1), (cFF r.2.2.1), (cGG r.2.2.2)))) (c_pr rfl (c_pr rfl (c_pr (c_vupp rfl rfl (c_upd rfl (c_idx rfl g1 (by decide)) rfl)) rfl))) (fun z12 => sim_kl (c := (fun r : ((Nat → Int) × ((Nat → Int) × (Nat → Nat → Int) × (Nat → Nat → Int))) => ((cF r.1), ((cG r.2.1), (cFF r.2.2.1), (cGG r.2.2.2))))) (c_pr (c_vup rfl rfl (c_add rfl l32_1)) rfl) (fun z13 => sim_some rfl))))))))))

def q_X12_addSpot_J51 (v1 : Int) (v2 : Int) (v3 : Int) (zT : tZ12) (v4 : Int) : Option tZ12 :=
  kg (k32 (zT.1 15) ∧ k32 v4) (kif ((zT.1 15) ≤ v4) (q_X12_addSpot_J83 v1 v2 v3 zT v4) (kg (0 ≤ v4 ∧ v4 < 41) (kg (k32 ((zT.2.2.1 12) (v4.toNat)) ∧ k32 v1) (kif (((zT.2.2.1 12) (v4.toNat)) = v1) (kg (k32 ((zT.2.2.1 13) (v4.toNat)) ∧ k32 v2) (kif (((zT.2.2.1 13) (v4.toNat)) = v2) (some zT) (q_X12_addSpot_J83 v1 v2 v3 zT v4))) (q_X12_addSpot_J83 v1 v2 v3 zT v4)))))
theorem m_X12_addSpot_J51 {v1 : Int} {u0 : Int32} {v2 : Int} {u1 : Int32} {v3 : Int} {u2 : Int32} {zT : tZ12} {u3 : tX12} {v4 : Int} {u4 : Int32} (e0 : u0 = (Int32.ofInt v1)) (e1 : u1 = (Int32.ofInt v2)) (e2 : u2 = (Int32.ofInt v3)) (e3 : u3 = (cX12 zT)) (e4 : u4 = (Int32.ofInt v4)) : sim cX12 (q_X12_addSpot_J51 v1 v2 v3 zT v4) (p_X12_addSpot_J51 u0 u1 u2 u3 u4) := by
  subst e0 e1 e2 e3 e4
  unfold q_X12_addSpot_J51 p_X12_addSpot_J51
  exact sim_g (fun g1 => sim_kif (i_le rfl rfl g1.1 g1.2) (m_X12_addSpot_J83 rfl rfl rfl rfl rfl) (sim_kii rfl (by decide) (fun g2 => sim_g (fun g3 => sim_kif (i_eq (c_ap (zT.2.2.1 12) (c_idx rfl g2 (by decide))) rfl g3.1 g3.2) (sim_kii0 rfl (by decide) g2 (sim_g (fun g4 => sim_kif (i_eq (c_ap (zT.2.2.1 13) (c_idx rfl g2 (by decide))) rfl g4.1 g4.2) (sim_some rfl) (m_X12_addSpot_J83 rfl rfl rfl rfl rfl)))) (m_X12_addSpot_J83 rfl rfl rfl rfl rfl)))))

def q_X12_addSpot (zT : tZ12) (v1 : Int) (v2 : Int) (v3 : Int) : Option tZ12 :=
  kb (kitr 3 (fun q => q_X12_addSpot_L3 v1 v2 v3 zT q) kF (0 : Int)) (fun x3 : (Nat × Int) => kg ((x3.1 = 51)) (q_X12_addSpot_J51 v1 v2 v3 zT x3.2))
theorem m_X12_addSpot {zT : tZ12} {u0 : tX12} {v1 : Int} {u1 : Int32} {v2 : Int} {u2 : Int32} {v3 : Int} {u3 : Int32} (e0 : u0 = (cX12 zT)) (e1 : u1 = (Int32.ofInt v1)) (e2 : u2 = (Int32.ofInt v2)) (e3 : u3 = (Int32.ofInt v3)) : sim cX12 (q_X12_addSpot zT v1 v2 v3) (p_X12_addSpot u0 u1 u2 u3) := by
  subst e0 e1 e2 e3
  unfold q_X12_addSpot p_X12_addSpot
  exact sim_kb (c1 := (fun r : (Nat × Int) => (r.1, (Int32.ofInt r.2)))) (sim_kitr (c := Int32.ofInt) (fun _ => m_X12_addSpot_L3 rfl rfl rfl rfl rfl) l32_0) (fun x3 => sim_kg Iff.rfl (m_X12_addSpot_J51 rfl rfl rfl rfl rfl))

def q_X12_layBut_L7 (v1 : Int) (v2 : Int) (s : (Int × tZ12)) : Option (Nat × (Int × tZ12)) :=
  kg (k32 s.1) (kif ((40 : Int) ≤ s.1) (some (48, (s.1, s.2))) (kg (k32 v2) (kif (s.1 = v2) (kl (s.1 + (1 : Int)) (fun y2 : Int => some (7, (y2, s.2)))) (kb (q_X12_isOf s.2 v1 s.1) (fun x3 : Bool => kif (kz x3 = 0) (kl (s.1 + (1 : Int)) (fun y4 : Int => some (7, (y4, s.2)))) (kb (q_X12_standsX s.2 s.1) (fun x5 : Int => kb (q_X12_standsY s.2 s.1) (fun x6 : Int => kb (q_X12_addSpot s.2 x5 x6 s.1) (fun x7 : tZ12 => kl (s.1 + (1 : Int)) (fun y8 : Int => some (7, (y8, x7))))))))))))
theorem m_X12_layBut_L7 {v1 : Int} {u0 : Int32} {v2 : Int} {u1 : Int32} {s : (Int × tZ12)} {u2 : (Int32 × tX12)} (e0 : u0 = (Int32.ofInt v1)) (e1 : u1 = (Int32.ofInt v2)) (e2 : u2 = ((Int32.ofInt s.1), (cX12 s.2))) : sim (fun r : (Nat × (Int × tZ12)) => (r.1, ((Int32.ofInt r.2.1), (cX12 r.2.2)))) (q_X12_layBut_L7 v1 v2 s) (p_X12_layBut_L7 u0 u1 u2) := by
  subst e0 e1 e2
  unfold q_X12_layBut_L7 p_X12_layBut_L7
  exact sim_g (fun g1 => sim_kif (i_le l32_40 rfl (by decide) g1) (sim_some rfl) (sim_g (fun g2 => sim_kif (i_eq rfl rfl g1 g2) (sim_kl (c := Int32.ofInt) (c_add rfl l32_1) (fun y2 => sim_some rfl)) (sim_kb (c1 := (fun r : Bool => r)) (m_X12_isOf rfl rfl rfl) (fun x3 => sim_kif Iff.rfl (sim_kl (c := Int32.ofInt) (c_add rfl l32_1) (fun y4 => sim_some rfl)) (sim_kb (c1 := Int32.ofInt) (m_X12_standsX rfl rfl) (fun x5 => sim_kb (c1 := Int32.ofInt) (m_X12_standsY rfl rfl) (fun x6 => sim_kb (c1 := cX12) (m_X12_addSpot rfl rfl rfl rfl) (fun x7 => sim_kl (c := Int32.ofInt) (c_add rfl l32_1) (fun y8 => sim_some rfl))))))))))

def q_X12_layBut (zT : tZ12) (v1 : Int) (v2 : Int) : Option (Int × tZ12) :=
  kl ((va_up zT.1 15 (0 : Int)), zT.2) (fun z1 : ((Nat → Int) × ((Nat → Int) × (Nat → Nat → Int) × (Nat → Nat → Int))) => kb (kitr 7 (fun q => q_X12_layBut_L7 v1 v2 q) kF ((0 : Int), z1)) (fun x9 : (Nat × Int × tZ12) => kg ((x9.1 = 48)) (some ((x9.2.2.1 15), x9.2.2))))
theorem m_X12_layBut {zT : tZ12} {u0 : tX12} {v1 : Int} {u1 : Int32} {v2 : Int} {u2 : Int32} (e0 : u0 = (cX12 zT)) (e1 : u1 = (Int32.ofInt v1)) (e2 : u2 = (Int32.ofInt v2)) : sim (fun r : (Int × tZ12) => ((Int32.ofInt r.1), (cX12 r.2))) (q_X12_layBut zT v1 v2) (p_X12_layBut u0 u1 u2) := by
  subst e0 e1 e2
  unfold q_X12_layBut p_X12_layBut
  exact sim_kl (c := (fun r : ((Nat → Int) × ((Nat → Int) × (Nat → Nat → Int) × (Nat → Nat → Int))) => ((cF r.1), ((cG r.2.1), (cFF r.2.2.1), (cGG r.2.2.2))))) (c_pr (c_vup rfl rfl l32_0) rfl) (fun z1 => sim_kb (c1 := (fun r : (Nat × Int × tZ12) => (r.1, (Int32.ofInt r.2.1), (cX12 r.2.2)))) (sim_kitr (c := (fun r : (Int × tZ12) => ((Int32.ofInt r.1), (cX12 r.2)))) (fun _ => m_X12_layBut_L7 rfl rfl rfl) (c_pr l32_0 rfl)) (fun x9 => sim_kg Iff.rfl (sim_some rfl)))

def q_X12_isLaid (zT : tZ12) (v1 : Int) : Option (Bool × tZ12) :=
  kb (q_X12_isSet v1) (fun x1 : Bool => kif (kz x1 = 0) (some (false, zT)) (kb (q_X12_layBut zT v1 (-1 : Int)) (fun x2 : (Int × tZ12) => kg (k32 x2.1) (kif (x2.1 ≤ (0 : Int)) (some (false, x2.2)) (some (true, x2.2))))))
theorem m_X12_isLaid {zT : tZ12} {u0 : tX12} {v1 : Int} {u1 : Int32} (e0 : u0 = (cX12 zT)) (e1 : u1 = (Int32.ofInt v1)) : sim (fun r : (Bool × tZ12) => (r.1, (cX12 r.2))) (q_X12_isLaid zT v1) (p_X12_isLaid u0 u1) := by
  subst e0 e1
  unfold q_X12_isLaid p_X12_isLaid
  exact sim_kb (c1 := (fun r : Bool => r)) (m_X12_isSet rfl) (fun x1 => sim_kif Iff.rfl (sim_some rfl) (sim_kb (c1 := (fun r : (Int × tZ12) => ((Int32.ofInt r.1), (cX12 r.2)))) (m_X12_layBut rfl rfl l32_m1) (fun x2 => sim_g (fun g1 => sim_kif (i_le rfl l32_0 g1 (by decide)) (sim_some rfl) (sim_some rfl)))))

def q_X12_spots (zT : tZ12) (v1 : Int) : Option (Int × tZ12) :=
  kb (q_X12_isSet v1) (fun x1 : Bool => kif (kz x1 = 0) (some ((-1 : Int), zT)) (kb (q_X12_layBut zT v1 (-1 : Int)) (fun x2 : (Int × tZ12) => some (x2.1, x2.2))))
theorem m_X12_spots {zT : tZ12} {u0 : tX12} {v1 : Int} {u1 : Int32} (e0 : u0 = (cX12 zT)) (e1 : u1 = (Int32.ofInt v1)) : sim (fun r : (Int × tZ12) => ((Int32.ofInt r.1), (cX12 r.2))) (q_X12_spots zT v1) (p_X12_spots u0 u1) := by
  subst e0 e1
  unfold q_X12_spots p_X12_spots
  exact sim_kb (c1 := (fun r : Bool => r)) (m_X12_isSet rfl) (fun x1 => sim_kif Iff.rfl (sim_some (c_pr l32_m1 rfl)) (sim_kb (c1 := (fun r : (Int × tZ12) => ((Int32.ofInt r.1), (cX12 r.2)))) (m_X12_layBut rfl rfl l32_m1) (fun x2 => sim_some rfl)))

def q_X12_spot (zT : tZ12) (v1 : Int) (v2 : Int) (v3 : Int) : Option (Int × tZ12) :=
  kb (q_X12_isLaid zT v1) (fun x1 : (Bool × tZ12) => kif (kz x1.1 = 0) (some ((-1000 : Int), x1.2)) (kb (q_X12_isIn v2 (0 : Int) ((x1.2.1 15) - (1 : Int))) (fun x2 : Bool => kif (kz x2 = 0) (some ((-1000 : Int), x1.2)) (kb (q_X12_isIn v3 (0 : Int) (2 : Int)) (fun x3 : Bool => kif (kz x3 = 0) (some ((-1000 : Int), x1.2)) (kg (k32 v3) (kif (v3 = (0 : Int)) (kg (0 ≤ v2 ∧ v2 < 41) (some (((x1.2.2.2.1 12) (v2.toNat)), x1.2))) (kif (v3 = (1 : Int)) (kg (0 ≤ v2 ∧ v2 < 41) (some (((x1.2.2.2.1 13) (v2.toNat)), x1.2))) (kg (0 ≤ v2 ∧ v2 < 41) (some (((x1.2.2.2.1 14) (v2.toNat)), x1.2)))))))))))
theorem m_X12_spot {zT : tZ12} {u0 : tX12} {v1 : Int} {u1 : Int32} {v2 : Int} {u2 : Int32} {v3 : Int} {u3 : Int32} (e0 : u0 = (cX12 zT)) (e1 : u1 = (Int32.ofInt v1)) (e2 : u2 = (Int32.ofInt v2)) (e3 : u3 = (Int32.ofInt v3)) : sim (fun r : (Int × tZ12) => ((Int32.ofInt r.1), (cX12 r.2))) (q_X12_spot zT v1 v2 v3) (p_X12_spot u0 u1 u2 u3) := by
  subst e0 e1 e2 e3
  unfold q_X12_spot p_X12_spot
  exact sim_kb (c1 := (fun r : (Bool × tZ12) => (r.1, (cX12 r.2)))) (m_X12_isLaid rfl rfl) (fun x1 => sim_kif Iff.rfl (sim_some (c_pr l32_m1000 rfl)) (sim_kb (c1 := (fun r : Bool => r)) (m_X12_isIn rfl l32_0 (c_sub rfl l32_1)) (fun x2 => sim_kif Iff.rfl (sim_some (c_pr l32_m1000 rfl)) (sim_kb (c1 := (fun r : Bool => r)) (m_X12_isIn rfl l32_0 l32_2) (fun x3 => sim_kif Iff.rfl (sim_some (c_pr l32_m1000 rfl)) (sim_g (fun g1 => sim_kif (i_eq rfl l32_0 g1 (by decide)) (sim_kii rfl (by decide) (fun g2 => sim_some (c_pr (c_ap (x1.2.2.2.1 12) (c_idx rfl g2 (by decide))) rfl))) (sim_kif (i_eq rfl l32_1 g1 (by decide)) (sim_kii rfl (by decide) (fun g3 => sim_some (c_pr (c_ap (x1.2.2.2.1 13) (c_idx rfl g3 (by decide))) rfl))) (sim_kii rfl (by decide) (fun g4 => sim_some (c_pr (c_ap (x1.2.2.2.1 14) (c_idx rfl g4 (by decide))) rfl)))))))))))

def q_X12_spotAt_L2 (zT : tZ12) (v1 : Int) (v2 : Int) (s : Int) : Option (Nat × Int) :=
  kg (k32 (zT.1 15) ∧ k32 s) (kif ((zT.1 15) ≤ s) (some (38, s)) (kg (0 ≤ s ∧ s < 41) (kg (k32 ((zT.2.2.1 12) (s.toNat)) ∧ k32 v1) (kif (((zT.2.2.1 12) (s.toNat)) = v1) (kg (k32 ((zT.2.2.1 13) (s.toNat)) ∧ k32 v2) (kif (((zT.2.2.1 13) (s.toNat)) = v2) (some (30, s)) (kl (s + (1 : Int)) (fun y1 : Int => some (2, y1))))) (kl (s + (1 : Int)) (fun y2 : Int => some (2, y2)))))))
theorem m_X12_spotAt_L2 {zT : tZ12} {u0 : tX12} {v1 : Int} {u1 : Int32} {v2 : Int} {u2 : Int32} {s : Int} {u3 : Int32} (e0 : u0 = (cX12 zT)) (e1 : u1 = (Int32.ofInt v1)) (e2 : u2 = (Int32.ofInt v2)) (e3 : u3 = (Int32.ofInt s)) : sim (fun r : (Nat × Int) => (r.1, (Int32.ofInt r.2))) (q_X12_spotAt_L2 zT v1 v2 s) (p_X12_spotAt_L2 u0 u1 u2 u3) := by
  subst e0 e1 e2 e3
  unfold q_X12_spotAt_L2 p_X12_spotAt_L2
  exact sim_g (fun g1 => sim_kif (i_le rfl rfl g1.1 g1.2) (sim_some rfl) (sim_kii rfl (by decide) (fun g2 => sim_g (fun g3 => sim_kif (i_eq (c_ap (zT.2.2.1 12) (c_idx rfl g2 (by decide))) rfl g3.1 g3.2) (sim_kii0 rfl (by decide) g2 (sim_g (fun g4 => sim_kif (i_eq (c_ap (zT.2.2.1 13) (c_idx rfl g2 (by decide))) rfl g4.1 g4.2) (sim_some rfl) (sim_kl (c := Int32.ofInt) (c_add rfl l32_1) (fun y1 => sim_some rfl))))) (sim_kl (c := Int32.ofInt) (c_add rfl l32_1) (fun y2 => sim_some rfl))))))

def q_X12_spotAt (zT : tZ12) (v1 : Int) (v2 : Int) : Option Int :=
  kb (kitr 2 (fun q => q_X12_spotAt_L2 zT v1 v2 q) kF (0 : Int)) (fun x3 : (Nat × Int) => kif (x3.1 = 30) (some x3.2) (kg ((x3.1 = 38)) (some (-1 : Int))))
theorem m_X12_spotAt {zT : tZ12} {u0 : tX12} {v1 : Int} {u1 : Int32} {v2 : Int} {u2 : Int32} (e0 : u0 = (cX12 zT)) (e1 : u1 = (Int32.ofInt v1)) (e2 : u2 = (Int32.ofInt v2)) : sim Int32.ofInt (q_X12_spotAt zT v1 v2) (p_X12_spotAt u0 u1 u2) := by
  subst e0 e1 e2
  unfold q_X12_spotAt p_X12_spotAt
  exact sim_kb (c1 := (fun r : (Nat × Int) => (r.1, (Int32.ofInt r.2)))) (sim_kitr (c := Int32.ofInt) (fun _ => m_X12_spotAt_L2 rfl rfl rfl rfl) l32_0) (fun x3 => sim_kif Iff.rfl (sim_some rfl) (sim_kg Iff.rfl (sim_some l32_m1)))

def q_X12_common_L28 (v0 : Int) (v2 : Int) (s : (Int × Int)) : Option (Nat × (Int × Int)) :=
  kg (k64 s.2) (kif (s.2 = (0 : Int)) (some (53, (s.1, s.2))) (kg (¬ (s.2 = (0 : Int))) (kg (k64 s.1) (kl (s.1 - ((s.1.tdiv s.2) * s.2)) (fun y1 : Int => some (28, (s.2, y1)))))))
theorem m_X12_common_L28 {v0 : Int} {u0 : Int64} {v2 : Int} {u1 : Int64} {s : (Int × Int)} {u2 : (Int64 × Int64)} (e0 : u0 = (Int64.ofInt v0)) (e1 : u1 = (Int64.ofInt v2)) (e2 : u2 = ((Int64.ofInt s.1), (Int64.ofInt s.2))) : sim (fun r : (Nat × (Int × Int)) => (r.1, ((Int64.ofInt r.2.1), (Int64.ofInt r.2.2)))) (q_X12_common_L28 v0 v2 s) (p_X12_common_L28 u0 u1 u2) := by
  subst e0 e1 e2
  unfold q_X12_common_L28 p_X12_common_L28
  exact sim_g (fun g1 => sim_kif (j_eq rfl l64_0 g1 (by decide)) (sim_some rfl) (sim_kg (not_congr (l_eq rfl l64_0 g1 (by decide))) (sim_g (fun g2 => sim_kl (c := Int64.ofInt) (d_sub rfl (d_mul (d_div rfl rfl g2 g1) rfl)) (fun y1 => sim_some rfl)))))

def q_X12_common_J26 (v0 : Int) (v2 : Int) (v4 : Int) (k26_0 : Int) : Option Int :=
  kb (kitr 28 (fun q => q_X12_common_L28 v0 v2 q) kF (v4, k26_0)) (fun x2 : (Nat × Int × Int) => kg ((x2.1 = 53)) (kg (k64 x2.2.1) (kif (x2.2.1 = (0 : Int)) (some (1 : Int)) (some x2.2.1))))
theorem m_X12_common_J26 {v0 : Int} {u0 : Int64} {v2 : Int} {u1 : Int64} {v4 : Int} {u2 : Int64} {k26_0 : Int} {u3 : Int64} (e0 : u0 = (Int64.ofInt v0)) (e1 : u1 = (Int64.ofInt v2)) (e2 : u2 = (Int64.ofInt v4)) (e3 : u3 = (Int64.ofInt k26_0)) : sim Int64.ofInt (q_X12_common_J26 v0 v2 v4 k26_0) (p_X12_common_J26 u0 u1 u2 u3) := by
  subst e0 e1 e2 e3
  unfold q_X12_common_J26 p_X12_common_J26
  exact sim_kb (c1 := (fun r : (Nat × Int × Int) => (r.1, (Int64.ofInt r.2.1), (Int64.ofInt r.2.2)))) (sim_kitr (c := (fun r : (Int × Int) => ((Int64.ofInt r.1), (Int64.ofInt r.2)))) (fun _ => m_X12_common_L28 rfl rfl rfl) rfl) (fun x2 => sim_kg Iff.rfl (sim_g (fun g1 => sim_kif (j_eq rfl l64_0 g1 (by decide)) (sim_some l64_1) (sim_some rfl))))

def q_X12_common_J12 (v0 : Int) (v2 : Int) (k12_0 : Int) : Option Int :=
  kg (k64 v2) (kif ((0 : Int) ≤ v2) (q_X12_common_J26 v0 v2 k12_0 v2) (q_X12_common_J26 v0 v2 k12_0 (-v2)))
theorem m_X12_common_J12 {v0 : Int} {u0 : Int64} {v2 : Int} {u1 : Int64} {k12_0 : Int} {u2 : Int64} (e0 : u0 = (Int64.ofInt v0)) (e1 : u1 = (Int64.ofInt v2)) (e2 : u2 = (Int64.ofInt k12_0)) : sim Int64.ofInt (q_X12_common_J12 v0 v2 k12_0) (p_X12_common_J12 u0 u1 u2) := by
  subst e0 e1 e2
  unfold q_X12_common_J12 p_X12_common_J12
  exact sim_g (fun g1 => sim_kif (j_ge rfl l64_0 g1 (by decide)) (m_X12_common_J26 rfl rfl rfl rfl) (m_X12_common_J26 rfl rfl rfl (d_neg rfl)))

def q_X12_common (v0 : Int) (v2 : Int) : Option Int :=
  kg (k64 v0) (kif ((0 : Int) ≤ v0) (q_X12_common_J12 v0 v2 v0) (q_X12_common_J12 v0 v2 (-v0)))
theorem m_X12_common {v0 : Int} {u0 : Int64} {v2 : Int} {u1 : Int64} (e0 : u0 = (Int64.ofInt v0)) (e1 : u1 = (Int64.ofInt v2)) : sim Int64.ofInt (q_X12_common v0 v2) (p_X12_common u0 u1) := by
  subst e0 e1
  unfold q_X12_common p_X12_common
  exact sim_g (fun g1 => sim_kif (j_ge rfl l64_0 g1 (by decide)) (m_X12_common_J12 rfl rfl rfl) (m_X12_common_J12 rfl rfl (d_neg rfl)))

def q_X12_above_J12 (v0 : Int) (v2 : Int) (k12_0 : Int) : Option Int :=
  kb (q_X12_common v0 v2) (fun x1 : Int => kg (k64 x1) (kg (¬ (x1 = (0 : Int))) (kg (k64 k12_0) (some (k12_0.tdiv x1)))))
theorem m_X12_above_J12 {v0 : Int} {u0 : Int64} {v2 : Int} {u1 : Int64} {k12_0 : Int} {u2 : Int64} (e0 : u0 = (Int64.ofInt v0)) (e1 : u1 = (Int64.ofInt v2)) (e2 : u2 = (Int64.ofInt k12_0)) : sim Int64.ofInt (q_X12_above_J12 v0 v2 k12_0) (p_X12_above_J12 u0 u1 u2) := by
  subst e0 e1 e2
  unfold q_X12_above_J12 p_X12_above_J12
  exact sim_kb (c1 := Int64.ofInt) (m_X12_common rfl rfl) (fun x1 => sim_g (fun g1 => sim_kg (not_congr (l_eq rfl l64_0 g1 (by decide))) (sim_g (fun g2 => sim_some (d_div rfl rfl g2 g1)))))

def q_X12_above (v0 : Int) (v2 : Int) : Option Int :=
  kg (k64 v2) (kif ((0 : Int) ≤ v2) (q_X12_above_J12 v0 v2 v0) (q_X12_above_J12 v0 v2 (-v0)))
theorem m_X12_above {v0 : Int} {u0 : Int64} {v2 : Int} {u1 : Int64} (e0 : u0 = (Int64.ofInt v0)) (e1 : u1 = (Int64.ofInt v2)) : sim Int64.ofInt (q_X12_above v0 v2) (p_X12_above u0 u1) := by
  subst e0 e1
  unfold q_X12_above p_X12_above
  exact sim_g (fun g1 => sim_kif (j_ge rfl l64_0 g1 (by decide)) (m_X12_above_J12 rfl rfl rfl) (m_X12_above_J12 rfl rfl (d_neg rfl)))

def q_X12_below_J12 (v0 : Int) (v2 : Int) (k12_0 : Int) : Option Int :=
  kb (q_X12_common v0 v2) (fun x1 : Int => kg (k64 x1) (kg (¬ (x1 = (0 : Int))) (kg (k64 k12_0) (some (k12_0.tdiv x1)))))
theorem m_X12_below_J12 {v0 : Int} {u0 : Int64} {v2 : Int} {u1 : Int64} {k12_0 : Int} {u2 : Int64} (e0 : u0 = (Int64.ofInt v0)) (e1 : u1 = (Int64.ofInt v2)) (e2 : u2 = (Int64.ofInt k12_0)) : sim Int64.ofInt (q_X12_below_J12 v0 v2 k12_0) (p_X12_below_J12 u0 u1 u2) := by
  subst e0 e1 e2
  unfold q_X12_below_J12 p_X12_below_J12
  exact sim_kb (c1 := Int64.ofInt) (m_X12_common rfl rfl) (fun x1 => sim_g (fun g1 => sim_kg (not_congr (l_eq rfl l64_0 g1 (by decide))) (sim_g (fun g2 => sim_some (d_div rfl rfl g2 g1)))))

def q_X12_below (v0 : Int) (v2 : Int) : Option Int :=
  kg (k64 v2) (kif ((0 : Int) ≤ v2) (q_X12_below_J12 v0 v2 v2) (q_X12_below_J12 v0 v2 (-v2)))
theorem m_X12_below {v0 : Int} {u0 : Int64} {v2 : Int} {u1 : Int64} (e0 : u0 = (Int64.ofInt v0)) (e1 : u1 = (Int64.ofInt v2)) : sim Int64.ofInt (q_X12_below v0 v2) (p_X12_below u0 u1) := by
  subst e0 e1
  unfold q_X12_below p_X12_below
  exact sim_g (fun g1 => sim_kif (j_ge rfl l64_0 g1 (by decide)) (m_X12_below_J12 rfl rfl rfl) (m_X12_below_J12 rfl rfl (d_neg rfl)))

def q_X12_against_L17 (v0 : Int) (v2 : Int) (v4 : Int) (v6 : Int) (s : (Int × Int × Int × Int × Int × Int × Int)) : Option (Nat × (Int × Int × Int × Int × Int × Int × Int)) :=
  kg (k64 s.2.1) (kg (¬ (s.2.1 = (0 : Int))) (kg (k64 s.1) (kl (s.1.tdiv s.2.1) (fun y1 : Int => kg (k64 s.2.2.2.1) (kg (¬ (s.2.2.2.1 = (0 : Int))) (kg (k64 s.2.2.1) (kl (s.2.2.1.tdiv s.2.2.2.1) (fun y2 : Int => kg (k64 y1 ∧ k64 y2) (kif (y1 = y2) (kl (s.1 - (y1 * s.2.1)) (fun y3 : Int => kl (s.2.2.1 - (y2 * s.2.2.2.1)) (fun y4 : Int => kg (k64 y3) (kif (y3 = (0 : Int)) (some (90, (y3, s.2.1, y4, s.2.2.2.1, s.2.2.2.2.1, (0 : Int), (0 : Int)))) (kg (k64 y4) (kif (y4 = (0 : Int)) (some (90, (y3, s.2.1, y4, s.2.2.2.1, s.2.2.2.2.1, (0 : Int), (0 : Int)))) (kl (-s.2.2.2.2.1) (fun y5 : Int => some (17, (s.2.1, y3, s.2.2.2.1, y4, y5, (0 : Int), (0 : Int))))))))))) (some (39, (s.1, s.2.1, s.2.2.1, s.2.2.2.1, s.2.2.2.2.1, y1, y2))))))))))))
theorem m_X12_against_L17 {v0 : Int} {u0 : Int64} {v2 : Int} {u1 : Int64} {v4 : Int} {u2 : Int64} {v6 : Int} {u3 : Int64} {s : (Int × Int × Int × Int × Int × Int × Int)} {u4 : (Int64 × Int64 × Int64 × Int64 × Int32 × Int64 × Int64)} (e0 : u0 = (Int64.ofInt v0)) (e1 : u1 = (Int64.ofInt v2)) (e2 : u2 = (Int64.ofInt v4)) (e3 : u3 = (Int64.ofInt v6)) (e4 : u4 = ((Int64.ofInt s.1), (Int64.ofInt s.2.1), (Int64.ofInt s.2.2.1), (Int64.ofInt s.2.2.2.1), (Int32.ofInt s.2.2.2.2.1), (Int64.ofInt s.2.2.2.2.2.1), (Int64.ofInt s.2.2.2.2.2.2))) : sim (fun r : (Nat × (Int × Int × Int × Int × Int × Int × Int)) => (r.1, ((Int64.ofInt r.2.1), (Int64.ofInt r.2.2.1), (Int64.ofInt r.2.2.2.1), (Int64.ofInt r.2.2.2.2.1), (Int32.ofInt r.2.2.2.2.2.1), (Int64.ofInt r.2.2.2.2.2.2.1), (Int64.ofInt r.2.2.2.2.2.2.2)))) (q_X12_against_L17 v0 v2 v4 v6 s) (p_X12_against_L17 u0 u1 u2 u3 u4) := by
  subst e0 e1 e2 e3 e4
  unfold q_X12_against_L17 p_X12_against_L17
  exact sim_g (fun g1 => sim_kg (not_congr (l_eq rfl l64_0 g1 (by decide))) (sim_g (fun g2 => sim_kl (c := Int64.ofInt) (d_div rfl rfl g2 g1) (fun y1 => sim_g (fun g3 => sim_kg (not_congr (l_eq rfl l64_0 g3 (by decide))) (sim_g (fun g4 => sim_kl (c := Int64.ofInt) (d_div rfl rfl g4 g3) (fun y2 => sim_g (fun g5 => sim_kif (j_eq rfl rfl g5.1 g5.2) (sim_kl (c := Int64.ofInt) (d_sub rfl (d_mul rfl rfl)) (fun y3 => sim_kl (c := Int64.ofInt) (d_sub rfl (d_mul rfl rfl)) (fun y4 => sim_g (fun g6 => sim_kif (j_eq rfl l64_0 g6 (by decide)) (sim_some (c_pr rfl (c_pr rfl (c_pr rfl (c_pr rfl (c_pr rfl (c_pr rfl (c_pr l64_0 l64_0)))))))) (sim_g (fun g7 => sim_kif (j_eq rfl l64_0 g7 (by decide)) (sim_some (c_pr rfl (c_pr rfl (c_pr rfl (c_pr rfl (c_pr rfl (c_pr rfl (c_pr l64_0 l64_0)))))))) (sim_kl (c := Int32.ofInt) (c_neg rfl) (fun y5 => sim_some (c_pr rfl (c_pr rfl (c_pr rfl (c_pr rfl (c_pr rfl (c_pr rfl (c_pr l64_0 l64_0))))))))))))))) (sim_some rfl))))))))))

def q_X12_against_J90 (v0 : Int) (v2 : Int) (v4 : Int) (v6 : Int) (v8 : Int) (v12 : Int) (v16 : Int) : Option Int :=
  kg (k64 v8 ∧ k64 v12) (kif (v8 = v12) (some (0 : Int)) (kif (v8 = (0 : Int)) (some (-v16)) (some v16)))
theorem m_X12_against_J90 {v0 : Int} {u0 : Int64} {v2 : Int} {u1 : Int64} {v4 : Int} {u2 : Int64} {v6 : Int} {u3 : Int64} {v8 : Int} {u4 : Int64} {v12 : Int} {u5 : Int64} {v16 : Int} {u6 : Int32} (e0 : u0 = (Int64.ofInt v0)) (e1 : u1 = (Int64.ofInt v2)) (e2 : u2 = (Int64.ofInt v4)) (e3 : u3 = (Int64.ofInt v6)) (e4 : u4 = (Int64.ofInt v8)) (e5 : u5 = (Int64.ofInt v12)) (e6 : u6 = (Int32.ofInt v16)) : sim Int32.ofInt (q_X12_against_J90 v0 v2 v4 v6 v8 v12 v16) (p_X12_against_J90 u0 u1 u2 u3 u4 u5 u6) := by
  subst e0 e1 e2 e3 e4 e5 e6
  unfold q_X12_against_J90 p_X12_against_J90
  exact sim_g (fun g1 => sim_kif (j_eq rfl rfl g1.1 g1.2) (sim_some l32_0) (sim_kif (j_eq rfl l64_0 g1.1 (by decide)) (sim_some (c_neg rfl)) (sim_some rfl)))

def q_X12_against (v0 : Int) (v2 : Int) (v4 : Int) (v6 : Int) : Option Int :=
  kb (kitr 17 (fun q => q_X12_against_L17 v0 v2 v4 v6 q) kF (v0, v2, v4, v6, (1 : Int), (0 : Int), (0 : Int))) (fun x6 : (Nat × Int × Int × Int × Int × Int × Int × Int) => kif (x6.1 = 39) (kg (k64 x6.2.2.2.2.2.2.1 ∧ k64 x6.2.2.2.2.2.2.2) (kif (x6.2.2.2.2.2.2.2 ≤ x6.2.2.2.2.2.2.1) (some x6.2.2.2.2.2.1) (some (-x6.2.2.2.2.2.1)))) (kg ((x6.1 = 90)) (q_X12_against_J90 v0 v2 v4 v6 x6.2.1 x6.2.2.2.1 x6.2.2.2.2.2.1)))
theorem m_X12_against {v0 : Int} {u0 : Int64} {v2 : Int} {u1 : Int64} {v4 : Int} {u2 : Int64} {v6 : Int} {u3 : Int64} (e0 : u0 = (Int64.ofInt v0)) (e1 : u1 = (Int64.ofInt v2)) (e2 : u2 = (Int64.ofInt v4)) (e3 : u3 = (Int64.ofInt v6)) : sim Int32.ofInt (q_X12_against v0 v2 v4 v6) (p_X12_against u0 u1 u2 u3) := by
  subst e0 e1 e2 e3
  unfold q_X12_against p_X12_against
  exact sim_kb (c1 := (fun r : (Nat × Int × Int × Int × Int × Int × Int × Int) => (r.1, (Int64.ofInt r.2.1), (Int64.ofInt r.2.2.1), (Int64.ofInt r.2.2.2.1), (Int64.ofInt r.2.2.2.2.1), (Int32.ofInt r.2.2.2.2.2.1), (Int64.ofInt r.2.2.2.2.2.2.1), (Int64.ofInt r.2.2.2.2.2.2.2)))) (sim_kitr (c := (fun r : (Int × Int × Int × Int × Int × Int × Int) => ((Int64.ofInt r.1), (Int64.ofInt r.2.1), (Int64.ofInt r.2.2.1), (Int64.ofInt r.2.2.2.1), (Int32.ofInt r.2.2.2.2.1), (Int64.ofInt r.2.2.2.2.2.1), (Int64.ofInt r.2.2.2.2.2.2)))) (fun _ => m_X12_against_L17 rfl rfl rfl rfl rfl) (c_pr rfl (c_pr rfl (c_pr rfl (c_pr rfl (c_pr l32_1 (c_pr l64_0 l64_0))))))) (fun x6 => sim_kif Iff.rfl (sim_g (fun g1 => sim_kif (j_ge rfl rfl g1.1 g1.2) (sim_some rfl) (sim_some (c_neg rfl)))) (sim_kg Iff.rfl (m_X12_against_J90 rfl rfl rfl rfl rfl rfl rfl)))

def q_X12_apart (zT : tZ12) (v1 : Int) (v2 : Int) : Option Int :=
  kg (0 ≤ v1 ∧ v1 < 41) (kg (0 ≤ v2 ∧ v2 < 41) (kg (k32 (((zT.2.2.1 12) (v1.toNat)) - ((zT.2.2.1 12) (v2.toNat))) ∧ k32 (((zT.2.2.1 13) (v1.toNat)) - ((zT.2.2.1 13) (v2.toNat)))) (some (((((zT.2.2.1 12) (v1.toNat)) - ((zT.2.2.1 12) (v2.toNat))) * (((zT.2.2.1 12) (v1.toNat)) - ((zT.2.2.1 12) (v2.toNat)))) + ((((zT.2.2.1 13) (v1.toNat)) - ((zT.2.2.1 13) (v2.toNat))) * (((zT.2.2.1 13) (v1.toNat)) - ((zT.2.2.1 13) (v2.toNat))))))))
theorem m_X12_apart {zT : tZ12} {u0 : tX12} {v1 : Int} {u1 : Int32} {v2 : Int} {u2 : Int32} (e0 : u0 = (cX12 zT)) (e1 : u1 = (Int32.ofInt v1)) (e2 : u2 = (Int32.ofInt v2)) : sim Int64.ofInt (q_X12_apart zT v1 v2) (p_X12_apart u0 u1 u2) := by
  subst e0 e1 e2
  unfold q_X12_apart p_X12_apart
  exact sim_kii rfl (by decide) (fun g1 => sim_kii rfl (by decide) (fun g2 => sim_kii0 rfl (by decide) g1 (sim_kii0 rfl (by decide) g2 (sim_kii0 rfl (by decide) g1 (sim_kii0 rfl (by decide) g2 (sim_kii0 rfl (by decide) g1 (sim_kii0 rfl (by decide) g2 (sim_g (fun g3 => sim_some (d_add (d_mul (c_toJ (c_sub (c_ap (zT.2.2.1 12) (c_idx rfl g1 (by decide))) (c_ap (zT.2.2.1 12) (c_idx rfl g2 (by decide)))) g3.1) (c_toJ (c_sub (c_ap (zT.2.2.1 12) (c_idx rfl g1 (by decide))) (c_ap (zT.2.2.1 12) (c_idx rfl g2 (by decide)))) g3.1)) (d_mul (c_toJ (c_sub (c_ap (zT.2.2.1 13) (c_idx rfl g1 (by decide))) (c_ap (zT.2.2.1 13) (c_idx rfl g2 (by decide)))) g3.2) (c_toJ (c_sub (c_ap (zT.2.2.1 13) (c_idx rfl g1 (by decide))) (c_ap (zT.2.2.1 13) (c_idx rfl g2 (by decide)))) g3.2))))))))))))

def q_X12_one (zT : tZ12) (v1 : Int) : Option tZ12 :=
  kg (0 ≤ v1 ∧ v1 < 41) (kg (k32 ((zT.2.2.1 12) (v1.toNat))) (kl (zT.1, (va_up zT.2.1 16 ((zT.2.2.1 12) (v1.toNat))), zT.2.2) (fun z1 : ((Nat → Int) × (Nat → Int) × ((Nat → Nat → Int) × (Nat → Nat → Int))) => kg (k32 ((z1.2.2.1 13) (v1.toNat))) (kl (z1.1, (va_up z1.2.1 17 ((z1.2.2.1 13) (v1.toNat))), z1.2.2) (fun z2 : ((Nat → Int) × (Nat → Int) × ((Nat → Nat → Int) × (Nat → Nat → Int))) => kl (z2.1, (va_up z2.2.1 18 (0 : Int)), z2.2.2) (fun z3 : ((Nat → Int) × (Nat → Int) × ((Nat → Nat → Int) × (Nat → Nat → Int))) => kl (z3.1, (va_up z3.2.1 19 (0 : Int)), z3.2.2) (fun z4 : ((Nat → Int) × (Nat → Int) × ((Nat → Nat → Int) × (Nat → Nat → Int))) => kl (z4.1, (va_up z4.2.1 20 (1 : Int)), z4.2.2) (fun z5 : ((Nat → Int) × (Nat → Int) × ((Nat → Nat → Int) × (Nat → Nat → Int))) => kl (z5.1, (va_up z5.2.1 21 (0 : Int)), z5.2.2) (fun z6 : ((Nat → Int) × (Nat → Int) × ((Nat → Nat → Int) × (Nat → Nat → Int))) => kl (z6.1, (va_up z6.2.1 22 (1 : Int)), z6.2.2) (fun z7 : ((Nat → Int) × (Nat → Int) × ((Nat → Nat → Int) × (Nat → Nat → Int))) => some z7))))))))))
theorem m_X12_one {zT : tZ12} {u0 : tX12} {v1 : Int} {u1 : Int32} (e0 : u0 = (cX12 zT)) (e1 : u1 = (Int32.ofInt v1)) : sim cX12 (q_X12_one zT v1) (p_X12_one u0 u1) := by
  subst e0 e1
  unfold q_X12_one p_X12_one
  exact sim_kii rfl (by decide) (fun g1 => sim_g (fun g2 => sim_kl (c := (fun r : ((Nat → Int) × (Nat → Int) × ((Nat → Nat → Int) × (Nat → Nat → Int))) => ((cF r.1), (cG r.2.1), ((cFF r.2.2.1), (cGG r.2.2.2))))) (c_pr rfl (c_pr (d_vup rfl rfl (c_toJ (c_ap (zT.2.2.1 12) (c_idx rfl g1 (by decide))) g2)) rfl)) (fun z1 => sim_kii0 rfl (by decide) g1 (sim_g (fun g3 => sim_kl (c := (fun r : ((Nat → Int) × (Nat → Int) × ((Nat → Nat → Int) × (Nat → Nat → Int))) => ((cF r.1), (cG r.2.1), ((cFF r.2.2.1), (cGG r.2.2.2))))) (c_pr rfl (c_pr (d_vup rfl rfl (c_toJ (c_ap (z1.2.2.1 13) (c_idx rfl g1 (by decide))) g3)) rfl)) (fun z2 => sim_kl (c := (fun r : ((Nat → Int) × (Nat → Int) × ((Nat → Nat → Int) × (Nat → Nat → Int))) => ((cF r.1), (cG r.2.1), ((cFF r.2.2.1), (cGG r.2.2.2))))) (c_pr rfl (c_pr (d_vup rfl rfl l64_0) rfl)) (fun z3 => sim_kl (c := (fun r : ((Nat → Int) × (Nat → Int) × ((Nat → Nat → Int) × (Nat → Nat → Int))) => ((cF r.1), (cG r.2.1), ((cFF r.2.2.1), (cGG r.2.2.2))))) (c_pr rfl (c_pr (d_vup rfl rfl l64_0) rfl)) (fun z4 => sim_kl (c := (fun r : ((Nat → Int) × (Nat → Int) × ((Nat → Nat → Int) × (Nat → Nat → Int))) => ((cF r.1), (cG r.2.1), ((cFF r.2.2.1), (cGG r.2.2.2))))) (c_pr rfl (c_pr (d_vup rfl rfl l64_1) rfl)) (fun z5 => sim_kl (c := (fun r : ((Nat → Int) × (Nat → Int) × ((Nat → Nat → Int) × (Nat → Nat → Int))) => ((cF r.1), (cG r.2.1), ((cFF r.2.2.1), (cGG r.2.2.2))))) (c_pr rfl (c_pr (d_vup rfl rfl l64_0) rfl)) (fun z6 => sim_kl (c := (fun r : ((Nat → Int) × (Nat → Int) × ((Nat → Nat → Int) × (Nat → Nat → Int))) => ((cF r.1), (cG r.2.1), ((cFF r.2.2.1), (cGG r.2.2.2))))) (c_pr rfl (c_pr (d_vup rfl rfl l64_1) rfl)) (fun z7 => sim_some rfl)))))))))))

def q_X12_pair (zT : tZ12) (v1 : Int) (v2 : Int) : Option tZ12 :=
  kg (0 ≤ v1 ∧ v1 < 41) (kg (k32 ((zT.2.2.1 12) (v1.toNat))) (kl (zT.1, (va_up zT.2.1 16 ((zT.2.2.1 12) (v1.toNat))), zT.2.2) (fun z1 : ((Nat → Int) × (Nat → Int) × ((Nat → Nat → Int) × (Nat → Nat → Int))) => kg (k32 ((z1.2.2.1 13) (v1.toNat))) (kl (z1.1, (va_up z1.2.1 17 ((z1.2.2.1 13) (v1.toNat))), z1.2.2) (fun z2 : ((Nat → Int) × (Nat → Int) × ((Nat → Nat → Int) × (Nat → Nat → Int))) => kg (0 ≤ v2 ∧ v2 < 41) (kg (k32 (((z2.2.2.1 12) (v2.toNat)) - ((z2.2.2.1 12) (v1.toNat)))) (kl (z2.1, (va_up z2.2.1 18 (((z2.2.2.1 12) (v2.toNat)) - ((z2.2.2.1 12) (v1.toNat)))), z2.2.2) (fun z3 : ((Nat → Int) × (Nat → Int) × ((Nat → Nat → Int) × (Nat → Nat → Int))) => kg (k32 (((z3.2.2.1 13) (v2.toNat)) - ((z3.2.2.1 13) (v1.toNat)))) (kl (z3.1, (va_up z3.2.1 19 (((z3.2.2.1 13) (v2.toNat)) - ((z3.2.2.1 13) (v1.toNat)))), z3.2.2) (fun z4 : ((Nat → Int) × (Nat → Int) × ((Nat → Nat → Int) × (Nat → Nat → Int))) => kl (z4.1, (va_up z4.2.1 20 (2 : Int)), z4.2.2) (fun z5 : ((Nat → Int) × (Nat → Int) × ((Nat → Nat → Int) × (Nat → Nat → Int))) => kb (q_X12_apart z5 v1 v2) (fun x6 : Int => kb (q_X12_above x6 (4 : Int)) (fun x7 : Int => kl (z5.1, (va_up z5.2.1 21 x7), z5.2.2) (fun z8 : ((Nat → Int) × (Nat → Int) × ((Nat → Nat → Int) × (Nat → Nat → Int))) => kb (q_X12_below x6 (4 : Int)) (fun x9 : Int => kl (z8.1, (va_up z8.2.1 22 x9), z8.2.2) (fun z10 : ((Nat → Int) × (Nat → Int) × ((Nat → Nat → Int) × (Nat → Nat → Int))) => some z10))))))))))))))))
theorem m_X12_pair {zT : tZ12} {u0 : tX12} {v1 : Int} {u1 : Int32} {v2 : Int} {u2 : Int32} (e0 : u0 = (cX12 zT)) (e1 : u1 = (Int32.ofInt v1)) (e2 : u2 = (Int32.ofInt v2)) : sim cX12 (q_X12_pair zT v1 v2) (p_X12_pair u0 u1 u2) := by
  subst e0 e1 e2
  unfold q_X12_pair p_X12_pair
  exact sim_kii rfl (by decide) (fun g1 => sim_g (fun g2 => sim_kl (c := (fun r : ((Nat → Int) × (Nat → Int) × ((Nat → Nat → Int) × (Nat → Nat → Int))) => ((cF r.1), (cG r.2.1), ((cFF r.2.2.1), (cGG r.2.2.2))))) (c_pr rfl (c_pr (d_vup rfl rfl (c_toJ (c_ap (zT.2.2.1 12) (c_idx rfl g1 (by decide))) g2)) rfl)) (fun z1 => sim_kii0 rfl (by decide) g1 (sim_g (fun g3 => sim_kl (c := (fun r : ((Nat → Int) × (Nat → Int) × ((Nat → Nat → Int) × (Nat → Nat → Int))) => ((cF r.1), (cG r.2.1), ((cFF r.2.2.1), (cGG r.2.2.2))))) (c_pr rfl (c_pr (d_vup rfl rfl (c_toJ (c_ap (z1.2.2.1 13) (c_idx rfl g1 (by decide))) g3)) rfl)) (fun z2 => sim_kii rfl (by decide) (fun g4 => sim_kii0 rfl (by decide) g1 (sim_g (fun g5 => sim_kl (c := (fun r : ((Nat → Int) × (Nat → Int) × ((Nat → Nat → Int) × (Nat → Nat → Int))) => ((cF r.1), (cG r.2.1), ((cFF r.2.2.1), (cGG r.2.2.2))))) (c_pr rfl (c_pr (d_vup rfl rfl (c_toJ (c_sub (c_ap (z2.2.2.1 12) (c_idx rfl g4 (by decide))) (c_ap (z2.2.2.1 12) (c_idx rfl g1 (by decide)))) g5)) rfl)) (fun z3 => sim_kii0 rfl (by decide) g4 (sim_kii0 rfl (by decide) g1 (sim_g (fun g6 => sim_kl (c := (fun r : ((Nat → Int) × (Nat → Int) × ((Nat → Nat → Int) × (Nat → Nat → Int))) => ((cF r.1), (cG r.2.1), ((cFF r.2.2.1), (cGG r.2.2.2))))) (c_pr rfl (c_pr (d_vup rfl rfl (c_toJ (c_sub (c_ap (z3.2.2.1 13) (c_idx rfl g4 (by decide))) (c_ap (z3.2.2.1 13) (c_idx rfl g1 (by decide)))) g6)) rfl)) (fun z4 => sim_kl (c := (fun r : ((Nat → Int) × (Nat → Int) × ((Nat → Nat → Int) × (Nat → Nat → Int))) => ((cF r.1), (cG r.2.1), ((cFF r.2.2.1), (cGG r.2.2.2))))) (c_pr rfl (c_pr (d_vup rfl rfl l64_2) rfl)) (fun z5 => sim_kb (c1 := Int64.ofInt) (m_X12_apart rfl rfl rfl) (fun x6 => sim_kb (c1 := Int64.ofInt) (m_X12_above rfl l64_4) (fun x7 => sim_kl (c := (fun r : ((Nat → Int) × (Nat → Int) × ((Nat → Nat → Int) × (Nat → Nat → Int))) => ((cF r.1), (cG r.2.1), ((cFF r.2.2.1), (cGG r.2.2.2))))) (c_pr rfl (c_pr (d_vup rfl rfl rfl) rfl)) (fun z8 => sim_kb (c1 := Int64.ofInt) (m_X12_below rfl l64_4) (fun x9 => sim_kl (c := (fun r : ((Nat → Int) × (Nat → Int) × ((Nat → Nat → Int) × (Nat → Nat → Int))) => ((cF r.1), (cG r.2.1), ((cFF r.2.2.1), (cGG r.2.2.2))))) (c_pr rfl (c_pr (d_vup rfl rfl rfl) rfl)) (fun z10 => sim_some rfl))))))))))))))))))))

def q_X12_turn (zT : tZ12) (v1 : Int) (v2 : Int) (v3 : Int) : Option Int :=
  kg (0 ≤ v2 ∧ v2 < 41) (kg (0 ≤ v1 ∧ v1 < 41) (kg (0 ≤ v3 ∧ v3 < 41) (kg (k32 (((zT.2.2.1 12) (v2.toNat)) - ((zT.2.2.1 12) (v1.toNat))) ∧ k32 (((zT.2.2.1 13) (v3.toNat)) - ((zT.2.2.1 13) (v1.toNat))) ∧ k32 (((zT.2.2.1 13) (v2.toNat)) - ((zT.2.2.1 13) (v1.toNat))) ∧ k32 (((zT.2.2.1 12) (v3.toNat)) - ((zT.2.2.1 12) (v1.toNat)))) (some (((((zT.2.2.1 12) (v2.toNat)) - ((zT.2.2.1 12) (v1.toNat))) * (((zT.2.2.1 13) (v3.toNat)) - ((zT.2.2.1 13) (v1.toNat)))) - ((((zT.2.2.1 13) (v2.toNat)) - ((zT.2.2.1 13) (v1.toNat))) * (((zT.2.2.1 12) (v3.toNat)) - ((zT.2.2.1 12) (v1.toNat)))))))))
theorem m_X12_turn {zT : tZ12} {u0 : tX12} {v1 : Int} {u1 : Int32} {v2 : Int} {u2 : Int32} {v3 : Int} {u3 : Int32} (e0 : u0 = (cX12 zT)) (e1 : u1 = (Int32.ofInt v1)) (e2 : u2 = (Int32.ofInt v2)) (e3 : u3 = (Int32.ofInt v3)) : sim Int64.ofInt (q_X12_turn zT v1 v2 v3) (p_X12_turn u0 u1 u2 u3) := by
  subst e0 e1 e2 e3
  unfold q_X12_turn p_X12_turn
  exact sim_kii rfl (by decide) (fun g1 => sim_kii rfl (by decide) (fun g2 => sim_kii rfl (by decide) (fun g3 => sim_kii0 rfl (by decide) g2 (sim_kii0 rfl (by decide) g1 (sim_kii0 rfl (by decide) g2 (sim_kii0 rfl (by decide) g3 (sim_kii0 rfl (by decide) g2 (sim_g (fun g4 => sim_some (d_sub (d_mul (c_toJ (c_sub (c_ap (zT.2.2.1 12) (c_idx rfl g1 (by decide))) (c_ap (zT.2.2.1 12) (c_idx rfl g2 (by decide)))) g4.1) (c_toJ (c_sub (c_ap (zT.2.2.1 13) (c_idx rfl g3 (by decide))) (c_ap (zT.2.2.1 13) (c_idx rfl g2 (by decide)))) g4.2.1)) (d_mul (c_toJ (c_sub (c_ap (zT.2.2.1 13) (c_idx rfl g1 (by decide))) (c_ap (zT.2.2.1 13) (c_idx rfl g2 (by decide)))) g4.2.2.1) (c_toJ (c_sub (c_ap (zT.2.2.1 12) (c_idx rfl g3 (by decide))) (c_ap (zT.2.2.1 12) (c_idx rfl g2 (by decide)))) g4.2.2.2))))))))))))

def q_X12_isTriple_J122 (v1 : Int) (v2 : Int) (v3 : Int) (zT : tZ12) (v4 : Int) (v6 : Int) (v8 : Int) (v10 : Int) (v12 : Int) (v14 : Int) (v16 : Int) (k122_0 : Int) : Option (Bool × tZ12) :=
  kg (0 ≤ v1 ∧ v1 < 41) (kg (k32 ((zT.2.2.1 12) (v1.toNat))) (kl (zT.1, (va_up zT.2.1 16 ((zT.2.2.1 12) (v1.toNat))), zT.2.2) (fun z8 : ((Nat → Int) × (Nat → Int) × ((Nat → Nat → Int) × (Nat → Nat → Int))) => kg (k32 ((z8.2.2.1 13) (v1.toNat))) (kl (z8.1, (va_up z8.2.1 17 ((z8.2.2.1 13) (v1.toNat))), z8.2.2) (fun z9 : ((Nat → Int) × (Nat → Int) × ((Nat → Nat → Int) × (Nat → Nat → Int))) => kl (z9.1, (va_up z9.2.1 18 (k122_0 * ((v12 * v14) - (v8 * v16)))), z9.2.2) (fun z10 : ((Nat → Int) × (Nat → Int) × ((Nat → Nat → Int) × (Nat → Nat → Int))) => kl (z10.1, (va_up z10.2.1 19 (k122_0 * ((v6 * v16) - (v10 * v14)))), z10.2.2) (fun z11 : ((Nat → Int) × (Nat → Int) × ((Nat → Nat → Int) × (Nat → Nat → Int))) => kl (z11.1, (va_up z11.2.1 20 ((k122_0 * (2 : Int)) * v4)), z11.2.2) (fun z12 : ((Nat → Int) × (Nat → Int) × ((Nat → Nat → Int) × (Nat → Nat → Int))) => kb (q_X12_apart z12 v2 v3) (fun x13 : Int => kl ((v14 * v16) * x13) (fun y14 : Int => kl (((4 : Int) * v4) * v4) (fun y15 : Int => kb (q_X12_above y14 y15) (fun x16 : Int => kl (z12.1, (va_up z12.2.1 21 x16), z12.2.2) (fun z17 : ((Nat → Int) × (Nat → Int) × ((Nat → Nat → Int) × (Nat → Nat → Int))) => kb (q_X12_below y14 y15) (fun x18 : Int => kl (z17.1, (va_up z17.2.1 22 x18), z17.2.2) (fun z19 : ((Nat → Int) × (Nat → Int) × ((Nat → Nat → Int) × (Nat → Nat → Int))) => some (true, z19))))))))))))))))
theorem m_X12_isTriple_J122 {v1 : Int} {u0 : Int32} {v2 : Int} {u1 : Int32} {v3 : Int} {u2 : Int32} {zT : tZ12} {u3 : tX12} {v4 : Int} {u4 : Int64} {v6 : Int} {u5 : Int64} {v8 : Int} {u6 : Int64} {v10 : Int} {u7 : Int64} {v12 : Int} {u8 : Int64} {v14 : Int} {u9 : Int64} {v16 : Int} {u10 : Int64} {k122_0 : Int} {u11 : Int64} (e0 : u0 = (Int32.ofInt v1)) (e1 : u1 = (Int32.ofInt v2)) (e2 : u2 = (Int32.ofInt v3)) (e3 : u3 = (cX12 zT)) (e4 : u4 = (Int64.ofInt v4)) (e5 : u5 = (Int64.ofInt v6)) (e6 : u6 = (Int64.ofInt v8)) (e7 : u7 = (Int64.ofInt v10)) (e8 : u8 = (Int64.ofInt v12)) (e9 : u9 = (Int64.ofInt v14)) (e10 : u10 = (Int64.ofInt v16)) (e11 : u11 = (Int64.ofInt k122_0)) : sim (fun r : (Bool × tZ12) => (r.1, (cX12 r.2))) (q_X12_isTriple_J122 v1 v2 v3 zT v4 v6 v8 v10 v12 v14 v16 k122_0) (p_X12_isTriple_J122 u0 u1 u2 u3 u4 u5 u6 u7 u8 u9 u10 u11) := by
  subst e0 e1 e2 e3 e4 e5 e6 e7 e8 e9 e10 e11
  unfold q_X12_isTriple_J122 p_X12_isTriple_J122
  exact sim_kii rfl (by decide) (fun g1 => sim_g (fun g2 => sim_kl (c := (fun r : ((Nat → Int) × (Nat → Int) × ((Nat → Nat → Int) × (Nat → Nat → Int))) => ((cF r.1), (cG r.2.1), ((cFF r.2.2.1), (cGG r.2.2.2))))) (c_pr rfl (c_pr (d_vup rfl rfl (c_toJ (c_ap (zT.2.2.1 12) (c_idx rfl g1 (by decide))) g2)) rfl)) (fun z8 => sim_kii0 rfl (by decide) g1 (sim_g (fun g3 => sim_kl (c := (fun r : ((Nat → Int) × (Nat → Int) × ((Nat → Nat → Int) × (Nat → Nat → Int))) => ((cF r.1), (cG r.2.1), ((cFF r.2.2.1), (cGG r.2.2.2))))) (c_pr rfl (c_pr (d_vup rfl rfl (c_toJ (c_ap (z8.2.2.1 13) (c_idx rfl g1 (by decide))) g3)) rfl)) (fun z9 => sim_kl (c := (fun r : ((Nat → Int) × (Nat → Int) × ((Nat → Nat → Int) × (Nat → Nat → Int))) => ((cF r.1), (cG r.2.1), ((cFF r.2.2.1), (cGG r.2.2.2))))) (c_pr rfl (c_pr (d_vup rfl rfl (d_mul rfl (d_sub (d_mul rfl rfl) (d_mul rfl rfl)))) rfl)) (fun z10 => sim_kl (c := (fun r : ((Nat → Int) × (Nat → Int) × ((Nat → Nat → Int) × (Nat → Nat → Int))) => ((cF r.1), (cG r.2.1), ((cFF r.2.2.1), (cGG r.2.2.2))))) (c_pr rfl (c_pr (d_vup rfl rfl (d_mul rfl (d_sub (d_mul rfl rfl) (d_mul rfl rfl)))) rfl)) (fun z11 => sim_kl (c := (fun r : ((Nat → Int) × (Nat → Int) × ((Nat → Nat → Int) × (Nat → Nat → Int))) => ((cF r.1), (cG r.2.1), ((cFF r.2.2.1), (cGG r.2.2.2))))) (c_pr rfl (c_pr (d_vup rfl rfl (d_mul (d_mul rfl l64_2) rfl)) rfl)) (fun z12 => sim_kb (c1 := Int64.ofInt) (m_X12_apart rfl rfl rfl) (fun x13 => sim_kl (c := Int64.ofInt) (d_mul (d_mul rfl rfl) rfl) (fun y14 => sim_kl (c := Int64.ofInt) (d_mul (d_mul l64_4 rfl) rfl) (fun y15 => sim_kb (c1 := Int64.ofInt) (m_X12_above rfl rfl) (fun x16 => sim_kl (c := (fun r : ((Nat → Int) × (Nat → Int) × ((Nat → Nat → Int) × (Nat → Nat → Int))) => ((cF r.1), (cG r.2.1), ((cFF r.2.2.1), (cGG r.2.2.2))))) (c_pr rfl (c_pr (d_vup rfl rfl rfl) rfl)) (fun z17 => sim_kb (c1 := Int64.ofInt) (m_X12_below rfl rfl) (fun x18 => sim_kl (c := (fun r : ((Nat → Int) × (Nat → Int) × ((Nat → Nat → Int) × (Nat → Nat → Int))) => ((cF r.1), (cG r.2.1), ((cFF r.2.2.1), (cGG r.2.2.2))))) (c_pr rfl (c_pr (d_vup rfl rfl rfl) rfl)) (fun z19 => sim_some rfl))))))))))))))))

def q_X12_isTriple (zT : tZ12) (v1 : Int) (v2 : Int) (v3 : Int) : Option (Bool × tZ12) :=
  kb (q_X12_turn zT v1 v2 v3) (fun x1 : Int => kg (k64 x1) (kif (x1 = (0 : Int)) (some (false, zT)) (kg (0 ≤ v2 ∧ v2 < 41) (kg (0 ≤ v1 ∧ v1 < 41) (kg (k32 (((zT.2.2.1 12) (v2.toNat)) - ((zT.2.2.1 12) (v1.toNat)))) (kl (((zT.2.2.1 12) (v2.toNat)) - ((zT.2.2.1 12) (v1.toNat))) (fun y2 : Int => kg (k32 (((zT.2.2.1 13) (v2.toNat)) - ((zT.2.2.1 13) (v1.toNat)))) (kl (((zT.2.2.1 13) (v2.toNat)) - ((zT.2.2.1 13) (v1.toNat))) (fun y3 : Int => kg (0 ≤ v3 ∧ v3 < 41) (kg (k32 (((zT.2.2.1 12) (v3.toNat)) - ((zT.2.2.1 12) (v1.toNat)))) (kl (((zT.2.2.1 12) (v3.toNat)) - ((zT.2.2.1 12) (v1.toNat))) (fun y4 : Int => kg (k32 (((zT.2.2.1 13) (v3.toNat)) - ((zT.2.2.1 13) (v1.toNat)))) (kl (((zT.2.2.1 13) (v3.toNat)) - ((zT.2.2.1 13) (v1.toNat))) (fun y5 : Int => kl ((y2 * y2) + (y3 * y3)) (fun y6 : Int => kl ((y4 * y4) + (y5 * y5)) (fun y7 : Int => kif ((0 : Int) ≤ x1) (q_X12_isTriple_J122 v1 v2 v3 zT x1 y2 y3 y4 y5 y6 y7 (1 : Int)) (q_X12_isTriple_J122 v1 v2 v3 zT x1 y2 y3 y4 y5 y6 y7 (-1 : Int))))))))))))))))))
theorem m_X12_isTriple {zT : tZ12} {u0 : tX12} {v1 : Int} {u1 : Int32} {v2 : Int} {u2 : Int32} {v3 : Int} {u3 : Int32} (e0 : u0 = (cX12 zT)) (e1 : u1 = (Int32.ofInt v1)) (e2 : u2 = (Int32.ofInt v2)) (e3 : u3 = (Int32.ofInt v3)) : sim (fun r : (Bool × tZ12) => (r.1, (cX12 r.2))) (q_X12_isTriple zT v1 v2 v3) (p_X12_isTriple u0 u1 u2 u3) := by
  subst e0 e1 e2 e3
  unfold q_X12_isTriple p_X12_isTriple
  exact sim_kb (c1 := Int64.ofInt) (m_X12_turn rfl rfl rfl rfl) (fun x1 => sim_g (fun g1 => sim_kif (j_eq rfl l64_0 g1 (by decide)) (sim_some rfl) (sim_kii rfl (by decide) (fun g2 => sim_kii rfl (by decide) (fun g3 => sim_g (fun g4 => sim_kl (c := Int64.ofInt) (c_toJ (c_sub (c_ap (zT.2.2.1 12) (c_idx rfl g2 (by decide))) (c_ap (zT.2.2.1 12) (c_idx rfl g3 (by decide)))) g4) (fun y2 => sim_kii0 rfl (by decide) g2 (sim_kii0 rfl (by decide) g3 (sim_g (fun g5 => sim_kl (c := Int64.ofInt) (c_toJ (c_sub (c_ap (zT.2.2.1 13) (c_idx rfl g2 (by decide))) (c_ap (zT.2.2.1 13) (c_idx rfl g3 (by decide)))) g5) (fun y3 => sim_kii rfl (by decide) (fun g6 => sim_kii0 rfl (by decide) g3 (sim_g (fun g7 => sim_kl (c := Int64.ofInt) (c_toJ (c_sub (c_ap (zT.2.2.1 12) (c_idx rfl g6 (by decide))) (c_ap (zT.2.2.1 12) (c_idx rfl g3 (by decide)))) g7) (fun y4 => sim_kii0 rfl (by decide) g6 (sim_kii0 rfl (by decide) g3 (sim_g (fun g8 => sim_kl (c := Int64.ofInt) (c_toJ (c_sub (c_ap (zT.2.2.1 13) (c_idx rfl g6 (by decide))) (c_ap (zT.2.2.1 13) (c_idx rfl g3 (by decide)))) g8) (fun y5 => sim_kl (c := Int64.ofInt) (d_add (d_mul rfl rfl) (d_mul rfl rfl)) (fun y6 => sim_kl (c := Int64.ofInt) (d_add (d_mul rfl rfl) (d_mul rfl rfl)) (fun y7 => sim_kif (j_ge rfl l64_0 g1 (by decide)) (m_X12_isTriple_J122 rfl rfl rfl rfl rfl rfl rfl rfl rfl rfl rfl l64_1) (m_X12_isTriple_J122 rfl rfl rfl rfl rfl rfl rfl rfl rfl rfl rfl l64_m1))))))))))))))))))))))

def q_X12_lies (zT : tZ12) (v1 : Int) (v3 : Int) : Option Int :=
  kl (v1 - (zT.2.1 16)) (fun y1 : Int => kl (v3 - (zT.2.1 17)) (fun y2 : Int => some ((((y1 * y1) + (y2 * y2)) * (zT.2.1 20)) - ((2 : Int) * ((y1 * (zT.2.1 18)) + (y2 * (zT.2.1 19)))))))
theorem m_X12_lies {zT : tZ12} {u0 : tX12} {v1 : Int} {u1 : Int64} {v3 : Int} {u2 : Int64} (e0 : u0 = (cX12 zT)) (e1 : u1 = (Int64.ofInt v1)) (e2 : u2 = (Int64.ofInt v3)) : sim Int64.ofInt (q_X12_lies zT v1 v3) (p_X12_lies u0 u1 u2) := by
  subst e0 e1 e2
  unfold q_X12_lies p_X12_lies
  exact sim_kl (c := Int64.ofInt) (d_sub rfl rfl) (fun y1 => sim_kl (c := Int64.ofInt) (d_sub rfl rfl) (fun y2 => sim_some (d_sub (d_mul (d_add (d_mul rfl rfl) (d_mul rfl rfl)) rfl) (d_mul l64_2 (d_add (d_mul rfl rfl) (d_mul rfl rfl))))))

def q_X12_holds (zT : tZ12) (v1 : Int) : Option Bool :=
  kg (0 ≤ v1 ∧ v1 < 41) (kg (k32 ((zT.2.2.1 12) (v1.toNat)) ∧ k32 ((zT.2.2.1 13) (v1.toNat))) (kb (q_X12_lies zT ((zT.2.2.1 12) (v1.toNat)) ((zT.2.2.1 13) (v1.toNat))) (fun x1 : Int => kg (k64 x1) (kif ((0 : Int) < x1) (some false) (some true)))))
theorem m_X12_holds {zT : tZ12} {u0 : tX12} {v1 : Int} {u1 : Int32} (e0 : u0 = (cX12 zT)) (e1 : u1 = (Int32.ofInt v1)) : sim (fun r : Bool => r) (q_X12_holds zT v1) (p_X12_holds u0 u1) := by
  subst e0 e1
  unfold q_X12_holds p_X12_holds
  exact sim_kii rfl (by decide) (fun g1 => sim_kii0 rfl (by decide) g1 (sim_g (fun g2 => sim_kb (c1 := Int64.ofInt) (m_X12_lies rfl (c_toJ (c_ap (zT.2.2.1 12) (c_idx rfl g1 (by decide))) g2.1) (c_toJ (c_ap (zT.2.2.1 13) (c_idx rfl g1 (by decide))) g2.2)) (fun x1 => sim_g (fun g3 => sim_kif (j_gt rfl l64_0 g3 (by decide)) (sim_some rfl) (sim_some rfl))))))

def q_X12_has (v0 : Int) (v2 : Int) : Option Bool :=
  kg (k32 v2) (kif ((zand64 (zshr64 v0 (zand64 v2 (63 : Int))) (1 : Int)) = (1 : Int)) (some true) (some false))
theorem m_X12_has {v0 : Int} {u0 : Int64} {v2 : Int} {u1 : Int32} (e0 : u0 = (Int64.ofInt v0)) (e1 : u1 = (Int32.ofInt v2)) : sim (fun r : Bool => r) (q_X12_has v0 v2) (p_X12_has u0 u1) := by
  subst e0 e1
  unfold q_X12_has p_X12_has
  exact sim_g (fun g1 => sim_kif (j_eq (d_and (d_shr rfl (d_and (c_toJ rfl g1) l64_63)) l64_1) l64_1 (k64_to _) (by decide)) (sim_some rfl) (sim_some rfl))

def q_X12_holdsAll_L2 (zT : tZ12) (v1 : Int) (s : Int) : Option (Nat × Int) :=
  kg (k32 (zT.1 15) ∧ k32 s) (kif ((zT.1 15) ≤ s) (some (34, s)) (kb (q_X12_has v1 s) (fun x1 : Bool => kif (kz x1 = 0) (kl (s + (1 : Int)) (fun y2 : Int => some (2, y2))) (kb (q_X12_holds zT s) (fun x3 : Bool => kif (kz x3 = 0) (some (26, s)) (kl (s + (1 : Int)) (fun y4 : Int => some (2, y4))))))))
theorem m_X12_holdsAll_L2 {zT : tZ12} {u0 : tX12} {v1 : Int} {u1 : Int64} {s : Int} {u2 : Int32} (e0 : u0 = (cX12 zT)) (e1 : u1 = (Int64.ofInt v1)) (e2 : u2 = (Int32.ofInt s)) : sim (fun r : (Nat × Int) => (r.1, (Int32.ofInt r.2))) (q_X12_holdsAll_L2 zT v1 s) (p_X12_holdsAll_L2 u0 u1 u2) := by
  subst e0 e1 e2
  unfold q_X12_holdsAll_L2 p_X12_holdsAll_L2
  exact sim_g (fun g1 => sim_kif (i_le rfl rfl g1.1 g1.2) (sim_some rfl) (sim_kb (c1 := (fun r : Bool => r)) (m_X12_has rfl rfl) (fun x1 => sim_kif Iff.rfl (sim_kl (c := Int32.ofInt) (c_add rfl l32_1) (fun y2 => sim_some rfl)) (sim_kb (c1 := (fun r : Bool => r)) (m_X12_holds rfl rfl) (fun x3 => sim_kif Iff.rfl (sim_some rfl) (sim_kl (c := Int32.ofInt) (c_add rfl l32_1) (fun y4 => sim_some rfl)))))))

def q_X12_holdsAll (zT : tZ12) (v1 : Int) : Option Bool :=
  kb (kitr 2 (fun q => q_X12_holdsAll_L2 zT v1 q) kF (0 : Int)) (fun x5 : (Nat × Int) => kif (x5.1 = 26) (some false) (kg ((x5.1 = 34)) (some true)))
theorem m_X12_holdsAll {zT : tZ12} {u0 : tX12} {v1 : Int} {u1 : Int64} (e0 : u0 = (cX12 zT)) (e1 : u1 = (Int64.ofInt v1)) : sim (fun r : Bool => r) (q_X12_holdsAll zT v1) (p_X12_holdsAll u0 u1) := by
  subst e0 e1
  unfold q_X12_holdsAll p_X12_holdsAll
  exact sim_kb (c1 := (fun r : (Nat × Int) => (r.1, (Int32.ofInt r.2)))) (sim_kitr (c := Int32.ofInt) (fun _ => m_X12_holdsAll_L2 rfl rfl rfl) l32_0) (fun x5 => sim_kif Iff.rfl (sim_some rfl) (sim_kg Iff.rfl (sim_some rfl)))

def q_X12_keepBest (zT : tZ12) : Option tZ12 :=
  kl (zT.1, (va_up zT.2.1 23 (zT.2.1 16)), zT.2.2) (fun z1 : ((Nat → Int) × (Nat → Int) × ((Nat → Nat → Int) × (Nat → Nat → Int))) => kl (z1.1, (va_up z1.2.1 24 (z1.2.1 17)), z1.2.2) (fun z2 : ((Nat → Int) × (Nat → Int) × ((Nat → Nat → Int) × (Nat → Nat → Int))) => kl (z2.1, (va_up z2.2.1 25 (z2.2.1 18)), z2.2.2) (fun z3 : ((Nat → Int) × (Nat → Int) × ((Nat → Nat → Int) × (Nat → Nat → Int))) => kl (z3.1, (va_up z3.2.1 26 (z3.2.1 19)), z3.2.2) (fun z4 : ((Nat → Int) × (Nat → Int) × ((Nat → Nat → Int) × (Nat → Nat → Int))) => kl (z4.1, (va_up z4.2.1 27 (z4.2.1 20)), z4.2.2) (fun z5 : ((Nat → Int) × (Nat → Int) × ((Nat → Nat → Int) × (Nat → Nat → Int))) => kl (z5.1, (va_up z5.2.1 28 (z5.2.1 21)), z5.2.2) (fun z6 : ((Nat → Int) × (Nat → Int) × ((Nat → Nat → Int) × (Nat → Nat → Int))) => kl (z6.1, (va_up z6.2.1 29 (z6.2.1 22)), z6.2.2) (fun z7 : ((Nat → Int) × (Nat → Int) × ((Nat → Nat → Int) × (Nat → Nat → Int))) => some z7)))))))
theorem m_X12_keepBest {zT : tZ12} {u0 : tX12} (e0 : u0 = (cX12 zT)) : sim cX12 (q_X12_keepBest zT) (p_X12_keepBest u0) := by
  subst e0
  unfold q_X12_keepBest p_X12_keepBest
  exact sim_kl (c := (fun r : ((Nat → Int) × (Nat → Int) × ((Nat → Nat → Int) × (Nat → Nat → Int))) => ((cF r.1), (cG r.2.1), ((cFF r.2.2.1), (cGG r.2.2.2))))) (c_pr rfl (c_pr (d_vup rfl rfl rfl) rfl)) (fun z1 => sim_kl (c := (fun r : ((Nat → Int) × (Nat → Int) × ((Nat → Nat → Int) × (Nat → Nat → Int))) => ((cF r.1), (cG r.2.1), ((cFF r.2.2.1), (cGG r.2.2.2))))) (c_pr rfl (c_pr (d_vup rfl rfl rfl) rfl)) (fun z2 => sim_kl (c := (fun r : ((Nat → Int) × (Nat → Int) × ((Nat → Nat → Int) × (Nat → Nat → Int))) => ((cF r.1), (cG r.2.1), ((cFF r.2.2.1), (cGG r.2.2.2))))) (c_pr rfl (c_pr (d_vup rfl rfl rfl) rfl)) (fun z3 => sim_kl (c := (fun r : ((Nat → Int) × (Nat → Int) × ((Nat → Nat → Int) × (Nat → Nat → Int))) => ((cF r.1), (cG r.2.1), ((cFF r.2.2.1), (cGG r.2.2.2))))) (c_pr rfl (c_pr (d_vup rfl rfl rfl) rfl)) (fun z4 => sim_kl (c := (fun r : ((Nat → Int) × (Nat → Int) × ((Nat → Nat → Int) × (Nat → Nat → Int))) => ((cF r.1), (cG r.2.1), ((cFF r.2.2.1), (cGG r.2.2.2))))) (c_pr rfl (c_pr (d_vup rfl rfl rfl) rfl)) (fun z5 => sim_kl (c := (fun r : ((Nat → Int) × (Nat → Int) × ((Nat → Nat → Int) × (Nat → Nat → Int))) => ((cF r.1), (cG r.2.1), ((cFF r.2.2.1), (cGG r.2.2.2))))) (c_pr rfl (c_pr (d_vup rfl rfl rfl) rfl)) (fun z6 => sim_kl (c := (fun r : ((Nat → Int) × (Nat → Int) × ((Nat → Nat → Int) × (Nat → Nat → Int))) => ((cF r.1), (cG r.2.1), ((cFF r.2.2.1), (cGG r.2.2.2))))) (c_pr rfl (c_pr (d_vup rfl rfl rfl) rfl)) (fun z7 => sim_some rfl)))))))

def q_X12_takeBest (zT : tZ12) : Option tZ12 :=
  kl (zT.1, (va_up zT.2.1 16 (zT.2.1 23)), zT.2.2) (fun z1 : ((Nat → Int) × (Nat → Int) × ((Nat → Nat → Int) × (Nat → Nat → Int))) => kl (z1.1, (va_up z1.2.1 17 (z1.2.1 24)), z1.2.2) (fun z2 : ((Nat → Int) × (Nat → Int) × ((Nat → Nat → Int) × (Nat → Nat → Int))) => kl (z2.1, (va_up z2.2.1 18 (z2.2.1 25)), z2.2.2) (fun z3 : ((Nat → Int) × (Nat → Int) × ((Nat → Nat → Int) × (Nat → Nat → Int))) => kl (z3.1, (va_up z3.2.1 19 (z3.2.1 26)), z3.2.2) (fun z4 : ((Nat → Int) × (Nat → Int) × ((Nat → Nat → Int) × (Nat → Nat → Int))) => kl (z4.1, (va_up z4.2.1 20 (z4.2.1 27)), z4.2.2) (fun z5 : ((Nat → Int) × (Nat → Int) × ((Nat → Nat → Int) × (Nat → Nat → Int))) => kl (z5.1, (va_up z5.2.1 21 (z5.2.1 28)), z5.2.2) (fun z6 : ((Nat → Int) × (Nat → Int) × ((Nat → Nat → Int) × (Nat → Nat → Int))) => kl (z6.1, (va_up z6.2.1 22 (z6.2.1 29)), z6.2.2) (fun z7 : ((Nat → Int) × (Nat → Int) × ((Nat → Nat → Int) × (Nat → Nat → Int))) => some z7)))))))
theorem m_X12_takeBest {zT : tZ12} {u0 : tX12} (e0 : u0 = (cX12 zT)) : sim cX12 (q_X12_takeBest zT) (p_X12_takeBest u0) := by
  subst e0
  unfold q_X12_takeBest p_X12_takeBest
  exact sim_kl (c := (fun r : ((Nat → Int) × (Nat → Int) × ((Nat → Nat → Int) × (Nat → Nat → Int))) => ((cF r.1), (cG r.2.1), ((cFF r.2.2.1), (cGG r.2.2.2))))) (c_pr rfl (c_pr (d_vup rfl rfl rfl) rfl)) (fun z1 => sim_kl (c := (fun r : ((Nat → Int) × (Nat → Int) × ((Nat → Nat → Int) × (Nat → Nat → Int))) => ((cF r.1), (cG r.2.1), ((cFF r.2.2.1), (cGG r.2.2.2))))) (c_pr rfl (c_pr (d_vup rfl rfl rfl) rfl)) (fun z2 => sim_kl (c := (fun r : ((Nat → Int) × (Nat → Int) × ((Nat → Nat → Int) × (Nat → Nat → Int))) => ((cF r.1), (cG r.2.1), ((cFF r.2.2.1), (cGG r.2.2.2))))) (c_pr rfl (c_pr (d_vup rfl rfl rfl) rfl)) (fun z3 => sim_kl (c := (fun r : ((Nat → Int) × (Nat → Int) × ((Nat → Nat → Int) × (Nat → Nat → Int))) => ((cF r.1), (cG r.2.1), ((cFF r.2.2.1), (cGG r.2.2.2))))) (c_pr rfl (c_pr (d_vup rfl rfl rfl) rfl)) (fun z4 => sim_kl (c := (fun r : ((Nat → Int) × (Nat → Int) × ((Nat → Nat → Int) × (Nat → Nat → Int))) => ((cF r.1), (cG r.2.1), ((cFF r.2.2.1), (cGG r.2.2.2))))) (c_pr rfl (c_pr (d_vup rfl rfl rfl) rfl)) (fun z5 => sim_kl (c := (fun r : ((Nat → Int) × (Nat → Int) × ((Nat → Nat → Int) × (Nat → Nat → Int))) => ((cF r.1), (cG r.2.1), ((cFF r.2.2.1), (cGG r.2.2.2))))) (c_pr rfl (c_pr (d_vup rfl rfl rfl) rfl)) (fun z6 => sim_kl (c := (fun r : ((Nat → Int) × (Nat → Int) × ((Nat → Nat → Int) × (Nat → Nat → Int))) => ((cF r.1), (cG r.2.1), ((cFF r.2.2.1), (cGG r.2.2.2))))) (c_pr rfl (c_pr (d_vup rfl rfl rfl) rfl)) (fun z7 => sim_some rfl)))))))
