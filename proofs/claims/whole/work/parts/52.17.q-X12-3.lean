def q_X12_deep_J280_59 (v1 : Int) (v2 : Int) (v3 : Int) (zT : tZ12) (v4 : Int) (v5 : Int) (v6 : Int) (v13 : Int) (v14 : Int) (k280_0 : Int) : Option (Nat × (Int × Int)) :=
  kg (k32 v14 ∧ k32 v13) (kif (v14 ≤ v13) (q_X12_deep_J294_59 v1 v2 v3 zT v4 v5 v6 k280_0 v14) (q_X12_deep_J294_59 v1 v2 v3 zT v4 v5 v6 k280_0 v13))
theorem m_X12_deep_J280_59 {v1 : Int} {u0 : Int32} {v2 : Int} {u1 : Int32} {v3 : Int} {u2 : Int32} {zT : tZ12} {u3 : tX12} {v4 : Int} {u4 : Int32} {v5 : Int} {u5 : Int32} {v6 : Int} {u6 : Int32} {v13 : Int} {u7 : Int32} {v14 : Int} {u8 : Int32} {k280_0 : Int} {u9 : Int32} (e0 : u0 = (Int32.ofInt v1)) (e1 : u1 = (Int32.ofInt v2)) (e2 : u2 = (Int32.ofInt v3)) (e3 : u3 = (cX12 zT)) (e4 : u4 = (Int32.ofInt v4)) (e5 : u5 = (Int32.ofInt v5)) (e6 : u6 = (Int32.ofInt v6)) (e7 : u7 = (Int32.ofInt v13)) (e8 : u8 = (Int32.ofInt v14)) (e9 : u9 = (Int32.ofInt k280_0)) : sim (fun r : (Nat × (Int × Int)) => (r.1, ((Int32.ofInt r.2.1), (Int32.ofInt r.2.2)))) (q_X12_deep_J280_59 v1 v2 v3 zT v4 v5 v6 v13 v14 k280_0) (p_X12_deep_J280_59 u0 u1 u2 u3 u4 u5 u6 u7 u8 u9) := by
  subst e0 e1 e2 e3 e4 e5 e6 e7 e8 e9
  unfold q_X12_deep_J280_59 p_X12_deep_J280_59
  exact sim_g (fun g1 => sim_kif (i_le rfl rfl g1.1 g1.2) (m_X12_deep_J294_59 rfl rfl rfl rfl rfl rfl rfl rfl rfl) (m_X12_deep_J294_59 rfl rfl rfl rfl rfl rfl rfl rfl rfl))

def q_X12_deep_J109_59 (v1 : Int) (v2 : Int) (v3 : Int) (zT : tZ12) (v4 : Int) (v5 : Int) (v6 : Int) (v7 : Int) (v9 : Int) : Option (Nat × (Int × Int)) :=
  kb (kitr 121 (fun q => q_X12_deep_L121 v1 v2 v3 zT v4 v5 v6 v7 v9 q) kF ((0 : Int), (0 : Int), (0 : Int), (0 : Int))) (fun x18 : (Nat × Int × Int × Int × Int) => kg ((x18.1 = 248)) (kl (((((zT.1 15) - v4) - x18.2.1) - x18.2.2.1) - x18.2.2.2.1) (fun y19 : Int => kg (k32 x18.2.2.1 ∧ k32 x18.2.1) (kif (x18.2.2.1 ≤ x18.2.1) (q_X12_deep_J280_59 v1 v2 v3 zT v4 v5 v6 x18.2.2.2.1 y19 x18.2.2.1) (q_X12_deep_J280_59 v1 v2 v3 zT v4 v5 v6 x18.2.2.2.1 y19 x18.2.1)))))
theorem m_X12_deep_J109_59 {v1 : Int} {u0 : Int32} {v2 : Int} {u1 : Int32} {v3 : Int} {u2 : Int32} {zT : tZ12} {u3 : tX12} {v4 : Int} {u4 : Int32} {v5 : Int} {u5 : Int32} {v6 : Int} {u6 : Int32} {v7 : Int} {u7 : Int64} {v9 : Int} {u8 : Int64} (e0 : u0 = (Int32.ofInt v1)) (e1 : u1 = (Int32.ofInt v2)) (e2 : u2 = (Int32.ofInt v3)) (e3 : u3 = (cX12 zT)) (e4 : u4 = (Int32.ofInt v4)) (e5 : u5 = (Int32.ofInt v5)) (e6 : u6 = (Int32.ofInt v6)) (e7 : u7 = (Int64.ofInt v7)) (e8 : u8 = (Int64.ofInt v9)) : sim (fun r : (Nat × (Int × Int)) => (r.1, ((Int32.ofInt r.2.1), (Int32.ofInt r.2.2)))) (q_X12_deep_J109_59 v1 v2 v3 zT v4 v5 v6 v7 v9) (p_X12_deep_J109_59 u0 u1 u2 u3 u4 u5 u6 u7 u8) := by
  subst e0 e1 e2 e3 e4 e5 e6 e7 e8
  unfold q_X12_deep_J109_59 p_X12_deep_J109_59
  exact sim_kb (c1 := (fun r : (Nat × Int × Int × Int × Int) => (r.1, (Int32.ofInt r.2.1), (Int32.ofInt r.2.2.1), (Int32.ofInt r.2.2.2.1), (Int32.ofInt r.2.2.2.2)))) (sim_kitr (c := (fun r : (Int × Int × Int × Int) => ((Int32.ofInt r.1), (Int32.ofInt r.2.1), (Int32.ofInt r.2.2.1), (Int32.ofInt r.2.2.2)))) (fun _ => m_X12_deep_L121 rfl rfl rfl rfl rfl rfl rfl rfl rfl rfl) (c_pr l32_0 (c_pr l32_0 (c_pr l32_0 l32_0)))) (fun x18 => sim_kg Iff.rfl (sim_kl (c := Int32.ofInt) (c_sub (c_sub (c_sub (c_sub rfl rfl) rfl) rfl) rfl) (fun y19 => sim_g (fun g1 => sim_kif (i_le rfl rfl g1.1 g1.2) (m_X12_deep_J280_59 rfl rfl rfl rfl rfl rfl rfl rfl rfl rfl) (m_X12_deep_J280_59 rfl rfl rfl rfl rfl rfl rfl rfl rfl rfl)))))

def q_X12_deep_L59 (v1 : Int) (v2 : Int) (v3 : Int) (zT : tZ12) (v4 : Int) (s : (Int × Int)) : Option (Nat × (Int × Int)) :=
  kg (k32 (zT.1 15) ∧ k32 s.2) (kif ((zT.1 15) ≤ s.2) (some (319, (s.1, s.2))) (kg (0 ≤ s.2 ∧ s.2 < 41) (kg (k32 (((zT.2.2.1 12) (s.2.toNat)) - v2)) (kl (((zT.2.2.1 12) (s.2.toNat)) - v2) (fun y6 : Int => kg (k32 (((zT.2.2.1 13) (s.2.toNat)) - v3)) (kl (((zT.2.2.1 13) (s.2.toNat)) - v3) (fun y7 : Int => kg (k64 y6) (kif (y6 = (0 : Int)) (kg (k64 y7) (kif (y7 = (0 : Int)) (kl (s.2 + (1 : Int)) (fun y8 : Int => some (59, (s.1, y8)))) (q_X12_deep_J109_59 v1 v2 v3 zT v4 s.1 s.2 y6 y7))) (q_X12_deep_J109_59 v1 v2 v3 zT v4 s.1 s.2 y6 y7)))))))))
theorem m_X12_deep_L59 {v1 : Int} {u0 : Int32} {v2 : Int} {u1 : Int32} {v3 : Int} {u2 : Int32} {zT : tZ12} {u3 : tX12} {v4 : Int} {u4 : Int32} {s : (Int × Int)} {u5 : (Int32 × Int32)} (e0 : u0 = (Int32.ofInt v1)) (e1 : u1 = (Int32.ofInt v2)) (e2 : u2 = (Int32.ofInt v3)) (e3 : u3 = (cX12 zT)) (e4 : u4 = (Int32.ofInt v4)) (e5 : u5 = ((Int32.ofInt s.1), (Int32.ofInt s.2))) : sim (fun r : (Nat × (Int × Int)) => (r.1, ((Int32.ofInt r.2.1), (Int32.ofInt r.2.2)))) (q_X12_deep_L59 v1 v2 v3 zT v4 s) (p_X12_deep_L59 u0 u1 u2 u3 u4 u5) := by
  subst e0 e1 e2 e3 e4 e5
  unfold q_X12_deep_L59 p_X12_deep_L59
  exact sim_g (fun g1 => sim_kif (i_le rfl rfl g1.1 g1.2) (sim_some rfl) (sim_kii rfl (by decide) (fun g2 => sim_g (fun g3 => sim_kl (c := Int64.ofInt) (c_toJ (c_sub (c_ap (zT.2.2.1 12) (c_idx rfl g2 (by decide))) rfl) g3) (fun y6 => sim_kii0 rfl (by decide) g2 (sim_g (fun g4 => sim_kl (c := Int64.ofInt) (c_toJ (c_sub (c_ap (zT.2.2.1 13) (c_idx rfl g2 (by decide))) rfl) g4) (fun y7 => sim_g (fun g5 => sim_kif (j_eq rfl l64_0 g5 (by decide)) (sim_g (fun g6 => sim_kif (j_eq rfl l64_0 g6 (by decide)) (sim_kl (c := Int32.ofInt) (c_add rfl l32_1) (fun y8 => sim_some rfl)) (m_X12_deep_J109_59 rfl rfl rfl rfl rfl rfl rfl rfl rfl))) (m_X12_deep_J109_59 rfl rfl rfl rfl rfl rfl rfl rfl rfl))))))))))

def q_X12_deep_J45 (v1 : Int) (v2 : Int) (v3 : Int) (zT : tZ12) (k45_0 : Int) : Option (Int × tZ12) :=
  kl ((zT.1 15) - k45_0) (fun y5 : Int => kb (kitr 59 (fun q => q_X12_deep_L59 v1 v2 v3 zT k45_0 q) kF (y5, (0 : Int))) (fun x23 : (Nat × Int × Int) => kg ((x23.1 = 319)) (some ((x23.2.1 + k45_0), zT))))
theorem m_X12_deep_J45 {v1 : Int} {u0 : Int32} {v2 : Int} {u1 : Int32} {v3 : Int} {u2 : Int32} {zT : tZ12} {u3 : tX12} {k45_0 : Int} {u4 : Int32} (e0 : u0 = (Int32.ofInt v1)) (e1 : u1 = (Int32.ofInt v2)) (e2 : u2 = (Int32.ofInt v3)) (e3 : u3 = (cX12 zT)) (e4 : u4 = (Int32.ofInt k45_0)) : sim (fun r : (Int × tZ12) => ((Int32.ofInt r.1), (cX12 r.2))) (q_X12_deep_J45 v1 v2 v3 zT k45_0) (p_X12_deep_J45 u0 u1 u2 u3 u4) := by
  subst e0 e1 e2 e3 e4
  unfold q_X12_deep_J45 p_X12_deep_J45
  exact sim_kl (c := Int32.ofInt) (c_sub rfl rfl) (fun y5 => sim_kb (c1 := (fun r : (Nat × Int × Int) => (r.1, (Int32.ofInt r.2.1), (Int32.ofInt r.2.2)))) (sim_kitr (c := (fun r : (Int × Int) => ((Int32.ofInt r.1), (Int32.ofInt r.2)))) (fun _ => m_X12_deep_L59 rfl rfl rfl rfl rfl rfl) (c_pr rfl l32_0)) (fun x23 => sim_kg Iff.rfl (sim_some (c_pr (c_add rfl rfl) rfl))))

def q_X12_deep (zT : tZ12) (v1 : Int) (v2 : Int) (v3 : Int) : Option (Int × tZ12) :=
  kb (q_X12_isFar v2 (300 : Int)) (fun x1 : Bool => kif (kz x1 = 0) (some ((-1 : Int), zT)) (kb (q_X12_isFar v3 (300 : Int)) (fun x2 : Bool => kif (kz x2 = 0) (some ((-1 : Int), zT)) (kb (q_X12_isLaid zT v1) (fun x3 : (Bool × tZ12) => kif (kz x3.1 = 0) (some ((-1 : Int), x3.2)) (kb (q_X12_spotAt x3.2 v2 v3) (fun x4 : Int => kg (k32 x4) (kif (x4 = (-1 : Int)) (q_X12_deep_J45 v1 v2 v3 x3.2 (0 : Int)) (q_X12_deep_J45 v1 v2 v3 x3.2 (1 : Int))))))))))
theorem m_X12_deep {zT : tZ12} {u0 : tX12} {v1 : Int} {u1 : Int32} {v2 : Int} {u2 : Int32} {v3 : Int} {u3 : Int32} (e0 : u0 = (cX12 zT)) (e1 : u1 = (Int32.ofInt v1)) (e2 : u2 = (Int32.ofInt v2)) (e3 : u3 = (Int32.ofInt v3)) : sim (fun r : (Int × tZ12) => ((Int32.ofInt r.1), (cX12 r.2))) (q_X12_deep zT v1 v2 v3) (p_X12_deep u0 u1 u2 u3) := by
  subst e0 e1 e2 e3
  unfold q_X12_deep p_X12_deep
  exact sim_kb (c1 := (fun r : Bool => r)) (m_X12_isFar rfl l32_300) (fun x1 => sim_kif Iff.rfl (sim_some (c_pr l32_m1 rfl)) (sim_kb (c1 := (fun r : Bool => r)) (m_X12_isFar rfl l32_300) (fun x2 => sim_kif Iff.rfl (sim_some (c_pr l32_m1 rfl)) (sim_kb (c1 := (fun r : (Bool × tZ12) => (r.1, (cX12 r.2)))) (m_X12_isLaid rfl rfl) (fun x3 => sim_kif Iff.rfl (sim_some (c_pr l32_m1 rfl)) (sim_kb (c1 := Int32.ofInt) (m_X12_spotAt rfl rfl rfl) (fun x4 => sim_g (fun g1 => sim_kif (i_eq rfl l32_m1 g1 (by decide)) (m_X12_deep_J45 rfl rfl rfl rfl l32_0) (m_X12_deep_J45 rfl rfl rfl rfl l32_1)))))))))

def q_X12_meetsAt_L15 (v1 : Int) (v2 : Int) (v3 : Int) (s : (Int × Int × tZ12)) : Option (Nat × (Int × Int × tZ12)) :=
  kg (k32 s.2.1) (kif ((20 : Int) < s.2.1) (some (58, (s.1, s.2.1, s.2.2))) (kg (k32 s.1) (kif (s.1 = (-1 : Int)) (kg (0 ≤ (168 : Int) ∧ (168 : Int) < 170) (kl (s.2.2.1, s.2.2.2.1, (va_up s.2.2.2.2.1 0 (va_up (s.2.2.2.2.1 0) ((168 : Int).toNat) s.2.1)), s.2.2.2.2.2) (fun z2 : ((Nat → Int) × (Nat → Int) × (Nat → Nat → Int) × (Nat → Nat → Int)) => kb (q_X12_meets z2 v1 v2) (fun x3 : (Int × tZ12) => kg (k32 x3.1) (kif (x3.1 = (1 : Int)) (kl (s.2.1 + (1 : Int)) (fun y4 : Int => some (15, (s.2.1, y4, x3.2)))) (kl (s.2.1 + (1 : Int)) (fun y5 : Int => some (15, (s.1, y5, x3.2))))))))) (some (58, (s.1, s.2.1, s.2.2))))))
theorem m_X12_meetsAt_L15 {v1 : Int} {u0 : Int32} {v2 : Int} {u1 : Int32} {v3 : Int} {u2 : Int32} {s : (Int × Int × tZ12)} {u3 : (Int32 × Int32 × tX12)} (e0 : u0 = (Int32.ofInt v1)) (e1 : u1 = (Int32.ofInt v2)) (e2 : u2 = (Int32.ofInt v3)) (e3 : u3 = ((Int32.ofInt s.1), (Int32.ofInt s.2.1), (cX12 s.2.2))) : sim (fun r : (Nat × (Int × Int × tZ12)) => (r.1, ((Int32.ofInt r.2.1), (Int32.ofInt r.2.2.1), (cX12 r.2.2.2)))) (q_X12_meetsAt_L15 v1 v2 v3 s) (p_X12_meetsAt_L15 u0 u1 u2 u3) := by
  subst e0 e1 e2 e3
  unfold q_X12_meetsAt_L15 p_X12_meetsAt_L15
  exact sim_g (fun g1 => sim_kif (i_lt l32_20 rfl (by decide) g1) (sim_some rfl) (sim_g (fun g2 => sim_kif (i_eq rfl l32_m1 g2 (by decide)) (sim_kii l32_168 (by decide) (fun g3 => sim_kl (c := (fun r : ((Nat → Int) × (Nat → Int) × (Nat → Nat → Int) × (Nat → Nat → Int)) => ((cF r.1), (cG r.2.1), (cFF r.2.2.1), (cGG r.2.2.2)))) (c_pr rfl (c_pr rfl (c_pr (c_vupp rfl rfl (c_upd rfl (c_idx l32_168 g3 (by decide)) rfl)) rfl))) (fun z2 => sim_kb (c1 := (fun r : (Int × tZ12) => ((Int32.ofInt r.1), (cX12 r.2)))) (m_X12_meets rfl rfl rfl) (fun x3 => sim_g (fun g4 => sim_kif (i_eq rfl l32_1 g4 (by decide)) (sim_kl (c := Int32.ofInt) (c_add rfl l32_1) (fun y4 => sim_some rfl)) (sim_kl (c := Int32.ofInt) (c_add rfl l32_1) (fun y5 => sim_some rfl))))))) (sim_some rfl))))

def q_X12_meetsAt (zT : tZ12) (v1 : Int) (v2 : Int) : Option (Int × tZ12) :=
  kg (0 ≤ (168 : Int) ∧ (168 : Int) < 170) (kl ((zT.2.2.1 0) ((168 : Int).toNat)) (fun y1 : Int => kb (kitr 15 (fun q => q_X12_meetsAt_L15 v1 v2 y1 q) kF ((-1 : Int), (0 : Int), zT)) (fun x6 : (Nat × Int × Int × tZ12) => kg ((x6.1 = 58)) (kl (x6.2.2.2.1, x6.2.2.2.2.1, (va_up x6.2.2.2.2.2.1 0 (va_up (x6.2.2.2.2.2.1 0) ((168 : Int).toNat) y1)), x6.2.2.2.2.2.2) (fun z7 : ((Nat → Int) × (Nat → Int) × (Nat → Nat → Int) × (Nat → Nat → Int)) => some (x6.2.1, z7))))))
theorem m_X12_meetsAt {zT : tZ12} {u0 : tX12} {v1 : Int} {u1 : Int32} {v2 : Int} {u2 : Int32} (e0 : u0 = (cX12 zT)) (e1 : u1 = (Int32.ofInt v1)) (e2 : u2 = (Int32.ofInt v2)) : sim (fun r : (Int × tZ12) => ((Int32.ofInt r.1), (cX12 r.2))) (q_X12_meetsAt zT v1 v2) (p_X12_meetsAt u0 u1 u2) := by
  subst e0 e1 e2
  unfold q_X12_meetsAt p_X12_meetsAt
  exact sim_kii l32_168 (by decide) (fun g1 => sim_kl (c := Int32.ofInt) (c_ap (zT.2.2.1 0) (c_idx l32_168 g1 (by decide))) (fun y1 => sim_kb (c1 := (fun r : (Nat × Int × Int × tZ12) => (r.1, (Int32.ofInt r.2.1), (Int32.ofInt r.2.2.1), (cX12 r.2.2.2)))) (sim_kitr (c := (fun r : (Int × Int × tZ12) => ((Int32.ofInt r.1), (Int32.ofInt r.2.1), (cX12 r.2.2)))) (fun _ => m_X12_meetsAt_L15 rfl rfl rfl rfl) (c_pr l32_m1 (c_pr l32_0 rfl))) (fun x6 => sim_kg Iff.rfl (sim_kii0 l32_168 (by decide) g1 (sim_kl (c := (fun r : ((Nat → Int) × (Nat → Int) × (Nat → Nat → Int) × (Nat → Nat → Int)) => ((cF r.1), (cG r.2.1), (cFF r.2.2.1), (cGG r.2.2.2)))) (c_pr rfl (c_pr rfl (c_pr (c_vupp rfl rfl (c_upd rfl (c_idx l32_168 g1 (by decide)) rfl)) rfl))) (fun z7 => sim_some rfl))))))

def q_X12_tightNow_L15 (v1 : Int) (zT : tZ12) (s : (Int × Int)) : Option (Nat × (Int × Int)) :=
  kg (k32 (zT.1 32) ∧ k32 s.2) (kif ((zT.1 32) ≤ s.2) (some (47, (s.1, s.2))) (kg (0 ≤ s.2 ∧ s.2 < 3) (kg (0 ≤ ((zT.2.2.1 31) (s.2.toNat)) ∧ ((zT.2.2.1 31) (s.2.toNat)) < 41) (kg (k32 ((zT.2.2.1 14) (((zT.2.2.1 31) (s.2.toNat)).toNat))) (kl (zor64 s.1 (zshl64 (1 : Int) (zand64 ((zT.2.2.1 14) (((zT.2.2.1 31) (s.2.toNat)).toNat)) (63 : Int)))) (fun y4 : Int => kl (s.2 + (1 : Int)) (fun y5 : Int => some (15, (y4, y5)))))))))
theorem m_X12_tightNow_L15 {v1 : Int} {u0 : Int32} {zT : tZ12} {u1 : tX12} {s : (Int × Int)} {u2 : (Int64 × Int32)} (e0 : u0 = (Int32.ofInt v1)) (e1 : u1 = (cX12 zT)) (e2 : u2 = ((Int64.ofInt s.1), (Int32.ofInt s.2))) : sim (fun r : (Nat × (Int × Int)) => (r.1, ((Int64.ofInt r.2.1), (Int32.ofInt r.2.2)))) (q_X12_tightNow_L15 v1 zT s) (p_X12_tightNow_L15 u0 u1 u2) := by
  subst e0 e1 e2
  unfold q_X12_tightNow_L15 p_X12_tightNow_L15
  exact sim_g (fun g1 => sim_kif (i_le rfl rfl g1.1 g1.2) (sim_some rfl) (sim_kii rfl (by decide) (fun g2 => sim_kii (c_ap (zT.2.2.1 31) (c_idx rfl g2 (by decide))) (by decide) (fun g3 => sim_g (fun g4 => sim_kl (c := Int64.ofInt) (d_or rfl (d_shl l64_1 (d_and (c_toJ (c_ap (zT.2.2.1 14) (c_idx (c_ap (zT.2.2.1 31) (c_idx rfl g2 (by decide))) g3 (by decide))) g4) l64_63))) (fun y4 => sim_kl (c := Int32.ofInt) (c_add rfl l32_1) (fun y5 => sim_some rfl)))))))

def q_X12_tightNow (zT : tZ12) (v1 : Int) : Option (Int × tZ12) :=
  kb (q_X12_hasCircle zT v1) (fun x1 : (Bool × tZ12) => kl (kzI x1.1) (fun y2 : Int => kb (q_X12_layTight x1.2) (fun x3 : tZ12 => kb (kitr 15 (fun q => q_X12_tightNow_L15 v1 x3 q) kF ((0 : Int), (0 : Int))) (fun x6 : (Nat × Int × Int) => kg ((x6.1 = 47)) (some (x6.2.1, x3))))))
theorem m_X12_tightNow {zT : tZ12} {u0 : tX12} {v1 : Int} {u1 : Int32} (e0 : u0 = (cX12 zT)) (e1 : u1 = (Int32.ofInt v1)) : sim (fun r : (Int × tZ12) => ((Int64.ofInt r.1), (cX12 r.2))) (q_X12_tightNow zT v1) (p_X12_tightNow u0 u1) := by
  subst e0 e1
  unfold q_X12_tightNow p_X12_tightNow
  exact sim_kb (c1 := (fun r : (Bool × tZ12) => (r.1, (cX12 r.2)))) (m_X12_hasCircle rfl rfl) (fun x1 => sim_kl (c := Int32.ofInt) (c_kz _) (fun y2 => sim_kb (c1 := cX12) (m_X12_layTight rfl) (fun x3 => sim_kb (c1 := (fun r : (Nat × Int × Int) => (r.1, (Int64.ofInt r.2.1), (Int32.ofInt r.2.2)))) (sim_kitr (c := (fun r : (Int × Int) => ((Int64.ofInt r.1), (Int32.ofInt r.2)))) (fun _ => m_X12_tightNow_L15 rfl rfl rfl) (c_pr l64_0 l32_0)) (fun x6 => sim_kg Iff.rfl (sim_some rfl)))))

def q_X12_changes_L27 (v1 : Int) (v2 : Int) (s : (Int × Int × Int × tZ12)) : Option (Nat × (Int × Int × Int × tZ12)) :=
  kg (k32 s.2.2.1) (kif ((20 : Int) < s.2.2.1) (some (82, (s.1, s.2.1, s.2.2.1, s.2.2.2))) (kg (0 ≤ (168 : Int) ∧ (168 : Int) < 170) (kl (s.2.2.2.1, s.2.2.2.2.1, (va_up s.2.2.2.2.2.1 0 (va_up (s.2.2.2.2.2.1 0) ((168 : Int).toNat) s.2.2.1)), s.2.2.2.2.2.2) (fun z3 : ((Nat → Int) × (Nat → Int) × (Nat → Nat → Int) × (Nat → Nat → Int)) => kb (q_X12_tightNow z3 v1) (fun x4 : (Int × tZ12) => kif (s.2.2.1 ≤ (0 : Int)) (kl (s.1 + (0 : Int)) (fun y5 : Int => kl (s.2.2.1 + (1 : Int)) (fun y6 : Int => some (27, (y5, x4.1, y6, x4.2))))) (kg (k64 x4.1 ∧ k64 s.2.1) (kif (x4.1 = s.2.1) (kl (s.1 + (0 : Int)) (fun y7 : Int => kl (s.2.2.1 + (1 : Int)) (fun y8 : Int => some (27, (y7, x4.1, y8, x4.2))))) (kl (s.1 + (1 : Int)) (fun y9 : Int => kl (s.2.2.1 + (1 : Int)) (fun y10 : Int => some (27, (y9, x4.1, y10, x4.2))))))))))))
theorem m_X12_changes_L27 {v1 : Int} {u0 : Int32} {v2 : Int} {u1 : Int32} {s : (Int × Int × Int × tZ12)} {u2 : (Int32 × Int64 × Int32 × tX12)} (e0 : u0 = (Int32.ofInt v1)) (e1 : u1 = (Int32.ofInt v2)) (e2 : u2 = ((Int32.ofInt s.1), (Int64.ofInt s.2.1), (Int32.ofInt s.2.2.1), (cX12 s.2.2.2))) : sim (fun r : (Nat × (Int × Int × Int × tZ12)) => (r.1, ((Int32.ofInt r.2.1), (Int64.ofInt r.2.2.1), (Int32.ofInt r.2.2.2.1), (cX12 r.2.2.2.2)))) (q_X12_changes_L27 v1 v2 s) (p_X12_changes_L27 u0 u1 u2) := by
  subst e0 e1 e2
  unfold q_X12_changes_L27 p_X12_changes_L27
  exact sim_g (fun g1 => sim_kif (i_lt l32_20 rfl (by decide) g1) (sim_some rfl) (sim_kii l32_168 (by decide) (fun g2 => sim_kl (c := (fun r : ((Nat → Int) × (Nat → Int) × (Nat → Nat → Int) × (Nat → Nat → Int)) => ((cF r.1), (cG r.2.1), (cFF r.2.2.1), (cGG r.2.2.2)))) (c_pr rfl (c_pr rfl (c_pr (c_vupp rfl rfl (c_upd rfl (c_idx l32_168 g2 (by decide)) rfl)) rfl))) (fun z3 => sim_kb (c1 := (fun r : (Int × tZ12) => ((Int64.ofInt r.1), (cX12 r.2)))) (m_X12_tightNow rfl rfl) (fun x4 => sim_kif (i_le rfl l32_0 g1 (by decide)) (sim_kl (c := Int32.ofInt) (c_add rfl l32_0) (fun y5 => sim_kl (c := Int32.ofInt) (c_add rfl l32_1) (fun y6 => sim_some rfl))) (sim_g (fun g3 => sim_kif (j_eq rfl rfl g3.1 g3.2) (sim_kl (c := Int32.ofInt) (c_add rfl l32_0) (fun y7 => sim_kl (c := Int32.ofInt) (c_add rfl l32_1) (fun y8 => sim_some rfl))) (sim_kl (c := Int32.ofInt) (c_add rfl l32_1) (fun y9 => sim_kl (c := Int32.ofInt) (c_add rfl l32_1) (fun y10 => sim_some rfl))))))))))

def q_X12_changes (zT : tZ12) (v1 : Int) : Option (Int × tZ12) :=
  kb (q_X12_isLaid zT v1) (fun x1 : (Bool × tZ12) => kif (kz x1.1 = 0) (some ((-1 : Int), x1.2)) (kg (0 ≤ (168 : Int) ∧ (168 : Int) < 170) (kl ((x1.2.2.2.1 0) ((168 : Int).toNat)) (fun y2 : Int => kb (kitr 27 (fun q => q_X12_changes_L27 v1 y2 q) kF ((0 : Int), (0 : Int), (0 : Int), x1.2)) (fun x11 : (Nat × Int × Int × Int × tZ12) => kg ((x11.1 = 82)) (kl (x11.2.2.2.2.1, x11.2.2.2.2.2.1, (va_up x11.2.2.2.2.2.2.1 0 (va_up (x11.2.2.2.2.2.2.1 0) ((168 : Int).toNat) y2)), x11.2.2.2.2.2.2.2) (fun z12 : ((Nat → Int) × (Nat → Int) × (Nat → Nat → Int) × (Nat → Nat → Int)) => some (x11.2.1, z12))))))))
theorem m_X12_changes {zT : tZ12} {u0 : tX12} {v1 : Int} {u1 : Int32} (e0 : u0 = (cX12 zT)) (e1 : u1 = (Int32.ofInt v1)) : sim (fun r : (Int × tZ12) => ((Int32.ofInt r.1), (cX12 r.2))) (q_X12_changes zT v1) (p_X12_changes u0 u1) := by
  subst e0 e1
  unfold q_X12_changes p_X12_changes
  exact sim_kb (c1 := (fun r : (Bool × tZ12) => (r.1, (cX12 r.2)))) (m_X12_isLaid rfl rfl) (fun x1 => sim_kif Iff.rfl (sim_some (c_pr l32_m1 rfl)) (sim_kii l32_168 (by decide) (fun g1 => sim_kl (c := Int32.ofInt) (c_ap (x1.2.2.2.1 0) (c_idx l32_168 g1 (by decide))) (fun y2 => sim_kb (c1 := (fun r : (Nat × Int × Int × Int × tZ12) => (r.1, (Int32.ofInt r.2.1), (Int64.ofInt r.2.2.1), (Int32.ofInt r.2.2.2.1), (cX12 r.2.2.2.2)))) (sim_kitr (c := (fun r : (Int × Int × Int × tZ12) => ((Int32.ofInt r.1), (Int64.ofInt r.2.1), (Int32.ofInt r.2.2.1), (cX12 r.2.2.2)))) (fun _ => m_X12_changes_L27 rfl rfl rfl) (c_pr l32_0 (c_pr l64_0 (c_pr l32_0 rfl)))) (fun x11 => sim_kg Iff.rfl (sim_kii0 l32_168 (by decide) g1 (sim_kl (c := (fun r : ((Nat → Int) × (Nat → Int) × (Nat → Nat → Int) × (Nat → Nat → Int)) => ((cF r.1), (cG r.2.1), (cFF r.2.2.1), (cGG r.2.2.2)))) (c_pr rfl (c_pr rfl (c_pr (c_vupp rfl rfl (c_upd rfl (c_idx l32_168 g1 (by decide)) rfl)) rfl))) (fun z12 => sim_some rfl))))))))

def q_X12_lay_ (zT : tZ12) (v1 : Int) : Option tZ12 :=
  kg (0 ≤ (zT.1 55) ∧ (zT.1 55) < 500) (kl (zT.1, zT.2.1, (va_up zT.2.2.1 54 (va_up (zT.2.2.1 54) ((zT.1 55).toNat) (znar (zbyte v1)))), zT.2.2.2) (fun z1 : ((Nat → Int) × (Nat → Int) × (Nat → Nat → Int) × (Nat → Nat → Int)) => kl ((va_up z1.1 55 ((z1.1 55) + (1 : Int))), z1.2) (fun z2 : ((Nat → Int) × ((Nat → Int) × (Nat → Nat → Int) × (Nat → Nat → Int))) => some z2)))
theorem m_X12_lay_ {zT : tZ12} {u0 : tX12} {v1 : Int} {u1 : Int32} (e0 : u0 = (cX12 zT)) (e1 : u1 = (Int32.ofInt v1)) : sim cX12 (q_X12_lay_ zT v1) (p_X12_lay_ u0 u1) := by
  subst e0 e1
  unfold q_X12_lay_ p_X12_lay_
  exact sim_kii rfl (by decide) (fun g1 => sim_kl (c := (fun r : ((Nat → Int) × (Nat → Int) × (Nat → Nat → Int) × (Nat → Nat → Int)) => ((cF r.1), (cG r.2.1), (cFF r.2.2.1), (cGG r.2.2.2)))) (c_pr rfl (c_pr rfl (c_pr (c_vupp rfl rfl (c_upd rfl (c_idx rfl g1 (by decide)) (c_nar (c_byte rfl)))) rfl))) (fun z1 => sim_kl (c := (fun r : ((Nat → Int) × ((Nat → Int) × (Nat → Nat → Int) × (Nat → Nat → Int))) => ((cF r.1), ((cG r.2.1), (cFF r.2.2.1), (cGG r.2.2.2))))) (c_pr (c_vup rfl rfl (c_add rfl l32_1)) rfl) (fun z2 => sim_some rfl)))

def q_X12_layNumber_J58 (v1 : Int) (zT : tZ12) (v2 : Int) : Option tZ12 :=
  kg (k32 v2) (kb (q_X12_lay_ zT ((48 : Int) + (v2 - ((v2.tdiv (10 : Int)) * (10 : Int))))) (fun x1 : tZ12 => some x1))
theorem m_X12_layNumber_J58 {v1 : Int} {u0 : Int32} {zT : tZ12} {u1 : tX12} {v2 : Int} {u2 : Int32} (e0 : u0 = (Int32.ofInt v1)) (e1 : u1 = (cX12 zT)) (e2 : u2 = (Int32.ofInt v2)) : sim cX12 (q_X12_layNumber_J58 v1 zT v2) (p_X12_layNumber_J58 u0 u1 u2) := by
  subst e0 e1 e2
  unfold q_X12_layNumber_J58 p_X12_layNumber_J58
  exact sim_g (fun g1 => sim_kb (c1 := cX12) (m_X12_lay_ rfl (c_add l32_48 (c_sub rfl (c_mul (c_div rfl l32_10 g1 (by decide)) l32_10)))) (fun x1 => sim_some rfl))

def q_X12_layNumber_J38 (v1 : Int) (zT : tZ12) (v2 : Int) : Option tZ12 :=
  kg (k32 v2) (kif (v2 ≤ (9 : Int)) (q_X12_layNumber_J58 v1 zT v2) (kg (k32 (v2.tdiv (10 : Int))) (kb (q_X12_lay_ zT ((48 : Int) + ((v2.tdiv (10 : Int)) - (((v2.tdiv (10 : Int)).tdiv (10 : Int)) * (10 : Int))))) (fun x2 : tZ12 => q_X12_layNumber_J58 v1 x2 v2))))
theorem m_X12_layNumber_J38 {v1 : Int} {u0 : Int32} {zT : tZ12} {u1 : tX12} {v2 : Int} {u2 : Int32} (e0 : u0 = (Int32.ofInt v1)) (e1 : u1 = (cX12 zT)) (e2 : u2 = (Int32.ofInt v2)) : sim cX12 (q_X12_layNumber_J38 v1 zT v2) (p_X12_layNumber_J38 u0 u1 u2) := by
  subst e0 e1 e2
  unfold q_X12_layNumber_J38 p_X12_layNumber_J38
  exact sim_g (fun g1 => sim_kif (i_le rfl l32_9 g1 (by decide)) (m_X12_layNumber_J58 rfl rfl rfl) (sim_g (fun g2 => sim_kb (c1 := cX12) (m_X12_lay_ rfl (c_add l32_48 (c_sub (c_div rfl l32_10 g1 (by decide)) (c_mul (c_div (c_div rfl l32_10 g1 (by decide)) l32_10 g2 (by decide)) l32_10)))) (fun x2 => m_X12_layNumber_J58 rfl rfl rfl))))

def q_X12_layNumber_J20 (v1 : Int) (zT : tZ12) (k20_0 : Int) : Option tZ12 :=
  kg (k32 k20_0) (kif (k20_0 ≤ (99 : Int)) (q_X12_layNumber_J38 v1 zT k20_0) (kb (q_X12_lay_ zT ((48 : Int) + (k20_0.tdiv (100 : Int)))) (fun x3 : tZ12 => q_X12_layNumber_J38 v1 x3 k20_0)))
theorem m_X12_layNumber_J20 {v1 : Int} {u0 : Int32} {zT : tZ12} {u1 : tX12} {k20_0 : Int} {u2 : Int32} (e0 : u0 = (Int32.ofInt v1)) (e1 : u1 = (cX12 zT)) (e2 : u2 = (Int32.ofInt k20_0)) : sim cX12 (q_X12_layNumber_J20 v1 zT k20_0) (p_X12_layNumber_J20 u0 u1 u2) := by
  subst e0 e1 e2
  unfold q_X12_layNumber_J20 p_X12_layNumber_J20
  exact sim_g (fun g1 => sim_kif (i_le rfl l32_99 g1 (by decide)) (m_X12_layNumber_J38 rfl rfl rfl) (sim_kb (c1 := cX12) (m_X12_lay_ rfl (c_add l32_48 (c_div rfl l32_100 g1 (by decide)))) (fun x3 => m_X12_layNumber_J38 rfl rfl rfl)))

def q_X12_layNumber_J10 (v1 : Int) (zT : tZ12) : Option tZ12 :=
  kg (k32 v1) (kif ((0 : Int) ≤ v1) (q_X12_layNumber_J20 v1 zT v1) (q_X12_layNumber_J20 v1 zT (-v1)))
theorem m_X12_layNumber_J10 {v1 : Int} {u0 : Int32} {zT : tZ12} {u1 : tX12} (e0 : u0 = (Int32.ofInt v1)) (e1 : u1 = (cX12 zT)) : sim cX12 (q_X12_layNumber_J10 v1 zT) (p_X12_layNumber_J10 u0 u1) := by
  subst e0 e1
  unfold q_X12_layNumber_J10 p_X12_layNumber_J10
  exact sim_g (fun g1 => sim_kif (i_le l32_0 rfl (by decide) g1) (m_X12_layNumber_J20 rfl rfl rfl) (m_X12_layNumber_J20 rfl rfl (c_neg rfl)))

def q_X12_layNumber (zT : tZ12) (v1 : Int) : Option tZ12 :=
  kg (k32 v1) (kif ((0 : Int) ≤ v1) (q_X12_layNumber_J10 v1 zT) (kb (q_X12_lay_ zT (45 : Int)) (fun x4 : tZ12 => q_X12_layNumber_J10 v1 x4)))
theorem m_X12_layNumber {zT : tZ12} {u0 : tX12} {v1 : Int} {u1 : Int32} (e0 : u0 = (cX12 zT)) (e1 : u1 = (Int32.ofInt v1)) : sim cX12 (q_X12_layNumber zT v1) (p_X12_layNumber u0 u1) := by
  subst e0 e1
  unfold q_X12_layNumber p_X12_layNumber
  exact sim_g (fun g1 => sim_kif (i_le l32_0 rfl (by decide) g1) (m_X12_layNumber_J10 rfl rfl) (sim_kb (c1 := cX12) (m_X12_lay_ rfl l32_45) (fun x4 => m_X12_layNumber_J10 rfl rfl)))

def q_X12_write_L17 (v1 : Int) (s : (Int × tZ12)) : Option (Nat × (Int × tZ12)) :=
  kg (k32 (s.2.1 37) ∧ k32 s.1) (kif ((s.2.1 37) ≤ s.1) (some (73, (s.1, s.2))) (kg (0 ≤ s.1 ∧ s.1 < 42) (kg (0 ≤ ((s.2.2.2.1 35) (s.1.toNat)) ∧ ((s.2.2.2.1 35) (s.1.toNat)) < 41) (kb (q_X12_layNumber s.2 ((s.2.2.2.1 12) (((s.2.2.2.1 35) (s.1.toNat)).toNat))) (fun x3 : tZ12 => kb (q_X12_lay_ x3 (44 : Int)) (fun x4 : tZ12 => kg (0 ≤ ((x4.2.2.1 35) (s.1.toNat)) ∧ ((x4.2.2.1 35) (s.1.toNat)) < 41) (kb (q_X12_layNumber x4 ((x4.2.2.1 13) (((x4.2.2.1 35) (s.1.toNat)).toNat))) (fun x5 : tZ12 => kb (q_X12_lay_ x5 (59 : Int)) (fun x6 : tZ12 => kl (s.1 + (1 : Int)) (fun y7 : Int => some (17, (y7, x6))))))))))))
theorem m_X12_write_L17 {v1 : Int} {u0 : Int32} {s : (Int × tZ12)} {u1 : (Int32 × tX12)} (e0 : u0 = (Int32.ofInt v1)) (e1 : u1 = ((Int32.ofInt s.1), (cX12 s.2))) : sim (fun r : (Nat × (Int × tZ12)) => (r.1, ((Int32.ofInt r.2.1), (cX12 r.2.2)))) (q_X12_write_L17 v1 s) (p_X12_write_L17 u0 u1) := by
  subst e0 e1
  unfold q_X12_write_L17 p_X12_write_L17
  exact sim_g (fun g1 => sim_kif (i_le rfl rfl g1.1 g1.2) (sim_some rfl) (sim_kii rfl (by decide) (fun g2 => sim_kii (c_ap (s.2.2.2.1 35) (c_idx rfl g2 (by decide))) (by decide) (fun g3 => sim_kb (c1 := cX12) (m_X12_layNumber rfl (c_ap (s.2.2.2.1 12) (c_idx (c_ap (s.2.2.2.1 35) (c_idx rfl g2 (by decide))) g3 (by decide)))) (fun x3 => sim_kb (c1 := cX12) (m_X12_lay_ rfl l32_44) (fun x4 => sim_kii0 rfl (by decide) g2 (sim_kii (c_ap (x4.2.2.1 35) (c_idx rfl g2 (by decide))) (by decide) (fun g4 => sim_kb (c1 := cX12) (m_X12_layNumber rfl (c_ap (x4.2.2.1 13) (c_idx (c_ap (x4.2.2.1 35) (c_idx rfl g2 (by decide))) g4 (by decide)))) (fun x5 => sim_kb (c1 := cX12) (m_X12_lay_ rfl l32_59) (fun x6 => sim_kl (c := Int32.ofInt) (c_add rfl l32_1) (fun y7 => sim_some rfl)))))))))))

def q_X12_write (zT : tZ12) (v1 : Int) : Option (Int × tZ12) :=
  kb (q_X12_hasHull zT v1) (fun x1 : (Bool × tZ12) => kif (kz x1.1 = 0) (some ((-1 : Int), x1.2)) (kl ((va_up x1.2.1 55 (0 : Int)), x1.2.2) (fun z2 : ((Nat → Int) × ((Nat → Int) × (Nat → Nat → Int) × (Nat → Nat → Int))) => kb (kitr 17 (fun q => q_X12_write_L17 v1 q) kF ((0 : Int), z2)) (fun x8 : (Nat × Int × tZ12) => kg ((x8.1 = 73)) (some ((x8.2.2.1 55), x8.2.2))))))
theorem m_X12_write {zT : tZ12} {u0 : tX12} {v1 : Int} {u1 : Int32} (e0 : u0 = (cX12 zT)) (e1 : u1 = (Int32.ofInt v1)) : sim (fun r : (Int × tZ12) => ((Int32.ofInt r.1), (cX12 r.2))) (q_X12_write zT v1) (p_X12_write u0 u1) := by
  subst e0 e1
  unfold q_X12_write p_X12_write
  exact sim_kb (c1 := (fun r : (Bool × tZ12) => (r.1, (cX12 r.2)))) (m_X12_hasHull rfl rfl) (fun x1 => sim_kif Iff.rfl (sim_some (c_pr l32_m1 rfl)) (sim_kl (c := (fun r : ((Nat → Int) × ((Nat → Int) × (Nat → Nat → Int) × (Nat → Nat → Int))) => ((cF r.1), ((cG r.2.1), (cFF r.2.2.1), (cGG r.2.2.2))))) (c_pr (c_vup rfl rfl l32_0) rfl) (fun z2 => sim_kb (c1 := (fun r : (Nat × Int × tZ12) => (r.1, (Int32.ofInt r.2.1), (cX12 r.2.2)))) (sim_kitr (c := (fun r : (Int × tZ12) => ((Int32.ofInt r.1), (cX12 r.2)))) (fun _ => m_X12_write_L17 rfl rfl) (c_pr l32_0 rfl)) (fun x8 => sim_kg Iff.rfl (sim_some rfl)))))

def q_X12_octet (zT : tZ12) (v1 : Int) : Option Int :=
  kb (q_X12_isIn v1 (0 : Int) ((zT.1 55) - (1 : Int))) (fun x1 : Bool => kif (kz x1 = 0) (some (-1 : Int)) (kg (0 ≤ v1 ∧ v1 < 500) (some ((zT.2.2.1 54) (v1.toNat)))))
theorem m_X12_octet {zT : tZ12} {u0 : tX12} {v1 : Int} {u1 : Int32} (e0 : u0 = (cX12 zT)) (e1 : u1 = (Int32.ofInt v1)) : sim Int32.ofInt (q_X12_octet zT v1) (p_X12_octet u0 u1) := by
  subst e0 e1
  unfold q_X12_octet p_X12_octet
  exact sim_kb (c1 := (fun r : Bool => r)) (m_X12_isIn rfl l32_0 (c_sub rfl l32_1)) (fun x1 => sim_kif Iff.rfl (sim_some l32_m1) (sim_kii rfl (by decide) (fun g1 => sim_some (c_ap (zT.2.2.1 54) (c_idx rfl g1 (by decide))))))
