def q_X9_length (zT : tZ9) : Option Int :=
  some zT.2.1
theorem m_X9_length {zT : tZ9} {u0 : tX9} (e0 : u0 = (cX9 zT)) : sim Int32.ofInt (q_X9_length zT) (p_X9_length u0) := by
  subst e0
  unfold q_X9_length p_X9_length
  exact sim_some rfl

def q_X9_faultPlace (zT : tZ9) : Option Int :=
  some zT.2.2.2
theorem m_X9_faultPlace {zT : tZ9} {u0 : tX9} (e0 : u0 = (cX9 zT)) : sim Int32.ofInt (q_X9_faultPlace zT) (p_X9_faultPlace u0) := by
  subst e0
  unfold q_X9_faultPlace p_X9_faultPlace
  exact sim_some rfl

def q_X9_hasRoom (zT : tZ9) (v1 : Int) : Option Bool :=
  kg (k32 (zT.2.1 + v1)) (kif ((400 : Int) < (zT.2.1 + v1)) (some false) (some true))
theorem m_X9_hasRoom {zT : tZ9} {u0 : tX9} {v1 : Int} {u1 : Int32} (e0 : u0 = (cX9 zT)) (e1 : u1 = (Int32.ofInt v1)) : sim (fun r : Bool => r) (q_X9_hasRoom zT v1) (p_X9_hasRoom u0 u1) := by
  subst e0 e1
  unfold q_X9_hasRoom p_X9_hasRoom
  exact sim_g (fun g1 => sim_kif (i_lt l32_400 (c_add rfl rfl) (by decide) g1) (sim_some rfl) (sim_some rfl))

def q_X9_take_L3 (v1 : Int) (s : (Int × tZ9)) : Option (Nat × (Int × tZ9)) :=
  kg (k32 s.1) (kif (s.1 < (0 : Int)) (some (48, (s.1, s.2))) (kb (q_X9_hasRoom s.2 (1 : Int)) (fun x1 : Bool => kif (kz x1 = 0) (some (15, (s.1, s.2))) (kg (0 ≤ s.2.2.1 ∧ s.2.2.1 < 400) (kl ((va_up s.2.1 (s.2.2.1.toNat) (zand32 (zshr32 v1 (zand32 s.1 (31 : Int))) (255 : Int))), s.2.2) (fun z2 : ((Nat → Int) × (Int × Int × Int)) => kl (z2.1, (z2.2.1 + (1 : Int)), z2.2.2) (fun z3 : ((Nat → Int) × Int × (Int × Int)) => kl (s.1 + (-8 : Int)) (fun y4 : Int => some (3, (y4, z3))))))))))
theorem m_X9_take_L3 {v1 : Int} {u0 : Int32} {s : (Int × tZ9)} {u1 : (Int32 × tX9)} (e0 : u0 = (Int32.ofInt v1)) (e1 : u1 = ((Int32.ofInt s.1), (cX9 s.2))) : sim (fun r : (Nat × (Int × tZ9)) => (r.1, ((Int32.ofInt r.2.1), (cX9 r.2.2)))) (q_X9_take_L3 v1 s) (p_X9_take_L3 u0 u1) := by
  subst e0 e1
  unfold q_X9_take_L3 p_X9_take_L3
  exact sim_g (fun g1 => sim_kif (i_lt rfl l32_0 g1 (by decide)) (sim_some rfl) (sim_kb (c1 := (fun r : Bool => r)) (m_X9_hasRoom rfl l32_1) (fun x1 => sim_kif Iff.rfl (sim_some rfl) (sim_kii rfl (by decide) (fun g2 => sim_kl (c := (fun r : ((Nat → Int) × (Int × Int × Int)) => ((cF r.1), ((Int32.ofInt r.2.1), (Int32.ofInt r.2.2.1), (Int32.ofInt r.2.2.2))))) (c_pr (c_upd rfl (c_idx rfl g2 (by decide)) (c_and (c_shr rfl (c_and rfl l32_31)) l32_255)) rfl) (fun z2 => sim_kl (c := (fun r : ((Nat → Int) × Int × (Int × Int)) => ((cF r.1), (Int32.ofInt r.2.1), ((Int32.ofInt r.2.2.1), (Int32.ofInt r.2.2.2))))) (c_pr rfl (c_pr (c_add rfl l32_1) rfl)) (fun z3 => sim_kl (c := Int32.ofInt) (c_add rfl l32_m8) (fun y4 => sim_some rfl))))))))

def q_X9_take (zT : tZ9) (v1 : Int) : Option tZ9 :=
  kb (kitr 3 (fun q => q_X9_take_L3 v1 q) kF ((24 : Int), zT)) (fun x5 : (Nat × Int × tZ9) => kif (x5.1 = 15) (some x5.2.2) (kg ((x5.1 = 48)) (some x5.2.2)))
theorem m_X9_take {zT : tZ9} {u0 : tX9} {v1 : Int} {u1 : Int32} (e0 : u0 = (cX9 zT)) (e1 : u1 = (Int32.ofInt v1)) : sim cX9 (q_X9_take zT v1) (p_X9_take u0 u1) := by
  subst e0 e1
  unfold q_X9_take p_X9_take
  exact sim_kb (c1 := (fun r : (Nat × Int × tZ9) => (r.1, (Int32.ofInt r.2.1), (cX9 r.2.2)))) (sim_kitr (c := (fun r : (Int × tZ9) => ((Int32.ofInt r.1), (cX9 r.2)))) (fun _ => m_X9_take_L3 rfl rfl) (c_pr l32_24 rfl)) (fun x5 => sim_kif Iff.rfl (sim_some rfl) (sim_kg Iff.rfl (sim_some rfl)))

def q_X9_cut (zT : tZ9) (v1 : Int) : Option (Bool × tZ9) :=
  kg (k32 v1) (kif (v1 < (0 : Int)) (some (false, zT)) (kg (k32 zT.2.1) (kif (v1 ≤ zT.2.1) (kl (zT.1, v1, zT.2.2) (fun z1 : ((Nat → Int) × Int × (Int × Int)) => some (true, z1))) (some (false, zT)))))
theorem m_X9_cut {zT : tZ9} {u0 : tX9} {v1 : Int} {u1 : Int32} (e0 : u0 = (cX9 zT)) (e1 : u1 = (Int32.ofInt v1)) : sim (fun r : (Bool × tZ9) => (r.1, (cX9 r.2))) (q_X9_cut zT v1) (p_X9_cut u0 u1) := by
  subst e0 e1
  unfold q_X9_cut p_X9_cut
  exact sim_g (fun g1 => sim_kif (i_lt rfl l32_0 g1 (by decide)) (sim_some rfl) (sim_g (fun g2 => sim_kif (i_le rfl rfl g1 g2) (sim_kl (c := (fun r : ((Nat → Int) × Int × (Int × Int)) => ((cF r.1), (Int32.ofInt r.2.1), ((Int32.ofInt r.2.2.1), (Int32.ofInt r.2.2.2))))) rfl (fun z1 => sim_some rfl)) (sim_some rfl))))

def q_X9_next (zT : tZ9) : Option Int :=
  kg (k32 zT.2.2.1) (kif (zT.2.2.1 < (0 : Int)) (some (-1 : Int)) (kg (k32 zT.2.1) (kif (zT.2.1 ≤ zT.2.2.1) (some (-1 : Int)) (kg (0 ≤ zT.2.2.1 ∧ zT.2.2.1 < 400) (some (zT.1 (zT.2.2.1.toNat)))))))
theorem m_X9_next {zT : tZ9} {u0 : tX9} (e0 : u0 = (cX9 zT)) : sim Int32.ofInt (q_X9_next zT) (p_X9_next u0) := by
  subst e0
  unfold q_X9_next p_X9_next
  exact sim_g (fun g1 => sim_kif (i_lt rfl l32_0 g1 (by decide)) (sim_some l32_m1) (sim_g (fun g2 => sim_kif (i_le rfl rfl g2 g1) (sim_some l32_m1) (sim_kii rfl (by decide) (fun g3 => sim_some (c_ap zT.1 (c_idx rfl g3 (by decide))))))))

def q_X9_fail (zT : tZ9) (v1 : Int) : Option tZ9 :=
  kg (k32 zT.2.2.2) (kif (zT.2.2.2 = (-1 : Int)) (kl (zT.1, zT.2.1, zT.2.2.1, v1) (fun z1 : ((Nat → Int) × Int × Int × Int) => some z1)) (some zT))
theorem m_X9_fail {zT : tZ9} {u0 : tX9} {v1 : Int} {u1 : Int32} (e0 : u0 = (cX9 zT)) (e1 : u1 = (Int32.ofInt v1)) : sim cX9 (q_X9_fail zT v1) (p_X9_fail u0 u1) := by
  subst e0 e1
  unfold q_X9_fail p_X9_fail
  exact sim_g (fun g1 => sim_kif (i_eq rfl l32_m1 g1 (by decide)) (sim_kl (c := (fun r : ((Nat → Int) × Int × Int × Int) => ((cF r.1), (Int32.ofInt r.2.1), (Int32.ofInt r.2.2.1), (Int32.ofInt r.2.2.2)))) rfl (fun z1 => sim_some rfl)) (sim_some rfl))

def q_X9_readHeap (zT : tZ9) : Option (Int × tZ9) :=
  kb (q_X9_next zT) (fun x1 : Int => kl (x1 - (97 : Int)) (fun y2 : Int => kb (q_X11_isHeap y2) (fun x3 : Bool => kif (kz x3 = 0) (kb (q_X9_fail zT zT.2.2.1) (fun x4 : tZ9 => kl (x4.1, x4.2.1, (x4.2.2.1 + (1 : Int)), x4.2.2.2) (fun z5 : ((Nat → Int) × Int × Int × Int) => some (y2, z5)))) (kl (zT.1, zT.2.1, (zT.2.2.1 + (1 : Int)), zT.2.2.2) (fun z6 : ((Nat → Int) × Int × Int × Int) => some (y2, z6))))))
theorem m_X9_readHeap {zT : tZ9} {u0 : tX9} (e0 : u0 = (cX9 zT)) : sim (fun r : (Int × tZ9) => ((Int32.ofInt r.1), (cX9 r.2))) (q_X9_readHeap zT) (p_X9_readHeap u0) := by
  subst e0
  unfold q_X9_readHeap p_X9_readHeap
  exact sim_kb (c1 := Int32.ofInt) (m_X9_next rfl) (fun x1 => sim_kl (c := Int32.ofInt) (c_sub rfl l32_97) (fun y2 => sim_kb (c1 := (fun r : Bool => r)) (m_X11_isHeap rfl) (fun x3 => sim_kif Iff.rfl (sim_kb (c1 := cX9) (m_X9_fail rfl rfl) (fun x4 => sim_kl (c := (fun r : ((Nat → Int) × Int × Int × Int) => ((cF r.1), (Int32.ofInt r.2.1), (Int32.ofInt r.2.2.1), (Int32.ofInt r.2.2.2)))) (c_pr rfl (c_pr rfl (c_pr (c_add rfl l32_1) rfl))) (fun z5 => sim_some rfl))) (sim_kl (c := (fun r : ((Nat → Int) × Int × Int × Int) => ((cF r.1), (Int32.ofInt r.2.1), (Int32.ofInt r.2.2.1), (Int32.ofInt r.2.2.2)))) (c_pr rfl (c_pr rfl (c_pr (c_add rfl l32_1) rfl))) (fun z6 => sim_some rfl)))))

def q_X9_nextIsDigit (zT : tZ9) : Option Bool :=
  kb (q_X9_next zT) (fun x1 : Int => kg (k32 x1) (kif (x1 < (48 : Int)) (some false) (kb (q_X9_next zT) (fun x2 : Int => kg (k32 x2) (kif ((57 : Int) < x2) (some false) (some true))))))
theorem m_X9_nextIsDigit {zT : tZ9} {u0 : tX9} (e0 : u0 = (cX9 zT)) : sim (fun r : Bool => r) (q_X9_nextIsDigit zT) (p_X9_nextIsDigit u0) := by
  subst e0
  unfold q_X9_nextIsDigit p_X9_nextIsDigit
  exact sim_kb (c1 := Int32.ofInt) (m_X9_next rfl) (fun x1 => sim_g (fun g1 => sim_kif (i_lt rfl l32_48 g1 (by decide)) (sim_some rfl) (sim_kb (c1 := Int32.ofInt) (m_X9_next rfl) (fun x2 => sim_g (fun g2 => sim_kif (i_lt l32_57 rfl (by decide) g2) (sim_some rfl) (sim_some rfl))))))

def q_X9_readNumber_L40 (v1 : Int) (v2 : Int) (v3 : Int) (s : (Int × Int × tZ9)) : Option (Nat × (Int × Int × tZ9)) :=
  kg (k32 s.2.1) (kif ((3 : Int) ≤ s.2.1) (some (84, (s.1, s.2.1, s.2.2))) (kb (q_X9_nextIsDigit s.2.2) (fun x2 : Bool => kif (kz x2 = 0) (some (84, (s.1, s.2.1, s.2.2))) (kb (q_X9_next s.2.2) (fun x3 : Int => kl ((((10 : Int) * s.1) + x3) - (48 : Int)) (fun y4 : Int => kl (s.2.2.1, s.2.2.2.1, (s.2.2.2.2.1 + (1 : Int)), s.2.2.2.2.2) (fun z5 : ((Nat → Int) × Int × Int × Int) => kl (s.2.1 + (1 : Int)) (fun y6 : Int => some (40, (y4, y6, z5))))))))))
theorem m_X9_readNumber_L40 {v1 : Int} {u0 : Int32} {v2 : Int} {u1 : Int32} {v3 : Int} {u2 : Int32} {s : (Int × Int × tZ9)} {u3 : (Int32 × Int32 × tX9)} (e0 : u0 = (Int32.ofInt v1)) (e1 : u1 = (Int32.ofInt v2)) (e2 : u2 = (Int32.ofInt v3)) (e3 : u3 = ((Int32.ofInt s.1), (Int32.ofInt s.2.1), (cX9 s.2.2))) : sim (fun r : (Nat × (Int × Int × tZ9)) => (r.1, ((Int32.ofInt r.2.1), (Int32.ofInt r.2.2.1), (cX9 r.2.2.2)))) (q_X9_readNumber_L40 v1 v2 v3 s) (p_X9_readNumber_L40 u0 u1 u2 u3) := by
  subst e0 e1 e2 e3
  unfold q_X9_readNumber_L40 p_X9_readNumber_L40
  exact sim_g (fun g1 => sim_kif (i_le l32_3 rfl (by decide) g1) (sim_some rfl) (sim_kb (c1 := (fun r : Bool => r)) (m_X9_nextIsDigit rfl) (fun x2 => sim_kif Iff.rfl (sim_some rfl) (sim_kb (c1 := Int32.ofInt) (m_X9_next rfl) (fun x3 => sim_kl (c := Int32.ofInt) (c_sub (c_add (c_mul l32_10 rfl) rfl) l32_48) (fun y4 => sim_kl (c := (fun r : ((Nat → Int) × Int × Int × Int) => ((cF r.1), (Int32.ofInt r.2.1), (Int32.ofInt r.2.2.1), (Int32.ofInt r.2.2.2)))) (c_pr rfl (c_pr rfl (c_pr (c_add rfl l32_1) rfl))) (fun z5 => sim_kl (c := Int32.ofInt) (c_add rfl l32_1) (fun y6 => sim_some rfl))))))))

def q_X9_readNumber_J115 (v1 : Int) (zT : tZ9) (v3 : Int) (v4 : Int) : Option (Int × tZ9) :=
  kg (k32 v3) (kif (v3 = (0 : Int)) (some (v4, zT)) (some ((-v4), zT)))
theorem m_X9_readNumber_J115 {v1 : Int} {u0 : Int32} {zT : tZ9} {u1 : tX9} {v3 : Int} {u2 : Int32} {v4 : Int} {u3 : Int32} (e0 : u0 = (Int32.ofInt v1)) (e1 : u1 = (cX9 zT)) (e2 : u2 = (Int32.ofInt v3)) (e3 : u3 = (Int32.ofInt v4)) : sim (fun r : (Int × tZ9) => ((Int32.ofInt r.1), (cX9 r.2))) (q_X9_readNumber_J115 v1 zT v3 v4) (p_X9_readNumber_J115 u0 u1 u2 u3) := by
  subst e0 e1 e2 e3
  unfold q_X9_readNumber_J115 p_X9_readNumber_J115
  exact sim_g (fun g1 => sim_kif (i_eq rfl l32_0 g1 (by decide)) (sim_some rfl) (sim_some (c_pr (c_neg rfl) rfl)))

def q_X9_readNumber_J104 (v1 : Int) (zT : tZ9) (v2 : Int) (v3 : Int) (v4 : Int) : Option (Int × tZ9) :=
  kg (k32 v4 ∧ k32 v1) (kif (v4 ≤ v1) (q_X9_readNumber_J115 v1 zT v3 v4) (kb (q_X9_fail zT v2) (fun x9 : tZ9 => q_X9_readNumber_J115 v1 x9 v3 v4)))
theorem m_X9_readNumber_J104 {v1 : Int} {u0 : Int32} {zT : tZ9} {u1 : tX9} {v2 : Int} {u2 : Int32} {v3 : Int} {u3 : Int32} {v4 : Int} {u4 : Int32} (e0 : u0 = (Int32.ofInt v1)) (e1 : u1 = (cX9 zT)) (e2 : u2 = (Int32.ofInt v2)) (e3 : u3 = (Int32.ofInt v3)) (e4 : u4 = (Int32.ofInt v4)) : sim (fun r : (Int × tZ9) => ((Int32.ofInt r.1), (cX9 r.2))) (q_X9_readNumber_J104 v1 zT v2 v3 v4) (p_X9_readNumber_J104 u0 u1 u2 u3 u4) := by
  subst e0 e1 e2 e3 e4
  unfold q_X9_readNumber_J104 p_X9_readNumber_J104
  exact sim_g (fun g1 => sim_kif (i_le rfl rfl g1.1 g1.2) (m_X9_readNumber_J115 rfl rfl rfl rfl) (sim_kb (c1 := cX9) (m_X9_fail rfl rfl) (fun x9 => m_X9_readNumber_J115 rfl rfl rfl rfl)))

def q_X9_readNumber_J96 (v1 : Int) (zT : tZ9) (v2 : Int) (v3 : Int) (v4 : Int) : Option (Int × tZ9) :=
  kb (q_X9_fail zT zT.2.2.1) (fun x8 : tZ9 => q_X9_readNumber_J104 v1 x8 v2 v3 v4)
theorem m_X9_readNumber_J96 {v1 : Int} {u0 : Int32} {zT : tZ9} {u1 : tX9} {v2 : Int} {u2 : Int32} {v3 : Int} {u3 : Int32} {v4 : Int} {u4 : Int32} (e0 : u0 = (Int32.ofInt v1)) (e1 : u1 = (cX9 zT)) (e2 : u2 = (Int32.ofInt v2)) (e3 : u3 = (Int32.ofInt v3)) (e4 : u4 = (Int32.ofInt v4)) : sim (fun r : (Int × tZ9) => ((Int32.ofInt r.1), (cX9 r.2))) (q_X9_readNumber_J96 v1 zT v2 v3 v4) (p_X9_readNumber_J96 u0 u1 u2 u3 u4) := by
  subst e0 e1 e2 e3 e4
  unfold q_X9_readNumber_J96 p_X9_readNumber_J96
  exact sim_kb (c1 := cX9) (m_X9_fail rfl rfl) (fun x8 => m_X9_readNumber_J104 rfl rfl rfl rfl rfl)

def q_X9_readNumber_J84 (v1 : Int) (zT : tZ9) (v2 : Int) (v3 : Int) (v4 : Int) (v5 : Int) : Option (Int × tZ9) :=
  kg (k32 v5) (kif (v5 = (0 : Int)) (q_X9_readNumber_J96 v1 zT v2 v3 v4) (kb (q_X9_nextIsDigit zT) (fun x10 : Bool => kif (kz x10 = 0) (q_X9_readNumber_J104 v1 zT v2 v3 v4) (q_X9_readNumber_J96 v1 zT v2 v3 v4))))
theorem m_X9_readNumber_J84 {v1 : Int} {u0 : Int32} {zT : tZ9} {u1 : tX9} {v2 : Int} {u2 : Int32} {v3 : Int} {u3 : Int32} {v4 : Int} {u4 : Int32} {v5 : Int} {u5 : Int32} (e0 : u0 = (Int32.ofInt v1)) (e1 : u1 = (cX9 zT)) (e2 : u2 = (Int32.ofInt v2)) (e3 : u3 = (Int32.ofInt v3)) (e4 : u4 = (Int32.ofInt v4)) (e5 : u5 = (Int32.ofInt v5)) : sim (fun r : (Int × tZ9) => ((Int32.ofInt r.1), (cX9 r.2))) (q_X9_readNumber_J84 v1 zT v2 v3 v4 v5) (p_X9_readNumber_J84 u0 u1 u2 u3 u4 u5) := by
  subst e0 e1 e2 e3 e4 e5
  unfold q_X9_readNumber_J84 p_X9_readNumber_J84
  exact sim_g (fun g1 => sim_kif (i_eq rfl l32_0 g1 (by decide)) (m_X9_readNumber_J96 rfl rfl rfl rfl rfl) (sim_kb (c1 := (fun r : Bool => r)) (m_X9_nextIsDigit rfl) (fun x10 => sim_kif Iff.rfl (m_X9_readNumber_J104 rfl rfl rfl rfl rfl) (m_X9_readNumber_J96 rfl rfl rfl rfl rfl))))

def q_X9_readNumber_J40 (v1 : Int) (zT : tZ9) (v2 : Int) (v3 : Int) (v4 : Int) (v5 : Int) : Option (Int × tZ9) :=
  kb (kitr 40 (fun q => q_X9_readNumber_L40 v1 v2 v3 q) kF (v4, v5, zT)) (fun x7 : (Nat × Int × Int × tZ9) => kg ((x7.1 = 84)) (q_X9_readNumber_J84 v1 x7.2.2.2 v2 v3 x7.2.1 x7.2.2.1))
theorem m_X9_readNumber_J40 {v1 : Int} {u0 : Int32} {zT : tZ9} {u1 : tX9} {v2 : Int} {u2 : Int32} {v3 : Int} {u3 : Int32} {v4 : Int} {u4 : Int32} {v5 : Int} {u5 : Int32} (e0 : u0 = (Int32.ofInt v1)) (e1 : u1 = (cX9 zT)) (e2 : u2 = (Int32.ofInt v2)) (e3 : u3 = (Int32.ofInt v3)) (e4 : u4 = (Int32.ofInt v4)) (e5 : u5 = (Int32.ofInt v5)) : sim (fun r : (Int × tZ9) => ((Int32.ofInt r.1), (cX9 r.2))) (q_X9_readNumber_J40 v1 zT v2 v3 v4 v5) (p_X9_readNumber_J40 u0 u1 u2 u3 u4 u5) := by
  subst e0 e1 e2 e3 e4 e5
  unfold q_X9_readNumber_J40 p_X9_readNumber_J40
  exact sim_kb (c1 := (fun r : (Nat × Int × Int × tZ9) => (r.1, (Int32.ofInt r.2.1), (Int32.ofInt r.2.2.1), (cX9 r.2.2.2)))) (sim_kitr (c := (fun r : (Int × Int × tZ9) => ((Int32.ofInt r.1), (Int32.ofInt r.2.1), (cX9 r.2.2)))) (fun _ => m_X9_readNumber_L40 rfl rfl rfl rfl) rfl) (fun x7 => sim_kg Iff.rfl (m_X9_readNumber_J84 rfl rfl rfl rfl rfl rfl))

def q_X9_readNumber_J19 (v1 : Int) (zT : tZ9) (v2 : Int) (k19_0 : Int) : Option (Int × tZ9) :=
  kg (k32 k19_0) (kif (k19_0 = (0 : Int)) (q_X9_readNumber_J40 v1 zT v2 k19_0 (0 : Int) (0 : Int)) (kl (zT.1, zT.2.1, (zT.2.2.1 + (1 : Int)), zT.2.2.2) (fun z11 : ((Nat → Int) × Int × Int × Int) => q_X9_readNumber_J40 v1 z11 v2 k19_0 (0 : Int) (0 : Int))))
theorem m_X9_readNumber_J19 {v1 : Int} {u0 : Int32} {zT : tZ9} {u1 : tX9} {v2 : Int} {u2 : Int32} {k19_0 : Int} {u3 : Int32} (e0 : u0 = (Int32.ofInt v1)) (e1 : u1 = (cX9 zT)) (e2 : u2 = (Int32.ofInt v2)) (e3 : u3 = (Int32.ofInt k19_0)) : sim (fun r : (Int × tZ9) => ((Int32.ofInt r.1), (cX9 r.2))) (q_X9_readNumber_J19 v1 zT v2 k19_0) (p_X9_readNumber_J19 u0 u1 u2 u3) := by
  subst e0 e1 e2 e3
  unfold q_X9_readNumber_J19 p_X9_readNumber_J19
  exact sim_g (fun g1 => sim_kif (i_eq rfl l32_0 g1 (by decide)) (m_X9_readNumber_J40 rfl rfl rfl rfl l32_0 l32_0) (sim_kl (c := (fun r : ((Nat → Int) × Int × Int × Int) => ((cF r.1), (Int32.ofInt r.2.1), (Int32.ofInt r.2.2.1), (Int32.ofInt r.2.2.2)))) (c_pr rfl (c_pr rfl (c_pr (c_add rfl l32_1) rfl))) (fun z11 => m_X9_readNumber_J40 rfl rfl rfl rfl l32_0 l32_0)))

def q_X9_readNumber (zT : tZ9) (v1 : Int) : Option (Int × tZ9) :=
  kb (q_X9_next zT) (fun x1 : Int => kg (k32 x1) (kif (x1 = (45 : Int)) (q_X9_readNumber_J19 v1 zT zT.2.2.1 (1 : Int)) (q_X9_readNumber_J19 v1 zT zT.2.2.1 (0 : Int))))
theorem m_X9_readNumber {zT : tZ9} {u0 : tX9} {v1 : Int} {u1 : Int32} (e0 : u0 = (cX9 zT)) (e1 : u1 = (Int32.ofInt v1)) : sim (fun r : (Int × tZ9) => ((Int32.ofInt r.1), (cX9 r.2))) (q_X9_readNumber zT v1) (p_X9_readNumber u0 u1) := by
  subst e0 e1
  unfold q_X9_readNumber p_X9_readNumber
  exact sim_kb (c1 := Int32.ofInt) (m_X9_next rfl) (fun x1 => sim_g (fun g1 => sim_kif (i_eq rfl l32_45 g1 (by decide)) (m_X9_readNumber_J19 rfl rfl rfl l32_1) (m_X9_readNumber_J19 rfl rfl rfl l32_0)))

def q_X9_expect (zT : tZ9) (v1 : Int) : Option tZ9 :=
  kb (q_X9_next zT) (fun x1 : Int => kg (k32 x1 ∧ k32 v1) (kif (x1 = v1) (kl (zT.1, zT.2.1, (zT.2.2.1 + (1 : Int)), zT.2.2.2) (fun z2 : ((Nat → Int) × Int × Int × Int) => some z2)) (kb (q_X9_fail zT zT.2.2.1) (fun x3 : tZ9 => kl (x3.1, x3.2.1, (x3.2.2.1 + (1 : Int)), x3.2.2.2) (fun z4 : ((Nat → Int) × Int × Int × Int) => some z4)))))
theorem m_X9_expect {zT : tZ9} {u0 : tX9} {v1 : Int} {u1 : Int32} (e0 : u0 = (cX9 zT)) (e1 : u1 = (Int32.ofInt v1)) : sim cX9 (q_X9_expect zT v1) (p_X9_expect u0 u1) := by
  subst e0 e1
  unfold q_X9_expect p_X9_expect
  exact sim_kb (c1 := Int32.ofInt) (m_X9_next rfl) (fun x1 => sim_g (fun g1 => sim_kif (i_eq rfl rfl g1.1 g1.2) (sim_kl (c := (fun r : ((Nat → Int) × Int × Int × Int) => ((cF r.1), (Int32.ofInt r.2.1), (Int32.ofInt r.2.2.1), (Int32.ofInt r.2.2.2)))) (c_pr rfl (c_pr rfl (c_pr (c_add rfl l32_1) rfl))) (fun z2 => sim_some rfl)) (sim_kb (c1 := cX9) (m_X9_fail rfl rfl) (fun x3 => sim_kl (c := (fun r : ((Nat → Int) × Int × Int × Int) => ((cF r.1), (Int32.ofInt r.2.1), (Int32.ofInt r.2.2.1), (Int32.ofInt r.2.2.2)))) (c_pr rfl (c_pr rfl (c_pr (c_add rfl l32_1) rfl))) (fun z4 => sim_some rfl)))))

def q_X9_readPace (zT : tZ9) (zP1 : tZ4) : Option (tZ9 × tZ4) :=
  kb (q_X9_readHeap zT) (fun x1 : (Int × tZ9) => kb (q_X9_readNumber x1.2 (3 : Int)) (fun x2 : (Int × tZ9) => kb (q_X9_expect x2.2 (44 : Int)) (fun x3 : tZ9 => kb (q_X9_readNumber x3 (3 : Int)) (fun x4 : (Int × tZ9) => kb (q_X9_expect x4.2 (59 : Int)) (fun x5 : tZ9 => kg (k32 x5.2.2.2) (kif (x5.2.2.2 = (-1 : Int)) (kb (q_X4_setPace zP1 x1.1 x2.1 x4.1) (fun x6 : tZ4 => some (x5, x6))) (some (x5, zP1))))))))
theorem m_X9_readPace {zT : tZ9} {u0 : tX9} {zP1 : tZ4} {u1 : tX4} (e0 : u0 = (cX9 zT)) (e1 : u1 = (cX4 zP1)) : sim (fun r : (tZ9 × tZ4) => ((cX9 r.1), (cX4 r.2))) (q_X9_readPace zT zP1) (p_X9_readPace u0 u1) := by
  subst e0 e1
  unfold q_X9_readPace p_X9_readPace
  exact sim_kb (c1 := (fun r : (Int × tZ9) => ((Int32.ofInt r.1), (cX9 r.2)))) (m_X9_readHeap rfl) (fun x1 => sim_kb (c1 := (fun r : (Int × tZ9) => ((Int32.ofInt r.1), (cX9 r.2)))) (m_X9_readNumber rfl l32_3) (fun x2 => sim_kb (c1 := cX9) (m_X9_expect rfl l32_44) (fun x3 => sim_kb (c1 := (fun r : (Int × tZ9) => ((Int32.ofInt r.1), (cX9 r.2)))) (m_X9_readNumber rfl l32_3) (fun x4 => sim_kb (c1 := cX9) (m_X9_expect rfl l32_59) (fun x5 => sim_g (fun g1 => sim_kif (i_eq rfl l32_m1 g1 (by decide)) (sim_kb (c1 := cX4) (m_X4_setPace rfl rfl rfl rfl) (fun x6 => sim_some rfl)) (sim_some rfl)))))))

def q_X9_readPoint_J26 (zT : tZ9) (zP1 : tZ4) (v3 : Int) (v4 : Int) : Option (tZ9 × tZ4) :=
  kb (q_X9_readNumber zT (100 : Int)) (fun x4 : (Int × tZ9) => kb (q_X9_expect x4.2 (44 : Int)) (fun x5 : tZ9 => kb (q_X9_readNumber x5 (100 : Int)) (fun x6 : (Int × tZ9) => kb (q_X9_expect x6.2 (59 : Int)) (fun x7 : tZ9 => kg (k32 x7.2.2.2) (kif (x7.2.2.2 = (-1 : Int)) (kb (q_X4_place zP1 v3 x4.1 x6.1 v4) (fun x8 : tZ4 => some (x7, x8))) (some (x7, zP1)))))))
theorem m_X9_readPoint_J26 {zT : tZ9} {u0 : tX9} {zP1 : tZ4} {u1 : tX4} {v3 : Int} {u2 : Int32} {v4 : Int} {u3 : Int32} (e0 : u0 = (cX9 zT)) (e1 : u1 = (cX4 zP1)) (e2 : u2 = (Int32.ofInt v3)) (e3 : u3 = (Int32.ofInt v4)) : sim (fun r : (tZ9 × tZ4) => ((cX9 r.1), (cX4 r.2))) (q_X9_readPoint_J26 zT zP1 v3 v4) (p_X9_readPoint_J26 u0 u1 u2 u3) := by
  subst e0 e1 e2 e3
  unfold q_X9_readPoint_J26 p_X9_readPoint_J26
  exact sim_kb (c1 := (fun r : (Int × tZ9) => ((Int32.ofInt r.1), (cX9 r.2)))) (m_X9_readNumber rfl l32_100) (fun x4 => sim_kb (c1 := cX9) (m_X9_expect rfl l32_44) (fun x5 => sim_kb (c1 := (fun r : (Int × tZ9) => ((Int32.ofInt r.1), (cX9 r.2)))) (m_X9_readNumber rfl l32_100) (fun x6 => sim_kb (c1 := cX9) (m_X9_expect rfl l32_59) (fun x7 => sim_g (fun g1 => sim_kif (i_eq rfl l32_m1 g1 (by decide)) (sim_kb (c1 := cX4) (m_X4_place rfl rfl rfl rfl rfl) (fun x8 => sim_some rfl)) (sim_some rfl))))))

def q_X9_readPoint (zT : tZ9) (zP1 : tZ4) : Option (tZ9 × tZ4) :=
  kb (q_X4_free zP1) (fun x1 : Int => kb (q_X9_readHeap zT) (fun x2 : (Int × tZ9) => kg (k32 x1) (kif (x1 = (-1 : Int)) (kb (q_X9_fail x2.2 zT.2.2.1) (fun x3 : tZ9 => q_X9_readPoint_J26 x3 zP1 x1 x2.1)) (q_X9_readPoint_J26 x2.2 zP1 x1 x2.1))))
theorem m_X9_readPoint {zT : tZ9} {u0 : tX9} {zP1 : tZ4} {u1 : tX4} (e0 : u0 = (cX9 zT)) (e1 : u1 = (cX4 zP1)) : sim (fun r : (tZ9 × tZ4) => ((cX9 r.1), (cX4 r.2))) (q_X9_readPoint zT zP1) (p_X9_readPoint u0 u1) := by
  subst e0 e1
  unfold q_X9_readPoint p_X9_readPoint
  exact sim_kb (c1 := Int32.ofInt) (m_X4_free rfl) (fun x1 => sim_kb (c1 := (fun r : (Int × tZ9) => ((Int32.ofInt r.1), (cX9 r.2)))) (m_X9_readHeap rfl) (fun x2 => sim_g (fun g1 => sim_kif (i_eq rfl l32_m1 g1 (by decide)) (sim_kb (c1 := cX9) (m_X9_fail rfl rfl) (fun x3 => m_X9_readPoint_J26 rfl rfl rfl rfl)) (m_X9_readPoint_J26 rfl rfl rfl rfl))))

def q_X9_readItem (zT : tZ9) (zP1 : tZ4) : Option (tZ9 × tZ4) :=
  kb (q_X9_next zT) (fun x1 : Int => kg (k32 x1) (kif (x1 = (112 : Int)) (kl (zT.1, zT.2.1, (zT.2.2.1 + (1 : Int)), zT.2.2.2) (fun z2 : ((Nat → Int) × Int × Int × Int) => kb (q_X9_readPace z2 zP1) (fun x3 : (tZ9 × tZ4) => some (x3.1, x3.2)))) (kb (q_X9_readPoint zT zP1) (fun x4 : (tZ9 × tZ4) => some (x4.1, x4.2)))))
theorem m_X9_readItem {zT : tZ9} {u0 : tX9} {zP1 : tZ4} {u1 : tX4} (e0 : u0 = (cX9 zT)) (e1 : u1 = (cX4 zP1)) : sim (fun r : (tZ9 × tZ4) => ((cX9 r.1), (cX4 r.2))) (q_X9_readItem zT zP1) (p_X9_readItem u0 u1) := by
  subst e0 e1
  unfold q_X9_readItem p_X9_readItem
  exact sim_kb (c1 := Int32.ofInt) (m_X9_next rfl) (fun x1 => sim_g (fun g1 => sim_kif (i_eq rfl l32_112 g1 (by decide)) (sim_kl (c := (fun r : ((Nat → Int) × Int × Int × Int) => ((cF r.1), (Int32.ofInt r.2.1), (Int32.ofInt r.2.2.1), (Int32.ofInt r.2.2.2)))) (c_pr rfl (c_pr rfl (c_pr (c_add rfl l32_1) rfl))) (fun z2 => sim_kb (c1 := (fun r : (tZ9 × tZ4) => ((cX9 r.1), (cX4 r.2)))) (m_X9_readPace rfl rfl) (fun x3 => sim_some rfl))) (sim_kb (c1 := (fun r : (tZ9 × tZ4) => ((cX9 r.1), (cX4 r.2)))) (m_X9_readPoint rfl rfl) (fun x4 => sim_some rfl))))

def q_X9_read_L20 (s : (Int × Int × tZ9 × tZ4)) : Option (Nat × (Int × Int × tZ9 × tZ4)) :=
  kg (k32 s.2.1) (kif (s.2.1 ≤ (0 : Int)) (some (57, (s.1, s.2.1, s.2.2.1, s.2.2.2))) (kg (k32 s.2.2.1.2.1 ∧ k32 s.2.2.1.2.2.1) (kif (s.2.2.1.2.1 ≤ s.2.2.1.2.2.1) (some (57, (s.1, s.2.1, s.2.2.1, s.2.2.2))) (kg (k32 s.2.2.1.2.2.2) (kif (s.2.2.1.2.2.2 = (-1 : Int)) (kb (q_X9_readItem s.2.2.1 s.2.2.2) (fun x4 : (tZ9 × tZ4) => kl (s.1 + (1 : Int)) (fun y5 : Int => kl (s.2.1 + (-1 : Int)) (fun y6 : Int => some (20, (y5, y6, x4.1, x4.2)))))) (some (57, (s.1, s.2.1, s.2.2.1, s.2.2.2))))))))
theorem m_X9_read_L20 {s : (Int × Int × tZ9 × tZ4)} {u0 : (Int32 × Int32 × tX9 × tX4)} (e0 : u0 = ((Int32.ofInt s.1), (Int32.ofInt s.2.1), (cX9 s.2.2.1), (cX4 s.2.2.2))) : sim (fun r : (Nat × (Int × Int × tZ9 × tZ4)) => (r.1, ((Int32.ofInt r.2.1), (Int32.ofInt r.2.2.1), (cX9 r.2.2.2.1), (cX4 r.2.2.2.2)))) (q_X9_read_L20 s) (p_X9_read_L20 u0) := by
  subst e0
  unfold q_X9_read_L20 p_X9_read_L20
  exact sim_g (fun g1 => sim_kif (i_le rfl l32_0 g1 (by decide)) (sim_some rfl) (sim_g (fun g2 => sim_kif (i_le rfl rfl g2.1 g2.2) (sim_some rfl) (sim_g (fun g3 => sim_kif (i_eq rfl l32_m1 g3 (by decide)) (sim_kb (c1 := (fun r : (tZ9 × tZ4) => ((cX9 r.1), (cX4 r.2)))) (m_X9_readItem rfl rfl) (fun x4 => sim_kl (c := Int32.ofInt) (c_add rfl l32_1) (fun y5 => sim_kl (c := Int32.ofInt) (c_add rfl l32_m1) (fun y6 => sim_some rfl)))) (sim_some rfl))))))

def q_X9_read_J57 (zT : tZ9) (zP1 : tZ4) (v2 : Int) : Option (Int × tZ9 × tZ4) :=
  kl (zT.1, (0 : Int), zT.2.2) (fun z8 : ((Nat → Int) × Int × (Int × Int)) => kg (k32 z8.2.2.2) (kif (z8.2.2.2 = (-1 : Int)) (kb (q_X4_keep zP1) (fun x9 : tZ4 => some (v2, z8, x9))) (kb (q_X4_returnToMark zP1) (fun x10 : tZ4 => some ((-1 : Int), z8, x10)))))
theorem m_X9_read_J57 {zT : tZ9} {u0 : tX9} {zP1 : tZ4} {u1 : tX4} {v2 : Int} {u2 : Int32} (e0 : u0 = (cX9 zT)) (e1 : u1 = (cX4 zP1)) (e2 : u2 = (Int32.ofInt v2)) : sim (fun r : (Int × tZ9 × tZ4) => ((Int32.ofInt r.1), (cX9 r.2.1), (cX4 r.2.2))) (q_X9_read_J57 zT zP1 v2) (p_X9_read_J57 u0 u1 u2) := by
  subst e0 e1 e2
  unfold q_X9_read_J57 p_X9_read_J57
  exact sim_kl (c := (fun r : ((Nat → Int) × Int × (Int × Int)) => ((cF r.1), (Int32.ofInt r.2.1), ((Int32.ofInt r.2.2.1), (Int32.ofInt r.2.2.2))))) (c_pr rfl (c_pr l32_0 rfl)) (fun z8 => sim_g (fun g1 => sim_kif (i_eq rfl l32_m1 g1 (by decide)) (sim_kb (c1 := cX4) (m_X4_keep rfl) (fun x9 => sim_some rfl)) (sim_kb (c1 := cX4) (m_X4_returnToMark rfl) (fun x10 => sim_some (c_pr l32_m1 (c_pr rfl rfl))))))

def q_X9_read (zT : tZ9) (zP1 : tZ4) : Option (Int × tZ9 × tZ4) :=
  kl (zT.1, zT.2.1, (0 : Int), zT.2.2.2) (fun z1 : ((Nat → Int) × Int × Int × Int) => kl (z1.1, z1.2.1, z1.2.2.1, (-1 : Int)) (fun z2 : ((Nat → Int) × Int × Int × Int) => kb (q_X4_mark zP1) (fun x3 : tZ4 => kb (kitr 20 (fun q => q_X9_read_L20  q) kF ((0 : Int), (400 : Int), z2, x3)) (fun x7 : (Nat × Int × Int × tZ9 × tZ4) => kg ((x7.1 = 57)) (q_X9_read_J57 x7.2.2.2.1 x7.2.2.2.2 x7.2.1)))))
theorem m_X9_read {zT : tZ9} {u0 : tX9} {zP1 : tZ4} {u1 : tX4} (e0 : u0 = (cX9 zT)) (e1 : u1 = (cX4 zP1)) : sim (fun r : (Int × tZ9 × tZ4) => ((Int32.ofInt r.1), (cX9 r.2.1), (cX4 r.2.2))) (q_X9_read zT zP1) (p_X9_read u0 u1) := by
  subst e0 e1
  unfold q_X9_read p_X9_read
  exact sim_kl (c := (fun r : ((Nat → Int) × Int × Int × Int) => ((cF r.1), (Int32.ofInt r.2.1), (Int32.ofInt r.2.2.1), (Int32.ofInt r.2.2.2)))) (c_pr rfl (c_pr rfl (c_pr l32_0 rfl))) (fun z1 => sim_kl (c := (fun r : ((Nat → Int) × Int × Int × Int) => ((cF r.1), (Int32.ofInt r.2.1), (Int32.ofInt r.2.2.1), (Int32.ofInt r.2.2.2)))) (c_pr rfl (c_pr rfl (c_pr rfl l32_m1))) (fun z2 => sim_kb (c1 := cX4) (m_X4_mark rfl) (fun x3 => sim_kb (c1 := (fun r : (Nat × Int × Int × tZ9 × tZ4) => (r.1, (Int32.ofInt r.2.1), (Int32.ofInt r.2.2.1), (cX9 r.2.2.2.1), (cX4 r.2.2.2.2)))) (sim_kitr (c := (fun r : (Int × Int × tZ9 × tZ4) => ((Int32.ofInt r.1), (Int32.ofInt r.2.1), (cX9 r.2.2.1), (cX4 r.2.2.2)))) (fun _ => m_X9_read_L20  rfl) (c_pr l32_0 (c_pr l32_400 (c_pr rfl rfl)))) (fun x7 => sim_kg Iff.rfl (m_X9_read_J57 rfl rfl rfl)))))
