def q_X10_length (zT : tZ10) : Option Int :=
  some zT.2
theorem m_X10_length {zT : tZ10} {u0 : tX10} (e0 : u0 = (cX10 zT)) : sim Int32.ofInt (q_X10_length zT) (p_X10_length u0) := by
  subst e0
  unfold q_X10_length p_X10_length
  exact sim_some rfl

def q_X10_at (zT : tZ10) (v1 : Int) : Option Int :=
  kg (k32 v1) (kif (v1 < (0 : Int)) (some (-1 : Int)) (kg (k32 zT.2) (kif (zT.2 ≤ v1) (some (-1 : Int)) (kg (0 ≤ v1 ∧ v1 < 400) (some (zT.1 (v1.toNat)))))))
theorem m_X10_at {zT : tZ10} {u0 : tX10} {v1 : Int} {u1 : Int32} (e0 : u0 = (cX10 zT)) (e1 : u1 = (Int32.ofInt v1)) : sim Int32.ofInt (q_X10_at zT v1) (p_X10_at u0 u1) := by
  subst e0 e1
  unfold q_X10_at p_X10_at
  exact sim_g (fun g1 => sim_kif (i_lt rfl l32_0 g1 (by decide)) (sim_some l32_m1) (sim_g (fun g2 => sim_kif (i_le rfl rfl g2 g1) (sim_some l32_m1) (sim_kii rfl (by decide) (fun g3 => sim_some (c_ap zT.1 (c_idx rfl g3 (by decide))))))))

def q_X10_clear (zT : tZ10) : Option tZ10 :=
  kl (zT.1, (0 : Int)) (fun z1 : ((Nat → Int) × Int) => some z1)
theorem m_X10_clear {zT : tZ10} {u0 : tX10} (e0 : u0 = (cX10 zT)) : sim cX10 (q_X10_clear zT) (p_X10_clear u0) := by
  subst e0
  unfold q_X10_clear p_X10_clear
  exact sim_kl (c := (fun r : ((Nat → Int) × Int) => ((cF r.1), (Int32.ofInt r.2)))) (c_pr rfl l32_0) (fun z1 => sim_some rfl)

def q_X10_addByte (zT : tZ10) (v1 : Int) : Option tZ10 :=
  kg (k32 zT.2) (kif (zT.2 < (400 : Int)) (kg (0 ≤ zT.2 ∧ zT.2 < 400) (kl ((va_up zT.1 (zT.2.toNat) v1), zT.2) (fun z1 : ((Nat → Int) × Int) => kl (z1.1, (z1.2 + (1 : Int))) (fun z2 : ((Nat → Int) × Int) => some z2)))) (some zT))
theorem m_X10_addByte {zT : tZ10} {u0 : tX10} {v1 : Int} {u1 : Int32} (e0 : u0 = (cX10 zT)) (e1 : u1 = (Int32.ofInt v1)) : sim cX10 (q_X10_addByte zT v1) (p_X10_addByte u0 u1) := by
  subst e0 e1
  unfold q_X10_addByte p_X10_addByte
  exact sim_g (fun g1 => sim_kif (i_lt rfl l32_400 g1 (by decide)) (sim_kii rfl (by decide) (fun g2 => sim_kl (c := (fun r : ((Nat → Int) × Int) => ((cF r.1), (Int32.ofInt r.2)))) (c_pr (c_upd rfl (c_idx rfl g2 (by decide)) rfl) rfl) (fun z1 => sim_kl (c := (fun r : ((Nat → Int) × Int) => ((cF r.1), (Int32.ofInt r.2)))) (c_pr rfl (c_add rfl l32_1)) (fun z2 => sim_some rfl)))) (sim_some rfl))

def q_X10_addNumber_J55 (v1 : Int) (zT : tZ10) (v2 : Int) : Option tZ10 :=
  kg (k32 v2) (kb (q_X10_addByte zT ((48 : Int) + (v2 - ((v2.tdiv (10 : Int)) * (10 : Int))))) (fun x2 : tZ10 => some x2))
theorem m_X10_addNumber_J55 {v1 : Int} {u0 : Int32} {zT : tZ10} {u1 : tX10} {v2 : Int} {u2 : Int32} (e0 : u0 = (Int32.ofInt v1)) (e1 : u1 = (cX10 zT)) (e2 : u2 = (Int32.ofInt v2)) : sim cX10 (q_X10_addNumber_J55 v1 zT v2) (p_X10_addNumber_J55 u0 u1 u2) := by
  subst e0 e1 e2
  unfold q_X10_addNumber_J55 p_X10_addNumber_J55
  exact sim_g (fun g1 => sim_kb (c1 := cX10) (m_X10_addByte rfl (c_add l32_48 (c_sub rfl (c_mul (c_div rfl l32_10 g1 (by decide)) l32_10)))) (fun x2 => sim_some rfl))

def q_X10_addNumber_J35 (v1 : Int) (zT : tZ10) (v2 : Int) : Option tZ10 :=
  kg (k32 v2) (kif (v2 < (10 : Int)) (q_X10_addNumber_J55 v1 zT v2) (kg (k32 (v2.tdiv (10 : Int))) (kb (q_X10_addByte zT ((48 : Int) + ((v2.tdiv (10 : Int)) - (((v2.tdiv (10 : Int)).tdiv (10 : Int)) * (10 : Int))))) (fun x3 : tZ10 => q_X10_addNumber_J55 v1 x3 v2))))
theorem m_X10_addNumber_J35 {v1 : Int} {u0 : Int32} {zT : tZ10} {u1 : tX10} {v2 : Int} {u2 : Int32} (e0 : u0 = (Int32.ofInt v1)) (e1 : u1 = (cX10 zT)) (e2 : u2 = (Int32.ofInt v2)) : sim cX10 (q_X10_addNumber_J35 v1 zT v2) (p_X10_addNumber_J35 u0 u1 u2) := by
  subst e0 e1 e2
  unfold q_X10_addNumber_J35 p_X10_addNumber_J35
  exact sim_g (fun g1 => sim_kif (i_lt rfl l32_10 g1 (by decide)) (m_X10_addNumber_J55 rfl rfl rfl) (sim_g (fun g2 => sim_kb (c1 := cX10) (m_X10_addByte rfl (c_add l32_48 (c_sub (c_div rfl l32_10 g1 (by decide)) (c_mul (c_div (c_div rfl l32_10 g1 (by decide)) l32_10 g2 (by decide)) l32_10)))) (fun x3 => m_X10_addNumber_J55 rfl rfl rfl))))

def q_X10_addNumber_J15 (v1 : Int) (zT : tZ10) (v2 : Int) : Option tZ10 :=
  kg (k32 v2) (kif (v2 < (100 : Int)) (q_X10_addNumber_J35 v1 zT v2) (kg (k32 (v2.tdiv (100 : Int))) (kb (q_X10_addByte zT ((48 : Int) + ((v2.tdiv (100 : Int)) - (((v2.tdiv (100 : Int)).tdiv (10 : Int)) * (10 : Int))))) (fun x4 : tZ10 => q_X10_addNumber_J35 v1 x4 v2))))
theorem m_X10_addNumber_J15 {v1 : Int} {u0 : Int32} {zT : tZ10} {u1 : tX10} {v2 : Int} {u2 : Int32} (e0 : u0 = (Int32.ofInt v1)) (e1 : u1 = (cX10 zT)) (e2 : u2 = (Int32.ofInt v2)) : sim cX10 (q_X10_addNumber_J15 v1 zT v2) (p_X10_addNumber_J15 u0 u1 u2) := by
  subst e0 e1 e2
  unfold q_X10_addNumber_J15 p_X10_addNumber_J15
  exact sim_g (fun g1 => sim_kif (i_lt rfl l32_100 g1 (by decide)) (m_X10_addNumber_J35 rfl rfl rfl) (sim_g (fun g2 => sim_kb (c1 := cX10) (m_X10_addByte rfl (c_add l32_48 (c_sub (c_div rfl l32_100 g1 (by decide)) (c_mul (c_div (c_div rfl l32_100 g1 (by decide)) l32_10 g2 (by decide)) l32_10)))) (fun x4 => m_X10_addNumber_J35 rfl rfl rfl))))

def q_X10_addNumber (zT : tZ10) (v1 : Int) : Option tZ10 :=
  kb (q_J9_abs_0f7a4 v1) (fun x1 : Int => kg (k32 v1) (kif ((0 : Int) ≤ v1) (q_X10_addNumber_J15 v1 zT x1) (kb (q_X10_addByte zT (45 : Int)) (fun x5 : tZ10 => q_X10_addNumber_J15 v1 x5 x1))))
theorem m_X10_addNumber {zT : tZ10} {u0 : tX10} {v1 : Int} {u1 : Int32} (e0 : u0 = (cX10 zT)) (e1 : u1 = (Int32.ofInt v1)) : sim cX10 (q_X10_addNumber zT v1) (p_X10_addNumber u0 u1) := by
  subst e0 e1
  unfold q_X10_addNumber p_X10_addNumber
  exact sim_kb (c1 := Int32.ofInt) (m_J9_abs_0f7a4 rfl) (fun x1 => sim_g (fun g1 => sim_kif (i_le l32_0 rfl (by decide) g1) (m_X10_addNumber_J15 rfl rfl rfl) (sim_kb (c1 := cX10) (m_X10_addByte rfl l32_45) (fun x5 => m_X10_addNumber_J15 rfl rfl rfl))))
