def q_X11_isHeap (v0 : Int) : Option Bool :=
  kg (k32 v0) (kif (v0 < (0 : Int)) (some false) (kif ((4 : Int) ≤ v0) (some false) (some true)))
theorem m_X11_isHeap {v0 : Int} {u0 : Int32} (e0 : u0 = (Int32.ofInt v0)) : sim (fun r : Bool => r) (q_X11_isHeap v0) (p_X11_isHeap u0) := by
  subst e0
  unfold q_X11_isHeap p_X11_isHeap
  exact sim_g (fun g1 => sim_kif (i_lt rfl l32_0 g1 (by decide)) (sim_some rfl) (sim_kif (i_le l32_4 rfl (by decide) g1) (sim_some rfl) (sim_some rfl)))

def q_X11_isNear (v0 : Int) (v1 : Int) (v2 : Int) : Option Bool :=
  kg (k32 v0 ∧ k32 (-v2)) (kif (v0 < (-v2)) (some false) (kg (k32 v2) (kif (v2 < v0) (some false) (kg (k32 v1) (kif (v1 < (-v2)) (some false) (kif (v2 < v1) (some false) (some true)))))))
theorem m_X11_isNear {v0 : Int} {u0 : Int32} {v1 : Int} {u1 : Int32} {v2 : Int} {u2 : Int32} (e0 : u0 = (Int32.ofInt v0)) (e1 : u1 = (Int32.ofInt v1)) (e2 : u2 = (Int32.ofInt v2)) : sim (fun r : Bool => r) (q_X11_isNear v0 v1 v2) (p_X11_isNear u0 u1 u2) := by
  subst e0 e1 e2
  unfold q_X11_isNear p_X11_isNear
  exact sim_g (fun g1 => sim_kif (i_lt rfl (c_neg rfl) g1.1 g1.2) (sim_some rfl) (sim_g (fun g2 => sim_kif (i_lt rfl rfl g2 g1.1) (sim_some rfl) (sim_g (fun g3 => sim_kif (i_lt rfl (c_neg rfl) g3 g1.2) (sim_some rfl) (sim_kif (i_lt rfl rfl g2 g3) (sim_some rfl) (sim_some rfl)))))))

def q_X11_isSet (v0 : Int) : Option Bool :=
  kg (k32 v0) (kif (v0 < (1 : Int)) (some false) (kif ((15 : Int) < v0) (some false) (some true)))
theorem m_X11_isSet {v0 : Int} {u0 : Int32} (e0 : u0 = (Int32.ofInt v0)) : sim (fun r : Bool => r) (q_X11_isSet v0) (p_X11_isSet u0) := by
  subst e0
  unfold q_X11_isSet p_X11_isSet
  exact sim_g (fun g1 => sim_kif (i_lt rfl l32_1 g1 (by decide)) (sim_some rfl) (sim_kif (i_lt l32_15 rfl (by decide) g1) (sim_some rfl) (sim_some rfl)))
