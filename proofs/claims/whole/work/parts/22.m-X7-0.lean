def p_X7_square (zP0 : tX8) (v1 : Int32) : Option (Int64) :=
  kb (p_X8_x zP0 v1) (fun x1 => kb (p_X8_x zP0 v1) (fun x2 => kb (p_X8_y zP0 v1) (fun x3 => kb (p_X8_y zP0 v1) (fun x4 => some ((((x1 * x2) + (x3 * x4))).toInt64)))))
set_option maxHeartbeats 4000000 in
set_option maxRecDepth 100000 in
theorem c_X7_square (l : Launch) (D : va_G) (g : kG) (aP0 : Nat → Nat) (zP0 : tX8) (v1 : Int32) (r : Int64) (h : p_X7_square zP0 v1 = some r) : kMl l yX7_square cX7_square 2 (some .long) (kR 1 21) D (kty g) [.ref (aP0 0), .int v1] (List.flatten [gX8 g aP0 zP0]) r (List.flatten [gX8 g aP0 zP0]) := by
  intro sz
  refine k_enter (lv := [(0, .ref (aP0 0)), (1, .int v1)]) RX7 (by decide +kernel) rfl rfl (Nat.le_of_ble_eq_true rfl) ?_
  intro p en s m args below meth c ls hsz X V hl
  obtain ⟨QQ, hQQ⟩ : ∃ q, q = MQ below (va_Ql (fun r' (_ : Unit) => r' = r) (fun _ => kE D (List.flatten [gX8 g aP0 zP0])) (va_A (List.flatten [gX8 g aP0 zP0]) sz)) args s 0 0 (va_A (List.flatten [gX8 g aP0 zP0]) sz) := ⟨_, rfl⟩
  rw [← hQQ]
  obtain ⟨AA, hAA⟩ : ∃ q, q = va_A (List.flatten [gX8 g aP0 zP0]) sz := ⟨_, rfl⟩
  rw [← hAA] at V
  unfold p_X7_square at h
  refine lv_aload_n X.1 X.2.1 dX7_square_0 rfl (lv_at hl 0 rfl) ?_
  refine lv_iload_n X.1 X.2.1 dX7_square_1 rfl (lv_at hl 1 rfl) ?_
  obtain ⟨x5, hx5, h⟩ := kb_of h
  refine s_callVi (segs' := [gX8 g aP0 zP0]) (ci := 8) (i0 := 0) X V (c_X8_x l D g aP0 zP0 v1 x5 hx5) w_X7_41 ⟨Nat.le_of_ble_eq_true rfl, Nat.le_of_ble_eq_true rfl⟩ ⟨Nat.zero_le _, Nat.zero_le _⟩ rfl rfl rfl rfl [0] rfl rfl (kFst_refl _) rfl rfl hl.1 (Nat.le_of_ble_eq_true rfl) dX7_square_2 (fun H locs V => ?_)
  refine lv_aload_n X.1 X.2.1 dX7_square_5 rfl (lv_at hl 0 rfl) ?_
  refine lv_iload_n X.1 X.2.1 dX7_square_6 rfl (lv_at hl 1 rfl) ?_
  obtain ⟨x6, hx6, h⟩ := kb_of h
  refine s_callVi (segs' := [gX8 g aP0 zP0]) (ci := 8) (i0 := 0) X V (c_X8_x l D g aP0 zP0 v1 x6 hx6) w_X7_41 ⟨Nat.le_of_ble_eq_true rfl, Nat.le_of_ble_eq_true rfl⟩ ⟨Nat.zero_le _, Nat.zero_le _⟩ rfl rfl rfl rfl [0] rfl rfl (kFst_refl _) rfl rfl hl.1 (Nat.le_of_ble_eq_true rfl) dX7_square_7 (fun H locs V => ?_)
  refine lv_imul X.1 X.2.1 dX7_square_10 ?_
  refine lv_aload_n X.1 X.2.1 dX7_square_11 rfl (lv_at hl 0 rfl) ?_
  refine lv_iload_n X.1 X.2.1 dX7_square_12 rfl (lv_at hl 1 rfl) ?_
  obtain ⟨x7, hx7, h⟩ := kb_of h
  refine s_callVi (segs' := [gX8 g aP0 zP0]) (ci := 8) (i0 := 0) X V (c_X8_y l D g aP0 zP0 v1 x7 hx7) w_X7_46 ⟨Nat.le_of_ble_eq_true rfl, Nat.le_of_ble_eq_true rfl⟩ ⟨Nat.zero_le _, Nat.zero_le _⟩ rfl rfl rfl rfl [0] rfl rfl (kFst_refl _) rfl rfl hl.1 (Nat.le_of_ble_eq_true rfl) dX7_square_13 (fun H locs V => ?_)
  refine lv_aload_n X.1 X.2.1 dX7_square_16 rfl (lv_at hl 0 rfl) ?_
  refine lv_iload_n X.1 X.2.1 dX7_square_17 rfl (lv_at hl 1 rfl) ?_
  obtain ⟨x8, hx8, h⟩ := kb_of h
  refine s_callVi (segs' := [gX8 g aP0 zP0]) (ci := 8) (i0 := 0) X V (c_X8_y l D g aP0 zP0 v1 x8 hx8) w_X7_46 ⟨Nat.le_of_ble_eq_true rfl, Nat.le_of_ble_eq_true rfl⟩ ⟨Nat.zero_le _, Nat.zero_le _⟩ rfl rfl rfl rfl [0] rfl rfl (kFst_refl _) rfl rfl hl.1 (Nat.le_of_ble_eq_true rfl) dX7_square_18 (fun H locs V => ?_)
  refine lv_imul X.1 X.2.1 dX7_square_21 ?_
  refine lv_iadd X.1 X.2.1 dX7_square_22 ?_
  refine lv_i2l X.1 X.2.1 dX7_square_23 rfl ?_
  obtain rfl := Option.some.inj h
  rw [hAA] at V
  rw [hQQ]
  exact k_lret X V rfl dX7_square_24

def p_X7_cross_J130 (zP1 : tX8) (zP2 : tX1) (v3 : Int32) (v4 : Int32) (zT : tX7) (v5 : Int32) (v6 : Int32) (v7 : Int32) (v8 : Int32) (v9 : Int64) (v11 : Int64) (v13 : Int64) (v15 : Int64) (v17 : Int64) (k130_0 : Int64) : Option (Bool × tX7) :=
  kb (p_X7_square zP1 v6) (fun x18 => kb (p_X7_square zP1 v5) (fun x19 => kl (k130_0 * (x18 - x19)) (fun y20 => kb (p_X7_square zP1 v8) (fun x21 => kb (p_X7_square zP1 v7) (fun x22 => kl (k130_0 * (x21 - x22)) (fun y23 => kl (zT.1, zT.2.1, zT.2.2.1, zT.2.2.2.1, zT.2.2.2.2.1, (((2 : Int64) * k130_0) * v17), zT.2.2.2.2.2.2) (fun z24 => kl (z24.1, z24.2.1, z24.2.2.1, z24.2.2.2.1, z24.2.2.2.2.1, z24.2.2.2.2.2.1, ((y20 * v15) - (y23 * v11)), z24.2.2.2.2.2.2.2) (fun z25 => kl (z25.1, z25.2.1, z25.2.2.1, z25.2.2.2.1, z25.2.2.2.2.1, z25.2.2.2.2.2.1, z25.2.2.2.2.2.2.1, ((v9 * y23) - (v13 * y20)), z25.2.2.2.2.2.2.2.2) (fun z26 => some (true, z26))))))))))
def p_X7_cross (zT : tX7) (zP1 : tX8) (zP2 : tX1) (v3 : Int32) (v4 : Int32) : Option (Bool × tX7) :=
  kb (p_X1_first zP2 v3) (fun x1 => kb (p_X1_second zP2 v3) (fun x2 => kb (p_X1_first zP2 v4) (fun x3 => kb (p_X1_second zP2 v4) (fun x4 => kb (p_X8_x zP1 x2) (fun x5 => kb (p_X8_x zP1 x1) (fun x6 => kl ((x5 - x6)).toInt64 (fun y7 => kb (p_X8_y zP1 x2) (fun x8 => kb (p_X8_y zP1 x1) (fun x9 => kl ((x8 - x9)).toInt64 (fun y10 => kb (p_X8_x zP1 x4) (fun x11 => kb (p_X8_x zP1 x3) (fun x12 => kl ((x11 - x12)).toInt64 (fun y13 => kb (p_X8_y zP1 x4) (fun x14 => kb (p_X8_y zP1 x3) (fun x15 => kl ((x14 - x15)).toInt64 (fun y16 => kl ((y7 * y16) - (y10 * y13)) (fun y17 => kif ((lg_cmp y17 (0 : Int64)) = 0) (some (false, zT)) (kif (0 ≤ (lg_cmp y17 (0 : Int64))) (p_X7_cross_J130 zP1 zP2 v3 v4 zT x1 x2 x3 x4 y7 y10 y13 y16 y17 (1 : Int64)) (p_X7_cross_J130 zP1 zP2 v3 v4 zT x1 x2 x3 x4 y7 y10 y13 y16 y17 (-1 : Int64))))))))))))))))))))
set_option maxHeartbeats 4000000 in
set_option maxRecDepth 100000 in
theorem c_X7_cross (l : Launch) (D : va_G) (g : kG) (aT : Nat → Nat) (aP1 : Nat → Nat) (aP2 : Nat → Nat) (zT : tX7) (zP1 : tX8) (zP2 : tX1) (v3 : Int32) (v4 : Int32) (r : Bool × tX7) (h : p_X7_cross zT zP1 zP2 v3 v4 = some r) : kMi l yX7_cross cX7_cross 25 (some .boolean) (kR 2 42) D (kty g) [.ref (aT 0), .ref (aP1 0), .ref (aP2 0), .int v3, .int v4] (List.flatten [gX7 g aT zT, gX8 g aP1 zP1, gX1 g aP2 zP2]) (kz r.1) (List.flatten [gX7 g aT r.2, gX8 g aP1 zP1, gX1 g aP2 zP2]) := by
  intro sz
  refine k_enter (lv := [(0, .ref (aT 0)), (1, .ref (aP1 0)), (2, .ref (aP2 0)), (3, .int v3), (4, .int v4)]) RX7 (by decide +kernel) rfl rfl (Nat.le_of_ble_eq_true rfl) ?_
  intro p en s m args below meth c ls hsz X V hl
  obtain ⟨QQ, hQQ⟩ : ∃ q, q = MQ below (va_Qi (fun r' (_ : Unit) => r' = kz r.1) (fun _ => kE D (List.flatten [gX7 g aT r.2, gX8 g aP1 zP1, gX1 g aP2 zP2])) (va_A (List.flatten [gX7 g aT zT, gX8 g aP1 zP1, gX1 g aP2 zP2]) sz)) args s 0 0 (va_A (List.flatten [gX7 g aT zT, gX8 g aP1 zP1, gX1 g aP2 zP2]) sz) := ⟨_, rfl⟩
  rw [← hQQ]
  obtain ⟨AA, hAA⟩ : ∃ q, q = va_A (List.flatten [gX7 g aT zT, gX8 g aP1 zP1, gX1 g aP2 zP2]) sz := ⟨_, rfl⟩
  rw [← hAA] at V
  have J130 : ∀ (zT : tX7) (v5 : Int32) (v6 : Int32) (v7 : Int32) (v8 : Int32) (v9 : Int64) (v11 : Int64) (v13 : Int64) (v15 : Int64) (v17 : Int64) (k130_0 : Int64) (H : Heap) (locs : List Loc) (ls : Array Slot), p_X7_cross_J130 zP1 zP2 v3 v4 zT v5 v6 v7 v8 v9 v11 v13 v15 v17 k130_0 = some r → kW D AA s.heap H (List.flatten [gX7 g aT zT, gX8 g aP1 zP1, gX1 g aP2 zP2]) locs → lv_has ls 25 [(0, .ref (aT 0)), (1, .ref (aP1 0)), (5, .int v5), (6, .int v6), (7, .int v7), (8, .int v8), (9, .long v9), (11, .long v11), (13, .long v13), (15, .long v15), (17, .long v17)] → W p l en (kR 2 42) s m args below meth c H locs 0 0 QQ (F0 m 130 ls [.long k130_0]) := by
    intro zT v5 v6 v7 v8 v9 v11 v13 v15 v17 k130_0 H locs ls h V hl
    unfold p_X7_cross_J130 at h
    refine lv_lstore (lv' := [(19, .long k130_0), (0, .ref (aT 0)), (1, .ref (aP1 0)), (5, .int v5), (6, .int v6), (7, .int v7), (8, .int v8), (9, .long v9), (11, .long v11), (13, .long v13), (15, .long v15), (17, .long v17)]) X.1 X.2.1 dX7_cross_130 hl (by decide) rfl (fun ls hl => ?_)
    refine lv_lload X.1 X.2.1 dX7_cross_132 (lv_at hl 0 rfl) ?_
    refine lv_aload_n X.1 X.2.1 dX7_cross_134 rfl (lv_at hl 2 rfl) ?_
    refine lv_iload X.1 X.2.1 dX7_cross_135 (lv_at hl 4 rfl) ?_
    obtain ⟨x27, hx27, h⟩ := kb_of h
    refine s_callSl (segs' := [gX7 g aT zT, gX8 g aP1 zP1, gX1 g aP2 zP2]) X V (c_X7_square l D g aP1 zP1 v6 x27 hx27) w_X7_51 ⟨Nat.le_of_ble_eq_true rfl, Nat.le_of_ble_eq_true rfl⟩ ⟨Nat.zero_le _, Nat.zero_le _⟩ rfl [1] rfl rfl (kFst_refl _) rfl rfl hl.1 (Nat.le_of_ble_eq_true rfl) dX7_cross_137 (fun H locs V => ?_)
    refine lv_aload_n X.1 X.2.1 dX7_cross_140 rfl (lv_at hl 2 rfl) ?_
    refine lv_iload X.1 X.2.1 dX7_cross_141 (lv_at hl 3 rfl) ?_
    obtain ⟨x28, hx28, h⟩ := kb_of h
    refine s_callSl (segs' := [gX7 g aT zT, gX8 g aP1 zP1, gX1 g aP2 zP2]) X V (c_X7_square l D g aP1 zP1 v5 x28 hx28) w_X7_51 ⟨Nat.le_of_ble_eq_true rfl, Nat.le_of_ble_eq_true rfl⟩ ⟨Nat.zero_le _, Nat.zero_le _⟩ rfl [1] rfl rfl (kFst_refl _) rfl rfl hl.1 (Nat.le_of_ble_eq_true rfl) dX7_cross_143 (fun H locs V => ?_)
    refine lv_lsub X.1 X.2.1 dX7_cross_146 ?_
    refine lv_lmul X.1 X.2.1 dX7_cross_147 ?_
    refine lv_topl (fun y29 ey29 => ?_)
    replace h := kl_of ey29 h
    refine lv_lstore (lv' := [(21, .long y29), (19, .long k130_0), (0, .ref (aT 0)), (1, .ref (aP1 0)), (5, .int v5), (6, .int v6), (7, .int v7), (8, .int v8), (9, .long v9), (11, .long v11), (13, .long v13), (15, .long v15), (17, .long v17)]) X.1 X.2.1 dX7_cross_148 hl (by decide) rfl (fun ls hl => ?_)
    refine lv_lload X.1 X.2.1 dX7_cross_150 (lv_at hl 1 rfl) ?_
    refine lv_aload_n X.1 X.2.1 dX7_cross_152 rfl (lv_at hl 3 rfl) ?_
    refine lv_iload X.1 X.2.1 dX7_cross_153 (lv_at hl 7 rfl) ?_
    obtain ⟨x30, hx30, h⟩ := kb_of h
    refine s_callSl (segs' := [gX7 g aT zT, gX8 g aP1 zP1, gX1 g aP2 zP2]) X V (c_X7_square l D g aP1 zP1 v8 x30 hx30) w_X7_51 ⟨Nat.le_of_ble_eq_true rfl, Nat.le_of_ble_eq_true rfl⟩ ⟨Nat.zero_le _, Nat.zero_le _⟩ rfl [1] rfl rfl (kFst_refl _) rfl rfl hl.1 (Nat.le_of_ble_eq_true rfl) dX7_cross_155 (fun H locs V => ?_)
    refine lv_aload_n X.1 X.2.1 dX7_cross_158 rfl (lv_at hl 3 rfl) ?_
    refine lv_iload X.1 X.2.1 dX7_cross_159 (lv_at hl 6 rfl) ?_
    obtain ⟨x31, hx31, h⟩ := kb_of h
    refine s_callSl (segs' := [gX7 g aT zT, gX8 g aP1 zP1, gX1 g aP2 zP2]) X V (c_X7_square l D g aP1 zP1 v7 x31 hx31) w_X7_51 ⟨Nat.le_of_ble_eq_true rfl, Nat.le_of_ble_eq_true rfl⟩ ⟨Nat.zero_le _, Nat.zero_le _⟩ rfl [1] rfl rfl (kFst_refl _) rfl rfl hl.1 (Nat.le_of_ble_eq_true rfl) dX7_cross_161 (fun H locs V => ?_)
    refine lv_lsub X.1 X.2.1 dX7_cross_164 ?_
    refine lv_lmul X.1 X.2.1 dX7_cross_165 ?_
    refine lv_topl (fun y32 ey32 => ?_)
    replace h := kl_of ey32 h
    refine lv_lstore (lv' := [(23, .long y32), (21, .long y29), (19, .long k130_0), (0, .ref (aT 0)), (1, .ref (aP1 0)), (5, .int v5), (6, .int v6), (7, .int v7), (8, .int v8), (9, .long v9), (11, .long v11), (13, .long v13), (15, .long v15), (17, .long v17)]) X.1 X.2.1 dX7_cross_166 hl (by decide) rfl (fun ls hl => ?_)
    refine lv_aload_n X.1 X.2.1 dX7_cross_168 rfl (lv_at hl 3 rfl) ?_
    refine lv_ldc2 (v := (2 : Int64)) X.1 X.2.1 X.2.2.2.1 (X.2.2.2.2.1 _ kc_X7_55) dX7_cross_169 ?_
    refine lv_lload X.1 X.2.1 dX7_cross_172 (lv_at hl 2 rfl) ?_
    refine lv_lmul X.1 X.2.1 dX7_cross_174 ?_
    refine lv_lload X.1 X.2.1 dX7_cross_175 (lv_at hl 13 rfl) ?_
    refine lv_lmul X.1 X.2.1 dX7_cross_177 ?_
    refine pf_X7_57 (i := 0) X V rfl dX7_cross_178 (fun H locs V => ?_)
    obtain ⟨z33, ez33⟩ : ∃ y, y = (zT.1, zT.2.1, zT.2.2.1, zT.2.2.2.1, zT.2.2.2.2.1, (((2 : Int64) * k130_0) * v17), zT.2.2.2.2.2.2) := ⟨_, rfl⟩
    replace h := kl_of ez33 h
    have V : kW D AA s.heap H (List.flatten [gX7 g aT z33, gX8 g aP1 zP1, gX1 g aP2 zP2]) locs := by rw [ez33]; exact V
    refine lv_aload_n X.1 X.2.1 dX7_cross_181 rfl (lv_at hl 3 rfl) ?_
    refine lv_lload X.1 X.2.1 dX7_cross_182 (lv_at hl 1 rfl) ?_
    refine lv_lload X.1 X.2.1 dX7_cross_184 (lv_at hl 12 rfl) ?_
    refine lv_lmul X.1 X.2.1 dX7_cross_186 ?_
    refine lv_lload X.1 X.2.1 dX7_cross_187 (lv_at hl 0 rfl) ?_
    refine lv_lload X.1 X.2.1 dX7_cross_189 (lv_at hl 10 rfl) ?_
    refine lv_lmul X.1 X.2.1 dX7_cross_191 ?_
    refine lv_lsub X.1 X.2.1 dX7_cross_192 ?_
    refine pf_X7_60 (i := 0) X V rfl dX7_cross_193 (fun H locs V => ?_)
    obtain ⟨z34, ez34⟩ : ∃ y, y = (z33.1, z33.2.1, z33.2.2.1, z33.2.2.2.1, z33.2.2.2.2.1, z33.2.2.2.2.2.1, ((y29 * v15) - (y32 * v11)), z33.2.2.2.2.2.2.2) := ⟨_, rfl⟩
    replace h := kl_of ez34 h
    have V : kW D AA s.heap H (List.flatten [gX7 g aT z34, gX8 g aP1 zP1, gX1 g aP2 zP2]) locs := by rw [ez34]; exact V
    refine lv_aload_n X.1 X.2.1 dX7_cross_196 rfl (lv_at hl 3 rfl) ?_
    refine lv_lload X.1 X.2.1 dX7_cross_197 (lv_at hl 9 rfl) ?_
    refine lv_lload X.1 X.2.1 dX7_cross_199 (lv_at hl 0 rfl) ?_
    refine lv_lmul X.1 X.2.1 dX7_cross_201 ?_
    refine lv_lload X.1 X.2.1 dX7_cross_202 (lv_at hl 11 rfl) ?_
    refine lv_lload X.1 X.2.1 dX7_cross_204 (lv_at hl 1 rfl) ?_
    refine lv_lmul X.1 X.2.1 dX7_cross_206 ?_
    refine lv_lsub X.1 X.2.1 dX7_cross_207 ?_
    refine pf_X7_63 (i := 0) X V rfl dX7_cross_208 (fun H locs V => ?_)
    obtain ⟨z35, ez35⟩ : ∃ y, y = (z34.1, z34.2.1, z34.2.2.1, z34.2.2.2.1, z34.2.2.2.2.1, z34.2.2.2.2.2.1, z34.2.2.2.2.2.2.1, ((v9 * y32) - (v13 * y29)), z34.2.2.2.2.2.2.2.2) := ⟨_, rfl⟩
    replace h := kl_of ez35 h
    have V : kW D AA s.heap H (List.flatten [gX7 g aT z35, gX8 g aP1 zP1, gX1 g aP2 zP2]) locs := by rw [ez35]; exact V
    refine lv_iconst (v := (1 : Int32)) X.1 X.2.1 dX7_cross_211 (by decide) ?_
    obtain rfl := Option.some.inj h
    rw [hAA] at V
    rw [hQQ]
    exact k_zret X V (b := true) rfl rfl dX7_cross_212
  unfold p_X7_cross at h
  refine lv_aload_n X.1 X.2.1 dX7_cross_0 rfl (lv_at hl 2 rfl) ?_
  refine lv_iload_n X.1 X.2.1 dX7_cross_1 rfl (lv_at hl 3 rfl) ?_
  obtain ⟨x36, hx36, h⟩ := kb_of h
  refine s_callVi (segs' := [gX7 g aT zT, gX8 g aP1 zP1, gX1 g aP2 zP2]) (ci := 1) (i0 := 0) X V (c_X1_first l D g aP2 zP2 v3 x36 hx36) w_X7_34 ⟨Nat.le_of_ble_eq_true rfl, Nat.le_of_ble_eq_true rfl⟩ ⟨Nat.zero_le _, Nat.zero_le _⟩ rfl rfl rfl rfl [2] rfl rfl (kFst_refl _) rfl rfl hl.1 (Nat.le_of_ble_eq_true rfl) dX7_cross_2 (fun H locs V => ?_)
  refine lv_istore (lv' := [(5, .int x36), (0, .ref (aT 0)), (1, .ref (aP1 0)), (2, .ref (aP2 0)), (3, .int v3), (4, .int v4)]) X.1 X.2.1 dX7_cross_5 hl (by decide) rfl (fun ls hl => ?_)
  refine lv_aload_n X.1 X.2.1 dX7_cross_7 rfl (lv_at hl 3 rfl) ?_
  refine lv_iload_n X.1 X.2.1 dX7_cross_8 rfl (lv_at hl 4 rfl) ?_
  obtain ⟨x37, hx37, h⟩ := kb_of h
  refine s_callVi (segs' := [gX7 g aT zT, gX8 g aP1 zP1, gX1 g aP2 zP2]) (ci := 1) (i0 := 0) X V (c_X1_second l D g aP2 zP2 v3 x37 hx37) w_X7_38 ⟨Nat.le_of_ble_eq_true rfl, Nat.le_of_ble_eq_true rfl⟩ ⟨Nat.zero_le _, Nat.zero_le _⟩ rfl rfl rfl rfl [2] rfl rfl (kFst_refl _) rfl rfl hl.1 (Nat.le_of_ble_eq_true rfl) dX7_cross_9 (fun H locs V => ?_)
  refine lv_istore (lv' := [(6, .int x37), (5, .int x36), (0, .ref (aT 0)), (1, .ref (aP1 0)), (2, .ref (aP2 0)), (3, .int v3), (4, .int v4)]) X.1 X.2.1 dX7_cross_12 hl (by decide) rfl (fun ls hl => ?_)
  refine lv_aload_n X.1 X.2.1 dX7_cross_14 rfl (lv_at hl 4 rfl) ?_
  refine lv_iload X.1 X.2.1 dX7_cross_15 (lv_at hl 6 rfl) ?_
  obtain ⟨x38, hx38, h⟩ := kb_of h
  refine s_callVi (segs' := [gX7 g aT zT, gX8 g aP1 zP1, gX1 g aP2 zP2]) (ci := 1) (i0 := 0) X V (c_X1_first l D g aP2 zP2 v4 x38 hx38) w_X7_34 ⟨Nat.le_of_ble_eq_true rfl, Nat.le_of_ble_eq_true rfl⟩ ⟨Nat.zero_le _, Nat.zero_le _⟩ rfl rfl rfl rfl [2] rfl rfl (kFst_refl _) rfl rfl hl.1 (Nat.le_of_ble_eq_true rfl) dX7_cross_17 (fun H locs V => ?_)
  refine lv_istore (lv' := [(7, .int x38), (6, .int x37), (5, .int x36), (0, .ref (aT 0)), (1, .ref (aP1 0)), (2, .ref (aP2 0)), (3, .int v3), (4, .int v4)]) X.1 X.2.1 dX7_cross_20 hl (by decide) rfl (fun ls hl => ?_)
  refine lv_aload_n X.1 X.2.1 dX7_cross_22 rfl (lv_at hl 5 rfl) ?_
  refine lv_iload X.1 X.2.1 dX7_cross_23 (lv_at hl 7 rfl) ?_
  obtain ⟨x39, hx39, h⟩ := kb_of h
  refine s_callVi (segs' := [gX7 g aT zT, gX8 g aP1 zP1, gX1 g aP2 zP2]) (ci := 1) (i0 := 0) X V (c_X1_second l D g aP2 zP2 v4 x39 hx39) w_X7_38 ⟨Nat.le_of_ble_eq_true rfl, Nat.le_of_ble_eq_true rfl⟩ ⟨Nat.zero_le _, Nat.zero_le _⟩ rfl rfl rfl rfl [2] rfl rfl (kFst_refl _) rfl rfl hl.1 (Nat.le_of_ble_eq_true rfl) dX7_cross_25 (fun H locs V => ?_)
  refine lv_istore (lv' := [(8, .int x39), (7, .int x38), (6, .int x37), (5, .int x36), (0, .ref (aT 0)), (1, .ref (aP1 0)), (2, .ref (aP2 0)), (3, .int v3), (4, .int v4)]) X.1 X.2.1 dX7_cross_28 hl (by decide) rfl (fun ls hl => ?_)
  refine lv_aload_n X.1 X.2.1 dX7_cross_30 rfl (lv_at hl 5 rfl) ?_
  refine lv_iload X.1 X.2.1 dX7_cross_31 (lv_at hl 2 rfl) ?_
  obtain ⟨x40, hx40, h⟩ := kb_of h
  refine s_callVi (segs' := [gX7 g aT zT, gX8 g aP1 zP1, gX1 g aP2 zP2]) (ci := 8) (i0 := 0) X V (c_X8_x l D g aP1 zP1 x37 x40 hx40) w_X7_41 ⟨Nat.le_of_ble_eq_true rfl, Nat.le_of_ble_eq_true rfl⟩ ⟨Nat.zero_le _, Nat.zero_le _⟩ rfl rfl rfl rfl [1] rfl rfl (kFst_refl _) rfl rfl hl.1 (Nat.le_of_ble_eq_true rfl) dX7_cross_33 (fun H locs V => ?_)
  refine lv_aload_n X.1 X.2.1 dX7_cross_36 rfl (lv_at hl 5 rfl) ?_
  refine lv_iload X.1 X.2.1 dX7_cross_37 (lv_at hl 3 rfl) ?_
  obtain ⟨x41, hx41, h⟩ := kb_of h
  refine s_callVi (segs' := [gX7 g aT zT, gX8 g aP1 zP1, gX1 g aP2 zP2]) (ci := 8) (i0 := 0) X V (c_X8_x l D g aP1 zP1 x36 x41 hx41) w_X7_41 ⟨Nat.le_of_ble_eq_true rfl, Nat.le_of_ble_eq_true rfl⟩ ⟨Nat.zero_le _, Nat.zero_le _⟩ rfl rfl rfl rfl [1] rfl rfl (kFst_refl _) rfl rfl hl.1 (Nat.le_of_ble_eq_true rfl) dX7_cross_39 (fun H locs V => ?_)
  refine lv_isub X.1 X.2.1 dX7_cross_42 ?_
  refine lv_i2l X.1 X.2.1 dX7_cross_43 rfl ?_
  refine lv_topl (fun y42 ey42 => ?_)
  replace h := kl_of ey42 h
  refine lv_lstore (lv' := [(9, .long y42), (8, .int x39), (7, .int x38), (6, .int x37), (5, .int x36), (0, .ref (aT 0)), (1, .ref (aP1 0)), (2, .ref (aP2 0)), (3, .int v3), (4, .int v4)]) X.1 X.2.1 dX7_cross_44 hl (by decide) rfl (fun ls hl => ?_)
  refine lv_aload_n X.1 X.2.1 dX7_cross_46 rfl (lv_at hl 6 rfl) ?_
  refine lv_iload X.1 X.2.1 dX7_cross_47 (lv_at hl 3 rfl) ?_
  obtain ⟨x43, hx43, h⟩ := kb_of h
  refine s_callVi (segs' := [gX7 g aT zT, gX8 g aP1 zP1, gX1 g aP2 zP2]) (ci := 8) (i0 := 0) X V (c_X8_y l D g aP1 zP1 x37 x43 hx43) w_X7_46 ⟨Nat.le_of_ble_eq_true rfl, Nat.le_of_ble_eq_true rfl⟩ ⟨Nat.zero_le _, Nat.zero_le _⟩ rfl rfl rfl rfl [1] rfl rfl (kFst_refl _) rfl rfl hl.1 (Nat.le_of_ble_eq_true rfl) dX7_cross_49 (fun H locs V => ?_)
  refine lv_aload_n X.1 X.2.1 dX7_cross_52 rfl (lv_at hl 6 rfl) ?_
  refine lv_iload X.1 X.2.1 dX7_cross_53 (lv_at hl 4 rfl) ?_
  obtain ⟨x44, hx44, h⟩ := kb_of h
  refine s_callVi (segs' := [gX7 g aT zT, gX8 g aP1 zP1, gX1 g aP2 zP2]) (ci := 8) (i0 := 0) X V (c_X8_y l D g aP1 zP1 x36 x44 hx44) w_X7_46 ⟨Nat.le_of_ble_eq_true rfl, Nat.le_of_ble_eq_true rfl⟩ ⟨Nat.zero_le _, Nat.zero_le _⟩ rfl rfl rfl rfl [1] rfl rfl (kFst_refl _) rfl rfl hl.1 (Nat.le_of_ble_eq_true rfl) dX7_cross_55 (fun H locs V => ?_)
  refine lv_isub X.1 X.2.1 dX7_cross_58 ?_
  refine lv_i2l X.1 X.2.1 dX7_cross_59 rfl ?_
  refine lv_topl (fun y45 ey45 => ?_)
  replace h := kl_of ey45 h
  refine lv_lstore (lv' := [(11, .long y45), (9, .long y42), (8, .int x39), (7, .int x38), (6, .int x37), (5, .int x36), (0, .ref (aT 0)), (1, .ref (aP1 0)), (2, .ref (aP2 0)), (3, .int v3), (4, .int v4)]) X.1 X.2.1 dX7_cross_60 hl (by decide) rfl (fun ls hl => ?_)
  refine lv_aload_n X.1 X.2.1 dX7_cross_62 rfl (lv_at hl 7 rfl) ?_
  refine lv_iload X.1 X.2.1 dX7_cross_63 (lv_at hl 2 rfl) ?_
  obtain ⟨x46, hx46, h⟩ := kb_of h
  refine s_callVi (segs' := [gX7 g aT zT, gX8 g aP1 zP1, gX1 g aP2 zP2]) (ci := 8) (i0 := 0) X V (c_X8_x l D g aP1 zP1 x39 x46 hx46) w_X7_41 ⟨Nat.le_of_ble_eq_true rfl, Nat.le_of_ble_eq_true rfl⟩ ⟨Nat.zero_le _, Nat.zero_le _⟩ rfl rfl rfl rfl [1] rfl rfl (kFst_refl _) rfl rfl hl.1 (Nat.le_of_ble_eq_true rfl) dX7_cross_65 (fun H locs V => ?_)
  refine lv_aload_n X.1 X.2.1 dX7_cross_68 rfl (lv_at hl 7 rfl) ?_
  refine lv_iload X.1 X.2.1 dX7_cross_69 (lv_at hl 3 rfl) ?_
  obtain ⟨x47, hx47, h⟩ := kb_of h
  refine s_callVi (segs' := [gX7 g aT zT, gX8 g aP1 zP1, gX1 g aP2 zP2]) (ci := 8) (i0 := 0) X V (c_X8_x l D g aP1 zP1 x38 x47 hx47) w_X7_41 ⟨Nat.le_of_ble_eq_true rfl, Nat.le_of_ble_eq_true rfl⟩ ⟨Nat.zero_le _, Nat.zero_le _⟩ rfl rfl rfl rfl [1] rfl rfl (kFst_refl _) rfl rfl hl.1 (Nat.le_of_ble_eq_true rfl) dX7_cross_71 (fun H locs V => ?_)
  refine lv_isub X.1 X.2.1 dX7_cross_74 ?_
  refine lv_i2l X.1 X.2.1 dX7_cross_75 rfl ?_
  refine lv_topl (fun y48 ey48 => ?_)
  replace h := kl_of ey48 h
  refine lv_lstore (lv' := [(13, .long y48), (11, .long y45), (9, .long y42), (8, .int x39), (7, .int x38), (6, .int x37), (5, .int x36), (0, .ref (aT 0)), (1, .ref (aP1 0)), (2, .ref (aP2 0)), (3, .int v3), (4, .int v4)]) X.1 X.2.1 dX7_cross_76 hl (by decide) rfl (fun ls hl => ?_)
  refine lv_aload_n X.1 X.2.1 dX7_cross_78 rfl (lv_at hl 8 rfl) ?_
  refine lv_iload X.1 X.2.1 dX7_cross_79 (lv_at hl 3 rfl) ?_
  obtain ⟨x49, hx49, h⟩ := kb_of h
  refine s_callVi (segs' := [gX7 g aT zT, gX8 g aP1 zP1, gX1 g aP2 zP2]) (ci := 8) (i0 := 0) X V (c_X8_y l D g aP1 zP1 x39 x49 hx49) w_X7_46 ⟨Nat.le_of_ble_eq_true rfl, Nat.le_of_ble_eq_true rfl⟩ ⟨Nat.zero_le _, Nat.zero_le _⟩ rfl rfl rfl rfl [1] rfl rfl (kFst_refl _) rfl rfl hl.1 (Nat.le_of_ble_eq_true rfl) dX7_cross_81 (fun H locs V => ?_)
  refine lv_aload_n X.1 X.2.1 dX7_cross_84 rfl (lv_at hl 8 rfl) ?_
  refine lv_iload X.1 X.2.1 dX7_cross_85 (lv_at hl 4 rfl) ?_
  obtain ⟨x50, hx50, h⟩ := kb_of h
  refine s_callVi (segs' := [gX7 g aT zT, gX8 g aP1 zP1, gX1 g aP2 zP2]) (ci := 8) (i0 := 0) X V (c_X8_y l D g aP1 zP1 x38 x50 hx50) w_X7_46 ⟨Nat.le_of_ble_eq_true rfl, Nat.le_of_ble_eq_true rfl⟩ ⟨Nat.zero_le _, Nat.zero_le _⟩ rfl rfl rfl rfl [1] rfl rfl (kFst_refl _) rfl rfl hl.1 (Nat.le_of_ble_eq_true rfl) dX7_cross_87 (fun H locs V => ?_)
  refine lv_isub X.1 X.2.1 dX7_cross_90 ?_
  refine lv_i2l X.1 X.2.1 dX7_cross_91 rfl ?_
  refine lv_topl (fun y51 ey51 => ?_)
  replace h := kl_of ey51 h
  refine lv_lstore (lv' := [(15, .long y51), (13, .long y48), (11, .long y45), (9, .long y42), (8, .int x39), (7, .int x38), (6, .int x37), (5, .int x36), (0, .ref (aT 0)), (1, .ref (aP1 0)), (2, .ref (aP2 0)), (3, .int v3), (4, .int v4)]) X.1 X.2.1 dX7_cross_92 hl (by decide) rfl (fun ls hl => ?_)
  refine lv_lload X.1 X.2.1 dX7_cross_94 (lv_at hl 3 rfl) ?_
  refine lv_lload X.1 X.2.1 dX7_cross_96 (lv_at hl 0 rfl) ?_
  refine lv_lmul X.1 X.2.1 dX7_cross_98 ?_
  refine lv_lload X.1 X.2.1 dX7_cross_99 (lv_at hl 2 rfl) ?_
  refine lv_lload X.1 X.2.1 dX7_cross_101 (lv_at hl 1 rfl) ?_
  refine lv_lmul X.1 X.2.1 dX7_cross_103 ?_
  refine lv_lsub X.1 X.2.1 dX7_cross_104 ?_
  refine lv_topl (fun y52 ey52 => ?_)
  replace h := kl_of ey52 h
  refine lv_lstore (lv' := [(17, .long y52), (15, .long y51), (13, .long y48), (11, .long y45), (9, .long y42), (8, .int x39), (7, .int x38), (6, .int x37), (5, .int x36), (0, .ref (aT 0)), (1, .ref (aP1 0)), (2, .ref (aP2 0)), (3, .int v3), (4, .int v4)]) X.1 X.2.1 dX7_cross_105 hl (by decide) rfl (fun ls hl => ?_)
  refine lv_lload X.1 X.2.1 dX7_cross_107 (lv_at hl 0 rfl) ?_
  refine lv_lconst (v := (0 : Int64)) X.1 X.2.1 dX7_cross_109 (by decide) ?_
  refine W.lcmp X.1 X.2.1 dX7_cross_110 ?_
  refine lv_if_ne (tgt := 116) X.1 X.2.1 dX7_cross_111 (by decide) (fun hc => ?_) (fun hc => ?_)
  · replace h := kif_f hc h
    refine lv_lload X.1 X.2.1 dX7_cross_116 (lv_at hl 0 rfl) ?_
    refine lv_lconst (v := (0 : Int64)) X.1 X.2.1 dX7_cross_118 (by decide) ?_
    refine W.lcmp X.1 X.2.1 dX7_cross_119 ?_
    refine lv_if_ge (tgt := 129) X.1 X.2.1 dX7_cross_120 (by decide) (fun hc => ?_) (fun hc => ?_)
    · replace h := kif_t hc h
      refine lv_lconst (v := (1 : Int64)) X.1 X.2.1 dX7_cross_129 (by decide) ?_
      exact J130 zT x36 x37 x38 x39 y42 y45 y48 y51 y52 (1 : Int64) _ _ _ h V (lv_sub hl [9, 10, 8, 7, 6, 5, 4, 3, 2, 1, 0] rfl)
    · replace h := kif_f hc h
      refine lv_ldc2 (v := (-1 : Int64)) X.1 X.2.1 X.2.2.2.1 (X.2.2.2.2.1 _ kc_X7_49) dX7_cross_123 ?_
      refine lv_goto (tgt := 130) X.1 X.2.1 dX7_cross_126 (by decide) ?_
      exact J130 zT x36 x37 x38 x39 y42 y45 y48 y51 y52 (-1 : Int64) _ _ _ h V (lv_sub hl [9, 10, 8, 7, 6, 5, 4, 3, 2, 1, 0] rfl)
  · replace h := kif_t hc h
    refine lv_iconst (v := (0 : Int32)) X.1 X.2.1 dX7_cross_114 (by decide) ?_
    obtain rfl := Option.some.inj h
    rw [hAA] at V
    rw [hQQ]
    exact k_zret X V (b := false) rfl rfl dX7_cross_115

def p_X7_measure_J75_2 (zP1 : tX8) (zT : tX7) (v2 : Int32) (v7 : Int64) (k75_1 : Int64) : Option (Nat × (Int32 × tX7)) :=
  kl (zT.1, zT.2.1, zT.2.2.1, zT.2.2.2.1, zT.2.2.2.2.1, zT.2.2.2.2.2.1, zT.2.2.2.2.2.2.1, zT.2.2.2.2.2.2.2.1, k75_1, zT.2.2.2.2.2.2.2.2.2) (fun z7 => kif (v2 = 0) (kl (z7.1, z7.2.1, z7.2.2.1, z7.2.2.2.1, z7.2.2.2.2.1, z7.2.2.2.2.2.1, z7.2.2.2.2.2.2.1, z7.2.2.2.2.2.2.2.1, z7.2.2.2.2.2.2.2.2.1, v7) (fun z8 => kl (v2 + (1 : Int32)) (fun y9 => some (2, (y9, z8))))) (kb (p_J9_max_f86c9 z7.2.2.2.2.2.2.2.2.2 v7) (fun x10 => kl (z7.1, z7.2.1, z7.2.2.1, z7.2.2.2.1, z7.2.2.2.2.1, z7.2.2.2.2.2.1, z7.2.2.2.2.2.2.1, z7.2.2.2.2.2.2.2.1, z7.2.2.2.2.2.2.2.2.1, x10) (fun z11 => kl (v2 + (1 : Int32)) (fun y12 => some (2, (y12, z11)))))))
def p_X7_measure_L2 (zP1 : tX8) (s : Int32 × tX7) : Option (Nat × (Int32 × tX7)) :=
  kb (p_X8_count zP1) (fun x1 => kif (x1 ≤ s.1) (some (106, (s.1, s.2))) (kb (p_X8_x zP1 s.1) (fun x2 => kl ((x2.toInt64 * s.2.2.2.2.2.2.1) - s.2.2.2.2.2.2.2.1) (fun y3 => kb (p_X8_y zP1 s.1) (fun x4 => kl ((x4.toInt64 * s.2.2.2.2.2.2.1) - s.2.2.2.2.2.2.2.2.1) (fun y5 => kl ((y3 * y3) + (y5 * y5)) (fun y6 => kif (s.1 = 0) (p_X7_measure_J75_2 zP1 s.2 s.1 y6 y6) (kb (p_J9_min_f86c9 s.2.2.2.2.2.2.2.2.2.1 y6) (fun x13 => p_X7_measure_J75_2 zP1 s.2 s.1 y6 x13)))))))))
def p_X7_measure (zT : tX7) (zP1 : tX8) : Option (tX7) :=
  kb (kitr 2 (fun q => p_X7_measure_L2 zP1 q) kF ((0 : Int32), zT)) (fun x14 => kg (x14.1 = 106) (some x14.2.2))
set_option maxHeartbeats 4000000 in
set_option maxRecDepth 100000 in
theorem c_X7_measure (l : Launch) (D : va_G) (g : kG) (aT : Nat → Nat) (aP1 : Nat → Nat) (zT : tX7) (zP1 : tX8) (r : tX7) (h : p_X7_measure zT zP1 = some r) : kMv l yX7_measure cX7_measure 9 none (kR 1 23) D (kty g) [.ref (aT 0), .ref (aP1 0)] (List.flatten [gX7 g aT zT, gX8 g aP1 zP1]) (List.flatten [gX7 g aT r, gX8 g aP1 zP1]) := by
  intro sz
  refine k_enter (lv := [(0, .ref (aT 0)), (1, .ref (aP1 0))]) RX7 (by decide +kernel) rfl rfl (Nat.le_of_ble_eq_true rfl) ?_
  intro p en s m args below meth c ls hsz X V hl
  obtain ⟨QQ, hQQ⟩ : ∃ q, q = MQ below (va_Qv (fun (_ : Unit) => True) (fun _ => kE D (List.flatten [gX7 g aT r, gX8 g aP1 zP1])) (va_A (List.flatten [gX7 g aT zT, gX8 g aP1 zP1]) sz)) args s 0 0 (va_A (List.flatten [gX7 g aT zT, gX8 g aP1 zP1]) sz) := ⟨_, rfl⟩
  rw [← hQQ]
  obtain ⟨AA, hAA⟩ : ∃ q, q = va_A (List.flatten [gX7 g aT zT, gX8 g aP1 zP1]) sz := ⟨_, rfl⟩
  rw [← hAA] at V
  unfold p_X7_measure at h
  refine lv_iconst (v := (0 : Int32)) X.1 X.2.1 dX7_measure_0 (by decide) ?_
  refine lv_istore_n (lv' := [(2, .int (0 : Int32)), (0, .ref (aT 0)), (1, .ref (aP1 0))]) X.1 X.2.1 dX7_measure_1 rfl hl (by decide) rfl (fun ls hl => ?_)
  obtain ⟨x15, hx15, h⟩ := kb_of h
  refine (kitr_go (hd := 2) (body := fun q => p_X7_measure_L2 zP1 q) (G := (fun e => ∀ (H : Heap) (locs : List Loc) (ls : Array Slot), kW D AA s.heap H (List.flatten [gX7 g aT e.2.2, gX8 g aP1 zP1]) locs → lv_has ls 9 [(0, .ref (aT 0)), (1, .ref (aP1 0)), (2, .int e.2.1)] → W p l en (kR 1 23) s m args below meth c H locs 0 0 QQ (F0 m e.1 ls []))) (fun s16 e17 hb18 hG19 => ?_) kF _ x15 hx15 ?_) _ _ _ V (lv_sub hl [1, 2, 0] rfl)
  · intro H locs ls V hl
    show W p l en (kR 1 23) s m args below meth c H locs 0 0 QQ (F0 m 2 ls [])
    have h : p_X7_measure_L2 zP1 s16 = some e17 := hb18
    unfold p_X7_measure_L2 at h
    have V : kW D AA s.heap H (List.flatten [gX7 g aT s16.2, gX8 g aP1 zP1]) locs := V
    have hl : lv_has ls 9 [(0, .ref (aT 0)), (1, .ref (aP1 0)), (2, .int s16.1)] := hl
    have J75 : ∀ (zT : tX7) (v2 : Int32) (v7 : Int64) (k75_1 : Int64) (H : Heap) (locs : List Loc) (ls : Array Slot), p_X7_measure_J75_2 zP1 zT v2 v7 k75_1 = some e17 → kW D AA s.heap H (List.flatten [gX7 g aT zT, gX8 g aP1 zP1]) locs → lv_has ls 9 [(0, .ref (aT 0)), (1, .ref (aP1 0)), (2, .int v2), (7, .long v7)] → W p l en (kR 1 23) s m args below meth c H locs 0 0 QQ (F0 m 75 ls [.long k75_1, .ref (aT 0)]) := by
      intro zT v2 v7 k75_1 H locs ls h V hl
      unfold p_X7_measure_J75_2 at h
      refine pf_X7_67 (i := 0) X V rfl dX7_measure_75 (fun H locs V => ?_)
      obtain ⟨z20, ez20⟩ : ∃ y, y = (zT.1, zT.2.1, zT.2.2.1, zT.2.2.2.1, zT.2.2.2.2.1, zT.2.2.2.2.2.1, zT.2.2.2.2.2.2.1, zT.2.2.2.2.2.2.2.1, k75_1, zT.2.2.2.2.2.2.2.2.2) := ⟨_, rfl⟩
      replace h := kl_of ez20 h
      have V : kW D AA s.heap H (List.flatten [gX7 g aT z20, gX8 g aP1 zP1]) locs := by rw [ez20]; exact V
      refine lv_aload_n X.1 X.2.1 dX7_measure_78 rfl (lv_at hl 0 rfl) ?_
      refine lv_iload_n X.1 X.2.1 dX7_measure_79 rfl (lv_at hl 2 rfl) ?_
      refine lv_if_ne (tgt := 88) X.1 X.2.1 dX7_measure_80 (by decide) (fun hc => ?_) (fun hc => ?_)
      · replace h := kif_f hc h
        refine lv_aload_n X.1 X.2.1 dX7_measure_88 rfl (lv_at hl 0 rfl) ?_
        refine gf_X7_76 (i := 0) X V rfl dX7_measure_89 ?_
        refine lv_lload X.1 X.2.1 dX7_measure_92 (lv_at hl 3 rfl) ?_
        obtain ⟨x21, hx21, h⟩ := kb_of h
        refine s_callSl (segs' := [gX7 g aT z20, gX8 g aP1 zP1]) X V (c_J9_max_f86c9 l D g z20.2.2.2.2.2.2.2.2.2 v7 x21 hx21) w_X7_79 ⟨Nat.le_of_ble_eq_true rfl, Nat.le_of_ble_eq_true rfl⟩ ⟨Nat.zero_le _, Nat.zero_le _⟩ rfl [] rfl rfl (kFst_refl _) rfl rfl hl.1 (Nat.le_of_ble_eq_true rfl) dX7_measure_94 (fun H locs V => ?_)
        refine pf_X7_76 (i := 0) X V rfl dX7_measure_97 (fun H locs V => ?_)
        obtain ⟨z22, ez22⟩ : ∃ y, y = (z20.1, z20.2.1, z20.2.2.1, z20.2.2.2.1, z20.2.2.2.2.1, z20.2.2.2.2.2.1, z20.2.2.2.2.2.2.1, z20.2.2.2.2.2.2.2.1, z20.2.2.2.2.2.2.2.2.1, x21) := ⟨_, rfl⟩
        replace h := kl_of ez22 h
        have V : kW D AA s.heap H (List.flatten [gX7 g aT z22, gX8 g aP1 zP1]) locs := by rw [ez22]; exact V
        obtain ⟨y23, ey23⟩ : ∃ y : Int32, y = (v2 + (1 : Int32)) := ⟨_, rfl⟩
        replace h := kl_of ey23 h
        refine lv_iinc (v := y23) (lv' := [(2, .int y23), (0, .ref (aT 0)), (1, .ref (aP1 0)), (7, .long v7)]) X.1 X.2.1 dX7_measure_100 hl (k := 2) rfl (by rw [ey23]; rfl) (by decide) rfl (fun ls hl => ?_)
        refine lv_goto (tgt := 2) X.1 X.2.1 dX7_measure_103 (by decide) ?_
        obtain rfl := Option.some.inj h
        exact hG19 _ _ _ V (lv_sub hl [1, 2, 0] rfl)
      · replace h := kif_t hc h
        refine lv_lload X.1 X.2.1 dX7_measure_83 (lv_at hl 3 rfl) ?_
        refine lv_goto (tgt := 97) X.1 X.2.1 dX7_measure_85 (by decide) ?_
        refine pf_X7_76 (i := 0) X V rfl dX7_measure_97 (fun H locs V => ?_)
        obtain ⟨z24, ez24⟩ : ∃ y, y = (z20.1, z20.2.1, z20.2.2.1, z20.2.2.2.1, z20.2.2.2.2.1, z20.2.2.2.2.2.1, z20.2.2.2.2.2.2.1, z20.2.2.2.2.2.2.2.1, z20.2.2.2.2.2.2.2.2.1, v7) := ⟨_, rfl⟩
        replace h := kl_of ez24 h
        have V : kW D AA s.heap H (List.flatten [gX7 g aT z24, gX8 g aP1 zP1]) locs := by rw [ez24]; exact V
        obtain ⟨y25, ey25⟩ : ∃ y : Int32, y = (v2 + (1 : Int32)) := ⟨_, rfl⟩
        replace h := kl_of ey25 h
        refine lv_iinc (v := y25) (lv' := [(2, .int y25), (0, .ref (aT 0)), (1, .ref (aP1 0)), (7, .long v7)]) X.1 X.2.1 dX7_measure_100 hl (k := 2) rfl (by rw [ey25]; rfl) (by decide) rfl (fun ls hl => ?_)
        refine lv_goto (tgt := 2) X.1 X.2.1 dX7_measure_103 (by decide) ?_
        obtain rfl := Option.some.inj h
        exact hG19 _ _ _ V (lv_sub hl [1, 2, 0] rfl)
    refine lv_iload_n X.1 X.2.1 dX7_measure_2 rfl (lv_at hl 2 rfl) ?_
    refine lv_aload_n X.1 X.2.1 dX7_measure_3 rfl (lv_at hl 1 rfl) ?_
    obtain ⟨x26, hx26, h⟩ := kb_of h
    refine s_callVi (segs' := [gX7 g aT s16.2, gX8 g aP1 zP1]) (ci := 8) (i0 := 0) X V (c_X8_count l D g aP1 zP1 x26 hx26) w_X7_66 ⟨Nat.le_of_ble_eq_true rfl, Nat.le_of_ble_eq_true rfl⟩ ⟨Nat.zero_le _, Nat.zero_le _⟩ rfl rfl rfl rfl [1] rfl rfl (kFst_refl _) rfl rfl hl.1 (Nat.le_of_ble_eq_true rfl) dX7_measure_4 (fun H locs V => ?_)
    refine lv_icmp_ge (tgt := 106) X.1 X.2.1 dX7_measure_7 (by decide) (fun hc => ?_) (fun hc => ?_)
    · replace h := kif_t hc h
      obtain rfl := Option.some.inj h
      exact hG19 _ _ _ V (lv_sub hl [0, 1, 2] rfl)
    · replace h := kif_f hc h
      refine lv_aload_n X.1 X.2.1 dX7_measure_10 rfl (lv_at hl 1 rfl) ?_
      refine lv_iload_n X.1 X.2.1 dX7_measure_11 rfl (lv_at hl 2 rfl) ?_
      obtain ⟨x27, hx27, h⟩ := kb_of h
      refine s_callVi (segs' := [gX7 g aT s16.2, gX8 g aP1 zP1]) (ci := 8) (i0 := 0) X V (c_X8_x l D g aP1 zP1 s16.1 x27 hx27) w_X7_41 ⟨Nat.le_of_ble_eq_true rfl, Nat.le_of_ble_eq_true rfl⟩ ⟨Nat.zero_le _, Nat.zero_le _⟩ rfl rfl rfl rfl [1] rfl rfl (kFst_refl _) rfl rfl hl.1 (Nat.le_of_ble_eq_true rfl) dX7_measure_12 (fun H locs V => ?_)
      refine lv_i2l X.1 X.2.1 dX7_measure_15 rfl ?_
      refine lv_aload_n X.1 X.2.1 dX7_measure_16 rfl (lv_at hl 0 rfl) ?_
      refine gf_X7_57 (i := 0) X V rfl dX7_measure_17 ?_
      refine lv_lmul X.1 X.2.1 dX7_measure_20 ?_
      refine lv_aload_n X.1 X.2.1 dX7_measure_21 rfl (lv_at hl 0 rfl) ?_
      refine gf_X7_60 (i := 0) X V rfl dX7_measure_22 ?_
      refine lv_lsub X.1 X.2.1 dX7_measure_25 ?_
      refine lv_topl (fun y28 ey28 => ?_)
      replace h := kl_of ey28 h
      refine lv_lstore_n (lv' := [(3, .long y28), (0, .ref (aT 0)), (1, .ref (aP1 0)), (2, .int s16.1)]) X.1 X.2.1 dX7_measure_26 rfl hl (by decide) rfl (fun ls hl => ?_)
      refine lv_aload_n X.1 X.2.1 dX7_measure_27 rfl (lv_at hl 2 rfl) ?_
      refine lv_iload_n X.1 X.2.1 dX7_measure_28 rfl (lv_at hl 3 rfl) ?_
      obtain ⟨x29, hx29, h⟩ := kb_of h
      refine s_callVi (segs' := [gX7 g aT s16.2, gX8 g aP1 zP1]) (ci := 8) (i0 := 0) X V (c_X8_y l D g aP1 zP1 s16.1 x29 hx29) w_X7_46 ⟨Nat.le_of_ble_eq_true rfl, Nat.le_of_ble_eq_true rfl⟩ ⟨Nat.zero_le _, Nat.zero_le _⟩ rfl rfl rfl rfl [1] rfl rfl (kFst_refl _) rfl rfl hl.1 (Nat.le_of_ble_eq_true rfl) dX7_measure_29 (fun H locs V => ?_)
      refine lv_i2l X.1 X.2.1 dX7_measure_32 rfl ?_
      refine lv_aload_n X.1 X.2.1 dX7_measure_33 rfl (lv_at hl 1 rfl) ?_
      refine gf_X7_57 (i := 0) X V rfl dX7_measure_34 ?_
      refine lv_lmul X.1 X.2.1 dX7_measure_37 ?_
      refine lv_aload_n X.1 X.2.1 dX7_measure_38 rfl (lv_at hl 1 rfl) ?_
      refine gf_X7_63 (i := 0) X V rfl dX7_measure_39 ?_
      refine lv_lsub X.1 X.2.1 dX7_measure_42 ?_
      refine lv_topl (fun y30 ey30 => ?_)
      replace h := kl_of ey30 h
      refine lv_lstore (lv' := [(5, .long y30), (3, .long y28), (0, .ref (aT 0)), (1, .ref (aP1 0)), (2, .int s16.1)]) X.1 X.2.1 dX7_measure_43 hl (by decide) rfl (fun ls hl => ?_)
      refine lv_lload_n X.1 X.2.1 dX7_measure_45 rfl (lv_at hl 1 rfl) ?_
      refine lv_lload_n X.1 X.2.1 dX7_measure_46 rfl (lv_at hl 1 rfl) ?_
      refine lv_lmul X.1 X.2.1 dX7_measure_47 ?_
      refine lv_lload X.1 X.2.1 dX7_measure_48 (lv_at hl 0 rfl) ?_
      refine lv_lload X.1 X.2.1 dX7_measure_50 (lv_at hl 0 rfl) ?_
      refine lv_lmul X.1 X.2.1 dX7_measure_52 ?_
      refine lv_ladd X.1 X.2.1 dX7_measure_53 ?_
      refine lv_topl (fun y31 ey31 => ?_)
      replace h := kl_of ey31 h
      refine lv_lstore (lv' := [(7, .long y31), (5, .long y30), (3, .long y28), (0, .ref (aT 0)), (1, .ref (aP1 0)), (2, .int s16.1)]) X.1 X.2.1 dX7_measure_54 hl (by decide) rfl (fun ls hl => ?_)
      refine lv_aload_n X.1 X.2.1 dX7_measure_56 rfl (lv_at hl 3 rfl) ?_
      refine lv_iload_n X.1 X.2.1 dX7_measure_57 rfl (lv_at hl 5 rfl) ?_
      refine lv_if_ne (tgt := 66) X.1 X.2.1 dX7_measure_58 (by decide) (fun hc => ?_) (fun hc => ?_)
      · replace h := kif_f hc h
        refine lv_aload_n X.1 X.2.1 dX7_measure_66 rfl (lv_at hl 3 rfl) ?_
        refine gf_X7_67 (i := 0) X V rfl dX7_measure_67 ?_
        refine lv_lload X.1 X.2.1 dX7_measure_70 (lv_at hl 0 rfl) ?_
        obtain ⟨x32, hx32, h⟩ := kb_of h
        refine s_callSl (segs' := [gX7 g aT s16.2, gX8 g aP1 zP1]) X V (c_J9_min_f86c9 l D g s16.2.2.2.2.2.2.2.2.2.1 y31 x32 hx32) w_X7_70 ⟨Nat.le_of_ble_eq_true rfl, Nat.le_of_ble_eq_true rfl⟩ ⟨Nat.zero_le _, Nat.zero_le _⟩ rfl [] rfl rfl (kFst_refl _) rfl rfl hl.1 (Nat.le_of_ble_eq_true rfl) dX7_measure_72 (fun H locs V => ?_)
        exact J75 s16.2 s16.1 y31 x32 _ _ _ h V (lv_sub hl [3, 4, 5, 0] rfl)
      · replace h := kif_t hc h
        refine lv_lload X.1 X.2.1 dX7_measure_61 (lv_at hl 0 rfl) ?_
        refine lv_goto (tgt := 75) X.1 X.2.1 dX7_measure_63 (by decide) ?_
        exact J75 s16.2 s16.1 y31 y31 _ _ _ h V (lv_sub hl [3, 4, 5, 0] rfl)
  · intro H locs ls V hl
    have V : kW D AA s.heap H (List.flatten [gX7 g aT x15.2.2, gX8 g aP1 zP1]) locs := V
    have hl : lv_has ls 9 [(0, .ref (aT 0)), (1, .ref (aP1 0)), (2, .int x15.2.1)] := hl
    obtain ⟨hc, h⟩ := kg_of h
    refine W.eq (g2 := F0 m 106 ls []) (by rw [hc]) ?_
    obtain rfl := Option.some.inj h
    rw [hAA] at V
    rw [hQQ]
    exact k_vret X V dX7_measure_106

def p_X7_isBetter_J88 (zT : tX7) (v1 : Int32) : Option (Bool) :=
  kif (0 ≤ v1) (some false) (some true)
def p_X7_isBetter_J64 (zT : tX7) (v1 : Int32) : Option (Bool) :=
  kif (v1 = 0) (kb (p_X3_compare zT.2.2.2.2.2.2.2.1 zT.2.2.2.2.2.1 zT.2.2.1 zT.1) (fun x3 => p_X7_isBetter_J88 zT x3)) (p_X7_isBetter_J88 zT v1)
def p_X7_isBetter (zT : tX7) : Option (Bool) :=
  kb (p_X3_compare (zT.2.2.2.2.2.2.2.2.2 - zT.2.2.2.2.2.2.2.2.1) (zT.2.2.2.2.2.1 * zT.2.2.2.2.2.1) (zT.2.2.2.2.1 - zT.2.2.2.1) (zT.1 * zT.1)) (fun x1 => kif (x1 = 0) (kb (p_X3_compare zT.2.2.2.2.2.2.1 zT.2.2.2.2.2.1 zT.2.1 zT.1) (fun x2 => p_X7_isBetter_J64 zT x2)) (p_X7_isBetter_J64 zT x1))
set_option maxHeartbeats 4000000 in
set_option maxRecDepth 100000 in
theorem c_X7_isBetter (l : Launch) (D : va_G) (g : kG) (aT : Nat → Nat) (zT : tX7) (r : Bool) (h : p_X7_isBetter zT = some r) : kMi l yX7_isBetter cX7_isBetter 2 (some .boolean) (kR 2 69) D (kty g) [.ref (aT 0)] (List.flatten [gX7 g aT zT]) (kz r) (List.flatten [gX7 g aT zT]) := by
  intro sz
  refine k_enter (lv := [(0, .ref (aT 0))]) RX7 (by decide +kernel) rfl rfl (Nat.le_of_ble_eq_true rfl) ?_
  intro p en s m args below meth c ls hsz X V hl
  obtain ⟨QQ, hQQ⟩ : ∃ q, q = MQ below (va_Qi (fun r' (_ : Unit) => r' = kz r) (fun _ => kE D (List.flatten [gX7 g aT zT])) (va_A (List.flatten [gX7 g aT zT]) sz)) args s 0 0 (va_A (List.flatten [gX7 g aT zT]) sz) := ⟨_, rfl⟩
  rw [← hQQ]
  obtain ⟨AA, hAA⟩ : ∃ q, q = va_A (List.flatten [gX7 g aT zT]) sz := ⟨_, rfl⟩
  rw [← hAA] at V
  have J88 : ∀ (v1 : Int32) (H : Heap) (locs : List Loc) (ls : Array Slot), p_X7_isBetter_J88 zT v1 = some r → kW D AA s.heap H (List.flatten [gX7 g aT zT]) locs → lv_has ls 2 [(1, .int v1)] → W p l en (kR 2 69) s m args below meth c H locs 0 0 QQ (F0 m 88 ls []) := by
    intro v1 H locs ls h V hl
    unfold p_X7_isBetter_J88 at h
    refine lv_iload_n X.1 X.2.1 dX7_isBetter_88 rfl (lv_at hl 0 rfl) ?_
    refine lv_if_ge (tgt := 96) X.1 X.2.1 dX7_isBetter_89 (by decide) (fun hc => ?_) (fun hc => ?_)
    · replace h := kif_t hc h
      refine lv_iconst (v := (0 : Int32)) X.1 X.2.1 dX7_isBetter_96 (by decide) ?_
      obtain rfl := Option.some.inj h
      rw [hAA] at V
      rw [hQQ]
      exact k_zret X V (b := false) rfl rfl dX7_isBetter_97
    · replace h := kif_f hc h
      refine lv_iconst (v := (1 : Int32)) X.1 X.2.1 dX7_isBetter_92 (by decide) ?_
      refine lv_goto (tgt := 97) X.1 X.2.1 dX7_isBetter_93 (by decide) ?_
      obtain rfl := Option.some.inj h
      rw [hAA] at V
      rw [hQQ]
      exact k_zret X V (b := true) rfl rfl dX7_isBetter_97
  have J64 : ∀ (v1 : Int32) (H : Heap) (locs : List Loc) (ls : Array Slot), p_X7_isBetter_J64 zT v1 = some r → kW D AA s.heap H (List.flatten [gX7 g aT zT]) locs → lv_has ls 2 [(0, .ref (aT 0)), (1, .int v1)] → W p l en (kR 2 69) s m args below meth c H locs 0 0 QQ (F0 m 64 ls []) := by
    intro v1 H locs ls h V hl
    unfold p_X7_isBetter_J64 at h
    refine lv_iload_n X.1 X.2.1 dX7_isBetter_64 rfl (lv_at hl 1 rfl) ?_
    refine lv_if_ne (tgt := 88) X.1 X.2.1 dX7_isBetter_65 (by decide) (fun hc => ?_) (fun hc => ?_)
    · replace h := kif_f hc h
      exact J88 v1 _ _ _ h V (lv_sub hl [1] rfl)
    · replace h := kif_t hc h
      refine lv_aload_n X.1 X.2.1 dX7_isBetter_68 rfl (lv_at hl 0 rfl) ?_
      refine gf_X7_63 (i := 0) X V rfl dX7_isBetter_69 ?_
      refine lv_aload_n X.1 X.2.1 dX7_isBetter_72 rfl (lv_at hl 0 rfl) ?_
      refine gf_X7_57 (i := 0) X V rfl dX7_isBetter_73 ?_
      refine lv_aload_n X.1 X.2.1 dX7_isBetter_76 rfl (lv_at hl 0 rfl) ?_
      refine gf_X7_96 (i := 0) X V rfl dX7_isBetter_77 ?_
      refine lv_aload_n X.1 X.2.1 dX7_isBetter_80 rfl (lv_at hl 0 rfl) ?_
      refine gf_X7_7 (i := 0) X V rfl dX7_isBetter_81 ?_
      obtain ⟨x4, hx4, h⟩ := kb_of h
      refine s_callSi (segs' := [gX7 g aT zT]) X V (c_X3_compare l D g zT.2.2.2.2.2.2.2.1 zT.2.2.2.2.2.1 zT.2.2.1 zT.1 x4 hx4) w_X7_88 ⟨Nat.le_of_ble_eq_true rfl, Nat.le_of_ble_eq_true rfl⟩ ⟨Nat.zero_le _, Nat.zero_le _⟩ rfl [] rfl rfl (kFst_refl _) rfl rfl hl.1 (Nat.le_of_ble_eq_true rfl) dX7_isBetter_84 (fun H locs V => ?_)
      refine lv_istore_n (lv' := [(1, .int x4), (0, .ref (aT 0))]) X.1 X.2.1 dX7_isBetter_87 rfl hl (by decide) rfl (fun ls hl => ?_)
      exact J88 x4 _ _ _ h V (lv_sub hl [0] rfl)
  unfold p_X7_isBetter at h
  refine lv_aload_n X.1 X.2.1 dX7_isBetter_0 rfl (lv_at hl 0 rfl) ?_
  refine gf_X7_76 (i := 0) X V rfl dX7_isBetter_1 ?_
  refine lv_aload_n X.1 X.2.1 dX7_isBetter_4 rfl (lv_at hl 0 rfl) ?_
  refine gf_X7_67 (i := 0) X V rfl dX7_isBetter_5 ?_
  refine lv_lsub X.1 X.2.1 dX7_isBetter_8 ?_
  refine lv_aload_n X.1 X.2.1 dX7_isBetter_9 rfl (lv_at hl 0 rfl) ?_
  refine gf_X7_57 (i := 0) X V rfl dX7_isBetter_10 ?_
  refine lv_aload_n X.1 X.2.1 dX7_isBetter_13 rfl (lv_at hl 0 rfl) ?_
  refine gf_X7_57 (i := 0) X V rfl dX7_isBetter_14 ?_
  refine lv_lmul X.1 X.2.1 dX7_isBetter_17 ?_
  refine lv_aload_n X.1 X.2.1 dX7_isBetter_18 rfl (lv_at hl 0 rfl) ?_
  refine gf_X7_82 (i := 0) X V rfl dX7_isBetter_19 ?_
  refine lv_aload_n X.1 X.2.1 dX7_isBetter_22 rfl (lv_at hl 0 rfl) ?_
  refine gf_X7_85 (i := 0) X V rfl dX7_isBetter_23 ?_
  refine lv_lsub X.1 X.2.1 dX7_isBetter_26 ?_
  refine lv_aload_n X.1 X.2.1 dX7_isBetter_27 rfl (lv_at hl 0 rfl) ?_
  refine gf_X7_7 (i := 0) X V rfl dX7_isBetter_28 ?_
  refine lv_aload_n X.1 X.2.1 dX7_isBetter_31 rfl (lv_at hl 0 rfl) ?_
  refine gf_X7_7 (i := 0) X V rfl dX7_isBetter_32 ?_
  refine lv_lmul X.1 X.2.1 dX7_isBetter_35 ?_
  obtain ⟨x5, hx5, h⟩ := kb_of h
  refine s_callSi (segs' := [gX7 g aT zT]) X V (c_X3_compare l D g (zT.2.2.2.2.2.2.2.2.2 - zT.2.2.2.2.2.2.2.2.1) (zT.2.2.2.2.2.1 * zT.2.2.2.2.2.1) (zT.2.2.2.2.1 - zT.2.2.2.1) (zT.1 * zT.1) x5 hx5) w_X7_88 ⟨Nat.le_of_ble_eq_true rfl, Nat.le_of_ble_eq_true rfl⟩ ⟨Nat.zero_le _, Nat.zero_le _⟩ rfl [] rfl rfl (kFst_refl _) rfl rfl hl.1 (Nat.le_of_ble_eq_true rfl) dX7_isBetter_36 (fun H locs V => ?_)
  refine lv_istore_n (lv' := [(1, .int x5), (0, .ref (aT 0))]) X.1 X.2.1 dX7_isBetter_39 rfl hl (by decide) rfl (fun ls hl => ?_)
  refine lv_iload_n X.1 X.2.1 dX7_isBetter_40 rfl (lv_at hl 0 rfl) ?_
  refine lv_if_ne (tgt := 64) X.1 X.2.1 dX7_isBetter_41 (by decide) (fun hc => ?_) (fun hc => ?_)
  · replace h := kif_f hc h
    exact J64 x5 _ _ _ h V (lv_sub hl [1, 0] rfl)
  · replace h := kif_t hc h
    refine lv_aload_n X.1 X.2.1 dX7_isBetter_44 rfl (lv_at hl 1 rfl) ?_
    refine gf_X7_60 (i := 0) X V rfl dX7_isBetter_45 ?_
    refine lv_aload_n X.1 X.2.1 dX7_isBetter_48 rfl (lv_at hl 1 rfl) ?_
    refine gf_X7_57 (i := 0) X V rfl dX7_isBetter_49 ?_
    refine lv_aload_n X.1 X.2.1 dX7_isBetter_52 rfl (lv_at hl 1 rfl) ?_
    refine gf_X7_94 (i := 0) X V rfl dX7_isBetter_53 ?_
    refine lv_aload_n X.1 X.2.1 dX7_isBetter_56 rfl (lv_at hl 1 rfl) ?_
    refine gf_X7_7 (i := 0) X V rfl dX7_isBetter_57 ?_
    obtain ⟨x6, hx6, h⟩ := kb_of h
    refine s_callSi (segs' := [gX7 g aT zT]) X V (c_X3_compare l D g zT.2.2.2.2.2.2.1 zT.2.2.2.2.2.1 zT.2.1 zT.1 x6 hx6) w_X7_88 ⟨Nat.le_of_ble_eq_true rfl, Nat.le_of_ble_eq_true rfl⟩ ⟨Nat.zero_le _, Nat.zero_le _⟩ rfl [] rfl rfl (kFst_refl _) rfl rfl hl.1 (Nat.le_of_ble_eq_true rfl) dX7_isBetter_60 (fun H locs V => ?_)
    refine lv_istore_n (lv' := [(1, .int x6), (0, .ref (aT 0))]) X.1 X.2.1 dX7_isBetter_63 rfl hl (by decide) rfl (fun ls hl => ?_)
    exact J64 x6 _ _ _ h V (lv_sub hl [1, 0] rfl)

def p_X7_keepTried (zT : tX7) : Option (tX7) :=
  kl (zT.2.2.2.2.2.1, zT.2) (fun z1 => kl (z1.1, z1.2.2.2.2.2.2.1, z1.2.2) (fun z2 => kl (z2.1, z2.2.1, z2.2.2.2.2.2.2.2.1, z2.2.2.2) (fun z3 => kl (z3.1, z3.2.1, z3.2.2.1, z3.2.2.2.2.2.2.2.2.1, z3.2.2.2.2) (fun z4 => kl (z4.1, z4.2.1, z4.2.2.1, z4.2.2.2.1, z4.2.2.2.2.2.2.2.2.2, z4.2.2.2.2.2) (fun z5 => some z5)))))
set_option maxHeartbeats 4000000 in
set_option maxRecDepth 100000 in
theorem c_X7_keepTried (l : Launch) (D : va_G) (g : kG) (aT : Nat → Nat) (zT : tX7) (r : tX7) (h : p_X7_keepTried zT = some r) : kMv l yX7_keepTried cX7_keepTried 1 none (kR 0 0) D (kty g) [.ref (aT 0)] (List.flatten [gX7 g aT zT]) (List.flatten [gX7 g aT r]) := by
  intro sz
  refine k_enter (lv := [(0, .ref (aT 0))]) RX7 (by decide +kernel) rfl rfl (Nat.le_of_ble_eq_true rfl) ?_
  intro p en s m args below meth c ls hsz X V hl
  obtain ⟨QQ, hQQ⟩ : ∃ q, q = MQ below (va_Qv (fun (_ : Unit) => True) (fun _ => kE D (List.flatten [gX7 g aT r])) (va_A (List.flatten [gX7 g aT zT]) sz)) args s 0 0 (va_A (List.flatten [gX7 g aT zT]) sz) := ⟨_, rfl⟩
  rw [← hQQ]
  obtain ⟨AA, hAA⟩ : ∃ q, q = va_A (List.flatten [gX7 g aT zT]) sz := ⟨_, rfl⟩
  rw [← hAA] at V
  unfold p_X7_keepTried at h
  refine lv_aload_n X.1 X.2.1 dX7_keepTried_0 rfl (lv_at hl 0 rfl) ?_
  refine lv_aload_n X.1 X.2.1 dX7_keepTried_1 rfl (lv_at hl 0 rfl) ?_
  refine gf_X7_57 (i := 0) X V rfl dX7_keepTried_2 ?_
  refine pf_X7_7 (i := 0) X V rfl dX7_keepTried_5 (fun H locs V => ?_)
  obtain ⟨z6, ez6⟩ : ∃ y, y = (zT.2.2.2.2.2.1, zT.2) := ⟨_, rfl⟩
  replace h := kl_of ez6 h
  have V : kW D AA s.heap H (List.flatten [gX7 g aT z6]) locs := by rw [ez6]; exact V
  refine lv_aload_n X.1 X.2.1 dX7_keepTried_8 rfl (lv_at hl 0 rfl) ?_
  refine lv_aload_n X.1 X.2.1 dX7_keepTried_9 rfl (lv_at hl 0 rfl) ?_
  refine gf_X7_60 (i := 0) X V rfl dX7_keepTried_10 ?_
  refine pf_X7_94 (i := 0) X V rfl dX7_keepTried_13 (fun H locs V => ?_)
  obtain ⟨z7, ez7⟩ : ∃ y, y = (z6.1, z6.2.2.2.2.2.2.1, z6.2.2) := ⟨_, rfl⟩
  replace h := kl_of ez7 h
  have V : kW D AA s.heap H (List.flatten [gX7 g aT z7]) locs := by rw [ez7]; exact V
  refine lv_aload_n X.1 X.2.1 dX7_keepTried_16 rfl (lv_at hl 0 rfl) ?_
  refine lv_aload_n X.1 X.2.1 dX7_keepTried_17 rfl (lv_at hl 0 rfl) ?_
  refine gf_X7_63 (i := 0) X V rfl dX7_keepTried_18 ?_
  refine pf_X7_96 (i := 0) X V rfl dX7_keepTried_21 (fun H locs V => ?_)
  obtain ⟨z8, ez8⟩ : ∃ y, y = (z7.1, z7.2.1, z7.2.2.2.2.2.2.2.1, z7.2.2.2) := ⟨_, rfl⟩
  replace h := kl_of ez8 h
  have V : kW D AA s.heap H (List.flatten [gX7 g aT z8]) locs := by rw [ez8]; exact V
  refine lv_aload_n X.1 X.2.1 dX7_keepTried_24 rfl (lv_at hl 0 rfl) ?_
  refine lv_aload_n X.1 X.2.1 dX7_keepTried_25 rfl (lv_at hl 0 rfl) ?_
  refine gf_X7_67 (i := 0) X V rfl dX7_keepTried_26 ?_
  refine pf_X7_85 (i := 0) X V rfl dX7_keepTried_29 (fun H locs V => ?_)
  obtain ⟨z9, ez9⟩ : ∃ y, y = (z8.1, z8.2.1, z8.2.2.1, z8.2.2.2.2.2.2.2.2.1, z8.2.2.2.2) := ⟨_, rfl⟩
  replace h := kl_of ez9 h
  have V : kW D AA s.heap H (List.flatten [gX7 g aT z9]) locs := by rw [ez9]; exact V
  refine lv_aload_n X.1 X.2.1 dX7_keepTried_32 rfl (lv_at hl 0 rfl) ?_
  refine lv_aload_n X.1 X.2.1 dX7_keepTried_33 rfl (lv_at hl 0 rfl) ?_
  refine gf_X7_76 (i := 0) X V rfl dX7_keepTried_34 ?_
  refine pf_X7_82 (i := 0) X V rfl dX7_keepTried_37 (fun H locs V => ?_)
  obtain ⟨z10, ez10⟩ : ∃ y, y = (z9.1, z9.2.1, z9.2.2.1, z9.2.2.2.1, z9.2.2.2.2.2.2.2.2.2, z9.2.2.2.2.2) := ⟨_, rfl⟩
  replace h := kl_of ez10 h
  have V : kW D AA s.heap H (List.flatten [gX7 g aT z10]) locs := by rw [ez10]; exact V
  obtain rfl := Option.some.inj h
  rw [hAA] at V
  rw [hQQ]
  exact k_vret X V dX7_keepTried_40

def p_X7_about_J60_18 (zP1 : tX8) (zP2 : tX1) (zT : tX7) (v3 : Int32) (v4 : Int32) : Option (Nat × (Int32 × tX7)) :=
  kb (p_X7_keepTried zT) (fun x6 => kl (v4 + (1 : Int32)) (fun y7 => some (18, (y7, x6))))
def p_X7_about_L18 (zP1 : tX8) (zP2 : tX1) (v3 : Int32) (s : Int32 × tX7) : Option (Nat × (Int32 × tX7)) :=
  kif (v3 ≤ s.1) (some (70, (s.1, s.2))) (kb (p_X7_cross s.2 zP1 zP2 v3 s.1) (fun x3 => kif ((kz x3.1) = 0) (kl (s.1 + (1 : Int32)) (fun y4 => some (18, (y4, x3.2)))) (kb (p_X7_measure x3.2 zP1) (fun x5 => kif ((lg_cmp x5.1 (0 : Int64)) = 0) (p_X7_about_J60_18 zP1 zP2 x5 v3 s.1) (kb (p_X7_isBetter x5) (fun x8 => kif ((kz x8) = 0) (kl (s.1 + (1 : Int32)) (fun y9 => some (18, (y9, x5)))) (p_X7_about_J60_18 zP1 zP2 x5 v3 s.1)))))))
def p_X7_about_L7 (zP1 : tX8) (zP2 : tX1) (s : Int32 × tX7) : Option (Nat × (Int32 × tX7)) :=
  kb (p_X1_count zP2) (fun x2 => kif (x2 ≤ s.1) (some (76, (s.1, s.2))) (kb (kitr 18 (fun q => p_X7_about_L18 zP1 zP2 s.1 q) kF ((0 : Int32), s.2)) (fun x10 => kg (x10.1 = 70) (kl (s.1 + (1 : Int32)) (fun y11 => some (7, (y11, x10.2.2)))))))
def p_X7_about (zT : tX7) (zP1 : tX8) (zP2 : tX1) : Option (tX7) :=
  kl ((0 : Int64), zT.2) (fun z1 => kb (kitr 7 (fun q => p_X7_about_L7 zP1 zP2 q) kF ((0 : Int32), z1)) (fun x12 => kg (x12.1 = 76) (some x12.2.2)))
set_option maxHeartbeats 4000000 in
set_option maxRecDepth 100000 in
theorem c_X7_about (l : Launch) (D : va_G) (g : kG) (aT : Nat → Nat) (aP1 : Nat → Nat) (aP2 : Nat → Nat) (zT : tX7) (zP1 : tX8) (zP2 : tX1) (r : tX7) (h : p_X7_about zT zP1 zP2 = some r) : kMv l yX7_about cX7_about 5 none (kR 3 90) D (kty g) [.ref (aT 0), .ref (aP1 0), .ref (aP2 0)] (List.flatten [gX7 g aT zT, gX8 g aP1 zP1, gX1 g aP2 zP2]) (List.flatten [gX7 g aT r, gX8 g aP1 zP1, gX1 g aP2 zP2]) := by
  intro sz
  refine k_enter (lv := [(0, .ref (aT 0)), (1, .ref (aP1 0)), (2, .ref (aP2 0))]) RX7 (by decide +kernel) rfl rfl (Nat.le_of_ble_eq_true rfl) ?_
  intro p en s m args below meth c ls hsz X V hl
  obtain ⟨QQ, hQQ⟩ : ∃ q, q = MQ below (va_Qv (fun (_ : Unit) => True) (fun _ => kE D (List.flatten [gX7 g aT r, gX8 g aP1 zP1, gX1 g aP2 zP2])) (va_A (List.flatten [gX7 g aT zT, gX8 g aP1 zP1, gX1 g aP2 zP2]) sz)) args s 0 0 (va_A (List.flatten [gX7 g aT zT, gX8 g aP1 zP1, gX1 g aP2 zP2]) sz) := ⟨_, rfl⟩
  rw [← hQQ]
  obtain ⟨AA, hAA⟩ : ∃ q, q = va_A (List.flatten [gX7 g aT zT, gX8 g aP1 zP1, gX1 g aP2 zP2]) sz := ⟨_, rfl⟩
  rw [← hAA] at V
  unfold p_X7_about at h
  refine lv_aload_n X.1 X.2.1 dX7_about_0 rfl (lv_at hl 0 rfl) ?_
  refine lv_lconst (v := (0 : Int64)) X.1 X.2.1 dX7_about_1 (by decide) ?_
  refine pf_X7_7 (i := 0) X V rfl dX7_about_2 (fun H locs V => ?_)
  obtain ⟨z13, ez13⟩ : ∃ y, y = ((0 : Int64), zT.2) := ⟨_, rfl⟩
  replace h := kl_of ez13 h
  have V : kW D AA s.heap H (List.flatten [gX7 g aT z13, gX8 g aP1 zP1, gX1 g aP2 zP2]) locs := by rw [ez13]; exact V
  refine lv_iconst (v := (0 : Int32)) X.1 X.2.1 dX7_about_5 (by decide) ?_
  refine lv_istore_n (lv' := [(3, .int (0 : Int32)), (0, .ref (aT 0)), (1, .ref (aP1 0)), (2, .ref (aP2 0))]) X.1 X.2.1 dX7_about_6 rfl hl (by decide) rfl (fun ls hl => ?_)
  obtain ⟨x14, hx14, h⟩ := kb_of h
  refine (kitr_go (hd := 7) (body := fun q => p_X7_about_L7 zP1 zP2 q) (G := (fun e => ∀ (H : Heap) (locs : List Loc) (ls : Array Slot), kW D AA s.heap H (List.flatten [gX7 g aT e.2.2, gX8 g aP1 zP1, gX1 g aP2 zP2]) locs → lv_has ls 5 [(0, .ref (aT 0)), (1, .ref (aP1 0)), (2, .ref (aP2 0)), (3, .int e.2.1)] → W p l en (kR 3 90) s m args below meth c H locs 0 0 QQ (F0 m e.1 ls []))) (fun s15 e16 hb17 hG18 => ?_) kF _ x14 hx14 ?_) _ _ _ V (lv_sub hl [1, 2, 3, 0] rfl)
  · intro H locs ls V hl
    show W p l en (kR 3 90) s m args below meth c H locs 0 0 QQ (F0 m 7 ls [])
    have h : p_X7_about_L7 zP1 zP2 s15 = some e16 := hb17
    unfold p_X7_about_L7 at h
    have V : kW D AA s.heap H (List.flatten [gX7 g aT s15.2, gX8 g aP1 zP1, gX1 g aP2 zP2]) locs := V
    have hl : lv_has ls 5 [(0, .ref (aT 0)), (1, .ref (aP1 0)), (2, .ref (aP2 0)), (3, .int s15.1)] := hl
    refine lv_iload_n X.1 X.2.1 dX7_about_7 rfl (lv_at hl 3 rfl) ?_
    refine lv_aload_n X.1 X.2.1 dX7_about_8 rfl (lv_at hl 2 rfl) ?_
    obtain ⟨x19, hx19, h⟩ := kb_of h
    refine s_callVi (segs' := [gX7 g aT s15.2, gX8 g aP1 zP1, gX1 g aP2 zP2]) (ci := 1) (i0 := 0) X V (c_X1_count l D g aP2 zP2 x19 hx19) w_X7_13 ⟨Nat.le_of_ble_eq_true rfl, Nat.le_of_ble_eq_true rfl⟩ ⟨Nat.zero_le _, Nat.zero_le _⟩ rfl rfl rfl rfl [2] rfl rfl (kFst_refl _) rfl rfl hl.1 (Nat.le_of_ble_eq_true rfl) dX7_about_9 (fun H locs V => ?_)
    refine lv_icmp_ge (tgt := 76) X.1 X.2.1 dX7_about_12 (by decide) (fun hc => ?_) (fun hc => ?_)
    · replace h := kif_t hc h
      obtain rfl := Option.some.inj h
      exact hG18 _ _ _ V (lv_sub hl [0, 1, 2, 3] rfl)
    · replace h := kif_f hc h
      refine lv_iconst (v := (0 : Int32)) X.1 X.2.1 dX7_about_15 (by decide) ?_
      refine lv_istore (lv' := [(4, .int (0 : Int32)), (0, .ref (aT 0)), (1, .ref (aP1 0)), (2, .ref (aP2 0)), (3, .int s15.1)]) X.1 X.2.1 dX7_about_16 hl (by decide) rfl (fun ls hl => ?_)
      obtain ⟨x20, hx20, h⟩ := kb_of h
      refine (kitr_go (hd := 18) (body := fun q => p_X7_about_L18 zP1 zP2 s15.1 q) (G := (fun e => ∀ (H : Heap) (locs : List Loc) (ls : Array Slot), kW D AA s.heap H (List.flatten [gX7 g aT e.2.2, gX8 g aP1 zP1, gX1 g aP2 zP2]) locs → lv_has ls 5 [(0, .ref (aT 0)), (1, .ref (aP1 0)), (2, .ref (aP2 0)), (3, .int s15.1), (4, .int e.2.1)] → W p l en (kR 3 90) s m args below meth c H locs 0 0 QQ (F0 m e.1 ls []))) (fun s21 e22 hb23 hG24 => ?_) kF _ x20 hx20 ?_) _ _ _ V (lv_sub hl [1, 2, 3, 4, 0] rfl)
      · intro H locs ls V hl
        show W p l en (kR 3 90) s m args below meth c H locs 0 0 QQ (F0 m 18 ls [])
        have h : p_X7_about_L18 zP1 zP2 s15.1 s21 = some e22 := hb23
        unfold p_X7_about_L18 at h
        have V : kW D AA s.heap H (List.flatten [gX7 g aT s21.2, gX8 g aP1 zP1, gX1 g aP2 zP2]) locs := V
        have hl : lv_has ls 5 [(0, .ref (aT 0)), (1, .ref (aP1 0)), (2, .ref (aP2 0)), (3, .int s15.1), (4, .int s21.1)] := hl
        have J60 : ∀ (zT : tX7) (v4 : Int32) (H : Heap) (locs : List Loc) (ls : Array Slot), p_X7_about_J60_18 zP1 zP2 zT s15.1 v4 = some e22 → kW D AA s.heap H (List.flatten [gX7 g aT zT, gX8 g aP1 zP1, gX1 g aP2 zP2]) locs → lv_has ls 5 [(0, .ref (aT 0)), (1, .ref (aP1 0)), (2, .ref (aP2 0)), (3, .int s15.1), (4, .int v4)] → W p l en (kR 3 90) s m args below meth c H locs 0 0 QQ (F0 m 60 ls []) := by
          intro zT v4 H locs ls h V hl
          unfold p_X7_about_J60_18 at h
          refine lv_aload_n X.1 X.2.1 dX7_about_60 rfl (lv_at hl 0 rfl) ?_
          obtain ⟨x25, hx25, h⟩ := kb_of h
          refine s_callVv (segs' := [gX7 g aT x25, gX8 g aP1 zP1, gX1 g aP2 zP2]) (ci := 7) (i0 := 0) X V (c_X7_keepTried l D g aT zT x25 hx25) w_X7_31 ⟨Nat.le_of_ble_eq_true rfl, Nat.le_of_ble_eq_true rfl⟩ ⟨Nat.zero_le _, Nat.zero_le _⟩ rfl rfl rfl rfl [0] rfl rfl ⟨gX7_fst, trivial⟩ rfl rfl hl.1 (Nat.le_of_ble_eq_true rfl) dX7_about_61 (fun H locs V => ?_)
          obtain ⟨y26, ey26⟩ : ∃ y : Int32, y = (v4 + (1 : Int32)) := ⟨_, rfl⟩
          replace h := kl_of ey26 h
          refine lv_iinc (v := y26) (lv' := [(4, .int y26), (0, .ref (aT 0)), (1, .ref (aP1 0)), (2, .ref (aP2 0)), (3, .int s15.1)]) X.1 X.2.1 dX7_about_64 hl (k := 4) rfl (by rw [ey26]; rfl) (by decide) rfl (fun ls hl => ?_)
          refine lv_goto (tgt := 18) X.1 X.2.1 dX7_about_67 (by decide) ?_
          obtain rfl := Option.some.inj h
          exact hG24 _ _ _ V (lv_sub hl [1, 2, 3, 4, 0] rfl)
        refine lv_iload X.1 X.2.1 dX7_about_18 (lv_at hl 4 rfl) ?_
        refine lv_iload_n X.1 X.2.1 dX7_about_20 rfl (lv_at hl 3 rfl) ?_
        refine lv_icmp_ge (tgt := 70) X.1 X.2.1 dX7_about_21 (by decide) (fun hc => ?_) (fun hc => ?_)
        · replace h := kif_t hc h
          obtain rfl := Option.some.inj h
          exact hG24 _ _ _ V (lv_sub hl [0, 1, 2, 3, 4] rfl)
        · replace h := kif_f hc h
          refine lv_aload_n X.1 X.2.1 dX7_about_24 rfl (lv_at hl 0 rfl) ?_
          refine lv_aload_n X.1 X.2.1 dX7_about_25 rfl (lv_at hl 1 rfl) ?_
          refine lv_aload_n X.1 X.2.1 dX7_about_26 rfl (lv_at hl 2 rfl) ?_
          refine lv_iload_n X.1 X.2.1 dX7_about_27 rfl (lv_at hl 3 rfl) ?_
          refine lv_iload X.1 X.2.1 dX7_about_28 (lv_at hl 4 rfl) ?_
          obtain ⟨x27, hx27, h⟩ := kb_of h
          refine s_callVi (segs' := [gX7 g aT x27.2, gX8 g aP1 zP1, gX1 g aP2 zP2]) (ci := 7) (i0 := 0) X V (c_X7_cross l D g aT aP1 aP2 s21.2 zP1 zP2 s15.1 s21.1 x27 hx27) w_X7_19 ⟨Nat.le_of_ble_eq_true rfl, Nat.le_of_ble_eq_true rfl⟩ ⟨Nat.zero_le _, Nat.zero_le _⟩ rfl rfl rfl rfl [0, 1, 2] rfl rfl ⟨gX7_fst, rfl, rfl, trivial⟩ rfl rfl hl.1 (Nat.le_of_ble_eq_true rfl) dX7_about_30 (fun H locs V => ?_)
          refine lv_if_ne (tgt := 39) X.1 X.2.1 dX7_about_33 (by decide) (fun hc => ?_) (fun hc => ?_)
          · replace h := kif_f hc h
            refine lv_aload_n X.1 X.2.1 dX7_about_39 rfl (lv_at hl 0 rfl) ?_
            refine lv_aload_n X.1 X.2.1 dX7_about_40 rfl (lv_at hl 1 rfl) ?_
            obtain ⟨x28, hx28, h⟩ := kb_of h
            refine s_callVv (segs' := [gX7 g aT x28, gX8 g aP1 zP1, gX1 g aP2 zP2]) (ci := 7) (i0 := 0) X V (c_X7_measure l D g aT aP1 x27.2 zP1 x28 hx28) w_X7_23 ⟨Nat.le_of_ble_eq_true rfl, Nat.le_of_ble_eq_true rfl⟩ ⟨Nat.zero_le _, Nat.zero_le _⟩ rfl rfl rfl rfl [0, 1] rfl rfl ⟨gX7_fst, rfl, trivial⟩ rfl rfl hl.1 (Nat.le_of_ble_eq_true rfl) dX7_about_41 (fun H locs V => ?_)
            refine lv_aload_n X.1 X.2.1 dX7_about_44 rfl (lv_at hl 0 rfl) ?_
            refine gf_X7_7 (i := 0) X V rfl dX7_about_45 ?_
            refine lv_lconst (v := (0 : Int64)) X.1 X.2.1 dX7_about_48 (by decide) ?_
            refine W.lcmp X.1 X.2.1 dX7_about_49 ?_
            refine lv_if_eq (tgt := 60) X.1 X.2.1 dX7_about_50 (by decide) (fun hc => ?_) (fun hc => ?_)
            · replace h := kif_t hc h
              exact J60 x28 s21.1 _ _ _ h V (lv_sub hl [0, 1, 2, 3, 4] rfl)
            · replace h := kif_f hc h
              refine lv_aload_n X.1 X.2.1 dX7_about_53 rfl (lv_at hl 0 rfl) ?_
              obtain ⟨x29, hx29, h⟩ := kb_of h
              refine s_callVi (segs' := [gX7 g aT x28, gX8 g aP1 zP1, gX1 g aP2 zP2]) (ci := 7) (i0 := 0) X V (c_X7_isBetter l D g aT x28 x29 hx29) w_X7_27 ⟨Nat.le_of_ble_eq_true rfl, Nat.le_of_ble_eq_true rfl⟩ ⟨Nat.zero_le _, Nat.zero_le _⟩ rfl rfl rfl rfl [0] rfl rfl (kFst_refl _) rfl rfl hl.1 (Nat.le_of_ble_eq_true rfl) dX7_about_54 (fun H locs V => ?_)
              refine lv_if_eq (tgt := 64) X.1 X.2.1 dX7_about_57 (by decide) (fun hc => ?_) (fun hc => ?_)
              · replace h := kif_t hc h
                obtain ⟨y30, ey30⟩ : ∃ y : Int32, y = (s21.1 + (1 : Int32)) := ⟨_, rfl⟩
                replace h := kl_of ey30 h
                refine lv_iinc (v := y30) (lv' := [(4, .int y30), (0, .ref (aT 0)), (1, .ref (aP1 0)), (2, .ref (aP2 0)), (3, .int s15.1)]) X.1 X.2.1 dX7_about_64 hl (k := 4) rfl (by rw [ey30]; rfl) (by decide) rfl (fun ls hl => ?_)
                refine lv_goto (tgt := 18) X.1 X.2.1 dX7_about_67 (by decide) ?_
                obtain rfl := Option.some.inj h
                exact hG24 _ _ _ V (lv_sub hl [1, 2, 3, 4, 0] rfl)
              · replace h := kif_f hc h
                exact J60 x28 s21.1 _ _ _ h V (lv_sub hl [0, 1, 2, 3, 4] rfl)
          · replace h := kif_t hc h
            refine lv_goto (tgt := 64) X.1 X.2.1 dX7_about_36 (by decide) ?_
            obtain ⟨y31, ey31⟩ : ∃ y : Int32, y = (s21.1 + (1 : Int32)) := ⟨_, rfl⟩
            replace h := kl_of ey31 h
            refine lv_iinc (v := y31) (lv' := [(4, .int y31), (0, .ref (aT 0)), (1, .ref (aP1 0)), (2, .ref (aP2 0)), (3, .int s15.1)]) X.1 X.2.1 dX7_about_64 hl (k := 4) rfl (by rw [ey31]; rfl) (by decide) rfl (fun ls hl => ?_)
            refine lv_goto (tgt := 18) X.1 X.2.1 dX7_about_67 (by decide) ?_
            obtain rfl := Option.some.inj h
            exact hG24 _ _ _ V (lv_sub hl [1, 2, 3, 4, 0] rfl)
      · intro H locs ls V hl
        have V : kW D AA s.heap H (List.flatten [gX7 g aT x20.2.2, gX8 g aP1 zP1, gX1 g aP2 zP2]) locs := V
        have hl : lv_has ls 5 [(0, .ref (aT 0)), (1, .ref (aP1 0)), (2, .ref (aP2 0)), (3, .int s15.1), (4, .int x20.2.1)] := hl
        obtain ⟨hc, h⟩ := kg_of h
        refine W.eq (g2 := F0 m 70 ls []) (by rw [hc]) ?_
        obtain ⟨y32, ey32⟩ : ∃ y : Int32, y = (s15.1 + (1 : Int32)) := ⟨_, rfl⟩
        replace h := kl_of ey32 h
        refine lv_iinc (v := y32) (lv' := [(3, .int y32), (0, .ref (aT 0)), (1, .ref (aP1 0)), (2, .ref (aP2 0)), (4, .int x20.2.1)]) X.1 X.2.1 dX7_about_70 hl (k := 3) rfl (by rw [ey32]; rfl) (by decide) rfl (fun ls hl => ?_)
        refine lv_goto (tgt := 7) X.1 X.2.1 dX7_about_73 (by decide) ?_
        obtain rfl := Option.some.inj h
        exact hG18 _ _ _ V (lv_sub hl [1, 2, 3, 0] rfl)
  · intro H locs ls V hl
    have V : kW D AA s.heap H (List.flatten [gX7 g aT x14.2.2, gX8 g aP1 zP1, gX1 g aP2 zP2]) locs := V
    have hl : lv_has ls 5 [(0, .ref (aT 0)), (1, .ref (aP1 0)), (2, .ref (aP2 0)), (3, .int x14.2.1)] := hl
    obtain ⟨hc, h⟩ := kg_of h
    refine W.eq (g2 := F0 m 76 ls []) (by rw [hc]) ?_
    obtain rfl := Option.some.inj h
    rw [hAA] at V
    rw [hQQ]
    exact k_vret X V dX7_about_76

def p_X7_tell_J96 (zT : tX7) (v1 : Int32) (zP2 : tX3) (k96_1 : Int64) : Option (tX3) :=
  kb (p_X3_set zP2 k96_1 zT.1) (fun x4 => some x4)
def p_X7_tell (zT : tX7) (zP2 : tX3) (v1 : Int32) : Option (tX3) :=
  kif (v1 = 0) (kb (p_X3_set zP2 (zT.2.2.2.2.1 - zT.2.2.2.1) (zT.1 * zT.1)) (fun x1 => some x1)) (kif (v1 = (1 : Int32)) (kb (p_X3_set zP2 zT.2.2.2.1 (zT.1 * zT.1)) (fun x2 => some x2)) (kif (v1 = (2 : Int32)) (kb (p_X3_set zP2 zT.2.2.2.2.1 (zT.1 * zT.1)) (fun x3 => some x3)) (kif (v1 = (3 : Int32)) (p_X7_tell_J96 zT v1 zP2 zT.2.1) (p_X7_tell_J96 zT v1 zP2 zT.2.2.1))))
set_option maxHeartbeats 4000000 in
set_option maxRecDepth 100000 in
theorem c_X7_tell (l : Launch) (D : va_G) (g : kG) (aT : Nat → Nat) (aP2 : Nat → Nat) (zT : tX7) (zP2 : tX3) (v1 : Int32) (r : tX3) (h : p_X7_tell zT zP2 v1 = some r) : kMv l yX7_tell cX7_tell 3 none (kR 3 78) D (kty g) [.ref (aT 0), .int v1, .ref (aP2 0)] (List.flatten [gX7 g aT zT, gX3 g aP2 zP2]) (List.flatten [gX7 g aT zT, gX3 g aP2 r]) := by
  intro sz
  refine k_enter (lv := [(0, .ref (aT 0)), (1, .int v1), (2, .ref (aP2 0))]) RX7 (by decide +kernel) rfl rfl (Nat.le_of_ble_eq_true rfl) ?_
  intro p en s m args below meth c ls hsz X V hl
  obtain ⟨QQ, hQQ⟩ : ∃ q, q = MQ below (va_Qv (fun (_ : Unit) => True) (fun _ => kE D (List.flatten [gX7 g aT zT, gX3 g aP2 r])) (va_A (List.flatten [gX7 g aT zT, gX3 g aP2 zP2]) sz)) args s 0 0 (va_A (List.flatten [gX7 g aT zT, gX3 g aP2 zP2]) sz) := ⟨_, rfl⟩
  rw [← hQQ]
  obtain ⟨AA, hAA⟩ : ∃ q, q = va_A (List.flatten [gX7 g aT zT, gX3 g aP2 zP2]) sz := ⟨_, rfl⟩
  rw [← hAA] at V
  have J96 : ∀ (zP2 : tX3) (k96_1 : Int64) (H : Heap) (locs : List Loc) (ls : Array Slot), p_X7_tell_J96 zT v1 zP2 k96_1 = some r → kW D AA s.heap H (List.flatten [gX7 g aT zT, gX3 g aP2 zP2]) locs → lv_has ls 3 [(0, .ref (aT 0))] → W p l en (kR 3 78) s m args below meth c H locs 0 0 QQ (F0 m 96 ls [.long k96_1, .ref (aP2 0)]) := by
    intro zP2 k96_1 H locs ls h V hl
    unfold p_X7_tell_J96 at h
    refine lv_aload_n X.1 X.2.1 dX7_tell_96 rfl (lv_at hl 0 rfl) ?_
    refine gf_X7_7 (i := 0) X V rfl dX7_tell_97 ?_
    obtain ⟨x5, hx5, h⟩ := kb_of h
    refine s_callVv (segs' := [gX7 g aT zT, gX3 g aP2 x5]) (ci := 3) (i0 := 0) X V (c_X3_set l D g aP2 zP2 k96_1 zT.1 x5 hx5) w_X7_98 ⟨Nat.le_of_ble_eq_true rfl, Nat.le_of_ble_eq_true rfl⟩ ⟨Nat.zero_le _, Nat.zero_le _⟩ rfl rfl rfl rfl [1] rfl rfl ⟨gX3_fst, trivial⟩ rfl rfl hl.1 (Nat.le_of_ble_eq_true rfl) dX7_tell_100 (fun H locs V => ?_)
    obtain rfl := Option.some.inj h
    rw [hAA] at V
    rw [hQQ]
    exact k_vret X V dX7_tell_103
  unfold p_X7_tell at h
  refine lv_iload_n X.1 X.2.1 dX7_tell_0 rfl (lv_at hl 1 rfl) ?_
  refine lv_if_ne (tgt := 29) X.1 X.2.1 dX7_tell_1 (by decide) (fun hc => ?_) (fun hc => ?_)
  · replace h := kif_f hc h
    refine lv_iload_n X.1 X.2.1 dX7_tell_29 rfl (lv_at hl 1 rfl) ?_
    refine lv_iconst (v := (1 : Int32)) X.1 X.2.1 dX7_tell_30 (by decide) ?_
    refine lv_icmp_ne (tgt := 54) X.1 X.2.1 dX7_tell_31 (by decide) (fun hc => ?_) (fun hc => ?_)
    · replace h := kif_f hc h
      refine lv_iload_n X.1 X.2.1 dX7_tell_54 rfl (lv_at hl 1 rfl) ?_
      refine lv_iconst (v := (2 : Int32)) X.1 X.2.1 dX7_tell_55 (by decide) ?_
      refine lv_icmp_ne (tgt := 79) X.1 X.2.1 dX7_tell_56 (by decide) (fun hc => ?_) (fun hc => ?_)
      · replace h := kif_f hc h
        refine lv_aload_n X.1 X.2.1 dX7_tell_79 rfl (lv_at hl 2 rfl) ?_
        refine lv_iload_n X.1 X.2.1 dX7_tell_80 rfl (lv_at hl 1 rfl) ?_
        refine lv_iconst (v := (3 : Int32)) X.1 X.2.1 dX7_tell_81 (by decide) ?_
        refine lv_icmp_ne (tgt := 92) X.1 X.2.1 dX7_tell_82 (by decide) (fun hc => ?_) (fun hc => ?_)
        · replace h := kif_f hc h
          refine lv_aload_n X.1 X.2.1 dX7_tell_92 rfl (lv_at hl 0 rfl) ?_
          refine gf_X7_96 (i := 0) X V rfl dX7_tell_93 ?_
          exact J96 zP2 zT.2.2.1 _ _ _ h V (lv_sub hl [0] rfl)
        · replace h := kif_t hc h
          refine lv_aload_n X.1 X.2.1 dX7_tell_85 rfl (lv_at hl 0 rfl) ?_
          refine gf_X7_94 (i := 0) X V rfl dX7_tell_86 ?_
          refine lv_goto (tgt := 96) X.1 X.2.1 dX7_tell_89 (by decide) ?_
          exact J96 zP2 zT.2.1 _ _ _ h V (lv_sub hl [0] rfl)
      · replace h := kif_t hc h
        refine lv_aload_n X.1 X.2.1 dX7_tell_59 rfl (lv_at hl 2 rfl) ?_
        refine lv_aload_n X.1 X.2.1 dX7_tell_60 rfl (lv_at hl 0 rfl) ?_
        refine gf_X7_82 (i := 0) X V rfl dX7_tell_61 ?_
        refine lv_aload_n X.1 X.2.1 dX7_tell_64 rfl (lv_at hl 0 rfl) ?_
        refine gf_X7_7 (i := 0) X V rfl dX7_tell_65 ?_
        refine lv_aload_n X.1 X.2.1 dX7_tell_68 rfl (lv_at hl 0 rfl) ?_
        refine gf_X7_7 (i := 0) X V rfl dX7_tell_69 ?_
        refine lv_lmul X.1 X.2.1 dX7_tell_72 ?_
        obtain ⟨x6, hx6, h⟩ := kb_of h
        refine s_callVv (segs' := [gX7 g aT zT, gX3 g aP2 x6]) (ci := 3) (i0 := 0) X V (c_X3_set l D g aP2 zP2 zT.2.2.2.2.1 (zT.1 * zT.1) x6 hx6) w_X7_98 ⟨Nat.le_of_ble_eq_true rfl, Nat.le_of_ble_eq_true rfl⟩ ⟨Nat.zero_le _, Nat.zero_le _⟩ rfl rfl rfl rfl [1] rfl rfl ⟨gX3_fst, trivial⟩ rfl rfl hl.1 (Nat.le_of_ble_eq_true rfl) dX7_tell_73 (fun H locs V => ?_)
        refine lv_goto (tgt := 103) X.1 X.2.1 dX7_tell_76 (by decide) ?_
        obtain rfl := Option.some.inj h
        rw [hAA] at V
        rw [hQQ]
        exact k_vret X V dX7_tell_103
    · replace h := kif_t hc h
      refine lv_aload_n X.1 X.2.1 dX7_tell_34 rfl (lv_at hl 2 rfl) ?_
      refine lv_aload_n X.1 X.2.1 dX7_tell_35 rfl (lv_at hl 0 rfl) ?_
      refine gf_X7_85 (i := 0) X V rfl dX7_tell_36 ?_
      refine lv_aload_n X.1 X.2.1 dX7_tell_39 rfl (lv_at hl 0 rfl) ?_
      refine gf_X7_7 (i := 0) X V rfl dX7_tell_40 ?_
      refine lv_aload_n X.1 X.2.1 dX7_tell_43 rfl (lv_at hl 0 rfl) ?_
      refine gf_X7_7 (i := 0) X V rfl dX7_tell_44 ?_
      refine lv_lmul X.1 X.2.1 dX7_tell_47 ?_
      obtain ⟨x7, hx7, h⟩ := kb_of h
      refine s_callVv (segs' := [gX7 g aT zT, gX3 g aP2 x7]) (ci := 3) (i0 := 0) X V (c_X3_set l D g aP2 zP2 zT.2.2.2.1 (zT.1 * zT.1) x7 hx7) w_X7_98 ⟨Nat.le_of_ble_eq_true rfl, Nat.le_of_ble_eq_true rfl⟩ ⟨Nat.zero_le _, Nat.zero_le _⟩ rfl rfl rfl rfl [1] rfl rfl ⟨gX3_fst, trivial⟩ rfl rfl hl.1 (Nat.le_of_ble_eq_true rfl) dX7_tell_48 (fun H locs V => ?_)
      refine lv_goto (tgt := 103) X.1 X.2.1 dX7_tell_51 (by decide) ?_
      obtain rfl := Option.some.inj h
      rw [hAA] at V
      rw [hQQ]
      exact k_vret X V dX7_tell_103
  · replace h := kif_t hc h
    refine lv_aload_n X.1 X.2.1 dX7_tell_4 rfl (lv_at hl 2 rfl) ?_
    refine lv_aload_n X.1 X.2.1 dX7_tell_5 rfl (lv_at hl 0 rfl) ?_
    refine gf_X7_82 (i := 0) X V rfl dX7_tell_6 ?_
    refine lv_aload_n X.1 X.2.1 dX7_tell_9 rfl (lv_at hl 0 rfl) ?_
    refine gf_X7_85 (i := 0) X V rfl dX7_tell_10 ?_
    refine lv_lsub X.1 X.2.1 dX7_tell_13 ?_
    refine lv_aload_n X.1 X.2.1 dX7_tell_14 rfl (lv_at hl 0 rfl) ?_
    refine gf_X7_7 (i := 0) X V rfl dX7_tell_15 ?_
    refine lv_aload_n X.1 X.2.1 dX7_tell_18 rfl (lv_at hl 0 rfl) ?_
    refine gf_X7_7 (i := 0) X V rfl dX7_tell_19 ?_
    refine lv_lmul X.1 X.2.1 dX7_tell_22 ?_
    obtain ⟨x8, hx8, h⟩ := kb_of h
    refine s_callVv (segs' := [gX7 g aT zT, gX3 g aP2 x8]) (ci := 3) (i0 := 0) X V (c_X3_set l D g aP2 zP2 (zT.2.2.2.2.1 - zT.2.2.2.1) (zT.1 * zT.1) x8 hx8) w_X7_98 ⟨Nat.le_of_ble_eq_true rfl, Nat.le_of_ble_eq_true rfl⟩ ⟨Nat.zero_le _, Nat.zero_le _⟩ rfl rfl rfl rfl [1] rfl rfl ⟨gX3_fst, trivial⟩ rfl rfl hl.1 (Nat.le_of_ble_eq_true rfl) dX7_tell_23 (fun H locs V => ?_)
    refine lv_goto (tgt := 103) X.1 X.2.1 dX7_tell_26 (by decide) ?_
    obtain rfl := Option.some.inj h
    rw [hAA] at V
    rw [hQQ]
    exact k_vret X V dX7_tell_103
