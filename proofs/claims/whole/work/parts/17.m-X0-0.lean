def p_X0_atOne (zT : tX0) (zP1 : tX8) (v2 : Int32) : Option (tX0) :=
  kb (p_X8_x zP1 v2) (fun x1 => kl (x1, zT.2) (fun z2 => kb (p_X8_y zP1 v2) (fun x3 => kl (z2.1, x3, z2.2.2) (fun z4 => kl (z4.1, z4.2.1, (1 : Int64), z4.2.2.2) (fun z5 => kl (z5.1, z5.2.1, z5.2.2.1, (0 : Int64), z5.2.2.2.2) (fun z6 => kl (z6.1, z6.2.1, z6.2.2.1, z6.2.2.2.1, (0 : Int64), z6.2.2.2.2.2) (fun z7 => some z7)))))))
set_option maxHeartbeats 4000000 in
set_option maxRecDepth 100000 in
theorem c_X0_atOne (l : Launch) (D : va_G) (g : kG) (aT : Nat → Nat) (aP1 : Nat → Nat) (zT : tX0) (zP1 : tX8) (v2 : Int32) (r : tX0) (h : p_X0_atOne zT zP1 v2 = some r) : kMv l yX0_atOne cX0_atOne 3 none (kR 1 21) D (kty g) [.ref (aT 0), .ref (aP1 0), .int v2] (List.flatten [gX0 g aT zT, gX8 g aP1 zP1]) (List.flatten [gX0 g aT r, gX8 g aP1 zP1]) := by
  intro sz
  refine k_enter (lv := [(0, .ref (aT 0)), (1, .ref (aP1 0)), (2, .int v2)]) RX0 (by decide +kernel) rfl rfl (Nat.le_of_ble_eq_true rfl) ?_
  intro p en s m args below meth c ls hsz X V hl
  obtain ⟨QQ, hQQ⟩ : ∃ q, q = MQ below (va_Qv (fun (_ : Unit) => True) (fun _ => kE D (List.flatten [gX0 g aT r, gX8 g aP1 zP1])) (va_A (List.flatten [gX0 g aT zT, gX8 g aP1 zP1]) sz)) args s 0 0 (va_A (List.flatten [gX0 g aT zT, gX8 g aP1 zP1]) sz) := ⟨_, rfl⟩
  rw [← hQQ]
  obtain ⟨AA, hAA⟩ : ∃ q, q = va_A (List.flatten [gX0 g aT zT, gX8 g aP1 zP1]) sz := ⟨_, rfl⟩
  rw [← hAA] at V
  unfold p_X0_atOne at h
  refine lv_aload_n X.1 X.2.1 dX0_atOne_0 rfl (lv_at hl 0 rfl) ?_
  refine lv_aload_n X.1 X.2.1 dX0_atOne_1 rfl (lv_at hl 1 rfl) ?_
  refine lv_iload_n X.1 X.2.1 dX0_atOne_2 rfl (lv_at hl 2 rfl) ?_
  obtain ⟨x8, hx8, h⟩ := kb_of h
  refine s_callVi (segs' := [gX0 g aT zT, gX8 g aP1 zP1]) (ci := 8) (i0 := 0) X V (c_X8_x l D g aP1 zP1 v2 x8 hx8) w_X0_50 ⟨Nat.le_of_ble_eq_true rfl, Nat.le_of_ble_eq_true rfl⟩ ⟨Nat.zero_le _, Nat.zero_le _⟩ rfl rfl rfl rfl [1] rfl rfl (kFst_refl _) rfl rfl hl.1 (Nat.le_of_ble_eq_true rfl) dX0_atOne_3 (fun H locs V => ?_)
  refine pf_X0_61 (i := 0) X V rfl dX0_atOne_6 (fun H locs V => ?_)
  obtain ⟨z9, ez9⟩ : ∃ y, y = (x8, zT.2) := ⟨_, rfl⟩
  replace h := kl_of ez9 h
  have V : kW D AA s.heap H (List.flatten [gX0 g aT z9, gX8 g aP1 zP1]) locs := by rw [ez9]; exact V
  refine lv_aload_n X.1 X.2.1 dX0_atOne_9 rfl (lv_at hl 0 rfl) ?_
  refine lv_aload_n X.1 X.2.1 dX0_atOne_10 rfl (lv_at hl 1 rfl) ?_
  refine lv_iload_n X.1 X.2.1 dX0_atOne_11 rfl (lv_at hl 2 rfl) ?_
  obtain ⟨x10, hx10, h⟩ := kb_of h
  refine s_callVi (segs' := [gX0 g aT z9, gX8 g aP1 zP1]) (ci := 8) (i0 := 0) X V (c_X8_y l D g aP1 zP1 v2 x10 hx10) w_X0_54 ⟨Nat.le_of_ble_eq_true rfl, Nat.le_of_ble_eq_true rfl⟩ ⟨Nat.zero_le _, Nat.zero_le _⟩ rfl rfl rfl rfl [1] rfl rfl (kFst_refl _) rfl rfl hl.1 (Nat.le_of_ble_eq_true rfl) dX0_atOne_12 (fun H locs V => ?_)
  refine pf_X0_65 (i := 0) X V rfl dX0_atOne_15 (fun H locs V => ?_)
  obtain ⟨z11, ez11⟩ : ∃ y, y = (z9.1, x10, z9.2.2) := ⟨_, rfl⟩
  replace h := kl_of ez11 h
  have V : kW D AA s.heap H (List.flatten [gX0 g aT z11, gX8 g aP1 zP1]) locs := by rw [ez11]; exact V
  refine lv_aload_n X.1 X.2.1 dX0_atOne_18 rfl (lv_at hl 0 rfl) ?_
  refine lv_lconst (v := (1 : Int64)) X.1 X.2.1 dX0_atOne_19 (by decide) ?_
  refine pf_X0_9 (i := 0) X V rfl dX0_atOne_20 (fun H locs V => ?_)
  obtain ⟨z12, ez12⟩ : ∃ y, y = (z11.1, z11.2.1, (1 : Int64), z11.2.2.2) := ⟨_, rfl⟩
  replace h := kl_of ez12 h
  have V : kW D AA s.heap H (List.flatten [gX0 g aT z12, gX8 g aP1 zP1]) locs := by rw [ez12]; exact V
  refine lv_aload_n X.1 X.2.1 dX0_atOne_23 rfl (lv_at hl 0 rfl) ?_
  refine lv_lconst (v := (0 : Int64)) X.1 X.2.1 dX0_atOne_24 (by decide) ?_
  refine pf_X0_68 (i := 0) X V rfl dX0_atOne_25 (fun H locs V => ?_)
  obtain ⟨z13, ez13⟩ : ∃ y, y = (z12.1, z12.2.1, z12.2.2.1, (0 : Int64), z12.2.2.2.2) := ⟨_, rfl⟩
  replace h := kl_of ez13 h
  have V : kW D AA s.heap H (List.flatten [gX0 g aT z13, gX8 g aP1 zP1]) locs := by rw [ez13]; exact V
  refine lv_aload_n X.1 X.2.1 dX0_atOne_28 rfl (lv_at hl 0 rfl) ?_
  refine lv_lconst (v := (0 : Int64)) X.1 X.2.1 dX0_atOne_29 (by decide) ?_
  refine pf_X0_71 (i := 0) X V rfl dX0_atOne_30 (fun H locs V => ?_)
  obtain ⟨z14, ez14⟩ : ∃ y, y = (z13.1, z13.2.1, z13.2.2.1, z13.2.2.2.1, (0 : Int64), z13.2.2.2.2.2) := ⟨_, rfl⟩
  replace h := kl_of ez14 h
  have V : kW D AA s.heap H (List.flatten [gX0 g aT z14, gX8 g aP1 zP1]) locs := by rw [ez14]; exact V
  obtain rfl := Option.some.inj h
  rw [hAA] at V
  rw [hQQ]
  exact k_vret X V dX0_atOne_33

def p_X0_side (zT : tX0) (v1 : Int32) (v2 : Int32) : Option (Int32) :=
  kl ((v1 - zT.1)).toInt64 (fun y1 => kl ((v2 - zT.2.1)).toInt64 (fun y2 => kb (p_J13_compare_74951 (zT.2.2.1 * ((y1 * y1) + (y2 * y2))) ((2 : Int64) * ((y1 * zT.2.2.2.1) + (y2 * zT.2.2.2.2.1)))) (fun x3 => some x3)))
set_option maxHeartbeats 4000000 in
set_option maxRecDepth 100000 in
theorem c_X0_side (l : Launch) (D : va_G) (g : kG) (aT : Nat → Nat) (zT : tX0) (v1 : Int32) (v2 : Int32) (r : Int32) (h : p_X0_side zT v1 v2 = some r) : kMi l yX0_side cX0_side 7 (some .int) (kR 1 23) D (kty g) [.ref (aT 0), .int v1, .int v2] (List.flatten [gX0 g aT zT]) r (List.flatten [gX0 g aT zT]) := by
  intro sz
  refine k_enter (lv := [(0, .ref (aT 0)), (1, .int v1), (2, .int v2)]) RX0 (by decide +kernel) rfl rfl (Nat.le_of_ble_eq_true rfl) ?_
  intro p en s m args below meth c ls hsz X V hl
  obtain ⟨QQ, hQQ⟩ : ∃ q, q = MQ below (va_Qi (fun r' (_ : Unit) => r' = r) (fun _ => kE D (List.flatten [gX0 g aT zT])) (va_A (List.flatten [gX0 g aT zT]) sz)) args s 0 0 (va_A (List.flatten [gX0 g aT zT]) sz) := ⟨_, rfl⟩
  rw [← hQQ]
  obtain ⟨AA, hAA⟩ : ∃ q, q = va_A (List.flatten [gX0 g aT zT]) sz := ⟨_, rfl⟩
  rw [← hAA] at V
  unfold p_X0_side at h
  refine lv_iload_n X.1 X.2.1 dX0_side_0 rfl (lv_at hl 1 rfl) ?_
  refine lv_aload_n X.1 X.2.1 dX0_side_1 rfl (lv_at hl 0 rfl) ?_
  refine gf_X0_61 (i := 0) X V rfl dX0_side_2 ?_
  refine lv_isub X.1 X.2.1 dX0_side_5 ?_
  refine lv_i2l X.1 X.2.1 dX0_side_6 rfl ?_
  refine lv_topl (fun y4 ey4 => ?_)
  replace h := kl_of ey4 h
  refine lv_lstore_n (lv' := [(3, .long y4), (0, .ref (aT 0)), (1, .int v1), (2, .int v2)]) X.1 X.2.1 dX0_side_7 rfl hl (by decide) rfl (fun ls hl => ?_)
  refine lv_iload_n X.1 X.2.1 dX0_side_8 rfl (lv_at hl 3 rfl) ?_
  refine lv_aload_n X.1 X.2.1 dX0_side_9 rfl (lv_at hl 1 rfl) ?_
  refine gf_X0_65 (i := 0) X V rfl dX0_side_10 ?_
  refine lv_isub X.1 X.2.1 dX0_side_13 ?_
  refine lv_i2l X.1 X.2.1 dX0_side_14 rfl ?_
  refine lv_topl (fun y5 ey5 => ?_)
  replace h := kl_of ey5 h
  refine lv_lstore (lv' := [(5, .long y5), (3, .long y4), (0, .ref (aT 0)), (1, .int v1), (2, .int v2)]) X.1 X.2.1 dX0_side_15 hl (by decide) rfl (fun ls hl => ?_)
  refine lv_aload_n X.1 X.2.1 dX0_side_17 rfl (lv_at hl 2 rfl) ?_
  refine gf_X0_9 (i := 0) X V rfl dX0_side_18 ?_
  refine lv_lload_n X.1 X.2.1 dX0_side_21 rfl (lv_at hl 1 rfl) ?_
  refine lv_lload_n X.1 X.2.1 dX0_side_22 rfl (lv_at hl 1 rfl) ?_
  refine lv_lmul X.1 X.2.1 dX0_side_23 ?_
  refine lv_lload X.1 X.2.1 dX0_side_24 (lv_at hl 0 rfl) ?_
  refine lv_lload X.1 X.2.1 dX0_side_26 (lv_at hl 0 rfl) ?_
  refine lv_lmul X.1 X.2.1 dX0_side_28 ?_
  refine lv_ladd X.1 X.2.1 dX0_side_29 ?_
  refine lv_lmul X.1 X.2.1 dX0_side_30 ?_
  refine lv_ldc2 (v := (2 : Int64)) X.1 X.2.1 X.2.2.2.1 (X.2.2.2.2.1 _ kc_X0_74) dX0_side_31 ?_
  refine lv_lload_n X.1 X.2.1 dX0_side_34 rfl (lv_at hl 1 rfl) ?_
  refine lv_aload_n X.1 X.2.1 dX0_side_35 rfl (lv_at hl 2 rfl) ?_
  refine gf_X0_68 (i := 0) X V rfl dX0_side_36 ?_
  refine lv_lmul X.1 X.2.1 dX0_side_39 ?_
  refine lv_lload X.1 X.2.1 dX0_side_40 (lv_at hl 0 rfl) ?_
  refine lv_aload_n X.1 X.2.1 dX0_side_42 rfl (lv_at hl 2 rfl) ?_
  refine gf_X0_71 (i := 0) X V rfl dX0_side_43 ?_
  refine lv_lmul X.1 X.2.1 dX0_side_46 ?_
  refine lv_ladd X.1 X.2.1 dX0_side_47 ?_
  refine lv_lmul X.1 X.2.1 dX0_side_48 ?_
  obtain ⟨x6, hx6, h⟩ := kb_of h
  refine s_callSi (segs' := [gX0 g aT zT]) X V (c_J13_compare_74951 l D g (zT.2.2.1 * ((y4 * y4) + (y5 * y5))) ((2 : Int64) * ((y4 * zT.2.2.2.1) + (y5 * zT.2.2.2.2.1))) x6 hx6) w_X0_78 ⟨Nat.le_of_ble_eq_true rfl, Nat.le_of_ble_eq_true rfl⟩ ⟨Nat.zero_le _, Nat.zero_le _⟩ rfl [] rfl rfl (kFst_refl _) rfl rfl hl.1 (Nat.le_of_ble_eq_true rfl) dX0_side_49 (fun H locs V => ?_)
  obtain rfl := Option.some.inj h
  rw [hAA] at V
  rw [hQQ]
  exact k_iret X V rfl dX0_side_52

def p_X0_isOutside (zT : tX0) (zP1 : tX8) (v2 : Int32) : Option (Bool) :=
  kb (p_X8_x zP1 v2) (fun x1 => kb (p_X8_y zP1 v2) (fun x2 => kb (p_X0_side zT x1 x2) (fun x3 => kif (x3 ≤ 0) (some false) (some true))))
set_option maxHeartbeats 4000000 in
set_option maxRecDepth 100000 in
theorem c_X0_isOutside (l : Launch) (D : va_G) (g : kG) (aT : Nat → Nat) (aP1 : Nat → Nat) (zT : tX0) (zP1 : tX8) (v2 : Int32) (r : Bool) (h : p_X0_isOutside zT zP1 v2 = some r) : kMi l yX0_isOutside cX0_isOutside 3 (some .boolean) (kR 2 49) D (kty g) [.ref (aT 0), .ref (aP1 0), .int v2] (List.flatten [gX0 g aT zT, gX8 g aP1 zP1]) (kz r) (List.flatten [gX0 g aT zT, gX8 g aP1 zP1]) := by
  intro sz
  refine k_enter (lv := [(0, .ref (aT 0)), (1, .ref (aP1 0)), (2, .int v2)]) RX0 (by decide +kernel) rfl rfl (Nat.le_of_ble_eq_true rfl) ?_
  intro p en s m args below meth c ls hsz X V hl
  obtain ⟨QQ, hQQ⟩ : ∃ q, q = MQ below (va_Qi (fun r' (_ : Unit) => r' = kz r) (fun _ => kE D (List.flatten [gX0 g aT zT, gX8 g aP1 zP1])) (va_A (List.flatten [gX0 g aT zT, gX8 g aP1 zP1]) sz)) args s 0 0 (va_A (List.flatten [gX0 g aT zT, gX8 g aP1 zP1]) sz) := ⟨_, rfl⟩
  rw [← hQQ]
  obtain ⟨AA, hAA⟩ : ∃ q, q = va_A (List.flatten [gX0 g aT zT, gX8 g aP1 zP1]) sz := ⟨_, rfl⟩
  rw [← hAA] at V
  unfold p_X0_isOutside at h
  refine lv_aload_n X.1 X.2.1 dX0_isOutside_0 rfl (lv_at hl 0 rfl) ?_
  refine lv_aload_n X.1 X.2.1 dX0_isOutside_1 rfl (lv_at hl 1 rfl) ?_
  refine lv_iload_n X.1 X.2.1 dX0_isOutside_2 rfl (lv_at hl 2 rfl) ?_
  obtain ⟨x4, hx4, h⟩ := kb_of h
  refine s_callVi (segs' := [gX0 g aT zT, gX8 g aP1 zP1]) (ci := 8) (i0 := 0) X V (c_X8_x l D g aP1 zP1 v2 x4 hx4) w_X0_50 ⟨Nat.le_of_ble_eq_true rfl, Nat.le_of_ble_eq_true rfl⟩ ⟨Nat.zero_le _, Nat.zero_le _⟩ rfl rfl rfl rfl [1] rfl rfl (kFst_refl _) rfl rfl hl.1 (Nat.le_of_ble_eq_true rfl) dX0_isOutside_3 (fun H locs V => ?_)
  refine lv_aload_n X.1 X.2.1 dX0_isOutside_6 rfl (lv_at hl 1 rfl) ?_
  refine lv_iload_n X.1 X.2.1 dX0_isOutside_7 rfl (lv_at hl 2 rfl) ?_
  obtain ⟨x5, hx5, h⟩ := kb_of h
  refine s_callVi (segs' := [gX0 g aT zT, gX8 g aP1 zP1]) (ci := 8) (i0 := 0) X V (c_X8_y l D g aP1 zP1 v2 x5 hx5) w_X0_54 ⟨Nat.le_of_ble_eq_true rfl, Nat.le_of_ble_eq_true rfl⟩ ⟨Nat.zero_le _, Nat.zero_le _⟩ rfl rfl rfl rfl [1] rfl rfl (kFst_refl _) rfl rfl hl.1 (Nat.le_of_ble_eq_true rfl) dX0_isOutside_8 (fun H locs V => ?_)
  obtain ⟨x6, hx6, h⟩ := kb_of h
  refine s_callVi (segs' := [gX0 g aT zT, gX8 g aP1 zP1]) (ci := 0) (i0 := 0) X V (c_X0_side l D g aT zT x4 x5 x6 hx6) w_X0_57 ⟨Nat.le_of_ble_eq_true rfl, Nat.le_of_ble_eq_true rfl⟩ ⟨Nat.zero_le _, Nat.zero_le _⟩ rfl rfl rfl rfl [0] rfl rfl (kFst_refl _) rfl rfl hl.1 (Nat.le_of_ble_eq_true rfl) dX0_isOutside_11 (fun H locs V => ?_)
  refine lv_if_le (tgt := 21) X.1 X.2.1 dX0_isOutside_14 (by decide) (fun hc => ?_) (fun hc => ?_)
  · replace h := kif_t hc h
    refine lv_iconst (v := (0 : Int32)) X.1 X.2.1 dX0_isOutside_21 (by decide) ?_
    obtain rfl := Option.some.inj h
    rw [hAA] at V
    rw [hQQ]
    exact k_zret X V (b := false) rfl rfl dX0_isOutside_22
  · replace h := kif_f hc h
    refine lv_iconst (v := (1 : Int32)) X.1 X.2.1 dX0_isOutside_17 (by decide) ?_
    refine lv_goto (tgt := 22) X.1 X.2.1 dX0_isOutside_18 (by decide) ?_
    obtain rfl := Option.some.inj h
    rw [hAA] at V
    rw [hQQ]
    exact k_zret X V (b := true) rfl rfl dX0_isOutside_22

def p_X0_acrossTwo (zT : tX0) (zP1 : tX8) (v2 : Int32) (v3 : Int32) : Option (tX0) :=
  kb (p_X0_atOne zT zP1 v2) (fun x1 => kl (x1.1, x1.2.1, (2 : Int64), x1.2.2.2) (fun z2 => kb (p_X8_x zP1 v3) (fun x3 => kl (z2.1, z2.2.1, z2.2.2.1, ((x3 - z2.1)).toInt64, z2.2.2.2.2) (fun z4 => kb (p_X8_y zP1 v3) (fun x5 => kl (z4.1, z4.2.1, z4.2.2.1, z4.2.2.2.1, ((x5 - z4.2.1)).toInt64, z4.2.2.2.2.2) (fun z6 => some z6))))))
set_option maxHeartbeats 4000000 in
set_option maxRecDepth 100000 in
theorem c_X0_acrossTwo (l : Launch) (D : va_G) (g : kG) (aT : Nat → Nat) (aP1 : Nat → Nat) (zT : tX0) (zP1 : tX8) (v2 : Int32) (v3 : Int32) (r : tX0) (h : p_X0_acrossTwo zT zP1 v2 v3 = some r) : kMv l yX0_acrossTwo cX0_acrossTwo 4 none (kR 2 43) D (kty g) [.ref (aT 0), .ref (aP1 0), .int v2, .int v3] (List.flatten [gX0 g aT zT, gX8 g aP1 zP1]) (List.flatten [gX0 g aT r, gX8 g aP1 zP1]) := by
  intro sz
  refine k_enter (lv := [(0, .ref (aT 0)), (1, .ref (aP1 0)), (2, .int v2), (3, .int v3)]) RX0 (by decide +kernel) rfl rfl (Nat.le_of_ble_eq_true rfl) ?_
  intro p en s m args below meth c ls hsz X V hl
  obtain ⟨QQ, hQQ⟩ : ∃ q, q = MQ below (va_Qv (fun (_ : Unit) => True) (fun _ => kE D (List.flatten [gX0 g aT r, gX8 g aP1 zP1])) (va_A (List.flatten [gX0 g aT zT, gX8 g aP1 zP1]) sz)) args s 0 0 (va_A (List.flatten [gX0 g aT zT, gX8 g aP1 zP1]) sz) := ⟨_, rfl⟩
  rw [← hQQ]
  obtain ⟨AA, hAA⟩ : ∃ q, q = va_A (List.flatten [gX0 g aT zT, gX8 g aP1 zP1]) sz := ⟨_, rfl⟩
  rw [← hAA] at V
  unfold p_X0_acrossTwo at h
  refine lv_aload_n X.1 X.2.1 dX0_acrossTwo_0 rfl (lv_at hl 0 rfl) ?_
  refine lv_aload_n X.1 X.2.1 dX0_acrossTwo_1 rfl (lv_at hl 1 rfl) ?_
  refine lv_iload_n X.1 X.2.1 dX0_acrossTwo_2 rfl (lv_at hl 2 rfl) ?_
  obtain ⟨x7, hx7, h⟩ := kb_of h
  refine s_callVv (segs' := [gX0 g aT x7, gX8 g aP1 zP1]) (ci := 0) (i0 := 0) X V (c_X0_atOne l D g aT aP1 zT zP1 v2 x7 hx7) w_X0_24 ⟨Nat.le_of_ble_eq_true rfl, Nat.le_of_ble_eq_true rfl⟩ ⟨Nat.zero_le _, Nat.zero_le _⟩ rfl rfl rfl rfl [0, 1] rfl rfl ⟨gX0_fst, rfl, trivial⟩ rfl rfl hl.1 (Nat.le_of_ble_eq_true rfl) dX0_acrossTwo_3 (fun H locs V => ?_)
  refine lv_aload_n X.1 X.2.1 dX0_acrossTwo_6 rfl (lv_at hl 0 rfl) ?_
  refine lv_ldc2 (v := (2 : Int64)) X.1 X.2.1 X.2.2.2.1 (X.2.2.2.2.1 _ kc_X0_74) dX0_acrossTwo_7 ?_
  refine pf_X0_9 (i := 0) X V rfl dX0_acrossTwo_10 (fun H locs V => ?_)
  obtain ⟨z8, ez8⟩ : ∃ y, y = (x7.1, x7.2.1, (2 : Int64), x7.2.2.2) := ⟨_, rfl⟩
  replace h := kl_of ez8 h
  have V : kW D AA s.heap H (List.flatten [gX0 g aT z8, gX8 g aP1 zP1]) locs := by rw [ez8]; exact V
  refine lv_aload_n X.1 X.2.1 dX0_acrossTwo_13 rfl (lv_at hl 0 rfl) ?_
  refine lv_aload_n X.1 X.2.1 dX0_acrossTwo_14 rfl (lv_at hl 1 rfl) ?_
  refine lv_iload_n X.1 X.2.1 dX0_acrossTwo_15 rfl (lv_at hl 3 rfl) ?_
  obtain ⟨x9, hx9, h⟩ := kb_of h
  refine s_callVi (segs' := [gX0 g aT z8, gX8 g aP1 zP1]) (ci := 8) (i0 := 0) X V (c_X8_x l D g aP1 zP1 v3 x9 hx9) w_X0_50 ⟨Nat.le_of_ble_eq_true rfl, Nat.le_of_ble_eq_true rfl⟩ ⟨Nat.zero_le _, Nat.zero_le _⟩ rfl rfl rfl rfl [1] rfl rfl (kFst_refl _) rfl rfl hl.1 (Nat.le_of_ble_eq_true rfl) dX0_acrossTwo_16 (fun H locs V => ?_)
  refine lv_aload_n X.1 X.2.1 dX0_acrossTwo_19 rfl (lv_at hl 0 rfl) ?_
  refine gf_X0_61 (i := 0) X V rfl dX0_acrossTwo_20 ?_
  refine lv_isub X.1 X.2.1 dX0_acrossTwo_23 ?_
  refine lv_i2l X.1 X.2.1 dX0_acrossTwo_24 rfl ?_
  refine pf_X0_68 (i := 0) X V rfl dX0_acrossTwo_25 (fun H locs V => ?_)
  obtain ⟨z10, ez10⟩ : ∃ y, y = (z8.1, z8.2.1, z8.2.2.1, ((x9 - z8.1)).toInt64, z8.2.2.2.2) := ⟨_, rfl⟩
  replace h := kl_of ez10 h
  have V : kW D AA s.heap H (List.flatten [gX0 g aT z10, gX8 g aP1 zP1]) locs := by rw [ez10]; exact V
  refine lv_aload_n X.1 X.2.1 dX0_acrossTwo_28 rfl (lv_at hl 0 rfl) ?_
  refine lv_aload_n X.1 X.2.1 dX0_acrossTwo_29 rfl (lv_at hl 1 rfl) ?_
  refine lv_iload_n X.1 X.2.1 dX0_acrossTwo_30 rfl (lv_at hl 3 rfl) ?_
  obtain ⟨x11, hx11, h⟩ := kb_of h
  refine s_callVi (segs' := [gX0 g aT z10, gX8 g aP1 zP1]) (ci := 8) (i0 := 0) X V (c_X8_y l D g aP1 zP1 v3 x11 hx11) w_X0_54 ⟨Nat.le_of_ble_eq_true rfl, Nat.le_of_ble_eq_true rfl⟩ ⟨Nat.zero_le _, Nat.zero_le _⟩ rfl rfl rfl rfl [1] rfl rfl (kFst_refl _) rfl rfl hl.1 (Nat.le_of_ble_eq_true rfl) dX0_acrossTwo_31 (fun H locs V => ?_)
  refine lv_aload_n X.1 X.2.1 dX0_acrossTwo_34 rfl (lv_at hl 0 rfl) ?_
  refine gf_X0_65 (i := 0) X V rfl dX0_acrossTwo_35 ?_
  refine lv_isub X.1 X.2.1 dX0_acrossTwo_38 ?_
  refine lv_i2l X.1 X.2.1 dX0_acrossTwo_39 rfl ?_
  refine pf_X0_71 (i := 0) X V rfl dX0_acrossTwo_40 (fun H locs V => ?_)
  obtain ⟨z12, ez12⟩ : ∃ y, y = (z10.1, z10.2.1, z10.2.2.1, z10.2.2.2.1, ((x11 - z10.2.1)).toInt64, z10.2.2.2.2.2) := ⟨_, rfl⟩
  replace h := kl_of ez12 h
  have V : kW D AA s.heap H (List.flatten [gX0 g aT z12, gX8 g aP1 zP1]) locs := by rw [ez12]; exact V
  obtain rfl := Option.some.inj h
  rw [hAA] at V
  rw [hQQ]
  exact k_vret X V dX0_acrossTwo_43

def p_X0_throughThree_J94 (zP1 : tX8) (v2 : Int32) (v3 : Int32) (v4 : Int32) (zT : tX0) (v5 : Int64) (v7 : Int64) (v9 : Int64) (v11 : Int64) (v13 : Int64) (k94_0 : Int64) : Option (Bool × tX0) :=
  kl (k94_0 * ((v5 * v5) + (v7 * v7))) (fun y14 => kl (k94_0 * ((v9 * v9) + (v11 * v11))) (fun y15 => kb (p_X0_atOne zT zP1 v2) (fun x16 => kl (x16.1, x16.2.1, (((2 : Int64) * k94_0) * v13), x16.2.2.2) (fun z17 => kl (z17.1, z17.2.1, z17.2.2.1, ((v11 * y14) - (v7 * y15)), z17.2.2.2.2) (fun z18 => kl (z18.1, z18.2.1, z18.2.2.1, z18.2.2.2.1, ((v5 * y15) - (v9 * y14)), z18.2.2.2.2.2) (fun z19 => some (true, z19)))))))
def p_X0_throughThree (zT : tX0) (zP1 : tX8) (v2 : Int32) (v3 : Int32) (v4 : Int32) : Option (Bool × tX0) :=
  kb (p_X8_x zP1 v3) (fun x1 => kb (p_X8_x zP1 v2) (fun x2 => kl ((x1 - x2)).toInt64 (fun y3 => kb (p_X8_y zP1 v3) (fun x4 => kb (p_X8_y zP1 v2) (fun x5 => kl ((x4 - x5)).toInt64 (fun y6 => kb (p_X8_x zP1 v4) (fun x7 => kb (p_X8_x zP1 v2) (fun x8 => kl ((x7 - x8)).toInt64 (fun y9 => kb (p_X8_y zP1 v4) (fun x10 => kb (p_X8_y zP1 v2) (fun x11 => kl ((x10 - x11)).toInt64 (fun y12 => kl ((y3 * y12) - (y6 * y9)) (fun y13 => kif ((lg_cmp y13 (0 : Int64)) = 0) (some (false, zT)) (kif (0 ≤ (lg_cmp y13 (0 : Int64))) (p_X0_throughThree_J94 zP1 v2 v3 v4 zT y3 y6 y9 y12 y13 (1 : Int64)) (p_X0_throughThree_J94 zP1 v2 v3 v4 zT y3 y6 y9 y12 y13 (-1 : Int64))))))))))))))))
set_option maxHeartbeats 4000000 in
set_option maxRecDepth 100000 in
theorem c_X0_throughThree (l : Launch) (D : va_G) (g : kG) (aT : Nat → Nat) (aP1 : Nat → Nat) (zT : tX0) (zP1 : tX8) (v2 : Int32) (v3 : Int32) (v4 : Int32) (r : Bool × tX0) (h : p_X0_throughThree zT zP1 v2 v3 v4 = some r) : kMi l yX0_throughThree cX0_throughThree 21 (some .boolean) (kR 2 43) D (kty g) [.ref (aT 0), .ref (aP1 0), .int v2, .int v3, .int v4] (List.flatten [gX0 g aT zT, gX8 g aP1 zP1]) (kz r.1) (List.flatten [gX0 g aT r.2, gX8 g aP1 zP1]) := by
  intro sz
  refine k_enter (lv := [(0, .ref (aT 0)), (1, .ref (aP1 0)), (2, .int v2), (3, .int v3), (4, .int v4)]) RX0 (by decide +kernel) rfl rfl (Nat.le_of_ble_eq_true rfl) ?_
  intro p en s m args below meth c ls hsz X V hl
  obtain ⟨QQ, hQQ⟩ : ∃ q, q = MQ below (va_Qi (fun r' (_ : Unit) => r' = kz r.1) (fun _ => kE D (List.flatten [gX0 g aT r.2, gX8 g aP1 zP1])) (va_A (List.flatten [gX0 g aT zT, gX8 g aP1 zP1]) sz)) args s 0 0 (va_A (List.flatten [gX0 g aT zT, gX8 g aP1 zP1]) sz) := ⟨_, rfl⟩
  rw [← hQQ]
  obtain ⟨AA, hAA⟩ : ∃ q, q = va_A (List.flatten [gX0 g aT zT, gX8 g aP1 zP1]) sz := ⟨_, rfl⟩
  rw [← hAA] at V
  have J94 : ∀ (zT : tX0) (v5 : Int64) (v7 : Int64) (v9 : Int64) (v11 : Int64) (v13 : Int64) (k94_0 : Int64) (H : Heap) (locs : List Loc) (ls : Array Slot), p_X0_throughThree_J94 zP1 v2 v3 v4 zT v5 v7 v9 v11 v13 k94_0 = some r → kW D AA s.heap H (List.flatten [gX0 g aT zT, gX8 g aP1 zP1]) locs → lv_has ls 21 [(0, .ref (aT 0)), (1, .ref (aP1 0)), (2, .int v2), (5, .long v5), (7, .long v7), (9, .long v9), (11, .long v11), (13, .long v13)] → W p l en (kR 2 43) s m args below meth c H locs 0 0 QQ (F0 m 94 ls [.long k94_0]) := by
    intro zT v5 v7 v9 v11 v13 k94_0 H locs ls h V hl
    unfold p_X0_throughThree_J94 at h
    refine lv_lstore (lv' := [(15, .long k94_0), (0, .ref (aT 0)), (1, .ref (aP1 0)), (2, .int v2), (5, .long v5), (7, .long v7), (9, .long v9), (11, .long v11), (13, .long v13)]) X.1 X.2.1 dX0_throughThree_94 hl (by decide) rfl (fun ls hl => ?_)
    refine lv_lload X.1 X.2.1 dX0_throughThree_96 (lv_at hl 0 rfl) ?_
    refine lv_lload X.1 X.2.1 dX0_throughThree_98 (lv_at hl 4 rfl) ?_
    refine lv_lload X.1 X.2.1 dX0_throughThree_100 (lv_at hl 4 rfl) ?_
    refine lv_lmul X.1 X.2.1 dX0_throughThree_102 ?_
    refine lv_lload X.1 X.2.1 dX0_throughThree_103 (lv_at hl 5 rfl) ?_
    refine lv_lload X.1 X.2.1 dX0_throughThree_105 (lv_at hl 5 rfl) ?_
    refine lv_lmul X.1 X.2.1 dX0_throughThree_107 ?_
    refine lv_ladd X.1 X.2.1 dX0_throughThree_108 ?_
    refine lv_lmul X.1 X.2.1 dX0_throughThree_109 ?_
    refine lv_topl (fun y20 ey20 => ?_)
    replace h := kl_of ey20 h
    refine lv_lstore (lv' := [(17, .long y20), (15, .long k94_0), (0, .ref (aT 0)), (1, .ref (aP1 0)), (2, .int v2), (5, .long v5), (7, .long v7), (9, .long v9), (11, .long v11), (13, .long v13)]) X.1 X.2.1 dX0_throughThree_110 hl (by decide) rfl (fun ls hl => ?_)
    refine lv_lload X.1 X.2.1 dX0_throughThree_112 (lv_at hl 1 rfl) ?_
    refine lv_lload X.1 X.2.1 dX0_throughThree_114 (lv_at hl 7 rfl) ?_
    refine lv_lload X.1 X.2.1 dX0_throughThree_116 (lv_at hl 7 rfl) ?_
    refine lv_lmul X.1 X.2.1 dX0_throughThree_118 ?_
    refine lv_lload X.1 X.2.1 dX0_throughThree_119 (lv_at hl 8 rfl) ?_
    refine lv_lload X.1 X.2.1 dX0_throughThree_121 (lv_at hl 8 rfl) ?_
    refine lv_lmul X.1 X.2.1 dX0_throughThree_123 ?_
    refine lv_ladd X.1 X.2.1 dX0_throughThree_124 ?_
    refine lv_lmul X.1 X.2.1 dX0_throughThree_125 ?_
    refine lv_topl (fun y21 ey21 => ?_)
    replace h := kl_of ey21 h
    refine lv_lstore (lv' := [(19, .long y21), (17, .long y20), (15, .long k94_0), (0, .ref (aT 0)), (1, .ref (aP1 0)), (2, .int v2), (5, .long v5), (7, .long v7), (9, .long v9), (11, .long v11), (13, .long v13)]) X.1 X.2.1 dX0_throughThree_126 hl (by decide) rfl (fun ls hl => ?_)
    refine lv_aload_n X.1 X.2.1 dX0_throughThree_128 rfl (lv_at hl 3 rfl) ?_
    refine lv_aload_n X.1 X.2.1 dX0_throughThree_129 rfl (lv_at hl 4 rfl) ?_
    refine lv_iload_n X.1 X.2.1 dX0_throughThree_130 rfl (lv_at hl 5 rfl) ?_
    obtain ⟨x22, hx22, h⟩ := kb_of h
    refine s_callVv (segs' := [gX0 g aT x22, gX8 g aP1 zP1]) (ci := 0) (i0 := 0) X V (c_X0_atOne l D g aT aP1 zT zP1 v2 x22 hx22) w_X0_24 ⟨Nat.le_of_ble_eq_true rfl, Nat.le_of_ble_eq_true rfl⟩ ⟨Nat.zero_le _, Nat.zero_le _⟩ rfl rfl rfl rfl [0, 1] rfl rfl ⟨gX0_fst, rfl, trivial⟩ rfl rfl hl.1 (Nat.le_of_ble_eq_true rfl) dX0_throughThree_131 (fun H locs V => ?_)
    refine lv_aload_n X.1 X.2.1 dX0_throughThree_134 rfl (lv_at hl 3 rfl) ?_
    refine lv_ldc2 (v := (2 : Int64)) X.1 X.2.1 X.2.2.2.1 (X.2.2.2.2.1 _ kc_X0_74) dX0_throughThree_135 ?_
    refine lv_lload X.1 X.2.1 dX0_throughThree_138 (lv_at hl 2 rfl) ?_
    refine lv_lmul X.1 X.2.1 dX0_throughThree_140 ?_
    refine lv_lload X.1 X.2.1 dX0_throughThree_141 (lv_at hl 10 rfl) ?_
    refine lv_lmul X.1 X.2.1 dX0_throughThree_143 ?_
    refine pf_X0_9 (i := 0) X V rfl dX0_throughThree_144 (fun H locs V => ?_)
    obtain ⟨z23, ez23⟩ : ∃ y, y = (x22.1, x22.2.1, (((2 : Int64) * k94_0) * v13), x22.2.2.2) := ⟨_, rfl⟩
    replace h := kl_of ez23 h
    have V : kW D AA s.heap H (List.flatten [gX0 g aT z23, gX8 g aP1 zP1]) locs := by rw [ez23]; exact V
    refine lv_aload_n X.1 X.2.1 dX0_throughThree_147 rfl (lv_at hl 3 rfl) ?_
    refine lv_lload X.1 X.2.1 dX0_throughThree_148 (lv_at hl 9 rfl) ?_
    refine lv_lload X.1 X.2.1 dX0_throughThree_150 (lv_at hl 1 rfl) ?_
    refine lv_lmul X.1 X.2.1 dX0_throughThree_152 ?_
    refine lv_lload X.1 X.2.1 dX0_throughThree_153 (lv_at hl 7 rfl) ?_
    refine lv_lload X.1 X.2.1 dX0_throughThree_155 (lv_at hl 0 rfl) ?_
    refine lv_lmul X.1 X.2.1 dX0_throughThree_157 ?_
    refine lv_lsub X.1 X.2.1 dX0_throughThree_158 ?_
    refine pf_X0_68 (i := 0) X V rfl dX0_throughThree_159 (fun H locs V => ?_)
    obtain ⟨z24, ez24⟩ : ∃ y, y = (z23.1, z23.2.1, z23.2.2.1, ((v11 * y20) - (v7 * y21)), z23.2.2.2.2) := ⟨_, rfl⟩
    replace h := kl_of ez24 h
    have V : kW D AA s.heap H (List.flatten [gX0 g aT z24, gX8 g aP1 zP1]) locs := by rw [ez24]; exact V
    refine lv_aload_n X.1 X.2.1 dX0_throughThree_162 rfl (lv_at hl 3 rfl) ?_
    refine lv_lload X.1 X.2.1 dX0_throughThree_163 (lv_at hl 6 rfl) ?_
    refine lv_lload X.1 X.2.1 dX0_throughThree_165 (lv_at hl 0 rfl) ?_
    refine lv_lmul X.1 X.2.1 dX0_throughThree_167 ?_
    refine lv_lload X.1 X.2.1 dX0_throughThree_168 (lv_at hl 8 rfl) ?_
    refine lv_lload X.1 X.2.1 dX0_throughThree_170 (lv_at hl 1 rfl) ?_
    refine lv_lmul X.1 X.2.1 dX0_throughThree_172 ?_
    refine lv_lsub X.1 X.2.1 dX0_throughThree_173 ?_
    refine pf_X0_71 (i := 0) X V rfl dX0_throughThree_174 (fun H locs V => ?_)
    obtain ⟨z25, ez25⟩ : ∃ y, y = (z24.1, z24.2.1, z24.2.2.1, z24.2.2.2.1, ((v5 * y21) - (v9 * y20)), z24.2.2.2.2.2) := ⟨_, rfl⟩
    replace h := kl_of ez25 h
    have V : kW D AA s.heap H (List.flatten [gX0 g aT z25, gX8 g aP1 zP1]) locs := by rw [ez25]; exact V
    refine lv_iconst (v := (1 : Int32)) X.1 X.2.1 dX0_throughThree_177 (by decide) ?_
    obtain rfl := Option.some.inj h
    rw [hAA] at V
    rw [hQQ]
    exact k_zret X V (b := true) rfl rfl dX0_throughThree_178
  unfold p_X0_throughThree at h
  refine lv_aload_n X.1 X.2.1 dX0_throughThree_0 rfl (lv_at hl 1 rfl) ?_
  refine lv_iload_n X.1 X.2.1 dX0_throughThree_1 rfl (lv_at hl 3 rfl) ?_
  obtain ⟨x26, hx26, h⟩ := kb_of h
  refine s_callVi (segs' := [gX0 g aT zT, gX8 g aP1 zP1]) (ci := 8) (i0 := 0) X V (c_X8_x l D g aP1 zP1 v3 x26 hx26) w_X0_50 ⟨Nat.le_of_ble_eq_true rfl, Nat.le_of_ble_eq_true rfl⟩ ⟨Nat.zero_le _, Nat.zero_le _⟩ rfl rfl rfl rfl [1] rfl rfl (kFst_refl _) rfl rfl hl.1 (Nat.le_of_ble_eq_true rfl) dX0_throughThree_2 (fun H locs V => ?_)
  refine lv_aload_n X.1 X.2.1 dX0_throughThree_5 rfl (lv_at hl 1 rfl) ?_
  refine lv_iload_n X.1 X.2.1 dX0_throughThree_6 rfl (lv_at hl 2 rfl) ?_
  obtain ⟨x27, hx27, h⟩ := kb_of h
  refine s_callVi (segs' := [gX0 g aT zT, gX8 g aP1 zP1]) (ci := 8) (i0 := 0) X V (c_X8_x l D g aP1 zP1 v2 x27 hx27) w_X0_50 ⟨Nat.le_of_ble_eq_true rfl, Nat.le_of_ble_eq_true rfl⟩ ⟨Nat.zero_le _, Nat.zero_le _⟩ rfl rfl rfl rfl [1] rfl rfl (kFst_refl _) rfl rfl hl.1 (Nat.le_of_ble_eq_true rfl) dX0_throughThree_7 (fun H locs V => ?_)
  refine lv_isub X.1 X.2.1 dX0_throughThree_10 ?_
  refine lv_i2l X.1 X.2.1 dX0_throughThree_11 rfl ?_
  refine lv_topl (fun y28 ey28 => ?_)
  replace h := kl_of ey28 h
  refine lv_lstore (lv' := [(5, .long y28), (0, .ref (aT 0)), (1, .ref (aP1 0)), (2, .int v2), (3, .int v3), (4, .int v4)]) X.1 X.2.1 dX0_throughThree_12 hl (by decide) rfl (fun ls hl => ?_)
  refine lv_aload_n X.1 X.2.1 dX0_throughThree_14 rfl (lv_at hl 2 rfl) ?_
  refine lv_iload_n X.1 X.2.1 dX0_throughThree_15 rfl (lv_at hl 4 rfl) ?_
  obtain ⟨x29, hx29, h⟩ := kb_of h
  refine s_callVi (segs' := [gX0 g aT zT, gX8 g aP1 zP1]) (ci := 8) (i0 := 0) X V (c_X8_y l D g aP1 zP1 v3 x29 hx29) w_X0_54 ⟨Nat.le_of_ble_eq_true rfl, Nat.le_of_ble_eq_true rfl⟩ ⟨Nat.zero_le _, Nat.zero_le _⟩ rfl rfl rfl rfl [1] rfl rfl (kFst_refl _) rfl rfl hl.1 (Nat.le_of_ble_eq_true rfl) dX0_throughThree_16 (fun H locs V => ?_)
  refine lv_aload_n X.1 X.2.1 dX0_throughThree_19 rfl (lv_at hl 2 rfl) ?_
  refine lv_iload_n X.1 X.2.1 dX0_throughThree_20 rfl (lv_at hl 3 rfl) ?_
  obtain ⟨x30, hx30, h⟩ := kb_of h
  refine s_callVi (segs' := [gX0 g aT zT, gX8 g aP1 zP1]) (ci := 8) (i0 := 0) X V (c_X8_y l D g aP1 zP1 v2 x30 hx30) w_X0_54 ⟨Nat.le_of_ble_eq_true rfl, Nat.le_of_ble_eq_true rfl⟩ ⟨Nat.zero_le _, Nat.zero_le _⟩ rfl rfl rfl rfl [1] rfl rfl (kFst_refl _) rfl rfl hl.1 (Nat.le_of_ble_eq_true rfl) dX0_throughThree_21 (fun H locs V => ?_)
  refine lv_isub X.1 X.2.1 dX0_throughThree_24 ?_
  refine lv_i2l X.1 X.2.1 dX0_throughThree_25 rfl ?_
  refine lv_topl (fun y31 ey31 => ?_)
  replace h := kl_of ey31 h
  refine lv_lstore (lv' := [(7, .long y31), (5, .long y28), (0, .ref (aT 0)), (1, .ref (aP1 0)), (2, .int v2), (3, .int v3), (4, .int v4)]) X.1 X.2.1 dX0_throughThree_26 hl (by decide) rfl (fun ls hl => ?_)
  refine lv_aload_n X.1 X.2.1 dX0_throughThree_28 rfl (lv_at hl 3 rfl) ?_
  refine lv_iload X.1 X.2.1 dX0_throughThree_29 (lv_at hl 6 rfl) ?_
  obtain ⟨x32, hx32, h⟩ := kb_of h
  refine s_callVi (segs' := [gX0 g aT zT, gX8 g aP1 zP1]) (ci := 8) (i0 := 0) X V (c_X8_x l D g aP1 zP1 v4 x32 hx32) w_X0_50 ⟨Nat.le_of_ble_eq_true rfl, Nat.le_of_ble_eq_true rfl⟩ ⟨Nat.zero_le _, Nat.zero_le _⟩ rfl rfl rfl rfl [1] rfl rfl (kFst_refl _) rfl rfl hl.1 (Nat.le_of_ble_eq_true rfl) dX0_throughThree_31 (fun H locs V => ?_)
  refine lv_aload_n X.1 X.2.1 dX0_throughThree_34 rfl (lv_at hl 3 rfl) ?_
  refine lv_iload_n X.1 X.2.1 dX0_throughThree_35 rfl (lv_at hl 4 rfl) ?_
  obtain ⟨x33, hx33, h⟩ := kb_of h
  refine s_callVi (segs' := [gX0 g aT zT, gX8 g aP1 zP1]) (ci := 8) (i0 := 0) X V (c_X8_x l D g aP1 zP1 v2 x33 hx33) w_X0_50 ⟨Nat.le_of_ble_eq_true rfl, Nat.le_of_ble_eq_true rfl⟩ ⟨Nat.zero_le _, Nat.zero_le _⟩ rfl rfl rfl rfl [1] rfl rfl (kFst_refl _) rfl rfl hl.1 (Nat.le_of_ble_eq_true rfl) dX0_throughThree_36 (fun H locs V => ?_)
  refine lv_isub X.1 X.2.1 dX0_throughThree_39 ?_
  refine lv_i2l X.1 X.2.1 dX0_throughThree_40 rfl ?_
  refine lv_topl (fun y34 ey34 => ?_)
  replace h := kl_of ey34 h
  refine lv_lstore (lv' := [(9, .long y34), (7, .long y31), (5, .long y28), (0, .ref (aT 0)), (1, .ref (aP1 0)), (2, .int v2), (3, .int v3), (4, .int v4)]) X.1 X.2.1 dX0_throughThree_41 hl (by decide) rfl (fun ls hl => ?_)
  refine lv_aload_n X.1 X.2.1 dX0_throughThree_43 rfl (lv_at hl 4 rfl) ?_
  refine lv_iload X.1 X.2.1 dX0_throughThree_44 (lv_at hl 7 rfl) ?_
  obtain ⟨x35, hx35, h⟩ := kb_of h
  refine s_callVi (segs' := [gX0 g aT zT, gX8 g aP1 zP1]) (ci := 8) (i0 := 0) X V (c_X8_y l D g aP1 zP1 v4 x35 hx35) w_X0_54 ⟨Nat.le_of_ble_eq_true rfl, Nat.le_of_ble_eq_true rfl⟩ ⟨Nat.zero_le _, Nat.zero_le _⟩ rfl rfl rfl rfl [1] rfl rfl (kFst_refl _) rfl rfl hl.1 (Nat.le_of_ble_eq_true rfl) dX0_throughThree_46 (fun H locs V => ?_)
  refine lv_aload_n X.1 X.2.1 dX0_throughThree_49 rfl (lv_at hl 4 rfl) ?_
  refine lv_iload_n X.1 X.2.1 dX0_throughThree_50 rfl (lv_at hl 5 rfl) ?_
  obtain ⟨x36, hx36, h⟩ := kb_of h
  refine s_callVi (segs' := [gX0 g aT zT, gX8 g aP1 zP1]) (ci := 8) (i0 := 0) X V (c_X8_y l D g aP1 zP1 v2 x36 hx36) w_X0_54 ⟨Nat.le_of_ble_eq_true rfl, Nat.le_of_ble_eq_true rfl⟩ ⟨Nat.zero_le _, Nat.zero_le _⟩ rfl rfl rfl rfl [1] rfl rfl (kFst_refl _) rfl rfl hl.1 (Nat.le_of_ble_eq_true rfl) dX0_throughThree_51 (fun H locs V => ?_)
  refine lv_isub X.1 X.2.1 dX0_throughThree_54 ?_
  refine lv_i2l X.1 X.2.1 dX0_throughThree_55 rfl ?_
  refine lv_topl (fun y37 ey37 => ?_)
  replace h := kl_of ey37 h
  refine lv_lstore (lv' := [(11, .long y37), (9, .long y34), (7, .long y31), (5, .long y28), (0, .ref (aT 0)), (1, .ref (aP1 0)), (2, .int v2), (3, .int v3), (4, .int v4)]) X.1 X.2.1 dX0_throughThree_56 hl (by decide) rfl (fun ls hl => ?_)
  refine lv_lload X.1 X.2.1 dX0_throughThree_58 (lv_at hl 3 rfl) ?_
  refine lv_lload X.1 X.2.1 dX0_throughThree_60 (lv_at hl 0 rfl) ?_
  refine lv_lmul X.1 X.2.1 dX0_throughThree_62 ?_
  refine lv_lload X.1 X.2.1 dX0_throughThree_63 (lv_at hl 2 rfl) ?_
  refine lv_lload X.1 X.2.1 dX0_throughThree_65 (lv_at hl 1 rfl) ?_
  refine lv_lmul X.1 X.2.1 dX0_throughThree_67 ?_
  refine lv_lsub X.1 X.2.1 dX0_throughThree_68 ?_
  refine lv_topl (fun y38 ey38 => ?_)
  replace h := kl_of ey38 h
  refine lv_lstore (lv' := [(13, .long y38), (11, .long y37), (9, .long y34), (7, .long y31), (5, .long y28), (0, .ref (aT 0)), (1, .ref (aP1 0)), (2, .int v2), (3, .int v3), (4, .int v4)]) X.1 X.2.1 dX0_throughThree_69 hl (by decide) rfl (fun ls hl => ?_)
  refine lv_lload X.1 X.2.1 dX0_throughThree_71 (lv_at hl 0 rfl) ?_
  refine lv_lconst (v := (0 : Int64)) X.1 X.2.1 dX0_throughThree_73 (by decide) ?_
  refine W.lcmp X.1 X.2.1 dX0_throughThree_74 ?_
  refine lv_if_ne (tgt := 80) X.1 X.2.1 dX0_throughThree_75 (by decide) (fun hc => ?_) (fun hc => ?_)
  · replace h := kif_f hc h
    refine lv_lload X.1 X.2.1 dX0_throughThree_80 (lv_at hl 0 rfl) ?_
    refine lv_lconst (v := (0 : Int64)) X.1 X.2.1 dX0_throughThree_82 (by decide) ?_
    refine W.lcmp X.1 X.2.1 dX0_throughThree_83 ?_
    refine lv_if_ge (tgt := 93) X.1 X.2.1 dX0_throughThree_84 (by decide) (fun hc => ?_) (fun hc => ?_)
    · replace h := kif_t hc h
      refine lv_lconst (v := (1 : Int64)) X.1 X.2.1 dX0_throughThree_93 (by decide) ?_
      exact J94 zT y28 y31 y34 y37 y38 (1 : Int64) _ _ _ h V (lv_sub hl [5, 6, 7, 4, 3, 2, 1, 0] rfl)
    · replace h := kif_f hc h
      refine lv_ldc2 (v := (-1 : Int64)) X.1 X.2.1 X.2.2.2.1 (X.2.2.2.2.1 _ kc_X0_76) dX0_throughThree_87 ?_
      refine lv_goto (tgt := 94) X.1 X.2.1 dX0_throughThree_90 (by decide) ?_
      exact J94 zT y28 y31 y34 y37 y38 (-1 : Int64) _ _ _ h V (lv_sub hl [5, 6, 7, 4, 3, 2, 1, 0] rfl)
  · replace h := kif_t hc h
    refine lv_iconst (v := (0 : Int32)) X.1 X.2.1 dX0_throughThree_78 (by decide) ?_
    obtain rfl := Option.some.inj h
    rw [hAA] at V
    rw [hQQ]
    exact k_zret X V (b := false) rfl rfl dX0_throughThree_79

def p_X0_aboutWithTwo_L10 (zP1 : tX8) (v2 : Int32) (v3 : Int32) (s : Int32 × tX0) : Option (Nat × (Int32 × tX0)) :=
  kif (v3 ≤ s.1) (some (42, (s.1, s.2))) (kb (p_X0_isOutside s.2 zP1 s.1) (fun x2 => kif ((kz x2) = 0) (kl (s.1 + (1 : Int32)) (fun y3 => some (10, (y3, s.2)))) (kb (p_X0_throughThree s.2 zP1 v2 v3 s.1) (fun x4 => kl (s.1 + (1 : Int32)) (fun y5 => some (10, (y5, x4.2)))))))
def p_X0_aboutWithTwo (zT : tX0) (zP1 : tX8) (v2 : Int32) (v3 : Int32) : Option (tX0) :=
  kb (p_X0_acrossTwo zT zP1 v2 v3) (fun x1 => kb (kitr 10 (fun q => p_X0_aboutWithTwo_L10 zP1 v2 v3 q) kF ((0 : Int32), x1)) (fun x6 => kg (x6.1 = 42) (some x6.2.2)))
set_option maxHeartbeats 4000000 in
set_option maxRecDepth 100000 in
theorem c_X0_aboutWithTwo (l : Launch) (D : va_G) (g : kG) (aT : Nat → Nat) (aP1 : Nat → Nat) (zT : tX0) (zP1 : tX8) (v2 : Int32) (v3 : Int32) (r : tX0) (h : p_X0_aboutWithTwo zT zP1 v2 v3 = some r) : kMv l yX0_aboutWithTwo cX0_aboutWithTwo 5 none (kR 3 83) D (kty g) [.ref (aT 0), .ref (aP1 0), .int v2, .int v3] (List.flatten [gX0 g aT zT, gX8 g aP1 zP1]) (List.flatten [gX0 g aT r, gX8 g aP1 zP1]) := by
  intro sz
  refine k_enter (lv := [(0, .ref (aT 0)), (1, .ref (aP1 0)), (2, .int v2), (3, .int v3)]) RX0 (by decide +kernel) rfl rfl (Nat.le_of_ble_eq_true rfl) ?_
  intro p en s m args below meth c ls hsz X V hl
  obtain ⟨QQ, hQQ⟩ : ∃ q, q = MQ below (va_Qv (fun (_ : Unit) => True) (fun _ => kE D (List.flatten [gX0 g aT r, gX8 g aP1 zP1])) (va_A (List.flatten [gX0 g aT zT, gX8 g aP1 zP1]) sz)) args s 0 0 (va_A (List.flatten [gX0 g aT zT, gX8 g aP1 zP1]) sz) := ⟨_, rfl⟩
  rw [← hQQ]
  obtain ⟨AA, hAA⟩ : ∃ q, q = va_A (List.flatten [gX0 g aT zT, gX8 g aP1 zP1]) sz := ⟨_, rfl⟩
  rw [← hAA] at V
  unfold p_X0_aboutWithTwo at h
  refine lv_aload_n X.1 X.2.1 dX0_aboutWithTwo_0 rfl (lv_at hl 0 rfl) ?_
  refine lv_aload_n X.1 X.2.1 dX0_aboutWithTwo_1 rfl (lv_at hl 1 rfl) ?_
  refine lv_iload_n X.1 X.2.1 dX0_aboutWithTwo_2 rfl (lv_at hl 2 rfl) ?_
  refine lv_iload_n X.1 X.2.1 dX0_aboutWithTwo_3 rfl (lv_at hl 3 rfl) ?_
  obtain ⟨x7, hx7, h⟩ := kb_of h
  refine s_callVv (segs' := [gX0 g aT x7, gX8 g aP1 zP1]) (ci := 0) (i0 := 0) X V (c_X0_acrossTwo l D g aT aP1 zT zP1 v2 v3 x7 hx7) w_X0_43 ⟨Nat.le_of_ble_eq_true rfl, Nat.le_of_ble_eq_true rfl⟩ ⟨Nat.zero_le _, Nat.zero_le _⟩ rfl rfl rfl rfl [0, 1] rfl rfl ⟨gX0_fst, rfl, trivial⟩ rfl rfl hl.1 (Nat.le_of_ble_eq_true rfl) dX0_aboutWithTwo_4 (fun H locs V => ?_)
  refine lv_iconst (v := (0 : Int32)) X.1 X.2.1 dX0_aboutWithTwo_7 (by decide) ?_
  refine lv_istore (lv' := [(4, .int (0 : Int32)), (0, .ref (aT 0)), (1, .ref (aP1 0)), (2, .int v2), (3, .int v3)]) X.1 X.2.1 dX0_aboutWithTwo_8 hl (by decide) rfl (fun ls hl => ?_)
  obtain ⟨x8, hx8, h⟩ := kb_of h
  refine (kitr_go (hd := 10) (body := fun q => p_X0_aboutWithTwo_L10 zP1 v2 v3 q) (G := (fun e => ∀ (H : Heap) (locs : List Loc) (ls : Array Slot), kW D AA s.heap H (List.flatten [gX0 g aT e.2.2, gX8 g aP1 zP1]) locs → lv_has ls 5 [(0, .ref (aT 0)), (1, .ref (aP1 0)), (2, .int v2), (3, .int v3), (4, .int e.2.1)] → W p l en (kR 3 83) s m args below meth c H locs 0 0 QQ (F0 m e.1 ls []))) (fun s9 e10 hb11 hG12 => ?_) kF _ x8 hx8 ?_) _ _ _ V (lv_sub hl [1, 2, 3, 4, 0] rfl)
  · intro H locs ls V hl
    show W p l en (kR 3 83) s m args below meth c H locs 0 0 QQ (F0 m 10 ls [])
    have h : p_X0_aboutWithTwo_L10 zP1 v2 v3 s9 = some e10 := hb11
    unfold p_X0_aboutWithTwo_L10 at h
    have V : kW D AA s.heap H (List.flatten [gX0 g aT s9.2, gX8 g aP1 zP1]) locs := V
    have hl : lv_has ls 5 [(0, .ref (aT 0)), (1, .ref (aP1 0)), (2, .int v2), (3, .int v3), (4, .int s9.1)] := hl
    refine lv_iload X.1 X.2.1 dX0_aboutWithTwo_10 (lv_at hl 4 rfl) ?_
    refine lv_iload_n X.1 X.2.1 dX0_aboutWithTwo_12 rfl (lv_at hl 3 rfl) ?_
    refine lv_icmp_ge (tgt := 42) X.1 X.2.1 dX0_aboutWithTwo_13 (by decide) (fun hc => ?_) (fun hc => ?_)
    · replace h := kif_t hc h
      obtain rfl := Option.some.inj h
      exact hG12 _ _ _ V (lv_sub hl [0, 1, 2, 3, 4] rfl)
    · replace h := kif_f hc h
      refine lv_aload_n X.1 X.2.1 dX0_aboutWithTwo_16 rfl (lv_at hl 0 rfl) ?_
      refine lv_aload_n X.1 X.2.1 dX0_aboutWithTwo_17 rfl (lv_at hl 1 rfl) ?_
      refine lv_iload X.1 X.2.1 dX0_aboutWithTwo_18 (lv_at hl 4 rfl) ?_
      obtain ⟨x13, hx13, h⟩ := kb_of h
      refine s_callVi (segs' := [gX0 g aT s9.2, gX8 g aP1 zP1]) (ci := 0) (i0 := 0) X V (c_X0_isOutside l D g aT aP1 s9.2 zP1 s9.1 x13 hx13) w_X0_32 ⟨Nat.le_of_ble_eq_true rfl, Nat.le_of_ble_eq_true rfl⟩ ⟨Nat.zero_le _, Nat.zero_le _⟩ rfl rfl rfl rfl [0, 1] rfl rfl (kFst_refl _) rfl rfl hl.1 (Nat.le_of_ble_eq_true rfl) dX0_aboutWithTwo_20 (fun H locs V => ?_)
      refine lv_if_eq (tgt := 36) X.1 X.2.1 dX0_aboutWithTwo_23 (by decide) (fun hc => ?_) (fun hc => ?_)
      · replace h := kif_t hc h
        obtain ⟨y14, ey14⟩ : ∃ y : Int32, y = (s9.1 + (1 : Int32)) := ⟨_, rfl⟩
        replace h := kl_of ey14 h
        refine lv_iinc (v := y14) (lv' := [(4, .int y14), (0, .ref (aT 0)), (1, .ref (aP1 0)), (2, .int v2), (3, .int v3)]) X.1 X.2.1 dX0_aboutWithTwo_36 hl (k := 4) rfl (by rw [ey14]; rfl) (by decide) rfl (fun ls hl => ?_)
        refine lv_goto (tgt := 10) X.1 X.2.1 dX0_aboutWithTwo_39 (by decide) ?_
        obtain rfl := Option.some.inj h
        exact hG12 _ _ _ V (lv_sub hl [1, 2, 3, 4, 0] rfl)
      · replace h := kif_f hc h
        refine lv_aload_n X.1 X.2.1 dX0_aboutWithTwo_26 rfl (lv_at hl 0 rfl) ?_
        refine lv_aload_n X.1 X.2.1 dX0_aboutWithTwo_27 rfl (lv_at hl 1 rfl) ?_
        refine lv_iload_n X.1 X.2.1 dX0_aboutWithTwo_28 rfl (lv_at hl 2 rfl) ?_
        refine lv_iload_n X.1 X.2.1 dX0_aboutWithTwo_29 rfl (lv_at hl 3 rfl) ?_
        refine lv_iload X.1 X.2.1 dX0_aboutWithTwo_30 (lv_at hl 4 rfl) ?_
        obtain ⟨x15, hx15, h⟩ := kb_of h
        refine s_callVi (segs' := [gX0 g aT x15.2, gX8 g aP1 zP1]) (ci := 0) (i0 := 0) X V (c_X0_throughThree l D g aT aP1 s9.2 zP1 v2 v3 s9.1 x15 hx15) w_X0_46 ⟨Nat.le_of_ble_eq_true rfl, Nat.le_of_ble_eq_true rfl⟩ ⟨Nat.zero_le _, Nat.zero_le _⟩ rfl rfl rfl rfl [0, 1] rfl rfl ⟨gX0_fst, rfl, trivial⟩ rfl rfl hl.1 (Nat.le_of_ble_eq_true rfl) dX0_aboutWithTwo_32 (fun H locs V => ?_)
        refine lv_pop X.1 X.2.1 dX0_aboutWithTwo_35 rfl ?_
        obtain ⟨y16, ey16⟩ : ∃ y : Int32, y = (s9.1 + (1 : Int32)) := ⟨_, rfl⟩
        replace h := kl_of ey16 h
        refine lv_iinc (v := y16) (lv' := [(4, .int y16), (0, .ref (aT 0)), (1, .ref (aP1 0)), (2, .int v2), (3, .int v3)]) X.1 X.2.1 dX0_aboutWithTwo_36 hl (k := 4) rfl (by rw [ey16]; rfl) (by decide) rfl (fun ls hl => ?_)
        refine lv_goto (tgt := 10) X.1 X.2.1 dX0_aboutWithTwo_39 (by decide) ?_
        obtain rfl := Option.some.inj h
        exact hG12 _ _ _ V (lv_sub hl [1, 2, 3, 4, 0] rfl)
  · intro H locs ls V hl
    have V : kW D AA s.heap H (List.flatten [gX0 g aT x8.2.2, gX8 g aP1 zP1]) locs := V
    have hl : lv_has ls 5 [(0, .ref (aT 0)), (1, .ref (aP1 0)), (2, .int v2), (3, .int v3), (4, .int x8.2.1)] := hl
    obtain ⟨hc, h⟩ := kg_of h
    refine W.eq (g2 := F0 m 42 ls []) (by rw [hc]) ?_
    obtain rfl := Option.some.inj h
    rw [hAA] at V
    rw [hQQ]
    exact k_vret X V dX0_aboutWithTwo_42

def p_X0_aboutWithOne_L8 (zP1 : tX8) (v2 : Int32) (s : Int32 × tX0) : Option (Nat × (Int32 × tX0)) :=
  kif (v2 ≤ s.1) (some (35, (s.1, s.2))) (kb (p_X0_isOutside s.2 zP1 s.1) (fun x2 => kif ((kz x2) = 0) (kl (s.1 + (1 : Int32)) (fun y3 => some (8, (y3, s.2)))) (kb (p_X0_aboutWithTwo s.2 zP1 v2 s.1) (fun x4 => kl (s.1 + (1 : Int32)) (fun y5 => some (8, (y5, x4)))))))
def p_X0_aboutWithOne (zT : tX0) (zP1 : tX8) (v2 : Int32) : Option (tX0) :=
  kb (p_X0_atOne zT zP1 v2) (fun x1 => kb (kitr 8 (fun q => p_X0_aboutWithOne_L8 zP1 v2 q) kF ((0 : Int32), x1)) (fun x6 => kg (x6.1 = 35) (some x6.2.2)))
set_option maxHeartbeats 4000000 in
set_option maxRecDepth 100000 in
theorem c_X0_aboutWithOne (l : Launch) (D : va_G) (g : kG) (aT : Nat → Nat) (aP1 : Nat → Nat) (zT : tX0) (zP1 : tX8) (v2 : Int32) (r : tX0) (h : p_X0_aboutWithOne zT zP1 v2 = some r) : kMv l yX0_aboutWithOne cX0_aboutWithOne 4 none (kR 4 107) D (kty g) [.ref (aT 0), .ref (aP1 0), .int v2] (List.flatten [gX0 g aT zT, gX8 g aP1 zP1]) (List.flatten [gX0 g aT r, gX8 g aP1 zP1]) := by
  intro sz
  refine k_enter (lv := [(0, .ref (aT 0)), (1, .ref (aP1 0)), (2, .int v2)]) RX0 (by decide +kernel) rfl rfl (Nat.le_of_ble_eq_true rfl) ?_
  intro p en s m args below meth c ls hsz X V hl
  obtain ⟨QQ, hQQ⟩ : ∃ q, q = MQ below (va_Qv (fun (_ : Unit) => True) (fun _ => kE D (List.flatten [gX0 g aT r, gX8 g aP1 zP1])) (va_A (List.flatten [gX0 g aT zT, gX8 g aP1 zP1]) sz)) args s 0 0 (va_A (List.flatten [gX0 g aT zT, gX8 g aP1 zP1]) sz) := ⟨_, rfl⟩
  rw [← hQQ]
  obtain ⟨AA, hAA⟩ : ∃ q, q = va_A (List.flatten [gX0 g aT zT, gX8 g aP1 zP1]) sz := ⟨_, rfl⟩
  rw [← hAA] at V
  unfold p_X0_aboutWithOne at h
  refine lv_aload_n X.1 X.2.1 dX0_aboutWithOne_0 rfl (lv_at hl 0 rfl) ?_
  refine lv_aload_n X.1 X.2.1 dX0_aboutWithOne_1 rfl (lv_at hl 1 rfl) ?_
  refine lv_iload_n X.1 X.2.1 dX0_aboutWithOne_2 rfl (lv_at hl 2 rfl) ?_
  obtain ⟨x7, hx7, h⟩ := kb_of h
  refine s_callVv (segs' := [gX0 g aT x7, gX8 g aP1 zP1]) (ci := 0) (i0 := 0) X V (c_X0_atOne l D g aT aP1 zT zP1 v2 x7 hx7) w_X0_24 ⟨Nat.le_of_ble_eq_true rfl, Nat.le_of_ble_eq_true rfl⟩ ⟨Nat.zero_le _, Nat.zero_le _⟩ rfl rfl rfl rfl [0, 1] rfl rfl ⟨gX0_fst, rfl, trivial⟩ rfl rfl hl.1 (Nat.le_of_ble_eq_true rfl) dX0_aboutWithOne_3 (fun H locs V => ?_)
  refine lv_iconst (v := (0 : Int32)) X.1 X.2.1 dX0_aboutWithOne_6 (by decide) ?_
  refine lv_istore_n (lv' := [(3, .int (0 : Int32)), (0, .ref (aT 0)), (1, .ref (aP1 0)), (2, .int v2)]) X.1 X.2.1 dX0_aboutWithOne_7 rfl hl (by decide) rfl (fun ls hl => ?_)
  obtain ⟨x8, hx8, h⟩ := kb_of h
  refine (kitr_go (hd := 8) (body := fun q => p_X0_aboutWithOne_L8 zP1 v2 q) (G := (fun e => ∀ (H : Heap) (locs : List Loc) (ls : Array Slot), kW D AA s.heap H (List.flatten [gX0 g aT e.2.2, gX8 g aP1 zP1]) locs → lv_has ls 4 [(0, .ref (aT 0)), (1, .ref (aP1 0)), (2, .int v2), (3, .int e.2.1)] → W p l en (kR 4 107) s m args below meth c H locs 0 0 QQ (F0 m e.1 ls []))) (fun s9 e10 hb11 hG12 => ?_) kF _ x8 hx8 ?_) _ _ _ V (lv_sub hl [1, 2, 3, 0] rfl)
  · intro H locs ls V hl
    show W p l en (kR 4 107) s m args below meth c H locs 0 0 QQ (F0 m 8 ls [])
    have h : p_X0_aboutWithOne_L8 zP1 v2 s9 = some e10 := hb11
    unfold p_X0_aboutWithOne_L8 at h
    have V : kW D AA s.heap H (List.flatten [gX0 g aT s9.2, gX8 g aP1 zP1]) locs := V
    have hl : lv_has ls 4 [(0, .ref (aT 0)), (1, .ref (aP1 0)), (2, .int v2), (3, .int s9.1)] := hl
    refine lv_iload_n X.1 X.2.1 dX0_aboutWithOne_8 rfl (lv_at hl 3 rfl) ?_
    refine lv_iload_n X.1 X.2.1 dX0_aboutWithOne_9 rfl (lv_at hl 2 rfl) ?_
    refine lv_icmp_ge (tgt := 35) X.1 X.2.1 dX0_aboutWithOne_10 (by decide) (fun hc => ?_) (fun hc => ?_)
    · replace h := kif_t hc h
      obtain rfl := Option.some.inj h
      exact hG12 _ _ _ V (lv_sub hl [0, 1, 2, 3] rfl)
    · replace h := kif_f hc h
      refine lv_aload_n X.1 X.2.1 dX0_aboutWithOne_13 rfl (lv_at hl 0 rfl) ?_
      refine lv_aload_n X.1 X.2.1 dX0_aboutWithOne_14 rfl (lv_at hl 1 rfl) ?_
      refine lv_iload_n X.1 X.2.1 dX0_aboutWithOne_15 rfl (lv_at hl 3 rfl) ?_
      obtain ⟨x13, hx13, h⟩ := kb_of h
      refine s_callVi (segs' := [gX0 g aT s9.2, gX8 g aP1 zP1]) (ci := 0) (i0 := 0) X V (c_X0_isOutside l D g aT aP1 s9.2 zP1 s9.1 x13 hx13) w_X0_32 ⟨Nat.le_of_ble_eq_true rfl, Nat.le_of_ble_eq_true rfl⟩ ⟨Nat.zero_le _, Nat.zero_le _⟩ rfl rfl rfl rfl [0, 1] rfl rfl (kFst_refl _) rfl rfl hl.1 (Nat.le_of_ble_eq_true rfl) dX0_aboutWithOne_16 (fun H locs V => ?_)
      refine lv_if_eq (tgt := 29) X.1 X.2.1 dX0_aboutWithOne_19 (by decide) (fun hc => ?_) (fun hc => ?_)
      · replace h := kif_t hc h
        obtain ⟨y14, ey14⟩ : ∃ y : Int32, y = (s9.1 + (1 : Int32)) := ⟨_, rfl⟩
        replace h := kl_of ey14 h
        refine lv_iinc (v := y14) (lv' := [(3, .int y14), (0, .ref (aT 0)), (1, .ref (aP1 0)), (2, .int v2)]) X.1 X.2.1 dX0_aboutWithOne_29 hl (k := 3) rfl (by rw [ey14]; rfl) (by decide) rfl (fun ls hl => ?_)
        refine lv_goto (tgt := 8) X.1 X.2.1 dX0_aboutWithOne_32 (by decide) ?_
        obtain rfl := Option.some.inj h
        exact hG12 _ _ _ V (lv_sub hl [1, 2, 3, 0] rfl)
      · replace h := kif_f hc h
        refine lv_aload_n X.1 X.2.1 dX0_aboutWithOne_22 rfl (lv_at hl 0 rfl) ?_
        refine lv_aload_n X.1 X.2.1 dX0_aboutWithOne_23 rfl (lv_at hl 1 rfl) ?_
        refine lv_iload_n X.1 X.2.1 dX0_aboutWithOne_24 rfl (lv_at hl 2 rfl) ?_
        refine lv_iload_n X.1 X.2.1 dX0_aboutWithOne_25 rfl (lv_at hl 3 rfl) ?_
        obtain ⟨x15, hx15, h⟩ := kb_of h
        refine s_callVv (segs' := [gX0 g aT x15, gX8 g aP1 zP1]) (ci := 0) (i0 := 0) X V (c_X0_aboutWithTwo l D g aT aP1 s9.2 zP1 v2 s9.1 x15 hx15) w_X0_39 ⟨Nat.le_of_ble_eq_true rfl, Nat.le_of_ble_eq_true rfl⟩ ⟨Nat.zero_le _, Nat.zero_le _⟩ rfl rfl rfl rfl [0, 1] rfl rfl ⟨gX0_fst, rfl, trivial⟩ rfl rfl hl.1 (Nat.le_of_ble_eq_true rfl) dX0_aboutWithOne_26 (fun H locs V => ?_)
        obtain ⟨y16, ey16⟩ : ∃ y : Int32, y = (s9.1 + (1 : Int32)) := ⟨_, rfl⟩
        replace h := kl_of ey16 h
        refine lv_iinc (v := y16) (lv' := [(3, .int y16), (0, .ref (aT 0)), (1, .ref (aP1 0)), (2, .int v2)]) X.1 X.2.1 dX0_aboutWithOne_29 hl (k := 3) rfl (by rw [ey16]; rfl) (by decide) rfl (fun ls hl => ?_)
        refine lv_goto (tgt := 8) X.1 X.2.1 dX0_aboutWithOne_32 (by decide) ?_
        obtain rfl := Option.some.inj h
        exact hG12 _ _ _ V (lv_sub hl [1, 2, 3, 0] rfl)
  · intro H locs ls V hl
    have V : kW D AA s.heap H (List.flatten [gX0 g aT x8.2.2, gX8 g aP1 zP1]) locs := V
    have hl : lv_has ls 4 [(0, .ref (aT 0)), (1, .ref (aP1 0)), (2, .int v2), (3, .int x8.2.1)] := hl
    obtain ⟨hc, h⟩ := kg_of h
    refine W.eq (g2 := F0 m 35 ls []) (by rw [hc]) ?_
    obtain rfl := Option.some.inj h
    rw [hAA] at V
    rw [hQQ]
    exact k_vret X V dX0_aboutWithOne_35

def p_X0_about_L8 (zP1 : tX8) (s : Int32 × tX0) : Option (Nat × (Int32 × tX0)) :=
  kb (p_X8_count zP1) (fun x2 => kif (x2 ≤ s.1) (some (37, (s.1, s.2))) (kb (p_X0_isOutside s.2 zP1 s.1) (fun x3 => kif ((kz x3) = 0) (kl (s.1 + (1 : Int32)) (fun y4 => some (8, (y4, s.2)))) (kb (p_X0_aboutWithOne s.2 zP1 s.1) (fun x5 => kl (s.1 + (1 : Int32)) (fun y6 => some (8, (y6, x5))))))))
def p_X0_about (zT : tX0) (zP1 : tX8) : Option (tX0) :=
  kb (p_X0_atOne zT zP1 (0 : Int32)) (fun x1 => kb (kitr 8 (fun q => p_X0_about_L8 zP1 q) kF ((1 : Int32), x1)) (fun x7 => kg (x7.1 = 37) (some x7.2.2)))
set_option maxHeartbeats 4000000 in
set_option maxRecDepth 100000 in
theorem c_X0_about (l : Launch) (D : va_G) (g : kG) (aT : Nat → Nat) (aP1 : Nat → Nat) (zT : tX0) (zP1 : tX8) (r : tX0) (h : p_X0_about zT zP1 = some r) : kMv l yX0_about cX0_about 3 none (kR 5 130) D (kty g) [.ref (aT 0), .ref (aP1 0)] (List.flatten [gX0 g aT zT, gX8 g aP1 zP1]) (List.flatten [gX0 g aT r, gX8 g aP1 zP1]) := by
  intro sz
  refine k_enter (lv := [(0, .ref (aT 0)), (1, .ref (aP1 0))]) RX0 (by decide +kernel) rfl rfl (Nat.le_of_ble_eq_true rfl) ?_
  intro p en s m args below meth c ls hsz X V hl
  obtain ⟨QQ, hQQ⟩ : ∃ q, q = MQ below (va_Qv (fun (_ : Unit) => True) (fun _ => kE D (List.flatten [gX0 g aT r, gX8 g aP1 zP1])) (va_A (List.flatten [gX0 g aT zT, gX8 g aP1 zP1]) sz)) args s 0 0 (va_A (List.flatten [gX0 g aT zT, gX8 g aP1 zP1]) sz) := ⟨_, rfl⟩
  rw [← hQQ]
  obtain ⟨AA, hAA⟩ : ∃ q, q = va_A (List.flatten [gX0 g aT zT, gX8 g aP1 zP1]) sz := ⟨_, rfl⟩
  rw [← hAA] at V
  unfold p_X0_about at h
  refine lv_aload_n X.1 X.2.1 dX0_about_0 rfl (lv_at hl 0 rfl) ?_
  refine lv_aload_n X.1 X.2.1 dX0_about_1 rfl (lv_at hl 1 rfl) ?_
  refine lv_iconst (v := (0 : Int32)) X.1 X.2.1 dX0_about_2 (by decide) ?_
  obtain ⟨x8, hx8, h⟩ := kb_of h
  refine s_callVv (segs' := [gX0 g aT x8, gX8 g aP1 zP1]) (ci := 0) (i0 := 0) X V (c_X0_atOne l D g aT aP1 zT zP1 (0 : Int32) x8 hx8) w_X0_24 ⟨Nat.le_of_ble_eq_true rfl, Nat.le_of_ble_eq_true rfl⟩ ⟨Nat.zero_le _, Nat.zero_le _⟩ rfl rfl rfl rfl [0, 1] rfl rfl ⟨gX0_fst, rfl, trivial⟩ rfl rfl hl.1 (Nat.le_of_ble_eq_true rfl) dX0_about_3 (fun H locs V => ?_)
  refine lv_iconst (v := (1 : Int32)) X.1 X.2.1 dX0_about_6 (by decide) ?_
  refine lv_istore_n (lv' := [(2, .int (1 : Int32)), (0, .ref (aT 0)), (1, .ref (aP1 0))]) X.1 X.2.1 dX0_about_7 rfl hl (by decide) rfl (fun ls hl => ?_)
  obtain ⟨x9, hx9, h⟩ := kb_of h
  refine (kitr_go (hd := 8) (body := fun q => p_X0_about_L8 zP1 q) (G := (fun e => ∀ (H : Heap) (locs : List Loc) (ls : Array Slot), kW D AA s.heap H (List.flatten [gX0 g aT e.2.2, gX8 g aP1 zP1]) locs → lv_has ls 3 [(0, .ref (aT 0)), (1, .ref (aP1 0)), (2, .int e.2.1)] → W p l en (kR 5 130) s m args below meth c H locs 0 0 QQ (F0 m e.1 ls []))) (fun s10 e11 hb12 hG13 => ?_) kF _ x9 hx9 ?_) _ _ _ V (lv_sub hl [1, 2, 0] rfl)
  · intro H locs ls V hl
    show W p l en (kR 5 130) s m args below meth c H locs 0 0 QQ (F0 m 8 ls [])
    have h : p_X0_about_L8 zP1 s10 = some e11 := hb12
    unfold p_X0_about_L8 at h
    have V : kW D AA s.heap H (List.flatten [gX0 g aT s10.2, gX8 g aP1 zP1]) locs := V
    have hl : lv_has ls 3 [(0, .ref (aT 0)), (1, .ref (aP1 0)), (2, .int s10.1)] := hl
    refine lv_iload_n X.1 X.2.1 dX0_about_8 rfl (lv_at hl 2 rfl) ?_
    refine lv_aload_n X.1 X.2.1 dX0_about_9 rfl (lv_at hl 1 rfl) ?_
    obtain ⟨x14, hx14, h⟩ := kb_of h
    refine s_callVi (segs' := [gX0 g aT s10.2, gX8 g aP1 zP1]) (ci := 8) (i0 := 0) X V (c_X8_count l D g aP1 zP1 x14 hx14) w_X0_28 ⟨Nat.le_of_ble_eq_true rfl, Nat.le_of_ble_eq_true rfl⟩ ⟨Nat.zero_le _, Nat.zero_le _⟩ rfl rfl rfl rfl [1] rfl rfl (kFst_refl _) rfl rfl hl.1 (Nat.le_of_ble_eq_true rfl) dX0_about_10 (fun H locs V => ?_)
    refine lv_icmp_ge (tgt := 37) X.1 X.2.1 dX0_about_13 (by decide) (fun hc => ?_) (fun hc => ?_)
    · replace h := kif_t hc h
      obtain rfl := Option.some.inj h
      exact hG13 _ _ _ V (lv_sub hl [0, 1, 2] rfl)
    · replace h := kif_f hc h
      refine lv_aload_n X.1 X.2.1 dX0_about_16 rfl (lv_at hl 0 rfl) ?_
      refine lv_aload_n X.1 X.2.1 dX0_about_17 rfl (lv_at hl 1 rfl) ?_
      refine lv_iload_n X.1 X.2.1 dX0_about_18 rfl (lv_at hl 2 rfl) ?_
      obtain ⟨x15, hx15, h⟩ := kb_of h
      refine s_callVi (segs' := [gX0 g aT s10.2, gX8 g aP1 zP1]) (ci := 0) (i0 := 0) X V (c_X0_isOutside l D g aT aP1 s10.2 zP1 s10.1 x15 hx15) w_X0_32 ⟨Nat.le_of_ble_eq_true rfl, Nat.le_of_ble_eq_true rfl⟩ ⟨Nat.zero_le _, Nat.zero_le _⟩ rfl rfl rfl rfl [0, 1] rfl rfl (kFst_refl _) rfl rfl hl.1 (Nat.le_of_ble_eq_true rfl) dX0_about_19 (fun H locs V => ?_)
      refine lv_if_eq (tgt := 31) X.1 X.2.1 dX0_about_22 (by decide) (fun hc => ?_) (fun hc => ?_)
      · replace h := kif_t hc h
        obtain ⟨y16, ey16⟩ : ∃ y : Int32, y = (s10.1 + (1 : Int32)) := ⟨_, rfl⟩
        replace h := kl_of ey16 h
        refine lv_iinc (v := y16) (lv' := [(2, .int y16), (0, .ref (aT 0)), (1, .ref (aP1 0))]) X.1 X.2.1 dX0_about_31 hl (k := 2) rfl (by rw [ey16]; rfl) (by decide) rfl (fun ls hl => ?_)
        refine lv_goto (tgt := 8) X.1 X.2.1 dX0_about_34 (by decide) ?_
        obtain rfl := Option.some.inj h
        exact hG13 _ _ _ V (lv_sub hl [1, 2, 0] rfl)
      · replace h := kif_f hc h
        refine lv_aload_n X.1 X.2.1 dX0_about_25 rfl (lv_at hl 0 rfl) ?_
        refine lv_aload_n X.1 X.2.1 dX0_about_26 rfl (lv_at hl 1 rfl) ?_
        refine lv_iload_n X.1 X.2.1 dX0_about_27 rfl (lv_at hl 2 rfl) ?_
        obtain ⟨x17, hx17, h⟩ := kb_of h
        refine s_callVv (segs' := [gX0 g aT x17, gX8 g aP1 zP1]) (ci := 0) (i0 := 0) X V (c_X0_aboutWithOne l D g aT aP1 s10.2 zP1 s10.1 x17 hx17) w_X0_36 ⟨Nat.le_of_ble_eq_true rfl, Nat.le_of_ble_eq_true rfl⟩ ⟨Nat.zero_le _, Nat.zero_le _⟩ rfl rfl rfl rfl [0, 1] rfl rfl ⟨gX0_fst, rfl, trivial⟩ rfl rfl hl.1 (Nat.le_of_ble_eq_true rfl) dX0_about_28 (fun H locs V => ?_)
        obtain ⟨y18, ey18⟩ : ∃ y : Int32, y = (s10.1 + (1 : Int32)) := ⟨_, rfl⟩
        replace h := kl_of ey18 h
        refine lv_iinc (v := y18) (lv' := [(2, .int y18), (0, .ref (aT 0)), (1, .ref (aP1 0))]) X.1 X.2.1 dX0_about_31 hl (k := 2) rfl (by rw [ey18]; rfl) (by decide) rfl (fun ls hl => ?_)
        refine lv_goto (tgt := 8) X.1 X.2.1 dX0_about_34 (by decide) ?_
        obtain rfl := Option.some.inj h
        exact hG13 _ _ _ V (lv_sub hl [1, 2, 0] rfl)
  · intro H locs ls V hl
    have V : kW D AA s.heap H (List.flatten [gX0 g aT x9.2.2, gX8 g aP1 zP1]) locs := V
    have hl : lv_has ls 3 [(0, .ref (aT 0)), (1, .ref (aP1 0)), (2, .int x9.2.1)] := hl
    obtain ⟨hc, h⟩ := kg_of h
    refine W.eq (g2 := F0 m 37 ls []) (by rw [hc]) ?_
    obtain rfl := Option.some.inj h
    rw [hAA] at V
    rw [hQQ]
    exact k_vret X V dX0_about_37

def p_X0_sizeAbove (zT : tX0) : Option (Int64) :=
  some (((zT.2.2.2.1 * zT.2.2.2.1) + (zT.2.2.2.2.1 * zT.2.2.2.2.1)))
set_option maxHeartbeats 4000000 in
set_option maxRecDepth 100000 in
theorem c_X0_sizeAbove (l : Launch) (D : va_G) (g : kG) (aT : Nat → Nat) (zT : tX0) (r : Int64) (h : p_X0_sizeAbove zT = some r) : kMl l yX0_sizeAbove cX0_sizeAbove 1 (some .long) (kR 0 0) D (kty g) [.ref (aT 0)] (List.flatten [gX0 g aT zT]) r (List.flatten [gX0 g aT zT]) := by
  intro sz
  refine k_enter (lv := [(0, .ref (aT 0))]) RX0 (by decide +kernel) rfl rfl (Nat.le_of_ble_eq_true rfl) ?_
  intro p en s m args below meth c ls hsz X V hl
  obtain ⟨QQ, hQQ⟩ : ∃ q, q = MQ below (va_Ql (fun r' (_ : Unit) => r' = r) (fun _ => kE D (List.flatten [gX0 g aT zT])) (va_A (List.flatten [gX0 g aT zT]) sz)) args s 0 0 (va_A (List.flatten [gX0 g aT zT]) sz) := ⟨_, rfl⟩
  rw [← hQQ]
  obtain ⟨AA, hAA⟩ : ∃ q, q = va_A (List.flatten [gX0 g aT zT]) sz := ⟨_, rfl⟩
  rw [← hAA] at V
  unfold p_X0_sizeAbove at h
  refine lv_aload_n X.1 X.2.1 dX0_sizeAbove_0 rfl (lv_at hl 0 rfl) ?_
  refine gf_X0_68 (i := 0) X V rfl dX0_sizeAbove_1 ?_
  refine lv_aload_n X.1 X.2.1 dX0_sizeAbove_4 rfl (lv_at hl 0 rfl) ?_
  refine gf_X0_68 (i := 0) X V rfl dX0_sizeAbove_5 ?_
  refine lv_lmul X.1 X.2.1 dX0_sizeAbove_8 ?_
  refine lv_aload_n X.1 X.2.1 dX0_sizeAbove_9 rfl (lv_at hl 0 rfl) ?_
  refine gf_X0_71 (i := 0) X V rfl dX0_sizeAbove_10 ?_
  refine lv_aload_n X.1 X.2.1 dX0_sizeAbove_13 rfl (lv_at hl 0 rfl) ?_
  refine gf_X0_71 (i := 0) X V rfl dX0_sizeAbove_14 ?_
  refine lv_lmul X.1 X.2.1 dX0_sizeAbove_17 ?_
  refine lv_ladd X.1 X.2.1 dX0_sizeAbove_18 ?_
  obtain rfl := Option.some.inj h
  rw [hAA] at V
  rw [hQQ]
  exact k_lret X V rfl dX0_sizeAbove_19

def p_X0_sizeBelow (zT : tX0) : Option (Int64) :=
  some ((zT.2.2.1 * zT.2.2.1))
set_option maxHeartbeats 4000000 in
set_option maxRecDepth 100000 in
theorem c_X0_sizeBelow (l : Launch) (D : va_G) (g : kG) (aT : Nat → Nat) (zT : tX0) (r : Int64) (h : p_X0_sizeBelow zT = some r) : kMl l yX0_sizeBelow cX0_sizeBelow 1 (some .long) (kR 0 0) D (kty g) [.ref (aT 0)] (List.flatten [gX0 g aT zT]) r (List.flatten [gX0 g aT zT]) := by
  intro sz
  refine k_enter (lv := [(0, .ref (aT 0))]) RX0 (by decide +kernel) rfl rfl (Nat.le_of_ble_eq_true rfl) ?_
  intro p en s m args below meth c ls hsz X V hl
  obtain ⟨QQ, hQQ⟩ : ∃ q, q = MQ below (va_Ql (fun r' (_ : Unit) => r' = r) (fun _ => kE D (List.flatten [gX0 g aT zT])) (va_A (List.flatten [gX0 g aT zT]) sz)) args s 0 0 (va_A (List.flatten [gX0 g aT zT]) sz) := ⟨_, rfl⟩
  rw [← hQQ]
  obtain ⟨AA, hAA⟩ : ∃ q, q = va_A (List.flatten [gX0 g aT zT]) sz := ⟨_, rfl⟩
  rw [← hAA] at V
  unfold p_X0_sizeBelow at h
  refine lv_aload_n X.1 X.2.1 dX0_sizeBelow_0 rfl (lv_at hl 0 rfl) ?_
  refine gf_X0_9 (i := 0) X V rfl dX0_sizeBelow_1 ?_
  refine lv_aload_n X.1 X.2.1 dX0_sizeBelow_4 rfl (lv_at hl 0 rfl) ?_
  refine gf_X0_9 (i := 0) X V rfl dX0_sizeBelow_5 ?_
  refine lv_lmul X.1 X.2.1 dX0_sizeBelow_8 ?_
  obtain rfl := Option.some.inj h
  rw [hAA] at V
  rw [hQQ]
  exact k_lret X V rfl dX0_sizeBelow_9

def p_X0_size (zT : tX0) (zP1 : tX3) : Option (tX3) :=
  kb (p_X0_sizeAbove zT) (fun x1 => kb (p_X0_sizeBelow zT) (fun x2 => kb (p_X3_set zP1 x1 x2) (fun x3 => some x3)))
set_option maxHeartbeats 4000000 in
set_option maxRecDepth 100000 in
theorem c_X0_size (l : Launch) (D : va_G) (g : kG) (aT : Nat → Nat) (aP1 : Nat → Nat) (zT : tX0) (zP1 : tX3) (r : tX3) (h : p_X0_size zT zP1 = some r) : kMv l yX0_size cX0_size 2 none (kR 3 78) D (kty g) [.ref (aT 0), .ref (aP1 0)] (List.flatten [gX0 g aT zT, gX3 g aP1 zP1]) (List.flatten [gX0 g aT zT, gX3 g aP1 r]) := by
  intro sz
  refine k_enter (lv := [(0, .ref (aT 0)), (1, .ref (aP1 0))]) RX0 (by decide +kernel) rfl rfl (Nat.le_of_ble_eq_true rfl) ?_
  intro p en s m args below meth c ls hsz X V hl
  obtain ⟨QQ, hQQ⟩ : ∃ q, q = MQ below (va_Qv (fun (_ : Unit) => True) (fun _ => kE D (List.flatten [gX0 g aT zT, gX3 g aP1 r])) (va_A (List.flatten [gX0 g aT zT, gX3 g aP1 zP1]) sz)) args s 0 0 (va_A (List.flatten [gX0 g aT zT, gX3 g aP1 zP1]) sz) := ⟨_, rfl⟩
  rw [← hQQ]
  obtain ⟨AA, hAA⟩ : ∃ q, q = va_A (List.flatten [gX0 g aT zT, gX3 g aP1 zP1]) sz := ⟨_, rfl⟩
  rw [← hAA] at V
  unfold p_X0_size at h
  refine lv_aload_n X.1 X.2.1 dX0_size_0 rfl (lv_at hl 1 rfl) ?_
  refine lv_aload_n X.1 X.2.1 dX0_size_1 rfl (lv_at hl 0 rfl) ?_
  obtain ⟨x4, hx4, h⟩ := kb_of h
  refine s_callVl (segs' := [gX0 g aT zT, gX3 g aP1 zP1]) (ci := 0) (i0 := 0) X V (c_X0_sizeAbove l D g aT zT x4 hx4) w_X0_84 ⟨Nat.le_of_ble_eq_true rfl, Nat.le_of_ble_eq_true rfl⟩ ⟨Nat.zero_le _, Nat.zero_le _⟩ rfl rfl rfl rfl [0] rfl rfl (kFst_refl _) rfl rfl hl.1 (Nat.le_of_ble_eq_true rfl) dX0_size_2 (fun H locs V => ?_)
  refine lv_aload_n X.1 X.2.1 dX0_size_5 rfl (lv_at hl 0 rfl) ?_
  obtain ⟨x5, hx5, h⟩ := kb_of h
  refine s_callVl (segs' := [gX0 g aT zT, gX3 g aP1 zP1]) (ci := 0) (i0 := 0) X V (c_X0_sizeBelow l D g aT zT x5 hx5) w_X0_88 ⟨Nat.le_of_ble_eq_true rfl, Nat.le_of_ble_eq_true rfl⟩ ⟨Nat.zero_le _, Nat.zero_le _⟩ rfl rfl rfl rfl [0] rfl rfl (kFst_refl _) rfl rfl hl.1 (Nat.le_of_ble_eq_true rfl) dX0_size_6 (fun H locs V => ?_)
  obtain ⟨x6, hx6, h⟩ := kb_of h
  refine s_callVv (segs' := [gX0 g aT zT, gX3 g aP1 x6]) (ci := 3) (i0 := 0) X V (c_X3_set l D g aP1 zP1 x4 x5 x6 hx6) w_X0_91 ⟨Nat.le_of_ble_eq_true rfl, Nat.le_of_ble_eq_true rfl⟩ ⟨Nat.zero_le _, Nat.zero_le _⟩ rfl rfl rfl rfl [1] rfl rfl ⟨gX3_fst, trivial⟩ rfl rfl hl.1 (Nat.le_of_ble_eq_true rfl) dX0_size_9 (fun H locs V => ?_)
  obtain rfl := Option.some.inj h
  rw [hAA] at V
  rw [hQQ]
  exact k_vret X V dX0_size_12

def p_X0_middleX (zT : tX0) (zP1 : tX3) : Option (tX3) :=
  kb (p_X3_set zP1 ((zT.1.toInt64 * zT.2.2.1) + zT.2.2.2.1) zT.2.2.1) (fun x1 => some x1)
set_option maxHeartbeats 4000000 in
set_option maxRecDepth 100000 in
theorem c_X0_middleX (l : Launch) (D : va_G) (g : kG) (aT : Nat → Nat) (aP1 : Nat → Nat) (zT : tX0) (zP1 : tX3) (r : tX3) (h : p_X0_middleX zT zP1 = some r) : kMv l yX0_middleX cX0_middleX 2 none (kR 3 78) D (kty g) [.ref (aT 0), .ref (aP1 0)] (List.flatten [gX0 g aT zT, gX3 g aP1 zP1]) (List.flatten [gX0 g aT zT, gX3 g aP1 r]) := by
  intro sz
  refine k_enter (lv := [(0, .ref (aT 0)), (1, .ref (aP1 0))]) RX0 (by decide +kernel) rfl rfl (Nat.le_of_ble_eq_true rfl) ?_
  intro p en s m args below meth c ls hsz X V hl
  obtain ⟨QQ, hQQ⟩ : ∃ q, q = MQ below (va_Qv (fun (_ : Unit) => True) (fun _ => kE D (List.flatten [gX0 g aT zT, gX3 g aP1 r])) (va_A (List.flatten [gX0 g aT zT, gX3 g aP1 zP1]) sz)) args s 0 0 (va_A (List.flatten [gX0 g aT zT, gX3 g aP1 zP1]) sz) := ⟨_, rfl⟩
  rw [← hQQ]
  obtain ⟨AA, hAA⟩ : ∃ q, q = va_A (List.flatten [gX0 g aT zT, gX3 g aP1 zP1]) sz := ⟨_, rfl⟩
  rw [← hAA] at V
  unfold p_X0_middleX at h
  refine lv_aload_n X.1 X.2.1 dX0_middleX_0 rfl (lv_at hl 1 rfl) ?_
  refine lv_aload_n X.1 X.2.1 dX0_middleX_1 rfl (lv_at hl 0 rfl) ?_
  refine gf_X0_61 (i := 0) X V rfl dX0_middleX_2 ?_
  refine lv_i2l X.1 X.2.1 dX0_middleX_5 rfl ?_
  refine lv_aload_n X.1 X.2.1 dX0_middleX_6 rfl (lv_at hl 0 rfl) ?_
  refine gf_X0_9 (i := 0) X V rfl dX0_middleX_7 ?_
  refine lv_lmul X.1 X.2.1 dX0_middleX_10 ?_
  refine lv_aload_n X.1 X.2.1 dX0_middleX_11 rfl (lv_at hl 0 rfl) ?_
  refine gf_X0_68 (i := 0) X V rfl dX0_middleX_12 ?_
  refine lv_ladd X.1 X.2.1 dX0_middleX_15 ?_
  refine lv_aload_n X.1 X.2.1 dX0_middleX_16 rfl (lv_at hl 0 rfl) ?_
  refine gf_X0_9 (i := 0) X V rfl dX0_middleX_17 ?_
  obtain ⟨x2, hx2, h⟩ := kb_of h
  refine s_callVv (segs' := [gX0 g aT zT, gX3 g aP1 x2]) (ci := 3) (i0 := 0) X V (c_X3_set l D g aP1 zP1 ((zT.1.toInt64 * zT.2.2.1) + zT.2.2.2.1) zT.2.2.1 x2 hx2) w_X0_91 ⟨Nat.le_of_ble_eq_true rfl, Nat.le_of_ble_eq_true rfl⟩ ⟨Nat.zero_le _, Nat.zero_le _⟩ rfl rfl rfl rfl [1] rfl rfl ⟨gX3_fst, trivial⟩ rfl rfl hl.1 (Nat.le_of_ble_eq_true rfl) dX0_middleX_20 (fun H locs V => ?_)
  obtain rfl := Option.some.inj h
  rw [hAA] at V
  rw [hQQ]
  exact k_vret X V dX0_middleX_23

def p_X0_middleY (zT : tX0) (zP1 : tX3) : Option (tX3) :=
  kb (p_X3_set zP1 ((zT.2.1.toInt64 * zT.2.2.1) + zT.2.2.2.2.1) zT.2.2.1) (fun x1 => some x1)
set_option maxHeartbeats 4000000 in
set_option maxRecDepth 100000 in
theorem c_X0_middleY (l : Launch) (D : va_G) (g : kG) (aT : Nat → Nat) (aP1 : Nat → Nat) (zT : tX0) (zP1 : tX3) (r : tX3) (h : p_X0_middleY zT zP1 = some r) : kMv l yX0_middleY cX0_middleY 2 none (kR 3 78) D (kty g) [.ref (aT 0), .ref (aP1 0)] (List.flatten [gX0 g aT zT, gX3 g aP1 zP1]) (List.flatten [gX0 g aT zT, gX3 g aP1 r]) := by
  intro sz
  refine k_enter (lv := [(0, .ref (aT 0)), (1, .ref (aP1 0))]) RX0 (by decide +kernel) rfl rfl (Nat.le_of_ble_eq_true rfl) ?_
  intro p en s m args below meth c ls hsz X V hl
  obtain ⟨QQ, hQQ⟩ : ∃ q, q = MQ below (va_Qv (fun (_ : Unit) => True) (fun _ => kE D (List.flatten [gX0 g aT zT, gX3 g aP1 r])) (va_A (List.flatten [gX0 g aT zT, gX3 g aP1 zP1]) sz)) args s 0 0 (va_A (List.flatten [gX0 g aT zT, gX3 g aP1 zP1]) sz) := ⟨_, rfl⟩
  rw [← hQQ]
  obtain ⟨AA, hAA⟩ : ∃ q, q = va_A (List.flatten [gX0 g aT zT, gX3 g aP1 zP1]) sz := ⟨_, rfl⟩
  rw [← hAA] at V
  unfold p_X0_middleY at h
  refine lv_aload_n X.1 X.2.1 dX0_middleY_0 rfl (lv_at hl 1 rfl) ?_
  refine lv_aload_n X.1 X.2.1 dX0_middleY_1 rfl (lv_at hl 0 rfl) ?_
  refine gf_X0_65 (i := 0) X V rfl dX0_middleY_2 ?_
  refine lv_i2l X.1 X.2.1 dX0_middleY_5 rfl ?_
  refine lv_aload_n X.1 X.2.1 dX0_middleY_6 rfl (lv_at hl 0 rfl) ?_
  refine gf_X0_9 (i := 0) X V rfl dX0_middleY_7 ?_
  refine lv_lmul X.1 X.2.1 dX0_middleY_10 ?_
  refine lv_aload_n X.1 X.2.1 dX0_middleY_11 rfl (lv_at hl 0 rfl) ?_
  refine gf_X0_71 (i := 0) X V rfl dX0_middleY_12 ?_
  refine lv_ladd X.1 X.2.1 dX0_middleY_15 ?_
  refine lv_aload_n X.1 X.2.1 dX0_middleY_16 rfl (lv_at hl 0 rfl) ?_
  refine gf_X0_9 (i := 0) X V rfl dX0_middleY_17 ?_
  obtain ⟨x2, hx2, h⟩ := kb_of h
  refine s_callVv (segs' := [gX0 g aT zT, gX3 g aP1 x2]) (ci := 3) (i0 := 0) X V (c_X3_set l D g aP1 zP1 ((zT.2.1.toInt64 * zT.2.2.1) + zT.2.2.2.2.1) zT.2.2.1 x2 hx2) w_X0_91 ⟨Nat.le_of_ble_eq_true rfl, Nat.le_of_ble_eq_true rfl⟩ ⟨Nat.zero_le _, Nat.zero_le _⟩ rfl rfl rfl rfl [1] rfl rfl ⟨gX3_fst, trivial⟩ rfl rfl hl.1 (Nat.le_of_ble_eq_true rfl) dX0_middleY_20 (fun H locs V => ?_)
  obtain rfl := Option.some.inj h
  rw [hAA] at V
  rw [hQQ]
  exact k_vret X V dX0_middleY_23

def p_X0_sizeAgainst (zT : tX0) (zP1 : tX0) : Option (Int32) :=
  kb (p_X0_sizeAbove zT) (fun x1 => kb (p_X0_sizeBelow zT) (fun x2 => kb (p_X0_sizeAbove zP1) (fun x3 => kb (p_X0_sizeBelow zP1) (fun x4 => kb (p_X3_compare x1 x2 x3 x4) (fun x5 => some x5)))))
set_option maxHeartbeats 4000000 in
set_option maxRecDepth 100000 in
theorem c_X0_sizeAgainst (l : Launch) (D : va_G) (g : kG) (aT : Nat → Nat) (aP1 : Nat → Nat) (zT : tX0) (zP1 : tX0) (r : Int32) (h : p_X0_sizeAgainst zT zP1 = some r) : kMi l yX0_sizeAgainst cX0_sizeAgainst 2 (some .int) (kR 2 69) D (kty g) [.ref (aT 0), .ref (aP1 0)] (List.flatten [gX0 g aT zT, gX0 g aP1 zP1]) r (List.flatten [gX0 g aT zT, gX0 g aP1 zP1]) := by
  intro sz
  refine k_enter (lv := [(0, .ref (aT 0)), (1, .ref (aP1 0))]) RX0 (by decide +kernel) rfl rfl (Nat.le_of_ble_eq_true rfl) ?_
  intro p en s m args below meth c ls hsz X V hl
  obtain ⟨QQ, hQQ⟩ : ∃ q, q = MQ below (va_Qi (fun r' (_ : Unit) => r' = r) (fun _ => kE D (List.flatten [gX0 g aT zT, gX0 g aP1 zP1])) (va_A (List.flatten [gX0 g aT zT, gX0 g aP1 zP1]) sz)) args s 0 0 (va_A (List.flatten [gX0 g aT zT, gX0 g aP1 zP1]) sz) := ⟨_, rfl⟩
  rw [← hQQ]
  obtain ⟨AA, hAA⟩ : ∃ q, q = va_A (List.flatten [gX0 g aT zT, gX0 g aP1 zP1]) sz := ⟨_, rfl⟩
  rw [← hAA] at V
  unfold p_X0_sizeAgainst at h
  refine lv_aload_n X.1 X.2.1 dX0_sizeAgainst_0 rfl (lv_at hl 0 rfl) ?_
  obtain ⟨x6, hx6, h⟩ := kb_of h
  refine s_callVl (segs' := [gX0 g aT zT, gX0 g aP1 zP1]) (ci := 0) (i0 := 0) X V (c_X0_sizeAbove l D g aT zT x6 hx6) w_X0_84 ⟨Nat.le_of_ble_eq_true rfl, Nat.le_of_ble_eq_true rfl⟩ ⟨Nat.zero_le _, Nat.zero_le _⟩ rfl rfl rfl rfl [0] rfl rfl (kFst_refl _) rfl rfl hl.1 (Nat.le_of_ble_eq_true rfl) dX0_sizeAgainst_1 (fun H locs V => ?_)
  refine lv_aload_n X.1 X.2.1 dX0_sizeAgainst_4 rfl (lv_at hl 0 rfl) ?_
  obtain ⟨x7, hx7, h⟩ := kb_of h
  refine s_callVl (segs' := [gX0 g aT zT, gX0 g aP1 zP1]) (ci := 0) (i0 := 0) X V (c_X0_sizeBelow l D g aT zT x7 hx7) w_X0_88 ⟨Nat.le_of_ble_eq_true rfl, Nat.le_of_ble_eq_true rfl⟩ ⟨Nat.zero_le _, Nat.zero_le _⟩ rfl rfl rfl rfl [0] rfl rfl (kFst_refl _) rfl rfl hl.1 (Nat.le_of_ble_eq_true rfl) dX0_sizeAgainst_5 (fun H locs V => ?_)
  refine lv_aload_n X.1 X.2.1 dX0_sizeAgainst_8 rfl (lv_at hl 1 rfl) ?_
  obtain ⟨x8, hx8, h⟩ := kb_of h
  refine s_callVl (segs' := [gX0 g aT zT, gX0 g aP1 zP1]) (ci := 0) (i0 := 0) X V (c_X0_sizeAbove l D g aP1 zP1 x8 hx8) w_X0_84 ⟨Nat.le_of_ble_eq_true rfl, Nat.le_of_ble_eq_true rfl⟩ ⟨Nat.zero_le _, Nat.zero_le _⟩ rfl rfl rfl rfl [1] rfl rfl (kFst_refl _) rfl rfl hl.1 (Nat.le_of_ble_eq_true rfl) dX0_sizeAgainst_9 (fun H locs V => ?_)
  refine lv_aload_n X.1 X.2.1 dX0_sizeAgainst_12 rfl (lv_at hl 1 rfl) ?_
  obtain ⟨x9, hx9, h⟩ := kb_of h
  refine s_callVl (segs' := [gX0 g aT zT, gX0 g aP1 zP1]) (ci := 0) (i0 := 0) X V (c_X0_sizeBelow l D g aP1 zP1 x9 hx9) w_X0_88 ⟨Nat.le_of_ble_eq_true rfl, Nat.le_of_ble_eq_true rfl⟩ ⟨Nat.zero_le _, Nat.zero_le _⟩ rfl rfl rfl rfl [1] rfl rfl (kFst_refl _) rfl rfl hl.1 (Nat.le_of_ble_eq_true rfl) dX0_sizeAgainst_13 (fun H locs V => ?_)
  obtain ⟨x10, hx10, h⟩ := kb_of h
  refine s_callSi (segs' := [gX0 g aT zT, gX0 g aP1 zP1]) X V (c_X3_compare l D g x6 x7 x8 x9 x10 hx10) w_X0_97 ⟨Nat.le_of_ble_eq_true rfl, Nat.le_of_ble_eq_true rfl⟩ ⟨Nat.zero_le _, Nat.zero_le _⟩ rfl [] rfl rfl (kFst_refl _) rfl rfl hl.1 (Nat.le_of_ble_eq_true rfl) dX0_sizeAgainst_16 (fun H locs V => ?_)
  obtain rfl := Option.some.inj h
  rw [hAA] at V
  rw [hQQ]
  exact k_iret X V rfl dX0_sizeAgainst_19
