def p_X8_x (zT : tX8) (v1 : Int32) : Option (Int32) :=
  kif (v1 < 0) (some (0 : Int32)) (kif (zT.2.2.2 ≤ v1) (some (0 : Int32)) (kg (kii v1 41) (some ((zT.1 v1.toNatClampNeg)))))
set_option maxHeartbeats 4000000 in
set_option maxRecDepth 100000 in
theorem c_X8_x (l : Launch) (D : va_G) (g : kG) (aT : Nat → Nat) (zT : tX8) (v1 : Int32) (r : Int32) (h : p_X8_x zT v1 = some r) : kMi l yX8_x cX8_x 2 (some .int) (kR 0 0) D (kty g) [.ref (aT 0), .int v1] (List.flatten [gX8 g aT zT]) r (List.flatten [gX8 g aT zT]) := by
  intro sz
  refine k_enter (lv := [(0, .ref (aT 0)), (1, .int v1)]) RX8 (by decide +kernel) rfl rfl (Nat.le_of_ble_eq_true rfl) ?_
  intro p en s m args below meth c ls hsz X V hl
  obtain ⟨QQ, hQQ⟩ : ∃ q, q = MQ below (va_Qi (fun r' (_ : Unit) => r' = r) (fun _ => kE D (List.flatten [gX8 g aT zT])) (va_A (List.flatten [gX8 g aT zT]) sz)) args s 0 0 (va_A (List.flatten [gX8 g aT zT]) sz) := ⟨_, rfl⟩
  rw [← hQQ]
  obtain ⟨AA, hAA⟩ : ∃ q, q = va_A (List.flatten [gX8 g aT zT]) sz := ⟨_, rfl⟩
  rw [← hAA] at V
  unfold p_X8_x at h
  refine lv_iload_n X.1 X.2.1 dX8_x_0 rfl (lv_at hl 1 rfl) ?_
  refine lv_if_lt (tgt := 21) X.1 X.2.1 dX8_x_1 (by decide) (fun hc => ?_) (fun hc => ?_)
  · replace h := kif_t hc h
    refine lv_iconst (v := (0 : Int32)) X.1 X.2.1 dX8_x_21 (by decide) ?_
    obtain rfl := Option.some.inj h
    rw [hAA] at V
    rw [hQQ]
    exact k_iret X V rfl dX8_x_22
  · replace h := kif_f hc h
    refine lv_iload_n X.1 X.2.1 dX8_x_4 rfl (lv_at hl 1 rfl) ?_
    refine lv_aload_n X.1 X.2.1 dX8_x_5 rfl (lv_at hl 0 rfl) ?_
    refine gf_X8_21 (i := 0) X V rfl dX8_x_6 ?_
    refine lv_icmp_ge (tgt := 21) X.1 X.2.1 dX8_x_9 (by decide) (fun hc => ?_) (fun hc => ?_)
    · replace h := kif_t hc h
      refine lv_iconst (v := (0 : Int32)) X.1 X.2.1 dX8_x_21 (by decide) ?_
      obtain rfl := Option.some.inj h
      rw [hAA] at V
      rw [hQQ]
      exact k_iret X V rfl dX8_x_22
    · replace h := kif_f hc h
      refine lv_aload_n X.1 X.2.1 dX8_x_12 rfl (lv_at hl 0 rfl) ?_
      refine gf_X8_11 (i := 0) X V rfl dX8_x_13 ?_
      refine lv_iload_n X.1 X.2.1 dX8_x_16 rfl (lv_at hl 1 rfl) ?_
      obtain ⟨hc, h⟩ := kg_of h
      refine al_X8_0 (i := 0) X V rfl hc dX8_x_17 ?_
      refine lv_goto (tgt := 22) X.1 X.2.1 dX8_x_18 (by decide) ?_
      obtain rfl := Option.some.inj h
      rw [hAA] at V
      rw [hQQ]
      exact k_iret X V rfl dX8_x_22

def p_X8_y (zT : tX8) (v1 : Int32) : Option (Int32) :=
  kif (v1 < 0) (some (0 : Int32)) (kif (zT.2.2.2 ≤ v1) (some (0 : Int32)) (kg (kii v1 41) (some ((zT.2.1 v1.toNatClampNeg)))))
set_option maxHeartbeats 4000000 in
set_option maxRecDepth 100000 in
theorem c_X8_y (l : Launch) (D : va_G) (g : kG) (aT : Nat → Nat) (zT : tX8) (v1 : Int32) (r : Int32) (h : p_X8_y zT v1 = some r) : kMi l yX8_y cX8_y 2 (some .int) (kR 0 0) D (kty g) [.ref (aT 0), .int v1] (List.flatten [gX8 g aT zT]) r (List.flatten [gX8 g aT zT]) := by
  intro sz
  refine k_enter (lv := [(0, .ref (aT 0)), (1, .int v1)]) RX8 (by decide +kernel) rfl rfl (Nat.le_of_ble_eq_true rfl) ?_
  intro p en s m args below meth c ls hsz X V hl
  obtain ⟨QQ, hQQ⟩ : ∃ q, q = MQ below (va_Qi (fun r' (_ : Unit) => r' = r) (fun _ => kE D (List.flatten [gX8 g aT zT])) (va_A (List.flatten [gX8 g aT zT]) sz)) args s 0 0 (va_A (List.flatten [gX8 g aT zT]) sz) := ⟨_, rfl⟩
  rw [← hQQ]
  obtain ⟨AA, hAA⟩ : ∃ q, q = va_A (List.flatten [gX8 g aT zT]) sz := ⟨_, rfl⟩
  rw [← hAA] at V
  unfold p_X8_y at h
  refine lv_iload_n X.1 X.2.1 dX8_y_0 rfl (lv_at hl 1 rfl) ?_
  refine lv_if_lt (tgt := 21) X.1 X.2.1 dX8_y_1 (by decide) (fun hc => ?_) (fun hc => ?_)
  · replace h := kif_t hc h
    refine lv_iconst (v := (0 : Int32)) X.1 X.2.1 dX8_y_21 (by decide) ?_
    obtain rfl := Option.some.inj h
    rw [hAA] at V
    rw [hQQ]
    exact k_iret X V rfl dX8_y_22
  · replace h := kif_f hc h
    refine lv_iload_n X.1 X.2.1 dX8_y_4 rfl (lv_at hl 1 rfl) ?_
    refine lv_aload_n X.1 X.2.1 dX8_y_5 rfl (lv_at hl 0 rfl) ?_
    refine gf_X8_21 (i := 0) X V rfl dX8_y_6 ?_
    refine lv_icmp_ge (tgt := 21) X.1 X.2.1 dX8_y_9 (by decide) (fun hc => ?_) (fun hc => ?_)
    · replace h := kif_t hc h
      refine lv_iconst (v := (0 : Int32)) X.1 X.2.1 dX8_y_21 (by decide) ?_
      obtain rfl := Option.some.inj h
      rw [hAA] at V
      rw [hQQ]
      exact k_iret X V rfl dX8_y_22
    · replace h := kif_f hc h
      refine lv_aload_n X.1 X.2.1 dX8_y_12 rfl (lv_at hl 0 rfl) ?_
      refine gf_X8_15 (i := 0) X V rfl dX8_y_13 ?_
      refine lv_iload_n X.1 X.2.1 dX8_y_16 rfl (lv_at hl 1 rfl) ?_
      obtain ⟨hc, h⟩ := kg_of h
      refine al_X8_1 (i := 0) X V rfl hc dX8_y_17 ?_
      refine lv_goto (tgt := 22) X.1 X.2.1 dX8_y_18 (by decide) ?_
      obtain rfl := Option.some.inj h
      rw [hAA] at V
      rw [hQQ]
      exact k_iret X V rfl dX8_y_22

def p_X8_count (zT : tX8) : Option (Int32) :=
  some zT.2.2.2
set_option maxHeartbeats 4000000 in
set_option maxRecDepth 100000 in
theorem c_X8_count (l : Launch) (D : va_G) (g : kG) (aT : Nat → Nat) (zT : tX8) (r : Int32) (h : p_X8_count zT = some r) : kMi l yX8_count cX8_count 1 (some .int) (kR 0 0) D (kty g) [.ref (aT 0)] (List.flatten [gX8 g aT zT]) r (List.flatten [gX8 g aT zT]) := by
  intro sz
  refine k_enter (lv := [(0, .ref (aT 0))]) RX8 (by decide +kernel) rfl rfl (Nat.le_of_ble_eq_true rfl) ?_
  intro p en s m args below meth c ls hsz X V hl
  obtain ⟨QQ, hQQ⟩ : ∃ q, q = MQ below (va_Qi (fun r' (_ : Unit) => r' = r) (fun _ => kE D (List.flatten [gX8 g aT zT])) (va_A (List.flatten [gX8 g aT zT]) sz)) args s 0 0 (va_A (List.flatten [gX8 g aT zT]) sz) := ⟨_, rfl⟩
  rw [← hQQ]
  obtain ⟨AA, hAA⟩ : ∃ q, q = va_A (List.flatten [gX8 g aT zT]) sz := ⟨_, rfl⟩
  rw [← hAA] at V
  unfold p_X8_count at h
  refine lv_aload_n X.1 X.2.1 dX8_count_0 rfl (lv_at hl 0 rfl) ?_
  refine gf_X8_21 (i := 0) X V rfl dX8_count_1 ?_
  obtain rfl := Option.some.inj h
  rw [hAA] at V
  rw [hQQ]
  exact k_iret X V rfl dX8_count_4

def p_X8_number (zT : tX8) (v1 : Int32) : Option (Int32) :=
  kif (v1 < 0) (some (-1 : Int32)) (kif (zT.2.2.2 ≤ v1) (some (-1 : Int32)) (kg (kii v1 41) (some ((zT.2.2.1 v1.toNatClampNeg)))))
set_option maxHeartbeats 4000000 in
set_option maxRecDepth 100000 in
theorem c_X8_number (l : Launch) (D : va_G) (g : kG) (aT : Nat → Nat) (zT : tX8) (v1 : Int32) (r : Int32) (h : p_X8_number zT v1 = some r) : kMi l yX8_number cX8_number 2 (some .int) (kR 0 0) D (kty g) [.ref (aT 0), .int v1] (List.flatten [gX8 g aT zT]) r (List.flatten [gX8 g aT zT]) := by
  intro sz
  refine k_enter (lv := [(0, .ref (aT 0)), (1, .int v1)]) RX8 (by decide +kernel) rfl rfl (Nat.le_of_ble_eq_true rfl) ?_
  intro p en s m args below meth c ls hsz X V hl
  obtain ⟨QQ, hQQ⟩ : ∃ q, q = MQ below (va_Qi (fun r' (_ : Unit) => r' = r) (fun _ => kE D (List.flatten [gX8 g aT zT])) (va_A (List.flatten [gX8 g aT zT]) sz)) args s 0 0 (va_A (List.flatten [gX8 g aT zT]) sz) := ⟨_, rfl⟩
  rw [← hQQ]
  obtain ⟨AA, hAA⟩ : ∃ q, q = va_A (List.flatten [gX8 g aT zT]) sz := ⟨_, rfl⟩
  rw [← hAA] at V
  unfold p_X8_number at h
  refine lv_iload_n X.1 X.2.1 dX8_number_0 rfl (lv_at hl 1 rfl) ?_
  refine lv_if_lt (tgt := 21) X.1 X.2.1 dX8_number_1 (by decide) (fun hc => ?_) (fun hc => ?_)
  · replace h := kif_t hc h
    refine lv_iconst (v := (-1 : Int32)) X.1 X.2.1 dX8_number_21 (by decide) ?_
    obtain rfl := Option.some.inj h
    rw [hAA] at V
    rw [hQQ]
    exact k_iret X V rfl dX8_number_22
  · replace h := kif_f hc h
    refine lv_iload_n X.1 X.2.1 dX8_number_4 rfl (lv_at hl 1 rfl) ?_
    refine lv_aload_n X.1 X.2.1 dX8_number_5 rfl (lv_at hl 0 rfl) ?_
    refine gf_X8_21 (i := 0) X V rfl dX8_number_6 ?_
    refine lv_icmp_ge (tgt := 21) X.1 X.2.1 dX8_number_9 (by decide) (fun hc => ?_) (fun hc => ?_)
    · replace h := kif_t hc h
      refine lv_iconst (v := (-1 : Int32)) X.1 X.2.1 dX8_number_21 (by decide) ?_
      obtain rfl := Option.some.inj h
      rw [hAA] at V
      rw [hQQ]
      exact k_iret X V rfl dX8_number_22
    · replace h := kif_f hc h
      refine lv_aload_n X.1 X.2.1 dX8_number_12 rfl (lv_at hl 0 rfl) ?_
      refine gf_X8_18 (i := 0) X V rfl dX8_number_13 ?_
      refine lv_iload_n X.1 X.2.1 dX8_number_16 rfl (lv_at hl 1 rfl) ?_
      obtain ⟨hc, h⟩ := kg_of h
      refine al_X8_2 (i := 0) X V rfl hc dX8_number_17 ?_
      refine lv_goto (tgt := 22) X.1 X.2.1 dX8_number_18 (by decide) ?_
      obtain rfl := Option.some.inj h
      rw [hAA] at V
      rw [hQQ]
      exact k_iret X V rfl dX8_number_22

def p_X8_distance (zT : tX8) (v1 : Int32) (v2 : Int32) : Option (Int32) :=
  kb (p_X8_x zT v2) (fun x1 => kb (p_X8_x zT v1) (fun x2 => kl (x1 - x2) (fun y3 => kb (p_X8_y zT v2) (fun x4 => kb (p_X8_y zT v1) (fun x5 => kl (x4 - x5) (fun y6 => some (((y3 * y3) + (y6 * y6)))))))))
set_option maxHeartbeats 4000000 in
set_option maxRecDepth 100000 in
theorem c_X8_distance (l : Launch) (D : va_G) (g : kG) (aT : Nat → Nat) (zT : tX8) (v1 : Int32) (v2 : Int32) (r : Int32) (h : p_X8_distance zT v1 v2 = some r) : kMi l yX8_distance cX8_distance 5 (some .int) (kR 1 21) D (kty g) [.ref (aT 0), .int v1, .int v2] (List.flatten [gX8 g aT zT]) r (List.flatten [gX8 g aT zT]) := by
  intro sz
  refine k_enter (lv := [(0, .ref (aT 0)), (1, .int v1), (2, .int v2)]) RX8 (by decide +kernel) rfl rfl (Nat.le_of_ble_eq_true rfl) ?_
  intro p en s m args below meth c ls hsz X V hl
  obtain ⟨QQ, hQQ⟩ : ∃ q, q = MQ below (va_Qi (fun r' (_ : Unit) => r' = r) (fun _ => kE D (List.flatten [gX8 g aT zT])) (va_A (List.flatten [gX8 g aT zT]) sz)) args s 0 0 (va_A (List.flatten [gX8 g aT zT]) sz) := ⟨_, rfl⟩
  rw [← hQQ]
  obtain ⟨AA, hAA⟩ : ∃ q, q = va_A (List.flatten [gX8 g aT zT]) sz := ⟨_, rfl⟩
  rw [← hAA] at V
  unfold p_X8_distance at h
  refine lv_aload_n X.1 X.2.1 dX8_distance_0 rfl (lv_at hl 0 rfl) ?_
  refine lv_iload_n X.1 X.2.1 dX8_distance_1 rfl (lv_at hl 2 rfl) ?_
  obtain ⟨x7, hx7, h⟩ := kb_of h
  refine s_callVi (segs' := [gX8 g aT zT]) (ci := 8) (i0 := 0) X V (c_X8_x l D g aT zT v2 x7 hx7) w_X8_42 ⟨Nat.le_of_ble_eq_true rfl, Nat.le_of_ble_eq_true rfl⟩ ⟨Nat.zero_le _, Nat.zero_le _⟩ rfl rfl rfl rfl [0] rfl rfl (kFst_refl _) rfl rfl hl.1 (Nat.le_of_ble_eq_true rfl) dX8_distance_2 (fun H locs V => ?_)
  refine lv_aload_n X.1 X.2.1 dX8_distance_5 rfl (lv_at hl 0 rfl) ?_
  refine lv_iload_n X.1 X.2.1 dX8_distance_6 rfl (lv_at hl 1 rfl) ?_
  obtain ⟨x8, hx8, h⟩ := kb_of h
  refine s_callVi (segs' := [gX8 g aT zT]) (ci := 8) (i0 := 0) X V (c_X8_x l D g aT zT v1 x8 hx8) w_X8_42 ⟨Nat.le_of_ble_eq_true rfl, Nat.le_of_ble_eq_true rfl⟩ ⟨Nat.zero_le _, Nat.zero_le _⟩ rfl rfl rfl rfl [0] rfl rfl (kFst_refl _) rfl rfl hl.1 (Nat.le_of_ble_eq_true rfl) dX8_distance_7 (fun H locs V => ?_)
  refine lv_isub X.1 X.2.1 dX8_distance_10 ?_
  refine lv_topi (fun y9 ey9 => ?_)
  replace h := kl_of ey9 h
  refine lv_istore_n (lv' := [(3, .int y9), (0, .ref (aT 0)), (1, .int v1), (2, .int v2)]) X.1 X.2.1 dX8_distance_11 rfl hl (by decide) rfl (fun ls hl => ?_)
  refine lv_aload_n X.1 X.2.1 dX8_distance_12 rfl (lv_at hl 1 rfl) ?_
  refine lv_iload_n X.1 X.2.1 dX8_distance_13 rfl (lv_at hl 3 rfl) ?_
  obtain ⟨x10, hx10, h⟩ := kb_of h
  refine s_callVi (segs' := [gX8 g aT zT]) (ci := 8) (i0 := 0) X V (c_X8_y l D g aT zT v2 x10 hx10) w_X8_46 ⟨Nat.le_of_ble_eq_true rfl, Nat.le_of_ble_eq_true rfl⟩ ⟨Nat.zero_le _, Nat.zero_le _⟩ rfl rfl rfl rfl [0] rfl rfl (kFst_refl _) rfl rfl hl.1 (Nat.le_of_ble_eq_true rfl) dX8_distance_14 (fun H locs V => ?_)
  refine lv_aload_n X.1 X.2.1 dX8_distance_17 rfl (lv_at hl 1 rfl) ?_
  refine lv_iload_n X.1 X.2.1 dX8_distance_18 rfl (lv_at hl 2 rfl) ?_
  obtain ⟨x11, hx11, h⟩ := kb_of h
  refine s_callVi (segs' := [gX8 g aT zT]) (ci := 8) (i0 := 0) X V (c_X8_y l D g aT zT v1 x11 hx11) w_X8_46 ⟨Nat.le_of_ble_eq_true rfl, Nat.le_of_ble_eq_true rfl⟩ ⟨Nat.zero_le _, Nat.zero_le _⟩ rfl rfl rfl rfl [0] rfl rfl (kFst_refl _) rfl rfl hl.1 (Nat.le_of_ble_eq_true rfl) dX8_distance_19 (fun H locs V => ?_)
  refine lv_isub X.1 X.2.1 dX8_distance_22 ?_
  refine lv_topi (fun y12 ey12 => ?_)
  replace h := kl_of ey12 h
  refine lv_istore (lv' := [(4, .int y12), (3, .int y9), (0, .ref (aT 0)), (1, .int v1), (2, .int v2)]) X.1 X.2.1 dX8_distance_23 hl (by decide) rfl (fun ls hl => ?_)
  refine lv_iload_n X.1 X.2.1 dX8_distance_25 rfl (lv_at hl 1 rfl) ?_
  refine lv_iload_n X.1 X.2.1 dX8_distance_26 rfl (lv_at hl 1 rfl) ?_
  refine lv_imul X.1 X.2.1 dX8_distance_27 ?_
  refine lv_iload X.1 X.2.1 dX8_distance_28 (lv_at hl 0 rfl) ?_
  refine lv_iload X.1 X.2.1 dX8_distance_30 (lv_at hl 0 rfl) ?_
  refine lv_imul X.1 X.2.1 dX8_distance_32 ?_
  refine lv_iadd X.1 X.2.1 dX8_distance_33 ?_
  obtain rfl := Option.some.inj h
  rw [hAA] at V
  rw [hQQ]
  exact k_iret X V rfl dX8_distance_34

def p_X8_copy_L7 (zP1 : tX8) (s : Int32 × tX8) : Option (Nat × (Int32 × tX8)) :=
  kif (zP1.2.2.2 ≤ s.1) (some (73, (s.1, s.2))) (kif ((41 : Int32) ≤ s.1) (some (73, (s.1, s.2))) (kg (kii s.1 41) (kg (kii s.1 41) (kl ((upd s.2.1 (s.1).toNatClampNeg (zP1.1 s.1.toNatClampNeg)), s.2.2) (fun z2 => kg (kii s.1 41) (kg (kii s.1 41) (kl (z2.1, (upd z2.2.1 (s.1).toNatClampNeg (zP1.2.1 s.1.toNatClampNeg)), z2.2.2) (fun z3 => kg (kii s.1 41) (kg (kii s.1 41) (kl (z3.1, z3.2.1, (upd z3.2.2.1 (s.1).toNatClampNeg (zP1.2.2.1 s.1.toNatClampNeg)), z3.2.2.2) (fun z4 => kl (z4.1, z4.2.1, z4.2.2.1, (z4.2.2.2 + (1 : Int32))) (fun z5 => kl (s.1 + (1 : Int32)) (fun y6 => some (7, (y6, z5)))))))))))))))
def p_X8_copy (zT : tX8) (zP1 : tX8) : Option (tX8) :=
  kl (zT.1, zT.2.1, zT.2.2.1, (0 : Int32)) (fun z1 => kb (kitr 7 (fun q => p_X8_copy_L7 zP1 q) kF ((0 : Int32), z1)) (fun x7 => kg (x7.1 = 73) (some x7.2.2)))
set_option maxHeartbeats 4000000 in
set_option maxRecDepth 100000 in
theorem c_X8_copy (l : Launch) (D : va_G) (g : kG) (aT : Nat → Nat) (aP1 : Nat → Nat) (zT : tX8) (zP1 : tX8) (r : tX8) (h : p_X8_copy zT zP1 = some r) : kMv l yX8_copy cX8_copy 3 none (kR 0 0) D (kty g) [.ref (aT 0), .ref (aP1 0)] (List.flatten [gX8 g aT zT, gX8 g aP1 zP1]) (List.flatten [gX8 g aT r, gX8 g aP1 zP1]) := by
  intro sz
  refine k_enter (lv := [(0, .ref (aT 0)), (1, .ref (aP1 0))]) RX8 (by decide +kernel) rfl rfl (Nat.le_of_ble_eq_true rfl) ?_
  intro p en s m args below meth c ls hsz X V hl
  obtain ⟨QQ, hQQ⟩ : ∃ q, q = MQ below (va_Qv (fun (_ : Unit) => True) (fun _ => kE D (List.flatten [gX8 g aT r, gX8 g aP1 zP1])) (va_A (List.flatten [gX8 g aT zT, gX8 g aP1 zP1]) sz)) args s 0 0 (va_A (List.flatten [gX8 g aT zT, gX8 g aP1 zP1]) sz) := ⟨_, rfl⟩
  rw [← hQQ]
  obtain ⟨AA, hAA⟩ : ∃ q, q = va_A (List.flatten [gX8 g aT zT, gX8 g aP1 zP1]) sz := ⟨_, rfl⟩
  rw [← hAA] at V
  unfold p_X8_copy at h
  refine lv_aload_n X.1 X.2.1 dX8_copy_0 rfl (lv_at hl 0 rfl) ?_
  refine lv_iconst (v := (0 : Int32)) X.1 X.2.1 dX8_copy_1 (by decide) ?_
  refine pf_X8_21 (i := 0) X V rfl dX8_copy_2 (fun H locs V => ?_)
  obtain ⟨z8, ez8⟩ : ∃ y, y = (zT.1, zT.2.1, zT.2.2.1, (0 : Int32)) := ⟨_, rfl⟩
  replace h := kl_of ez8 h
  have V : kW D AA s.heap H (List.flatten [gX8 g aT z8, gX8 g aP1 zP1]) locs := by rw [ez8]; exact V
  refine lv_iconst (v := (0 : Int32)) X.1 X.2.1 dX8_copy_5 (by decide) ?_
  refine lv_istore_n (lv' := [(2, .int (0 : Int32)), (0, .ref (aT 0)), (1, .ref (aP1 0))]) X.1 X.2.1 dX8_copy_6 rfl hl (by decide) rfl (fun ls hl => ?_)
  obtain ⟨x9, hx9, h⟩ := kb_of h
  refine (kitr_go (hd := 7) (body := fun q => p_X8_copy_L7 zP1 q) (G := (fun e => ∀ (H : Heap) (locs : List Loc) (ls : Array Slot), kW D AA s.heap H (List.flatten [gX8 g aT e.2.2, gX8 g aP1 zP1]) locs → lv_has ls 3 [(0, .ref (aT 0)), (1, .ref (aP1 0)), (2, .int e.2.1)] → W p l en (kR 0 0) s m args below meth c H locs 0 0 QQ (F0 m e.1 ls []))) (fun s10 e11 hb12 hG13 => ?_) kF _ x9 hx9 ?_) _ _ _ V (lv_sub hl [1, 2, 0] rfl)
  · intro H locs ls V hl
    show W p l en (kR 0 0) s m args below meth c H locs 0 0 QQ (F0 m 7 ls [])
    have h : p_X8_copy_L7 zP1 s10 = some e11 := hb12
    unfold p_X8_copy_L7 at h
    have V : kW D AA s.heap H (List.flatten [gX8 g aT s10.2, gX8 g aP1 zP1]) locs := V
    have hl : lv_has ls 3 [(0, .ref (aT 0)), (1, .ref (aP1 0)), (2, .int s10.1)] := hl
    refine lv_iload_n X.1 X.2.1 dX8_copy_7 rfl (lv_at hl 2 rfl) ?_
    refine lv_aload_n X.1 X.2.1 dX8_copy_8 rfl (lv_at hl 1 rfl) ?_
    refine gf_X8_21 (i := 1) X V rfl dX8_copy_9 ?_
    refine lv_icmp_ge (tgt := 73) X.1 X.2.1 dX8_copy_12 (by decide) (fun hc => ?_) (fun hc => ?_)
    · replace h := kif_t hc h
      obtain rfl := Option.some.inj h
      exact hG13 _ _ _ V (lv_sub hl [0, 1, 2] rfl)
    · replace h := kif_f hc h
      refine lv_iload_n X.1 X.2.1 dX8_copy_15 rfl (lv_at hl 2 rfl) ?_
      refine lv_bipush (v := (41 : Int32)) X.1 X.2.1 dX8_copy_16 (by decide) ?_
      refine lv_icmp_ge (tgt := 73) X.1 X.2.1 dX8_copy_18 (by decide) (fun hc => ?_) (fun hc => ?_)
      · replace h := kif_t hc h
        obtain rfl := Option.some.inj h
        exact hG13 _ _ _ V (lv_sub hl [0, 1, 2] rfl)
      · replace h := kif_f hc h
        refine lv_aload_n X.1 X.2.1 dX8_copy_21 rfl (lv_at hl 0 rfl) ?_
        refine gf_X8_11 (i := 0) X V rfl dX8_copy_22 ?_
        refine lv_iload_n X.1 X.2.1 dX8_copy_25 rfl (lv_at hl 2 rfl) ?_
        refine lv_aload_n X.1 X.2.1 dX8_copy_26 rfl (lv_at hl 1 rfl) ?_
        refine gf_X8_11 (i := 1) X V rfl dX8_copy_27 ?_
        refine lv_iload_n X.1 X.2.1 dX8_copy_30 rfl (lv_at hl 2 rfl) ?_
        obtain ⟨hc, h⟩ := kg_of h
        refine al_X8_0 (i := 1) X V rfl hc dX8_copy_31 ?_
        obtain ⟨hc, h⟩ := kg_of h
        refine as_X8_0 (i := 0) X V rfl hc dX8_copy_32 (fun H locs V => ?_)
        obtain ⟨z14, ez14⟩ : ∃ y, y = ((upd s10.2.1 (s10.1).toNatClampNeg (zP1.1 s10.1.toNatClampNeg)), s10.2.2) := ⟨_, rfl⟩
        replace h := kl_of ez14 h
        have V : kW D AA s.heap H (List.flatten [gX8 g aT z14, gX8 g aP1 zP1]) locs := by rw [ez14]; exact V
        refine lv_aload_n X.1 X.2.1 dX8_copy_33 rfl (lv_at hl 0 rfl) ?_
        refine gf_X8_15 (i := 0) X V rfl dX8_copy_34 ?_
        refine lv_iload_n X.1 X.2.1 dX8_copy_37 rfl (lv_at hl 2 rfl) ?_
        refine lv_aload_n X.1 X.2.1 dX8_copy_38 rfl (lv_at hl 1 rfl) ?_
        refine gf_X8_15 (i := 1) X V rfl dX8_copy_39 ?_
        refine lv_iload_n X.1 X.2.1 dX8_copy_42 rfl (lv_at hl 2 rfl) ?_
        obtain ⟨hc, h⟩ := kg_of h
        refine al_X8_1 (i := 1) X V rfl hc dX8_copy_43 ?_
        obtain ⟨hc, h⟩ := kg_of h
        refine as_X8_1 (i := 0) X V rfl hc dX8_copy_44 (fun H locs V => ?_)
        obtain ⟨z15, ez15⟩ : ∃ y, y = (z14.1, (upd z14.2.1 (s10.1).toNatClampNeg (zP1.2.1 s10.1.toNatClampNeg)), z14.2.2) := ⟨_, rfl⟩
        replace h := kl_of ez15 h
        have V : kW D AA s.heap H (List.flatten [gX8 g aT z15, gX8 g aP1 zP1]) locs := by rw [ez15]; exact V
        refine lv_aload_n X.1 X.2.1 dX8_copy_45 rfl (lv_at hl 0 rfl) ?_
        refine gf_X8_18 (i := 0) X V rfl dX8_copy_46 ?_
        refine lv_iload_n X.1 X.2.1 dX8_copy_49 rfl (lv_at hl 2 rfl) ?_
        refine lv_aload_n X.1 X.2.1 dX8_copy_50 rfl (lv_at hl 1 rfl) ?_
        refine gf_X8_18 (i := 1) X V rfl dX8_copy_51 ?_
        refine lv_iload_n X.1 X.2.1 dX8_copy_54 rfl (lv_at hl 2 rfl) ?_
        obtain ⟨hc, h⟩ := kg_of h
        refine al_X8_2 (i := 1) X V rfl hc dX8_copy_55 ?_
        obtain ⟨hc, h⟩ := kg_of h
        refine as_X8_2 (i := 0) X V rfl hc dX8_copy_56 (fun H locs V => ?_)
        obtain ⟨z16, ez16⟩ : ∃ y, y = (z15.1, z15.2.1, (upd z15.2.2.1 (s10.1).toNatClampNeg (zP1.2.2.1 s10.1.toNatClampNeg)), z15.2.2.2) := ⟨_, rfl⟩
        replace h := kl_of ez16 h
        have V : kW D AA s.heap H (List.flatten [gX8 g aT z16, gX8 g aP1 zP1]) locs := by rw [ez16]; exact V
        refine lv_aload_n X.1 X.2.1 dX8_copy_57 rfl (lv_at hl 0 rfl) ?_
        refine lv_dup X.1 X.2.1 dX8_copy_58 rfl ?_
        refine gf_X8_21 (i := 0) X V rfl dX8_copy_59 ?_
        refine lv_iconst (v := (1 : Int32)) X.1 X.2.1 dX8_copy_62 (by decide) ?_
        refine lv_iadd X.1 X.2.1 dX8_copy_63 ?_
        refine pf_X8_21 (i := 0) X V rfl dX8_copy_64 (fun H locs V => ?_)
        obtain ⟨z17, ez17⟩ : ∃ y, y = (z16.1, z16.2.1, z16.2.2.1, (z16.2.2.2 + (1 : Int32))) := ⟨_, rfl⟩
        replace h := kl_of ez17 h
        have V : kW D AA s.heap H (List.flatten [gX8 g aT z17, gX8 g aP1 zP1]) locs := by rw [ez17]; exact V
        obtain ⟨y18, ey18⟩ : ∃ y : Int32, y = (s10.1 + (1 : Int32)) := ⟨_, rfl⟩
        replace h := kl_of ey18 h
        refine lv_iinc (v := y18) (lv' := [(2, .int y18), (0, .ref (aT 0)), (1, .ref (aP1 0))]) X.1 X.2.1 dX8_copy_67 hl (k := 2) rfl (by rw [ey18]; rfl) (by decide) rfl (fun ls hl => ?_)
        refine lv_goto (tgt := 7) X.1 X.2.1 dX8_copy_70 (by decide) ?_
        obtain rfl := Option.some.inj h
        exact hG13 _ _ _ V (lv_sub hl [1, 2, 0] rfl)
  · intro H locs ls V hl
    have V : kW D AA s.heap H (List.flatten [gX8 g aT x9.2.2, gX8 g aP1 zP1]) locs := V
    have hl : lv_has ls 3 [(0, .ref (aT 0)), (1, .ref (aP1 0)), (2, .int x9.2.1)] := hl
    obtain ⟨hc, h⟩ := kg_of h
    refine W.eq (g2 := F0 m 73 ls []) (by rw [hc]) ?_
    obtain rfl := Option.some.inj h
    rw [hAA] at V
    rw [hQQ]
    exact k_vret X V dX8_copy_73

def p_X8_move (zT : tX8) (v1 : Int32) (v2 : Int32) : Option (tX8) :=
  kif (v1 < 0) (some zT) (kif ((41 : Int32) ≤ v1) (some zT) (kif (v2 < 0) (some zT) (kif (v2 < (41 : Int32)) (kg (kii v1 41) (kg (kii v2 41) (kl ((upd zT.1 (v2).toNatClampNeg (zT.1 v1.toNatClampNeg)), zT.2) (fun z1 => kg (kii v1 41) (kg (kii v2 41) (kl (z1.1, (upd z1.2.1 (v2).toNatClampNeg (z1.2.1 v1.toNatClampNeg)), z1.2.2) (fun z2 => kg (kii v1 41) (kg (kii v2 41) (kl (z2.1, z2.2.1, (upd z2.2.2.1 (v2).toNatClampNeg (z2.2.2.1 v1.toNatClampNeg)), z2.2.2.2) (fun z3 => some z3)))))))))) (some zT))))
set_option maxHeartbeats 4000000 in
set_option maxRecDepth 100000 in
theorem c_X8_move (l : Launch) (D : va_G) (g : kG) (aT : Nat → Nat) (zT : tX8) (v1 : Int32) (v2 : Int32) (r : tX8) (h : p_X8_move zT v1 v2 = some r) : kMv l yX8_move cX8_move 3 none (kR 0 0) D (kty g) [.ref (aT 0), .int v1, .int v2] (List.flatten [gX8 g aT zT]) (List.flatten [gX8 g aT r]) := by
  intro sz
  refine k_enter (lv := [(0, .ref (aT 0)), (1, .int v1), (2, .int v2)]) RX8 (by decide +kernel) rfl rfl (Nat.le_of_ble_eq_true rfl) ?_
  intro p en s m args below meth c ls hsz X V hl
  obtain ⟨QQ, hQQ⟩ : ∃ q, q = MQ below (va_Qv (fun (_ : Unit) => True) (fun _ => kE D (List.flatten [gX8 g aT r])) (va_A (List.flatten [gX8 g aT zT]) sz)) args s 0 0 (va_A (List.flatten [gX8 g aT zT]) sz) := ⟨_, rfl⟩
  rw [← hQQ]
  obtain ⟨AA, hAA⟩ : ∃ q, q = va_A (List.flatten [gX8 g aT zT]) sz := ⟨_, rfl⟩
  rw [← hAA] at V
  unfold p_X8_move at h
  refine lv_iload_n X.1 X.2.1 dX8_move_0 rfl (lv_at hl 1 rfl) ?_
  refine lv_if_lt (tgt := 20) X.1 X.2.1 dX8_move_1 (by decide) (fun hc => ?_) (fun hc => ?_)
  · replace h := kif_t hc h
    obtain rfl := Option.some.inj h
    rw [hAA] at V
    rw [hQQ]
    exact k_vret X V dX8_move_20
  · replace h := kif_f hc h
    refine lv_iload_n X.1 X.2.1 dX8_move_4 rfl (lv_at hl 1 rfl) ?_
    refine lv_bipush (v := (41 : Int32)) X.1 X.2.1 dX8_move_5 (by decide) ?_
    refine lv_icmp_ge (tgt := 20) X.1 X.2.1 dX8_move_7 (by decide) (fun hc => ?_) (fun hc => ?_)
    · replace h := kif_t hc h
      obtain rfl := Option.some.inj h
      rw [hAA] at V
      rw [hQQ]
      exact k_vret X V dX8_move_20
    · replace h := kif_f hc h
      refine lv_iload_n X.1 X.2.1 dX8_move_10 rfl (lv_at hl 2 rfl) ?_
      refine lv_if_lt (tgt := 20) X.1 X.2.1 dX8_move_11 (by decide) (fun hc => ?_) (fun hc => ?_)
      · replace h := kif_t hc h
        obtain rfl := Option.some.inj h
        rw [hAA] at V
        rw [hQQ]
        exact k_vret X V dX8_move_20
      · replace h := kif_f hc h
        refine lv_iload_n X.1 X.2.1 dX8_move_14 rfl (lv_at hl 2 rfl) ?_
        refine lv_bipush (v := (41 : Int32)) X.1 X.2.1 dX8_move_15 (by decide) ?_
        refine lv_icmp_lt (tgt := 21) X.1 X.2.1 dX8_move_17 (by decide) (fun hc => ?_) (fun hc => ?_)
        · replace h := kif_t hc h
          refine lv_aload_n X.1 X.2.1 dX8_move_21 rfl (lv_at hl 0 rfl) ?_
          refine gf_X8_11 (i := 0) X V rfl dX8_move_22 ?_
          refine lv_iload_n X.1 X.2.1 dX8_move_25 rfl (lv_at hl 2 rfl) ?_
          refine lv_aload_n X.1 X.2.1 dX8_move_26 rfl (lv_at hl 0 rfl) ?_
          refine gf_X8_11 (i := 0) X V rfl dX8_move_27 ?_
          refine lv_iload_n X.1 X.2.1 dX8_move_30 rfl (lv_at hl 1 rfl) ?_
          obtain ⟨hc, h⟩ := kg_of h
          refine al_X8_0 (i := 0) X V rfl hc dX8_move_31 ?_
          obtain ⟨hc, h⟩ := kg_of h
          refine as_X8_0 (i := 0) X V rfl hc dX8_move_32 (fun H locs V => ?_)
          obtain ⟨z4, ez4⟩ : ∃ y, y = ((upd zT.1 (v2).toNatClampNeg (zT.1 v1.toNatClampNeg)), zT.2) := ⟨_, rfl⟩
          replace h := kl_of ez4 h
          have V : kW D AA s.heap H (List.flatten [gX8 g aT z4]) locs := by rw [ez4]; exact V
          refine lv_aload_n X.1 X.2.1 dX8_move_33 rfl (lv_at hl 0 rfl) ?_
          refine gf_X8_15 (i := 0) X V rfl dX8_move_34 ?_
          refine lv_iload_n X.1 X.2.1 dX8_move_37 rfl (lv_at hl 2 rfl) ?_
          refine lv_aload_n X.1 X.2.1 dX8_move_38 rfl (lv_at hl 0 rfl) ?_
          refine gf_X8_15 (i := 0) X V rfl dX8_move_39 ?_
          refine lv_iload_n X.1 X.2.1 dX8_move_42 rfl (lv_at hl 1 rfl) ?_
          obtain ⟨hc, h⟩ := kg_of h
          refine al_X8_1 (i := 0) X V rfl hc dX8_move_43 ?_
          obtain ⟨hc, h⟩ := kg_of h
          refine as_X8_1 (i := 0) X V rfl hc dX8_move_44 (fun H locs V => ?_)
          obtain ⟨z5, ez5⟩ : ∃ y, y = (z4.1, (upd z4.2.1 (v2).toNatClampNeg (z4.2.1 v1.toNatClampNeg)), z4.2.2) := ⟨_, rfl⟩
          replace h := kl_of ez5 h
          have V : kW D AA s.heap H (List.flatten [gX8 g aT z5]) locs := by rw [ez5]; exact V
          refine lv_aload_n X.1 X.2.1 dX8_move_45 rfl (lv_at hl 0 rfl) ?_
          refine gf_X8_18 (i := 0) X V rfl dX8_move_46 ?_
          refine lv_iload_n X.1 X.2.1 dX8_move_49 rfl (lv_at hl 2 rfl) ?_
          refine lv_aload_n X.1 X.2.1 dX8_move_50 rfl (lv_at hl 0 rfl) ?_
          refine gf_X8_18 (i := 0) X V rfl dX8_move_51 ?_
          refine lv_iload_n X.1 X.2.1 dX8_move_54 rfl (lv_at hl 1 rfl) ?_
          obtain ⟨hc, h⟩ := kg_of h
          refine al_X8_2 (i := 0) X V rfl hc dX8_move_55 ?_
          obtain ⟨hc, h⟩ := kg_of h
          refine as_X8_2 (i := 0) X V rfl hc dX8_move_56 (fun H locs V => ?_)
          obtain ⟨z6, ez6⟩ : ∃ y, y = (z5.1, z5.2.1, (upd z5.2.2.1 (v2).toNatClampNeg (z5.2.2.1 v1.toNatClampNeg)), z5.2.2.2) := ⟨_, rfl⟩
          replace h := kl_of ez6 h
          have V : kW D AA s.heap H (List.flatten [gX8 g aT z6]) locs := by rw [ez6]; exact V
          obtain rfl := Option.some.inj h
          rw [hAA] at V
          rw [hQQ]
          exact k_vret X V dX8_move_57
        · replace h := kif_f hc h
          obtain rfl := Option.some.inj h
          rw [hAA] at V
          rw [hQQ]
          exact k_vret X V dX8_move_20

def p_X8_drop_L4 (v1 : Int32) (s : Int32 × Int32 × tX8) : Option (Nat × (Int32 × Int32 × tX8)) :=
  kif (s.2.2.2.2.2 ≤ s.2.1) (some (40, (s.1, s.2.1, s.2.2))) (kg (kii s.2.1 41) (kif ((s.2.2.2.2.1 s.2.1.toNatClampNeg) = v1) (kl (s.2.1 + (1 : Int32)) (fun y1 => some (4, (s.1, y1, s.2.2)))) (kb (p_X8_move s.2.2 s.2.1 s.1) (fun x2 => kl (s.1 + (1 : Int32)) (fun y3 => kl (s.2.1 + (1 : Int32)) (fun y4 => some (4, (y3, y4, x2))))))))
def p_X8_drop (zT : tX8) (v1 : Int32) : Option (tX8) :=
  kb (kitr 4 (fun q => p_X8_drop_L4 v1 q) kF ((0 : Int32), (0 : Int32), zT)) (fun x5 => kg (x5.1 = 40) (kl (x5.2.2.2.1, x5.2.2.2.2.1, x5.2.2.2.2.2.1, x5.2.1) (fun z6 => some z6)))
set_option maxHeartbeats 4000000 in
set_option maxRecDepth 100000 in
theorem c_X8_drop (l : Launch) (D : va_G) (g : kG) (aT : Nat → Nat) (zT : tX8) (v1 : Int32) (r : tX8) (h : p_X8_drop zT v1 = some r) : kMv l yX8_drop cX8_drop 4 none (kR 1 22) D (kty g) [.ref (aT 0), .int v1] (List.flatten [gX8 g aT zT]) (List.flatten [gX8 g aT r]) := by
  intro sz
  refine k_enter (lv := [(0, .ref (aT 0)), (1, .int v1)]) RX8 (by decide +kernel) rfl rfl (Nat.le_of_ble_eq_true rfl) ?_
  intro p en s m args below meth c ls hsz X V hl
  obtain ⟨QQ, hQQ⟩ : ∃ q, q = MQ below (va_Qv (fun (_ : Unit) => True) (fun _ => kE D (List.flatten [gX8 g aT r])) (va_A (List.flatten [gX8 g aT zT]) sz)) args s 0 0 (va_A (List.flatten [gX8 g aT zT]) sz) := ⟨_, rfl⟩
  rw [← hQQ]
  obtain ⟨AA, hAA⟩ : ∃ q, q = va_A (List.flatten [gX8 g aT zT]) sz := ⟨_, rfl⟩
  rw [← hAA] at V
  unfold p_X8_drop at h
  refine lv_iconst (v := (0 : Int32)) X.1 X.2.1 dX8_drop_0 (by decide) ?_
  refine lv_istore_n (lv' := [(2, .int (0 : Int32)), (0, .ref (aT 0)), (1, .int v1)]) X.1 X.2.1 dX8_drop_1 rfl hl (by decide) rfl (fun ls hl => ?_)
  refine lv_iconst (v := (0 : Int32)) X.1 X.2.1 dX8_drop_2 (by decide) ?_
  refine lv_istore_n (lv' := [(3, .int (0 : Int32)), (2, .int (0 : Int32)), (0, .ref (aT 0)), (1, .int v1)]) X.1 X.2.1 dX8_drop_3 rfl hl (by decide) rfl (fun ls hl => ?_)
  obtain ⟨x7, hx7, h⟩ := kb_of h
  refine (kitr_go (hd := 4) (body := fun q => p_X8_drop_L4 v1 q) (G := (fun e => ∀ (H : Heap) (locs : List Loc) (ls : Array Slot), kW D AA s.heap H (List.flatten [gX8 g aT e.2.2.2]) locs → lv_has ls 4 [(0, .ref (aT 0)), (1, .int v1), (2, .int e.2.1), (3, .int e.2.2.1)] → W p l en (kR 1 22) s m args below meth c H locs 0 0 QQ (F0 m e.1 ls []))) (fun s8 e9 hb10 hG11 => ?_) kF _ x7 hx7 ?_) _ _ _ V (lv_sub hl [2, 3, 1, 0] rfl)
  · intro H locs ls V hl
    show W p l en (kR 1 22) s m args below meth c H locs 0 0 QQ (F0 m 4 ls [])
    have h : p_X8_drop_L4 v1 s8 = some e9 := hb10
    unfold p_X8_drop_L4 at h
    have V : kW D AA s.heap H (List.flatten [gX8 g aT s8.2.2]) locs := V
    have hl : lv_has ls 4 [(0, .ref (aT 0)), (1, .int v1), (2, .int s8.1), (3, .int s8.2.1)] := hl
    refine lv_iload_n X.1 X.2.1 dX8_drop_4 rfl (lv_at hl 3 rfl) ?_
    refine lv_aload_n X.1 X.2.1 dX8_drop_5 rfl (lv_at hl 0 rfl) ?_
    refine gf_X8_21 (i := 0) X V rfl dX8_drop_6 ?_
    refine lv_icmp_ge (tgt := 40) X.1 X.2.1 dX8_drop_9 (by decide) (fun hc => ?_) (fun hc => ?_)
    · replace h := kif_t hc h
      obtain rfl := Option.some.inj h
      exact hG11 _ _ _ V (lv_sub hl [0, 1, 2, 3] rfl)
    · replace h := kif_f hc h
      refine lv_aload_n X.1 X.2.1 dX8_drop_12 rfl (lv_at hl 0 rfl) ?_
      refine gf_X8_18 (i := 0) X V rfl dX8_drop_13 ?_
      refine lv_iload_n X.1 X.2.1 dX8_drop_16 rfl (lv_at hl 3 rfl) ?_
      obtain ⟨hc, h⟩ := kg_of h
      refine al_X8_2 (i := 0) X V rfl hc dX8_drop_17 ?_
      refine lv_iload_n X.1 X.2.1 dX8_drop_18 rfl (lv_at hl 1 rfl) ?_
      refine lv_icmp_ne (tgt := 25) X.1 X.2.1 dX8_drop_19 (by decide) (fun hc => ?_) (fun hc => ?_)
      · replace h := kif_f hc h
        refine lv_aload_n X.1 X.2.1 dX8_drop_25 rfl (lv_at hl 0 rfl) ?_
        refine lv_iload_n X.1 X.2.1 dX8_drop_26 rfl (lv_at hl 3 rfl) ?_
        refine lv_iload_n X.1 X.2.1 dX8_drop_27 rfl (lv_at hl 2 rfl) ?_
        obtain ⟨x12, hx12, h⟩ := kb_of h
        refine s_callVv (segs' := [gX8 g aT x12]) (ci := 8) (i0 := 0) X V (c_X8_move l D g aT s8.2.2 s8.2.1 s8.1 x12 hx12) w_X8_38 ⟨Nat.le_of_ble_eq_true rfl, Nat.le_of_ble_eq_true rfl⟩ ⟨Nat.zero_le _, Nat.zero_le _⟩ rfl rfl rfl rfl [0] rfl rfl ⟨gX8_fst, trivial⟩ rfl rfl hl.1 (Nat.le_of_ble_eq_true rfl) dX8_drop_28 (fun H locs V => ?_)
        obtain ⟨y13, ey13⟩ : ∃ y : Int32, y = (s8.1 + (1 : Int32)) := ⟨_, rfl⟩
        replace h := kl_of ey13 h
        refine lv_iinc (v := y13) (lv' := [(2, .int y13), (0, .ref (aT 0)), (1, .int v1), (3, .int s8.2.1)]) X.1 X.2.1 dX8_drop_31 hl (k := 2) rfl (by rw [ey13]; rfl) (by decide) rfl (fun ls hl => ?_)
        obtain ⟨y14, ey14⟩ : ∃ y : Int32, y = (s8.2.1 + (1 : Int32)) := ⟨_, rfl⟩
        replace h := kl_of ey14 h
        refine lv_iinc (v := y14) (lv' := [(3, .int y14), (2, .int y13), (0, .ref (aT 0)), (1, .int v1)]) X.1 X.2.1 dX8_drop_34 hl (k := 3) rfl (by rw [ey14]; rfl) (by decide) rfl (fun ls hl => ?_)
        refine lv_goto (tgt := 4) X.1 X.2.1 dX8_drop_37 (by decide) ?_
        obtain rfl := Option.some.inj h
        exact hG11 _ _ _ V (lv_sub hl [2, 3, 1, 0] rfl)
      · replace h := kif_t hc h
        refine lv_goto (tgt := 34) X.1 X.2.1 dX8_drop_22 (by decide) ?_
        obtain ⟨y15, ey15⟩ : ∃ y : Int32, y = (s8.2.1 + (1 : Int32)) := ⟨_, rfl⟩
        replace h := kl_of ey15 h
        refine lv_iinc (v := y15) (lv' := [(3, .int y15), (0, .ref (aT 0)), (1, .int v1), (2, .int s8.1)]) X.1 X.2.1 dX8_drop_34 hl (k := 3) rfl (by rw [ey15]; rfl) (by decide) rfl (fun ls hl => ?_)
        refine lv_goto (tgt := 4) X.1 X.2.1 dX8_drop_37 (by decide) ?_
        obtain rfl := Option.some.inj h
        exact hG11 _ _ _ V (lv_sub hl [1, 2, 3, 0] rfl)
  · intro H locs ls V hl
    have V : kW D AA s.heap H (List.flatten [gX8 g aT x7.2.2.2]) locs := V
    have hl : lv_has ls 4 [(0, .ref (aT 0)), (1, .int v1), (2, .int x7.2.1), (3, .int x7.2.2.1)] := hl
    obtain ⟨hc, h⟩ := kg_of h
    refine W.eq (g2 := F0 m 40 ls []) (by rw [hc]) ?_
    refine lv_aload_n X.1 X.2.1 dX8_drop_40 rfl (lv_at hl 0 rfl) ?_
    refine lv_iload_n X.1 X.2.1 dX8_drop_41 rfl (lv_at hl 2 rfl) ?_
    refine pf_X8_21 (i := 0) X V rfl dX8_drop_42 (fun H locs V => ?_)
    obtain ⟨z16, ez16⟩ : ∃ y, y = (x7.2.2.2.1, x7.2.2.2.2.1, x7.2.2.2.2.2.1, x7.2.1) := ⟨_, rfl⟩
    replace h := kl_of ez16 h
    have V : kW D AA s.heap H (List.flatten [gX8 g aT z16]) locs := by rw [ez16]; exact V
    obtain rfl := Option.some.inj h
    rw [hAA] at V
    rw [hQQ]
    exact k_vret X V dX8_drop_45

def p_X8_add_L6 (v1 : Int32) (v2 : Int32) (v3 : Int32) (zT : tX8) (s : Int32) : Option (Nat × (Int32)) :=
  kif (s ≤ 0) (some (56, s)) (kg (kii (s - (1 : Int32)) 41) (kif (v1 < (zT.1 ((s - (1 : Int32))).toNatClampNeg)) (kl (s + (-1 : Int32)) (fun y1 => some (6, y1))) (kg (kii (s - (1 : Int32)) 41) (kif ((zT.1 ((s - (1 : Int32))).toNatClampNeg) = v1) (kg (kii (s - (1 : Int32)) 41) (kif ((zT.2.1 ((s - (1 : Int32))).toNatClampNeg) ≤ v2) (some (56, s)) (kl (s + (-1 : Int32)) (fun y2 => some (6, y2))))) (some (56, s))))))
def p_X8_add_L103 (v1 : Int32) (v2 : Int32) (v3 : Int32) (v4 : Int32) (s : Int32 × tX8) : Option (Nat × (Int32 × tX8)) :=
  kif (s.1 ≤ v4) (some (126, (s.1, s.2))) (kb (p_X8_move s.2 (s.1 - (1 : Int32)) s.1) (fun x4 => kl (s.1 + (-1 : Int32)) (fun y5 => some (103, (y5, x4)))))
def p_X8_add_J97 (v1 : Int32) (v2 : Int32) (v3 : Int32) (zT : tX8) (v4 : Int32) : Option (tX8) :=
  kb (kitr 103 (fun q => p_X8_add_L103 v1 v2 v3 v4 q) kF (zT.2.2.2, zT)) (fun x6 => kg (x6.1 = 126) (kg (kii v4 41) (kl ((upd x6.2.2.1 (v4).toNatClampNeg v1), x6.2.2.2) (fun z7 => kg (kii v4 41) (kl (z7.1, (upd z7.2.1 (v4).toNatClampNeg v2), z7.2.2) (fun z8 => kg (kii v4 41) (kl (z8.1, z8.2.1, (upd z8.2.2.1 (v4).toNatClampNeg v3), z8.2.2.2) (fun z9 => kl (z9.1, z9.2.1, z9.2.2.1, (z9.2.2.2 + (1 : Int32))) (fun z10 => some z10)))))))))
def p_X8_add_J56 (v1 : Int32) (v2 : Int32) (v3 : Int32) (zT : tX8) (v4 : Int32) : Option (tX8) :=
  kif ((41 : Int32) ≤ zT.2.2.2) (some zT) (kif (v4 ≤ 0) (p_X8_add_J97 v1 v2 v3 zT v4) (kg (kii (v4 - (1 : Int32)) 41) (kif ((zT.1 ((v4 - (1 : Int32))).toNatClampNeg) = v1) (kg (kii (v4 - (1 : Int32)) 41) (kif ((zT.2.1 ((v4 - (1 : Int32))).toNatClampNeg) = v2) (some zT) (p_X8_add_J97 v1 v2 v3 zT v4))) (p_X8_add_J97 v1 v2 v3 zT v4))))
def p_X8_add (zT : tX8) (v1 : Int32) (v2 : Int32) (v3 : Int32) : Option (tX8) :=
  kb (kitr 6 (fun q => p_X8_add_L6 v1 v2 v3 zT q) kF zT.2.2.2) (fun x3 => kg (x3.1 = 56) (p_X8_add_J56 v1 v2 v3 zT x3.2))
set_option maxHeartbeats 4000000 in
set_option maxRecDepth 100000 in
theorem c_X8_add (l : Launch) (D : va_G) (g : kG) (aT : Nat → Nat) (zT : tX8) (v1 : Int32) (v2 : Int32) (v3 : Int32) (r : tX8) (h : p_X8_add zT v1 v2 v3 = some r) : kMv l yX8_add cX8_add 6 none (kR 1 22) D (kty g) [.ref (aT 0), .int v1, .int v2, .int v3] (List.flatten [gX8 g aT zT]) (List.flatten [gX8 g aT r]) := by
  intro sz
  refine k_enter (lv := [(0, .ref (aT 0)), (1, .int v1), (2, .int v2), (3, .int v3)]) RX8 (by decide +kernel) rfl rfl (Nat.le_of_ble_eq_true rfl) ?_
  intro p en s m args below meth c ls hsz X V hl
  obtain ⟨QQ, hQQ⟩ : ∃ q, q = MQ below (va_Qv (fun (_ : Unit) => True) (fun _ => kE D (List.flatten [gX8 g aT r])) (va_A (List.flatten [gX8 g aT zT]) sz)) args s 0 0 (va_A (List.flatten [gX8 g aT zT]) sz) := ⟨_, rfl⟩
  rw [← hQQ]
  obtain ⟨AA, hAA⟩ : ∃ q, q = va_A (List.flatten [gX8 g aT zT]) sz := ⟨_, rfl⟩
  rw [← hAA] at V
  have J97 : ∀ (zT : tX8) (v4 : Int32) (H : Heap) (locs : List Loc) (ls : Array Slot), p_X8_add_J97 v1 v2 v3 zT v4 = some r → kW D AA s.heap H (List.flatten [gX8 g aT zT]) locs → lv_has ls 6 [(0, .ref (aT 0)), (1, .int v1), (2, .int v2), (3, .int v3), (4, .int v4)] → W p l en (kR 1 22) s m args below meth c H locs 0 0 QQ (F0 m 97 ls []) := by
    intro zT v4 H locs ls h V hl
    unfold p_X8_add_J97 at h
    refine lv_aload_n X.1 X.2.1 dX8_add_97 rfl (lv_at hl 0 rfl) ?_
    refine gf_X8_21 (i := 0) X V rfl dX8_add_98 ?_
    refine lv_istore (lv' := [(5, .int zT.2.2.2), (0, .ref (aT 0)), (1, .int v1), (2, .int v2), (3, .int v3), (4, .int v4)]) X.1 X.2.1 dX8_add_101 hl (by decide) rfl (fun ls hl => ?_)
    obtain ⟨x11, hx11, h⟩ := kb_of h
    refine (kitr_go (hd := 103) (body := fun q => p_X8_add_L103 v1 v2 v3 v4 q) (G := (fun e => ∀ (H : Heap) (locs : List Loc) (ls : Array Slot), kW D AA s.heap H (List.flatten [gX8 g aT e.2.2]) locs → lv_has ls 6 [(0, .ref (aT 0)), (1, .int v1), (2, .int v2), (3, .int v3), (4, .int v4), (5, .int e.2.1)] → W p l en (kR 1 22) s m args below meth c H locs 0 0 QQ (F0 m e.1 ls []))) (fun s12 e13 hb14 hG15 => ?_) kF _ x11 hx11 ?_) _ _ _ V (lv_sub hl [1, 2, 3, 4, 5, 0] rfl)
    · intro H locs ls V hl
      show W p l en (kR 1 22) s m args below meth c H locs 0 0 QQ (F0 m 103 ls [])
      have h : p_X8_add_L103 v1 v2 v3 v4 s12 = some e13 := hb14
      unfold p_X8_add_L103 at h
      have V : kW D AA s.heap H (List.flatten [gX8 g aT s12.2]) locs := V
      have hl : lv_has ls 6 [(0, .ref (aT 0)), (1, .int v1), (2, .int v2), (3, .int v3), (4, .int v4), (5, .int s12.1)] := hl
      refine lv_iload X.1 X.2.1 dX8_add_103 (lv_at hl 5 rfl) ?_
      refine lv_iload X.1 X.2.1 dX8_add_105 (lv_at hl 4 rfl) ?_
      refine lv_icmp_le (tgt := 126) X.1 X.2.1 dX8_add_107 (by decide) (fun hc => ?_) (fun hc => ?_)
      · replace h := kif_t hc h
        obtain rfl := Option.some.inj h
        exact hG15 _ _ _ V (lv_sub hl [0, 1, 2, 3, 4, 5] rfl)
      · replace h := kif_f hc h
        refine lv_aload_n X.1 X.2.1 dX8_add_110 rfl (lv_at hl 0 rfl) ?_
        refine lv_iload X.1 X.2.1 dX8_add_111 (lv_at hl 5 rfl) ?_
        refine lv_iconst (v := (1 : Int32)) X.1 X.2.1 dX8_add_113 (by decide) ?_
        refine lv_isub X.1 X.2.1 dX8_add_114 ?_
        refine lv_iload X.1 X.2.1 dX8_add_115 (lv_at hl 5 rfl) ?_
        obtain ⟨x16, hx16, h⟩ := kb_of h
        refine s_callVv (segs' := [gX8 g aT x16]) (ci := 8) (i0 := 0) X V (c_X8_move l D g aT s12.2 (s12.1 - (1 : Int32)) s12.1 x16 hx16) w_X8_38 ⟨Nat.le_of_ble_eq_true rfl, Nat.le_of_ble_eq_true rfl⟩ ⟨Nat.zero_le _, Nat.zero_le _⟩ rfl rfl rfl rfl [0] rfl rfl ⟨gX8_fst, trivial⟩ rfl rfl hl.1 (Nat.le_of_ble_eq_true rfl) dX8_add_117 (fun H locs V => ?_)
        obtain ⟨y17, ey17⟩ : ∃ y : Int32, y = (s12.1 + (-1 : Int32)) := ⟨_, rfl⟩
        replace h := kl_of ey17 h
        refine lv_iinc (v := y17) (lv' := [(5, .int y17), (0, .ref (aT 0)), (1, .int v1), (2, .int v2), (3, .int v3), (4, .int v4)]) X.1 X.2.1 dX8_add_120 hl (k := 5) rfl (by rw [ey17]; rfl) (by decide) rfl (fun ls hl => ?_)
        refine lv_goto (tgt := 103) X.1 X.2.1 dX8_add_123 (by decide) ?_
        obtain rfl := Option.some.inj h
        exact hG15 _ _ _ V (lv_sub hl [1, 2, 3, 4, 5, 0] rfl)
    · intro H locs ls V hl
      have V : kW D AA s.heap H (List.flatten [gX8 g aT x11.2.2]) locs := V
      have hl : lv_has ls 6 [(0, .ref (aT 0)), (1, .int v1), (2, .int v2), (3, .int v3), (4, .int v4), (5, .int x11.2.1)] := hl
      obtain ⟨hc, h⟩ := kg_of h
      refine W.eq (g2 := F0 m 126 ls []) (by rw [hc]) ?_
      refine lv_aload_n X.1 X.2.1 dX8_add_126 rfl (lv_at hl 0 rfl) ?_
      refine gf_X8_11 (i := 0) X V rfl dX8_add_127 ?_
      refine lv_iload X.1 X.2.1 dX8_add_130 (lv_at hl 4 rfl) ?_
      refine lv_iload_n X.1 X.2.1 dX8_add_132 rfl (lv_at hl 1 rfl) ?_
      obtain ⟨hc, h⟩ := kg_of h
      refine as_X8_0 (i := 0) X V rfl hc dX8_add_133 (fun H locs V => ?_)
      obtain ⟨z18, ez18⟩ : ∃ y, y = ((upd x11.2.2.1 (v4).toNatClampNeg v1), x11.2.2.2) := ⟨_, rfl⟩
      replace h := kl_of ez18 h
      have V : kW D AA s.heap H (List.flatten [gX8 g aT z18]) locs := by rw [ez18]; exact V
      refine lv_aload_n X.1 X.2.1 dX8_add_134 rfl (lv_at hl 0 rfl) ?_
      refine gf_X8_15 (i := 0) X V rfl dX8_add_135 ?_
      refine lv_iload X.1 X.2.1 dX8_add_138 (lv_at hl 4 rfl) ?_
      refine lv_iload_n X.1 X.2.1 dX8_add_140 rfl (lv_at hl 2 rfl) ?_
      obtain ⟨hc, h⟩ := kg_of h
      refine as_X8_1 (i := 0) X V rfl hc dX8_add_141 (fun H locs V => ?_)
      obtain ⟨z19, ez19⟩ : ∃ y, y = (z18.1, (upd z18.2.1 (v4).toNatClampNeg v2), z18.2.2) := ⟨_, rfl⟩
      replace h := kl_of ez19 h
      have V : kW D AA s.heap H (List.flatten [gX8 g aT z19]) locs := by rw [ez19]; exact V
      refine lv_aload_n X.1 X.2.1 dX8_add_142 rfl (lv_at hl 0 rfl) ?_
      refine gf_X8_18 (i := 0) X V rfl dX8_add_143 ?_
      refine lv_iload X.1 X.2.1 dX8_add_146 (lv_at hl 4 rfl) ?_
      refine lv_iload_n X.1 X.2.1 dX8_add_148 rfl (lv_at hl 3 rfl) ?_
      obtain ⟨hc, h⟩ := kg_of h
      refine as_X8_2 (i := 0) X V rfl hc dX8_add_149 (fun H locs V => ?_)
      obtain ⟨z20, ez20⟩ : ∃ y, y = (z19.1, z19.2.1, (upd z19.2.2.1 (v4).toNatClampNeg v3), z19.2.2.2) := ⟨_, rfl⟩
      replace h := kl_of ez20 h
      have V : kW D AA s.heap H (List.flatten [gX8 g aT z20]) locs := by rw [ez20]; exact V
      refine lv_aload_n X.1 X.2.1 dX8_add_150 rfl (lv_at hl 0 rfl) ?_
      refine lv_dup X.1 X.2.1 dX8_add_151 rfl ?_
      refine gf_X8_21 (i := 0) X V rfl dX8_add_152 ?_
      refine lv_iconst (v := (1 : Int32)) X.1 X.2.1 dX8_add_155 (by decide) ?_
      refine lv_iadd X.1 X.2.1 dX8_add_156 ?_
      refine pf_X8_21 (i := 0) X V rfl dX8_add_157 (fun H locs V => ?_)
      obtain ⟨z21, ez21⟩ : ∃ y, y = (z20.1, z20.2.1, z20.2.2.1, (z20.2.2.2 + (1 : Int32))) := ⟨_, rfl⟩
      replace h := kl_of ez21 h
      have V : kW D AA s.heap H (List.flatten [gX8 g aT z21]) locs := by rw [ez21]; exact V
      obtain rfl := Option.some.inj h
      rw [hAA] at V
      rw [hQQ]
      exact k_vret X V dX8_add_160
  have J56 : ∀ (zT : tX8) (v4 : Int32) (H : Heap) (locs : List Loc) (ls : Array Slot), p_X8_add_J56 v1 v2 v3 zT v4 = some r → kW D AA s.heap H (List.flatten [gX8 g aT zT]) locs → lv_has ls 6 [(0, .ref (aT 0)), (1, .int v1), (2, .int v2), (3, .int v3), (4, .int v4)] → W p l en (kR 1 22) s m args below meth c H locs 0 0 QQ (F0 m 56 ls []) := by
    intro zT v4 H locs ls h V hl
    unfold p_X8_add_J56 at h
    refine lv_aload_n X.1 X.2.1 dX8_add_56 rfl (lv_at hl 0 rfl) ?_
    refine gf_X8_21 (i := 0) X V rfl dX8_add_57 ?_
    refine lv_bipush (v := (41 : Int32)) X.1 X.2.1 dX8_add_60 (by decide) ?_
    refine lv_icmp_ge (tgt := 96) X.1 X.2.1 dX8_add_62 (by decide) (fun hc => ?_) (fun hc => ?_)
    · replace h := kif_t hc h
      obtain rfl := Option.some.inj h
      rw [hAA] at V
      rw [hQQ]
      exact k_vret X V dX8_add_96
    · replace h := kif_f hc h
      refine lv_iload X.1 X.2.1 dX8_add_65 (lv_at hl 4 rfl) ?_
      refine lv_if_le (tgt := 97) X.1 X.2.1 dX8_add_67 (by decide) (fun hc => ?_) (fun hc => ?_)
      · replace h := kif_t hc h
        exact J97 zT v4 _ _ _ h V (lv_sub hl [0, 1, 2, 3, 4] rfl)
      · replace h := kif_f hc h
        refine lv_aload_n X.1 X.2.1 dX8_add_70 rfl (lv_at hl 0 rfl) ?_
        refine gf_X8_11 (i := 0) X V rfl dX8_add_71 ?_
        refine lv_iload X.1 X.2.1 dX8_add_74 (lv_at hl 4 rfl) ?_
        refine lv_iconst (v := (1 : Int32)) X.1 X.2.1 dX8_add_76 (by decide) ?_
        refine lv_isub X.1 X.2.1 dX8_add_77 ?_
        obtain ⟨hc, h⟩ := kg_of h
        refine al_X8_0 (i := 0) X V rfl hc dX8_add_78 ?_
        refine lv_iload_n X.1 X.2.1 dX8_add_79 rfl (lv_at hl 1 rfl) ?_
        refine lv_icmp_ne (tgt := 97) X.1 X.2.1 dX8_add_80 (by decide) (fun hc => ?_) (fun hc => ?_)
        · replace h := kif_f hc h
          exact J97 zT v4 _ _ _ h V (lv_sub hl [0, 1, 2, 3, 4] rfl)
        · replace h := kif_t hc h
          refine lv_aload_n X.1 X.2.1 dX8_add_83 rfl (lv_at hl 0 rfl) ?_
          refine gf_X8_15 (i := 0) X V rfl dX8_add_84 ?_
          refine lv_iload X.1 X.2.1 dX8_add_87 (lv_at hl 4 rfl) ?_
          refine lv_iconst (v := (1 : Int32)) X.1 X.2.1 dX8_add_89 (by decide) ?_
          refine lv_isub X.1 X.2.1 dX8_add_90 ?_
          obtain ⟨hc, h⟩ := kg_of h
          refine al_X8_1 (i := 0) X V rfl hc dX8_add_91 ?_
          refine lv_iload_n X.1 X.2.1 dX8_add_92 rfl (lv_at hl 2 rfl) ?_
          refine lv_icmp_ne (tgt := 97) X.1 X.2.1 dX8_add_93 (by decide) (fun hc => ?_) (fun hc => ?_)
          · replace h := kif_f hc h
            exact J97 zT v4 _ _ _ h V (lv_sub hl [0, 1, 2, 3, 4] rfl)
          · replace h := kif_t hc h
            obtain rfl := Option.some.inj h
            rw [hAA] at V
            rw [hQQ]
            exact k_vret X V dX8_add_96
  unfold p_X8_add at h
  refine lv_aload_n X.1 X.2.1 dX8_add_0 rfl (lv_at hl 0 rfl) ?_
  refine gf_X8_21 (i := 0) X V rfl dX8_add_1 ?_
  refine lv_istore (lv' := [(4, .int zT.2.2.2), (0, .ref (aT 0)), (1, .int v1), (2, .int v2), (3, .int v3)]) X.1 X.2.1 dX8_add_4 hl (by decide) rfl (fun ls hl => ?_)
  obtain ⟨x22, hx22, h⟩ := kb_of h
  refine (kitr_go (hd := 6) (body := fun q => p_X8_add_L6 v1 v2 v3 zT q) (G := (fun e => ∀ (H : Heap) (locs : List Loc) (ls : Array Slot), kW D AA s.heap H (List.flatten [gX8 g aT zT]) locs → lv_has ls 6 [(0, .ref (aT 0)), (1, .int v1), (2, .int v2), (3, .int v3), (4, .int e.2)] → W p l en (kR 1 22) s m args below meth c H locs 0 0 QQ (F0 m e.1 ls []))) (fun s23 e24 hb25 hG26 => ?_) kF _ x22 hx22 ?_) _ _ _ V (lv_sub hl [1, 2, 3, 4, 0] rfl)
  · intro H locs ls V hl
    show W p l en (kR 1 22) s m args below meth c H locs 0 0 QQ (F0 m 6 ls [])
    have h : p_X8_add_L6 v1 v2 v3 zT s23 = some e24 := hb25
    unfold p_X8_add_L6 at h
    have V : kW D AA s.heap H (List.flatten [gX8 g aT zT]) locs := V
    have hl : lv_has ls 6 [(0, .ref (aT 0)), (1, .int v1), (2, .int v2), (3, .int v3), (4, .int s23)] := hl
    refine lv_iload X.1 X.2.1 dX8_add_6 (lv_at hl 4 rfl) ?_
    refine lv_if_le (tgt := 56) X.1 X.2.1 dX8_add_8 (by decide) (fun hc => ?_) (fun hc => ?_)
    · replace h := kif_t hc h
      obtain rfl := Option.some.inj h
      exact hG26 _ _ _ V (lv_sub hl [0, 1, 2, 3, 4] rfl)
    · replace h := kif_f hc h
      refine lv_aload_n X.1 X.2.1 dX8_add_11 rfl (lv_at hl 0 rfl) ?_
      refine gf_X8_11 (i := 0) X V rfl dX8_add_12 ?_
      refine lv_iload X.1 X.2.1 dX8_add_15 (lv_at hl 4 rfl) ?_
      refine lv_iconst (v := (1 : Int32)) X.1 X.2.1 dX8_add_17 (by decide) ?_
      refine lv_isub X.1 X.2.1 dX8_add_18 ?_
      obtain ⟨hc, h⟩ := kg_of h
      refine al_X8_0 (i := 0) X V rfl hc dX8_add_19 ?_
      refine lv_iload_n X.1 X.2.1 dX8_add_20 rfl (lv_at hl 1 rfl) ?_
      refine lv_icmp_gt (tgt := 50) X.1 X.2.1 dX8_add_21 (by decide) (fun hc => ?_) (fun hc => ?_)
      · replace h := kif_t hc h
        obtain ⟨y27, ey27⟩ : ∃ y : Int32, y = (s23 + (-1 : Int32)) := ⟨_, rfl⟩
        replace h := kl_of ey27 h
        refine lv_iinc (v := y27) (lv' := [(4, .int y27), (0, .ref (aT 0)), (1, .int v1), (2, .int v2), (3, .int v3)]) X.1 X.2.1 dX8_add_50 hl (k := 4) rfl (by rw [ey27]; rfl) (by decide) rfl (fun ls hl => ?_)
        refine lv_goto (tgt := 6) X.1 X.2.1 dX8_add_53 (by decide) ?_
        obtain rfl := Option.some.inj h
        exact hG26 _ _ _ V (lv_sub hl [1, 2, 3, 4, 0] rfl)
      · replace h := kif_f hc h
        refine lv_aload_n X.1 X.2.1 dX8_add_24 rfl (lv_at hl 0 rfl) ?_
        refine gf_X8_11 (i := 0) X V rfl dX8_add_25 ?_
        refine lv_iload X.1 X.2.1 dX8_add_28 (lv_at hl 4 rfl) ?_
        refine lv_iconst (v := (1 : Int32)) X.1 X.2.1 dX8_add_30 (by decide) ?_
        refine lv_isub X.1 X.2.1 dX8_add_31 ?_
        obtain ⟨hc, h⟩ := kg_of h
        refine al_X8_0 (i := 0) X V rfl hc dX8_add_32 ?_
        refine lv_iload_n X.1 X.2.1 dX8_add_33 rfl (lv_at hl 1 rfl) ?_
        refine lv_icmp_ne (tgt := 56) X.1 X.2.1 dX8_add_34 (by decide) (fun hc => ?_) (fun hc => ?_)
        · replace h := kif_f hc h
          obtain rfl := Option.some.inj h
          exact hG26 _ _ _ V (lv_sub hl [0, 1, 2, 3, 4] rfl)
        · replace h := kif_t hc h
          refine lv_aload_n X.1 X.2.1 dX8_add_37 rfl (lv_at hl 0 rfl) ?_
          refine gf_X8_15 (i := 0) X V rfl dX8_add_38 ?_
          refine lv_iload X.1 X.2.1 dX8_add_41 (lv_at hl 4 rfl) ?_
          refine lv_iconst (v := (1 : Int32)) X.1 X.2.1 dX8_add_43 (by decide) ?_
          refine lv_isub X.1 X.2.1 dX8_add_44 ?_
          obtain ⟨hc, h⟩ := kg_of h
          refine al_X8_1 (i := 0) X V rfl hc dX8_add_45 ?_
          refine lv_iload_n X.1 X.2.1 dX8_add_46 rfl (lv_at hl 2 rfl) ?_
          refine lv_icmp_le (tgt := 56) X.1 X.2.1 dX8_add_47 (by decide) (fun hc => ?_) (fun hc => ?_)
          · replace h := kif_t hc h
            obtain rfl := Option.some.inj h
            exact hG26 _ _ _ V (lv_sub hl [0, 1, 2, 3, 4] rfl)
          · replace h := kif_f hc h
            obtain ⟨y28, ey28⟩ : ∃ y : Int32, y = (s23 + (-1 : Int32)) := ⟨_, rfl⟩
            replace h := kl_of ey28 h
            refine lv_iinc (v := y28) (lv' := [(4, .int y28), (0, .ref (aT 0)), (1, .int v1), (2, .int v2), (3, .int v3)]) X.1 X.2.1 dX8_add_50 hl (k := 4) rfl (by rw [ey28]; rfl) (by decide) rfl (fun ls hl => ?_)
            refine lv_goto (tgt := 6) X.1 X.2.1 dX8_add_53 (by decide) ?_
            obtain rfl := Option.some.inj h
            exact hG26 _ _ _ V (lv_sub hl [1, 2, 3, 4, 0] rfl)
  · intro H locs ls V hl
    have V : kW D AA s.heap H (List.flatten [gX8 g aT zT]) locs := V
    have hl : lv_has ls 6 [(0, .ref (aT 0)), (1, .int v1), (2, .int v2), (3, .int v3), (4, .int x22.2)] := hl
    obtain ⟨hc, h⟩ := kg_of h
    refine W.eq (g2 := F0 m 56 ls []) (by rw [hc]) ?_
    exact J56 zT x22.2 _ _ _ h V (lv_sub hl [0, 1, 2, 3, 4] rfl)

def p_X8_collect_L8 (zP1 : tX4) (v2 : Int64) (v4 : Int32) (s : Int32 × tX8) : Option (Nat × (Int32 × tX8)) :=
  kif ((40 : Int32) ≤ s.1) (some (54, (s.1, s.2))) (kif ((lg_cmp ((v2 >>> (s.1.toInt64 &&& 63)) &&& (1 : Int64)) (0 : Int64)) = 0) (kl (s.1 + (1 : Int32)) (fun y2 => some (8, (y2, s.2)))) (kb (p_X4_standX zP1 s.1 v4) (fun x3 => kb (p_X4_standY zP1 s.1 v4) (fun x4 => kb (p_X8_add s.2 x3 x4 s.1) (fun x5 => kl (s.1 + (1 : Int32)) (fun y6 => some (8, (y6, x5))))))))
def p_X8_collect (zT : tX8) (zP1 : tX4) (v2 : Int64) (v4 : Int32) : Option (tX8) :=
  kl (zT.1, zT.2.1, zT.2.2.1, (0 : Int32)) (fun z1 => kb (kitr 8 (fun q => p_X8_collect_L8 zP1 v2 v4 q) kF ((0 : Int32), z1)) (fun x7 => kg (x7.1 = 54) (some x7.2.2)))
set_option maxHeartbeats 4000000 in
set_option maxRecDepth 100000 in
theorem c_X8_collect (l : Launch) (D : va_G) (g : kG) (aT : Nat → Nat) (aP1 : Nat → Nat) (zT : tX8) (zP1 : tX4) (v2 : Int64) (v4 : Int32) (r : tX8) (h : p_X8_collect zT zP1 v2 v4 = some r) : kMv l yX8_collect cX8_collect 6 none (kR 2 47) D (kty g) [.ref (aT 0), .ref (aP1 0), .long v2, .int v4] (List.flatten [gX8 g aT zT, gX4 g aP1 zP1]) (List.flatten [gX8 g aT r, gX4 g aP1 zP1]) := by
  intro sz
  refine k_enter (lv := [(0, .ref (aT 0)), (1, .ref (aP1 0)), (2, .long v2), (4, .int v4)]) RX8 (by decide +kernel) rfl rfl (Nat.le_of_ble_eq_true rfl) ?_
  intro p en s m args below meth c ls hsz X V hl
  obtain ⟨QQ, hQQ⟩ : ∃ q, q = MQ below (va_Qv (fun (_ : Unit) => True) (fun _ => kE D (List.flatten [gX8 g aT r, gX4 g aP1 zP1])) (va_A (List.flatten [gX8 g aT zT, gX4 g aP1 zP1]) sz)) args s 0 0 (va_A (List.flatten [gX8 g aT zT, gX4 g aP1 zP1]) sz) := ⟨_, rfl⟩
  rw [← hQQ]
  obtain ⟨AA, hAA⟩ : ∃ q, q = va_A (List.flatten [gX8 g aT zT, gX4 g aP1 zP1]) sz := ⟨_, rfl⟩
  rw [← hAA] at V
  unfold p_X8_collect at h
  refine lv_aload_n X.1 X.2.1 dX8_collect_0 rfl (lv_at hl 0 rfl) ?_
  refine lv_iconst (v := (0 : Int32)) X.1 X.2.1 dX8_collect_1 (by decide) ?_
  refine pf_X8_21 (i := 0) X V rfl dX8_collect_2 (fun H locs V => ?_)
  obtain ⟨z8, ez8⟩ : ∃ y, y = (zT.1, zT.2.1, zT.2.2.1, (0 : Int32)) := ⟨_, rfl⟩
  replace h := kl_of ez8 h
  have V : kW D AA s.heap H (List.flatten [gX8 g aT z8, gX4 g aP1 zP1]) locs := by rw [ez8]; exact V
  refine lv_iconst (v := (0 : Int32)) X.1 X.2.1 dX8_collect_5 (by decide) ?_
  refine lv_istore (lv' := [(5, .int (0 : Int32)), (0, .ref (aT 0)), (1, .ref (aP1 0)), (2, .long v2), (4, .int v4)]) X.1 X.2.1 dX8_collect_6 hl (by decide) rfl (fun ls hl => ?_)
  obtain ⟨x9, hx9, h⟩ := kb_of h
  refine (kitr_go (hd := 8) (body := fun q => p_X8_collect_L8 zP1 v2 v4 q) (G := (fun e => ∀ (H : Heap) (locs : List Loc) (ls : Array Slot), kW D AA s.heap H (List.flatten [gX8 g aT e.2.2, gX4 g aP1 zP1]) locs → lv_has ls 6 [(0, .ref (aT 0)), (1, .ref (aP1 0)), (2, .long v2), (4, .int v4), (5, .int e.2.1)] → W p l en (kR 2 47) s m args below meth c H locs 0 0 QQ (F0 m e.1 ls []))) (fun s10 e11 hb12 hG13 => ?_) kF _ x9 hx9 ?_) _ _ _ V (lv_sub hl [1, 2, 3, 4, 0] rfl)
  · intro H locs ls V hl
    show W p l en (kR 2 47) s m args below meth c H locs 0 0 QQ (F0 m 8 ls [])
    have h : p_X8_collect_L8 zP1 v2 v4 s10 = some e11 := hb12
    unfold p_X8_collect_L8 at h
    have V : kW D AA s.heap H (List.flatten [gX8 g aT s10.2, gX4 g aP1 zP1]) locs := V
    have hl : lv_has ls 6 [(0, .ref (aT 0)), (1, .ref (aP1 0)), (2, .long v2), (4, .int v4), (5, .int s10.1)] := hl
    refine lv_iload X.1 X.2.1 dX8_collect_8 (lv_at hl 4 rfl) ?_
    refine lv_bipush (v := (40 : Int32)) X.1 X.2.1 dX8_collect_10 (by decide) ?_
    refine lv_icmp_ge (tgt := 54) X.1 X.2.1 dX8_collect_12 (by decide) (fun hc => ?_) (fun hc => ?_)
    · replace h := kif_t hc h
      obtain rfl := Option.some.inj h
      exact hG13 _ _ _ V (lv_sub hl [0, 1, 2, 3, 4] rfl)
    · replace h := kif_f hc h
      refine lv_lload_n X.1 X.2.1 dX8_collect_15 rfl (lv_at hl 2 rfl) ?_
      refine lv_iload X.1 X.2.1 dX8_collect_16 (lv_at hl 4 rfl) ?_
      refine lv_lshr X.1 X.2.1 dX8_collect_18 rfl ?_
      refine lv_lconst (v := (1 : Int64)) X.1 X.2.1 dX8_collect_19 (by decide) ?_
      refine lv_land X.1 X.2.1 dX8_collect_20 ?_
      refine lv_lconst (v := (0 : Int64)) X.1 X.2.1 dX8_collect_21 (by decide) ?_
      refine W.lcmp X.1 X.2.1 dX8_collect_22 ?_
      refine lv_if_eq (tgt := 48) X.1 X.2.1 dX8_collect_23 (by decide) (fun hc => ?_) (fun hc => ?_)
      · replace h := kif_t hc h
        obtain ⟨y14, ey14⟩ : ∃ y : Int32, y = (s10.1 + (1 : Int32)) := ⟨_, rfl⟩
        replace h := kl_of ey14 h
        refine lv_iinc (v := y14) (lv' := [(5, .int y14), (0, .ref (aT 0)), (1, .ref (aP1 0)), (2, .long v2), (4, .int v4)]) X.1 X.2.1 dX8_collect_48 hl (k := 4) rfl (by rw [ey14]; rfl) (by decide) rfl (fun ls hl => ?_)
        refine lv_goto (tgt := 8) X.1 X.2.1 dX8_collect_51 (by decide) ?_
        obtain rfl := Option.some.inj h
        exact hG13 _ _ _ V (lv_sub hl [1, 2, 3, 4, 0] rfl)
      · replace h := kif_f hc h
        refine lv_aload_n X.1 X.2.1 dX8_collect_26 rfl (lv_at hl 0 rfl) ?_
        refine lv_aload_n X.1 X.2.1 dX8_collect_27 rfl (lv_at hl 1 rfl) ?_
        refine lv_iload X.1 X.2.1 dX8_collect_28 (lv_at hl 4 rfl) ?_
        refine lv_iload X.1 X.2.1 dX8_collect_30 (lv_at hl 3 rfl) ?_
        obtain ⟨x15, hx15, h⟩ := kb_of h
        refine s_callVi (segs' := [gX8 g aT s10.2, gX4 g aP1 zP1]) (ci := 4) (i0 := 0) X V (c_X4_standX l D g aP1 zP1 s10.1 v4 x15 hx15) w_X8_25 ⟨Nat.le_of_ble_eq_true rfl, Nat.le_of_ble_eq_true rfl⟩ ⟨Nat.zero_le _, Nat.zero_le _⟩ rfl rfl rfl rfl [1] rfl rfl (kFst_refl _) rfl rfl hl.1 (Nat.le_of_ble_eq_true rfl) dX8_collect_32 (fun H locs V => ?_)
        refine lv_aload_n X.1 X.2.1 dX8_collect_35 rfl (lv_at hl 1 rfl) ?_
        refine lv_iload X.1 X.2.1 dX8_collect_36 (lv_at hl 4 rfl) ?_
        refine lv_iload X.1 X.2.1 dX8_collect_38 (lv_at hl 3 rfl) ?_
        obtain ⟨x16, hx16, h⟩ := kb_of h
        refine s_callVi (segs' := [gX8 g aT s10.2, gX4 g aP1 zP1]) (ci := 4) (i0 := 0) X V (c_X4_standY l D g aP1 zP1 s10.1 v4 x16 hx16) w_X8_31 ⟨Nat.le_of_ble_eq_true rfl, Nat.le_of_ble_eq_true rfl⟩ ⟨Nat.zero_le _, Nat.zero_le _⟩ rfl rfl rfl rfl [1] rfl rfl (kFst_refl _) rfl rfl hl.1 (Nat.le_of_ble_eq_true rfl) dX8_collect_40 (fun H locs V => ?_)
        refine lv_iload X.1 X.2.1 dX8_collect_43 (lv_at hl 4 rfl) ?_
        obtain ⟨x17, hx17, h⟩ := kb_of h
        refine s_callVv (segs' := [gX8 g aT x17, gX4 g aP1 zP1]) (ci := 8) (i0 := 0) X V (c_X8_add l D g aT s10.2 x15 x16 s10.1 x17 hx17) w_X8_34 ⟨Nat.le_of_ble_eq_true rfl, Nat.le_of_ble_eq_true rfl⟩ ⟨Nat.zero_le _, Nat.zero_le _⟩ rfl rfl rfl rfl [0] rfl rfl ⟨gX8_fst, trivial⟩ rfl rfl hl.1 (Nat.le_of_ble_eq_true rfl) dX8_collect_45 (fun H locs V => ?_)
        obtain ⟨y18, ey18⟩ : ∃ y : Int32, y = (s10.1 + (1 : Int32)) := ⟨_, rfl⟩
        replace h := kl_of ey18 h
        refine lv_iinc (v := y18) (lv' := [(5, .int y18), (0, .ref (aT 0)), (1, .ref (aP1 0)), (2, .long v2), (4, .int v4)]) X.1 X.2.1 dX8_collect_48 hl (k := 4) rfl (by rw [ey18]; rfl) (by decide) rfl (fun ls hl => ?_)
        refine lv_goto (tgt := 8) X.1 X.2.1 dX8_collect_51 (by decide) ?_
        obtain rfl := Option.some.inj h
        exact hG13 _ _ _ V (lv_sub hl [1, 2, 3, 4, 0] rfl)
  · intro H locs ls V hl
    have V : kW D AA s.heap H (List.flatten [gX8 g aT x9.2.2, gX4 g aP1 zP1]) locs := V
    have hl : lv_has ls 6 [(0, .ref (aT 0)), (1, .ref (aP1 0)), (2, .long v2), (4, .int v4), (5, .int x9.2.1)] := hl
    obtain ⟨hc, h⟩ := kg_of h
    refine W.eq (g2 := F0 m 54 ls []) (by rw [hc]) ?_
    obtain rfl := Option.some.inj h
    rw [hAA] at V
    rw [hQQ]
    exact k_vret X V dX8_collect_54

def p_X8_indexOf_L2 (zT : tX8) (v1 : Int32) (v2 : Int32) (s : Int32) : Option (Nat × (Int32)) :=
  kif (zT.2.2.2 ≤ s) (some (38, s)) (kg (kii s 41) (kif ((zT.1 s.toNatClampNeg) = v1) (kg (kii s 41) (kif ((zT.2.1 s.toNatClampNeg) = v2) (some (30, s)) (kl (s + (1 : Int32)) (fun y1 => some (2, y1))))) (kl (s + (1 : Int32)) (fun y2 => some (2, y2)))))
def p_X8_indexOf (zT : tX8) (v1 : Int32) (v2 : Int32) : Option (Int32) :=
  kb (kitr 2 (fun q => p_X8_indexOf_L2 zT v1 v2 q) kF (0 : Int32)) (fun x3 => kif (x3.1 = 30) (some x3.2) (kg (x3.1 = 38) (some (-1 : Int32))))
set_option maxHeartbeats 4000000 in
set_option maxRecDepth 100000 in
theorem c_X8_indexOf (l : Launch) (D : va_G) (g : kG) (aT : Nat → Nat) (zT : tX8) (v1 : Int32) (v2 : Int32) (r : Int32) (h : p_X8_indexOf zT v1 v2 = some r) : kMi l yX8_indexOf cX8_indexOf 4 (some .int) (kR 0 0) D (kty g) [.ref (aT 0), .int v1, .int v2] (List.flatten [gX8 g aT zT]) r (List.flatten [gX8 g aT zT]) := by
  intro sz
  refine k_enter (lv := [(0, .ref (aT 0)), (1, .int v1), (2, .int v2)]) RX8 (by decide +kernel) rfl rfl (Nat.le_of_ble_eq_true rfl) ?_
  intro p en s m args below meth c ls hsz X V hl
  obtain ⟨QQ, hQQ⟩ : ∃ q, q = MQ below (va_Qi (fun r' (_ : Unit) => r' = r) (fun _ => kE D (List.flatten [gX8 g aT zT])) (va_A (List.flatten [gX8 g aT zT]) sz)) args s 0 0 (va_A (List.flatten [gX8 g aT zT]) sz) := ⟨_, rfl⟩
  rw [← hQQ]
  obtain ⟨AA, hAA⟩ : ∃ q, q = va_A (List.flatten [gX8 g aT zT]) sz := ⟨_, rfl⟩
  rw [← hAA] at V
  unfold p_X8_indexOf at h
  refine lv_iconst (v := (0 : Int32)) X.1 X.2.1 dX8_indexOf_0 (by decide) ?_
  refine lv_istore_n (lv' := [(3, .int (0 : Int32)), (0, .ref (aT 0)), (1, .int v1), (2, .int v2)]) X.1 X.2.1 dX8_indexOf_1 rfl hl (by decide) rfl (fun ls hl => ?_)
  obtain ⟨x4, hx4, h⟩ := kb_of h
  refine (kitr_go (hd := 2) (body := fun q => p_X8_indexOf_L2 zT v1 v2 q) (G := (fun e => ∀ (H : Heap) (locs : List Loc) (ls : Array Slot), kW D AA s.heap H (List.flatten [gX8 g aT zT]) locs → lv_has ls 4 [(0, .ref (aT 0)), (1, .int v1), (2, .int v2), (3, .int e.2)] → W p l en (kR 0 0) s m args below meth c H locs 0 0 QQ (F0 m e.1 ls []))) (fun s5 e6 hb7 hG8 => ?_) kF _ x4 hx4 ?_) _ _ _ V (lv_sub hl [1, 2, 3, 0] rfl)
  · intro H locs ls V hl
    show W p l en (kR 0 0) s m args below meth c H locs 0 0 QQ (F0 m 2 ls [])
    have h : p_X8_indexOf_L2 zT v1 v2 s5 = some e6 := hb7
    unfold p_X8_indexOf_L2 at h
    have V : kW D AA s.heap H (List.flatten [gX8 g aT zT]) locs := V
    have hl : lv_has ls 4 [(0, .ref (aT 0)), (1, .int v1), (2, .int v2), (3, .int s5)] := hl
    refine lv_iload_n X.1 X.2.1 dX8_indexOf_2 rfl (lv_at hl 3 rfl) ?_
    refine lv_aload_n X.1 X.2.1 dX8_indexOf_3 rfl (lv_at hl 0 rfl) ?_
    refine gf_X8_21 (i := 0) X V rfl dX8_indexOf_4 ?_
    refine lv_icmp_ge (tgt := 38) X.1 X.2.1 dX8_indexOf_7 (by decide) (fun hc => ?_) (fun hc => ?_)
    · replace h := kif_t hc h
      obtain rfl := Option.some.inj h
      exact hG8 _ _ _ V (lv_sub hl [0, 1, 2, 3] rfl)
    · replace h := kif_f hc h
      refine lv_aload_n X.1 X.2.1 dX8_indexOf_10 rfl (lv_at hl 0 rfl) ?_
      refine gf_X8_11 (i := 0) X V rfl dX8_indexOf_11 ?_
      refine lv_iload_n X.1 X.2.1 dX8_indexOf_14 rfl (lv_at hl 3 rfl) ?_
      obtain ⟨hc, h⟩ := kg_of h
      refine al_X8_0 (i := 0) X V rfl hc dX8_indexOf_15 ?_
      refine lv_iload_n X.1 X.2.1 dX8_indexOf_16 rfl (lv_at hl 1 rfl) ?_
      refine lv_icmp_ne (tgt := 32) X.1 X.2.1 dX8_indexOf_17 (by decide) (fun hc => ?_) (fun hc => ?_)
      · replace h := kif_f hc h
        obtain ⟨y9, ey9⟩ : ∃ y : Int32, y = (s5 + (1 : Int32)) := ⟨_, rfl⟩
        replace h := kl_of ey9 h
        refine lv_iinc (v := y9) (lv' := [(3, .int y9), (0, .ref (aT 0)), (1, .int v1), (2, .int v2)]) X.1 X.2.1 dX8_indexOf_32 hl (k := 3) rfl (by rw [ey9]; rfl) (by decide) rfl (fun ls hl => ?_)
        refine lv_goto (tgt := 2) X.1 X.2.1 dX8_indexOf_35 (by decide) ?_
        obtain rfl := Option.some.inj h
        exact hG8 _ _ _ V (lv_sub hl [1, 2, 3, 0] rfl)
      · replace h := kif_t hc h
        refine lv_aload_n X.1 X.2.1 dX8_indexOf_20 rfl (lv_at hl 0 rfl) ?_
        refine gf_X8_15 (i := 0) X V rfl dX8_indexOf_21 ?_
        refine lv_iload_n X.1 X.2.1 dX8_indexOf_24 rfl (lv_at hl 3 rfl) ?_
        obtain ⟨hc, h⟩ := kg_of h
        refine al_X8_1 (i := 0) X V rfl hc dX8_indexOf_25 ?_
        refine lv_iload_n X.1 X.2.1 dX8_indexOf_26 rfl (lv_at hl 2 rfl) ?_
        refine lv_icmp_ne (tgt := 32) X.1 X.2.1 dX8_indexOf_27 (by decide) (fun hc => ?_) (fun hc => ?_)
        · replace h := kif_f hc h
          obtain ⟨y10, ey10⟩ : ∃ y : Int32, y = (s5 + (1 : Int32)) := ⟨_, rfl⟩
          replace h := kl_of ey10 h
          refine lv_iinc (v := y10) (lv' := [(3, .int y10), (0, .ref (aT 0)), (1, .int v1), (2, .int v2)]) X.1 X.2.1 dX8_indexOf_32 hl (k := 3) rfl (by rw [ey10]; rfl) (by decide) rfl (fun ls hl => ?_)
          refine lv_goto (tgt := 2) X.1 X.2.1 dX8_indexOf_35 (by decide) ?_
          obtain rfl := Option.some.inj h
          exact hG8 _ _ _ V (lv_sub hl [1, 2, 3, 0] rfl)
        · replace h := kif_t hc h
          obtain rfl := Option.some.inj h
          exact hG8 _ _ _ V (lv_sub hl [0, 1, 2, 3] rfl)
  · intro H locs ls V hl
    have V : kW D AA s.heap H (List.flatten [gX8 g aT zT]) locs := V
    have hl : lv_has ls 4 [(0, .ref (aT 0)), (1, .int v1), (2, .int v2), (3, .int x4.2)] := hl
    by_cases hc : x4.1 = 30
    · replace h := kif_t hc h
      refine W.eq (g2 := F0 m 30 ls []) (by rw [hc]) ?_
      refine lv_iload_n X.1 X.2.1 dX8_indexOf_30 rfl (lv_at hl 3 rfl) ?_
      obtain rfl := Option.some.inj h
      rw [hAA] at V
      rw [hQQ]
      exact k_iret X V rfl dX8_indexOf_31
    · replace h := kif_f hc h
      obtain ⟨hc, h⟩ := kg_of h
      refine W.eq (g2 := F0 m 38 ls []) (by rw [hc]) ?_
      refine lv_iconst (v := (-1 : Int32)) X.1 X.2.1 dX8_indexOf_38 (by decide) ?_
      obtain rfl := Option.some.inj h
      rw [hAA] at V
      rw [hQQ]
      exact k_iret X V rfl dX8_indexOf_39

def p_X8_depthBeside_L15 (zT : tX8) (v1 : Int32) (v2 : Int32) (v3 : Int32) (v4 : Int32) (s : Int32 × Int32 × Int32 × Int32 × Int32) : Option (Nat × (Int32 × Int32 × Int32 × Int32 × Int32)) :=
  kif (zT.2.2.2 ≤ s.2.2.2.2) (some (123, (s.1, s.2.1, s.2.2.1, s.2.2.2.1, s.2.2.2.2))) (kg (kii s.2.2.2.2 41) (kg (kii s.2.2.2.2 41) (kl ((v3 * ((zT.2.1 s.2.2.2.2.toNatClampNeg) - v2)) - (v4 * ((zT.1 s.2.2.2.2.toNatClampNeg) - v1))) (fun y1 => kg (kii s.2.2.2.2 41) (kg (kii s.2.2.2.2 41) (kl ((v3 * ((zT.1 s.2.2.2.2.toNatClampNeg) - v1)) + (v4 * ((zT.2.1 s.2.2.2.2.toNatClampNeg) - v2))) (fun y2 => kif (y1 ≤ 0) (kif (0 ≤ y1) (kif (y2 ≤ 0) (kif (0 ≤ y2) (kl (s.2.2.2.2 + (1 : Int32)) (fun y3 => some (15, (s.1, s.2.1, s.2.2.1, s.2.2.2.1, y3)))) (kl (s.2.2.2.1 + (1 : Int32)) (fun y4 => kl (s.2.2.2.2 + (1 : Int32)) (fun y5 => some (15, (s.1, s.2.1, s.2.2.1, y4, y5)))))) (kl (s.2.2.1 + (1 : Int32)) (fun y6 => kl (s.2.2.2.2 + (1 : Int32)) (fun y7 => some (15, (s.1, s.2.1, y6, s.2.2.2.1, y7)))))) (kl (s.2.1 + (1 : Int32)) (fun y8 => kl (s.2.2.2.2 + (1 : Int32)) (fun y9 => some (15, (s.1, y8, s.2.2.1, s.2.2.2.1, y9)))))) (kl (s.1 + (1 : Int32)) (fun y10 => kl (s.2.2.2.2 + (1 : Int32)) (fun y11 => some (15, (y10, s.2.1, s.2.2.1, s.2.2.2.1, y11))))))))))))
def p_X8_depthBeside (zT : tX8) (v1 : Int32) (v2 : Int32) (v3 : Int32) (v4 : Int32) : Option (Int32) :=
  kb (kitr 15 (fun q => p_X8_depthBeside_L15 zT v1 v2 v3 v4 q) kF ((0 : Int32), (0 : Int32), (0 : Int32), (0 : Int32), (0 : Int32))) (fun x12 => kg (x12.1 = 123) (kl ((((zT.2.2.2 - x12.2.1) - x12.2.2.1) - x12.2.2.2.1) - x12.2.2.2.2.1) (fun y13 => kb (p_J9_min_7cf53 x12.2.1 x12.2.2.1) (fun x14 => kb (p_J9_min_7cf53 x12.2.2.2.1 x12.2.2.2.2.1) (fun x15 => some (((y13 + x14) + x15)))))))
set_option maxHeartbeats 4000000 in
set_option maxRecDepth 100000 in
theorem c_X8_depthBeside (l : Launch) (D : va_G) (g : kG) (aT : Nat → Nat) (zT : tX8) (v1 : Int32) (v2 : Int32) (v3 : Int32) (v4 : Int32) (r : Int32) (h : p_X8_depthBeside zT v1 v2 v3 v4 = some r) : kMi l yX8_depthBeside cX8_depthBeside 12 (some .int) (kR 1 21) D (kty g) [.ref (aT 0), .int v1, .int v2, .int v3, .int v4] (List.flatten [gX8 g aT zT]) r (List.flatten [gX8 g aT zT]) := by
  intro sz
  refine k_enter (lv := [(0, .ref (aT 0)), (1, .int v1), (2, .int v2), (3, .int v3), (4, .int v4)]) RX8 (by decide +kernel) rfl rfl (Nat.le_of_ble_eq_true rfl) ?_
  intro p en s m args below meth c ls hsz X V hl
  obtain ⟨QQ, hQQ⟩ : ∃ q, q = MQ below (va_Qi (fun r' (_ : Unit) => r' = r) (fun _ => kE D (List.flatten [gX8 g aT zT])) (va_A (List.flatten [gX8 g aT zT]) sz)) args s 0 0 (va_A (List.flatten [gX8 g aT zT]) sz) := ⟨_, rfl⟩
  rw [← hQQ]
  obtain ⟨AA, hAA⟩ : ∃ q, q = va_A (List.flatten [gX8 g aT zT]) sz := ⟨_, rfl⟩
  rw [← hAA] at V
  unfold p_X8_depthBeside at h
  refine lv_iconst (v := (0 : Int32)) X.1 X.2.1 dX8_depthBeside_0 (by decide) ?_
  refine lv_istore (lv' := [(5, .int (0 : Int32)), (0, .ref (aT 0)), (1, .int v1), (2, .int v2), (3, .int v3), (4, .int v4)]) X.1 X.2.1 dX8_depthBeside_1 hl (by decide) rfl (fun ls hl => ?_)
  refine lv_iconst (v := (0 : Int32)) X.1 X.2.1 dX8_depthBeside_3 (by decide) ?_
  refine lv_istore (lv' := [(6, .int (0 : Int32)), (5, .int (0 : Int32)), (0, .ref (aT 0)), (1, .int v1), (2, .int v2), (3, .int v3), (4, .int v4)]) X.1 X.2.1 dX8_depthBeside_4 hl (by decide) rfl (fun ls hl => ?_)
  refine lv_iconst (v := (0 : Int32)) X.1 X.2.1 dX8_depthBeside_6 (by decide) ?_
  refine lv_istore (lv' := [(7, .int (0 : Int32)), (6, .int (0 : Int32)), (5, .int (0 : Int32)), (0, .ref (aT 0)), (1, .int v1), (2, .int v2), (3, .int v3), (4, .int v4)]) X.1 X.2.1 dX8_depthBeside_7 hl (by decide) rfl (fun ls hl => ?_)
  refine lv_iconst (v := (0 : Int32)) X.1 X.2.1 dX8_depthBeside_9 (by decide) ?_
  refine lv_istore (lv' := [(8, .int (0 : Int32)), (7, .int (0 : Int32)), (6, .int (0 : Int32)), (5, .int (0 : Int32)), (0, .ref (aT 0)), (1, .int v1), (2, .int v2), (3, .int v3), (4, .int v4)]) X.1 X.2.1 dX8_depthBeside_10 hl (by decide) rfl (fun ls hl => ?_)
  refine lv_iconst (v := (0 : Int32)) X.1 X.2.1 dX8_depthBeside_12 (by decide) ?_
  refine lv_istore (lv' := [(9, .int (0 : Int32)), (8, .int (0 : Int32)), (7, .int (0 : Int32)), (6, .int (0 : Int32)), (5, .int (0 : Int32)), (0, .ref (aT 0)), (1, .int v1), (2, .int v2), (3, .int v3), (4, .int v4)]) X.1 X.2.1 dX8_depthBeside_13 hl (by decide) rfl (fun ls hl => ?_)
  obtain ⟨x16, hx16, h⟩ := kb_of h
  refine (kitr_go (hd := 15) (body := fun q => p_X8_depthBeside_L15 zT v1 v2 v3 v4 q) (G := (fun e => ∀ (H : Heap) (locs : List Loc) (ls : Array Slot), kW D AA s.heap H (List.flatten [gX8 g aT zT]) locs → lv_has ls 12 [(0, .ref (aT 0)), (1, .int v1), (2, .int v2), (3, .int v3), (4, .int v4), (5, .int e.2.1), (6, .int e.2.2.1), (7, .int e.2.2.2.1), (8, .int e.2.2.2.2.1), (9, .int e.2.2.2.2.2)] → W p l en (kR 1 21) s m args below meth c H locs 0 0 QQ (F0 m e.1 ls []))) (fun s17 e18 hb19 hG20 => ?_) kF _ x16 hx16 ?_) _ _ _ V (lv_sub hl [5, 6, 7, 8, 9, 4, 3, 2, 1, 0] rfl)
  · intro H locs ls V hl
    show W p l en (kR 1 21) s m args below meth c H locs 0 0 QQ (F0 m 15 ls [])
    have h : p_X8_depthBeside_L15 zT v1 v2 v3 v4 s17 = some e18 := hb19
    unfold p_X8_depthBeside_L15 at h
    have V : kW D AA s.heap H (List.flatten [gX8 g aT zT]) locs := V
    have hl : lv_has ls 12 [(0, .ref (aT 0)), (1, .int v1), (2, .int v2), (3, .int v3), (4, .int v4), (5, .int s17.1), (6, .int s17.2.1), (7, .int s17.2.2.1), (8, .int s17.2.2.2.1), (9, .int s17.2.2.2.2)] := hl
    refine lv_iload X.1 X.2.1 dX8_depthBeside_15 (lv_at hl 9 rfl) ?_
    refine lv_aload_n X.1 X.2.1 dX8_depthBeside_17 rfl (lv_at hl 0 rfl) ?_
    refine gf_X8_21 (i := 0) X V rfl dX8_depthBeside_18 ?_
    refine lv_icmp_ge (tgt := 123) X.1 X.2.1 dX8_depthBeside_21 (by decide) (fun hc => ?_) (fun hc => ?_)
    · replace h := kif_t hc h
      obtain rfl := Option.some.inj h
      exact hG20 _ _ _ V (lv_sub hl [0, 1, 2, 3, 4, 5, 6, 7, 8, 9] rfl)
    · replace h := kif_f hc h
      refine lv_iload_n X.1 X.2.1 dX8_depthBeside_24 rfl (lv_at hl 3 rfl) ?_
      refine lv_aload_n X.1 X.2.1 dX8_depthBeside_25 rfl (lv_at hl 0 rfl) ?_
      refine gf_X8_15 (i := 0) X V rfl dX8_depthBeside_26 ?_
      refine lv_iload X.1 X.2.1 dX8_depthBeside_29 (lv_at hl 9 rfl) ?_
      obtain ⟨hc, h⟩ := kg_of h
      refine al_X8_1 (i := 0) X V rfl hc dX8_depthBeside_31 ?_
      refine lv_iload_n X.1 X.2.1 dX8_depthBeside_32 rfl (lv_at hl 2 rfl) ?_
      refine lv_isub X.1 X.2.1 dX8_depthBeside_33 ?_
      refine lv_imul X.1 X.2.1 dX8_depthBeside_34 ?_
      refine lv_iload X.1 X.2.1 dX8_depthBeside_35 (lv_at hl 4 rfl) ?_
      refine lv_aload_n X.1 X.2.1 dX8_depthBeside_37 rfl (lv_at hl 0 rfl) ?_
      refine gf_X8_11 (i := 0) X V rfl dX8_depthBeside_38 ?_
      refine lv_iload X.1 X.2.1 dX8_depthBeside_41 (lv_at hl 9 rfl) ?_
      obtain ⟨hc, h⟩ := kg_of h
      refine al_X8_0 (i := 0) X V rfl hc dX8_depthBeside_43 ?_
      refine lv_iload_n X.1 X.2.1 dX8_depthBeside_44 rfl (lv_at hl 1 rfl) ?_
      refine lv_isub X.1 X.2.1 dX8_depthBeside_45 ?_
      refine lv_imul X.1 X.2.1 dX8_depthBeside_46 ?_
      refine lv_isub X.1 X.2.1 dX8_depthBeside_47 ?_
      refine lv_topi (fun y21 ey21 => ?_)
      replace h := kl_of ey21 h
      refine lv_istore (lv' := [(10, .int y21), (0, .ref (aT 0)), (1, .int v1), (2, .int v2), (3, .int v3), (4, .int v4), (5, .int s17.1), (6, .int s17.2.1), (7, .int s17.2.2.1), (8, .int s17.2.2.2.1), (9, .int s17.2.2.2.2)]) X.1 X.2.1 dX8_depthBeside_48 hl (by decide) rfl (fun ls hl => ?_)
      refine lv_iload_n X.1 X.2.1 dX8_depthBeside_50 rfl (lv_at hl 4 rfl) ?_
      refine lv_aload_n X.1 X.2.1 dX8_depthBeside_51 rfl (lv_at hl 1 rfl) ?_
      refine gf_X8_11 (i := 0) X V rfl dX8_depthBeside_52 ?_
      refine lv_iload X.1 X.2.1 dX8_depthBeside_55 (lv_at hl 10 rfl) ?_
      obtain ⟨hc, h⟩ := kg_of h
      refine al_X8_0 (i := 0) X V rfl hc dX8_depthBeside_57 ?_
      refine lv_iload_n X.1 X.2.1 dX8_depthBeside_58 rfl (lv_at hl 2 rfl) ?_
      refine lv_isub X.1 X.2.1 dX8_depthBeside_59 ?_
      refine lv_imul X.1 X.2.1 dX8_depthBeside_60 ?_
      refine lv_iload X.1 X.2.1 dX8_depthBeside_61 (lv_at hl 5 rfl) ?_
      refine lv_aload_n X.1 X.2.1 dX8_depthBeside_63 rfl (lv_at hl 1 rfl) ?_
      refine gf_X8_15 (i := 0) X V rfl dX8_depthBeside_64 ?_
      refine lv_iload X.1 X.2.1 dX8_depthBeside_67 (lv_at hl 10 rfl) ?_
      obtain ⟨hc, h⟩ := kg_of h
      refine al_X8_1 (i := 0) X V rfl hc dX8_depthBeside_69 ?_
      refine lv_iload_n X.1 X.2.1 dX8_depthBeside_70 rfl (lv_at hl 3 rfl) ?_
      refine lv_isub X.1 X.2.1 dX8_depthBeside_71 ?_
      refine lv_imul X.1 X.2.1 dX8_depthBeside_72 ?_
      refine lv_iadd X.1 X.2.1 dX8_depthBeside_73 ?_
      refine lv_topi (fun y22 ey22 => ?_)
      replace h := kl_of ey22 h
      refine lv_istore (lv' := [(11, .int y22), (10, .int y21), (0, .ref (aT 0)), (1, .int v1), (2, .int v2), (3, .int v3), (4, .int v4), (5, .int s17.1), (6, .int s17.2.1), (7, .int s17.2.2.1), (8, .int s17.2.2.2.1), (9, .int s17.2.2.2.2)]) X.1 X.2.1 dX8_depthBeside_74 hl (by decide) rfl (fun ls hl => ?_)
      refine lv_iload X.1 X.2.1 dX8_depthBeside_76 (lv_at hl 1 rfl) ?_
      refine lv_if_le (tgt := 87) X.1 X.2.1 dX8_depthBeside_78 (by decide) (fun hc => ?_) (fun hc => ?_)
      · replace h := kif_t hc h
        refine lv_iload X.1 X.2.1 dX8_depthBeside_87 (lv_at hl 1 rfl) ?_
        refine lv_if_ge (tgt := 98) X.1 X.2.1 dX8_depthBeside_89 (by decide) (fun hc => ?_) (fun hc => ?_)
        · replace h := kif_t hc h
          refine lv_iload X.1 X.2.1 dX8_depthBeside_98 (lv_at hl 0 rfl) ?_
          refine lv_if_le (tgt := 109) X.1 X.2.1 dX8_depthBeside_100 (by decide) (fun hc => ?_) (fun hc => ?_)
          · replace h := kif_t hc h
            refine lv_iload X.1 X.2.1 dX8_depthBeside_109 (lv_at hl 0 rfl) ?_
            refine lv_if_ge (tgt := 117) X.1 X.2.1 dX8_depthBeside_111 (by decide) (fun hc => ?_) (fun hc => ?_)
            · replace h := kif_t hc h
              obtain ⟨y23, ey23⟩ : ∃ y : Int32, y = (s17.2.2.2.2 + (1 : Int32)) := ⟨_, rfl⟩
              replace h := kl_of ey23 h
              refine lv_iinc (v := y23) (lv' := [(9, .int y23), (11, .int y22), (10, .int y21), (0, .ref (aT 0)), (1, .int v1), (2, .int v2), (3, .int v3), (4, .int v4), (5, .int s17.1), (6, .int s17.2.1), (7, .int s17.2.2.1), (8, .int s17.2.2.2.1)]) X.1 X.2.1 dX8_depthBeside_117 hl (k := 11) rfl (by rw [ey23]; rfl) (by decide) rfl (fun ls hl => ?_)
              refine lv_goto (tgt := 15) X.1 X.2.1 dX8_depthBeside_120 (by decide) ?_
              obtain rfl := Option.some.inj h
              exact hG20 _ _ _ V (lv_sub hl [3, 4, 5, 6, 7, 8, 9, 10, 11, 0] rfl)
            · replace h := kif_f hc h
              obtain ⟨y24, ey24⟩ : ∃ y : Int32, y = (s17.2.2.2.1 + (1 : Int32)) := ⟨_, rfl⟩
              replace h := kl_of ey24 h
              refine lv_iinc (v := y24) (lv' := [(8, .int y24), (11, .int y22), (10, .int y21), (0, .ref (aT 0)), (1, .int v1), (2, .int v2), (3, .int v3), (4, .int v4), (5, .int s17.1), (6, .int s17.2.1), (7, .int s17.2.2.1), (9, .int s17.2.2.2.2)]) X.1 X.2.1 dX8_depthBeside_114 hl (k := 10) rfl (by rw [ey24]; rfl) (by decide) rfl (fun ls hl => ?_)
              obtain ⟨y25, ey25⟩ : ∃ y : Int32, y = (s17.2.2.2.2 + (1 : Int32)) := ⟨_, rfl⟩
              replace h := kl_of ey25 h
              refine lv_iinc (v := y25) (lv' := [(9, .int y25), (8, .int y24), (11, .int y22), (10, .int y21), (0, .ref (aT 0)), (1, .int v1), (2, .int v2), (3, .int v3), (4, .int v4), (5, .int s17.1), (6, .int s17.2.1), (7, .int s17.2.2.1)]) X.1 X.2.1 dX8_depthBeside_117 hl (k := 11) rfl (by rw [ey25]; rfl) (by decide) rfl (fun ls hl => ?_)
              refine lv_goto (tgt := 15) X.1 X.2.1 dX8_depthBeside_120 (by decide) ?_
              obtain rfl := Option.some.inj h
              exact hG20 _ _ _ V (lv_sub hl [4, 5, 6, 7, 8, 9, 10, 11, 1, 0] rfl)
          · replace h := kif_f hc h
            obtain ⟨y26, ey26⟩ : ∃ y : Int32, y = (s17.2.2.1 + (1 : Int32)) := ⟨_, rfl⟩
            replace h := kl_of ey26 h
            refine lv_iinc (v := y26) (lv' := [(7, .int y26), (11, .int y22), (10, .int y21), (0, .ref (aT 0)), (1, .int v1), (2, .int v2), (3, .int v3), (4, .int v4), (5, .int s17.1), (6, .int s17.2.1), (8, .int s17.2.2.2.1), (9, .int s17.2.2.2.2)]) X.1 X.2.1 dX8_depthBeside_103 hl (k := 9) rfl (by rw [ey26]; rfl) (by decide) rfl (fun ls hl => ?_)
            refine lv_goto (tgt := 117) X.1 X.2.1 dX8_depthBeside_106 (by decide) ?_
            obtain ⟨y27, ey27⟩ : ∃ y : Int32, y = (s17.2.2.2.2 + (1 : Int32)) := ⟨_, rfl⟩
            replace h := kl_of ey27 h
            refine lv_iinc (v := y27) (lv' := [(9, .int y27), (7, .int y26), (11, .int y22), (10, .int y21), (0, .ref (aT 0)), (1, .int v1), (2, .int v2), (3, .int v3), (4, .int v4), (5, .int s17.1), (6, .int s17.2.1), (8, .int s17.2.2.2.1)]) X.1 X.2.1 dX8_depthBeside_117 hl (k := 11) rfl (by rw [ey27]; rfl) (by decide) rfl (fun ls hl => ?_)
            refine lv_goto (tgt := 15) X.1 X.2.1 dX8_depthBeside_120 (by decide) ?_
            obtain rfl := Option.some.inj h
            exact hG20 _ _ _ V (lv_sub hl [4, 5, 6, 7, 8, 9, 10, 1, 11, 0] rfl)
        · replace h := kif_f hc h
          obtain ⟨y28, ey28⟩ : ∃ y : Int32, y = (s17.2.1 + (1 : Int32)) := ⟨_, rfl⟩
          replace h := kl_of ey28 h
          refine lv_iinc (v := y28) (lv' := [(6, .int y28), (11, .int y22), (10, .int y21), (0, .ref (aT 0)), (1, .int v1), (2, .int v2), (3, .int v3), (4, .int v4), (5, .int s17.1), (7, .int s17.2.2.1), (8, .int s17.2.2.2.1), (9, .int s17.2.2.2.2)]) X.1 X.2.1 dX8_depthBeside_92 hl (k := 8) rfl (by rw [ey28]; rfl) (by decide) rfl (fun ls hl => ?_)
          refine lv_goto (tgt := 117) X.1 X.2.1 dX8_depthBeside_95 (by decide) ?_
          obtain ⟨y29, ey29⟩ : ∃ y : Int32, y = (s17.2.2.2.2 + (1 : Int32)) := ⟨_, rfl⟩
          replace h := kl_of ey29 h
          refine lv_iinc (v := y29) (lv' := [(9, .int y29), (6, .int y28), (11, .int y22), (10, .int y21), (0, .ref (aT 0)), (1, .int v1), (2, .int v2), (3, .int v3), (4, .int v4), (5, .int s17.1), (7, .int s17.2.2.1), (8, .int s17.2.2.2.1)]) X.1 X.2.1 dX8_depthBeside_117 hl (k := 11) rfl (by rw [ey29]; rfl) (by decide) rfl (fun ls hl => ?_)
          refine lv_goto (tgt := 15) X.1 X.2.1 dX8_depthBeside_120 (by decide) ?_
          obtain rfl := Option.some.inj h
          exact hG20 _ _ _ V (lv_sub hl [4, 5, 6, 7, 8, 9, 1, 10, 11, 0] rfl)
      · replace h := kif_f hc h
        obtain ⟨y30, ey30⟩ : ∃ y : Int32, y = (s17.1 + (1 : Int32)) := ⟨_, rfl⟩
        replace h := kl_of ey30 h
        refine lv_iinc (v := y30) (lv' := [(5, .int y30), (11, .int y22), (10, .int y21), (0, .ref (aT 0)), (1, .int v1), (2, .int v2), (3, .int v3), (4, .int v4), (6, .int s17.2.1), (7, .int s17.2.2.1), (8, .int s17.2.2.2.1), (9, .int s17.2.2.2.2)]) X.1 X.2.1 dX8_depthBeside_81 hl (k := 7) rfl (by rw [ey30]; rfl) (by decide) rfl (fun ls hl => ?_)
        refine lv_goto (tgt := 117) X.1 X.2.1 dX8_depthBeside_84 (by decide) ?_
        obtain ⟨y31, ey31⟩ : ∃ y : Int32, y = (s17.2.2.2.2 + (1 : Int32)) := ⟨_, rfl⟩
        replace h := kl_of ey31 h
        refine lv_iinc (v := y31) (lv' := [(9, .int y31), (5, .int y30), (11, .int y22), (10, .int y21), (0, .ref (aT 0)), (1, .int v1), (2, .int v2), (3, .int v3), (4, .int v4), (6, .int s17.2.1), (7, .int s17.2.2.1), (8, .int s17.2.2.2.1)]) X.1 X.2.1 dX8_depthBeside_117 hl (k := 11) rfl (by rw [ey31]; rfl) (by decide) rfl (fun ls hl => ?_)
        refine lv_goto (tgt := 15) X.1 X.2.1 dX8_depthBeside_120 (by decide) ?_
        obtain rfl := Option.some.inj h
        exact hG20 _ _ _ V (lv_sub hl [4, 5, 6, 7, 8, 1, 9, 10, 11, 0] rfl)
  · intro H locs ls V hl
    have V : kW D AA s.heap H (List.flatten [gX8 g aT zT]) locs := V
    have hl : lv_has ls 12 [(0, .ref (aT 0)), (1, .int v1), (2, .int v2), (3, .int v3), (4, .int v4), (5, .int x16.2.1), (6, .int x16.2.2.1), (7, .int x16.2.2.2.1), (8, .int x16.2.2.2.2.1), (9, .int x16.2.2.2.2.2)] := hl
    obtain ⟨hc, h⟩ := kg_of h
    refine W.eq (g2 := F0 m 123 ls []) (by rw [hc]) ?_
    refine lv_aload_n X.1 X.2.1 dX8_depthBeside_123 rfl (lv_at hl 0 rfl) ?_
    refine gf_X8_21 (i := 0) X V rfl dX8_depthBeside_124 ?_
    refine lv_iload X.1 X.2.1 dX8_depthBeside_127 (lv_at hl 5 rfl) ?_
    refine lv_isub X.1 X.2.1 dX8_depthBeside_129 ?_
    refine lv_iload X.1 X.2.1 dX8_depthBeside_130 (lv_at hl 6 rfl) ?_
    refine lv_isub X.1 X.2.1 dX8_depthBeside_132 ?_
    refine lv_iload X.1 X.2.1 dX8_depthBeside_133 (lv_at hl 7 rfl) ?_
    refine lv_isub X.1 X.2.1 dX8_depthBeside_135 ?_
    refine lv_iload X.1 X.2.1 dX8_depthBeside_136 (lv_at hl 8 rfl) ?_
    refine lv_isub X.1 X.2.1 dX8_depthBeside_138 ?_
    refine lv_topi (fun y32 ey32 => ?_)
    replace h := kl_of ey32 h
    refine lv_istore (lv' := [(9, .int y32), (0, .ref (aT 0)), (1, .int v1), (2, .int v2), (3, .int v3), (4, .int v4), (5, .int x16.2.1), (6, .int x16.2.2.1), (7, .int x16.2.2.2.1), (8, .int x16.2.2.2.2.1)]) X.1 X.2.1 dX8_depthBeside_139 hl (by decide) rfl (fun ls hl => ?_)
    refine lv_iload X.1 X.2.1 dX8_depthBeside_141 (lv_at hl 0 rfl) ?_
    refine lv_iload X.1 X.2.1 dX8_depthBeside_143 (lv_at hl 6 rfl) ?_
    refine lv_iload X.1 X.2.1 dX8_depthBeside_145 (lv_at hl 7 rfl) ?_
    obtain ⟨x33, hx33, h⟩ := kb_of h
    refine s_callSi (segs' := [gX8 g aT zT]) X V (c_J9_min_7cf53 l D g x16.2.1 x16.2.2.1 x33 hx33) w_X8_53 ⟨Nat.le_of_ble_eq_true rfl, Nat.le_of_ble_eq_true rfl⟩ ⟨Nat.zero_le _, Nat.zero_le _⟩ rfl [] rfl rfl (kFst_refl _) rfl rfl hl.1 (Nat.le_of_ble_eq_true rfl) dX8_depthBeside_147 (fun H locs V => ?_)
    refine lv_iadd X.1 X.2.1 dX8_depthBeside_150 ?_
    refine lv_iload X.1 X.2.1 dX8_depthBeside_151 (lv_at hl 8 rfl) ?_
    refine lv_iload X.1 X.2.1 dX8_depthBeside_153 (lv_at hl 9 rfl) ?_
    obtain ⟨x34, hx34, h⟩ := kb_of h
    refine s_callSi (segs' := [gX8 g aT zT]) X V (c_J9_min_7cf53 l D g x16.2.2.2.1 x16.2.2.2.2.1 x34 hx34) w_X8_53 ⟨Nat.le_of_ble_eq_true rfl, Nat.le_of_ble_eq_true rfl⟩ ⟨Nat.zero_le _, Nat.zero_le _⟩ rfl [] rfl rfl (kFst_refl _) rfl rfl hl.1 (Nat.le_of_ble_eq_true rfl) dX8_depthBeside_155 (fun H locs V => ?_)
    refine lv_iadd X.1 X.2.1 dX8_depthBeside_158 ?_
    obtain rfl := Option.some.inj h
    rw [hAA] at V
    rw [hQQ]
    exact k_iret X V rfl dX8_depthBeside_159

def p_X8_depth_J39_8 (zT : tX8) (v1 : Int32) (v2 : Int32) (v3 : Int32) (v4 : Int32) : Option (Nat × (Int32 × Int32)) :=
  kg (kii v4 41) (kg (kii v4 41) (kb (p_X8_depthBeside zT v1 v2 ((zT.1 v4.toNatClampNeg) - v1) ((zT.2.1 v4.toNatClampNeg) - v2)) (fun x2 => kb (p_J9_min_7cf53 v3 x2) (fun x3 => kl (v4 + (1 : Int32)) (fun y4 => some (8, (x3, y4)))))))
def p_X8_depth_L8 (zT : tX8) (v1 : Int32) (v2 : Int32) (s : Int32 × Int32) : Option (Nat × (Int32 × Int32)) :=
  kif (zT.2.2.2 ≤ s.2) (some (74, (s.1, s.2))) (kg (kii s.2 41) (kif ((zT.1 s.2.toNatClampNeg) = v1) (kg (kii s.2 41) (kif ((zT.2.1 s.2.toNatClampNeg) = v2) (kl (s.2 + (1 : Int32)) (fun y1 => some (8, (s.1, y1)))) (p_X8_depth_J39_8 zT v1 v2 s.1 s.2))) (p_X8_depth_J39_8 zT v1 v2 s.1 s.2)))
def p_X8_depth (zT : tX8) (v1 : Int32) (v2 : Int32) : Option (Int32) :=
  kb (kitr 8 (fun q => p_X8_depth_L8 zT v1 v2 q) kF (zT.2.2.2, (0 : Int32))) (fun x5 => kg (x5.1 = 74) (some x5.2.1))
set_option maxHeartbeats 4000000 in
set_option maxRecDepth 100000 in
theorem c_X8_depth (l : Launch) (D : va_G) (g : kG) (aT : Nat → Nat) (zT : tX8) (v1 : Int32) (v2 : Int32) (r : Int32) (h : p_X8_depth zT v1 v2 = some r) : kMi l yX8_depth cX8_depth 5 (some .int) (kR 2 52) D (kty g) [.ref (aT 0), .int v1, .int v2] (List.flatten [gX8 g aT zT]) r (List.flatten [gX8 g aT zT]) := by
  intro sz
  refine k_enter (lv := [(0, .ref (aT 0)), (1, .int v1), (2, .int v2)]) RX8 (by decide +kernel) rfl rfl (Nat.le_of_ble_eq_true rfl) ?_
  intro p en s m args below meth c ls hsz X V hl
  obtain ⟨QQ, hQQ⟩ : ∃ q, q = MQ below (va_Qi (fun r' (_ : Unit) => r' = r) (fun _ => kE D (List.flatten [gX8 g aT zT])) (va_A (List.flatten [gX8 g aT zT]) sz)) args s 0 0 (va_A (List.flatten [gX8 g aT zT]) sz) := ⟨_, rfl⟩
  rw [← hQQ]
  obtain ⟨AA, hAA⟩ : ∃ q, q = va_A (List.flatten [gX8 g aT zT]) sz := ⟨_, rfl⟩
  rw [← hAA] at V
  unfold p_X8_depth at h
  refine lv_aload_n X.1 X.2.1 dX8_depth_0 rfl (lv_at hl 0 rfl) ?_
  refine gf_X8_21 (i := 0) X V rfl dX8_depth_1 ?_
  refine lv_istore_n (lv' := [(3, .int zT.2.2.2), (0, .ref (aT 0)), (1, .int v1), (2, .int v2)]) X.1 X.2.1 dX8_depth_4 rfl hl (by decide) rfl (fun ls hl => ?_)
  refine lv_iconst (v := (0 : Int32)) X.1 X.2.1 dX8_depth_5 (by decide) ?_
  refine lv_istore (lv' := [(4, .int (0 : Int32)), (3, .int zT.2.2.2), (0, .ref (aT 0)), (1, .int v1), (2, .int v2)]) X.1 X.2.1 dX8_depth_6 hl (by decide) rfl (fun ls hl => ?_)
  obtain ⟨x6, hx6, h⟩ := kb_of h
  refine (kitr_go (hd := 8) (body := fun q => p_X8_depth_L8 zT v1 v2 q) (G := (fun e => ∀ (H : Heap) (locs : List Loc) (ls : Array Slot), kW D AA s.heap H (List.flatten [gX8 g aT zT]) locs → lv_has ls 5 [(0, .ref (aT 0)), (1, .int v1), (2, .int v2), (3, .int e.2.1), (4, .int e.2.2)] → W p l en (kR 2 52) s m args below meth c H locs 0 0 QQ (F0 m e.1 ls []))) (fun s7 e8 hb9 hG10 => ?_) kF _ x6 hx6 ?_) _ _ _ V (lv_sub hl [2, 3, 4, 1, 0] rfl)
  · intro H locs ls V hl
    show W p l en (kR 2 52) s m args below meth c H locs 0 0 QQ (F0 m 8 ls [])
    have h : p_X8_depth_L8 zT v1 v2 s7 = some e8 := hb9
    unfold p_X8_depth_L8 at h
    have V : kW D AA s.heap H (List.flatten [gX8 g aT zT]) locs := V
    have hl : lv_has ls 5 [(0, .ref (aT 0)), (1, .int v1), (2, .int v2), (3, .int s7.1), (4, .int s7.2)] := hl
    have J39 : ∀ (v3 : Int32) (v4 : Int32) (H : Heap) (locs : List Loc) (ls : Array Slot), p_X8_depth_J39_8 zT v1 v2 v3 v4 = some e8 → kW D AA s.heap H (List.flatten [gX8 g aT zT]) locs → lv_has ls 5 [(0, .ref (aT 0)), (1, .int v1), (2, .int v2), (3, .int v3), (4, .int v4)] → W p l en (kR 2 52) s m args below meth c H locs 0 0 QQ (F0 m 39 ls []) := by
      intro v3 v4 H locs ls h V hl
      unfold p_X8_depth_J39_8 at h
      refine lv_iload_n X.1 X.2.1 dX8_depth_39 rfl (lv_at hl 3 rfl) ?_
      refine lv_aload_n X.1 X.2.1 dX8_depth_40 rfl (lv_at hl 0 rfl) ?_
      refine lv_iload_n X.1 X.2.1 dX8_depth_41 rfl (lv_at hl 1 rfl) ?_
      refine lv_iload_n X.1 X.2.1 dX8_depth_42 rfl (lv_at hl 2 rfl) ?_
      refine lv_aload_n X.1 X.2.1 dX8_depth_43 rfl (lv_at hl 0 rfl) ?_
      refine gf_X8_11 (i := 0) X V rfl dX8_depth_44 ?_
      refine lv_iload X.1 X.2.1 dX8_depth_47 (lv_at hl 4 rfl) ?_
      obtain ⟨hc, h⟩ := kg_of h
      refine al_X8_0 (i := 0) X V rfl hc dX8_depth_49 ?_
      refine lv_iload_n X.1 X.2.1 dX8_depth_50 rfl (lv_at hl 1 rfl) ?_
      refine lv_isub X.1 X.2.1 dX8_depth_51 ?_
      refine lv_aload_n X.1 X.2.1 dX8_depth_52 rfl (lv_at hl 0 rfl) ?_
      refine gf_X8_15 (i := 0) X V rfl dX8_depth_53 ?_
      refine lv_iload X.1 X.2.1 dX8_depth_56 (lv_at hl 4 rfl) ?_
      obtain ⟨hc, h⟩ := kg_of h
      refine al_X8_1 (i := 0) X V rfl hc dX8_depth_58 ?_
      refine lv_iload_n X.1 X.2.1 dX8_depth_59 rfl (lv_at hl 2 rfl) ?_
      refine lv_isub X.1 X.2.1 dX8_depth_60 ?_
      obtain ⟨x11, hx11, h⟩ := kb_of h
      refine s_callVi (segs' := [gX8 g aT zT]) (ci := 8) (i0 := 0) X V (c_X8_depthBeside l D g aT zT v1 v2 ((zT.1 v4.toNatClampNeg) - v1) ((zT.2.1 v4.toNatClampNeg) - v2) x11 hx11) w_X8_49 ⟨Nat.le_of_ble_eq_true rfl, Nat.le_of_ble_eq_true rfl⟩ ⟨Nat.zero_le _, Nat.zero_le _⟩ rfl rfl rfl rfl [0] rfl rfl (kFst_refl _) rfl rfl hl.1 (Nat.le_of_ble_eq_true rfl) dX8_depth_61 (fun H locs V => ?_)
      obtain ⟨x12, hx12, h⟩ := kb_of h
      refine s_callSi (segs' := [gX8 g aT zT]) X V (c_J9_min_7cf53 l D g v3 x11 x12 hx12) w_X8_53 ⟨Nat.le_of_ble_eq_true rfl, Nat.le_of_ble_eq_true rfl⟩ ⟨Nat.zero_le _, Nat.zero_le _⟩ rfl [] rfl rfl (kFst_refl _) rfl rfl hl.1 (Nat.le_of_ble_eq_true rfl) dX8_depth_64 (fun H locs V => ?_)
      refine lv_istore_n (lv' := [(3, .int x12), (0, .ref (aT 0)), (1, .int v1), (2, .int v2), (4, .int v4)]) X.1 X.2.1 dX8_depth_67 rfl hl (by decide) rfl (fun ls hl => ?_)
      obtain ⟨y13, ey13⟩ : ∃ y : Int32, y = (v4 + (1 : Int32)) := ⟨_, rfl⟩
      replace h := kl_of ey13 h
      refine lv_iinc (v := y13) (lv' := [(4, .int y13), (3, .int x12), (0, .ref (aT 0)), (1, .int v1), (2, .int v2)]) X.1 X.2.1 dX8_depth_68 hl (k := 4) rfl (by rw [ey13]; rfl) (by decide) rfl (fun ls hl => ?_)
      refine lv_goto (tgt := 8) X.1 X.2.1 dX8_depth_71 (by decide) ?_
      obtain rfl := Option.some.inj h
      exact hG10 _ _ _ V (lv_sub hl [2, 3, 4, 1, 0] rfl)
    refine lv_iload X.1 X.2.1 dX8_depth_8 (lv_at hl 4 rfl) ?_
    refine lv_aload_n X.1 X.2.1 dX8_depth_10 rfl (lv_at hl 0 rfl) ?_
    refine gf_X8_21 (i := 0) X V rfl dX8_depth_11 ?_
    refine lv_icmp_ge (tgt := 74) X.1 X.2.1 dX8_depth_14 (by decide) (fun hc => ?_) (fun hc => ?_)
    · replace h := kif_t hc h
      obtain rfl := Option.some.inj h
      exact hG10 _ _ _ V (lv_sub hl [0, 1, 2, 3, 4] rfl)
    · replace h := kif_f hc h
      refine lv_aload_n X.1 X.2.1 dX8_depth_17 rfl (lv_at hl 0 rfl) ?_
      refine gf_X8_11 (i := 0) X V rfl dX8_depth_18 ?_
      refine lv_iload X.1 X.2.1 dX8_depth_21 (lv_at hl 4 rfl) ?_
      obtain ⟨hc, h⟩ := kg_of h
      refine al_X8_0 (i := 0) X V rfl hc dX8_depth_23 ?_
      refine lv_iload_n X.1 X.2.1 dX8_depth_24 rfl (lv_at hl 1 rfl) ?_
      refine lv_icmp_ne (tgt := 39) X.1 X.2.1 dX8_depth_25 (by decide) (fun hc => ?_) (fun hc => ?_)
      · replace h := kif_f hc h
        exact J39 s7.1 s7.2 _ _ _ h V (lv_sub hl [0, 1, 2, 3, 4] rfl)
      · replace h := kif_t hc h
        refine lv_aload_n X.1 X.2.1 dX8_depth_28 rfl (lv_at hl 0 rfl) ?_
        refine gf_X8_15 (i := 0) X V rfl dX8_depth_29 ?_
        refine lv_iload X.1 X.2.1 dX8_depth_32 (lv_at hl 4 rfl) ?_
        obtain ⟨hc, h⟩ := kg_of h
        refine al_X8_1 (i := 0) X V rfl hc dX8_depth_34 ?_
        refine lv_iload_n X.1 X.2.1 dX8_depth_35 rfl (lv_at hl 2 rfl) ?_
        refine lv_icmp_eq (tgt := 68) X.1 X.2.1 dX8_depth_36 (by decide) (fun hc => ?_) (fun hc => ?_)
        · replace h := kif_t hc h
          obtain ⟨y14, ey14⟩ : ∃ y : Int32, y = (s7.2 + (1 : Int32)) := ⟨_, rfl⟩
          replace h := kl_of ey14 h
          refine lv_iinc (v := y14) (lv' := [(4, .int y14), (0, .ref (aT 0)), (1, .int v1), (2, .int v2), (3, .int s7.1)]) X.1 X.2.1 dX8_depth_68 hl (k := 4) rfl (by rw [ey14]; rfl) (by decide) rfl (fun ls hl => ?_)
          refine lv_goto (tgt := 8) X.1 X.2.1 dX8_depth_71 (by decide) ?_
          obtain rfl := Option.some.inj h
          exact hG10 _ _ _ V (lv_sub hl [1, 2, 3, 4, 0] rfl)
        · replace h := kif_f hc h
          exact J39 s7.1 s7.2 _ _ _ h V (lv_sub hl [0, 1, 2, 3, 4] rfl)
  · intro H locs ls V hl
    have V : kW D AA s.heap H (List.flatten [gX8 g aT zT]) locs := V
    have hl : lv_has ls 5 [(0, .ref (aT 0)), (1, .int v1), (2, .int v2), (3, .int x6.2.1), (4, .int x6.2.2)] := hl
    obtain ⟨hc, h⟩ := kg_of h
    refine W.eq (g2 := F0 m 74 ls []) (by rw [hc]) ?_
    refine lv_iload_n X.1 X.2.1 dX8_depth_74 rfl (lv_at hl 3 rfl) ?_
    obtain rfl := Option.some.inj h
    rw [hAA] at V
    rw [hQQ]
    exact k_iret X V rfl dX8_depth_75
