def p_X1_count (zT : tX1) : Option (Int32) :=
  some zT.2
set_option maxHeartbeats 4000000 in
set_option maxRecDepth 100000 in
theorem c_X1_count (l : Launch) (D : va_G) (g : kG) (aT : Nat → Nat) (zT : tX1) (r : Int32) (h : p_X1_count zT = some r) : kMi l yX1_count cX1_count 1 (some .int) (kR 0 0) D (kty g) [.ref (aT 0)] (List.flatten [gX1 g aT zT]) r (List.flatten [gX1 g aT zT]) := by
  intro sz
  refine k_enter (lv := [(0, .ref (aT 0))]) RX1 (by decide +kernel) rfl rfl (Nat.le_of_ble_eq_true rfl) ?_
  intro p en s m args below meth c ls hsz X V hl
  obtain ⟨QQ, hQQ⟩ : ∃ q, q = MQ below (va_Qi (fun r' (_ : Unit) => r' = r) (fun _ => kE D (List.flatten [gX1 g aT zT])) (va_A (List.flatten [gX1 g aT zT]) sz)) args s 0 0 (va_A (List.flatten [gX1 g aT zT]) sz) := ⟨_, rfl⟩
  rw [← hQQ]
  obtain ⟨AA, hAA⟩ : ∃ q, q = va_A (List.flatten [gX1 g aT zT]) sz := ⟨_, rfl⟩
  rw [← hAA] at V
  unfold p_X1_count at h
  refine lv_aload_n X.1 X.2.1 dX1_count_0 rfl (lv_at hl 0 rfl) ?_
  refine gf_X1_15 (i := 0) X V rfl dX1_count_1 ?_
  obtain rfl := Option.some.inj h
  rw [hAA] at V
  rw [hQQ]
  exact k_iret X V rfl dX1_count_4

def p_X1_packedAt (zT : tX1) (v1 : Int32) : Option (Int32) :=
  kif (v1 < 0) (some (0 : Int32)) (kif (zT.2 ≤ v1) (some (0 : Int32)) (kg (kii v1 780) (some ((zT.1 v1.toNatClampNeg)))))
set_option maxHeartbeats 4000000 in
set_option maxRecDepth 100000 in
theorem c_X1_packedAt (l : Launch) (D : va_G) (g : kG) (aT : Nat → Nat) (zT : tX1) (v1 : Int32) (r : Int32) (h : p_X1_packedAt zT v1 = some r) : kMi l yX1_packedAt cX1_packedAt 2 (some .int) (kR 0 0) D (kty g) [.ref (aT 0), .int v1] (List.flatten [gX1 g aT zT]) r (List.flatten [gX1 g aT zT]) := by
  intro sz
  refine k_enter (lv := [(0, .ref (aT 0)), (1, .int v1)]) RX1 (by decide +kernel) rfl rfl (Nat.le_of_ble_eq_true rfl) ?_
  intro p en s m args below meth c ls hsz X V hl
  obtain ⟨QQ, hQQ⟩ : ∃ q, q = MQ below (va_Qi (fun r' (_ : Unit) => r' = r) (fun _ => kE D (List.flatten [gX1 g aT zT])) (va_A (List.flatten [gX1 g aT zT]) sz)) args s 0 0 (va_A (List.flatten [gX1 g aT zT]) sz) := ⟨_, rfl⟩
  rw [← hQQ]
  obtain ⟨AA, hAA⟩ : ∃ q, q = va_A (List.flatten [gX1 g aT zT]) sz := ⟨_, rfl⟩
  rw [← hAA] at V
  unfold p_X1_packedAt at h
  refine lv_iload_n X.1 X.2.1 dX1_packedAt_0 rfl (lv_at hl 1 rfl) ?_
  refine lv_if_lt (tgt := 21) X.1 X.2.1 dX1_packedAt_1 (by decide) (fun hc => ?_) (fun hc => ?_)
  · replace h := kif_t hc h
    refine lv_iconst (v := (0 : Int32)) X.1 X.2.1 dX1_packedAt_21 (by decide) ?_
    obtain rfl := Option.some.inj h
    rw [hAA] at V
    rw [hQQ]
    exact k_iret X V rfl dX1_packedAt_22
  · replace h := kif_f hc h
    refine lv_iload_n X.1 X.2.1 dX1_packedAt_4 rfl (lv_at hl 1 rfl) ?_
    refine lv_aload_n X.1 X.2.1 dX1_packedAt_5 rfl (lv_at hl 0 rfl) ?_
    refine gf_X1_15 (i := 0) X V rfl dX1_packedAt_6 ?_
    refine lv_icmp_ge (tgt := 21) X.1 X.2.1 dX1_packedAt_9 (by decide) (fun hc => ?_) (fun hc => ?_)
    · replace h := kif_t hc h
      refine lv_iconst (v := (0 : Int32)) X.1 X.2.1 dX1_packedAt_21 (by decide) ?_
      obtain rfl := Option.some.inj h
      rw [hAA] at V
      rw [hQQ]
      exact k_iret X V rfl dX1_packedAt_22
    · replace h := kif_f hc h
      refine lv_aload_n X.1 X.2.1 dX1_packedAt_12 rfl (lv_at hl 0 rfl) ?_
      refine gf_X1_11 (i := 0) X V rfl dX1_packedAt_13 ?_
      refine lv_iload_n X.1 X.2.1 dX1_packedAt_16 rfl (lv_at hl 1 rfl) ?_
      obtain ⟨hc, h⟩ := kg_of h
      refine al_X1_0 (i := 0) X V rfl hc dX1_packedAt_17 ?_
      refine lv_goto (tgt := 22) X.1 X.2.1 dX1_packedAt_18 (by decide) ?_
      obtain rfl := Option.some.inj h
      rw [hAA] at V
      rw [hQQ]
      exact k_iret X V rfl dX1_packedAt_22

def p_X1_distance (zT : tX1) (v1 : Int32) : Option (Int32) :=
  kb (p_X1_packedAt zT v1) (fun x1 => some ((x1 >>> ((12 : Int32) &&& 31))))
set_option maxHeartbeats 4000000 in
set_option maxRecDepth 100000 in
theorem c_X1_distance (l : Launch) (D : va_G) (g : kG) (aT : Nat → Nat) (zT : tX1) (v1 : Int32) (r : Int32) (h : p_X1_distance zT v1 = some r) : kMi l yX1_distance cX1_distance 2 (some .int) (kR 1 21) D (kty g) [.ref (aT 0), .int v1] (List.flatten [gX1 g aT zT]) r (List.flatten [gX1 g aT zT]) := by
  intro sz
  refine k_enter (lv := [(0, .ref (aT 0)), (1, .int v1)]) RX1 (by decide +kernel) rfl rfl (Nat.le_of_ble_eq_true rfl) ?_
  intro p en s m args below meth c ls hsz X V hl
  obtain ⟨QQ, hQQ⟩ : ∃ q, q = MQ below (va_Qi (fun r' (_ : Unit) => r' = r) (fun _ => kE D (List.flatten [gX1 g aT zT])) (va_A (List.flatten [gX1 g aT zT]) sz)) args s 0 0 (va_A (List.flatten [gX1 g aT zT]) sz) := ⟨_, rfl⟩
  rw [← hQQ]
  obtain ⟨AA, hAA⟩ : ∃ q, q = va_A (List.flatten [gX1 g aT zT]) sz := ⟨_, rfl⟩
  rw [← hAA] at V
  unfold p_X1_distance at h
  refine lv_aload_n X.1 X.2.1 dX1_distance_0 rfl (lv_at hl 0 rfl) ?_
  refine lv_iload_n X.1 X.2.1 dX1_distance_1 rfl (lv_at hl 1 rfl) ?_
  obtain ⟨x2, hx2, h⟩ := kb_of h
  refine s_callVi (segs' := [gX1 g aT zT]) (ci := 1) (i0 := 0) X V (c_X1_packedAt l D g aT zT v1 x2 hx2) w_X1_19 ⟨Nat.le_of_ble_eq_true rfl, Nat.le_of_ble_eq_true rfl⟩ ⟨Nat.zero_le _, Nat.zero_le _⟩ rfl rfl rfl rfl [0] rfl rfl (kFst_refl _) rfl rfl hl.1 (Nat.le_of_ble_eq_true rfl) dX1_distance_2 (fun H locs V => ?_)
  refine lv_bipush (v := (12 : Int32)) X.1 X.2.1 dX1_distance_5 (by decide) ?_
  refine lv_ishr X.1 X.2.1 dX1_distance_7 ?_
  obtain rfl := Option.some.inj h
  rw [hAA] at V
  rw [hQQ]
  exact k_iret X V rfl dX1_distance_8

def p_X1_first (zT : tX1) (v1 : Int32) : Option (Int32) :=
  kb (p_X1_packedAt zT v1) (fun x1 => some (((x1 >>> ((6 : Int32) &&& 31)) &&& (63 : Int32))))
set_option maxHeartbeats 4000000 in
set_option maxRecDepth 100000 in
theorem c_X1_first (l : Launch) (D : va_G) (g : kG) (aT : Nat → Nat) (zT : tX1) (v1 : Int32) (r : Int32) (h : p_X1_first zT v1 = some r) : kMi l yX1_first cX1_first 2 (some .int) (kR 1 21) D (kty g) [.ref (aT 0), .int v1] (List.flatten [gX1 g aT zT]) r (List.flatten [gX1 g aT zT]) := by
  intro sz
  refine k_enter (lv := [(0, .ref (aT 0)), (1, .int v1)]) RX1 (by decide +kernel) rfl rfl (Nat.le_of_ble_eq_true rfl) ?_
  intro p en s m args below meth c ls hsz X V hl
  obtain ⟨QQ, hQQ⟩ : ∃ q, q = MQ below (va_Qi (fun r' (_ : Unit) => r' = r) (fun _ => kE D (List.flatten [gX1 g aT zT])) (va_A (List.flatten [gX1 g aT zT]) sz)) args s 0 0 (va_A (List.flatten [gX1 g aT zT]) sz) := ⟨_, rfl⟩
  rw [← hQQ]
  obtain ⟨AA, hAA⟩ : ∃ q, q = va_A (List.flatten [gX1 g aT zT]) sz := ⟨_, rfl⟩
  rw [← hAA] at V
  unfold p_X1_first at h
  refine lv_aload_n X.1 X.2.1 dX1_first_0 rfl (lv_at hl 0 rfl) ?_
  refine lv_iload_n X.1 X.2.1 dX1_first_1 rfl (lv_at hl 1 rfl) ?_
  obtain ⟨x2, hx2, h⟩ := kb_of h
  refine s_callVi (segs' := [gX1 g aT zT]) (ci := 1) (i0 := 0) X V (c_X1_packedAt l D g aT zT v1 x2 hx2) w_X1_19 ⟨Nat.le_of_ble_eq_true rfl, Nat.le_of_ble_eq_true rfl⟩ ⟨Nat.zero_le _, Nat.zero_le _⟩ rfl rfl rfl rfl [0] rfl rfl (kFst_refl _) rfl rfl hl.1 (Nat.le_of_ble_eq_true rfl) dX1_first_2 (fun H locs V => ?_)
  refine lv_bipush (v := (6 : Int32)) X.1 X.2.1 dX1_first_5 (by decide) ?_
  refine lv_ishr X.1 X.2.1 dX1_first_7 ?_
  refine lv_bipush (v := (63 : Int32)) X.1 X.2.1 dX1_first_8 (by decide) ?_
  refine lv_iand X.1 X.2.1 dX1_first_10 ?_
  obtain rfl := Option.some.inj h
  rw [hAA] at V
  rw [hQQ]
  exact k_iret X V rfl dX1_first_11

def p_X1_second (zT : tX1) (v1 : Int32) : Option (Int32) :=
  kb (p_X1_packedAt zT v1) (fun x1 => some ((x1 &&& (63 : Int32))))
set_option maxHeartbeats 4000000 in
set_option maxRecDepth 100000 in
theorem c_X1_second (l : Launch) (D : va_G) (g : kG) (aT : Nat → Nat) (zT : tX1) (v1 : Int32) (r : Int32) (h : p_X1_second zT v1 = some r) : kMi l yX1_second cX1_second 2 (some .int) (kR 1 21) D (kty g) [.ref (aT 0), .int v1] (List.flatten [gX1 g aT zT]) r (List.flatten [gX1 g aT zT]) := by
  intro sz
  refine k_enter (lv := [(0, .ref (aT 0)), (1, .int v1)]) RX1 (by decide +kernel) rfl rfl (Nat.le_of_ble_eq_true rfl) ?_
  intro p en s m args below meth c ls hsz X V hl
  obtain ⟨QQ, hQQ⟩ : ∃ q, q = MQ below (va_Qi (fun r' (_ : Unit) => r' = r) (fun _ => kE D (List.flatten [gX1 g aT zT])) (va_A (List.flatten [gX1 g aT zT]) sz)) args s 0 0 (va_A (List.flatten [gX1 g aT zT]) sz) := ⟨_, rfl⟩
  rw [← hQQ]
  obtain ⟨AA, hAA⟩ : ∃ q, q = va_A (List.flatten [gX1 g aT zT]) sz := ⟨_, rfl⟩
  rw [← hAA] at V
  unfold p_X1_second at h
  refine lv_aload_n X.1 X.2.1 dX1_second_0 rfl (lv_at hl 0 rfl) ?_
  refine lv_iload_n X.1 X.2.1 dX1_second_1 rfl (lv_at hl 1 rfl) ?_
  obtain ⟨x2, hx2, h⟩ := kb_of h
  refine s_callVi (segs' := [gX1 g aT zT]) (ci := 1) (i0 := 0) X V (c_X1_packedAt l D g aT zT v1 x2 hx2) w_X1_19 ⟨Nat.le_of_ble_eq_true rfl, Nat.le_of_ble_eq_true rfl⟩ ⟨Nat.zero_le _, Nat.zero_le _⟩ rfl rfl rfl rfl [0] rfl rfl (kFst_refl _) rfl rfl hl.1 (Nat.le_of_ble_eq_true rfl) dX1_second_2 (fun H locs V => ?_)
  refine lv_bipush (v := (63 : Int32)) X.1 X.2.1 dX1_second_5 (by decide) ?_
  refine lv_iand X.1 X.2.1 dX1_second_7 ?_
  obtain rfl := Option.some.inj h
  rw [hAA] at V
  rw [hQQ]
  exact k_iret X V rfl dX1_second_8

def p_X1_pack (zT : tX1) (v1 : Int32) (v2 : Int32) (v3 : Int32) : Option (tX1) :=
  kif (zT.2 < (780 : Int32)) (kg (kii zT.2 780) (kl ((upd zT.1 (zT.2).toNatClampNeg ((((v1 <<< ((6 : Int32) &&& 31)) ||| v2) <<< ((6 : Int32) &&& 31)) ||| v3)), zT.2) (fun z1 => kl (z1.1, (z1.2 + (1 : Int32))) (fun z2 => some z2)))) (some zT)
set_option maxHeartbeats 4000000 in
set_option maxRecDepth 100000 in
theorem c_X1_pack (l : Launch) (D : va_G) (g : kG) (aT : Nat → Nat) (zT : tX1) (v1 : Int32) (v2 : Int32) (v3 : Int32) (r : tX1) (h : p_X1_pack zT v1 v2 v3 = some r) : kMv l yX1_pack cX1_pack 4 none (kR 0 0) D (kty g) [.ref (aT 0), .int v1, .int v2, .int v3] (List.flatten [gX1 g aT zT]) (List.flatten [gX1 g aT r]) := by
  intro sz
  refine k_enter (lv := [(0, .ref (aT 0)), (1, .int v1), (2, .int v2), (3, .int v3)]) RX1 (by decide +kernel) rfl rfl (Nat.le_of_ble_eq_true rfl) ?_
  intro p en s m args below meth c ls hsz X V hl
  obtain ⟨QQ, hQQ⟩ : ∃ q, q = MQ below (va_Qv (fun (_ : Unit) => True) (fun _ => kE D (List.flatten [gX1 g aT r])) (va_A (List.flatten [gX1 g aT zT]) sz)) args s 0 0 (va_A (List.flatten [gX1 g aT zT]) sz) := ⟨_, rfl⟩
  rw [← hQQ]
  obtain ⟨AA, hAA⟩ : ∃ q, q = va_A (List.flatten [gX1 g aT zT]) sz := ⟨_, rfl⟩
  rw [← hAA] at V
  unfold p_X1_pack at h
  refine lv_aload_n X.1 X.2.1 dX1_pack_0 rfl (lv_at hl 0 rfl) ?_
  refine gf_X1_15 (i := 0) X V rfl dX1_pack_1 ?_
  refine lv_sipush (v := (780 : Int32)) X.1 X.2.1 dX1_pack_4 (by decide) ?_
  refine lv_icmp_lt (tgt := 11) X.1 X.2.1 dX1_pack_7 (by decide) (fun hc => ?_) (fun hc => ?_)
  · replace h := kif_t hc h
    refine lv_aload_n X.1 X.2.1 dX1_pack_11 rfl (lv_at hl 0 rfl) ?_
    refine gf_X1_11 (i := 0) X V rfl dX1_pack_12 ?_
    refine lv_aload_n X.1 X.2.1 dX1_pack_15 rfl (lv_at hl 0 rfl) ?_
    refine gf_X1_15 (i := 0) X V rfl dX1_pack_16 ?_
    refine lv_iload_n X.1 X.2.1 dX1_pack_19 rfl (lv_at hl 1 rfl) ?_
    refine lv_bipush (v := (6 : Int32)) X.1 X.2.1 dX1_pack_20 (by decide) ?_
    refine lv_ishl X.1 X.2.1 dX1_pack_22 ?_
    refine lv_iload_n X.1 X.2.1 dX1_pack_23 rfl (lv_at hl 2 rfl) ?_
    refine lv_ior X.1 X.2.1 dX1_pack_24 ?_
    refine lv_bipush (v := (6 : Int32)) X.1 X.2.1 dX1_pack_25 (by decide) ?_
    refine lv_ishl X.1 X.2.1 dX1_pack_27 ?_
    refine lv_iload_n X.1 X.2.1 dX1_pack_28 rfl (lv_at hl 3 rfl) ?_
    refine lv_ior X.1 X.2.1 dX1_pack_29 ?_
    obtain ⟨hc, h⟩ := kg_of h
    refine as_X1_0 (i := 0) X V rfl hc dX1_pack_30 (fun H locs V => ?_)
    obtain ⟨z3, ez3⟩ : ∃ y, y = ((upd zT.1 (zT.2).toNatClampNeg ((((v1 <<< ((6 : Int32) &&& 31)) ||| v2) <<< ((6 : Int32) &&& 31)) ||| v3)), zT.2) := ⟨_, rfl⟩
    replace h := kl_of ez3 h
    have V : kW D AA s.heap H (List.flatten [gX1 g aT z3]) locs := by rw [ez3]; exact V
    refine lv_aload_n X.1 X.2.1 dX1_pack_31 rfl (lv_at hl 0 rfl) ?_
    refine lv_dup X.1 X.2.1 dX1_pack_32 rfl ?_
    refine gf_X1_15 (i := 0) X V rfl dX1_pack_33 ?_
    refine lv_iconst (v := (1 : Int32)) X.1 X.2.1 dX1_pack_36 (by decide) ?_
    refine lv_iadd X.1 X.2.1 dX1_pack_37 ?_
    refine pf_X1_15 (i := 0) X V rfl dX1_pack_38 (fun H locs V => ?_)
    obtain ⟨z4, ez4⟩ : ∃ y, y = (z3.1, (z3.2 + (1 : Int32))) := ⟨_, rfl⟩
    replace h := kl_of ez4 h
    have V : kW D AA s.heap H (List.flatten [gX1 g aT z4]) locs := by rw [ez4]; exact V
    obtain rfl := Option.some.inj h
    rw [hAA] at V
    rw [hQQ]
    exact k_vret X V dX1_pack_41
  · replace h := kif_f hc h
    obtain rfl := Option.some.inj h
    rw [hAA] at V
    rw [hQQ]
    exact k_vret X V dX1_pack_10

def p_X1_sink_L28 (v1 : Int32) (v2 : Int32) (v3 : Int32) (s : Int32 × tX1) : Option (Nat × (Int32 × tX1)) :=
  kif (s.1 < v2) (some (71, (s.1, s.2))) (kb (p_X1_packedAt s.2 (s.1 - v2)) (fun x2 => kif (x2 ≤ v3) (some (71, (s.1, s.2))) (kg (kii (s.1 - v2) 780) (kg (kii s.1 780) (kl ((upd s.2.1 (s.1).toNatClampNeg (s.2.1 ((s.1 - v2)).toNatClampNeg)), s.2.2) (fun z3 => kl (s.1 - v2) (fun y4 => some (28, (y4, z3)))))))))
def p_X1_sink (zT : tX1) (v1 : Int32) (v2 : Int32) : Option (tX1) :=
  kif (v2 < (1 : Int32)) (some zT) (kif (v1 < v2) (some zT) (kif (v1 < zT.2) (kb (p_X1_packedAt zT v1) (fun x1 => kb (kitr 28 (fun q => p_X1_sink_L28 v1 v2 x1 q) kF (v1, zT)) (fun x5 => kg (x5.1 = 71) (kg (kii x5.2.1 780) (kl ((upd x5.2.2.1 (x5.2.1).toNatClampNeg x1), x5.2.2.2) (fun z6 => some z6)))))) (some zT)))
set_option maxHeartbeats 4000000 in
set_option maxRecDepth 100000 in
theorem c_X1_sink (l : Launch) (D : va_G) (g : kG) (aT : Nat → Nat) (zT : tX1) (v1 : Int32) (v2 : Int32) (r : tX1) (h : p_X1_sink zT v1 v2 = some r) : kMv l yX1_sink cX1_sink 5 none (kR 1 21) D (kty g) [.ref (aT 0), .int v1, .int v2] (List.flatten [gX1 g aT zT]) (List.flatten [gX1 g aT r]) := by
  intro sz
  refine k_enter (lv := [(0, .ref (aT 0)), (1, .int v1), (2, .int v2)]) RX1 (by decide +kernel) rfl rfl (Nat.le_of_ble_eq_true rfl) ?_
  intro p en s m args below meth c ls hsz X V hl
  obtain ⟨QQ, hQQ⟩ : ∃ q, q = MQ below (va_Qv (fun (_ : Unit) => True) (fun _ => kE D (List.flatten [gX1 g aT r])) (va_A (List.flatten [gX1 g aT zT]) sz)) args s 0 0 (va_A (List.flatten [gX1 g aT zT]) sz) := ⟨_, rfl⟩
  rw [← hQQ]
  obtain ⟨AA, hAA⟩ : ∃ q, q = va_A (List.flatten [gX1 g aT zT]) sz := ⟨_, rfl⟩
  rw [← hAA] at V
  unfold p_X1_sink at h
  refine lv_iload_n X.1 X.2.1 dX1_sink_0 rfl (lv_at hl 2 rfl) ?_
  refine lv_iconst (v := (1 : Int32)) X.1 X.2.1 dX1_sink_1 (by decide) ?_
  refine lv_icmp_lt (tgt := 18) X.1 X.2.1 dX1_sink_2 (by decide) (fun hc => ?_) (fun hc => ?_)
  · replace h := kif_t hc h
    obtain rfl := Option.some.inj h
    rw [hAA] at V
    rw [hQQ]
    exact k_vret X V dX1_sink_18
  · replace h := kif_f hc h
    refine lv_iload_n X.1 X.2.1 dX1_sink_5 rfl (lv_at hl 1 rfl) ?_
    refine lv_iload_n X.1 X.2.1 dX1_sink_6 rfl (lv_at hl 2 rfl) ?_
    refine lv_icmp_lt (tgt := 18) X.1 X.2.1 dX1_sink_7 (by decide) (fun hc => ?_) (fun hc => ?_)
    · replace h := kif_t hc h
      obtain rfl := Option.some.inj h
      rw [hAA] at V
      rw [hQQ]
      exact k_vret X V dX1_sink_18
    · replace h := kif_f hc h
      refine lv_iload_n X.1 X.2.1 dX1_sink_10 rfl (lv_at hl 1 rfl) ?_
      refine lv_aload_n X.1 X.2.1 dX1_sink_11 rfl (lv_at hl 0 rfl) ?_
      refine gf_X1_15 (i := 0) X V rfl dX1_sink_12 ?_
      refine lv_icmp_lt (tgt := 19) X.1 X.2.1 dX1_sink_15 (by decide) (fun hc => ?_) (fun hc => ?_)
      · replace h := kif_t hc h
        refine lv_aload_n X.1 X.2.1 dX1_sink_19 rfl (lv_at hl 0 rfl) ?_
        refine lv_iload_n X.1 X.2.1 dX1_sink_20 rfl (lv_at hl 1 rfl) ?_
        obtain ⟨x7, hx7, h⟩ := kb_of h
        refine s_callVi (segs' := [gX1 g aT zT]) (ci := 1) (i0 := 0) X V (c_X1_packedAt l D g aT zT v1 x7 hx7) w_X1_19 ⟨Nat.le_of_ble_eq_true rfl, Nat.le_of_ble_eq_true rfl⟩ ⟨Nat.zero_le _, Nat.zero_le _⟩ rfl rfl rfl rfl [0] rfl rfl (kFst_refl _) rfl rfl hl.1 (Nat.le_of_ble_eq_true rfl) dX1_sink_21 (fun H locs V => ?_)
        refine lv_istore_n (lv' := [(3, .int x7), (0, .ref (aT 0)), (1, .int v1), (2, .int v2)]) X.1 X.2.1 dX1_sink_24 rfl hl (by decide) rfl (fun ls hl => ?_)
        refine lv_iload_n X.1 X.2.1 dX1_sink_25 rfl (lv_at hl 2 rfl) ?_
        refine lv_istore (lv' := [(4, .int v1), (3, .int x7), (0, .ref (aT 0)), (1, .int v1), (2, .int v2)]) X.1 X.2.1 dX1_sink_26 hl (by decide) rfl (fun ls hl => ?_)
        obtain ⟨x8, hx8, h⟩ := kb_of h
        refine (kitr_go (hd := 28) (body := fun q => p_X1_sink_L28 v1 v2 x7 q) (G := (fun e => ∀ (H : Heap) (locs : List Loc) (ls : Array Slot), kW D AA s.heap H (List.flatten [gX1 g aT e.2.2]) locs → lv_has ls 5 [(0, .ref (aT 0)), (2, .int v2), (3, .int x7), (4, .int e.2.1)] → W p l en (kR 1 21) s m args below meth c H locs 0 0 QQ (F0 m e.1 ls []))) (fun s9 e10 hb11 hG12 => ?_) kF _ x8 hx8 ?_) _ _ _ V (lv_sub hl [2, 4, 1, 0] rfl)
        · intro H locs ls V hl
          show W p l en (kR 1 21) s m args below meth c H locs 0 0 QQ (F0 m 28 ls [])
          have h : p_X1_sink_L28 v1 v2 x7 s9 = some e10 := hb11
          unfold p_X1_sink_L28 at h
          have V : kW D AA s.heap H (List.flatten [gX1 g aT s9.2]) locs := V
          have hl : lv_has ls 5 [(0, .ref (aT 0)), (2, .int v2), (3, .int x7), (4, .int s9.1)] := hl
          refine lv_iload X.1 X.2.1 dX1_sink_28 (lv_at hl 3 rfl) ?_
          refine lv_iload_n X.1 X.2.1 dX1_sink_30 rfl (lv_at hl 1 rfl) ?_
          refine lv_icmp_lt (tgt := 71) X.1 X.2.1 dX1_sink_31 (by decide) (fun hc => ?_) (fun hc => ?_)
          · replace h := kif_t hc h
            obtain rfl := Option.some.inj h
            exact hG12 _ _ _ V (lv_sub hl [0, 1, 2, 3] rfl)
          · replace h := kif_f hc h
            refine lv_aload_n X.1 X.2.1 dX1_sink_34 rfl (lv_at hl 0 rfl) ?_
            refine lv_iload X.1 X.2.1 dX1_sink_35 (lv_at hl 3 rfl) ?_
            refine lv_iload_n X.1 X.2.1 dX1_sink_37 rfl (lv_at hl 1 rfl) ?_
            refine lv_isub X.1 X.2.1 dX1_sink_38 ?_
            obtain ⟨x13, hx13, h⟩ := kb_of h
            refine s_callVi (segs' := [gX1 g aT s9.2]) (ci := 1) (i0 := 0) X V (c_X1_packedAt l D g aT s9.2 (s9.1 - v2) x13 hx13) w_X1_19 ⟨Nat.le_of_ble_eq_true rfl, Nat.le_of_ble_eq_true rfl⟩ ⟨Nat.zero_le _, Nat.zero_le _⟩ rfl rfl rfl rfl [0] rfl rfl (kFst_refl _) rfl rfl hl.1 (Nat.le_of_ble_eq_true rfl) dX1_sink_39 (fun H locs V => ?_)
            refine lv_iload_n X.1 X.2.1 dX1_sink_42 rfl (lv_at hl 2 rfl) ?_
            refine lv_icmp_le (tgt := 71) X.1 X.2.1 dX1_sink_43 (by decide) (fun hc => ?_) (fun hc => ?_)
            · replace h := kif_t hc h
              obtain rfl := Option.some.inj h
              exact hG12 _ _ _ V (lv_sub hl [0, 1, 2, 3] rfl)
            · replace h := kif_f hc h
              refine lv_aload_n X.1 X.2.1 dX1_sink_46 rfl (lv_at hl 0 rfl) ?_
              refine gf_X1_11 (i := 0) X V rfl dX1_sink_47 ?_
              refine lv_iload X.1 X.2.1 dX1_sink_50 (lv_at hl 3 rfl) ?_
              refine lv_aload_n X.1 X.2.1 dX1_sink_52 rfl (lv_at hl 0 rfl) ?_
              refine gf_X1_11 (i := 0) X V rfl dX1_sink_53 ?_
              refine lv_iload X.1 X.2.1 dX1_sink_56 (lv_at hl 3 rfl) ?_
              refine lv_iload_n X.1 X.2.1 dX1_sink_58 rfl (lv_at hl 1 rfl) ?_
              refine lv_isub X.1 X.2.1 dX1_sink_59 ?_
              obtain ⟨hc, h⟩ := kg_of h
              refine al_X1_0 (i := 0) X V rfl hc dX1_sink_60 ?_
              obtain ⟨hc, h⟩ := kg_of h
              refine as_X1_0 (i := 0) X V rfl hc dX1_sink_61 (fun H locs V => ?_)
              obtain ⟨z14, ez14⟩ : ∃ y, y = ((upd s9.2.1 (s9.1).toNatClampNeg (s9.2.1 ((s9.1 - v2)).toNatClampNeg)), s9.2.2) := ⟨_, rfl⟩
              replace h := kl_of ez14 h
              have V : kW D AA s.heap H (List.flatten [gX1 g aT z14]) locs := by rw [ez14]; exact V
              refine lv_iload X.1 X.2.1 dX1_sink_62 (lv_at hl 3 rfl) ?_
              refine lv_iload_n X.1 X.2.1 dX1_sink_64 rfl (lv_at hl 1 rfl) ?_
              refine lv_isub X.1 X.2.1 dX1_sink_65 ?_
              refine lv_topi (fun y15 ey15 => ?_)
              replace h := kl_of ey15 h
              refine lv_istore (lv' := [(4, .int y15), (0, .ref (aT 0)), (2, .int v2), (3, .int x7)]) X.1 X.2.1 dX1_sink_66 hl (by decide) rfl (fun ls hl => ?_)
              refine lv_goto (tgt := 28) X.1 X.2.1 dX1_sink_68 (by decide) ?_
              obtain rfl := Option.some.inj h
              exact hG12 _ _ _ V (lv_sub hl [1, 2, 3, 0] rfl)
        · intro H locs ls V hl
          have V : kW D AA s.heap H (List.flatten [gX1 g aT x8.2.2]) locs := V
          have hl : lv_has ls 5 [(0, .ref (aT 0)), (2, .int v2), (3, .int x7), (4, .int x8.2.1)] := hl
          obtain ⟨hc, h⟩ := kg_of h
          refine W.eq (g2 := F0 m 71 ls []) (by rw [hc]) ?_
          refine lv_aload_n X.1 X.2.1 dX1_sink_71 rfl (lv_at hl 0 rfl) ?_
          refine gf_X1_11 (i := 0) X V rfl dX1_sink_72 ?_
          refine lv_iload X.1 X.2.1 dX1_sink_75 (lv_at hl 3 rfl) ?_
          refine lv_iload_n X.1 X.2.1 dX1_sink_77 rfl (lv_at hl 2 rfl) ?_
          obtain ⟨hc, h⟩ := kg_of h
          refine as_X1_0 (i := 0) X V rfl hc dX1_sink_78 (fun H locs V => ?_)
          obtain ⟨z16, ez16⟩ : ∃ y, y = ((upd x8.2.2.1 (x8.2.1).toNatClampNeg x7), x8.2.2.2) := ⟨_, rfl⟩
          replace h := kl_of ez16 h
          have V : kW D AA s.heap H (List.flatten [gX1 g aT z16]) locs := by rw [ez16]; exact V
          obtain rfl := Option.some.inj h
          rw [hAA] at V
          rw [hQQ]
          exact k_vret X V dX1_sink_79
      · replace h := kif_f hc h
        obtain rfl := Option.some.inj h
        rw [hAA] at V
        rw [hQQ]
        exact k_vret X V dX1_sink_18

def p_X1_order_L19 (zP1 : tX8) (v2 : Int32) (s : Int32 × tX1) : Option (Nat × (Int32 × tX1)) :=
  kb (p_X8_count zP1) (fun x4 => kif (x4 ≤ s.1) (some (45, (s.1, s.2))) (kb (p_X8_distance zP1 v2 s.1) (fun x5 => kb (p_X1_pack s.2 x5 v2 s.1) (fun x6 => kl (s.1 + (1 : Int32)) (fun y7 => some (19, (y7, x6)))))))
def p_X1_order_L7 (zP1 : tX8) (s : Int32 × tX1) : Option (Nat × (Int32 × tX1)) :=
  kb (p_X8_count zP1) (fun x2 => kif (x2 ≤ s.1) (some (51, (s.1, s.2))) (kl (s.1 + (1 : Int32)) (fun y3 => kb (kitr 19 (fun q => p_X1_order_L19 zP1 s.1 q) kF (y3, s.2)) (fun x8 => kg (x8.1 = 45) (kl (s.1 + (1 : Int32)) (fun y9 => some (7, (y9, x8.2.2))))))))
def p_X1_order_L64 (zP1 : tX8) (v2 : Int32) (s : Int32 × tX1) : Option (Nat × (Int32 × tX1)) :=
  kif (s.2.2 ≤ s.1) (some (84, (s.1, s.2))) (kb (p_X1_sink s.2 s.1 v2) (fun x12 => kl (s.1 + (1 : Int32)) (fun y13 => some (64, (y13, x12)))))
def p_X1_order_L58 (zP1 : tX8) (s : Int32 × tX1) : Option (Nat × (Int32 × tX1)) :=
  kif (s.1 ≤ 0) (some (91, (s.1, s.2))) (kb (kitr 64 (fun q => p_X1_order_L64 zP1 s.1 q) kF (s.1, s.2)) (fun x14 => kg (x14.1 = 84) (kl (s.1 / (2 : Int32)) (fun y15 => some (58, (y15, x14.2.2))))))
def p_X1_order (zT : tX1) (zP1 : tX8) : Option (tX1) :=
  kl (zT.1, (0 : Int32)) (fun z1 => kb (kitr 7 (fun q => p_X1_order_L7 zP1 q) kF ((0 : Int32), z1)) (fun x10 => kg (x10.1 = 51) (kl (x10.2.2.2 / (2 : Int32)) (fun y11 => kb (kitr 58 (fun q => p_X1_order_L58 zP1 q) kF (y11, x10.2.2)) (fun x16 => kg (x16.1 = 91) (some x16.2.2))))))
set_option maxHeartbeats 4000000 in
set_option maxRecDepth 100000 in
theorem c_X1_order (l : Launch) (D : va_G) (g : kG) (aT : Nat → Nat) (aP1 : Nat → Nat) (zT : tX1) (zP1 : tX8) (r : tX1) (h : p_X1_order zT zP1 = some r) : kMv l yX1_order cX1_order 4 none (kR 2 45) D (kty g) [.ref (aT 0), .ref (aP1 0)] (List.flatten [gX1 g aT zT, gX8 g aP1 zP1]) (List.flatten [gX1 g aT r, gX8 g aP1 zP1]) := by
  intro sz
  refine k_enter (lv := [(0, .ref (aT 0)), (1, .ref (aP1 0))]) RX1 (by decide +kernel) rfl rfl (Nat.le_of_ble_eq_true rfl) ?_
  intro p en s m args below meth c ls hsz X V hl
  obtain ⟨QQ, hQQ⟩ : ∃ q, q = MQ below (va_Qv (fun (_ : Unit) => True) (fun _ => kE D (List.flatten [gX1 g aT r, gX8 g aP1 zP1])) (va_A (List.flatten [gX1 g aT zT, gX8 g aP1 zP1]) sz)) args s 0 0 (va_A (List.flatten [gX1 g aT zT, gX8 g aP1 zP1]) sz) := ⟨_, rfl⟩
  rw [← hQQ]
  obtain ⟨AA, hAA⟩ : ∃ q, q = va_A (List.flatten [gX1 g aT zT, gX8 g aP1 zP1]) sz := ⟨_, rfl⟩
  rw [← hAA] at V
  unfold p_X1_order at h
  refine lv_aload_n X.1 X.2.1 dX1_order_0 rfl (lv_at hl 0 rfl) ?_
  refine lv_iconst (v := (0 : Int32)) X.1 X.2.1 dX1_order_1 (by decide) ?_
  refine pf_X1_15 (i := 0) X V rfl dX1_order_2 (fun H locs V => ?_)
  obtain ⟨z17, ez17⟩ : ∃ y, y = (zT.1, (0 : Int32)) := ⟨_, rfl⟩
  replace h := kl_of ez17 h
  have V : kW D AA s.heap H (List.flatten [gX1 g aT z17, gX8 g aP1 zP1]) locs := by rw [ez17]; exact V
  refine lv_iconst (v := (0 : Int32)) X.1 X.2.1 dX1_order_5 (by decide) ?_
  refine lv_istore_n (lv' := [(2, .int (0 : Int32)), (0, .ref (aT 0)), (1, .ref (aP1 0))]) X.1 X.2.1 dX1_order_6 rfl hl (by decide) rfl (fun ls hl => ?_)
  obtain ⟨x18, hx18, h⟩ := kb_of h
  refine (kitr_go (hd := 7) (body := fun q => p_X1_order_L7 zP1 q) (G := (fun e => ∀ (H : Heap) (locs : List Loc) (ls : Array Slot), kW D AA s.heap H (List.flatten [gX1 g aT e.2.2, gX8 g aP1 zP1]) locs → lv_has ls 4 [(0, .ref (aT 0)), (1, .ref (aP1 0)), (2, .int e.2.1)] → W p l en (kR 2 45) s m args below meth c H locs 0 0 QQ (F0 m e.1 ls []))) (fun s19 e20 hb21 hG22 => ?_) kF _ x18 hx18 ?_) _ _ _ V (lv_sub hl [1, 2, 0] rfl)
  · intro H locs ls V hl
    show W p l en (kR 2 45) s m args below meth c H locs 0 0 QQ (F0 m 7 ls [])
    have h : p_X1_order_L7 zP1 s19 = some e20 := hb21
    unfold p_X1_order_L7 at h
    have V : kW D AA s.heap H (List.flatten [gX1 g aT s19.2, gX8 g aP1 zP1]) locs := V
    have hl : lv_has ls 4 [(0, .ref (aT 0)), (1, .ref (aP1 0)), (2, .int s19.1)] := hl
    refine lv_iload_n X.1 X.2.1 dX1_order_7 rfl (lv_at hl 2 rfl) ?_
    refine lv_aload_n X.1 X.2.1 dX1_order_8 rfl (lv_at hl 1 rfl) ?_
    obtain ⟨x23, hx23, h⟩ := kb_of h
    refine s_callVi (segs' := [gX1 g aT s19.2, gX8 g aP1 zP1]) (ci := 8) (i0 := 0) X V (c_X8_count l D g aP1 zP1 x23 hx23) w_X1_23 ⟨Nat.le_of_ble_eq_true rfl, Nat.le_of_ble_eq_true rfl⟩ ⟨Nat.zero_le _, Nat.zero_le _⟩ rfl rfl rfl rfl [1] rfl rfl (kFst_refl _) rfl rfl hl.1 (Nat.le_of_ble_eq_true rfl) dX1_order_9 (fun H locs V => ?_)
    refine lv_icmp_ge (tgt := 51) X.1 X.2.1 dX1_order_12 (by decide) (fun hc => ?_) (fun hc => ?_)
    · replace h := kif_t hc h
      obtain rfl := Option.some.inj h
      exact hG22 _ _ _ V (lv_sub hl [0, 1, 2] rfl)
    · replace h := kif_f hc h
      refine lv_iload_n X.1 X.2.1 dX1_order_15 rfl (lv_at hl 2 rfl) ?_
      refine lv_iconst (v := (1 : Int32)) X.1 X.2.1 dX1_order_16 (by decide) ?_
      refine lv_iadd X.1 X.2.1 dX1_order_17 ?_
      refine lv_topi (fun y24 ey24 => ?_)
      replace h := kl_of ey24 h
      refine lv_istore_n (lv' := [(3, .int y24), (0, .ref (aT 0)), (1, .ref (aP1 0)), (2, .int s19.1)]) X.1 X.2.1 dX1_order_18 rfl hl (by decide) rfl (fun ls hl => ?_)
      obtain ⟨x25, hx25, h⟩ := kb_of h
      refine (kitr_go (hd := 19) (body := fun q => p_X1_order_L19 zP1 s19.1 q) (G := (fun e => ∀ (H : Heap) (locs : List Loc) (ls : Array Slot), kW D AA s.heap H (List.flatten [gX1 g aT e.2.2, gX8 g aP1 zP1]) locs → lv_has ls 4 [(0, .ref (aT 0)), (1, .ref (aP1 0)), (2, .int s19.1), (3, .int e.2.1)] → W p l en (kR 2 45) s m args below meth c H locs 0 0 QQ (F0 m e.1 ls []))) (fun s26 e27 hb28 hG29 => ?_) kF _ x25 hx25 ?_) _ _ _ V (lv_sub hl [1, 2, 3, 0] rfl)
      · intro H locs ls V hl
        show W p l en (kR 2 45) s m args below meth c H locs 0 0 QQ (F0 m 19 ls [])
        have h : p_X1_order_L19 zP1 s19.1 s26 = some e27 := hb28
        unfold p_X1_order_L19 at h
        have V : kW D AA s.heap H (List.flatten [gX1 g aT s26.2, gX8 g aP1 zP1]) locs := V
        have hl : lv_has ls 4 [(0, .ref (aT 0)), (1, .ref (aP1 0)), (2, .int s19.1), (3, .int s26.1)] := hl
        refine lv_iload_n X.1 X.2.1 dX1_order_19 rfl (lv_at hl 3 rfl) ?_
        refine lv_aload_n X.1 X.2.1 dX1_order_20 rfl (lv_at hl 1 rfl) ?_
        obtain ⟨x30, hx30, h⟩ := kb_of h
        refine s_callVi (segs' := [gX1 g aT s26.2, gX8 g aP1 zP1]) (ci := 8) (i0 := 0) X V (c_X8_count l D g aP1 zP1 x30 hx30) w_X1_23 ⟨Nat.le_of_ble_eq_true rfl, Nat.le_of_ble_eq_true rfl⟩ ⟨Nat.zero_le _, Nat.zero_le _⟩ rfl rfl rfl rfl [1] rfl rfl (kFst_refl _) rfl rfl hl.1 (Nat.le_of_ble_eq_true rfl) dX1_order_21 (fun H locs V => ?_)
        refine lv_icmp_ge (tgt := 45) X.1 X.2.1 dX1_order_24 (by decide) (fun hc => ?_) (fun hc => ?_)
        · replace h := kif_t hc h
          obtain rfl := Option.some.inj h
          exact hG29 _ _ _ V (lv_sub hl [0, 1, 2, 3] rfl)
        · replace h := kif_f hc h
          refine lv_aload_n X.1 X.2.1 dX1_order_27 rfl (lv_at hl 0 rfl) ?_
          refine lv_aload_n X.1 X.2.1 dX1_order_28 rfl (lv_at hl 1 rfl) ?_
          refine lv_iload_n X.1 X.2.1 dX1_order_29 rfl (lv_at hl 2 rfl) ?_
          refine lv_iload_n X.1 X.2.1 dX1_order_30 rfl (lv_at hl 3 rfl) ?_
          obtain ⟨x31, hx31, h⟩ := kb_of h
          refine s_callVi (segs' := [gX1 g aT s26.2, gX8 g aP1 zP1]) (ci := 8) (i0 := 0) X V (c_X8_distance l D g aP1 zP1 s19.1 s26.1 x31 hx31) w_X1_28 ⟨Nat.le_of_ble_eq_true rfl, Nat.le_of_ble_eq_true rfl⟩ ⟨Nat.zero_le _, Nat.zero_le _⟩ rfl rfl rfl rfl [1] rfl rfl (kFst_refl _) rfl rfl hl.1 (Nat.le_of_ble_eq_true rfl) dX1_order_31 (fun H locs V => ?_)
          refine lv_iload_n X.1 X.2.1 dX1_order_34 rfl (lv_at hl 2 rfl) ?_
          refine lv_iload_n X.1 X.2.1 dX1_order_35 rfl (lv_at hl 3 rfl) ?_
          obtain ⟨x32, hx32, h⟩ := kb_of h
          refine s_callVv (segs' := [gX1 g aT x32, gX8 g aP1 zP1]) (ci := 1) (i0 := 0) X V (c_X1_pack l D g aT s26.2 x31 s19.1 s26.1 x32 hx32) w_X1_32 ⟨Nat.le_of_ble_eq_true rfl, Nat.le_of_ble_eq_true rfl⟩ ⟨Nat.zero_le _, Nat.zero_le _⟩ rfl rfl rfl rfl [0] rfl rfl ⟨gX1_fst, trivial⟩ rfl rfl hl.1 (Nat.le_of_ble_eq_true rfl) dX1_order_36 (fun H locs V => ?_)
          obtain ⟨y33, ey33⟩ : ∃ y : Int32, y = (s26.1 + (1 : Int32)) := ⟨_, rfl⟩
          replace h := kl_of ey33 h
          refine lv_iinc (v := y33) (lv' := [(3, .int y33), (0, .ref (aT 0)), (1, .ref (aP1 0)), (2, .int s19.1)]) X.1 X.2.1 dX1_order_39 hl (k := 3) rfl (by rw [ey33]; rfl) (by decide) rfl (fun ls hl => ?_)
          refine lv_goto (tgt := 19) X.1 X.2.1 dX1_order_42 (by decide) ?_
          obtain rfl := Option.some.inj h
          exact hG29 _ _ _ V (lv_sub hl [1, 2, 3, 0] rfl)
      · intro H locs ls V hl
        have V : kW D AA s.heap H (List.flatten [gX1 g aT x25.2.2, gX8 g aP1 zP1]) locs := V
        have hl : lv_has ls 4 [(0, .ref (aT 0)), (1, .ref (aP1 0)), (2, .int s19.1), (3, .int x25.2.1)] := hl
        obtain ⟨hc, h⟩ := kg_of h
        refine W.eq (g2 := F0 m 45 ls []) (by rw [hc]) ?_
        obtain ⟨y34, ey34⟩ : ∃ y : Int32, y = (s19.1 + (1 : Int32)) := ⟨_, rfl⟩
        replace h := kl_of ey34 h
        refine lv_iinc (v := y34) (lv' := [(2, .int y34), (0, .ref (aT 0)), (1, .ref (aP1 0)), (3, .int x25.2.1)]) X.1 X.2.1 dX1_order_45 hl (k := 2) rfl (by rw [ey34]; rfl) (by decide) rfl (fun ls hl => ?_)
        refine lv_goto (tgt := 7) X.1 X.2.1 dX1_order_48 (by decide) ?_
        obtain rfl := Option.some.inj h
        exact hG22 _ _ _ V (lv_sub hl [1, 2, 0] rfl)
  · intro H locs ls V hl
    have V : kW D AA s.heap H (List.flatten [gX1 g aT x18.2.2, gX8 g aP1 zP1]) locs := V
    have hl : lv_has ls 4 [(0, .ref (aT 0)), (1, .ref (aP1 0)), (2, .int x18.2.1)] := hl
    obtain ⟨hc, h⟩ := kg_of h
    refine W.eq (g2 := F0 m 51 ls []) (by rw [hc]) ?_
    refine lv_aload_n X.1 X.2.1 dX1_order_51 rfl (lv_at hl 0 rfl) ?_
    refine gf_X1_15 (i := 0) X V rfl dX1_order_52 ?_
    refine lv_iconst (v := (2 : Int32)) X.1 X.2.1 dX1_order_55 (by decide) ?_
    refine lv_idiv X.1 X.2.1 dX1_order_56 (by decide) ?_
    refine lv_topi (fun y35 ey35 => ?_)
    replace h := kl_of ey35 h
    refine lv_istore_n (lv' := [(2, .int y35), (0, .ref (aT 0)), (1, .ref (aP1 0))]) X.1 X.2.1 dX1_order_57 rfl hl (by decide) rfl (fun ls hl => ?_)
    obtain ⟨x36, hx36, h⟩ := kb_of h
    refine (kitr_go (hd := 58) (body := fun q => p_X1_order_L58 zP1 q) (G := (fun e => ∀ (H : Heap) (locs : List Loc) (ls : Array Slot), kW D AA s.heap H (List.flatten [gX1 g aT e.2.2, gX8 g aP1 zP1]) locs → lv_has ls 4 [(0, .ref (aT 0)), (2, .int e.2.1)] → W p l en (kR 2 45) s m args below meth c H locs 0 0 QQ (F0 m e.1 ls []))) (fun s37 e38 hb39 hG40 => ?_) kF _ x36 hx36 ?_) _ _ _ V (lv_sub hl [1, 0] rfl)
    · intro H locs ls V hl
      show W p l en (kR 2 45) s m args below meth c H locs 0 0 QQ (F0 m 58 ls [])
      have h : p_X1_order_L58 zP1 s37 = some e38 := hb39
      unfold p_X1_order_L58 at h
      have V : kW D AA s.heap H (List.flatten [gX1 g aT s37.2, gX8 g aP1 zP1]) locs := V
      have hl : lv_has ls 4 [(0, .ref (aT 0)), (2, .int s37.1)] := hl
      refine lv_iload_n X.1 X.2.1 dX1_order_58 rfl (lv_at hl 1 rfl) ?_
      refine lv_if_le (tgt := 91) X.1 X.2.1 dX1_order_59 (by decide) (fun hc => ?_) (fun hc => ?_)
      · replace h := kif_t hc h
        obtain rfl := Option.some.inj h
        exact hG40 _ _ _ V (lv_sub hl [0, 1] rfl)
      · replace h := kif_f hc h
        refine lv_iload_n X.1 X.2.1 dX1_order_62 rfl (lv_at hl 1 rfl) ?_
        refine lv_istore_n (lv' := [(3, .int s37.1), (0, .ref (aT 0)), (2, .int s37.1)]) X.1 X.2.1 dX1_order_63 rfl hl (by decide) rfl (fun ls hl => ?_)
        obtain ⟨x41, hx41, h⟩ := kb_of h
        refine (kitr_go (hd := 64) (body := fun q => p_X1_order_L64 zP1 s37.1 q) (G := (fun e => ∀ (H : Heap) (locs : List Loc) (ls : Array Slot), kW D AA s.heap H (List.flatten [gX1 g aT e.2.2, gX8 g aP1 zP1]) locs → lv_has ls 4 [(0, .ref (aT 0)), (2, .int s37.1), (3, .int e.2.1)] → W p l en (kR 2 45) s m args below meth c H locs 0 0 QQ (F0 m e.1 ls []))) (fun s42 e43 hb44 hG45 => ?_) kF _ x41 hx41 ?_) _ _ _ V (lv_sub hl [1, 2, 0] rfl)
        · intro H locs ls V hl
          show W p l en (kR 2 45) s m args below meth c H locs 0 0 QQ (F0 m 64 ls [])
          have h : p_X1_order_L64 zP1 s37.1 s42 = some e43 := hb44
          unfold p_X1_order_L64 at h
          have V : kW D AA s.heap H (List.flatten [gX1 g aT s42.2, gX8 g aP1 zP1]) locs := V
          have hl : lv_has ls 4 [(0, .ref (aT 0)), (2, .int s37.1), (3, .int s42.1)] := hl
          refine lv_iload_n X.1 X.2.1 dX1_order_64 rfl (lv_at hl 2 rfl) ?_
          refine lv_aload_n X.1 X.2.1 dX1_order_65 rfl (lv_at hl 0 rfl) ?_
          refine gf_X1_15 (i := 0) X V rfl dX1_order_66 ?_
          refine lv_icmp_ge (tgt := 84) X.1 X.2.1 dX1_order_69 (by decide) (fun hc => ?_) (fun hc => ?_)
          · replace h := kif_t hc h
            obtain rfl := Option.some.inj h
            exact hG45 _ _ _ V (lv_sub hl [0, 1, 2] rfl)
          · replace h := kif_f hc h
            refine lv_aload_n X.1 X.2.1 dX1_order_72 rfl (lv_at hl 0 rfl) ?_
            refine lv_iload_n X.1 X.2.1 dX1_order_73 rfl (lv_at hl 2 rfl) ?_
            refine lv_iload_n X.1 X.2.1 dX1_order_74 rfl (lv_at hl 1 rfl) ?_
            obtain ⟨x46, hx46, h⟩ := kb_of h
            refine s_callVv (segs' := [gX1 g aT x46, gX8 g aP1 zP1]) (ci := 1) (i0 := 0) X V (c_X1_sink l D g aT s42.2 s42.1 s37.1 x46 hx46) w_X1_36 ⟨Nat.le_of_ble_eq_true rfl, Nat.le_of_ble_eq_true rfl⟩ ⟨Nat.zero_le _, Nat.zero_le _⟩ rfl rfl rfl rfl [0] rfl rfl ⟨gX1_fst, trivial⟩ rfl rfl hl.1 (Nat.le_of_ble_eq_true rfl) dX1_order_75 (fun H locs V => ?_)
            obtain ⟨y47, ey47⟩ : ∃ y : Int32, y = (s42.1 + (1 : Int32)) := ⟨_, rfl⟩
            replace h := kl_of ey47 h
            refine lv_iinc (v := y47) (lv' := [(3, .int y47), (0, .ref (aT 0)), (2, .int s37.1)]) X.1 X.2.1 dX1_order_78 hl (k := 2) rfl (by rw [ey47]; rfl) (by decide) rfl (fun ls hl => ?_)
            refine lv_goto (tgt := 64) X.1 X.2.1 dX1_order_81 (by decide) ?_
            obtain rfl := Option.some.inj h
            exact hG45 _ _ _ V (lv_sub hl [1, 2, 0] rfl)
        · intro H locs ls V hl
          have V : kW D AA s.heap H (List.flatten [gX1 g aT x41.2.2, gX8 g aP1 zP1]) locs := V
          have hl : lv_has ls 4 [(0, .ref (aT 0)), (2, .int s37.1), (3, .int x41.2.1)] := hl
          obtain ⟨hc, h⟩ := kg_of h
          refine W.eq (g2 := F0 m 84 ls []) (by rw [hc]) ?_
          refine lv_iload_n X.1 X.2.1 dX1_order_84 rfl (lv_at hl 1 rfl) ?_
          refine lv_iconst (v := (2 : Int32)) X.1 X.2.1 dX1_order_85 (by decide) ?_
          refine lv_idiv X.1 X.2.1 dX1_order_86 (by decide) ?_
          refine lv_topi (fun y48 ey48 => ?_)
          replace h := kl_of ey48 h
          refine lv_istore_n (lv' := [(2, .int y48), (0, .ref (aT 0)), (3, .int x41.2.1)]) X.1 X.2.1 dX1_order_87 rfl hl (by decide) rfl (fun ls hl => ?_)
          refine lv_goto (tgt := 58) X.1 X.2.1 dX1_order_88 (by decide) ?_
          obtain rfl := Option.some.inj h
          exact hG40 _ _ _ V (lv_sub hl [1, 0] rfl)
    · intro H locs ls V hl
      have V : kW D AA s.heap H (List.flatten [gX1 g aT x36.2.2, gX8 g aP1 zP1]) locs := V
      have hl : lv_has ls 4 [(0, .ref (aT 0)), (2, .int x36.2.1)] := hl
      obtain ⟨hc, h⟩ := kg_of h
      refine W.eq (g2 := F0 m 91 ls []) (by rw [hc]) ?_
      obtain rfl := Option.some.inj h
      rw [hAA] at V
      rw [hQQ]
      exact k_vret X V dX1_order_91
