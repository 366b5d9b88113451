def p_X10_length (zT : tX10) : Option (Int32) :=
  some zT.2
set_option maxHeartbeats 4000000 in
set_option maxRecDepth 100000 in
theorem c_X10_length (l : Launch) (D : va_G) (g : kG) (aT : Nat → Nat) (zT : tX10) (r : Int32) (h : p_X10_length zT = some r) : kMi l yX10_length cX10_length 1 (some .int) (kR 0 0) D (kty g) [.ref (aT 0)] (List.flatten [gX10 g aT zT]) r (List.flatten [gX10 g aT zT]) := by
  intro sz
  refine k_enter (lv := [(0, .ref (aT 0))]) RX10 (by decide +kernel) rfl rfl (Nat.le_of_ble_eq_true rfl) ?_
  intro p en s m args below meth c ls hsz X V hl
  obtain ⟨QQ, hQQ⟩ : ∃ q, q = MQ below (va_Qi (fun r' (_ : Unit) => r' = r) (fun _ => kE D (List.flatten [gX10 g aT zT])) (va_A (List.flatten [gX10 g aT zT]) sz)) args s 0 0 (va_A (List.flatten [gX10 g aT zT]) sz) := ⟨_, rfl⟩
  rw [← hQQ]
  obtain ⟨AA, hAA⟩ : ∃ q, q = va_A (List.flatten [gX10 g aT zT]) sz := ⟨_, rfl⟩
  rw [← hAA] at V
  unfold p_X10_length at h
  refine lv_aload_n X.1 X.2.1 dX10_length_0 rfl (lv_at hl 0 rfl) ?_
  refine gf_X10_15 (i := 0) X V rfl dX10_length_1 ?_
  obtain rfl := Option.some.inj h
  rw [hAA] at V
  rw [hQQ]
  exact k_iret X V rfl dX10_length_4

def p_X10_at (zT : tX10) (v1 : Int32) : Option (Int32) :=
  kif (v1 < 0) (some (-1 : Int32)) (kif (zT.2 ≤ v1) (some (-1 : Int32)) (kg (kii v1 400) (some ((zT.1 v1.toNatClampNeg)))))
set_option maxHeartbeats 4000000 in
set_option maxRecDepth 100000 in
theorem c_X10_at (l : Launch) (D : va_G) (g : kG) (aT : Nat → Nat) (zT : tX10) (v1 : Int32) (r : Int32) (h : p_X10_at zT v1 = some r) : kMi l yX10_at cX10_at 2 (some .int) (kR 0 0) D (kty g) [.ref (aT 0), .int v1] (List.flatten [gX10 g aT zT]) r (List.flatten [gX10 g aT zT]) := by
  intro sz
  refine k_enter (lv := [(0, .ref (aT 0)), (1, .int v1)]) RX10 (by decide +kernel) rfl rfl (Nat.le_of_ble_eq_true rfl) ?_
  intro p en s m args below meth c ls hsz X V hl
  obtain ⟨QQ, hQQ⟩ : ∃ q, q = MQ below (va_Qi (fun r' (_ : Unit) => r' = r) (fun _ => kE D (List.flatten [gX10 g aT zT])) (va_A (List.flatten [gX10 g aT zT]) sz)) args s 0 0 (va_A (List.flatten [gX10 g aT zT]) sz) := ⟨_, rfl⟩
  rw [← hQQ]
  obtain ⟨AA, hAA⟩ : ∃ q, q = va_A (List.flatten [gX10 g aT zT]) sz := ⟨_, rfl⟩
  rw [← hAA] at V
  unfold p_X10_at at h
  refine lv_iload_n X.1 X.2.1 dX10_at_0 rfl (lv_at hl 1 rfl) ?_
  refine lv_if_lt (tgt := 21) X.1 X.2.1 dX10_at_1 (by decide) (fun hc => ?_) (fun hc => ?_)
  · replace h := kif_t hc h
    refine lv_iconst (v := (-1 : Int32)) X.1 X.2.1 dX10_at_21 (by decide) ?_
    obtain rfl := Option.some.inj h
    rw [hAA] at V
    rw [hQQ]
    exact k_iret X V rfl dX10_at_22
  · replace h := kif_f hc h
    refine lv_iload_n X.1 X.2.1 dX10_at_4 rfl (lv_at hl 1 rfl) ?_
    refine lv_aload_n X.1 X.2.1 dX10_at_5 rfl (lv_at hl 0 rfl) ?_
    refine gf_X10_15 (i := 0) X V rfl dX10_at_6 ?_
    refine lv_icmp_ge (tgt := 21) X.1 X.2.1 dX10_at_9 (by decide) (fun hc => ?_) (fun hc => ?_)
    · replace h := kif_t hc h
      refine lv_iconst (v := (-1 : Int32)) X.1 X.2.1 dX10_at_21 (by decide) ?_
      obtain rfl := Option.some.inj h
      rw [hAA] at V
      rw [hQQ]
      exact k_iret X V rfl dX10_at_22
    · replace h := kif_f hc h
      refine lv_aload_n X.1 X.2.1 dX10_at_12 rfl (lv_at hl 0 rfl) ?_
      refine gf_X10_11 (i := 0) X V rfl dX10_at_13 ?_
      refine lv_iload_n X.1 X.2.1 dX10_at_16 rfl (lv_at hl 1 rfl) ?_
      obtain ⟨hc, h⟩ := kg_of h
      refine al_X10_0 (i := 0) X V rfl hc dX10_at_17 ?_
      refine lv_goto (tgt := 22) X.1 X.2.1 dX10_at_18 (by decide) ?_
      obtain rfl := Option.some.inj h
      rw [hAA] at V
      rw [hQQ]
      exact k_iret X V rfl dX10_at_22

def p_X10_clear (zT : tX10) : Option (tX10) :=
  kl (zT.1, (0 : Int32)) (fun z1 => some z1)
set_option maxHeartbeats 4000000 in
set_option maxRecDepth 100000 in
theorem c_X10_clear (l : Launch) (D : va_G) (g : kG) (aT : Nat → Nat) (zT : tX10) (r : tX10) (h : p_X10_clear zT = some r) : kMv l yX10_clear cX10_clear 1 none (kR 0 0) D (kty g) [.ref (aT 0)] (List.flatten [gX10 g aT zT]) (List.flatten [gX10 g aT r]) := by
  intro sz
  refine k_enter (lv := [(0, .ref (aT 0))]) RX10 (by decide +kernel) rfl rfl (Nat.le_of_ble_eq_true rfl) ?_
  intro p en s m args below meth c ls hsz X V hl
  obtain ⟨QQ, hQQ⟩ : ∃ q, q = MQ below (va_Qv (fun (_ : Unit) => True) (fun _ => kE D (List.flatten [gX10 g aT r])) (va_A (List.flatten [gX10 g aT zT]) sz)) args s 0 0 (va_A (List.flatten [gX10 g aT zT]) sz) := ⟨_, rfl⟩
  rw [← hQQ]
  obtain ⟨AA, hAA⟩ : ∃ q, q = va_A (List.flatten [gX10 g aT zT]) sz := ⟨_, rfl⟩
  rw [← hAA] at V
  unfold p_X10_clear at h
  refine lv_aload_n X.1 X.2.1 dX10_clear_0 rfl (lv_at hl 0 rfl) ?_
  refine lv_iconst (v := (0 : Int32)) X.1 X.2.1 dX10_clear_1 (by decide) ?_
  refine pf_X10_15 (i := 0) X V rfl dX10_clear_2 (fun H locs V => ?_)
  obtain ⟨z2, ez2⟩ : ∃ y, y = (zT.1, (0 : Int32)) := ⟨_, rfl⟩
  replace h := kl_of ez2 h
  have V : kW D AA s.heap H (List.flatten [gX10 g aT z2]) locs := by rw [ez2]; exact V
  obtain rfl := Option.some.inj h
  rw [hAA] at V
  rw [hQQ]
  exact k_vret X V dX10_clear_5

def p_X10_addByte (zT : tX10) (v1 : Int32) : Option (tX10) :=
  kif (zT.2 < (400 : Int32)) (kg (kii zT.2 400) (kl ((upd zT.1 (zT.2).toNatClampNeg v1), zT.2) (fun z1 => kl (z1.1, (z1.2 + (1 : Int32))) (fun z2 => some z2)))) (some zT)
set_option maxHeartbeats 4000000 in
set_option maxRecDepth 100000 in
theorem c_X10_addByte (l : Launch) (D : va_G) (g : kG) (aT : Nat → Nat) (zT : tX10) (v1 : Int32) (r : tX10) (h : p_X10_addByte zT v1 = some r) : kMv l yX10_addByte cX10_addByte 2 none (kR 0 0) D (kty g) [.ref (aT 0), .int v1] (List.flatten [gX10 g aT zT]) (List.flatten [gX10 g aT r]) := by
  intro sz
  refine k_enter (lv := [(0, .ref (aT 0)), (1, .int v1)]) RX10 (by decide +kernel) rfl rfl (Nat.le_of_ble_eq_true rfl) ?_
  intro p en s m args below meth c ls hsz X V hl
  obtain ⟨QQ, hQQ⟩ : ∃ q, q = MQ below (va_Qv (fun (_ : Unit) => True) (fun _ => kE D (List.flatten [gX10 g aT r])) (va_A (List.flatten [gX10 g aT zT]) sz)) args s 0 0 (va_A (List.flatten [gX10 g aT zT]) sz) := ⟨_, rfl⟩
  rw [← hQQ]
  obtain ⟨AA, hAA⟩ : ∃ q, q = va_A (List.flatten [gX10 g aT zT]) sz := ⟨_, rfl⟩
  rw [← hAA] at V
  unfold p_X10_addByte at h
  refine lv_aload_n X.1 X.2.1 dX10_addByte_0 rfl (lv_at hl 0 rfl) ?_
  refine gf_X10_15 (i := 0) X V rfl dX10_addByte_1 ?_
  refine lv_sipush (v := (400 : Int32)) X.1 X.2.1 dX10_addByte_4 (by decide) ?_
  refine lv_icmp_lt (tgt := 11) X.1 X.2.1 dX10_addByte_7 (by decide) (fun hc => ?_) (fun hc => ?_)
  · replace h := kif_t hc h
    refine lv_aload_n X.1 X.2.1 dX10_addByte_11 rfl (lv_at hl 0 rfl) ?_
    refine gf_X10_11 (i := 0) X V rfl dX10_addByte_12 ?_
    refine lv_aload_n X.1 X.2.1 dX10_addByte_15 rfl (lv_at hl 0 rfl) ?_
    refine gf_X10_15 (i := 0) X V rfl dX10_addByte_16 ?_
    refine lv_iload_n X.1 X.2.1 dX10_addByte_19 rfl (lv_at hl 1 rfl) ?_
    obtain ⟨hc, h⟩ := kg_of h
    refine as_X10_0 (i := 0) X V rfl hc dX10_addByte_20 (fun H locs V => ?_)
    obtain ⟨z3, ez3⟩ : ∃ y, y = ((upd zT.1 (zT.2).toNatClampNeg v1), zT.2) := ⟨_, rfl⟩
    replace h := kl_of ez3 h
    have V : kW D AA s.heap H (List.flatten [gX10 g aT z3]) locs := by rw [ez3]; exact V
    refine lv_aload_n X.1 X.2.1 dX10_addByte_21 rfl (lv_at hl 0 rfl) ?_
    refine lv_dup X.1 X.2.1 dX10_addByte_22 rfl ?_
    refine gf_X10_15 (i := 0) X V rfl dX10_addByte_23 ?_
    refine lv_iconst (v := (1 : Int32)) X.1 X.2.1 dX10_addByte_26 (by decide) ?_
    refine lv_iadd X.1 X.2.1 dX10_addByte_27 ?_
    refine pf_X10_15 (i := 0) X V rfl dX10_addByte_28 (fun H locs V => ?_)
    obtain ⟨z4, ez4⟩ : ∃ y, y = (z3.1, (z3.2 + (1 : Int32))) := ⟨_, rfl⟩
    replace h := kl_of ez4 h
    have V : kW D AA s.heap H (List.flatten [gX10 g aT z4]) locs := by rw [ez4]; exact V
    obtain rfl := Option.some.inj h
    rw [hAA] at V
    rw [hQQ]
    exact k_vret X V dX10_addByte_31
  · replace h := kif_f hc h
    obtain rfl := Option.some.inj h
    rw [hAA] at V
    rw [hQQ]
    exact k_vret X V dX10_addByte_10

def p_X10_addNumber_J55 (v1 : Int32) (zT : tX10) (v2 : Int32) : Option (tX10) :=
  kb (p_X10_addByte zT ((48 : Int32) + (v2 - v2 / (10 : Int32) * (10 : Int32)))) (fun x2 => some x2)
def p_X10_addNumber_J35 (v1 : Int32) (zT : tX10) (v2 : Int32) : Option (tX10) :=
  kif (v2 < (10 : Int32)) (p_X10_addNumber_J55 v1 zT v2) (kb (p_X10_addByte zT ((48 : Int32) + ((v2 / (10 : Int32)) - (v2 / (10 : Int32)) / (10 : Int32) * (10 : Int32)))) (fun x3 => p_X10_addNumber_J55 v1 x3 v2))
def p_X10_addNumber_J15 (v1 : Int32) (zT : tX10) (v2 : Int32) : Option (tX10) :=
  kif (v2 < (100 : Int32)) (p_X10_addNumber_J35 v1 zT v2) (kb (p_X10_addByte zT ((48 : Int32) + ((v2 / (100 : Int32)) - (v2 / (100 : Int32)) / (10 : Int32) * (10 : Int32)))) (fun x4 => p_X10_addNumber_J35 v1 x4 v2))
def p_X10_addNumber (zT : tX10) (v1 : Int32) : Option (tX10) :=
  kb (p_J9_abs_0f7a4 v1) (fun x1 => kif (0 ≤ v1) (p_X10_addNumber_J15 v1 zT x1) (kb (p_X10_addByte zT (45 : Int32)) (fun x5 => p_X10_addNumber_J15 v1 x5 x1)))
set_option maxHeartbeats 4000000 in
set_option maxRecDepth 100000 in
theorem c_X10_addNumber (l : Launch) (D : va_G) (g : kG) (aT : Nat → Nat) (zT : tX10) (v1 : Int32) (r : tX10) (h : p_X10_addNumber zT v1 = some r) : kMv l yX10_addNumber cX10_addNumber 3 none (kR 1 21) D (kty g) [.ref (aT 0), .int v1] (List.flatten [gX10 g aT zT]) (List.flatten [gX10 g aT r]) := by
  intro sz
  refine k_enter (lv := [(0, .ref (aT 0)), (1, .int v1)]) RX10 (by decide +kernel) rfl rfl (Nat.le_of_ble_eq_true rfl) ?_
  intro p en s m args below meth c ls hsz X V hl
  obtain ⟨QQ, hQQ⟩ : ∃ q, q = MQ below (va_Qv (fun (_ : Unit) => True) (fun _ => kE D (List.flatten [gX10 g aT r])) (va_A (List.flatten [gX10 g aT zT]) sz)) args s 0 0 (va_A (List.flatten [gX10 g aT zT]) sz) := ⟨_, rfl⟩
  rw [← hQQ]
  obtain ⟨AA, hAA⟩ : ∃ q, q = va_A (List.flatten [gX10 g aT zT]) sz := ⟨_, rfl⟩
  rw [← hAA] at V
  have J55 : ∀ (zT : tX10) (v2 : Int32) (H : Heap) (locs : List Loc) (ls : Array Slot), p_X10_addNumber_J55 v1 zT v2 = some r → kW D AA s.heap H (List.flatten [gX10 g aT zT]) locs → lv_has ls 3 [(0, .ref (aT 0)), (2, .int v2)] → W p l en (kR 1 21) s m args below meth c H locs 0 0 QQ (F0 m 55 ls []) := by
    intro zT v2 H locs ls h V hl
    unfold p_X10_addNumber_J55 at h
    refine lv_aload_n X.1 X.2.1 dX10_addNumber_55 rfl (lv_at hl 0 rfl) ?_
    refine lv_bipush (v := (48 : Int32)) X.1 X.2.1 dX10_addNumber_56 (by decide) ?_
    refine lv_iload_n X.1 X.2.1 dX10_addNumber_58 rfl (lv_at hl 1 rfl) ?_
    refine lv_bipush (v := (10 : Int32)) X.1 X.2.1 dX10_addNumber_59 (by decide) ?_
    refine lv_irem X.1 X.2.1 dX10_addNumber_61 (by decide) ?_
    refine lv_iadd X.1 X.2.1 dX10_addNumber_62 ?_
    obtain ⟨x6, hx6, h⟩ := kb_of h
    refine s_callVv (segs' := [gX10 g aT x6]) (ci := 10) (i0 := 0) X V (c_X10_addByte l D g aT zT ((48 : Int32) + (v2 - v2 / (10 : Int32) * (10 : Int32))) x6 hx6) w_X10_25 ⟨Nat.le_of_ble_eq_true rfl, Nat.le_of_ble_eq_true rfl⟩ ⟨Nat.zero_le _, Nat.zero_le _⟩ rfl rfl rfl rfl [0] rfl rfl ⟨gX10_fst, trivial⟩ rfl rfl hl.1 (Nat.le_of_ble_eq_true rfl) dX10_addNumber_63 (fun H locs V => ?_)
    obtain rfl := Option.some.inj h
    rw [hAA] at V
    rw [hQQ]
    exact k_vret X V dX10_addNumber_66
  have J35 : ∀ (zT : tX10) (v2 : Int32) (H : Heap) (locs : List Loc) (ls : Array Slot), p_X10_addNumber_J35 v1 zT v2 = some r → kW D AA s.heap H (List.flatten [gX10 g aT zT]) locs → lv_has ls 3 [(0, .ref (aT 0)), (2, .int v2)] → W p l en (kR 1 21) s m args below meth c H locs 0 0 QQ (F0 m 35 ls []) := by
    intro zT v2 H locs ls h V hl
    unfold p_X10_addNumber_J35 at h
    refine lv_iload_n X.1 X.2.1 dX10_addNumber_35 rfl (lv_at hl 1 rfl) ?_
    refine lv_bipush (v := (10 : Int32)) X.1 X.2.1 dX10_addNumber_36 (by decide) ?_
    refine lv_icmp_lt (tgt := 55) X.1 X.2.1 dX10_addNumber_38 (by decide) (fun hc => ?_) (fun hc => ?_)
    · replace h := kif_t hc h
      exact J55 zT v2 _ _ _ h V (lv_sub hl [0, 1] rfl)
    · replace h := kif_f hc h
      refine lv_aload_n X.1 X.2.1 dX10_addNumber_41 rfl (lv_at hl 0 rfl) ?_
      refine lv_bipush (v := (48 : Int32)) X.1 X.2.1 dX10_addNumber_42 (by decide) ?_
      refine lv_iload_n X.1 X.2.1 dX10_addNumber_44 rfl (lv_at hl 1 rfl) ?_
      refine lv_bipush (v := (10 : Int32)) X.1 X.2.1 dX10_addNumber_45 (by decide) ?_
      refine lv_idiv X.1 X.2.1 dX10_addNumber_47 (by decide) ?_
      refine lv_bipush (v := (10 : Int32)) X.1 X.2.1 dX10_addNumber_48 (by decide) ?_
      refine lv_irem X.1 X.2.1 dX10_addNumber_50 (by decide) ?_
      refine lv_iadd X.1 X.2.1 dX10_addNumber_51 ?_
      obtain ⟨x7, hx7, h⟩ := kb_of h
      refine s_callVv (segs' := [gX10 g aT x7]) (ci := 10) (i0 := 0) X V (c_X10_addByte l D g aT zT ((48 : Int32) + ((v2 / (10 : Int32)) - (v2 / (10 : Int32)) / (10 : Int32) * (10 : Int32))) x7 hx7) w_X10_25 ⟨Nat.le_of_ble_eq_true rfl, Nat.le_of_ble_eq_true rfl⟩ ⟨Nat.zero_le _, Nat.zero_le _⟩ rfl rfl rfl rfl [0] rfl rfl ⟨gX10_fst, trivial⟩ rfl rfl hl.1 (Nat.le_of_ble_eq_true rfl) dX10_addNumber_52 (fun H locs V => ?_)
      exact J55 x7 v2 _ _ _ h V (lv_sub hl [0, 1] rfl)
  have J15 : ∀ (zT : tX10) (v2 : Int32) (H : Heap) (locs : List Loc) (ls : Array Slot), p_X10_addNumber_J15 v1 zT v2 = some r → kW D AA s.heap H (List.flatten [gX10 g aT zT]) locs → lv_has ls 3 [(0, .ref (aT 0)), (2, .int v2)] → W p l en (kR 1 21) s m args below meth c H locs 0 0 QQ (F0 m 15 ls []) := by
    intro zT v2 H locs ls h V hl
    unfold p_X10_addNumber_J15 at h
    refine lv_iload_n X.1 X.2.1 dX10_addNumber_15 rfl (lv_at hl 1 rfl) ?_
    refine lv_bipush (v := (100 : Int32)) X.1 X.2.1 dX10_addNumber_16 (by decide) ?_
    refine lv_icmp_lt (tgt := 35) X.1 X.2.1 dX10_addNumber_18 (by decide) (fun hc => ?_) (fun hc => ?_)
    · replace h := kif_t hc h
      exact J35 zT v2 _ _ _ h V (lv_sub hl [0, 1] rfl)
    · replace h := kif_f hc h
      refine lv_aload_n X.1 X.2.1 dX10_addNumber_21 rfl (lv_at hl 0 rfl) ?_
      refine lv_bipush (v := (48 : Int32)) X.1 X.2.1 dX10_addNumber_22 (by decide) ?_
      refine lv_iload_n X.1 X.2.1 dX10_addNumber_24 rfl (lv_at hl 1 rfl) ?_
      refine lv_bipush (v := (100 : Int32)) X.1 X.2.1 dX10_addNumber_25 (by decide) ?_
      refine lv_idiv X.1 X.2.1 dX10_addNumber_27 (by decide) ?_
      refine lv_bipush (v := (10 : Int32)) X.1 X.2.1 dX10_addNumber_28 (by decide) ?_
      refine lv_irem X.1 X.2.1 dX10_addNumber_30 (by decide) ?_
      refine lv_iadd X.1 X.2.1 dX10_addNumber_31 ?_
      obtain ⟨x8, hx8, h⟩ := kb_of h
      refine s_callVv (segs' := [gX10 g aT x8]) (ci := 10) (i0 := 0) X V (c_X10_addByte l D g aT zT ((48 : Int32) + ((v2 / (100 : Int32)) - (v2 / (100 : Int32)) / (10 : Int32) * (10 : Int32))) x8 hx8) w_X10_25 ⟨Nat.le_of_ble_eq_true rfl, Nat.le_of_ble_eq_true rfl⟩ ⟨Nat.zero_le _, Nat.zero_le _⟩ rfl rfl rfl rfl [0] rfl rfl ⟨gX10_fst, trivial⟩ rfl rfl hl.1 (Nat.le_of_ble_eq_true rfl) dX10_addNumber_32 (fun H locs V => ?_)
      exact J35 x8 v2 _ _ _ h V (lv_sub hl [0, 1] rfl)
  unfold p_X10_addNumber at h
  refine lv_iload_n X.1 X.2.1 dX10_addNumber_0 rfl (lv_at hl 1 rfl) ?_
  obtain ⟨x9, hx9, h⟩ := kb_of h
  refine s_callSi (segs' := [gX10 g aT zT]) X V (c_J9_abs_0f7a4 l D g v1 x9 hx9) w_X10_19 ⟨Nat.le_of_ble_eq_true rfl, Nat.le_of_ble_eq_true rfl⟩ ⟨Nat.zero_le _, Nat.zero_le _⟩ rfl [] rfl rfl (kFst_refl _) rfl rfl hl.1 (Nat.le_of_ble_eq_true rfl) dX10_addNumber_1 (fun H locs V => ?_)
  refine lv_istore_n (lv' := [(2, .int x9), (0, .ref (aT 0)), (1, .int v1)]) X.1 X.2.1 dX10_addNumber_4 rfl hl (by decide) rfl (fun ls hl => ?_)
  refine lv_iload_n X.1 X.2.1 dX10_addNumber_5 rfl (lv_at hl 2 rfl) ?_
  refine lv_if_ge (tgt := 15) X.1 X.2.1 dX10_addNumber_6 (by decide) (fun hc => ?_) (fun hc => ?_)
  · replace h := kif_t hc h
    exact J15 zT x9 _ _ _ h V (lv_sub hl [1, 0] rfl)
  · replace h := kif_f hc h
    refine lv_aload_n X.1 X.2.1 dX10_addNumber_9 rfl (lv_at hl 1 rfl) ?_
    refine lv_bipush (v := (45 : Int32)) X.1 X.2.1 dX10_addNumber_10 (by decide) ?_
    obtain ⟨x10, hx10, h⟩ := kb_of h
    refine s_callVv (segs' := [gX10 g aT x10]) (ci := 10) (i0 := 0) X V (c_X10_addByte l D g aT zT (45 : Int32) x10 hx10) w_X10_25 ⟨Nat.le_of_ble_eq_true rfl, Nat.le_of_ble_eq_true rfl⟩ ⟨Nat.zero_le _, Nat.zero_le _⟩ rfl rfl rfl rfl [0] rfl rfl ⟨gX10_fst, trivial⟩ rfl rfl hl.1 (Nat.le_of_ble_eq_true rfl) dX10_addNumber_12 (fun H locs V => ?_)
    exact J15 x10 x9 _ _ _ h V (lv_sub hl [1, 0] rfl)
