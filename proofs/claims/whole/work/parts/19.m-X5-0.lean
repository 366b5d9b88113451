def p_X5_count (zT : tX5) : Option (Int32) :=
  some zT.2.2.2
set_option maxHeartbeats 4000000 in
set_option maxRecDepth 100000 in
theorem c_X5_count (l : Launch) (D : va_G) (g : kG) (aT : Nat → Nat) (zT : tX5) (r : Int32) (h : p_X5_count zT = some r) : kMi l yX5_count cX5_count 1 (some .int) (kR 0 0) D (kty g) [.ref (aT 0)] (List.flatten [gX5 g aT zT]) r (List.flatten [gX5 g aT zT]) := by
  intro sz
  refine k_enter (lv := [(0, .ref (aT 0))]) RX5 (by decide +kernel) rfl rfl (Nat.le_of_ble_eq_true rfl) ?_
  intro p en s m args below meth c ls hsz X V hl
  obtain ⟨QQ, hQQ⟩ : ∃ q, q = MQ below (va_Qi (fun r' (_ : Unit) => r' = r) (fun _ => kE D (List.flatten [gX5 g aT zT])) (va_A (List.flatten [gX5 g aT zT]) sz)) args s 0 0 (va_A (List.flatten [gX5 g aT zT]) sz) := ⟨_, rfl⟩
  rw [← hQQ]
  obtain ⟨AA, hAA⟩ : ∃ q, q = va_A (List.flatten [gX5 g aT zT]) sz := ⟨_, rfl⟩
  rw [← hAA] at V
  unfold p_X5_count at h
  refine lv_aload_n X.1 X.2.1 dX5_count_0 rfl (lv_at hl 0 rfl) ?_
  refine gf_X5_23 (i := 0) X V rfl dX5_count_1 ?_
  obtain rfl := Option.some.inj h
  rw [hAA] at V
  rw [hQQ]
  exact k_iret X V rfl dX5_count_4

def p_X5_x (zT : tX5) (v1 : Int32) : Option (Int32) :=
  kif (v1 < 0) (some (0 : Int32)) (kif (zT.2.2.2 ≤ v1) (some (0 : Int32)) (kg (kii v1 82) (some ((zT.1 v1.toNatClampNeg)))))
set_option maxHeartbeats 4000000 in
set_option maxRecDepth 100000 in
theorem c_X5_x (l : Launch) (D : va_G) (g : kG) (aT : Nat → Nat) (zT : tX5) (v1 : Int32) (r : Int32) (h : p_X5_x zT v1 = some r) : kMi l yX5_x cX5_x 2 (some .int) (kR 0 0) D (kty g) [.ref (aT 0), .int v1] (List.flatten [gX5 g aT zT]) r (List.flatten [gX5 g aT zT]) := by
  intro sz
  refine k_enter (lv := [(0, .ref (aT 0)), (1, .int v1)]) RX5 (by decide +kernel) rfl rfl (Nat.le_of_ble_eq_true rfl) ?_
  intro p en s m args below meth c ls hsz X V hl
  obtain ⟨QQ, hQQ⟩ : ∃ q, q = MQ below (va_Qi (fun r' (_ : Unit) => r' = r) (fun _ => kE D (List.flatten [gX5 g aT zT])) (va_A (List.flatten [gX5 g aT zT]) sz)) args s 0 0 (va_A (List.flatten [gX5 g aT zT]) sz) := ⟨_, rfl⟩
  rw [← hQQ]
  obtain ⟨AA, hAA⟩ : ∃ q, q = va_A (List.flatten [gX5 g aT zT]) sz := ⟨_, rfl⟩
  rw [← hAA] at V
  unfold p_X5_x at h
  refine lv_iload_n X.1 X.2.1 dX5_x_0 rfl (lv_at hl 1 rfl) ?_
  refine lv_if_lt (tgt := 21) X.1 X.2.1 dX5_x_1 (by decide) (fun hc => ?_) (fun hc => ?_)
  · replace h := kif_t hc h
    refine lv_iconst (v := (0 : Int32)) X.1 X.2.1 dX5_x_21 (by decide) ?_
    obtain rfl := Option.some.inj h
    rw [hAA] at V
    rw [hQQ]
    exact k_iret X V rfl dX5_x_22
  · replace h := kif_f hc h
    refine lv_iload_n X.1 X.2.1 dX5_x_4 rfl (lv_at hl 1 rfl) ?_
    refine lv_aload_n X.1 X.2.1 dX5_x_5 rfl (lv_at hl 0 rfl) ?_
    refine gf_X5_23 (i := 0) X V rfl dX5_x_6 ?_
    refine lv_icmp_ge (tgt := 21) X.1 X.2.1 dX5_x_9 (by decide) (fun hc => ?_) (fun hc => ?_)
    · replace h := kif_t hc h
      refine lv_iconst (v := (0 : Int32)) X.1 X.2.1 dX5_x_21 (by decide) ?_
      obtain rfl := Option.some.inj h
      rw [hAA] at V
      rw [hQQ]
      exact k_iret X V rfl dX5_x_22
    · replace h := kif_f hc h
      refine lv_aload_n X.1 X.2.1 dX5_x_12 rfl (lv_at hl 0 rfl) ?_
      refine gf_X5_13 (i := 0) X V rfl dX5_x_13 ?_
      refine lv_iload_n X.1 X.2.1 dX5_x_16 rfl (lv_at hl 1 rfl) ?_
      obtain ⟨hc, h⟩ := kg_of h
      refine al_X5_0 (i := 0) X V rfl hc dX5_x_17 ?_
      refine lv_goto (tgt := 22) X.1 X.2.1 dX5_x_18 (by decide) ?_
      obtain rfl := Option.some.inj h
      rw [hAA] at V
      rw [hQQ]
      exact k_iret X V rfl dX5_x_22

def p_X5_y (zT : tX5) (v1 : Int32) : Option (Int32) :=
  kif (v1 < 0) (some (0 : Int32)) (kif (zT.2.2.2 ≤ v1) (some (0 : Int32)) (kg (kii v1 82) (some ((zT.2.1 v1.toNatClampNeg)))))
set_option maxHeartbeats 4000000 in
set_option maxRecDepth 100000 in
theorem c_X5_y (l : Launch) (D : va_G) (g : kG) (aT : Nat → Nat) (zT : tX5) (v1 : Int32) (r : Int32) (h : p_X5_y zT v1 = some r) : kMi l yX5_y cX5_y 2 (some .int) (kR 0 0) D (kty g) [.ref (aT 0), .int v1] (List.flatten [gX5 g aT zT]) r (List.flatten [gX5 g aT zT]) := by
  intro sz
  refine k_enter (lv := [(0, .ref (aT 0)), (1, .int v1)]) RX5 (by decide +kernel) rfl rfl (Nat.le_of_ble_eq_true rfl) ?_
  intro p en s m args below meth c ls hsz X V hl
  obtain ⟨QQ, hQQ⟩ : ∃ q, q = MQ below (va_Qi (fun r' (_ : Unit) => r' = r) (fun _ => kE D (List.flatten [gX5 g aT zT])) (va_A (List.flatten [gX5 g aT zT]) sz)) args s 0 0 (va_A (List.flatten [gX5 g aT zT]) sz) := ⟨_, rfl⟩
  rw [← hQQ]
  obtain ⟨AA, hAA⟩ : ∃ q, q = va_A (List.flatten [gX5 g aT zT]) sz := ⟨_, rfl⟩
  rw [← hAA] at V
  unfold p_X5_y at h
  refine lv_iload_n X.1 X.2.1 dX5_y_0 rfl (lv_at hl 1 rfl) ?_
  refine lv_if_lt (tgt := 21) X.1 X.2.1 dX5_y_1 (by decide) (fun hc => ?_) (fun hc => ?_)
  · replace h := kif_t hc h
    refine lv_iconst (v := (0 : Int32)) X.1 X.2.1 dX5_y_21 (by decide) ?_
    obtain rfl := Option.some.inj h
    rw [hAA] at V
    rw [hQQ]
    exact k_iret X V rfl dX5_y_22
  · replace h := kif_f hc h
    refine lv_iload_n X.1 X.2.1 dX5_y_4 rfl (lv_at hl 1 rfl) ?_
    refine lv_aload_n X.1 X.2.1 dX5_y_5 rfl (lv_at hl 0 rfl) ?_
    refine gf_X5_23 (i := 0) X V rfl dX5_y_6 ?_
    refine lv_icmp_ge (tgt := 21) X.1 X.2.1 dX5_y_9 (by decide) (fun hc => ?_) (fun hc => ?_)
    · replace h := kif_t hc h
      refine lv_iconst (v := (0 : Int32)) X.1 X.2.1 dX5_y_21 (by decide) ?_
      obtain rfl := Option.some.inj h
      rw [hAA] at V
      rw [hQQ]
      exact k_iret X V rfl dX5_y_22
    · replace h := kif_f hc h
      refine lv_aload_n X.1 X.2.1 dX5_y_12 rfl (lv_at hl 0 rfl) ?_
      refine gf_X5_17 (i := 0) X V rfl dX5_y_13 ?_
      refine lv_iload_n X.1 X.2.1 dX5_y_16 rfl (lv_at hl 1 rfl) ?_
      obtain ⟨hc, h⟩ := kg_of h
      refine al_X5_1 (i := 0) X V rfl hc dX5_y_17 ?_
      refine lv_goto (tgt := 22) X.1 X.2.1 dX5_y_18 (by decide) ?_
      obtain rfl := Option.some.inj h
      rw [hAA] at V
      rw [hQQ]
      exact k_iret X V rfl dX5_y_22

def p_X5_number (zT : tX5) (v1 : Int32) : Option (Int32) :=
  kif (v1 < 0) (some (-1 : Int32)) (kif (zT.2.2.2 ≤ v1) (some (-1 : Int32)) (kg (kii v1 82) (some ((zT.2.2.1 v1.toNatClampNeg)))))
set_option maxHeartbeats 4000000 in
set_option maxRecDepth 100000 in
theorem c_X5_number (l : Launch) (D : va_G) (g : kG) (aT : Nat → Nat) (zT : tX5) (v1 : Int32) (r : Int32) (h : p_X5_number zT v1 = some r) : kMi l yX5_number cX5_number 2 (some .int) (kR 0 0) D (kty g) [.ref (aT 0), .int v1] (List.flatten [gX5 g aT zT]) r (List.flatten [gX5 g aT zT]) := by
  intro sz
  refine k_enter (lv := [(0, .ref (aT 0)), (1, .int v1)]) RX5 (by decide +kernel) rfl rfl (Nat.le_of_ble_eq_true rfl) ?_
  intro p en s m args below meth c ls hsz X V hl
  obtain ⟨QQ, hQQ⟩ : ∃ q, q = MQ below (va_Qi (fun r' (_ : Unit) => r' = r) (fun _ => kE D (List.flatten [gX5 g aT zT])) (va_A (List.flatten [gX5 g aT zT]) sz)) args s 0 0 (va_A (List.flatten [gX5 g aT zT]) sz) := ⟨_, rfl⟩
  rw [← hQQ]
  obtain ⟨AA, hAA⟩ : ∃ q, q = va_A (List.flatten [gX5 g aT zT]) sz := ⟨_, rfl⟩
  rw [← hAA] at V
  unfold p_X5_number at h
  refine lv_iload_n X.1 X.2.1 dX5_number_0 rfl (lv_at hl 1 rfl) ?_
  refine lv_if_lt (tgt := 21) X.1 X.2.1 dX5_number_1 (by decide) (fun hc => ?_) (fun hc => ?_)
  · replace h := kif_t hc h
    refine lv_iconst (v := (-1 : Int32)) X.1 X.2.1 dX5_number_21 (by decide) ?_
    obtain rfl := Option.some.inj h
    rw [hAA] at V
    rw [hQQ]
    exact k_iret X V rfl dX5_number_22
  · replace h := kif_f hc h
    refine lv_iload_n X.1 X.2.1 dX5_number_4 rfl (lv_at hl 1 rfl) ?_
    refine lv_aload_n X.1 X.2.1 dX5_number_5 rfl (lv_at hl 0 rfl) ?_
    refine gf_X5_23 (i := 0) X V rfl dX5_number_6 ?_
    refine lv_icmp_ge (tgt := 21) X.1 X.2.1 dX5_number_9 (by decide) (fun hc => ?_) (fun hc => ?_)
    · replace h := kif_t hc h
      refine lv_iconst (v := (-1 : Int32)) X.1 X.2.1 dX5_number_21 (by decide) ?_
      obtain rfl := Option.some.inj h
      rw [hAA] at V
      rw [hQQ]
      exact k_iret X V rfl dX5_number_22
    · replace h := kif_f hc h
      refine lv_aload_n X.1 X.2.1 dX5_number_12 rfl (lv_at hl 0 rfl) ?_
      refine gf_X5_20 (i := 0) X V rfl dX5_number_13 ?_
      refine lv_iload_n X.1 X.2.1 dX5_number_16 rfl (lv_at hl 1 rfl) ?_
      obtain ⟨hc, h⟩ := kg_of h
      refine al_X5_2 (i := 0) X V rfl hc dX5_number_17 ?_
      refine lv_goto (tgt := 22) X.1 X.2.1 dX5_number_18 (by decide) ?_
      obtain rfl := Option.some.inj h
      rw [hAA] at V
      rw [hQQ]
      exact k_iret X V rfl dX5_number_22

def p_X5_after (zT : tX5) (v1 : Int32) : Option (Int32) :=
  kif (zT.2.2.2 ≤ (v1 + (1 : Int32))) (some (0 : Int32)) (some ((v1 + (1 : Int32))))
set_option maxHeartbeats 4000000 in
set_option maxRecDepth 100000 in
theorem c_X5_after (l : Launch) (D : va_G) (g : kG) (aT : Nat → Nat) (zT : tX5) (v1 : Int32) (r : Int32) (h : p_X5_after zT v1 = some r) : kMi l yX5_after cX5_after 2 (some .int) (kR 0 0) D (kty g) [.ref (aT 0), .int v1] (List.flatten [gX5 g aT zT]) r (List.flatten [gX5 g aT zT]) := by
  intro sz
  refine k_enter (lv := [(0, .ref (aT 0)), (1, .int v1)]) RX5 (by decide +kernel) rfl rfl (Nat.le_of_ble_eq_true rfl) ?_
  intro p en s m args below meth c ls hsz X V hl
  obtain ⟨QQ, hQQ⟩ : ∃ q, q = MQ below (va_Qi (fun r' (_ : Unit) => r' = r) (fun _ => kE D (List.flatten [gX5 g aT zT])) (va_A (List.flatten [gX5 g aT zT]) sz)) args s 0 0 (va_A (List.flatten [gX5 g aT zT]) sz) := ⟨_, rfl⟩
  rw [← hQQ]
  obtain ⟨AA, hAA⟩ : ∃ q, q = va_A (List.flatten [gX5 g aT zT]) sz := ⟨_, rfl⟩
  rw [← hAA] at V
  unfold p_X5_after at h
  refine lv_iload_n X.1 X.2.1 dX5_after_0 rfl (lv_at hl 1 rfl) ?_
  refine lv_iconst (v := (1 : Int32)) X.1 X.2.1 dX5_after_1 (by decide) ?_
  refine lv_iadd X.1 X.2.1 dX5_after_2 ?_
  refine lv_aload_n X.1 X.2.1 dX5_after_3 rfl (lv_at hl 0 rfl) ?_
  refine gf_X5_23 (i := 0) X V rfl dX5_after_4 ?_
  refine lv_icmp_ge (tgt := 16) X.1 X.2.1 dX5_after_7 (by decide) (fun hc => ?_) (fun hc => ?_)
  · replace h := kif_t hc h
    refine lv_iconst (v := (0 : Int32)) X.1 X.2.1 dX5_after_16 (by decide) ?_
    obtain rfl := Option.some.inj h
    rw [hAA] at V
    rw [hQQ]
    exact k_iret X V rfl dX5_after_17
  · replace h := kif_f hc h
    refine lv_iload_n X.1 X.2.1 dX5_after_10 rfl (lv_at hl 1 rfl) ?_
    refine lv_iconst (v := (1 : Int32)) X.1 X.2.1 dX5_after_11 (by decide) ?_
    refine lv_iadd X.1 X.2.1 dX5_after_12 ?_
    refine lv_goto (tgt := 17) X.1 X.2.1 dX5_after_13 (by decide) ?_
    obtain rfl := Option.some.inj h
    rw [hAA] at V
    rw [hQQ]
    exact k_iret X V rfl dX5_after_17

def p_X5_before (zT : tX5) (v1 : Int32) : Option (Int32) :=
  kif (v1 ≤ 0) (some ((zT.2.2.2 - (1 : Int32)))) (some ((v1 - (1 : Int32))))
set_option maxHeartbeats 4000000 in
set_option maxRecDepth 100000 in
theorem c_X5_before (l : Launch) (D : va_G) (g : kG) (aT : Nat → Nat) (zT : tX5) (v1 : Int32) (r : Int32) (h : p_X5_before zT v1 = some r) : kMi l yX5_before cX5_before 2 (some .int) (kR 0 0) D (kty g) [.ref (aT 0), .int v1] (List.flatten [gX5 g aT zT]) r (List.flatten [gX5 g aT zT]) := by
  intro sz
  refine k_enter (lv := [(0, .ref (aT 0)), (1, .int v1)]) RX5 (by decide +kernel) rfl rfl (Nat.le_of_ble_eq_true rfl) ?_
  intro p en s m args below meth c ls hsz X V hl
  obtain ⟨QQ, hQQ⟩ : ∃ q, q = MQ below (va_Qi (fun r' (_ : Unit) => r' = r) (fun _ => kE D (List.flatten [gX5 g aT zT])) (va_A (List.flatten [gX5 g aT zT]) sz)) args s 0 0 (va_A (List.flatten [gX5 g aT zT]) sz) := ⟨_, rfl⟩
  rw [← hQQ]
  obtain ⟨AA, hAA⟩ : ∃ q, q = va_A (List.flatten [gX5 g aT zT]) sz := ⟨_, rfl⟩
  rw [← hAA] at V
  unfold p_X5_before at h
  refine lv_iload_n X.1 X.2.1 dX5_before_0 rfl (lv_at hl 1 rfl) ?_
  refine lv_if_le (tgt := 10) X.1 X.2.1 dX5_before_1 (by decide) (fun hc => ?_) (fun hc => ?_)
  · replace h := kif_t hc h
    refine lv_aload_n X.1 X.2.1 dX5_before_10 rfl (lv_at hl 0 rfl) ?_
    refine gf_X5_23 (i := 0) X V rfl dX5_before_11 ?_
    refine lv_iconst (v := (1 : Int32)) X.1 X.2.1 dX5_before_14 (by decide) ?_
    refine lv_isub X.1 X.2.1 dX5_before_15 ?_
    obtain rfl := Option.some.inj h
    rw [hAA] at V
    rw [hQQ]
    exact k_iret X V rfl dX5_before_16
  · replace h := kif_f hc h
    refine lv_iload_n X.1 X.2.1 dX5_before_4 rfl (lv_at hl 1 rfl) ?_
    refine lv_iconst (v := (1 : Int32)) X.1 X.2.1 dX5_before_5 (by decide) ?_
    refine lv_isub X.1 X.2.1 dX5_before_6 ?_
    refine lv_goto (tgt := 16) X.1 X.2.1 dX5_before_7 (by decide) ?_
    obtain rfl := Option.some.inj h
    rw [hAA] at V
    rw [hQQ]
    exact k_iret X V rfl dX5_before_16

def p_X5_sideX (zT : tX5) (v1 : Int32) : Option (Int64) :=
  kb (p_X5_after zT v1) (fun x1 => kb (p_X5_x zT x1) (fun x2 => kb (p_X5_x zT v1) (fun x3 => some (((x2 - x3)).toInt64))))
set_option maxHeartbeats 4000000 in
set_option maxRecDepth 100000 in
theorem c_X5_sideX (l : Launch) (D : va_G) (g : kG) (aT : Nat → Nat) (zT : tX5) (v1 : Int32) (r : Int64) (h : p_X5_sideX zT v1 = some r) : kMl l yX5_sideX cX5_sideX 2 (some .long) (kR 1 21) D (kty g) [.ref (aT 0), .int v1] (List.flatten [gX5 g aT zT]) r (List.flatten [gX5 g aT zT]) := by
  intro sz
  refine k_enter (lv := [(0, .ref (aT 0)), (1, .int v1)]) RX5 (by decide +kernel) rfl rfl (Nat.le_of_ble_eq_true rfl) ?_
  intro p en s m args below meth c ls hsz X V hl
  obtain ⟨QQ, hQQ⟩ : ∃ q, q = MQ below (va_Ql (fun r' (_ : Unit) => r' = r) (fun _ => kE D (List.flatten [gX5 g aT zT])) (va_A (List.flatten [gX5 g aT zT]) sz)) args s 0 0 (va_A (List.flatten [gX5 g aT zT]) sz) := ⟨_, rfl⟩
  rw [← hQQ]
  obtain ⟨AA, hAA⟩ : ∃ q, q = va_A (List.flatten [gX5 g aT zT]) sz := ⟨_, rfl⟩
  rw [← hAA] at V
  unfold p_X5_sideX at h
  refine lv_aload_n X.1 X.2.1 dX5_sideX_0 rfl (lv_at hl 0 rfl) ?_
  refine lv_aload_n X.1 X.2.1 dX5_sideX_1 rfl (lv_at hl 0 rfl) ?_
  refine lv_iload_n X.1 X.2.1 dX5_sideX_2 rfl (lv_at hl 1 rfl) ?_
  obtain ⟨x4, hx4, h⟩ := kb_of h
  refine s_callVi (segs' := [gX5 g aT zT]) (ci := 5) (i0 := 0) X V (c_X5_after l D g aT zT v1 x4 hx4) w_X5_27 ⟨Nat.le_of_ble_eq_true rfl, Nat.le_of_ble_eq_true rfl⟩ ⟨Nat.zero_le _, Nat.zero_le _⟩ rfl rfl rfl rfl [0] rfl rfl (kFst_refl _) rfl rfl hl.1 (Nat.le_of_ble_eq_true rfl) dX5_sideX_3 (fun H locs V => ?_)
  obtain ⟨x5, hx5, h⟩ := kb_of h
  refine s_callVi (segs' := [gX5 g aT zT]) (ci := 5) (i0 := 0) X V (c_X5_x l D g aT zT x4 x5 hx5) w_X5_31 ⟨Nat.le_of_ble_eq_true rfl, Nat.le_of_ble_eq_true rfl⟩ ⟨Nat.zero_le _, Nat.zero_le _⟩ rfl rfl rfl rfl [0] rfl rfl (kFst_refl _) rfl rfl hl.1 (Nat.le_of_ble_eq_true rfl) dX5_sideX_6 (fun H locs V => ?_)
  refine lv_aload_n X.1 X.2.1 dX5_sideX_9 rfl (lv_at hl 0 rfl) ?_
  refine lv_iload_n X.1 X.2.1 dX5_sideX_10 rfl (lv_at hl 1 rfl) ?_
  obtain ⟨x6, hx6, h⟩ := kb_of h
  refine s_callVi (segs' := [gX5 g aT zT]) (ci := 5) (i0 := 0) X V (c_X5_x l D g aT zT v1 x6 hx6) w_X5_31 ⟨Nat.le_of_ble_eq_true rfl, Nat.le_of_ble_eq_true rfl⟩ ⟨Nat.zero_le _, Nat.zero_le _⟩ rfl rfl rfl rfl [0] rfl rfl (kFst_refl _) rfl rfl hl.1 (Nat.le_of_ble_eq_true rfl) dX5_sideX_11 (fun H locs V => ?_)
  refine lv_isub X.1 X.2.1 dX5_sideX_14 ?_
  refine lv_i2l X.1 X.2.1 dX5_sideX_15 rfl ?_
  obtain rfl := Option.some.inj h
  rw [hAA] at V
  rw [hQQ]
  exact k_lret X V rfl dX5_sideX_16

def p_X5_sideY (zT : tX5) (v1 : Int32) : Option (Int64) :=
  kb (p_X5_after zT v1) (fun x1 => kb (p_X5_y zT x1) (fun x2 => kb (p_X5_y zT v1) (fun x3 => some (((x2 - x3)).toInt64))))
set_option maxHeartbeats 4000000 in
set_option maxRecDepth 100000 in
theorem c_X5_sideY (l : Launch) (D : va_G) (g : kG) (aT : Nat → Nat) (zT : tX5) (v1 : Int32) (r : Int64) (h : p_X5_sideY zT v1 = some r) : kMl l yX5_sideY cX5_sideY 2 (some .long) (kR 1 21) D (kty g) [.ref (aT 0), .int v1] (List.flatten [gX5 g aT zT]) r (List.flatten [gX5 g aT zT]) := by
  intro sz
  refine k_enter (lv := [(0, .ref (aT 0)), (1, .int v1)]) RX5 (by decide +kernel) rfl rfl (Nat.le_of_ble_eq_true rfl) ?_
  intro p en s m args below meth c ls hsz X V hl
  obtain ⟨QQ, hQQ⟩ : ∃ q, q = MQ below (va_Ql (fun r' (_ : Unit) => r' = r) (fun _ => kE D (List.flatten [gX5 g aT zT])) (va_A (List.flatten [gX5 g aT zT]) sz)) args s 0 0 (va_A (List.flatten [gX5 g aT zT]) sz) := ⟨_, rfl⟩
  rw [← hQQ]
  obtain ⟨AA, hAA⟩ : ∃ q, q = va_A (List.flatten [gX5 g aT zT]) sz := ⟨_, rfl⟩
  rw [← hAA] at V
  unfold p_X5_sideY at h
  refine lv_aload_n X.1 X.2.1 dX5_sideY_0 rfl (lv_at hl 0 rfl) ?_
  refine lv_aload_n X.1 X.2.1 dX5_sideY_1 rfl (lv_at hl 0 rfl) ?_
  refine lv_iload_n X.1 X.2.1 dX5_sideY_2 rfl (lv_at hl 1 rfl) ?_
  obtain ⟨x4, hx4, h⟩ := kb_of h
  refine s_callVi (segs' := [gX5 g aT zT]) (ci := 5) (i0 := 0) X V (c_X5_after l D g aT zT v1 x4 hx4) w_X5_27 ⟨Nat.le_of_ble_eq_true rfl, Nat.le_of_ble_eq_true rfl⟩ ⟨Nat.zero_le _, Nat.zero_le _⟩ rfl rfl rfl rfl [0] rfl rfl (kFst_refl _) rfl rfl hl.1 (Nat.le_of_ble_eq_true rfl) dX5_sideY_3 (fun H locs V => ?_)
  obtain ⟨x5, hx5, h⟩ := kb_of h
  refine s_callVi (segs' := [gX5 g aT zT]) (ci := 5) (i0 := 0) X V (c_X5_y l D g aT zT x4 x5 hx5) w_X5_34 ⟨Nat.le_of_ble_eq_true rfl, Nat.le_of_ble_eq_true rfl⟩ ⟨Nat.zero_le _, Nat.zero_le _⟩ rfl rfl rfl rfl [0] rfl rfl (kFst_refl _) rfl rfl hl.1 (Nat.le_of_ble_eq_true rfl) dX5_sideY_6 (fun H locs V => ?_)
  refine lv_aload_n X.1 X.2.1 dX5_sideY_9 rfl (lv_at hl 0 rfl) ?_
  refine lv_iload_n X.1 X.2.1 dX5_sideY_10 rfl (lv_at hl 1 rfl) ?_
  obtain ⟨x6, hx6, h⟩ := kb_of h
  refine s_callVi (segs' := [gX5 g aT zT]) (ci := 5) (i0 := 0) X V (c_X5_y l D g aT zT v1 x6 hx6) w_X5_34 ⟨Nat.le_of_ble_eq_true rfl, Nat.le_of_ble_eq_true rfl⟩ ⟨Nat.zero_le _, Nat.zero_le _⟩ rfl rfl rfl rfl [0] rfl rfl (kFst_refl _) rfl rfl hl.1 (Nat.le_of_ble_eq_true rfl) dX5_sideY_11 (fun H locs V => ?_)
  refine lv_isub X.1 X.2.1 dX5_sideY_14 ?_
  refine lv_i2l X.1 X.2.1 dX5_sideY_15 rfl ?_
  obtain rfl := Option.some.inj h
  rw [hAA] at V
  rw [hQQ]
  exact k_lret X V rfl dX5_sideY_16

def p_X5_sideSquared (zT : tX5) (v1 : Int32) : Option (Int64) :=
  kb (p_X5_sideX zT v1) (fun x1 => kb (p_X5_sideX zT v1) (fun x2 => kb (p_X5_sideY zT v1) (fun x3 => kb (p_X5_sideY zT v1) (fun x4 => some (((x1 * x2) + (x3 * x4)))))))
set_option maxHeartbeats 4000000 in
set_option maxRecDepth 100000 in
theorem c_X5_sideSquared (l : Launch) (D : va_G) (g : kG) (aT : Nat → Nat) (zT : tX5) (v1 : Int32) (r : Int64) (h : p_X5_sideSquared zT v1 = some r) : kMl l yX5_sideSquared cX5_sideSquared 2 (some .long) (kR 2 42) D (kty g) [.ref (aT 0), .int v1] (List.flatten [gX5 g aT zT]) r (List.flatten [gX5 g aT zT]) := by
  intro sz
  refine k_enter (lv := [(0, .ref (aT 0)), (1, .int v1)]) RX5 (by decide +kernel) rfl rfl (Nat.le_of_ble_eq_true rfl) ?_
  intro p en s m args below meth c ls hsz X V hl
  obtain ⟨QQ, hQQ⟩ : ∃ q, q = MQ below (va_Ql (fun r' (_ : Unit) => r' = r) (fun _ => kE D (List.flatten [gX5 g aT zT])) (va_A (List.flatten [gX5 g aT zT]) sz)) args s 0 0 (va_A (List.flatten [gX5 g aT zT]) sz) := ⟨_, rfl⟩
  rw [← hQQ]
  obtain ⟨AA, hAA⟩ : ∃ q, q = va_A (List.flatten [gX5 g aT zT]) sz := ⟨_, rfl⟩
  rw [← hAA] at V
  unfold p_X5_sideSquared at h
  refine lv_aload_n X.1 X.2.1 dX5_sideSquared_0 rfl (lv_at hl 0 rfl) ?_
  refine lv_iload_n X.1 X.2.1 dX5_sideSquared_1 rfl (lv_at hl 1 rfl) ?_
  obtain ⟨x5, hx5, h⟩ := kb_of h
  refine s_callVl (segs' := [gX5 g aT zT]) (ci := 5) (i0 := 0) X V (c_X5_sideX l D g aT zT v1 x5 hx5) w_X5_37 ⟨Nat.le_of_ble_eq_true rfl, Nat.le_of_ble_eq_true rfl⟩ ⟨Nat.zero_le _, Nat.zero_le _⟩ rfl rfl rfl rfl [0] rfl rfl (kFst_refl _) rfl rfl hl.1 (Nat.le_of_ble_eq_true rfl) dX5_sideSquared_2 (fun H locs V => ?_)
  refine lv_aload_n X.1 X.2.1 dX5_sideSquared_5 rfl (lv_at hl 0 rfl) ?_
  refine lv_iload_n X.1 X.2.1 dX5_sideSquared_6 rfl (lv_at hl 1 rfl) ?_
  obtain ⟨x6, hx6, h⟩ := kb_of h
  refine s_callVl (segs' := [gX5 g aT zT]) (ci := 5) (i0 := 0) X V (c_X5_sideX l D g aT zT v1 x6 hx6) w_X5_37 ⟨Nat.le_of_ble_eq_true rfl, Nat.le_of_ble_eq_true rfl⟩ ⟨Nat.zero_le _, Nat.zero_le _⟩ rfl rfl rfl rfl [0] rfl rfl (kFst_refl _) rfl rfl hl.1 (Nat.le_of_ble_eq_true rfl) dX5_sideSquared_7 (fun H locs V => ?_)
  refine lv_lmul X.1 X.2.1 dX5_sideSquared_10 ?_
  refine lv_aload_n X.1 X.2.1 dX5_sideSquared_11 rfl (lv_at hl 0 rfl) ?_
  refine lv_iload_n X.1 X.2.1 dX5_sideSquared_12 rfl (lv_at hl 1 rfl) ?_
  obtain ⟨x7, hx7, h⟩ := kb_of h
  refine s_callVl (segs' := [gX5 g aT zT]) (ci := 5) (i0 := 0) X V (c_X5_sideY l D g aT zT v1 x7 hx7) w_X5_41 ⟨Nat.le_of_ble_eq_true rfl, Nat.le_of_ble_eq_true rfl⟩ ⟨Nat.zero_le _, Nat.zero_le _⟩ rfl rfl rfl rfl [0] rfl rfl (kFst_refl _) rfl rfl hl.1 (Nat.le_of_ble_eq_true rfl) dX5_sideSquared_13 (fun H locs V => ?_)
  refine lv_aload_n X.1 X.2.1 dX5_sideSquared_16 rfl (lv_at hl 0 rfl) ?_
  refine lv_iload_n X.1 X.2.1 dX5_sideSquared_17 rfl (lv_at hl 1 rfl) ?_
  obtain ⟨x8, hx8, h⟩ := kb_of h
  refine s_callVl (segs' := [gX5 g aT zT]) (ci := 5) (i0 := 0) X V (c_X5_sideY l D g aT zT v1 x8 hx8) w_X5_41 ⟨Nat.le_of_ble_eq_true rfl, Nat.le_of_ble_eq_true rfl⟩ ⟨Nat.zero_le _, Nat.zero_le _⟩ rfl rfl rfl rfl [0] rfl rfl (kFst_refl _) rfl rfl hl.1 (Nat.le_of_ble_eq_true rfl) dX5_sideSquared_18 (fun H locs V => ?_)
  refine lv_lmul X.1 X.2.1 dX5_sideSquared_21 ?_
  refine lv_ladd X.1 X.2.1 dX5_sideSquared_22 ?_
  obtain rfl := Option.some.inj h
  rw [hAA] at V
  rw [hQQ]
  exact k_lret X V rfl dX5_sideSquared_23

def p_X5_turn (zT : tX5) (v1 : Int32) (v2 : Int32) (v3 : Int32) : Option (Int64) :=
  kb (p_X5_sideX zT v1) (fun x1 => kb (p_X5_y zT v1) (fun x2 => kb (p_X5_sideY zT v1) (fun x3 => kb (p_X5_x zT v1) (fun x4 => some (((x1 * ((v3 - x2)).toInt64) - (x3 * ((v2 - x4)).toInt64)))))))
set_option maxHeartbeats 4000000 in
set_option maxRecDepth 100000 in
theorem c_X5_turn (l : Launch) (D : va_G) (g : kG) (aT : Nat → Nat) (zT : tX5) (v1 : Int32) (v2 : Int32) (v3 : Int32) (r : Int64) (h : p_X5_turn zT v1 v2 v3 = some r) : kMl l yX5_turn cX5_turn 4 (some .long) (kR 2 42) D (kty g) [.ref (aT 0), .int v1, .int v2, .int v3] (List.flatten [gX5 g aT zT]) r (List.flatten [gX5 g aT zT]) := by
  intro sz
  refine k_enter (lv := [(0, .ref (aT 0)), (1, .int v1), (2, .int v2), (3, .int v3)]) RX5 (by decide +kernel) rfl rfl (Nat.le_of_ble_eq_true rfl) ?_
  intro p en s m args below meth c ls hsz X V hl
  obtain ⟨QQ, hQQ⟩ : ∃ q, q = MQ below (va_Ql (fun r' (_ : Unit) => r' = r) (fun _ => kE D (List.flatten [gX5 g aT zT])) (va_A (List.flatten [gX5 g aT zT]) sz)) args s 0 0 (va_A (List.flatten [gX5 g aT zT]) sz) := ⟨_, rfl⟩
  rw [← hQQ]
  obtain ⟨AA, hAA⟩ : ∃ q, q = va_A (List.flatten [gX5 g aT zT]) sz := ⟨_, rfl⟩
  rw [← hAA] at V
  unfold p_X5_turn at h
  refine lv_aload_n X.1 X.2.1 dX5_turn_0 rfl (lv_at hl 0 rfl) ?_
  refine lv_iload_n X.1 X.2.1 dX5_turn_1 rfl (lv_at hl 1 rfl) ?_
  obtain ⟨x5, hx5, h⟩ := kb_of h
  refine s_callVl (segs' := [gX5 g aT zT]) (ci := 5) (i0 := 0) X V (c_X5_sideX l D g aT zT v1 x5 hx5) w_X5_37 ⟨Nat.le_of_ble_eq_true rfl, Nat.le_of_ble_eq_true rfl⟩ ⟨Nat.zero_le _, Nat.zero_le _⟩ rfl rfl rfl rfl [0] rfl rfl (kFst_refl _) rfl rfl hl.1 (Nat.le_of_ble_eq_true rfl) dX5_turn_2 (fun H locs V => ?_)
  refine lv_iload_n X.1 X.2.1 dX5_turn_5 rfl (lv_at hl 3 rfl) ?_
  refine lv_aload_n X.1 X.2.1 dX5_turn_6 rfl (lv_at hl 0 rfl) ?_
  refine lv_iload_n X.1 X.2.1 dX5_turn_7 rfl (lv_at hl 1 rfl) ?_
  obtain ⟨x6, hx6, h⟩ := kb_of h
  refine s_callVi (segs' := [gX5 g aT zT]) (ci := 5) (i0 := 0) X V (c_X5_y l D g aT zT v1 x6 hx6) w_X5_34 ⟨Nat.le_of_ble_eq_true rfl, Nat.le_of_ble_eq_true rfl⟩ ⟨Nat.zero_le _, Nat.zero_le _⟩ rfl rfl rfl rfl [0] rfl rfl (kFst_refl _) rfl rfl hl.1 (Nat.le_of_ble_eq_true rfl) dX5_turn_8 (fun H locs V => ?_)
  refine lv_isub X.1 X.2.1 dX5_turn_11 ?_
  refine lv_i2l X.1 X.2.1 dX5_turn_12 rfl ?_
  refine lv_lmul X.1 X.2.1 dX5_turn_13 ?_
  refine lv_aload_n X.1 X.2.1 dX5_turn_14 rfl (lv_at hl 0 rfl) ?_
  refine lv_iload_n X.1 X.2.1 dX5_turn_15 rfl (lv_at hl 1 rfl) ?_
  obtain ⟨x7, hx7, h⟩ := kb_of h
  refine s_callVl (segs' := [gX5 g aT zT]) (ci := 5) (i0 := 0) X V (c_X5_sideY l D g aT zT v1 x7 hx7) w_X5_41 ⟨Nat.le_of_ble_eq_true rfl, Nat.le_of_ble_eq_true rfl⟩ ⟨Nat.zero_le _, Nat.zero_le _⟩ rfl rfl rfl rfl [0] rfl rfl (kFst_refl _) rfl rfl hl.1 (Nat.le_of_ble_eq_true rfl) dX5_turn_16 (fun H locs V => ?_)
  refine lv_iload_n X.1 X.2.1 dX5_turn_19 rfl (lv_at hl 2 rfl) ?_
  refine lv_aload_n X.1 X.2.1 dX5_turn_20 rfl (lv_at hl 0 rfl) ?_
  refine lv_iload_n X.1 X.2.1 dX5_turn_21 rfl (lv_at hl 1 rfl) ?_
  obtain ⟨x8, hx8, h⟩ := kb_of h
  refine s_callVi (segs' := [gX5 g aT zT]) (ci := 5) (i0 := 0) X V (c_X5_x l D g aT zT v1 x8 hx8) w_X5_31 ⟨Nat.le_of_ble_eq_true rfl, Nat.le_of_ble_eq_true rfl⟩ ⟨Nat.zero_le _, Nat.zero_le _⟩ rfl rfl rfl rfl [0] rfl rfl (kFst_refl _) rfl rfl hl.1 (Nat.le_of_ble_eq_true rfl) dX5_turn_22 (fun H locs V => ?_)
  refine lv_isub X.1 X.2.1 dX5_turn_25 ?_
  refine lv_i2l X.1 X.2.1 dX5_turn_26 rfl ?_
  refine lv_lmul X.1 X.2.1 dX5_turn_27 ?_
  refine lv_lsub X.1 X.2.1 dX5_turn_28 ?_
  obtain rfl := Option.some.inj h
  rw [hAA] at V
  rw [hQQ]
  exact k_lret X V rfl dX5_turn_29

def p_X5_lay_L0 (zP1 : tX8) (v2 : Int32) (v3 : Int32) (s : tX5) : Option (Nat × (tX5)) :=
  kif (s.2.2.2 ≤ (v3 + (1 : Int32))) (some (56, s)) (kif (s.2.2.2 ≤ (1 : Int32)) (some (56, s)) (kb (p_X8_x zP1 v2) (fun x1 => kb (p_X8_y zP1 v2) (fun x2 => kb (p_X5_turn s (s.2.2.2 - (2 : Int32)) x1 x2) (fun x3 => kif (0 < (lg_cmp x3 (0 : Int64))) (some (56, s)) (kl (s.1, s.2.1, s.2.2.1, (s.2.2.2 - (1 : Int32))) (fun z4 => some (0, z4))))))))
def p_X5_lay_J56 (zP1 : tX8) (v2 : Int32) (v3 : Int32) (zT : tX5) : Option (tX5) :=
  kif (zT.2.2.2 < 0) (some zT) (kif (zT.2.2.2 < (82 : Int32)) (kb (p_X8_x zP1 v2) (fun x6 => kg (kii zT.2.2.2 82) (kl ((upd zT.1 (zT.2.2.2).toNatClampNeg x6), zT.2) (fun z7 => kb (p_X8_y zP1 v2) (fun x8 => kg (kii z7.2.2.2 82) (kl (z7.1, (upd z7.2.1 (z7.2.2.2).toNatClampNeg x8), z7.2.2) (fun z9 => kb (p_X8_number zP1 v2) (fun x10 => kg (kii z9.2.2.2 82) (kl (z9.1, z9.2.1, (upd z9.2.2.1 (z9.2.2.2).toNatClampNeg x10), z9.2.2.2) (fun z11 => kl (z11.1, z11.2.1, z11.2.2.1, (z11.2.2.2 + (1 : Int32))) (fun z12 => some z12))))))))))) (some zT))
def p_X5_lay (zT : tX5) (zP1 : tX8) (v2 : Int32) (v3 : Int32) : Option (tX5) :=
  kb (kitr 0 (fun q => p_X5_lay_L0 zP1 v2 v3 q) kF zT) (fun x5 => kg (x5.1 = 56) (p_X5_lay_J56 zP1 v2 v3 x5.2))
set_option maxHeartbeats 4000000 in
set_option maxRecDepth 100000 in
theorem c_X5_lay (l : Launch) (D : va_G) (g : kG) (aT : Nat → Nat) (aP1 : Nat → Nat) (zT : tX5) (zP1 : tX8) (v2 : Int32) (v3 : Int32) (r : tX5) (h : p_X5_lay zT zP1 v2 v3 = some r) : kMv l yX5_lay cX5_lay 4 none (kR 3 65) D (kty g) [.ref (aT 0), .ref (aP1 0), .int v2, .int v3] (List.flatten [gX5 g aT zT, gX8 g aP1 zP1]) (List.flatten [gX5 g aT r, gX8 g aP1 zP1]) := by
  intro sz
  refine k_enter (lv := [(0, .ref (aT 0)), (1, .ref (aP1 0)), (2, .int v2), (3, .int v3)]) RX5 (by decide +kernel) rfl rfl (Nat.le_of_ble_eq_true rfl) ?_
  intro p en s m args below meth c ls hsz X V hl
  obtain ⟨QQ, hQQ⟩ : ∃ q, q = MQ below (va_Qv (fun (_ : Unit) => True) (fun _ => kE D (List.flatten [gX5 g aT r, gX8 g aP1 zP1])) (va_A (List.flatten [gX5 g aT zT, gX8 g aP1 zP1]) sz)) args s 0 0 (va_A (List.flatten [gX5 g aT zT, gX8 g aP1 zP1]) sz) := ⟨_, rfl⟩
  rw [← hQQ]
  obtain ⟨AA, hAA⟩ : ∃ q, q = va_A (List.flatten [gX5 g aT zT, gX8 g aP1 zP1]) sz := ⟨_, rfl⟩
  rw [← hAA] at V
  have J56 : ∀ (zT : tX5) (H : Heap) (locs : List Loc) (ls : Array Slot), p_X5_lay_J56 zP1 v2 v3 zT = some r → kW D AA s.heap H (List.flatten [gX5 g aT zT, gX8 g aP1 zP1]) locs → lv_has ls 4 [(0, .ref (aT 0)), (1, .ref (aP1 0)), (2, .int v2)] → W p l en (kR 3 65) s m args below meth c H locs 0 0 QQ (F0 m 56 ls []) := by
    intro zT H locs ls h V hl
    unfold p_X5_lay_J56 at h
    refine lv_aload_n X.1 X.2.1 dX5_lay_56 rfl (lv_at hl 0 rfl) ?_
    refine gf_X5_23 (i := 0) X V rfl dX5_lay_57 ?_
    refine lv_if_lt (tgt := 72) X.1 X.2.1 dX5_lay_60 (by decide) (fun hc => ?_) (fun hc => ?_)
    · replace h := kif_t hc h
      obtain rfl := Option.some.inj h
      rw [hAA] at V
      rw [hQQ]
      exact k_vret X V dX5_lay_72
    · replace h := kif_f hc h
      refine lv_aload_n X.1 X.2.1 dX5_lay_63 rfl (lv_at hl 0 rfl) ?_
      refine gf_X5_23 (i := 0) X V rfl dX5_lay_64 ?_
      refine lv_bipush (v := (82 : Int32)) X.1 X.2.1 dX5_lay_67 (by decide) ?_
      refine lv_icmp_lt (tgt := 73) X.1 X.2.1 dX5_lay_69 (by decide) (fun hc => ?_) (fun hc => ?_)
      · replace h := kif_t hc h
        refine lv_aload_n X.1 X.2.1 dX5_lay_73 rfl (lv_at hl 0 rfl) ?_
        refine gf_X5_13 (i := 0) X V rfl dX5_lay_74 ?_
        refine lv_aload_n X.1 X.2.1 dX5_lay_77 rfl (lv_at hl 0 rfl) ?_
        refine gf_X5_23 (i := 0) X V rfl dX5_lay_78 ?_
        refine lv_aload_n X.1 X.2.1 dX5_lay_81 rfl (lv_at hl 1 rfl) ?_
        refine lv_iload_n X.1 X.2.1 dX5_lay_82 rfl (lv_at hl 2 rfl) ?_
        obtain ⟨x13, hx13, h⟩ := kb_of h
        refine s_callVi (segs' := [gX5 g aT zT, gX8 g aP1 zP1]) (ci := 8) (i0 := 0) X V (c_X8_x l D g aP1 zP1 v2 x13 hx13) w_X5_51 ⟨Nat.le_of_ble_eq_true rfl, Nat.le_of_ble_eq_true rfl⟩ ⟨Nat.zero_le _, Nat.zero_le _⟩ rfl rfl rfl rfl [1] rfl rfl (kFst_refl _) rfl rfl hl.1 (Nat.le_of_ble_eq_true rfl) dX5_lay_83 (fun H locs V => ?_)
        obtain ⟨hc, h⟩ := kg_of h
        refine as_X5_0 (i := 0) X V rfl hc dX5_lay_86 (fun H locs V => ?_)
        obtain ⟨z14, ez14⟩ : ∃ y, y = ((upd zT.1 (zT.2.2.2).toNatClampNeg x13), zT.2) := ⟨_, rfl⟩
        replace h := kl_of ez14 h
        have V : kW D AA s.heap H (List.flatten [gX5 g aT z14, gX8 g aP1 zP1]) locs := by rw [ez14]; exact V
        refine lv_aload_n X.1 X.2.1 dX5_lay_87 rfl (lv_at hl 0 rfl) ?_
        refine gf_X5_17 (i := 0) X V rfl dX5_lay_88 ?_
        refine lv_aload_n X.1 X.2.1 dX5_lay_91 rfl (lv_at hl 0 rfl) ?_
        refine gf_X5_23 (i := 0) X V rfl dX5_lay_92 ?_
        refine lv_aload_n X.1 X.2.1 dX5_lay_95 rfl (lv_at hl 1 rfl) ?_
        refine lv_iload_n X.1 X.2.1 dX5_lay_96 rfl (lv_at hl 2 rfl) ?_
        obtain ⟨x15, hx15, h⟩ := kb_of h
        refine s_callVi (segs' := [gX5 g aT z14, gX8 g aP1 zP1]) (ci := 8) (i0 := 0) X V (c_X8_y l D g aP1 zP1 v2 x15 hx15) w_X5_52 ⟨Nat.le_of_ble_eq_true rfl, Nat.le_of_ble_eq_true rfl⟩ ⟨Nat.zero_le _, Nat.zero_le _⟩ rfl rfl rfl rfl [1] rfl rfl (kFst_refl _) rfl rfl hl.1 (Nat.le_of_ble_eq_true rfl) dX5_lay_97 (fun H locs V => ?_)
        obtain ⟨hc, h⟩ := kg_of h
        refine as_X5_1 (i := 0) X V rfl hc dX5_lay_100 (fun H locs V => ?_)
        obtain ⟨z16, ez16⟩ : ∃ y, y = (z14.1, (upd z14.2.1 (z14.2.2.2).toNatClampNeg x15), z14.2.2) := ⟨_, rfl⟩
        replace h := kl_of ez16 h
        have V : kW D AA s.heap H (List.flatten [gX5 g aT z16, gX8 g aP1 zP1]) locs := by rw [ez16]; exact V
        refine lv_aload_n X.1 X.2.1 dX5_lay_101 rfl (lv_at hl 0 rfl) ?_
        refine gf_X5_20 (i := 0) X V rfl dX5_lay_102 ?_
        refine lv_aload_n X.1 X.2.1 dX5_lay_105 rfl (lv_at hl 0 rfl) ?_
        refine gf_X5_23 (i := 0) X V rfl dX5_lay_106 ?_
        refine lv_aload_n X.1 X.2.1 dX5_lay_109 rfl (lv_at hl 1 rfl) ?_
        refine lv_iload_n X.1 X.2.1 dX5_lay_110 rfl (lv_at hl 2 rfl) ?_
        obtain ⟨x17, hx17, h⟩ := kb_of h
        refine s_callVi (segs' := [gX5 g aT z16, gX8 g aP1 zP1]) (ci := 8) (i0 := 0) X V (c_X8_number l D g aP1 zP1 v2 x17 hx17) w_X5_57 ⟨Nat.le_of_ble_eq_true rfl, Nat.le_of_ble_eq_true rfl⟩ ⟨Nat.zero_le _, Nat.zero_le _⟩ rfl rfl rfl rfl [1] rfl rfl (kFst_refl _) rfl rfl hl.1 (Nat.le_of_ble_eq_true rfl) dX5_lay_111 (fun H locs V => ?_)
        obtain ⟨hc, h⟩ := kg_of h
        refine as_X5_2 (i := 0) X V rfl hc dX5_lay_114 (fun H locs V => ?_)
        obtain ⟨z18, ez18⟩ : ∃ y, y = (z16.1, z16.2.1, (upd z16.2.2.1 (z16.2.2.2).toNatClampNeg x17), z16.2.2.2) := ⟨_, rfl⟩
        replace h := kl_of ez18 h
        have V : kW D AA s.heap H (List.flatten [gX5 g aT z18, gX8 g aP1 zP1]) locs := by rw [ez18]; exact V
        refine lv_aload_n X.1 X.2.1 dX5_lay_115 rfl (lv_at hl 0 rfl) ?_
        refine lv_dup X.1 X.2.1 dX5_lay_116 rfl ?_
        refine gf_X5_23 (i := 0) X V rfl dX5_lay_117 ?_
        refine lv_iconst (v := (1 : Int32)) X.1 X.2.1 dX5_lay_120 (by decide) ?_
        refine lv_iadd X.1 X.2.1 dX5_lay_121 ?_
        refine pf_X5_23 (i := 0) X V rfl dX5_lay_122 (fun H locs V => ?_)
        obtain ⟨z19, ez19⟩ : ∃ y, y = (z18.1, z18.2.1, z18.2.2.1, (z18.2.2.2 + (1 : Int32))) := ⟨_, rfl⟩
        replace h := kl_of ez19 h
        have V : kW D AA s.heap H (List.flatten [gX5 g aT z19, gX8 g aP1 zP1]) locs := by rw [ez19]; exact V
        obtain rfl := Option.some.inj h
        rw [hAA] at V
        rw [hQQ]
        exact k_vret X V dX5_lay_125
      · replace h := kif_f hc h
        obtain rfl := Option.some.inj h
        rw [hAA] at V
        rw [hQQ]
        exact k_vret X V dX5_lay_72
  unfold p_X5_lay at h
  obtain ⟨x20, hx20, h⟩ := kb_of h
  refine (kitr_go (hd := 0) (body := fun q => p_X5_lay_L0 zP1 v2 v3 q) (G := (fun e => ∀ (H : Heap) (locs : List Loc) (ls : Array Slot), kW D AA s.heap H (List.flatten [gX5 g aT e.2, gX8 g aP1 zP1]) locs → lv_has ls 4 [(0, .ref (aT 0)), (1, .ref (aP1 0)), (2, .int v2), (3, .int v3)] → W p l en (kR 3 65) s m args below meth c H locs 0 0 QQ (F0 m e.1 ls []))) (fun s21 e22 hb23 hG24 => ?_) kF _ x20 hx20 ?_) _ _ _ V (lv_sub hl [0, 1, 2, 3] rfl)
  · intro H locs ls V hl
    show W p l en (kR 3 65) s m args below meth c H locs 0 0 QQ (F0 m 0 ls [])
    have h : p_X5_lay_L0 zP1 v2 v3 s21 = some e22 := hb23
    unfold p_X5_lay_L0 at h
    have V : kW D AA s.heap H (List.flatten [gX5 g aT s21, gX8 g aP1 zP1]) locs := V
    have hl : lv_has ls 4 [(0, .ref (aT 0)), (1, .ref (aP1 0)), (2, .int v2), (3, .int v3)] := hl
    refine lv_aload_n X.1 X.2.1 dX5_lay_0 rfl (lv_at hl 0 rfl) ?_
    refine gf_X5_23 (i := 0) X V rfl dX5_lay_1 ?_
    refine lv_iload_n X.1 X.2.1 dX5_lay_4 rfl (lv_at hl 3 rfl) ?_
    refine lv_iconst (v := (1 : Int32)) X.1 X.2.1 dX5_lay_5 (by decide) ?_
    refine lv_iadd X.1 X.2.1 dX5_lay_6 ?_
    refine lv_icmp_le (tgt := 56) X.1 X.2.1 dX5_lay_7 (by decide) (fun hc => ?_) (fun hc => ?_)
    · replace h := kif_t hc h
      obtain rfl := Option.some.inj h
      exact hG24 _ _ _ V (lv_sub hl [0, 1, 2, 3] rfl)
    · replace h := kif_f hc h
      refine lv_aload_n X.1 X.2.1 dX5_lay_10 rfl (lv_at hl 0 rfl) ?_
      refine gf_X5_23 (i := 0) X V rfl dX5_lay_11 ?_
      refine lv_iconst (v := (1 : Int32)) X.1 X.2.1 dX5_lay_14 (by decide) ?_
      refine lv_icmp_le (tgt := 56) X.1 X.2.1 dX5_lay_15 (by decide) (fun hc => ?_) (fun hc => ?_)
      · replace h := kif_t hc h
        obtain rfl := Option.some.inj h
        exact hG24 _ _ _ V (lv_sub hl [0, 1, 2, 3] rfl)
      · replace h := kif_f hc h
        refine lv_aload_n X.1 X.2.1 dX5_lay_18 rfl (lv_at hl 0 rfl) ?_
        refine lv_aload_n X.1 X.2.1 dX5_lay_19 rfl (lv_at hl 0 rfl) ?_
        refine gf_X5_23 (i := 0) X V rfl dX5_lay_20 ?_
        refine lv_iconst (v := (2 : Int32)) X.1 X.2.1 dX5_lay_23 (by decide) ?_
        refine lv_isub X.1 X.2.1 dX5_lay_24 ?_
        refine lv_aload_n X.1 X.2.1 dX5_lay_25 rfl (lv_at hl 1 rfl) ?_
        refine lv_iload_n X.1 X.2.1 dX5_lay_26 rfl (lv_at hl 2 rfl) ?_
        obtain ⟨x25, hx25, h⟩ := kb_of h
        refine s_callVi (segs' := [gX5 g aT s21, gX8 g aP1 zP1]) (ci := 8) (i0 := 0) X V (c_X8_x l D g aP1 zP1 v2 x25 hx25) w_X5_51 ⟨Nat.le_of_ble_eq_true rfl, Nat.le_of_ble_eq_true rfl⟩ ⟨Nat.zero_le _, Nat.zero_le _⟩ rfl rfl rfl rfl [1] rfl rfl (kFst_refl _) rfl rfl hl.1 (Nat.le_of_ble_eq_true rfl) dX5_lay_27 (fun H locs V => ?_)
        refine lv_aload_n X.1 X.2.1 dX5_lay_30 rfl (lv_at hl 1 rfl) ?_
        refine lv_iload_n X.1 X.2.1 dX5_lay_31 rfl (lv_at hl 2 rfl) ?_
        obtain ⟨x26, hx26, h⟩ := kb_of h
        refine s_callVi (segs' := [gX5 g aT s21, gX8 g aP1 zP1]) (ci := 8) (i0 := 0) X V (c_X8_y l D g aP1 zP1 v2 x26 hx26) w_X5_52 ⟨Nat.le_of_ble_eq_true rfl, Nat.le_of_ble_eq_true rfl⟩ ⟨Nat.zero_le _, Nat.zero_le _⟩ rfl rfl rfl rfl [1] rfl rfl (kFst_refl _) rfl rfl hl.1 (Nat.le_of_ble_eq_true rfl) dX5_lay_32 (fun H locs V => ?_)
        obtain ⟨x27, hx27, h⟩ := kb_of h
        refine s_callVl (segs' := [gX5 g aT s21, gX8 g aP1 zP1]) (ci := 5) (i0 := 0) X V (c_X5_turn l D g aT s21 (s21.2.2.2 - (2 : Int32)) x25 x26 x27 hx27) w_X5_53 ⟨Nat.le_of_ble_eq_true rfl, Nat.le_of_ble_eq_true rfl⟩ ⟨Nat.zero_le _, Nat.zero_le _⟩ rfl rfl rfl rfl [0] rfl rfl (kFst_refl _) rfl rfl hl.1 (Nat.le_of_ble_eq_true rfl) dX5_lay_35 (fun H locs V => ?_)
        refine lv_lconst (v := (0 : Int64)) X.1 X.2.1 dX5_lay_38 (by decide) ?_
        refine W.lcmp X.1 X.2.1 dX5_lay_39 ?_
        refine lv_if_gt (tgt := 56) X.1 X.2.1 dX5_lay_40 (by decide) (fun hc => ?_) (fun hc => ?_)
        · replace h := kif_t hc h
          obtain rfl := Option.some.inj h
          exact hG24 _ _ _ V (lv_sub hl [0, 1, 2, 3] rfl)
        · replace h := kif_f hc h
          refine lv_aload_n X.1 X.2.1 dX5_lay_43 rfl (lv_at hl 0 rfl) ?_
          refine lv_dup X.1 X.2.1 dX5_lay_44 rfl ?_
          refine gf_X5_23 (i := 0) X V rfl dX5_lay_45 ?_
          refine lv_iconst (v := (1 : Int32)) X.1 X.2.1 dX5_lay_48 (by decide) ?_
          refine lv_isub X.1 X.2.1 dX5_lay_49 ?_
          refine pf_X5_23 (i := 0) X V rfl dX5_lay_50 (fun H locs V => ?_)
          obtain ⟨z28, ez28⟩ : ∃ y, y = (s21.1, s21.2.1, s21.2.2.1, (s21.2.2.2 - (1 : Int32))) := ⟨_, rfl⟩
          replace h := kl_of ez28 h
          have V : kW D AA s.heap H (List.flatten [gX5 g aT z28, gX8 g aP1 zP1]) locs := by rw [ez28]; exact V
          refine lv_goto (tgt := 0) X.1 X.2.1 dX5_lay_53 (by decide) ?_
          obtain rfl := Option.some.inj h
          exact hG24 _ _ _ V (lv_sub hl [0, 1, 2, 3] rfl)
  · intro H locs ls V hl
    have V : kW D AA s.heap H (List.flatten [gX5 g aT x20.2, gX8 g aP1 zP1]) locs := V
    have hl : lv_has ls 4 [(0, .ref (aT 0)), (1, .ref (aP1 0)), (2, .int v2), (3, .int v3)] := hl
    obtain ⟨hc, h⟩ := kg_of h
    refine W.eq (g2 := F0 m 56 ls []) (by rw [hc]) ?_
    exact J56 x20.2 _ _ _ h V (lv_sub hl [0, 1, 2] rfl)

def p_X5_about_L7 (zP1 : tX8) (s : Int32 × tX5) : Option (Nat × (Int32 × tX5)) :=
  kb (p_X8_count zP1) (fun x2 => kif (x2 ≤ s.1) (some (28, (s.1, s.2))) (kb (p_X5_lay s.2 zP1 s.1 (0 : Int32)) (fun x3 => kl (s.1 + (1 : Int32)) (fun y4 => some (7, (y4, x3))))))
def p_X5_about_L42 (zP1 : tX8) (v2 : Int32) (s : Int32 × tX5) : Option (Nat × (Int32 × tX5)) :=
  kif (s.1 < 0) (some (59, (s.1, s.2))) (kb (p_X5_lay s.2 zP1 s.1 v2) (fun x9 => kl (s.1 + (-1 : Int32)) (fun y10 => some (42, (y10, x9)))))
def p_X5_about (zT : tX5) (zP1 : tX8) : Option (tX5) :=
  kl (zT.1, zT.2.1, zT.2.2.1, (0 : Int32)) (fun z1 => kb (kitr 7 (fun q => p_X5_about_L7 zP1 q) kF ((0 : Int32), z1)) (fun x5 => kg (x5.1 = 28) (kl (x5.2.2.2.2.2 - (1 : Int32)) (fun y6 => kb (p_X8_count zP1) (fun x7 => kl (x7 - (2 : Int32)) (fun y8 => kb (kitr 42 (fun q => p_X5_about_L42 zP1 y6 q) kF (y8, x5.2.2)) (fun x11 => kg (x11.1 = 59) (kif (x11.2.2.2.2.2 ≤ (1 : Int32)) (some x11.2.2) (kl (x11.2.2.1, x11.2.2.2.1, x11.2.2.2.2.1, (x11.2.2.2.2.2 - (1 : Int32))) (fun z12 => some z12))))))))))
set_option maxHeartbeats 4000000 in
set_option maxRecDepth 100000 in
theorem c_X5_about (l : Launch) (D : va_G) (g : kG) (aT : Nat → Nat) (aP1 : Nat → Nat) (zT : tX5) (zP1 : tX8) (r : tX5) (h : p_X5_about zT zP1 = some r) : kMv l yX5_about cX5_about 4 none (kR 4 88) D (kty g) [.ref (aT 0), .ref (aP1 0)] (List.flatten [gX5 g aT zT, gX8 g aP1 zP1]) (List.flatten [gX5 g aT r, gX8 g aP1 zP1]) := by
  intro sz
  refine k_enter (lv := [(0, .ref (aT 0)), (1, .ref (aP1 0))]) RX5 (by decide +kernel) rfl rfl (Nat.le_of_ble_eq_true rfl) ?_
  intro p en s m args below meth c ls hsz X V hl
  obtain ⟨QQ, hQQ⟩ : ∃ q, q = MQ below (va_Qv (fun (_ : Unit) => True) (fun _ => kE D (List.flatten [gX5 g aT r, gX8 g aP1 zP1])) (va_A (List.flatten [gX5 g aT zT, gX8 g aP1 zP1]) sz)) args s 0 0 (va_A (List.flatten [gX5 g aT zT, gX8 g aP1 zP1]) sz) := ⟨_, rfl⟩
  rw [← hQQ]
  obtain ⟨AA, hAA⟩ : ∃ q, q = va_A (List.flatten [gX5 g aT zT, gX8 g aP1 zP1]) sz := ⟨_, rfl⟩
  rw [← hAA] at V
  unfold p_X5_about at h
  refine lv_aload_n X.1 X.2.1 dX5_about_0 rfl (lv_at hl 0 rfl) ?_
  refine lv_iconst (v := (0 : Int32)) X.1 X.2.1 dX5_about_1 (by decide) ?_
  refine pf_X5_23 (i := 0) X V rfl dX5_about_2 (fun H locs V => ?_)
  obtain ⟨z13, ez13⟩ : ∃ y, y = (zT.1, zT.2.1, zT.2.2.1, (0 : Int32)) := ⟨_, rfl⟩
  replace h := kl_of ez13 h
  have V : kW D AA s.heap H (List.flatten [gX5 g aT z13, gX8 g aP1 zP1]) locs := by rw [ez13]; exact V
  refine lv_iconst (v := (0 : Int32)) X.1 X.2.1 dX5_about_5 (by decide) ?_
  refine lv_istore_n (lv' := [(2, .int (0 : Int32)), (0, .ref (aT 0)), (1, .ref (aP1 0))]) X.1 X.2.1 dX5_about_6 rfl hl (by decide) rfl (fun ls hl => ?_)
  obtain ⟨x14, hx14, h⟩ := kb_of h
  refine (kitr_go (hd := 7) (body := fun q => p_X5_about_L7 zP1 q) (G := (fun e => ∀ (H : Heap) (locs : List Loc) (ls : Array Slot), kW D AA s.heap H (List.flatten [gX5 g aT e.2.2, gX8 g aP1 zP1]) locs → lv_has ls 4 [(0, .ref (aT 0)), (1, .ref (aP1 0)), (2, .int e.2.1)] → W p l en (kR 4 88) s m args below meth c H locs 0 0 QQ (F0 m e.1 ls []))) (fun s15 e16 hb17 hG18 => ?_) kF _ x14 hx14 ?_) _ _ _ V (lv_sub hl [1, 2, 0] rfl)
  · intro H locs ls V hl
    show W p l en (kR 4 88) s m args below meth c H locs 0 0 QQ (F0 m 7 ls [])
    have h : p_X5_about_L7 zP1 s15 = some e16 := hb17
    unfold p_X5_about_L7 at h
    have V : kW D AA s.heap H (List.flatten [gX5 g aT s15.2, gX8 g aP1 zP1]) locs := V
    have hl : lv_has ls 4 [(0, .ref (aT 0)), (1, .ref (aP1 0)), (2, .int s15.1)] := hl
    refine lv_iload_n X.1 X.2.1 dX5_about_7 rfl (lv_at hl 2 rfl) ?_
    refine lv_aload_n X.1 X.2.1 dX5_about_8 rfl (lv_at hl 1 rfl) ?_
    obtain ⟨x19, hx19, h⟩ := kb_of h
    refine s_callVi (segs' := [gX5 g aT s15.2, gX8 g aP1 zP1]) (ci := 8) (i0 := 0) X V (c_X8_count l D g aP1 zP1 x19 hx19) w_X5_44 ⟨Nat.le_of_ble_eq_true rfl, Nat.le_of_ble_eq_true rfl⟩ ⟨Nat.zero_le _, Nat.zero_le _⟩ rfl rfl rfl rfl [1] rfl rfl (kFst_refl _) rfl rfl hl.1 (Nat.le_of_ble_eq_true rfl) dX5_about_9 (fun H locs V => ?_)
    refine lv_icmp_ge (tgt := 28) X.1 X.2.1 dX5_about_12 (by decide) (fun hc => ?_) (fun hc => ?_)
    · replace h := kif_t hc h
      obtain rfl := Option.some.inj h
      exact hG18 _ _ _ V (lv_sub hl [0, 1, 2] rfl)
    · replace h := kif_f hc h
      refine lv_aload_n X.1 X.2.1 dX5_about_15 rfl (lv_at hl 0 rfl) ?_
      refine lv_aload_n X.1 X.2.1 dX5_about_16 rfl (lv_at hl 1 rfl) ?_
      refine lv_iload_n X.1 X.2.1 dX5_about_17 rfl (lv_at hl 2 rfl) ?_
      refine lv_iconst (v := (0 : Int32)) X.1 X.2.1 dX5_about_18 (by decide) ?_
      obtain ⟨x20, hx20, h⟩ := kb_of h
      refine s_callVv (segs' := [gX5 g aT x20, gX8 g aP1 zP1]) (ci := 5) (i0 := 0) X V (c_X5_lay l D g aT aP1 s15.2 zP1 s15.1 (0 : Int32) x20 hx20) w_X5_47 ⟨Nat.le_of_ble_eq_true rfl, Nat.le_of_ble_eq_true rfl⟩ ⟨Nat.zero_le _, Nat.zero_le _⟩ rfl rfl rfl rfl [0, 1] rfl rfl ⟨gX5_fst, rfl, trivial⟩ rfl rfl hl.1 (Nat.le_of_ble_eq_true rfl) dX5_about_19 (fun H locs V => ?_)
      obtain ⟨y21, ey21⟩ : ∃ y : Int32, y = (s15.1 + (1 : Int32)) := ⟨_, rfl⟩
      replace h := kl_of ey21 h
      refine lv_iinc (v := y21) (lv' := [(2, .int y21), (0, .ref (aT 0)), (1, .ref (aP1 0))]) X.1 X.2.1 dX5_about_22 hl (k := 2) rfl (by rw [ey21]; rfl) (by decide) rfl (fun ls hl => ?_)
      refine lv_goto (tgt := 7) X.1 X.2.1 dX5_about_25 (by decide) ?_
      obtain rfl := Option.some.inj h
      exact hG18 _ _ _ V (lv_sub hl [1, 2, 0] rfl)
  · intro H locs ls V hl
    have V : kW D AA s.heap H (List.flatten [gX5 g aT x14.2.2, gX8 g aP1 zP1]) locs := V
    have hl : lv_has ls 4 [(0, .ref (aT 0)), (1, .ref (aP1 0)), (2, .int x14.2.1)] := hl
    obtain ⟨hc, h⟩ := kg_of h
    refine W.eq (g2 := F0 m 28 ls []) (by rw [hc]) ?_
    refine lv_aload_n X.1 X.2.1 dX5_about_28 rfl (lv_at hl 0 rfl) ?_
    refine gf_X5_23 (i := 0) X V rfl dX5_about_29 ?_
    refine lv_iconst (v := (1 : Int32)) X.1 X.2.1 dX5_about_32 (by decide) ?_
    refine lv_isub X.1 X.2.1 dX5_about_33 ?_
    refine lv_topi (fun y22 ey22 => ?_)
    replace h := kl_of ey22 h
    refine lv_istore_n (lv' := [(2, .int y22), (0, .ref (aT 0)), (1, .ref (aP1 0))]) X.1 X.2.1 dX5_about_34 rfl hl (by decide) rfl (fun ls hl => ?_)
    refine lv_aload_n X.1 X.2.1 dX5_about_35 rfl (lv_at hl 2 rfl) ?_
    obtain ⟨x23, hx23, h⟩ := kb_of h
    refine s_callVi (segs' := [gX5 g aT x14.2.2, gX8 g aP1 zP1]) (ci := 8) (i0 := 0) X V (c_X8_count l D g aP1 zP1 x23 hx23) w_X5_44 ⟨Nat.le_of_ble_eq_true rfl, Nat.le_of_ble_eq_true rfl⟩ ⟨Nat.zero_le _, Nat.zero_le _⟩ rfl rfl rfl rfl [1] rfl rfl (kFst_refl _) rfl rfl hl.1 (Nat.le_of_ble_eq_true rfl) dX5_about_36 (fun H locs V => ?_)
    refine lv_iconst (v := (2 : Int32)) X.1 X.2.1 dX5_about_39 (by decide) ?_
    refine lv_isub X.1 X.2.1 dX5_about_40 ?_
    refine lv_topi (fun y24 ey24 => ?_)
    replace h := kl_of ey24 h
    refine lv_istore_n (lv' := [(3, .int y24), (2, .int y22), (0, .ref (aT 0)), (1, .ref (aP1 0))]) X.1 X.2.1 dX5_about_41 rfl hl (by decide) rfl (fun ls hl => ?_)
    obtain ⟨x25, hx25, h⟩ := kb_of h
    refine (kitr_go (hd := 42) (body := fun q => p_X5_about_L42 zP1 y22 q) (G := (fun e => ∀ (H : Heap) (locs : List Loc) (ls : Array Slot), kW D AA s.heap H (List.flatten [gX5 g aT e.2.2, gX8 g aP1 zP1]) locs → lv_has ls 4 [(0, .ref (aT 0)), (1, .ref (aP1 0)), (2, .int y22), (3, .int e.2.1)] → W p l en (kR 4 88) s m args below meth c H locs 0 0 QQ (F0 m e.1 ls []))) (fun s26 e27 hb28 hG29 => ?_) kF _ x25 hx25 ?_) _ _ _ V (lv_sub hl [2, 3, 1, 0] rfl)
    · intro H locs ls V hl
      show W p l en (kR 4 88) s m args below meth c H locs 0 0 QQ (F0 m 42 ls [])
      have h : p_X5_about_L42 zP1 y22 s26 = some e27 := hb28
      unfold p_X5_about_L42 at h
      have V : kW D AA s.heap H (List.flatten [gX5 g aT s26.2, gX8 g aP1 zP1]) locs := V
      have hl : lv_has ls 4 [(0, .ref (aT 0)), (1, .ref (aP1 0)), (2, .int y22), (3, .int s26.1)] := hl
      refine lv_iload_n X.1 X.2.1 dX5_about_42 rfl (lv_at hl 3 rfl) ?_
      refine lv_if_lt (tgt := 59) X.1 X.2.1 dX5_about_43 (by decide) (fun hc => ?_) (fun hc => ?_)
      · replace h := kif_t hc h
        obtain rfl := Option.some.inj h
        exact hG29 _ _ _ V (lv_sub hl [0, 1, 2, 3] rfl)
      · replace h := kif_f hc h
        refine lv_aload_n X.1 X.2.1 dX5_about_46 rfl (lv_at hl 0 rfl) ?_
        refine lv_aload_n X.1 X.2.1 dX5_about_47 rfl (lv_at hl 1 rfl) ?_
        refine lv_iload_n X.1 X.2.1 dX5_about_48 rfl (lv_at hl 3 rfl) ?_
        refine lv_iload_n X.1 X.2.1 dX5_about_49 rfl (lv_at hl 2 rfl) ?_
        obtain ⟨x30, hx30, h⟩ := kb_of h
        refine s_callVv (segs' := [gX5 g aT x30, gX8 g aP1 zP1]) (ci := 5) (i0 := 0) X V (c_X5_lay l D g aT aP1 s26.2 zP1 s26.1 y22 x30 hx30) w_X5_47 ⟨Nat.le_of_ble_eq_true rfl, Nat.le_of_ble_eq_true rfl⟩ ⟨Nat.zero_le _, Nat.zero_le _⟩ rfl rfl rfl rfl [0, 1] rfl rfl ⟨gX5_fst, rfl, trivial⟩ rfl rfl hl.1 (Nat.le_of_ble_eq_true rfl) dX5_about_50 (fun H locs V => ?_)
        obtain ⟨y31, ey31⟩ : ∃ y : Int32, y = (s26.1 + (-1 : Int32)) := ⟨_, rfl⟩
        replace h := kl_of ey31 h
        refine lv_iinc (v := y31) (lv' := [(3, .int y31), (0, .ref (aT 0)), (1, .ref (aP1 0)), (2, .int y22)]) X.1 X.2.1 dX5_about_53 hl (k := 3) rfl (by rw [ey31]; rfl) (by decide) rfl (fun ls hl => ?_)
        refine lv_goto (tgt := 42) X.1 X.2.1 dX5_about_56 (by decide) ?_
        obtain rfl := Option.some.inj h
        exact hG29 _ _ _ V (lv_sub hl [1, 2, 3, 0] rfl)
    · intro H locs ls V hl
      have V : kW D AA s.heap H (List.flatten [gX5 g aT x25.2.2, gX8 g aP1 zP1]) locs := V
      have hl : lv_has ls 4 [(0, .ref (aT 0)), (1, .ref (aP1 0)), (2, .int y22), (3, .int x25.2.1)] := hl
      obtain ⟨hc, h⟩ := kg_of h
      refine W.eq (g2 := F0 m 59 ls []) (by rw [hc]) ?_
      refine lv_aload_n X.1 X.2.1 dX5_about_59 rfl (lv_at hl 0 rfl) ?_
      refine gf_X5_23 (i := 0) X V rfl dX5_about_60 ?_
      refine lv_iconst (v := (1 : Int32)) X.1 X.2.1 dX5_about_63 (by decide) ?_
      refine lv_icmp_le (tgt := 77) X.1 X.2.1 dX5_about_64 (by decide) (fun hc => ?_) (fun hc => ?_)
      · replace h := kif_t hc h
        obtain rfl := Option.some.inj h
        rw [hAA] at V
        rw [hQQ]
        exact k_vret X V dX5_about_77
      · replace h := kif_f hc h
        refine lv_aload_n X.1 X.2.1 dX5_about_67 rfl (lv_at hl 0 rfl) ?_
        refine lv_dup X.1 X.2.1 dX5_about_68 rfl ?_
        refine gf_X5_23 (i := 0) X V rfl dX5_about_69 ?_
        refine lv_iconst (v := (1 : Int32)) X.1 X.2.1 dX5_about_72 (by decide) ?_
        refine lv_isub X.1 X.2.1 dX5_about_73 ?_
        refine pf_X5_23 (i := 0) X V rfl dX5_about_74 (fun H locs V => ?_)
        obtain ⟨z32, ez32⟩ : ∃ y, y = (x25.2.2.1, x25.2.2.2.1, x25.2.2.2.2.1, (x25.2.2.2.2.2 - (1 : Int32))) := ⟨_, rfl⟩
        replace h := kl_of ez32 h
        have V : kW D AA s.heap H (List.flatten [gX5 g aT z32, gX8 g aP1 zP1]) locs := by rw [ez32]; exact V
        obtain rfl := Option.some.inj h
        rw [hAA] at V
        rw [hQQ]
        exact k_vret X V dX5_about_77

def p_X5_twiceArea_L4 (zT : tX5) (s : Int64 × Int32) : Option (Nat × (Int64 × Int32)) :=
  kif (zT.2.2.2 ≤ s.2) (some (36, (s.1, s.2))) (kb (p_X5_x zT (0 : Int32)) (fun x1 => kb (p_X5_y zT (0 : Int32)) (fun x2 => kb (p_X5_turn zT s.2 x1 x2) (fun x3 => kl (s.1 + x3) (fun y4 => kl (s.2 + (1 : Int32)) (fun y5 => some (4, (y4, y5))))))))
def p_X5_twiceArea (zT : tX5) : Option (Int64) :=
  kb (kitr 4 (fun q => p_X5_twiceArea_L4 zT q) kF ((0 : Int64), (0 : Int32))) (fun x6 => kg (x6.1 = 36) (some x6.2.1))
set_option maxHeartbeats 4000000 in
set_option maxRecDepth 100000 in
theorem c_X5_twiceArea (l : Launch) (D : va_G) (g : kG) (aT : Nat → Nat) (zT : tX5) (r : Int64) (h : p_X5_twiceArea zT = some r) : kMl l yX5_twiceArea cX5_twiceArea 4 (some .long) (kR 3 65) D (kty g) [.ref (aT 0)] (List.flatten [gX5 g aT zT]) r (List.flatten [gX5 g aT zT]) := by
  intro sz
  refine k_enter (lv := [(0, .ref (aT 0))]) RX5 (by decide +kernel) rfl rfl (Nat.le_of_ble_eq_true rfl) ?_
  intro p en s m args below meth c ls hsz X V hl
  obtain ⟨QQ, hQQ⟩ : ∃ q, q = MQ below (va_Ql (fun r' (_ : Unit) => r' = r) (fun _ => kE D (List.flatten [gX5 g aT zT])) (va_A (List.flatten [gX5 g aT zT]) sz)) args s 0 0 (va_A (List.flatten [gX5 g aT zT]) sz) := ⟨_, rfl⟩
  rw [← hQQ]
  obtain ⟨AA, hAA⟩ : ∃ q, q = va_A (List.flatten [gX5 g aT zT]) sz := ⟨_, rfl⟩
  rw [← hAA] at V
  unfold p_X5_twiceArea at h
  refine lv_lconst (v := (0 : Int64)) X.1 X.2.1 dX5_twiceArea_0 (by decide) ?_
  refine lv_lstore_n (lv' := [(1, .long (0 : Int64)), (0, .ref (aT 0))]) X.1 X.2.1 dX5_twiceArea_1 rfl hl (by decide) rfl (fun ls hl => ?_)
  refine lv_iconst (v := (0 : Int32)) X.1 X.2.1 dX5_twiceArea_2 (by decide) ?_
  refine lv_istore_n (lv' := [(3, .int (0 : Int32)), (1, .long (0 : Int64)), (0, .ref (aT 0))]) X.1 X.2.1 dX5_twiceArea_3 rfl hl (by decide) rfl (fun ls hl => ?_)
  obtain ⟨x7, hx7, h⟩ := kb_of h
  refine (kitr_go (hd := 4) (body := fun q => p_X5_twiceArea_L4 zT q) (G := (fun e => ∀ (H : Heap) (locs : List Loc) (ls : Array Slot), kW D AA s.heap H (List.flatten [gX5 g aT zT]) locs → lv_has ls 4 [(0, .ref (aT 0)), (1, .long e.2.1), (3, .int e.2.2)] → W p l en (kR 3 65) s m args below meth c H locs 0 0 QQ (F0 m e.1 ls []))) (fun s8 e9 hb10 hG11 => ?_) kF _ x7 hx7 ?_) _ _ _ V (lv_sub hl [2, 1, 0] rfl)
  · intro H locs ls V hl
    show W p l en (kR 3 65) s m args below meth c H locs 0 0 QQ (F0 m 4 ls [])
    have h : p_X5_twiceArea_L4 zT s8 = some e9 := hb10
    unfold p_X5_twiceArea_L4 at h
    have V : kW D AA s.heap H (List.flatten [gX5 g aT zT]) locs := V
    have hl : lv_has ls 4 [(0, .ref (aT 0)), (1, .long s8.1), (3, .int s8.2)] := hl
    refine lv_iload_n X.1 X.2.1 dX5_twiceArea_4 rfl (lv_at hl 2 rfl) ?_
    refine lv_aload_n X.1 X.2.1 dX5_twiceArea_5 rfl (lv_at hl 0 rfl) ?_
    refine gf_X5_23 (i := 0) X V rfl dX5_twiceArea_6 ?_
    refine lv_icmp_ge (tgt := 36) X.1 X.2.1 dX5_twiceArea_9 (by decide) (fun hc => ?_) (fun hc => ?_)
    · replace h := kif_t hc h
      obtain rfl := Option.some.inj h
      exact hG11 _ _ _ V (lv_sub hl [0, 1, 2] rfl)
    · replace h := kif_f hc h
      refine lv_lload_n X.1 X.2.1 dX5_twiceArea_12 rfl (lv_at hl 1 rfl) ?_
      refine lv_aload_n X.1 X.2.1 dX5_twiceArea_13 rfl (lv_at hl 0 rfl) ?_
      refine lv_iload_n X.1 X.2.1 dX5_twiceArea_14 rfl (lv_at hl 2 rfl) ?_
      refine lv_aload_n X.1 X.2.1 dX5_twiceArea_15 rfl (lv_at hl 0 rfl) ?_
      refine lv_iconst (v := (0 : Int32)) X.1 X.2.1 dX5_twiceArea_16 (by decide) ?_
      obtain ⟨x12, hx12, h⟩ := kb_of h
      refine s_callVi (segs' := [gX5 g aT zT]) (ci := 5) (i0 := 0) X V (c_X5_x l D g aT zT (0 : Int32) x12 hx12) w_X5_31 ⟨Nat.le_of_ble_eq_true rfl, Nat.le_of_ble_eq_true rfl⟩ ⟨Nat.zero_le _, Nat.zero_le _⟩ rfl rfl rfl rfl [0] rfl rfl (kFst_refl _) rfl rfl hl.1 (Nat.le_of_ble_eq_true rfl) dX5_twiceArea_17 (fun H locs V => ?_)
      refine lv_aload_n X.1 X.2.1 dX5_twiceArea_20 rfl (lv_at hl 0 rfl) ?_
      refine lv_iconst (v := (0 : Int32)) X.1 X.2.1 dX5_twiceArea_21 (by decide) ?_
      obtain ⟨x13, hx13, h⟩ := kb_of h
      refine s_callVi (segs' := [gX5 g aT zT]) (ci := 5) (i0 := 0) X V (c_X5_y l D g aT zT (0 : Int32) x13 hx13) w_X5_34 ⟨Nat.le_of_ble_eq_true rfl, Nat.le_of_ble_eq_true rfl⟩ ⟨Nat.zero_le _, Nat.zero_le _⟩ rfl rfl rfl rfl [0] rfl rfl (kFst_refl _) rfl rfl hl.1 (Nat.le_of_ble_eq_true rfl) dX5_twiceArea_22 (fun H locs V => ?_)
      obtain ⟨x14, hx14, h⟩ := kb_of h
      refine s_callVl (segs' := [gX5 g aT zT]) (ci := 5) (i0 := 0) X V (c_X5_turn l D g aT zT s8.2 x12 x13 x14 hx14) w_X5_53 ⟨Nat.le_of_ble_eq_true rfl, Nat.le_of_ble_eq_true rfl⟩ ⟨Nat.zero_le _, Nat.zero_le _⟩ rfl rfl rfl rfl [0] rfl rfl (kFst_refl _) rfl rfl hl.1 (Nat.le_of_ble_eq_true rfl) dX5_twiceArea_25 (fun H locs V => ?_)
      refine lv_ladd X.1 X.2.1 dX5_twiceArea_28 ?_
      refine lv_topl (fun y15 ey15 => ?_)
      replace h := kl_of ey15 h
      refine lv_lstore_n (lv' := [(1, .long y15), (0, .ref (aT 0)), (3, .int s8.2)]) X.1 X.2.1 dX5_twiceArea_29 rfl hl (by decide) rfl (fun ls hl => ?_)
      obtain ⟨y16, ey16⟩ : ∃ y : Int32, y = (s8.2 + (1 : Int32)) := ⟨_, rfl⟩
      replace h := kl_of ey16 h
      refine lv_iinc (v := y16) (lv' := [(3, .int y16), (1, .long y15), (0, .ref (aT 0))]) X.1 X.2.1 dX5_twiceArea_30 hl (k := 2) rfl (by rw [ey16]; rfl) (by decide) rfl (fun ls hl => ?_)
      refine lv_goto (tgt := 4) X.1 X.2.1 dX5_twiceArea_33 (by decide) ?_
      obtain rfl := Option.some.inj h
      exact hG11 _ _ _ V (lv_sub hl [2, 1, 0] rfl)
  · intro H locs ls V hl
    have V : kW D AA s.heap H (List.flatten [gX5 g aT zT]) locs := V
    have hl : lv_has ls 4 [(0, .ref (aT 0)), (1, .long x7.2.1), (3, .int x7.2.2)] := hl
    obtain ⟨hc, h⟩ := kg_of h
    refine W.eq (g2 := F0 m 36 ls []) (by rw [hc]) ?_
    refine lv_lload_n X.1 X.2.1 dX5_twiceArea_36 rfl (lv_at hl 1 rfl) ?_
    obtain rfl := Option.some.inj h
    rw [hAA] at V
    rw [hQQ]
    exact k_lret X V rfl dX5_twiceArea_37

def p_X5_height_L5 (zT : tX5) (v1 : Int32) (s : Int64 × Int32) : Option (Nat × (Int64 × Int32)) :=
  kif (zT.2.2.2 ≤ s.2) (some (44, (s.1, s.2))) (kg (kii s.2 82) (kg (kii s.2 82) (kb (p_X5_turn zT v1 (zT.1 s.2.toNatClampNeg) (zT.2.1 s.2.toNatClampNeg)) (fun x1 => kb (p_J9_max_f86c9 s.1 x1) (fun x2 => kl (s.2 + (1 : Int32)) (fun y3 => some (5, (x2, y3))))))))
def p_X5_height (zT : tX5) (v1 : Int32) : Option (Int64) :=
  kb (kitr 5 (fun q => p_X5_height_L5 zT v1 q) kF ((0 : Int64), (0 : Int32))) (fun x4 => kg (x4.1 = 44) (some x4.2.1))
set_option maxHeartbeats 4000000 in
set_option maxRecDepth 100000 in
theorem c_X5_height (l : Launch) (D : va_G) (g : kG) (aT : Nat → Nat) (zT : tX5) (v1 : Int32) (r : Int64) (h : p_X5_height zT v1 = some r) : kMl l yX5_height cX5_height 5 (some .long) (kR 3 65) D (kty g) [.ref (aT 0), .int v1] (List.flatten [gX5 g aT zT]) r (List.flatten [gX5 g aT zT]) := by
  intro sz
  refine k_enter (lv := [(0, .ref (aT 0)), (1, .int v1)]) RX5 (by decide +kernel) rfl rfl (Nat.le_of_ble_eq_true rfl) ?_
  intro p en s m args below meth c ls hsz X V hl
  obtain ⟨QQ, hQQ⟩ : ∃ q, q = MQ below (va_Ql (fun r' (_ : Unit) => r' = r) (fun _ => kE D (List.flatten [gX5 g aT zT])) (va_A (List.flatten [gX5 g aT zT]) sz)) args s 0 0 (va_A (List.flatten [gX5 g aT zT]) sz) := ⟨_, rfl⟩
  rw [← hQQ]
  obtain ⟨AA, hAA⟩ : ∃ q, q = va_A (List.flatten [gX5 g aT zT]) sz := ⟨_, rfl⟩
  rw [← hAA] at V
  unfold p_X5_height at h
  refine lv_lconst (v := (0 : Int64)) X.1 X.2.1 dX5_height_0 (by decide) ?_
  refine lv_lstore_n (lv' := [(2, .long (0 : Int64)), (0, .ref (aT 0)), (1, .int v1)]) X.1 X.2.1 dX5_height_1 rfl hl (by decide) rfl (fun ls hl => ?_)
  refine lv_iconst (v := (0 : Int32)) X.1 X.2.1 dX5_height_2 (by decide) ?_
  refine lv_istore (lv' := [(4, .int (0 : Int32)), (2, .long (0 : Int64)), (0, .ref (aT 0)), (1, .int v1)]) X.1 X.2.1 dX5_height_3 hl (by decide) rfl (fun ls hl => ?_)
  obtain ⟨x5, hx5, h⟩ := kb_of h
  refine (kitr_go (hd := 5) (body := fun q => p_X5_height_L5 zT v1 q) (G := (fun e => ∀ (H : Heap) (locs : List Loc) (ls : Array Slot), kW D AA s.heap H (List.flatten [gX5 g aT zT]) locs → lv_has ls 5 [(0, .ref (aT 0)), (1, .int v1), (2, .long e.2.1), (4, .int e.2.2)] → W p l en (kR 3 65) s m args below meth c H locs 0 0 QQ (F0 m e.1 ls []))) (fun s6 e7 hb8 hG9 => ?_) kF _ x5 hx5 ?_) _ _ _ V (lv_sub hl [2, 3, 1, 0] rfl)
  · intro H locs ls V hl
    show W p l en (kR 3 65) s m args below meth c H locs 0 0 QQ (F0 m 5 ls [])
    have h : p_X5_height_L5 zT v1 s6 = some e7 := hb8
    unfold p_X5_height_L5 at h
    have V : kW D AA s.heap H (List.flatten [gX5 g aT zT]) locs := V
    have hl : lv_has ls 5 [(0, .ref (aT 0)), (1, .int v1), (2, .long s6.1), (4, .int s6.2)] := hl
    refine lv_iload X.1 X.2.1 dX5_height_5 (lv_at hl 3 rfl) ?_
    refine lv_aload_n X.1 X.2.1 dX5_height_7 rfl (lv_at hl 0 rfl) ?_
    refine gf_X5_23 (i := 0) X V rfl dX5_height_8 ?_
    refine lv_icmp_ge (tgt := 44) X.1 X.2.1 dX5_height_11 (by decide) (fun hc => ?_) (fun hc => ?_)
    · replace h := kif_t hc h
      obtain rfl := Option.some.inj h
      exact hG9 _ _ _ V (lv_sub hl [0, 1, 2, 3] rfl)
    · replace h := kif_f hc h
      refine lv_lload_n X.1 X.2.1 dX5_height_14 rfl (lv_at hl 2 rfl) ?_
      refine lv_aload_n X.1 X.2.1 dX5_height_15 rfl (lv_at hl 0 rfl) ?_
      refine lv_iload_n X.1 X.2.1 dX5_height_16 rfl (lv_at hl 1 rfl) ?_
      refine lv_aload_n X.1 X.2.1 dX5_height_17 rfl (lv_at hl 0 rfl) ?_
      refine gf_X5_13 (i := 0) X V rfl dX5_height_18 ?_
      refine lv_iload X.1 X.2.1 dX5_height_21 (lv_at hl 3 rfl) ?_
      obtain ⟨hc, h⟩ := kg_of h
      refine al_X5_0 (i := 0) X V rfl hc dX5_height_23 ?_
      refine lv_aload_n X.1 X.2.1 dX5_height_24 rfl (lv_at hl 0 rfl) ?_
      refine gf_X5_17 (i := 0) X V rfl dX5_height_25 ?_
      refine lv_iload X.1 X.2.1 dX5_height_28 (lv_at hl 3 rfl) ?_
      obtain ⟨hc, h⟩ := kg_of h
      refine al_X5_1 (i := 0) X V rfl hc dX5_height_30 ?_
      obtain ⟨x10, hx10, h⟩ := kb_of h
      refine s_callVl (segs' := [gX5 g aT zT]) (ci := 5) (i0 := 0) X V (c_X5_turn l D g aT zT v1 (zT.1 s6.2.toNatClampNeg) (zT.2.1 s6.2.toNatClampNeg) x10 hx10) w_X5_53 ⟨Nat.le_of_ble_eq_true rfl, Nat.le_of_ble_eq_true rfl⟩ ⟨Nat.zero_le _, Nat.zero_le _⟩ rfl rfl rfl rfl [0] rfl rfl (kFst_refl _) rfl rfl hl.1 (Nat.le_of_ble_eq_true rfl) dX5_height_31 (fun H locs V => ?_)
      obtain ⟨x11, hx11, h⟩ := kb_of h
      refine s_callSl (segs' := [gX5 g aT zT]) X V (c_J9_max_f86c9 l D g s6.1 x10 x11 hx11) w_X5_60 ⟨Nat.le_of_ble_eq_true rfl, Nat.le_of_ble_eq_true rfl⟩ ⟨Nat.zero_le _, Nat.zero_le _⟩ rfl [] rfl rfl (kFst_refl _) rfl rfl hl.1 (Nat.le_of_ble_eq_true rfl) dX5_height_34 (fun H locs V => ?_)
      refine lv_lstore_n (lv' := [(2, .long x11), (0, .ref (aT 0)), (1, .int v1), (4, .int s6.2)]) X.1 X.2.1 dX5_height_37 rfl hl (by decide) rfl (fun ls hl => ?_)
      obtain ⟨y12, ey12⟩ : ∃ y : Int32, y = (s6.2 + (1 : Int32)) := ⟨_, rfl⟩
      replace h := kl_of ey12 h
      refine lv_iinc (v := y12) (lv' := [(4, .int y12), (2, .long x11), (0, .ref (aT 0)), (1, .int v1)]) X.1 X.2.1 dX5_height_38 hl (k := 3) rfl (by rw [ey12]; rfl) (by decide) rfl (fun ls hl => ?_)
      refine lv_goto (tgt := 5) X.1 X.2.1 dX5_height_41 (by decide) ?_
      obtain rfl := Option.some.inj h
      exact hG9 _ _ _ V (lv_sub hl [2, 3, 1, 0] rfl)
  · intro H locs ls V hl
    have V : kW D AA s.heap H (List.flatten [gX5 g aT zT]) locs := V
    have hl : lv_has ls 5 [(0, .ref (aT 0)), (1, .int v1), (2, .long x5.2.1), (4, .int x5.2.2)] := hl
    obtain ⟨hc, h⟩ := kg_of h
    refine W.eq (g2 := F0 m 44 ls []) (by rw [hc]) ?_
    refine lv_lload_n X.1 X.2.1 dX5_height_44 rfl (lv_at hl 2 rfl) ?_
    obtain rfl := Option.some.inj h
    rw [hAA] at V
    rw [hQQ]
    exact k_lret X V rfl dX5_height_45
