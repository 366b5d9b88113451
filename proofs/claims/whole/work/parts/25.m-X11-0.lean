def p_X11_feed (zT : tX11) (zT_1 : tX9) (v1 : Int32) (v2 : Int32) (v3 : Int32) (v4 : Int32) (v5 : Int32) : Option (Int32 × tX9) :=
  kb (p_X9_hasRoom zT_1 (20 : Int32)) (fun x1 => kif ((kz x1) = 0) (some ((-1 : Int32), zT_1)) (kb (p_X9_take zT_1 v1) (fun x2 => kb (p_X9_take x2 v2) (fun x3 => kb (p_X9_take x3 v3) (fun x4 => kb (p_X9_take x4 v4) (fun x5 => kb (p_X9_take x5 v5) (fun x6 => kb (p_X9_length x6) (fun x7 => some (x7, x6)))))))))
set_option maxHeartbeats 4000000 in
set_option maxRecDepth 100000 in
theorem c_X11_feed (l : Launch) (D : va_G) (g : kG) (aT : Nat → Nat) (bT : Nat → Nat → Nat) (zT : tX11) (zT_1 : tX9) (v1 : Int32) (v2 : Int32) (v3 : Int32) (v4 : Int32) (v5 : Int32) (r : Int32 × tX9) (h : p_X11_feed zT zT_1 v1 v2 v3 v4 v5 = some r) : kMi l yX11_feed cX11_feed 6 (some .int) (kR 2 43) D (kty g) [.ref (aT 0), .int v1, .int v2, .int v3, .int v4, .int v5] (List.flatten [gX11 g aT bT zT, gX9 g (bT 1) zT_1]) r.1 (List.flatten [gX11 g aT bT zT, gX9 g (bT 1) r.2]) := by
  intro sz
  refine k_enter (lv := [(0, .ref (aT 0)), (1, .int v1), (2, .int v2), (3, .int v3), (4, .int v4), (5, .int v5)]) RX11 (by decide +kernel) rfl rfl (Nat.le_of_ble_eq_true rfl) ?_
  intro p en s m args below meth c ls hsz X V hl
  obtain ⟨QQ, hQQ⟩ : ∃ q, q = MQ below (va_Qi (fun r' (_ : Unit) => r' = r.1) (fun _ => kE D (List.flatten [gX11 g aT bT zT, gX9 g (bT 1) r.2])) (va_A (List.flatten [gX11 g aT bT zT, gX9 g (bT 1) zT_1]) sz)) args s 0 0 (va_A (List.flatten [gX11 g aT bT zT, gX9 g (bT 1) zT_1]) sz) := ⟨_, rfl⟩
  rw [← hQQ]
  obtain ⟨AA, hAA⟩ : ∃ q, q = va_A (List.flatten [gX11 g aT bT zT, gX9 g (bT 1) zT_1]) sz := ⟨_, rfl⟩
  rw [← hAA] at V
  unfold p_X11_feed at h
  refine lv_aload_n X.1 X.2.1 dX11_feed_0 rfl (lv_at hl 0 rfl) ?_
  refine gf_X11_19 (i := 0) X V rfl dX11_feed_1 ?_
  refine lv_bipush (v := (20 : Int32)) X.1 X.2.1 dX11_feed_4 (by decide) ?_
  obtain ⟨x8, hx8, h⟩ := kb_of h
  refine s_callVi (segs' := [gX11 g aT bT zT, gX9 g (bT 1) zT_1]) (ci := 9) (i0 := 0) X V (c_X9_hasRoom l D g (bT 1) zT_1 (20 : Int32) x8 hx8) w_X11_102 ⟨Nat.le_of_ble_eq_true rfl, Nat.le_of_ble_eq_true rfl⟩ ⟨Nat.zero_le _, Nat.zero_le _⟩ rfl rfl rfl rfl [1] rfl rfl (kFst_refl _) rfl rfl hl.1 (Nat.le_of_ble_eq_true rfl) dX11_feed_6 (fun H locs V => ?_)
  refine lv_if_ne (tgt := 14) X.1 X.2.1 dX11_feed_9 (by decide) (fun hc => ?_) (fun hc => ?_)
  · replace h := kif_f hc h
    refine lv_aload_n X.1 X.2.1 dX11_feed_14 rfl (lv_at hl 0 rfl) ?_
    refine gf_X11_19 (i := 0) X V rfl dX11_feed_15 ?_
    refine lv_iload_n X.1 X.2.1 dX11_feed_18 rfl (lv_at hl 1 rfl) ?_
    obtain ⟨x9, hx9, h⟩ := kb_of h
    refine s_callVv (segs' := [gX11 g aT bT zT, gX9 g (bT 1) x9]) (ci := 9) (i0 := 0) X V (c_X9_take l D g (bT 1) zT_1 v1 x9 hx9) w_X11_106 ⟨Nat.le_of_ble_eq_true rfl, Nat.le_of_ble_eq_true rfl⟩ ⟨Nat.zero_le _, Nat.zero_le _⟩ rfl rfl rfl rfl [1] rfl rfl ⟨gX9_fst, trivial⟩ rfl rfl hl.1 (Nat.le_of_ble_eq_true rfl) dX11_feed_19 (fun H locs V => ?_)
    refine lv_aload_n X.1 X.2.1 dX11_feed_22 rfl (lv_at hl 0 rfl) ?_
    refine gf_X11_19 (i := 0) X V rfl dX11_feed_23 ?_
    refine lv_iload_n X.1 X.2.1 dX11_feed_26 rfl (lv_at hl 2 rfl) ?_
    obtain ⟨x10, hx10, h⟩ := kb_of h
    refine s_callVv (segs' := [gX11 g aT bT zT, gX9 g (bT 1) x10]) (ci := 9) (i0 := 0) X V (c_X9_take l D g (bT 1) x9 v2 x10 hx10) w_X11_106 ⟨Nat.le_of_ble_eq_true rfl, Nat.le_of_ble_eq_true rfl⟩ ⟨Nat.zero_le _, Nat.zero_le _⟩ rfl rfl rfl rfl [1] rfl rfl ⟨gX9_fst, trivial⟩ rfl rfl hl.1 (Nat.le_of_ble_eq_true rfl) dX11_feed_27 (fun H locs V => ?_)
    refine lv_aload_n X.1 X.2.1 dX11_feed_30 rfl (lv_at hl 0 rfl) ?_
    refine gf_X11_19 (i := 0) X V rfl dX11_feed_31 ?_
    refine lv_iload_n X.1 X.2.1 dX11_feed_34 rfl (lv_at hl 3 rfl) ?_
    obtain ⟨x11, hx11, h⟩ := kb_of h
    refine s_callVv (segs' := [gX11 g aT bT zT, gX9 g (bT 1) x11]) (ci := 9) (i0 := 0) X V (c_X9_take l D g (bT 1) x10 v3 x11 hx11) w_X11_106 ⟨Nat.le_of_ble_eq_true rfl, Nat.le_of_ble_eq_true rfl⟩ ⟨Nat.zero_le _, Nat.zero_le _⟩ rfl rfl rfl rfl [1] rfl rfl ⟨gX9_fst, trivial⟩ rfl rfl hl.1 (Nat.le_of_ble_eq_true rfl) dX11_feed_35 (fun H locs V => ?_)
    refine lv_aload_n X.1 X.2.1 dX11_feed_38 rfl (lv_at hl 0 rfl) ?_
    refine gf_X11_19 (i := 0) X V rfl dX11_feed_39 ?_
    refine lv_iload X.1 X.2.1 dX11_feed_42 (lv_at hl 4 rfl) ?_
    obtain ⟨x12, hx12, h⟩ := kb_of h
    refine s_callVv (segs' := [gX11 g aT bT zT, gX9 g (bT 1) x12]) (ci := 9) (i0 := 0) X V (c_X9_take l D g (bT 1) x11 v4 x12 hx12) w_X11_106 ⟨Nat.le_of_ble_eq_true rfl, Nat.le_of_ble_eq_true rfl⟩ ⟨Nat.zero_le _, Nat.zero_le _⟩ rfl rfl rfl rfl [1] rfl rfl ⟨gX9_fst, trivial⟩ rfl rfl hl.1 (Nat.le_of_ble_eq_true rfl) dX11_feed_44 (fun H locs V => ?_)
    refine lv_aload_n X.1 X.2.1 dX11_feed_47 rfl (lv_at hl 0 rfl) ?_
    refine gf_X11_19 (i := 0) X V rfl dX11_feed_48 ?_
    refine lv_iload X.1 X.2.1 dX11_feed_51 (lv_at hl 5 rfl) ?_
    obtain ⟨x13, hx13, h⟩ := kb_of h
    refine s_callVv (segs' := [gX11 g aT bT zT, gX9 g (bT 1) x13]) (ci := 9) (i0 := 0) X V (c_X9_take l D g (bT 1) x12 v5 x13 hx13) w_X11_106 ⟨Nat.le_of_ble_eq_true rfl, Nat.le_of_ble_eq_true rfl⟩ ⟨Nat.zero_le _, Nat.zero_le _⟩ rfl rfl rfl rfl [1] rfl rfl ⟨gX9_fst, trivial⟩ rfl rfl hl.1 (Nat.le_of_ble_eq_true rfl) dX11_feed_53 (fun H locs V => ?_)
    refine lv_aload_n X.1 X.2.1 dX11_feed_56 rfl (lv_at hl 0 rfl) ?_
    refine gf_X11_19 (i := 0) X V rfl dX11_feed_57 ?_
    obtain ⟨x14, hx14, h⟩ := kb_of h
    refine s_callVi (segs' := [gX11 g aT bT zT, gX9 g (bT 1) x13]) (ci := 9) (i0 := 0) X V (c_X9_length l D g (bT 1) x13 x14 hx14) w_X11_110 ⟨Nat.le_of_ble_eq_true rfl, Nat.le_of_ble_eq_true rfl⟩ ⟨Nat.zero_le _, Nat.zero_le _⟩ rfl rfl rfl rfl [1] rfl rfl (kFst_refl _) rfl rfl hl.1 (Nat.le_of_ble_eq_true rfl) dX11_feed_60 (fun H locs V => ?_)
    obtain rfl := Option.some.inj h
    rw [hAA] at V
    rw [hQQ]
    exact k_iret X V rfl dX11_feed_63
  · replace h := kif_t hc h
    refine lv_iconst (v := (-1 : Int32)) X.1 X.2.1 dX11_feed_12 (by decide) ?_
    obtain rfl := Option.some.inj h
    rw [hAA] at V
    rw [hQQ]
    exact k_iret X V rfl dX11_feed_13

def p_X11_end (zT : tX11) (zT_1 : tX9) (v1 : Int32) : Option (Int32 × tX9) :=
  kb (p_X9_cut zT_1 v1) (fun x1 => kif ((kz x1.1) = 0) (some ((-1 : Int32), x1.2)) (some (v1, x1.2)))
set_option maxHeartbeats 4000000 in
set_option maxRecDepth 100000 in
theorem c_X11_end (l : Launch) (D : va_G) (g : kG) (aT : Nat → Nat) (bT : Nat → Nat → Nat) (zT : tX11) (zT_1 : tX9) (v1 : Int32) (r : Int32 × tX9) (h : p_X11_end zT zT_1 v1 = some r) : kMi l yX11_end cX11_end 2 (some .int) (kR 1 21) D (kty g) [.ref (aT 0), .int v1] (List.flatten [gX11 g aT bT zT, gX9 g (bT 1) zT_1]) r.1 (List.flatten [gX11 g aT bT zT, gX9 g (bT 1) r.2]) := by
  intro sz
  refine k_enter (lv := [(0, .ref (aT 0)), (1, .int v1)]) RX11 (by decide +kernel) rfl rfl (Nat.le_of_ble_eq_true rfl) ?_
  intro p en s m args below meth c ls hsz X V hl
  obtain ⟨QQ, hQQ⟩ : ∃ q, q = MQ below (va_Qi (fun r' (_ : Unit) => r' = r.1) (fun _ => kE D (List.flatten [gX11 g aT bT zT, gX9 g (bT 1) r.2])) (va_A (List.flatten [gX11 g aT bT zT, gX9 g (bT 1) zT_1]) sz)) args s 0 0 (va_A (List.flatten [gX11 g aT bT zT, gX9 g (bT 1) zT_1]) sz) := ⟨_, rfl⟩
  rw [← hQQ]
  obtain ⟨AA, hAA⟩ : ∃ q, q = va_A (List.flatten [gX11 g aT bT zT, gX9 g (bT 1) zT_1]) sz := ⟨_, rfl⟩
  rw [← hAA] at V
  unfold p_X11_end at h
  refine lv_aload_n X.1 X.2.1 dX11_end_0 rfl (lv_at hl 0 rfl) ?_
  refine gf_X11_19 (i := 0) X V rfl dX11_end_1 ?_
  refine lv_iload_n X.1 X.2.1 dX11_end_4 rfl (lv_at hl 1 rfl) ?_
  obtain ⟨x2, hx2, h⟩ := kb_of h
  refine s_callVi (segs' := [gX11 g aT bT zT, gX9 g (bT 1) x2.2]) (ci := 9) (i0 := 0) X V (c_X9_cut l D g (bT 1) zT_1 v1 x2 hx2) w_X11_114 ⟨Nat.le_of_ble_eq_true rfl, Nat.le_of_ble_eq_true rfl⟩ ⟨Nat.zero_le _, Nat.zero_le _⟩ rfl rfl rfl rfl [1] rfl rfl ⟨gX9_fst, trivial⟩ rfl rfl hl.1 (Nat.le_of_ble_eq_true rfl) dX11_end_5 (fun H locs V => ?_)
  refine lv_if_eq (tgt := 15) X.1 X.2.1 dX11_end_8 (by decide) (fun hc => ?_) (fun hc => ?_)
  · replace h := kif_t hc h
    refine lv_iconst (v := (-1 : Int32)) X.1 X.2.1 dX11_end_15 (by decide) ?_
    obtain rfl := Option.some.inj h
    rw [hAA] at V
    rw [hQQ]
    exact k_iret X V rfl dX11_end_16
  · replace h := kif_f hc h
    refine lv_iload_n X.1 X.2.1 dX11_end_11 rfl (lv_at hl 1 rfl) ?_
    refine lv_goto (tgt := 16) X.1 X.2.1 dX11_end_12 (by decide) ?_
    obtain rfl := Option.some.inj h
    rw [hAA] at V
    rw [hQQ]
    exact k_iret X V rfl dX11_end_16

def p_X11_text (zT : tX11) (zT_0 : tX4) (zT_1 : tX9) : Option (Int32 × tX4 × tX9) :=
  kb (p_X9_read zT_1 zT_0) (fun x1 => some (x1.1, x1.2.2, x1.2.1))
set_option maxHeartbeats 4000000 in
set_option maxRecDepth 100000 in
theorem c_X11_text (l : Launch) (D : va_G) (g : kG) (aT : Nat → Nat) (bT : Nat → Nat → Nat) (zT : tX11) (zT_0 : tX4) (zT_1 : tX9) (r : Int32 × tX4 × tX9) (h : p_X11_text zT zT_0 zT_1 = some r) : kMi l yX11_text cX11_text 1 (some .int) (kR 6 135) D (kty g) [.ref (aT 0)] (List.flatten [gX11 g aT bT zT, gX4 g (bT 0) zT_0, gX9 g (bT 1) zT_1]) r.1 (List.flatten [gX11 g aT bT zT, gX4 g (bT 0) r.2.1, gX9 g (bT 1) r.2.2]) := by
  intro sz
  refine k_enter (lv := [(0, .ref (aT 0))]) RX11 (by decide +kernel) rfl rfl (Nat.le_of_ble_eq_true rfl) ?_
  intro p en s m args below meth c ls hsz X V hl
  obtain ⟨QQ, hQQ⟩ : ∃ q, q = MQ below (va_Qi (fun r' (_ : Unit) => r' = r.1) (fun _ => kE D (List.flatten [gX11 g aT bT zT, gX4 g (bT 0) r.2.1, gX9 g (bT 1) r.2.2])) (va_A (List.flatten [gX11 g aT bT zT, gX4 g (bT 0) zT_0, gX9 g (bT 1) zT_1]) sz)) args s 0 0 (va_A (List.flatten [gX11 g aT bT zT, gX4 g (bT 0) zT_0, gX9 g (bT 1) zT_1]) sz) := ⟨_, rfl⟩
  rw [← hQQ]
  obtain ⟨AA, hAA⟩ : ∃ q, q = va_A (List.flatten [gX11 g aT bT zT, gX4 g (bT 0) zT_0, gX9 g (bT 1) zT_1]) sz := ⟨_, rfl⟩
  rw [← hAA] at V
  unfold p_X11_text at h
  refine lv_aload_n X.1 X.2.1 dX11_text_0 rfl (lv_at hl 0 rfl) ?_
  refine gf_X11_19 (i := 0) X V rfl dX11_text_1 ?_
  refine lv_aload_n X.1 X.2.1 dX11_text_4 rfl (lv_at hl 0 rfl) ?_
  refine gf_X11_10 (i := 0) X V rfl dX11_text_5 ?_
  obtain ⟨x2, hx2, h⟩ := kb_of h
  refine s_callVi (segs' := [gX11 g aT bT zT, gX4 g (bT 0) x2.2.2, gX9 g (bT 1) x2.2.1]) (ci := 9) (i0 := 0) X V (c_X9_read l D g (bT 1) (bT 0) zT_1 zT_0 x2 hx2) w_X11_117 ⟨Nat.le_of_ble_eq_true rfl, Nat.le_of_ble_eq_true rfl⟩ ⟨Nat.zero_le _, Nat.zero_le _⟩ rfl rfl rfl rfl [2, 1] rfl rfl ⟨gX9_fst, gX4_fst, trivial⟩ rfl rfl hl.1 (Nat.le_of_ble_eq_true rfl) dX11_text_8 (fun H locs V => ?_)
  obtain rfl := Option.some.inj h
  rw [hAA] at V
  rw [hQQ]
  exact k_iret X V rfl dX11_text_11

def p_X11_fault (zT : tX11) (zT_1 : tX9) : Option (Int32) :=
  kb (p_X9_faultPlace zT_1) (fun x1 => some x1)
set_option maxHeartbeats 4000000 in
set_option maxRecDepth 100000 in
theorem c_X11_fault (l : Launch) (D : va_G) (g : kG) (aT : Nat → Nat) (bT : Nat → Nat → Nat) (zT : tX11) (zT_1 : tX9) (r : Int32) (h : p_X11_fault zT zT_1 = some r) : kMi l yX11_fault cX11_fault 1 (some .int) (kR 1 20) D (kty g) [.ref (aT 0)] (List.flatten [gX11 g aT bT zT, gX9 g (bT 1) zT_1]) r (List.flatten [gX11 g aT bT zT, gX9 g (bT 1) zT_1]) := by
  intro sz
  refine k_enter (lv := [(0, .ref (aT 0))]) RX11 (by decide +kernel) rfl rfl (Nat.le_of_ble_eq_true rfl) ?_
  intro p en s m args below meth c ls hsz X V hl
  obtain ⟨QQ, hQQ⟩ : ∃ q, q = MQ below (va_Qi (fun r' (_ : Unit) => r' = r) (fun _ => kE D (List.flatten [gX11 g aT bT zT, gX9 g (bT 1) zT_1])) (va_A (List.flatten [gX11 g aT bT zT, gX9 g (bT 1) zT_1]) sz)) args s 0 0 (va_A (List.flatten [gX11 g aT bT zT, gX9 g (bT 1) zT_1]) sz) := ⟨_, rfl⟩
  rw [← hQQ]
  obtain ⟨AA, hAA⟩ : ∃ q, q = va_A (List.flatten [gX11 g aT bT zT, gX9 g (bT 1) zT_1]) sz := ⟨_, rfl⟩
  rw [← hAA] at V
  unfold p_X11_fault at h
  refine lv_aload_n X.1 X.2.1 dX11_fault_0 rfl (lv_at hl 0 rfl) ?_
  refine gf_X11_19 (i := 0) X V rfl dX11_fault_1 ?_
  obtain ⟨x2, hx2, h⟩ := kb_of h
  refine s_callVi (segs' := [gX11 g aT bT zT, gX9 g (bT 1) zT_1]) (ci := 9) (i0 := 0) X V (c_X9_faultPlace l D g (bT 1) zT_1 x2 hx2) w_X11_121 ⟨Nat.le_of_ble_eq_true rfl, Nat.le_of_ble_eq_true rfl⟩ ⟨Nat.zero_le _, Nat.zero_le _⟩ rfl rfl rfl rfl [1] rfl rfl (kFst_refl _) rfl rfl hl.1 (Nat.le_of_ble_eq_true rfl) dX11_fault_4 (fun H locs V => ?_)
  obtain rfl := Option.some.inj h
  rw [hAA] at V
  rw [hQQ]
  exact k_iret X V rfl dX11_fault_7

def p_X11_put (zT : tX11) (zT_0 : tX4) (v1 : Int32) (v2 : Int32) (v3 : Int32) : Option (Int32 × tX4) :=
  kb (p_X4_free zT_0) (fun x1 => kif (x1 = (-1 : Int32)) (some ((-1 : Int32), zT_0)) (kb (p_X11_isNear v1 v2 (100 : Int32)) (fun x2 => kif ((kz x2) = 0) (some ((-1 : Int32), zT_0)) (kb (p_X11_isHeap v3) (fun x3 => kif ((kz x3) = 0) (some ((-1 : Int32), zT_0)) (kb (p_X4_mark zT_0) (fun x4 => kb (p_X4_place x4 x1 v1 v2 v3) (fun x5 => kb (p_X4_keep x5) (fun x6 => some (x1, x6))))))))))
set_option maxHeartbeats 4000000 in
set_option maxRecDepth 100000 in
theorem c_X11_put (l : Launch) (D : va_G) (g : kG) (aT : Nat → Nat) (bT : Nat → Nat → Nat) (zT : tX11) (zT_0 : tX4) (v1 : Int32) (v2 : Int32) (v3 : Int32) (r : Int32 × tX4) (h : p_X11_put zT zT_0 v1 v2 v3 = some r) : kMi l yX11_put cX11_put 5 (some .int) (kR 2 80) D (kty g) [.ref (aT 0), .int v1, .int v2, .int v3] (List.flatten [gX11 g aT bT zT, gX4 g (bT 0) zT_0]) r.1 (List.flatten [gX11 g aT bT zT, gX4 g (bT 0) r.2]) := by
  intro sz
  refine k_enter (lv := [(0, .ref (aT 0)), (1, .int v1), (2, .int v2), (3, .int v3)]) RX11 (by decide +kernel) rfl rfl (Nat.le_of_ble_eq_true rfl) ?_
  intro p en s m args below meth c ls hsz X V hl
  obtain ⟨QQ, hQQ⟩ : ∃ q, q = MQ below (va_Qi (fun r' (_ : Unit) => r' = r.1) (fun _ => kE D (List.flatten [gX11 g aT bT zT, gX4 g (bT 0) r.2])) (va_A (List.flatten [gX11 g aT bT zT, gX4 g (bT 0) zT_0]) sz)) args s 0 0 (va_A (List.flatten [gX11 g aT bT zT, gX4 g (bT 0) zT_0]) sz) := ⟨_, rfl⟩
  rw [← hQQ]
  obtain ⟨AA, hAA⟩ : ∃ q, q = va_A (List.flatten [gX11 g aT bT zT, gX4 g (bT 0) zT_0]) sz := ⟨_, rfl⟩
  rw [← hAA] at V
  unfold p_X11_put at h
  refine lv_aload_n X.1 X.2.1 dX11_put_0 rfl (lv_at hl 0 rfl) ?_
  refine gf_X11_10 (i := 0) X V rfl dX11_put_1 ?_
  obtain ⟨x7, hx7, h⟩ := kb_of h
  refine s_callVi (segs' := [gX11 g aT bT zT, gX4 g (bT 0) zT_0]) (ci := 4) (i0 := 0) X V (c_X4_free l D g (bT 0) zT_0 x7 hx7) w_X11_124 ⟨Nat.le_of_ble_eq_true rfl, Nat.le_of_ble_eq_true rfl⟩ ⟨Nat.zero_le _, Nat.zero_le _⟩ rfl rfl rfl rfl [1] rfl rfl (kFst_refl _) rfl rfl hl.1 (Nat.le_of_ble_eq_true rfl) dX11_put_4 (fun H locs V => ?_)
  refine lv_istore (lv' := [(4, .int x7), (0, .ref (aT 0)), (1, .int v1), (2, .int v2), (3, .int v3)]) X.1 X.2.1 dX11_put_7 hl (by decide) rfl (fun ls hl => ?_)
  refine lv_iload X.1 X.2.1 dX11_put_9 (lv_at hl 0 rfl) ?_
  refine lv_iconst (v := (-1 : Int32)) X.1 X.2.1 dX11_put_11 (by decide) ?_
  refine lv_icmp_eq (tgt := 32) X.1 X.2.1 dX11_put_12 (by decide) (fun hc => ?_) (fun hc => ?_)
  · replace h := kif_t hc h
    refine lv_iconst (v := (-1 : Int32)) X.1 X.2.1 dX11_put_32 (by decide) ?_
    obtain rfl := Option.some.inj h
    rw [hAA] at V
    rw [hQQ]
    exact k_iret X V rfl dX11_put_33
  · replace h := kif_f hc h
    refine lv_iload_n X.1 X.2.1 dX11_put_15 rfl (lv_at hl 2 rfl) ?_
    refine lv_iload_n X.1 X.2.1 dX11_put_16 rfl (lv_at hl 3 rfl) ?_
    refine lv_bipush (v := (100 : Int32)) X.1 X.2.1 dX11_put_17 (by decide) ?_
    obtain ⟨x8, hx8, h⟩ := kb_of h
    refine s_callSi (segs' := [gX11 g aT bT zT, gX4 g (bT 0) zT_0]) X V (c_X11_isNear l D g v1 v2 (100 : Int32) x8 hx8) w_X11_127 ⟨Nat.le_of_ble_eq_true rfl, Nat.le_of_ble_eq_true rfl⟩ ⟨Nat.zero_le _, Nat.zero_le _⟩ rfl [] rfl rfl (kFst_refl _) rfl rfl hl.1 (Nat.le_of_ble_eq_true rfl) dX11_put_19 (fun H locs V => ?_)
    refine lv_if_eq (tgt := 32) X.1 X.2.1 dX11_put_22 (by decide) (fun hc => ?_) (fun hc => ?_)
    · replace h := kif_t hc h
      refine lv_iconst (v := (-1 : Int32)) X.1 X.2.1 dX11_put_32 (by decide) ?_
      obtain rfl := Option.some.inj h
      rw [hAA] at V
      rw [hQQ]
      exact k_iret X V rfl dX11_put_33
    · replace h := kif_f hc h
      refine lv_iload_n X.1 X.2.1 dX11_put_25 rfl (lv_at hl 4 rfl) ?_
      obtain ⟨x9, hx9, h⟩ := kb_of h
      refine s_callSi (segs' := [gX11 g aT bT zT, gX4 g (bT 0) zT_0]) X V (c_X11_isHeap l D g v3 x9 hx9) w_X11_131 ⟨Nat.le_of_ble_eq_true rfl, Nat.le_of_ble_eq_true rfl⟩ ⟨Nat.zero_le _, Nat.zero_le _⟩ rfl [] rfl rfl (kFst_refl _) rfl rfl hl.1 (Nat.le_of_ble_eq_true rfl) dX11_put_26 (fun H locs V => ?_)
      refine lv_if_ne (tgt := 34) X.1 X.2.1 dX11_put_29 (by decide) (fun hc => ?_) (fun hc => ?_)
      · replace h := kif_f hc h
        refine lv_aload_n X.1 X.2.1 dX11_put_34 rfl (lv_at hl 1 rfl) ?_
        refine gf_X11_10 (i := 0) X V rfl dX11_put_35 ?_
        obtain ⟨x10, hx10, h⟩ := kb_of h
        refine s_callVv (segs' := [gX11 g aT bT zT, gX4 g (bT 0) x10]) (ci := 4) (i0 := 0) X V (c_X4_mark l D g (bT 0) zT_0 x10 hx10) w_X11_134 ⟨Nat.le_of_ble_eq_true rfl, Nat.le_of_ble_eq_true rfl⟩ ⟨Nat.zero_le _, Nat.zero_le _⟩ rfl rfl rfl rfl [1] rfl rfl ⟨gX4_fst, trivial⟩ rfl rfl hl.1 (Nat.le_of_ble_eq_true rfl) dX11_put_38 (fun H locs V => ?_)
        refine lv_aload_n X.1 X.2.1 dX11_put_41 rfl (lv_at hl 1 rfl) ?_
        refine gf_X11_10 (i := 0) X V rfl dX11_put_42 ?_
        refine lv_iload X.1 X.2.1 dX11_put_45 (lv_at hl 0 rfl) ?_
        refine lv_iload_n X.1 X.2.1 dX11_put_47 rfl (lv_at hl 2 rfl) ?_
        refine lv_iload_n X.1 X.2.1 dX11_put_48 rfl (lv_at hl 3 rfl) ?_
        refine lv_iload_n X.1 X.2.1 dX11_put_49 rfl (lv_at hl 4 rfl) ?_
        obtain ⟨x11, hx11, h⟩ := kb_of h
        refine s_callVv (segs' := [gX11 g aT bT zT, gX4 g (bT 0) x11]) (ci := 4) (i0 := 0) X V (c_X4_place l D g (bT 0) x10 x7 v1 v2 v3 x11 hx11) w_X11_137 ⟨Nat.le_of_ble_eq_true rfl, Nat.le_of_ble_eq_true rfl⟩ ⟨Nat.zero_le _, Nat.zero_le _⟩ rfl rfl rfl rfl [1] rfl rfl ⟨gX4_fst, trivial⟩ rfl rfl hl.1 (Nat.le_of_ble_eq_true rfl) dX11_put_50 (fun H locs V => ?_)
        refine lv_aload_n X.1 X.2.1 dX11_put_53 rfl (lv_at hl 1 rfl) ?_
        refine gf_X11_10 (i := 0) X V rfl dX11_put_54 ?_
        obtain ⟨x12, hx12, h⟩ := kb_of h
        refine s_callVv (segs' := [gX11 g aT bT zT, gX4 g (bT 0) x12]) (ci := 4) (i0 := 0) X V (c_X4_keep l D g (bT 0) x11 x12 hx12) w_X11_141 ⟨Nat.le_of_ble_eq_true rfl, Nat.le_of_ble_eq_true rfl⟩ ⟨Nat.zero_le _, Nat.zero_le _⟩ rfl rfl rfl rfl [1] rfl rfl ⟨gX4_fst, trivial⟩ rfl rfl hl.1 (Nat.le_of_ble_eq_true rfl) dX11_put_57 (fun H locs V => ?_)
        refine lv_iload X.1 X.2.1 dX11_put_60 (lv_at hl 0 rfl) ?_
        obtain rfl := Option.some.inj h
        rw [hAA] at V
        rw [hQQ]
        exact k_iret X V rfl dX11_put_62
      · replace h := kif_t hc h
        refine lv_iconst (v := (-1 : Int32)) X.1 X.2.1 dX11_put_32 (by decide) ?_
        obtain rfl := Option.some.inj h
        rw [hAA] at V
        rw [hQQ]
        exact k_iret X V rfl dX11_put_33

def p_X11_gone (zT : tX11) (zT_0 : tX4) (v1 : Int32) : Option (Bool × tX4) :=
  kb (p_X4_has zT_0 v1) (fun x1 => kif ((kz x1) = 0) (some (false, zT_0)) (kb (p_X4_mark zT_0) (fun x2 => kb (p_X4_remove x2 v1) (fun x3 => kb (p_X4_keep x3) (fun x4 => some (true, x4))))))
set_option maxHeartbeats 4000000 in
set_option maxRecDepth 100000 in
theorem c_X11_gone (l : Launch) (D : va_G) (g : kG) (aT : Nat → Nat) (bT : Nat → Nat → Nat) (zT : tX11) (zT_0 : tX4) (v1 : Int32) (r : Bool × tX4) (h : p_X11_gone zT zT_0 v1 = some r) : kMi l yX11_gone cX11_gone 2 (some .boolean) (kR 2 80) D (kty g) [.ref (aT 0), .int v1] (List.flatten [gX11 g aT bT zT, gX4 g (bT 0) zT_0]) (kz r.1) (List.flatten [gX11 g aT bT zT, gX4 g (bT 0) r.2]) := by
  intro sz
  refine k_enter (lv := [(0, .ref (aT 0)), (1, .int v1)]) RX11 (by decide +kernel) rfl rfl (Nat.le_of_ble_eq_true rfl) ?_
  intro p en s m args below meth c ls hsz X V hl
  obtain ⟨QQ, hQQ⟩ : ∃ q, q = MQ below (va_Qi (fun r' (_ : Unit) => r' = kz r.1) (fun _ => kE D (List.flatten [gX11 g aT bT zT, gX4 g (bT 0) r.2])) (va_A (List.flatten [gX11 g aT bT zT, gX4 g (bT 0) zT_0]) sz)) args s 0 0 (va_A (List.flatten [gX11 g aT bT zT, gX4 g (bT 0) zT_0]) sz) := ⟨_, rfl⟩
  rw [← hQQ]
  obtain ⟨AA, hAA⟩ : ∃ q, q = va_A (List.flatten [gX11 g aT bT zT, gX4 g (bT 0) zT_0]) sz := ⟨_, rfl⟩
  rw [← hAA] at V
  unfold p_X11_gone at h
  refine lv_aload_n X.1 X.2.1 dX11_gone_0 rfl (lv_at hl 0 rfl) ?_
  refine gf_X11_10 (i := 0) X V rfl dX11_gone_1 ?_
  refine lv_iload_n X.1 X.2.1 dX11_gone_4 rfl (lv_at hl 1 rfl) ?_
  obtain ⟨x5, hx5, h⟩ := kb_of h
  refine s_callVi (segs' := [gX11 g aT bT zT, gX4 g (bT 0) zT_0]) (ci := 4) (i0 := 0) X V (c_X4_has l D g (bT 0) zT_0 v1 x5 hx5) w_X11_144 ⟨Nat.le_of_ble_eq_true rfl, Nat.le_of_ble_eq_true rfl⟩ ⟨Nat.zero_le _, Nat.zero_le _⟩ rfl rfl rfl rfl [1] rfl rfl (kFst_refl _) rfl rfl hl.1 (Nat.le_of_ble_eq_true rfl) dX11_gone_5 (fun H locs V => ?_)
  refine lv_if_ne (tgt := 13) X.1 X.2.1 dX11_gone_8 (by decide) (fun hc => ?_) (fun hc => ?_)
  · replace h := kif_f hc h
    refine lv_aload_n X.1 X.2.1 dX11_gone_13 rfl (lv_at hl 0 rfl) ?_
    refine gf_X11_10 (i := 0) X V rfl dX11_gone_14 ?_
    obtain ⟨x6, hx6, h⟩ := kb_of h
    refine s_callVv (segs' := [gX11 g aT bT zT, gX4 g (bT 0) x6]) (ci := 4) (i0 := 0) X V (c_X4_mark l D g (bT 0) zT_0 x6 hx6) w_X11_134 ⟨Nat.le_of_ble_eq_true rfl, Nat.le_of_ble_eq_true rfl⟩ ⟨Nat.zero_le _, Nat.zero_le _⟩ rfl rfl rfl rfl [1] rfl rfl ⟨gX4_fst, trivial⟩ rfl rfl hl.1 (Nat.le_of_ble_eq_true rfl) dX11_gone_17 (fun H locs V => ?_)
    refine lv_aload_n X.1 X.2.1 dX11_gone_20 rfl (lv_at hl 0 rfl) ?_
    refine gf_X11_10 (i := 0) X V rfl dX11_gone_21 ?_
    refine lv_iload_n X.1 X.2.1 dX11_gone_24 rfl (lv_at hl 1 rfl) ?_
    obtain ⟨x7, hx7, h⟩ := kb_of h
    refine s_callVv (segs' := [gX11 g aT bT zT, gX4 g (bT 0) x7]) (ci := 4) (i0 := 0) X V (c_X4_remove l D g (bT 0) x6 v1 x7 hx7) w_X11_147 ⟨Nat.le_of_ble_eq_true rfl, Nat.le_of_ble_eq_true rfl⟩ ⟨Nat.zero_le _, Nat.zero_le _⟩ rfl rfl rfl rfl [1] rfl rfl ⟨gX4_fst, trivial⟩ rfl rfl hl.1 (Nat.le_of_ble_eq_true rfl) dX11_gone_25 (fun H locs V => ?_)
    refine lv_aload_n X.1 X.2.1 dX11_gone_28 rfl (lv_at hl 0 rfl) ?_
    refine gf_X11_10 (i := 0) X V rfl dX11_gone_29 ?_
    obtain ⟨x8, hx8, h⟩ := kb_of h
    refine s_callVv (segs' := [gX11 g aT bT zT, gX4 g (bT 0) x8]) (ci := 4) (i0 := 0) X V (c_X4_keep l D g (bT 0) x7 x8 hx8) w_X11_141 ⟨Nat.le_of_ble_eq_true rfl, Nat.le_of_ble_eq_true rfl⟩ ⟨Nat.zero_le _, Nat.zero_le _⟩ rfl rfl rfl rfl [1] rfl rfl ⟨gX4_fst, trivial⟩ rfl rfl hl.1 (Nat.le_of_ble_eq_true rfl) dX11_gone_32 (fun H locs V => ?_)
    refine lv_iconst (v := (1 : Int32)) X.1 X.2.1 dX11_gone_35 (by decide) ?_
    obtain rfl := Option.some.inj h
    rw [hAA] at V
    rw [hQQ]
    exact k_zret X V (b := true) rfl rfl dX11_gone_36
  · replace h := kif_t hc h
    refine lv_iconst (v := (0 : Int32)) X.1 X.2.1 dX11_gone_11 (by decide) ?_
    obtain rfl := Option.some.inj h
    rw [hAA] at V
    rw [hQQ]
    exact k_zret X V (b := false) rfl rfl dX11_gone_12

def p_X11_moved (zT : tX11) (zT_0 : tX4) (v1 : Int32) (v2 : Int32) (v3 : Int32) : Option (Bool × tX4) :=
  kb (p_X4_has zT_0 v1) (fun x1 => kif ((kz x1) = 0) (some (false, zT_0)) (kb (p_X11_isNear v2 v3 (100 : Int32)) (fun x2 => kif ((kz x2) = 0) (some (false, zT_0)) (kb (p_X4_mark zT_0) (fun x3 => kb (p_X4_heapOf x3 v1) (fun x4 => kb (p_X4_place x3 v1 v2 v3 x4) (fun x5 => kb (p_X4_keep x5) (fun x6 => some (true, x6)))))))))
set_option maxHeartbeats 4000000 in
set_option maxRecDepth 100000 in
theorem c_X11_moved (l : Launch) (D : va_G) (g : kG) (aT : Nat → Nat) (bT : Nat → Nat → Nat) (zT : tX11) (zT_0 : tX4) (v1 : Int32) (v2 : Int32) (v3 : Int32) (r : Bool × tX4) (h : p_X11_moved zT zT_0 v1 v2 v3 = some r) : kMi l yX11_moved cX11_moved 4 (some .boolean) (kR 2 80) D (kty g) [.ref (aT 0), .int v1, .int v2, .int v3] (List.flatten [gX11 g aT bT zT, gX4 g (bT 0) zT_0]) (kz r.1) (List.flatten [gX11 g aT bT zT, gX4 g (bT 0) r.2]) := by
  intro sz
  refine k_enter (lv := [(0, .ref (aT 0)), (1, .int v1), (2, .int v2), (3, .int v3)]) RX11 (by decide +kernel) rfl rfl (Nat.le_of_ble_eq_true rfl) ?_
  intro p en s m args below meth c ls hsz X V hl
  obtain ⟨QQ, hQQ⟩ : ∃ q, q = MQ below (va_Qi (fun r' (_ : Unit) => r' = kz r.1) (fun _ => kE D (List.flatten [gX11 g aT bT zT, gX4 g (bT 0) r.2])) (va_A (List.flatten [gX11 g aT bT zT, gX4 g (bT 0) zT_0]) sz)) args s 0 0 (va_A (List.flatten [gX11 g aT bT zT, gX4 g (bT 0) zT_0]) sz) := ⟨_, rfl⟩
  rw [← hQQ]
  obtain ⟨AA, hAA⟩ : ∃ q, q = va_A (List.flatten [gX11 g aT bT zT, gX4 g (bT 0) zT_0]) sz := ⟨_, rfl⟩
  rw [← hAA] at V
  unfold p_X11_moved at h
  refine lv_aload_n X.1 X.2.1 dX11_moved_0 rfl (lv_at hl 0 rfl) ?_
  refine gf_X11_10 (i := 0) X V rfl dX11_moved_1 ?_
  refine lv_iload_n X.1 X.2.1 dX11_moved_4 rfl (lv_at hl 1 rfl) ?_
  obtain ⟨x7, hx7, h⟩ := kb_of h
  refine s_callVi (segs' := [gX11 g aT bT zT, gX4 g (bT 0) zT_0]) (ci := 4) (i0 := 0) X V (c_X4_has l D g (bT 0) zT_0 v1 x7 hx7) w_X11_144 ⟨Nat.le_of_ble_eq_true rfl, Nat.le_of_ble_eq_true rfl⟩ ⟨Nat.zero_le _, Nat.zero_le _⟩ rfl rfl rfl rfl [1] rfl rfl (kFst_refl _) rfl rfl hl.1 (Nat.le_of_ble_eq_true rfl) dX11_moved_5 (fun H locs V => ?_)
  refine lv_if_eq (tgt := 21) X.1 X.2.1 dX11_moved_8 (by decide) (fun hc => ?_) (fun hc => ?_)
  · replace h := kif_t hc h
    refine lv_iconst (v := (0 : Int32)) X.1 X.2.1 dX11_moved_21 (by decide) ?_
    obtain rfl := Option.some.inj h
    rw [hAA] at V
    rw [hQQ]
    exact k_zret X V (b := false) rfl rfl dX11_moved_22
  · replace h := kif_f hc h
    refine lv_iload_n X.1 X.2.1 dX11_moved_11 rfl (lv_at hl 2 rfl) ?_
    refine lv_iload_n X.1 X.2.1 dX11_moved_12 rfl (lv_at hl 3 rfl) ?_
    refine lv_bipush (v := (100 : Int32)) X.1 X.2.1 dX11_moved_13 (by decide) ?_
    obtain ⟨x8, hx8, h⟩ := kb_of h
    refine s_callSi (segs' := [gX11 g aT bT zT, gX4 g (bT 0) zT_0]) X V (c_X11_isNear l D g v2 v3 (100 : Int32) x8 hx8) w_X11_127 ⟨Nat.le_of_ble_eq_true rfl, Nat.le_of_ble_eq_true rfl⟩ ⟨Nat.zero_le _, Nat.zero_le _⟩ rfl [] rfl rfl (kFst_refl _) rfl rfl hl.1 (Nat.le_of_ble_eq_true rfl) dX11_moved_15 (fun H locs V => ?_)
    refine lv_if_ne (tgt := 23) X.1 X.2.1 dX11_moved_18 (by decide) (fun hc => ?_) (fun hc => ?_)
    · replace h := kif_f hc h
      refine lv_aload_n X.1 X.2.1 dX11_moved_23 rfl (lv_at hl 0 rfl) ?_
      refine gf_X11_10 (i := 0) X V rfl dX11_moved_24 ?_
      obtain ⟨x9, hx9, h⟩ := kb_of h
      refine s_callVv (segs' := [gX11 g aT bT zT, gX4 g (bT 0) x9]) (ci := 4) (i0 := 0) X V (c_X4_mark l D g (bT 0) zT_0 x9 hx9) w_X11_134 ⟨Nat.le_of_ble_eq_true rfl, Nat.le_of_ble_eq_true rfl⟩ ⟨Nat.zero_le _, Nat.zero_le _⟩ rfl rfl rfl rfl [1] rfl rfl ⟨gX4_fst, trivial⟩ rfl rfl hl.1 (Nat.le_of_ble_eq_true rfl) dX11_moved_27 (fun H locs V => ?_)
      refine lv_aload_n X.1 X.2.1 dX11_moved_30 rfl (lv_at hl 0 rfl) ?_
      refine gf_X11_10 (i := 0) X V rfl dX11_moved_31 ?_
      refine lv_iload_n X.1 X.2.1 dX11_moved_34 rfl (lv_at hl 1 rfl) ?_
      refine lv_iload_n X.1 X.2.1 dX11_moved_35 rfl (lv_at hl 2 rfl) ?_
      refine lv_iload_n X.1 X.2.1 dX11_moved_36 rfl (lv_at hl 3 rfl) ?_
      refine lv_aload_n X.1 X.2.1 dX11_moved_37 rfl (lv_at hl 0 rfl) ?_
      refine gf_X11_10 (i := 0) X V rfl dX11_moved_38 ?_
      refine lv_iload_n X.1 X.2.1 dX11_moved_41 rfl (lv_at hl 1 rfl) ?_
      obtain ⟨x10, hx10, h⟩ := kb_of h
      refine s_callVi (segs' := [gX11 g aT bT zT, gX4 g (bT 0) x9]) (ci := 4) (i0 := 0) X V (c_X4_heapOf l D g (bT 0) x9 v1 x10 hx10) w_X11_150 ⟨Nat.le_of_ble_eq_true rfl, Nat.le_of_ble_eq_true rfl⟩ ⟨Nat.zero_le _, Nat.zero_le _⟩ rfl rfl rfl rfl [1] rfl rfl (kFst_refl _) rfl rfl hl.1 (Nat.le_of_ble_eq_true rfl) dX11_moved_42 (fun H locs V => ?_)
      obtain ⟨x11, hx11, h⟩ := kb_of h
      refine s_callVv (segs' := [gX11 g aT bT zT, gX4 g (bT 0) x11]) (ci := 4) (i0 := 0) X V (c_X4_place l D g (bT 0) x9 v1 v2 v3 x10 x11 hx11) w_X11_137 ⟨Nat.le_of_ble_eq_true rfl, Nat.le_of_ble_eq_true rfl⟩ ⟨Nat.zero_le _, Nat.zero_le _⟩ rfl rfl rfl rfl [1] rfl rfl ⟨gX4_fst, trivial⟩ rfl rfl hl.1 (Nat.le_of_ble_eq_true rfl) dX11_moved_45 (fun H locs V => ?_)
      refine lv_aload_n X.1 X.2.1 dX11_moved_48 rfl (lv_at hl 0 rfl) ?_
      refine gf_X11_10 (i := 0) X V rfl dX11_moved_49 ?_
      obtain ⟨x12, hx12, h⟩ := kb_of h
      refine s_callVv (segs' := [gX11 g aT bT zT, gX4 g (bT 0) x12]) (ci := 4) (i0 := 0) X V (c_X4_keep l D g (bT 0) x11 x12 hx12) w_X11_141 ⟨Nat.le_of_ble_eq_true rfl, Nat.le_of_ble_eq_true rfl⟩ ⟨Nat.zero_le _, Nat.zero_le _⟩ rfl rfl rfl rfl [1] rfl rfl ⟨gX4_fst, trivial⟩ rfl rfl hl.1 (Nat.le_of_ble_eq_true rfl) dX11_moved_52 (fun H locs V => ?_)
      refine lv_iconst (v := (1 : Int32)) X.1 X.2.1 dX11_moved_55 (by decide) ?_
      obtain rfl := Option.some.inj h
      rw [hAA] at V
      rw [hQQ]
      exact k_zret X V (b := true) rfl rfl dX11_moved_56
    · replace h := kif_t hc h
      refine lv_iconst (v := (0 : Int32)) X.1 X.2.1 dX11_moved_21 (by decide) ?_
      obtain rfl := Option.some.inj h
      rw [hAA] at V
      rw [hQQ]
      exact k_zret X V (b := false) rfl rfl dX11_moved_22

def p_X11_pace (zT : tX11) (zT_0 : tX4) (v1 : Int32) (v2 : Int32) (v3 : Int32) : Option (Bool × tX4) :=
  kb (p_X11_isHeap v1) (fun x1 => kif ((kz x1) = 0) (some (false, zT_0)) (kb (p_X11_isNear v2 v3 (3 : Int32)) (fun x2 => kif ((kz x2) = 0) (some (false, zT_0)) (kb (p_X4_mark zT_0) (fun x3 => kb (p_X4_setPace x3 v1 v2 v3) (fun x4 => kb (p_X4_keep x4) (fun x5 => some (true, x5))))))))
set_option maxHeartbeats 4000000 in
set_option maxRecDepth 100000 in
theorem c_X11_pace (l : Launch) (D : va_G) (g : kG) (aT : Nat → Nat) (bT : Nat → Nat → Nat) (zT : tX11) (zT_0 : tX4) (v1 : Int32) (v2 : Int32) (v3 : Int32) (r : Bool × tX4) (h : p_X11_pace zT zT_0 v1 v2 v3 = some r) : kMi l yX11_pace cX11_pace 4 (some .boolean) (kR 2 80) D (kty g) [.ref (aT 0), .int v1, .int v2, .int v3] (List.flatten [gX11 g aT bT zT, gX4 g (bT 0) zT_0]) (kz r.1) (List.flatten [gX11 g aT bT zT, gX4 g (bT 0) r.2]) := by
  intro sz
  refine k_enter (lv := [(0, .ref (aT 0)), (1, .int v1), (2, .int v2), (3, .int v3)]) RX11 (by decide +kernel) rfl rfl (Nat.le_of_ble_eq_true rfl) ?_
  intro p en s m args below meth c ls hsz X V hl
  obtain ⟨QQ, hQQ⟩ : ∃ q, q = MQ below (va_Qi (fun r' (_ : Unit) => r' = kz r.1) (fun _ => kE D (List.flatten [gX11 g aT bT zT, gX4 g (bT 0) r.2])) (va_A (List.flatten [gX11 g aT bT zT, gX4 g (bT 0) zT_0]) sz)) args s 0 0 (va_A (List.flatten [gX11 g aT bT zT, gX4 g (bT 0) zT_0]) sz) := ⟨_, rfl⟩
  rw [← hQQ]
  obtain ⟨AA, hAA⟩ : ∃ q, q = va_A (List.flatten [gX11 g aT bT zT, gX4 g (bT 0) zT_0]) sz := ⟨_, rfl⟩
  rw [← hAA] at V
  unfold p_X11_pace at h
  refine lv_iload_n X.1 X.2.1 dX11_pace_0 rfl (lv_at hl 1 rfl) ?_
  obtain ⟨x6, hx6, h⟩ := kb_of h
  refine s_callSi (segs' := [gX11 g aT bT zT, gX4 g (bT 0) zT_0]) X V (c_X11_isHeap l D g v1 x6 hx6) w_X11_131 ⟨Nat.le_of_ble_eq_true rfl, Nat.le_of_ble_eq_true rfl⟩ ⟨Nat.zero_le _, Nat.zero_le _⟩ rfl [] rfl rfl (kFst_refl _) rfl rfl hl.1 (Nat.le_of_ble_eq_true rfl) dX11_pace_1 (fun H locs V => ?_)
  refine lv_if_eq (tgt := 16) X.1 X.2.1 dX11_pace_4 (by decide) (fun hc => ?_) (fun hc => ?_)
  · replace h := kif_t hc h
    refine lv_iconst (v := (0 : Int32)) X.1 X.2.1 dX11_pace_16 (by decide) ?_
    obtain rfl := Option.some.inj h
    rw [hAA] at V
    rw [hQQ]
    exact k_zret X V (b := false) rfl rfl dX11_pace_17
  · replace h := kif_f hc h
    refine lv_iload_n X.1 X.2.1 dX11_pace_7 rfl (lv_at hl 2 rfl) ?_
    refine lv_iload_n X.1 X.2.1 dX11_pace_8 rfl (lv_at hl 3 rfl) ?_
    refine lv_iconst (v := (3 : Int32)) X.1 X.2.1 dX11_pace_9 (by decide) ?_
    obtain ⟨x7, hx7, h⟩ := kb_of h
    refine s_callSi (segs' := [gX11 g aT bT zT, gX4 g (bT 0) zT_0]) X V (c_X11_isNear l D g v2 v3 (3 : Int32) x7 hx7) w_X11_127 ⟨Nat.le_of_ble_eq_true rfl, Nat.le_of_ble_eq_true rfl⟩ ⟨Nat.zero_le _, Nat.zero_le _⟩ rfl [] rfl rfl (kFst_refl _) rfl rfl hl.1 (Nat.le_of_ble_eq_true rfl) dX11_pace_10 (fun H locs V => ?_)
    refine lv_if_ne (tgt := 18) X.1 X.2.1 dX11_pace_13 (by decide) (fun hc => ?_) (fun hc => ?_)
    · replace h := kif_f hc h
      refine lv_aload_n X.1 X.2.1 dX11_pace_18 rfl (lv_at hl 0 rfl) ?_
      refine gf_X11_10 (i := 0) X V rfl dX11_pace_19 ?_
      obtain ⟨x8, hx8, h⟩ := kb_of h
      refine s_callVv (segs' := [gX11 g aT bT zT, gX4 g (bT 0) x8]) (ci := 4) (i0 := 0) X V (c_X4_mark l D g (bT 0) zT_0 x8 hx8) w_X11_134 ⟨Nat.le_of_ble_eq_true rfl, Nat.le_of_ble_eq_true rfl⟩ ⟨Nat.zero_le _, Nat.zero_le _⟩ rfl rfl rfl rfl [1] rfl rfl ⟨gX4_fst, trivial⟩ rfl rfl hl.1 (Nat.le_of_ble_eq_true rfl) dX11_pace_22 (fun H locs V => ?_)
      refine lv_aload_n X.1 X.2.1 dX11_pace_25 rfl (lv_at hl 0 rfl) ?_
      refine gf_X11_10 (i := 0) X V rfl dX11_pace_26 ?_
      refine lv_iload_n X.1 X.2.1 dX11_pace_29 rfl (lv_at hl 1 rfl) ?_
      refine lv_iload_n X.1 X.2.1 dX11_pace_30 rfl (lv_at hl 2 rfl) ?_
      refine lv_iload_n X.1 X.2.1 dX11_pace_31 rfl (lv_at hl 3 rfl) ?_
      obtain ⟨x9, hx9, h⟩ := kb_of h
      refine s_callVv (segs' := [gX11 g aT bT zT, gX4 g (bT 0) x9]) (ci := 4) (i0 := 0) X V (c_X4_setPace l D g (bT 0) x8 v1 v2 v3 x9 hx9) w_X11_154 ⟨Nat.le_of_ble_eq_true rfl, Nat.le_of_ble_eq_true rfl⟩ ⟨Nat.zero_le _, Nat.zero_le _⟩ rfl rfl rfl rfl [1] rfl rfl ⟨gX4_fst, trivial⟩ rfl rfl hl.1 (Nat.le_of_ble_eq_true rfl) dX11_pace_32 (fun H locs V => ?_)
      refine lv_aload_n X.1 X.2.1 dX11_pace_35 rfl (lv_at hl 0 rfl) ?_
      refine gf_X11_10 (i := 0) X V rfl dX11_pace_36 ?_
      obtain ⟨x10, hx10, h⟩ := kb_of h
      refine s_callVv (segs' := [gX11 g aT bT zT, gX4 g (bT 0) x10]) (ci := 4) (i0 := 0) X V (c_X4_keep l D g (bT 0) x9 x10 hx10) w_X11_141 ⟨Nat.le_of_ble_eq_true rfl, Nat.le_of_ble_eq_true rfl⟩ ⟨Nat.zero_le _, Nat.zero_le _⟩ rfl rfl rfl rfl [1] rfl rfl ⟨gX4_fst, trivial⟩ rfl rfl hl.1 (Nat.le_of_ble_eq_true rfl) dX11_pace_39 (fun H locs V => ?_)
      refine lv_iconst (v := (1 : Int32)) X.1 X.2.1 dX11_pace_42 (by decide) ?_
      obtain rfl := Option.some.inj h
      rw [hAA] at V
      rw [hQQ]
      exact k_zret X V (b := true) rfl rfl dX11_pace_43
    · replace h := kif_t hc h
      refine lv_iconst (v := (0 : Int32)) X.1 X.2.1 dX11_pace_16 (by decide) ?_
      obtain rfl := Option.some.inj h
      rw [hAA] at V
      rw [hQQ]
      exact k_zret X V (b := false) rfl rfl dX11_pace_17

def p_X11_tick (zT : tX11) (zT_0 : tX4) (v1 : Int32) : Option (Int32 × tX4) :=
  kif (v1 < 0) (some ((-1 : Int32), zT_0)) (kif (v1 ≤ (20 : Int32)) (kb (p_X4_now zT_0) (fun x1 => kb (p_X4_mark zT_0) (fun x2 => kb (p_X4_setNow x2 v1) (fun x3 => kb (p_X4_keep x3) (fun x4 => some (x1, x4)))))) (some ((-1 : Int32), zT_0)))
set_option maxHeartbeats 4000000 in
set_option maxRecDepth 100000 in
theorem c_X11_tick (l : Launch) (D : va_G) (g : kG) (aT : Nat → Nat) (bT : Nat → Nat → Nat) (zT : tX11) (zT_0 : tX4) (v1 : Int32) (r : Int32 × tX4) (h : p_X11_tick zT zT_0 v1 = some r) : kMi l yX11_tick cX11_tick 3 (some .int) (kR 2 80) D (kty g) [.ref (aT 0), .int v1] (List.flatten [gX11 g aT bT zT, gX4 g (bT 0) zT_0]) r.1 (List.flatten [gX11 g aT bT zT, gX4 g (bT 0) r.2]) := by
  intro sz
  refine k_enter (lv := [(0, .ref (aT 0)), (1, .int v1)]) RX11 (by decide +kernel) rfl rfl (Nat.le_of_ble_eq_true rfl) ?_
  intro p en s m args below meth c ls hsz X V hl
  obtain ⟨QQ, hQQ⟩ : ∃ q, q = MQ below (va_Qi (fun r' (_ : Unit) => r' = r.1) (fun _ => kE D (List.flatten [gX11 g aT bT zT, gX4 g (bT 0) r.2])) (va_A (List.flatten [gX11 g aT bT zT, gX4 g (bT 0) zT_0]) sz)) args s 0 0 (va_A (List.flatten [gX11 g aT bT zT, gX4 g (bT 0) zT_0]) sz) := ⟨_, rfl⟩
  rw [← hQQ]
  obtain ⟨AA, hAA⟩ : ∃ q, q = va_A (List.flatten [gX11 g aT bT zT, gX4 g (bT 0) zT_0]) sz := ⟨_, rfl⟩
  rw [← hAA] at V
  unfold p_X11_tick at h
  refine lv_iload_n X.1 X.2.1 dX11_tick_0 rfl (lv_at hl 1 rfl) ?_
  refine lv_if_lt (tgt := 10) X.1 X.2.1 dX11_tick_1 (by decide) (fun hc => ?_) (fun hc => ?_)
  · replace h := kif_t hc h
    refine lv_iconst (v := (-1 : Int32)) X.1 X.2.1 dX11_tick_10 (by decide) ?_
    obtain rfl := Option.some.inj h
    rw [hAA] at V
    rw [hQQ]
    exact k_iret X V rfl dX11_tick_11
  · replace h := kif_f hc h
    refine lv_iload_n X.1 X.2.1 dX11_tick_4 rfl (lv_at hl 1 rfl) ?_
    refine lv_bipush (v := (20 : Int32)) X.1 X.2.1 dX11_tick_5 (by decide) ?_
    refine lv_icmp_le (tgt := 12) X.1 X.2.1 dX11_tick_7 (by decide) (fun hc => ?_) (fun hc => ?_)
    · replace h := kif_t hc h
      refine lv_aload_n X.1 X.2.1 dX11_tick_12 rfl (lv_at hl 0 rfl) ?_
      refine gf_X11_10 (i := 0) X V rfl dX11_tick_13 ?_
      obtain ⟨x5, hx5, h⟩ := kb_of h
      refine s_callVi (segs' := [gX11 g aT bT zT, gX4 g (bT 0) zT_0]) (ci := 4) (i0 := 0) X V (c_X4_now l D g (bT 0) zT_0 x5 hx5) w_X11_158 ⟨Nat.le_of_ble_eq_true rfl, Nat.le_of_ble_eq_true rfl⟩ ⟨Nat.zero_le _, Nat.zero_le _⟩ rfl rfl rfl rfl [1] rfl rfl (kFst_refl _) rfl rfl hl.1 (Nat.le_of_ble_eq_true rfl) dX11_tick_16 (fun H locs V => ?_)
      refine lv_istore_n (lv' := [(2, .int x5), (0, .ref (aT 0)), (1, .int v1)]) X.1 X.2.1 dX11_tick_19 rfl hl (by decide) rfl (fun ls hl => ?_)
      refine lv_aload_n X.1 X.2.1 dX11_tick_20 rfl (lv_at hl 1 rfl) ?_
      refine gf_X11_10 (i := 0) X V rfl dX11_tick_21 ?_
      obtain ⟨x6, hx6, h⟩ := kb_of h
      refine s_callVv (segs' := [gX11 g aT bT zT, gX4 g (bT 0) x6]) (ci := 4) (i0 := 0) X V (c_X4_mark l D g (bT 0) zT_0 x6 hx6) w_X11_134 ⟨Nat.le_of_ble_eq_true rfl, Nat.le_of_ble_eq_true rfl⟩ ⟨Nat.zero_le _, Nat.zero_le _⟩ rfl rfl rfl rfl [1] rfl rfl ⟨gX4_fst, trivial⟩ rfl rfl hl.1 (Nat.le_of_ble_eq_true rfl) dX11_tick_24 (fun H locs V => ?_)
      refine lv_aload_n X.1 X.2.1 dX11_tick_27 rfl (lv_at hl 1 rfl) ?_
      refine gf_X11_10 (i := 0) X V rfl dX11_tick_28 ?_
      refine lv_iload_n X.1 X.2.1 dX11_tick_31 rfl (lv_at hl 2 rfl) ?_
      obtain ⟨x7, hx7, h⟩ := kb_of h
      refine s_callVv (segs' := [gX11 g aT bT zT, gX4 g (bT 0) x7]) (ci := 4) (i0 := 0) X V (c_X4_setNow l D g (bT 0) x6 v1 x7 hx7) w_X11_161 ⟨Nat.le_of_ble_eq_true rfl, Nat.le_of_ble_eq_true rfl⟩ ⟨Nat.zero_le _, Nat.zero_le _⟩ rfl rfl rfl rfl [1] rfl rfl ⟨gX4_fst, trivial⟩ rfl rfl hl.1 (Nat.le_of_ble_eq_true rfl) dX11_tick_32 (fun H locs V => ?_)
      refine lv_aload_n X.1 X.2.1 dX11_tick_35 rfl (lv_at hl 1 rfl) ?_
      refine gf_X11_10 (i := 0) X V rfl dX11_tick_36 ?_
      obtain ⟨x8, hx8, h⟩ := kb_of h
      refine s_callVv (segs' := [gX11 g aT bT zT, gX4 g (bT 0) x8]) (ci := 4) (i0 := 0) X V (c_X4_keep l D g (bT 0) x7 x8 hx8) w_X11_141 ⟨Nat.le_of_ble_eq_true rfl, Nat.le_of_ble_eq_true rfl⟩ ⟨Nat.zero_le _, Nat.zero_le _⟩ rfl rfl rfl rfl [1] rfl rfl ⟨gX4_fst, trivial⟩ rfl rfl hl.1 (Nat.le_of_ble_eq_true rfl) dX11_tick_39 (fun H locs V => ?_)
      refine lv_iload_n X.1 X.2.1 dX11_tick_42 rfl (lv_at hl 0 rfl) ?_
      obtain rfl := Option.some.inj h
      rw [hAA] at V
      rw [hQQ]
      exact k_iret X V rfl dX11_tick_43
    · replace h := kif_f hc h
      refine lv_iconst (v := (-1 : Int32)) X.1 X.2.1 dX11_tick_10 (by decide) ?_
      obtain rfl := Option.some.inj h
      rw [hAA] at V
      rw [hQQ]
      exact k_iret X V rfl dX11_tick_11

def p_X11_back (zT : tX11) (zT_0 : tX4) : Option (Int32 × tX4) :=
  kb (p_X4_takeBack zT_0) (fun x1 => some (x1.1, x1.2))
set_option maxHeartbeats 4000000 in
set_option maxRecDepth 100000 in
theorem c_X11_back (l : Launch) (D : va_G) (g : kG) (aT : Nat → Nat) (bT : Nat → Nat → Nat) (zT : tX11) (zT_0 : tX4) (r : Int32 × tX4) (h : p_X11_back zT zT_0 = some r) : kMi l yX11_back cX11_back 1 (some .int) (kR 2 80) D (kty g) [.ref (aT 0)] (List.flatten [gX11 g aT bT zT, gX4 g (bT 0) zT_0]) r.1 (List.flatten [gX11 g aT bT zT, gX4 g (bT 0) r.2]) := by
  intro sz
  refine k_enter (lv := [(0, .ref (aT 0))]) RX11 (by decide +kernel) rfl rfl (Nat.le_of_ble_eq_true rfl) ?_
  intro p en s m args below meth c ls hsz X V hl
  obtain ⟨QQ, hQQ⟩ : ∃ q, q = MQ below (va_Qi (fun r' (_ : Unit) => r' = r.1) (fun _ => kE D (List.flatten [gX11 g aT bT zT, gX4 g (bT 0) r.2])) (va_A (List.flatten [gX11 g aT bT zT, gX4 g (bT 0) zT_0]) sz)) args s 0 0 (va_A (List.flatten [gX11 g aT bT zT, gX4 g (bT 0) zT_0]) sz) := ⟨_, rfl⟩
  rw [← hQQ]
  obtain ⟨AA, hAA⟩ : ∃ q, q = va_A (List.flatten [gX11 g aT bT zT, gX4 g (bT 0) zT_0]) sz := ⟨_, rfl⟩
  rw [← hAA] at V
  unfold p_X11_back at h
  refine lv_aload_n X.1 X.2.1 dX11_back_0 rfl (lv_at hl 0 rfl) ?_
  refine gf_X11_10 (i := 0) X V rfl dX11_back_1 ?_
  obtain ⟨x2, hx2, h⟩ := kb_of h
  refine s_callVi (segs' := [gX11 g aT bT zT, gX4 g (bT 0) x2.2]) (ci := 4) (i0 := 0) X V (c_X4_takeBack l D g (bT 0) zT_0 x2 hx2) w_X11_164 ⟨Nat.le_of_ble_eq_true rfl, Nat.le_of_ble_eq_true rfl⟩ ⟨Nat.zero_le _, Nat.zero_le _⟩ rfl rfl rfl rfl [1] rfl rfl ⟨gX4_fst, trivial⟩ rfl rfl hl.1 (Nat.le_of_ble_eq_true rfl) dX11_back_4 (fun H locs V => ?_)
  obtain rfl := Option.some.inj h
  rw [hAA] at V
  rw [hQQ]
  exact k_iret X V rfl dX11_back_7

def p_X11_is (zT : tX11) (zT_0 : tX4) (zT_1 : tX9) (v1 : Int32) : Option (Int32) :=
  kif (v1 = 0) (kb (p_X4_bits zT_0 (15 : Int32)) (fun x1 => kb (p_J13_bitCount_95d88 x1) (fun x2 => some x2))) (kif (v1 = (1 : Int32)) (kb (p_X4_now zT_0) (fun x3 => some x3)) (kif (v1 = (2 : Int32)) (kb (p_X4_deeds zT_0) (fun x4 => some x4)) (kif (v1 = (3 : Int32)) (kb (p_X9_length zT_1) (fun x5 => some x5)) (kif (v1 < (4 : Int32)) (some (-1 : Int32)) (kif ((8 : Int32) ≤ v1) (some (-1 : Int32)) (kb (p_X4_bits zT_0 ((1 : Int32) <<< ((v1 - (4 : Int32)) &&& 31))) (fun x6 => kb (p_J13_bitCount_95d88 x6) (fun x7 => some x7))))))))
set_option maxHeartbeats 4000000 in
set_option maxRecDepth 100000 in
theorem c_X11_is (l : Launch) (D : va_G) (g : kG) (aT : Nat → Nat) (bT : Nat → Nat → Nat) (zT : tX11) (zT_0 : tX4) (zT_1 : tX9) (v1 : Int32) (r : Int32) (h : p_X11_is zT zT_0 zT_1 v1 = some r) : kMi l yX11_is cX11_is 2 (some .int) (kR 2 45) D (kty g) [.ref (aT 0), .int v1] (List.flatten [gX11 g aT bT zT, gX4 g (bT 0) zT_0, gX9 g (bT 1) zT_1]) r (List.flatten [gX11 g aT bT zT, gX4 g (bT 0) zT_0, gX9 g (bT 1) zT_1]) := by
  intro sz
  refine k_enter (lv := [(0, .ref (aT 0)), (1, .int v1)]) RX11 (by decide +kernel) rfl rfl (Nat.le_of_ble_eq_true rfl) ?_
  intro p en s m args below meth c ls hsz X V hl
  obtain ⟨QQ, hQQ⟩ : ∃ q, q = MQ below (va_Qi (fun r' (_ : Unit) => r' = r) (fun _ => kE D (List.flatten [gX11 g aT bT zT, gX4 g (bT 0) zT_0, gX9 g (bT 1) zT_1])) (va_A (List.flatten [gX11 g aT bT zT, gX4 g (bT 0) zT_0, gX9 g (bT 1) zT_1]) sz)) args s 0 0 (va_A (List.flatten [gX11 g aT bT zT, gX4 g (bT 0) zT_0, gX9 g (bT 1) zT_1]) sz) := ⟨_, rfl⟩
  rw [← hQQ]
  obtain ⟨AA, hAA⟩ : ∃ q, q = va_A (List.flatten [gX11 g aT bT zT, gX4 g (bT 0) zT_0, gX9 g (bT 1) zT_1]) sz := ⟨_, rfl⟩
  rw [← hAA] at V
  unfold p_X11_is at h
  refine lv_iload_n X.1 X.2.1 dX11_is_0 rfl (lv_at hl 1 rfl) ?_
  refine lv_if_ne (tgt := 17) X.1 X.2.1 dX11_is_1 (by decide) (fun hc => ?_) (fun hc => ?_)
  · replace h := kif_f hc h
    refine lv_iload_n X.1 X.2.1 dX11_is_17 rfl (lv_at hl 1 rfl) ?_
    refine lv_iconst (v := (1 : Int32)) X.1 X.2.1 dX11_is_18 (by decide) ?_
    refine lv_icmp_ne (tgt := 30) X.1 X.2.1 dX11_is_19 (by decide) (fun hc => ?_) (fun hc => ?_)
    · replace h := kif_f hc h
      refine lv_iload_n X.1 X.2.1 dX11_is_30 rfl (lv_at hl 1 rfl) ?_
      refine lv_iconst (v := (2 : Int32)) X.1 X.2.1 dX11_is_31 (by decide) ?_
      refine lv_icmp_ne (tgt := 43) X.1 X.2.1 dX11_is_32 (by decide) (fun hc => ?_) (fun hc => ?_)
      · replace h := kif_f hc h
        refine lv_iload_n X.1 X.2.1 dX11_is_43 rfl (lv_at hl 1 rfl) ?_
        refine lv_iconst (v := (3 : Int32)) X.1 X.2.1 dX11_is_44 (by decide) ?_
        refine lv_icmp_ne (tgt := 56) X.1 X.2.1 dX11_is_45 (by decide) (fun hc => ?_) (fun hc => ?_)
        · replace h := kif_f hc h
          refine lv_iload_n X.1 X.2.1 dX11_is_56 rfl (lv_at hl 1 rfl) ?_
          refine lv_iconst (v := (4 : Int32)) X.1 X.2.1 dX11_is_57 (by decide) ?_
          refine lv_icmp_lt (tgt := 83) X.1 X.2.1 dX11_is_58 (by decide) (fun hc => ?_) (fun hc => ?_)
          · replace h := kif_t hc h
            refine lv_iconst (v := (-1 : Int32)) X.1 X.2.1 dX11_is_83 (by decide) ?_
            obtain rfl := Option.some.inj h
            rw [hAA] at V
            rw [hQQ]
            exact k_iret X V rfl dX11_is_84
          · replace h := kif_f hc h
            refine lv_iload_n X.1 X.2.1 dX11_is_61 rfl (lv_at hl 1 rfl) ?_
            refine lv_bipush (v := (8 : Int32)) X.1 X.2.1 dX11_is_62 (by decide) ?_
            refine lv_icmp_ge (tgt := 83) X.1 X.2.1 dX11_is_64 (by decide) (fun hc => ?_) (fun hc => ?_)
            · replace h := kif_t hc h
              refine lv_iconst (v := (-1 : Int32)) X.1 X.2.1 dX11_is_83 (by decide) ?_
              obtain rfl := Option.some.inj h
              rw [hAA] at V
              rw [hQQ]
              exact k_iret X V rfl dX11_is_84
            · replace h := kif_f hc h
              refine lv_aload_n X.1 X.2.1 dX11_is_67 rfl (lv_at hl 0 rfl) ?_
              refine gf_X11_10 (i := 0) X V rfl dX11_is_68 ?_
              refine lv_iconst (v := (1 : Int32)) X.1 X.2.1 dX11_is_71 (by decide) ?_
              refine lv_iload_n X.1 X.2.1 dX11_is_72 rfl (lv_at hl 1 rfl) ?_
              refine lv_iconst (v := (4 : Int32)) X.1 X.2.1 dX11_is_73 (by decide) ?_
              refine lv_isub X.1 X.2.1 dX11_is_74 ?_
              refine lv_ishl X.1 X.2.1 dX11_is_75 ?_
              obtain ⟨x8, hx8, h⟩ := kb_of h
              refine s_callVl (segs' := [gX11 g aT bT zT, gX4 g (bT 0) zT_0, gX9 g (bT 1) zT_1]) (ci := 4) (i0 := 0) X V (c_X4_bits l D g (bT 0) zT_0 ((1 : Int32) <<< ((v1 - (4 : Int32)) &&& 31)) x8 hx8) w_X11_167 ⟨Nat.le_of_ble_eq_true rfl, Nat.le_of_ble_eq_true rfl⟩ ⟨Nat.zero_le _, Nat.zero_le _⟩ rfl rfl rfl rfl [1] rfl rfl (kFst_refl _) rfl rfl hl.1 (Nat.le_of_ble_eq_true rfl) dX11_is_76 (fun H locs V => ?_)
              obtain ⟨x9, hx9, h⟩ := kb_of h
              refine s_callSi (segs' := [gX11 g aT bT zT, gX4 g (bT 0) zT_0, gX9 g (bT 1) zT_1]) X V (c_J13_bitCount_95d88 l D g x8 x9 hx9) w_X11_171 ⟨Nat.le_of_ble_eq_true rfl, Nat.le_of_ble_eq_true rfl⟩ ⟨Nat.zero_le _, Nat.zero_le _⟩ rfl [] rfl rfl (kFst_refl _) rfl rfl hl.1 (Nat.le_of_ble_eq_true rfl) dX11_is_79 (fun H locs V => ?_)
              obtain rfl := Option.some.inj h
              rw [hAA] at V
              rw [hQQ]
              exact k_iret X V rfl dX11_is_82
        · replace h := kif_t hc h
          refine lv_aload_n X.1 X.2.1 dX11_is_48 rfl (lv_at hl 0 rfl) ?_
          refine gf_X11_19 (i := 0) X V rfl dX11_is_49 ?_
          obtain ⟨x10, hx10, h⟩ := kb_of h
          refine s_callVi (segs' := [gX11 g aT bT zT, gX4 g (bT 0) zT_0, gX9 g (bT 1) zT_1]) (ci := 9) (i0 := 0) X V (c_X9_length l D g (bT 1) zT_1 x10 hx10) w_X11_110 ⟨Nat.le_of_ble_eq_true rfl, Nat.le_of_ble_eq_true rfl⟩ ⟨Nat.zero_le _, Nat.zero_le _⟩ rfl rfl rfl rfl [2] rfl rfl (kFst_refl _) rfl rfl hl.1 (Nat.le_of_ble_eq_true rfl) dX11_is_52 (fun H locs V => ?_)
          obtain rfl := Option.some.inj h
          rw [hAA] at V
          rw [hQQ]
          exact k_iret X V rfl dX11_is_55
      · replace h := kif_t hc h
        refine lv_aload_n X.1 X.2.1 dX11_is_35 rfl (lv_at hl 0 rfl) ?_
        refine gf_X11_10 (i := 0) X V rfl dX11_is_36 ?_
        obtain ⟨x11, hx11, h⟩ := kb_of h
        refine s_callVi (segs' := [gX11 g aT bT zT, gX4 g (bT 0) zT_0, gX9 g (bT 1) zT_1]) (ci := 4) (i0 := 0) X V (c_X4_deeds l D g (bT 0) zT_0 x11 hx11) w_X11_177 ⟨Nat.le_of_ble_eq_true rfl, Nat.le_of_ble_eq_true rfl⟩ ⟨Nat.zero_le _, Nat.zero_le _⟩ rfl rfl rfl rfl [1] rfl rfl (kFst_refl _) rfl rfl hl.1 (Nat.le_of_ble_eq_true rfl) dX11_is_39 (fun H locs V => ?_)
        obtain rfl := Option.some.inj h
        rw [hAA] at V
        rw [hQQ]
        exact k_iret X V rfl dX11_is_42
    · replace h := kif_t hc h
      refine lv_aload_n X.1 X.2.1 dX11_is_22 rfl (lv_at hl 0 rfl) ?_
      refine gf_X11_10 (i := 0) X V rfl dX11_is_23 ?_
      obtain ⟨x12, hx12, h⟩ := kb_of h
      refine s_callVi (segs' := [gX11 g aT bT zT, gX4 g (bT 0) zT_0, gX9 g (bT 1) zT_1]) (ci := 4) (i0 := 0) X V (c_X4_now l D g (bT 0) zT_0 x12 hx12) w_X11_158 ⟨Nat.le_of_ble_eq_true rfl, Nat.le_of_ble_eq_true rfl⟩ ⟨Nat.zero_le _, Nat.zero_le _⟩ rfl rfl rfl rfl [1] rfl rfl (kFst_refl _) rfl rfl hl.1 (Nat.le_of_ble_eq_true rfl) dX11_is_26 (fun H locs V => ?_)
      obtain rfl := Option.some.inj h
      rw [hAA] at V
      rw [hQQ]
      exact k_iret X V rfl dX11_is_29
  · replace h := kif_t hc h
    refine lv_aload_n X.1 X.2.1 dX11_is_4 rfl (lv_at hl 0 rfl) ?_
    refine gf_X11_10 (i := 0) X V rfl dX11_is_5 ?_
    refine lv_bipush (v := (15 : Int32)) X.1 X.2.1 dX11_is_8 (by decide) ?_
    obtain ⟨x13, hx13, h⟩ := kb_of h
    refine s_callVl (segs' := [gX11 g aT bT zT, gX4 g (bT 0) zT_0, gX9 g (bT 1) zT_1]) (ci := 4) (i0 := 0) X V (c_X4_bits l D g (bT 0) zT_0 (15 : Int32) x13 hx13) w_X11_167 ⟨Nat.le_of_ble_eq_true rfl, Nat.le_of_ble_eq_true rfl⟩ ⟨Nat.zero_le _, Nat.zero_le _⟩ rfl rfl rfl rfl [1] rfl rfl (kFst_refl _) rfl rfl hl.1 (Nat.le_of_ble_eq_true rfl) dX11_is_10 (fun H locs V => ?_)
    obtain ⟨x14, hx14, h⟩ := kb_of h
    refine s_callSi (segs' := [gX11 g aT bT zT, gX4 g (bT 0) zT_0, gX9 g (bT 1) zT_1]) X V (c_J13_bitCount_95d88 l D g x13 x14 hx14) w_X11_171 ⟨Nat.le_of_ble_eq_true rfl, Nat.le_of_ble_eq_true rfl⟩ ⟨Nat.zero_le _, Nat.zero_le _⟩ rfl [] rfl rfl (kFst_refl _) rfl rfl hl.1 (Nat.le_of_ble_eq_true rfl) dX11_is_13 (fun H locs V => ?_)
    obtain rfl := Option.some.inj h
    rw [hAA] at V
    rw [hQQ]
    exact k_iret X V rfl dX11_is_16

def p_X11_point (zT : tX11) (zT_0 : tX4) (v1 : Int32) (v2 : Int32) : Option (Int32) :=
  kb (p_X4_has zT_0 v1) (fun x1 => kif ((kz x1) = 0) (some (-1000 : Int32)) (kif (v2 = 0) (kb (p_X4_x zT_0 v1) (fun x2 => some x2)) (kif (v2 = (1 : Int32)) (kb (p_X4_y zT_0 v1) (fun x3 => some x3)) (kif (v2 = (2 : Int32)) (kb (p_X4_heapOf zT_0 v1) (fun x4 => some x4)) (kif (v2 = (3 : Int32)) (kb (p_X4_now zT_0) (fun x5 => kb (p_X4_standX zT_0 v1 x5) (fun x6 => some x6))) (kif (v2 = (4 : Int32)) (kb (p_X4_now zT_0) (fun x7 => kb (p_X4_standY zT_0 v1 x7) (fun x8 => some x8))) (some (-1000 : Int32))))))))
set_option maxHeartbeats 4000000 in
set_option maxRecDepth 100000 in
theorem c_X11_point (l : Launch) (D : va_G) (g : kG) (aT : Nat → Nat) (bT : Nat → Nat → Nat) (zT : tX11) (zT_0 : tX4) (v1 : Int32) (v2 : Int32) (r : Int32) (h : p_X11_point zT zT_0 v1 v2 = some r) : kMi l yX11_point cX11_point 3 (some .int) (kR 2 43) D (kty g) [.ref (aT 0), .int v1, .int v2] (List.flatten [gX11 g aT bT zT, gX4 g (bT 0) zT_0]) r (List.flatten [gX11 g aT bT zT, gX4 g (bT 0) zT_0]) := by
  intro sz
  refine k_enter (lv := [(0, .ref (aT 0)), (1, .int v1), (2, .int v2)]) RX11 (by decide +kernel) rfl rfl (Nat.le_of_ble_eq_true rfl) ?_
  intro p en s m args below meth c ls hsz X V hl
  obtain ⟨QQ, hQQ⟩ : ∃ q, q = MQ below (va_Qi (fun r' (_ : Unit) => r' = r) (fun _ => kE D (List.flatten [gX11 g aT bT zT, gX4 g (bT 0) zT_0])) (va_A (List.flatten [gX11 g aT bT zT, gX4 g (bT 0) zT_0]) sz)) args s 0 0 (va_A (List.flatten [gX11 g aT bT zT, gX4 g (bT 0) zT_0]) sz) := ⟨_, rfl⟩
  rw [← hQQ]
  obtain ⟨AA, hAA⟩ : ∃ q, q = va_A (List.flatten [gX11 g aT bT zT, gX4 g (bT 0) zT_0]) sz := ⟨_, rfl⟩
  rw [← hAA] at V
  unfold p_X11_point at h
  refine lv_aload_n X.1 X.2.1 dX11_point_0 rfl (lv_at hl 0 rfl) ?_
  refine gf_X11_10 (i := 0) X V rfl dX11_point_1 ?_
  refine lv_iload_n X.1 X.2.1 dX11_point_4 rfl (lv_at hl 1 rfl) ?_
  obtain ⟨x9, hx9, h⟩ := kb_of h
  refine s_callVi (segs' := [gX11 g aT bT zT, gX4 g (bT 0) zT_0]) (ci := 4) (i0 := 0) X V (c_X4_has l D g (bT 0) zT_0 v1 x9 hx9) w_X11_144 ⟨Nat.le_of_ble_eq_true rfl, Nat.le_of_ble_eq_true rfl⟩ ⟨Nat.zero_le _, Nat.zero_le _⟩ rfl rfl rfl rfl [1] rfl rfl (kFst_refl _) rfl rfl hl.1 (Nat.le_of_ble_eq_true rfl) dX11_point_5 (fun H locs V => ?_)
  refine lv_if_ne (tgt := 15) X.1 X.2.1 dX11_point_8 (by decide) (fun hc => ?_) (fun hc => ?_)
  · replace h := kif_f hc h
    refine lv_iload_n X.1 X.2.1 dX11_point_15 rfl (lv_at hl 2 rfl) ?_
    refine lv_if_ne (tgt := 28) X.1 X.2.1 dX11_point_16 (by decide) (fun hc => ?_) (fun hc => ?_)
    · replace h := kif_f hc h
      refine lv_iload_n X.1 X.2.1 dX11_point_28 rfl (lv_at hl 2 rfl) ?_
      refine lv_iconst (v := (1 : Int32)) X.1 X.2.1 dX11_point_29 (by decide) ?_
      refine lv_icmp_ne (tgt := 42) X.1 X.2.1 dX11_point_30 (by decide) (fun hc => ?_) (fun hc => ?_)
      · replace h := kif_f hc h
        refine lv_iload_n X.1 X.2.1 dX11_point_42 rfl (lv_at hl 2 rfl) ?_
        refine lv_iconst (v := (2 : Int32)) X.1 X.2.1 dX11_point_43 (by decide) ?_
        refine lv_icmp_ne (tgt := 56) X.1 X.2.1 dX11_point_44 (by decide) (fun hc => ?_) (fun hc => ?_)
        · replace h := kif_f hc h
          refine lv_iload_n X.1 X.2.1 dX11_point_56 rfl (lv_at hl 2 rfl) ?_
          refine lv_iconst (v := (3 : Int32)) X.1 X.2.1 dX11_point_57 (by decide) ?_
          refine lv_icmp_ne (tgt := 77) X.1 X.2.1 dX11_point_58 (by decide) (fun hc => ?_) (fun hc => ?_)
          · replace h := kif_f hc h
            refine lv_iload_n X.1 X.2.1 dX11_point_77 rfl (lv_at hl 2 rfl) ?_
            refine lv_iconst (v := (4 : Int32)) X.1 X.2.1 dX11_point_78 (by decide) ?_
            refine lv_icmp_ne (tgt := 98) X.1 X.2.1 dX11_point_79 (by decide) (fun hc => ?_) (fun hc => ?_)
            · replace h := kif_f hc h
              refine lv_sipush (v := (-1000 : Int32)) X.1 X.2.1 dX11_point_98 (by decide) ?_
              obtain rfl := Option.some.inj h
              rw [hAA] at V
              rw [hQQ]
              exact k_iret X V rfl dX11_point_101
            · replace h := kif_t hc h
              refine lv_aload_n X.1 X.2.1 dX11_point_82 rfl (lv_at hl 0 rfl) ?_
              refine gf_X11_10 (i := 0) X V rfl dX11_point_83 ?_
              refine lv_iload_n X.1 X.2.1 dX11_point_86 rfl (lv_at hl 1 rfl) ?_
              refine lv_aload_n X.1 X.2.1 dX11_point_87 rfl (lv_at hl 0 rfl) ?_
              refine gf_X11_10 (i := 0) X V rfl dX11_point_88 ?_
              obtain ⟨x10, hx10, h⟩ := kb_of h
              refine s_callVi (segs' := [gX11 g aT bT zT, gX4 g (bT 0) zT_0]) (ci := 4) (i0 := 0) X V (c_X4_now l D g (bT 0) zT_0 x10 hx10) w_X11_158 ⟨Nat.le_of_ble_eq_true rfl, Nat.le_of_ble_eq_true rfl⟩ ⟨Nat.zero_le _, Nat.zero_le _⟩ rfl rfl rfl rfl [1] rfl rfl (kFst_refl _) rfl rfl hl.1 (Nat.le_of_ble_eq_true rfl) dX11_point_91 (fun H locs V => ?_)
              obtain ⟨x11, hx11, h⟩ := kb_of h
              refine s_callVi (segs' := [gX11 g aT bT zT, gX4 g (bT 0) zT_0]) (ci := 4) (i0 := 0) X V (c_X4_standY l D g (bT 0) zT_0 v1 x10 x11 hx11) w_X11_190 ⟨Nat.le_of_ble_eq_true rfl, Nat.le_of_ble_eq_true rfl⟩ ⟨Nat.zero_le _, Nat.zero_le _⟩ rfl rfl rfl rfl [1] rfl rfl (kFst_refl _) rfl rfl hl.1 (Nat.le_of_ble_eq_true rfl) dX11_point_94 (fun H locs V => ?_)
              obtain rfl := Option.some.inj h
              rw [hAA] at V
              rw [hQQ]
              exact k_iret X V rfl dX11_point_97
          · replace h := kif_t hc h
            refine lv_aload_n X.1 X.2.1 dX11_point_61 rfl (lv_at hl 0 rfl) ?_
            refine gf_X11_10 (i := 0) X V rfl dX11_point_62 ?_
            refine lv_iload_n X.1 X.2.1 dX11_point_65 rfl (lv_at hl 1 rfl) ?_
            refine lv_aload_n X.1 X.2.1 dX11_point_66 rfl (lv_at hl 0 rfl) ?_
            refine gf_X11_10 (i := 0) X V rfl dX11_point_67 ?_
            obtain ⟨x12, hx12, h⟩ := kb_of h
            refine s_callVi (segs' := [gX11 g aT bT zT, gX4 g (bT 0) zT_0]) (ci := 4) (i0 := 0) X V (c_X4_now l D g (bT 0) zT_0 x12 hx12) w_X11_158 ⟨Nat.le_of_ble_eq_true rfl, Nat.le_of_ble_eq_true rfl⟩ ⟨Nat.zero_le _, Nat.zero_le _⟩ rfl rfl rfl rfl [1] rfl rfl (kFst_refl _) rfl rfl hl.1 (Nat.le_of_ble_eq_true rfl) dX11_point_70 (fun H locs V => ?_)
            obtain ⟨x13, hx13, h⟩ := kb_of h
            refine s_callVi (segs' := [gX11 g aT bT zT, gX4 g (bT 0) zT_0]) (ci := 4) (i0 := 0) X V (c_X4_standX l D g (bT 0) zT_0 v1 x12 x13 hx13) w_X11_186 ⟨Nat.le_of_ble_eq_true rfl, Nat.le_of_ble_eq_true rfl⟩ ⟨Nat.zero_le _, Nat.zero_le _⟩ rfl rfl rfl rfl [1] rfl rfl (kFst_refl _) rfl rfl hl.1 (Nat.le_of_ble_eq_true rfl) dX11_point_73 (fun H locs V => ?_)
            obtain rfl := Option.some.inj h
            rw [hAA] at V
            rw [hQQ]
            exact k_iret X V rfl dX11_point_76
        · replace h := kif_t hc h
          refine lv_aload_n X.1 X.2.1 dX11_point_47 rfl (lv_at hl 0 rfl) ?_
          refine gf_X11_10 (i := 0) X V rfl dX11_point_48 ?_
          refine lv_iload_n X.1 X.2.1 dX11_point_51 rfl (lv_at hl 1 rfl) ?_
          obtain ⟨x14, hx14, h⟩ := kb_of h
          refine s_callVi (segs' := [gX11 g aT bT zT, gX4 g (bT 0) zT_0]) (ci := 4) (i0 := 0) X V (c_X4_heapOf l D g (bT 0) zT_0 v1 x14 hx14) w_X11_150 ⟨Nat.le_of_ble_eq_true rfl, Nat.le_of_ble_eq_true rfl⟩ ⟨Nat.zero_le _, Nat.zero_le _⟩ rfl rfl rfl rfl [1] rfl rfl (kFst_refl _) rfl rfl hl.1 (Nat.le_of_ble_eq_true rfl) dX11_point_52 (fun H locs V => ?_)
          obtain rfl := Option.some.inj h
          rw [hAA] at V
          rw [hQQ]
          exact k_iret X V rfl dX11_point_55
      · replace h := kif_t hc h
        refine lv_aload_n X.1 X.2.1 dX11_point_33 rfl (lv_at hl 0 rfl) ?_
        refine gf_X11_10 (i := 0) X V rfl dX11_point_34 ?_
        refine lv_iload_n X.1 X.2.1 dX11_point_37 rfl (lv_at hl 1 rfl) ?_
        obtain ⟨x15, hx15, h⟩ := kb_of h
        refine s_callVi (segs' := [gX11 g aT bT zT, gX4 g (bT 0) zT_0]) (ci := 4) (i0 := 0) X V (c_X4_y l D g (bT 0) zT_0 v1 x15 hx15) w_X11_183 ⟨Nat.le_of_ble_eq_true rfl, Nat.le_of_ble_eq_true rfl⟩ ⟨Nat.zero_le _, Nat.zero_le _⟩ rfl rfl rfl rfl [1] rfl rfl (kFst_refl _) rfl rfl hl.1 (Nat.le_of_ble_eq_true rfl) dX11_point_38 (fun H locs V => ?_)
        obtain rfl := Option.some.inj h
        rw [hAA] at V
        rw [hQQ]
        exact k_iret X V rfl dX11_point_41
    · replace h := kif_t hc h
      refine lv_aload_n X.1 X.2.1 dX11_point_19 rfl (lv_at hl 0 rfl) ?_
      refine gf_X11_10 (i := 0) X V rfl dX11_point_20 ?_
      refine lv_iload_n X.1 X.2.1 dX11_point_23 rfl (lv_at hl 1 rfl) ?_
      obtain ⟨x16, hx16, h⟩ := kb_of h
      refine s_callVi (segs' := [gX11 g aT bT zT, gX4 g (bT 0) zT_0]) (ci := 4) (i0 := 0) X V (c_X4_x l D g (bT 0) zT_0 v1 x16 hx16) w_X11_180 ⟨Nat.le_of_ble_eq_true rfl, Nat.le_of_ble_eq_true rfl⟩ ⟨Nat.zero_le _, Nat.zero_le _⟩ rfl rfl rfl rfl [1] rfl rfl (kFst_refl _) rfl rfl hl.1 (Nat.le_of_ble_eq_true rfl) dX11_point_24 (fun H locs V => ?_)
      obtain rfl := Option.some.inj h
      rw [hAA] at V
      rw [hQQ]
      exact k_iret X V rfl dX11_point_27
  · replace h := kif_t hc h
    refine lv_sipush (v := (-1000 : Int32)) X.1 X.2.1 dX11_point_11 (by decide) ?_
    obtain rfl := Option.some.inj h
    rw [hAA] at V
    rw [hQQ]
    exact k_iret X V rfl dX11_point_14

def p_X11_gatherAt (zT : tX11) (zT_0 : tX4) (zP1 : tX8) (v2 : Int32) (v3 : Int32) : Option (Bool × tX8) :=
  kb (p_X11_isSet v2) (fun x1 => kif ((kz x1) = 0) (some (false, zP1)) (kb (p_X4_bits zT_0 v2) (fun x2 => kb (p_X8_collect zP1 zT_0 x2 v3) (fun x3 => kb (p_X8_count x3) (fun x4 => kif (x4 ≤ 0) (some (false, x3)) (some (true, x3)))))))
set_option maxHeartbeats 4000000 in
set_option maxRecDepth 100000 in
theorem c_X11_gatherAt (l : Launch) (D : va_G) (g : kG) (aT : Nat → Nat) (aP1 : Nat → Nat) (bT : Nat → Nat → Nat) (zT : tX11) (zT_0 : tX4) (zP1 : tX8) (v2 : Int32) (v3 : Int32) (r : Bool × tX8) (h : p_X11_gatherAt zT zT_0 zP1 v2 v3 = some r) : kMi l yX11_gatherAt cX11_gatherAt 4 (some .boolean) (kR 3 72) D (kty g) [.ref (aT 0), .ref (aP1 0), .int v2, .int v3] (List.flatten [gX11 g aT bT zT, gX4 g (bT 0) zT_0, gX8 g aP1 zP1]) (kz r.1) (List.flatten [gX11 g aT bT zT, gX4 g (bT 0) zT_0, gX8 g aP1 r.2]) := by
  intro sz
  refine k_enter (lv := [(0, .ref (aT 0)), (1, .ref (aP1 0)), (2, .int v2), (3, .int v3)]) RX11 (by decide +kernel) rfl rfl (Nat.le_of_ble_eq_true rfl) ?_
  intro p en s m args below meth c ls hsz X V hl
  obtain ⟨QQ, hQQ⟩ : ∃ q, q = MQ below (va_Qi (fun r' (_ : Unit) => r' = kz r.1) (fun _ => kE D (List.flatten [gX11 g aT bT zT, gX4 g (bT 0) zT_0, gX8 g aP1 r.2])) (va_A (List.flatten [gX11 g aT bT zT, gX4 g (bT 0) zT_0, gX8 g aP1 zP1]) sz)) args s 0 0 (va_A (List.flatten [gX11 g aT bT zT, gX4 g (bT 0) zT_0, gX8 g aP1 zP1]) sz) := ⟨_, rfl⟩
  rw [← hQQ]
  obtain ⟨AA, hAA⟩ : ∃ q, q = va_A (List.flatten [gX11 g aT bT zT, gX4 g (bT 0) zT_0, gX8 g aP1 zP1]) sz := ⟨_, rfl⟩
  rw [← hAA] at V
  unfold p_X11_gatherAt at h
  refine lv_iload_n X.1 X.2.1 dX11_gatherAt_0 rfl (lv_at hl 2 rfl) ?_
  obtain ⟨x5, hx5, h⟩ := kb_of h
  refine s_callSi (segs' := [gX11 g aT bT zT, gX4 g (bT 0) zT_0, gX8 g aP1 zP1]) X V (c_X11_isSet l D g v2 x5 hx5) w_X11_193 ⟨Nat.le_of_ble_eq_true rfl, Nat.le_of_ble_eq_true rfl⟩ ⟨Nat.zero_le _, Nat.zero_le _⟩ rfl [] rfl rfl (kFst_refl _) rfl rfl hl.1 (Nat.le_of_ble_eq_true rfl) dX11_gatherAt_1 (fun H locs V => ?_)
  refine lv_if_ne (tgt := 9) X.1 X.2.1 dX11_gatherAt_4 (by decide) (fun hc => ?_) (fun hc => ?_)
  · replace h := kif_f hc h
    refine lv_aload_n X.1 X.2.1 dX11_gatherAt_9 rfl (lv_at hl 1 rfl) ?_
    refine lv_aload_n X.1 X.2.1 dX11_gatherAt_10 rfl (lv_at hl 0 rfl) ?_
    refine gf_X11_10 (i := 0) X V rfl dX11_gatherAt_11 ?_
    refine lv_aload_n X.1 X.2.1 dX11_gatherAt_14 rfl (lv_at hl 0 rfl) ?_
    refine gf_X11_10 (i := 0) X V rfl dX11_gatherAt_15 ?_
    refine lv_iload_n X.1 X.2.1 dX11_gatherAt_18 rfl (lv_at hl 2 rfl) ?_
    obtain ⟨x6, hx6, h⟩ := kb_of h
    refine s_callVl (segs' := [gX11 g aT bT zT, gX4 g (bT 0) zT_0, gX8 g aP1 zP1]) (ci := 4) (i0 := 0) X V (c_X4_bits l D g (bT 0) zT_0 v2 x6 hx6) w_X11_167 ⟨Nat.le_of_ble_eq_true rfl, Nat.le_of_ble_eq_true rfl⟩ ⟨Nat.zero_le _, Nat.zero_le _⟩ rfl rfl rfl rfl [1] rfl rfl (kFst_refl _) rfl rfl hl.1 (Nat.le_of_ble_eq_true rfl) dX11_gatherAt_19 (fun H locs V => ?_)
    refine lv_iload_n X.1 X.2.1 dX11_gatherAt_22 rfl (lv_at hl 3 rfl) ?_
    obtain ⟨x7, hx7, h⟩ := kb_of h
    refine s_callVv (segs' := [gX11 g aT bT zT, gX4 g (bT 0) zT_0, gX8 g aP1 x7]) (ci := 8) (i0 := 0) X V (c_X8_collect l D g aP1 (bT 0) zP1 zT_0 x6 v3 x7 hx7) w_X11_244 ⟨Nat.le_of_ble_eq_true rfl, Nat.le_of_ble_eq_true rfl⟩ ⟨Nat.zero_le _, Nat.zero_le _⟩ rfl rfl rfl rfl [2, 1] rfl rfl ⟨gX8_fst, rfl, trivial⟩ rfl rfl hl.1 (Nat.le_of_ble_eq_true rfl) dX11_gatherAt_23 (fun H locs V => ?_)
    refine lv_aload_n X.1 X.2.1 dX11_gatherAt_26 rfl (lv_at hl 1 rfl) ?_
    obtain ⟨x8, hx8, h⟩ := kb_of h
    refine s_callVi (segs' := [gX11 g aT bT zT, gX4 g (bT 0) zT_0, gX8 g aP1 x7]) (ci := 8) (i0 := 0) X V (c_X8_count l D g aP1 x7 x8 hx8) w_X11_199 ⟨Nat.le_of_ble_eq_true rfl, Nat.le_of_ble_eq_true rfl⟩ ⟨Nat.zero_le _, Nat.zero_le _⟩ rfl rfl rfl rfl [2] rfl rfl (kFst_refl _) rfl rfl hl.1 (Nat.le_of_ble_eq_true rfl) dX11_gatherAt_27 (fun H locs V => ?_)
    refine lv_if_le (tgt := 37) X.1 X.2.1 dX11_gatherAt_30 (by decide) (fun hc => ?_) (fun hc => ?_)
    · replace h := kif_t hc h
      refine lv_iconst (v := (0 : Int32)) X.1 X.2.1 dX11_gatherAt_37 (by decide) ?_
      obtain rfl := Option.some.inj h
      rw [hAA] at V
      rw [hQQ]
      exact k_zret X V (b := false) rfl rfl dX11_gatherAt_38
    · replace h := kif_f hc h
      refine lv_iconst (v := (1 : Int32)) X.1 X.2.1 dX11_gatherAt_33 (by decide) ?_
      refine lv_goto (tgt := 38) X.1 X.2.1 dX11_gatherAt_34 (by decide) ?_
      obtain rfl := Option.some.inj h
      rw [hAA] at V
      rw [hQQ]
      exact k_zret X V (b := true) rfl rfl dX11_gatherAt_38
  · replace h := kif_t hc h
    refine lv_iconst (v := (0 : Int32)) X.1 X.2.1 dX11_gatherAt_7 (by decide) ?_
    obtain rfl := Option.some.inj h
    rw [hAA] at V
    rw [hQQ]
    exact k_zret X V (b := false) rfl rfl dX11_gatherAt_8

def p_X11_gather (zT : tX11) (zT_0 : tX4) (zT_2 : tX8) (v1 : Int32) : Option (Bool × tX8) :=
  kb (p_X4_now zT_0) (fun x1 => kb (p_X11_gatherAt zT zT_0 zT_2 v1 x1) (fun x2 => some (x2.1, x2.2)))
set_option maxHeartbeats 4000000 in
set_option maxRecDepth 100000 in
theorem c_X11_gather (l : Launch) (D : va_G) (g : kG) (aT : Nat → Nat) (bT : Nat → Nat → Nat) (zT : tX11) (zT_0 : tX4) (zT_2 : tX8) (v1 : Int32) (r : Bool × tX8) (h : p_X11_gather zT zT_0 zT_2 v1 = some r) : kMi l yX11_gather cX11_gather 2 (some .boolean) (kR 4 95) D (kty g) [.ref (aT 0), .int v1] (List.flatten [gX11 g aT bT zT, gX4 g (bT 0) zT_0, gX8 g (bT 2) zT_2]) (kz r.1) (List.flatten [gX11 g aT bT zT, gX4 g (bT 0) zT_0, gX8 g (bT 2) r.2]) := by
  intro sz
  refine k_enter (lv := [(0, .ref (aT 0)), (1, .int v1)]) RX11 (by decide +kernel) rfl rfl (Nat.le_of_ble_eq_true rfl) ?_
  intro p en s m args below meth c ls hsz X V hl
  obtain ⟨QQ, hQQ⟩ : ∃ q, q = MQ below (va_Qi (fun r' (_ : Unit) => r' = kz r.1) (fun _ => kE D (List.flatten [gX11 g aT bT zT, gX4 g (bT 0) zT_0, gX8 g (bT 2) r.2])) (va_A (List.flatten [gX11 g aT bT zT, gX4 g (bT 0) zT_0, gX8 g (bT 2) zT_2]) sz)) args s 0 0 (va_A (List.flatten [gX11 g aT bT zT, gX4 g (bT 0) zT_0, gX8 g (bT 2) zT_2]) sz) := ⟨_, rfl⟩
  rw [← hQQ]
  obtain ⟨AA, hAA⟩ : ∃ q, q = va_A (List.flatten [gX11 g aT bT zT, gX4 g (bT 0) zT_0, gX8 g (bT 2) zT_2]) sz := ⟨_, rfl⟩
  rw [← hAA] at V
  unfold p_X11_gather at h
  refine lv_aload_n X.1 X.2.1 dX11_gather_0 rfl (lv_at hl 0 rfl) ?_
  refine lv_aload_n X.1 X.2.1 dX11_gather_1 rfl (lv_at hl 0 rfl) ?_
  refine gf_X11_26 (i := 0) X V rfl dX11_gather_2 ?_
  refine lv_iload_n X.1 X.2.1 dX11_gather_5 rfl (lv_at hl 1 rfl) ?_
  refine lv_aload_n X.1 X.2.1 dX11_gather_6 rfl (lv_at hl 0 rfl) ?_
  refine gf_X11_10 (i := 0) X V rfl dX11_gather_7 ?_
  obtain ⟨x3, hx3, h⟩ := kb_of h
  refine s_callVi (segs' := [gX11 g aT bT zT, gX4 g (bT 0) zT_0, gX8 g (bT 2) zT_2]) (ci := 4) (i0 := 0) X V (c_X4_now l D g (bT 0) zT_0 x3 hx3) w_X11_158 ⟨Nat.le_of_ble_eq_true rfl, Nat.le_of_ble_eq_true rfl⟩ ⟨Nat.zero_le _, Nat.zero_le _⟩ rfl rfl rfl rfl [1] rfl rfl (kFst_refl _) rfl rfl hl.1 (Nat.le_of_ble_eq_true rfl) dX11_gather_10 (fun H locs V => ?_)
  obtain ⟨x4, hx4, h⟩ := kb_of h
  refine s_callVi (segs' := [gX11 g aT bT zT, gX4 g (bT 0) zT_0, gX8 g (bT 2) x4.2]) (ci := 11) (i0 := 0) X V (c_X11_gatherAt l D g aT (bT 2) bT zT zT_0 zT_2 v1 x3 x4 hx4) w_X11_252 ⟨Nat.le_of_ble_eq_true rfl, Nat.le_of_ble_eq_true rfl⟩ ⟨Nat.zero_le _, Nat.zero_le _⟩ rfl rfl rfl rfl [0, 1, 2] rfl rfl ⟨rfl, rfl, gX8_fst, trivial⟩ rfl rfl hl.1 (Nat.le_of_ble_eq_true rfl) dX11_gather_13 (fun H locs V => ?_)
  obtain rfl := Option.some.inj h
  rw [hAA] at V
  rw [hQQ]
  exact k_zret X V (b := x4.1) rfl rfl dX11_gather_16

def p_X11_spots (zT : tX11) (zT_0 : tX4) (zT_2 : tX8) (v1 : Int32) : Option (Int32 × tX8) :=
  kb (p_X11_isSet v1) (fun x1 => kif ((kz x1) = 0) (some ((-1 : Int32), zT_2)) (kb (p_X11_gather zT zT_0 zT_2 v1) (fun x2 => kb (p_X8_count x2.2) (fun x3 => some (x3, x2.2)))))
set_option maxHeartbeats 4000000 in
set_option maxRecDepth 100000 in
theorem c_X11_spots (l : Launch) (D : va_G) (g : kG) (aT : Nat → Nat) (bT : Nat → Nat → Nat) (zT : tX11) (zT_0 : tX4) (zT_2 : tX8) (v1 : Int32) (r : Int32 × tX8) (h : p_X11_spots zT zT_0 zT_2 v1 = some r) : kMi l yX11_spots cX11_spots 2 (some .int) (kR 5 116) D (kty g) [.ref (aT 0), .int v1] (List.flatten [gX11 g aT bT zT, gX4 g (bT 0) zT_0, gX8 g (bT 2) zT_2]) r.1 (List.flatten [gX11 g aT bT zT, gX4 g (bT 0) zT_0, gX8 g (bT 2) r.2]) := by
  intro sz
  refine k_enter (lv := [(0, .ref (aT 0)), (1, .int v1)]) RX11 (by decide +kernel) rfl rfl (Nat.le_of_ble_eq_true rfl) ?_
  intro p en s m args below meth c ls hsz X V hl
  obtain ⟨QQ, hQQ⟩ : ∃ q, q = MQ below (va_Qi (fun r' (_ : Unit) => r' = r.1) (fun _ => kE D (List.flatten [gX11 g aT bT zT, gX4 g (bT 0) zT_0, gX8 g (bT 2) r.2])) (va_A (List.flatten [gX11 g aT bT zT, gX4 g (bT 0) zT_0, gX8 g (bT 2) zT_2]) sz)) args s 0 0 (va_A (List.flatten [gX11 g aT bT zT, gX4 g (bT 0) zT_0, gX8 g (bT 2) zT_2]) sz) := ⟨_, rfl⟩
  rw [← hQQ]
  obtain ⟨AA, hAA⟩ : ∃ q, q = va_A (List.flatten [gX11 g aT bT zT, gX4 g (bT 0) zT_0, gX8 g (bT 2) zT_2]) sz := ⟨_, rfl⟩
  rw [← hAA] at V
  unfold p_X11_spots at h
  refine lv_iload_n X.1 X.2.1 dX11_spots_0 rfl (lv_at hl 1 rfl) ?_
  obtain ⟨x4, hx4, h⟩ := kb_of h
  refine s_callSi (segs' := [gX11 g aT bT zT, gX4 g (bT 0) zT_0, gX8 g (bT 2) zT_2]) X V (c_X11_isSet l D g v1 x4 hx4) w_X11_193 ⟨Nat.le_of_ble_eq_true rfl, Nat.le_of_ble_eq_true rfl⟩ ⟨Nat.zero_le _, Nat.zero_le _⟩ rfl [] rfl rfl (kFst_refl _) rfl rfl hl.1 (Nat.le_of_ble_eq_true rfl) dX11_spots_1 (fun H locs V => ?_)
  refine lv_if_ne (tgt := 9) X.1 X.2.1 dX11_spots_4 (by decide) (fun hc => ?_) (fun hc => ?_)
  · replace h := kif_f hc h
    refine lv_aload_n X.1 X.2.1 dX11_spots_9 rfl (lv_at hl 0 rfl) ?_
    refine lv_iload_n X.1 X.2.1 dX11_spots_10 rfl (lv_at hl 1 rfl) ?_
    obtain ⟨x5, hx5, h⟩ := kb_of h
    refine s_callVi (segs' := [gX11 g aT bT zT, gX4 g (bT 0) zT_0, gX8 g (bT 2) x5.2]) (ci := 11) (i0 := 0) X V (c_X11_gather l D g aT bT zT zT_0 zT_2 v1 x5 hx5) w_X11_196 ⟨Nat.le_of_ble_eq_true rfl, Nat.le_of_ble_eq_true rfl⟩ ⟨Nat.zero_le _, Nat.zero_le _⟩ rfl rfl rfl rfl [0, 1, 2] rfl rfl ⟨rfl, rfl, gX8_fst, trivial⟩ rfl rfl hl.1 (Nat.le_of_ble_eq_true rfl) dX11_spots_11 (fun H locs V => ?_)
    refine lv_pop X.1 X.2.1 dX11_spots_14 rfl ?_
    refine lv_aload_n X.1 X.2.1 dX11_spots_15 rfl (lv_at hl 0 rfl) ?_
    refine gf_X11_26 (i := 0) X V rfl dX11_spots_16 ?_
    obtain ⟨x6, hx6, h⟩ := kb_of h
    refine s_callVi (segs' := [gX11 g aT bT zT, gX4 g (bT 0) zT_0, gX8 g (bT 2) x5.2]) (ci := 8) (i0 := 0) X V (c_X8_count l D g (bT 2) x5.2 x6 hx6) w_X11_199 ⟨Nat.le_of_ble_eq_true rfl, Nat.le_of_ble_eq_true rfl⟩ ⟨Nat.zero_le _, Nat.zero_le _⟩ rfl rfl rfl rfl [2] rfl rfl (kFst_refl _) rfl rfl hl.1 (Nat.le_of_ble_eq_true rfl) dX11_spots_19 (fun H locs V => ?_)
    obtain rfl := Option.some.inj h
    rw [hAA] at V
    rw [hQQ]
    exact k_iret X V rfl dX11_spots_22
  · replace h := kif_t hc h
    refine lv_iconst (v := (-1 : Int32)) X.1 X.2.1 dX11_spots_7 (by decide) ?_
    obtain rfl := Option.some.inj h
    rw [hAA] at V
    rw [hQQ]
    exact k_iret X V rfl dX11_spots_8

def p_X11_spot (zT : tX11) (zT_0 : tX4) (zT_2 : tX8) (v1 : Int32) (v2 : Int32) (v3 : Int32) : Option (Int32 × tX8) :=
  kb (p_X11_gather zT zT_0 zT_2 v1) (fun x1 => kif ((kz x1.1) = 0) (some ((-1000 : Int32), x1.2)) (kif (v2 < 0) (some ((-1000 : Int32), x1.2)) (kb (p_X8_count x1.2) (fun x2 => kif (v2 < x2) (kif (v3 = 0) (kb (p_X8_x x1.2 v2) (fun x3 => some (x3, x1.2))) (kif (v3 = (1 : Int32)) (kb (p_X8_y x1.2 v2) (fun x4 => some (x4, x1.2))) (kif (v3 = (2 : Int32)) (kb (p_X8_number x1.2 v2) (fun x5 => some (x5, x1.2))) (some ((-1000 : Int32), x1.2))))) (some ((-1000 : Int32), x1.2))))))
set_option maxHeartbeats 4000000 in
set_option maxRecDepth 100000 in
theorem c_X11_spot (l : Launch) (D : va_G) (g : kG) (aT : Nat → Nat) (bT : Nat → Nat → Nat) (zT : tX11) (zT_0 : tX4) (zT_2 : tX8) (v1 : Int32) (v2 : Int32) (v3 : Int32) (r : Int32 × tX8) (h : p_X11_spot zT zT_0 zT_2 v1 v2 v3 = some r) : kMi l yX11_spot cX11_spot 4 (some .int) (kR 5 116) D (kty g) [.ref (aT 0), .int v1, .int v2, .int v3] (List.flatten [gX11 g aT bT zT, gX4 g (bT 0) zT_0, gX8 g (bT 2) zT_2]) r.1 (List.flatten [gX11 g aT bT zT, gX4 g (bT 0) zT_0, gX8 g (bT 2) r.2]) := by
  intro sz
  refine k_enter (lv := [(0, .ref (aT 0)), (1, .int v1), (2, .int v2), (3, .int v3)]) RX11 (by decide +kernel) rfl rfl (Nat.le_of_ble_eq_true rfl) ?_
  intro p en s m args below meth c ls hsz X V hl
  obtain ⟨QQ, hQQ⟩ : ∃ q, q = MQ below (va_Qi (fun r' (_ : Unit) => r' = r.1) (fun _ => kE D (List.flatten [gX11 g aT bT zT, gX4 g (bT 0) zT_0, gX8 g (bT 2) r.2])) (va_A (List.flatten [gX11 g aT bT zT, gX4 g (bT 0) zT_0, gX8 g (bT 2) zT_2]) sz)) args s 0 0 (va_A (List.flatten [gX11 g aT bT zT, gX4 g (bT 0) zT_0, gX8 g (bT 2) zT_2]) sz) := ⟨_, rfl⟩
  rw [← hQQ]
  obtain ⟨AA, hAA⟩ : ∃ q, q = va_A (List.flatten [gX11 g aT bT zT, gX4 g (bT 0) zT_0, gX8 g (bT 2) zT_2]) sz := ⟨_, rfl⟩
  rw [← hAA] at V
  unfold p_X11_spot at h
  refine lv_aload_n X.1 X.2.1 dX11_spot_0 rfl (lv_at hl 0 rfl) ?_
  refine lv_iload_n X.1 X.2.1 dX11_spot_1 rfl (lv_at hl 1 rfl) ?_
  obtain ⟨x6, hx6, h⟩ := kb_of h
  refine s_callVi (segs' := [gX11 g aT bT zT, gX4 g (bT 0) zT_0, gX8 g (bT 2) x6.2]) (ci := 11) (i0 := 0) X V (c_X11_gather l D g aT bT zT zT_0 zT_2 v1 x6 hx6) w_X11_196 ⟨Nat.le_of_ble_eq_true rfl, Nat.le_of_ble_eq_true rfl⟩ ⟨Nat.zero_le _, Nat.zero_le _⟩ rfl rfl rfl rfl [0, 1, 2] rfl rfl ⟨rfl, rfl, gX8_fst, trivial⟩ rfl rfl hl.1 (Nat.le_of_ble_eq_true rfl) dX11_spot_2 (fun H locs V => ?_)
  refine lv_if_eq (tgt := 23) X.1 X.2.1 dX11_spot_5 (by decide) (fun hc => ?_) (fun hc => ?_)
  · replace h := kif_t hc h
    refine lv_sipush (v := (-1000 : Int32)) X.1 X.2.1 dX11_spot_23 (by decide) ?_
    obtain rfl := Option.some.inj h
    rw [hAA] at V
    rw [hQQ]
    exact k_iret X V rfl dX11_spot_26
  · replace h := kif_f hc h
    refine lv_iload_n X.1 X.2.1 dX11_spot_8 rfl (lv_at hl 2 rfl) ?_
    refine lv_if_lt (tgt := 23) X.1 X.2.1 dX11_spot_9 (by decide) (fun hc => ?_) (fun hc => ?_)
    · replace h := kif_t hc h
      refine lv_sipush (v := (-1000 : Int32)) X.1 X.2.1 dX11_spot_23 (by decide) ?_
      obtain rfl := Option.some.inj h
      rw [hAA] at V
      rw [hQQ]
      exact k_iret X V rfl dX11_spot_26
    · replace h := kif_f hc h
      refine lv_iload_n X.1 X.2.1 dX11_spot_12 rfl (lv_at hl 2 rfl) ?_
      refine lv_aload_n X.1 X.2.1 dX11_spot_13 rfl (lv_at hl 0 rfl) ?_
      refine gf_X11_26 (i := 0) X V rfl dX11_spot_14 ?_
      obtain ⟨x7, hx7, h⟩ := kb_of h
      refine s_callVi (segs' := [gX11 g aT bT zT, gX4 g (bT 0) zT_0, gX8 g (bT 2) x6.2]) (ci := 8) (i0 := 0) X V (c_X8_count l D g (bT 2) x6.2 x7 hx7) w_X11_199 ⟨Nat.le_of_ble_eq_true rfl, Nat.le_of_ble_eq_true rfl⟩ ⟨Nat.zero_le _, Nat.zero_le _⟩ rfl rfl rfl rfl [2] rfl rfl (kFst_refl _) rfl rfl hl.1 (Nat.le_of_ble_eq_true rfl) dX11_spot_17 (fun H locs V => ?_)
      refine lv_icmp_lt (tgt := 27) X.1 X.2.1 dX11_spot_20 (by decide) (fun hc => ?_) (fun hc => ?_)
      · replace h := kif_t hc h
        refine lv_iload_n X.1 X.2.1 dX11_spot_27 rfl (lv_at hl 3 rfl) ?_
        refine lv_if_ne (tgt := 40) X.1 X.2.1 dX11_spot_28 (by decide) (fun hc => ?_) (fun hc => ?_)
        · replace h := kif_f hc h
          refine lv_iload_n X.1 X.2.1 dX11_spot_40 rfl (lv_at hl 3 rfl) ?_
          refine lv_iconst (v := (1 : Int32)) X.1 X.2.1 dX11_spot_41 (by decide) ?_
          refine lv_icmp_ne (tgt := 54) X.1 X.2.1 dX11_spot_42 (by decide) (fun hc => ?_) (fun hc => ?_)
          · replace h := kif_f hc h
            refine lv_iload_n X.1 X.2.1 dX11_spot_54 rfl (lv_at hl 3 rfl) ?_
            refine lv_iconst (v := (2 : Int32)) X.1 X.2.1 dX11_spot_55 (by decide) ?_
            refine lv_icmp_ne (tgt := 68) X.1 X.2.1 dX11_spot_56 (by decide) (fun hc => ?_) (fun hc => ?_)
            · replace h := kif_f hc h
              refine lv_sipush (v := (-1000 : Int32)) X.1 X.2.1 dX11_spot_68 (by decide) ?_
              obtain rfl := Option.some.inj h
              rw [hAA] at V
              rw [hQQ]
              exact k_iret X V rfl dX11_spot_71
            · replace h := kif_t hc h
              refine lv_aload_n X.1 X.2.1 dX11_spot_59 rfl (lv_at hl 0 rfl) ?_
              refine gf_X11_26 (i := 0) X V rfl dX11_spot_60 ?_
              refine lv_iload_n X.1 X.2.1 dX11_spot_63 rfl (lv_at hl 2 rfl) ?_
              obtain ⟨x8, hx8, h⟩ := kb_of h
              refine s_callVi (segs' := [gX11 g aT bT zT, gX4 g (bT 0) zT_0, gX8 g (bT 2) x6.2]) (ci := 8) (i0 := 0) X V (c_X8_number l D g (bT 2) x6.2 v2 x8 hx8) w_X11_204 ⟨Nat.le_of_ble_eq_true rfl, Nat.le_of_ble_eq_true rfl⟩ ⟨Nat.zero_le _, Nat.zero_le _⟩ rfl rfl rfl rfl [2] rfl rfl (kFst_refl _) rfl rfl hl.1 (Nat.le_of_ble_eq_true rfl) dX11_spot_64 (fun H locs V => ?_)
              obtain rfl := Option.some.inj h
              rw [hAA] at V
              rw [hQQ]
              exact k_iret X V rfl dX11_spot_67
          · replace h := kif_t hc h
            refine lv_aload_n X.1 X.2.1 dX11_spot_45 rfl (lv_at hl 0 rfl) ?_
            refine gf_X11_26 (i := 0) X V rfl dX11_spot_46 ?_
            refine lv_iload_n X.1 X.2.1 dX11_spot_49 rfl (lv_at hl 2 rfl) ?_
            obtain ⟨x9, hx9, h⟩ := kb_of h
            refine s_callVi (segs' := [gX11 g aT bT zT, gX4 g (bT 0) zT_0, gX8 g (bT 2) x6.2]) (ci := 8) (i0 := 0) X V (c_X8_y l D g (bT 2) x6.2 v2 x9 hx9) w_X11_203 ⟨Nat.le_of_ble_eq_true rfl, Nat.le_of_ble_eq_true rfl⟩ ⟨Nat.zero_le _, Nat.zero_le _⟩ rfl rfl rfl rfl [2] rfl rfl (kFst_refl _) rfl rfl hl.1 (Nat.le_of_ble_eq_true rfl) dX11_spot_50 (fun H locs V => ?_)
            obtain rfl := Option.some.inj h
            rw [hAA] at V
            rw [hQQ]
            exact k_iret X V rfl dX11_spot_53
        · replace h := kif_t hc h
          refine lv_aload_n X.1 X.2.1 dX11_spot_31 rfl (lv_at hl 0 rfl) ?_
          refine gf_X11_26 (i := 0) X V rfl dX11_spot_32 ?_
          refine lv_iload_n X.1 X.2.1 dX11_spot_35 rfl (lv_at hl 2 rfl) ?_
          obtain ⟨x10, hx10, h⟩ := kb_of h
          refine s_callVi (segs' := [gX11 g aT bT zT, gX4 g (bT 0) zT_0, gX8 g (bT 2) x6.2]) (ci := 8) (i0 := 0) X V (c_X8_x l D g (bT 2) x6.2 v2 x10 hx10) w_X11_202 ⟨Nat.le_of_ble_eq_true rfl, Nat.le_of_ble_eq_true rfl⟩ ⟨Nat.zero_le _, Nat.zero_le _⟩ rfl rfl rfl rfl [2] rfl rfl (kFst_refl _) rfl rfl hl.1 (Nat.le_of_ble_eq_true rfl) dX11_spot_36 (fun H locs V => ?_)
          obtain rfl := Option.some.inj h
          rw [hAA] at V
          rw [hQQ]
          exact k_iret X V rfl dX11_spot_39
      · replace h := kif_f hc h
        refine lv_sipush (v := (-1000 : Int32)) X.1 X.2.1 dX11_spot_23 (by decide) ?_
        obtain rfl := Option.some.inj h
        rw [hAA] at V
        rw [hQQ]
        exact k_iret X V rfl dX11_spot_26
