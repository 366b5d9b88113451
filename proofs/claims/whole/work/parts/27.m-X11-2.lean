def p_X11_meetAt (zT : tX11) (zT_0 : tX4) (zT_2 : tX8) (zT_3 : tX8) (zT_6 : tX5) (zT_7 : tX5) (v1 : Int32) (v2 : Int32) (v3 : Int32) : Option (Int32 × tX8 × tX8 × tX5 × tX5) :=
  kb (p_X11_gatherAt zT zT_0 zT_2 v1 v3) (fun x1 => kif ((kz x1.1) = 0) (some ((-1 : Int32), x1.2, zT_3, zT_6, zT_7)) (kb (p_X11_gatherAt zT zT_0 zT_3 v2 v3) (fun x2 => kif ((kz x2.1) = 0) (some ((-1 : Int32), x1.2, x2.2, zT_6, zT_7)) (kb (p_X5_about zT_6 x1.2) (fun x3 => kb (p_X5_about zT_7 x2.2) (fun x4 => kb (p_X5_touches x3 x4) (fun x5 => kif ((kz x5) = 0) (some ((0 : Int32), x1.2, x2.2, x3, x4)) (some ((1 : Int32), x1.2, x2.2, x3, x4)))))))))
set_option maxHeartbeats 4000000 in
set_option maxRecDepth 100000 in
theorem c_X11_meetAt (l : Launch) (D : va_G) (g : kG) (aT : Nat → Nat) (bT : Nat → Nat → Nat) (zT : tX11) (zT_0 : tX4) (zT_2 : tX8) (zT_3 : tX8) (zT_6 : tX5) (zT_7 : tX5) (v1 : Int32) (v2 : Int32) (v3 : Int32) (r : Int32 × tX8 × tX8 × tX5 × tX5) (h : p_X11_meetAt zT zT_0 zT_2 zT_3 zT_6 zT_7 v1 v2 v3 = some r) : kMi l yX11_meetAt cX11_meetAt 4 (some .int) (kR 5 118) D (kty g) [.ref (aT 0), .int v1, .int v2, .int v3] (List.flatten [gX11 g aT bT zT, gX4 g (bT 0) zT_0, gX8 g (bT 2) zT_2, gX8 g (bT 3) zT_3, gX5 g (bT 6) zT_6, gX5 g (bT 7) zT_7]) r.1 (List.flatten [gX11 g aT bT zT, gX4 g (bT 0) zT_0, gX8 g (bT 2) r.2.1, gX8 g (bT 3) r.2.2.1, gX5 g (bT 6) r.2.2.2.1, gX5 g (bT 7) r.2.2.2.2]) := by
  intro sz
  refine k_enter (lv := [(0, .ref (aT 0)), (1, .int v1), (2, .int v2), (3, .int v3)]) RX11 (by decide +kernel) rfl rfl (Nat.le_of_ble_eq_true rfl) ?_
  intro p en s m args below meth c ls hsz X V hl
  obtain ⟨QQ, hQQ⟩ : ∃ q, q = MQ below (va_Qi (fun r' (_ : Unit) => r' = r.1) (fun _ => kE D (List.flatten [gX11 g aT bT zT, gX4 g (bT 0) zT_0, gX8 g (bT 2) r.2.1, gX8 g (bT 3) r.2.2.1, gX5 g (bT 6) r.2.2.2.1, gX5 g (bT 7) r.2.2.2.2])) (va_A (List.flatten [gX11 g aT bT zT, gX4 g (bT 0) zT_0, gX8 g (bT 2) zT_2, gX8 g (bT 3) zT_3, gX5 g (bT 6) zT_6, gX5 g (bT 7) zT_7]) sz)) args s 0 0 (va_A (List.flatten [gX11 g aT bT zT, gX4 g (bT 0) zT_0, gX8 g (bT 2) zT_2, gX8 g (bT 3) zT_3, gX5 g (bT 6) zT_6, gX5 g (bT 7) zT_7]) sz) := ⟨_, rfl⟩
  rw [← hQQ]
  obtain ⟨AA, hAA⟩ : ∃ q, q = va_A (List.flatten [gX11 g aT bT zT, gX4 g (bT 0) zT_0, gX8 g (bT 2) zT_2, gX8 g (bT 3) zT_3, gX5 g (bT 6) zT_6, gX5 g (bT 7) zT_7]) sz := ⟨_, rfl⟩
  rw [← hAA] at V
  unfold p_X11_meetAt at h
  refine lv_aload_n X.1 X.2.1 dX11_meetAt_0 rfl (lv_at hl 0 rfl) ?_
  refine lv_aload_n X.1 X.2.1 dX11_meetAt_1 rfl (lv_at hl 0 rfl) ?_
  refine gf_X11_26 (i := 0) X V rfl dX11_meetAt_2 ?_
  refine lv_iload_n X.1 X.2.1 dX11_meetAt_5 rfl (lv_at hl 1 rfl) ?_
  refine lv_iload_n X.1 X.2.1 dX11_meetAt_6 rfl (lv_at hl 3 rfl) ?_
  obtain ⟨x6, hx6, h⟩ := kb_of h
  refine s_callVi (segs' := [gX11 g aT bT zT, gX4 g (bT 0) zT_0, gX8 g (bT 2) x6.2, gX8 g (bT 3) zT_3, gX5 g (bT 6) zT_6, gX5 g (bT 7) zT_7]) (ci := 11) (i0 := 0) X V (c_X11_gatherAt l D g aT (bT 2) bT zT zT_0 zT_2 v1 v3 x6 hx6) w_X11_252 ⟨Nat.le_of_ble_eq_true rfl, Nat.le_of_ble_eq_true rfl⟩ ⟨Nat.zero_le _, Nat.zero_le _⟩ rfl rfl rfl rfl [0, 1, 2] rfl rfl ⟨rfl, rfl, gX8_fst, trivial⟩ rfl rfl hl.1 (Nat.le_of_ble_eq_true rfl) dX11_meetAt_7 (fun H locs V => ?_)
  refine lv_if_eq (tgt := 26) X.1 X.2.1 dX11_meetAt_10 (by decide) (fun hc => ?_) (fun hc => ?_)
  · replace h := kif_t hc h
    refine lv_iconst (v := (-1 : Int32)) X.1 X.2.1 dX11_meetAt_26 (by decide) ?_
    obtain rfl := Option.some.inj h
    rw [hAA] at V
    rw [hQQ]
    exact k_iret X V rfl dX11_meetAt_27
  · replace h := kif_f hc h
    refine lv_aload_n X.1 X.2.1 dX11_meetAt_13 rfl (lv_at hl 0 rfl) ?_
    refine lv_aload_n X.1 X.2.1 dX11_meetAt_14 rfl (lv_at hl 0 rfl) ?_
    refine gf_X11_30 (i := 0) X V rfl dX11_meetAt_15 ?_
    refine lv_iload_n X.1 X.2.1 dX11_meetAt_18 rfl (lv_at hl 2 rfl) ?_
    refine lv_iload_n X.1 X.2.1 dX11_meetAt_19 rfl (lv_at hl 3 rfl) ?_
    obtain ⟨x7, hx7, h⟩ := kb_of h
    refine s_callVi (segs' := [gX11 g aT bT zT, gX4 g (bT 0) zT_0, gX8 g (bT 2) x6.2, gX8 g (bT 3) x7.2, gX5 g (bT 6) zT_6, gX5 g (bT 7) zT_7]) (ci := 11) (i0 := 0) X V (c_X11_gatherAt l D g aT (bT 3) bT zT zT_0 zT_3 v2 v3 x7 hx7) w_X11_252 ⟨Nat.le_of_ble_eq_true rfl, Nat.le_of_ble_eq_true rfl⟩ ⟨Nat.zero_le _, Nat.zero_le _⟩ rfl rfl rfl rfl [0, 1, 3] rfl rfl ⟨rfl, rfl, gX8_fst, trivial⟩ rfl rfl hl.1 (Nat.le_of_ble_eq_true rfl) dX11_meetAt_20 (fun H locs V => ?_)
    refine lv_if_ne (tgt := 28) X.1 X.2.1 dX11_meetAt_23 (by decide) (fun hc => ?_) (fun hc => ?_)
    · replace h := kif_f hc h
      refine lv_aload_n X.1 X.2.1 dX11_meetAt_28 rfl (lv_at hl 0 rfl) ?_
      refine gf_X11_46 (i := 0) X V rfl dX11_meetAt_29 ?_
      refine lv_aload_n X.1 X.2.1 dX11_meetAt_32 rfl (lv_at hl 0 rfl) ?_
      refine gf_X11_26 (i := 0) X V rfl dX11_meetAt_33 ?_
      obtain ⟨x8, hx8, h⟩ := kb_of h
      refine s_callVv (segs' := [gX11 g aT bT zT, gX4 g (bT 0) zT_0, gX8 g (bT 2) x6.2, gX8 g (bT 3) x7.2, gX5 g (bT 6) x8, gX5 g (bT 7) zT_7]) (ci := 5) (i0 := 0) X V (c_X5_about l D g (bT 6) (bT 2) zT_6 x6.2 x8 hx8) w_X11_260 ⟨Nat.le_of_ble_eq_true rfl, Nat.le_of_ble_eq_true rfl⟩ ⟨Nat.zero_le _, Nat.zero_le _⟩ rfl rfl rfl rfl [4, 2] rfl rfl ⟨gX5_fst, rfl, trivial⟩ rfl rfl hl.1 (Nat.le_of_ble_eq_true rfl) dX11_meetAt_36 (fun H locs V => ?_)
      refine lv_aload_n X.1 X.2.1 dX11_meetAt_39 rfl (lv_at hl 0 rfl) ?_
      refine gf_X11_50 (i := 0) X V rfl dX11_meetAt_40 ?_
      refine lv_aload_n X.1 X.2.1 dX11_meetAt_43 rfl (lv_at hl 0 rfl) ?_
      refine gf_X11_30 (i := 0) X V rfl dX11_meetAt_44 ?_
      obtain ⟨x9, hx9, h⟩ := kb_of h
      refine s_callVv (segs' := [gX11 g aT bT zT, gX4 g (bT 0) zT_0, gX8 g (bT 2) x6.2, gX8 g (bT 3) x7.2, gX5 g (bT 6) x8, gX5 g (bT 7) x9]) (ci := 5) (i0 := 0) X V (c_X5_about l D g (bT 7) (bT 3) zT_7 x7.2 x9 hx9) w_X11_260 ⟨Nat.le_of_ble_eq_true rfl, Nat.le_of_ble_eq_true rfl⟩ ⟨Nat.zero_le _, Nat.zero_le _⟩ rfl rfl rfl rfl [5, 3] rfl rfl ⟨gX5_fst, rfl, trivial⟩ rfl rfl hl.1 (Nat.le_of_ble_eq_true rfl) dX11_meetAt_47 (fun H locs V => ?_)
      refine lv_aload_n X.1 X.2.1 dX11_meetAt_50 rfl (lv_at hl 0 rfl) ?_
      refine gf_X11_46 (i := 0) X V rfl dX11_meetAt_51 ?_
      refine lv_aload_n X.1 X.2.1 dX11_meetAt_54 rfl (lv_at hl 0 rfl) ?_
      refine gf_X11_50 (i := 0) X V rfl dX11_meetAt_55 ?_
      obtain ⟨x10, hx10, h⟩ := kb_of h
      refine s_callVi (segs' := [gX11 g aT bT zT, gX4 g (bT 0) zT_0, gX8 g (bT 2) x6.2, gX8 g (bT 3) x7.2, gX5 g (bT 6) x8, gX5 g (bT 7) x9]) (ci := 5) (i0 := 0) X V (c_X5_touches l D g (bT 6) (bT 7) x8 x9 x10 hx10) w_X11_378 ⟨Nat.le_of_ble_eq_true rfl, Nat.le_of_ble_eq_true rfl⟩ ⟨Nat.zero_le _, Nat.zero_le _⟩ rfl rfl rfl rfl [4, 5] rfl rfl (kFst_refl _) rfl rfl hl.1 (Nat.le_of_ble_eq_true rfl) dX11_meetAt_58 (fun H locs V => ?_)
      refine lv_if_eq (tgt := 68) X.1 X.2.1 dX11_meetAt_61 (by decide) (fun hc => ?_) (fun hc => ?_)
      · replace h := kif_t hc h
        refine lv_iconst (v := (0 : Int32)) X.1 X.2.1 dX11_meetAt_68 (by decide) ?_
        obtain rfl := Option.some.inj h
        rw [hAA] at V
        rw [hQQ]
        exact k_iret X V rfl dX11_meetAt_69
      · replace h := kif_f hc h
        refine lv_iconst (v := (1 : Int32)) X.1 X.2.1 dX11_meetAt_64 (by decide) ?_
        refine lv_goto (tgt := 69) X.1 X.2.1 dX11_meetAt_65 (by decide) ?_
        obtain rfl := Option.some.inj h
        rw [hAA] at V
        rw [hQQ]
        exact k_iret X V rfl dX11_meetAt_69
    · replace h := kif_t hc h
      refine lv_iconst (v := (-1 : Int32)) X.1 X.2.1 dX11_meetAt_26 (by decide) ?_
      obtain rfl := Option.some.inj h
      rw [hAA] at V
      rw [hQQ]
      exact k_iret X V rfl dX11_meetAt_27

def p_X11_meets (zT : tX11) (zT_0 : tX4) (zT_2 : tX8) (zT_3 : tX8) (zT_6 : tX5) (zT_7 : tX5) (v1 : Int32) (v2 : Int32) : Option (Int32 × tX8 × tX8 × tX5 × tX5) :=
  kb (p_X4_now zT_0) (fun x1 => kb (p_X11_meetAt zT zT_0 zT_2 zT_3 zT_6 zT_7 v1 v2 x1) (fun x2 => some (x2.1, x2.2.1, x2.2.2.1, x2.2.2.2.1, x2.2.2.2.2)))
set_option maxHeartbeats 4000000 in
set_option maxRecDepth 100000 in
theorem c_X11_meets (l : Launch) (D : va_G) (g : kG) (aT : Nat → Nat) (bT : Nat → Nat → Nat) (zT : tX11) (zT_0 : tX4) (zT_2 : tX8) (zT_3 : tX8) (zT_6 : tX5) (zT_7 : tX5) (v1 : Int32) (v2 : Int32) (r : Int32 × tX8 × tX8 × tX5 × tX5) (h : p_X11_meets zT zT_0 zT_2 zT_3 zT_6 zT_7 v1 v2 = some r) : kMi l yX11_meets cX11_meets 3 (some .int) (kR 6 141) D (kty g) [.ref (aT 0), .int v1, .int v2] (List.flatten [gX11 g aT bT zT, gX4 g (bT 0) zT_0, gX8 g (bT 2) zT_2, gX8 g (bT 3) zT_3, gX5 g (bT 6) zT_6, gX5 g (bT 7) zT_7]) r.1 (List.flatten [gX11 g aT bT zT, gX4 g (bT 0) zT_0, gX8 g (bT 2) r.2.1, gX8 g (bT 3) r.2.2.1, gX5 g (bT 6) r.2.2.2.1, gX5 g (bT 7) r.2.2.2.2]) := by
  intro sz
  refine k_enter (lv := [(0, .ref (aT 0)), (1, .int v1), (2, .int v2)]) RX11 (by decide +kernel) rfl rfl (Nat.le_of_ble_eq_true rfl) ?_
  intro p en s m args below meth c ls hsz X V hl
  obtain ⟨QQ, hQQ⟩ : ∃ q, q = MQ below (va_Qi (fun r' (_ : Unit) => r' = r.1) (fun _ => kE D (List.flatten [gX11 g aT bT zT, gX4 g (bT 0) zT_0, gX8 g (bT 2) r.2.1, gX8 g (bT 3) r.2.2.1, gX5 g (bT 6) r.2.2.2.1, gX5 g (bT 7) r.2.2.2.2])) (va_A (List.flatten [gX11 g aT bT zT, gX4 g (bT 0) zT_0, gX8 g (bT 2) zT_2, gX8 g (bT 3) zT_3, gX5 g (bT 6) zT_6, gX5 g (bT 7) zT_7]) sz)) args s 0 0 (va_A (List.flatten [gX11 g aT bT zT, gX4 g (bT 0) zT_0, gX8 g (bT 2) zT_2, gX8 g (bT 3) zT_3, gX5 g (bT 6) zT_6, gX5 g (bT 7) zT_7]) sz) := ⟨_, rfl⟩
  rw [← hQQ]
  obtain ⟨AA, hAA⟩ : ∃ q, q = va_A (List.flatten [gX11 g aT bT zT, gX4 g (bT 0) zT_0, gX8 g (bT 2) zT_2, gX8 g (bT 3) zT_3, gX5 g (bT 6) zT_6, gX5 g (bT 7) zT_7]) sz := ⟨_, rfl⟩
  rw [← hAA] at V
  unfold p_X11_meets at h
  refine lv_aload_n X.1 X.2.1 dX11_meets_0 rfl (lv_at hl 0 rfl) ?_
  refine lv_iload_n X.1 X.2.1 dX11_meets_1 rfl (lv_at hl 1 rfl) ?_
  refine lv_iload_n X.1 X.2.1 dX11_meets_2 rfl (lv_at hl 2 rfl) ?_
  refine lv_aload_n X.1 X.2.1 dX11_meets_3 rfl (lv_at hl 0 rfl) ?_
  refine gf_X11_10 (i := 0) X V rfl dX11_meets_4 ?_
  obtain ⟨x3, hx3, h⟩ := kb_of h
  refine s_callVi (segs' := [gX11 g aT bT zT, gX4 g (bT 0) zT_0, gX8 g (bT 2) zT_2, gX8 g (bT 3) zT_3, gX5 g (bT 6) zT_6, gX5 g (bT 7) zT_7]) (ci := 4) (i0 := 0) X V (c_X4_now l D g (bT 0) zT_0 x3 hx3) w_X11_158 ⟨Nat.le_of_ble_eq_true rfl, Nat.le_of_ble_eq_true rfl⟩ ⟨Nat.zero_le _, Nat.zero_le _⟩ rfl rfl rfl rfl [1] rfl rfl (kFst_refl _) rfl rfl hl.1 (Nat.le_of_ble_eq_true rfl) dX11_meets_7 (fun H locs V => ?_)
  obtain ⟨x4, hx4, h⟩ := kb_of h
  refine s_callVi (segs' := [gX11 g aT bT zT, gX4 g (bT 0) zT_0, gX8 g (bT 2) x4.2.1, gX8 g (bT 3) x4.2.2.1, gX5 g (bT 6) x4.2.2.2.1, gX5 g (bT 7) x4.2.2.2.2]) (ci := 11) (i0 := 0) X V (c_X11_meetAt l D g aT bT zT zT_0 zT_2 zT_3 zT_6 zT_7 v1 v2 x3 x4 hx4) w_X11_309 ⟨Nat.le_of_ble_eq_true rfl, Nat.le_of_ble_eq_true rfl⟩ ⟨Nat.zero_le _, Nat.zero_le _⟩ rfl rfl rfl rfl [0, 1, 2, 3, 4, 5] rfl rfl ⟨rfl, rfl, gX8_fst, gX8_fst, gX5_fst, gX5_fst, trivial⟩ rfl rfl hl.1 (Nat.le_of_ble_eq_true rfl) dX11_meets_10 (fun H locs V => ?_)
  obtain rfl := Option.some.inj h
  rw [hAA] at V
  rw [hQQ]
  exact k_iret X V rfl dX11_meets_13

def p_X11_fewer (zT : tX11) (zT_0 : tX4) (zT_2 : tX8) (zT_11 : tX2) (zT_11_0 : tX0) (zT_13 : tX3) (v1 : Int32) (v2 : Int32) (v3 : Int32) : Option (Int64 × tX8 × tX2 × tX0 × tX3) :=
  kif (v3 < 0) (some ((-1 : Int64), zT_2, zT_11, zT_11_0, zT_13)) (kif ((2 : Int32) < v3) (some ((-1 : Int64), zT_2, zT_11, zT_11_0, zT_13)) (kif (v2 < (1 : Int32)) (some ((-1 : Int64), zT_2, zT_11, zT_11_0, zT_13)) (kb (p_X11_gather zT zT_0 zT_2 v1) (fun x1 => kif ((kz x1.1) = 0) (some ((-1 : Int64), x1.2, zT_11, zT_11_0, zT_13)) (kb (p_X8_count x1.2) (fun x2 => kif ((12 : Int32) < x2) (some ((-1 : Int64), x1.2, zT_11, zT_11_0, zT_13)) (kb (p_X8_count x1.2) (fun x3 => kif (v2 ≤ x3) (kb (p_X2_about zT_11 zT_11_0 x1.2) (fun x4 => kb (p_X2_holding x4.1 zT_13 v2) (fun x5 => kif (v3 = (2 : Int32)) (some (x5.1.toInt64, x1.2, x4.1, x4.2, x5.2)) (kb (p_X3_part x5.2 v3) (fun x6 => some (x6, x1.2, x4.1, x4.2, x5.2)))))) (some ((-1 : Int64), x1.2, zT_11, zT_11_0, zT_13))))))))))
set_option maxHeartbeats 4000000 in
set_option maxRecDepth 100000 in
theorem c_X11_fewer (l : Launch) (D : va_G) (g : kG) (aT : Nat → Nat) (bT : Nat → Nat → Nat) (bT_11 : Nat → Nat → Nat) (zT : tX11) (zT_0 : tX4) (zT_2 : tX8) (zT_11 : tX2) (zT_11_0 : tX0) (zT_13 : tX3) (v1 : Int32) (v2 : Int32) (v3 : Int32) (r : Int64 × tX8 × tX2 × tX0 × tX3) (h : p_X11_fewer zT zT_0 zT_2 zT_11 zT_11_0 zT_13 v1 v2 v3 = some r) : kMl l yX11_fewer cX11_fewer 5 (some .long) (kR 5 139) D (kty g) [.ref (aT 0), .int v1, .int v2, .int v3] (List.flatten [gX11 g aT bT zT, gX4 g (bT 0) zT_0, gX8 g (bT 2) zT_2, gX2 g (bT 11) bT_11 zT_11, gX0 g (bT_11 0) zT_11_0, gX3 g (bT 13) zT_13]) r.1 (List.flatten [gX11 g aT bT zT, gX4 g (bT 0) zT_0, gX8 g (bT 2) r.2.1, gX2 g (bT 11) bT_11 r.2.2.1, gX0 g (bT_11 0) r.2.2.2.1, gX3 g (bT 13) r.2.2.2.2]) := by
  intro sz
  refine k_enter (lv := [(0, .ref (aT 0)), (1, .int v1), (2, .int v2), (3, .int v3)]) RX11 (by decide +kernel) rfl rfl (Nat.le_of_ble_eq_true rfl) ?_
  intro p en s m args below meth c ls hsz X V hl
  obtain ⟨QQ, hQQ⟩ : ∃ q, q = MQ below (va_Ql (fun r' (_ : Unit) => r' = r.1) (fun _ => kE D (List.flatten [gX11 g aT bT zT, gX4 g (bT 0) zT_0, gX8 g (bT 2) r.2.1, gX2 g (bT 11) bT_11 r.2.2.1, gX0 g (bT_11 0) r.2.2.2.1, gX3 g (bT 13) r.2.2.2.2])) (va_A (List.flatten [gX11 g aT bT zT, gX4 g (bT 0) zT_0, gX8 g (bT 2) zT_2, gX2 g (bT 11) bT_11 zT_11, gX0 g (bT_11 0) zT_11_0, gX3 g (bT 13) zT_13]) sz)) args s 0 0 (va_A (List.flatten [gX11 g aT bT zT, gX4 g (bT 0) zT_0, gX8 g (bT 2) zT_2, gX2 g (bT 11) bT_11 zT_11, gX0 g (bT_11 0) zT_11_0, gX3 g (bT 13) zT_13]) sz) := ⟨_, rfl⟩
  rw [← hQQ]
  obtain ⟨AA, hAA⟩ : ∃ q, q = va_A (List.flatten [gX11 g aT bT zT, gX4 g (bT 0) zT_0, gX8 g (bT 2) zT_2, gX2 g (bT 11) bT_11 zT_11, gX0 g (bT_11 0) zT_11_0, gX3 g (bT 13) zT_13]) sz := ⟨_, rfl⟩
  rw [← hAA] at V
  unfold p_X11_fewer at h
  refine lv_iload_n X.1 X.2.1 dX11_fewer_0 rfl (lv_at hl 3 rfl) ?_
  refine lv_if_lt (tgt := 22) X.1 X.2.1 dX11_fewer_1 (by decide) (fun hc => ?_) (fun hc => ?_)
  · replace h := kif_t hc h
    refine lv_ldc2 (v := (-1 : Int64)) X.1 X.2.1 X.2.2.2.1 (X.2.2.2.2.1 _ kc_X11_242) dX11_fewer_22 ?_
    obtain rfl := Option.some.inj h
    rw [hAA] at V
    rw [hQQ]
    exact k_lret X V rfl dX11_fewer_25
  · replace h := kif_f hc h
    refine lv_iload_n X.1 X.2.1 dX11_fewer_4 rfl (lv_at hl 3 rfl) ?_
    refine lv_iconst (v := (2 : Int32)) X.1 X.2.1 dX11_fewer_5 (by decide) ?_
    refine lv_icmp_gt (tgt := 22) X.1 X.2.1 dX11_fewer_6 (by decide) (fun hc => ?_) (fun hc => ?_)
    · replace h := kif_t hc h
      refine lv_ldc2 (v := (-1 : Int64)) X.1 X.2.1 X.2.2.2.1 (X.2.2.2.2.1 _ kc_X11_242) dX11_fewer_22 ?_
      obtain rfl := Option.some.inj h
      rw [hAA] at V
      rw [hQQ]
      exact k_lret X V rfl dX11_fewer_25
    · replace h := kif_f hc h
      refine lv_iload_n X.1 X.2.1 dX11_fewer_9 rfl (lv_at hl 2 rfl) ?_
      refine lv_iconst (v := (1 : Int32)) X.1 X.2.1 dX11_fewer_10 (by decide) ?_
      refine lv_icmp_lt (tgt := 22) X.1 X.2.1 dX11_fewer_11 (by decide) (fun hc => ?_) (fun hc => ?_)
      · replace h := kif_t hc h
        refine lv_ldc2 (v := (-1 : Int64)) X.1 X.2.1 X.2.2.2.1 (X.2.2.2.2.1 _ kc_X11_242) dX11_fewer_22 ?_
        obtain rfl := Option.some.inj h
        rw [hAA] at V
        rw [hQQ]
        exact k_lret X V rfl dX11_fewer_25
      · replace h := kif_f hc h
        refine lv_aload_n X.1 X.2.1 dX11_fewer_14 rfl (lv_at hl 0 rfl) ?_
        refine lv_iload_n X.1 X.2.1 dX11_fewer_15 rfl (lv_at hl 1 rfl) ?_
        obtain ⟨x7, hx7, h⟩ := kb_of h
        refine s_callVi (segs' := [gX11 g aT bT zT, gX4 g (bT 0) zT_0, gX8 g (bT 2) x7.2, gX2 g (bT 11) bT_11 zT_11, gX0 g (bT_11 0) zT_11_0, gX3 g (bT 13) zT_13]) (ci := 11) (i0 := 0) X V (c_X11_gather l D g aT bT zT zT_0 zT_2 v1 x7 hx7) w_X11_196 ⟨Nat.le_of_ble_eq_true rfl, Nat.le_of_ble_eq_true rfl⟩ ⟨Nat.zero_le _, Nat.zero_le _⟩ rfl rfl rfl rfl [0, 1, 2] rfl rfl ⟨rfl, rfl, gX8_fst, trivial⟩ rfl rfl hl.1 (Nat.le_of_ble_eq_true rfl) dX11_fewer_16 (fun H locs V => ?_)
        refine lv_if_ne (tgt := 26) X.1 X.2.1 dX11_fewer_19 (by decide) (fun hc => ?_) (fun hc => ?_)
        · replace h := kif_f hc h
          refine lv_aload_n X.1 X.2.1 dX11_fewer_26 rfl (lv_at hl 0 rfl) ?_
          refine gf_X11_26 (i := 0) X V rfl dX11_fewer_27 ?_
          obtain ⟨x8, hx8, h⟩ := kb_of h
          refine s_callVi (segs' := [gX11 g aT bT zT, gX4 g (bT 0) zT_0, gX8 g (bT 2) x7.2, gX2 g (bT 11) bT_11 zT_11, gX0 g (bT_11 0) zT_11_0, gX3 g (bT 13) zT_13]) (ci := 8) (i0 := 0) X V (c_X8_count l D g (bT 2) x7.2 x8 hx8) w_X11_199 ⟨Nat.le_of_ble_eq_true rfl, Nat.le_of_ble_eq_true rfl⟩ ⟨Nat.zero_le _, Nat.zero_le _⟩ rfl rfl rfl rfl [2] rfl rfl (kFst_refl _) rfl rfl hl.1 (Nat.le_of_ble_eq_true rfl) dX11_fewer_30 (fun H locs V => ?_)
          refine lv_bipush (v := (12 : Int32)) X.1 X.2.1 dX11_fewer_33 (by decide) ?_
          refine lv_icmp_gt (tgt := 49) X.1 X.2.1 dX11_fewer_35 (by decide) (fun hc => ?_) (fun hc => ?_)
          · replace h := kif_t hc h
            refine lv_ldc2 (v := (-1 : Int64)) X.1 X.2.1 X.2.2.2.1 (X.2.2.2.2.1 _ kc_X11_242) dX11_fewer_49 ?_
            obtain rfl := Option.some.inj h
            rw [hAA] at V
            rw [hQQ]
            exact k_lret X V rfl dX11_fewer_52
          · replace h := kif_f hc h
            refine lv_iload_n X.1 X.2.1 dX11_fewer_38 rfl (lv_at hl 2 rfl) ?_
            refine lv_aload_n X.1 X.2.1 dX11_fewer_39 rfl (lv_at hl 0 rfl) ?_
            refine gf_X11_26 (i := 0) X V rfl dX11_fewer_40 ?_
            obtain ⟨x9, hx9, h⟩ := kb_of h
            refine s_callVi (segs' := [gX11 g aT bT zT, gX4 g (bT 0) zT_0, gX8 g (bT 2) x7.2, gX2 g (bT 11) bT_11 zT_11, gX0 g (bT_11 0) zT_11_0, gX3 g (bT 13) zT_13]) (ci := 8) (i0 := 0) X V (c_X8_count l D g (bT 2) x7.2 x9 hx9) w_X11_199 ⟨Nat.le_of_ble_eq_true rfl, Nat.le_of_ble_eq_true rfl⟩ ⟨Nat.zero_le _, Nat.zero_le _⟩ rfl rfl rfl rfl [2] rfl rfl (kFst_refl _) rfl rfl hl.1 (Nat.le_of_ble_eq_true rfl) dX11_fewer_43 (fun H locs V => ?_)
            refine lv_icmp_le (tgt := 53) X.1 X.2.1 dX11_fewer_46 (by decide) (fun hc => ?_) (fun hc => ?_)
            · replace h := kif_t hc h
              refine lv_aload_n X.1 X.2.1 dX11_fewer_53 rfl (lv_at hl 0 rfl) ?_
              refine gf_X11_77 (i := 0) X V rfl dX11_fewer_54 ?_
              refine lv_aload_n X.1 X.2.1 dX11_fewer_57 rfl (lv_at hl 0 rfl) ?_
              refine gf_X11_26 (i := 0) X V rfl dX11_fewer_58 ?_
              obtain ⟨x10, hx10, h⟩ := kb_of h
              refine s_callVv (segs' := [gX11 g aT bT zT, gX4 g (bT 0) zT_0, gX8 g (bT 2) x7.2, gX2 g (bT 11) bT_11 x10.1, gX0 g (bT_11 0) x10.2, gX3 g (bT 13) zT_13]) (ci := 2) (i0 := 0) X V (c_X2_about l D g (bT 11) (bT 2) bT_11 zT_11 zT_11_0 x7.2 x10 hx10) w_X11_302 ⟨Nat.le_of_ble_eq_true rfl, Nat.le_of_ble_eq_true rfl⟩ ⟨Nat.zero_le _, Nat.zero_le _⟩ rfl rfl rfl rfl [3, 4, 2] rfl rfl ⟨gX2_fst, gX0_fst, rfl, trivial⟩ rfl rfl hl.1 (Nat.le_of_ble_eq_true rfl) dX11_fewer_61 (fun H locs V => ?_)
              refine lv_aload_n X.1 X.2.1 dX11_fewer_64 rfl (lv_at hl 0 rfl) ?_
              refine gf_X11_77 (i := 0) X V rfl dX11_fewer_65 ?_
              refine lv_iload_n X.1 X.2.1 dX11_fewer_68 rfl (lv_at hl 2 rfl) ?_
              refine lv_aload_n X.1 X.2.1 dX11_fewer_69 rfl (lv_at hl 0 rfl) ?_
              refine gf_X11_91 (i := 0) X V rfl dX11_fewer_70 ?_
              obtain ⟨x11, hx11, h⟩ := kb_of h
              refine s_callVi (segs' := [gX11 g aT bT zT, gX4 g (bT 0) zT_0, gX8 g (bT 2) x7.2, gX2 g (bT 11) bT_11 x10.1, gX0 g (bT_11 0) x10.2, gX3 g (bT 13) x11.2]) (ci := 2) (i0 := 0) X V (c_X2_holding l D g (bT 11) (bT 13) bT_11 x10.1 zT_13 v2 x11 hx11) w_X11_313 ⟨Nat.le_of_ble_eq_true rfl, Nat.le_of_ble_eq_true rfl⟩ ⟨Nat.zero_le _, Nat.zero_le _⟩ rfl rfl rfl rfl [3, 5] rfl rfl ⟨rfl, gX3_fst, trivial⟩ rfl rfl hl.1 (Nat.le_of_ble_eq_true rfl) dX11_fewer_73 (fun H locs V => ?_)
              refine lv_istore (lv' := [(4, .int x11.1), (0, .ref (aT 0)), (1, .int v1), (2, .int v2), (3, .int v3)]) X.1 X.2.1 dX11_fewer_76 hl (by decide) rfl (fun ls hl => ?_)
              refine lv_iload_n X.1 X.2.1 dX11_fewer_78 rfl (lv_at hl 4 rfl) ?_
              refine lv_iconst (v := (2 : Int32)) X.1 X.2.1 dX11_fewer_79 (by decide) ?_
              refine lv_icmp_ne (tgt := 89) X.1 X.2.1 dX11_fewer_80 (by decide) (fun hc => ?_) (fun hc => ?_)
              · replace h := kif_f hc h
                refine lv_aload_n X.1 X.2.1 dX11_fewer_89 rfl (lv_at hl 1 rfl) ?_
                refine gf_X11_91 (i := 0) X V rfl dX11_fewer_90 ?_
                refine lv_iload_n X.1 X.2.1 dX11_fewer_93 rfl (lv_at hl 4 rfl) ?_
                obtain ⟨x12, hx12, h⟩ := kb_of h
                refine s_callVl (segs' := [gX11 g aT bT zT, gX4 g (bT 0) zT_0, gX8 g (bT 2) x7.2, gX2 g (bT 11) bT_11 x10.1, gX0 g (bT_11 0) x10.2, gX3 g (bT 13) x11.2]) (ci := 3) (i0 := 0) X V (c_X3_part l D g (bT 13) x11.2 v3 x12 hx12) w_X11_223 ⟨Nat.le_of_ble_eq_true rfl, Nat.le_of_ble_eq_true rfl⟩ ⟨Nat.zero_le _, Nat.zero_le _⟩ rfl rfl rfl rfl [5] rfl rfl (kFst_refl _) rfl rfl hl.1 (Nat.le_of_ble_eq_true rfl) dX11_fewer_94 (fun H locs V => ?_)
                obtain rfl := Option.some.inj h
                rw [hAA] at V
                rw [hQQ]
                exact k_lret X V rfl dX11_fewer_97
              · replace h := kif_t hc h
                refine lv_iload X.1 X.2.1 dX11_fewer_83 (lv_at hl 0 rfl) ?_
                refine lv_i2l X.1 X.2.1 dX11_fewer_85 rfl ?_
                refine lv_goto (tgt := 97) X.1 X.2.1 dX11_fewer_86 (by decide) ?_
                obtain rfl := Option.some.inj h
                rw [hAA] at V
                rw [hQQ]
                exact k_lret X V rfl dX11_fewer_97
            · replace h := kif_f hc h
              refine lv_ldc2 (v := (-1 : Int64)) X.1 X.2.1 X.2.2.2.1 (X.2.2.2.2.1 _ kc_X11_242) dX11_fewer_49 ?_
              obtain rfl := Option.some.inj h
              rw [hAA] at V
              rw [hQQ]
              exact k_lret X V rfl dX11_fewer_52
        · replace h := kif_t hc h
          refine lv_ldc2 (v := (-1 : Int64)) X.1 X.2.1 X.2.2.2.1 (X.2.2.2.2.1 _ kc_X11_242) dX11_fewer_22 ?_
          obtain rfl := Option.some.inj h
          rw [hAA] at V
          rw [hQQ]
          exact k_lret X V rfl dX11_fewer_25

def p_X11_countTightOnSecond_L12 (zT : tX11) (zT_0 : tX4) (zT_4 : tX0) (zT_5 : tX0) (v1 : Int32) (s : Int32 × Int32) : Option (Nat × (Int32 × Int32)) :=
  kb (p_X0_tightCount zT_4) (fun x2 => kif (x2 ≤ s.2) (some (72, (s.1, s.2))) (kb (p_X0_tightNumber zT_4 s.2) (fun x3 => kb (p_X4_standX zT_0 x3 v1) (fun x4 => kb (p_X4_standY zT_0 x3 v1) (fun x5 => kb (p_X0_side zT_5 x4 x5) (fun x6 => kif (x6 = 0) (kl (s.1 + (1 : Int32)) (fun y7 => kl (s.2 + (1 : Int32)) (fun y8 => some (12, (y7, y8))))) (kl (s.2 + (1 : Int32)) (fun y9 => some (12, (s.1, y9))))))))))
def p_X11_countTightOnSecond (zT : tX11) (zT_0 : tX4) (zT_4 : tX0) (zT_5 : tX0) : Option (Int32) :=
  kb (p_X4_now zT_0) (fun x1 => kb (kitr 12 (fun q => p_X11_countTightOnSecond_L12 zT zT_0 zT_4 zT_5 x1 q) kF ((0 : Int32), (0 : Int32))) (fun x10 => kg (x10.1 = 72) (some x10.2.1)))
set_option maxHeartbeats 4000000 in
set_option maxRecDepth 100000 in
theorem c_X11_countTightOnSecond (l : Launch) (D : va_G) (g : kG) (aT : Nat → Nat) (bT : Nat → Nat → Nat) (zT : tX11) (zT_0 : tX4) (zT_4 : tX0) (zT_5 : tX0) (r : Int32) (h : p_X11_countTightOnSecond zT zT_0 zT_4 zT_5 = some r) : kMi l yX11_countTightOnSecond cX11_countTightOnSecond 5 (some .int) (kR 2 49) D (kty g) [.ref (aT 0)] (List.flatten [gX11 g aT bT zT, gX4 g (bT 0) zT_0, gX0 g (bT 4) zT_4, gX0 g (bT 5) zT_5]) r (List.flatten [gX11 g aT bT zT, gX4 g (bT 0) zT_0, gX0 g (bT 4) zT_4, gX0 g (bT 5) zT_5]) := by
  intro sz
  refine k_enter (lv := [(0, .ref (aT 0))]) RX11 (by decide +kernel) rfl rfl (Nat.le_of_ble_eq_true rfl) ?_
  intro p en s m args below meth c ls hsz X V hl
  obtain ⟨QQ, hQQ⟩ : ∃ q, q = MQ below (va_Qi (fun r' (_ : Unit) => r' = r) (fun _ => kE D (List.flatten [gX11 g aT bT zT, gX4 g (bT 0) zT_0, gX0 g (bT 4) zT_4, gX0 g (bT 5) zT_5])) (va_A (List.flatten [gX11 g aT bT zT, gX4 g (bT 0) zT_0, gX0 g (bT 4) zT_4, gX0 g (bT 5) zT_5]) sz)) args s 0 0 (va_A (List.flatten [gX11 g aT bT zT, gX4 g (bT 0) zT_0, gX0 g (bT 4) zT_4, gX0 g (bT 5) zT_5]) sz) := ⟨_, rfl⟩
  rw [← hQQ]
  obtain ⟨AA, hAA⟩ : ∃ q, q = va_A (List.flatten [gX11 g aT bT zT, gX4 g (bT 0) zT_0, gX0 g (bT 4) zT_4, gX0 g (bT 5) zT_5]) sz := ⟨_, rfl⟩
  rw [← hAA] at V
  unfold p_X11_countTightOnSecond at h
  refine lv_aload_n X.1 X.2.1 dX11_countTightOnSecond_0 rfl (lv_at hl 0 rfl) ?_
  refine gf_X11_10 (i := 0) X V rfl dX11_countTightOnSecond_1 ?_
  obtain ⟨x11, hx11, h⟩ := kb_of h
  refine s_callVi (segs' := [gX11 g aT bT zT, gX4 g (bT 0) zT_0, gX0 g (bT 4) zT_4, gX0 g (bT 5) zT_5]) (ci := 4) (i0 := 0) X V (c_X4_now l D g (bT 0) zT_0 x11 hx11) w_X11_158 ⟨Nat.le_of_ble_eq_true rfl, Nat.le_of_ble_eq_true rfl⟩ ⟨Nat.zero_le _, Nat.zero_le _⟩ rfl rfl rfl rfl [1] rfl rfl (kFst_refl _) rfl rfl hl.1 (Nat.le_of_ble_eq_true rfl) dX11_countTightOnSecond_4 (fun H locs V => ?_)
  refine lv_istore_n (lv' := [(1, .int x11), (0, .ref (aT 0))]) X.1 X.2.1 dX11_countTightOnSecond_7 rfl hl (by decide) rfl (fun ls hl => ?_)
  refine lv_iconst (v := (0 : Int32)) X.1 X.2.1 dX11_countTightOnSecond_8 (by decide) ?_
  refine lv_istore_n (lv' := [(2, .int (0 : Int32)), (1, .int x11), (0, .ref (aT 0))]) X.1 X.2.1 dX11_countTightOnSecond_9 rfl hl (by decide) rfl (fun ls hl => ?_)
  refine lv_iconst (v := (0 : Int32)) X.1 X.2.1 dX11_countTightOnSecond_10 (by decide) ?_
  refine lv_istore_n (lv' := [(3, .int (0 : Int32)), (2, .int (0 : Int32)), (1, .int x11), (0, .ref (aT 0))]) X.1 X.2.1 dX11_countTightOnSecond_11 rfl hl (by decide) rfl (fun ls hl => ?_)
  obtain ⟨x12, hx12, h⟩ := kb_of h
  refine (kitr_go (hd := 12) (body := fun q => p_X11_countTightOnSecond_L12 zT zT_0 zT_4 zT_5 x11 q) (G := (fun e => ∀ (H : Heap) (locs : List Loc) (ls : Array Slot), kW D AA s.heap H (List.flatten [gX11 g aT bT zT, gX4 g (bT 0) zT_0, gX0 g (bT 4) zT_4, gX0 g (bT 5) zT_5]) locs → lv_has ls 5 [(0, .ref (aT 0)), (1, .int x11), (2, .int e.2.1), (3, .int e.2.2)] → W p l en (kR 2 49) s m args below meth c H locs 0 0 QQ (F0 m e.1 ls []))) (fun s13 e14 hb15 hG16 => ?_) kF _ x12 hx12 ?_) _ _ _ V (lv_sub hl [3, 2, 1, 0] rfl)
  · intro H locs ls V hl
    show W p l en (kR 2 49) s m args below meth c H locs 0 0 QQ (F0 m 12 ls [])
    have h : p_X11_countTightOnSecond_L12 zT zT_0 zT_4 zT_5 x11 s13 = some e14 := hb15
    unfold p_X11_countTightOnSecond_L12 at h
    have V : kW D AA s.heap H (List.flatten [gX11 g aT bT zT, gX4 g (bT 0) zT_0, gX0 g (bT 4) zT_4, gX0 g (bT 5) zT_5]) locs := V
    have hl : lv_has ls 5 [(0, .ref (aT 0)), (1, .int x11), (2, .int s13.1), (3, .int s13.2)] := hl
    refine lv_iload_n X.1 X.2.1 dX11_countTightOnSecond_12 rfl (lv_at hl 3 rfl) ?_
    refine lv_aload_n X.1 X.2.1 dX11_countTightOnSecond_13 rfl (lv_at hl 0 rfl) ?_
    refine gf_X11_36 (i := 0) X V rfl dX11_countTightOnSecond_14 ?_
    obtain ⟨x17, hx17, h⟩ := kb_of h
    refine s_callVi (segs' := [gX11 g aT bT zT, gX4 g (bT 0) zT_0, gX0 g (bT 4) zT_4, gX0 g (bT 5) zT_5]) (ci := 0) (i0 := 0) X V (c_X0_tightCount l D g (bT 4) zT_4 x17 hx17) w_X11_229 ⟨Nat.le_of_ble_eq_true rfl, Nat.le_of_ble_eq_true rfl⟩ ⟨Nat.zero_le _, Nat.zero_le _⟩ rfl rfl rfl rfl [2] rfl rfl (kFst_refl _) rfl rfl hl.1 (Nat.le_of_ble_eq_true rfl) dX11_countTightOnSecond_17 (fun H locs V => ?_)
    refine lv_icmp_ge (tgt := 72) X.1 X.2.1 dX11_countTightOnSecond_20 (by decide) (fun hc => ?_) (fun hc => ?_)
    · replace h := kif_t hc h
      obtain rfl := Option.some.inj h
      exact hG16 _ _ _ V (lv_sub hl [0, 1, 2, 3] rfl)
    · replace h := kif_f hc h
      refine lv_aload_n X.1 X.2.1 dX11_countTightOnSecond_23 rfl (lv_at hl 0 rfl) ?_
      refine gf_X11_36 (i := 0) X V rfl dX11_countTightOnSecond_24 ?_
      refine lv_iload_n X.1 X.2.1 dX11_countTightOnSecond_27 rfl (lv_at hl 3 rfl) ?_
      obtain ⟨x18, hx18, h⟩ := kb_of h
      refine s_callVi (segs' := [gX11 g aT bT zT, gX4 g (bT 0) zT_0, gX0 g (bT 4) zT_4, gX0 g (bT 5) zT_5]) (ci := 0) (i0 := 0) X V (c_X0_tightNumber l D g (bT 4) zT_4 s13.2 x18 hx18) w_X11_232 ⟨Nat.le_of_ble_eq_true rfl, Nat.le_of_ble_eq_true rfl⟩ ⟨Nat.zero_le _, Nat.zero_le _⟩ rfl rfl rfl rfl [2] rfl rfl (kFst_refl _) rfl rfl hl.1 (Nat.le_of_ble_eq_true rfl) dX11_countTightOnSecond_28 (fun H locs V => ?_)
      refine lv_istore (lv' := [(4, .int x18), (0, .ref (aT 0)), (1, .int x11), (2, .int s13.1), (3, .int s13.2)]) X.1 X.2.1 dX11_countTightOnSecond_31 hl (by decide) rfl (fun ls hl => ?_)
      refine lv_aload_n X.1 X.2.1 dX11_countTightOnSecond_33 rfl (lv_at hl 1 rfl) ?_
      refine gf_X11_40 (i := 0) X V rfl dX11_countTightOnSecond_34 ?_
      refine lv_aload_n X.1 X.2.1 dX11_countTightOnSecond_37 rfl (lv_at hl 1 rfl) ?_
      refine gf_X11_10 (i := 0) X V rfl dX11_countTightOnSecond_38 ?_
      refine lv_iload X.1 X.2.1 dX11_countTightOnSecond_41 (lv_at hl 0 rfl) ?_
      refine lv_iload_n X.1 X.2.1 dX11_countTightOnSecond_43 rfl (lv_at hl 2 rfl) ?_
      obtain ⟨x19, hx19, h⟩ := kb_of h
      refine s_callVi (segs' := [gX11 g aT bT zT, gX4 g (bT 0) zT_0, gX0 g (bT 4) zT_4, gX0 g (bT 5) zT_5]) (ci := 4) (i0 := 0) X V (c_X4_standX l D g (bT 0) zT_0 x18 x11 x19 hx19) w_X11_186 ⟨Nat.le_of_ble_eq_true rfl, Nat.le_of_ble_eq_true rfl⟩ ⟨Nat.zero_le _, Nat.zero_le _⟩ rfl rfl rfl rfl [1] rfl rfl (kFst_refl _) rfl rfl hl.1 (Nat.le_of_ble_eq_true rfl) dX11_countTightOnSecond_44 (fun H locs V => ?_)
      refine lv_aload_n X.1 X.2.1 dX11_countTightOnSecond_47 rfl (lv_at hl 1 rfl) ?_
      refine gf_X11_10 (i := 0) X V rfl dX11_countTightOnSecond_48 ?_
      refine lv_iload X.1 X.2.1 dX11_countTightOnSecond_51 (lv_at hl 0 rfl) ?_
      refine lv_iload_n X.1 X.2.1 dX11_countTightOnSecond_53 rfl (lv_at hl 2 rfl) ?_
      obtain ⟨x20, hx20, h⟩ := kb_of h
      refine s_callVi (segs' := [gX11 g aT bT zT, gX4 g (bT 0) zT_0, gX0 g (bT 4) zT_4, gX0 g (bT 5) zT_5]) (ci := 4) (i0 := 0) X V (c_X4_standY l D g (bT 0) zT_0 x18 x11 x20 hx20) w_X11_190 ⟨Nat.le_of_ble_eq_true rfl, Nat.le_of_ble_eq_true rfl⟩ ⟨Nat.zero_le _, Nat.zero_le _⟩ rfl rfl rfl rfl [1] rfl rfl (kFst_refl _) rfl rfl hl.1 (Nat.le_of_ble_eq_true rfl) dX11_countTightOnSecond_54 (fun H locs V => ?_)
      obtain ⟨x21, hx21, h⟩ := kb_of h
      refine s_callVi (segs' := [gX11 g aT bT zT, gX4 g (bT 0) zT_0, gX0 g (bT 4) zT_4, gX0 g (bT 5) zT_5]) (ci := 0) (i0 := 0) X V (c_X0_side l D g (bT 5) zT_5 x19 x20 x21 hx21) w_X11_239 ⟨Nat.le_of_ble_eq_true rfl, Nat.le_of_ble_eq_true rfl⟩ ⟨Nat.zero_le _, Nat.zero_le _⟩ rfl rfl rfl rfl [3] rfl rfl (kFst_refl _) rfl rfl hl.1 (Nat.le_of_ble_eq_true rfl) dX11_countTightOnSecond_57 (fun H locs V => ?_)
      refine lv_if_ne (tgt := 66) X.1 X.2.1 dX11_countTightOnSecond_60 (by decide) (fun hc => ?_) (fun hc => ?_)
      · replace h := kif_f hc h
        obtain ⟨y22, ey22⟩ : ∃ y : Int32, y = (s13.2 + (1 : Int32)) := ⟨_, rfl⟩
        replace h := kl_of ey22 h
        refine lv_iinc (v := y22) (lv' := [(3, .int y22), (4, .int x18), (0, .ref (aT 0)), (1, .int x11), (2, .int s13.1)]) X.1 X.2.1 dX11_countTightOnSecond_66 hl (k := 4) rfl (by rw [ey22]; rfl) (by decide) rfl (fun ls hl => ?_)
        refine lv_goto (tgt := 12) X.1 X.2.1 dX11_countTightOnSecond_69 (by decide) ?_
        obtain rfl := Option.some.inj h
        exact hG16 _ _ _ V (lv_sub hl [2, 3, 4, 0] rfl)
      · replace h := kif_t hc h
        obtain ⟨y23, ey23⟩ : ∃ y : Int32, y = (s13.1 + (1 : Int32)) := ⟨_, rfl⟩
        replace h := kl_of ey23 h
        refine lv_iinc (v := y23) (lv' := [(2, .int y23), (4, .int x18), (0, .ref (aT 0)), (1, .int x11), (3, .int s13.2)]) X.1 X.2.1 dX11_countTightOnSecond_63 hl (k := 3) rfl (by rw [ey23]; rfl) (by decide) rfl (fun ls hl => ?_)
        obtain ⟨y24, ey24⟩ : ∃ y : Int32, y = (s13.2 + (1 : Int32)) := ⟨_, rfl⟩
        replace h := kl_of ey24 h
        refine lv_iinc (v := y24) (lv' := [(3, .int y24), (2, .int y23), (4, .int x18), (0, .ref (aT 0)), (1, .int x11)]) X.1 X.2.1 dX11_countTightOnSecond_66 hl (k := 4) rfl (by rw [ey24]; rfl) (by decide) rfl (fun ls hl => ?_)
        refine lv_goto (tgt := 12) X.1 X.2.1 dX11_countTightOnSecond_69 (by decide) ?_
        obtain rfl := Option.some.inj h
        exact hG16 _ _ _ V (lv_sub hl [3, 4, 1, 0] rfl)
  · intro H locs ls V hl
    have V : kW D AA s.heap H (List.flatten [gX11 g aT bT zT, gX4 g (bT 0) zT_0, gX0 g (bT 4) zT_4, gX0 g (bT 5) zT_5]) locs := V
    have hl : lv_has ls 5 [(0, .ref (aT 0)), (1, .int x11), (2, .int x12.2.1), (3, .int x12.2.2)] := hl
    obtain ⟨hc, h⟩ := kg_of h
    refine W.eq (g2 := F0 m 72 ls []) (by rw [hc]) ?_
    refine lv_iload_n X.1 X.2.1 dX11_countTightOnSecond_72 rfl (lv_at hl 2 rfl) ?_
    obtain rfl := Option.some.inj h
    rw [hAA] at V
    rw [hQQ]
    exact k_iret X V rfl dX11_countTightOnSecond_73

def p_X11_worse (zT : tX11) (zT_0 : tX4) (zT_2 : tX8) (zT_4 : tX0) (zT_5 : tX0) (zT_13 : tX3) (v1 : Int32) (v2 : Int32) (v3 : Int32) (v4 : Int32) : Option (Int64 × tX8 × tX0 × tX0 × tX3) :=
  kif (v4 < 0) (some ((-1 : Int64), zT_2, zT_4, zT_5, zT_13)) (kif ((2 : Int32) < v4) (some ((-1 : Int64), zT_2, zT_4, zT_5, zT_13)) (kb (p_X11_isNear v2 v3 (150 : Int32)) (fun x1 => kif ((kz x1) = 0) (some ((-1 : Int64), zT_2, zT_4, zT_5, zT_13)) (kb (p_X11_gather zT zT_0 zT_2 v1) (fun x2 => kif ((kz x2.1) = 0) (some ((-1 : Int64), x2.2, zT_4, zT_5, zT_13)) (kb (p_X0_about zT_4 x2.2) (fun x3 => kb (p_X0_seekTight x3 x2.2) (fun x4 => kb (p_X8_add x2.2 v2 v3 (40 : Int32)) (fun x5 => kb (p_X0_about zT_5 x5) (fun x6 => kif (v4 = (2 : Int32)) (kb (p_X11_countTightOnSecond zT zT_0 x4 x6) (fun x7 => some (x7.toInt64, x5, x4, x6, zT_13))) (kb (p_X0_size x6 zT_13) (fun x8 => kb (p_X3_part x8 v4) (fun x9 => some (x9, x5, x4, x6, x8))))))))))))))
set_option maxHeartbeats 4000000 in
set_option maxRecDepth 100000 in
theorem c_X11_worse (l : Launch) (D : va_G) (g : kG) (aT : Nat → Nat) (bT : Nat → Nat → Nat) (zT : tX11) (zT_0 : tX4) (zT_2 : tX8) (zT_4 : tX0) (zT_5 : tX0) (zT_13 : tX3) (v1 : Int32) (v2 : Int32) (v3 : Int32) (v4 : Int32) (r : Int64 × tX8 × tX0 × tX0 × tX3) (h : p_X11_worse zT zT_0 zT_2 zT_4 zT_5 zT_13 v1 v2 v3 v4 = some r) : kMl l yX11_worse cX11_worse 5 (some .long) (kR 6 152) D (kty g) [.ref (aT 0), .int v1, .int v2, .int v3, .int v4] (List.flatten [gX11 g aT bT zT, gX4 g (bT 0) zT_0, gX8 g (bT 2) zT_2, gX0 g (bT 4) zT_4, gX0 g (bT 5) zT_5, gX3 g (bT 13) zT_13]) r.1 (List.flatten [gX11 g aT bT zT, gX4 g (bT 0) zT_0, gX8 g (bT 2) r.2.1, gX0 g (bT 4) r.2.2.1, gX0 g (bT 5) r.2.2.2.1, gX3 g (bT 13) r.2.2.2.2]) := by
  intro sz
  refine k_enter (lv := [(0, .ref (aT 0)), (1, .int v1), (2, .int v2), (3, .int v3), (4, .int v4)]) RX11 (by decide +kernel) rfl rfl (Nat.le_of_ble_eq_true rfl) ?_
  intro p en s m args below meth c ls hsz X V hl
  obtain ⟨QQ, hQQ⟩ : ∃ q, q = MQ below (va_Ql (fun r' (_ : Unit) => r' = r.1) (fun _ => kE D (List.flatten [gX11 g aT bT zT, gX4 g (bT 0) zT_0, gX8 g (bT 2) r.2.1, gX0 g (bT 4) r.2.2.1, gX0 g (bT 5) r.2.2.2.1, gX3 g (bT 13) r.2.2.2.2])) (va_A (List.flatten [gX11 g aT bT zT, gX4 g (bT 0) zT_0, gX8 g (bT 2) zT_2, gX0 g (bT 4) zT_4, gX0 g (bT 5) zT_5, gX3 g (bT 13) zT_13]) sz)) args s 0 0 (va_A (List.flatten [gX11 g aT bT zT, gX4 g (bT 0) zT_0, gX8 g (bT 2) zT_2, gX0 g (bT 4) zT_4, gX0 g (bT 5) zT_5, gX3 g (bT 13) zT_13]) sz) := ⟨_, rfl⟩
  rw [← hQQ]
  obtain ⟨AA, hAA⟩ : ∃ q, q = va_A (List.flatten [gX11 g aT bT zT, gX4 g (bT 0) zT_0, gX8 g (bT 2) zT_2, gX0 g (bT 4) zT_4, gX0 g (bT 5) zT_5, gX3 g (bT 13) zT_13]) sz := ⟨_, rfl⟩
  rw [← hAA] at V
  unfold p_X11_worse at h
  refine lv_iload X.1 X.2.1 dX11_worse_0 (lv_at hl 4 rfl) ?_
  refine lv_if_lt (tgt := 30) X.1 X.2.1 dX11_worse_2 (by decide) (fun hc => ?_) (fun hc => ?_)
  · replace h := kif_t hc h
    refine lv_ldc2 (v := (-1 : Int64)) X.1 X.2.1 X.2.2.2.1 (X.2.2.2.2.1 _ kc_X11_242) dX11_worse_30 ?_
    obtain rfl := Option.some.inj h
    rw [hAA] at V
    rw [hQQ]
    exact k_lret X V rfl dX11_worse_33
  · replace h := kif_f hc h
    refine lv_iload X.1 X.2.1 dX11_worse_5 (lv_at hl 4 rfl) ?_
    refine lv_iconst (v := (2 : Int32)) X.1 X.2.1 dX11_worse_7 (by decide) ?_
    refine lv_icmp_gt (tgt := 30) X.1 X.2.1 dX11_worse_8 (by decide) (fun hc => ?_) (fun hc => ?_)
    · replace h := kif_t hc h
      refine lv_ldc2 (v := (-1 : Int64)) X.1 X.2.1 X.2.2.2.1 (X.2.2.2.2.1 _ kc_X11_242) dX11_worse_30 ?_
      obtain rfl := Option.some.inj h
      rw [hAA] at V
      rw [hQQ]
      exact k_lret X V rfl dX11_worse_33
    · replace h := kif_f hc h
      refine lv_iload_n X.1 X.2.1 dX11_worse_11 rfl (lv_at hl 2 rfl) ?_
      refine lv_iload_n X.1 X.2.1 dX11_worse_12 rfl (lv_at hl 3 rfl) ?_
      refine lv_sipush (v := (150 : Int32)) X.1 X.2.1 dX11_worse_13 (by decide) ?_
      obtain ⟨x10, hx10, h⟩ := kb_of h
      refine s_callSi (segs' := [gX11 g aT bT zT, gX4 g (bT 0) zT_0, gX8 g (bT 2) zT_2, gX0 g (bT 4) zT_4, gX0 g (bT 5) zT_5, gX3 g (bT 13) zT_13]) X V (c_X11_isNear l D g v2 v3 (150 : Int32) x10 hx10) w_X11_127 ⟨Nat.le_of_ble_eq_true rfl, Nat.le_of_ble_eq_true rfl⟩ ⟨Nat.zero_le _, Nat.zero_le _⟩ rfl [] rfl rfl (kFst_refl _) rfl rfl hl.1 (Nat.le_of_ble_eq_true rfl) dX11_worse_16 (fun H locs V => ?_)
      refine lv_if_eq (tgt := 30) X.1 X.2.1 dX11_worse_19 (by decide) (fun hc => ?_) (fun hc => ?_)
      · replace h := kif_t hc h
        refine lv_ldc2 (v := (-1 : Int64)) X.1 X.2.1 X.2.2.2.1 (X.2.2.2.2.1 _ kc_X11_242) dX11_worse_30 ?_
        obtain rfl := Option.some.inj h
        rw [hAA] at V
        rw [hQQ]
        exact k_lret X V rfl dX11_worse_33
      · replace h := kif_f hc h
        refine lv_aload_n X.1 X.2.1 dX11_worse_22 rfl (lv_at hl 0 rfl) ?_
        refine lv_iload_n X.1 X.2.1 dX11_worse_23 rfl (lv_at hl 1 rfl) ?_
        obtain ⟨x11, hx11, h⟩ := kb_of h
        refine s_callVi (segs' := [gX11 g aT bT zT, gX4 g (bT 0) zT_0, gX8 g (bT 2) x11.2, gX0 g (bT 4) zT_4, gX0 g (bT 5) zT_5, gX3 g (bT 13) zT_13]) (ci := 11) (i0 := 0) X V (c_X11_gather l D g aT bT zT zT_0 zT_2 v1 x11 hx11) w_X11_196 ⟨Nat.le_of_ble_eq_true rfl, Nat.le_of_ble_eq_true rfl⟩ ⟨Nat.zero_le _, Nat.zero_le _⟩ rfl rfl rfl rfl [0, 1, 2] rfl rfl ⟨rfl, rfl, gX8_fst, trivial⟩ rfl rfl hl.1 (Nat.le_of_ble_eq_true rfl) dX11_worse_24 (fun H locs V => ?_)
        refine lv_if_ne (tgt := 34) X.1 X.2.1 dX11_worse_27 (by decide) (fun hc => ?_) (fun hc => ?_)
        · replace h := kif_f hc h
          refine lv_aload_n X.1 X.2.1 dX11_worse_34 rfl (lv_at hl 0 rfl) ?_
          refine gf_X11_36 (i := 0) X V rfl dX11_worse_35 ?_
          refine lv_aload_n X.1 X.2.1 dX11_worse_38 rfl (lv_at hl 0 rfl) ?_
          refine gf_X11_26 (i := 0) X V rfl dX11_worse_39 ?_
          obtain ⟨x12, hx12, h⟩ := kb_of h
          refine s_callVv (segs' := [gX11 g aT bT zT, gX4 g (bT 0) zT_0, gX8 g (bT 2) x11.2, gX0 g (bT 4) x12, gX0 g (bT 5) zT_5, gX3 g (bT 13) zT_13]) (ci := 0) (i0 := 0) X V (c_X0_about l D g (bT 4) (bT 2) zT_4 x11.2 x12 hx12) w_X11_209 ⟨Nat.le_of_ble_eq_true rfl, Nat.le_of_ble_eq_true rfl⟩ ⟨Nat.zero_le _, Nat.zero_le _⟩ rfl rfl rfl rfl [3, 2] rfl rfl ⟨gX0_fst, rfl, trivial⟩ rfl rfl hl.1 (Nat.le_of_ble_eq_true rfl) dX11_worse_42 (fun H locs V => ?_)
          refine lv_aload_n X.1 X.2.1 dX11_worse_45 rfl (lv_at hl 0 rfl) ?_
          refine gf_X11_36 (i := 0) X V rfl dX11_worse_46 ?_
          refine lv_aload_n X.1 X.2.1 dX11_worse_49 rfl (lv_at hl 0 rfl) ?_
          refine gf_X11_26 (i := 0) X V rfl dX11_worse_50 ?_
          obtain ⟨x13, hx13, h⟩ := kb_of h
          refine s_callVv (segs' := [gX11 g aT bT zT, gX4 g (bT 0) zT_0, gX8 g (bT 2) x11.2, gX0 g (bT 4) x13, gX0 g (bT 5) zT_5, gX3 g (bT 13) zT_13]) (ci := 0) (i0 := 0) X V (c_X0_seekTight l D g (bT 4) (bT 2) x12 x11.2 x13 hx13) w_X11_226 ⟨Nat.le_of_ble_eq_true rfl, Nat.le_of_ble_eq_true rfl⟩ ⟨Nat.zero_le _, Nat.zero_le _⟩ rfl rfl rfl rfl [3, 2] rfl rfl ⟨gX0_fst, rfl, trivial⟩ rfl rfl hl.1 (Nat.le_of_ble_eq_true rfl) dX11_worse_53 (fun H locs V => ?_)
          refine lv_aload_n X.1 X.2.1 dX11_worse_56 rfl (lv_at hl 0 rfl) ?_
          refine gf_X11_26 (i := 0) X V rfl dX11_worse_57 ?_
          refine lv_iload_n X.1 X.2.1 dX11_worse_60 rfl (lv_at hl 2 rfl) ?_
          refine lv_iload_n X.1 X.2.1 dX11_worse_61 rfl (lv_at hl 3 rfl) ?_
          refine lv_bipush (v := (40 : Int32)) X.1 X.2.1 dX11_worse_62 (by decide) ?_
          obtain ⟨x14, hx14, h⟩ := kb_of h
          refine s_callVv (segs' := [gX11 g aT bT zT, gX4 g (bT 0) zT_0, gX8 g (bT 2) x14, gX0 g (bT 4) x13, gX0 g (bT 5) zT_5, gX3 g (bT 13) zT_13]) (ci := 8) (i0 := 0) X V (c_X8_add l D g (bT 2) x11.2 v2 v3 (40 : Int32) x14 hx14) w_X11_317 ⟨Nat.le_of_ble_eq_true rfl, Nat.le_of_ble_eq_true rfl⟩ ⟨Nat.zero_le _, Nat.zero_le _⟩ rfl rfl rfl rfl [2] rfl rfl ⟨gX8_fst, trivial⟩ rfl rfl hl.1 (Nat.le_of_ble_eq_true rfl) dX11_worse_64 (fun H locs V => ?_)
          refine lv_aload_n X.1 X.2.1 dX11_worse_67 rfl (lv_at hl 0 rfl) ?_
          refine gf_X11_40 (i := 0) X V rfl dX11_worse_68 ?_
          refine lv_aload_n X.1 X.2.1 dX11_worse_71 rfl (lv_at hl 0 rfl) ?_
          refine gf_X11_26 (i := 0) X V rfl dX11_worse_72 ?_
          obtain ⟨x15, hx15, h⟩ := kb_of h
          refine s_callVv (segs' := [gX11 g aT bT zT, gX4 g (bT 0) zT_0, gX8 g (bT 2) x14, gX0 g (bT 4) x13, gX0 g (bT 5) x15, gX3 g (bT 13) zT_13]) (ci := 0) (i0 := 0) X V (c_X0_about l D g (bT 5) (bT 2) zT_5 x14 x15 hx15) w_X11_209 ⟨Nat.le_of_ble_eq_true rfl, Nat.le_of_ble_eq_true rfl⟩ ⟨Nat.zero_le _, Nat.zero_le _⟩ rfl rfl rfl rfl [4, 2] rfl rfl ⟨gX0_fst, rfl, trivial⟩ rfl rfl hl.1 (Nat.le_of_ble_eq_true rfl) dX11_worse_75 (fun H locs V => ?_)
          refine lv_iload X.1 X.2.1 dX11_worse_78 (lv_at hl 4 rfl) ?_
          refine lv_iconst (v := (2 : Int32)) X.1 X.2.1 dX11_worse_80 (by decide) ?_
          refine lv_icmp_ne (tgt := 90) X.1 X.2.1 dX11_worse_81 (by decide) (fun hc => ?_) (fun hc => ?_)
          · replace h := kif_f hc h
            refine lv_aload_n X.1 X.2.1 dX11_worse_90 rfl (lv_at hl 0 rfl) ?_
            refine gf_X11_40 (i := 0) X V rfl dX11_worse_91 ?_
            refine lv_aload_n X.1 X.2.1 dX11_worse_94 rfl (lv_at hl 0 rfl) ?_
            refine gf_X11_91 (i := 0) X V rfl dX11_worse_95 ?_
            obtain ⟨x16, hx16, h⟩ := kb_of h
            refine s_callVv (segs' := [gX11 g aT bT zT, gX4 g (bT 0) zT_0, gX8 g (bT 2) x14, gX0 g (bT 4) x13, gX0 g (bT 5) x15, gX3 g (bT 13) x16]) (ci := 0) (i0 := 0) X V (c_X0_size l D g (bT 5) (bT 13) x15 zT_13 x16 hx16) w_X11_213 ⟨Nat.le_of_ble_eq_true rfl, Nat.le_of_ble_eq_true rfl⟩ ⟨Nat.zero_le _, Nat.zero_le _⟩ rfl rfl rfl rfl [4, 5] rfl rfl ⟨rfl, gX3_fst, trivial⟩ rfl rfl hl.1 (Nat.le_of_ble_eq_true rfl) dX11_worse_98 (fun H locs V => ?_)
            refine lv_aload_n X.1 X.2.1 dX11_worse_101 rfl (lv_at hl 0 rfl) ?_
            refine gf_X11_91 (i := 0) X V rfl dX11_worse_102 ?_
            refine lv_iload X.1 X.2.1 dX11_worse_105 (lv_at hl 4 rfl) ?_
            obtain ⟨x17, hx17, h⟩ := kb_of h
            refine s_callVl (segs' := [gX11 g aT bT zT, gX4 g (bT 0) zT_0, gX8 g (bT 2) x14, gX0 g (bT 4) x13, gX0 g (bT 5) x15, gX3 g (bT 13) x16]) (ci := 3) (i0 := 0) X V (c_X3_part l D g (bT 13) x16 v4 x17 hx17) w_X11_223 ⟨Nat.le_of_ble_eq_true rfl, Nat.le_of_ble_eq_true rfl⟩ ⟨Nat.zero_le _, Nat.zero_le _⟩ rfl rfl rfl rfl [5] rfl rfl (kFst_refl _) rfl rfl hl.1 (Nat.le_of_ble_eq_true rfl) dX11_worse_107 (fun H locs V => ?_)
            obtain rfl := Option.some.inj h
            rw [hAA] at V
            rw [hQQ]
            exact k_lret X V rfl dX11_worse_110
          · replace h := kif_t hc h
            refine lv_aload_n X.1 X.2.1 dX11_worse_84 rfl (lv_at hl 0 rfl) ?_
            obtain ⟨x18, hx18, h⟩ := kb_of h
            refine s_callVi (segs' := [gX11 g aT bT zT, gX4 g (bT 0) zT_0, gX8 g (bT 2) x14, gX0 g (bT 4) x13, gX0 g (bT 5) x15, gX3 g (bT 13) zT_13]) (ci := 11) (i0 := 0) X V (c_X11_countTightOnSecond l D g aT bT zT zT_0 x13 x15 x18 hx18) w_X11_320 ⟨Nat.le_of_ble_eq_true rfl, Nat.le_of_ble_eq_true rfl⟩ ⟨Nat.zero_le _, Nat.zero_le _⟩ rfl rfl rfl rfl [0, 1, 3, 4] rfl rfl (kFst_refl _) rfl rfl hl.1 (Nat.le_of_ble_eq_true rfl) dX11_worse_85 (fun H locs V => ?_)
            refine lv_i2l X.1 X.2.1 dX11_worse_88 rfl ?_
            obtain rfl := Option.some.inj h
            rw [hAA] at V
            rw [hQQ]
            exact k_lret X V rfl dX11_worse_89
        · replace h := kif_t hc h
          refine lv_ldc2 (v := (-1 : Int64)) X.1 X.2.1 X.2.2.2.1 (X.2.2.2.2.1 _ kc_X11_242) dX11_worse_30 ?_
          obtain rfl := Option.some.inj h
          rw [hAA] at V
          rw [hQQ]
          exact k_lret X V rfl dX11_worse_33

def p_X11_calm_J96_18 (zT : tX11) (zT_0 : tX4) (v1 : Int32) (v2 : Int32) (zT_2 : tX8) (zT_4 : tX0) (zT_13 : tX3) (zT_14 : tX3) (v4 : Int32) : Option (Nat × (Int32 × Int32 × tX8 × tX0 × tX3 × tX3)) :=
  kb (p_X3_part zT_13 (0 : Int32)) (fun x4 => kb (p_X3_part zT_13 (1 : Int32)) (fun x5 => kb (p_X3_set zT_14 x4 x5) (fun x6 => kl (v4 + (1 : Int32)) (fun y7 => some (18, (v4, y7, zT_2, zT_4, zT_13, x6))))))
def p_X11_calm_L18 (zT : tX11) (zT_0 : tX4) (v1 : Int32) (v2 : Int32) (s : Int32 × Int32 × tX8 × tX0 × tX3 × tX3) : Option (Nat × (Int32 × Int32 × tX8 × tX0 × tX3 × tX3)) :=
  kif ((20 : Int32) < s.2.1) (some (128, (s.1, s.2.1, s.2.2.1, s.2.2.2.1, s.2.2.2.2.1, s.2.2.2.2.2))) (kb (p_X11_gatherAt zT zT_0 s.2.2.1 v1 s.2.1) (fun x1 => kif ((kz x1.1) = 0) (some (39, (s.1, s.2.1, x1.2, s.2.2.2.1, s.2.2.2.2.1, s.2.2.2.2.2))) (kb (p_X0_about s.2.2.2.1 x1.2) (fun x2 => kb (p_X0_size x2 s.2.2.2.2.1) (fun x3 => kif (s.2.1 = 0) (p_X11_calm_J96_18 zT zT_0 v1 v2 x1.2 x2 x3 s.2.2.2.2.2 s.2.1) (kb (p_X3_part s.2.2.2.2.2 (0 : Int32)) (fun x8 => kb (p_X3_part s.2.2.2.2.2 (1 : Int32)) (fun x9 => kb (p_X3_against x3 x8 x9) (fun x10 => kif (0 ≤ x10) (kl (s.2.1 + (1 : Int32)) (fun y11 => some (18, (s.1, y11, x1.2, x2, x3, s.2.2.2.2.2)))) (p_X11_calm_J96_18 zT zT_0 v1 v2 x1.2 x2 x3 s.2.2.2.2.2 s.2.1))))))))))
def p_X11_calm (zT : tX11) (zT_0 : tX4) (zT_2 : tX8) (zT_4 : tX0) (zT_13 : tX3) (zT_14 : tX3) (v1 : Int32) (v2 : Int32) : Option (Int64 × tX8 × tX0 × tX3 × tX3) :=
  kif (v2 < 0) (some ((-1 : Int64), zT_2, zT_4, zT_13, zT_14)) (kif (v2 ≤ (2 : Int32)) (kb (kitr 18 (fun q => p_X11_calm_L18 zT zT_0 v1 v2 q) kF ((0 : Int32), (0 : Int32), zT_2, zT_4, zT_13, zT_14)) (fun x12 => kif (x12.1 = 39) (some ((-1 : Int64), x12.2.2.2.1, x12.2.2.2.2.1, x12.2.2.2.2.2.1, x12.2.2.2.2.2.2)) (kg (x12.1 = 128) (kif (v2 = 0) (some (x12.2.1.toInt64, x12.2.2.2.1, x12.2.2.2.2.1, x12.2.2.2.2.2.1, x12.2.2.2.2.2.2)) (kb (p_X3_part x12.2.2.2.2.2.2 (v2 - (1 : Int32))) (fun x13 => some (x13, x12.2.2.2.1, x12.2.2.2.2.1, x12.2.2.2.2.2.1, x12.2.2.2.2.2.2))))))) (some ((-1 : Int64), zT_2, zT_4, zT_13, zT_14)))
set_option maxHeartbeats 4000000 in
set_option maxRecDepth 100000 in
theorem c_X11_calm (l : Launch) (D : va_G) (g : kG) (aT : Nat → Nat) (bT : Nat → Nat → Nat) (zT : tX11) (zT_0 : tX4) (zT_2 : tX8) (zT_4 : tX0) (zT_13 : tX3) (zT_14 : tX3) (v1 : Int32) (v2 : Int32) (r : Int64 × tX8 × tX0 × tX3 × tX3) (h : p_X11_calm zT zT_0 zT_2 zT_4 zT_13 zT_14 v1 v2 = some r) : kMl l yX11_calm cX11_calm 5 (some .long) (kR 6 152) D (kty g) [.ref (aT 0), .int v1, .int v2] (List.flatten [gX11 g aT bT zT, gX4 g (bT 0) zT_0, gX8 g (bT 2) zT_2, gX0 g (bT 4) zT_4, gX3 g (bT 13) zT_13, gX3 g (bT 14) zT_14]) r.1 (List.flatten [gX11 g aT bT zT, gX4 g (bT 0) zT_0, gX8 g (bT 2) r.2.1, gX0 g (bT 4) r.2.2.1, gX3 g (bT 13) r.2.2.2.1, gX3 g (bT 14) r.2.2.2.2]) := by
  intro sz
  refine k_enter (lv := [(0, .ref (aT 0)), (1, .int v1), (2, .int v2)]) RX11 (by decide +kernel) rfl rfl (Nat.le_of_ble_eq_true rfl) ?_
  intro p en s m args below meth c ls hsz X V hl
  obtain ⟨QQ, hQQ⟩ : ∃ q, q = MQ below (va_Ql (fun r' (_ : Unit) => r' = r.1) (fun _ => kE D (List.flatten [gX11 g aT bT zT, gX4 g (bT 0) zT_0, gX8 g (bT 2) r.2.1, gX0 g (bT 4) r.2.2.1, gX3 g (bT 13) r.2.2.2.1, gX3 g (bT 14) r.2.2.2.2])) (va_A (List.flatten [gX11 g aT bT zT, gX4 g (bT 0) zT_0, gX8 g (bT 2) zT_2, gX0 g (bT 4) zT_4, gX3 g (bT 13) zT_13, gX3 g (bT 14) zT_14]) sz)) args s 0 0 (va_A (List.flatten [gX11 g aT bT zT, gX4 g (bT 0) zT_0, gX8 g (bT 2) zT_2, gX0 g (bT 4) zT_4, gX3 g (bT 13) zT_13, gX3 g (bT 14) zT_14]) sz) := ⟨_, rfl⟩
  rw [← hQQ]
  obtain ⟨AA, hAA⟩ : ∃ q, q = va_A (List.flatten [gX11 g aT bT zT, gX4 g (bT 0) zT_0, gX8 g (bT 2) zT_2, gX0 g (bT 4) zT_4, gX3 g (bT 13) zT_13, gX3 g (bT 14) zT_14]) sz := ⟨_, rfl⟩
  rw [← hAA] at V
  unfold p_X11_calm at h
  refine lv_iload_n X.1 X.2.1 dX11_calm_0 rfl (lv_at hl 2 rfl) ?_
  refine lv_if_lt (tgt := 9) X.1 X.2.1 dX11_calm_1 (by decide) (fun hc => ?_) (fun hc => ?_)
  · replace h := kif_t hc h
    refine lv_ldc2 (v := (-1 : Int64)) X.1 X.2.1 X.2.2.2.1 (X.2.2.2.2.1 _ kc_X11_242) dX11_calm_9 ?_
    obtain rfl := Option.some.inj h
    rw [hAA] at V
    rw [hQQ]
    exact k_lret X V rfl dX11_calm_12
  · replace h := kif_f hc h
    refine lv_iload_n X.1 X.2.1 dX11_calm_4 rfl (lv_at hl 2 rfl) ?_
    refine lv_iconst (v := (2 : Int32)) X.1 X.2.1 dX11_calm_5 (by decide) ?_
    refine lv_icmp_le (tgt := 13) X.1 X.2.1 dX11_calm_6 (by decide) (fun hc => ?_) (fun hc => ?_)
    · replace h := kif_t hc h
      refine lv_iconst (v := (0 : Int32)) X.1 X.2.1 dX11_calm_13 (by decide) ?_
      refine lv_istore_n (lv' := [(3, .int (0 : Int32)), (0, .ref (aT 0)), (1, .int v1), (2, .int v2)]) X.1 X.2.1 dX11_calm_14 rfl hl (by decide) rfl (fun ls hl => ?_)
      refine lv_iconst (v := (0 : Int32)) X.1 X.2.1 dX11_calm_15 (by decide) ?_
      refine lv_istore (lv' := [(4, .int (0 : Int32)), (3, .int (0 : Int32)), (0, .ref (aT 0)), (1, .int v1), (2, .int v2)]) X.1 X.2.1 dX11_calm_16 hl (by decide) rfl (fun ls hl => ?_)
      obtain ⟨x14, hx14, h⟩ := kb_of h
      refine (kitr_go (hd := 18) (body := fun q => p_X11_calm_L18 zT zT_0 v1 v2 q) (G := (fun e => ∀ (H : Heap) (locs : List Loc) (ls : Array Slot), kW D AA s.heap H (List.flatten [gX11 g aT bT zT, gX4 g (bT 0) zT_0, gX8 g (bT 2) e.2.2.2.1, gX0 g (bT 4) e.2.2.2.2.1, gX3 g (bT 13) e.2.2.2.2.2.1, gX3 g (bT 14) e.2.2.2.2.2.2]) locs → lv_has ls 5 [(0, .ref (aT 0)), (1, .int v1), (2, .int v2), (3, .int e.2.1), (4, .int e.2.2.1)] → W p l en (kR 6 152) s m args below meth c H locs 0 0 QQ (F0 m e.1 ls []))) (fun s15 e16 hb17 hG18 => ?_) kF _ x14 hx14 ?_) _ _ _ V (lv_sub hl [2, 3, 4, 1, 0] rfl)
      · intro H locs ls V hl
        show W p l en (kR 6 152) s m args below meth c H locs 0 0 QQ (F0 m 18 ls [])
        have h : p_X11_calm_L18 zT zT_0 v1 v2 s15 = some e16 := hb17
        unfold p_X11_calm_L18 at h
        have V : kW D AA s.heap H (List.flatten [gX11 g aT bT zT, gX4 g (bT 0) zT_0, gX8 g (bT 2) s15.2.2.1, gX0 g (bT 4) s15.2.2.2.1, gX3 g (bT 13) s15.2.2.2.2.1, gX3 g (bT 14) s15.2.2.2.2.2]) locs := V
        have hl : lv_has ls 5 [(0, .ref (aT 0)), (1, .int v1), (2, .int v2), (3, .int s15.1), (4, .int s15.2.1)] := hl
        have J96 : ∀ (zT_2 : tX8) (zT_4 : tX0) (zT_13 : tX3) (zT_14 : tX3) (v4 : Int32) (H : Heap) (locs : List Loc) (ls : Array Slot), p_X11_calm_J96_18 zT zT_0 v1 v2 zT_2 zT_4 zT_13 zT_14 v4 = some e16 → kW D AA s.heap H (List.flatten [gX11 g aT bT zT, gX4 g (bT 0) zT_0, gX8 g (bT 2) zT_2, gX0 g (bT 4) zT_4, gX3 g (bT 13) zT_13, gX3 g (bT 14) zT_14]) locs → lv_has ls 5 [(0, .ref (aT 0)), (1, .int v1), (2, .int v2), (4, .int v4)] → W p l en (kR 6 152) s m args below meth c H locs 0 0 QQ (F0 m 96 ls []) := by
          intro zT_2 zT_4 zT_13 zT_14 v4 H locs ls h V hl
          unfold p_X11_calm_J96_18 at h
          refine lv_aload_n X.1 X.2.1 dX11_calm_96 rfl (lv_at hl 0 rfl) ?_
          refine gf_X11_95 (i := 0) X V rfl dX11_calm_97 ?_
          refine lv_aload_n X.1 X.2.1 dX11_calm_100 rfl (lv_at hl 0 rfl) ?_
          refine gf_X11_91 (i := 0) X V rfl dX11_calm_101 ?_
          refine lv_iconst (v := (0 : Int32)) X.1 X.2.1 dX11_calm_104 (by decide) ?_
          obtain ⟨x19, hx19, h⟩ := kb_of h
          refine s_callVl (segs' := [gX11 g aT bT zT, gX4 g (bT 0) zT_0, gX8 g (bT 2) zT_2, gX0 g (bT 4) zT_4, gX3 g (bT 13) zT_13, gX3 g (bT 14) zT_14]) (ci := 3) (i0 := 0) X V (c_X3_part l D g (bT 13) zT_13 (0 : Int32) x19 hx19) w_X11_223 ⟨Nat.le_of_ble_eq_true rfl, Nat.le_of_ble_eq_true rfl⟩ ⟨Nat.zero_le _, Nat.zero_le _⟩ rfl rfl rfl rfl [4] rfl rfl (kFst_refl _) rfl rfl hl.1 (Nat.le_of_ble_eq_true rfl) dX11_calm_105 (fun H locs V => ?_)
          refine lv_aload_n X.1 X.2.1 dX11_calm_108 rfl (lv_at hl 0 rfl) ?_
          refine gf_X11_91 (i := 0) X V rfl dX11_calm_109 ?_
          refine lv_iconst (v := (1 : Int32)) X.1 X.2.1 dX11_calm_112 (by decide) ?_
          obtain ⟨x20, hx20, h⟩ := kb_of h
          refine s_callVl (segs' := [gX11 g aT bT zT, gX4 g (bT 0) zT_0, gX8 g (bT 2) zT_2, gX0 g (bT 4) zT_4, gX3 g (bT 13) zT_13, gX3 g (bT 14) zT_14]) (ci := 3) (i0 := 0) X V (c_X3_part l D g (bT 13) zT_13 (1 : Int32) x20 hx20) w_X11_223 ⟨Nat.le_of_ble_eq_true rfl, Nat.le_of_ble_eq_true rfl⟩ ⟨Nat.zero_le _, Nat.zero_le _⟩ rfl rfl rfl rfl [4] rfl rfl (kFst_refl _) rfl rfl hl.1 (Nat.le_of_ble_eq_true rfl) dX11_calm_113 (fun H locs V => ?_)
          obtain ⟨x21, hx21, h⟩ := kb_of h
          refine s_callVv (segs' := [gX11 g aT bT zT, gX4 g (bT 0) zT_0, gX8 g (bT 2) zT_2, gX0 g (bT 4) zT_4, gX3 g (bT 13) zT_13, gX3 g (bT 14) x21]) (ci := 3) (i0 := 0) X V (c_X3_set l D g (bT 14) zT_14 x19 x20 x21 hx21) w_X11_323 ⟨Nat.le_of_ble_eq_true rfl, Nat.le_of_ble_eq_true rfl⟩ ⟨Nat.zero_le _, Nat.zero_le _⟩ rfl rfl rfl rfl [5] rfl rfl ⟨gX3_fst, trivial⟩ rfl rfl hl.1 (Nat.le_of_ble_eq_true rfl) dX11_calm_116 (fun H locs V => ?_)
          refine lv_iload X.1 X.2.1 dX11_calm_119 (lv_at hl 3 rfl) ?_
          refine lv_istore_n (lv' := [(3, .int v4), (0, .ref (aT 0)), (1, .int v1), (2, .int v2), (4, .int v4)]) X.1 X.2.1 dX11_calm_121 rfl hl (by decide) rfl (fun ls hl => ?_)
          obtain ⟨y22, ey22⟩ : ∃ y : Int32, y = (v4 + (1 : Int32)) := ⟨_, rfl⟩
          replace h := kl_of ey22 h
          refine lv_iinc (v := y22) (lv' := [(4, .int y22), (3, .int v4), (0, .ref (aT 0)), (1, .int v1), (2, .int v2)]) X.1 X.2.1 dX11_calm_122 hl (k := 4) rfl (by rw [ey22]; rfl) (by decide) rfl (fun ls hl => ?_)
          refine lv_goto (tgt := 18) X.1 X.2.1 dX11_calm_125 (by decide) ?_
          obtain rfl := Option.some.inj h
          exact hG18 _ _ _ V (lv_sub hl [2, 3, 4, 1, 0] rfl)
        refine lv_iload X.1 X.2.1 dX11_calm_18 (lv_at hl 4 rfl) ?_
        refine lv_bipush (v := (20 : Int32)) X.1 X.2.1 dX11_calm_20 (by decide) ?_
        refine lv_icmp_gt (tgt := 128) X.1 X.2.1 dX11_calm_22 (by decide) (fun hc => ?_) (fun hc => ?_)
        · replace h := kif_t hc h
          obtain rfl := Option.some.inj h
          exact hG18 _ _ _ V (lv_sub hl [0, 1, 2, 3, 4] rfl)
        · replace h := kif_f hc h
          refine lv_aload_n X.1 X.2.1 dX11_calm_25 rfl (lv_at hl 0 rfl) ?_
          refine lv_aload_n X.1 X.2.1 dX11_calm_26 rfl (lv_at hl 0 rfl) ?_
          refine gf_X11_26 (i := 0) X V rfl dX11_calm_27 ?_
          refine lv_iload_n X.1 X.2.1 dX11_calm_30 rfl (lv_at hl 1 rfl) ?_
          refine lv_iload X.1 X.2.1 dX11_calm_31 (lv_at hl 4 rfl) ?_
          obtain ⟨x23, hx23, h⟩ := kb_of h
          refine s_callVi (segs' := [gX11 g aT bT zT, gX4 g (bT 0) zT_0, gX8 g (bT 2) x23.2, gX0 g (bT 4) s15.2.2.2.1, gX3 g (bT 13) s15.2.2.2.2.1, gX3 g (bT 14) s15.2.2.2.2.2]) (ci := 11) (i0 := 0) X V (c_X11_gatherAt l D g aT (bT 2) bT zT zT_0 s15.2.2.1 v1 s15.2.1 x23 hx23) w_X11_252 ⟨Nat.le_of_ble_eq_true rfl, Nat.le_of_ble_eq_true rfl⟩ ⟨Nat.zero_le _, Nat.zero_le _⟩ rfl rfl rfl rfl [0, 1, 2] rfl rfl ⟨rfl, rfl, gX8_fst, trivial⟩ rfl rfl hl.1 (Nat.le_of_ble_eq_true rfl) dX11_calm_33 (fun H locs V => ?_)
          refine lv_if_ne (tgt := 43) X.1 X.2.1 dX11_calm_36 (by decide) (fun hc => ?_) (fun hc => ?_)
          · replace h := kif_f hc h
            refine lv_aload_n X.1 X.2.1 dX11_calm_43 rfl (lv_at hl 0 rfl) ?_
            refine gf_X11_36 (i := 0) X V rfl dX11_calm_44 ?_
            refine lv_aload_n X.1 X.2.1 dX11_calm_47 rfl (lv_at hl 0 rfl) ?_
            refine gf_X11_26 (i := 0) X V rfl dX11_calm_48 ?_
            obtain ⟨x24, hx24, h⟩ := kb_of h
            refine s_callVv (segs' := [gX11 g aT bT zT, gX4 g (bT 0) zT_0, gX8 g (bT 2) x23.2, gX0 g (bT 4) x24, gX3 g (bT 13) s15.2.2.2.2.1, gX3 g (bT 14) s15.2.2.2.2.2]) (ci := 0) (i0 := 0) X V (c_X0_about l D g (bT 4) (bT 2) s15.2.2.2.1 x23.2 x24 hx24) w_X11_209 ⟨Nat.le_of_ble_eq_true rfl, Nat.le_of_ble_eq_true rfl⟩ ⟨Nat.zero_le _, Nat.zero_le _⟩ rfl rfl rfl rfl [3, 2] rfl rfl ⟨gX0_fst, rfl, trivial⟩ rfl rfl hl.1 (Nat.le_of_ble_eq_true rfl) dX11_calm_51 (fun H locs V => ?_)
            refine lv_aload_n X.1 X.2.1 dX11_calm_54 rfl (lv_at hl 0 rfl) ?_
            refine gf_X11_36 (i := 0) X V rfl dX11_calm_55 ?_
            refine lv_aload_n X.1 X.2.1 dX11_calm_58 rfl (lv_at hl 0 rfl) ?_
            refine gf_X11_91 (i := 0) X V rfl dX11_calm_59 ?_
            obtain ⟨x25, hx25, h⟩ := kb_of h
            refine s_callVv (segs' := [gX11 g aT bT zT, gX4 g (bT 0) zT_0, gX8 g (bT 2) x23.2, gX0 g (bT 4) x24, gX3 g (bT 13) x25, gX3 g (bT 14) s15.2.2.2.2.2]) (ci := 0) (i0 := 0) X V (c_X0_size l D g (bT 4) (bT 13) x24 s15.2.2.2.2.1 x25 hx25) w_X11_213 ⟨Nat.le_of_ble_eq_true rfl, Nat.le_of_ble_eq_true rfl⟩ ⟨Nat.zero_le _, Nat.zero_le _⟩ rfl rfl rfl rfl [3, 4] rfl rfl ⟨rfl, gX3_fst, trivial⟩ rfl rfl hl.1 (Nat.le_of_ble_eq_true rfl) dX11_calm_62 (fun H locs V => ?_)
            refine lv_iload X.1 X.2.1 dX11_calm_65 (lv_at hl 4 rfl) ?_
            refine lv_if_eq (tgt := 96) X.1 X.2.1 dX11_calm_67 (by decide) (fun hc => ?_) (fun hc => ?_)
            · replace h := kif_t hc h
              exact J96 x23.2 x24 x25 s15.2.2.2.2.2 s15.2.1 _ _ _ h V (lv_sub hl [0, 1, 2, 4] rfl)
            · replace h := kif_f hc h
              refine lv_aload_n X.1 X.2.1 dX11_calm_70 rfl (lv_at hl 0 rfl) ?_
              refine gf_X11_91 (i := 0) X V rfl dX11_calm_71 ?_
              refine lv_aload_n X.1 X.2.1 dX11_calm_74 rfl (lv_at hl 0 rfl) ?_
              refine gf_X11_95 (i := 0) X V rfl dX11_calm_75 ?_
              refine lv_iconst (v := (0 : Int32)) X.1 X.2.1 dX11_calm_78 (by decide) ?_
              obtain ⟨x26, hx26, h⟩ := kb_of h
              refine s_callVl (segs' := [gX11 g aT bT zT, gX4 g (bT 0) zT_0, gX8 g (bT 2) x23.2, gX0 g (bT 4) x24, gX3 g (bT 13) x25, gX3 g (bT 14) s15.2.2.2.2.2]) (ci := 3) (i0 := 0) X V (c_X3_part l D g (bT 14) s15.2.2.2.2.2 (0 : Int32) x26 hx26) w_X11_223 ⟨Nat.le_of_ble_eq_true rfl, Nat.le_of_ble_eq_true rfl⟩ ⟨Nat.zero_le _, Nat.zero_le _⟩ rfl rfl rfl rfl [5] rfl rfl (kFst_refl _) rfl rfl hl.1 (Nat.le_of_ble_eq_true rfl) dX11_calm_79 (fun H locs V => ?_)
              refine lv_aload_n X.1 X.2.1 dX11_calm_82 rfl (lv_at hl 0 rfl) ?_
              refine gf_X11_95 (i := 0) X V rfl dX11_calm_83 ?_
              refine lv_iconst (v := (1 : Int32)) X.1 X.2.1 dX11_calm_86 (by decide) ?_
              obtain ⟨x27, hx27, h⟩ := kb_of h
              refine s_callVl (segs' := [gX11 g aT bT zT, gX4 g (bT 0) zT_0, gX8 g (bT 2) x23.2, gX0 g (bT 4) x24, gX3 g (bT 13) x25, gX3 g (bT 14) s15.2.2.2.2.2]) (ci := 3) (i0 := 0) X V (c_X3_part l D g (bT 14) s15.2.2.2.2.2 (1 : Int32) x27 hx27) w_X11_223 ⟨Nat.le_of_ble_eq_true rfl, Nat.le_of_ble_eq_true rfl⟩ ⟨Nat.zero_le _, Nat.zero_le _⟩ rfl rfl rfl rfl [5] rfl rfl (kFst_refl _) rfl rfl hl.1 (Nat.le_of_ble_eq_true rfl) dX11_calm_87 (fun H locs V => ?_)
              obtain ⟨x28, hx28, h⟩ := kb_of h
              refine s_callVi (segs' := [gX11 g aT bT zT, gX4 g (bT 0) zT_0, gX8 g (bT 2) x23.2, gX0 g (bT 4) x24, gX3 g (bT 13) x25, gX3 g (bT 14) s15.2.2.2.2.2]) (ci := 3) (i0 := 0) X V (c_X3_against l D g (bT 13) x25 x26 x27 x28 hx28) w_X11_256 ⟨Nat.le_of_ble_eq_true rfl, Nat.le_of_ble_eq_true rfl⟩ ⟨Nat.zero_le _, Nat.zero_le _⟩ rfl rfl rfl rfl [4] rfl rfl (kFst_refl _) rfl rfl hl.1 (Nat.le_of_ble_eq_true rfl) dX11_calm_90 (fun H locs V => ?_)
              refine lv_if_ge (tgt := 122) X.1 X.2.1 dX11_calm_93 (by decide) (fun hc => ?_) (fun hc => ?_)
              · replace h := kif_t hc h
                obtain ⟨y29, ey29⟩ : ∃ y : Int32, y = (s15.2.1 + (1 : Int32)) := ⟨_, rfl⟩
                replace h := kl_of ey29 h
                refine lv_iinc (v := y29) (lv' := [(4, .int y29), (0, .ref (aT 0)), (1, .int v1), (2, .int v2), (3, .int s15.1)]) X.1 X.2.1 dX11_calm_122 hl (k := 4) rfl (by rw [ey29]; rfl) (by decide) rfl (fun ls hl => ?_)
                refine lv_goto (tgt := 18) X.1 X.2.1 dX11_calm_125 (by decide) ?_
                obtain rfl := Option.some.inj h
                exact hG18 _ _ _ V (lv_sub hl [1, 2, 3, 4, 0] rfl)
              · replace h := kif_f hc h
                exact J96 x23.2 x24 x25 s15.2.2.2.2.2 s15.2.1 _ _ _ h V (lv_sub hl [0, 1, 2, 4] rfl)
          · replace h := kif_t hc h
            obtain rfl := Option.some.inj h
            exact hG18 _ _ _ V (lv_sub hl [0, 1, 2, 3, 4] rfl)
      · intro H locs ls V hl
        have V : kW D AA s.heap H (List.flatten [gX11 g aT bT zT, gX4 g (bT 0) zT_0, gX8 g (bT 2) x14.2.2.2.1, gX0 g (bT 4) x14.2.2.2.2.1, gX3 g (bT 13) x14.2.2.2.2.2.1, gX3 g (bT 14) x14.2.2.2.2.2.2]) locs := V
        have hl : lv_has ls 5 [(0, .ref (aT 0)), (1, .int v1), (2, .int v2), (3, .int x14.2.1), (4, .int x14.2.2.1)] := hl
        by_cases hc : x14.1 = 39
        · replace h := kif_t hc h
          refine W.eq (g2 := F0 m 39 ls []) (by rw [hc]) ?_
          refine lv_ldc2 (v := (-1 : Int64)) X.1 X.2.1 X.2.2.2.1 (X.2.2.2.2.1 _ kc_X11_242) dX11_calm_39 ?_
          obtain rfl := Option.some.inj h
          rw [hAA] at V
          rw [hQQ]
          exact k_lret X V rfl dX11_calm_42
        · replace h := kif_f hc h
          obtain ⟨hc, h⟩ := kg_of h
          refine W.eq (g2 := F0 m 128 ls []) (by rw [hc]) ?_
          refine lv_iload_n X.1 X.2.1 dX11_calm_128 rfl (lv_at hl 2 rfl) ?_
          refine lv_if_ne (tgt := 137) X.1 X.2.1 dX11_calm_129 (by decide) (fun hc => ?_) (fun hc => ?_)
          · replace h := kif_f hc h
            refine lv_aload_n X.1 X.2.1 dX11_calm_137 rfl (lv_at hl 0 rfl) ?_
            refine gf_X11_95 (i := 0) X V rfl dX11_calm_138 ?_
            refine lv_iload_n X.1 X.2.1 dX11_calm_141 rfl (lv_at hl 2 rfl) ?_
            refine lv_iconst (v := (1 : Int32)) X.1 X.2.1 dX11_calm_142 (by decide) ?_
            refine lv_isub X.1 X.2.1 dX11_calm_143 ?_
            obtain ⟨x30, hx30, h⟩ := kb_of h
            refine s_callVl (segs' := [gX11 g aT bT zT, gX4 g (bT 0) zT_0, gX8 g (bT 2) x14.2.2.2.1, gX0 g (bT 4) x14.2.2.2.2.1, gX3 g (bT 13) x14.2.2.2.2.2.1, gX3 g (bT 14) x14.2.2.2.2.2.2]) (ci := 3) (i0 := 0) X V (c_X3_part l D g (bT 14) x14.2.2.2.2.2.2 (v2 - (1 : Int32)) x30 hx30) w_X11_223 ⟨Nat.le_of_ble_eq_true rfl, Nat.le_of_ble_eq_true rfl⟩ ⟨Nat.zero_le _, Nat.zero_le _⟩ rfl rfl rfl rfl [5] rfl rfl (kFst_refl _) rfl rfl hl.1 (Nat.le_of_ble_eq_true rfl) dX11_calm_144 (fun H locs V => ?_)
            obtain rfl := Option.some.inj h
            rw [hAA] at V
            rw [hQQ]
            exact k_lret X V rfl dX11_calm_147
          · replace h := kif_t hc h
            refine lv_iload_n X.1 X.2.1 dX11_calm_132 rfl (lv_at hl 3 rfl) ?_
            refine lv_i2l X.1 X.2.1 dX11_calm_133 rfl ?_
            refine lv_goto (tgt := 147) X.1 X.2.1 dX11_calm_134 (by decide) ?_
            obtain rfl := Option.some.inj h
            rw [hAA] at V
            rw [hQQ]
            exact k_lret X V rfl dX11_calm_147
    · replace h := kif_f hc h
      refine lv_ldc2 (v := (-1 : Int64)) X.1 X.2.1 X.2.2.2.1 (X.2.2.2.2.1 _ kc_X11_242) dX11_calm_9 ?_
      obtain rfl := Option.some.inj h
      rw [hAA] at V
      rw [hQQ]
      exact k_lret X V rfl dX11_calm_12

def p_X11_reach_J29 (zT : tX11) (zT_0 : tX4) (v1 : Int32) (v2 : Int32) (v3 : Int32) (v4 : Int32) (zT_2 : tX8) (zT_6 : tX5) (zT_13 : tX3) : Option (Int64 × tX8 × tX5 × tX3) :=
  kb (p_X11_gather zT zT_0 zT_2 v1) (fun x2 => kif ((kz x2.1) = 0) (some ((-1000 : Int64), x2.2, zT_6, zT_13)) (kb (p_X5_about zT_6 x2.2) (fun x3 => kif (v4 = 0) (kb (p_X5_farthest x3 v2.toInt64 v3.toInt64) (fun x4 => kb (p_X5_number x3 x4) (fun x5 => some (x5.toInt64, x2.2, x3, zT_13)))) (kb (p_X5_most x3 v2.toInt64 v3.toInt64) (fun x6 => kif (v4 = (1 : Int32)) (some (x6, x2.2, x3, zT_13)) (kb (p_X5_least x3 v2.toInt64 v3.toInt64) (fun x7 => kl (x6 - x7) (fun y8 => kb (p_X3_set zT_13 (y8 * y8) ((v2.toInt64 * v2.toInt64) + (v3.toInt64 * v3.toInt64))) (fun x9 => kb (p_X3_part x9 (v4 - (2 : Int32))) (fun x10 => some (x10, x2.2, x3, x9)))))))))))
def p_X11_reach (zT : tX11) (zT_0 : tX4) (zT_2 : tX8) (zT_6 : tX5) (zT_13 : tX3) (v1 : Int32) (v2 : Int32) (v3 : Int32) (v4 : Int32) : Option (Int64 × tX8 × tX5 × tX3) :=
  kif (v4 < 0) (some ((-1000 : Int64), zT_2, zT_6, zT_13)) (kif ((3 : Int32) < v4) (some ((-1000 : Int64), zT_2, zT_6, zT_13)) (kb (p_X11_isNear v2 v3 (100 : Int32)) (fun x1 => kif ((kz x1) = 0) (some ((-1000 : Int64), zT_2, zT_6, zT_13)) (kif (v2 = 0) (kif (v3 = 0) (some ((-1000 : Int64), zT_2, zT_6, zT_13)) (p_X11_reach_J29 zT zT_0 v1 v2 v3 v4 zT_2 zT_6 zT_13)) (p_X11_reach_J29 zT zT_0 v1 v2 v3 v4 zT_2 zT_6 zT_13)))))
set_option maxHeartbeats 4000000 in
set_option maxRecDepth 100000 in
theorem c_X11_reach (l : Launch) (D : va_G) (g : kG) (aT : Nat → Nat) (bT : Nat → Nat → Nat) (zT : tX11) (zT_0 : tX4) (zT_2 : tX8) (zT_6 : tX5) (zT_13 : tX3) (v1 : Int32) (v2 : Int32) (v3 : Int32) (v4 : Int32) (r : Int64 × tX8 × tX5 × tX3) (h : p_X11_reach zT zT_0 zT_2 zT_6 zT_13 v1 v2 v3 v4 = some r) : kMl l yX11_reach cX11_reach 9 (some .long) (kR 5 116) D (kty g) [.ref (aT 0), .int v1, .int v2, .int v3, .int v4] (List.flatten [gX11 g aT bT zT, gX4 g (bT 0) zT_0, gX8 g (bT 2) zT_2, gX5 g (bT 6) zT_6, gX3 g (bT 13) zT_13]) r.1 (List.flatten [gX11 g aT bT zT, gX4 g (bT 0) zT_0, gX8 g (bT 2) r.2.1, gX5 g (bT 6) r.2.2.1, gX3 g (bT 13) r.2.2.2]) := by
  intro sz
  refine k_enter (lv := [(0, .ref (aT 0)), (1, .int v1), (2, .int v2), (3, .int v3), (4, .int v4)]) RX11 (by decide +kernel) rfl rfl (Nat.le_of_ble_eq_true rfl) ?_
  intro p en s m args below meth c ls hsz X V hl
  obtain ⟨QQ, hQQ⟩ : ∃ q, q = MQ below (va_Ql (fun r' (_ : Unit) => r' = r.1) (fun _ => kE D (List.flatten [gX11 g aT bT zT, gX4 g (bT 0) zT_0, gX8 g (bT 2) r.2.1, gX5 g (bT 6) r.2.2.1, gX3 g (bT 13) r.2.2.2])) (va_A (List.flatten [gX11 g aT bT zT, gX4 g (bT 0) zT_0, gX8 g (bT 2) zT_2, gX5 g (bT 6) zT_6, gX3 g (bT 13) zT_13]) sz)) args s 0 0 (va_A (List.flatten [gX11 g aT bT zT, gX4 g (bT 0) zT_0, gX8 g (bT 2) zT_2, gX5 g (bT 6) zT_6, gX3 g (bT 13) zT_13]) sz) := ⟨_, rfl⟩
  rw [← hQQ]
  obtain ⟨AA, hAA⟩ : ∃ q, q = va_A (List.flatten [gX11 g aT bT zT, gX4 g (bT 0) zT_0, gX8 g (bT 2) zT_2, gX5 g (bT 6) zT_6, gX3 g (bT 13) zT_13]) sz := ⟨_, rfl⟩
  rw [← hAA] at V
  have J29 : ∀ (zT_2 : tX8) (zT_6 : tX5) (zT_13 : tX3) (H : Heap) (locs : List Loc) (ls : Array Slot), p_X11_reach_J29 zT zT_0 v1 v2 v3 v4 zT_2 zT_6 zT_13 = some r → kW D AA s.heap H (List.flatten [gX11 g aT bT zT, gX4 g (bT 0) zT_0, gX8 g (bT 2) zT_2, gX5 g (bT 6) zT_6, gX3 g (bT 13) zT_13]) locs → lv_has ls 9 [(0, .ref (aT 0)), (1, .int v1), (2, .int v2), (3, .int v3), (4, .int v4)] → W p l en (kR 5 116) s m args below meth c H locs 0 0 QQ (F0 m 29 ls []) := by
    intro zT_2 zT_6 zT_13 H locs ls h V hl
    unfold p_X11_reach_J29 at h
    refine lv_aload_n X.1 X.2.1 dX11_reach_29 rfl (lv_at hl 0 rfl) ?_
    refine lv_iload_n X.1 X.2.1 dX11_reach_30 rfl (lv_at hl 1 rfl) ?_
    obtain ⟨x11, hx11, h⟩ := kb_of h
    refine s_callVi (segs' := [gX11 g aT bT zT, gX4 g (bT 0) zT_0, gX8 g (bT 2) x11.2, gX5 g (bT 6) zT_6, gX3 g (bT 13) zT_13]) (ci := 11) (i0 := 0) X V (c_X11_gather l D g aT bT zT zT_0 zT_2 v1 x11 hx11) w_X11_196 ⟨Nat.le_of_ble_eq_true rfl, Nat.le_of_ble_eq_true rfl⟩ ⟨Nat.zero_le _, Nat.zero_le _⟩ rfl rfl rfl rfl [0, 1, 2] rfl rfl ⟨rfl, rfl, gX8_fst, trivial⟩ rfl rfl hl.1 (Nat.le_of_ble_eq_true rfl) dX11_reach_31 (fun H locs V => ?_)
    refine lv_if_ne (tgt := 41) X.1 X.2.1 dX11_reach_34 (by decide) (fun hc => ?_) (fun hc => ?_)
    · replace h := kif_f hc h
      refine lv_aload_n X.1 X.2.1 dX11_reach_41 rfl (lv_at hl 0 rfl) ?_
      refine gf_X11_46 (i := 0) X V rfl dX11_reach_42 ?_
      refine lv_aload_n X.1 X.2.1 dX11_reach_45 rfl (lv_at hl 0 rfl) ?_
      refine gf_X11_26 (i := 0) X V rfl dX11_reach_46 ?_
      obtain ⟨x12, hx12, h⟩ := kb_of h
      refine s_callVv (segs' := [gX11 g aT bT zT, gX4 g (bT 0) zT_0, gX8 g (bT 2) x11.2, gX5 g (bT 6) x12, gX3 g (bT 13) zT_13]) (ci := 5) (i0 := 0) X V (c_X5_about l D g (bT 6) (bT 2) zT_6 x11.2 x12 hx12) w_X11_260 ⟨Nat.le_of_ble_eq_true rfl, Nat.le_of_ble_eq_true rfl⟩ ⟨Nat.zero_le _, Nat.zero_le _⟩ rfl rfl rfl rfl [3, 2] rfl rfl ⟨gX5_fst, rfl, trivial⟩ rfl rfl hl.1 (Nat.le_of_ble_eq_true rfl) dX11_reach_49 (fun H locs V => ?_)
      refine lv_iload X.1 X.2.1 dX11_reach_52 (lv_at hl 4 rfl) ?_
      refine lv_if_ne (tgt := 77) X.1 X.2.1 dX11_reach_54 (by decide) (fun hc => ?_) (fun hc => ?_)
      · replace h := kif_f hc h
        refine lv_aload_n X.1 X.2.1 dX11_reach_77 rfl (lv_at hl 0 rfl) ?_
        refine gf_X11_46 (i := 0) X V rfl dX11_reach_78 ?_
        refine lv_iload_n X.1 X.2.1 dX11_reach_81 rfl (lv_at hl 2 rfl) ?_
        refine lv_i2l X.1 X.2.1 dX11_reach_82 rfl ?_
        refine lv_iload_n X.1 X.2.1 dX11_reach_83 rfl (lv_at hl 3 rfl) ?_
        refine lv_i2l X.1 X.2.1 dX11_reach_84 rfl ?_
        obtain ⟨x13, hx13, h⟩ := kb_of h
        refine s_callVl (segs' := [gX11 g aT bT zT, gX4 g (bT 0) zT_0, gX8 g (bT 2) x11.2, gX5 g (bT 6) x12, gX3 g (bT 13) zT_13]) (ci := 5) (i0 := 0) X V (c_X5_most l D g (bT 6) x12 v2.toInt64 v3.toInt64 x13 hx13) w_X11_330 ⟨Nat.le_of_ble_eq_true rfl, Nat.le_of_ble_eq_true rfl⟩ ⟨Nat.zero_le _, Nat.zero_le _⟩ rfl rfl rfl rfl [3] rfl rfl (kFst_refl _) rfl rfl hl.1 (Nat.le_of_ble_eq_true rfl) dX11_reach_85 (fun H locs V => ?_)
        refine lv_lstore (lv' := [(5, .long x13), (0, .ref (aT 0)), (1, .int v1), (2, .int v2), (3, .int v3), (4, .int v4)]) X.1 X.2.1 dX11_reach_88 hl (by decide) rfl (fun ls hl => ?_)
        refine lv_iload X.1 X.2.1 dX11_reach_90 (lv_at hl 5 rfl) ?_
        refine lv_iconst (v := (1 : Int32)) X.1 X.2.1 dX11_reach_92 (by decide) ?_
        refine lv_icmp_ne (tgt := 99) X.1 X.2.1 dX11_reach_93 (by decide) (fun hc => ?_) (fun hc => ?_)
        · replace h := kif_f hc h
          refine lv_lload X.1 X.2.1 dX11_reach_99 (lv_at hl 0 rfl) ?_
          refine lv_aload_n X.1 X.2.1 dX11_reach_101 rfl (lv_at hl 1 rfl) ?_
          refine gf_X11_46 (i := 0) X V rfl dX11_reach_102 ?_
          refine lv_iload_n X.1 X.2.1 dX11_reach_105 rfl (lv_at hl 3 rfl) ?_
          refine lv_i2l X.1 X.2.1 dX11_reach_106 rfl ?_
          refine lv_iload_n X.1 X.2.1 dX11_reach_107 rfl (lv_at hl 4 rfl) ?_
          refine lv_i2l X.1 X.2.1 dX11_reach_108 rfl ?_
          obtain ⟨x14, hx14, h⟩ := kb_of h
          refine s_callVl (segs' := [gX11 g aT bT zT, gX4 g (bT 0) zT_0, gX8 g (bT 2) x11.2, gX5 g (bT 6) x12, gX3 g (bT 13) zT_13]) (ci := 5) (i0 := 0) X V (c_X5_least l D g (bT 6) x12 v2.toInt64 v3.toInt64 x14 hx14) w_X11_334 ⟨Nat.le_of_ble_eq_true rfl, Nat.le_of_ble_eq_true rfl⟩ ⟨Nat.zero_le _, Nat.zero_le _⟩ rfl rfl rfl rfl [3] rfl rfl (kFst_refl _) rfl rfl hl.1 (Nat.le_of_ble_eq_true rfl) dX11_reach_109 (fun H locs V => ?_)
          refine lv_lsub X.1 X.2.1 dX11_reach_112 ?_
          refine lv_topl (fun y15 ey15 => ?_)
          replace h := kl_of ey15 h
          refine lv_lstore (lv' := [(7, .long y15), (5, .long x13), (0, .ref (aT 0)), (1, .int v1), (2, .int v2), (3, .int v3), (4, .int v4)]) X.1 X.2.1 dX11_reach_113 hl (by decide) rfl (fun ls hl => ?_)
          refine lv_aload_n X.1 X.2.1 dX11_reach_115 rfl (lv_at hl 2 rfl) ?_
          refine gf_X11_91 (i := 0) X V rfl dX11_reach_116 ?_
          refine lv_lload X.1 X.2.1 dX11_reach_119 (lv_at hl 0 rfl) ?_
          refine lv_lload X.1 X.2.1 dX11_reach_121 (lv_at hl 0 rfl) ?_
          refine lv_lmul X.1 X.2.1 dX11_reach_123 ?_
          refine lv_iload_n X.1 X.2.1 dX11_reach_124 rfl (lv_at hl 4 rfl) ?_
          refine lv_i2l X.1 X.2.1 dX11_reach_125 rfl ?_
          refine lv_iload_n X.1 X.2.1 dX11_reach_126 rfl (lv_at hl 4 rfl) ?_
          refine lv_i2l X.1 X.2.1 dX11_reach_127 rfl ?_
          refine lv_lmul X.1 X.2.1 dX11_reach_128 ?_
          refine lv_iload_n X.1 X.2.1 dX11_reach_129 rfl (lv_at hl 5 rfl) ?_
          refine lv_i2l X.1 X.2.1 dX11_reach_130 rfl ?_
          refine lv_iload_n X.1 X.2.1 dX11_reach_131 rfl (lv_at hl 5 rfl) ?_
          refine lv_i2l X.1 X.2.1 dX11_reach_132 rfl ?_
          refine lv_lmul X.1 X.2.1 dX11_reach_133 ?_
          refine lv_ladd X.1 X.2.1 dX11_reach_134 ?_
          obtain ⟨x16, hx16, h⟩ := kb_of h
          refine s_callVv (segs' := [gX11 g aT bT zT, gX4 g (bT 0) zT_0, gX8 g (bT 2) x11.2, gX5 g (bT 6) x12, gX3 g (bT 13) x16]) (ci := 3) (i0 := 0) X V (c_X3_set l D g (bT 13) zT_13 (y15 * y15) ((v2.toInt64 * v2.toInt64) + (v3.toInt64 * v3.toInt64)) x16 hx16) w_X11_323 ⟨Nat.le_of_ble_eq_true rfl, Nat.le_of_ble_eq_true rfl⟩ ⟨Nat.zero_le _, Nat.zero_le _⟩ rfl rfl rfl rfl [4] rfl rfl ⟨gX3_fst, trivial⟩ rfl rfl hl.1 (Nat.le_of_ble_eq_true rfl) dX11_reach_135 (fun H locs V => ?_)
          refine lv_aload_n X.1 X.2.1 dX11_reach_138 rfl (lv_at hl 2 rfl) ?_
          refine gf_X11_91 (i := 0) X V rfl dX11_reach_139 ?_
          refine lv_iload X.1 X.2.1 dX11_reach_142 (lv_at hl 6 rfl) ?_
          refine lv_iconst (v := (2 : Int32)) X.1 X.2.1 dX11_reach_144 (by decide) ?_
          refine lv_isub X.1 X.2.1 dX11_reach_145 ?_
          obtain ⟨x17, hx17, h⟩ := kb_of h
          refine s_callVl (segs' := [gX11 g aT bT zT, gX4 g (bT 0) zT_0, gX8 g (bT 2) x11.2, gX5 g (bT 6) x12, gX3 g (bT 13) x16]) (ci := 3) (i0 := 0) X V (c_X3_part l D g (bT 13) x16 (v4 - (2 : Int32)) x17 hx17) w_X11_223 ⟨Nat.le_of_ble_eq_true rfl, Nat.le_of_ble_eq_true rfl⟩ ⟨Nat.zero_le _, Nat.zero_le _⟩ rfl rfl rfl rfl [4] rfl rfl (kFst_refl _) rfl rfl hl.1 (Nat.le_of_ble_eq_true rfl) dX11_reach_146 (fun H locs V => ?_)
          obtain rfl := Option.some.inj h
          rw [hAA] at V
          rw [hQQ]
          exact k_lret X V rfl dX11_reach_149
        · replace h := kif_t hc h
          refine lv_lload X.1 X.2.1 dX11_reach_96 (lv_at hl 0 rfl) ?_
          obtain rfl := Option.some.inj h
          rw [hAA] at V
          rw [hQQ]
          exact k_lret X V rfl dX11_reach_98
      · replace h := kif_t hc h
        refine lv_aload_n X.1 X.2.1 dX11_reach_57 rfl (lv_at hl 0 rfl) ?_
        refine gf_X11_46 (i := 0) X V rfl dX11_reach_58 ?_
        refine lv_aload_n X.1 X.2.1 dX11_reach_61 rfl (lv_at hl 0 rfl) ?_
        refine gf_X11_46 (i := 0) X V rfl dX11_reach_62 ?_
        refine lv_iload_n X.1 X.2.1 dX11_reach_65 rfl (lv_at hl 2 rfl) ?_
        refine lv_i2l X.1 X.2.1 dX11_reach_66 rfl ?_
        refine lv_iload_n X.1 X.2.1 dX11_reach_67 rfl (lv_at hl 3 rfl) ?_
        refine lv_i2l X.1 X.2.1 dX11_reach_68 rfl ?_
        obtain ⟨x18, hx18, h⟩ := kb_of h
        refine s_callVi (segs' := [gX11 g aT bT zT, gX4 g (bT 0) zT_0, gX8 g (bT 2) x11.2, gX5 g (bT 6) x12, gX3 g (bT 13) zT_13]) (ci := 5) (i0 := 0) X V (c_X5_farthest l D g (bT 6) x12 v2.toInt64 v3.toInt64 x18 hx18) w_X11_327 ⟨Nat.le_of_ble_eq_true rfl, Nat.le_of_ble_eq_true rfl⟩ ⟨Nat.zero_le _, Nat.zero_le _⟩ rfl rfl rfl rfl [3] rfl rfl (kFst_refl _) rfl rfl hl.1 (Nat.le_of_ble_eq_true rfl) dX11_reach_69 (fun H locs V => ?_)
        obtain ⟨x19, hx19, h⟩ := kb_of h
        refine s_callVi (segs' := [gX11 g aT bT zT, gX4 g (bT 0) zT_0, gX8 g (bT 2) x11.2, gX5 g (bT 6) x12, gX3 g (bT 13) zT_13]) (ci := 5) (i0 := 0) X V (c_X5_number l D g (bT 6) x12 x18 x19 hx19) w_X11_262 ⟨Nat.le_of_ble_eq_true rfl, Nat.le_of_ble_eq_true rfl⟩ ⟨Nat.zero_le _, Nat.zero_le _⟩ rfl rfl rfl rfl [3] rfl rfl (kFst_refl _) rfl rfl hl.1 (Nat.le_of_ble_eq_true rfl) dX11_reach_72 (fun H locs V => ?_)
        refine lv_i2l X.1 X.2.1 dX11_reach_75 rfl ?_
        obtain rfl := Option.some.inj h
        rw [hAA] at V
        rw [hQQ]
        exact k_lret X V rfl dX11_reach_76
    · replace h := kif_t hc h
      refine lv_ldc2 (v := (-1000 : Int64)) X.1 X.2.1 X.2.2.2.1 (X.2.2.2.2.1 _ kc_X11_207) dX11_reach_37 ?_
      obtain rfl := Option.some.inj h
      rw [hAA] at V
      rw [hQQ]
      exact k_lret X V rfl dX11_reach_40
  unfold p_X11_reach at h
  refine lv_iload X.1 X.2.1 dX11_reach_0 (lv_at hl 4 rfl) ?_
  refine lv_if_lt (tgt := 37) X.1 X.2.1 dX11_reach_2 (by decide) (fun hc => ?_) (fun hc => ?_)
  · replace h := kif_t hc h
    refine lv_ldc2 (v := (-1000 : Int64)) X.1 X.2.1 X.2.2.2.1 (X.2.2.2.2.1 _ kc_X11_207) dX11_reach_37 ?_
    obtain rfl := Option.some.inj h
    rw [hAA] at V
    rw [hQQ]
    exact k_lret X V rfl dX11_reach_40
  · replace h := kif_f hc h
    refine lv_iload X.1 X.2.1 dX11_reach_5 (lv_at hl 4 rfl) ?_
    refine lv_iconst (v := (3 : Int32)) X.1 X.2.1 dX11_reach_7 (by decide) ?_
    refine lv_icmp_gt (tgt := 37) X.1 X.2.1 dX11_reach_8 (by decide) (fun hc => ?_) (fun hc => ?_)
    · replace h := kif_t hc h
      refine lv_ldc2 (v := (-1000 : Int64)) X.1 X.2.1 X.2.2.2.1 (X.2.2.2.2.1 _ kc_X11_207) dX11_reach_37 ?_
      obtain rfl := Option.some.inj h
      rw [hAA] at V
      rw [hQQ]
      exact k_lret X V rfl dX11_reach_40
    · replace h := kif_f hc h
      refine lv_iload_n X.1 X.2.1 dX11_reach_11 rfl (lv_at hl 2 rfl) ?_
      refine lv_iload_n X.1 X.2.1 dX11_reach_12 rfl (lv_at hl 3 rfl) ?_
      refine lv_bipush (v := (100 : Int32)) X.1 X.2.1 dX11_reach_13 (by decide) ?_
      obtain ⟨x20, hx20, h⟩ := kb_of h
      refine s_callSi (segs' := [gX11 g aT bT zT, gX4 g (bT 0) zT_0, gX8 g (bT 2) zT_2, gX5 g (bT 6) zT_6, gX3 g (bT 13) zT_13]) X V (c_X11_isNear l D g v2 v3 (100 : Int32) x20 hx20) w_X11_127 ⟨Nat.le_of_ble_eq_true rfl, Nat.le_of_ble_eq_true rfl⟩ ⟨Nat.zero_le _, Nat.zero_le _⟩ rfl [] rfl rfl (kFst_refl _) rfl rfl hl.1 (Nat.le_of_ble_eq_true rfl) dX11_reach_15 (fun H locs V => ?_)
      refine lv_if_eq (tgt := 37) X.1 X.2.1 dX11_reach_18 (by decide) (fun hc => ?_) (fun hc => ?_)
      · replace h := kif_t hc h
        refine lv_ldc2 (v := (-1000 : Int64)) X.1 X.2.1 X.2.2.2.1 (X.2.2.2.2.1 _ kc_X11_207) dX11_reach_37 ?_
        obtain rfl := Option.some.inj h
        rw [hAA] at V
        rw [hQQ]
        exact k_lret X V rfl dX11_reach_40
      · replace h := kif_f hc h
        refine lv_iload_n X.1 X.2.1 dX11_reach_21 rfl (lv_at hl 2 rfl) ?_
        refine lv_if_ne (tgt := 29) X.1 X.2.1 dX11_reach_22 (by decide) (fun hc => ?_) (fun hc => ?_)
        · replace h := kif_f hc h
          exact J29 zT_2 zT_6 zT_13 _ _ _ h V (lv_sub hl [0, 1, 2, 3, 4] rfl)
        · replace h := kif_t hc h
          refine lv_iload_n X.1 X.2.1 dX11_reach_25 rfl (lv_at hl 3 rfl) ?_
          refine lv_if_eq (tgt := 37) X.1 X.2.1 dX11_reach_26 (by decide) (fun hc => ?_) (fun hc => ?_)
          · replace h := kif_t hc h
            refine lv_ldc2 (v := (-1000 : Int64)) X.1 X.2.1 X.2.2.2.1 (X.2.2.2.2.1 _ kc_X11_207) dX11_reach_37 ?_
            obtain rfl := Option.some.inj h
            rw [hAA] at V
            rw [hQQ]
            exact k_lret X V rfl dX11_reach_40
          · replace h := kif_f hc h
            exact J29 zT_2 zT_6 zT_13 _ _ _ h V (lv_sub hl [0, 1, 2, 3, 4] rfl)

def p_X11_whole (zT : tX11) (zT_0 : tX4) (zT_2 : tX8) (zT_6 : tX5) (v1 : Int32) (v2 : Int32) : Option (Int32 × tX8 × tX5) :=
  kif (v2 < 0) (some ((-1 : Int32), zT_2, zT_6)) (kif ((1 : Int32) < v2) (some ((-1 : Int32), zT_2, zT_6)) (kb (p_X11_gather zT zT_0 zT_2 v1) (fun x1 => kif ((kz x1.1) = 0) (some ((-1 : Int32), x1.2, zT_6)) (kb (p_X5_about zT_6 x1.2) (fun x2 => kif (v2 = 0) (kb (p_X5_wholeOnRim x2) (fun x3 => some (x3.toInt32, x1.2, x2))) (kb (p_X5_wholeWithin x2) (fun x4 => some (x4.toInt32, x1.2, x2))))))))
set_option maxHeartbeats 4000000 in
set_option maxRecDepth 100000 in
theorem c_X11_whole (l : Launch) (D : va_G) (g : kG) (aT : Nat → Nat) (bT : Nat → Nat → Nat) (zT : tX11) (zT_0 : tX4) (zT_2 : tX8) (zT_6 : tX5) (v1 : Int32) (v2 : Int32) (r : Int32 × tX8 × tX5) (h : p_X11_whole zT zT_0 zT_2 zT_6 v1 v2 = some r) : kMi l yX11_whole cX11_whole 3 (some .int) (kR 5 116) D (kty g) [.ref (aT 0), .int v1, .int v2] (List.flatten [gX11 g aT bT zT, gX4 g (bT 0) zT_0, gX8 g (bT 2) zT_2, gX5 g (bT 6) zT_6]) r.1 (List.flatten [gX11 g aT bT zT, gX4 g (bT 0) zT_0, gX8 g (bT 2) r.2.1, gX5 g (bT 6) r.2.2]) := by
  intro sz
  refine k_enter (lv := [(0, .ref (aT 0)), (1, .int v1), (2, .int v2)]) RX11 (by decide +kernel) rfl rfl (Nat.le_of_ble_eq_true rfl) ?_
  intro p en s m args below meth c ls hsz X V hl
  obtain ⟨QQ, hQQ⟩ : ∃ q, q = MQ below (va_Qi (fun r' (_ : Unit) => r' = r.1) (fun _ => kE D (List.flatten [gX11 g aT bT zT, gX4 g (bT 0) zT_0, gX8 g (bT 2) r.2.1, gX5 g (bT 6) r.2.2])) (va_A (List.flatten [gX11 g aT bT zT, gX4 g (bT 0) zT_0, gX8 g (bT 2) zT_2, gX5 g (bT 6) zT_6]) sz)) args s 0 0 (va_A (List.flatten [gX11 g aT bT zT, gX4 g (bT 0) zT_0, gX8 g (bT 2) zT_2, gX5 g (bT 6) zT_6]) sz) := ⟨_, rfl⟩
  rw [← hQQ]
  obtain ⟨AA, hAA⟩ : ∃ q, q = va_A (List.flatten [gX11 g aT bT zT, gX4 g (bT 0) zT_0, gX8 g (bT 2) zT_2, gX5 g (bT 6) zT_6]) sz := ⟨_, rfl⟩
  rw [← hAA] at V
  unfold p_X11_whole at h
  refine lv_iload_n X.1 X.2.1 dX11_whole_0 rfl (lv_at hl 2 rfl) ?_
  refine lv_if_lt (tgt := 17) X.1 X.2.1 dX11_whole_1 (by decide) (fun hc => ?_) (fun hc => ?_)
  · replace h := kif_t hc h
    refine lv_iconst (v := (-1 : Int32)) X.1 X.2.1 dX11_whole_17 (by decide) ?_
    obtain rfl := Option.some.inj h
    rw [hAA] at V
    rw [hQQ]
    exact k_iret X V rfl dX11_whole_18
  · replace h := kif_f hc h
    refine lv_iload_n X.1 X.2.1 dX11_whole_4 rfl (lv_at hl 2 rfl) ?_
    refine lv_iconst (v := (1 : Int32)) X.1 X.2.1 dX11_whole_5 (by decide) ?_
    refine lv_icmp_gt (tgt := 17) X.1 X.2.1 dX11_whole_6 (by decide) (fun hc => ?_) (fun hc => ?_)
    · replace h := kif_t hc h
      refine lv_iconst (v := (-1 : Int32)) X.1 X.2.1 dX11_whole_17 (by decide) ?_
      obtain rfl := Option.some.inj h
      rw [hAA] at V
      rw [hQQ]
      exact k_iret X V rfl dX11_whole_18
    · replace h := kif_f hc h
      refine lv_aload_n X.1 X.2.1 dX11_whole_9 rfl (lv_at hl 0 rfl) ?_
      refine lv_iload_n X.1 X.2.1 dX11_whole_10 rfl (lv_at hl 1 rfl) ?_
      obtain ⟨x5, hx5, h⟩ := kb_of h
      refine s_callVi (segs' := [gX11 g aT bT zT, gX4 g (bT 0) zT_0, gX8 g (bT 2) x5.2, gX5 g (bT 6) zT_6]) (ci := 11) (i0 := 0) X V (c_X11_gather l D g aT bT zT zT_0 zT_2 v1 x5 hx5) w_X11_196 ⟨Nat.le_of_ble_eq_true rfl, Nat.le_of_ble_eq_true rfl⟩ ⟨Nat.zero_le _, Nat.zero_le _⟩ rfl rfl rfl rfl [0, 1, 2] rfl rfl ⟨rfl, rfl, gX8_fst, trivial⟩ rfl rfl hl.1 (Nat.le_of_ble_eq_true rfl) dX11_whole_11 (fun H locs V => ?_)
      refine lv_if_ne (tgt := 19) X.1 X.2.1 dX11_whole_14 (by decide) (fun hc => ?_) (fun hc => ?_)
      · replace h := kif_f hc h
        refine lv_aload_n X.1 X.2.1 dX11_whole_19 rfl (lv_at hl 0 rfl) ?_
        refine gf_X11_46 (i := 0) X V rfl dX11_whole_20 ?_
        refine lv_aload_n X.1 X.2.1 dX11_whole_23 rfl (lv_at hl 0 rfl) ?_
        refine gf_X11_26 (i := 0) X V rfl dX11_whole_24 ?_
        obtain ⟨x6, hx6, h⟩ := kb_of h
        refine s_callVv (segs' := [gX11 g aT bT zT, gX4 g (bT 0) zT_0, gX8 g (bT 2) x5.2, gX5 g (bT 6) x6]) (ci := 5) (i0 := 0) X V (c_X5_about l D g (bT 6) (bT 2) zT_6 x5.2 x6 hx6) w_X11_260 ⟨Nat.le_of_ble_eq_true rfl, Nat.le_of_ble_eq_true rfl⟩ ⟨Nat.zero_le _, Nat.zero_le _⟩ rfl rfl rfl rfl [3, 2] rfl rfl ⟨gX5_fst, rfl, trivial⟩ rfl rfl hl.1 (Nat.le_of_ble_eq_true rfl) dX11_whole_27 (fun H locs V => ?_)
        refine lv_iload_n X.1 X.2.1 dX11_whole_30 rfl (lv_at hl 2 rfl) ?_
        refine lv_if_ne (tgt := 44) X.1 X.2.1 dX11_whole_31 (by decide) (fun hc => ?_) (fun hc => ?_)
        · replace h := kif_f hc h
          refine lv_aload_n X.1 X.2.1 dX11_whole_44 rfl (lv_at hl 0 rfl) ?_
          refine gf_X11_46 (i := 0) X V rfl dX11_whole_45 ?_
          obtain ⟨x7, hx7, h⟩ := kb_of h
          refine s_callVl (segs' := [gX11 g aT bT zT, gX4 g (bT 0) zT_0, gX8 g (bT 2) x5.2, gX5 g (bT 6) x6]) (ci := 5) (i0 := 0) X V (c_X5_wholeWithin l D g (bT 6) x6 x7 hx7) w_X11_340 ⟨Nat.le_of_ble_eq_true rfl, Nat.le_of_ble_eq_true rfl⟩ ⟨Nat.zero_le _, Nat.zero_le _⟩ rfl rfl rfl rfl [3] rfl rfl (kFst_refl _) rfl rfl hl.1 (Nat.le_of_ble_eq_true rfl) dX11_whole_48 (fun H locs V => ?_)
          refine lv_l2i X.1 X.2.1 dX11_whole_51 rfl ?_
          obtain rfl := Option.some.inj h
          rw [hAA] at V
          rw [hQQ]
          exact k_iret X V rfl dX11_whole_52
        · replace h := kif_t hc h
          refine lv_aload_n X.1 X.2.1 dX11_whole_34 rfl (lv_at hl 0 rfl) ?_
          refine gf_X11_46 (i := 0) X V rfl dX11_whole_35 ?_
          obtain ⟨x8, hx8, h⟩ := kb_of h
          refine s_callVl (segs' := [gX11 g aT bT zT, gX4 g (bT 0) zT_0, gX8 g (bT 2) x5.2, gX5 g (bT 6) x6]) (ci := 5) (i0 := 0) X V (c_X5_wholeOnRim l D g (bT 6) x6 x8 hx8) w_X11_337 ⟨Nat.le_of_ble_eq_true rfl, Nat.le_of_ble_eq_true rfl⟩ ⟨Nat.zero_le _, Nat.zero_le _⟩ rfl rfl rfl rfl [3] rfl rfl (kFst_refl _) rfl rfl hl.1 (Nat.le_of_ble_eq_true rfl) dX11_whole_38 (fun H locs V => ?_)
          refine lv_goto (tgt := 51) X.1 X.2.1 dX11_whole_41 (by decide) ?_
          refine lv_l2i X.1 X.2.1 dX11_whole_51 rfl ?_
          obtain rfl := Option.some.inj h
          rw [hAA] at V
          rw [hQQ]
          exact k_iret X V rfl dX11_whole_52
      · replace h := kif_t hc h
        refine lv_iconst (v := (-1 : Int32)) X.1 X.2.1 dX11_whole_17 (by decide) ?_
        obtain rfl := Option.some.inj h
        rw [hAA] at V
        rw [hQQ]
        exact k_iret X V rfl dX11_whole_18

def p_X11_sees (zT : tX11) (zT_0 : tX4) (zT_2 : tX8) (zT_6 : tX5) (v1 : Int32) (v2 : Int32) (v3 : Int32) (v4 : Int32) : Option (Int32 × tX8 × tX5) :=
  kif (v4 < 0) (some ((-1 : Int32), zT_2, zT_6)) (kif ((2 : Int32) < v4) (some ((-1 : Int32), zT_2, zT_6)) (kb (p_X11_isNear v2 v3 (300 : Int32)) (fun x1 => kif ((kz x1) = 0) (some ((-1 : Int32), zT_2, zT_6)) (kb (p_X11_outlineIsWide zT zT_0 zT_2 zT_6 v1) (fun x2 => kif ((kz x2.1) = 0) (some ((-1 : Int32), x2.2.1, x2.2.2)) (kif (v4 = 0) (kb (p_X5_sidesSeen x2.2.2 v2 v3) (fun x3 => some (x3, x2.2.1, x2.2.2))) (kif (v4 = (1 : Int32)) (kb (p_X5_seenFrom x2.2.2 v2 v3) (fun x4 => some (x4, x2.2.1, x2.2.2))) (kb (p_X5_seenTo x2.2.2 v2 v3) (fun x5 => some (x5, x2.2.1, x2.2.2))))))))))
set_option maxHeartbeats 4000000 in
set_option maxRecDepth 100000 in
theorem c_X11_sees (l : Launch) (D : va_G) (g : kG) (aT : Nat → Nat) (bT : Nat → Nat → Nat) (zT : tX11) (zT_0 : tX4) (zT_2 : tX8) (zT_6 : tX5) (v1 : Int32) (v2 : Int32) (v3 : Int32) (v4 : Int32) (r : Int32 × tX8 × tX5) (h : p_X11_sees zT zT_0 zT_2 zT_6 v1 v2 v3 v4 = some r) : kMi l yX11_sees cX11_sees 5 (some .int) (kR 6 137) D (kty g) [.ref (aT 0), .int v1, .int v2, .int v3, .int v4] (List.flatten [gX11 g aT bT zT, gX4 g (bT 0) zT_0, gX8 g (bT 2) zT_2, gX5 g (bT 6) zT_6]) r.1 (List.flatten [gX11 g aT bT zT, gX4 g (bT 0) zT_0, gX8 g (bT 2) r.2.1, gX5 g (bT 6) r.2.2]) := by
  intro sz
  refine k_enter (lv := [(0, .ref (aT 0)), (1, .int v1), (2, .int v2), (3, .int v3), (4, .int v4)]) RX11 (by decide +kernel) rfl rfl (Nat.le_of_ble_eq_true rfl) ?_
  intro p en s m args below meth c ls hsz X V hl
  obtain ⟨QQ, hQQ⟩ : ∃ q, q = MQ below (va_Qi (fun r' (_ : Unit) => r' = r.1) (fun _ => kE D (List.flatten [gX11 g aT bT zT, gX4 g (bT 0) zT_0, gX8 g (bT 2) r.2.1, gX5 g (bT 6) r.2.2])) (va_A (List.flatten [gX11 g aT bT zT, gX4 g (bT 0) zT_0, gX8 g (bT 2) zT_2, gX5 g (bT 6) zT_6]) sz)) args s 0 0 (va_A (List.flatten [gX11 g aT bT zT, gX4 g (bT 0) zT_0, gX8 g (bT 2) zT_2, gX5 g (bT 6) zT_6]) sz) := ⟨_, rfl⟩
  rw [← hQQ]
  obtain ⟨AA, hAA⟩ : ∃ q, q = va_A (List.flatten [gX11 g aT bT zT, gX4 g (bT 0) zT_0, gX8 g (bT 2) zT_2, gX5 g (bT 6) zT_6]) sz := ⟨_, rfl⟩
  rw [← hAA] at V
  unfold p_X11_sees at h
  refine lv_iload X.1 X.2.1 dX11_sees_0 (lv_at hl 4 rfl) ?_
  refine lv_if_lt (tgt := 30) X.1 X.2.1 dX11_sees_2 (by decide) (fun hc => ?_) (fun hc => ?_)
  · replace h := kif_t hc h
    refine lv_iconst (v := (-1 : Int32)) X.1 X.2.1 dX11_sees_30 (by decide) ?_
    obtain rfl := Option.some.inj h
    rw [hAA] at V
    rw [hQQ]
    exact k_iret X V rfl dX11_sees_31
  · replace h := kif_f hc h
    refine lv_iload X.1 X.2.1 dX11_sees_5 (lv_at hl 4 rfl) ?_
    refine lv_iconst (v := (2 : Int32)) X.1 X.2.1 dX11_sees_7 (by decide) ?_
    refine lv_icmp_gt (tgt := 30) X.1 X.2.1 dX11_sees_8 (by decide) (fun hc => ?_) (fun hc => ?_)
    · replace h := kif_t hc h
      refine lv_iconst (v := (-1 : Int32)) X.1 X.2.1 dX11_sees_30 (by decide) ?_
      obtain rfl := Option.some.inj h
      rw [hAA] at V
      rw [hQQ]
      exact k_iret X V rfl dX11_sees_31
    · replace h := kif_f hc h
      refine lv_iload_n X.1 X.2.1 dX11_sees_11 rfl (lv_at hl 2 rfl) ?_
      refine lv_iload_n X.1 X.2.1 dX11_sees_12 rfl (lv_at hl 3 rfl) ?_
      refine lv_sipush (v := (300 : Int32)) X.1 X.2.1 dX11_sees_13 (by decide) ?_
      obtain ⟨x6, hx6, h⟩ := kb_of h
      refine s_callSi (segs' := [gX11 g aT bT zT, gX4 g (bT 0) zT_0, gX8 g (bT 2) zT_2, gX5 g (bT 6) zT_6]) X V (c_X11_isNear l D g v2 v3 (300 : Int32) x6 hx6) w_X11_127 ⟨Nat.le_of_ble_eq_true rfl, Nat.le_of_ble_eq_true rfl⟩ ⟨Nat.zero_le _, Nat.zero_le _⟩ rfl [] rfl rfl (kFst_refl _) rfl rfl hl.1 (Nat.le_of_ble_eq_true rfl) dX11_sees_16 (fun H locs V => ?_)
      refine lv_if_eq (tgt := 30) X.1 X.2.1 dX11_sees_19 (by decide) (fun hc => ?_) (fun hc => ?_)
      · replace h := kif_t hc h
        refine lv_iconst (v := (-1 : Int32)) X.1 X.2.1 dX11_sees_30 (by decide) ?_
        obtain rfl := Option.some.inj h
        rw [hAA] at V
        rw [hQQ]
        exact k_iret X V rfl dX11_sees_31
      · replace h := kif_f hc h
        refine lv_aload_n X.1 X.2.1 dX11_sees_22 rfl (lv_at hl 0 rfl) ?_
        refine lv_iload_n X.1 X.2.1 dX11_sees_23 rfl (lv_at hl 1 rfl) ?_
        obtain ⟨x7, hx7, h⟩ := kb_of h
        refine s_callVi (segs' := [gX11 g aT bT zT, gX4 g (bT 0) zT_0, gX8 g (bT 2) x7.2.1, gX5 g (bT 6) x7.2.2]) (ci := 11) (i0 := 0) X V (c_X11_outlineIsWide l D g aT bT zT zT_0 zT_2 zT_6 v1 x7 hx7) w_X11_276 ⟨Nat.le_of_ble_eq_true rfl, Nat.le_of_ble_eq_true rfl⟩ ⟨Nat.zero_le _, Nat.zero_le _⟩ rfl rfl rfl rfl [0, 1, 2, 3] rfl rfl ⟨rfl, rfl, gX8_fst, gX5_fst, trivial⟩ rfl rfl hl.1 (Nat.le_of_ble_eq_true rfl) dX11_sees_24 (fun H locs V => ?_)
        refine lv_if_ne (tgt := 32) X.1 X.2.1 dX11_sees_27 (by decide) (fun hc => ?_) (fun hc => ?_)
        · replace h := kif_f hc h
          refine lv_iload X.1 X.2.1 dX11_sees_32 (lv_at hl 4 rfl) ?_
          refine lv_if_ne (tgt := 47) X.1 X.2.1 dX11_sees_34 (by decide) (fun hc => ?_) (fun hc => ?_)
          · replace h := kif_f hc h
            refine lv_iload X.1 X.2.1 dX11_sees_47 (lv_at hl 4 rfl) ?_
            refine lv_iconst (v := (1 : Int32)) X.1 X.2.1 dX11_sees_49 (by decide) ?_
            refine lv_icmp_ne (tgt := 65) X.1 X.2.1 dX11_sees_50 (by decide) (fun hc => ?_) (fun hc => ?_)
            · replace h := kif_f hc h
              refine lv_aload_n X.1 X.2.1 dX11_sees_65 rfl (lv_at hl 0 rfl) ?_
              refine gf_X11_46 (i := 0) X V rfl dX11_sees_66 ?_
              refine lv_iload_n X.1 X.2.1 dX11_sees_69 rfl (lv_at hl 2 rfl) ?_
              refine lv_iload_n X.1 X.2.1 dX11_sees_70 rfl (lv_at hl 3 rfl) ?_
              obtain ⟨x8, hx8, h⟩ := kb_of h
              refine s_callVi (segs' := [gX11 g aT bT zT, gX4 g (bT 0) zT_0, gX8 g (bT 2) x7.2.1, gX5 g (bT 6) x7.2.2]) (ci := 5) (i0 := 0) X V (c_X5_seenTo l D g (bT 6) x7.2.2 v2 v3 x8 hx8) w_X11_349 ⟨Nat.le_of_ble_eq_true rfl, Nat.le_of_ble_eq_true rfl⟩ ⟨Nat.zero_le _, Nat.zero_le _⟩ rfl rfl rfl rfl [3] rfl rfl (kFst_refl _) rfl rfl hl.1 (Nat.le_of_ble_eq_true rfl) dX11_sees_71 (fun H locs V => ?_)
              obtain rfl := Option.some.inj h
              rw [hAA] at V
              rw [hQQ]
              exact k_iret X V rfl dX11_sees_74
            · replace h := kif_t hc h
              refine lv_aload_n X.1 X.2.1 dX11_sees_53 rfl (lv_at hl 0 rfl) ?_
              refine gf_X11_46 (i := 0) X V rfl dX11_sees_54 ?_
              refine lv_iload_n X.1 X.2.1 dX11_sees_57 rfl (lv_at hl 2 rfl) ?_
              refine lv_iload_n X.1 X.2.1 dX11_sees_58 rfl (lv_at hl 3 rfl) ?_
              obtain ⟨x9, hx9, h⟩ := kb_of h
              refine s_callVi (segs' := [gX11 g aT bT zT, gX4 g (bT 0) zT_0, gX8 g (bT 2) x7.2.1, gX5 g (bT 6) x7.2.2]) (ci := 5) (i0 := 0) X V (c_X5_seenFrom l D g (bT 6) x7.2.2 v2 v3 x9 hx9) w_X11_346 ⟨Nat.le_of_ble_eq_true rfl, Nat.le_of_ble_eq_true rfl⟩ ⟨Nat.zero_le _, Nat.zero_le _⟩ rfl rfl rfl rfl [3] rfl rfl (kFst_refl _) rfl rfl hl.1 (Nat.le_of_ble_eq_true rfl) dX11_sees_59 (fun H locs V => ?_)
              refine lv_goto (tgt := 74) X.1 X.2.1 dX11_sees_62 (by decide) ?_
              obtain rfl := Option.some.inj h
              rw [hAA] at V
              rw [hQQ]
              exact k_iret X V rfl dX11_sees_74
          · replace h := kif_t hc h
            refine lv_aload_n X.1 X.2.1 dX11_sees_37 rfl (lv_at hl 0 rfl) ?_
            refine gf_X11_46 (i := 0) X V rfl dX11_sees_38 ?_
            refine lv_iload_n X.1 X.2.1 dX11_sees_41 rfl (lv_at hl 2 rfl) ?_
            refine lv_iload_n X.1 X.2.1 dX11_sees_42 rfl (lv_at hl 3 rfl) ?_
            obtain ⟨x10, hx10, h⟩ := kb_of h
            refine s_callVi (segs' := [gX11 g aT bT zT, gX4 g (bT 0) zT_0, gX8 g (bT 2) x7.2.1, gX5 g (bT 6) x7.2.2]) (ci := 5) (i0 := 0) X V (c_X5_sidesSeen l D g (bT 6) x7.2.2 v2 v3 x10 hx10) w_X11_343 ⟨Nat.le_of_ble_eq_true rfl, Nat.le_of_ble_eq_true rfl⟩ ⟨Nat.zero_le _, Nat.zero_le _⟩ rfl rfl rfl rfl [3] rfl rfl (kFst_refl _) rfl rfl hl.1 (Nat.le_of_ble_eq_true rfl) dX11_sees_43 (fun H locs V => ?_)
            obtain rfl := Option.some.inj h
            rw [hAA] at V
            rw [hQQ]
            exact k_iret X V rfl dX11_sees_46
        · replace h := kif_t hc h
          refine lv_iconst (v := (-1 : Int32)) X.1 X.2.1 dX11_sees_30 (by decide) ?_
          obtain rfl := Option.some.inj h
          rw [hAA] at V
          rw [hQQ]
          exact k_iret X V rfl dX11_sees_31

def p_X11_heaviest_J95_15 (zT : tX11) (zT_0 : tX4) (v1 : Int32) (zT_2 : tX8) (zT_4 : tX0) (zT_13 : tX3) (zT_14 : tX3) (v3 : Int32) : Option (Nat × (Int32 × Int32 × tX8 × tX0 × tX3 × tX3)) :=
  kb (p_X3_part zT_13 (0 : Int32)) (fun x6 => kb (p_X3_part zT_13 (1 : Int32)) (fun x7 => kb (p_X3_set zT_14 x6 x7) (fun x8 => kl (v3 + (1 : Int32)) (fun y9 => some (15, (v3, y9, zT_2, zT_4, zT_13, x8))))))
def p_X11_heaviest_L15 (zT : tX11) (zT_0 : tX4) (v1 : Int32) (s : Int32 × Int32 × tX8 × tX0 × tX3 × tX3) : Option (Nat × (Int32 × Int32 × tX8 × tX0 × tX3 × tX3)) :=
  kif ((15 : Int32) < s.2.1) (some (126, (s.1, s.2.1, s.2.2.1, s.2.2.2.1, s.2.2.2.2.1, s.2.2.2.2.2))) (kb (p_J6_bitCount_0f7a4 s.2.1) (fun x1 => kif (x1 = (v1 + (1 : Int32))) (kb (p_X11_gather zT zT_0 s.2.2.1 s.2.1) (fun x2 => kif ((kz x2.1) = 0) (kl (s.2.1 + (1 : Int32)) (fun y3 => some (15, (s.1, y3, x2.2, s.2.2.2.1, s.2.2.2.2.1, s.2.2.2.2.2)))) (kb (p_X0_about s.2.2.2.1 x2.2) (fun x4 => kb (p_X0_size x4 s.2.2.2.2.1) (fun x5 => kif (s.1 = (-1 : Int32)) (p_X11_heaviest_J95_15 zT zT_0 v1 x2.2 x4 x5 s.2.2.2.2.2 s.2.1) (kb (p_X3_part s.2.2.2.2.2 (0 : Int32)) (fun x10 => kb (p_X3_part s.2.2.2.2.2 (1 : Int32)) (fun x11 => kb (p_X3_against x5 x10 x11) (fun x12 => kif (x12 ≤ 0) (kl (s.2.1 + (1 : Int32)) (fun y13 => some (15, (s.1, y13, x2.2, x4, x5, s.2.2.2.2.2)))) (p_X11_heaviest_J95_15 zT zT_0 v1 x2.2 x4 x5 s.2.2.2.2.2 s.2.1)))))))))) (kl (s.2.1 + (1 : Int32)) (fun y14 => some (15, (s.1, y14, s.2.2.1, s.2.2.2.1, s.2.2.2.2.1, s.2.2.2.2.2))))))
def p_X11_heaviest (zT : tX11) (zT_0 : tX4) (zT_2 : tX8) (zT_4 : tX0) (zT_13 : tX3) (zT_14 : tX3) (v1 : Int32) : Option (Int32 × tX8 × tX0 × tX3 × tX3) :=
  kif (v1 < 0) (some ((-1 : Int32), zT_2, zT_4, zT_13, zT_14)) (kif (v1 ≤ (1 : Int32)) (kb (kitr 15 (fun q => p_X11_heaviest_L15 zT zT_0 v1 q) kF ((-1 : Int32), (1 : Int32), zT_2, zT_4, zT_13, zT_14)) (fun x15 => kg (x15.1 = 126) (some (x15.2.1, x15.2.2.2.1, x15.2.2.2.2.1, x15.2.2.2.2.2.1, x15.2.2.2.2.2.2)))) (some ((-1 : Int32), zT_2, zT_4, zT_13, zT_14)))
set_option maxHeartbeats 4000000 in
set_option maxRecDepth 100000 in
theorem c_X11_heaviest (l : Launch) (D : va_G) (g : kG) (aT : Nat → Nat) (bT : Nat → Nat → Nat) (zT : tX11) (zT_0 : tX4) (zT_2 : tX8) (zT_4 : tX0) (zT_13 : tX3) (zT_14 : tX3) (v1 : Int32) (r : Int32 × tX8 × tX0 × tX3 × tX3) (h : p_X11_heaviest zT zT_0 zT_2 zT_4 zT_13 zT_14 v1 = some r) : kMi l yX11_heaviest cX11_heaviest 4 (some .int) (kR 6 152) D (kty g) [.ref (aT 0), .int v1] (List.flatten [gX11 g aT bT zT, gX4 g (bT 0) zT_0, gX8 g (bT 2) zT_2, gX0 g (bT 4) zT_4, gX3 g (bT 13) zT_13, gX3 g (bT 14) zT_14]) r.1 (List.flatten [gX11 g aT bT zT, gX4 g (bT 0) zT_0, gX8 g (bT 2) r.2.1, gX0 g (bT 4) r.2.2.1, gX3 g (bT 13) r.2.2.2.1, gX3 g (bT 14) r.2.2.2.2]) := by
  intro sz
  refine k_enter (lv := [(0, .ref (aT 0)), (1, .int v1)]) RX11 (by decide +kernel) rfl rfl (Nat.le_of_ble_eq_true rfl) ?_
  intro p en s m args below meth c ls hsz X V hl
  obtain ⟨QQ, hQQ⟩ : ∃ q, q = MQ below (va_Qi (fun r' (_ : Unit) => r' = r.1) (fun _ => kE D (List.flatten [gX11 g aT bT zT, gX4 g (bT 0) zT_0, gX8 g (bT 2) r.2.1, gX0 g (bT 4) r.2.2.1, gX3 g (bT 13) r.2.2.2.1, gX3 g (bT 14) r.2.2.2.2])) (va_A (List.flatten [gX11 g aT bT zT, gX4 g (bT 0) zT_0, gX8 g (bT 2) zT_2, gX0 g (bT 4) zT_4, gX3 g (bT 13) zT_13, gX3 g (bT 14) zT_14]) sz)) args s 0 0 (va_A (List.flatten [gX11 g aT bT zT, gX4 g (bT 0) zT_0, gX8 g (bT 2) zT_2, gX0 g (bT 4) zT_4, gX3 g (bT 13) zT_13, gX3 g (bT 14) zT_14]) sz) := ⟨_, rfl⟩
  rw [← hQQ]
  obtain ⟨AA, hAA⟩ : ∃ q, q = va_A (List.flatten [gX11 g aT bT zT, gX4 g (bT 0) zT_0, gX8 g (bT 2) zT_2, gX0 g (bT 4) zT_4, gX3 g (bT 13) zT_13, gX3 g (bT 14) zT_14]) sz := ⟨_, rfl⟩
  rw [← hAA] at V
  unfold p_X11_heaviest at h
  refine lv_iload_n X.1 X.2.1 dX11_heaviest_0 rfl (lv_at hl 1 rfl) ?_
  refine lv_if_lt (tgt := 9) X.1 X.2.1 dX11_heaviest_1 (by decide) (fun hc => ?_) (fun hc => ?_)
  · replace h := kif_t hc h
    refine lv_iconst (v := (-1 : Int32)) X.1 X.2.1 dX11_heaviest_9 (by decide) ?_
    obtain rfl := Option.some.inj h
    rw [hAA] at V
    rw [hQQ]
    exact k_iret X V rfl dX11_heaviest_10
  · replace h := kif_f hc h
    refine lv_iload_n X.1 X.2.1 dX11_heaviest_4 rfl (lv_at hl 1 rfl) ?_
    refine lv_iconst (v := (1 : Int32)) X.1 X.2.1 dX11_heaviest_5 (by decide) ?_
    refine lv_icmp_le (tgt := 11) X.1 X.2.1 dX11_heaviest_6 (by decide) (fun hc => ?_) (fun hc => ?_)
    · replace h := kif_t hc h
      refine lv_iconst (v := (-1 : Int32)) X.1 X.2.1 dX11_heaviest_11 (by decide) ?_
      refine lv_istore_n (lv' := [(2, .int (-1 : Int32)), (0, .ref (aT 0)), (1, .int v1)]) X.1 X.2.1 dX11_heaviest_12 rfl hl (by decide) rfl (fun ls hl => ?_)
      refine lv_iconst (v := (1 : Int32)) X.1 X.2.1 dX11_heaviest_13 (by decide) ?_
      refine lv_istore_n (lv' := [(3, .int (1 : Int32)), (2, .int (-1 : Int32)), (0, .ref (aT 0)), (1, .int v1)]) X.1 X.2.1 dX11_heaviest_14 rfl hl (by decide) rfl (fun ls hl => ?_)
      obtain ⟨x16, hx16, h⟩ := kb_of h
      refine (kitr_go (hd := 15) (body := fun q => p_X11_heaviest_L15 zT zT_0 v1 q) (G := (fun e => ∀ (H : Heap) (locs : List Loc) (ls : Array Slot), kW D AA s.heap H (List.flatten [gX11 g aT bT zT, gX4 g (bT 0) zT_0, gX8 g (bT 2) e.2.2.2.1, gX0 g (bT 4) e.2.2.2.2.1, gX3 g (bT 13) e.2.2.2.2.2.1, gX3 g (bT 14) e.2.2.2.2.2.2]) locs → lv_has ls 4 [(0, .ref (aT 0)), (1, .int v1), (2, .int e.2.1), (3, .int e.2.2.1)] → W p l en (kR 6 152) s m args below meth c H locs 0 0 QQ (F0 m e.1 ls []))) (fun s17 e18 hb19 hG20 => ?_) kF _ x16 hx16 ?_) _ _ _ V (lv_sub hl [2, 3, 1, 0] rfl)
      · intro H locs ls V hl
        show W p l en (kR 6 152) s m args below meth c H locs 0 0 QQ (F0 m 15 ls [])
        have h : p_X11_heaviest_L15 zT zT_0 v1 s17 = some e18 := hb19
        unfold p_X11_heaviest_L15 at h
        have V : kW D AA s.heap H (List.flatten [gX11 g aT bT zT, gX4 g (bT 0) zT_0, gX8 g (bT 2) s17.2.2.1, gX0 g (bT 4) s17.2.2.2.1, gX3 g (bT 13) s17.2.2.2.2.1, gX3 g (bT 14) s17.2.2.2.2.2]) locs := V
        have hl : lv_has ls 4 [(0, .ref (aT 0)), (1, .int v1), (2, .int s17.1), (3, .int s17.2.1)] := hl
        have J95 : ∀ (zT_2 : tX8) (zT_4 : tX0) (zT_13 : tX3) (zT_14 : tX3) (v3 : Int32) (H : Heap) (locs : List Loc) (ls : Array Slot), p_X11_heaviest_J95_15 zT zT_0 v1 zT_2 zT_4 zT_13 zT_14 v3 = some e18 → kW D AA s.heap H (List.flatten [gX11 g aT bT zT, gX4 g (bT 0) zT_0, gX8 g (bT 2) zT_2, gX0 g (bT 4) zT_4, gX3 g (bT 13) zT_13, gX3 g (bT 14) zT_14]) locs → lv_has ls 4 [(0, .ref (aT 0)), (1, .int v1), (3, .int v3)] → W p l en (kR 6 152) s m args below meth c H locs 0 0 QQ (F0 m 95 ls []) := by
          intro zT_2 zT_4 zT_13 zT_14 v3 H locs ls h V hl
          unfold p_X11_heaviest_J95_15 at h
          refine lv_aload_n X.1 X.2.1 dX11_heaviest_95 rfl (lv_at hl 0 rfl) ?_
          refine gf_X11_95 (i := 0) X V rfl dX11_heaviest_96 ?_
          refine lv_aload_n X.1 X.2.1 dX11_heaviest_99 rfl (lv_at hl 0 rfl) ?_
          refine gf_X11_91 (i := 0) X V rfl dX11_heaviest_100 ?_
          refine lv_iconst (v := (0 : Int32)) X.1 X.2.1 dX11_heaviest_103 (by decide) ?_
          obtain ⟨x21, hx21, h⟩ := kb_of h
          refine s_callVl (segs' := [gX11 g aT bT zT, gX4 g (bT 0) zT_0, gX8 g (bT 2) zT_2, gX0 g (bT 4) zT_4, gX3 g (bT 13) zT_13, gX3 g (bT 14) zT_14]) (ci := 3) (i0 := 0) X V (c_X3_part l D g (bT 13) zT_13 (0 : Int32) x21 hx21) w_X11_223 ⟨Nat.le_of_ble_eq_true rfl, Nat.le_of_ble_eq_true rfl⟩ ⟨Nat.zero_le _, Nat.zero_le _⟩ rfl rfl rfl rfl [4] rfl rfl (kFst_refl _) rfl rfl hl.1 (Nat.le_of_ble_eq_true rfl) dX11_heaviest_104 (fun H locs V => ?_)
          refine lv_aload_n X.1 X.2.1 dX11_heaviest_107 rfl (lv_at hl 0 rfl) ?_
          refine gf_X11_91 (i := 0) X V rfl dX11_heaviest_108 ?_
          refine lv_iconst (v := (1 : Int32)) X.1 X.2.1 dX11_heaviest_111 (by decide) ?_
          obtain ⟨x22, hx22, h⟩ := kb_of h
          refine s_callVl (segs' := [gX11 g aT bT zT, gX4 g (bT 0) zT_0, gX8 g (bT 2) zT_2, gX0 g (bT 4) zT_4, gX3 g (bT 13) zT_13, gX3 g (bT 14) zT_14]) (ci := 3) (i0 := 0) X V (c_X3_part l D g (bT 13) zT_13 (1 : Int32) x22 hx22) w_X11_223 ⟨Nat.le_of_ble_eq_true rfl, Nat.le_of_ble_eq_true rfl⟩ ⟨Nat.zero_le _, Nat.zero_le _⟩ rfl rfl rfl rfl [4] rfl rfl (kFst_refl _) rfl rfl hl.1 (Nat.le_of_ble_eq_true rfl) dX11_heaviest_112 (fun H locs V => ?_)
          obtain ⟨x23, hx23, h⟩ := kb_of h
          refine s_callVv (segs' := [gX11 g aT bT zT, gX4 g (bT 0) zT_0, gX8 g (bT 2) zT_2, gX0 g (bT 4) zT_4, gX3 g (bT 13) zT_13, gX3 g (bT 14) x23]) (ci := 3) (i0 := 0) X V (c_X3_set l D g (bT 14) zT_14 x21 x22 x23 hx23) w_X11_323 ⟨Nat.le_of_ble_eq_true rfl, Nat.le_of_ble_eq_true rfl⟩ ⟨Nat.zero_le _, Nat.zero_le _⟩ rfl rfl rfl rfl [5] rfl rfl ⟨gX3_fst, trivial⟩ rfl rfl hl.1 (Nat.le_of_ble_eq_true rfl) dX11_heaviest_115 (fun H locs V => ?_)
          refine lv_iload_n X.1 X.2.1 dX11_heaviest_118 rfl (lv_at hl 2 rfl) ?_
          refine lv_istore_n (lv' := [(2, .int v3), (0, .ref (aT 0)), (1, .int v1), (3, .int v3)]) X.1 X.2.1 dX11_heaviest_119 rfl hl (by decide) rfl (fun ls hl => ?_)
          obtain ⟨y24, ey24⟩ : ∃ y : Int32, y = (v3 + (1 : Int32)) := ⟨_, rfl⟩
          replace h := kl_of ey24 h
          refine lv_iinc (v := y24) (lv' := [(3, .int y24), (2, .int v3), (0, .ref (aT 0)), (1, .int v1)]) X.1 X.2.1 dX11_heaviest_120 hl (k := 3) rfl (by rw [ey24]; rfl) (by decide) rfl (fun ls hl => ?_)
          refine lv_goto (tgt := 15) X.1 X.2.1 dX11_heaviest_123 (by decide) ?_
          obtain rfl := Option.some.inj h
          exact hG20 _ _ _ V (lv_sub hl [2, 3, 1, 0] rfl)
        refine lv_iload_n X.1 X.2.1 dX11_heaviest_15 rfl (lv_at hl 3 rfl) ?_
        refine lv_bipush (v := (15 : Int32)) X.1 X.2.1 dX11_heaviest_16 (by decide) ?_
        refine lv_icmp_gt (tgt := 126) X.1 X.2.1 dX11_heaviest_18 (by decide) (fun hc => ?_) (fun hc => ?_)
        · replace h := kif_t hc h
          obtain rfl := Option.some.inj h
          exact hG20 _ _ _ V (lv_sub hl [0, 1, 2, 3] rfl)
        · replace h := kif_f hc h
          refine lv_iload_n X.1 X.2.1 dX11_heaviest_21 rfl (lv_at hl 3 rfl) ?_
          obtain ⟨x25, hx25, h⟩ := kb_of h
          refine s_callSi (segs' := [gX11 g aT bT zT, gX4 g (bT 0) zT_0, gX8 g (bT 2) s17.2.2.1, gX0 g (bT 4) s17.2.2.2.1, gX3 g (bT 13) s17.2.2.2.2.1, gX3 g (bT 14) s17.2.2.2.2.2]) X V (c_J6_bitCount_0f7a4 l D g s17.2.1 x25 hx25) w_X11_352 ⟨Nat.le_of_ble_eq_true rfl, Nat.le_of_ble_eq_true rfl⟩ ⟨Nat.zero_le _, Nat.zero_le _⟩ rfl [] rfl rfl (kFst_refl _) rfl rfl hl.1 (Nat.le_of_ble_eq_true rfl) dX11_heaviest_22 (fun H locs V => ?_)
          refine lv_iload_n X.1 X.2.1 dX11_heaviest_25 rfl (lv_at hl 1 rfl) ?_
          refine lv_iconst (v := (1 : Int32)) X.1 X.2.1 dX11_heaviest_26 (by decide) ?_
          refine lv_iadd X.1 X.2.1 dX11_heaviest_27 ?_
          refine lv_icmp_ne (tgt := 120) X.1 X.2.1 dX11_heaviest_28 (by decide) (fun hc => ?_) (fun hc => ?_)
          · replace h := kif_f hc h
            obtain ⟨y26, ey26⟩ : ∃ y : Int32, y = (s17.2.1 + (1 : Int32)) := ⟨_, rfl⟩
            replace h := kl_of ey26 h
            refine lv_iinc (v := y26) (lv' := [(3, .int y26), (0, .ref (aT 0)), (1, .int v1), (2, .int s17.1)]) X.1 X.2.1 dX11_heaviest_120 hl (k := 3) rfl (by rw [ey26]; rfl) (by decide) rfl (fun ls hl => ?_)
            refine lv_goto (tgt := 15) X.1 X.2.1 dX11_heaviest_123 (by decide) ?_
            obtain rfl := Option.some.inj h
            exact hG20 _ _ _ V (lv_sub hl [1, 2, 3, 0] rfl)
          · replace h := kif_t hc h
            refine lv_aload_n X.1 X.2.1 dX11_heaviest_31 rfl (lv_at hl 0 rfl) ?_
            refine lv_iload_n X.1 X.2.1 dX11_heaviest_32 rfl (lv_at hl 3 rfl) ?_
            obtain ⟨x27, hx27, h⟩ := kb_of h
            refine s_callVi (segs' := [gX11 g aT bT zT, gX4 g (bT 0) zT_0, gX8 g (bT 2) x27.2, gX0 g (bT 4) s17.2.2.2.1, gX3 g (bT 13) s17.2.2.2.2.1, gX3 g (bT 14) s17.2.2.2.2.2]) (ci := 11) (i0 := 0) X V (c_X11_gather l D g aT bT zT zT_0 s17.2.2.1 s17.2.1 x27 hx27) w_X11_196 ⟨Nat.le_of_ble_eq_true rfl, Nat.le_of_ble_eq_true rfl⟩ ⟨Nat.zero_le _, Nat.zero_le _⟩ rfl rfl rfl rfl [0, 1, 2] rfl rfl ⟨rfl, rfl, gX8_fst, trivial⟩ rfl rfl hl.1 (Nat.le_of_ble_eq_true rfl) dX11_heaviest_33 (fun H locs V => ?_)
            refine lv_if_ne (tgt := 42) X.1 X.2.1 dX11_heaviest_36 (by decide) (fun hc => ?_) (fun hc => ?_)
            · replace h := kif_f hc h
              refine lv_aload_n X.1 X.2.1 dX11_heaviest_42 rfl (lv_at hl 0 rfl) ?_
              refine gf_X11_36 (i := 0) X V rfl dX11_heaviest_43 ?_
              refine lv_aload_n X.1 X.2.1 dX11_heaviest_46 rfl (lv_at hl 0 rfl) ?_
              refine gf_X11_26 (i := 0) X V rfl dX11_heaviest_47 ?_
              obtain ⟨x28, hx28, h⟩ := kb_of h
              refine s_callVv (segs' := [gX11 g aT bT zT, gX4 g (bT 0) zT_0, gX8 g (bT 2) x27.2, gX0 g (bT 4) x28, gX3 g (bT 13) s17.2.2.2.2.1, gX3 g (bT 14) s17.2.2.2.2.2]) (ci := 0) (i0 := 0) X V (c_X0_about l D g (bT 4) (bT 2) s17.2.2.2.1 x27.2 x28 hx28) w_X11_209 ⟨Nat.le_of_ble_eq_true rfl, Nat.le_of_ble_eq_true rfl⟩ ⟨Nat.zero_le _, Nat.zero_le _⟩ rfl rfl rfl rfl [3, 2] rfl rfl ⟨gX0_fst, rfl, trivial⟩ rfl rfl hl.1 (Nat.le_of_ble_eq_true rfl) dX11_heaviest_50 (fun H locs V => ?_)
              refine lv_aload_n X.1 X.2.1 dX11_heaviest_53 rfl (lv_at hl 0 rfl) ?_
              refine gf_X11_36 (i := 0) X V rfl dX11_heaviest_54 ?_
              refine lv_aload_n X.1 X.2.1 dX11_heaviest_57 rfl (lv_at hl 0 rfl) ?_
              refine gf_X11_91 (i := 0) X V rfl dX11_heaviest_58 ?_
              obtain ⟨x29, hx29, h⟩ := kb_of h
              refine s_callVv (segs' := [gX11 g aT bT zT, gX4 g (bT 0) zT_0, gX8 g (bT 2) x27.2, gX0 g (bT 4) x28, gX3 g (bT 13) x29, gX3 g (bT 14) s17.2.2.2.2.2]) (ci := 0) (i0 := 0) X V (c_X0_size l D g (bT 4) (bT 13) x28 s17.2.2.2.2.1 x29 hx29) w_X11_213 ⟨Nat.le_of_ble_eq_true rfl, Nat.le_of_ble_eq_true rfl⟩ ⟨Nat.zero_le _, Nat.zero_le _⟩ rfl rfl rfl rfl [3, 4] rfl rfl ⟨rfl, gX3_fst, trivial⟩ rfl rfl hl.1 (Nat.le_of_ble_eq_true rfl) dX11_heaviest_61 (fun H locs V => ?_)
              refine lv_iload_n X.1 X.2.1 dX11_heaviest_64 rfl (lv_at hl 2 rfl) ?_
              refine lv_iconst (v := (-1 : Int32)) X.1 X.2.1 dX11_heaviest_65 (by decide) ?_
              refine lv_icmp_eq (tgt := 95) X.1 X.2.1 dX11_heaviest_66 (by decide) (fun hc => ?_) (fun hc => ?_)
              · replace h := kif_t hc h
                exact J95 x27.2 x28 x29 s17.2.2.2.2.2 s17.2.1 _ _ _ h V (lv_sub hl [0, 1, 3] rfl)
              · replace h := kif_f hc h
                refine lv_aload_n X.1 X.2.1 dX11_heaviest_69 rfl (lv_at hl 0 rfl) ?_
                refine gf_X11_91 (i := 0) X V rfl dX11_heaviest_70 ?_
                refine lv_aload_n X.1 X.2.1 dX11_heaviest_73 rfl (lv_at hl 0 rfl) ?_
                refine gf_X11_95 (i := 0) X V rfl dX11_heaviest_74 ?_
                refine lv_iconst (v := (0 : Int32)) X.1 X.2.1 dX11_heaviest_77 (by decide) ?_
                obtain ⟨x30, hx30, h⟩ := kb_of h
                refine s_callVl (segs' := [gX11 g aT bT zT, gX4 g (bT 0) zT_0, gX8 g (bT 2) x27.2, gX0 g (bT 4) x28, gX3 g (bT 13) x29, gX3 g (bT 14) s17.2.2.2.2.2]) (ci := 3) (i0 := 0) X V (c_X3_part l D g (bT 14) s17.2.2.2.2.2 (0 : Int32) x30 hx30) w_X11_223 ⟨Nat.le_of_ble_eq_true rfl, Nat.le_of_ble_eq_true rfl⟩ ⟨Nat.zero_le _, Nat.zero_le _⟩ rfl rfl rfl rfl [5] rfl rfl (kFst_refl _) rfl rfl hl.1 (Nat.le_of_ble_eq_true rfl) dX11_heaviest_78 (fun H locs V => ?_)
                refine lv_aload_n X.1 X.2.1 dX11_heaviest_81 rfl (lv_at hl 0 rfl) ?_
                refine gf_X11_95 (i := 0) X V rfl dX11_heaviest_82 ?_
                refine lv_iconst (v := (1 : Int32)) X.1 X.2.1 dX11_heaviest_85 (by decide) ?_
                obtain ⟨x31, hx31, h⟩ := kb_of h
                refine s_callVl (segs' := [gX11 g aT bT zT, gX4 g (bT 0) zT_0, gX8 g (bT 2) x27.2, gX0 g (bT 4) x28, gX3 g (bT 13) x29, gX3 g (bT 14) s17.2.2.2.2.2]) (ci := 3) (i0 := 0) X V (c_X3_part l D g (bT 14) s17.2.2.2.2.2 (1 : Int32) x31 hx31) w_X11_223 ⟨Nat.le_of_ble_eq_true rfl, Nat.le_of_ble_eq_true rfl⟩ ⟨Nat.zero_le _, Nat.zero_le _⟩ rfl rfl rfl rfl [5] rfl rfl (kFst_refl _) rfl rfl hl.1 (Nat.le_of_ble_eq_true rfl) dX11_heaviest_86 (fun H locs V => ?_)
                obtain ⟨x32, hx32, h⟩ := kb_of h
                refine s_callVi (segs' := [gX11 g aT bT zT, gX4 g (bT 0) zT_0, gX8 g (bT 2) x27.2, gX0 g (bT 4) x28, gX3 g (bT 13) x29, gX3 g (bT 14) s17.2.2.2.2.2]) (ci := 3) (i0 := 0) X V (c_X3_against l D g (bT 13) x29 x30 x31 x32 hx32) w_X11_256 ⟨Nat.le_of_ble_eq_true rfl, Nat.le_of_ble_eq_true rfl⟩ ⟨Nat.zero_le _, Nat.zero_le _⟩ rfl rfl rfl rfl [4] rfl rfl (kFst_refl _) rfl rfl hl.1 (Nat.le_of_ble_eq_true rfl) dX11_heaviest_89 (fun H locs V => ?_)
                refine lv_if_le (tgt := 120) X.1 X.2.1 dX11_heaviest_92 (by decide) (fun hc => ?_) (fun hc => ?_)
                · replace h := kif_t hc h
                  obtain ⟨y33, ey33⟩ : ∃ y : Int32, y = (s17.2.1 + (1 : Int32)) := ⟨_, rfl⟩
                  replace h := kl_of ey33 h
                  refine lv_iinc (v := y33) (lv' := [(3, .int y33), (0, .ref (aT 0)), (1, .int v1), (2, .int s17.1)]) X.1 X.2.1 dX11_heaviest_120 hl (k := 3) rfl (by rw [ey33]; rfl) (by decide) rfl (fun ls hl => ?_)
                  refine lv_goto (tgt := 15) X.1 X.2.1 dX11_heaviest_123 (by decide) ?_
                  obtain rfl := Option.some.inj h
                  exact hG20 _ _ _ V (lv_sub hl [1, 2, 3, 0] rfl)
                · replace h := kif_f hc h
                  exact J95 x27.2 x28 x29 s17.2.2.2.2.2 s17.2.1 _ _ _ h V (lv_sub hl [0, 1, 3] rfl)
            · replace h := kif_t hc h
              refine lv_goto (tgt := 120) X.1 X.2.1 dX11_heaviest_39 (by decide) ?_
              obtain ⟨y34, ey34⟩ : ∃ y : Int32, y = (s17.2.1 + (1 : Int32)) := ⟨_, rfl⟩
              replace h := kl_of ey34 h
              refine lv_iinc (v := y34) (lv' := [(3, .int y34), (0, .ref (aT 0)), (1, .int v1), (2, .int s17.1)]) X.1 X.2.1 dX11_heaviest_120 hl (k := 3) rfl (by rw [ey34]; rfl) (by decide) rfl (fun ls hl => ?_)
              refine lv_goto (tgt := 15) X.1 X.2.1 dX11_heaviest_123 (by decide) ?_
              obtain rfl := Option.some.inj h
              exact hG20 _ _ _ V (lv_sub hl [1, 2, 3, 0] rfl)
      · intro H locs ls V hl
        have V : kW D AA s.heap H (List.flatten [gX11 g aT bT zT, gX4 g (bT 0) zT_0, gX8 g (bT 2) x16.2.2.2.1, gX0 g (bT 4) x16.2.2.2.2.1, gX3 g (bT 13) x16.2.2.2.2.2.1, gX3 g (bT 14) x16.2.2.2.2.2.2]) locs := V
        have hl : lv_has ls 4 [(0, .ref (aT 0)), (1, .int v1), (2, .int x16.2.1), (3, .int x16.2.2.1)] := hl
        obtain ⟨hc, h⟩ := kg_of h
        refine W.eq (g2 := F0 m 126 ls []) (by rw [hc]) ?_
        refine lv_iload_n X.1 X.2.1 dX11_heaviest_126 rfl (lv_at hl 2 rfl) ?_
        obtain rfl := Option.some.inj h
        rw [hAA] at V
        rw [hQQ]
        exact k_iret X V rfl dX11_heaviest_127
    · replace h := kif_f hc h
      refine lv_iconst (v := (-1 : Int32)) X.1 X.2.1 dX11_heaviest_9 (by decide) ?_
      obtain rfl := Option.some.inj h
      rw [hAA] at V
      rw [hQQ]
      exact k_iret X V rfl dX11_heaviest_10

def p_X11_deep (zT : tX11) (zT_0 : tX4) (zT_2 : tX8) (v1 : Int32) (v2 : Int32) (v3 : Int32) : Option (Int32 × tX8) :=
  kb (p_X11_isNear v2 v3 (300 : Int32)) (fun x1 => kif ((kz x1) = 0) (some ((-1 : Int32), zT_2)) (kb (p_X11_gather zT zT_0 zT_2 v1) (fun x2 => kif ((kz x2.1) = 0) (some ((-1 : Int32), x2.2)) (kb (p_X8_depth x2.2 v2 v3) (fun x3 => some (x3, x2.2))))))
set_option maxHeartbeats 4000000 in
set_option maxRecDepth 100000 in
theorem c_X11_deep (l : Launch) (D : va_G) (g : kG) (aT : Nat → Nat) (bT : Nat → Nat → Nat) (zT : tX11) (zT_0 : tX4) (zT_2 : tX8) (v1 : Int32) (v2 : Int32) (v3 : Int32) (r : Int32 × tX8) (h : p_X11_deep zT zT_0 zT_2 v1 v2 v3 = some r) : kMi l yX11_deep cX11_deep 4 (some .int) (kR 5 116) D (kty g) [.ref (aT 0), .int v1, .int v2, .int v3] (List.flatten [gX11 g aT bT zT, gX4 g (bT 0) zT_0, gX8 g (bT 2) zT_2]) r.1 (List.flatten [gX11 g aT bT zT, gX4 g (bT 0) zT_0, gX8 g (bT 2) r.2]) := by
  intro sz
  refine k_enter (lv := [(0, .ref (aT 0)), (1, .int v1), (2, .int v2), (3, .int v3)]) RX11 (by decide +kernel) rfl rfl (Nat.le_of_ble_eq_true rfl) ?_
  intro p en s m args below meth c ls hsz X V hl
  obtain ⟨QQ, hQQ⟩ : ∃ q, q = MQ below (va_Qi (fun r' (_ : Unit) => r' = r.1) (fun _ => kE D (List.flatten [gX11 g aT bT zT, gX4 g (bT 0) zT_0, gX8 g (bT 2) r.2])) (va_A (List.flatten [gX11 g aT bT zT, gX4 g (bT 0) zT_0, gX8 g (bT 2) zT_2]) sz)) args s 0 0 (va_A (List.flatten [gX11 g aT bT zT, gX4 g (bT 0) zT_0, gX8 g (bT 2) zT_2]) sz) := ⟨_, rfl⟩
  rw [← hQQ]
  obtain ⟨AA, hAA⟩ : ∃ q, q = va_A (List.flatten [gX11 g aT bT zT, gX4 g (bT 0) zT_0, gX8 g (bT 2) zT_2]) sz := ⟨_, rfl⟩
  rw [← hAA] at V
  unfold p_X11_deep at h
  refine lv_iload_n X.1 X.2.1 dX11_deep_0 rfl (lv_at hl 2 rfl) ?_
  refine lv_iload_n X.1 X.2.1 dX11_deep_1 rfl (lv_at hl 3 rfl) ?_
  refine lv_sipush (v := (300 : Int32)) X.1 X.2.1 dX11_deep_2 (by decide) ?_
  obtain ⟨x4, hx4, h⟩ := kb_of h
  refine s_callSi (segs' := [gX11 g aT bT zT, gX4 g (bT 0) zT_0, gX8 g (bT 2) zT_2]) X V (c_X11_isNear l D g v2 v3 (300 : Int32) x4 hx4) w_X11_127 ⟨Nat.le_of_ble_eq_true rfl, Nat.le_of_ble_eq_true rfl⟩ ⟨Nat.zero_le _, Nat.zero_le _⟩ rfl [] rfl rfl (kFst_refl _) rfl rfl hl.1 (Nat.le_of_ble_eq_true rfl) dX11_deep_5 (fun H locs V => ?_)
  refine lv_if_eq (tgt := 19) X.1 X.2.1 dX11_deep_8 (by decide) (fun hc => ?_) (fun hc => ?_)
  · replace h := kif_t hc h
    refine lv_iconst (v := (-1 : Int32)) X.1 X.2.1 dX11_deep_19 (by decide) ?_
    obtain rfl := Option.some.inj h
    rw [hAA] at V
    rw [hQQ]
    exact k_iret X V rfl dX11_deep_20
  · replace h := kif_f hc h
    refine lv_aload_n X.1 X.2.1 dX11_deep_11 rfl (lv_at hl 0 rfl) ?_
    refine lv_iload_n X.1 X.2.1 dX11_deep_12 rfl (lv_at hl 1 rfl) ?_
    obtain ⟨x5, hx5, h⟩ := kb_of h
    refine s_callVi (segs' := [gX11 g aT bT zT, gX4 g (bT 0) zT_0, gX8 g (bT 2) x5.2]) (ci := 11) (i0 := 0) X V (c_X11_gather l D g aT bT zT zT_0 zT_2 v1 x5 hx5) w_X11_196 ⟨Nat.le_of_ble_eq_true rfl, Nat.le_of_ble_eq_true rfl⟩ ⟨Nat.zero_le _, Nat.zero_le _⟩ rfl rfl rfl rfl [0, 1, 2] rfl rfl ⟨rfl, rfl, gX8_fst, trivial⟩ rfl rfl hl.1 (Nat.le_of_ble_eq_true rfl) dX11_deep_13 (fun H locs V => ?_)
    refine lv_if_ne (tgt := 21) X.1 X.2.1 dX11_deep_16 (by decide) (fun hc => ?_) (fun hc => ?_)
    · replace h := kif_f hc h
      refine lv_aload_n X.1 X.2.1 dX11_deep_21 rfl (lv_at hl 0 rfl) ?_
      refine gf_X11_26 (i := 0) X V rfl dX11_deep_22 ?_
      refine lv_iload_n X.1 X.2.1 dX11_deep_25 rfl (lv_at hl 2 rfl) ?_
      refine lv_iload_n X.1 X.2.1 dX11_deep_26 rfl (lv_at hl 3 rfl) ?_
      obtain ⟨x6, hx6, h⟩ := kb_of h
      refine s_callVi (segs' := [gX11 g aT bT zT, gX4 g (bT 0) zT_0, gX8 g (bT 2) x5.2]) (ci := 8) (i0 := 0) X V (c_X8_depth l D g (bT 2) x5.2 v2 v3 x6 hx6) w_X11_356 ⟨Nat.le_of_ble_eq_true rfl, Nat.le_of_ble_eq_true rfl⟩ ⟨Nat.zero_le _, Nat.zero_le _⟩ rfl rfl rfl rfl [2] rfl rfl (kFst_refl _) rfl rfl hl.1 (Nat.le_of_ble_eq_true rfl) dX11_deep_27 (fun H locs V => ?_)
      obtain rfl := Option.some.inj h
      rw [hAA] at V
      rw [hQQ]
      exact k_iret X V rfl dX11_deep_30
    · replace h := kif_t hc h
      refine lv_iconst (v := (-1 : Int32)) X.1 X.2.1 dX11_deep_19 (by decide) ?_
      obtain rfl := Option.some.inj h
      rw [hAA] at V
      rw [hQQ]
      exact k_iret X V rfl dX11_deep_20

def p_X11_meetsAt_L2 (zT : tX11) (zT_0 : tX4) (v1 : Int32) (v2 : Int32) (s : Int32 × tX8 × tX8 × tX5 × tX5) : Option (Nat × (Int32 × tX8 × tX8 × tX5 × tX5)) :=
  kif ((20 : Int32) < s.1) (some (39, (s.1, s.2.1, s.2.2.1, s.2.2.2.1, s.2.2.2.2))) (kb (p_X11_meetAt zT zT_0 s.2.1 s.2.2.1 s.2.2.2.1 s.2.2.2.2 v1 v2 s.1) (fun x1 => kif (x1.1 = (-1 : Int32)) (some (23, (s.1, x1.2.1, x1.2.2.1, x1.2.2.2.1, x1.2.2.2.2))) (kif (x1.1 = (1 : Int32)) (some (31, (s.1, x1.2.1, x1.2.2.1, x1.2.2.2.1, x1.2.2.2.2))) (kl (s.1 + (1 : Int32)) (fun y2 => some (2, (y2, x1.2.1, x1.2.2.1, x1.2.2.2.1, x1.2.2.2.2)))))))
def p_X11_meetsAt (zT : tX11) (zT_0 : tX4) (zT_2 : tX8) (zT_3 : tX8) (zT_6 : tX5) (zT_7 : tX5) (v1 : Int32) (v2 : Int32) : Option (Int32 × tX8 × tX8 × tX5 × tX5) :=
  kb (kitr 2 (fun q => p_X11_meetsAt_L2 zT zT_0 v1 v2 q) kF ((0 : Int32), zT_2, zT_3, zT_6, zT_7)) (fun x3 => kif (x3.1 = 23) (some ((-1 : Int32), x3.2.2.1, x3.2.2.2.1, x3.2.2.2.2.1, x3.2.2.2.2.2)) (kif (x3.1 = 31) (some (x3.2.1, x3.2.2.1, x3.2.2.2.1, x3.2.2.2.2.1, x3.2.2.2.2.2)) (kg (x3.1 = 39) (some ((-1 : Int32), x3.2.2.1, x3.2.2.2.1, x3.2.2.2.2.1, x3.2.2.2.2.2)))))
set_option maxHeartbeats 4000000 in
set_option maxRecDepth 100000 in
theorem c_X11_meetsAt (l : Launch) (D : va_G) (g : kG) (aT : Nat → Nat) (bT : Nat → Nat → Nat) (zT : tX11) (zT_0 : tX4) (zT_2 : tX8) (zT_3 : tX8) (zT_6 : tX5) (zT_7 : tX5) (v1 : Int32) (v2 : Int32) (r : Int32 × tX8 × tX8 × tX5 × tX5) (h : p_X11_meetsAt zT zT_0 zT_2 zT_3 zT_6 zT_7 v1 v2 = some r) : kMi l yX11_meetsAt cX11_meetsAt 5 (some .int) (kR 6 141) D (kty g) [.ref (aT 0), .int v1, .int v2] (List.flatten [gX11 g aT bT zT, gX4 g (bT 0) zT_0, gX8 g (bT 2) zT_2, gX8 g (bT 3) zT_3, gX5 g (bT 6) zT_6, gX5 g (bT 7) zT_7]) r.1 (List.flatten [gX11 g aT bT zT, gX4 g (bT 0) zT_0, gX8 g (bT 2) r.2.1, gX8 g (bT 3) r.2.2.1, gX5 g (bT 6) r.2.2.2.1, gX5 g (bT 7) r.2.2.2.2]) := by
  intro sz
  refine k_enter (lv := [(0, .ref (aT 0)), (1, .int v1), (2, .int v2)]) RX11 (by decide +kernel) rfl rfl (Nat.le_of_ble_eq_true rfl) ?_
  intro p en s m args below meth c ls hsz X V hl
  obtain ⟨QQ, hQQ⟩ : ∃ q, q = MQ below (va_Qi (fun r' (_ : Unit) => r' = r.1) (fun _ => kE D (List.flatten [gX11 g aT bT zT, gX4 g (bT 0) zT_0, gX8 g (bT 2) r.2.1, gX8 g (bT 3) r.2.2.1, gX5 g (bT 6) r.2.2.2.1, gX5 g (bT 7) r.2.2.2.2])) (va_A (List.flatten [gX11 g aT bT zT, gX4 g (bT 0) zT_0, gX8 g (bT 2) zT_2, gX8 g (bT 3) zT_3, gX5 g (bT 6) zT_6, gX5 g (bT 7) zT_7]) sz)) args s 0 0 (va_A (List.flatten [gX11 g aT bT zT, gX4 g (bT 0) zT_0, gX8 g (bT 2) zT_2, gX8 g (bT 3) zT_3, gX5 g (bT 6) zT_6, gX5 g (bT 7) zT_7]) sz) := ⟨_, rfl⟩
  rw [← hQQ]
  obtain ⟨AA, hAA⟩ : ∃ q, q = va_A (List.flatten [gX11 g aT bT zT, gX4 g (bT 0) zT_0, gX8 g (bT 2) zT_2, gX8 g (bT 3) zT_3, gX5 g (bT 6) zT_6, gX5 g (bT 7) zT_7]) sz := ⟨_, rfl⟩
  rw [← hAA] at V
  unfold p_X11_meetsAt at h
  refine lv_iconst (v := (0 : Int32)) X.1 X.2.1 dX11_meetsAt_0 (by decide) ?_
  refine lv_istore_n (lv' := [(3, .int (0 : Int32)), (0, .ref (aT 0)), (1, .int v1), (2, .int v2)]) X.1 X.2.1 dX11_meetsAt_1 rfl hl (by decide) rfl (fun ls hl => ?_)
  obtain ⟨x4, hx4, h⟩ := kb_of h
  refine (kitr_go (hd := 2) (body := fun q => p_X11_meetsAt_L2 zT zT_0 v1 v2 q) (G := (fun e => ∀ (H : Heap) (locs : List Loc) (ls : Array Slot), kW D AA s.heap H (List.flatten [gX11 g aT bT zT, gX4 g (bT 0) zT_0, gX8 g (bT 2) e.2.2.1, gX8 g (bT 3) e.2.2.2.1, gX5 g (bT 6) e.2.2.2.2.1, gX5 g (bT 7) e.2.2.2.2.2]) locs → lv_has ls 5 [(0, .ref (aT 0)), (1, .int v1), (2, .int v2), (3, .int e.2.1)] → W p l en (kR 6 141) s m args below meth c H locs 0 0 QQ (F0 m e.1 ls []))) (fun s5 e6 hb7 hG8 => ?_) kF _ x4 hx4 ?_) _ _ _ V (lv_sub hl [1, 2, 3, 0] rfl)
  · intro H locs ls V hl
    show W p l en (kR 6 141) s m args below meth c H locs 0 0 QQ (F0 m 2 ls [])
    have h : p_X11_meetsAt_L2 zT zT_0 v1 v2 s5 = some e6 := hb7
    unfold p_X11_meetsAt_L2 at h
    have V : kW D AA s.heap H (List.flatten [gX11 g aT bT zT, gX4 g (bT 0) zT_0, gX8 g (bT 2) s5.2.1, gX8 g (bT 3) s5.2.2.1, gX5 g (bT 6) s5.2.2.2.1, gX5 g (bT 7) s5.2.2.2.2]) locs := V
    have hl : lv_has ls 5 [(0, .ref (aT 0)), (1, .int v1), (2, .int v2), (3, .int s5.1)] := hl
    refine lv_iload_n X.1 X.2.1 dX11_meetsAt_2 rfl (lv_at hl 3 rfl) ?_
    refine lv_bipush (v := (20 : Int32)) X.1 X.2.1 dX11_meetsAt_3 (by decide) ?_
    refine lv_icmp_gt (tgt := 39) X.1 X.2.1 dX11_meetsAt_5 (by decide) (fun hc => ?_) (fun hc => ?_)
    · replace h := kif_t hc h
      obtain rfl := Option.some.inj h
      exact hG8 _ _ _ V (lv_sub hl [0, 1, 2, 3] rfl)
    · replace h := kif_f hc h
      refine lv_aload_n X.1 X.2.1 dX11_meetsAt_8 rfl (lv_at hl 0 rfl) ?_
      refine lv_iload_n X.1 X.2.1 dX11_meetsAt_9 rfl (lv_at hl 1 rfl) ?_
      refine lv_iload_n X.1 X.2.1 dX11_meetsAt_10 rfl (lv_at hl 2 rfl) ?_
      refine lv_iload_n X.1 X.2.1 dX11_meetsAt_11 rfl (lv_at hl 3 rfl) ?_
      obtain ⟨x9, hx9, h⟩ := kb_of h
      refine s_callVi (segs' := [gX11 g aT bT zT, gX4 g (bT 0) zT_0, gX8 g (bT 2) x9.2.1, gX8 g (bT 3) x9.2.2.1, gX5 g (bT 6) x9.2.2.2.1, gX5 g (bT 7) x9.2.2.2.2]) (ci := 11) (i0 := 0) X V (c_X11_meetAt l D g aT bT zT zT_0 s5.2.1 s5.2.2.1 s5.2.2.2.1 s5.2.2.2.2 v1 v2 s5.1 x9 hx9) w_X11_309 ⟨Nat.le_of_ble_eq_true rfl, Nat.le_of_ble_eq_true rfl⟩ ⟨Nat.zero_le _, Nat.zero_le _⟩ rfl rfl rfl rfl [0, 1, 2, 3, 4, 5] rfl rfl ⟨rfl, rfl, gX8_fst, gX8_fst, gX5_fst, gX5_fst, trivial⟩ rfl rfl hl.1 (Nat.le_of_ble_eq_true rfl) dX11_meetsAt_12 (fun H locs V => ?_)
      refine lv_istore (lv' := [(4, .int x9.1), (0, .ref (aT 0)), (1, .int v1), (2, .int v2), (3, .int s5.1)]) X.1 X.2.1 dX11_meetsAt_15 hl (by decide) rfl (fun ls hl => ?_)
      refine lv_iload X.1 X.2.1 dX11_meetsAt_17 (lv_at hl 0 rfl) ?_
      refine lv_iconst (v := (-1 : Int32)) X.1 X.2.1 dX11_meetsAt_19 (by decide) ?_
      refine lv_icmp_ne (tgt := 25) X.1 X.2.1 dX11_meetsAt_20 (by decide) (fun hc => ?_) (fun hc => ?_)
      · replace h := kif_f hc h
        refine lv_iload X.1 X.2.1 dX11_meetsAt_25 (lv_at hl 0 rfl) ?_
        refine lv_iconst (v := (1 : Int32)) X.1 X.2.1 dX11_meetsAt_27 (by decide) ?_
        refine lv_icmp_ne (tgt := 33) X.1 X.2.1 dX11_meetsAt_28 (by decide) (fun hc => ?_) (fun hc => ?_)
        · replace h := kif_f hc h
          obtain ⟨y10, ey10⟩ : ∃ y : Int32, y = (s5.1 + (1 : Int32)) := ⟨_, rfl⟩
          replace h := kl_of ey10 h
          refine lv_iinc (v := y10) (lv' := [(3, .int y10), (4, .int x9.1), (0, .ref (aT 0)), (1, .int v1), (2, .int v2)]) X.1 X.2.1 dX11_meetsAt_33 hl (k := 4) rfl (by rw [ey10]; rfl) (by decide) rfl (fun ls hl => ?_)
          refine lv_goto (tgt := 2) X.1 X.2.1 dX11_meetsAt_36 (by decide) ?_
          obtain rfl := Option.some.inj h
          exact hG8 _ _ _ V (lv_sub hl [2, 3, 4, 0] rfl)
        · replace h := kif_t hc h
          obtain rfl := Option.some.inj h
          exact hG8 _ _ _ V (lv_sub hl [1, 2, 3, 4] rfl)
      · replace h := kif_t hc h
        obtain rfl := Option.some.inj h
        exact hG8 _ _ _ V (lv_sub hl [1, 2, 3, 4] rfl)
  · intro H locs ls V hl
    have V : kW D AA s.heap H (List.flatten [gX11 g aT bT zT, gX4 g (bT 0) zT_0, gX8 g (bT 2) x4.2.2.1, gX8 g (bT 3) x4.2.2.2.1, gX5 g (bT 6) x4.2.2.2.2.1, gX5 g (bT 7) x4.2.2.2.2.2]) locs := V
    have hl : lv_has ls 5 [(0, .ref (aT 0)), (1, .int v1), (2, .int v2), (3, .int x4.2.1)] := hl
    by_cases hc : x4.1 = 23
    · replace h := kif_t hc h
      refine W.eq (g2 := F0 m 23 ls []) (by rw [hc]) ?_
      refine lv_iconst (v := (-1 : Int32)) X.1 X.2.1 dX11_meetsAt_23 (by decide) ?_
      obtain rfl := Option.some.inj h
      rw [hAA] at V
      rw [hQQ]
      exact k_iret X V rfl dX11_meetsAt_24
    · replace h := kif_f hc h
      by_cases hc : x4.1 = 31
      · replace h := kif_t hc h
        refine W.eq (g2 := F0 m 31 ls []) (by rw [hc]) ?_
        refine lv_iload_n X.1 X.2.1 dX11_meetsAt_31 rfl (lv_at hl 3 rfl) ?_
        obtain rfl := Option.some.inj h
        rw [hAA] at V
        rw [hQQ]
        exact k_iret X V rfl dX11_meetsAt_32
      · replace h := kif_f hc h
        obtain ⟨hc, h⟩ := kg_of h
        refine W.eq (g2 := F0 m 39 ls []) (by rw [hc]) ?_
        refine lv_iconst (v := (-1 : Int32)) X.1 X.2.1 dX11_meetsAt_39 (by decide) ?_
        obtain rfl := Option.some.inj h
        rw [hAA] at V
        rw [hQQ]
        exact k_iret X V rfl dX11_meetsAt_40

def p_X11_tightIsAsAhead_L2 (zT : tX11) (zT_4 : tX0) (s : Int32) : Option (Nat × (Int32)) :=
  kif ((3 : Int32) ≤ s) (some (36, s)) (kg (kii s 3) (kb (p_X0_tightNumber zT_4 s) (fun x1 => kif ((zT s.toNatClampNeg) = x1) (kl (s + (1 : Int32)) (fun y2 => some (2, y2))) (some (28, s)))))
def p_X11_tightIsAsAhead (zT : tX11) (zT_4 : tX0) : Option (Bool) :=
  kb (kitr 2 (fun q => p_X11_tightIsAsAhead_L2 zT zT_4 q) kF (0 : Int32)) (fun x3 => kif (x3.1 = 28) (some false) (kg (x3.1 = 36) (some true)))
set_option maxHeartbeats 4000000 in
set_option maxRecDepth 100000 in
theorem c_X11_tightIsAsAhead (l : Launch) (D : va_G) (g : kG) (aT : Nat → Nat) (bT : Nat → Nat → Nat) (zT : tX11) (zT_4 : tX0) (r : Bool) (h : p_X11_tightIsAsAhead zT zT_4 = some r) : kMi l yX11_tightIsAsAhead cX11_tightIsAsAhead 2 (some .boolean) (kR 1 21) D (kty g) [.ref (aT 0)] (List.flatten [gX11 g aT bT zT, gX0 g (bT 4) zT_4]) (kz r) (List.flatten [gX11 g aT bT zT, gX0 g (bT 4) zT_4]) := by
  intro sz
  refine k_enter (lv := [(0, .ref (aT 0))]) RX11 (by decide +kernel) rfl rfl (Nat.le_of_ble_eq_true rfl) ?_
  intro p en s m args below meth c ls hsz X V hl
  obtain ⟨QQ, hQQ⟩ : ∃ q, q = MQ below (va_Qi (fun r' (_ : Unit) => r' = kz r) (fun _ => kE D (List.flatten [gX11 g aT bT zT, gX0 g (bT 4) zT_4])) (va_A (List.flatten [gX11 g aT bT zT, gX0 g (bT 4) zT_4]) sz)) args s 0 0 (va_A (List.flatten [gX11 g aT bT zT, gX0 g (bT 4) zT_4]) sz) := ⟨_, rfl⟩
  rw [← hQQ]
  obtain ⟨AA, hAA⟩ : ∃ q, q = va_A (List.flatten [gX11 g aT bT zT, gX0 g (bT 4) zT_4]) sz := ⟨_, rfl⟩
  rw [← hAA] at V
  unfold p_X11_tightIsAsAhead at h
  refine lv_iconst (v := (0 : Int32)) X.1 X.2.1 dX11_tightIsAsAhead_0 (by decide) ?_
  refine lv_istore_n (lv' := [(1, .int (0 : Int32)), (0, .ref (aT 0))]) X.1 X.2.1 dX11_tightIsAsAhead_1 rfl hl (by decide) rfl (fun ls hl => ?_)
  obtain ⟨x4, hx4, h⟩ := kb_of h
  refine (kitr_go (hd := 2) (body := fun q => p_X11_tightIsAsAhead_L2 zT zT_4 q) (G := (fun e => ∀ (H : Heap) (locs : List Loc) (ls : Array Slot), kW D AA s.heap H (List.flatten [gX11 g aT bT zT, gX0 g (bT 4) zT_4]) locs → lv_has ls 2 [(0, .ref (aT 0)), (1, .int e.2)] → W p l en (kR 1 21) s m args below meth c H locs 0 0 QQ (F0 m e.1 ls []))) (fun s5 e6 hb7 hG8 => ?_) kF _ x4 hx4 ?_) _ _ _ V (lv_sub hl [1, 0] rfl)
  · intro H locs ls V hl
    show W p l en (kR 1 21) s m args below meth c H locs 0 0 QQ (F0 m 2 ls [])
    have h : p_X11_tightIsAsAhead_L2 zT zT_4 s5 = some e6 := hb7
    unfold p_X11_tightIsAsAhead_L2 at h
    have V : kW D AA s.heap H (List.flatten [gX11 g aT bT zT, gX0 g (bT 4) zT_4]) locs := V
    have hl : lv_has ls 2 [(0, .ref (aT 0)), (1, .int s5)] := hl
    refine lv_iload_n X.1 X.2.1 dX11_tightIsAsAhead_2 rfl (lv_at hl 1 rfl) ?_
    refine lv_aload_n X.1 X.2.1 dX11_tightIsAsAhead_3 rfl (lv_at hl 0 rfl) ?_
    refine gf_X11_98 (i := 0) X V rfl dX11_tightIsAsAhead_4 ?_
    refine ax_X11_15 (i := 0) X V rfl dX11_tightIsAsAhead_7 ?_
    refine lv_icmp_ge (tgt := 36) X.1 X.2.1 dX11_tightIsAsAhead_8 (by decide) (fun hc => ?_) (fun hc => ?_)
    · replace h := kif_t hc h
      obtain rfl := Option.some.inj h
      exact hG8 _ _ _ V (lv_sub hl [0, 1] rfl)
    · replace h := kif_f hc h
      refine lv_aload_n X.1 X.2.1 dX11_tightIsAsAhead_11 rfl (lv_at hl 0 rfl) ?_
      refine gf_X11_98 (i := 0) X V rfl dX11_tightIsAsAhead_12 ?_
      refine lv_iload_n X.1 X.2.1 dX11_tightIsAsAhead_15 rfl (lv_at hl 1 rfl) ?_
      obtain ⟨hc, h⟩ := kg_of h
      refine al_X11_15 (i := 0) X V rfl hc dX11_tightIsAsAhead_16 ?_
      refine lv_aload_n X.1 X.2.1 dX11_tightIsAsAhead_17 rfl (lv_at hl 0 rfl) ?_
      refine gf_X11_36 (i := 0) X V rfl dX11_tightIsAsAhead_18 ?_
      refine lv_iload_n X.1 X.2.1 dX11_tightIsAsAhead_21 rfl (lv_at hl 1 rfl) ?_
      obtain ⟨x9, hx9, h⟩ := kb_of h
      refine s_callVi (segs' := [gX11 g aT bT zT, gX0 g (bT 4) zT_4]) (ci := 0) (i0 := 0) X V (c_X0_tightNumber l D g (bT 4) zT_4 s5 x9 hx9) w_X11_232 ⟨Nat.le_of_ble_eq_true rfl, Nat.le_of_ble_eq_true rfl⟩ ⟨Nat.zero_le _, Nat.zero_le _⟩ rfl rfl rfl rfl [1] rfl rfl (kFst_refl _) rfl rfl hl.1 (Nat.le_of_ble_eq_true rfl) dX11_tightIsAsAhead_22 (fun H locs V => ?_)
      refine lv_icmp_eq (tgt := 30) X.1 X.2.1 dX11_tightIsAsAhead_25 (by decide) (fun hc => ?_) (fun hc => ?_)
      · replace h := kif_t hc h
        obtain ⟨y10, ey10⟩ : ∃ y : Int32, y = (s5 + (1 : Int32)) := ⟨_, rfl⟩
        replace h := kl_of ey10 h
        refine lv_iinc (v := y10) (lv' := [(1, .int y10), (0, .ref (aT 0))]) X.1 X.2.1 dX11_tightIsAsAhead_30 hl (k := 1) rfl (by rw [ey10]; rfl) (by decide) rfl (fun ls hl => ?_)
        refine lv_goto (tgt := 2) X.1 X.2.1 dX11_tightIsAsAhead_33 (by decide) ?_
        obtain rfl := Option.some.inj h
        exact hG8 _ _ _ V (lv_sub hl [1, 0] rfl)
      · replace h := kif_f hc h
        obtain rfl := Option.some.inj h
        exact hG8 _ _ _ V (lv_sub hl [0, 1] rfl)
  · intro H locs ls V hl
    have V : kW D AA s.heap H (List.flatten [gX11 g aT bT zT, gX0 g (bT 4) zT_4]) locs := V
    have hl : lv_has ls 2 [(0, .ref (aT 0)), (1, .int x4.2)] := hl
    by_cases hc : x4.1 = 28
    · replace h := kif_t hc h
      refine W.eq (g2 := F0 m 28 ls []) (by rw [hc]) ?_
      refine lv_iconst (v := (0 : Int32)) X.1 X.2.1 dX11_tightIsAsAhead_28 (by decide) ?_
      obtain rfl := Option.some.inj h
      rw [hAA] at V
      rw [hQQ]
      exact k_zret X V (b := false) rfl rfl dX11_tightIsAsAhead_29
    · replace h := kif_f hc h
      obtain ⟨hc, h⟩ := kg_of h
      refine W.eq (g2 := F0 m 36 ls []) (by rw [hc]) ?_
      refine lv_iconst (v := (1 : Int32)) X.1 X.2.1 dX11_tightIsAsAhead_36 (by decide) ?_
      obtain rfl := Option.some.inj h
      rw [hAA] at V
      rw [hQQ]
      exact k_zret X V (b := true) rfl rfl dX11_tightIsAsAhead_37

def p_X11_changes_L64 (zT_0 : tX4) (v1 : Int32) (zT_2 : tX8) (zT_4 : tX0) (v2 : Int32) (v3 : Int32) (s : Int32 × tX11) : Option (Nat × (Int32 × tX11)) :=
  kif ((3 : Int32) ≤ s.1) (some (96, (s.1, s.2))) (kb (p_X0_tightNumber zT_4 s.1) (fun x4 => kg (kii s.1 3) (kl (upd s.2 (s.1).toNatClampNeg x4) (fun z5 => kl (s.1 + (1 : Int32)) (fun y6 => some (64, (y6, z5)))))))
def p_X11_changes_J61_4 (zT_0 : tX4) (v1 : Int32) (zT : tX11) (zT_2 : tX8) (zT_4 : tX0) (v2 : Int32) (v3 : Int32) : Option (Nat × (Int32 × Int32 × tX11 × tX8 × tX0)) :=
  kb (kitr 64 (fun q => p_X11_changes_L64 zT_0 v1 zT_2 zT_4 v2 v3 q) kF ((0 : Int32), zT)) (fun x7 => kg (x7.1 = 96) (kl (v3 + (1 : Int32)) (fun y8 => some (4, (v2, y8, x7.2.2, zT_2, zT_4)))))
def p_X11_changes_L4 (zT_0 : tX4) (v1 : Int32) (s : Int32 × Int32 × tX11 × tX8 × tX0) : Option (Nat × (Int32 × Int32 × tX11 × tX8 × tX0)) :=
  kif ((20 : Int32) < s.2.1) (some (102, (s.1, s.2.1, s.2.2.1, s.2.2.2.1, s.2.2.2.2))) (kb (p_X11_gatherAt s.2.2.1 zT_0 s.2.2.2.1 v1 s.2.1) (fun x1 => kif ((kz x1.1) = 0) (some (23, (s.1, s.2.1, s.2.2.1, x1.2, s.2.2.2.2))) (kb (p_X0_about s.2.2.2.2 x1.2) (fun x2 => kb (p_X0_seekTight x2 x1.2) (fun x3 => kif (s.2.1 ≤ 0) (p_X11_changes_J61_4 zT_0 v1 s.2.2.1 x1.2 x3 s.1 s.2.1) (kb (p_X11_tightIsAsAhead s.2.2.1 x3) (fun x9 => kif ((kz x9) = 0) (kl (s.1 + (1 : Int32)) (fun y10 => p_X11_changes_J61_4 zT_0 v1 s.2.2.1 x1.2 x3 y10 s.2.1)) (p_X11_changes_J61_4 zT_0 v1 s.2.2.1 x1.2 x3 s.1 s.2.1))))))))
def p_X11_changes (zT : tX11) (zT_0 : tX4) (zT_2 : tX8) (zT_4 : tX0) (v1 : Int32) : Option (Int32 × tX11 × tX8 × tX0) :=
  kb (kitr 4 (fun q => p_X11_changes_L4 zT_0 v1 q) kF ((0 : Int32), (0 : Int32), zT, zT_2, zT_4)) (fun x11 => kif (x11.1 = 23) (some ((-1 : Int32), x11.2.2.2.1, x11.2.2.2.2.1, x11.2.2.2.2.2)) (kg (x11.1 = 102) (some (x11.2.1, x11.2.2.2.1, x11.2.2.2.2.1, x11.2.2.2.2.2))))
set_option maxHeartbeats 4000000 in
set_option maxRecDepth 100000 in
theorem c_X11_changes (l : Launch) (D : va_G) (g : kG) (aT : Nat → Nat) (bT : Nat → Nat → Nat) (zT : tX11) (zT_0 : tX4) (zT_2 : tX8) (zT_4 : tX0) (v1 : Int32) (r : Int32 × tX11 × tX8 × tX0) (h : p_X11_changes zT zT_0 zT_2 zT_4 v1 = some r) : kMi l yX11_changes cX11_changes 5 (some .int) (kR 6 152) D (kty g) [.ref (aT 0), .int v1] (List.flatten [gX11 g aT bT zT, gX4 g (bT 0) zT_0, gX8 g (bT 2) zT_2, gX0 g (bT 4) zT_4]) r.1 (List.flatten [gX11 g aT bT r.2.1, gX4 g (bT 0) zT_0, gX8 g (bT 2) r.2.2.1, gX0 g (bT 4) r.2.2.2]) := by
  intro sz
  refine k_enter (lv := [(0, .ref (aT 0)), (1, .int v1)]) RX11 (by decide +kernel) rfl rfl (Nat.le_of_ble_eq_true rfl) ?_
  intro p en s m args below meth c ls hsz X V hl
  obtain ⟨QQ, hQQ⟩ : ∃ q, q = MQ below (va_Qi (fun r' (_ : Unit) => r' = r.1) (fun _ => kE D (List.flatten [gX11 g aT bT r.2.1, gX4 g (bT 0) zT_0, gX8 g (bT 2) r.2.2.1, gX0 g (bT 4) r.2.2.2])) (va_A (List.flatten [gX11 g aT bT zT, gX4 g (bT 0) zT_0, gX8 g (bT 2) zT_2, gX0 g (bT 4) zT_4]) sz)) args s 0 0 (va_A (List.flatten [gX11 g aT bT zT, gX4 g (bT 0) zT_0, gX8 g (bT 2) zT_2, gX0 g (bT 4) zT_4]) sz) := ⟨_, rfl⟩
  rw [← hQQ]
  obtain ⟨AA, hAA⟩ : ∃ q, q = va_A (List.flatten [gX11 g aT bT zT, gX4 g (bT 0) zT_0, gX8 g (bT 2) zT_2, gX0 g (bT 4) zT_4]) sz := ⟨_, rfl⟩
  rw [← hAA] at V
  unfold p_X11_changes at h
  refine lv_iconst (v := (0 : Int32)) X.1 X.2.1 dX11_changes_0 (by decide) ?_
  refine lv_istore_n (lv' := [(2, .int (0 : Int32)), (0, .ref (aT 0)), (1, .int v1)]) X.1 X.2.1 dX11_changes_1 rfl hl (by decide) rfl (fun ls hl => ?_)
  refine lv_iconst (v := (0 : Int32)) X.1 X.2.1 dX11_changes_2 (by decide) ?_
  refine lv_istore_n (lv' := [(3, .int (0 : Int32)), (2, .int (0 : Int32)), (0, .ref (aT 0)), (1, .int v1)]) X.1 X.2.1 dX11_changes_3 rfl hl (by decide) rfl (fun ls hl => ?_)
  obtain ⟨x12, hx12, h⟩ := kb_of h
  refine (kitr_go (hd := 4) (body := fun q => p_X11_changes_L4 zT_0 v1 q) (G := (fun e => ∀ (H : Heap) (locs : List Loc) (ls : Array Slot), kW D AA s.heap H (List.flatten [gX11 g aT bT e.2.2.2.1, gX4 g (bT 0) zT_0, gX8 g (bT 2) e.2.2.2.2.1, gX0 g (bT 4) e.2.2.2.2.2]) locs → lv_has ls 5 [(0, .ref (aT 0)), (1, .int v1), (2, .int e.2.1), (3, .int e.2.2.1)] → W p l en (kR 6 152) s m args below meth c H locs 0 0 QQ (F0 m e.1 ls []))) (fun s13 e14 hb15 hG16 => ?_) kF _ x12 hx12 ?_) _ _ _ V (lv_sub hl [2, 3, 1, 0] rfl)
  · intro H locs ls V hl
    show W p l en (kR 6 152) s m args below meth c H locs 0 0 QQ (F0 m 4 ls [])
    have h : p_X11_changes_L4 zT_0 v1 s13 = some e14 := hb15
    unfold p_X11_changes_L4 at h
    have V : kW D AA s.heap H (List.flatten [gX11 g aT bT s13.2.2.1, gX4 g (bT 0) zT_0, gX8 g (bT 2) s13.2.2.2.1, gX0 g (bT 4) s13.2.2.2.2]) locs := V
    have hl : lv_has ls 5 [(0, .ref (aT 0)), (1, .int v1), (2, .int s13.1), (3, .int s13.2.1)] := hl
    have J61 : ∀ (zT : tX11) (zT_2 : tX8) (zT_4 : tX0) (v2 : Int32) (v3 : Int32) (H : Heap) (locs : List Loc) (ls : Array Slot), p_X11_changes_J61_4 zT_0 v1 zT zT_2 zT_4 v2 v3 = some e14 → kW D AA s.heap H (List.flatten [gX11 g aT bT zT, gX4 g (bT 0) zT_0, gX8 g (bT 2) zT_2, gX0 g (bT 4) zT_4]) locs → lv_has ls 5 [(0, .ref (aT 0)), (1, .int v1), (2, .int v2), (3, .int v3)] → W p l en (kR 6 152) s m args below meth c H locs 0 0 QQ (F0 m 61 ls []) := by
      intro zT zT_2 zT_4 v2 v3 H locs ls h V hl
      unfold p_X11_changes_J61_4 at h
      refine lv_iconst (v := (0 : Int32)) X.1 X.2.1 dX11_changes_61 (by decide) ?_
      refine lv_istore (lv' := [(4, .int (0 : Int32)), (0, .ref (aT 0)), (1, .int v1), (2, .int v2), (3, .int v3)]) X.1 X.2.1 dX11_changes_62 hl (by decide) rfl (fun ls hl => ?_)
      obtain ⟨x17, hx17, h⟩ := kb_of h
      refine (kitr_go (hd := 64) (body := fun q => p_X11_changes_L64 zT_0 v1 zT_2 zT_4 v2 v3 q) (G := (fun e => ∀ (H : Heap) (locs : List Loc) (ls : Array Slot), kW D AA s.heap H (List.flatten [gX11 g aT bT e.2.2, gX4 g (bT 0) zT_0, gX8 g (bT 2) zT_2, gX0 g (bT 4) zT_4]) locs → lv_has ls 5 [(0, .ref (aT 0)), (1, .int v1), (2, .int v2), (3, .int v3), (4, .int e.2.1)] → W p l en (kR 6 152) s m args below meth c H locs 0 0 QQ (F0 m e.1 ls []))) (fun s18 e19 hb20 hG21 => ?_) kF _ x17 hx17 ?_) _ _ _ V (lv_sub hl [1, 2, 3, 4, 0] rfl)
      · intro H locs ls V hl
        show W p l en (kR 6 152) s m args below meth c H locs 0 0 QQ (F0 m 64 ls [])
        have h : p_X11_changes_L64 zT_0 v1 zT_2 zT_4 v2 v3 s18 = some e19 := hb20
        unfold p_X11_changes_L64 at h
        have V : kW D AA s.heap H (List.flatten [gX11 g aT bT s18.2, gX4 g (bT 0) zT_0, gX8 g (bT 2) zT_2, gX0 g (bT 4) zT_4]) locs := V
        have hl : lv_has ls 5 [(0, .ref (aT 0)), (1, .int v1), (2, .int v2), (3, .int v3), (4, .int s18.1)] := hl
        refine lv_iload X.1 X.2.1 dX11_changes_64 (lv_at hl 4 rfl) ?_
        refine lv_aload_n X.1 X.2.1 dX11_changes_66 rfl (lv_at hl 0 rfl) ?_
        refine gf_X11_98 (i := 0) X V rfl dX11_changes_67 ?_
        refine ax_X11_15 (i := 0) X V rfl dX11_changes_70 ?_
        refine lv_icmp_ge (tgt := 96) X.1 X.2.1 dX11_changes_71 (by decide) (fun hc => ?_) (fun hc => ?_)
        · replace h := kif_t hc h
          obtain rfl := Option.some.inj h
          exact hG21 _ _ _ V (lv_sub hl [0, 1, 2, 3, 4] rfl)
        · replace h := kif_f hc h
          refine lv_aload_n X.1 X.2.1 dX11_changes_74 rfl (lv_at hl 0 rfl) ?_
          refine gf_X11_98 (i := 0) X V rfl dX11_changes_75 ?_
          refine lv_iload X.1 X.2.1 dX11_changes_78 (lv_at hl 4 rfl) ?_
          refine lv_aload_n X.1 X.2.1 dX11_changes_80 rfl (lv_at hl 0 rfl) ?_
          refine gf_X11_36 (i := 0) X V rfl dX11_changes_81 ?_
          refine lv_iload X.1 X.2.1 dX11_changes_84 (lv_at hl 4 rfl) ?_
          obtain ⟨x22, hx22, h⟩ := kb_of h
          refine s_callVi (segs' := [gX11 g aT bT s18.2, gX4 g (bT 0) zT_0, gX8 g (bT 2) zT_2, gX0 g (bT 4) zT_4]) (ci := 0) (i0 := 0) X V (c_X0_tightNumber l D g (bT 4) zT_4 s18.1 x22 hx22) w_X11_232 ⟨Nat.le_of_ble_eq_true rfl, Nat.le_of_ble_eq_true rfl⟩ ⟨Nat.zero_le _, Nat.zero_le _⟩ rfl rfl rfl rfl [3] rfl rfl (kFst_refl _) rfl rfl hl.1 (Nat.le_of_ble_eq_true rfl) dX11_changes_86 (fun H locs V => ?_)
          obtain ⟨hc, h⟩ := kg_of h
          refine as_X11_15 (i := 0) X V rfl hc dX11_changes_89 (fun H locs V => ?_)
          obtain ⟨z23, ez23⟩ : ∃ y, y = (upd s18.2 (s18.1).toNatClampNeg x22) := ⟨_, rfl⟩
          replace h := kl_of ez23 h
          have V : kW D AA s.heap H (List.flatten [gX11 g aT bT z23, gX4 g (bT 0) zT_0, gX8 g (bT 2) zT_2, gX0 g (bT 4) zT_4]) locs := by rw [ez23]; exact V
          obtain ⟨y24, ey24⟩ : ∃ y : Int32, y = (s18.1 + (1 : Int32)) := ⟨_, rfl⟩
          replace h := kl_of ey24 h
          refine lv_iinc (v := y24) (lv' := [(4, .int y24), (0, .ref (aT 0)), (1, .int v1), (2, .int v2), (3, .int v3)]) X.1 X.2.1 dX11_changes_90 hl (k := 4) rfl (by rw [ey24]; rfl) (by decide) rfl (fun ls hl => ?_)
          refine lv_goto (tgt := 64) X.1 X.2.1 dX11_changes_93 (by decide) ?_
          obtain rfl := Option.some.inj h
          exact hG21 _ _ _ V (lv_sub hl [1, 2, 3, 4, 0] rfl)
      · intro H locs ls V hl
        have V : kW D AA s.heap H (List.flatten [gX11 g aT bT x17.2.2, gX4 g (bT 0) zT_0, gX8 g (bT 2) zT_2, gX0 g (bT 4) zT_4]) locs := V
        have hl : lv_has ls 5 [(0, .ref (aT 0)), (1, .int v1), (2, .int v2), (3, .int v3), (4, .int x17.2.1)] := hl
        obtain ⟨hc, h⟩ := kg_of h
        refine W.eq (g2 := F0 m 96 ls []) (by rw [hc]) ?_
        obtain ⟨y25, ey25⟩ : ∃ y : Int32, y = (v3 + (1 : Int32)) := ⟨_, rfl⟩
        replace h := kl_of ey25 h
        refine lv_iinc (v := y25) (lv' := [(3, .int y25), (0, .ref (aT 0)), (1, .int v1), (2, .int v2), (4, .int x17.2.1)]) X.1 X.2.1 dX11_changes_96 hl (k := 3) rfl (by rw [ey25]; rfl) (by decide) rfl (fun ls hl => ?_)
        refine lv_goto (tgt := 4) X.1 X.2.1 dX11_changes_99 (by decide) ?_
        obtain rfl := Option.some.inj h
        exact hG16 _ _ _ V (lv_sub hl [1, 2, 3, 0] rfl)
    refine lv_iload_n X.1 X.2.1 dX11_changes_4 rfl (lv_at hl 3 rfl) ?_
    refine lv_bipush (v := (20 : Int32)) X.1 X.2.1 dX11_changes_5 (by decide) ?_
    refine lv_icmp_gt (tgt := 102) X.1 X.2.1 dX11_changes_7 (by decide) (fun hc => ?_) (fun hc => ?_)
    · replace h := kif_t hc h
      obtain rfl := Option.some.inj h
      exact hG16 _ _ _ V (lv_sub hl [0, 1, 2, 3] rfl)
    · replace h := kif_f hc h
      refine lv_aload_n X.1 X.2.1 dX11_changes_10 rfl (lv_at hl 0 rfl) ?_
      refine lv_aload_n X.1 X.2.1 dX11_changes_11 rfl (lv_at hl 0 rfl) ?_
      refine gf_X11_26 (i := 0) X V rfl dX11_changes_12 ?_
      refine lv_iload_n X.1 X.2.1 dX11_changes_15 rfl (lv_at hl 1 rfl) ?_
      refine lv_iload_n X.1 X.2.1 dX11_changes_16 rfl (lv_at hl 3 rfl) ?_
      obtain ⟨x26, hx26, h⟩ := kb_of h
      refine s_callVi (segs' := [gX11 g aT bT s13.2.2.1, gX4 g (bT 0) zT_0, gX8 g (bT 2) x26.2, gX0 g (bT 4) s13.2.2.2.2]) (ci := 11) (i0 := 0) X V (c_X11_gatherAt l D g aT (bT 2) bT s13.2.2.1 zT_0 s13.2.2.2.1 v1 s13.2.1 x26 hx26) w_X11_252 ⟨Nat.le_of_ble_eq_true rfl, Nat.le_of_ble_eq_true rfl⟩ ⟨Nat.zero_le _, Nat.zero_le _⟩ rfl rfl rfl rfl [0, 1, 2] rfl rfl ⟨rfl, rfl, gX8_fst, trivial⟩ rfl rfl hl.1 (Nat.le_of_ble_eq_true rfl) dX11_changes_17 (fun H locs V => ?_)
      refine lv_if_ne (tgt := 25) X.1 X.2.1 dX11_changes_20 (by decide) (fun hc => ?_) (fun hc => ?_)
      · replace h := kif_f hc h
        refine lv_aload_n X.1 X.2.1 dX11_changes_25 rfl (lv_at hl 0 rfl) ?_
        refine gf_X11_36 (i := 0) X V rfl dX11_changes_26 ?_
        refine lv_aload_n X.1 X.2.1 dX11_changes_29 rfl (lv_at hl 0 rfl) ?_
        refine gf_X11_26 (i := 0) X V rfl dX11_changes_30 ?_
        obtain ⟨x27, hx27, h⟩ := kb_of h
        refine s_callVv (segs' := [gX11 g aT bT s13.2.2.1, gX4 g (bT 0) zT_0, gX8 g (bT 2) x26.2, gX0 g (bT 4) x27]) (ci := 0) (i0 := 0) X V (c_X0_about l D g (bT 4) (bT 2) s13.2.2.2.2 x26.2 x27 hx27) w_X11_209 ⟨Nat.le_of_ble_eq_true rfl, Nat.le_of_ble_eq_true rfl⟩ ⟨Nat.zero_le _, Nat.zero_le _⟩ rfl rfl rfl rfl [3, 2] rfl rfl ⟨gX0_fst, rfl, trivial⟩ rfl rfl hl.1 (Nat.le_of_ble_eq_true rfl) dX11_changes_33 (fun H locs V => ?_)
        refine lv_aload_n X.1 X.2.1 dX11_changes_36 rfl (lv_at hl 0 rfl) ?_
        refine gf_X11_36 (i := 0) X V rfl dX11_changes_37 ?_
        refine lv_aload_n X.1 X.2.1 dX11_changes_40 rfl (lv_at hl 0 rfl) ?_
        refine gf_X11_26 (i := 0) X V rfl dX11_changes_41 ?_
        obtain ⟨x28, hx28, h⟩ := kb_of h
        refine s_callVv (segs' := [gX11 g aT bT s13.2.2.1, gX4 g (bT 0) zT_0, gX8 g (bT 2) x26.2, gX0 g (bT 4) x28]) (ci := 0) (i0 := 0) X V (c_X0_seekTight l D g (bT 4) (bT 2) x27 x26.2 x28 hx28) w_X11_226 ⟨Nat.le_of_ble_eq_true rfl, Nat.le_of_ble_eq_true rfl⟩ ⟨Nat.zero_le _, Nat.zero_le _⟩ rfl rfl rfl rfl [3, 2] rfl rfl ⟨gX0_fst, rfl, trivial⟩ rfl rfl hl.1 (Nat.le_of_ble_eq_true rfl) dX11_changes_44 (fun H locs V => ?_)
        refine lv_iload_n X.1 X.2.1 dX11_changes_47 rfl (lv_at hl 3 rfl) ?_
        refine lv_if_le (tgt := 61) X.1 X.2.1 dX11_changes_48 (by decide) (fun hc => ?_) (fun hc => ?_)
        · replace h := kif_t hc h
          exact J61 s13.2.2.1 x26.2 x28 s13.1 s13.2.1 _ _ _ h V (lv_sub hl [0, 1, 2, 3] rfl)
        · replace h := kif_f hc h
          refine lv_aload_n X.1 X.2.1 dX11_changes_51 rfl (lv_at hl 0 rfl) ?_
          obtain ⟨x29, hx29, h⟩ := kb_of h
          refine s_callVi (segs' := [gX11 g aT bT s13.2.2.1, gX4 g (bT 0) zT_0, gX8 g (bT 2) x26.2, gX0 g (bT 4) x28]) (ci := 11) (i0 := 0) X V (c_X11_tightIsAsAhead l D g aT bT s13.2.2.1 x28 x29 hx29) w_X11_359 ⟨Nat.le_of_ble_eq_true rfl, Nat.le_of_ble_eq_true rfl⟩ ⟨Nat.zero_le _, Nat.zero_le _⟩ rfl rfl rfl rfl [0, 3] rfl rfl (kFst_refl _) rfl rfl hl.1 (Nat.le_of_ble_eq_true rfl) dX11_changes_52 (fun H locs V => ?_)
          refine lv_if_ne (tgt := 61) X.1 X.2.1 dX11_changes_55 (by decide) (fun hc => ?_) (fun hc => ?_)
          · replace h := kif_f hc h
            exact J61 s13.2.2.1 x26.2 x28 s13.1 s13.2.1 _ _ _ h V (lv_sub hl [0, 1, 2, 3] rfl)
          · replace h := kif_t hc h
            obtain ⟨y30, ey30⟩ : ∃ y : Int32, y = (s13.1 + (1 : Int32)) := ⟨_, rfl⟩
            replace h := kl_of ey30 h
            refine lv_iinc (v := y30) (lv' := [(2, .int y30), (0, .ref (aT 0)), (1, .int v1), (3, .int s13.2.1)]) X.1 X.2.1 dX11_changes_58 hl (k := 2) rfl (by rw [ey30]; rfl) (by decide) rfl (fun ls hl => ?_)
            exact J61 s13.2.2.1 x26.2 x28 y30 s13.2.1 _ _ _ h V (lv_sub hl [1, 2, 0, 3] rfl)
      · replace h := kif_t hc h
        obtain rfl := Option.some.inj h
        exact hG16 _ _ _ V (lv_sub hl [0, 1, 2, 3] rfl)
  · intro H locs ls V hl
    have V : kW D AA s.heap H (List.flatten [gX11 g aT bT x12.2.2.2.1, gX4 g (bT 0) zT_0, gX8 g (bT 2) x12.2.2.2.2.1, gX0 g (bT 4) x12.2.2.2.2.2]) locs := V
    have hl : lv_has ls 5 [(0, .ref (aT 0)), (1, .int v1), (2, .int x12.2.1), (3, .int x12.2.2.1)] := hl
    by_cases hc : x12.1 = 23
    · replace h := kif_t hc h
      refine W.eq (g2 := F0 m 23 ls []) (by rw [hc]) ?_
      refine lv_iconst (v := (-1 : Int32)) X.1 X.2.1 dX11_changes_23 (by decide) ?_
      obtain rfl := Option.some.inj h
      rw [hAA] at V
      rw [hQQ]
      exact k_iret X V rfl dX11_changes_24
    · replace h := kif_f hc h
      obtain ⟨hc, h⟩ := kg_of h
      refine W.eq (g2 := F0 m 102 ls []) (by rw [hc]) ?_
      refine lv_iload_n X.1 X.2.1 dX11_changes_102 rfl (lv_at hl 2 rfl) ?_
      obtain rfl := Option.some.inj h
      rw [hAA] at V
      rw [hQQ]
      exact k_iret X V rfl dX11_changes_103

def p_X11_write_L30 (zT : tX11) (zT_0 : tX4) (v1 : Int32) (zT_2 : tX8) (zT_6 : tX5) (s : Int32 × tX10) : Option (Nat × (Int32 × tX10)) :=
  kb (p_X5_count zT_6) (fun x4 => kif (x4 ≤ s.1) (some (95, (s.1, s.2))) (kb (p_X5_x zT_6 s.1) (fun x5 => kb (p_X10_addNumber s.2 x5) (fun x6 => kb (p_X10_addByte x6 (44 : Int32)) (fun x7 => kb (p_X5_y zT_6 s.1) (fun x8 => kb (p_X10_addNumber x7 x8) (fun x9 => kb (p_X10_addByte x9 (59 : Int32)) (fun x10 => kl (s.1 + (1 : Int32)) (fun y11 => some (30, (y11, x10)))))))))))
def p_X11_write (zT : tX11) (zT_0 : tX4) (zT_2 : tX8) (zT_6 : tX5) (zT_12 : tX10) (v1 : Int32) : Option (Int32 × tX8 × tX5 × tX10) :=
  kb (p_X11_gather zT zT_0 zT_2 v1) (fun x1 => kif ((kz x1.1) = 0) (some ((-1 : Int32), x1.2, zT_6, zT_12)) (kb (p_X5_about zT_6 x1.2) (fun x2 => kb (p_X10_clear zT_12) (fun x3 => kb (kitr 30 (fun q => p_X11_write_L30 zT zT_0 v1 x1.2 x2 q) kF ((0 : Int32), x3)) (fun x12 => kg (x12.1 = 95) (kb (p_X10_length x12.2.2) (fun x13 => some (x13, x1.2, x2, x12.2.2))))))))
set_option maxHeartbeats 4000000 in
set_option maxRecDepth 100000 in
theorem c_X11_write (l : Launch) (D : va_G) (g : kG) (aT : Nat → Nat) (bT : Nat → Nat → Nat) (zT : tX11) (zT_0 : tX4) (zT_2 : tX8) (zT_6 : tX5) (zT_12 : tX10) (v1 : Int32) (r : Int32 × tX8 × tX5 × tX10) (h : p_X11_write zT zT_0 zT_2 zT_6 zT_12 v1 = some r) : kMi l yX11_write cX11_write 3 (some .int) (kR 5 116) D (kty g) [.ref (aT 0), .int v1] (List.flatten [gX11 g aT bT zT, gX4 g (bT 0) zT_0, gX8 g (bT 2) zT_2, gX5 g (bT 6) zT_6, gX10 g (bT 12) zT_12]) r.1 (List.flatten [gX11 g aT bT zT, gX4 g (bT 0) zT_0, gX8 g (bT 2) r.2.1, gX5 g (bT 6) r.2.2.1, gX10 g (bT 12) r.2.2.2]) := by
  intro sz
  refine k_enter (lv := [(0, .ref (aT 0)), (1, .int v1)]) RX11 (by decide +kernel) rfl rfl (Nat.le_of_ble_eq_true rfl) ?_
  intro p en s m args below meth c ls hsz X V hl
  obtain ⟨QQ, hQQ⟩ : ∃ q, q = MQ below (va_Qi (fun r' (_ : Unit) => r' = r.1) (fun _ => kE D (List.flatten [gX11 g aT bT zT, gX4 g (bT 0) zT_0, gX8 g (bT 2) r.2.1, gX5 g (bT 6) r.2.2.1, gX10 g (bT 12) r.2.2.2])) (va_A (List.flatten [gX11 g aT bT zT, gX4 g (bT 0) zT_0, gX8 g (bT 2) zT_2, gX5 g (bT 6) zT_6, gX10 g (bT 12) zT_12]) sz)) args s 0 0 (va_A (List.flatten [gX11 g aT bT zT, gX4 g (bT 0) zT_0, gX8 g (bT 2) zT_2, gX5 g (bT 6) zT_6, gX10 g (bT 12) zT_12]) sz) := ⟨_, rfl⟩
  rw [← hQQ]
  obtain ⟨AA, hAA⟩ : ∃ q, q = va_A (List.flatten [gX11 g aT bT zT, gX4 g (bT 0) zT_0, gX8 g (bT 2) zT_2, gX5 g (bT 6) zT_6, gX10 g (bT 12) zT_12]) sz := ⟨_, rfl⟩
  rw [← hAA] at V
  unfold p_X11_write at h
  refine lv_aload_n X.1 X.2.1 dX11_write_0 rfl (lv_at hl 0 rfl) ?_
  refine lv_iload_n X.1 X.2.1 dX11_write_1 rfl (lv_at hl 1 rfl) ?_
  obtain ⟨x14, hx14, h⟩ := kb_of h
  refine s_callVi (segs' := [gX11 g aT bT zT, gX4 g (bT 0) zT_0, gX8 g (bT 2) x14.2, gX5 g (bT 6) zT_6, gX10 g (bT 12) zT_12]) (ci := 11) (i0 := 0) X V (c_X11_gather l D g aT bT zT zT_0 zT_2 v1 x14 hx14) w_X11_196 ⟨Nat.le_of_ble_eq_true rfl, Nat.le_of_ble_eq_true rfl⟩ ⟨Nat.zero_le _, Nat.zero_le _⟩ rfl rfl rfl rfl [0, 1, 2] rfl rfl ⟨rfl, rfl, gX8_fst, trivial⟩ rfl rfl hl.1 (Nat.le_of_ble_eq_true rfl) dX11_write_2 (fun H locs V => ?_)
  refine lv_if_ne (tgt := 10) X.1 X.2.1 dX11_write_5 (by decide) (fun hc => ?_) (fun hc => ?_)
  · replace h := kif_f hc h
    refine lv_aload_n X.1 X.2.1 dX11_write_10 rfl (lv_at hl 0 rfl) ?_
    refine gf_X11_46 (i := 0) X V rfl dX11_write_11 ?_
    refine lv_aload_n X.1 X.2.1 dX11_write_14 rfl (lv_at hl 0 rfl) ?_
    refine gf_X11_26 (i := 0) X V rfl dX11_write_15 ?_
    obtain ⟨x15, hx15, h⟩ := kb_of h
    refine s_callVv (segs' := [gX11 g aT bT zT, gX4 g (bT 0) zT_0, gX8 g (bT 2) x14.2, gX5 g (bT 6) x15, gX10 g (bT 12) zT_12]) (ci := 5) (i0 := 0) X V (c_X5_about l D g (bT 6) (bT 2) zT_6 x14.2 x15 hx15) w_X11_260 ⟨Nat.le_of_ble_eq_true rfl, Nat.le_of_ble_eq_true rfl⟩ ⟨Nat.zero_le _, Nat.zero_le _⟩ rfl rfl rfl rfl [3, 2] rfl rfl ⟨gX5_fst, rfl, trivial⟩ rfl rfl hl.1 (Nat.le_of_ble_eq_true rfl) dX11_write_18 (fun H locs V => ?_)
    refine lv_aload_n X.1 X.2.1 dX11_write_21 rfl (lv_at hl 0 rfl) ?_
    refine gf_X11_84 (i := 0) X V rfl dX11_write_22 ?_
    obtain ⟨x16, hx16, h⟩ := kb_of h
    refine s_callVv (segs' := [gX11 g aT bT zT, gX4 g (bT 0) zT_0, gX8 g (bT 2) x14.2, gX5 g (bT 6) x15, gX10 g (bT 12) x16]) (ci := 10) (i0 := 0) X V (c_X10_clear l D g (bT 12) zT_12 x16 hx16) w_X11_363 ⟨Nat.le_of_ble_eq_true rfl, Nat.le_of_ble_eq_true rfl⟩ ⟨Nat.zero_le _, Nat.zero_le _⟩ rfl rfl rfl rfl [4] rfl rfl ⟨gX10_fst, trivial⟩ rfl rfl hl.1 (Nat.le_of_ble_eq_true rfl) dX11_write_25 (fun H locs V => ?_)
    refine lv_iconst (v := (0 : Int32)) X.1 X.2.1 dX11_write_28 (by decide) ?_
    refine lv_istore_n (lv' := [(2, .int (0 : Int32)), (0, .ref (aT 0)), (1, .int v1)]) X.1 X.2.1 dX11_write_29 rfl hl (by decide) rfl (fun ls hl => ?_)
    obtain ⟨x17, hx17, h⟩ := kb_of h
    refine (kitr_go (hd := 30) (body := fun q => p_X11_write_L30 zT zT_0 v1 x14.2 x15 q) (G := (fun e => ∀ (H : Heap) (locs : List Loc) (ls : Array Slot), kW D AA s.heap H (List.flatten [gX11 g aT bT zT, gX4 g (bT 0) zT_0, gX8 g (bT 2) x14.2, gX5 g (bT 6) x15, gX10 g (bT 12) e.2.2]) locs → lv_has ls 3 [(0, .ref (aT 0)), (2, .int e.2.1)] → W p l en (kR 5 116) s m args below meth c H locs 0 0 QQ (F0 m e.1 ls []))) (fun s18 e19 hb20 hG21 => ?_) kF _ x17 hx17 ?_) _ _ _ V (lv_sub hl [1, 0] rfl)
    · intro H locs ls V hl
      show W p l en (kR 5 116) s m args below meth c H locs 0 0 QQ (F0 m 30 ls [])
      have h : p_X11_write_L30 zT zT_0 v1 x14.2 x15 s18 = some e19 := hb20
      unfold p_X11_write_L30 at h
      have V : kW D AA s.heap H (List.flatten [gX11 g aT bT zT, gX4 g (bT 0) zT_0, gX8 g (bT 2) x14.2, gX5 g (bT 6) x15, gX10 g (bT 12) s18.2]) locs := V
      have hl : lv_has ls 3 [(0, .ref (aT 0)), (2, .int s18.1)] := hl
      refine lv_iload_n X.1 X.2.1 dX11_write_30 rfl (lv_at hl 1 rfl) ?_
      refine lv_aload_n X.1 X.2.1 dX11_write_31 rfl (lv_at hl 0 rfl) ?_
      refine gf_X11_46 (i := 0) X V rfl dX11_write_32 ?_
      obtain ⟨x22, hx22, h⟩ := kb_of h
      refine s_callVi (segs' := [gX11 g aT bT zT, gX4 g (bT 0) zT_0, gX8 g (bT 2) x14.2, gX5 g (bT 6) x15, gX10 g (bT 12) s18.2]) (ci := 5) (i0 := 0) X V (c_X5_count l D g (bT 6) x15 x22 hx22) w_X11_261 ⟨Nat.le_of_ble_eq_true rfl, Nat.le_of_ble_eq_true rfl⟩ ⟨Nat.zero_le _, Nat.zero_le _⟩ rfl rfl rfl rfl [3] rfl rfl (kFst_refl _) rfl rfl hl.1 (Nat.le_of_ble_eq_true rfl) dX11_write_35 (fun H locs V => ?_)
      refine lv_icmp_ge (tgt := 95) X.1 X.2.1 dX11_write_38 (by decide) (fun hc => ?_) (fun hc => ?_)
      · replace h := kif_t hc h
        obtain rfl := Option.some.inj h
        exact hG21 _ _ _ V (lv_sub hl [0, 1] rfl)
      · replace h := kif_f hc h
        refine lv_aload_n X.1 X.2.1 dX11_write_41 rfl (lv_at hl 0 rfl) ?_
        refine gf_X11_84 (i := 0) X V rfl dX11_write_42 ?_
        refine lv_aload_n X.1 X.2.1 dX11_write_45 rfl (lv_at hl 0 rfl) ?_
        refine gf_X11_46 (i := 0) X V rfl dX11_write_46 ?_
        refine lv_iload_n X.1 X.2.1 dX11_write_49 rfl (lv_at hl 1 rfl) ?_
        obtain ⟨x23, hx23, h⟩ := kb_of h
        refine s_callVi (segs' := [gX11 g aT bT zT, gX4 g (bT 0) zT_0, gX8 g (bT 2) x14.2, gX5 g (bT 6) x15, gX10 g (bT 12) s18.2]) (ci := 5) (i0 := 0) X V (c_X5_x l D g (bT 6) x15 s18.1 x23 hx23) w_X11_366 ⟨Nat.le_of_ble_eq_true rfl, Nat.le_of_ble_eq_true rfl⟩ ⟨Nat.zero_le _, Nat.zero_le _⟩ rfl rfl rfl rfl [3] rfl rfl (kFst_refl _) rfl rfl hl.1 (Nat.le_of_ble_eq_true rfl) dX11_write_50 (fun H locs V => ?_)
        obtain ⟨x24, hx24, h⟩ := kb_of h
        refine s_callVv (segs' := [gX11 g aT bT zT, gX4 g (bT 0) zT_0, gX8 g (bT 2) x14.2, gX5 g (bT 6) x15, gX10 g (bT 12) x24]) (ci := 10) (i0 := 0) X V (c_X10_addNumber l D g (bT 12) s18.2 x23 x24 hx24) w_X11_367 ⟨Nat.le_of_ble_eq_true rfl, Nat.le_of_ble_eq_true rfl⟩ ⟨Nat.zero_le _, Nat.zero_le _⟩ rfl rfl rfl rfl [4] rfl rfl ⟨gX10_fst, trivial⟩ rfl rfl hl.1 (Nat.le_of_ble_eq_true rfl) dX11_write_53 (fun H locs V => ?_)
        refine lv_aload_n X.1 X.2.1 dX11_write_56 rfl (lv_at hl 0 rfl) ?_
        refine gf_X11_84 (i := 0) X V rfl dX11_write_57 ?_
        refine lv_bipush (v := (44 : Int32)) X.1 X.2.1 dX11_write_60 (by decide) ?_
        obtain ⟨x25, hx25, h⟩ := kb_of h
        refine s_callVv (segs' := [gX11 g aT bT zT, gX4 g (bT 0) zT_0, gX8 g (bT 2) x14.2, gX5 g (bT 6) x15, gX10 g (bT 12) x25]) (ci := 10) (i0 := 0) X V (c_X10_addByte l D g (bT 12) x24 (44 : Int32) x25 hx25) w_X11_370 ⟨Nat.le_of_ble_eq_true rfl, Nat.le_of_ble_eq_true rfl⟩ ⟨Nat.zero_le _, Nat.zero_le _⟩ rfl rfl rfl rfl [4] rfl rfl ⟨gX10_fst, trivial⟩ rfl rfl hl.1 (Nat.le_of_ble_eq_true rfl) dX11_write_62 (fun H locs V => ?_)
        refine lv_aload_n X.1 X.2.1 dX11_write_65 rfl (lv_at hl 0 rfl) ?_
        refine gf_X11_84 (i := 0) X V rfl dX11_write_66 ?_
        refine lv_aload_n X.1 X.2.1 dX11_write_69 rfl (lv_at hl 0 rfl) ?_
        refine gf_X11_46 (i := 0) X V rfl dX11_write_70 ?_
        refine lv_iload_n X.1 X.2.1 dX11_write_73 rfl (lv_at hl 1 rfl) ?_
        obtain ⟨x26, hx26, h⟩ := kb_of h
        refine s_callVi (segs' := [gX11 g aT bT zT, gX4 g (bT 0) zT_0, gX8 g (bT 2) x14.2, gX5 g (bT 6) x15, gX10 g (bT 12) x25]) (ci := 5) (i0 := 0) X V (c_X5_y l D g (bT 6) x15 s18.1 x26 hx26) w_X11_373 ⟨Nat.le_of_ble_eq_true rfl, Nat.le_of_ble_eq_true rfl⟩ ⟨Nat.zero_le _, Nat.zero_le _⟩ rfl rfl rfl rfl [3] rfl rfl (kFst_refl _) rfl rfl hl.1 (Nat.le_of_ble_eq_true rfl) dX11_write_74 (fun H locs V => ?_)
        obtain ⟨x27, hx27, h⟩ := kb_of h
        refine s_callVv (segs' := [gX11 g aT bT zT, gX4 g (bT 0) zT_0, gX8 g (bT 2) x14.2, gX5 g (bT 6) x15, gX10 g (bT 12) x27]) (ci := 10) (i0 := 0) X V (c_X10_addNumber l D g (bT 12) x25 x26 x27 hx27) w_X11_367 ⟨Nat.le_of_ble_eq_true rfl, Nat.le_of_ble_eq_true rfl⟩ ⟨Nat.zero_le _, Nat.zero_le _⟩ rfl rfl rfl rfl [4] rfl rfl ⟨gX10_fst, trivial⟩ rfl rfl hl.1 (Nat.le_of_ble_eq_true rfl) dX11_write_77 (fun H locs V => ?_)
        refine lv_aload_n X.1 X.2.1 dX11_write_80 rfl (lv_at hl 0 rfl) ?_
        refine gf_X11_84 (i := 0) X V rfl dX11_write_81 ?_
        refine lv_bipush (v := (59 : Int32)) X.1 X.2.1 dX11_write_84 (by decide) ?_
        obtain ⟨x28, hx28, h⟩ := kb_of h
        refine s_callVv (segs' := [gX11 g aT bT zT, gX4 g (bT 0) zT_0, gX8 g (bT 2) x14.2, gX5 g (bT 6) x15, gX10 g (bT 12) x28]) (ci := 10) (i0 := 0) X V (c_X10_addByte l D g (bT 12) x27 (59 : Int32) x28 hx28) w_X11_370 ⟨Nat.le_of_ble_eq_true rfl, Nat.le_of_ble_eq_true rfl⟩ ⟨Nat.zero_le _, Nat.zero_le _⟩ rfl rfl rfl rfl [4] rfl rfl ⟨gX10_fst, trivial⟩ rfl rfl hl.1 (Nat.le_of_ble_eq_true rfl) dX11_write_86 (fun H locs V => ?_)
        obtain ⟨y29, ey29⟩ : ∃ y : Int32, y = (s18.1 + (1 : Int32)) := ⟨_, rfl⟩
        replace h := kl_of ey29 h
        refine lv_iinc (v := y29) (lv' := [(2, .int y29), (0, .ref (aT 0))]) X.1 X.2.1 dX11_write_89 hl (k := 1) rfl (by rw [ey29]; rfl) (by decide) rfl (fun ls hl => ?_)
        refine lv_goto (tgt := 30) X.1 X.2.1 dX11_write_92 (by decide) ?_
        obtain rfl := Option.some.inj h
        exact hG21 _ _ _ V (lv_sub hl [1, 0] rfl)
    · intro H locs ls V hl
      have V : kW D AA s.heap H (List.flatten [gX11 g aT bT zT, gX4 g (bT 0) zT_0, gX8 g (bT 2) x14.2, gX5 g (bT 6) x15, gX10 g (bT 12) x17.2.2]) locs := V
      have hl : lv_has ls 3 [(0, .ref (aT 0)), (2, .int x17.2.1)] := hl
      obtain ⟨hc, h⟩ := kg_of h
      refine W.eq (g2 := F0 m 95 ls []) (by rw [hc]) ?_
      refine lv_aload_n X.1 X.2.1 dX11_write_95 rfl (lv_at hl 0 rfl) ?_
      refine gf_X11_84 (i := 0) X V rfl dX11_write_96 ?_
      obtain ⟨x30, hx30, h⟩ := kb_of h
      refine s_callVi (segs' := [gX11 g aT bT zT, gX4 g (bT 0) zT_0, gX8 g (bT 2) x14.2, gX5 g (bT 6) x15, gX10 g (bT 12) x17.2.2]) (ci := 10) (i0 := 0) X V (c_X10_length l D g (bT 12) x17.2.2 x30 hx30) w_X11_374 ⟨Nat.le_of_ble_eq_true rfl, Nat.le_of_ble_eq_true rfl⟩ ⟨Nat.zero_le _, Nat.zero_le _⟩ rfl rfl rfl rfl [4] rfl rfl (kFst_refl _) rfl rfl hl.1 (Nat.le_of_ble_eq_true rfl) dX11_write_99 (fun H locs V => ?_)
      obtain rfl := Option.some.inj h
      rw [hAA] at V
      rw [hQQ]
      exact k_iret X V rfl dX11_write_102
  · replace h := kif_t hc h
    refine lv_iconst (v := (-1 : Int32)) X.1 X.2.1 dX11_write_8 (by decide) ?_
    obtain rfl := Option.some.inj h
    rw [hAA] at V
    rw [hQQ]
    exact k_iret X V rfl dX11_write_9

def p_X11_octet (zT : tX11) (zT_12 : tX10) (v1 : Int32) : Option (Int32) :=
  kb (p_X10_at zT_12 v1) (fun x1 => some x1)
set_option maxHeartbeats 4000000 in
set_option maxRecDepth 100000 in
theorem c_X11_octet (l : Launch) (D : va_G) (g : kG) (aT : Nat → Nat) (bT : Nat → Nat → Nat) (zT : tX11) (zT_12 : tX10) (v1 : Int32) (r : Int32) (h : p_X11_octet zT zT_12 v1 = some r) : kMi l yX11_octet cX11_octet 2 (some .int) (kR 1 21) D (kty g) [.ref (aT 0), .int v1] (List.flatten [gX11 g aT bT zT, gX10 g (bT 12) zT_12]) r (List.flatten [gX11 g aT bT zT, gX10 g (bT 12) zT_12]) := by
  intro sz
  refine k_enter (lv := [(0, .ref (aT 0)), (1, .int v1)]) RX11 (by decide +kernel) rfl rfl (Nat.le_of_ble_eq_true rfl) ?_
  intro p en s m args below meth c ls hsz X V hl
  obtain ⟨QQ, hQQ⟩ : ∃ q, q = MQ below (va_Qi (fun r' (_ : Unit) => r' = r) (fun _ => kE D (List.flatten [gX11 g aT bT zT, gX10 g (bT 12) zT_12])) (va_A (List.flatten [gX11 g aT bT zT, gX10 g (bT 12) zT_12]) sz)) args s 0 0 (va_A (List.flatten [gX11 g aT bT zT, gX10 g (bT 12) zT_12]) sz) := ⟨_, rfl⟩
  rw [← hQQ]
  obtain ⟨AA, hAA⟩ : ∃ q, q = va_A (List.flatten [gX11 g aT bT zT, gX10 g (bT 12) zT_12]) sz := ⟨_, rfl⟩
  rw [← hAA] at V
  unfold p_X11_octet at h
  refine lv_aload_n X.1 X.2.1 dX11_octet_0 rfl (lv_at hl 0 rfl) ?_
  refine gf_X11_84 (i := 0) X V rfl dX11_octet_1 ?_
  refine lv_iload_n X.1 X.2.1 dX11_octet_4 rfl (lv_at hl 1 rfl) ?_
  obtain ⟨x2, hx2, h⟩ := kb_of h
  refine s_callVi (segs' := [gX11 g aT bT zT, gX10 g (bT 12) zT_12]) (ci := 10) (i0 := 0) X V (c_X10_at l D g (bT 12) zT_12 v1 x2 hx2) w_X11_375 ⟨Nat.le_of_ble_eq_true rfl, Nat.le_of_ble_eq_true rfl⟩ ⟨Nat.zero_le _, Nat.zero_le _⟩ rfl rfl rfl rfl [1] rfl rfl (kFst_refl _) rfl rfl hl.1 (Nat.le_of_ble_eq_true rfl) dX11_octet_5 (fun H locs V => ?_)
  obtain rfl := Option.some.inj h
  rw [hAA] at V
  rw [hQQ]
  exact k_iret X V rfl dX11_octet_8
