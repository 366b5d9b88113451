def p_X11_circle_J81 (zT : tX11) (zT_0 : tX4) (v1 : Int32) (v2 : Int32) (zT_2 : tX8) (zT_4 : tX0) (zT_13 : tX3) : Option (Int64 × tX8 × tX0 × tX3) :=
  kb (p_X3_part zT_13 (v2 - v2 / (2 : Int32) * (2 : Int32))) (fun x4 => some (x4, zT_2, zT_4, zT_13))
def p_X11_circle (zT : tX11) (zT_0 : tX4) (zT_2 : tX8) (zT_4 : tX0) (zT_13 : tX3) (v1 : Int32) (v2 : Int32) : Option (Int64 × tX8 × tX0 × tX3) :=
  kif (v2 < 0) (some ((-1000 : Int64), zT_2, zT_4, zT_13)) (kif ((5 : Int32) < v2) (some ((-1000 : Int64), zT_2, zT_4, zT_13)) (kb (p_X11_gather zT zT_0 zT_2 v1) (fun x1 => kif ((kz x1.1) = 0) (some ((-1000 : Int64), x1.2, zT_4, zT_13)) (kb (p_X0_about zT_4 x1.2) (fun x2 => kif ((2 : Int32) ≤ v2) (kif ((4 : Int32) ≤ v2) (kb (p_X0_middleY x2 zT_13) (fun x3 => p_X11_circle_J81 zT zT_0 v1 v2 x1.2 x2 x3)) (kb (p_X0_middleX x2 zT_13) (fun x5 => p_X11_circle_J81 zT zT_0 v1 v2 x1.2 x2 x5))) (kb (p_X0_size x2 zT_13) (fun x6 => p_X11_circle_J81 zT zT_0 v1 v2 x1.2 x2 x6)))))))
set_option maxHeartbeats 4000000 in
set_option maxRecDepth 100000 in
theorem c_X11_circle (l : Launch) (D : va_G) (g : kG) (aT : Nat → Nat) (bT : Nat → Nat → Nat) (zT : tX11) (zT_0 : tX4) (zT_2 : tX8) (zT_4 : tX0) (zT_13 : tX3) (v1 : Int32) (v2 : Int32) (r : Int64 × tX8 × tX0 × tX3) (h : p_X11_circle zT zT_0 zT_2 zT_4 zT_13 v1 v2 = some r) : kMl l yX11_circle cX11_circle 3 (some .long) (kR 6 152) D (kty g) [.ref (aT 0), .int v1, .int v2] (List.flatten [gX11 g aT bT zT, gX4 g (bT 0) zT_0, gX8 g (bT 2) zT_2, gX0 g (bT 4) zT_4, gX3 g (bT 13) zT_13]) r.1 (List.flatten [gX11 g aT bT zT, gX4 g (bT 0) zT_0, gX8 g (bT 2) r.2.1, gX0 g (bT 4) r.2.2.1, gX3 g (bT 13) r.2.2.2]) := by
  intro sz
  refine k_enter (lv := [(0, .ref (aT 0)), (1, .int v1), (2, .int v2)]) RX11 (by decide +kernel) rfl rfl (Nat.le_of_ble_eq_true rfl) ?_
  intro p en s m args below meth c ls hsz X V hl
  obtain ⟨QQ, hQQ⟩ : ∃ q, q = MQ below (va_Ql (fun r' (_ : Unit) => r' = r.1) (fun _ => kE D (List.flatten [gX11 g aT bT zT, gX4 g (bT 0) zT_0, gX8 g (bT 2) r.2.1, gX0 g (bT 4) r.2.2.1, gX3 g (bT 13) r.2.2.2])) (va_A (List.flatten [gX11 g aT bT zT, gX4 g (bT 0) zT_0, gX8 g (bT 2) zT_2, gX0 g (bT 4) zT_4, gX3 g (bT 13) zT_13]) sz)) args s 0 0 (va_A (List.flatten [gX11 g aT bT zT, gX4 g (bT 0) zT_0, gX8 g (bT 2) zT_2, gX0 g (bT 4) zT_4, gX3 g (bT 13) zT_13]) sz) := ⟨_, rfl⟩
  rw [← hQQ]
  obtain ⟨AA, hAA⟩ : ∃ q, q = va_A (List.flatten [gX11 g aT bT zT, gX4 g (bT 0) zT_0, gX8 g (bT 2) zT_2, gX0 g (bT 4) zT_4, gX3 g (bT 13) zT_13]) sz := ⟨_, rfl⟩
  rw [← hAA] at V
  have J81 : ∀ (zT_2 : tX8) (zT_4 : tX0) (zT_13 : tX3) (H : Heap) (locs : List Loc) (ls : Array Slot), p_X11_circle_J81 zT zT_0 v1 v2 zT_2 zT_4 zT_13 = some r → kW D AA s.heap H (List.flatten [gX11 g aT bT zT, gX4 g (bT 0) zT_0, gX8 g (bT 2) zT_2, gX0 g (bT 4) zT_4, gX3 g (bT 13) zT_13]) locs → lv_has ls 3 [(0, .ref (aT 0)), (2, .int v2)] → W p l en (kR 6 152) s m args below meth c H locs 0 0 QQ (F0 m 81 ls []) := by
    intro zT_2 zT_4 zT_13 H locs ls h V hl
    unfold p_X11_circle_J81 at h
    refine lv_aload_n X.1 X.2.1 dX11_circle_81 rfl (lv_at hl 0 rfl) ?_
    refine gf_X11_91 (i := 0) X V rfl dX11_circle_82 ?_
    refine lv_iload_n X.1 X.2.1 dX11_circle_85 rfl (lv_at hl 1 rfl) ?_
    refine lv_iconst (v := (2 : Int32)) X.1 X.2.1 dX11_circle_86 (by decide) ?_
    refine lv_irem X.1 X.2.1 dX11_circle_87 (by decide) ?_
    obtain ⟨x7, hx7, h⟩ := kb_of h
    refine s_callVl (segs' := [gX11 g aT bT zT, gX4 g (bT 0) zT_0, gX8 g (bT 2) zT_2, gX0 g (bT 4) zT_4, gX3 g (bT 13) zT_13]) (ci := 3) (i0 := 0) X V (c_X3_part l D g (bT 13) zT_13 (v2 - v2 / (2 : Int32) * (2 : Int32)) x7 hx7) w_X11_223 ⟨Nat.le_of_ble_eq_true rfl, Nat.le_of_ble_eq_true rfl⟩ ⟨Nat.zero_le _, Nat.zero_le _⟩ rfl rfl rfl rfl [4] rfl rfl (kFst_refl _) rfl rfl hl.1 (Nat.le_of_ble_eq_true rfl) dX11_circle_88 (fun H locs V => ?_)
    obtain rfl := Option.some.inj h
    rw [hAA] at V
    rw [hQQ]
    exact k_lret X V rfl dX11_circle_91
  unfold p_X11_circle at h
  refine lv_iload_n X.1 X.2.1 dX11_circle_0 rfl (lv_at hl 2 rfl) ?_
  refine lv_if_lt (tgt := 17) X.1 X.2.1 dX11_circle_1 (by decide) (fun hc => ?_) (fun hc => ?_)
  · replace h := kif_t hc h
    refine lv_ldc2 (v := (-1000 : Int64)) X.1 X.2.1 X.2.2.2.1 (X.2.2.2.2.1 _ kc_X11_207) dX11_circle_17 ?_
    obtain rfl := Option.some.inj h
    rw [hAA] at V
    rw [hQQ]
    exact k_lret X V rfl dX11_circle_20
  · replace h := kif_f hc h
    refine lv_iload_n X.1 X.2.1 dX11_circle_4 rfl (lv_at hl 2 rfl) ?_
    refine lv_iconst (v := (5 : Int32)) X.1 X.2.1 dX11_circle_5 (by decide) ?_
    refine lv_icmp_gt (tgt := 17) X.1 X.2.1 dX11_circle_6 (by decide) (fun hc => ?_) (fun hc => ?_)
    · replace h := kif_t hc h
      refine lv_ldc2 (v := (-1000 : Int64)) X.1 X.2.1 X.2.2.2.1 (X.2.2.2.2.1 _ kc_X11_207) dX11_circle_17 ?_
      obtain rfl := Option.some.inj h
      rw [hAA] at V
      rw [hQQ]
      exact k_lret X V rfl dX11_circle_20
    · replace h := kif_f hc h
      refine lv_aload_n X.1 X.2.1 dX11_circle_9 rfl (lv_at hl 0 rfl) ?_
      refine lv_iload_n X.1 X.2.1 dX11_circle_10 rfl (lv_at hl 1 rfl) ?_
      obtain ⟨x8, hx8, h⟩ := kb_of h
      refine s_callVi (segs' := [gX11 g aT bT zT, gX4 g (bT 0) zT_0, gX8 g (bT 2) x8.2, gX0 g (bT 4) zT_4, gX3 g (bT 13) zT_13]) (ci := 11) (i0 := 0) X V (c_X11_gather l D g aT bT zT zT_0 zT_2 v1 x8 hx8) w_X11_196 ⟨Nat.le_of_ble_eq_true rfl, Nat.le_of_ble_eq_true rfl⟩ ⟨Nat.zero_le _, Nat.zero_le _⟩ rfl rfl rfl rfl [0, 1, 2] rfl rfl ⟨rfl, rfl, gX8_fst, trivial⟩ rfl rfl hl.1 (Nat.le_of_ble_eq_true rfl) dX11_circle_11 (fun H locs V => ?_)
      refine lv_if_ne (tgt := 21) X.1 X.2.1 dX11_circle_14 (by decide) (fun hc => ?_) (fun hc => ?_)
      · replace h := kif_f hc h
        refine lv_aload_n X.1 X.2.1 dX11_circle_21 rfl (lv_at hl 0 rfl) ?_
        refine gf_X11_36 (i := 0) X V rfl dX11_circle_22 ?_
        refine lv_aload_n X.1 X.2.1 dX11_circle_25 rfl (lv_at hl 0 rfl) ?_
        refine gf_X11_26 (i := 0) X V rfl dX11_circle_26 ?_
        obtain ⟨x9, hx9, h⟩ := kb_of h
        refine s_callVv (segs' := [gX11 g aT bT zT, gX4 g (bT 0) zT_0, gX8 g (bT 2) x8.2, gX0 g (bT 4) x9, gX3 g (bT 13) zT_13]) (ci := 0) (i0 := 0) X V (c_X0_about l D g (bT 4) (bT 2) zT_4 x8.2 x9 hx9) w_X11_209 ⟨Nat.le_of_ble_eq_true rfl, Nat.le_of_ble_eq_true rfl⟩ ⟨Nat.zero_le _, Nat.zero_le _⟩ rfl rfl rfl rfl [3, 2] rfl rfl ⟨gX0_fst, rfl, trivial⟩ rfl rfl hl.1 (Nat.le_of_ble_eq_true rfl) dX11_circle_29 (fun H locs V => ?_)
        refine lv_iload_n X.1 X.2.1 dX11_circle_32 rfl (lv_at hl 2 rfl) ?_
        refine lv_iconst (v := (2 : Int32)) X.1 X.2.1 dX11_circle_33 (by decide) ?_
        refine lv_icmp_ge (tgt := 51) X.1 X.2.1 dX11_circle_34 (by decide) (fun hc => ?_) (fun hc => ?_)
        · replace h := kif_t hc h
          refine lv_iload_n X.1 X.2.1 dX11_circle_51 rfl (lv_at hl 2 rfl) ?_
          refine lv_iconst (v := (4 : Int32)) X.1 X.2.1 dX11_circle_52 (by decide) ?_
          refine lv_icmp_ge (tgt := 70) X.1 X.2.1 dX11_circle_53 (by decide) (fun hc => ?_) (fun hc => ?_)
          · replace h := kif_t hc h
            refine lv_aload_n X.1 X.2.1 dX11_circle_70 rfl (lv_at hl 0 rfl) ?_
            refine gf_X11_36 (i := 0) X V rfl dX11_circle_71 ?_
            refine lv_aload_n X.1 X.2.1 dX11_circle_74 rfl (lv_at hl 0 rfl) ?_
            refine gf_X11_91 (i := 0) X V rfl dX11_circle_75 ?_
            obtain ⟨x10, hx10, h⟩ := kb_of h
            refine s_callVv (segs' := [gX11 g aT bT zT, gX4 g (bT 0) zT_0, gX8 g (bT 2) x8.2, gX0 g (bT 4) x9, gX3 g (bT 13) x10]) (ci := 0) (i0 := 0) X V (c_X0_middleY l D g (bT 4) (bT 13) x9 zT_13 x10 hx10) w_X11_220 ⟨Nat.le_of_ble_eq_true rfl, Nat.le_of_ble_eq_true rfl⟩ ⟨Nat.zero_le _, Nat.zero_le _⟩ rfl rfl rfl rfl [3, 4] rfl rfl ⟨rfl, gX3_fst, trivial⟩ rfl rfl hl.1 (Nat.le_of_ble_eq_true rfl) dX11_circle_78 (fun H locs V => ?_)
            exact J81 x8.2 x9 x10 _ _ _ h V (lv_sub hl [0, 2] rfl)
          · replace h := kif_f hc h
            refine lv_aload_n X.1 X.2.1 dX11_circle_56 rfl (lv_at hl 0 rfl) ?_
            refine gf_X11_36 (i := 0) X V rfl dX11_circle_57 ?_
            refine lv_aload_n X.1 X.2.1 dX11_circle_60 rfl (lv_at hl 0 rfl) ?_
            refine gf_X11_91 (i := 0) X V rfl dX11_circle_61 ?_
            obtain ⟨x11, hx11, h⟩ := kb_of h
            refine s_callVv (segs' := [gX11 g aT bT zT, gX4 g (bT 0) zT_0, gX8 g (bT 2) x8.2, gX0 g (bT 4) x9, gX3 g (bT 13) x11]) (ci := 0) (i0 := 0) X V (c_X0_middleX l D g (bT 4) (bT 13) x9 zT_13 x11 hx11) w_X11_217 ⟨Nat.le_of_ble_eq_true rfl, Nat.le_of_ble_eq_true rfl⟩ ⟨Nat.zero_le _, Nat.zero_le _⟩ rfl rfl rfl rfl [3, 4] rfl rfl ⟨rfl, gX3_fst, trivial⟩ rfl rfl hl.1 (Nat.le_of_ble_eq_true rfl) dX11_circle_64 (fun H locs V => ?_)
            refine lv_goto (tgt := 81) X.1 X.2.1 dX11_circle_67 (by decide) ?_
            exact J81 x8.2 x9 x11 _ _ _ h V (lv_sub hl [0, 2] rfl)
        · replace h := kif_f hc h
          refine lv_aload_n X.1 X.2.1 dX11_circle_37 rfl (lv_at hl 0 rfl) ?_
          refine gf_X11_36 (i := 0) X V rfl dX11_circle_38 ?_
          refine lv_aload_n X.1 X.2.1 dX11_circle_41 rfl (lv_at hl 0 rfl) ?_
          refine gf_X11_91 (i := 0) X V rfl dX11_circle_42 ?_
          obtain ⟨x12, hx12, h⟩ := kb_of h
          refine s_callVv (segs' := [gX11 g aT bT zT, gX4 g (bT 0) zT_0, gX8 g (bT 2) x8.2, gX0 g (bT 4) x9, gX3 g (bT 13) x12]) (ci := 0) (i0 := 0) X V (c_X0_size l D g (bT 4) (bT 13) x9 zT_13 x12 hx12) w_X11_213 ⟨Nat.le_of_ble_eq_true rfl, Nat.le_of_ble_eq_true rfl⟩ ⟨Nat.zero_le _, Nat.zero_le _⟩ rfl rfl rfl rfl [3, 4] rfl rfl ⟨rfl, gX3_fst, trivial⟩ rfl rfl hl.1 (Nat.le_of_ble_eq_true rfl) dX11_circle_45 (fun H locs V => ?_)
          refine lv_goto (tgt := 81) X.1 X.2.1 dX11_circle_48 (by decide) ?_
          exact J81 x8.2 x9 x12 _ _ _ h V (lv_sub hl [0, 2] rfl)
      · replace h := kif_t hc h
        refine lv_ldc2 (v := (-1000 : Int64)) X.1 X.2.1 X.2.2.2.1 (X.2.2.2.2.1 _ kc_X11_207) dX11_circle_17 ?_
        obtain rfl := Option.some.inj h
        rw [hAA] at V
        rw [hQQ]
        exact k_lret X V rfl dX11_circle_20

def p_X11_tight (zT : tX11) (zT_0 : tX4) (zT_2 : tX8) (zT_4 : tX0) (v1 : Int32) (v2 : Int32) : Option (Int32 × tX8 × tX0) :=
  kif (v2 < (-1 : Int32)) (some ((-1 : Int32), zT_2, zT_4)) (kb (p_X11_gather zT zT_0 zT_2 v1) (fun x1 => kif ((kz x1.1) = 0) (some ((-1 : Int32), x1.2, zT_4)) (kb (p_X0_about zT_4 x1.2) (fun x2 => kb (p_X0_seekTight x2 x1.2) (fun x3 => kif (v2 = (-1 : Int32)) (kb (p_X0_tightCount x3) (fun x4 => some (x4, x1.2, x3))) (kb (p_X0_tightNumber x3 v2) (fun x5 => some (x5, x1.2, x3))))))))
set_option maxHeartbeats 4000000 in
set_option maxRecDepth 100000 in
theorem c_X11_tight (l : Launch) (D : va_G) (g : kG) (aT : Nat → Nat) (bT : Nat → Nat → Nat) (zT : tX11) (zT_0 : tX4) (zT_2 : tX8) (zT_4 : tX0) (v1 : Int32) (v2 : Int32) (r : Int32 × tX8 × tX0) (h : p_X11_tight zT zT_0 zT_2 zT_4 v1 v2 = some r) : kMi l yX11_tight cX11_tight 3 (some .int) (kR 6 152) D (kty g) [.ref (aT 0), .int v1, .int v2] (List.flatten [gX11 g aT bT zT, gX4 g (bT 0) zT_0, gX8 g (bT 2) zT_2, gX0 g (bT 4) zT_4]) r.1 (List.flatten [gX11 g aT bT zT, gX4 g (bT 0) zT_0, gX8 g (bT 2) r.2.1, gX0 g (bT 4) r.2.2]) := by
  intro sz
  refine k_enter (lv := [(0, .ref (aT 0)), (1, .int v1), (2, .int v2)]) RX11 (by decide +kernel) rfl rfl (Nat.le_of_ble_eq_true rfl) ?_
  intro p en s m args below meth c ls hsz X V hl
  obtain ⟨QQ, hQQ⟩ : ∃ q, q = MQ below (va_Qi (fun r' (_ : Unit) => r' = r.1) (fun _ => kE D (List.flatten [gX11 g aT bT zT, gX4 g (bT 0) zT_0, gX8 g (bT 2) r.2.1, gX0 g (bT 4) r.2.2])) (va_A (List.flatten [gX11 g aT bT zT, gX4 g (bT 0) zT_0, gX8 g (bT 2) zT_2, gX0 g (bT 4) zT_4]) sz)) args s 0 0 (va_A (List.flatten [gX11 g aT bT zT, gX4 g (bT 0) zT_0, gX8 g (bT 2) zT_2, gX0 g (bT 4) zT_4]) sz) := ⟨_, rfl⟩
  rw [← hQQ]
  obtain ⟨AA, hAA⟩ : ∃ q, q = va_A (List.flatten [gX11 g aT bT zT, gX4 g (bT 0) zT_0, gX8 g (bT 2) zT_2, gX0 g (bT 4) zT_4]) sz := ⟨_, rfl⟩
  rw [← hAA] at V
  unfold p_X11_tight at h
  refine lv_iload_n X.1 X.2.1 dX11_tight_0 rfl (lv_at hl 2 rfl) ?_
  refine lv_iconst (v := (-1 : Int32)) X.1 X.2.1 dX11_tight_1 (by decide) ?_
  refine lv_icmp_lt (tgt := 13) X.1 X.2.1 dX11_tight_2 (by decide) (fun hc => ?_) (fun hc => ?_)
  · replace h := kif_t hc h
    refine lv_iconst (v := (-1 : Int32)) X.1 X.2.1 dX11_tight_13 (by decide) ?_
    obtain rfl := Option.some.inj h
    rw [hAA] at V
    rw [hQQ]
    exact k_iret X V rfl dX11_tight_14
  · replace h := kif_f hc h
    refine lv_aload_n X.1 X.2.1 dX11_tight_5 rfl (lv_at hl 0 rfl) ?_
    refine lv_iload_n X.1 X.2.1 dX11_tight_6 rfl (lv_at hl 1 rfl) ?_
    obtain ⟨x6, hx6, h⟩ := kb_of h
    refine s_callVi (segs' := [gX11 g aT bT zT, gX4 g (bT 0) zT_0, gX8 g (bT 2) x6.2, gX0 g (bT 4) zT_4]) (ci := 11) (i0 := 0) X V (c_X11_gather l D g aT bT zT zT_0 zT_2 v1 x6 hx6) w_X11_196 ⟨Nat.le_of_ble_eq_true rfl, Nat.le_of_ble_eq_true rfl⟩ ⟨Nat.zero_le _, Nat.zero_le _⟩ rfl rfl rfl rfl [0, 1, 2] rfl rfl ⟨rfl, rfl, gX8_fst, trivial⟩ rfl rfl hl.1 (Nat.le_of_ble_eq_true rfl) dX11_tight_7 (fun H locs V => ?_)
    refine lv_if_ne (tgt := 15) X.1 X.2.1 dX11_tight_10 (by decide) (fun hc => ?_) (fun hc => ?_)
    · replace h := kif_f hc h
      refine lv_aload_n X.1 X.2.1 dX11_tight_15 rfl (lv_at hl 0 rfl) ?_
      refine gf_X11_36 (i := 0) X V rfl dX11_tight_16 ?_
      refine lv_aload_n X.1 X.2.1 dX11_tight_19 rfl (lv_at hl 0 rfl) ?_
      refine gf_X11_26 (i := 0) X V rfl dX11_tight_20 ?_
      obtain ⟨x7, hx7, h⟩ := kb_of h
      refine s_callVv (segs' := [gX11 g aT bT zT, gX4 g (bT 0) zT_0, gX8 g (bT 2) x6.2, gX0 g (bT 4) x7]) (ci := 0) (i0 := 0) X V (c_X0_about l D g (bT 4) (bT 2) zT_4 x6.2 x7 hx7) w_X11_209 ⟨Nat.le_of_ble_eq_true rfl, Nat.le_of_ble_eq_true rfl⟩ ⟨Nat.zero_le _, Nat.zero_le _⟩ rfl rfl rfl rfl [3, 2] rfl rfl ⟨gX0_fst, rfl, trivial⟩ rfl rfl hl.1 (Nat.le_of_ble_eq_true rfl) dX11_tight_23 (fun H locs V => ?_)
      refine lv_aload_n X.1 X.2.1 dX11_tight_26 rfl (lv_at hl 0 rfl) ?_
      refine gf_X11_36 (i := 0) X V rfl dX11_tight_27 ?_
      refine lv_aload_n X.1 X.2.1 dX11_tight_30 rfl (lv_at hl 0 rfl) ?_
      refine gf_X11_26 (i := 0) X V rfl dX11_tight_31 ?_
      obtain ⟨x8, hx8, h⟩ := kb_of h
      refine s_callVv (segs' := [gX11 g aT bT zT, gX4 g (bT 0) zT_0, gX8 g (bT 2) x6.2, gX0 g (bT 4) x8]) (ci := 0) (i0 := 0) X V (c_X0_seekTight l D g (bT 4) (bT 2) x7 x6.2 x8 hx8) w_X11_226 ⟨Nat.le_of_ble_eq_true rfl, Nat.le_of_ble_eq_true rfl⟩ ⟨Nat.zero_le _, Nat.zero_le _⟩ rfl rfl rfl rfl [3, 2] rfl rfl ⟨gX0_fst, rfl, trivial⟩ rfl rfl hl.1 (Nat.le_of_ble_eq_true rfl) dX11_tight_34 (fun H locs V => ?_)
      refine lv_iload_n X.1 X.2.1 dX11_tight_37 rfl (lv_at hl 2 rfl) ?_
      refine lv_iconst (v := (-1 : Int32)) X.1 X.2.1 dX11_tight_38 (by decide) ?_
      refine lv_icmp_ne (tgt := 52) X.1 X.2.1 dX11_tight_39 (by decide) (fun hc => ?_) (fun hc => ?_)
      · replace h := kif_f hc h
        refine lv_aload_n X.1 X.2.1 dX11_tight_52 rfl (lv_at hl 0 rfl) ?_
        refine gf_X11_36 (i := 0) X V rfl dX11_tight_53 ?_
        refine lv_iload_n X.1 X.2.1 dX11_tight_56 rfl (lv_at hl 2 rfl) ?_
        obtain ⟨x9, hx9, h⟩ := kb_of h
        refine s_callVi (segs' := [gX11 g aT bT zT, gX4 g (bT 0) zT_0, gX8 g (bT 2) x6.2, gX0 g (bT 4) x8]) (ci := 0) (i0 := 0) X V (c_X0_tightNumber l D g (bT 4) x8 v2 x9 hx9) w_X11_232 ⟨Nat.le_of_ble_eq_true rfl, Nat.le_of_ble_eq_true rfl⟩ ⟨Nat.zero_le _, Nat.zero_le _⟩ rfl rfl rfl rfl [3] rfl rfl (kFst_refl _) rfl rfl hl.1 (Nat.le_of_ble_eq_true rfl) dX11_tight_57 (fun H locs V => ?_)
        obtain rfl := Option.some.inj h
        rw [hAA] at V
        rw [hQQ]
        exact k_iret X V rfl dX11_tight_60
      · replace h := kif_t hc h
        refine lv_aload_n X.1 X.2.1 dX11_tight_42 rfl (lv_at hl 0 rfl) ?_
        refine gf_X11_36 (i := 0) X V rfl dX11_tight_43 ?_
        obtain ⟨x10, hx10, h⟩ := kb_of h
        refine s_callVi (segs' := [gX11 g aT bT zT, gX4 g (bT 0) zT_0, gX8 g (bT 2) x6.2, gX0 g (bT 4) x8]) (ci := 0) (i0 := 0) X V (c_X0_tightCount l D g (bT 4) x8 x10 hx10) w_X11_229 ⟨Nat.le_of_ble_eq_true rfl, Nat.le_of_ble_eq_true rfl⟩ ⟨Nat.zero_le _, Nat.zero_le _⟩ rfl rfl rfl rfl [3] rfl rfl (kFst_refl _) rfl rfl hl.1 (Nat.le_of_ble_eq_true rfl) dX11_tight_46 (fun H locs V => ?_)
        refine lv_goto (tgt := 60) X.1 X.2.1 dX11_tight_49 (by decide) ?_
        obtain rfl := Option.some.inj h
        rw [hAA] at V
        rw [hQQ]
        exact k_iret X V rfl dX11_tight_60
    · replace h := kif_t hc h
      refine lv_iconst (v := (-1 : Int32)) X.1 X.2.1 dX11_tight_13 (by decide) ?_
      obtain rfl := Option.some.inj h
      rw [hAA] at V
      rw [hQQ]
      exact k_iret X V rfl dX11_tight_14

def p_X11_rim (zT : tX11) (zT_0 : tX4) (zT_2 : tX8) (zT_4 : tX0) (v1 : Int32) : Option (Int32 × tX8 × tX0) :=
  kb (p_X11_gather zT zT_0 zT_2 v1) (fun x1 => kif ((kz x1.1) = 0) (some ((-1 : Int32), x1.2, zT_4)) (kb (p_X0_about zT_4 x1.2) (fun x2 => kb (p_X0_countOnRim x2 x1.2) (fun x3 => some (x3, x1.2, x2)))))
set_option maxHeartbeats 4000000 in
set_option maxRecDepth 100000 in
theorem c_X11_rim (l : Launch) (D : va_G) (g : kG) (aT : Nat → Nat) (bT : Nat → Nat → Nat) (zT : tX11) (zT_0 : tX4) (zT_2 : tX8) (zT_4 : tX0) (v1 : Int32) (r : Int32 × tX8 × tX0) (h : p_X11_rim zT zT_0 zT_2 zT_4 v1 = some r) : kMi l yX11_rim cX11_rim 2 (some .int) (kR 6 152) D (kty g) [.ref (aT 0), .int v1] (List.flatten [gX11 g aT bT zT, gX4 g (bT 0) zT_0, gX8 g (bT 2) zT_2, gX0 g (bT 4) zT_4]) r.1 (List.flatten [gX11 g aT bT zT, gX4 g (bT 0) zT_0, gX8 g (bT 2) r.2.1, gX0 g (bT 4) r.2.2]) := by
  intro sz
  refine k_enter (lv := [(0, .ref (aT 0)), (1, .int v1)]) RX11 (by decide +kernel) rfl rfl (Nat.le_of_ble_eq_true rfl) ?_
  intro p en s m args below meth c ls hsz X V hl
  obtain ⟨QQ, hQQ⟩ : ∃ q, q = MQ below (va_Qi (fun r' (_ : Unit) => r' = r.1) (fun _ => kE D (List.flatten [gX11 g aT bT zT, gX4 g (bT 0) zT_0, gX8 g (bT 2) r.2.1, gX0 g (bT 4) r.2.2])) (va_A (List.flatten [gX11 g aT bT zT, gX4 g (bT 0) zT_0, gX8 g (bT 2) zT_2, gX0 g (bT 4) zT_4]) sz)) args s 0 0 (va_A (List.flatten [gX11 g aT bT zT, gX4 g (bT 0) zT_0, gX8 g (bT 2) zT_2, gX0 g (bT 4) zT_4]) sz) := ⟨_, rfl⟩
  rw [← hQQ]
  obtain ⟨AA, hAA⟩ : ∃ q, q = va_A (List.flatten [gX11 g aT bT zT, gX4 g (bT 0) zT_0, gX8 g (bT 2) zT_2, gX0 g (bT 4) zT_4]) sz := ⟨_, rfl⟩
  rw [← hAA] at V
  unfold p_X11_rim at h
  refine lv_aload_n X.1 X.2.1 dX11_rim_0 rfl (lv_at hl 0 rfl) ?_
  refine lv_iload_n X.1 X.2.1 dX11_rim_1 rfl (lv_at hl 1 rfl) ?_
  obtain ⟨x4, hx4, h⟩ := kb_of h
  refine s_callVi (segs' := [gX11 g aT bT zT, gX4 g (bT 0) zT_0, gX8 g (bT 2) x4.2, gX0 g (bT 4) zT_4]) (ci := 11) (i0 := 0) X V (c_X11_gather l D g aT bT zT zT_0 zT_2 v1 x4 hx4) w_X11_196 ⟨Nat.le_of_ble_eq_true rfl, Nat.le_of_ble_eq_true rfl⟩ ⟨Nat.zero_le _, Nat.zero_le _⟩ rfl rfl rfl rfl [0, 1, 2] rfl rfl ⟨rfl, rfl, gX8_fst, trivial⟩ rfl rfl hl.1 (Nat.le_of_ble_eq_true rfl) dX11_rim_2 (fun H locs V => ?_)
  refine lv_if_ne (tgt := 10) X.1 X.2.1 dX11_rim_5 (by decide) (fun hc => ?_) (fun hc => ?_)
  · replace h := kif_f hc h
    refine lv_aload_n X.1 X.2.1 dX11_rim_10 rfl (lv_at hl 0 rfl) ?_
    refine gf_X11_36 (i := 0) X V rfl dX11_rim_11 ?_
    refine lv_aload_n X.1 X.2.1 dX11_rim_14 rfl (lv_at hl 0 rfl) ?_
    refine gf_X11_26 (i := 0) X V rfl dX11_rim_15 ?_
    obtain ⟨x5, hx5, h⟩ := kb_of h
    refine s_callVv (segs' := [gX11 g aT bT zT, gX4 g (bT 0) zT_0, gX8 g (bT 2) x4.2, gX0 g (bT 4) x5]) (ci := 0) (i0 := 0) X V (c_X0_about l D g (bT 4) (bT 2) zT_4 x4.2 x5 hx5) w_X11_209 ⟨Nat.le_of_ble_eq_true rfl, Nat.le_of_ble_eq_true rfl⟩ ⟨Nat.zero_le _, Nat.zero_le _⟩ rfl rfl rfl rfl [3, 2] rfl rfl ⟨gX0_fst, rfl, trivial⟩ rfl rfl hl.1 (Nat.le_of_ble_eq_true rfl) dX11_rim_18 (fun H locs V => ?_)
    refine lv_aload_n X.1 X.2.1 dX11_rim_21 rfl (lv_at hl 0 rfl) ?_
    refine gf_X11_36 (i := 0) X V rfl dX11_rim_22 ?_
    refine lv_aload_n X.1 X.2.1 dX11_rim_25 rfl (lv_at hl 0 rfl) ?_
    refine gf_X11_26 (i := 0) X V rfl dX11_rim_26 ?_
    obtain ⟨x6, hx6, h⟩ := kb_of h
    refine s_callVi (segs' := [gX11 g aT bT zT, gX4 g (bT 0) zT_0, gX8 g (bT 2) x4.2, gX0 g (bT 4) x5]) (ci := 0) (i0 := 0) X V (c_X0_countOnRim l D g (bT 4) (bT 2) x5 x4.2 x6 hx6) w_X11_235 ⟨Nat.le_of_ble_eq_true rfl, Nat.le_of_ble_eq_true rfl⟩ ⟨Nat.zero_le _, Nat.zero_le _⟩ rfl rfl rfl rfl [3, 2] rfl rfl (kFst_refl _) rfl rfl hl.1 (Nat.le_of_ble_eq_true rfl) dX11_rim_29 (fun H locs V => ?_)
    obtain rfl := Option.some.inj h
    rw [hAA] at V
    rw [hQQ]
    exact k_iret X V rfl dX11_rim_32
  · replace h := kif_t hc h
    refine lv_iconst (v := (-1 : Int32)) X.1 X.2.1 dX11_rim_8 (by decide) ?_
    obtain rfl := Option.some.inj h
    rw [hAA] at V
    rw [hQQ]
    exact k_iret X V rfl dX11_rim_9

def p_X11_inside (zT : tX11) (zT_0 : tX4) (zT_2 : tX8) (zT_4 : tX0) (v1 : Int32) (v2 : Int32) (v3 : Int32) : Option (Int32 × tX8 × tX0) :=
  kb (p_X11_isNear v2 v3 (300 : Int32)) (fun x1 => kif ((kz x1) = 0) (some ((-1 : Int32), zT_2, zT_4)) (kb (p_X11_gather zT zT_0 zT_2 v1) (fun x2 => kif ((kz x2.1) = 0) (some ((-1 : Int32), x2.2, zT_4)) (kb (p_X0_about zT_4 x2.2) (fun x3 => kb (p_X0_side x3 v2 v3) (fun x4 => some (((1 : Int32) - x4), x2.2, x3)))))))
set_option maxHeartbeats 4000000 in
set_option maxRecDepth 100000 in
theorem c_X11_inside (l : Launch) (D : va_G) (g : kG) (aT : Nat → Nat) (bT : Nat → Nat → Nat) (zT : tX11) (zT_0 : tX4) (zT_2 : tX8) (zT_4 : tX0) (v1 : Int32) (v2 : Int32) (v3 : Int32) (r : Int32 × tX8 × tX0) (h : p_X11_inside zT zT_0 zT_2 zT_4 v1 v2 v3 = some r) : kMi l yX11_inside cX11_inside 4 (some .int) (kR 6 152) D (kty g) [.ref (aT 0), .int v1, .int v2, .int v3] (List.flatten [gX11 g aT bT zT, gX4 g (bT 0) zT_0, gX8 g (bT 2) zT_2, gX0 g (bT 4) zT_4]) r.1 (List.flatten [gX11 g aT bT zT, gX4 g (bT 0) zT_0, gX8 g (bT 2) r.2.1, gX0 g (bT 4) r.2.2]) := by
  intro sz
  refine k_enter (lv := [(0, .ref (aT 0)), (1, .int v1), (2, .int v2), (3, .int v3)]) RX11 (by decide +kernel) rfl rfl (Nat.le_of_ble_eq_true rfl) ?_
  intro p en s m args below meth c ls hsz X V hl
  obtain ⟨QQ, hQQ⟩ : ∃ q, q = MQ below (va_Qi (fun r' (_ : Unit) => r' = r.1) (fun _ => kE D (List.flatten [gX11 g aT bT zT, gX4 g (bT 0) zT_0, gX8 g (bT 2) r.2.1, gX0 g (bT 4) r.2.2])) (va_A (List.flatten [gX11 g aT bT zT, gX4 g (bT 0) zT_0, gX8 g (bT 2) zT_2, gX0 g (bT 4) zT_4]) sz)) args s 0 0 (va_A (List.flatten [gX11 g aT bT zT, gX4 g (bT 0) zT_0, gX8 g (bT 2) zT_2, gX0 g (bT 4) zT_4]) sz) := ⟨_, rfl⟩
  rw [← hQQ]
  obtain ⟨AA, hAA⟩ : ∃ q, q = va_A (List.flatten [gX11 g aT bT zT, gX4 g (bT 0) zT_0, gX8 g (bT 2) zT_2, gX0 g (bT 4) zT_4]) sz := ⟨_, rfl⟩
  rw [← hAA] at V
  unfold p_X11_inside at h
  refine lv_iload_n X.1 X.2.1 dX11_inside_0 rfl (lv_at hl 2 rfl) ?_
  refine lv_iload_n X.1 X.2.1 dX11_inside_1 rfl (lv_at hl 3 rfl) ?_
  refine lv_sipush (v := (300 : Int32)) X.1 X.2.1 dX11_inside_2 (by decide) ?_
  obtain ⟨x5, hx5, h⟩ := kb_of h
  refine s_callSi (segs' := [gX11 g aT bT zT, gX4 g (bT 0) zT_0, gX8 g (bT 2) zT_2, gX0 g (bT 4) zT_4]) X V (c_X11_isNear l D g v2 v3 (300 : Int32) x5 hx5) w_X11_127 ⟨Nat.le_of_ble_eq_true rfl, Nat.le_of_ble_eq_true rfl⟩ ⟨Nat.zero_le _, Nat.zero_le _⟩ rfl [] rfl rfl (kFst_refl _) rfl rfl hl.1 (Nat.le_of_ble_eq_true rfl) dX11_inside_5 (fun H locs V => ?_)
  refine lv_if_eq (tgt := 19) X.1 X.2.1 dX11_inside_8 (by decide) (fun hc => ?_) (fun hc => ?_)
  · replace h := kif_t hc h
    refine lv_iconst (v := (-1 : Int32)) X.1 X.2.1 dX11_inside_19 (by decide) ?_
    obtain rfl := Option.some.inj h
    rw [hAA] at V
    rw [hQQ]
    exact k_iret X V rfl dX11_inside_20
  · replace h := kif_f hc h
    refine lv_aload_n X.1 X.2.1 dX11_inside_11 rfl (lv_at hl 0 rfl) ?_
    refine lv_iload_n X.1 X.2.1 dX11_inside_12 rfl (lv_at hl 1 rfl) ?_
    obtain ⟨x6, hx6, h⟩ := kb_of h
    refine s_callVi (segs' := [gX11 g aT bT zT, gX4 g (bT 0) zT_0, gX8 g (bT 2) x6.2, gX0 g (bT 4) zT_4]) (ci := 11) (i0 := 0) X V (c_X11_gather l D g aT bT zT zT_0 zT_2 v1 x6 hx6) w_X11_196 ⟨Nat.le_of_ble_eq_true rfl, Nat.le_of_ble_eq_true rfl⟩ ⟨Nat.zero_le _, Nat.zero_le _⟩ rfl rfl rfl rfl [0, 1, 2] rfl rfl ⟨rfl, rfl, gX8_fst, trivial⟩ rfl rfl hl.1 (Nat.le_of_ble_eq_true rfl) dX11_inside_13 (fun H locs V => ?_)
    refine lv_if_ne (tgt := 21) X.1 X.2.1 dX11_inside_16 (by decide) (fun hc => ?_) (fun hc => ?_)
    · replace h := kif_f hc h
      refine lv_aload_n X.1 X.2.1 dX11_inside_21 rfl (lv_at hl 0 rfl) ?_
      refine gf_X11_36 (i := 0) X V rfl dX11_inside_22 ?_
      refine lv_aload_n X.1 X.2.1 dX11_inside_25 rfl (lv_at hl 0 rfl) ?_
      refine gf_X11_26 (i := 0) X V rfl dX11_inside_26 ?_
      obtain ⟨x7, hx7, h⟩ := kb_of h
      refine s_callVv (segs' := [gX11 g aT bT zT, gX4 g (bT 0) zT_0, gX8 g (bT 2) x6.2, gX0 g (bT 4) x7]) (ci := 0) (i0 := 0) X V (c_X0_about l D g (bT 4) (bT 2) zT_4 x6.2 x7 hx7) w_X11_209 ⟨Nat.le_of_ble_eq_true rfl, Nat.le_of_ble_eq_true rfl⟩ ⟨Nat.zero_le _, Nat.zero_le _⟩ rfl rfl rfl rfl [3, 2] rfl rfl ⟨gX0_fst, rfl, trivial⟩ rfl rfl hl.1 (Nat.le_of_ble_eq_true rfl) dX11_inside_29 (fun H locs V => ?_)
      refine lv_iconst (v := (1 : Int32)) X.1 X.2.1 dX11_inside_32 (by decide) ?_
      refine lv_aload_n X.1 X.2.1 dX11_inside_33 rfl (lv_at hl 0 rfl) ?_
      refine gf_X11_36 (i := 0) X V rfl dX11_inside_34 ?_
      refine lv_iload_n X.1 X.2.1 dX11_inside_37 rfl (lv_at hl 2 rfl) ?_
      refine lv_iload_n X.1 X.2.1 dX11_inside_38 rfl (lv_at hl 3 rfl) ?_
      obtain ⟨x8, hx8, h⟩ := kb_of h
      refine s_callVi (segs' := [gX11 g aT bT zT, gX4 g (bT 0) zT_0, gX8 g (bT 2) x6.2, gX0 g (bT 4) x7]) (ci := 0) (i0 := 0) X V (c_X0_side l D g (bT 4) x7 v2 v3 x8 hx8) w_X11_239 ⟨Nat.le_of_ble_eq_true rfl, Nat.le_of_ble_eq_true rfl⟩ ⟨Nat.zero_le _, Nat.zero_le _⟩ rfl rfl rfl rfl [3] rfl rfl (kFst_refl _) rfl rfl hl.1 (Nat.le_of_ble_eq_true rfl) dX11_inside_39 (fun H locs V => ?_)
      refine lv_isub X.1 X.2.1 dX11_inside_42 ?_
      obtain rfl := Option.some.inj h
      rw [hAA] at V
      rw [hQQ]
      exact k_iret X V rfl dX11_inside_43
    · replace h := kif_t hc h
      refine lv_iconst (v := (-1 : Int32)) X.1 X.2.1 dX11_inside_19 (by decide) ?_
      obtain rfl := Option.some.inj h
      rw [hAA] at V
      rw [hQQ]
      exact k_iret X V rfl dX11_inside_20

def p_X11_needed (zT : tX11) (zT_0 : tX4) (zT_2 : tX8) (zT_3 : tX8) (zT_4 : tX0) (zT_5 : tX0) (v1 : Int32) (v2 : Int32) : Option (Int32 × tX8 × tX8 × tX0 × tX0) :=
  kb (p_X11_gather zT zT_0 zT_2 v1) (fun x1 => kif ((kz x1.1) = 0) (some ((-1 : Int32), x1.2, zT_3, zT_4, zT_5)) (kb (p_X4_has zT_0 v2) (fun x2 => kif ((kz x2) = 0) (some ((-1 : Int32), x1.2, zT_3, zT_4, zT_5)) (kb (p_X4_bits zT_0 v1) (fun x3 => kif ((lg_cmp (x3 &&& ((1 : Int64) <<< (v2.toInt64 &&& 63))) (0 : Int64)) = 0) (some ((-1 : Int32), x1.2, zT_3, zT_4, zT_5)) (kb (p_X0_about zT_4 x1.2) (fun x4 => kb (p_X4_now zT_0) (fun x5 => kb (p_X8_collect zT_3 zT_0 (x3 &&& (((1 : Int64) <<< (v2.toInt64 &&& 63)) ^^^ (-1 : Int64))) x5) (fun x6 => kb (p_X8_count x6) (fun x7 => kif (x7 = 0) (some ((1 : Int32), x1.2, x6, x4, zT_5)) (kb (p_X0_about zT_5 x6) (fun x8 => kb (p_X0_sizeAgainst x8 x4) (fun x9 => kif (0 ≤ x9) (some ((0 : Int32), x1.2, x6, x4, x8)) (some ((1 : Int32), x1.2, x6, x4, x8)))))))))))))))
set_option maxHeartbeats 4000000 in
set_option maxRecDepth 100000 in
theorem c_X11_needed (l : Launch) (D : va_G) (g : kG) (aT : Nat → Nat) (bT : Nat → Nat → Nat) (zT : tX11) (zT_0 : tX4) (zT_2 : tX8) (zT_3 : tX8) (zT_4 : tX0) (zT_5 : tX0) (v1 : Int32) (v2 : Int32) (r : Int32 × tX8 × tX8 × tX0 × tX0) (h : p_X11_needed zT zT_0 zT_2 zT_3 zT_4 zT_5 v1 v2 = some r) : kMi l yX11_needed cX11_needed 5 (some .int) (kR 6 152) D (kty g) [.ref (aT 0), .int v1, .int v2] (List.flatten [gX11 g aT bT zT, gX4 g (bT 0) zT_0, gX8 g (bT 2) zT_2, gX8 g (bT 3) zT_3, gX0 g (bT 4) zT_4, gX0 g (bT 5) zT_5]) r.1 (List.flatten [gX11 g aT bT zT, gX4 g (bT 0) zT_0, gX8 g (bT 2) r.2.1, gX8 g (bT 3) r.2.2.1, gX0 g (bT 4) r.2.2.2.1, gX0 g (bT 5) r.2.2.2.2]) := by
  intro sz
  refine k_enter (lv := [(0, .ref (aT 0)), (1, .int v1), (2, .int v2)]) RX11 (by decide +kernel) rfl rfl (Nat.le_of_ble_eq_true rfl) ?_
  intro p en s m args below meth c ls hsz X V hl
  obtain ⟨QQ, hQQ⟩ : ∃ q, q = MQ below (va_Qi (fun r' (_ : Unit) => r' = r.1) (fun _ => kE D (List.flatten [gX11 g aT bT zT, gX4 g (bT 0) zT_0, gX8 g (bT 2) r.2.1, gX8 g (bT 3) r.2.2.1, gX0 g (bT 4) r.2.2.2.1, gX0 g (bT 5) r.2.2.2.2])) (va_A (List.flatten [gX11 g aT bT zT, gX4 g (bT 0) zT_0, gX8 g (bT 2) zT_2, gX8 g (bT 3) zT_3, gX0 g (bT 4) zT_4, gX0 g (bT 5) zT_5]) sz)) args s 0 0 (va_A (List.flatten [gX11 g aT bT zT, gX4 g (bT 0) zT_0, gX8 g (bT 2) zT_2, gX8 g (bT 3) zT_3, gX0 g (bT 4) zT_4, gX0 g (bT 5) zT_5]) sz) := ⟨_, rfl⟩
  rw [← hQQ]
  obtain ⟨AA, hAA⟩ : ∃ q, q = va_A (List.flatten [gX11 g aT bT zT, gX4 g (bT 0) zT_0, gX8 g (bT 2) zT_2, gX8 g (bT 3) zT_3, gX0 g (bT 4) zT_4, gX0 g (bT 5) zT_5]) sz := ⟨_, rfl⟩
  rw [← hAA] at V
  unfold p_X11_needed at h
  refine lv_aload_n X.1 X.2.1 dX11_needed_0 rfl (lv_at hl 0 rfl) ?_
  refine lv_iload_n X.1 X.2.1 dX11_needed_1 rfl (lv_at hl 1 rfl) ?_
  obtain ⟨x10, hx10, h⟩ := kb_of h
  refine s_callVi (segs' := [gX11 g aT bT zT, gX4 g (bT 0) zT_0, gX8 g (bT 2) x10.2, gX8 g (bT 3) zT_3, gX0 g (bT 4) zT_4, gX0 g (bT 5) zT_5]) (ci := 11) (i0 := 0) X V (c_X11_gather l D g aT bT zT zT_0 zT_2 v1 x10 hx10) w_X11_196 ⟨Nat.le_of_ble_eq_true rfl, Nat.le_of_ble_eq_true rfl⟩ ⟨Nat.zero_le _, Nat.zero_le _⟩ rfl rfl rfl rfl [0, 1, 2] rfl rfl ⟨rfl, rfl, gX8_fst, trivial⟩ rfl rfl hl.1 (Nat.le_of_ble_eq_true rfl) dX11_needed_2 (fun H locs V => ?_)
  refine lv_if_eq (tgt := 19) X.1 X.2.1 dX11_needed_5 (by decide) (fun hc => ?_) (fun hc => ?_)
  · replace h := kif_t hc h
    refine lv_iconst (v := (-1 : Int32)) X.1 X.2.1 dX11_needed_19 (by decide) ?_
    obtain rfl := Option.some.inj h
    rw [hAA] at V
    rw [hQQ]
    exact k_iret X V rfl dX11_needed_20
  · replace h := kif_f hc h
    refine lv_aload_n X.1 X.2.1 dX11_needed_8 rfl (lv_at hl 0 rfl) ?_
    refine gf_X11_10 (i := 0) X V rfl dX11_needed_9 ?_
    refine lv_iload_n X.1 X.2.1 dX11_needed_12 rfl (lv_at hl 2 rfl) ?_
    obtain ⟨x11, hx11, h⟩ := kb_of h
    refine s_callVi (segs' := [gX11 g aT bT zT, gX4 g (bT 0) zT_0, gX8 g (bT 2) x10.2, gX8 g (bT 3) zT_3, gX0 g (bT 4) zT_4, gX0 g (bT 5) zT_5]) (ci := 4) (i0 := 0) X V (c_X4_has l D g (bT 0) zT_0 v2 x11 hx11) w_X11_144 ⟨Nat.le_of_ble_eq_true rfl, Nat.le_of_ble_eq_true rfl⟩ ⟨Nat.zero_le _, Nat.zero_le _⟩ rfl rfl rfl rfl [1] rfl rfl (kFst_refl _) rfl rfl hl.1 (Nat.le_of_ble_eq_true rfl) dX11_needed_13 (fun H locs V => ?_)
    refine lv_if_ne (tgt := 21) X.1 X.2.1 dX11_needed_16 (by decide) (fun hc => ?_) (fun hc => ?_)
    · replace h := kif_f hc h
      refine lv_aload_n X.1 X.2.1 dX11_needed_21 rfl (lv_at hl 0 rfl) ?_
      refine gf_X11_10 (i := 0) X V rfl dX11_needed_22 ?_
      refine lv_iload_n X.1 X.2.1 dX11_needed_25 rfl (lv_at hl 1 rfl) ?_
      obtain ⟨x12, hx12, h⟩ := kb_of h
      refine s_callVl (segs' := [gX11 g aT bT zT, gX4 g (bT 0) zT_0, gX8 g (bT 2) x10.2, gX8 g (bT 3) zT_3, gX0 g (bT 4) zT_4, gX0 g (bT 5) zT_5]) (ci := 4) (i0 := 0) X V (c_X4_bits l D g (bT 0) zT_0 v1 x12 hx12) w_X11_167 ⟨Nat.le_of_ble_eq_true rfl, Nat.le_of_ble_eq_true rfl⟩ ⟨Nat.zero_le _, Nat.zero_le _⟩ rfl rfl rfl rfl [1] rfl rfl (kFst_refl _) rfl rfl hl.1 (Nat.le_of_ble_eq_true rfl) dX11_needed_26 (fun H locs V => ?_)
      refine lv_lstore_n (lv' := [(3, .long x12), (0, .ref (aT 0)), (1, .int v1), (2, .int v2)]) X.1 X.2.1 dX11_needed_29 rfl hl (by decide) rfl (fun ls hl => ?_)
      refine lv_lload_n X.1 X.2.1 dX11_needed_30 rfl (lv_at hl 0 rfl) ?_
      refine lv_lconst (v := (1 : Int64)) X.1 X.2.1 dX11_needed_31 (by decide) ?_
      refine lv_iload_n X.1 X.2.1 dX11_needed_32 rfl (lv_at hl 3 rfl) ?_
      refine lv_lshl X.1 X.2.1 dX11_needed_33 rfl ?_
      refine lv_land X.1 X.2.1 dX11_needed_34 ?_
      refine lv_lconst (v := (0 : Int64)) X.1 X.2.1 dX11_needed_35 (by decide) ?_
      refine W.lcmp X.1 X.2.1 dX11_needed_36 ?_
      refine lv_if_ne (tgt := 42) X.1 X.2.1 dX11_needed_37 (by decide) (fun hc => ?_) (fun hc => ?_)
      · replace h := kif_f hc h
        refine lv_aload_n X.1 X.2.1 dX11_needed_42 rfl (lv_at hl 1 rfl) ?_
        refine gf_X11_36 (i := 0) X V rfl dX11_needed_43 ?_
        refine lv_aload_n X.1 X.2.1 dX11_needed_46 rfl (lv_at hl 1 rfl) ?_
        refine gf_X11_26 (i := 0) X V rfl dX11_needed_47 ?_
        obtain ⟨x13, hx13, h⟩ := kb_of h
        refine s_callVv (segs' := [gX11 g aT bT zT, gX4 g (bT 0) zT_0, gX8 g (bT 2) x10.2, gX8 g (bT 3) zT_3, gX0 g (bT 4) x13, gX0 g (bT 5) zT_5]) (ci := 0) (i0 := 0) X V (c_X0_about l D g (bT 4) (bT 2) zT_4 x10.2 x13 hx13) w_X11_209 ⟨Nat.le_of_ble_eq_true rfl, Nat.le_of_ble_eq_true rfl⟩ ⟨Nat.zero_le _, Nat.zero_le _⟩ rfl rfl rfl rfl [4, 2] rfl rfl ⟨gX0_fst, rfl, trivial⟩ rfl rfl hl.1 (Nat.le_of_ble_eq_true rfl) dX11_needed_50 (fun H locs V => ?_)
        refine lv_aload_n X.1 X.2.1 dX11_needed_53 rfl (lv_at hl 1 rfl) ?_
        refine gf_X11_30 (i := 0) X V rfl dX11_needed_54 ?_
        refine lv_aload_n X.1 X.2.1 dX11_needed_57 rfl (lv_at hl 1 rfl) ?_
        refine gf_X11_10 (i := 0) X V rfl dX11_needed_58 ?_
        refine lv_lload_n X.1 X.2.1 dX11_needed_61 rfl (lv_at hl 0 rfl) ?_
        refine lv_lconst (v := (1 : Int64)) X.1 X.2.1 dX11_needed_62 (by decide) ?_
        refine lv_iload_n X.1 X.2.1 dX11_needed_63 rfl (lv_at hl 3 rfl) ?_
        refine lv_lshl X.1 X.2.1 dX11_needed_64 rfl ?_
        refine lv_ldc2 (v := (-1 : Int64)) X.1 X.2.1 X.2.2.2.1 (X.2.2.2.2.1 _ kc_X11_242) dX11_needed_65 ?_
        refine lv_lxor X.1 X.2.1 dX11_needed_68 ?_
        refine lv_land X.1 X.2.1 dX11_needed_69 ?_
        refine lv_aload_n X.1 X.2.1 dX11_needed_70 rfl (lv_at hl 1 rfl) ?_
        refine gf_X11_10 (i := 0) X V rfl dX11_needed_71 ?_
        obtain ⟨x14, hx14, h⟩ := kb_of h
        refine s_callVi (segs' := [gX11 g aT bT zT, gX4 g (bT 0) zT_0, gX8 g (bT 2) x10.2, gX8 g (bT 3) zT_3, gX0 g (bT 4) x13, gX0 g (bT 5) zT_5]) (ci := 4) (i0 := 0) X V (c_X4_now l D g (bT 0) zT_0 x14 hx14) w_X11_158 ⟨Nat.le_of_ble_eq_true rfl, Nat.le_of_ble_eq_true rfl⟩ ⟨Nat.zero_le _, Nat.zero_le _⟩ rfl rfl rfl rfl [1] rfl rfl (kFst_refl _) rfl rfl hl.1 (Nat.le_of_ble_eq_true rfl) dX11_needed_74 (fun H locs V => ?_)
        obtain ⟨x15, hx15, h⟩ := kb_of h
        refine s_callVv (segs' := [gX11 g aT bT zT, gX4 g (bT 0) zT_0, gX8 g (bT 2) x10.2, gX8 g (bT 3) x15, gX0 g (bT 4) x13, gX0 g (bT 5) zT_5]) (ci := 8) (i0 := 0) X V (c_X8_collect l D g (bT 3) (bT 0) zT_3 zT_0 (x12 &&& (((1 : Int64) <<< (v2.toInt64 &&& 63)) ^^^ (-1 : Int64))) x14 x15 hx15) w_X11_244 ⟨Nat.le_of_ble_eq_true rfl, Nat.le_of_ble_eq_true rfl⟩ ⟨Nat.zero_le _, Nat.zero_le _⟩ rfl rfl rfl rfl [3, 1] rfl rfl ⟨gX8_fst, rfl, trivial⟩ rfl rfl hl.1 (Nat.le_of_ble_eq_true rfl) dX11_needed_77 (fun H locs V => ?_)
        refine lv_aload_n X.1 X.2.1 dX11_needed_80 rfl (lv_at hl 1 rfl) ?_
        refine gf_X11_30 (i := 0) X V rfl dX11_needed_81 ?_
        obtain ⟨x16, hx16, h⟩ := kb_of h
        refine s_callVi (segs' := [gX11 g aT bT zT, gX4 g (bT 0) zT_0, gX8 g (bT 2) x10.2, gX8 g (bT 3) x15, gX0 g (bT 4) x13, gX0 g (bT 5) zT_5]) (ci := 8) (i0 := 0) X V (c_X8_count l D g (bT 3) x15 x16 hx16) w_X11_199 ⟨Nat.le_of_ble_eq_true rfl, Nat.le_of_ble_eq_true rfl⟩ ⟨Nat.zero_le _, Nat.zero_le _⟩ rfl rfl rfl rfl [3] rfl rfl (kFst_refl _) rfl rfl hl.1 (Nat.le_of_ble_eq_true rfl) dX11_needed_84 (fun H locs V => ?_)
        refine lv_if_ne (tgt := 92) X.1 X.2.1 dX11_needed_87 (by decide) (fun hc => ?_) (fun hc => ?_)
        · replace h := kif_f hc h
          refine lv_aload_n X.1 X.2.1 dX11_needed_92 rfl (lv_at hl 1 rfl) ?_
          refine gf_X11_40 (i := 0) X V rfl dX11_needed_93 ?_
          refine lv_aload_n X.1 X.2.1 dX11_needed_96 rfl (lv_at hl 1 rfl) ?_
          refine gf_X11_30 (i := 0) X V rfl dX11_needed_97 ?_
          obtain ⟨x17, hx17, h⟩ := kb_of h
          refine s_callVv (segs' := [gX11 g aT bT zT, gX4 g (bT 0) zT_0, gX8 g (bT 2) x10.2, gX8 g (bT 3) x15, gX0 g (bT 4) x13, gX0 g (bT 5) x17]) (ci := 0) (i0 := 0) X V (c_X0_about l D g (bT 5) (bT 3) zT_5 x15 x17 hx17) w_X11_209 ⟨Nat.le_of_ble_eq_true rfl, Nat.le_of_ble_eq_true rfl⟩ ⟨Nat.zero_le _, Nat.zero_le _⟩ rfl rfl rfl rfl [5, 3] rfl rfl ⟨gX0_fst, rfl, trivial⟩ rfl rfl hl.1 (Nat.le_of_ble_eq_true rfl) dX11_needed_100 (fun H locs V => ?_)
          refine lv_aload_n X.1 X.2.1 dX11_needed_103 rfl (lv_at hl 1 rfl) ?_
          refine gf_X11_40 (i := 0) X V rfl dX11_needed_104 ?_
          refine lv_aload_n X.1 X.2.1 dX11_needed_107 rfl (lv_at hl 1 rfl) ?_
          refine gf_X11_36 (i := 0) X V rfl dX11_needed_108 ?_
          obtain ⟨x18, hx18, h⟩ := kb_of h
          refine s_callVi (segs' := [gX11 g aT bT zT, gX4 g (bT 0) zT_0, gX8 g (bT 2) x10.2, gX8 g (bT 3) x15, gX0 g (bT 4) x13, gX0 g (bT 5) x17]) (ci := 0) (i0 := 0) X V (c_X0_sizeAgainst l D g (bT 5) (bT 4) x17 x13 x18 hx18) w_X11_248 ⟨Nat.le_of_ble_eq_true rfl, Nat.le_of_ble_eq_true rfl⟩ ⟨Nat.zero_le _, Nat.zero_le _⟩ rfl rfl rfl rfl [5, 4] rfl rfl (kFst_refl _) rfl rfl hl.1 (Nat.le_of_ble_eq_true rfl) dX11_needed_111 (fun H locs V => ?_)
          refine lv_if_ge (tgt := 121) X.1 X.2.1 dX11_needed_114 (by decide) (fun hc => ?_) (fun hc => ?_)
          · replace h := kif_t hc h
            refine lv_iconst (v := (0 : Int32)) X.1 X.2.1 dX11_needed_121 (by decide) ?_
            obtain rfl := Option.some.inj h
            rw [hAA] at V
            rw [hQQ]
            exact k_iret X V rfl dX11_needed_122
          · replace h := kif_f hc h
            refine lv_iconst (v := (1 : Int32)) X.1 X.2.1 dX11_needed_117 (by decide) ?_
            refine lv_goto (tgt := 122) X.1 X.2.1 dX11_needed_118 (by decide) ?_
            obtain rfl := Option.some.inj h
            rw [hAA] at V
            rw [hQQ]
            exact k_iret X V rfl dX11_needed_122
        · replace h := kif_t hc h
          refine lv_iconst (v := (1 : Int32)) X.1 X.2.1 dX11_needed_90 (by decide) ?_
          obtain rfl := Option.some.inj h
          rw [hAA] at V
          rw [hQQ]
          exact k_iret X V rfl dX11_needed_91
      · replace h := kif_t hc h
        refine lv_iconst (v := (-1 : Int32)) X.1 X.2.1 dX11_needed_40 (by decide) ?_
        obtain rfl := Option.some.inj h
        rw [hAA] at V
        rw [hQQ]
        exact k_iret X V rfl dX11_needed_41
    · replace h := kif_t hc h
      refine lv_iconst (v := (-1 : Int32)) X.1 X.2.1 dX11_needed_19 (by decide) ?_
      obtain rfl := Option.some.inj h
      rw [hAA] at V
      rw [hQQ]
      exact k_iret X V rfl dX11_needed_20

def p_X11_proof (zT : tX11) (zT_0 : tX4) (zT_2 : tX8) (zT_3 : tX8) (zT_4 : tX0) (zT_5 : tX0) (v1 : Int32) (v2 : Int64) : Option (Int32 × tX8 × tX8 × tX0 × tX0) :=
  kif ((lg_cmp v2 (0 : Int64)) = 0) (some ((-1 : Int32), zT_2, zT_3, zT_4, zT_5)) (kb (p_X11_gather zT zT_0 zT_2 v1) (fun x1 => kif ((kz x1.1) = 0) (some ((-1 : Int32), x1.2, zT_3, zT_4, zT_5)) (kb (p_X4_bits zT_0 v1) (fun x2 => kif ((lg_cmp (v2 &&& (x2 ^^^ (-1 : Int64))) (0 : Int64)) = 0) (kb (p_X0_about zT_4 x1.2) (fun x3 => kb (p_X4_now zT_0) (fun x4 => kb (p_X8_collect zT_3 zT_0 v2 x4) (fun x5 => kb (p_X0_about zT_5 x5) (fun x6 => kb (p_X0_sizeAgainst x6 x3) (fun x7 => kif (x7 = 0) (some ((1 : Int32), x1.2, x5, x3, x6)) (some ((0 : Int32), x1.2, x5, x3, x6)))))))) (some ((-1 : Int32), x1.2, zT_3, zT_4, zT_5))))))
set_option maxHeartbeats 4000000 in
set_option maxRecDepth 100000 in
theorem c_X11_proof (l : Launch) (D : va_G) (g : kG) (aT : Nat → Nat) (bT : Nat → Nat → Nat) (zT : tX11) (zT_0 : tX4) (zT_2 : tX8) (zT_3 : tX8) (zT_4 : tX0) (zT_5 : tX0) (v1 : Int32) (v2 : Int64) (r : Int32 × tX8 × tX8 × tX0 × tX0) (h : p_X11_proof zT zT_0 zT_2 zT_3 zT_4 zT_5 v1 v2 = some r) : kMi l yX11_proof cX11_proof 4 (some .int) (kR 6 152) D (kty g) [.ref (aT 0), .int v1, .long v2] (List.flatten [gX11 g aT bT zT, gX4 g (bT 0) zT_0, gX8 g (bT 2) zT_2, gX8 g (bT 3) zT_3, gX0 g (bT 4) zT_4, gX0 g (bT 5) zT_5]) r.1 (List.flatten [gX11 g aT bT zT, gX4 g (bT 0) zT_0, gX8 g (bT 2) r.2.1, gX8 g (bT 3) r.2.2.1, gX0 g (bT 4) r.2.2.2.1, gX0 g (bT 5) r.2.2.2.2]) := by
  intro sz
  refine k_enter (lv := [(0, .ref (aT 0)), (1, .int v1), (2, .long v2)]) RX11 (by decide +kernel) rfl rfl (Nat.le_of_ble_eq_true rfl) ?_
  intro p en s m args below meth c ls hsz X V hl
  obtain ⟨QQ, hQQ⟩ : ∃ q, q = MQ below (va_Qi (fun r' (_ : Unit) => r' = r.1) (fun _ => kE D (List.flatten [gX11 g aT bT zT, gX4 g (bT 0) zT_0, gX8 g (bT 2) r.2.1, gX8 g (bT 3) r.2.2.1, gX0 g (bT 4) r.2.2.2.1, gX0 g (bT 5) r.2.2.2.2])) (va_A (List.flatten [gX11 g aT bT zT, gX4 g (bT 0) zT_0, gX8 g (bT 2) zT_2, gX8 g (bT 3) zT_3, gX0 g (bT 4) zT_4, gX0 g (bT 5) zT_5]) sz)) args s 0 0 (va_A (List.flatten [gX11 g aT bT zT, gX4 g (bT 0) zT_0, gX8 g (bT 2) zT_2, gX8 g (bT 3) zT_3, gX0 g (bT 4) zT_4, gX0 g (bT 5) zT_5]) sz) := ⟨_, rfl⟩
  rw [← hQQ]
  obtain ⟨AA, hAA⟩ : ∃ q, q = va_A (List.flatten [gX11 g aT bT zT, gX4 g (bT 0) zT_0, gX8 g (bT 2) zT_2, gX8 g (bT 3) zT_3, gX0 g (bT 4) zT_4, gX0 g (bT 5) zT_5]) sz := ⟨_, rfl⟩
  rw [← hAA] at V
  unfold p_X11_proof at h
  refine lv_lload_n X.1 X.2.1 dX11_proof_0 rfl (lv_at hl 2 rfl) ?_
  refine lv_lconst (v := (0 : Int64)) X.1 X.2.1 dX11_proof_1 (by decide) ?_
  refine W.lcmp X.1 X.2.1 dX11_proof_2 ?_
  refine lv_if_eq (tgt := 33) X.1 X.2.1 dX11_proof_3 (by decide) (fun hc => ?_) (fun hc => ?_)
  · replace h := kif_t hc h
    refine lv_iconst (v := (-1 : Int32)) X.1 X.2.1 dX11_proof_33 (by decide) ?_
    obtain rfl := Option.some.inj h
    rw [hAA] at V
    rw [hQQ]
    exact k_iret X V rfl dX11_proof_34
  · replace h := kif_f hc h
    refine lv_aload_n X.1 X.2.1 dX11_proof_6 rfl (lv_at hl 0 rfl) ?_
    refine lv_iload_n X.1 X.2.1 dX11_proof_7 rfl (lv_at hl 1 rfl) ?_
    obtain ⟨x8, hx8, h⟩ := kb_of h
    refine s_callVi (segs' := [gX11 g aT bT zT, gX4 g (bT 0) zT_0, gX8 g (bT 2) x8.2, gX8 g (bT 3) zT_3, gX0 g (bT 4) zT_4, gX0 g (bT 5) zT_5]) (ci := 11) (i0 := 0) X V (c_X11_gather l D g aT bT zT zT_0 zT_2 v1 x8 hx8) w_X11_196 ⟨Nat.le_of_ble_eq_true rfl, Nat.le_of_ble_eq_true rfl⟩ ⟨Nat.zero_le _, Nat.zero_le _⟩ rfl rfl rfl rfl [0, 1, 2] rfl rfl ⟨rfl, rfl, gX8_fst, trivial⟩ rfl rfl hl.1 (Nat.le_of_ble_eq_true rfl) dX11_proof_8 (fun H locs V => ?_)
    refine lv_if_eq (tgt := 33) X.1 X.2.1 dX11_proof_11 (by decide) (fun hc => ?_) (fun hc => ?_)
    · replace h := kif_t hc h
      refine lv_iconst (v := (-1 : Int32)) X.1 X.2.1 dX11_proof_33 (by decide) ?_
      obtain rfl := Option.some.inj h
      rw [hAA] at V
      rw [hQQ]
      exact k_iret X V rfl dX11_proof_34
    · replace h := kif_f hc h
      refine lv_lload_n X.1 X.2.1 dX11_proof_14 rfl (lv_at hl 2 rfl) ?_
      refine lv_aload_n X.1 X.2.1 dX11_proof_15 rfl (lv_at hl 0 rfl) ?_
      refine gf_X11_10 (i := 0) X V rfl dX11_proof_16 ?_
      refine lv_iload_n X.1 X.2.1 dX11_proof_19 rfl (lv_at hl 1 rfl) ?_
      obtain ⟨x9, hx9, h⟩ := kb_of h
      refine s_callVl (segs' := [gX11 g aT bT zT, gX4 g (bT 0) zT_0, gX8 g (bT 2) x8.2, gX8 g (bT 3) zT_3, gX0 g (bT 4) zT_4, gX0 g (bT 5) zT_5]) (ci := 4) (i0 := 0) X V (c_X4_bits l D g (bT 0) zT_0 v1 x9 hx9) w_X11_167 ⟨Nat.le_of_ble_eq_true rfl, Nat.le_of_ble_eq_true rfl⟩ ⟨Nat.zero_le _, Nat.zero_le _⟩ rfl rfl rfl rfl [1] rfl rfl (kFst_refl _) rfl rfl hl.1 (Nat.le_of_ble_eq_true rfl) dX11_proof_20 (fun H locs V => ?_)
      refine lv_ldc2 (v := (-1 : Int64)) X.1 X.2.1 X.2.2.2.1 (X.2.2.2.2.1 _ kc_X11_242) dX11_proof_23 ?_
      refine lv_lxor X.1 X.2.1 dX11_proof_26 ?_
      refine lv_land X.1 X.2.1 dX11_proof_27 ?_
      refine lv_lconst (v := (0 : Int64)) X.1 X.2.1 dX11_proof_28 (by decide) ?_
      refine W.lcmp X.1 X.2.1 dX11_proof_29 ?_
      refine lv_if_eq (tgt := 35) X.1 X.2.1 dX11_proof_30 (by decide) (fun hc => ?_) (fun hc => ?_)
      · replace h := kif_t hc h
        refine lv_aload_n X.1 X.2.1 dX11_proof_35 rfl (lv_at hl 0 rfl) ?_
        refine gf_X11_36 (i := 0) X V rfl dX11_proof_36 ?_
        refine lv_aload_n X.1 X.2.1 dX11_proof_39 rfl (lv_at hl 0 rfl) ?_
        refine gf_X11_26 (i := 0) X V rfl dX11_proof_40 ?_
        obtain ⟨x10, hx10, h⟩ := kb_of h
        refine s_callVv (segs' := [gX11 g aT bT zT, gX4 g (bT 0) zT_0, gX8 g (bT 2) x8.2, gX8 g (bT 3) zT_3, gX0 g (bT 4) x10, gX0 g (bT 5) zT_5]) (ci := 0) (i0 := 0) X V (c_X0_about l D g (bT 4) (bT 2) zT_4 x8.2 x10 hx10) w_X11_209 ⟨Nat.le_of_ble_eq_true rfl, Nat.le_of_ble_eq_true rfl⟩ ⟨Nat.zero_le _, Nat.zero_le _⟩ rfl rfl rfl rfl [4, 2] rfl rfl ⟨gX0_fst, rfl, trivial⟩ rfl rfl hl.1 (Nat.le_of_ble_eq_true rfl) dX11_proof_43 (fun H locs V => ?_)
        refine lv_aload_n X.1 X.2.1 dX11_proof_46 rfl (lv_at hl 0 rfl) ?_
        refine gf_X11_30 (i := 0) X V rfl dX11_proof_47 ?_
        refine lv_aload_n X.1 X.2.1 dX11_proof_50 rfl (lv_at hl 0 rfl) ?_
        refine gf_X11_10 (i := 0) X V rfl dX11_proof_51 ?_
        refine lv_lload_n X.1 X.2.1 dX11_proof_54 rfl (lv_at hl 2 rfl) ?_
        refine lv_aload_n X.1 X.2.1 dX11_proof_55 rfl (lv_at hl 0 rfl) ?_
        refine gf_X11_10 (i := 0) X V rfl dX11_proof_56 ?_
        obtain ⟨x11, hx11, h⟩ := kb_of h
        refine s_callVi (segs' := [gX11 g aT bT zT, gX4 g (bT 0) zT_0, gX8 g (bT 2) x8.2, gX8 g (bT 3) zT_3, gX0 g (bT 4) x10, gX0 g (bT 5) zT_5]) (ci := 4) (i0 := 0) X V (c_X4_now l D g (bT 0) zT_0 x11 hx11) w_X11_158 ⟨Nat.le_of_ble_eq_true rfl, Nat.le_of_ble_eq_true rfl⟩ ⟨Nat.zero_le _, Nat.zero_le _⟩ rfl rfl rfl rfl [1] rfl rfl (kFst_refl _) rfl rfl hl.1 (Nat.le_of_ble_eq_true rfl) dX11_proof_59 (fun H locs V => ?_)
        obtain ⟨x12, hx12, h⟩ := kb_of h
        refine s_callVv (segs' := [gX11 g aT bT zT, gX4 g (bT 0) zT_0, gX8 g (bT 2) x8.2, gX8 g (bT 3) x12, gX0 g (bT 4) x10, gX0 g (bT 5) zT_5]) (ci := 8) (i0 := 0) X V (c_X8_collect l D g (bT 3) (bT 0) zT_3 zT_0 v2 x11 x12 hx12) w_X11_244 ⟨Nat.le_of_ble_eq_true rfl, Nat.le_of_ble_eq_true rfl⟩ ⟨Nat.zero_le _, Nat.zero_le _⟩ rfl rfl rfl rfl [3, 1] rfl rfl ⟨gX8_fst, rfl, trivial⟩ rfl rfl hl.1 (Nat.le_of_ble_eq_true rfl) dX11_proof_62 (fun H locs V => ?_)
        refine lv_aload_n X.1 X.2.1 dX11_proof_65 rfl (lv_at hl 0 rfl) ?_
        refine gf_X11_40 (i := 0) X V rfl dX11_proof_66 ?_
        refine lv_aload_n X.1 X.2.1 dX11_proof_69 rfl (lv_at hl 0 rfl) ?_
        refine gf_X11_30 (i := 0) X V rfl dX11_proof_70 ?_
        obtain ⟨x13, hx13, h⟩ := kb_of h
        refine s_callVv (segs' := [gX11 g aT bT zT, gX4 g (bT 0) zT_0, gX8 g (bT 2) x8.2, gX8 g (bT 3) x12, gX0 g (bT 4) x10, gX0 g (bT 5) x13]) (ci := 0) (i0 := 0) X V (c_X0_about l D g (bT 5) (bT 3) zT_5 x12 x13 hx13) w_X11_209 ⟨Nat.le_of_ble_eq_true rfl, Nat.le_of_ble_eq_true rfl⟩ ⟨Nat.zero_le _, Nat.zero_le _⟩ rfl rfl rfl rfl [5, 3] rfl rfl ⟨gX0_fst, rfl, trivial⟩ rfl rfl hl.1 (Nat.le_of_ble_eq_true rfl) dX11_proof_73 (fun H locs V => ?_)
        refine lv_aload_n X.1 X.2.1 dX11_proof_76 rfl (lv_at hl 0 rfl) ?_
        refine gf_X11_40 (i := 0) X V rfl dX11_proof_77 ?_
        refine lv_aload_n X.1 X.2.1 dX11_proof_80 rfl (lv_at hl 0 rfl) ?_
        refine gf_X11_36 (i := 0) X V rfl dX11_proof_81 ?_
        obtain ⟨x14, hx14, h⟩ := kb_of h
        refine s_callVi (segs' := [gX11 g aT bT zT, gX4 g (bT 0) zT_0, gX8 g (bT 2) x8.2, gX8 g (bT 3) x12, gX0 g (bT 4) x10, gX0 g (bT 5) x13]) (ci := 0) (i0 := 0) X V (c_X0_sizeAgainst l D g (bT 5) (bT 4) x13 x10 x14 hx14) w_X11_248 ⟨Nat.le_of_ble_eq_true rfl, Nat.le_of_ble_eq_true rfl⟩ ⟨Nat.zero_le _, Nat.zero_le _⟩ rfl rfl rfl rfl [5, 4] rfl rfl (kFst_refl _) rfl rfl hl.1 (Nat.le_of_ble_eq_true rfl) dX11_proof_84 (fun H locs V => ?_)
        refine lv_if_ne (tgt := 94) X.1 X.2.1 dX11_proof_87 (by decide) (fun hc => ?_) (fun hc => ?_)
        · replace h := kif_f hc h
          refine lv_iconst (v := (0 : Int32)) X.1 X.2.1 dX11_proof_94 (by decide) ?_
          obtain rfl := Option.some.inj h
          rw [hAA] at V
          rw [hQQ]
          exact k_iret X V rfl dX11_proof_95
        · replace h := kif_t hc h
          refine lv_iconst (v := (1 : Int32)) X.1 X.2.1 dX11_proof_90 (by decide) ?_
          refine lv_goto (tgt := 95) X.1 X.2.1 dX11_proof_91 (by decide) ?_
          obtain rfl := Option.some.inj h
          rw [hAA] at V
          rw [hQQ]
          exact k_iret X V rfl dX11_proof_95
      · replace h := kif_f hc h
        refine lv_iconst (v := (-1 : Int32)) X.1 X.2.1 dX11_proof_33 (by decide) ?_
        obtain rfl := Option.some.inj h
        rw [hAA] at V
        rw [hQQ]
        exact k_iret X V rfl dX11_proof_34

def p_X11_when_L8 (zT : tX11) (zT_0 : tX4) (v1 : Int32) (v2 : Int32) (s : Int32 × tX8 × tX0 × tX3) : Option (Nat × (Int32 × tX8 × tX0 × tX3)) :=
  kif ((20 : Int32) < s.1) (some (72, (s.1, s.2.1, s.2.2.1, s.2.2.2))) (kb (p_X11_gatherAt zT zT_0 s.2.1 v1 s.1) (fun x1 => kif ((kz x1.1) = 0) (some (27, (s.1, x1.2, s.2.2.1, s.2.2.2))) (kb (p_X0_about s.2.2.1 x1.2) (fun x2 => kb (p_X0_size x2 s.2.2.2) (fun x3 => kb (p_X3_against x3 v2.toInt64 (1 : Int64)) (fun x4 => kif (x4 ≤ 0) (kl (s.1 + (1 : Int32)) (fun y5 => some (8, (y5, x1.2, x2, x3)))) (some (64, (s.1, x1.2, x2, x3)))))))))
def p_X11_when (zT : tX11) (zT_0 : tX4) (zT_2 : tX8) (zT_4 : tX0) (zT_13 : tX3) (v1 : Int32) (v2 : Int32) : Option (Int32 × tX8 × tX0 × tX3) :=
  kif (0 ≤ v2) (kb (kitr 8 (fun q => p_X11_when_L8 zT zT_0 v1 v2 q) kF ((0 : Int32), zT_2, zT_4, zT_13)) (fun x6 => kif (x6.1 = 27) (some ((-1 : Int32), x6.2.2.1, x6.2.2.2.1, x6.2.2.2.2)) (kif (x6.1 = 64) (some (x6.2.1, x6.2.2.1, x6.2.2.2.1, x6.2.2.2.2)) (kg (x6.1 = 72) (some ((-1 : Int32), x6.2.2.1, x6.2.2.2.1, x6.2.2.2.2)))))) (some ((-1 : Int32), zT_2, zT_4, zT_13))
set_option maxHeartbeats 4000000 in
set_option maxRecDepth 100000 in
theorem c_X11_when (l : Launch) (D : va_G) (g : kG) (aT : Nat → Nat) (bT : Nat → Nat → Nat) (zT : tX11) (zT_0 : tX4) (zT_2 : tX8) (zT_4 : tX0) (zT_13 : tX3) (v1 : Int32) (v2 : Int32) (r : Int32 × tX8 × tX0 × tX3) (h : p_X11_when zT zT_0 zT_2 zT_4 zT_13 v1 v2 = some r) : kMi l yX11_when cX11_when 4 (some .int) (kR 6 152) D (kty g) [.ref (aT 0), .int v1, .int v2] (List.flatten [gX11 g aT bT zT, gX4 g (bT 0) zT_0, gX8 g (bT 2) zT_2, gX0 g (bT 4) zT_4, gX3 g (bT 13) zT_13]) r.1 (List.flatten [gX11 g aT bT zT, gX4 g (bT 0) zT_0, gX8 g (bT 2) r.2.1, gX0 g (bT 4) r.2.2.1, gX3 g (bT 13) r.2.2.2]) := by
  intro sz
  refine k_enter (lv := [(0, .ref (aT 0)), (1, .int v1), (2, .int v2)]) RX11 (by decide +kernel) rfl rfl (Nat.le_of_ble_eq_true rfl) ?_
  intro p en s m args below meth c ls hsz X V hl
  obtain ⟨QQ, hQQ⟩ : ∃ q, q = MQ below (va_Qi (fun r' (_ : Unit) => r' = r.1) (fun _ => kE D (List.flatten [gX11 g aT bT zT, gX4 g (bT 0) zT_0, gX8 g (bT 2) r.2.1, gX0 g (bT 4) r.2.2.1, gX3 g (bT 13) r.2.2.2])) (va_A (List.flatten [gX11 g aT bT zT, gX4 g (bT 0) zT_0, gX8 g (bT 2) zT_2, gX0 g (bT 4) zT_4, gX3 g (bT 13) zT_13]) sz)) args s 0 0 (va_A (List.flatten [gX11 g aT bT zT, gX4 g (bT 0) zT_0, gX8 g (bT 2) zT_2, gX0 g (bT 4) zT_4, gX3 g (bT 13) zT_13]) sz) := ⟨_, rfl⟩
  rw [← hQQ]
  obtain ⟨AA, hAA⟩ : ∃ q, q = va_A (List.flatten [gX11 g aT bT zT, gX4 g (bT 0) zT_0, gX8 g (bT 2) zT_2, gX0 g (bT 4) zT_4, gX3 g (bT 13) zT_13]) sz := ⟨_, rfl⟩
  rw [← hAA] at V
  unfold p_X11_when at h
  refine lv_iload_n X.1 X.2.1 dX11_when_0 rfl (lv_at hl 2 rfl) ?_
  refine lv_if_ge (tgt := 6) X.1 X.2.1 dX11_when_1 (by decide) (fun hc => ?_) (fun hc => ?_)
  · replace h := kif_t hc h
    refine lv_iconst (v := (0 : Int32)) X.1 X.2.1 dX11_when_6 (by decide) ?_
    refine lv_istore_n (lv' := [(3, .int (0 : Int32)), (0, .ref (aT 0)), (1, .int v1), (2, .int v2)]) X.1 X.2.1 dX11_when_7 rfl hl (by decide) rfl (fun ls hl => ?_)
    obtain ⟨x7, hx7, h⟩ := kb_of h
    refine (kitr_go (hd := 8) (body := fun q => p_X11_when_L8 zT zT_0 v1 v2 q) (G := (fun e => ∀ (H : Heap) (locs : List Loc) (ls : Array Slot), kW D AA s.heap H (List.flatten [gX11 g aT bT zT, gX4 g (bT 0) zT_0, gX8 g (bT 2) e.2.2.1, gX0 g (bT 4) e.2.2.2.1, gX3 g (bT 13) e.2.2.2.2]) locs → lv_has ls 4 [(0, .ref (aT 0)), (1, .int v1), (2, .int v2), (3, .int e.2.1)] → W p l en (kR 6 152) s m args below meth c H locs 0 0 QQ (F0 m e.1 ls []))) (fun s8 e9 hb10 hG11 => ?_) kF _ x7 hx7 ?_) _ _ _ V (lv_sub hl [1, 2, 3, 0] rfl)
    · intro H locs ls V hl
      show W p l en (kR 6 152) s m args below meth c H locs 0 0 QQ (F0 m 8 ls [])
      have h : p_X11_when_L8 zT zT_0 v1 v2 s8 = some e9 := hb10
      unfold p_X11_when_L8 at h
      have V : kW D AA s.heap H (List.flatten [gX11 g aT bT zT, gX4 g (bT 0) zT_0, gX8 g (bT 2) s8.2.1, gX0 g (bT 4) s8.2.2.1, gX3 g (bT 13) s8.2.2.2]) locs := V
      have hl : lv_has ls 4 [(0, .ref (aT 0)), (1, .int v1), (2, .int v2), (3, .int s8.1)] := hl
      refine lv_iload_n X.1 X.2.1 dX11_when_8 rfl (lv_at hl 3 rfl) ?_
      refine lv_bipush (v := (20 : Int32)) X.1 X.2.1 dX11_when_9 (by decide) ?_
      refine lv_icmp_gt (tgt := 72) X.1 X.2.1 dX11_when_11 (by decide) (fun hc => ?_) (fun hc => ?_)
      · replace h := kif_t hc h
        obtain rfl := Option.some.inj h
        exact hG11 _ _ _ V (lv_sub hl [0, 1, 2, 3] rfl)
      · replace h := kif_f hc h
        refine lv_aload_n X.1 X.2.1 dX11_when_14 rfl (lv_at hl 0 rfl) ?_
        refine lv_aload_n X.1 X.2.1 dX11_when_15 rfl (lv_at hl 0 rfl) ?_
        refine gf_X11_26 (i := 0) X V rfl dX11_when_16 ?_
        refine lv_iload_n X.1 X.2.1 dX11_when_19 rfl (lv_at hl 1 rfl) ?_
        refine lv_iload_n X.1 X.2.1 dX11_when_20 rfl (lv_at hl 3 rfl) ?_
        obtain ⟨x12, hx12, h⟩ := kb_of h
        refine s_callVi (segs' := [gX11 g aT bT zT, gX4 g (bT 0) zT_0, gX8 g (bT 2) x12.2, gX0 g (bT 4) s8.2.2.1, gX3 g (bT 13) s8.2.2.2]) (ci := 11) (i0 := 0) X V (c_X11_gatherAt l D g aT (bT 2) bT zT zT_0 s8.2.1 v1 s8.1 x12 hx12) w_X11_252 ⟨Nat.le_of_ble_eq_true rfl, Nat.le_of_ble_eq_true rfl⟩ ⟨Nat.zero_le _, Nat.zero_le _⟩ rfl rfl rfl rfl [0, 1, 2] rfl rfl ⟨rfl, rfl, gX8_fst, trivial⟩ rfl rfl hl.1 (Nat.le_of_ble_eq_true rfl) dX11_when_21 (fun H locs V => ?_)
        refine lv_if_ne (tgt := 29) X.1 X.2.1 dX11_when_24 (by decide) (fun hc => ?_) (fun hc => ?_)
        · replace h := kif_f hc h
          refine lv_aload_n X.1 X.2.1 dX11_when_29 rfl (lv_at hl 0 rfl) ?_
          refine gf_X11_36 (i := 0) X V rfl dX11_when_30 ?_
          refine lv_aload_n X.1 X.2.1 dX11_when_33 rfl (lv_at hl 0 rfl) ?_
          refine gf_X11_26 (i := 0) X V rfl dX11_when_34 ?_
          obtain ⟨x13, hx13, h⟩ := kb_of h
          refine s_callVv (segs' := [gX11 g aT bT zT, gX4 g (bT 0) zT_0, gX8 g (bT 2) x12.2, gX0 g (bT 4) x13, gX3 g (bT 13) s8.2.2.2]) (ci := 0) (i0 := 0) X V (c_X0_about l D g (bT 4) (bT 2) s8.2.2.1 x12.2 x13 hx13) w_X11_209 ⟨Nat.le_of_ble_eq_true rfl, Nat.le_of_ble_eq_true rfl⟩ ⟨Nat.zero_le _, Nat.zero_le _⟩ rfl rfl rfl rfl [3, 2] rfl rfl ⟨gX0_fst, rfl, trivial⟩ rfl rfl hl.1 (Nat.le_of_ble_eq_true rfl) dX11_when_37 (fun H locs V => ?_)
          refine lv_aload_n X.1 X.2.1 dX11_when_40 rfl (lv_at hl 0 rfl) ?_
          refine gf_X11_36 (i := 0) X V rfl dX11_when_41 ?_
          refine lv_aload_n X.1 X.2.1 dX11_when_44 rfl (lv_at hl 0 rfl) ?_
          refine gf_X11_91 (i := 0) X V rfl dX11_when_45 ?_
          obtain ⟨x14, hx14, h⟩ := kb_of h
          refine s_callVv (segs' := [gX11 g aT bT zT, gX4 g (bT 0) zT_0, gX8 g (bT 2) x12.2, gX0 g (bT 4) x13, gX3 g (bT 13) x14]) (ci := 0) (i0 := 0) X V (c_X0_size l D g (bT 4) (bT 13) x13 s8.2.2.2 x14 hx14) w_X11_213 ⟨Nat.le_of_ble_eq_true rfl, Nat.le_of_ble_eq_true rfl⟩ ⟨Nat.zero_le _, Nat.zero_le _⟩ rfl rfl rfl rfl [3, 4] rfl rfl ⟨rfl, gX3_fst, trivial⟩ rfl rfl hl.1 (Nat.le_of_ble_eq_true rfl) dX11_when_48 (fun H locs V => ?_)
          refine lv_aload_n X.1 X.2.1 dX11_when_51 rfl (lv_at hl 0 rfl) ?_
          refine gf_X11_91 (i := 0) X V rfl dX11_when_52 ?_
          refine lv_iload_n X.1 X.2.1 dX11_when_55 rfl (lv_at hl 2 rfl) ?_
          refine lv_i2l X.1 X.2.1 dX11_when_56 rfl ?_
          refine lv_lconst (v := (1 : Int64)) X.1 X.2.1 dX11_when_57 (by decide) ?_
          obtain ⟨x15, hx15, h⟩ := kb_of h
          refine s_callVi (segs' := [gX11 g aT bT zT, gX4 g (bT 0) zT_0, gX8 g (bT 2) x12.2, gX0 g (bT 4) x13, gX3 g (bT 13) x14]) (ci := 3) (i0 := 0) X V (c_X3_against l D g (bT 13) x14 v2.toInt64 (1 : Int64) x15 hx15) w_X11_256 ⟨Nat.le_of_ble_eq_true rfl, Nat.le_of_ble_eq_true rfl⟩ ⟨Nat.zero_le _, Nat.zero_le _⟩ rfl rfl rfl rfl [4] rfl rfl (kFst_refl _) rfl rfl hl.1 (Nat.le_of_ble_eq_true rfl) dX11_when_58 (fun H locs V => ?_)
          refine lv_if_le (tgt := 66) X.1 X.2.1 dX11_when_61 (by decide) (fun hc => ?_) (fun hc => ?_)
          · replace h := kif_t hc h
            obtain ⟨y16, ey16⟩ : ∃ y : Int32, y = (s8.1 + (1 : Int32)) := ⟨_, rfl⟩
            replace h := kl_of ey16 h
            refine lv_iinc (v := y16) (lv' := [(3, .int y16), (0, .ref (aT 0)), (1, .int v1), (2, .int v2)]) X.1 X.2.1 dX11_when_66 hl (k := 3) rfl (by rw [ey16]; rfl) (by decide) rfl (fun ls hl => ?_)
            refine lv_goto (tgt := 8) X.1 X.2.1 dX11_when_69 (by decide) ?_
            obtain rfl := Option.some.inj h
            exact hG11 _ _ _ V (lv_sub hl [1, 2, 3, 0] rfl)
          · replace h := kif_f hc h
            obtain rfl := Option.some.inj h
            exact hG11 _ _ _ V (lv_sub hl [0, 1, 2, 3] rfl)
        · replace h := kif_t hc h
          obtain rfl := Option.some.inj h
          exact hG11 _ _ _ V (lv_sub hl [0, 1, 2, 3] rfl)
    · intro H locs ls V hl
      have V : kW D AA s.heap H (List.flatten [gX11 g aT bT zT, gX4 g (bT 0) zT_0, gX8 g (bT 2) x7.2.2.1, gX0 g (bT 4) x7.2.2.2.1, gX3 g (bT 13) x7.2.2.2.2]) locs := V
      have hl : lv_has ls 4 [(0, .ref (aT 0)), (1, .int v1), (2, .int v2), (3, .int x7.2.1)] := hl
      by_cases hc : x7.1 = 27
      · replace h := kif_t hc h
        refine W.eq (g2 := F0 m 27 ls []) (by rw [hc]) ?_
        refine lv_iconst (v := (-1 : Int32)) X.1 X.2.1 dX11_when_27 (by decide) ?_
        obtain rfl := Option.some.inj h
        rw [hAA] at V
        rw [hQQ]
        exact k_iret X V rfl dX11_when_28
      · replace h := kif_f hc h
        by_cases hc : x7.1 = 64
        · replace h := kif_t hc h
          refine W.eq (g2 := F0 m 64 ls []) (by rw [hc]) ?_
          refine lv_iload_n X.1 X.2.1 dX11_when_64 rfl (lv_at hl 3 rfl) ?_
          obtain rfl := Option.some.inj h
          rw [hAA] at V
          rw [hQQ]
          exact k_iret X V rfl dX11_when_65
        · replace h := kif_f hc h
          obtain ⟨hc, h⟩ := kg_of h
          refine W.eq (g2 := F0 m 72 ls []) (by rw [hc]) ?_
          refine lv_iconst (v := (-1 : Int32)) X.1 X.2.1 dX11_when_72 (by decide) ?_
          obtain rfl := Option.some.inj h
          rw [hAA] at V
          rw [hQQ]
          exact k_iret X V rfl dX11_when_73
  · replace h := kif_f hc h
    refine lv_iconst (v := (-1 : Int32)) X.1 X.2.1 dX11_when_4 (by decide) ?_
    obtain rfl := Option.some.inj h
    rw [hAA] at V
    rw [hQQ]
    exact k_iret X V rfl dX11_when_5

def p_X11_hull (zT : tX11) (zT_0 : tX4) (zT_2 : tX8) (zT_6 : tX5) (v1 : Int32) (v2 : Int32) : Option (Int32 × tX8 × tX5) :=
  kif (v2 < (-1 : Int32)) (some ((-1 : Int32), zT_2, zT_6)) (kb (p_X11_gather zT zT_0 zT_2 v1) (fun x1 => kif ((kz x1.1) = 0) (some ((-1 : Int32), x1.2, zT_6)) (kb (p_X5_about zT_6 x1.2) (fun x2 => kif (v2 = (-1 : Int32)) (kb (p_X5_count x2) (fun x3 => some (x3, x1.2, x2))) (kb (p_X5_number x2 v2) (fun x4 => some (x4, x1.2, x2)))))))
set_option maxHeartbeats 4000000 in
set_option maxRecDepth 100000 in
theorem c_X11_hull (l : Launch) (D : va_G) (g : kG) (aT : Nat → Nat) (bT : Nat → Nat → Nat) (zT : tX11) (zT_0 : tX4) (zT_2 : tX8) (zT_6 : tX5) (v1 : Int32) (v2 : Int32) (r : Int32 × tX8 × tX5) (h : p_X11_hull zT zT_0 zT_2 zT_6 v1 v2 = some r) : kMi l yX11_hull cX11_hull 3 (some .int) (kR 5 116) D (kty g) [.ref (aT 0), .int v1, .int v2] (List.flatten [gX11 g aT bT zT, gX4 g (bT 0) zT_0, gX8 g (bT 2) zT_2, gX5 g (bT 6) zT_6]) r.1 (List.flatten [gX11 g aT bT zT, gX4 g (bT 0) zT_0, gX8 g (bT 2) r.2.1, gX5 g (bT 6) r.2.2]) := by
  intro sz
  refine k_enter (lv := [(0, .ref (aT 0)), (1, .int v1), (2, .int v2)]) RX11 (by decide +kernel) rfl rfl (Nat.le_of_ble_eq_true rfl) ?_
  intro p en s m args below meth c ls hsz X V hl
  obtain ⟨QQ, hQQ⟩ : ∃ q, q = MQ below (va_Qi (fun r' (_ : Unit) => r' = r.1) (fun _ => kE D (List.flatten [gX11 g aT bT zT, gX4 g (bT 0) zT_0, gX8 g (bT 2) r.2.1, gX5 g (bT 6) r.2.2])) (va_A (List.flatten [gX11 g aT bT zT, gX4 g (bT 0) zT_0, gX8 g (bT 2) zT_2, gX5 g (bT 6) zT_6]) sz)) args s 0 0 (va_A (List.flatten [gX11 g aT bT zT, gX4 g (bT 0) zT_0, gX8 g (bT 2) zT_2, gX5 g (bT 6) zT_6]) sz) := ⟨_, rfl⟩
  rw [← hQQ]
  obtain ⟨AA, hAA⟩ : ∃ q, q = va_A (List.flatten [gX11 g aT bT zT, gX4 g (bT 0) zT_0, gX8 g (bT 2) zT_2, gX5 g (bT 6) zT_6]) sz := ⟨_, rfl⟩
  rw [← hAA] at V
  unfold p_X11_hull at h
  refine lv_iload_n X.1 X.2.1 dX11_hull_0 rfl (lv_at hl 2 rfl) ?_
  refine lv_iconst (v := (-1 : Int32)) X.1 X.2.1 dX11_hull_1 (by decide) ?_
  refine lv_icmp_lt (tgt := 13) X.1 X.2.1 dX11_hull_2 (by decide) (fun hc => ?_) (fun hc => ?_)
  · replace h := kif_t hc h
    refine lv_iconst (v := (-1 : Int32)) X.1 X.2.1 dX11_hull_13 (by decide) ?_
    obtain rfl := Option.some.inj h
    rw [hAA] at V
    rw [hQQ]
    exact k_iret X V rfl dX11_hull_14
  · replace h := kif_f hc h
    refine lv_aload_n X.1 X.2.1 dX11_hull_5 rfl (lv_at hl 0 rfl) ?_
    refine lv_iload_n X.1 X.2.1 dX11_hull_6 rfl (lv_at hl 1 rfl) ?_
    obtain ⟨x5, hx5, h⟩ := kb_of h
    refine s_callVi (segs' := [gX11 g aT bT zT, gX4 g (bT 0) zT_0, gX8 g (bT 2) x5.2, gX5 g (bT 6) zT_6]) (ci := 11) (i0 := 0) X V (c_X11_gather l D g aT bT zT zT_0 zT_2 v1 x5 hx5) w_X11_196 ⟨Nat.le_of_ble_eq_true rfl, Nat.le_of_ble_eq_true rfl⟩ ⟨Nat.zero_le _, Nat.zero_le _⟩ rfl rfl rfl rfl [0, 1, 2] rfl rfl ⟨rfl, rfl, gX8_fst, trivial⟩ rfl rfl hl.1 (Nat.le_of_ble_eq_true rfl) dX11_hull_7 (fun H locs V => ?_)
    refine lv_if_ne (tgt := 15) X.1 X.2.1 dX11_hull_10 (by decide) (fun hc => ?_) (fun hc => ?_)
    · replace h := kif_f hc h
      refine lv_aload_n X.1 X.2.1 dX11_hull_15 rfl (lv_at hl 0 rfl) ?_
      refine gf_X11_46 (i := 0) X V rfl dX11_hull_16 ?_
      refine lv_aload_n X.1 X.2.1 dX11_hull_19 rfl (lv_at hl 0 rfl) ?_
      refine gf_X11_26 (i := 0) X V rfl dX11_hull_20 ?_
      obtain ⟨x6, hx6, h⟩ := kb_of h
      refine s_callVv (segs' := [gX11 g aT bT zT, gX4 g (bT 0) zT_0, gX8 g (bT 2) x5.2, gX5 g (bT 6) x6]) (ci := 5) (i0 := 0) X V (c_X5_about l D g (bT 6) (bT 2) zT_6 x5.2 x6 hx6) w_X11_260 ⟨Nat.le_of_ble_eq_true rfl, Nat.le_of_ble_eq_true rfl⟩ ⟨Nat.zero_le _, Nat.zero_le _⟩ rfl rfl rfl rfl [3, 2] rfl rfl ⟨gX5_fst, rfl, trivial⟩ rfl rfl hl.1 (Nat.le_of_ble_eq_true rfl) dX11_hull_23 (fun H locs V => ?_)
      refine lv_iload_n X.1 X.2.1 dX11_hull_26 rfl (lv_at hl 2 rfl) ?_
      refine lv_iconst (v := (-1 : Int32)) X.1 X.2.1 dX11_hull_27 (by decide) ?_
      refine lv_icmp_ne (tgt := 41) X.1 X.2.1 dX11_hull_28 (by decide) (fun hc => ?_) (fun hc => ?_)
      · replace h := kif_f hc h
        refine lv_aload_n X.1 X.2.1 dX11_hull_41 rfl (lv_at hl 0 rfl) ?_
        refine gf_X11_46 (i := 0) X V rfl dX11_hull_42 ?_
        refine lv_iload_n X.1 X.2.1 dX11_hull_45 rfl (lv_at hl 2 rfl) ?_
        obtain ⟨x7, hx7, h⟩ := kb_of h
        refine s_callVi (segs' := [gX11 g aT bT zT, gX4 g (bT 0) zT_0, gX8 g (bT 2) x5.2, gX5 g (bT 6) x6]) (ci := 5) (i0 := 0) X V (c_X5_number l D g (bT 6) x6 v2 x7 hx7) w_X11_262 ⟨Nat.le_of_ble_eq_true rfl, Nat.le_of_ble_eq_true rfl⟩ ⟨Nat.zero_le _, Nat.zero_le _⟩ rfl rfl rfl rfl [3] rfl rfl (kFst_refl _) rfl rfl hl.1 (Nat.le_of_ble_eq_true rfl) dX11_hull_46 (fun H locs V => ?_)
        obtain rfl := Option.some.inj h
        rw [hAA] at V
        rw [hQQ]
        exact k_iret X V rfl dX11_hull_49
      · replace h := kif_t hc h
        refine lv_aload_n X.1 X.2.1 dX11_hull_31 rfl (lv_at hl 0 rfl) ?_
        refine gf_X11_46 (i := 0) X V rfl dX11_hull_32 ?_
        obtain ⟨x8, hx8, h⟩ := kb_of h
        refine s_callVi (segs' := [gX11 g aT bT zT, gX4 g (bT 0) zT_0, gX8 g (bT 2) x5.2, gX5 g (bT 6) x6]) (ci := 5) (i0 := 0) X V (c_X5_count l D g (bT 6) x6 x8 hx8) w_X11_261 ⟨Nat.le_of_ble_eq_true rfl, Nat.le_of_ble_eq_true rfl⟩ ⟨Nat.zero_le _, Nat.zero_le _⟩ rfl rfl rfl rfl [3] rfl rfl (kFst_refl _) rfl rfl hl.1 (Nat.le_of_ble_eq_true rfl) dX11_hull_35 (fun H locs V => ?_)
        refine lv_goto (tgt := 49) X.1 X.2.1 dX11_hull_38 (by decide) ?_
        obtain rfl := Option.some.inj h
        rw [hAA] at V
        rw [hQQ]
        exact k_iret X V rfl dX11_hull_49
    · replace h := kif_t hc h
      refine lv_iconst (v := (-1 : Int32)) X.1 X.2.1 dX11_hull_13 (by decide) ?_
      obtain rfl := Option.some.inj h
      rw [hAA] at V
      rw [hQQ]
      exact k_iret X V rfl dX11_hull_14

def p_X11_area (zT : tX11) (zT_0 : tX4) (zT_2 : tX8) (zT_6 : tX5) (v1 : Int32) : Option (Int32 × tX8 × tX5) :=
  kb (p_X11_gather zT zT_0 zT_2 v1) (fun x1 => kif ((kz x1.1) = 0) (some ((-1 : Int32), x1.2, zT_6)) (kb (p_X5_about zT_6 x1.2) (fun x2 => kb (p_X5_twiceArea x2) (fun x3 => some (x3.toInt32, x1.2, x2)))))
set_option maxHeartbeats 4000000 in
set_option maxRecDepth 100000 in
theorem c_X11_area (l : Launch) (D : va_G) (g : kG) (aT : Nat → Nat) (bT : Nat → Nat → Nat) (zT : tX11) (zT_0 : tX4) (zT_2 : tX8) (zT_6 : tX5) (v1 : Int32) (r : Int32 × tX8 × tX5) (h : p_X11_area zT zT_0 zT_2 zT_6 v1 = some r) : kMi l yX11_area cX11_area 2 (some .int) (kR 5 116) D (kty g) [.ref (aT 0), .int v1] (List.flatten [gX11 g aT bT zT, gX4 g (bT 0) zT_0, gX8 g (bT 2) zT_2, gX5 g (bT 6) zT_6]) r.1 (List.flatten [gX11 g aT bT zT, gX4 g (bT 0) zT_0, gX8 g (bT 2) r.2.1, gX5 g (bT 6) r.2.2]) := by
  intro sz
  refine k_enter (lv := [(0, .ref (aT 0)), (1, .int v1)]) RX11 (by decide +kernel) rfl rfl (Nat.le_of_ble_eq_true rfl) ?_
  intro p en s m args below meth c ls hsz X V hl
  obtain ⟨QQ, hQQ⟩ : ∃ q, q = MQ below (va_Qi (fun r' (_ : Unit) => r' = r.1) (fun _ => kE D (List.flatten [gX11 g aT bT zT, gX4 g (bT 0) zT_0, gX8 g (bT 2) r.2.1, gX5 g (bT 6) r.2.2])) (va_A (List.flatten [gX11 g aT bT zT, gX4 g (bT 0) zT_0, gX8 g (bT 2) zT_2, gX5 g (bT 6) zT_6]) sz)) args s 0 0 (va_A (List.flatten [gX11 g aT bT zT, gX4 g (bT 0) zT_0, gX8 g (bT 2) zT_2, gX5 g (bT 6) zT_6]) sz) := ⟨_, rfl⟩
  rw [← hQQ]
  obtain ⟨AA, hAA⟩ : ∃ q, q = va_A (List.flatten [gX11 g aT bT zT, gX4 g (bT 0) zT_0, gX8 g (bT 2) zT_2, gX5 g (bT 6) zT_6]) sz := ⟨_, rfl⟩
  rw [← hAA] at V
  unfold p_X11_area at h
  refine lv_aload_n X.1 X.2.1 dX11_area_0 rfl (lv_at hl 0 rfl) ?_
  refine lv_iload_n X.1 X.2.1 dX11_area_1 rfl (lv_at hl 1 rfl) ?_
  obtain ⟨x4, hx4, h⟩ := kb_of h
  refine s_callVi (segs' := [gX11 g aT bT zT, gX4 g (bT 0) zT_0, gX8 g (bT 2) x4.2, gX5 g (bT 6) zT_6]) (ci := 11) (i0 := 0) X V (c_X11_gather l D g aT bT zT zT_0 zT_2 v1 x4 hx4) w_X11_196 ⟨Nat.le_of_ble_eq_true rfl, Nat.le_of_ble_eq_true rfl⟩ ⟨Nat.zero_le _, Nat.zero_le _⟩ rfl rfl rfl rfl [0, 1, 2] rfl rfl ⟨rfl, rfl, gX8_fst, trivial⟩ rfl rfl hl.1 (Nat.le_of_ble_eq_true rfl) dX11_area_2 (fun H locs V => ?_)
  refine lv_if_ne (tgt := 10) X.1 X.2.1 dX11_area_5 (by decide) (fun hc => ?_) (fun hc => ?_)
  · replace h := kif_f hc h
    refine lv_aload_n X.1 X.2.1 dX11_area_10 rfl (lv_at hl 0 rfl) ?_
    refine gf_X11_46 (i := 0) X V rfl dX11_area_11 ?_
    refine lv_aload_n X.1 X.2.1 dX11_area_14 rfl (lv_at hl 0 rfl) ?_
    refine gf_X11_26 (i := 0) X V rfl dX11_area_15 ?_
    obtain ⟨x5, hx5, h⟩ := kb_of h
    refine s_callVv (segs' := [gX11 g aT bT zT, gX4 g (bT 0) zT_0, gX8 g (bT 2) x4.2, gX5 g (bT 6) x5]) (ci := 5) (i0 := 0) X V (c_X5_about l D g (bT 6) (bT 2) zT_6 x4.2 x5 hx5) w_X11_260 ⟨Nat.le_of_ble_eq_true rfl, Nat.le_of_ble_eq_true rfl⟩ ⟨Nat.zero_le _, Nat.zero_le _⟩ rfl rfl rfl rfl [3, 2] rfl rfl ⟨gX5_fst, rfl, trivial⟩ rfl rfl hl.1 (Nat.le_of_ble_eq_true rfl) dX11_area_18 (fun H locs V => ?_)
    refine lv_aload_n X.1 X.2.1 dX11_area_21 rfl (lv_at hl 0 rfl) ?_
    refine gf_X11_46 (i := 0) X V rfl dX11_area_22 ?_
    obtain ⟨x6, hx6, h⟩ := kb_of h
    refine s_callVl (segs' := [gX11 g aT bT zT, gX4 g (bT 0) zT_0, gX8 g (bT 2) x4.2, gX5 g (bT 6) x5]) (ci := 5) (i0 := 0) X V (c_X5_twiceArea l D g (bT 6) x5 x6 hx6) w_X11_263 ⟨Nat.le_of_ble_eq_true rfl, Nat.le_of_ble_eq_true rfl⟩ ⟨Nat.zero_le _, Nat.zero_le _⟩ rfl rfl rfl rfl [3] rfl rfl (kFst_refl _) rfl rfl hl.1 (Nat.le_of_ble_eq_true rfl) dX11_area_25 (fun H locs V => ?_)
    refine lv_l2i X.1 X.2.1 dX11_area_28 rfl ?_
    obtain rfl := Option.some.inj h
    rw [hAA] at V
    rw [hQQ]
    exact k_iret X V rfl dX11_area_29
  · replace h := kif_t hc h
    refine lv_iconst (v := (-1 : Int32)) X.1 X.2.1 dX11_area_8 (by decide) ?_
    obtain rfl := Option.some.inj h
    rw [hAA] at V
    rw [hQQ]
    exact k_iret X V rfl dX11_area_9

def p_X11_layer (zT : tX11) (zT_0 : tX4) (zT_2 : tX8) (zT_8 : tX6) (zT_8_0 : tX8) (zT_8_1 : tX5) (v1 : Int32) (v2 : Int32) : Option (Int32 × tX8 × tX6 × tX8 × tX5) :=
  kb (p_X11_gather zT zT_0 zT_2 v1) (fun x1 => kif ((kz x1.1) = 0) (some ((-1 : Int32), x1.2, zT_8, zT_8_0, zT_8_1)) (kif (v2 = (-1 : Int32)) (kb (p_X6_peel zT_8 zT_8_0 zT_8_1 x1.2) (fun x2 => some (x2.1, x1.2, x2.2.1, x2.2.2.1, x2.2.2.2))) (kb (p_X4_has zT_0 v2) (fun x3 => kif ((kz x3) = 0) (some ((-1 : Int32), x1.2, zT_8, zT_8_0, zT_8_1)) (kb (p_X4_bits zT_0 v1) (fun x4 => kif ((lg_cmp (x4 &&& ((1 : Int64) <<< (v2.toInt64 &&& 63))) (0 : Int64)) = 0) (some ((-1 : Int32), x1.2, zT_8, zT_8_0, zT_8_1)) (kb (p_X6_peel zT_8 zT_8_0 zT_8_1 x1.2) (fun x5 => kb (p_X4_now zT_0) (fun x6 => kb (p_X4_standX zT_0 v2 x6) (fun x7 => kb (p_X4_now zT_0) (fun x8 => kb (p_X4_standY zT_0 v2 x8) (fun x9 => kb (p_X8_indexOf x1.2 x7 x9) (fun x10 => kb (p_X8_number x1.2 x10) (fun x11 => kb (p_X6_layerOf x5.2.1 x11) (fun x12 => some (x12, x1.2, x5.2.1, x5.2.2.1, x5.2.2.2))))))))))))))))
set_option maxHeartbeats 4000000 in
set_option maxRecDepth 100000 in
theorem c_X11_layer (l : Launch) (D : va_G) (g : kG) (aT : Nat → Nat) (bT : Nat → Nat → Nat) (bT_8 : Nat → Nat → Nat) (zT : tX11) (zT_0 : tX4) (zT_2 : tX8) (zT_8 : tX6) (zT_8_0 : tX8) (zT_8_1 : tX5) (v1 : Int32) (v2 : Int32) (r : Int32 × tX8 × tX6 × tX8 × tX5) (h : p_X11_layer zT zT_0 zT_2 zT_8 zT_8_0 zT_8_1 v1 v2 = some r) : kMi l yX11_layer cX11_layer 4 (some .int) (kR 6 134) D (kty g) [.ref (aT 0), .int v1, .int v2] (List.flatten [gX11 g aT bT zT, gX4 g (bT 0) zT_0, gX8 g (bT 2) zT_2, gX6 g (bT 8) bT_8 zT_8, gX8 g (bT_8 0) zT_8_0, gX5 g (bT_8 1) zT_8_1]) r.1 (List.flatten [gX11 g aT bT zT, gX4 g (bT 0) zT_0, gX8 g (bT 2) r.2.1, gX6 g (bT 8) bT_8 r.2.2.1, gX8 g (bT_8 0) r.2.2.2.1, gX5 g (bT_8 1) r.2.2.2.2]) := by
  intro sz
  refine k_enter (lv := [(0, .ref (aT 0)), (1, .int v1), (2, .int v2)]) RX11 (by decide +kernel) rfl rfl (Nat.le_of_ble_eq_true rfl) ?_
  intro p en s m args below meth c ls hsz X V hl
  obtain ⟨QQ, hQQ⟩ : ∃ q, q = MQ below (va_Qi (fun r' (_ : Unit) => r' = r.1) (fun _ => kE D (List.flatten [gX11 g aT bT zT, gX4 g (bT 0) zT_0, gX8 g (bT 2) r.2.1, gX6 g (bT 8) bT_8 r.2.2.1, gX8 g (bT_8 0) r.2.2.2.1, gX5 g (bT_8 1) r.2.2.2.2])) (va_A (List.flatten [gX11 g aT bT zT, gX4 g (bT 0) zT_0, gX8 g (bT 2) zT_2, gX6 g (bT 8) bT_8 zT_8, gX8 g (bT_8 0) zT_8_0, gX5 g (bT_8 1) zT_8_1]) sz)) args s 0 0 (va_A (List.flatten [gX11 g aT bT zT, gX4 g (bT 0) zT_0, gX8 g (bT 2) zT_2, gX6 g (bT 8) bT_8 zT_8, gX8 g (bT_8 0) zT_8_0, gX5 g (bT_8 1) zT_8_1]) sz) := ⟨_, rfl⟩
  rw [← hQQ]
  obtain ⟨AA, hAA⟩ : ∃ q, q = va_A (List.flatten [gX11 g aT bT zT, gX4 g (bT 0) zT_0, gX8 g (bT 2) zT_2, gX6 g (bT 8) bT_8 zT_8, gX8 g (bT_8 0) zT_8_0, gX5 g (bT_8 1) zT_8_1]) sz := ⟨_, rfl⟩
  rw [← hAA] at V
  unfold p_X11_layer at h
  refine lv_aload_n X.1 X.2.1 dX11_layer_0 rfl (lv_at hl 0 rfl) ?_
  refine lv_iload_n X.1 X.2.1 dX11_layer_1 rfl (lv_at hl 1 rfl) ?_
  obtain ⟨x13, hx13, h⟩ := kb_of h
  refine s_callVi (segs' := [gX11 g aT bT zT, gX4 g (bT 0) zT_0, gX8 g (bT 2) x13.2, gX6 g (bT 8) bT_8 zT_8, gX8 g (bT_8 0) zT_8_0, gX5 g (bT_8 1) zT_8_1]) (ci := 11) (i0 := 0) X V (c_X11_gather l D g aT bT zT zT_0 zT_2 v1 x13 hx13) w_X11_196 ⟨Nat.le_of_ble_eq_true rfl, Nat.le_of_ble_eq_true rfl⟩ ⟨Nat.zero_le _, Nat.zero_le _⟩ rfl rfl rfl rfl [0, 1, 2] rfl rfl ⟨rfl, rfl, gX8_fst, trivial⟩ rfl rfl hl.1 (Nat.le_of_ble_eq_true rfl) dX11_layer_2 (fun H locs V => ?_)
  refine lv_if_ne (tgt := 10) X.1 X.2.1 dX11_layer_5 (by decide) (fun hc => ?_) (fun hc => ?_)
  · replace h := kif_f hc h
    refine lv_iload_n X.1 X.2.1 dX11_layer_10 rfl (lv_at hl 2 rfl) ?_
    refine lv_iconst (v := (-1 : Int32)) X.1 X.2.1 dX11_layer_11 (by decide) ?_
    refine lv_icmp_ne (tgt := 27) X.1 X.2.1 dX11_layer_12 (by decide) (fun hc => ?_) (fun hc => ?_)
    · replace h := kif_f hc h
      refine lv_aload_n X.1 X.2.1 dX11_layer_27 rfl (lv_at hl 0 rfl) ?_
      refine gf_X11_10 (i := 0) X V rfl dX11_layer_28 ?_
      refine lv_iload_n X.1 X.2.1 dX11_layer_31 rfl (lv_at hl 2 rfl) ?_
      obtain ⟨x14, hx14, h⟩ := kb_of h
      refine s_callVi (segs' := [gX11 g aT bT zT, gX4 g (bT 0) zT_0, gX8 g (bT 2) x13.2, gX6 g (bT 8) bT_8 zT_8, gX8 g (bT_8 0) zT_8_0, gX5 g (bT_8 1) zT_8_1]) (ci := 4) (i0 := 0) X V (c_X4_has l D g (bT 0) zT_0 v2 x14 hx14) w_X11_144 ⟨Nat.le_of_ble_eq_true rfl, Nat.le_of_ble_eq_true rfl⟩ ⟨Nat.zero_le _, Nat.zero_le _⟩ rfl rfl rfl rfl [1] rfl rfl (kFst_refl _) rfl rfl hl.1 (Nat.le_of_ble_eq_true rfl) dX11_layer_32 (fun H locs V => ?_)
      refine lv_if_eq (tgt := 55) X.1 X.2.1 dX11_layer_35 (by decide) (fun hc => ?_) (fun hc => ?_)
      · replace h := kif_t hc h
        refine lv_iconst (v := (-1 : Int32)) X.1 X.2.1 dX11_layer_55 (by decide) ?_
        obtain rfl := Option.some.inj h
        rw [hAA] at V
        rw [hQQ]
        exact k_iret X V rfl dX11_layer_56
      · replace h := kif_f hc h
        refine lv_aload_n X.1 X.2.1 dX11_layer_38 rfl (lv_at hl 0 rfl) ?_
        refine gf_X11_10 (i := 0) X V rfl dX11_layer_39 ?_
        refine lv_iload_n X.1 X.2.1 dX11_layer_42 rfl (lv_at hl 1 rfl) ?_
        obtain ⟨x15, hx15, h⟩ := kb_of h
        refine s_callVl (segs' := [gX11 g aT bT zT, gX4 g (bT 0) zT_0, gX8 g (bT 2) x13.2, gX6 g (bT 8) bT_8 zT_8, gX8 g (bT_8 0) zT_8_0, gX5 g (bT_8 1) zT_8_1]) (ci := 4) (i0 := 0) X V (c_X4_bits l D g (bT 0) zT_0 v1 x15 hx15) w_X11_167 ⟨Nat.le_of_ble_eq_true rfl, Nat.le_of_ble_eq_true rfl⟩ ⟨Nat.zero_le _, Nat.zero_le _⟩ rfl rfl rfl rfl [1] rfl rfl (kFst_refl _) rfl rfl hl.1 (Nat.le_of_ble_eq_true rfl) dX11_layer_43 (fun H locs V => ?_)
        refine lv_lconst (v := (1 : Int64)) X.1 X.2.1 dX11_layer_46 (by decide) ?_
        refine lv_iload_n X.1 X.2.1 dX11_layer_47 rfl (lv_at hl 2 rfl) ?_
        refine lv_lshl X.1 X.2.1 dX11_layer_48 rfl ?_
        refine lv_land X.1 X.2.1 dX11_layer_49 ?_
        refine lv_lconst (v := (0 : Int64)) X.1 X.2.1 dX11_layer_50 (by decide) ?_
        refine W.lcmp X.1 X.2.1 dX11_layer_51 ?_
        refine lv_if_ne (tgt := 57) X.1 X.2.1 dX11_layer_52 (by decide) (fun hc => ?_) (fun hc => ?_)
        · replace h := kif_f hc h
          refine lv_aload_n X.1 X.2.1 dX11_layer_57 rfl (lv_at hl 0 rfl) ?_
          refine gf_X11_56 (i := 0) X V rfl dX11_layer_58 ?_
          refine lv_aload_n X.1 X.2.1 dX11_layer_61 rfl (lv_at hl 0 rfl) ?_
          refine gf_X11_26 (i := 0) X V rfl dX11_layer_62 ?_
          obtain ⟨x16, hx16, h⟩ := kb_of h
          refine s_callVi (segs' := [gX11 g aT bT zT, gX4 g (bT 0) zT_0, gX8 g (bT 2) x13.2, gX6 g (bT 8) bT_8 x16.2.1, gX8 g (bT_8 0) x16.2.2.1, gX5 g (bT_8 1) x16.2.2.2]) (ci := 6) (i0 := 0) X V (c_X6_peel l D g (bT 8) (bT 2) bT_8 zT_8 zT_8_0 zT_8_1 x13.2 x16 hx16) w_X11_267 ⟨Nat.le_of_ble_eq_true rfl, Nat.le_of_ble_eq_true rfl⟩ ⟨Nat.zero_le _, Nat.zero_le _⟩ rfl rfl rfl rfl [3, 4, 5, 2] rfl rfl ⟨gX6_fst, gX8_fst, gX5_fst, rfl, trivial⟩ rfl rfl hl.1 (Nat.le_of_ble_eq_true rfl) dX11_layer_65 (fun H locs V => ?_)
          refine lv_pop X.1 X.2.1 dX11_layer_68 rfl ?_
          refine lv_aload_n X.1 X.2.1 dX11_layer_69 rfl (lv_at hl 0 rfl) ?_
          refine gf_X11_26 (i := 0) X V rfl dX11_layer_70 ?_
          refine lv_aload_n X.1 X.2.1 dX11_layer_73 rfl (lv_at hl 0 rfl) ?_
          refine gf_X11_10 (i := 0) X V rfl dX11_layer_74 ?_
          refine lv_iload_n X.1 X.2.1 dX11_layer_77 rfl (lv_at hl 2 rfl) ?_
          refine lv_aload_n X.1 X.2.1 dX11_layer_78 rfl (lv_at hl 0 rfl) ?_
          refine gf_X11_10 (i := 0) X V rfl dX11_layer_79 ?_
          obtain ⟨x17, hx17, h⟩ := kb_of h
          refine s_callVi (segs' := [gX11 g aT bT zT, gX4 g (bT 0) zT_0, gX8 g (bT 2) x13.2, gX6 g (bT 8) bT_8 x16.2.1, gX8 g (bT_8 0) x16.2.2.1, gX5 g (bT_8 1) x16.2.2.2]) (ci := 4) (i0 := 0) X V (c_X4_now l D g (bT 0) zT_0 x17 hx17) w_X11_158 ⟨Nat.le_of_ble_eq_true rfl, Nat.le_of_ble_eq_true rfl⟩ ⟨Nat.zero_le _, Nat.zero_le _⟩ rfl rfl rfl rfl [1] rfl rfl (kFst_refl _) rfl rfl hl.1 (Nat.le_of_ble_eq_true rfl) dX11_layer_82 (fun H locs V => ?_)
          obtain ⟨x18, hx18, h⟩ := kb_of h
          refine s_callVi (segs' := [gX11 g aT bT zT, gX4 g (bT 0) zT_0, gX8 g (bT 2) x13.2, gX6 g (bT 8) bT_8 x16.2.1, gX8 g (bT_8 0) x16.2.2.1, gX5 g (bT_8 1) x16.2.2.2]) (ci := 4) (i0 := 0) X V (c_X4_standX l D g (bT 0) zT_0 v2 x17 x18 hx18) w_X11_186 ⟨Nat.le_of_ble_eq_true rfl, Nat.le_of_ble_eq_true rfl⟩ ⟨Nat.zero_le _, Nat.zero_le _⟩ rfl rfl rfl rfl [1] rfl rfl (kFst_refl _) rfl rfl hl.1 (Nat.le_of_ble_eq_true rfl) dX11_layer_85 (fun H locs V => ?_)
          refine lv_aload_n X.1 X.2.1 dX11_layer_88 rfl (lv_at hl 0 rfl) ?_
          refine gf_X11_10 (i := 0) X V rfl dX11_layer_89 ?_
          refine lv_iload_n X.1 X.2.1 dX11_layer_92 rfl (lv_at hl 2 rfl) ?_
          refine lv_aload_n X.1 X.2.1 dX11_layer_93 rfl (lv_at hl 0 rfl) ?_
          refine gf_X11_10 (i := 0) X V rfl dX11_layer_94 ?_
          obtain ⟨x19, hx19, h⟩ := kb_of h
          refine s_callVi (segs' := [gX11 g aT bT zT, gX4 g (bT 0) zT_0, gX8 g (bT 2) x13.2, gX6 g (bT 8) bT_8 x16.2.1, gX8 g (bT_8 0) x16.2.2.1, gX5 g (bT_8 1) x16.2.2.2]) (ci := 4) (i0 := 0) X V (c_X4_now l D g (bT 0) zT_0 x19 hx19) w_X11_158 ⟨Nat.le_of_ble_eq_true rfl, Nat.le_of_ble_eq_true rfl⟩ ⟨Nat.zero_le _, Nat.zero_le _⟩ rfl rfl rfl rfl [1] rfl rfl (kFst_refl _) rfl rfl hl.1 (Nat.le_of_ble_eq_true rfl) dX11_layer_97 (fun H locs V => ?_)
          obtain ⟨x20, hx20, h⟩ := kb_of h
          refine s_callVi (segs' := [gX11 g aT bT zT, gX4 g (bT 0) zT_0, gX8 g (bT 2) x13.2, gX6 g (bT 8) bT_8 x16.2.1, gX8 g (bT_8 0) x16.2.2.1, gX5 g (bT_8 1) x16.2.2.2]) (ci := 4) (i0 := 0) X V (c_X4_standY l D g (bT 0) zT_0 v2 x19 x20 hx20) w_X11_190 ⟨Nat.le_of_ble_eq_true rfl, Nat.le_of_ble_eq_true rfl⟩ ⟨Nat.zero_le _, Nat.zero_le _⟩ rfl rfl rfl rfl [1] rfl rfl (kFst_refl _) rfl rfl hl.1 (Nat.le_of_ble_eq_true rfl) dX11_layer_100 (fun H locs V => ?_)
          obtain ⟨x21, hx21, h⟩ := kb_of h
          refine s_callVi (segs' := [gX11 g aT bT zT, gX4 g (bT 0) zT_0, gX8 g (bT 2) x13.2, gX6 g (bT 8) bT_8 x16.2.1, gX8 g (bT_8 0) x16.2.2.1, gX5 g (bT_8 1) x16.2.2.2]) (ci := 8) (i0 := 0) X V (c_X8_indexOf l D g (bT 2) x13.2 x18 x20 x21 hx21) w_X11_270 ⟨Nat.le_of_ble_eq_true rfl, Nat.le_of_ble_eq_true rfl⟩ ⟨Nat.zero_le _, Nat.zero_le _⟩ rfl rfl rfl rfl [2] rfl rfl (kFst_refl _) rfl rfl hl.1 (Nat.le_of_ble_eq_true rfl) dX11_layer_103 (fun H locs V => ?_)
          refine lv_istore_n (lv' := [(3, .int x21), (0, .ref (aT 0)), (1, .int v1), (2, .int v2)]) X.1 X.2.1 dX11_layer_106 rfl hl (by decide) rfl (fun ls hl => ?_)
          refine lv_aload_n X.1 X.2.1 dX11_layer_107 rfl (lv_at hl 1 rfl) ?_
          refine gf_X11_56 (i := 0) X V rfl dX11_layer_108 ?_
          refine lv_aload_n X.1 X.2.1 dX11_layer_111 rfl (lv_at hl 1 rfl) ?_
          refine gf_X11_26 (i := 0) X V rfl dX11_layer_112 ?_
          refine lv_iload_n X.1 X.2.1 dX11_layer_115 rfl (lv_at hl 0 rfl) ?_
          obtain ⟨x22, hx22, h⟩ := kb_of h
          refine s_callVi (segs' := [gX11 g aT bT zT, gX4 g (bT 0) zT_0, gX8 g (bT 2) x13.2, gX6 g (bT 8) bT_8 x16.2.1, gX8 g (bT_8 0) x16.2.2.1, gX5 g (bT_8 1) x16.2.2.2]) (ci := 8) (i0 := 0) X V (c_X8_number l D g (bT 2) x13.2 x21 x22 hx22) w_X11_204 ⟨Nat.le_of_ble_eq_true rfl, Nat.le_of_ble_eq_true rfl⟩ ⟨Nat.zero_le _, Nat.zero_le _⟩ rfl rfl rfl rfl [2] rfl rfl (kFst_refl _) rfl rfl hl.1 (Nat.le_of_ble_eq_true rfl) dX11_layer_116 (fun H locs V => ?_)
          obtain ⟨x23, hx23, h⟩ := kb_of h
          refine s_callVi (segs' := [gX11 g aT bT zT, gX4 g (bT 0) zT_0, gX8 g (bT 2) x13.2, gX6 g (bT 8) bT_8 x16.2.1, gX8 g (bT_8 0) x16.2.2.1, gX5 g (bT_8 1) x16.2.2.2]) (ci := 6) (i0 := 0) X V (c_X6_layerOf l D g (bT 8) bT_8 x16.2.1 x22 x23 hx23) w_X11_273 ⟨Nat.le_of_ble_eq_true rfl, Nat.le_of_ble_eq_true rfl⟩ ⟨Nat.zero_le _, Nat.zero_le _⟩ rfl rfl rfl rfl [3] rfl rfl (kFst_refl _) rfl rfl hl.1 (Nat.le_of_ble_eq_true rfl) dX11_layer_119 (fun H locs V => ?_)
          obtain rfl := Option.some.inj h
          rw [hAA] at V
          rw [hQQ]
          exact k_iret X V rfl dX11_layer_122
        · replace h := kif_t hc h
          refine lv_iconst (v := (-1 : Int32)) X.1 X.2.1 dX11_layer_55 (by decide) ?_
          obtain rfl := Option.some.inj h
          rw [hAA] at V
          rw [hQQ]
          exact k_iret X V rfl dX11_layer_56
    · replace h := kif_t hc h
      refine lv_aload_n X.1 X.2.1 dX11_layer_15 rfl (lv_at hl 0 rfl) ?_
      refine gf_X11_56 (i := 0) X V rfl dX11_layer_16 ?_
      refine lv_aload_n X.1 X.2.1 dX11_layer_19 rfl (lv_at hl 0 rfl) ?_
      refine gf_X11_26 (i := 0) X V rfl dX11_layer_20 ?_
      obtain ⟨x24, hx24, h⟩ := kb_of h
      refine s_callVi (segs' := [gX11 g aT bT zT, gX4 g (bT 0) zT_0, gX8 g (bT 2) x13.2, gX6 g (bT 8) bT_8 x24.2.1, gX8 g (bT_8 0) x24.2.2.1, gX5 g (bT_8 1) x24.2.2.2]) (ci := 6) (i0 := 0) X V (c_X6_peel l D g (bT 8) (bT 2) bT_8 zT_8 zT_8_0 zT_8_1 x13.2 x24 hx24) w_X11_267 ⟨Nat.le_of_ble_eq_true rfl, Nat.le_of_ble_eq_true rfl⟩ ⟨Nat.zero_le _, Nat.zero_le _⟩ rfl rfl rfl rfl [3, 4, 5, 2] rfl rfl ⟨gX6_fst, gX8_fst, gX5_fst, rfl, trivial⟩ rfl rfl hl.1 (Nat.le_of_ble_eq_true rfl) dX11_layer_23 (fun H locs V => ?_)
      obtain rfl := Option.some.inj h
      rw [hAA] at V
      rw [hQQ]
      exact k_iret X V rfl dX11_layer_26
  · replace h := kif_t hc h
    refine lv_iconst (v := (-1 : Int32)) X.1 X.2.1 dX11_layer_8 (by decide) ?_
    obtain rfl := Option.some.inj h
    rw [hAA] at V
    rw [hQQ]
    exact k_iret X V rfl dX11_layer_9

def p_X11_outlineIsWide (zT : tX11) (zT_0 : tX4) (zT_2 : tX8) (zT_6 : tX5) (v1 : Int32) : Option (Bool × tX8 × tX5) :=
  kb (p_X11_gather zT zT_0 zT_2 v1) (fun x1 => kif ((kz x1.1) = 0) (some (false, x1.2, zT_6)) (kb (p_X5_about zT_6 x1.2) (fun x2 => kb (p_X5_count x2) (fun x3 => kif (x3 ≤ (2 : Int32)) (some (false, x1.2, x2)) (some (true, x1.2, x2))))))
set_option maxHeartbeats 4000000 in
set_option maxRecDepth 100000 in
theorem c_X11_outlineIsWide (l : Launch) (D : va_G) (g : kG) (aT : Nat → Nat) (bT : Nat → Nat → Nat) (zT : tX11) (zT_0 : tX4) (zT_2 : tX8) (zT_6 : tX5) (v1 : Int32) (r : Bool × tX8 × tX5) (h : p_X11_outlineIsWide zT zT_0 zT_2 zT_6 v1 = some r) : kMi l yX11_outlineIsWide cX11_outlineIsWide 2 (some .boolean) (kR 5 116) D (kty g) [.ref (aT 0), .int v1] (List.flatten [gX11 g aT bT zT, gX4 g (bT 0) zT_0, gX8 g (bT 2) zT_2, gX5 g (bT 6) zT_6]) (kz r.1) (List.flatten [gX11 g aT bT zT, gX4 g (bT 0) zT_0, gX8 g (bT 2) r.2.1, gX5 g (bT 6) r.2.2]) := by
  intro sz
  refine k_enter (lv := [(0, .ref (aT 0)), (1, .int v1)]) RX11 (by decide +kernel) rfl rfl (Nat.le_of_ble_eq_true rfl) ?_
  intro p en s m args below meth c ls hsz X V hl
  obtain ⟨QQ, hQQ⟩ : ∃ q, q = MQ below (va_Qi (fun r' (_ : Unit) => r' = kz r.1) (fun _ => kE D (List.flatten [gX11 g aT bT zT, gX4 g (bT 0) zT_0, gX8 g (bT 2) r.2.1, gX5 g (bT 6) r.2.2])) (va_A (List.flatten [gX11 g aT bT zT, gX4 g (bT 0) zT_0, gX8 g (bT 2) zT_2, gX5 g (bT 6) zT_6]) sz)) args s 0 0 (va_A (List.flatten [gX11 g aT bT zT, gX4 g (bT 0) zT_0, gX8 g (bT 2) zT_2, gX5 g (bT 6) zT_6]) sz) := ⟨_, rfl⟩
  rw [← hQQ]
  obtain ⟨AA, hAA⟩ : ∃ q, q = va_A (List.flatten [gX11 g aT bT zT, gX4 g (bT 0) zT_0, gX8 g (bT 2) zT_2, gX5 g (bT 6) zT_6]) sz := ⟨_, rfl⟩
  rw [← hAA] at V
  unfold p_X11_outlineIsWide at h
  refine lv_aload_n X.1 X.2.1 dX11_outlineIsWide_0 rfl (lv_at hl 0 rfl) ?_
  refine lv_iload_n X.1 X.2.1 dX11_outlineIsWide_1 rfl (lv_at hl 1 rfl) ?_
  obtain ⟨x4, hx4, h⟩ := kb_of h
  refine s_callVi (segs' := [gX11 g aT bT zT, gX4 g (bT 0) zT_0, gX8 g (bT 2) x4.2, gX5 g (bT 6) zT_6]) (ci := 11) (i0 := 0) X V (c_X11_gather l D g aT bT zT zT_0 zT_2 v1 x4 hx4) w_X11_196 ⟨Nat.le_of_ble_eq_true rfl, Nat.le_of_ble_eq_true rfl⟩ ⟨Nat.zero_le _, Nat.zero_le _⟩ rfl rfl rfl rfl [0, 1, 2] rfl rfl ⟨rfl, rfl, gX8_fst, trivial⟩ rfl rfl hl.1 (Nat.le_of_ble_eq_true rfl) dX11_outlineIsWide_2 (fun H locs V => ?_)
  refine lv_if_ne (tgt := 10) X.1 X.2.1 dX11_outlineIsWide_5 (by decide) (fun hc => ?_) (fun hc => ?_)
  · replace h := kif_f hc h
    refine lv_aload_n X.1 X.2.1 dX11_outlineIsWide_10 rfl (lv_at hl 0 rfl) ?_
    refine gf_X11_46 (i := 0) X V rfl dX11_outlineIsWide_11 ?_
    refine lv_aload_n X.1 X.2.1 dX11_outlineIsWide_14 rfl (lv_at hl 0 rfl) ?_
    refine gf_X11_26 (i := 0) X V rfl dX11_outlineIsWide_15 ?_
    obtain ⟨x5, hx5, h⟩ := kb_of h
    refine s_callVv (segs' := [gX11 g aT bT zT, gX4 g (bT 0) zT_0, gX8 g (bT 2) x4.2, gX5 g (bT 6) x5]) (ci := 5) (i0 := 0) X V (c_X5_about l D g (bT 6) (bT 2) zT_6 x4.2 x5 hx5) w_X11_260 ⟨Nat.le_of_ble_eq_true rfl, Nat.le_of_ble_eq_true rfl⟩ ⟨Nat.zero_le _, Nat.zero_le _⟩ rfl rfl rfl rfl [3, 2] rfl rfl ⟨gX5_fst, rfl, trivial⟩ rfl rfl hl.1 (Nat.le_of_ble_eq_true rfl) dX11_outlineIsWide_18 (fun H locs V => ?_)
    refine lv_aload_n X.1 X.2.1 dX11_outlineIsWide_21 rfl (lv_at hl 0 rfl) ?_
    refine gf_X11_46 (i := 0) X V rfl dX11_outlineIsWide_22 ?_
    obtain ⟨x6, hx6, h⟩ := kb_of h
    refine s_callVi (segs' := [gX11 g aT bT zT, gX4 g (bT 0) zT_0, gX8 g (bT 2) x4.2, gX5 g (bT 6) x5]) (ci := 5) (i0 := 0) X V (c_X5_count l D g (bT 6) x5 x6 hx6) w_X11_261 ⟨Nat.le_of_ble_eq_true rfl, Nat.le_of_ble_eq_true rfl⟩ ⟨Nat.zero_le _, Nat.zero_le _⟩ rfl rfl rfl rfl [3] rfl rfl (kFst_refl _) rfl rfl hl.1 (Nat.le_of_ble_eq_true rfl) dX11_outlineIsWide_25 (fun H locs V => ?_)
    refine lv_iconst (v := (2 : Int32)) X.1 X.2.1 dX11_outlineIsWide_28 (by decide) ?_
    refine lv_icmp_le (tgt := 36) X.1 X.2.1 dX11_outlineIsWide_29 (by decide) (fun hc => ?_) (fun hc => ?_)
    · replace h := kif_t hc h
      refine lv_iconst (v := (0 : Int32)) X.1 X.2.1 dX11_outlineIsWide_36 (by decide) ?_
      obtain rfl := Option.some.inj h
      rw [hAA] at V
      rw [hQQ]
      exact k_zret X V (b := false) rfl rfl dX11_outlineIsWide_37
    · replace h := kif_f hc h
      refine lv_iconst (v := (1 : Int32)) X.1 X.2.1 dX11_outlineIsWide_32 (by decide) ?_
      refine lv_goto (tgt := 37) X.1 X.2.1 dX11_outlineIsWide_33 (by decide) ?_
      obtain rfl := Option.some.inj h
      rw [hAA] at V
      rw [hQQ]
      exact k_zret X V (b := true) rfl rfl dX11_outlineIsWide_37
  · replace h := kif_t hc h
    refine lv_iconst (v := (0 : Int32)) X.1 X.2.1 dX11_outlineIsWide_8 (by decide) ?_
    obtain rfl := Option.some.inj h
    rw [hAA] at V
    rw [hQQ]
    exact k_zret X V (b := false) rfl rfl dX11_outlineIsWide_9

def p_X11_strip (zT : tX11) (zT_0 : tX4) (zT_2 : tX8) (zT_6 : tX5) (zT_13 : tX3) (v1 : Int32) (v2 : Int32) : Option (Int64 × tX8 × tX5 × tX3) :=
  kif (v2 < 0) (some ((-1 : Int64), zT_2, zT_6, zT_13)) (kif ((2 : Int32) < v2) (some ((-1 : Int64), zT_2, zT_6, zT_13)) (kb (p_X11_outlineIsWide zT zT_0 zT_2 zT_6 v1) (fun x1 => kif ((kz x1.1) = 0) (some ((-1 : Int64), x1.2.1, x1.2.2, zT_13)) (kb (p_X5_narrowest x1.2.2 zT_13) (fun x2 => kif (v2 = (2 : Int32)) (some (x2.1.toInt64, x1.2.1, x1.2.2, x2.2)) (kb (p_X3_part x2.2 v2) (fun x3 => some (x3, x1.2.1, x1.2.2, x2.2))))))))
set_option maxHeartbeats 4000000 in
set_option maxRecDepth 100000 in
theorem c_X11_strip (l : Launch) (D : va_G) (g : kG) (aT : Nat → Nat) (bT : Nat → Nat → Nat) (zT : tX11) (zT_0 : tX4) (zT_2 : tX8) (zT_6 : tX5) (zT_13 : tX3) (v1 : Int32) (v2 : Int32) (r : Int64 × tX8 × tX5 × tX3) (h : p_X11_strip zT zT_0 zT_2 zT_6 zT_13 v1 v2 = some r) : kMl l yX11_strip cX11_strip 4 (some .long) (kR 6 137) D (kty g) [.ref (aT 0), .int v1, .int v2] (List.flatten [gX11 g aT bT zT, gX4 g (bT 0) zT_0, gX8 g (bT 2) zT_2, gX5 g (bT 6) zT_6, gX3 g (bT 13) zT_13]) r.1 (List.flatten [gX11 g aT bT zT, gX4 g (bT 0) zT_0, gX8 g (bT 2) r.2.1, gX5 g (bT 6) r.2.2.1, gX3 g (bT 13) r.2.2.2]) := by
  intro sz
  refine k_enter (lv := [(0, .ref (aT 0)), (1, .int v1), (2, .int v2)]) RX11 (by decide +kernel) rfl rfl (Nat.le_of_ble_eq_true rfl) ?_
  intro p en s m args below meth c ls hsz X V hl
  obtain ⟨QQ, hQQ⟩ : ∃ q, q = MQ below (va_Ql (fun r' (_ : Unit) => r' = r.1) (fun _ => kE D (List.flatten [gX11 g aT bT zT, gX4 g (bT 0) zT_0, gX8 g (bT 2) r.2.1, gX5 g (bT 6) r.2.2.1, gX3 g (bT 13) r.2.2.2])) (va_A (List.flatten [gX11 g aT bT zT, gX4 g (bT 0) zT_0, gX8 g (bT 2) zT_2, gX5 g (bT 6) zT_6, gX3 g (bT 13) zT_13]) sz)) args s 0 0 (va_A (List.flatten [gX11 g aT bT zT, gX4 g (bT 0) zT_0, gX8 g (bT 2) zT_2, gX5 g (bT 6) zT_6, gX3 g (bT 13) zT_13]) sz) := ⟨_, rfl⟩
  rw [← hQQ]
  obtain ⟨AA, hAA⟩ : ∃ q, q = va_A (List.flatten [gX11 g aT bT zT, gX4 g (bT 0) zT_0, gX8 g (bT 2) zT_2, gX5 g (bT 6) zT_6, gX3 g (bT 13) zT_13]) sz := ⟨_, rfl⟩
  rw [← hAA] at V
  unfold p_X11_strip at h
  refine lv_iload_n X.1 X.2.1 dX11_strip_0 rfl (lv_at hl 2 rfl) ?_
  refine lv_if_lt (tgt := 17) X.1 X.2.1 dX11_strip_1 (by decide) (fun hc => ?_) (fun hc => ?_)
  · replace h := kif_t hc h
    refine lv_ldc2 (v := (-1 : Int64)) X.1 X.2.1 X.2.2.2.1 (X.2.2.2.2.1 _ kc_X11_242) dX11_strip_17 ?_
    obtain rfl := Option.some.inj h
    rw [hAA] at V
    rw [hQQ]
    exact k_lret X V rfl dX11_strip_20
  · replace h := kif_f hc h
    refine lv_iload_n X.1 X.2.1 dX11_strip_4 rfl (lv_at hl 2 rfl) ?_
    refine lv_iconst (v := (2 : Int32)) X.1 X.2.1 dX11_strip_5 (by decide) ?_
    refine lv_icmp_gt (tgt := 17) X.1 X.2.1 dX11_strip_6 (by decide) (fun hc => ?_) (fun hc => ?_)
    · replace h := kif_t hc h
      refine lv_ldc2 (v := (-1 : Int64)) X.1 X.2.1 X.2.2.2.1 (X.2.2.2.2.1 _ kc_X11_242) dX11_strip_17 ?_
      obtain rfl := Option.some.inj h
      rw [hAA] at V
      rw [hQQ]
      exact k_lret X V rfl dX11_strip_20
    · replace h := kif_f hc h
      refine lv_aload_n X.1 X.2.1 dX11_strip_9 rfl (lv_at hl 0 rfl) ?_
      refine lv_iload_n X.1 X.2.1 dX11_strip_10 rfl (lv_at hl 1 rfl) ?_
      obtain ⟨x4, hx4, h⟩ := kb_of h
      refine s_callVi (segs' := [gX11 g aT bT zT, gX4 g (bT 0) zT_0, gX8 g (bT 2) x4.2.1, gX5 g (bT 6) x4.2.2, gX3 g (bT 13) zT_13]) (ci := 11) (i0 := 0) X V (c_X11_outlineIsWide l D g aT bT zT zT_0 zT_2 zT_6 v1 x4 hx4) w_X11_276 ⟨Nat.le_of_ble_eq_true rfl, Nat.le_of_ble_eq_true rfl⟩ ⟨Nat.zero_le _, Nat.zero_le _⟩ rfl rfl rfl rfl [0, 1, 2, 3] rfl rfl ⟨rfl, rfl, gX8_fst, gX5_fst, trivial⟩ rfl rfl hl.1 (Nat.le_of_ble_eq_true rfl) dX11_strip_11 (fun H locs V => ?_)
      refine lv_if_ne (tgt := 21) X.1 X.2.1 dX11_strip_14 (by decide) (fun hc => ?_) (fun hc => ?_)
      · replace h := kif_f hc h
        refine lv_aload_n X.1 X.2.1 dX11_strip_21 rfl (lv_at hl 0 rfl) ?_
        refine gf_X11_46 (i := 0) X V rfl dX11_strip_22 ?_
        refine lv_aload_n X.1 X.2.1 dX11_strip_25 rfl (lv_at hl 0 rfl) ?_
        refine gf_X11_91 (i := 0) X V rfl dX11_strip_26 ?_
        obtain ⟨x5, hx5, h⟩ := kb_of h
        refine s_callVi (segs' := [gX11 g aT bT zT, gX4 g (bT 0) zT_0, gX8 g (bT 2) x4.2.1, gX5 g (bT 6) x4.2.2, gX3 g (bT 13) x5.2]) (ci := 5) (i0 := 0) X V (c_X5_narrowest l D g (bT 6) (bT 13) x4.2.2 zT_13 x5 hx5) w_X11_279 ⟨Nat.le_of_ble_eq_true rfl, Nat.le_of_ble_eq_true rfl⟩ ⟨Nat.zero_le _, Nat.zero_le _⟩ rfl rfl rfl rfl [3, 4] rfl rfl ⟨rfl, gX3_fst, trivial⟩ rfl rfl hl.1 (Nat.le_of_ble_eq_true rfl) dX11_strip_29 (fun H locs V => ?_)
        refine lv_istore_n (lv' := [(3, .int x5.1), (0, .ref (aT 0)), (1, .int v1), (2, .int v2)]) X.1 X.2.1 dX11_strip_32 rfl hl (by decide) rfl (fun ls hl => ?_)
        refine lv_iload_n X.1 X.2.1 dX11_strip_33 rfl (lv_at hl 3 rfl) ?_
        refine lv_iconst (v := (2 : Int32)) X.1 X.2.1 dX11_strip_34 (by decide) ?_
        refine lv_icmp_ne (tgt := 43) X.1 X.2.1 dX11_strip_35 (by decide) (fun hc => ?_) (fun hc => ?_)
        · replace h := kif_f hc h
          refine lv_aload_n X.1 X.2.1 dX11_strip_43 rfl (lv_at hl 1 rfl) ?_
          refine gf_X11_91 (i := 0) X V rfl dX11_strip_44 ?_
          refine lv_iload_n X.1 X.2.1 dX11_strip_47 rfl (lv_at hl 3 rfl) ?_
          obtain ⟨x6, hx6, h⟩ := kb_of h
          refine s_callVl (segs' := [gX11 g aT bT zT, gX4 g (bT 0) zT_0, gX8 g (bT 2) x4.2.1, gX5 g (bT 6) x4.2.2, gX3 g (bT 13) x5.2]) (ci := 3) (i0 := 0) X V (c_X3_part l D g (bT 13) x5.2 v2 x6 hx6) w_X11_223 ⟨Nat.le_of_ble_eq_true rfl, Nat.le_of_ble_eq_true rfl⟩ ⟨Nat.zero_le _, Nat.zero_le _⟩ rfl rfl rfl rfl [4] rfl rfl (kFst_refl _) rfl rfl hl.1 (Nat.le_of_ble_eq_true rfl) dX11_strip_48 (fun H locs V => ?_)
          obtain rfl := Option.some.inj h
          rw [hAA] at V
          rw [hQQ]
          exact k_lret X V rfl dX11_strip_51
        · replace h := kif_t hc h
          refine lv_iload_n X.1 X.2.1 dX11_strip_38 rfl (lv_at hl 0 rfl) ?_
          refine lv_i2l X.1 X.2.1 dX11_strip_39 rfl ?_
          refine lv_goto (tgt := 51) X.1 X.2.1 dX11_strip_40 (by decide) ?_
          obtain rfl := Option.some.inj h
          rw [hAA] at V
          rw [hQQ]
          exact k_lret X V rfl dX11_strip_51
      · replace h := kif_t hc h
        refine lv_ldc2 (v := (-1 : Int64)) X.1 X.2.1 X.2.2.2.1 (X.2.2.2.2.1 _ kc_X11_242) dX11_strip_17 ?_
        obtain rfl := Option.some.inj h
        rw [hAA] at V
        rw [hQQ]
        exact k_lret X V rfl dX11_strip_20

def p_X11_couple_J88 (zT : tX11) (zT_0 : tX4) (v1 : Int32) (v2 : Int32) (v3 : Int32) (zT_2 : tX8) (zT_9 : tX1) (k88_1 : Int32) : Option (Int32 × tX8 × tX1) :=
  kb (p_X8_number zT_2 k88_1) (fun x6 => some (x6, zT_2, zT_9))
def p_X11_couple (zT : tX11) (zT_0 : tX4) (zT_2 : tX8) (zT_9 : tX1) (v1 : Int32) (v2 : Int32) (v3 : Int32) : Option (Int32 × tX8 × tX1) :=
  kif (v2 < 0) (some ((-1 : Int32), zT_2, zT_9)) (kif (v3 < 0) (some ((-1 : Int32), zT_2, zT_9)) (kif ((2 : Int32) < v3) (some ((-1 : Int32), zT_2, zT_9)) (kb (p_X11_gather zT zT_0 zT_2 v1) (fun x1 => kif ((kz x1.1) = 0) (some ((-1 : Int32), x1.2, zT_9)) (kb (p_X1_order zT_9 x1.2) (fun x2 => kb (p_X1_count x2) (fun x3 => kif (v2 < x3) (kif (v3 = 0) (kb (p_X1_distance x2 v2) (fun x4 => some (x4, x1.2, x2))) (kif (v3 = (1 : Int32)) (kb (p_X1_first x2 v2) (fun x5 => p_X11_couple_J88 zT zT_0 v1 v2 v3 x1.2 x2 x5)) (kb (p_X1_second x2 v2) (fun x7 => p_X11_couple_J88 zT zT_0 v1 v2 v3 x1.2 x2 x7)))) (some ((-1 : Int32), x1.2, x2)))))))))
set_option maxHeartbeats 4000000 in
set_option maxRecDepth 100000 in
theorem c_X11_couple (l : Launch) (D : va_G) (g : kG) (aT : Nat → Nat) (bT : Nat → Nat → Nat) (zT : tX11) (zT_0 : tX4) (zT_2 : tX8) (zT_9 : tX1) (v1 : Int32) (v2 : Int32) (v3 : Int32) (r : Int32 × tX8 × tX1) (h : p_X11_couple zT zT_0 zT_2 zT_9 v1 v2 v3 = some r) : kMi l yX11_couple cX11_couple 4 (some .int) (kR 5 116) D (kty g) [.ref (aT 0), .int v1, .int v2, .int v3] (List.flatten [gX11 g aT bT zT, gX4 g (bT 0) zT_0, gX8 g (bT 2) zT_2, gX1 g (bT 9) zT_9]) r.1 (List.flatten [gX11 g aT bT zT, gX4 g (bT 0) zT_0, gX8 g (bT 2) r.2.1, gX1 g (bT 9) r.2.2]) := by
  intro sz
  refine k_enter (lv := [(0, .ref (aT 0)), (1, .int v1), (2, .int v2), (3, .int v3)]) RX11 (by decide +kernel) rfl rfl (Nat.le_of_ble_eq_true rfl) ?_
  intro p en s m args below meth c ls hsz X V hl
  obtain ⟨QQ, hQQ⟩ : ∃ q, q = MQ below (va_Qi (fun r' (_ : Unit) => r' = r.1) (fun _ => kE D (List.flatten [gX11 g aT bT zT, gX4 g (bT 0) zT_0, gX8 g (bT 2) r.2.1, gX1 g (bT 9) r.2.2])) (va_A (List.flatten [gX11 g aT bT zT, gX4 g (bT 0) zT_0, gX8 g (bT 2) zT_2, gX1 g (bT 9) zT_9]) sz)) args s 0 0 (va_A (List.flatten [gX11 g aT bT zT, gX4 g (bT 0) zT_0, gX8 g (bT 2) zT_2, gX1 g (bT 9) zT_9]) sz) := ⟨_, rfl⟩
  rw [← hQQ]
  obtain ⟨AA, hAA⟩ : ∃ q, q = va_A (List.flatten [gX11 g aT bT zT, gX4 g (bT 0) zT_0, gX8 g (bT 2) zT_2, gX1 g (bT 9) zT_9]) sz := ⟨_, rfl⟩
  rw [← hAA] at V
  have J88 : ∀ (zT_2 : tX8) (zT_9 : tX1) (k88_1 : Int32) (H : Heap) (locs : List Loc) (ls : Array Slot), p_X11_couple_J88 zT zT_0 v1 v2 v3 zT_2 zT_9 k88_1 = some r → kW D AA s.heap H (List.flatten [gX11 g aT bT zT, gX4 g (bT 0) zT_0, gX8 g (bT 2) zT_2, gX1 g (bT 9) zT_9]) locs → lv_has ls 4 [] → W p l en (kR 5 116) s m args below meth c H locs 0 0 QQ (F0 m 88 ls [.int k88_1, .ref ((bT 2) 0)]) := by
    intro zT_2 zT_9 k88_1 H locs ls h V hl
    unfold p_X11_couple_J88 at h
    obtain ⟨x8, hx8, h⟩ := kb_of h
    refine s_callVi (segs' := [gX11 g aT bT zT, gX4 g (bT 0) zT_0, gX8 g (bT 2) zT_2, gX1 g (bT 9) zT_9]) (ci := 8) (i0 := 0) X V (c_X8_number l D g (bT 2) zT_2 k88_1 x8 hx8) w_X11_204 ⟨Nat.le_of_ble_eq_true rfl, Nat.le_of_ble_eq_true rfl⟩ ⟨Nat.zero_le _, Nat.zero_le _⟩ rfl rfl rfl rfl [2] rfl rfl (kFst_refl _) rfl rfl hl.1 (Nat.le_of_ble_eq_true rfl) dX11_couple_88 (fun H locs V => ?_)
    obtain rfl := Option.some.inj h
    rw [hAA] at V
    rw [hQQ]
    exact k_iret X V rfl dX11_couple_91
  unfold p_X11_couple at h
  refine lv_iload_n X.1 X.2.1 dX11_couple_0 rfl (lv_at hl 2 rfl) ?_
  refine lv_if_lt (tgt := 21) X.1 X.2.1 dX11_couple_1 (by decide) (fun hc => ?_) (fun hc => ?_)
  · replace h := kif_t hc h
    refine lv_iconst (v := (-1 : Int32)) X.1 X.2.1 dX11_couple_21 (by decide) ?_
    obtain rfl := Option.some.inj h
    rw [hAA] at V
    rw [hQQ]
    exact k_iret X V rfl dX11_couple_22
  · replace h := kif_f hc h
    refine lv_iload_n X.1 X.2.1 dX11_couple_4 rfl (lv_at hl 3 rfl) ?_
    refine lv_if_lt (tgt := 21) X.1 X.2.1 dX11_couple_5 (by decide) (fun hc => ?_) (fun hc => ?_)
    · replace h := kif_t hc h
      refine lv_iconst (v := (-1 : Int32)) X.1 X.2.1 dX11_couple_21 (by decide) ?_
      obtain rfl := Option.some.inj h
      rw [hAA] at V
      rw [hQQ]
      exact k_iret X V rfl dX11_couple_22
    · replace h := kif_f hc h
      refine lv_iload_n X.1 X.2.1 dX11_couple_8 rfl (lv_at hl 3 rfl) ?_
      refine lv_iconst (v := (2 : Int32)) X.1 X.2.1 dX11_couple_9 (by decide) ?_
      refine lv_icmp_gt (tgt := 21) X.1 X.2.1 dX11_couple_10 (by decide) (fun hc => ?_) (fun hc => ?_)
      · replace h := kif_t hc h
        refine lv_iconst (v := (-1 : Int32)) X.1 X.2.1 dX11_couple_21 (by decide) ?_
        obtain rfl := Option.some.inj h
        rw [hAA] at V
        rw [hQQ]
        exact k_iret X V rfl dX11_couple_22
      · replace h := kif_f hc h
        refine lv_aload_n X.1 X.2.1 dX11_couple_13 rfl (lv_at hl 0 rfl) ?_
        refine lv_iload_n X.1 X.2.1 dX11_couple_14 rfl (lv_at hl 1 rfl) ?_
        obtain ⟨x9, hx9, h⟩ := kb_of h
        refine s_callVi (segs' := [gX11 g aT bT zT, gX4 g (bT 0) zT_0, gX8 g (bT 2) x9.2, gX1 g (bT 9) zT_9]) (ci := 11) (i0 := 0) X V (c_X11_gather l D g aT bT zT zT_0 zT_2 v1 x9 hx9) w_X11_196 ⟨Nat.le_of_ble_eq_true rfl, Nat.le_of_ble_eq_true rfl⟩ ⟨Nat.zero_le _, Nat.zero_le _⟩ rfl rfl rfl rfl [0, 1, 2] rfl rfl ⟨rfl, rfl, gX8_fst, trivial⟩ rfl rfl hl.1 (Nat.le_of_ble_eq_true rfl) dX11_couple_15 (fun H locs V => ?_)
        refine lv_if_ne (tgt := 23) X.1 X.2.1 dX11_couple_18 (by decide) (fun hc => ?_) (fun hc => ?_)
        · replace h := kif_f hc h
          refine lv_aload_n X.1 X.2.1 dX11_couple_23 rfl (lv_at hl 0 rfl) ?_
          refine gf_X11_63 (i := 0) X V rfl dX11_couple_24 ?_
          refine lv_aload_n X.1 X.2.1 dX11_couple_27 rfl (lv_at hl 0 rfl) ?_
          refine gf_X11_26 (i := 0) X V rfl dX11_couple_28 ?_
          obtain ⟨x10, hx10, h⟩ := kb_of h
          refine s_callVv (segs' := [gX11 g aT bT zT, gX4 g (bT 0) zT_0, gX8 g (bT 2) x9.2, gX1 g (bT 9) x10]) (ci := 1) (i0 := 0) X V (c_X1_order l D g (bT 9) (bT 2) zT_9 x9.2 x10 hx10) w_X11_283 ⟨Nat.le_of_ble_eq_true rfl, Nat.le_of_ble_eq_true rfl⟩ ⟨Nat.zero_le _, Nat.zero_le _⟩ rfl rfl rfl rfl [3, 2] rfl rfl ⟨gX1_fst, rfl, trivial⟩ rfl rfl hl.1 (Nat.le_of_ble_eq_true rfl) dX11_couple_31 (fun H locs V => ?_)
          refine lv_iload_n X.1 X.2.1 dX11_couple_34 rfl (lv_at hl 2 rfl) ?_
          refine lv_aload_n X.1 X.2.1 dX11_couple_35 rfl (lv_at hl 0 rfl) ?_
          refine gf_X11_63 (i := 0) X V rfl dX11_couple_36 ?_
          obtain ⟨x11, hx11, h⟩ := kb_of h
          refine s_callVi (segs' := [gX11 g aT bT zT, gX4 g (bT 0) zT_0, gX8 g (bT 2) x9.2, gX1 g (bT 9) x10]) (ci := 1) (i0 := 0) X V (c_X1_count l D g (bT 9) x10 x11 hx11) w_X11_286 ⟨Nat.le_of_ble_eq_true rfl, Nat.le_of_ble_eq_true rfl⟩ ⟨Nat.zero_le _, Nat.zero_le _⟩ rfl rfl rfl rfl [3] rfl rfl (kFst_refl _) rfl rfl hl.1 (Nat.le_of_ble_eq_true rfl) dX11_couple_39 (fun H locs V => ?_)
          refine lv_icmp_lt (tgt := 47) X.1 X.2.1 dX11_couple_42 (by decide) (fun hc => ?_) (fun hc => ?_)
          · replace h := kif_t hc h
            refine lv_iload_n X.1 X.2.1 dX11_couple_47 rfl (lv_at hl 3 rfl) ?_
            refine lv_if_ne (tgt := 60) X.1 X.2.1 dX11_couple_48 (by decide) (fun hc => ?_) (fun hc => ?_)
            · replace h := kif_f hc h
              refine lv_aload_n X.1 X.2.1 dX11_couple_60 rfl (lv_at hl 0 rfl) ?_
              refine gf_X11_26 (i := 0) X V rfl dX11_couple_61 ?_
              refine lv_iload_n X.1 X.2.1 dX11_couple_64 rfl (lv_at hl 3 rfl) ?_
              refine lv_iconst (v := (1 : Int32)) X.1 X.2.1 dX11_couple_65 (by decide) ?_
              refine lv_icmp_ne (tgt := 80) X.1 X.2.1 dX11_couple_66 (by decide) (fun hc => ?_) (fun hc => ?_)
              · replace h := kif_f hc h
                refine lv_aload_n X.1 X.2.1 dX11_couple_80 rfl (lv_at hl 0 rfl) ?_
                refine gf_X11_63 (i := 0) X V rfl dX11_couple_81 ?_
                refine lv_iload_n X.1 X.2.1 dX11_couple_84 rfl (lv_at hl 2 rfl) ?_
                obtain ⟨x12, hx12, h⟩ := kb_of h
                refine s_callVi (segs' := [gX11 g aT bT zT, gX4 g (bT 0) zT_0, gX8 g (bT 2) x9.2, gX1 g (bT 9) x10]) (ci := 1) (i0 := 0) X V (c_X1_second l D g (bT 9) x10 v2 x12 hx12) w_X11_293 ⟨Nat.le_of_ble_eq_true rfl, Nat.le_of_ble_eq_true rfl⟩ ⟨Nat.zero_le _, Nat.zero_le _⟩ rfl rfl rfl rfl [3] rfl rfl (kFst_refl _) rfl rfl hl.1 (Nat.le_of_ble_eq_true rfl) dX11_couple_85 (fun H locs V => ?_)
                exact J88 x9.2 x10 x12 _ _ _ h V (lv_sub hl [] rfl)
              · replace h := kif_t hc h
                refine lv_aload_n X.1 X.2.1 dX11_couple_69 rfl (lv_at hl 0 rfl) ?_
                refine gf_X11_63 (i := 0) X V rfl dX11_couple_70 ?_
                refine lv_iload_n X.1 X.2.1 dX11_couple_73 rfl (lv_at hl 2 rfl) ?_
                obtain ⟨x13, hx13, h⟩ := kb_of h
                refine s_callVi (segs' := [gX11 g aT bT zT, gX4 g (bT 0) zT_0, gX8 g (bT 2) x9.2, gX1 g (bT 9) x10]) (ci := 1) (i0 := 0) X V (c_X1_first l D g (bT 9) x10 v2 x13 hx13) w_X11_290 ⟨Nat.le_of_ble_eq_true rfl, Nat.le_of_ble_eq_true rfl⟩ ⟨Nat.zero_le _, Nat.zero_le _⟩ rfl rfl rfl rfl [3] rfl rfl (kFst_refl _) rfl rfl hl.1 (Nat.le_of_ble_eq_true rfl) dX11_couple_74 (fun H locs V => ?_)
                refine lv_goto (tgt := 88) X.1 X.2.1 dX11_couple_77 (by decide) ?_
                exact J88 x9.2 x10 x13 _ _ _ h V (lv_sub hl [] rfl)
            · replace h := kif_t hc h
              refine lv_aload_n X.1 X.2.1 dX11_couple_51 rfl (lv_at hl 0 rfl) ?_
              refine gf_X11_63 (i := 0) X V rfl dX11_couple_52 ?_
              refine lv_iload_n X.1 X.2.1 dX11_couple_55 rfl (lv_at hl 2 rfl) ?_
              obtain ⟨x14, hx14, h⟩ := kb_of h
              refine s_callVi (segs' := [gX11 g aT bT zT, gX4 g (bT 0) zT_0, gX8 g (bT 2) x9.2, gX1 g (bT 9) x10]) (ci := 1) (i0 := 0) X V (c_X1_distance l D g (bT 9) x10 v2 x14 hx14) w_X11_287 ⟨Nat.le_of_ble_eq_true rfl, Nat.le_of_ble_eq_true rfl⟩ ⟨Nat.zero_le _, Nat.zero_le _⟩ rfl rfl rfl rfl [3] rfl rfl (kFst_refl _) rfl rfl hl.1 (Nat.le_of_ble_eq_true rfl) dX11_couple_56 (fun H locs V => ?_)
              obtain rfl := Option.some.inj h
              rw [hAA] at V
              rw [hQQ]
              exact k_iret X V rfl dX11_couple_59
          · replace h := kif_f hc h
            refine lv_iconst (v := (-1 : Int32)) X.1 X.2.1 dX11_couple_45 (by decide) ?_
            obtain rfl := Option.some.inj h
            rw [hAA] at V
            rw [hQQ]
            exact k_iret X V rfl dX11_couple_46
        · replace h := kif_t hc h
          refine lv_iconst (v := (-1 : Int32)) X.1 X.2.1 dX11_couple_21 (by decide) ?_
          obtain rfl := Option.some.inj h
          rw [hAA] at V
          rw [hQQ]
          exact k_iret X V rfl dX11_couple_22

def p_X11_ring (zT : tX11) (zT_0 : tX4) (zT_2 : tX8) (zT_6 : tX5) (zT_9 : tX1) (zT_10 : tX7) (zT_13 : tX3) (v1 : Int32) (v2 : Int32) : Option (Int64 × tX8 × tX5 × tX1 × tX7 × tX3) :=
  kif (v2 < 0) (some ((-1000 : Int64), zT_2, zT_6, zT_9, zT_10, zT_13)) (kif ((9 : Int32) < v2) (some ((-1000 : Int64), zT_2, zT_6, zT_9, zT_10, zT_13)) (kb (p_X11_outlineIsWide zT zT_0 zT_2 zT_6 v1) (fun x1 => kif ((kz x1.1) = 0) (some ((-1000 : Int64), x1.2.1, x1.2.2, zT_9, zT_10, zT_13)) (kb (p_X8_count x1.2.1) (fun x2 => kif (x2 ≤ (12 : Int32)) (kb (p_X1_order zT_9 x1.2.1) (fun x3 => kb (p_X7_about zT_10 x1.2.1 x3) (fun x4 => kb (p_X7_tell x4 zT_13 (v2 / (2 : Int32))) (fun x5 => kb (p_X3_part x5 (v2 - v2 / (2 : Int32) * (2 : Int32))) (fun x6 => some (x6, x1.2.1, x1.2.2, x3, x4, x5)))))) (some ((-1000 : Int64), x1.2.1, x1.2.2, zT_9, zT_10, zT_13)))))))
set_option maxHeartbeats 4000000 in
set_option maxRecDepth 100000 in
theorem c_X11_ring (l : Launch) (D : va_G) (g : kG) (aT : Nat → Nat) (bT : Nat → Nat → Nat) (zT : tX11) (zT_0 : tX4) (zT_2 : tX8) (zT_6 : tX5) (zT_9 : tX1) (zT_10 : tX7) (zT_13 : tX3) (v1 : Int32) (v2 : Int32) (r : Int64 × tX8 × tX5 × tX1 × tX7 × tX3) (h : p_X11_ring zT zT_0 zT_2 zT_6 zT_9 zT_10 zT_13 v1 v2 = some r) : kMl l yX11_ring cX11_ring 3 (some .long) (kR 6 137) D (kty g) [.ref (aT 0), .int v1, .int v2] (List.flatten [gX11 g aT bT zT, gX4 g (bT 0) zT_0, gX8 g (bT 2) zT_2, gX5 g (bT 6) zT_6, gX1 g (bT 9) zT_9, gX7 g (bT 10) zT_10, gX3 g (bT 13) zT_13]) r.1 (List.flatten [gX11 g aT bT zT, gX4 g (bT 0) zT_0, gX8 g (bT 2) r.2.1, gX5 g (bT 6) r.2.2.1, gX1 g (bT 9) r.2.2.2.1, gX7 g (bT 10) r.2.2.2.2.1, gX3 g (bT 13) r.2.2.2.2.2]) := by
  intro sz
  refine k_enter (lv := [(0, .ref (aT 0)), (1, .int v1), (2, .int v2)]) RX11 (by decide +kernel) rfl rfl (Nat.le_of_ble_eq_true rfl) ?_
  intro p en s m args below meth c ls hsz X V hl
  obtain ⟨QQ, hQQ⟩ : ∃ q, q = MQ below (va_Ql (fun r' (_ : Unit) => r' = r.1) (fun _ => kE D (List.flatten [gX11 g aT bT zT, gX4 g (bT 0) zT_0, gX8 g (bT 2) r.2.1, gX5 g (bT 6) r.2.2.1, gX1 g (bT 9) r.2.2.2.1, gX7 g (bT 10) r.2.2.2.2.1, gX3 g (bT 13) r.2.2.2.2.2])) (va_A (List.flatten [gX11 g aT bT zT, gX4 g (bT 0) zT_0, gX8 g (bT 2) zT_2, gX5 g (bT 6) zT_6, gX1 g (bT 9) zT_9, gX7 g (bT 10) zT_10, gX3 g (bT 13) zT_13]) sz)) args s 0 0 (va_A (List.flatten [gX11 g aT bT zT, gX4 g (bT 0) zT_0, gX8 g (bT 2) zT_2, gX5 g (bT 6) zT_6, gX1 g (bT 9) zT_9, gX7 g (bT 10) zT_10, gX3 g (bT 13) zT_13]) sz) := ⟨_, rfl⟩
  rw [← hQQ]
  obtain ⟨AA, hAA⟩ : ∃ q, q = va_A (List.flatten [gX11 g aT bT zT, gX4 g (bT 0) zT_0, gX8 g (bT 2) zT_2, gX5 g (bT 6) zT_6, gX1 g (bT 9) zT_9, gX7 g (bT 10) zT_10, gX3 g (bT 13) zT_13]) sz := ⟨_, rfl⟩
  rw [← hAA] at V
  unfold p_X11_ring at h
  refine lv_iload_n X.1 X.2.1 dX11_ring_0 rfl (lv_at hl 2 rfl) ?_
  refine lv_if_lt (tgt := 30) X.1 X.2.1 dX11_ring_1 (by decide) (fun hc => ?_) (fun hc => ?_)
  · replace h := kif_t hc h
    refine lv_ldc2 (v := (-1000 : Int64)) X.1 X.2.1 X.2.2.2.1 (X.2.2.2.2.1 _ kc_X11_207) dX11_ring_30 ?_
    obtain rfl := Option.some.inj h
    rw [hAA] at V
    rw [hQQ]
    exact k_lret X V rfl dX11_ring_33
  · replace h := kif_f hc h
    refine lv_iload_n X.1 X.2.1 dX11_ring_4 rfl (lv_at hl 2 rfl) ?_
    refine lv_bipush (v := (9 : Int32)) X.1 X.2.1 dX11_ring_5 (by decide) ?_
    refine lv_icmp_gt (tgt := 30) X.1 X.2.1 dX11_ring_7 (by decide) (fun hc => ?_) (fun hc => ?_)
    · replace h := kif_t hc h
      refine lv_ldc2 (v := (-1000 : Int64)) X.1 X.2.1 X.2.2.2.1 (X.2.2.2.2.1 _ kc_X11_207) dX11_ring_30 ?_
      obtain rfl := Option.some.inj h
      rw [hAA] at V
      rw [hQQ]
      exact k_lret X V rfl dX11_ring_33
    · replace h := kif_f hc h
      refine lv_aload_n X.1 X.2.1 dX11_ring_10 rfl (lv_at hl 0 rfl) ?_
      refine lv_iload_n X.1 X.2.1 dX11_ring_11 rfl (lv_at hl 1 rfl) ?_
      obtain ⟨x7, hx7, h⟩ := kb_of h
      refine s_callVi (segs' := [gX11 g aT bT zT, gX4 g (bT 0) zT_0, gX8 g (bT 2) x7.2.1, gX5 g (bT 6) x7.2.2, gX1 g (bT 9) zT_9, gX7 g (bT 10) zT_10, gX3 g (bT 13) zT_13]) (ci := 11) (i0 := 0) X V (c_X11_outlineIsWide l D g aT bT zT zT_0 zT_2 zT_6 v1 x7 hx7) w_X11_276 ⟨Nat.le_of_ble_eq_true rfl, Nat.le_of_ble_eq_true rfl⟩ ⟨Nat.zero_le _, Nat.zero_le _⟩ rfl rfl rfl rfl [0, 1, 2, 3] rfl rfl ⟨rfl, rfl, gX8_fst, gX5_fst, trivial⟩ rfl rfl hl.1 (Nat.le_of_ble_eq_true rfl) dX11_ring_12 (fun H locs V => ?_)
      refine lv_if_eq (tgt := 30) X.1 X.2.1 dX11_ring_15 (by decide) (fun hc => ?_) (fun hc => ?_)
      · replace h := kif_t hc h
        refine lv_ldc2 (v := (-1000 : Int64)) X.1 X.2.1 X.2.2.2.1 (X.2.2.2.2.1 _ kc_X11_207) dX11_ring_30 ?_
        obtain rfl := Option.some.inj h
        rw [hAA] at V
        rw [hQQ]
        exact k_lret X V rfl dX11_ring_33
      · replace h := kif_f hc h
        refine lv_aload_n X.1 X.2.1 dX11_ring_18 rfl (lv_at hl 0 rfl) ?_
        refine gf_X11_26 (i := 0) X V rfl dX11_ring_19 ?_
        obtain ⟨x8, hx8, h⟩ := kb_of h
        refine s_callVi (segs' := [gX11 g aT bT zT, gX4 g (bT 0) zT_0, gX8 g (bT 2) x7.2.1, gX5 g (bT 6) x7.2.2, gX1 g (bT 9) zT_9, gX7 g (bT 10) zT_10, gX3 g (bT 13) zT_13]) (ci := 8) (i0 := 0) X V (c_X8_count l D g (bT 2) x7.2.1 x8 hx8) w_X11_199 ⟨Nat.le_of_ble_eq_true rfl, Nat.le_of_ble_eq_true rfl⟩ ⟨Nat.zero_le _, Nat.zero_le _⟩ rfl rfl rfl rfl [2] rfl rfl (kFst_refl _) rfl rfl hl.1 (Nat.le_of_ble_eq_true rfl) dX11_ring_22 (fun H locs V => ?_)
        refine lv_bipush (v := (12 : Int32)) X.1 X.2.1 dX11_ring_25 (by decide) ?_
        refine lv_icmp_le (tgt := 34) X.1 X.2.1 dX11_ring_27 (by decide) (fun hc => ?_) (fun hc => ?_)
        · replace h := kif_t hc h
          refine lv_aload_n X.1 X.2.1 dX11_ring_34 rfl (lv_at hl 0 rfl) ?_
          refine gf_X11_63 (i := 0) X V rfl dX11_ring_35 ?_
          refine lv_aload_n X.1 X.2.1 dX11_ring_38 rfl (lv_at hl 0 rfl) ?_
          refine gf_X11_26 (i := 0) X V rfl dX11_ring_39 ?_
          obtain ⟨x9, hx9, h⟩ := kb_of h
          refine s_callVv (segs' := [gX11 g aT bT zT, gX4 g (bT 0) zT_0, gX8 g (bT 2) x7.2.1, gX5 g (bT 6) x7.2.2, gX1 g (bT 9) x9, gX7 g (bT 10) zT_10, gX3 g (bT 13) zT_13]) (ci := 1) (i0 := 0) X V (c_X1_order l D g (bT 9) (bT 2) zT_9 x7.2.1 x9 hx9) w_X11_283 ⟨Nat.le_of_ble_eq_true rfl, Nat.le_of_ble_eq_true rfl⟩ ⟨Nat.zero_le _, Nat.zero_le _⟩ rfl rfl rfl rfl [4, 2] rfl rfl ⟨gX1_fst, rfl, trivial⟩ rfl rfl hl.1 (Nat.le_of_ble_eq_true rfl) dX11_ring_42 (fun H locs V => ?_)
          refine lv_aload_n X.1 X.2.1 dX11_ring_45 rfl (lv_at hl 0 rfl) ?_
          refine gf_X11_70 (i := 0) X V rfl dX11_ring_46 ?_
          refine lv_aload_n X.1 X.2.1 dX11_ring_49 rfl (lv_at hl 0 rfl) ?_
          refine gf_X11_26 (i := 0) X V rfl dX11_ring_50 ?_
          refine lv_aload_n X.1 X.2.1 dX11_ring_53 rfl (lv_at hl 0 rfl) ?_
          refine gf_X11_63 (i := 0) X V rfl dX11_ring_54 ?_
          obtain ⟨x10, hx10, h⟩ := kb_of h
          refine s_callVv (segs' := [gX11 g aT bT zT, gX4 g (bT 0) zT_0, gX8 g (bT 2) x7.2.1, gX5 g (bT 6) x7.2.2, gX1 g (bT 9) x9, gX7 g (bT 10) x10, gX3 g (bT 13) zT_13]) (ci := 7) (i0 := 0) X V (c_X7_about l D g (bT 10) (bT 2) (bT 9) zT_10 x7.2.1 x9 x10 hx10) w_X11_295 ⟨Nat.le_of_ble_eq_true rfl, Nat.le_of_ble_eq_true rfl⟩ ⟨Nat.zero_le _, Nat.zero_le _⟩ rfl rfl rfl rfl [5, 2, 4] rfl rfl ⟨gX7_fst, rfl, rfl, trivial⟩ rfl rfl hl.1 (Nat.le_of_ble_eq_true rfl) dX11_ring_57 (fun H locs V => ?_)
          refine lv_aload_n X.1 X.2.1 dX11_ring_60 rfl (lv_at hl 0 rfl) ?_
          refine gf_X11_70 (i := 0) X V rfl dX11_ring_61 ?_
          refine lv_iload_n X.1 X.2.1 dX11_ring_64 rfl (lv_at hl 2 rfl) ?_
          refine lv_iconst (v := (2 : Int32)) X.1 X.2.1 dX11_ring_65 (by decide) ?_
          refine lv_idiv X.1 X.2.1 dX11_ring_66 (by decide) ?_
          refine lv_aload_n X.1 X.2.1 dX11_ring_67 rfl (lv_at hl 0 rfl) ?_
          refine gf_X11_91 (i := 0) X V rfl dX11_ring_68 ?_
          obtain ⟨x11, hx11, h⟩ := kb_of h
          refine s_callVv (segs' := [gX11 g aT bT zT, gX4 g (bT 0) zT_0, gX8 g (bT 2) x7.2.1, gX5 g (bT 6) x7.2.2, gX1 g (bT 9) x9, gX7 g (bT 10) x10, gX3 g (bT 13) x11]) (ci := 7) (i0 := 0) X V (c_X7_tell l D g (bT 10) (bT 13) x10 zT_13 (v2 / (2 : Int32)) x11 hx11) w_X11_298 ⟨Nat.le_of_ble_eq_true rfl, Nat.le_of_ble_eq_true rfl⟩ ⟨Nat.zero_le _, Nat.zero_le _⟩ rfl rfl rfl rfl [5, 6] rfl rfl ⟨rfl, gX3_fst, trivial⟩ rfl rfl hl.1 (Nat.le_of_ble_eq_true rfl) dX11_ring_71 (fun H locs V => ?_)
          refine lv_aload_n X.1 X.2.1 dX11_ring_74 rfl (lv_at hl 0 rfl) ?_
          refine gf_X11_91 (i := 0) X V rfl dX11_ring_75 ?_
          refine lv_iload_n X.1 X.2.1 dX11_ring_78 rfl (lv_at hl 2 rfl) ?_
          refine lv_iconst (v := (2 : Int32)) X.1 X.2.1 dX11_ring_79 (by decide) ?_
          refine lv_irem X.1 X.2.1 dX11_ring_80 (by decide) ?_
          obtain ⟨x12, hx12, h⟩ := kb_of h
          refine s_callVl (segs' := [gX11 g aT bT zT, gX4 g (bT 0) zT_0, gX8 g (bT 2) x7.2.1, gX5 g (bT 6) x7.2.2, gX1 g (bT 9) x9, gX7 g (bT 10) x10, gX3 g (bT 13) x11]) (ci := 3) (i0 := 0) X V (c_X3_part l D g (bT 13) x11 (v2 - v2 / (2 : Int32) * (2 : Int32)) x12 hx12) w_X11_223 ⟨Nat.le_of_ble_eq_true rfl, Nat.le_of_ble_eq_true rfl⟩ ⟨Nat.zero_le _, Nat.zero_le _⟩ rfl rfl rfl rfl [6] rfl rfl (kFst_refl _) rfl rfl hl.1 (Nat.le_of_ble_eq_true rfl) dX11_ring_81 (fun H locs V => ?_)
          obtain rfl := Option.some.inj h
          rw [hAA] at V
          rw [hQQ]
          exact k_lret X V rfl dX11_ring_84
        · replace h := kif_f hc h
          refine lv_ldc2 (v := (-1000 : Int64)) X.1 X.2.1 X.2.2.2.1 (X.2.2.2.2.1 _ kc_X11_207) dX11_ring_30 ?_
          obtain rfl := Option.some.inj h
          rw [hAA] at V
          rw [hQQ]
          exact k_lret X V rfl dX11_ring_33

def p_X11_two (zT : tX11) (zT_0 : tX4) (zT_2 : tX8) (zT_11 : tX2) (zT_11_0 : tX0) (zT_13 : tX3) (v1 : Int32) (v2 : Int32) : Option (Int64 × tX8 × tX2 × tX0 × tX3) :=
  kif (v2 < 0) (some ((-1 : Int64), zT_2, zT_11, zT_11_0, zT_13)) (kif ((2 : Int32) < v2) (some ((-1 : Int64), zT_2, zT_11, zT_11_0, zT_13)) (kb (p_X11_gather zT zT_0 zT_2 v1) (fun x1 => kif ((kz x1.1) = 0) (some ((-1 : Int64), x1.2, zT_11, zT_11_0, zT_13)) (kb (p_X8_count x1.2) (fun x2 => kif (x2 < (2 : Int32)) (some ((-1 : Int64), x1.2, zT_11, zT_11_0, zT_13)) (kb (p_X8_count x1.2) (fun x3 => kif (x3 ≤ (12 : Int32)) (kb (p_X2_about zT_11 zT_11_0 x1.2) (fun x4 => kb (p_X2_parting x4.1 zT_13) (fun x5 => kif (v2 = (2 : Int32)) (some (x5.1.toInt64, x1.2, x4.1, x4.2, x5.2)) (kb (p_X3_part x5.2 v2) (fun x6 => some (x6, x1.2, x4.1, x4.2, x5.2)))))) (some ((-1 : Int64), x1.2, zT_11, zT_11_0, zT_13)))))))))
set_option maxHeartbeats 4000000 in
set_option maxRecDepth 100000 in
theorem c_X11_two (l : Launch) (D : va_G) (g : kG) (aT : Nat → Nat) (bT : Nat → Nat → Nat) (bT_11 : Nat → Nat → Nat) (zT : tX11) (zT_0 : tX4) (zT_2 : tX8) (zT_11 : tX2) (zT_11_0 : tX0) (zT_13 : tX3) (v1 : Int32) (v2 : Int32) (r : Int64 × tX8 × tX2 × tX0 × tX3) (h : p_X11_two zT zT_0 zT_2 zT_11 zT_11_0 zT_13 v1 v2 = some r) : kMl l yX11_two cX11_two 4 (some .long) (kR 5 139) D (kty g) [.ref (aT 0), .int v1, .int v2] (List.flatten [gX11 g aT bT zT, gX4 g (bT 0) zT_0, gX8 g (bT 2) zT_2, gX2 g (bT 11) bT_11 zT_11, gX0 g (bT_11 0) zT_11_0, gX3 g (bT 13) zT_13]) r.1 (List.flatten [gX11 g aT bT zT, gX4 g (bT 0) zT_0, gX8 g (bT 2) r.2.1, gX2 g (bT 11) bT_11 r.2.2.1, gX0 g (bT_11 0) r.2.2.2.1, gX3 g (bT 13) r.2.2.2.2]) := by
  intro sz
  refine k_enter (lv := [(0, .ref (aT 0)), (1, .int v1), (2, .int v2)]) RX11 (by decide +kernel) rfl rfl (Nat.le_of_ble_eq_true rfl) ?_
  intro p en s m args below meth c ls hsz X V hl
  obtain ⟨QQ, hQQ⟩ : ∃ q, q = MQ below (va_Ql (fun r' (_ : Unit) => r' = r.1) (fun _ => kE D (List.flatten [gX11 g aT bT zT, gX4 g (bT 0) zT_0, gX8 g (bT 2) r.2.1, gX2 g (bT 11) bT_11 r.2.2.1, gX0 g (bT_11 0) r.2.2.2.1, gX3 g (bT 13) r.2.2.2.2])) (va_A (List.flatten [gX11 g aT bT zT, gX4 g (bT 0) zT_0, gX8 g (bT 2) zT_2, gX2 g (bT 11) bT_11 zT_11, gX0 g (bT_11 0) zT_11_0, gX3 g (bT 13) zT_13]) sz)) args s 0 0 (va_A (List.flatten [gX11 g aT bT zT, gX4 g (bT 0) zT_0, gX8 g (bT 2) zT_2, gX2 g (bT 11) bT_11 zT_11, gX0 g (bT_11 0) zT_11_0, gX3 g (bT 13) zT_13]) sz) := ⟨_, rfl⟩
  rw [← hQQ]
  obtain ⟨AA, hAA⟩ : ∃ q, q = va_A (List.flatten [gX11 g aT bT zT, gX4 g (bT 0) zT_0, gX8 g (bT 2) zT_2, gX2 g (bT 11) bT_11 zT_11, gX0 g (bT_11 0) zT_11_0, gX3 g (bT 13) zT_13]) sz := ⟨_, rfl⟩
  rw [← hAA] at V
  unfold p_X11_two at h
  refine lv_iload_n X.1 X.2.1 dX11_two_0 rfl (lv_at hl 2 rfl) ?_
  refine lv_if_lt (tgt := 40) X.1 X.2.1 dX11_two_1 (by decide) (fun hc => ?_) (fun hc => ?_)
  · replace h := kif_t hc h
    refine lv_ldc2 (v := (-1 : Int64)) X.1 X.2.1 X.2.2.2.1 (X.2.2.2.2.1 _ kc_X11_242) dX11_two_40 ?_
    obtain rfl := Option.some.inj h
    rw [hAA] at V
    rw [hQQ]
    exact k_lret X V rfl dX11_two_43
  · replace h := kif_f hc h
    refine lv_iload_n X.1 X.2.1 dX11_two_4 rfl (lv_at hl 2 rfl) ?_
    refine lv_iconst (v := (2 : Int32)) X.1 X.2.1 dX11_two_5 (by decide) ?_
    refine lv_icmp_gt (tgt := 40) X.1 X.2.1 dX11_two_6 (by decide) (fun hc => ?_) (fun hc => ?_)
    · replace h := kif_t hc h
      refine lv_ldc2 (v := (-1 : Int64)) X.1 X.2.1 X.2.2.2.1 (X.2.2.2.2.1 _ kc_X11_242) dX11_two_40 ?_
      obtain rfl := Option.some.inj h
      rw [hAA] at V
      rw [hQQ]
      exact k_lret X V rfl dX11_two_43
    · replace h := kif_f hc h
      refine lv_aload_n X.1 X.2.1 dX11_two_9 rfl (lv_at hl 0 rfl) ?_
      refine lv_iload_n X.1 X.2.1 dX11_two_10 rfl (lv_at hl 1 rfl) ?_
      obtain ⟨x7, hx7, h⟩ := kb_of h
      refine s_callVi (segs' := [gX11 g aT bT zT, gX4 g (bT 0) zT_0, gX8 g (bT 2) x7.2, gX2 g (bT 11) bT_11 zT_11, gX0 g (bT_11 0) zT_11_0, gX3 g (bT 13) zT_13]) (ci := 11) (i0 := 0) X V (c_X11_gather l D g aT bT zT zT_0 zT_2 v1 x7 hx7) w_X11_196 ⟨Nat.le_of_ble_eq_true rfl, Nat.le_of_ble_eq_true rfl⟩ ⟨Nat.zero_le _, Nat.zero_le _⟩ rfl rfl rfl rfl [0, 1, 2] rfl rfl ⟨rfl, rfl, gX8_fst, trivial⟩ rfl rfl hl.1 (Nat.le_of_ble_eq_true rfl) dX11_two_11 (fun H locs V => ?_)
      refine lv_if_eq (tgt := 40) X.1 X.2.1 dX11_two_14 (by decide) (fun hc => ?_) (fun hc => ?_)
      · replace h := kif_t hc h
        refine lv_ldc2 (v := (-1 : Int64)) X.1 X.2.1 X.2.2.2.1 (X.2.2.2.2.1 _ kc_X11_242) dX11_two_40 ?_
        obtain rfl := Option.some.inj h
        rw [hAA] at V
        rw [hQQ]
        exact k_lret X V rfl dX11_two_43
      · replace h := kif_f hc h
        refine lv_aload_n X.1 X.2.1 dX11_two_17 rfl (lv_at hl 0 rfl) ?_
        refine gf_X11_26 (i := 0) X V rfl dX11_two_18 ?_
        obtain ⟨x8, hx8, h⟩ := kb_of h
        refine s_callVi (segs' := [gX11 g aT bT zT, gX4 g (bT 0) zT_0, gX8 g (bT 2) x7.2, gX2 g (bT 11) bT_11 zT_11, gX0 g (bT_11 0) zT_11_0, gX3 g (bT 13) zT_13]) (ci := 8) (i0 := 0) X V (c_X8_count l D g (bT 2) x7.2 x8 hx8) w_X11_199 ⟨Nat.le_of_ble_eq_true rfl, Nat.le_of_ble_eq_true rfl⟩ ⟨Nat.zero_le _, Nat.zero_le _⟩ rfl rfl rfl rfl [2] rfl rfl (kFst_refl _) rfl rfl hl.1 (Nat.le_of_ble_eq_true rfl) dX11_two_21 (fun H locs V => ?_)
        refine lv_iconst (v := (2 : Int32)) X.1 X.2.1 dX11_two_24 (by decide) ?_
        refine lv_icmp_lt (tgt := 40) X.1 X.2.1 dX11_two_25 (by decide) (fun hc => ?_) (fun hc => ?_)
        · replace h := kif_t hc h
          refine lv_ldc2 (v := (-1 : Int64)) X.1 X.2.1 X.2.2.2.1 (X.2.2.2.2.1 _ kc_X11_242) dX11_two_40 ?_
          obtain rfl := Option.some.inj h
          rw [hAA] at V
          rw [hQQ]
          exact k_lret X V rfl dX11_two_43
        · replace h := kif_f hc h
          refine lv_aload_n X.1 X.2.1 dX11_two_28 rfl (lv_at hl 0 rfl) ?_
          refine gf_X11_26 (i := 0) X V rfl dX11_two_29 ?_
          obtain ⟨x9, hx9, h⟩ := kb_of h
          refine s_callVi (segs' := [gX11 g aT bT zT, gX4 g (bT 0) zT_0, gX8 g (bT 2) x7.2, gX2 g (bT 11) bT_11 zT_11, gX0 g (bT_11 0) zT_11_0, gX3 g (bT 13) zT_13]) (ci := 8) (i0 := 0) X V (c_X8_count l D g (bT 2) x7.2 x9 hx9) w_X11_199 ⟨Nat.le_of_ble_eq_true rfl, Nat.le_of_ble_eq_true rfl⟩ ⟨Nat.zero_le _, Nat.zero_le _⟩ rfl rfl rfl rfl [2] rfl rfl (kFst_refl _) rfl rfl hl.1 (Nat.le_of_ble_eq_true rfl) dX11_two_32 (fun H locs V => ?_)
          refine lv_bipush (v := (12 : Int32)) X.1 X.2.1 dX11_two_35 (by decide) ?_
          refine lv_icmp_le (tgt := 44) X.1 X.2.1 dX11_two_37 (by decide) (fun hc => ?_) (fun hc => ?_)
          · replace h := kif_t hc h
            refine lv_aload_n X.1 X.2.1 dX11_two_44 rfl (lv_at hl 0 rfl) ?_
            refine gf_X11_77 (i := 0) X V rfl dX11_two_45 ?_
            refine lv_aload_n X.1 X.2.1 dX11_two_48 rfl (lv_at hl 0 rfl) ?_
            refine gf_X11_26 (i := 0) X V rfl dX11_two_49 ?_
            obtain ⟨x10, hx10, h⟩ := kb_of h
            refine s_callVv (segs' := [gX11 g aT bT zT, gX4 g (bT 0) zT_0, gX8 g (bT 2) x7.2, gX2 g (bT 11) bT_11 x10.1, gX0 g (bT_11 0) x10.2, gX3 g (bT 13) zT_13]) (ci := 2) (i0 := 0) X V (c_X2_about l D g (bT 11) (bT 2) bT_11 zT_11 zT_11_0 x7.2 x10 hx10) w_X11_302 ⟨Nat.le_of_ble_eq_true rfl, Nat.le_of_ble_eq_true rfl⟩ ⟨Nat.zero_le _, Nat.zero_le _⟩ rfl rfl rfl rfl [3, 4, 2] rfl rfl ⟨gX2_fst, gX0_fst, rfl, trivial⟩ rfl rfl hl.1 (Nat.le_of_ble_eq_true rfl) dX11_two_52 (fun H locs V => ?_)
            refine lv_aload_n X.1 X.2.1 dX11_two_55 rfl (lv_at hl 0 rfl) ?_
            refine gf_X11_77 (i := 0) X V rfl dX11_two_56 ?_
            refine lv_aload_n X.1 X.2.1 dX11_two_59 rfl (lv_at hl 0 rfl) ?_
            refine gf_X11_91 (i := 0) X V rfl dX11_two_60 ?_
            obtain ⟨x11, hx11, h⟩ := kb_of h
            refine s_callVi (segs' := [gX11 g aT bT zT, gX4 g (bT 0) zT_0, gX8 g (bT 2) x7.2, gX2 g (bT 11) bT_11 x10.1, gX0 g (bT_11 0) x10.2, gX3 g (bT 13) x11.2]) (ci := 2) (i0 := 0) X V (c_X2_parting l D g (bT 11) (bT 13) bT_11 x10.1 zT_13 x11 hx11) w_X11_303 ⟨Nat.le_of_ble_eq_true rfl, Nat.le_of_ble_eq_true rfl⟩ ⟨Nat.zero_le _, Nat.zero_le _⟩ rfl rfl rfl rfl [3, 5] rfl rfl ⟨rfl, gX3_fst, trivial⟩ rfl rfl hl.1 (Nat.le_of_ble_eq_true rfl) dX11_two_63 (fun H locs V => ?_)
            refine lv_istore_n (lv' := [(3, .int x11.1), (0, .ref (aT 0)), (1, .int v1), (2, .int v2)]) X.1 X.2.1 dX11_two_66 rfl hl (by decide) rfl (fun ls hl => ?_)
            refine lv_iload_n X.1 X.2.1 dX11_two_67 rfl (lv_at hl 3 rfl) ?_
            refine lv_iconst (v := (2 : Int32)) X.1 X.2.1 dX11_two_68 (by decide) ?_
            refine lv_icmp_ne (tgt := 77) X.1 X.2.1 dX11_two_69 (by decide) (fun hc => ?_) (fun hc => ?_)
            · replace h := kif_f hc h
              refine lv_aload_n X.1 X.2.1 dX11_two_77 rfl (lv_at hl 1 rfl) ?_
              refine gf_X11_91 (i := 0) X V rfl dX11_two_78 ?_
              refine lv_iload_n X.1 X.2.1 dX11_two_81 rfl (lv_at hl 3 rfl) ?_
              obtain ⟨x12, hx12, h⟩ := kb_of h
              refine s_callVl (segs' := [gX11 g aT bT zT, gX4 g (bT 0) zT_0, gX8 g (bT 2) x7.2, gX2 g (bT 11) bT_11 x10.1, gX0 g (bT_11 0) x10.2, gX3 g (bT 13) x11.2]) (ci := 3) (i0 := 0) X V (c_X3_part l D g (bT 13) x11.2 v2 x12 hx12) w_X11_223 ⟨Nat.le_of_ble_eq_true rfl, Nat.le_of_ble_eq_true rfl⟩ ⟨Nat.zero_le _, Nat.zero_le _⟩ rfl rfl rfl rfl [5] rfl rfl (kFst_refl _) rfl rfl hl.1 (Nat.le_of_ble_eq_true rfl) dX11_two_82 (fun H locs V => ?_)
              obtain rfl := Option.some.inj h
              rw [hAA] at V
              rw [hQQ]
              exact k_lret X V rfl dX11_two_85
            · replace h := kif_t hc h
              refine lv_iload_n X.1 X.2.1 dX11_two_72 rfl (lv_at hl 0 rfl) ?_
              refine lv_i2l X.1 X.2.1 dX11_two_73 rfl ?_
              refine lv_goto (tgt := 85) X.1 X.2.1 dX11_two_74 (by decide) ?_
              obtain rfl := Option.some.inj h
              rw [hAA] at V
              rw [hQQ]
              exact k_lret X V rfl dX11_two_85
          · replace h := kif_f hc h
            refine lv_ldc2 (v := (-1 : Int64)) X.1 X.2.1 X.2.2.2.1 (X.2.2.2.2.1 _ kc_X11_242) dX11_two_40 ?_
            obtain rfl := Option.some.inj h
            rw [hAA] at V
            rw [hQQ]
            exact k_lret X V rfl dX11_two_43

def p_X11_box (zT : tX11) (zT_0 : tX4) (zT_2 : tX8) (zT_6 : tX5) (zT_13 : tX3) (v1 : Int32) (v2 : Int32) : Option (Int64 × tX8 × tX5 × tX3) :=
  kif (v2 < 0) (some ((-1 : Int64), zT_2, zT_6, zT_13)) (kif ((2 : Int32) < v2) (some ((-1 : Int64), zT_2, zT_6, zT_13)) (kb (p_X11_outlineIsWide zT zT_0 zT_2 zT_6 v1) (fun x1 => kif ((kz x1.1) = 0) (some ((-1 : Int64), x1.2.1, x1.2.2, zT_13)) (kb (p_X5_leastBox x1.2.2 zT_13) (fun x2 => kif (v2 = (2 : Int32)) (some (x2.1.toInt64, x1.2.1, x1.2.2, x2.2)) (kb (p_X3_part x2.2 v2) (fun x3 => some (x3, x1.2.1, x1.2.2, x2.2))))))))
set_option maxHeartbeats 4000000 in
set_option maxRecDepth 100000 in
theorem c_X11_box (l : Launch) (D : va_G) (g : kG) (aT : Nat → Nat) (bT : Nat → Nat → Nat) (zT : tX11) (zT_0 : tX4) (zT_2 : tX8) (zT_6 : tX5) (zT_13 : tX3) (v1 : Int32) (v2 : Int32) (r : Int64 × tX8 × tX5 × tX3) (h : p_X11_box zT zT_0 zT_2 zT_6 zT_13 v1 v2 = some r) : kMl l yX11_box cX11_box 4 (some .long) (kR 6 137) D (kty g) [.ref (aT 0), .int v1, .int v2] (List.flatten [gX11 g aT bT zT, gX4 g (bT 0) zT_0, gX8 g (bT 2) zT_2, gX5 g (bT 6) zT_6, gX3 g (bT 13) zT_13]) r.1 (List.flatten [gX11 g aT bT zT, gX4 g (bT 0) zT_0, gX8 g (bT 2) r.2.1, gX5 g (bT 6) r.2.2.1, gX3 g (bT 13) r.2.2.2]) := by
  intro sz
  refine k_enter (lv := [(0, .ref (aT 0)), (1, .int v1), (2, .int v2)]) RX11 (by decide +kernel) rfl rfl (Nat.le_of_ble_eq_true rfl) ?_
  intro p en s m args below meth c ls hsz X V hl
  obtain ⟨QQ, hQQ⟩ : ∃ q, q = MQ below (va_Ql (fun r' (_ : Unit) => r' = r.1) (fun _ => kE D (List.flatten [gX11 g aT bT zT, gX4 g (bT 0) zT_0, gX8 g (bT 2) r.2.1, gX5 g (bT 6) r.2.2.1, gX3 g (bT 13) r.2.2.2])) (va_A (List.flatten [gX11 g aT bT zT, gX4 g (bT 0) zT_0, gX8 g (bT 2) zT_2, gX5 g (bT 6) zT_6, gX3 g (bT 13) zT_13]) sz)) args s 0 0 (va_A (List.flatten [gX11 g aT bT zT, gX4 g (bT 0) zT_0, gX8 g (bT 2) zT_2, gX5 g (bT 6) zT_6, gX3 g (bT 13) zT_13]) sz) := ⟨_, rfl⟩
  rw [← hQQ]
  obtain ⟨AA, hAA⟩ : ∃ q, q = va_A (List.flatten [gX11 g aT bT zT, gX4 g (bT 0) zT_0, gX8 g (bT 2) zT_2, gX5 g (bT 6) zT_6, gX3 g (bT 13) zT_13]) sz := ⟨_, rfl⟩
  rw [← hAA] at V
  unfold p_X11_box at h
  refine lv_iload_n X.1 X.2.1 dX11_box_0 rfl (lv_at hl 2 rfl) ?_
  refine lv_if_lt (tgt := 17) X.1 X.2.1 dX11_box_1 (by decide) (fun hc => ?_) (fun hc => ?_)
  · replace h := kif_t hc h
    refine lv_ldc2 (v := (-1 : Int64)) X.1 X.2.1 X.2.2.2.1 (X.2.2.2.2.1 _ kc_X11_242) dX11_box_17 ?_
    obtain rfl := Option.some.inj h
    rw [hAA] at V
    rw [hQQ]
    exact k_lret X V rfl dX11_box_20
  · replace h := kif_f hc h
    refine lv_iload_n X.1 X.2.1 dX11_box_4 rfl (lv_at hl 2 rfl) ?_
    refine lv_iconst (v := (2 : Int32)) X.1 X.2.1 dX11_box_5 (by decide) ?_
    refine lv_icmp_gt (tgt := 17) X.1 X.2.1 dX11_box_6 (by decide) (fun hc => ?_) (fun hc => ?_)
    · replace h := kif_t hc h
      refine lv_ldc2 (v := (-1 : Int64)) X.1 X.2.1 X.2.2.2.1 (X.2.2.2.2.1 _ kc_X11_242) dX11_box_17 ?_
      obtain rfl := Option.some.inj h
      rw [hAA] at V
      rw [hQQ]
      exact k_lret X V rfl dX11_box_20
    · replace h := kif_f hc h
      refine lv_aload_n X.1 X.2.1 dX11_box_9 rfl (lv_at hl 0 rfl) ?_
      refine lv_iload_n X.1 X.2.1 dX11_box_10 rfl (lv_at hl 1 rfl) ?_
      obtain ⟨x4, hx4, h⟩ := kb_of h
      refine s_callVi (segs' := [gX11 g aT bT zT, gX4 g (bT 0) zT_0, gX8 g (bT 2) x4.2.1, gX5 g (bT 6) x4.2.2, gX3 g (bT 13) zT_13]) (ci := 11) (i0 := 0) X V (c_X11_outlineIsWide l D g aT bT zT zT_0 zT_2 zT_6 v1 x4 hx4) w_X11_276 ⟨Nat.le_of_ble_eq_true rfl, Nat.le_of_ble_eq_true rfl⟩ ⟨Nat.zero_le _, Nat.zero_le _⟩ rfl rfl rfl rfl [0, 1, 2, 3] rfl rfl ⟨rfl, rfl, gX8_fst, gX5_fst, trivial⟩ rfl rfl hl.1 (Nat.le_of_ble_eq_true rfl) dX11_box_11 (fun H locs V => ?_)
      refine lv_if_ne (tgt := 21) X.1 X.2.1 dX11_box_14 (by decide) (fun hc => ?_) (fun hc => ?_)
      · replace h := kif_f hc h
        refine lv_aload_n X.1 X.2.1 dX11_box_21 rfl (lv_at hl 0 rfl) ?_
        refine gf_X11_46 (i := 0) X V rfl dX11_box_22 ?_
        refine lv_aload_n X.1 X.2.1 dX11_box_25 rfl (lv_at hl 0 rfl) ?_
        refine gf_X11_91 (i := 0) X V rfl dX11_box_26 ?_
        obtain ⟨x5, hx5, h⟩ := kb_of h
        refine s_callVi (segs' := [gX11 g aT bT zT, gX4 g (bT 0) zT_0, gX8 g (bT 2) x4.2.1, gX5 g (bT 6) x4.2.2, gX3 g (bT 13) x5.2]) (ci := 5) (i0 := 0) X V (c_X5_leastBox l D g (bT 6) (bT 13) x4.2.2 zT_13 x5 hx5) w_X11_306 ⟨Nat.le_of_ble_eq_true rfl, Nat.le_of_ble_eq_true rfl⟩ ⟨Nat.zero_le _, Nat.zero_le _⟩ rfl rfl rfl rfl [3, 4] rfl rfl ⟨rfl, gX3_fst, trivial⟩ rfl rfl hl.1 (Nat.le_of_ble_eq_true rfl) dX11_box_29 (fun H locs V => ?_)
        refine lv_istore_n (lv' := [(3, .int x5.1), (0, .ref (aT 0)), (1, .int v1), (2, .int v2)]) X.1 X.2.1 dX11_box_32 rfl hl (by decide) rfl (fun ls hl => ?_)
        refine lv_iload_n X.1 X.2.1 dX11_box_33 rfl (lv_at hl 3 rfl) ?_
        refine lv_iconst (v := (2 : Int32)) X.1 X.2.1 dX11_box_34 (by decide) ?_
        refine lv_icmp_ne (tgt := 43) X.1 X.2.1 dX11_box_35 (by decide) (fun hc => ?_) (fun hc => ?_)
        · replace h := kif_f hc h
          refine lv_aload_n X.1 X.2.1 dX11_box_43 rfl (lv_at hl 1 rfl) ?_
          refine gf_X11_91 (i := 0) X V rfl dX11_box_44 ?_
          refine lv_iload_n X.1 X.2.1 dX11_box_47 rfl (lv_at hl 3 rfl) ?_
          obtain ⟨x6, hx6, h⟩ := kb_of h
          refine s_callVl (segs' := [gX11 g aT bT zT, gX4 g (bT 0) zT_0, gX8 g (bT 2) x4.2.1, gX5 g (bT 6) x4.2.2, gX3 g (bT 13) x5.2]) (ci := 3) (i0 := 0) X V (c_X3_part l D g (bT 13) x5.2 v2 x6 hx6) w_X11_223 ⟨Nat.le_of_ble_eq_true rfl, Nat.le_of_ble_eq_true rfl⟩ ⟨Nat.zero_le _, Nat.zero_le _⟩ rfl rfl rfl rfl [4] rfl rfl (kFst_refl _) rfl rfl hl.1 (Nat.le_of_ble_eq_true rfl) dX11_box_48 (fun H locs V => ?_)
          obtain rfl := Option.some.inj h
          rw [hAA] at V
          rw [hQQ]
          exact k_lret X V rfl dX11_box_51
        · replace h := kif_t hc h
          refine lv_iload_n X.1 X.2.1 dX11_box_38 rfl (lv_at hl 0 rfl) ?_
          refine lv_i2l X.1 X.2.1 dX11_box_39 rfl ?_
          refine lv_goto (tgt := 51) X.1 X.2.1 dX11_box_40 (by decide) ?_
          obtain rfl := Option.some.inj h
          rw [hAA] at V
          rw [hQQ]
          exact k_lret X V rfl dX11_box_51
      · replace h := kif_t hc h
        refine lv_ldc2 (v := (-1 : Int64)) X.1 X.2.1 X.2.2.2.1 (X.2.2.2.2.1 _ kc_X11_242) dX11_box_17 ?_
        obtain rfl := Option.some.inj h
        rw [hAA] at V
        rw [hQQ]
        exact k_lret X V rfl dX11_box_20
