def p_J13_compare_74951 (v0 : Int64) (v2 : Int64) : Option (Int32) :=
  kif (0 ≤ (lg_cmp v0 v2)) (kif ((lg_cmp v0 v2) = 0) (some (0 : Int32)) (some (1 : Int32))) (some (-1 : Int32))
set_option maxHeartbeats 4000000 in
set_option maxRecDepth 100000 in
theorem c_J13_compare_74951 (l : Launch) (D : va_G) (g : kG)  (v0 : Int64) (v2 : Int64) (r : Int32) (h : p_J13_compare_74951 v0 v2 = some r) : kMi l yJ13_compare_74951 cJ13_compare_74951 4 (some .int) (kR 0 0) D (kty g) [.long v0, .long v2] (List.flatten ([] : List va_W)) r (List.flatten ([] : List va_W)) := by
  intro sz
  refine k_enter (lv := [(0, .long v0), (2, .long v2)]) RJ13 (by decide +kernel) rfl rfl (Nat.le_of_ble_eq_true rfl) ?_
  intro p en s m args below meth c ls hsz X V hl
  obtain ⟨QQ, hQQ⟩ : ∃ q, q = MQ below (va_Qi (fun r' (_ : Unit) => r' = r) (fun _ => kE D (List.flatten ([] : List va_W))) (va_A (List.flatten ([] : List va_W)) sz)) args s 0 0 (va_A (List.flatten ([] : List va_W)) sz) := ⟨_, rfl⟩
  rw [← hQQ]
  obtain ⟨AA, hAA⟩ : ∃ q, q = va_A (List.flatten ([] : List va_W)) sz := ⟨_, rfl⟩
  rw [← hAA] at V
  unfold p_J13_compare_74951 at h
  refine lv_lload_n X.1 X.2.1 dJ13_compare_74951_0 rfl (lv_at hl 0 rfl) ?_
  refine lv_lload_n X.1 X.2.1 dJ13_compare_74951_1 rfl (lv_at hl 1 rfl) ?_
  refine W.lcmp X.1 X.2.1 dJ13_compare_74951_2 ?_
  refine lv_if_ge (tgt := 10) X.1 X.2.1 dJ13_compare_74951_3 (by decide) (fun hc => ?_) (fun hc => ?_)
  · replace h := kif_t hc h
    refine lv_lload_n X.1 X.2.1 dJ13_compare_74951_10 rfl (lv_at hl 0 rfl) ?_
    refine lv_lload_n X.1 X.2.1 dJ13_compare_74951_11 rfl (lv_at hl 1 rfl) ?_
    refine W.lcmp X.1 X.2.1 dJ13_compare_74951_12 ?_
    refine lv_if_ne (tgt := 20) X.1 X.2.1 dJ13_compare_74951_13 (by decide) (fun hc => ?_) (fun hc => ?_)
    · replace h := kif_f hc h
      refine lv_iconst (v := (1 : Int32)) X.1 X.2.1 dJ13_compare_74951_20 (by decide) ?_
      obtain rfl := Option.some.inj h
      rw [hAA] at V
      rw [hQQ]
      exact k_iret X V rfl dJ13_compare_74951_21
    · replace h := kif_t hc h
      refine lv_iconst (v := (0 : Int32)) X.1 X.2.1 dJ13_compare_74951_16 (by decide) ?_
      refine lv_goto (tgt := 21) X.1 X.2.1 dJ13_compare_74951_17 (by decide) ?_
      obtain rfl := Option.some.inj h
      rw [hAA] at V
      rw [hQQ]
      exact k_iret X V rfl dJ13_compare_74951_21
  · replace h := kif_f hc h
    refine lv_iconst (v := (-1 : Int32)) X.1 X.2.1 dJ13_compare_74951_6 (by decide) ?_
    refine lv_goto (tgt := 21) X.1 X.2.1 dJ13_compare_74951_7 (by decide) ?_
    obtain rfl := Option.some.inj h
    rw [hAA] at V
    rw [hQQ]
    exact k_iret X V rfl dJ13_compare_74951_21

def p_J9_abs_067f4 (v0 : Int64) : Option (Int64) :=
  kif (0 ≤ (lg_cmp v0 (0 : Int64))) (some v0) (some ((-v0)))
set_option maxHeartbeats 4000000 in
set_option maxRecDepth 100000 in
theorem c_J9_abs_067f4 (l : Launch) (D : va_G) (g : kG)  (v0 : Int64) (r : Int64) (h : p_J9_abs_067f4 v0 = some r) : kMl l yJ9_abs_067f4 cJ9_abs_067f4 2 (some .long) (kR 0 0) D (kty g) [.long v0] (List.flatten ([] : List va_W)) r (List.flatten ([] : List va_W)) := by
  intro sz
  refine k_enter (lv := [(0, .long v0)]) RJ9 (by decide +kernel) rfl rfl (Nat.le_of_ble_eq_true rfl) ?_
  intro p en s m args below meth c ls hsz X V hl
  obtain ⟨QQ, hQQ⟩ : ∃ q, q = MQ below (va_Ql (fun r' (_ : Unit) => r' = r) (fun _ => kE D (List.flatten ([] : List va_W))) (va_A (List.flatten ([] : List va_W)) sz)) args s 0 0 (va_A (List.flatten ([] : List va_W)) sz) := ⟨_, rfl⟩
  rw [← hQQ]
  obtain ⟨AA, hAA⟩ : ∃ q, q = va_A (List.flatten ([] : List va_W)) sz := ⟨_, rfl⟩
  rw [← hAA] at V
  unfold p_J9_abs_067f4 at h
  refine lv_lload_n X.1 X.2.1 dJ9_abs_067f4_0 rfl (lv_at hl 0 rfl) ?_
  refine lv_lconst (v := (0 : Int64)) X.1 X.2.1 dJ9_abs_067f4_1 (by decide) ?_
  refine W.lcmp X.1 X.2.1 dJ9_abs_067f4_2 ?_
  refine lv_if_ge (tgt := 11) X.1 X.2.1 dJ9_abs_067f4_3 (by decide) (fun hc => ?_) (fun hc => ?_)
  · replace h := kif_t hc h
    refine lv_lload_n X.1 X.2.1 dJ9_abs_067f4_11 rfl (lv_at hl 0 rfl) ?_
    obtain rfl := Option.some.inj h
    rw [hAA] at V
    rw [hQQ]
    exact k_lret X V rfl dJ9_abs_067f4_12
  · replace h := kif_f hc h
    refine lv_lload_n X.1 X.2.1 dJ9_abs_067f4_6 rfl (lv_at hl 0 rfl) ?_
    refine lv_lneg X.1 X.2.1 dJ9_abs_067f4_7 ?_
    refine lv_goto (tgt := 12) X.1 X.2.1 dJ9_abs_067f4_8 (by decide) ?_
    obtain rfl := Option.some.inj h
    rw [hAA] at V
    rw [hQQ]
    exact k_lret X V rfl dJ9_abs_067f4_12

def p_J9_floorDiv_f86c9 (v0 : Int64) (v2 : Int64) : Option (Int64) :=
  kg (¬ v2 = 0) (kl (v0 / v2) (fun y1 => kif (0 ≤ (lg_cmp (v0 ^^^ v2) (0 : Int64))) (some y1) (kif ((lg_cmp (y1 * v2) v0) = 0) (some y1) (some ((y1 - (1 : Int64)))))))
set_option maxHeartbeats 4000000 in
set_option maxRecDepth 100000 in
theorem c_J9_floorDiv_f86c9 (l : Launch) (D : va_G) (g : kG)  (v0 : Int64) (v2 : Int64) (r : Int64) (h : p_J9_floorDiv_f86c9 v0 v2 = some r) : kMl l yJ9_floorDiv_f86c9 cJ9_floorDiv_f86c9 6 (some .long) (kR 0 0) D (kty g) [.long v0, .long v2] (List.flatten ([] : List va_W)) r (List.flatten ([] : List va_W)) := by
  intro sz
  refine k_enter (lv := [(0, .long v0), (2, .long v2)]) RJ9 (by decide +kernel) rfl rfl (Nat.le_of_ble_eq_true rfl) ?_
  intro p en s m args below meth c ls hsz X V hl
  obtain ⟨QQ, hQQ⟩ : ∃ q, q = MQ below (va_Ql (fun r' (_ : Unit) => r' = r) (fun _ => kE D (List.flatten ([] : List va_W))) (va_A (List.flatten ([] : List va_W)) sz)) args s 0 0 (va_A (List.flatten ([] : List va_W)) sz) := ⟨_, rfl⟩
  rw [← hQQ]
  obtain ⟨AA, hAA⟩ : ∃ q, q = va_A (List.flatten ([] : List va_W)) sz := ⟨_, rfl⟩
  rw [← hAA] at V
  unfold p_J9_floorDiv_f86c9 at h
  refine lv_lload_n X.1 X.2.1 dJ9_floorDiv_f86c9_0 rfl (lv_at hl 0 rfl) ?_
  refine lv_lload_n X.1 X.2.1 dJ9_floorDiv_f86c9_1 rfl (lv_at hl 1 rfl) ?_
  obtain ⟨hc, h⟩ := kg_of h
  refine lv_ldiv X.1 X.2.1 dJ9_floorDiv_f86c9_2 hc ?_
  refine lv_topl (fun y2 ey2 => ?_)
  replace h := kl_of ey2 h
  refine lv_lstore (lv' := [(4, .long y2), (0, .long v0), (2, .long v2)]) X.1 X.2.1 dJ9_floorDiv_f86c9_3 hl (by decide) rfl (fun ls hl => ?_)
  refine lv_lload_n X.1 X.2.1 dJ9_floorDiv_f86c9_5 rfl (lv_at hl 1 rfl) ?_
  refine lv_lload_n X.1 X.2.1 dJ9_floorDiv_f86c9_6 rfl (lv_at hl 2 rfl) ?_
  refine lv_lxor X.1 X.2.1 dJ9_floorDiv_f86c9_7 ?_
  refine lv_lconst (v := (0 : Int64)) X.1 X.2.1 dJ9_floorDiv_f86c9_8 (by decide) ?_
  refine W.lcmp X.1 X.2.1 dJ9_floorDiv_f86c9_9 ?_
  refine lv_if_ge (tgt := 27) X.1 X.2.1 dJ9_floorDiv_f86c9_10 (by decide) (fun hc => ?_) (fun hc => ?_)
  · replace h := kif_t hc h
    refine lv_lload X.1 X.2.1 dJ9_floorDiv_f86c9_27 (lv_at hl 0 rfl) ?_
    obtain rfl := Option.some.inj h
    rw [hAA] at V
    rw [hQQ]
    exact k_lret X V rfl dJ9_floorDiv_f86c9_29
  · replace h := kif_f hc h
    refine lv_lload X.1 X.2.1 dJ9_floorDiv_f86c9_13 (lv_at hl 0 rfl) ?_
    refine lv_lload_n X.1 X.2.1 dJ9_floorDiv_f86c9_15 rfl (lv_at hl 2 rfl) ?_
    refine lv_lmul X.1 X.2.1 dJ9_floorDiv_f86c9_16 ?_
    refine lv_lload_n X.1 X.2.1 dJ9_floorDiv_f86c9_17 rfl (lv_at hl 1 rfl) ?_
    refine W.lcmp X.1 X.2.1 dJ9_floorDiv_f86c9_18 ?_
    refine lv_if_eq (tgt := 27) X.1 X.2.1 dJ9_floorDiv_f86c9_19 (by decide) (fun hc => ?_) (fun hc => ?_)
    · replace h := kif_t hc h
      refine lv_lload X.1 X.2.1 dJ9_floorDiv_f86c9_27 (lv_at hl 0 rfl) ?_
      obtain rfl := Option.some.inj h
      rw [hAA] at V
      rw [hQQ]
      exact k_lret X V rfl dJ9_floorDiv_f86c9_29
    · replace h := kif_f hc h
      refine lv_lload X.1 X.2.1 dJ9_floorDiv_f86c9_22 (lv_at hl 0 rfl) ?_
      refine lv_lconst (v := (1 : Int64)) X.1 X.2.1 dJ9_floorDiv_f86c9_24 (by decide) ?_
      refine lv_lsub X.1 X.2.1 dJ9_floorDiv_f86c9_25 ?_
      obtain rfl := Option.some.inj h
      rw [hAA] at V
      rw [hQQ]
      exact k_lret X V rfl dJ9_floorDiv_f86c9_26

def p_J9_min_7cf53 (v0 : Int32) (v1 : Int32) : Option (Int32) :=
  kif (v1 < v0) (some v1) (some v0)
set_option maxHeartbeats 4000000 in
set_option maxRecDepth 100000 in
theorem c_J9_min_7cf53 (l : Launch) (D : va_G) (g : kG)  (v0 : Int32) (v1 : Int32) (r : Int32) (h : p_J9_min_7cf53 v0 v1 = some r) : kMi l yJ9_min_7cf53 cJ9_min_7cf53 2 (some .int) (kR 0 0) D (kty g) [.int v0, .int v1] (List.flatten ([] : List va_W)) r (List.flatten ([] : List va_W)) := by
  intro sz
  refine k_enter (lv := [(0, .int v0), (1, .int v1)]) RJ9 (by decide +kernel) rfl rfl (Nat.le_of_ble_eq_true rfl) ?_
  intro p en s m args below meth c ls hsz X V hl
  obtain ⟨QQ, hQQ⟩ : ∃ q, q = MQ below (va_Qi (fun r' (_ : Unit) => r' = r) (fun _ => kE D (List.flatten ([] : List va_W))) (va_A (List.flatten ([] : List va_W)) sz)) args s 0 0 (va_A (List.flatten ([] : List va_W)) sz) := ⟨_, rfl⟩
  rw [← hQQ]
  obtain ⟨AA, hAA⟩ : ∃ q, q = va_A (List.flatten ([] : List va_W)) sz := ⟨_, rfl⟩
  rw [← hAA] at V
  unfold p_J9_min_7cf53 at h
  refine lv_iload_n X.1 X.2.1 dJ9_min_7cf53_0 rfl (lv_at hl 0 rfl) ?_
  refine lv_iload_n X.1 X.2.1 dJ9_min_7cf53_1 rfl (lv_at hl 1 rfl) ?_
  refine lv_icmp_gt (tgt := 9) X.1 X.2.1 dJ9_min_7cf53_2 (by decide) (fun hc => ?_) (fun hc => ?_)
  · replace h := kif_t hc h
    refine lv_iload_n X.1 X.2.1 dJ9_min_7cf53_9 rfl (lv_at hl 1 rfl) ?_
    obtain rfl := Option.some.inj h
    rw [hAA] at V
    rw [hQQ]
    exact k_iret X V rfl dJ9_min_7cf53_10
  · replace h := kif_f hc h
    refine lv_iload_n X.1 X.2.1 dJ9_min_7cf53_5 rfl (lv_at hl 0 rfl) ?_
    refine lv_goto (tgt := 10) X.1 X.2.1 dJ9_min_7cf53_6 (by decide) ?_
    obtain rfl := Option.some.inj h
    rw [hAA] at V
    rw [hQQ]
    exact k_iret X V rfl dJ9_min_7cf53_10

def p_J6_bitCount_0f7a4 (v0 : Int32) : Option (Int32) :=
  kl (v0 - ((v0.toUInt32 >>> ((1 : Int32).toUInt32 &&& Int32.toUInt32 31)).toInt32 &&& (1431655765 : Int32))) (fun y1 => kl ((y1 &&& (858993459 : Int32)) + ((y1.toUInt32 >>> ((2 : Int32).toUInt32 &&& Int32.toUInt32 31)).toInt32 &&& (858993459 : Int32))) (fun y2 => kl ((y2 + (y2.toUInt32 >>> ((4 : Int32).toUInt32 &&& Int32.toUInt32 31)).toInt32) &&& (252645135 : Int32)) (fun y3 => kl (y3 + (y3.toUInt32 >>> ((8 : Int32).toUInt32 &&& Int32.toUInt32 31)).toInt32) (fun y4 => kl (y4 + (y4.toUInt32 >>> ((16 : Int32).toUInt32 &&& Int32.toUInt32 31)).toInt32) (fun y5 => some ((y5 &&& (63 : Int32))))))))
set_option maxHeartbeats 4000000 in
set_option maxRecDepth 100000 in
theorem c_J6_bitCount_0f7a4 (l : Launch) (D : va_G) (g : kG)  (v0 : Int32) (r : Int32) (h : p_J6_bitCount_0f7a4 v0 = some r) : kMi l yJ6_bitCount_0f7a4 cJ6_bitCount_0f7a4 1 (some .int) (kR 0 0) D (kty g) [.int v0] (List.flatten ([] : List va_W)) r (List.flatten ([] : List va_W)) := by
  intro sz
  refine k_enter (lv := [(0, .int v0)]) RJ6 (by decide +kernel) rfl rfl (Nat.le_of_ble_eq_true rfl) ?_
  intro p en s m args below meth c ls hsz X V hl
  obtain ⟨QQ, hQQ⟩ : ∃ q, q = MQ below (va_Qi (fun r' (_ : Unit) => r' = r) (fun _ => kE D (List.flatten ([] : List va_W))) (va_A (List.flatten ([] : List va_W)) sz)) args s 0 0 (va_A (List.flatten ([] : List va_W)) sz) := ⟨_, rfl⟩
  rw [← hQQ]
  obtain ⟨AA, hAA⟩ : ∃ q, q = va_A (List.flatten ([] : List va_W)) sz := ⟨_, rfl⟩
  rw [← hAA] at V
  unfold p_J6_bitCount_0f7a4 at h
  refine lv_iload_n X.1 X.2.1 dJ6_bitCount_0f7a4_0 rfl (lv_at hl 0 rfl) ?_
  refine lv_iload_n X.1 X.2.1 dJ6_bitCount_0f7a4_1 rfl (lv_at hl 0 rfl) ?_
  refine lv_iconst (v := (1 : Int32)) X.1 X.2.1 dJ6_bitCount_0f7a4_2 (by decide) ?_
  refine lv_iushr X.1 X.2.1 dJ6_bitCount_0f7a4_3 rfl ?_
  refine lv_ldcw (v := (1431655765 : Int32)) X.1 X.2.1 X.2.2.2.1 (X.2.2.2.2.1 _ kc_J6_265) dJ6_bitCount_0f7a4_4 ?_
  refine lv_iand X.1 X.2.1 dJ6_bitCount_0f7a4_7 ?_
  refine lv_isub X.1 X.2.1 dJ6_bitCount_0f7a4_8 ?_
  refine lv_topi (fun y6 ey6 => ?_)
  replace h := kl_of ey6 h
  refine lv_istore_n (lv' := [(0, .int y6)]) X.1 X.2.1 dJ6_bitCount_0f7a4_9 rfl hl (by decide) rfl (fun ls hl => ?_)
  refine lv_iload_n X.1 X.2.1 dJ6_bitCount_0f7a4_10 rfl (lv_at hl 0 rfl) ?_
  refine lv_ldcw (v := (858993459 : Int32)) X.1 X.2.1 X.2.2.2.1 (X.2.2.2.2.1 _ kc_J6_266) dJ6_bitCount_0f7a4_11 ?_
  refine lv_iand X.1 X.2.1 dJ6_bitCount_0f7a4_14 ?_
  refine lv_iload_n X.1 X.2.1 dJ6_bitCount_0f7a4_15 rfl (lv_at hl 0 rfl) ?_
  refine lv_iconst (v := (2 : Int32)) X.1 X.2.1 dJ6_bitCount_0f7a4_16 (by decide) ?_
  refine lv_iushr X.1 X.2.1 dJ6_bitCount_0f7a4_17 rfl ?_
  refine lv_ldcw (v := (858993459 : Int32)) X.1 X.2.1 X.2.2.2.1 (X.2.2.2.2.1 _ kc_J6_266) dJ6_bitCount_0f7a4_18 ?_
  refine lv_iand X.1 X.2.1 dJ6_bitCount_0f7a4_21 ?_
  refine lv_iadd X.1 X.2.1 dJ6_bitCount_0f7a4_22 ?_
  refine lv_topi (fun y7 ey7 => ?_)
  replace h := kl_of ey7 h
  refine lv_istore_n (lv' := [(0, .int y7)]) X.1 X.2.1 dJ6_bitCount_0f7a4_23 rfl hl (by decide) rfl (fun ls hl => ?_)
  refine lv_iload_n X.1 X.2.1 dJ6_bitCount_0f7a4_24 rfl (lv_at hl 0 rfl) ?_
  refine lv_iload_n X.1 X.2.1 dJ6_bitCount_0f7a4_25 rfl (lv_at hl 0 rfl) ?_
  refine lv_iconst (v := (4 : Int32)) X.1 X.2.1 dJ6_bitCount_0f7a4_26 (by decide) ?_
  refine lv_iushr X.1 X.2.1 dJ6_bitCount_0f7a4_27 rfl ?_
  refine lv_iadd X.1 X.2.1 dJ6_bitCount_0f7a4_28 ?_
  refine lv_ldcw (v := (252645135 : Int32)) X.1 X.2.1 X.2.2.2.1 (X.2.2.2.2.1 _ kc_J6_267) dJ6_bitCount_0f7a4_29 ?_
  refine lv_iand X.1 X.2.1 dJ6_bitCount_0f7a4_32 ?_
  refine lv_topi (fun y8 ey8 => ?_)
  replace h := kl_of ey8 h
  refine lv_istore_n (lv' := [(0, .int y8)]) X.1 X.2.1 dJ6_bitCount_0f7a4_33 rfl hl (by decide) rfl (fun ls hl => ?_)
  refine lv_iload_n X.1 X.2.1 dJ6_bitCount_0f7a4_34 rfl (lv_at hl 0 rfl) ?_
  refine lv_iload_n X.1 X.2.1 dJ6_bitCount_0f7a4_35 rfl (lv_at hl 0 rfl) ?_
  refine lv_bipush (v := (8 : Int32)) X.1 X.2.1 dJ6_bitCount_0f7a4_36 (by decide) ?_
  refine lv_iushr X.1 X.2.1 dJ6_bitCount_0f7a4_38 rfl ?_
  refine lv_iadd X.1 X.2.1 dJ6_bitCount_0f7a4_39 ?_
  refine lv_topi (fun y9 ey9 => ?_)
  replace h := kl_of ey9 h
  refine lv_istore_n (lv' := [(0, .int y9)]) X.1 X.2.1 dJ6_bitCount_0f7a4_40 rfl hl (by decide) rfl (fun ls hl => ?_)
  refine lv_iload_n X.1 X.2.1 dJ6_bitCount_0f7a4_41 rfl (lv_at hl 0 rfl) ?_
  refine lv_iload_n X.1 X.2.1 dJ6_bitCount_0f7a4_42 rfl (lv_at hl 0 rfl) ?_
  refine lv_bipush (v := (16 : Int32)) X.1 X.2.1 dJ6_bitCount_0f7a4_43 (by decide) ?_
  refine lv_iushr X.1 X.2.1 dJ6_bitCount_0f7a4_45 rfl ?_
  refine lv_iadd X.1 X.2.1 dJ6_bitCount_0f7a4_46 ?_
  refine lv_topi (fun y10 ey10 => ?_)
  replace h := kl_of ey10 h
  refine lv_istore_n (lv' := [(0, .int y10)]) X.1 X.2.1 dJ6_bitCount_0f7a4_47 rfl hl (by decide) rfl (fun ls hl => ?_)
  refine lv_iload_n X.1 X.2.1 dJ6_bitCount_0f7a4_48 rfl (lv_at hl 0 rfl) ?_
  refine lv_bipush (v := (63 : Int32)) X.1 X.2.1 dJ6_bitCount_0f7a4_49 (by decide) ?_
  refine lv_iand X.1 X.2.1 dJ6_bitCount_0f7a4_51 ?_
  obtain rfl := Option.some.inj h
  rw [hAA] at V
  rw [hQQ]
  exact k_iret X V rfl dJ6_bitCount_0f7a4_52

def p_J9_max_f86c9 (v0 : Int64) (v2 : Int64) : Option (Int64) :=
  kif ((lg_cmp v0 v2) < 0) (some v2) (some v0)
set_option maxHeartbeats 4000000 in
set_option maxRecDepth 100000 in
theorem c_J9_max_f86c9 (l : Launch) (D : va_G) (g : kG)  (v0 : Int64) (v2 : Int64) (r : Int64) (h : p_J9_max_f86c9 v0 v2 = some r) : kMl l yJ9_max_f86c9 cJ9_max_f86c9 4 (some .long) (kR 0 0) D (kty g) [.long v0, .long v2] (List.flatten ([] : List va_W)) r (List.flatten ([] : List va_W)) := by
  intro sz
  refine k_enter (lv := [(0, .long v0), (2, .long v2)]) RJ9 (by decide +kernel) rfl rfl (Nat.le_of_ble_eq_true rfl) ?_
  intro p en s m args below meth c ls hsz X V hl
  obtain ⟨QQ, hQQ⟩ : ∃ q, q = MQ below (va_Ql (fun r' (_ : Unit) => r' = r) (fun _ => kE D (List.flatten ([] : List va_W))) (va_A (List.flatten ([] : List va_W)) sz)) args s 0 0 (va_A (List.flatten ([] : List va_W)) sz) := ⟨_, rfl⟩
  rw [← hQQ]
  obtain ⟨AA, hAA⟩ : ∃ q, q = va_A (List.flatten ([] : List va_W)) sz := ⟨_, rfl⟩
  rw [← hAA] at V
  unfold p_J9_max_f86c9 at h
  refine lv_lload_n X.1 X.2.1 dJ9_max_f86c9_0 rfl (lv_at hl 0 rfl) ?_
  refine lv_lload_n X.1 X.2.1 dJ9_max_f86c9_1 rfl (lv_at hl 1 rfl) ?_
  refine W.lcmp X.1 X.2.1 dJ9_max_f86c9_2 ?_
  refine lv_if_lt (tgt := 10) X.1 X.2.1 dJ9_max_f86c9_3 (by decide) (fun hc => ?_) (fun hc => ?_)
  · replace h := kif_t hc h
    refine lv_lload_n X.1 X.2.1 dJ9_max_f86c9_10 rfl (lv_at hl 1 rfl) ?_
    obtain rfl := Option.some.inj h
    rw [hAA] at V
    rw [hQQ]
    exact k_lret X V rfl dJ9_max_f86c9_11
  · replace h := kif_f hc h
    refine lv_lload_n X.1 X.2.1 dJ9_max_f86c9_6 rfl (lv_at hl 0 rfl) ?_
    refine lv_goto (tgt := 11) X.1 X.2.1 dJ9_max_f86c9_7 (by decide) ?_
    obtain rfl := Option.some.inj h
    rw [hAA] at V
    rw [hQQ]
    exact k_lret X V rfl dJ9_max_f86c9_11

def p_J9_min_f86c9 (v0 : Int64) (v2 : Int64) : Option (Int64) :=
  kif (0 < (lg_cmp v0 v2)) (some v2) (some v0)
set_option maxHeartbeats 4000000 in
set_option maxRecDepth 100000 in
theorem c_J9_min_f86c9 (l : Launch) (D : va_G) (g : kG)  (v0 : Int64) (v2 : Int64) (r : Int64) (h : p_J9_min_f86c9 v0 v2 = some r) : kMl l yJ9_min_f86c9 cJ9_min_f86c9 4 (some .long) (kR 0 0) D (kty g) [.long v0, .long v2] (List.flatten ([] : List va_W)) r (List.flatten ([] : List va_W)) := by
  intro sz
  refine k_enter (lv := [(0, .long v0), (2, .long v2)]) RJ9 (by decide +kernel) rfl rfl (Nat.le_of_ble_eq_true rfl) ?_
  intro p en s m args below meth c ls hsz X V hl
  obtain ⟨QQ, hQQ⟩ : ∃ q, q = MQ below (va_Ql (fun r' (_ : Unit) => r' = r) (fun _ => kE D (List.flatten ([] : List va_W))) (va_A (List.flatten ([] : List va_W)) sz)) args s 0 0 (va_A (List.flatten ([] : List va_W)) sz) := ⟨_, rfl⟩
  rw [← hQQ]
  obtain ⟨AA, hAA⟩ : ∃ q, q = va_A (List.flatten ([] : List va_W)) sz := ⟨_, rfl⟩
  rw [← hAA] at V
  unfold p_J9_min_f86c9 at h
  refine lv_lload_n X.1 X.2.1 dJ9_min_f86c9_0 rfl (lv_at hl 0 rfl) ?_
  refine lv_lload_n X.1 X.2.1 dJ9_min_f86c9_1 rfl (lv_at hl 1 rfl) ?_
  refine W.lcmp X.1 X.2.1 dJ9_min_f86c9_2 ?_
  refine lv_if_gt (tgt := 10) X.1 X.2.1 dJ9_min_f86c9_3 (by decide) (fun hc => ?_) (fun hc => ?_)
  · replace h := kif_t hc h
    refine lv_lload_n X.1 X.2.1 dJ9_min_f86c9_10 rfl (lv_at hl 1 rfl) ?_
    obtain rfl := Option.some.inj h
    rw [hAA] at V
    rw [hQQ]
    exact k_lret X V rfl dJ9_min_f86c9_11
  · replace h := kif_f hc h
    refine lv_lload_n X.1 X.2.1 dJ9_min_f86c9_6 rfl (lv_at hl 0 rfl) ?_
    refine lv_goto (tgt := 11) X.1 X.2.1 dJ9_min_f86c9_7 (by decide) ?_
    obtain rfl := Option.some.inj h
    rw [hAA] at V
    rw [hQQ]
    exact k_lret X V rfl dJ9_min_f86c9_11

def p_J9_abs_0f7a4 (v0 : Int32) : Option (Int32) :=
  kif (0 ≤ v0) (some v0) (some ((-v0)))
set_option maxHeartbeats 4000000 in
set_option maxRecDepth 100000 in
theorem c_J9_abs_0f7a4 (l : Launch) (D : va_G) (g : kG)  (v0 : Int32) (r : Int32) (h : p_J9_abs_0f7a4 v0 = some r) : kMi l yJ9_abs_0f7a4 cJ9_abs_0f7a4 1 (some .int) (kR 0 0) D (kty g) [.int v0] (List.flatten ([] : List va_W)) r (List.flatten ([] : List va_W)) := by
  intro sz
  refine k_enter (lv := [(0, .int v0)]) RJ9 (by decide +kernel) rfl rfl (Nat.le_of_ble_eq_true rfl) ?_
  intro p en s m args below meth c ls hsz X V hl
  obtain ⟨QQ, hQQ⟩ : ∃ q, q = MQ below (va_Qi (fun r' (_ : Unit) => r' = r) (fun _ => kE D (List.flatten ([] : List va_W))) (va_A (List.flatten ([] : List va_W)) sz)) args s 0 0 (va_A (List.flatten ([] : List va_W)) sz) := ⟨_, rfl⟩
  rw [← hQQ]
  obtain ⟨AA, hAA⟩ : ∃ q, q = va_A (List.flatten ([] : List va_W)) sz := ⟨_, rfl⟩
  rw [← hAA] at V
  unfold p_J9_abs_0f7a4 at h
  refine lv_iload_n X.1 X.2.1 dJ9_abs_0f7a4_0 rfl (lv_at hl 0 rfl) ?_
  refine lv_if_ge (tgt := 9) X.1 X.2.1 dJ9_abs_0f7a4_1 (by decide) (fun hc => ?_) (fun hc => ?_)
  · replace h := kif_t hc h
    refine lv_iload_n X.1 X.2.1 dJ9_abs_0f7a4_9 rfl (lv_at hl 0 rfl) ?_
    obtain rfl := Option.some.inj h
    rw [hAA] at V
    rw [hQQ]
    exact k_iret X V rfl dJ9_abs_0f7a4_10
  · replace h := kif_f hc h
    refine lv_iload_n X.1 X.2.1 dJ9_abs_0f7a4_4 rfl (lv_at hl 0 rfl) ?_
    refine lv_ineg X.1 X.2.1 dJ9_abs_0f7a4_5 ?_
    refine lv_goto (tgt := 10) X.1 X.2.1 dJ9_abs_0f7a4_6 (by decide) ?_
    obtain rfl := Option.some.inj h
    rw [hAA] at V
    rw [hQQ]
    exact k_iret X V rfl dJ9_abs_0f7a4_10

def p_J13_bitCount_95d88 (v0 : Int64) : Option (Int32) :=
  kl (v0 - ((v0.toUInt64 >>> ((1 : Int32).toInt64.toUInt64 &&& Int64.toUInt64 63)).toInt64 &&& (6148914691236517205 : Int64))) (fun y1 => kl ((y1 &&& (3689348814741910323 : Int64)) + ((y1.toUInt64 >>> ((2 : Int32).toInt64.toUInt64 &&& Int64.toUInt64 63)).toInt64 &&& (3689348814741910323 : Int64))) (fun y2 => kl ((y2 + (y2.toUInt64 >>> ((4 : Int32).toInt64.toUInt64 &&& Int64.toUInt64 63)).toInt64) &&& (1085102592571150095 : Int64)) (fun y3 => kl (y3 + (y3.toUInt64 >>> ((8 : Int32).toInt64.toUInt64 &&& Int64.toUInt64 63)).toInt64) (fun y4 => kl (y4 + (y4.toUInt64 >>> ((16 : Int32).toInt64.toUInt64 &&& Int64.toUInt64 63)).toInt64) (fun y5 => kl (y5 + (y5.toUInt64 >>> ((32 : Int32).toInt64.toUInt64 &&& Int64.toUInt64 63)).toInt64) (fun y6 => some ((y6.toInt32 &&& (127 : Int32)))))))))
set_option maxHeartbeats 4000000 in
set_option maxRecDepth 100000 in
theorem c_J13_bitCount_95d88 (l : Launch) (D : va_G) (g : kG)  (v0 : Int64) (r : Int32) (h : p_J13_bitCount_95d88 v0 = some r) : kMi l yJ13_bitCount_95d88 cJ13_bitCount_95d88 2 (some .int) (kR 0 0) D (kty g) [.long v0] (List.flatten ([] : List va_W)) r (List.flatten ([] : List va_W)) := by
  intro sz
  refine k_enter (lv := [(0, .long v0)]) RJ13 (by decide +kernel) rfl rfl (Nat.le_of_ble_eq_true rfl) ?_
  intro p en s m args below meth c ls hsz X V hl
  obtain ⟨QQ, hQQ⟩ : ∃ q, q = MQ below (va_Qi (fun r' (_ : Unit) => r' = r) (fun _ => kE D (List.flatten ([] : List va_W))) (va_A (List.flatten ([] : List va_W)) sz)) args s 0 0 (va_A (List.flatten ([] : List va_W)) sz) := ⟨_, rfl⟩
  rw [← hQQ]
  obtain ⟨AA, hAA⟩ : ∃ q, q = va_A (List.flatten ([] : List va_W)) sz := ⟨_, rfl⟩
  rw [← hAA] at V
  unfold p_J13_bitCount_95d88 at h
  refine lv_lload_n X.1 X.2.1 dJ13_bitCount_95d88_0 rfl (lv_at hl 0 rfl) ?_
  refine lv_lload_n X.1 X.2.1 dJ13_bitCount_95d88_1 rfl (lv_at hl 0 rfl) ?_
  refine lv_iconst (v := (1 : Int32)) X.1 X.2.1 dJ13_bitCount_95d88_2 (by decide) ?_
  refine lv_lushr X.1 X.2.1 dJ13_bitCount_95d88_3 rfl ?_
  refine lv_ldc2 (v := (6148914691236517205 : Int64)) X.1 X.2.1 X.2.2.2.1 (X.2.2.2.2.1 _ kc_J13_314) dJ13_bitCount_95d88_4 ?_
  refine lv_land X.1 X.2.1 dJ13_bitCount_95d88_7 ?_
  refine lv_lsub X.1 X.2.1 dJ13_bitCount_95d88_8 ?_
  refine lv_topl (fun y7 ey7 => ?_)
  replace h := kl_of ey7 h
  refine lv_lstore_n (lv' := [(0, .long y7)]) X.1 X.2.1 dJ13_bitCount_95d88_9 rfl hl (by decide) rfl (fun ls hl => ?_)
  refine lv_lload_n X.1 X.2.1 dJ13_bitCount_95d88_10 rfl (lv_at hl 0 rfl) ?_
  refine lv_ldc2 (v := (3689348814741910323 : Int64)) X.1 X.2.1 X.2.2.2.1 (X.2.2.2.2.1 _ kc_J13_316) dJ13_bitCount_95d88_11 ?_
  refine lv_land X.1 X.2.1 dJ13_bitCount_95d88_14 ?_
  refine lv_lload_n X.1 X.2.1 dJ13_bitCount_95d88_15 rfl (lv_at hl 0 rfl) ?_
  refine lv_iconst (v := (2 : Int32)) X.1 X.2.1 dJ13_bitCount_95d88_16 (by decide) ?_
  refine lv_lushr X.1 X.2.1 dJ13_bitCount_95d88_17 rfl ?_
  refine lv_ldc2 (v := (3689348814741910323 : Int64)) X.1 X.2.1 X.2.2.2.1 (X.2.2.2.2.1 _ kc_J13_316) dJ13_bitCount_95d88_18 ?_
  refine lv_land X.1 X.2.1 dJ13_bitCount_95d88_21 ?_
  refine lv_ladd X.1 X.2.1 dJ13_bitCount_95d88_22 ?_
  refine lv_topl (fun y8 ey8 => ?_)
  replace h := kl_of ey8 h
  refine lv_lstore_n (lv' := [(0, .long y8)]) X.1 X.2.1 dJ13_bitCount_95d88_23 rfl hl (by decide) rfl (fun ls hl => ?_)
  refine lv_lload_n X.1 X.2.1 dJ13_bitCount_95d88_24 rfl (lv_at hl 0 rfl) ?_
  refine lv_lload_n X.1 X.2.1 dJ13_bitCount_95d88_25 rfl (lv_at hl 0 rfl) ?_
  refine lv_iconst (v := (4 : Int32)) X.1 X.2.1 dJ13_bitCount_95d88_26 (by decide) ?_
  refine lv_lushr X.1 X.2.1 dJ13_bitCount_95d88_27 rfl ?_
  refine lv_ladd X.1 X.2.1 dJ13_bitCount_95d88_28 ?_
  refine lv_ldc2 (v := (1085102592571150095 : Int64)) X.1 X.2.1 X.2.2.2.1 (X.2.2.2.2.1 _ kc_J13_318) dJ13_bitCount_95d88_29 ?_
  refine lv_land X.1 X.2.1 dJ13_bitCount_95d88_32 ?_
  refine lv_topl (fun y9 ey9 => ?_)
  replace h := kl_of ey9 h
  refine lv_lstore_n (lv' := [(0, .long y9)]) X.1 X.2.1 dJ13_bitCount_95d88_33 rfl hl (by decide) rfl (fun ls hl => ?_)
  refine lv_lload_n X.1 X.2.1 dJ13_bitCount_95d88_34 rfl (lv_at hl 0 rfl) ?_
  refine lv_lload_n X.1 X.2.1 dJ13_bitCount_95d88_35 rfl (lv_at hl 0 rfl) ?_
  refine lv_bipush (v := (8 : Int32)) X.1 X.2.1 dJ13_bitCount_95d88_36 (by decide) ?_
  refine lv_lushr X.1 X.2.1 dJ13_bitCount_95d88_38 rfl ?_
  refine lv_ladd X.1 X.2.1 dJ13_bitCount_95d88_39 ?_
  refine lv_topl (fun y10 ey10 => ?_)
  replace h := kl_of ey10 h
  refine lv_lstore_n (lv' := [(0, .long y10)]) X.1 X.2.1 dJ13_bitCount_95d88_40 rfl hl (by decide) rfl (fun ls hl => ?_)
  refine lv_lload_n X.1 X.2.1 dJ13_bitCount_95d88_41 rfl (lv_at hl 0 rfl) ?_
  refine lv_lload_n X.1 X.2.1 dJ13_bitCount_95d88_42 rfl (lv_at hl 0 rfl) ?_
  refine lv_bipush (v := (16 : Int32)) X.1 X.2.1 dJ13_bitCount_95d88_43 (by decide) ?_
  refine lv_lushr X.1 X.2.1 dJ13_bitCount_95d88_45 rfl ?_
  refine lv_ladd X.1 X.2.1 dJ13_bitCount_95d88_46 ?_
  refine lv_topl (fun y11 ey11 => ?_)
  replace h := kl_of ey11 h
  refine lv_lstore_n (lv' := [(0, .long y11)]) X.1 X.2.1 dJ13_bitCount_95d88_47 rfl hl (by decide) rfl (fun ls hl => ?_)
  refine lv_lload_n X.1 X.2.1 dJ13_bitCount_95d88_48 rfl (lv_at hl 0 rfl) ?_
  refine lv_lload_n X.1 X.2.1 dJ13_bitCount_95d88_49 rfl (lv_at hl 0 rfl) ?_
  refine lv_bipush (v := (32 : Int32)) X.1 X.2.1 dJ13_bitCount_95d88_50 (by decide) ?_
  refine lv_lushr X.1 X.2.1 dJ13_bitCount_95d88_52 rfl ?_
  refine lv_ladd X.1 X.2.1 dJ13_bitCount_95d88_53 ?_
  refine lv_topl (fun y12 ey12 => ?_)
  replace h := kl_of ey12 h
  refine lv_lstore_n (lv' := [(0, .long y12)]) X.1 X.2.1 dJ13_bitCount_95d88_54 rfl hl (by decide) rfl (fun ls hl => ?_)
  refine lv_lload_n X.1 X.2.1 dJ13_bitCount_95d88_55 rfl (lv_at hl 0 rfl) ?_
  refine lv_l2i X.1 X.2.1 dJ13_bitCount_95d88_56 rfl ?_
  refine lv_bipush (v := (127 : Int32)) X.1 X.2.1 dJ13_bitCount_95d88_57 (by decide) ?_
  refine lv_iand X.1 X.2.1 dJ13_bitCount_95d88_59 ?_
  obtain rfl := Option.some.inj h
  rw [hAA] at V
  rw [hQQ]
  exact k_iret X V rfl dJ13_bitCount_95d88_60
