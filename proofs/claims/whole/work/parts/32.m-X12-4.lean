def p_X12_isTightPair (zT : tX12) (v1 : Int32) (v2 : Int32) : Option (Bool) :=
  kb (p_X12_apart zT v1 v2) (fun x1 => kb (p_X12_above x1 (4 : Int64)) (fun x2 => kif ((lg_cmp x2 (zT.2.1 21)) = 0) (kb (p_X12_below x1 (4 : Int64)) (fun x3 => kif ((lg_cmp x3 (zT.2.1 22)) = 0) (some true) (some false))) (some false)))
set_option maxHeartbeats 4000000 in
set_option maxRecDepth 100000 in
theorem c_X12_isTightPair (l : Launch) (D : va_G) (g : kG) (aT : Nat → Nat) (zT : tX12) (v1 : Int32) (v2 : Int32) (r : Bool) (h : p_X12_isTightPair zT v1 v2 = some r) : kMi l yX12_isTightPair cX12_isTightPair 5 (some .boolean) (kR 2 52) D (kty g) [.ref (aT 0), .int v1, .int v2] (List.flatten [gX12 g aT zT]) (kz r) (List.flatten [gX12 g aT zT]) := by
  intro sz
  refine k_enter (lv := [(0, .ref (aT 0)), (1, .int v1), (2, .int v2)]) RX12 (by decide +kernel) rfl rfl (Nat.le_of_ble_eq_true rfl) ?_
  intro p en s m args below meth c ls hsz X V hl
  obtain ⟨QQ, hQQ⟩ : ∃ q, q = MQ below (va_Qi (fun r' (_ : Unit) => r' = kz r) (fun _ => kE D (List.flatten [gX12 g aT zT])) (va_A (List.flatten [gX12 g aT zT]) sz)) args s 0 0 (va_A (List.flatten [gX12 g aT zT]) sz) := ⟨_, rfl⟩
  rw [← hQQ]
  obtain ⟨AA, hAA⟩ : ∃ q, q = va_A (List.flatten [gX12 g aT zT]) sz := ⟨_, rfl⟩
  rw [← hAA] at V
  unfold p_X12_isTightPair at h
  refine lv_aload_n X.1 X.2.1 dX12_isTightPair_0 rfl (lv_at hl 0 rfl) ?_
  refine lv_iload_n X.1 X.2.1 dX12_isTightPair_1 rfl (lv_at hl 1 rfl) ?_
  refine lv_iload_n X.1 X.2.1 dX12_isTightPair_2 rfl (lv_at hl 2 rfl) ?_
  obtain ⟨x4, hx4, h⟩ := kb_of h
  refine s_callVl (segs' := [gX12 g aT zT]) (ci := 12) (i0 := 0) X V (c_X12_apart l D g aT zT v1 v2 x4 hx4) w_X12_204 ⟨Nat.le_of_ble_eq_true rfl, Nat.le_of_ble_eq_true rfl⟩ ⟨Nat.zero_le _, Nat.zero_le _⟩ rfl rfl rfl rfl [0] rfl rfl (kFst_refl _) rfl rfl hl.1 (Nat.le_of_ble_eq_true rfl) dX12_isTightPair_3 (fun H locs V => ?_)
  refine lv_lstore_n (lv' := [(3, .long x4), (0, .ref (aT 0)), (1, .int v1), (2, .int v2)]) X.1 X.2.1 dX12_isTightPair_6 rfl hl (by decide) rfl (fun ls hl => ?_)
  refine lv_lload_n X.1 X.2.1 dX12_isTightPair_7 rfl (lv_at hl 0 rfl) ?_
  refine lv_ldc2 (v := (4 : Int64)) X.1 X.2.1 X.2.2.2.1 (X.2.2.2.2.1 _ kc_X12_208) dX12_isTightPair_8 ?_
  obtain ⟨x5, hx5, h⟩ := kb_of h
  refine s_callSl (segs' := [gX12 g aT zT]) X V (c_X12_above l D g x4 (4 : Int64) x5 hx5) w_X12_210 ⟨Nat.le_of_ble_eq_true rfl, Nat.le_of_ble_eq_true rfl⟩ ⟨Nat.zero_le _, Nat.zero_le _⟩ rfl [] rfl rfl (kFst_refl _) rfl rfl hl.1 (Nat.le_of_ble_eq_true rfl) dX12_isTightPair_11 (fun H locs V => ?_)
  refine lv_aload_n X.1 X.2.1 dX12_isTightPair_14 rfl (lv_at hl 1 rfl) ?_
  refine gf_X12_196 (i := 0) X V rfl dX12_isTightPair_15 ?_
  refine W.lcmp X.1 X.2.1 dX12_isTightPair_18 ?_
  refine lv_if_ne (tgt := 41) X.1 X.2.1 dX12_isTightPair_19 (by decide) (fun hc => ?_) (fun hc => ?_)
  · replace h := kif_f hc h
    refine lv_iconst (v := (0 : Int32)) X.1 X.2.1 dX12_isTightPair_41 (by decide) ?_
    obtain rfl := Option.some.inj h
    rw [hAA] at V
    rw [hQQ]
    exact k_zret X V (b := false) rfl rfl dX12_isTightPair_42
  · replace h := kif_t hc h
    refine lv_lload_n X.1 X.2.1 dX12_isTightPair_22 rfl (lv_at hl 0 rfl) ?_
    refine lv_ldc2 (v := (4 : Int64)) X.1 X.2.1 X.2.2.2.1 (X.2.2.2.2.1 _ kc_X12_208) dX12_isTightPair_23 ?_
    obtain ⟨x6, hx6, h⟩ := kb_of h
    refine s_callSl (segs' := [gX12 g aT zT]) X V (c_X12_below l D g x4 (4 : Int64) x6 hx6) w_X12_213 ⟨Nat.le_of_ble_eq_true rfl, Nat.le_of_ble_eq_true rfl⟩ ⟨Nat.zero_le _, Nat.zero_le _⟩ rfl [] rfl rfl (kFst_refl _) rfl rfl hl.1 (Nat.le_of_ble_eq_true rfl) dX12_isTightPair_26 (fun H locs V => ?_)
    refine lv_aload_n X.1 X.2.1 dX12_isTightPair_29 rfl (lv_at hl 1 rfl) ?_
    refine gf_X12_199 (i := 0) X V rfl dX12_isTightPair_30 ?_
    refine W.lcmp X.1 X.2.1 dX12_isTightPair_33 ?_
    refine lv_if_ne (tgt := 41) X.1 X.2.1 dX12_isTightPair_34 (by decide) (fun hc => ?_) (fun hc => ?_)
    · replace h := kif_f hc h
      refine lv_iconst (v := (0 : Int32)) X.1 X.2.1 dX12_isTightPair_41 (by decide) ?_
      obtain rfl := Option.some.inj h
      rw [hAA] at V
      rw [hQQ]
      exact k_zret X V (b := false) rfl rfl dX12_isTightPair_42
    · replace h := kif_t hc h
      refine lv_iconst (v := (1 : Int32)) X.1 X.2.1 dX12_isTightPair_37 (by decide) ?_
      refine lv_goto (tgt := 42) X.1 X.2.1 dX12_isTightPair_38 (by decide) ?_
      obtain rfl := Option.some.inj h
      rw [hAA] at V
      rw [hQQ]
      exact k_zret X V (b := true) rfl rfl dX12_isTightPair_42

def p_X12_isTightTriple (zT : tX12) (v1 : Int32) (v2 : Int32) (v3 : Int32) : Option (Bool) :=
  kg (kii v1 41) (kg (kii v1 41) (kb (p_X12_lies zT (((zT.2.2.1 12) v1.toNatClampNeg)).toInt64 (((zT.2.2.1 13) v1.toNatClampNeg)).toInt64) (fun x1 => kif ((lg_cmp x1 (0 : Int64)) = 0) (kg (kii v2 41) (kg (kii v2 41) (kb (p_X12_lies zT (((zT.2.2.1 12) v2.toNatClampNeg)).toInt64 (((zT.2.2.1 13) v2.toNatClampNeg)).toInt64) (fun x2 => kif ((lg_cmp x2 (0 : Int64)) = 0) (kg (kii v3 41) (kg (kii v3 41) (kb (p_X12_lies zT (((zT.2.2.1 12) v3.toNatClampNeg)).toInt64 (((zT.2.2.1 13) v3.toNatClampNeg)).toInt64) (fun x3 => kif ((lg_cmp x3 (0 : Int64)) = 0) (kb (p_X12_apart zT v1 v2) (fun x4 => kb (p_X12_apart zT v2 v3) (fun x5 => kb (p_X12_apart zT v3 v1) (fun x6 => kif (0 ≤ (lg_cmp x4 (x5 + x6))) (some false) (kif (0 ≤ (lg_cmp x5 (x4 + x6))) (some false) (kif (0 ≤ (lg_cmp x6 (x4 + x5))) (some false) (some true))))))) (some false))))) (some false))))) (some false))))
set_option maxHeartbeats 4000000 in
set_option maxRecDepth 100000 in
theorem c_X12_isTightTriple (l : Launch) (D : va_G) (g : kG) (aT : Nat → Nat) (zT : tX12) (v1 : Int32) (v2 : Int32) (v3 : Int32) (r : Bool) (h : p_X12_isTightTriple zT v1 v2 v3 = some r) : kMi l yX12_isTightTriple cX12_isTightTriple 10 (some .boolean) (kR 1 28) D (kty g) [.ref (aT 0), .int v1, .int v2, .int v3] (List.flatten [gX12 g aT zT]) (kz r) (List.flatten [gX12 g aT zT]) := by
  intro sz
  refine k_enter (lv := [(0, .ref (aT 0)), (1, .int v1), (2, .int v2), (3, .int v3)]) RX12 (by decide +kernel) rfl rfl (Nat.le_of_ble_eq_true rfl) ?_
  intro p en s m args below meth c ls hsz X V hl
  obtain ⟨QQ, hQQ⟩ : ∃ q, q = MQ below (va_Qi (fun r' (_ : Unit) => r' = kz r) (fun _ => kE D (List.flatten [gX12 g aT zT])) (va_A (List.flatten [gX12 g aT zT]) sz)) args s 0 0 (va_A (List.flatten [gX12 g aT zT]) sz) := ⟨_, rfl⟩
  rw [← hQQ]
  obtain ⟨AA, hAA⟩ : ∃ q, q = va_A (List.flatten [gX12 g aT zT]) sz := ⟨_, rfl⟩
  rw [← hAA] at V
  unfold p_X12_isTightTriple at h
  refine lv_aload_n X.1 X.2.1 dX12_isTightTriple_0 rfl (lv_at hl 0 rfl) ?_
  refine lv_aload_n X.1 X.2.1 dX12_isTightTriple_1 rfl (lv_at hl 0 rfl) ?_
  refine gf_X12_33 (i := 0) X V rfl dX12_isTightTriple_2 ?_
  refine lv_iload_n X.1 X.2.1 dX12_isTightTriple_5 rfl (lv_at hl 1 rfl) ?_
  obtain ⟨hc, h⟩ := kg_of h
  refine al_X12_12 (i := 0) X V rfl hc dX12_isTightTriple_6 ?_
  refine lv_i2l X.1 X.2.1 dX12_isTightTriple_7 rfl ?_
  refine lv_aload_n X.1 X.2.1 dX12_isTightTriple_8 rfl (lv_at hl 0 rfl) ?_
  refine gf_X12_36 (i := 0) X V rfl dX12_isTightTriple_9 ?_
  refine lv_iload_n X.1 X.2.1 dX12_isTightTriple_12 rfl (lv_at hl 1 rfl) ?_
  obtain ⟨hc, h⟩ := kg_of h
  refine al_X12_13 (i := 0) X V rfl hc dX12_isTightTriple_13 ?_
  refine lv_i2l X.1 X.2.1 dX12_isTightTriple_14 rfl ?_
  obtain ⟨x7, hx7, h⟩ := kb_of h
  refine s_callVl (segs' := [gX12 g aT zT]) (ci := 12) (i0 := 0) X V (c_X12_lies l D g aT zT (((zT.2.2.1 12) v1.toNatClampNeg)).toInt64 (((zT.2.2.1 13) v1.toNatClampNeg)).toInt64 x7 hx7) w_X12_222 ⟨Nat.le_of_ble_eq_true rfl, Nat.le_of_ble_eq_true rfl⟩ ⟨Nat.zero_le _, Nat.zero_le _⟩ rfl rfl rfl rfl [0] rfl rfl (kFst_refl _) rfl rfl hl.1 (Nat.le_of_ble_eq_true rfl) dX12_isTightTriple_15 (fun H locs V => ?_)
  refine lv_lconst (v := (0 : Int64)) X.1 X.2.1 dX12_isTightTriple_18 (by decide) ?_
  refine W.lcmp X.1 X.2.1 dX12_isTightTriple_19 ?_
  refine lv_if_ne (tgt := 69) X.1 X.2.1 dX12_isTightTriple_20 (by decide) (fun hc => ?_) (fun hc => ?_)
  · replace h := kif_f hc h
    refine lv_iconst (v := (0 : Int32)) X.1 X.2.1 dX12_isTightTriple_69 (by decide) ?_
    obtain rfl := Option.some.inj h
    rw [hAA] at V
    rw [hQQ]
    exact k_zret X V (b := false) rfl rfl dX12_isTightTriple_70
  · replace h := kif_t hc h
    refine lv_aload_n X.1 X.2.1 dX12_isTightTriple_23 rfl (lv_at hl 0 rfl) ?_
    refine lv_aload_n X.1 X.2.1 dX12_isTightTriple_24 rfl (lv_at hl 0 rfl) ?_
    refine gf_X12_33 (i := 0) X V rfl dX12_isTightTriple_25 ?_
    refine lv_iload_n X.1 X.2.1 dX12_isTightTriple_28 rfl (lv_at hl 2 rfl) ?_
    obtain ⟨hc, h⟩ := kg_of h
    refine al_X12_12 (i := 0) X V rfl hc dX12_isTightTriple_29 ?_
    refine lv_i2l X.1 X.2.1 dX12_isTightTriple_30 rfl ?_
    refine lv_aload_n X.1 X.2.1 dX12_isTightTriple_31 rfl (lv_at hl 0 rfl) ?_
    refine gf_X12_36 (i := 0) X V rfl dX12_isTightTriple_32 ?_
    refine lv_iload_n X.1 X.2.1 dX12_isTightTriple_35 rfl (lv_at hl 2 rfl) ?_
    obtain ⟨hc, h⟩ := kg_of h
    refine al_X12_13 (i := 0) X V rfl hc dX12_isTightTriple_36 ?_
    refine lv_i2l X.1 X.2.1 dX12_isTightTriple_37 rfl ?_
    obtain ⟨x8, hx8, h⟩ := kb_of h
    refine s_callVl (segs' := [gX12 g aT zT]) (ci := 12) (i0 := 0) X V (c_X12_lies l D g aT zT (((zT.2.2.1 12) v2.toNatClampNeg)).toInt64 (((zT.2.2.1 13) v2.toNatClampNeg)).toInt64 x8 hx8) w_X12_222 ⟨Nat.le_of_ble_eq_true rfl, Nat.le_of_ble_eq_true rfl⟩ ⟨Nat.zero_le _, Nat.zero_le _⟩ rfl rfl rfl rfl [0] rfl rfl (kFst_refl _) rfl rfl hl.1 (Nat.le_of_ble_eq_true rfl) dX12_isTightTriple_38 (fun H locs V => ?_)
    refine lv_lconst (v := (0 : Int64)) X.1 X.2.1 dX12_isTightTriple_41 (by decide) ?_
    refine W.lcmp X.1 X.2.1 dX12_isTightTriple_42 ?_
    refine lv_if_ne (tgt := 69) X.1 X.2.1 dX12_isTightTriple_43 (by decide) (fun hc => ?_) (fun hc => ?_)
    · replace h := kif_f hc h
      refine lv_iconst (v := (0 : Int32)) X.1 X.2.1 dX12_isTightTriple_69 (by decide) ?_
      obtain rfl := Option.some.inj h
      rw [hAA] at V
      rw [hQQ]
      exact k_zret X V (b := false) rfl rfl dX12_isTightTriple_70
    · replace h := kif_t hc h
      refine lv_aload_n X.1 X.2.1 dX12_isTightTriple_46 rfl (lv_at hl 0 rfl) ?_
      refine lv_aload_n X.1 X.2.1 dX12_isTightTriple_47 rfl (lv_at hl 0 rfl) ?_
      refine gf_X12_33 (i := 0) X V rfl dX12_isTightTriple_48 ?_
      refine lv_iload_n X.1 X.2.1 dX12_isTightTriple_51 rfl (lv_at hl 3 rfl) ?_
      obtain ⟨hc, h⟩ := kg_of h
      refine al_X12_12 (i := 0) X V rfl hc dX12_isTightTriple_52 ?_
      refine lv_i2l X.1 X.2.1 dX12_isTightTriple_53 rfl ?_
      refine lv_aload_n X.1 X.2.1 dX12_isTightTriple_54 rfl (lv_at hl 0 rfl) ?_
      refine gf_X12_36 (i := 0) X V rfl dX12_isTightTriple_55 ?_
      refine lv_iload_n X.1 X.2.1 dX12_isTightTriple_58 rfl (lv_at hl 3 rfl) ?_
      obtain ⟨hc, h⟩ := kg_of h
      refine al_X12_13 (i := 0) X V rfl hc dX12_isTightTriple_59 ?_
      refine lv_i2l X.1 X.2.1 dX12_isTightTriple_60 rfl ?_
      obtain ⟨x9, hx9, h⟩ := kb_of h
      refine s_callVl (segs' := [gX12 g aT zT]) (ci := 12) (i0 := 0) X V (c_X12_lies l D g aT zT (((zT.2.2.1 12) v3.toNatClampNeg)).toInt64 (((zT.2.2.1 13) v3.toNatClampNeg)).toInt64 x9 hx9) w_X12_222 ⟨Nat.le_of_ble_eq_true rfl, Nat.le_of_ble_eq_true rfl⟩ ⟨Nat.zero_le _, Nat.zero_le _⟩ rfl rfl rfl rfl [0] rfl rfl (kFst_refl _) rfl rfl hl.1 (Nat.le_of_ble_eq_true rfl) dX12_isTightTriple_61 (fun H locs V => ?_)
      refine lv_lconst (v := (0 : Int64)) X.1 X.2.1 dX12_isTightTriple_64 (by decide) ?_
      refine W.lcmp X.1 X.2.1 dX12_isTightTriple_65 ?_
      refine lv_if_eq (tgt := 71) X.1 X.2.1 dX12_isTightTriple_66 (by decide) (fun hc => ?_) (fun hc => ?_)
      · replace h := kif_t hc h
        refine lv_aload_n X.1 X.2.1 dX12_isTightTriple_71 rfl (lv_at hl 0 rfl) ?_
        refine lv_iload_n X.1 X.2.1 dX12_isTightTriple_72 rfl (lv_at hl 1 rfl) ?_
        refine lv_iload_n X.1 X.2.1 dX12_isTightTriple_73 rfl (lv_at hl 2 rfl) ?_
        obtain ⟨x10, hx10, h⟩ := kb_of h
        refine s_callVl (segs' := [gX12 g aT zT]) (ci := 12) (i0 := 0) X V (c_X12_apart l D g aT zT v1 v2 x10 hx10) w_X12_204 ⟨Nat.le_of_ble_eq_true rfl, Nat.le_of_ble_eq_true rfl⟩ ⟨Nat.zero_le _, Nat.zero_le _⟩ rfl rfl rfl rfl [0] rfl rfl (kFst_refl _) rfl rfl hl.1 (Nat.le_of_ble_eq_true rfl) dX12_isTightTriple_74 (fun H locs V => ?_)
        refine lv_lstore (lv' := [(4, .long x10), (0, .ref (aT 0)), (1, .int v1), (2, .int v2), (3, .int v3)]) X.1 X.2.1 dX12_isTightTriple_77 hl (by decide) rfl (fun ls hl => ?_)
        refine lv_aload_n X.1 X.2.1 dX12_isTightTriple_79 rfl (lv_at hl 1 rfl) ?_
        refine lv_iload_n X.1 X.2.1 dX12_isTightTriple_80 rfl (lv_at hl 3 rfl) ?_
        refine lv_iload_n X.1 X.2.1 dX12_isTightTriple_81 rfl (lv_at hl 4 rfl) ?_
        obtain ⟨x11, hx11, h⟩ := kb_of h
        refine s_callVl (segs' := [gX12 g aT zT]) (ci := 12) (i0 := 0) X V (c_X12_apart l D g aT zT v2 v3 x11 hx11) w_X12_204 ⟨Nat.le_of_ble_eq_true rfl, Nat.le_of_ble_eq_true rfl⟩ ⟨Nat.zero_le _, Nat.zero_le _⟩ rfl rfl rfl rfl [0] rfl rfl (kFst_refl _) rfl rfl hl.1 (Nat.le_of_ble_eq_true rfl) dX12_isTightTriple_82 (fun H locs V => ?_)
        refine lv_lstore (lv' := [(6, .long x11), (4, .long x10), (0, .ref (aT 0)), (1, .int v1), (2, .int v2), (3, .int v3)]) X.1 X.2.1 dX12_isTightTriple_85 hl (by decide) rfl (fun ls hl => ?_)
        refine lv_aload_n X.1 X.2.1 dX12_isTightTriple_87 rfl (lv_at hl 2 rfl) ?_
        refine lv_iload_n X.1 X.2.1 dX12_isTightTriple_88 rfl (lv_at hl 5 rfl) ?_
        refine lv_iload_n X.1 X.2.1 dX12_isTightTriple_89 rfl (lv_at hl 3 rfl) ?_
        obtain ⟨x12, hx12, h⟩ := kb_of h
        refine s_callVl (segs' := [gX12 g aT zT]) (ci := 12) (i0 := 0) X V (c_X12_apart l D g aT zT v3 v1 x12 hx12) w_X12_204 ⟨Nat.le_of_ble_eq_true rfl, Nat.le_of_ble_eq_true rfl⟩ ⟨Nat.zero_le _, Nat.zero_le _⟩ rfl rfl rfl rfl [0] rfl rfl (kFst_refl _) rfl rfl hl.1 (Nat.le_of_ble_eq_true rfl) dX12_isTightTriple_90 (fun H locs V => ?_)
        refine lv_lstore (lv' := [(8, .long x12), (6, .long x11), (4, .long x10), (0, .ref (aT 0)), (1, .int v1), (2, .int v2), (3, .int v3)]) X.1 X.2.1 dX12_isTightTriple_93 hl (by decide) rfl (fun ls hl => ?_)
        refine lv_lload X.1 X.2.1 dX12_isTightTriple_95 (lv_at hl 2 rfl) ?_
        refine lv_lload X.1 X.2.1 dX12_isTightTriple_97 (lv_at hl 1 rfl) ?_
        refine lv_lload X.1 X.2.1 dX12_isTightTriple_99 (lv_at hl 0 rfl) ?_
        refine lv_ladd X.1 X.2.1 dX12_isTightTriple_101 ?_
        refine W.lcmp X.1 X.2.1 dX12_isTightTriple_102 ?_
        refine lv_if_ge (tgt := 132) X.1 X.2.1 dX12_isTightTriple_103 (by decide) (fun hc => ?_) (fun hc => ?_)
        · replace h := kif_t hc h
          refine lv_iconst (v := (0 : Int32)) X.1 X.2.1 dX12_isTightTriple_132 (by decide) ?_
          obtain rfl := Option.some.inj h
          rw [hAA] at V
          rw [hQQ]
          exact k_zret X V (b := false) rfl rfl dX12_isTightTriple_133
        · replace h := kif_f hc h
          refine lv_lload X.1 X.2.1 dX12_isTightTriple_106 (lv_at hl 1 rfl) ?_
          refine lv_lload X.1 X.2.1 dX12_isTightTriple_108 (lv_at hl 2 rfl) ?_
          refine lv_lload X.1 X.2.1 dX12_isTightTriple_110 (lv_at hl 0 rfl) ?_
          refine lv_ladd X.1 X.2.1 dX12_isTightTriple_112 ?_
          refine W.lcmp X.1 X.2.1 dX12_isTightTriple_113 ?_
          refine lv_if_ge (tgt := 132) X.1 X.2.1 dX12_isTightTriple_114 (by decide) (fun hc => ?_) (fun hc => ?_)
          · replace h := kif_t hc h
            refine lv_iconst (v := (0 : Int32)) X.1 X.2.1 dX12_isTightTriple_132 (by decide) ?_
            obtain rfl := Option.some.inj h
            rw [hAA] at V
            rw [hQQ]
            exact k_zret X V (b := false) rfl rfl dX12_isTightTriple_133
          · replace h := kif_f hc h
            refine lv_lload X.1 X.2.1 dX12_isTightTriple_117 (lv_at hl 0 rfl) ?_
            refine lv_lload X.1 X.2.1 dX12_isTightTriple_119 (lv_at hl 2 rfl) ?_
            refine lv_lload X.1 X.2.1 dX12_isTightTriple_121 (lv_at hl 1 rfl) ?_
            refine lv_ladd X.1 X.2.1 dX12_isTightTriple_123 ?_
            refine W.lcmp X.1 X.2.1 dX12_isTightTriple_124 ?_
            refine lv_if_ge (tgt := 132) X.1 X.2.1 dX12_isTightTriple_125 (by decide) (fun hc => ?_) (fun hc => ?_)
            · replace h := kif_t hc h
              refine lv_iconst (v := (0 : Int32)) X.1 X.2.1 dX12_isTightTriple_132 (by decide) ?_
              obtain rfl := Option.some.inj h
              rw [hAA] at V
              rw [hQQ]
              exact k_zret X V (b := false) rfl rfl dX12_isTightTriple_133
            · replace h := kif_f hc h
              refine lv_iconst (v := (1 : Int32)) X.1 X.2.1 dX12_isTightTriple_128 (by decide) ?_
              refine lv_goto (tgt := 133) X.1 X.2.1 dX12_isTightTriple_129 (by decide) ?_
              obtain rfl := Option.some.inj h
              rw [hAA] at V
              rw [hQQ]
              exact k_zret X V (b := true) rfl rfl dX12_isTightTriple_133
      · replace h := kif_f hc h
        refine lv_iconst (v := (0 : Int32)) X.1 X.2.1 dX12_isTightTriple_69 (by decide) ?_
        obtain rfl := Option.some.inj h
        rw [hAA] at V
        rw [hQQ]
        exact k_zret X V (b := false) rfl rfl dX12_isTightTriple_70

def p_X12_layTight_L49 (zT : tX12) (v1 : Int32) (s : Int32) : Option (Nat × (Int32)) :=
  kif ((zT.1 15) ≤ s) (some (110, s)) (kg (kii v1 41) (kg (kii s 41) (kb (p_X12_isTightPair zT ((zT.2.2.1 30) v1.toNatClampNeg) ((zT.2.2.1 30) s.toNatClampNeg)) (fun x6 => kif ((kz x6) = 0) (kl (s + (1 : Int32)) (fun y7 => some (49, y7))) (some (79, s))))))
def p_X12_layTight_L37 (zT : tX12) (s : Int32 × Int32) : Option (Nat × (Int32 × Int32)) :=
  kif ((zT.1 15) ≤ s.1) (some (116, (s.1, (0 : Int32)))) (kl (s.1 + (1 : Int32)) (fun y5 => kb (kitr 49 (fun q => p_X12_layTight_L49 zT s.1 q) kF y5) (fun x8 => kif (x8.1 = 79) (some (79, (s.1, x8.2))) (kg (x8.1 = 110) (kl (s.1 + (1 : Int32)) (fun y9 => some (37, (y9, (0 : Int32)))))))))
def p_X12_layTight_L147 (zT : tX12) (v1 : Int32) (v2 : Int32) (s : Int32) : Option (Nat × (Int32)) :=
  kif ((zT.1 15) ≤ s) (some (226, s)) (kg (kii v1 41) (kg (kii v2 41) (kg (kii s 41) (kb (p_X12_isTightTriple zT ((zT.2.2.1 30) v1.toNatClampNeg) ((zT.2.2.1 30) v2.toNatClampNeg) ((zT.2.2.1 30) s.toNatClampNeg)) (fun x16 => kif ((kz x16) = 0) (kl (s + (1 : Int32)) (fun y17 => some (147, y17))) (some (183, s)))))))
def p_X12_layTight_L135 (zT : tX12) (v1 : Int32) (s : Int32 × Int32) : Option (Nat × (Int32 × Int32)) :=
  kif ((zT.1 15) ≤ s.1) (some (232, (s.1, (0 : Int32)))) (kl (s.1 + (1 : Int32)) (fun y15 => kb (kitr 147 (fun q => p_X12_layTight_L147 zT v1 s.1 q) kF y15) (fun x18 => kif (x18.1 = 183) (some (183, (s.1, x18.2))) (kg (x18.1 = 226) (kl (s.1 + (1 : Int32)) (fun y19 => some (135, (y19, (0 : Int32)))))))))
def p_X12_layTight_L123 (zT : tX12) (s : Int32 × Int32 × Int32) : Option (Nat × (Int32 × Int32 × Int32)) :=
  kif ((zT.1 15) ≤ s.1) (some (238, (s.1, (0 : Int32), (0 : Int32)))) (kl (s.1 + (1 : Int32)) (fun y14 => kb (kitr 135 (fun q => p_X12_layTight_L135 zT s.1 q) kF (y14, (0 : Int32))) (fun x20 => kif (x20.1 = 183) (some (183, (s.1, x20.2.1, x20.2.2))) (kg (x20.1 = 232) (kl (s.1 + (1 : Int32)) (fun y21 => some (123, (y21, (0 : Int32), (0 : Int32)))))))))
def p_X12_layTight (zT : tX12) : Option (tX12) :=
  kb (p_X12_layOrder zT) (fun x1 => kl (va_up x1.1 32 (1 : Int32), x1.2) (fun z2 => kg (kii (0 : Int32) 41) (kg (kii (0 : Int32) 3) (kl (z2.1, z2.2.1, va_up z2.2.2.1 31 (upd (z2.2.2.1 31) ((0 : Int32)).toNatClampNeg ((z2.2.2.1 30) (0 : Int32).toNatClampNeg)), z2.2.2.2) (fun z3 => kif ((z3.1 15) = (1 : Int32)) (some z3) (kl (va_up z3.1 32 (2 : Int32), z3.2) (fun z4 => kb (kitr 37 (fun q => p_X12_layTight_L37 z4 q) kF ((0 : Int32), (0 : Int32))) (fun x10 => kif (x10.1 = 79) (kg (kii x10.2.1 41) (kg (kii (0 : Int32) 3) (kl (z4.1, z4.2.1, va_up z4.2.2.1 31 (upd (z4.2.2.1 31) ((0 : Int32)).toNatClampNeg ((z4.2.2.1 30) x10.2.1.toNatClampNeg)), z4.2.2.2) (fun z11 => kg (kii x10.2.2 41) (kg (kii (1 : Int32) 3) (kl (z11.1, z11.2.1, va_up z11.2.2.1 31 (upd (z11.2.2.1 31) ((1 : Int32)).toNatClampNeg ((z11.2.2.1 30) x10.2.2.toNatClampNeg)), z11.2.2.2) (fun z12 => some z12))))))) (kg (x10.1 = 116) (kl (va_up z4.1 32 (3 : Int32), z4.2) (fun z13 => kb (kitr 123 (fun q => p_X12_layTight_L123 z13 q) kF ((0 : Int32), (0 : Int32), (0 : Int32))) (fun x22 => kif (x22.1 = 183) (kg (kii x22.2.1 41) (kg (kii (0 : Int32) 3) (kl (z13.1, z13.2.1, va_up z13.2.2.1 31 (upd (z13.2.2.1 31) ((0 : Int32)).toNatClampNeg ((z13.2.2.1 30) x22.2.1.toNatClampNeg)), z13.2.2.2) (fun z23 => kg (kii x22.2.2.1 41) (kg (kii (1 : Int32) 3) (kl (z23.1, z23.2.1, va_up z23.2.2.1 31 (upd (z23.2.2.1 31) ((1 : Int32)).toNatClampNeg ((z23.2.2.1 30) x22.2.2.1.toNatClampNeg)), z23.2.2.2) (fun z24 => kg (kii x22.2.2.2 41) (kg (kii (2 : Int32) 3) (kl (z24.1, z24.2.1, va_up z24.2.2.1 31 (upd (z24.2.2.1 31) ((2 : Int32)).toNatClampNeg ((z24.2.2.1 30) x22.2.2.2.toNatClampNeg)), z24.2.2.2) (fun z25 => some z25)))))))))) (kg (x22.1 = 238) (some z13))))))))))))))
set_option maxHeartbeats 4000000 in
set_option maxRecDepth 100000 in
theorem c_X12_layTight (l : Launch) (D : va_G) (g : kG) (aT : Nat → Nat) (zT : tX12) (r : tX12) (h : p_X12_layTight zT = some r) : kMv l yX12_layTight cX12_layTight 4 none (kR 3 76) D (kty g) [.ref (aT 0)] (List.flatten [gX12 g aT zT]) (List.flatten [gX12 g aT r]) := by
  intro sz
  refine k_enter (lv := [(0, .ref (aT 0))]) RX12 (by decide +kernel) rfl rfl (Nat.le_of_ble_eq_true rfl) ?_
  intro p en s m args below meth c ls hsz X V hl
  obtain ⟨QQ, hQQ⟩ : ∃ q, q = MQ below (va_Qv (fun (_ : Unit) => True) (fun _ => kE D (List.flatten [gX12 g aT r])) (va_A (List.flatten [gX12 g aT zT]) sz)) args s 0 0 (va_A (List.flatten [gX12 g aT zT]) sz) := ⟨_, rfl⟩
  rw [← hQQ]
  obtain ⟨AA, hAA⟩ : ∃ q, q = va_A (List.flatten [gX12 g aT zT]) sz := ⟨_, rfl⟩
  rw [← hAA] at V
  unfold p_X12_layTight at h
  refine lv_aload_n X.1 X.2.1 dX12_layTight_0 rfl (lv_at hl 0 rfl) ?_
  obtain ⟨x26, hx26, h⟩ := kb_of h
  refine s_callVv (segs' := [gX12 g aT x26]) (ci := 12) (i0 := 0) X V (c_X12_layOrder l D g aT zT x26 hx26) w_X12_296 ⟨Nat.le_of_ble_eq_true rfl, Nat.le_of_ble_eq_true rfl⟩ ⟨Nat.zero_le _, Nat.zero_le _⟩ rfl rfl rfl rfl [0] rfl rfl ⟨gX12_fst, trivial⟩ rfl rfl hl.1 (Nat.le_of_ble_eq_true rfl) dX12_layTight_1 (fun H locs V => ?_)
  refine lv_aload_n X.1 X.2.1 dX12_layTight_4 rfl (lv_at hl 0 rfl) ?_
  refine lv_iconst (v := (1 : Int32)) X.1 X.2.1 dX12_layTight_5 (by decide) ?_
  refine pf_X12_299 (i := 0) X V rfl dX12_layTight_6 (fun H locs V => ?_)
  obtain ⟨z27, ez27⟩ : ∃ y, y = (va_up x26.1 32 (1 : Int32), x26.2) := ⟨_, rfl⟩
  replace h := kl_of ez27 h
  have V : kW D AA s.heap H (List.flatten [gX12 g aT z27]) locs := by rw [ez27]; exact V
  refine lv_aload_n X.1 X.2.1 dX12_layTight_9 rfl (lv_at hl 0 rfl) ?_
  refine gf_X12_45 (i := 0) X V rfl dX12_layTight_10 ?_
  refine lv_iconst (v := (0 : Int32)) X.1 X.2.1 dX12_layTight_13 (by decide) ?_
  refine lv_aload_n X.1 X.2.1 dX12_layTight_14 rfl (lv_at hl 0 rfl) ?_
  refine gf_X12_42 (i := 0) X V rfl dX12_layTight_15 ?_
  refine lv_iconst (v := (0 : Int32)) X.1 X.2.1 dX12_layTight_18 (by decide) ?_
  obtain ⟨hc, h⟩ := kg_of h
  refine al_X12_30 (i := 0) X V rfl hc dX12_layTight_19 ?_
  obtain ⟨hc, h⟩ := kg_of h
  refine as_X12_31 (i := 0) X V rfl hc dX12_layTight_20 (fun H locs V => ?_)
  obtain ⟨z28, ez28⟩ : ∃ y, y = (z27.1, z27.2.1, va_up z27.2.2.1 31 (upd (z27.2.2.1 31) ((0 : Int32)).toNatClampNeg ((z27.2.2.1 30) (0 : Int32).toNatClampNeg)), z27.2.2.2) := ⟨_, rfl⟩
  replace h := kl_of ez28 h
  have V : kW D AA s.heap H (List.flatten [gX12 g aT z28]) locs := by rw [ez28]; exact V
  refine lv_aload_n X.1 X.2.1 dX12_layTight_21 rfl (lv_at hl 0 rfl) ?_
  refine gf_X12_157 (i := 0) X V rfl dX12_layTight_22 ?_
  refine lv_iconst (v := (1 : Int32)) X.1 X.2.1 dX12_layTight_25 (by decide) ?_
  refine lv_icmp_ne (tgt := 30) X.1 X.2.1 dX12_layTight_26 (by decide) (fun hc => ?_) (fun hc => ?_)
  · replace h := kif_f hc h
    refine lv_aload_n X.1 X.2.1 dX12_layTight_30 rfl (lv_at hl 0 rfl) ?_
    refine lv_iconst (v := (2 : Int32)) X.1 X.2.1 dX12_layTight_31 (by decide) ?_
    refine pf_X12_299 (i := 0) X V rfl dX12_layTight_32 (fun H locs V => ?_)
    obtain ⟨z29, ez29⟩ : ∃ y, y = (va_up z28.1 32 (2 : Int32), z28.2) := ⟨_, rfl⟩
    replace h := kl_of ez29 h
    have V : kW D AA s.heap H (List.flatten [gX12 g aT z29]) locs := by rw [ez29]; exact V
    refine lv_iconst (v := (0 : Int32)) X.1 X.2.1 dX12_layTight_35 (by decide) ?_
    refine lv_istore_n (lv' := [(1, .int (0 : Int32)), (0, .ref (aT 0))]) X.1 X.2.1 dX12_layTight_36 rfl hl (by decide) rfl (fun ls hl => ?_)
    obtain ⟨x30, hx30, h⟩ := kb_of h
    refine (kitr_go (hd := 37) (body := fun q => p_X12_layTight_L37 z29 q) (G := (fun e => ∀ (H : Heap) (locs : List Loc) (ls : Array Slot), kW D AA s.heap H (List.flatten [gX12 g aT z29]) locs → lv_has ls 4 ([(0, .ref (aT 0)), (1, .int e.2.1)] ++ (if e.1 = 79 then [(2, .int e.2.2)] else [])) → W p l en (kR 3 76) s m args below meth c H locs 0 0 QQ (F0 m e.1 ls []))) (fun s31 e32 hb33 hG34 => ?_) kF _ x30 hx30 ?_) _ _ _ V (lv_sub hl [1, 0] rfl)
    · intro H locs ls V hl
      show W p l en (kR 3 76) s m args below meth c H locs 0 0 QQ (F0 m 37 ls [])
      have h : p_X12_layTight_L37 z29 s31 = some e32 := hb33
      unfold p_X12_layTight_L37 at h
      have V : kW D AA s.heap H (List.flatten [gX12 g aT z29]) locs := V
      have hl : lv_has ls 4 [(0, .ref (aT 0)), (1, .int s31.1)] := hl
      refine lv_iload_n X.1 X.2.1 dX12_layTight_37 rfl (lv_at hl 1 rfl) ?_
      refine lv_aload_n X.1 X.2.1 dX12_layTight_38 rfl (lv_at hl 0 rfl) ?_
      refine gf_X12_157 (i := 0) X V rfl dX12_layTight_39 ?_
      refine lv_icmp_ge (tgt := 116) X.1 X.2.1 dX12_layTight_42 (by decide) (fun hc => ?_) (fun hc => ?_)
      · replace h := kif_t hc h
        obtain rfl := Option.some.inj h
        exact hG34 _ _ _ V (lv_sub hl [0, 1] rfl)
      · replace h := kif_f hc h
        refine lv_iload_n X.1 X.2.1 dX12_layTight_45 rfl (lv_at hl 1 rfl) ?_
        refine lv_iconst (v := (1 : Int32)) X.1 X.2.1 dX12_layTight_46 (by decide) ?_
        refine lv_iadd X.1 X.2.1 dX12_layTight_47 ?_
        refine lv_topi (fun y35 ey35 => ?_)
        replace h := kl_of ey35 h
        refine lv_istore_n (lv' := [(2, .int y35), (0, .ref (aT 0)), (1, .int s31.1)]) X.1 X.2.1 dX12_layTight_48 rfl hl (by decide) rfl (fun ls hl => ?_)
        obtain ⟨x36, hx36, h⟩ := kb_of h
        refine (kitr_go (hd := 49) (body := fun q => p_X12_layTight_L49 z29 s31.1 q) (G := (fun e => ∀ (H : Heap) (locs : List Loc) (ls : Array Slot), kW D AA s.heap H (List.flatten [gX12 g aT z29]) locs → lv_has ls 4 [(0, .ref (aT 0)), (1, .int s31.1), (2, .int e.2)] → W p l en (kR 3 76) s m args below meth c H locs 0 0 QQ (F0 m e.1 ls []))) (fun s37 e38 hb39 hG40 => ?_) kF _ x36 hx36 ?_) _ _ _ V (lv_sub hl [1, 2, 0] rfl)
        · intro H locs ls V hl
          show W p l en (kR 3 76) s m args below meth c H locs 0 0 QQ (F0 m 49 ls [])
          have h : p_X12_layTight_L49 z29 s31.1 s37 = some e38 := hb39
          unfold p_X12_layTight_L49 at h
          have V : kW D AA s.heap H (List.flatten [gX12 g aT z29]) locs := V
          have hl : lv_has ls 4 [(0, .ref (aT 0)), (1, .int s31.1), (2, .int s37)] := hl
          refine lv_iload_n X.1 X.2.1 dX12_layTight_49 rfl (lv_at hl 2 rfl) ?_
          refine lv_aload_n X.1 X.2.1 dX12_layTight_50 rfl (lv_at hl 0 rfl) ?_
          refine gf_X12_157 (i := 0) X V rfl dX12_layTight_51 ?_
          refine lv_icmp_ge (tgt := 110) X.1 X.2.1 dX12_layTight_54 (by decide) (fun hc => ?_) (fun hc => ?_)
          · replace h := kif_t hc h
            obtain rfl := Option.some.inj h
            exact hG40 _ _ _ V (lv_sub hl [0, 1, 2] rfl)
          · replace h := kif_f hc h
            refine lv_aload_n X.1 X.2.1 dX12_layTight_57 rfl (lv_at hl 0 rfl) ?_
            refine lv_aload_n X.1 X.2.1 dX12_layTight_58 rfl (lv_at hl 0 rfl) ?_
            refine gf_X12_42 (i := 0) X V rfl dX12_layTight_59 ?_
            refine lv_iload_n X.1 X.2.1 dX12_layTight_62 rfl (lv_at hl 1 rfl) ?_
            obtain ⟨hc, h⟩ := kg_of h
            refine al_X12_30 (i := 0) X V rfl hc dX12_layTight_63 ?_
            refine lv_aload_n X.1 X.2.1 dX12_layTight_64 rfl (lv_at hl 0 rfl) ?_
            refine gf_X12_42 (i := 0) X V rfl dX12_layTight_65 ?_
            refine lv_iload_n X.1 X.2.1 dX12_layTight_68 rfl (lv_at hl 2 rfl) ?_
            obtain ⟨hc, h⟩ := kg_of h
            refine al_X12_30 (i := 0) X V rfl hc dX12_layTight_69 ?_
            obtain ⟨x41, hx41, h⟩ := kb_of h
            refine s_callVi (segs' := [gX12 g aT z29]) (ci := 12) (i0 := 0) X V (c_X12_isTightPair l D g aT z29 ((z29.2.2.1 30) s31.1.toNatClampNeg) ((z29.2.2.1 30) s37.toNatClampNeg) x41 hx41) w_X12_302 ⟨Nat.le_of_ble_eq_true rfl, Nat.le_of_ble_eq_true rfl⟩ ⟨Nat.zero_le _, Nat.zero_le _⟩ rfl rfl rfl rfl [0] rfl rfl (kFst_refl _) rfl rfl hl.1 (Nat.le_of_ble_eq_true rfl) dX12_layTight_70 (fun H locs V => ?_)
            refine lv_if_ne (tgt := 79) X.1 X.2.1 dX12_layTight_73 (by decide) (fun hc => ?_) (fun hc => ?_)
            · replace h := kif_f hc h
              obtain rfl := Option.some.inj h
              exact hG40 _ _ _ V (lv_sub hl [0, 1, 2] rfl)
            · replace h := kif_t hc h
              refine lv_goto (tgt := 104) X.1 X.2.1 dX12_layTight_76 (by decide) ?_
              obtain ⟨y42, ey42⟩ : ∃ y : Int32, y = (s37 + (1 : Int32)) := ⟨_, rfl⟩
              replace h := kl_of ey42 h
              refine lv_iinc (v := y42) (lv' := [(2, .int y42), (0, .ref (aT 0)), (1, .int s31.1)]) X.1 X.2.1 dX12_layTight_104 hl (k := 2) rfl (by rw [ey42]; rfl) (by decide) rfl (fun ls hl => ?_)
              refine lv_goto (tgt := 49) X.1 X.2.1 dX12_layTight_107 (by decide) ?_
              obtain rfl := Option.some.inj h
              exact hG40 _ _ _ V (lv_sub hl [1, 2, 0] rfl)
        · intro H locs ls V hl
          have V : kW D AA s.heap H (List.flatten [gX12 g aT z29]) locs := V
          have hl : lv_has ls 4 [(0, .ref (aT 0)), (1, .int s31.1), (2, .int x36.2)] := hl
          by_cases hc : x36.1 = 79
          · replace h := kif_t hc h
            refine W.eq (g2 := F0 m 79 ls []) (by rw [hc]) ?_
            obtain rfl := Option.some.inj h
            exact hG34 _ _ _ V (lv_sub hl [0, 1, 2] rfl)
          · replace h := kif_f hc h
            obtain ⟨hc, h⟩ := kg_of h
            refine W.eq (g2 := F0 m 110 ls []) (by rw [hc]) ?_
            obtain ⟨y43, ey43⟩ : ∃ y : Int32, y = (s31.1 + (1 : Int32)) := ⟨_, rfl⟩
            replace h := kl_of ey43 h
            refine lv_iinc (v := y43) (lv' := [(1, .int y43), (0, .ref (aT 0)), (2, .int x36.2)]) X.1 X.2.1 dX12_layTight_110 hl (k := 1) rfl (by rw [ey43]; rfl) (by decide) rfl (fun ls hl => ?_)
            refine lv_goto (tgt := 37) X.1 X.2.1 dX12_layTight_113 (by decide) ?_
            obtain rfl := Option.some.inj h
            exact hG34 _ _ _ V (lv_sub hl [1, 0] rfl)
    · intro H locs ls V hl
      have V : kW D AA s.heap H (List.flatten [gX12 g aT z29]) locs := V
      by_cases hc : x30.1 = 79
      · replace h := kif_t hc h
        refine W.eq (g2 := F0 m 79 ls []) (by rw [hc]) ?_
        have hl : lv_has ls 4 [(0, .ref (aT 0)), (1, .int x30.2.1), (2, .int x30.2.2)] := by have q := hl; rw [hc] at q; exact q
        refine lv_aload_n X.1 X.2.1 dX12_layTight_79 rfl (lv_at hl 0 rfl) ?_
        refine gf_X12_45 (i := 0) X V rfl dX12_layTight_80 ?_
        refine lv_iconst (v := (0 : Int32)) X.1 X.2.1 dX12_layTight_83 (by decide) ?_
        refine lv_aload_n X.1 X.2.1 dX12_layTight_84 rfl (lv_at hl 0 rfl) ?_
        refine gf_X12_42 (i := 0) X V rfl dX12_layTight_85 ?_
        refine lv_iload_n X.1 X.2.1 dX12_layTight_88 rfl (lv_at hl 1 rfl) ?_
        obtain ⟨hc, h⟩ := kg_of h
        refine al_X12_30 (i := 0) X V rfl hc dX12_layTight_89 ?_
        obtain ⟨hc, h⟩ := kg_of h
        refine as_X12_31 (i := 0) X V rfl hc dX12_layTight_90 (fun H locs V => ?_)
        obtain ⟨z44, ez44⟩ : ∃ y, y = (z29.1, z29.2.1, va_up z29.2.2.1 31 (upd (z29.2.2.1 31) ((0 : Int32)).toNatClampNeg ((z29.2.2.1 30) x30.2.1.toNatClampNeg)), z29.2.2.2) := ⟨_, rfl⟩
        replace h := kl_of ez44 h
        have V : kW D AA s.heap H (List.flatten [gX12 g aT z44]) locs := by rw [ez44]; exact V
        refine lv_aload_n X.1 X.2.1 dX12_layTight_91 rfl (lv_at hl 0 rfl) ?_
        refine gf_X12_45 (i := 0) X V rfl dX12_layTight_92 ?_
        refine lv_iconst (v := (1 : Int32)) X.1 X.2.1 dX12_layTight_95 (by decide) ?_
        refine lv_aload_n X.1 X.2.1 dX12_layTight_96 rfl (lv_at hl 0 rfl) ?_
        refine gf_X12_42 (i := 0) X V rfl dX12_layTight_97 ?_
        refine lv_iload_n X.1 X.2.1 dX12_layTight_100 rfl (lv_at hl 2 rfl) ?_
        obtain ⟨hc, h⟩ := kg_of h
        refine al_X12_30 (i := 0) X V rfl hc dX12_layTight_101 ?_
        obtain ⟨hc, h⟩ := kg_of h
        refine as_X12_31 (i := 0) X V rfl hc dX12_layTight_102 (fun H locs V => ?_)
        obtain ⟨z45, ez45⟩ : ∃ y, y = (z44.1, z44.2.1, va_up z44.2.2.1 31 (upd (z44.2.2.1 31) ((1 : Int32)).toNatClampNeg ((z44.2.2.1 30) x30.2.2.toNatClampNeg)), z44.2.2.2) := ⟨_, rfl⟩
        replace h := kl_of ez45 h
        have V : kW D AA s.heap H (List.flatten [gX12 g aT z45]) locs := by rw [ez45]; exact V
        obtain rfl := Option.some.inj h
        rw [hAA] at V
        rw [hQQ]
        exact k_vret X V dX12_layTight_103
      · replace h := kif_f hc h
        obtain ⟨hc, h⟩ := kg_of h
        refine W.eq (g2 := F0 m 116 ls []) (by rw [hc]) ?_
        have hl : lv_has ls 4 [(0, .ref (aT 0)), (1, .int x30.2.1)] := by have q := hl; rw [hc] at q; exact q
        refine lv_aload_n X.1 X.2.1 dX12_layTight_116 rfl (lv_at hl 0 rfl) ?_
        refine lv_iconst (v := (3 : Int32)) X.1 X.2.1 dX12_layTight_117 (by decide) ?_
        refine pf_X12_299 (i := 0) X V rfl dX12_layTight_118 (fun H locs V => ?_)
        obtain ⟨z46, ez46⟩ : ∃ y, y = (va_up z29.1 32 (3 : Int32), z29.2) := ⟨_, rfl⟩
        replace h := kl_of ez46 h
        have V : kW D AA s.heap H (List.flatten [gX12 g aT z46]) locs := by rw [ez46]; exact V
        refine lv_iconst (v := (0 : Int32)) X.1 X.2.1 dX12_layTight_121 (by decide) ?_
        refine lv_istore_n (lv' := [(1, .int (0 : Int32)), (0, .ref (aT 0))]) X.1 X.2.1 dX12_layTight_122 rfl hl (by decide) rfl (fun ls hl => ?_)
        obtain ⟨x47, hx47, h⟩ := kb_of h
        refine (kitr_go (hd := 123) (body := fun q => p_X12_layTight_L123 z46 q) (G := (fun e => ∀ (H : Heap) (locs : List Loc) (ls : Array Slot), kW D AA s.heap H (List.flatten [gX12 g aT z46]) locs → lv_has ls 4 ([(0, .ref (aT 0)), (1, .int e.2.1)] ++ (if e.1 = 183 then [(2, .int e.2.2.1), (3, .int e.2.2.2)] else [])) → W p l en (kR 3 76) s m args below meth c H locs 0 0 QQ (F0 m e.1 ls []))) (fun s48 e49 hb50 hG51 => ?_) kF _ x47 hx47 ?_) _ _ _ V (lv_sub hl [1, 0] rfl)
        · intro H locs ls V hl
          show W p l en (kR 3 76) s m args below meth c H locs 0 0 QQ (F0 m 123 ls [])
          have h : p_X12_layTight_L123 z46 s48 = some e49 := hb50
          unfold p_X12_layTight_L123 at h
          have V : kW D AA s.heap H (List.flatten [gX12 g aT z46]) locs := V
          have hl : lv_has ls 4 [(0, .ref (aT 0)), (1, .int s48.1)] := hl
          refine lv_iload_n X.1 X.2.1 dX12_layTight_123 rfl (lv_at hl 1 rfl) ?_
          refine lv_aload_n X.1 X.2.1 dX12_layTight_124 rfl (lv_at hl 0 rfl) ?_
          refine gf_X12_157 (i := 0) X V rfl dX12_layTight_125 ?_
          refine lv_icmp_ge (tgt := 238) X.1 X.2.1 dX12_layTight_128 (by decide) (fun hc => ?_) (fun hc => ?_)
          · replace h := kif_t hc h
            obtain rfl := Option.some.inj h
            exact hG51 _ _ _ V (lv_sub hl [0, 1] rfl)
          · replace h := kif_f hc h
            refine lv_iload_n X.1 X.2.1 dX12_layTight_131 rfl (lv_at hl 1 rfl) ?_
            refine lv_iconst (v := (1 : Int32)) X.1 X.2.1 dX12_layTight_132 (by decide) ?_
            refine lv_iadd X.1 X.2.1 dX12_layTight_133 ?_
            refine lv_topi (fun y52 ey52 => ?_)
            replace h := kl_of ey52 h
            refine lv_istore_n (lv' := [(2, .int y52), (0, .ref (aT 0)), (1, .int s48.1)]) X.1 X.2.1 dX12_layTight_134 rfl hl (by decide) rfl (fun ls hl => ?_)
            obtain ⟨x53, hx53, h⟩ := kb_of h
            refine (kitr_go (hd := 135) (body := fun q => p_X12_layTight_L135 z46 s48.1 q) (G := (fun e => ∀ (H : Heap) (locs : List Loc) (ls : Array Slot), kW D AA s.heap H (List.flatten [gX12 g aT z46]) locs → lv_has ls 4 ([(0, .ref (aT 0)), (1, .int s48.1), (2, .int e.2.1)] ++ (if e.1 = 183 then [(3, .int e.2.2)] else [])) → W p l en (kR 3 76) s m args below meth c H locs 0 0 QQ (F0 m e.1 ls []))) (fun s54 e55 hb56 hG57 => ?_) kF _ x53 hx53 ?_) _ _ _ V (lv_sub hl [1, 2, 0] rfl)
            · intro H locs ls V hl
              show W p l en (kR 3 76) s m args below meth c H locs 0 0 QQ (F0 m 135 ls [])
              have h : p_X12_layTight_L135 z46 s48.1 s54 = some e55 := hb56
              unfold p_X12_layTight_L135 at h
              have V : kW D AA s.heap H (List.flatten [gX12 g aT z46]) locs := V
              have hl : lv_has ls 4 [(0, .ref (aT 0)), (1, .int s48.1), (2, .int s54.1)] := hl
              refine lv_iload_n X.1 X.2.1 dX12_layTight_135 rfl (lv_at hl 2 rfl) ?_
              refine lv_aload_n X.1 X.2.1 dX12_layTight_136 rfl (lv_at hl 0 rfl) ?_
              refine gf_X12_157 (i := 0) X V rfl dX12_layTight_137 ?_
              refine lv_icmp_ge (tgt := 232) X.1 X.2.1 dX12_layTight_140 (by decide) (fun hc => ?_) (fun hc => ?_)
              · replace h := kif_t hc h
                obtain rfl := Option.some.inj h
                exact hG57 _ _ _ V (lv_sub hl [0, 1, 2] rfl)
              · replace h := kif_f hc h
                refine lv_iload_n X.1 X.2.1 dX12_layTight_143 rfl (lv_at hl 2 rfl) ?_
                refine lv_iconst (v := (1 : Int32)) X.1 X.2.1 dX12_layTight_144 (by decide) ?_
                refine lv_iadd X.1 X.2.1 dX12_layTight_145 ?_
                refine lv_topi (fun y58 ey58 => ?_)
                replace h := kl_of ey58 h
                refine lv_istore_n (lv' := [(3, .int y58), (0, .ref (aT 0)), (1, .int s48.1), (2, .int s54.1)]) X.1 X.2.1 dX12_layTight_146 rfl hl (by decide) rfl (fun ls hl => ?_)
                obtain ⟨x59, hx59, h⟩ := kb_of h
                refine (kitr_go (hd := 147) (body := fun q => p_X12_layTight_L147 z46 s48.1 s54.1 q) (G := (fun e => ∀ (H : Heap) (locs : List Loc) (ls : Array Slot), kW D AA s.heap H (List.flatten [gX12 g aT z46]) locs → lv_has ls 4 [(0, .ref (aT 0)), (1, .int s48.1), (2, .int s54.1), (3, .int e.2)] → W p l en (kR 3 76) s m args below meth c H locs 0 0 QQ (F0 m e.1 ls []))) (fun s60 e61 hb62 hG63 => ?_) kF _ x59 hx59 ?_) _ _ _ V (lv_sub hl [1, 2, 3, 0] rfl)
                · intro H locs ls V hl
                  show W p l en (kR 3 76) s m args below meth c H locs 0 0 QQ (F0 m 147 ls [])
                  have h : p_X12_layTight_L147 z46 s48.1 s54.1 s60 = some e61 := hb62
                  unfold p_X12_layTight_L147 at h
                  have V : kW D AA s.heap H (List.flatten [gX12 g aT z46]) locs := V
                  have hl : lv_has ls 4 [(0, .ref (aT 0)), (1, .int s48.1), (2, .int s54.1), (3, .int s60)] := hl
                  refine lv_iload_n X.1 X.2.1 dX12_layTight_147 rfl (lv_at hl 3 rfl) ?_
                  refine lv_aload_n X.1 X.2.1 dX12_layTight_148 rfl (lv_at hl 0 rfl) ?_
                  refine gf_X12_157 (i := 0) X V rfl dX12_layTight_149 ?_
                  refine lv_icmp_ge (tgt := 226) X.1 X.2.1 dX12_layTight_152 (by decide) (fun hc => ?_) (fun hc => ?_)
                  · replace h := kif_t hc h
                    obtain rfl := Option.some.inj h
                    exact hG63 _ _ _ V (lv_sub hl [0, 1, 2, 3] rfl)
                  · replace h := kif_f hc h
                    refine lv_aload_n X.1 X.2.1 dX12_layTight_155 rfl (lv_at hl 0 rfl) ?_
                    refine lv_aload_n X.1 X.2.1 dX12_layTight_156 rfl (lv_at hl 0 rfl) ?_
                    refine gf_X12_42 (i := 0) X V rfl dX12_layTight_157 ?_
                    refine lv_iload_n X.1 X.2.1 dX12_layTight_160 rfl (lv_at hl 1 rfl) ?_
                    obtain ⟨hc, h⟩ := kg_of h
                    refine al_X12_30 (i := 0) X V rfl hc dX12_layTight_161 ?_
                    refine lv_aload_n X.1 X.2.1 dX12_layTight_162 rfl (lv_at hl 0 rfl) ?_
                    refine gf_X12_42 (i := 0) X V rfl dX12_layTight_163 ?_
                    refine lv_iload_n X.1 X.2.1 dX12_layTight_166 rfl (lv_at hl 2 rfl) ?_
                    obtain ⟨hc, h⟩ := kg_of h
                    refine al_X12_30 (i := 0) X V rfl hc dX12_layTight_167 ?_
                    refine lv_aload_n X.1 X.2.1 dX12_layTight_168 rfl (lv_at hl 0 rfl) ?_
                    refine gf_X12_42 (i := 0) X V rfl dX12_layTight_169 ?_
                    refine lv_iload_n X.1 X.2.1 dX12_layTight_172 rfl (lv_at hl 3 rfl) ?_
                    obtain ⟨hc, h⟩ := kg_of h
                    refine al_X12_30 (i := 0) X V rfl hc dX12_layTight_173 ?_
                    obtain ⟨x64, hx64, h⟩ := kb_of h
                    refine s_callVi (segs' := [gX12 g aT z46]) (ci := 12) (i0 := 0) X V (c_X12_isTightTriple l D g aT z46 ((z46.2.2.1 30) s48.1.toNatClampNeg) ((z46.2.2.1 30) s54.1.toNatClampNeg) ((z46.2.2.1 30) s60.toNatClampNeg) x64 hx64) w_X12_305 ⟨Nat.le_of_ble_eq_true rfl, Nat.le_of_ble_eq_true rfl⟩ ⟨Nat.zero_le _, Nat.zero_le _⟩ rfl rfl rfl rfl [0] rfl rfl (kFst_refl _) rfl rfl hl.1 (Nat.le_of_ble_eq_true rfl) dX12_layTight_174 (fun H locs V => ?_)
                    refine lv_if_ne (tgt := 183) X.1 X.2.1 dX12_layTight_177 (by decide) (fun hc => ?_) (fun hc => ?_)
                    · replace h := kif_f hc h
                      obtain rfl := Option.some.inj h
                      exact hG63 _ _ _ V (lv_sub hl [0, 1, 2, 3] rfl)
                    · replace h := kif_t hc h
                      refine lv_goto (tgt := 220) X.1 X.2.1 dX12_layTight_180 (by decide) ?_
                      obtain ⟨y65, ey65⟩ : ∃ y : Int32, y = (s60 + (1 : Int32)) := ⟨_, rfl⟩
                      replace h := kl_of ey65 h
                      refine lv_iinc (v := y65) (lv' := [(3, .int y65), (0, .ref (aT 0)), (1, .int s48.1), (2, .int s54.1)]) X.1 X.2.1 dX12_layTight_220 hl (k := 3) rfl (by rw [ey65]; rfl) (by decide) rfl (fun ls hl => ?_)
                      refine lv_goto (tgt := 147) X.1 X.2.1 dX12_layTight_223 (by decide) ?_
                      obtain rfl := Option.some.inj h
                      exact hG63 _ _ _ V (lv_sub hl [1, 2, 3, 0] rfl)
                · intro H locs ls V hl
                  have V : kW D AA s.heap H (List.flatten [gX12 g aT z46]) locs := V
                  have hl : lv_has ls 4 [(0, .ref (aT 0)), (1, .int s48.1), (2, .int s54.1), (3, .int x59.2)] := hl
                  by_cases hc : x59.1 = 183
                  · replace h := kif_t hc h
                    refine W.eq (g2 := F0 m 183 ls []) (by rw [hc]) ?_
                    obtain rfl := Option.some.inj h
                    exact hG57 _ _ _ V (lv_sub hl [0, 1, 2, 3] rfl)
                  · replace h := kif_f hc h
                    obtain ⟨hc, h⟩ := kg_of h
                    refine W.eq (g2 := F0 m 226 ls []) (by rw [hc]) ?_
                    obtain ⟨y66, ey66⟩ : ∃ y : Int32, y = (s54.1 + (1 : Int32)) := ⟨_, rfl⟩
                    replace h := kl_of ey66 h
                    refine lv_iinc (v := y66) (lv' := [(2, .int y66), (0, .ref (aT 0)), (1, .int s48.1), (3, .int x59.2)]) X.1 X.2.1 dX12_layTight_226 hl (k := 2) rfl (by rw [ey66]; rfl) (by decide) rfl (fun ls hl => ?_)
                    refine lv_goto (tgt := 135) X.1 X.2.1 dX12_layTight_229 (by decide) ?_
                    obtain rfl := Option.some.inj h
                    exact hG57 _ _ _ V (lv_sub hl [1, 2, 0] rfl)
            · intro H locs ls V hl
              have V : kW D AA s.heap H (List.flatten [gX12 g aT z46]) locs := V
              by_cases hc : x53.1 = 183
              · replace h := kif_t hc h
                refine W.eq (g2 := F0 m 183 ls []) (by rw [hc]) ?_
                have hl : lv_has ls 4 [(0, .ref (aT 0)), (1, .int s48.1), (2, .int x53.2.1), (3, .int x53.2.2)] := by have q := hl; rw [hc] at q; exact q
                obtain rfl := Option.some.inj h
                exact hG51 _ _ _ V (lv_sub hl [0, 1, 2, 3] rfl)
              · replace h := kif_f hc h
                obtain ⟨hc, h⟩ := kg_of h
                refine W.eq (g2 := F0 m 232 ls []) (by rw [hc]) ?_
                have hl : lv_has ls 4 [(0, .ref (aT 0)), (1, .int s48.1), (2, .int x53.2.1)] := by have q := hl; rw [hc] at q; exact q
                obtain ⟨y67, ey67⟩ : ∃ y : Int32, y = (s48.1 + (1 : Int32)) := ⟨_, rfl⟩
                replace h := kl_of ey67 h
                refine lv_iinc (v := y67) (lv' := [(1, .int y67), (0, .ref (aT 0)), (2, .int x53.2.1)]) X.1 X.2.1 dX12_layTight_232 hl (k := 1) rfl (by rw [ey67]; rfl) (by decide) rfl (fun ls hl => ?_)
                refine lv_goto (tgt := 123) X.1 X.2.1 dX12_layTight_235 (by decide) ?_
                obtain rfl := Option.some.inj h
                exact hG51 _ _ _ V (lv_sub hl [1, 0] rfl)
        · intro H locs ls V hl
          have V : kW D AA s.heap H (List.flatten [gX12 g aT z46]) locs := V
          by_cases hc : x47.1 = 183
          · replace h := kif_t hc h
            refine W.eq (g2 := F0 m 183 ls []) (by rw [hc]) ?_
            have hl : lv_has ls 4 [(0, .ref (aT 0)), (1, .int x47.2.1), (2, .int x47.2.2.1), (3, .int x47.2.2.2)] := by have q := hl; rw [hc] at q; exact q
            refine lv_aload_n X.1 X.2.1 dX12_layTight_183 rfl (lv_at hl 0 rfl) ?_
            refine gf_X12_45 (i := 0) X V rfl dX12_layTight_184 ?_
            refine lv_iconst (v := (0 : Int32)) X.1 X.2.1 dX12_layTight_187 (by decide) ?_
            refine lv_aload_n X.1 X.2.1 dX12_layTight_188 rfl (lv_at hl 0 rfl) ?_
            refine gf_X12_42 (i := 0) X V rfl dX12_layTight_189 ?_
            refine lv_iload_n X.1 X.2.1 dX12_layTight_192 rfl (lv_at hl 1 rfl) ?_
            obtain ⟨hc, h⟩ := kg_of h
            refine al_X12_30 (i := 0) X V rfl hc dX12_layTight_193 ?_
            obtain ⟨hc, h⟩ := kg_of h
            refine as_X12_31 (i := 0) X V rfl hc dX12_layTight_194 (fun H locs V => ?_)
            obtain ⟨z68, ez68⟩ : ∃ y, y = (z46.1, z46.2.1, va_up z46.2.2.1 31 (upd (z46.2.2.1 31) ((0 : Int32)).toNatClampNeg ((z46.2.2.1 30) x47.2.1.toNatClampNeg)), z46.2.2.2) := ⟨_, rfl⟩
            replace h := kl_of ez68 h
            have V : kW D AA s.heap H (List.flatten [gX12 g aT z68]) locs := by rw [ez68]; exact V
            refine lv_aload_n X.1 X.2.1 dX12_layTight_195 rfl (lv_at hl 0 rfl) ?_
            refine gf_X12_45 (i := 0) X V rfl dX12_layTight_196 ?_
            refine lv_iconst (v := (1 : Int32)) X.1 X.2.1 dX12_layTight_199 (by decide) ?_
            refine lv_aload_n X.1 X.2.1 dX12_layTight_200 rfl (lv_at hl 0 rfl) ?_
            refine gf_X12_42 (i := 0) X V rfl dX12_layTight_201 ?_
            refine lv_iload_n X.1 X.2.1 dX12_layTight_204 rfl (lv_at hl 2 rfl) ?_
            obtain ⟨hc, h⟩ := kg_of h
            refine al_X12_30 (i := 0) X V rfl hc dX12_layTight_205 ?_
            obtain ⟨hc, h⟩ := kg_of h
            refine as_X12_31 (i := 0) X V rfl hc dX12_layTight_206 (fun H locs V => ?_)
            obtain ⟨z69, ez69⟩ : ∃ y, y = (z68.1, z68.2.1, va_up z68.2.2.1 31 (upd (z68.2.2.1 31) ((1 : Int32)).toNatClampNeg ((z68.2.2.1 30) x47.2.2.1.toNatClampNeg)), z68.2.2.2) := ⟨_, rfl⟩
            replace h := kl_of ez69 h
            have V : kW D AA s.heap H (List.flatten [gX12 g aT z69]) locs := by rw [ez69]; exact V
            refine lv_aload_n X.1 X.2.1 dX12_layTight_207 rfl (lv_at hl 0 rfl) ?_
            refine gf_X12_45 (i := 0) X V rfl dX12_layTight_208 ?_
            refine lv_iconst (v := (2 : Int32)) X.1 X.2.1 dX12_layTight_211 (by decide) ?_
            refine lv_aload_n X.1 X.2.1 dX12_layTight_212 rfl (lv_at hl 0 rfl) ?_
            refine gf_X12_42 (i := 0) X V rfl dX12_layTight_213 ?_
            refine lv_iload_n X.1 X.2.1 dX12_layTight_216 rfl (lv_at hl 3 rfl) ?_
            obtain ⟨hc, h⟩ := kg_of h
            refine al_X12_30 (i := 0) X V rfl hc dX12_layTight_217 ?_
            obtain ⟨hc, h⟩ := kg_of h
            refine as_X12_31 (i := 0) X V rfl hc dX12_layTight_218 (fun H locs V => ?_)
            obtain ⟨z70, ez70⟩ : ∃ y, y = (z69.1, z69.2.1, va_up z69.2.2.1 31 (upd (z69.2.2.1 31) ((2 : Int32)).toNatClampNeg ((z69.2.2.1 30) x47.2.2.2.toNatClampNeg)), z69.2.2.2) := ⟨_, rfl⟩
            replace h := kl_of ez70 h
            have V : kW D AA s.heap H (List.flatten [gX12 g aT z70]) locs := by rw [ez70]; exact V
            obtain rfl := Option.some.inj h
            rw [hAA] at V
            rw [hQQ]
            exact k_vret X V dX12_layTight_219
          · replace h := kif_f hc h
            obtain ⟨hc, h⟩ := kg_of h
            refine W.eq (g2 := F0 m 238 ls []) (by rw [hc]) ?_
            have hl : lv_has ls 4 [(0, .ref (aT 0)), (1, .int x47.2.1)] := by have q := hl; rw [hc] at q; exact q
            obtain rfl := Option.some.inj h
            rw [hAA] at V
            rw [hQQ]
            exact k_vret X V dX12_layTight_238
  · replace h := kif_t hc h
    obtain rfl := Option.some.inj h
    rw [hAA] at V
    rw [hQQ]
    exact k_vret X V dX12_layTight_29

def p_X12_tight (zT : tX12) (v1 : Int32) (v2 : Int32) : Option (Int32 × tX12) :=
  kif (v2 < (-1 : Int32)) (some ((-1 : Int32), zT)) (kb (p_X12_hasCircle zT v1) (fun x1 => kif ((kz x1.1) = 0) (some ((-1 : Int32), x1.2)) (kb (p_X12_layTight x1.2) (fun x2 => kif (v2 = (-1 : Int32)) (some ((x2.1 32), x2)) (kif ((x2.1 32) ≤ v2) (some ((-1 : Int32), x2)) (kg (kii v2 3) (kg (kii ((x2.2.2.1 31) v2.toNatClampNeg) 41) (some (((x2.2.2.1 14) (((x2.2.2.1 31) v2.toNatClampNeg)).toNatClampNeg), x2)))))))))
set_option maxHeartbeats 4000000 in
set_option maxRecDepth 100000 in
theorem c_X12_tight (l : Launch) (D : va_G) (g : kG) (aT : Nat → Nat) (zT : tX12) (v1 : Int32) (v2 : Int32) (r : Int32 × tX12) (h : p_X12_tight zT v1 v2 = some r) : kMi l yX12_tight cX12_tight 3 (some .int) (kR 6 170) D (kty g) [.ref (aT 0), .int v1, .int v2] (List.flatten [gX12 g aT zT]) r.1 (List.flatten [gX12 g aT r.2]) := by
  intro sz
  refine k_enter (lv := [(0, .ref (aT 0)), (1, .int v1), (2, .int v2)]) RX12 (by decide +kernel) rfl rfl (Nat.le_of_ble_eq_true rfl) ?_
  intro p en s m args below meth c ls hsz X V hl
  obtain ⟨QQ, hQQ⟩ : ∃ q, q = MQ below (va_Qi (fun r' (_ : Unit) => r' = r.1) (fun _ => kE D (List.flatten [gX12 g aT r.2])) (va_A (List.flatten [gX12 g aT zT]) sz)) args s 0 0 (va_A (List.flatten [gX12 g aT zT]) sz) := ⟨_, rfl⟩
  rw [← hQQ]
  obtain ⟨AA, hAA⟩ : ∃ q, q = va_A (List.flatten [gX12 g aT zT]) sz := ⟨_, rfl⟩
  rw [← hAA] at V
  unfold p_X12_tight at h
  refine lv_iload_n X.1 X.2.1 dX12_tight_0 rfl (lv_at hl 2 rfl) ?_
  refine lv_iconst (v := (-1 : Int32)) X.1 X.2.1 dX12_tight_1 (by decide) ?_
  refine lv_icmp_lt (tgt := 13) X.1 X.2.1 dX12_tight_2 (by decide) (fun hc => ?_) (fun hc => ?_)
  · replace h := kif_t hc h
    refine lv_iconst (v := (-1 : Int32)) X.1 X.2.1 dX12_tight_13 (by decide) ?_
    obtain rfl := Option.some.inj h
    rw [hAA] at V
    rw [hQQ]
    exact k_iret X V rfl dX12_tight_14
  · replace h := kif_f hc h
    refine lv_aload_n X.1 X.2.1 dX12_tight_5 rfl (lv_at hl 0 rfl) ?_
    refine lv_iload_n X.1 X.2.1 dX12_tight_6 rfl (lv_at hl 1 rfl) ?_
    obtain ⟨x3, hx3, h⟩ := kb_of h
    refine s_callVi (segs' := [gX12 g aT x3.2]) (ci := 12) (i0 := 0) X V (c_X12_hasCircle l D g aT zT v1 x3 hx3) w_X12_288 ⟨Nat.le_of_ble_eq_true rfl, Nat.le_of_ble_eq_true rfl⟩ ⟨Nat.zero_le _, Nat.zero_le _⟩ rfl rfl rfl rfl [0] rfl rfl ⟨gX12_fst, trivial⟩ rfl rfl hl.1 (Nat.le_of_ble_eq_true rfl) dX12_tight_7 (fun H locs V => ?_)
    refine lv_if_ne (tgt := 15) X.1 X.2.1 dX12_tight_10 (by decide) (fun hc => ?_) (fun hc => ?_)
    · replace h := kif_f hc h
      refine lv_aload_n X.1 X.2.1 dX12_tight_15 rfl (lv_at hl 0 rfl) ?_
      obtain ⟨x4, hx4, h⟩ := kb_of h
      refine s_callVv (segs' := [gX12 g aT x4]) (ci := 12) (i0 := 0) X V (c_X12_layTight l D g aT x3.2 x4 hx4) w_X12_308 ⟨Nat.le_of_ble_eq_true rfl, Nat.le_of_ble_eq_true rfl⟩ ⟨Nat.zero_le _, Nat.zero_le _⟩ rfl rfl rfl rfl [0] rfl rfl ⟨gX12_fst, trivial⟩ rfl rfl hl.1 (Nat.le_of_ble_eq_true rfl) dX12_tight_16 (fun H locs V => ?_)
      refine lv_iload_n X.1 X.2.1 dX12_tight_19 rfl (lv_at hl 2 rfl) ?_
      refine lv_iconst (v := (-1 : Int32)) X.1 X.2.1 dX12_tight_20 (by decide) ?_
      refine lv_icmp_ne (tgt := 31) X.1 X.2.1 dX12_tight_21 (by decide) (fun hc => ?_) (fun hc => ?_)
      · replace h := kif_f hc h
        refine lv_iload_n X.1 X.2.1 dX12_tight_31 rfl (lv_at hl 2 rfl) ?_
        refine lv_aload_n X.1 X.2.1 dX12_tight_32 rfl (lv_at hl 0 rfl) ?_
        refine gf_X12_299 (i := 0) X V rfl dX12_tight_33 ?_
        refine lv_icmp_ge (tgt := 53) X.1 X.2.1 dX12_tight_36 (by decide) (fun hc => ?_) (fun hc => ?_)
        · replace h := kif_t hc h
          refine lv_iconst (v := (-1 : Int32)) X.1 X.2.1 dX12_tight_53 (by decide) ?_
          obtain rfl := Option.some.inj h
          rw [hAA] at V
          rw [hQQ]
          exact k_iret X V rfl dX12_tight_54
        · replace h := kif_f hc h
          refine lv_aload_n X.1 X.2.1 dX12_tight_39 rfl (lv_at hl 0 rfl) ?_
          refine gf_X12_39 (i := 0) X V rfl dX12_tight_40 ?_
          refine lv_aload_n X.1 X.2.1 dX12_tight_43 rfl (lv_at hl 0 rfl) ?_
          refine gf_X12_45 (i := 0) X V rfl dX12_tight_44 ?_
          refine lv_iload_n X.1 X.2.1 dX12_tight_47 rfl (lv_at hl 2 rfl) ?_
          obtain ⟨hc, h⟩ := kg_of h
          refine al_X12_31 (i := 0) X V rfl hc dX12_tight_48 ?_
          obtain ⟨hc, h⟩ := kg_of h
          refine al_X12_14 (i := 0) X V rfl hc dX12_tight_49 ?_
          refine lv_goto (tgt := 54) X.1 X.2.1 dX12_tight_50 (by decide) ?_
          obtain rfl := Option.some.inj h
          rw [hAA] at V
          rw [hQQ]
          exact k_iret X V rfl dX12_tight_54
      · replace h := kif_t hc h
        refine lv_aload_n X.1 X.2.1 dX12_tight_24 rfl (lv_at hl 0 rfl) ?_
        refine gf_X12_299 (i := 0) X V rfl dX12_tight_25 ?_
        refine lv_goto (tgt := 54) X.1 X.2.1 dX12_tight_28 (by decide) ?_
        obtain rfl := Option.some.inj h
        rw [hAA] at V
        rw [hQQ]
        exact k_iret X V rfl dX12_tight_54
    · replace h := kif_t hc h
      refine lv_iconst (v := (-1 : Int32)) X.1 X.2.1 dX12_tight_13 (by decide) ?_
      obtain rfl := Option.some.inj h
      rw [hAA] at V
      rw [hQQ]
      exact k_iret X V rfl dX12_tight_14

def p_X12_isOfSet (zT : tX12) (v1 : Int32) (v2 : Int32) : Option (Bool) :=
  kb (p_X12_isSet v1) (fun x1 => kif ((kz x1) = 0) (some false) (kb (p_X12_isPoint zT v2) (fun x2 => kif ((kz x2) = 0) (some false) (kb (p_X12_isOf zT v1 v2) (fun x3 => kif ((kz x3) = 0) (some false) (some true))))))
set_option maxHeartbeats 4000000 in
set_option maxRecDepth 100000 in
theorem c_X12_isOfSet (l : Launch) (D : va_G) (g : kG) (aT : Nat → Nat) (zT : tX12) (v1 : Int32) (v2 : Int32) (r : Bool) (h : p_X12_isOfSet zT v1 v2 = some r) : kMi l yX12_isOfSet cX12_isOfSet 3 (some .boolean) (kR 2 43) D (kty g) [.ref (aT 0), .int v1, .int v2] (List.flatten [gX12 g aT zT]) (kz r) (List.flatten [gX12 g aT zT]) := by
  intro sz
  refine k_enter (lv := [(0, .ref (aT 0)), (1, .int v1), (2, .int v2)]) RX12 (by decide +kernel) rfl rfl (Nat.le_of_ble_eq_true rfl) ?_
  intro p en s m args below meth c ls hsz X V hl
  obtain ⟨QQ, hQQ⟩ : ∃ q, q = MQ below (va_Qi (fun r' (_ : Unit) => r' = kz r) (fun _ => kE D (List.flatten [gX12 g aT zT])) (va_A (List.flatten [gX12 g aT zT]) sz)) args s 0 0 (va_A (List.flatten [gX12 g aT zT]) sz) := ⟨_, rfl⟩
  rw [← hQQ]
  obtain ⟨AA, hAA⟩ : ∃ q, q = va_A (List.flatten [gX12 g aT zT]) sz := ⟨_, rfl⟩
  rw [← hAA] at V
  unfold p_X12_isOfSet at h
  refine lv_iload_n X.1 X.2.1 dX12_isOfSet_0 rfl (lv_at hl 1 rfl) ?_
  obtain ⟨x4, hx4, h⟩ := kb_of h
  refine s_callSi (segs' := [gX12 g aT zT]) X V (c_X12_isSet l D g v1 x4 hx4) w_X12_166 ⟨Nat.le_of_ble_eq_true rfl, Nat.le_of_ble_eq_true rfl⟩ ⟨Nat.zero_le _, Nat.zero_le _⟩ rfl [] rfl rfl (kFst_refl _) rfl rfl hl.1 (Nat.le_of_ble_eq_true rfl) dX12_isOfSet_1 (fun H locs V => ?_)
  refine lv_if_eq (tgt := 28) X.1 X.2.1 dX12_isOfSet_4 (by decide) (fun hc => ?_) (fun hc => ?_)
  · replace h := kif_t hc h
    refine lv_iconst (v := (0 : Int32)) X.1 X.2.1 dX12_isOfSet_28 (by decide) ?_
    obtain rfl := Option.some.inj h
    rw [hAA] at V
    rw [hQQ]
    exact k_zret X V (b := false) rfl rfl dX12_isOfSet_29
  · replace h := kif_f hc h
    refine lv_aload_n X.1 X.2.1 dX12_isOfSet_7 rfl (lv_at hl 0 rfl) ?_
    refine lv_iload_n X.1 X.2.1 dX12_isOfSet_8 rfl (lv_at hl 2 rfl) ?_
    obtain ⟨x5, hx5, h⟩ := kb_of h
    refine s_callVi (segs' := [gX12 g aT zT]) (ci := 12) (i0 := 0) X V (c_X12_isPoint l D g aT zT v2 x5 hx5) w_X12_99 ⟨Nat.le_of_ble_eq_true rfl, Nat.le_of_ble_eq_true rfl⟩ ⟨Nat.zero_le _, Nat.zero_le _⟩ rfl rfl rfl rfl [0] rfl rfl (kFst_refl _) rfl rfl hl.1 (Nat.le_of_ble_eq_true rfl) dX12_isOfSet_9 (fun H locs V => ?_)
    refine lv_if_eq (tgt := 28) X.1 X.2.1 dX12_isOfSet_12 (by decide) (fun hc => ?_) (fun hc => ?_)
    · replace h := kif_t hc h
      refine lv_iconst (v := (0 : Int32)) X.1 X.2.1 dX12_isOfSet_28 (by decide) ?_
      obtain rfl := Option.some.inj h
      rw [hAA] at V
      rw [hQQ]
      exact k_zret X V (b := false) rfl rfl dX12_isOfSet_29
    · replace h := kif_f hc h
      refine lv_aload_n X.1 X.2.1 dX12_isOfSet_15 rfl (lv_at hl 0 rfl) ?_
      refine lv_iload_n X.1 X.2.1 dX12_isOfSet_16 rfl (lv_at hl 1 rfl) ?_
      refine lv_iload_n X.1 X.2.1 dX12_isOfSet_17 rfl (lv_at hl 2 rfl) ?_
      obtain ⟨x6, hx6, h⟩ := kb_of h
      refine s_callVi (segs' := [gX12 g aT zT]) (ci := 12) (i0 := 0) X V (c_X12_isOf l D g aT zT v1 v2 x6 hx6) w_X12_160 ⟨Nat.le_of_ble_eq_true rfl, Nat.le_of_ble_eq_true rfl⟩ ⟨Nat.zero_le _, Nat.zero_le _⟩ rfl rfl rfl rfl [0] rfl rfl (kFst_refl _) rfl rfl hl.1 (Nat.le_of_ble_eq_true rfl) dX12_isOfSet_18 (fun H locs V => ?_)
      refine lv_if_eq (tgt := 28) X.1 X.2.1 dX12_isOfSet_21 (by decide) (fun hc => ?_) (fun hc => ?_)
      · replace h := kif_t hc h
        refine lv_iconst (v := (0 : Int32)) X.1 X.2.1 dX12_isOfSet_28 (by decide) ?_
        obtain rfl := Option.some.inj h
        rw [hAA] at V
        rw [hQQ]
        exact k_zret X V (b := false) rfl rfl dX12_isOfSet_29
      · replace h := kif_f hc h
        refine lv_iconst (v := (1 : Int32)) X.1 X.2.1 dX12_isOfSet_24 (by decide) ?_
        refine lv_goto (tgt := 29) X.1 X.2.1 dX12_isOfSet_25 (by decide) ?_
        obtain rfl := Option.some.inj h
        rw [hAA] at V
        rw [hQQ]
        exact k_zret X V (b := true) rfl rfl dX12_isOfSet_29

def p_X12_needed (zT : tX12) (v1 : Int32) (v2 : Int32) : Option (Int32 × tX12) :=
  kb (p_X12_isOfSet zT v1 v2) (fun x1 => kif ((kz x1) = 0) (some ((-1 : Int32), zT)) (kb (p_X12_hasCircle zT v1) (fun x2 => kif ((kz x2.1) = 0) (some ((-1 : Int32), x2.2)) (kl (x2.2.2.1 21) (fun y3 => kl (x2.2.2.1 22) (fun y4 => kb (p_X12_layBut x2.2 v1 v2) (fun x5 => kif (x5.1 = 0) (some ((1 : Int32), x5.2)) (kb (p_X12_allSpots x5.2) (fun x6 => kb (p_X12_layCircle x5.2 x6) (fun x7 => kb (p_X12_against (x7.2.1 21) (x7.2.1 22) y3 y4) (fun x8 => kif (0 ≤ x8) (some ((0 : Int32), x7)) (some ((1 : Int32), x7)))))))))))))
set_option maxHeartbeats 4000000 in
set_option maxRecDepth 100000 in
theorem c_X12_needed (l : Launch) (D : va_G) (g : kG) (aT : Nat → Nat) (zT : tX12) (v1 : Int32) (v2 : Int32) (r : Int32 × tX12) (h : p_X12_needed zT v1 v2 = some r) : kMi l yX12_needed cX12_needed 7 (some .int) (kR 6 170) D (kty g) [.ref (aT 0), .int v1, .int v2] (List.flatten [gX12 g aT zT]) r.1 (List.flatten [gX12 g aT r.2]) := by
  intro sz
  refine k_enter (lv := [(0, .ref (aT 0)), (1, .int v1), (2, .int v2)]) RX12 (by decide +kernel) rfl rfl (Nat.le_of_ble_eq_true rfl) ?_
  intro p en s m args below meth c ls hsz X V hl
  obtain ⟨QQ, hQQ⟩ : ∃ q, q = MQ below (va_Qi (fun r' (_ : Unit) => r' = r.1) (fun _ => kE D (List.flatten [gX12 g aT r.2])) (va_A (List.flatten [gX12 g aT zT]) sz)) args s 0 0 (va_A (List.flatten [gX12 g aT zT]) sz) := ⟨_, rfl⟩
  rw [← hQQ]
  obtain ⟨AA, hAA⟩ : ∃ q, q = va_A (List.flatten [gX12 g aT zT]) sz := ⟨_, rfl⟩
  rw [← hAA] at V
  unfold p_X12_needed at h
  refine lv_aload_n X.1 X.2.1 dX12_needed_0 rfl (lv_at hl 0 rfl) ?_
  refine lv_iload_n X.1 X.2.1 dX12_needed_1 rfl (lv_at hl 1 rfl) ?_
  refine lv_iload_n X.1 X.2.1 dX12_needed_2 rfl (lv_at hl 2 rfl) ?_
  obtain ⟨x9, hx9, h⟩ := kb_of h
  refine s_callVi (segs' := [gX12 g aT zT]) (ci := 12) (i0 := 0) X V (c_X12_isOfSet l D g aT zT v1 v2 x9 hx9) w_X12_311 ⟨Nat.le_of_ble_eq_true rfl, Nat.le_of_ble_eq_true rfl⟩ ⟨Nat.zero_le _, Nat.zero_le _⟩ rfl rfl rfl rfl [0] rfl rfl (kFst_refl _) rfl rfl hl.1 (Nat.le_of_ble_eq_true rfl) dX12_needed_3 (fun H locs V => ?_)
  refine lv_if_eq (tgt := 17) X.1 X.2.1 dX12_needed_6 (by decide) (fun hc => ?_) (fun hc => ?_)
  · replace h := kif_t hc h
    refine lv_iconst (v := (-1 : Int32)) X.1 X.2.1 dX12_needed_17 (by decide) ?_
    obtain rfl := Option.some.inj h
    rw [hAA] at V
    rw [hQQ]
    exact k_iret X V rfl dX12_needed_18
  · replace h := kif_f hc h
    refine lv_aload_n X.1 X.2.1 dX12_needed_9 rfl (lv_at hl 0 rfl) ?_
    refine lv_iload_n X.1 X.2.1 dX12_needed_10 rfl (lv_at hl 1 rfl) ?_
    obtain ⟨x10, hx10, h⟩ := kb_of h
    refine s_callVi (segs' := [gX12 g aT x10.2]) (ci := 12) (i0 := 0) X V (c_X12_hasCircle l D g aT zT v1 x10 hx10) w_X12_288 ⟨Nat.le_of_ble_eq_true rfl, Nat.le_of_ble_eq_true rfl⟩ ⟨Nat.zero_le _, Nat.zero_le _⟩ rfl rfl rfl rfl [0] rfl rfl ⟨gX12_fst, trivial⟩ rfl rfl hl.1 (Nat.le_of_ble_eq_true rfl) dX12_needed_11 (fun H locs V => ?_)
    refine lv_if_ne (tgt := 19) X.1 X.2.1 dX12_needed_14 (by decide) (fun hc => ?_) (fun hc => ?_)
    · replace h := kif_f hc h
      refine lv_aload_n X.1 X.2.1 dX12_needed_19 rfl (lv_at hl 0 rfl) ?_
      refine gf_X12_196 (i := 0) X V rfl dX12_needed_20 ?_
      refine lv_topl (fun y11 ey11 => ?_)
      replace h := kl_of ey11 h
      refine lv_lstore_n (lv' := [(3, .long y11), (0, .ref (aT 0)), (1, .int v1), (2, .int v2)]) X.1 X.2.1 dX12_needed_23 rfl hl (by decide) rfl (fun ls hl => ?_)
      refine lv_aload_n X.1 X.2.1 dX12_needed_24 rfl (lv_at hl 1 rfl) ?_
      refine gf_X12_199 (i := 0) X V rfl dX12_needed_25 ?_
      refine lv_topl (fun y12 ey12 => ?_)
      replace h := kl_of ey12 h
      refine lv_lstore (lv' := [(5, .long y12), (3, .long y11), (0, .ref (aT 0)), (1, .int v1), (2, .int v2)]) X.1 X.2.1 dX12_needed_28 hl (by decide) rfl (fun ls hl => ?_)
      refine lv_aload_n X.1 X.2.1 dX12_needed_30 rfl (lv_at hl 2 rfl) ?_
      refine lv_iload_n X.1 X.2.1 dX12_needed_31 rfl (lv_at hl 3 rfl) ?_
      refine lv_iload_n X.1 X.2.1 dX12_needed_32 rfl (lv_at hl 4 rfl) ?_
      obtain ⟨x13, hx13, h⟩ := kb_of h
      refine s_callVi (segs' := [gX12 g aT x13.2]) (ci := 12) (i0 := 0) X V (c_X12_layBut l D g aT x10.2 v1 v2 x13 hx13) w_X12_169 ⟨Nat.le_of_ble_eq_true rfl, Nat.le_of_ble_eq_true rfl⟩ ⟨Nat.zero_le _, Nat.zero_le _⟩ rfl rfl rfl rfl [0] rfl rfl ⟨gX12_fst, trivial⟩ rfl rfl hl.1 (Nat.le_of_ble_eq_true rfl) dX12_needed_33 (fun H locs V => ?_)
      refine lv_if_ne (tgt := 41) X.1 X.2.1 dX12_needed_36 (by decide) (fun hc => ?_) (fun hc => ?_)
      · replace h := kif_f hc h
        refine lv_aload_n X.1 X.2.1 dX12_needed_41 rfl (lv_at hl 2 rfl) ?_
        refine lv_aload_n X.1 X.2.1 dX12_needed_42 rfl (lv_at hl 2 rfl) ?_
        obtain ⟨x14, hx14, h⟩ := kb_of h
        refine s_callVl (segs' := [gX12 g aT x13.2]) (ci := 12) (i0 := 0) X V (c_X12_allSpots l D g aT x13.2 x14 hx14) w_X12_281 ⟨Nat.le_of_ble_eq_true rfl, Nat.le_of_ble_eq_true rfl⟩ ⟨Nat.zero_le _, Nat.zero_le _⟩ rfl rfl rfl rfl [0] rfl rfl (kFst_refl _) rfl rfl hl.1 (Nat.le_of_ble_eq_true rfl) dX12_needed_43 (fun H locs V => ?_)
        obtain ⟨x15, hx15, h⟩ := kb_of h
        refine s_callVv (segs' := [gX12 g aT x15]) (ci := 12) (i0 := 0) X V (c_X12_layCircle l D g aT x13.2 x14 x15 hx15) w_X12_285 ⟨Nat.le_of_ble_eq_true rfl, Nat.le_of_ble_eq_true rfl⟩ ⟨Nat.zero_le _, Nat.zero_le _⟩ rfl rfl rfl rfl [0] rfl rfl ⟨gX12_fst, trivial⟩ rfl rfl hl.1 (Nat.le_of_ble_eq_true rfl) dX12_needed_46 (fun H locs V => ?_)
        refine lv_aload_n X.1 X.2.1 dX12_needed_49 rfl (lv_at hl 2 rfl) ?_
        refine gf_X12_196 (i := 0) X V rfl dX12_needed_50 ?_
        refine lv_aload_n X.1 X.2.1 dX12_needed_53 rfl (lv_at hl 2 rfl) ?_
        refine gf_X12_199 (i := 0) X V rfl dX12_needed_54 ?_
        refine lv_lload_n X.1 X.2.1 dX12_needed_57 rfl (lv_at hl 1 rfl) ?_
        refine lv_lload X.1 X.2.1 dX12_needed_58 (lv_at hl 0 rfl) ?_
        obtain ⟨x16, hx16, h⟩ := kb_of h
        refine s_callSi (segs' := [gX12 g aT x15]) X V (c_X12_against l D g (x15.2.1 21) (x15.2.1 22) y11 y12 x16 hx16) w_X12_271 ⟨Nat.le_of_ble_eq_true rfl, Nat.le_of_ble_eq_true rfl⟩ ⟨Nat.zero_le _, Nat.zero_le _⟩ rfl [] rfl rfl (kFst_refl _) rfl rfl hl.1 (Nat.le_of_ble_eq_true rfl) dX12_needed_60 (fun H locs V => ?_)
        refine lv_if_ge (tgt := 70) X.1 X.2.1 dX12_needed_63 (by decide) (fun hc => ?_) (fun hc => ?_)
        · replace h := kif_t hc h
          refine lv_iconst (v := (0 : Int32)) X.1 X.2.1 dX12_needed_70 (by decide) ?_
          obtain rfl := Option.some.inj h
          rw [hAA] at V
          rw [hQQ]
          exact k_iret X V rfl dX12_needed_71
        · replace h := kif_f hc h
          refine lv_iconst (v := (1 : Int32)) X.1 X.2.1 dX12_needed_66 (by decide) ?_
          refine lv_goto (tgt := 71) X.1 X.2.1 dX12_needed_67 (by decide) ?_
          obtain rfl := Option.some.inj h
          rw [hAA] at V
          rw [hQQ]
          exact k_iret X V rfl dX12_needed_71
      · replace h := kif_t hc h
        refine lv_iconst (v := (1 : Int32)) X.1 X.2.1 dX12_needed_39 (by decide) ?_
        obtain rfl := Option.some.inj h
        rw [hAA] at V
        rw [hQQ]
        exact k_iret X V rfl dX12_needed_40
    · replace h := kif_t hc h
      refine lv_iconst (v := (-1 : Int32)) X.1 X.2.1 dX12_needed_17 (by decide) ?_
      obtain rfl := Option.some.inj h
      rw [hAA] at V
      rw [hQQ]
      exact k_iret X V rfl dX12_needed_18

def p_X12_proof_L20 (v1 : Int32) (v2 : Int64) (zT : tX12) (s : Int32) : Option (Nat × (Int32)) :=
  kif ((40 : Int32) ≤ s) (some (54, s)) (kb (p_X12_has v2 s) (fun x1 => kif ((kz x1) = 0) (kl (s + (1 : Int32)) (fun y2 => some (20, y2))) (kb (p_X12_isOfSet zT v1 s) (fun x3 => kif ((kz x3) = 0) (some (46, s)) (kl (s + (1 : Int32)) (fun y4 => some (20, y4)))))))
def p_X12_proof_L82 (v1 : Int32) (v2 : Int64) (zT : tX12) (v4 : Int64) (v6 : Int64) (s : Int64 × Int32) : Option (Nat × (Int64 × Int32)) :=
  kif ((40 : Int32) ≤ s.2) (some (127, (s.1, s.2))) (kb (p_X12_has v2 s.2) (fun x9 => kif ((kz x9) = 0) (kl (s.2 + (1 : Int32)) (fun y10 => some (82, (s.1, y10)))) (kb (p_X12_standsX zT s.2) (fun x11 => kb (p_X12_standsY zT s.2) (fun x12 => kb (p_X12_spotAt zT x11 x12) (fun x13 => kl (s.1 ||| ((1 : Int64) <<< (x13.toInt64 &&& 63))) (fun y14 => kl (s.2 + (1 : Int32)) (fun y15 => some (82, (y14, y15))))))))))
def p_X12_proof (zT : tX12) (v1 : Int32) (v2 : Int64) : Option (Int32 × tX12) :=
  kif ((lg_cmp v2 (0 : Int64)) = 0) (some ((-1 : Int32), zT)) (kif ((lg_cmp (v2 >>> ((40 : Int32).toInt64 &&& 63)) (0 : Int64)) = 0) (kb (kitr 20 (fun q => p_X12_proof_L20 v1 v2 zT q) kF (0 : Int32)) (fun x5 => kif (x5.1 = 46) (some ((-1 : Int32), zT)) (kg (x5.1 = 54) (kb (p_X12_hasCircle zT v1) (fun x6 => kif ((kz x6.1) = 0) (some ((-1 : Int32), x6.2)) (kl (x6.2.2.1 21) (fun y7 => kl (x6.2.2.1 22) (fun y8 => kb (kitr 82 (fun q => p_X12_proof_L82 v1 v2 x6.2 y7 y8 q) kF ((0 : Int64), (0 : Int32))) (fun x16 => kg (x16.1 = 127) (kb (p_X12_layCircle x6.2 x16.2.1) (fun x17 => kif ((lg_cmp (x17.2.1 21) y7) = 0) (kif ((lg_cmp (x17.2.1 22) y8) = 0) (some ((1 : Int32), x17)) (some ((0 : Int32), x17))) (some ((0 : Int32), x17))))))))))))) (some ((-1 : Int32), zT)))
set_option maxHeartbeats 4000000 in
set_option maxRecDepth 100000 in
theorem c_X12_proof (l : Launch) (D : va_G) (g : kG) (aT : Nat → Nat) (zT : tX12) (v1 : Int32) (v2 : Int64) (r : Int32 × tX12) (h : p_X12_proof zT v1 v2 = some r) : kMi l yX12_proof cX12_proof 11 (some .int) (kR 6 170) D (kty g) [.ref (aT 0), .int v1, .long v2] (List.flatten [gX12 g aT zT]) r.1 (List.flatten [gX12 g aT r.2]) := by
  intro sz
  refine k_enter (lv := [(0, .ref (aT 0)), (1, .int v1), (2, .long v2)]) RX12 (by decide +kernel) rfl rfl (Nat.le_of_ble_eq_true rfl) ?_
  intro p en s m args below meth c ls hsz X V hl
  obtain ⟨QQ, hQQ⟩ : ∃ q, q = MQ below (va_Qi (fun r' (_ : Unit) => r' = r.1) (fun _ => kE D (List.flatten [gX12 g aT r.2])) (va_A (List.flatten [gX12 g aT zT]) sz)) args s 0 0 (va_A (List.flatten [gX12 g aT zT]) sz) := ⟨_, rfl⟩
  rw [← hQQ]
  obtain ⟨AA, hAA⟩ : ∃ q, q = va_A (List.flatten [gX12 g aT zT]) sz := ⟨_, rfl⟩
  rw [← hAA] at V
  unfold p_X12_proof at h
  refine lv_lload_n X.1 X.2.1 dX12_proof_0 rfl (lv_at hl 2 rfl) ?_
  refine lv_lconst (v := (0 : Int64)) X.1 X.2.1 dX12_proof_1 (by decide) ?_
  refine W.lcmp X.1 X.2.1 dX12_proof_2 ?_
  refine lv_if_eq (tgt := 15) X.1 X.2.1 dX12_proof_3 (by decide) (fun hc => ?_) (fun hc => ?_)
  · replace h := kif_t hc h
    refine lv_iconst (v := (-1 : Int32)) X.1 X.2.1 dX12_proof_15 (by decide) ?_
    obtain rfl := Option.some.inj h
    rw [hAA] at V
    rw [hQQ]
    exact k_iret X V rfl dX12_proof_16
  · replace h := kif_f hc h
    refine lv_lload_n X.1 X.2.1 dX12_proof_6 rfl (lv_at hl 2 rfl) ?_
    refine lv_bipush (v := (40 : Int32)) X.1 X.2.1 dX12_proof_7 (by decide) ?_
    refine lv_lshr X.1 X.2.1 dX12_proof_9 rfl ?_
    refine lv_lconst (v := (0 : Int64)) X.1 X.2.1 dX12_proof_10 (by decide) ?_
    refine W.lcmp X.1 X.2.1 dX12_proof_11 ?_
    refine lv_if_eq (tgt := 17) X.1 X.2.1 dX12_proof_12 (by decide) (fun hc => ?_) (fun hc => ?_)
    · replace h := kif_t hc h
      refine lv_iconst (v := (0 : Int32)) X.1 X.2.1 dX12_proof_17 (by decide) ?_
      refine lv_istore (lv' := [(4, .int (0 : Int32)), (0, .ref (aT 0)), (1, .int v1), (2, .long v2)]) X.1 X.2.1 dX12_proof_18 hl (by decide) rfl (fun ls hl => ?_)
      obtain ⟨x18, hx18, h⟩ := kb_of h
      refine (kitr_go (hd := 20) (body := fun q => p_X12_proof_L20 v1 v2 zT q) (G := (fun e => ∀ (H : Heap) (locs : List Loc) (ls : Array Slot), kW D AA s.heap H (List.flatten [gX12 g aT zT]) locs → lv_has ls 11 [(0, .ref (aT 0)), (1, .int v1), (2, .long v2), (4, .int e.2)] → W p l en (kR 6 170) s m args below meth c H locs 0 0 QQ (F0 m e.1 ls []))) (fun s19 e20 hb21 hG22 => ?_) kF _ x18 hx18 ?_) _ _ _ V (lv_sub hl [1, 2, 3, 0] rfl)
      · intro H locs ls V hl
        show W p l en (kR 6 170) s m args below meth c H locs 0 0 QQ (F0 m 20 ls [])
        have h : p_X12_proof_L20 v1 v2 zT s19 = some e20 := hb21
        unfold p_X12_proof_L20 at h
        have V : kW D AA s.heap H (List.flatten [gX12 g aT zT]) locs := V
        have hl : lv_has ls 11 [(0, .ref (aT 0)), (1, .int v1), (2, .long v2), (4, .int s19)] := hl
        refine lv_iload X.1 X.2.1 dX12_proof_20 (lv_at hl 3 rfl) ?_
        refine lv_bipush (v := (40 : Int32)) X.1 X.2.1 dX12_proof_22 (by decide) ?_
        refine lv_icmp_ge (tgt := 54) X.1 X.2.1 dX12_proof_24 (by decide) (fun hc => ?_) (fun hc => ?_)
        · replace h := kif_t hc h
          obtain rfl := Option.some.inj h
          exact hG22 _ _ _ V (lv_sub hl [0, 1, 2, 3] rfl)
        · replace h := kif_f hc h
          refine lv_lload_n X.1 X.2.1 dX12_proof_27 rfl (lv_at hl 2 rfl) ?_
          refine lv_iload X.1 X.2.1 dX12_proof_28 (lv_at hl 3 rfl) ?_
          obtain ⟨x23, hx23, h⟩ := kb_of h
          refine s_callSi (segs' := [gX12 g aT zT]) X V (c_X12_has l D g v2 s19 x23 hx23) w_X12_225 ⟨Nat.le_of_ble_eq_true rfl, Nat.le_of_ble_eq_true rfl⟩ ⟨Nat.zero_le _, Nat.zero_le _⟩ rfl [] rfl rfl (kFst_refl _) rfl rfl hl.1 (Nat.le_of_ble_eq_true rfl) dX12_proof_30 (fun H locs V => ?_)
          refine lv_if_eq (tgt := 48) X.1 X.2.1 dX12_proof_33 (by decide) (fun hc => ?_) (fun hc => ?_)
          · replace h := kif_t hc h
            obtain ⟨y24, ey24⟩ : ∃ y : Int32, y = (s19 + (1 : Int32)) := ⟨_, rfl⟩
            replace h := kl_of ey24 h
            refine lv_iinc (v := y24) (lv' := [(4, .int y24), (0, .ref (aT 0)), (1, .int v1), (2, .long v2)]) X.1 X.2.1 dX12_proof_48 hl (k := 3) rfl (by rw [ey24]; rfl) (by decide) rfl (fun ls hl => ?_)
            refine lv_goto (tgt := 20) X.1 X.2.1 dX12_proof_51 (by decide) ?_
            obtain rfl := Option.some.inj h
            exact hG22 _ _ _ V (lv_sub hl [1, 2, 3, 0] rfl)
          · replace h := kif_f hc h
            refine lv_aload_n X.1 X.2.1 dX12_proof_36 rfl (lv_at hl 0 rfl) ?_
            refine lv_iload_n X.1 X.2.1 dX12_proof_37 rfl (lv_at hl 1 rfl) ?_
            refine lv_iload X.1 X.2.1 dX12_proof_38 (lv_at hl 3 rfl) ?_
            obtain ⟨x25, hx25, h⟩ := kb_of h
            refine s_callVi (segs' := [gX12 g aT zT]) (ci := 12) (i0 := 0) X V (c_X12_isOfSet l D g aT zT v1 s19 x25 hx25) w_X12_311 ⟨Nat.le_of_ble_eq_true rfl, Nat.le_of_ble_eq_true rfl⟩ ⟨Nat.zero_le _, Nat.zero_le _⟩ rfl rfl rfl rfl [0] rfl rfl (kFst_refl _) rfl rfl hl.1 (Nat.le_of_ble_eq_true rfl) dX12_proof_40 (fun H locs V => ?_)
            refine lv_if_ne (tgt := 48) X.1 X.2.1 dX12_proof_43 (by decide) (fun hc => ?_) (fun hc => ?_)
            · replace h := kif_f hc h
              obtain ⟨y26, ey26⟩ : ∃ y : Int32, y = (s19 + (1 : Int32)) := ⟨_, rfl⟩
              replace h := kl_of ey26 h
              refine lv_iinc (v := y26) (lv' := [(4, .int y26), (0, .ref (aT 0)), (1, .int v1), (2, .long v2)]) X.1 X.2.1 dX12_proof_48 hl (k := 3) rfl (by rw [ey26]; rfl) (by decide) rfl (fun ls hl => ?_)
              refine lv_goto (tgt := 20) X.1 X.2.1 dX12_proof_51 (by decide) ?_
              obtain rfl := Option.some.inj h
              exact hG22 _ _ _ V (lv_sub hl [1, 2, 3, 0] rfl)
            · replace h := kif_t hc h
              obtain rfl := Option.some.inj h
              exact hG22 _ _ _ V (lv_sub hl [0, 1, 2, 3] rfl)
      · intro H locs ls V hl
        have V : kW D AA s.heap H (List.flatten [gX12 g aT zT]) locs := V
        have hl : lv_has ls 11 [(0, .ref (aT 0)), (1, .int v1), (2, .long v2), (4, .int x18.2)] := hl
        by_cases hc : x18.1 = 46
        · replace h := kif_t hc h
          refine W.eq (g2 := F0 m 46 ls []) (by rw [hc]) ?_
          refine lv_iconst (v := (-1 : Int32)) X.1 X.2.1 dX12_proof_46 (by decide) ?_
          obtain rfl := Option.some.inj h
          rw [hAA] at V
          rw [hQQ]
          exact k_iret X V rfl dX12_proof_47
        · replace h := kif_f hc h
          obtain ⟨hc, h⟩ := kg_of h
          refine W.eq (g2 := F0 m 54 ls []) (by rw [hc]) ?_
          refine lv_aload_n X.1 X.2.1 dX12_proof_54 rfl (lv_at hl 0 rfl) ?_
          refine lv_iload_n X.1 X.2.1 dX12_proof_55 rfl (lv_at hl 1 rfl) ?_
          obtain ⟨x27, hx27, h⟩ := kb_of h
          refine s_callVi (segs' := [gX12 g aT x27.2]) (ci := 12) (i0 := 0) X V (c_X12_hasCircle l D g aT zT v1 x27 hx27) w_X12_288 ⟨Nat.le_of_ble_eq_true rfl, Nat.le_of_ble_eq_true rfl⟩ ⟨Nat.zero_le _, Nat.zero_le _⟩ rfl rfl rfl rfl [0] rfl rfl ⟨gX12_fst, trivial⟩ rfl rfl hl.1 (Nat.le_of_ble_eq_true rfl) dX12_proof_56 (fun H locs V => ?_)
          refine lv_if_ne (tgt := 64) X.1 X.2.1 dX12_proof_59 (by decide) (fun hc => ?_) (fun hc => ?_)
          · replace h := kif_f hc h
            refine lv_aload_n X.1 X.2.1 dX12_proof_64 rfl (lv_at hl 0 rfl) ?_
            refine gf_X12_196 (i := 0) X V rfl dX12_proof_65 ?_
            refine lv_topl (fun y28 ey28 => ?_)
            replace h := kl_of ey28 h
            refine lv_lstore (lv' := [(4, .long y28), (0, .ref (aT 0)), (1, .int v1), (2, .long v2)]) X.1 X.2.1 dX12_proof_68 hl (by decide) rfl (fun ls hl => ?_)
            refine lv_aload_n X.1 X.2.1 dX12_proof_70 rfl (lv_at hl 1 rfl) ?_
            refine gf_X12_199 (i := 0) X V rfl dX12_proof_71 ?_
            refine lv_topl (fun y29 ey29 => ?_)
            replace h := kl_of ey29 h
            refine lv_lstore (lv' := [(6, .long y29), (4, .long y28), (0, .ref (aT 0)), (1, .int v1), (2, .long v2)]) X.1 X.2.1 dX12_proof_74 hl (by decide) rfl (fun ls hl => ?_)
            refine lv_lconst (v := (0 : Int64)) X.1 X.2.1 dX12_proof_76 (by decide) ?_
            refine lv_lstore (lv' := [(8, .long (0 : Int64)), (6, .long y29), (4, .long y28), (0, .ref (aT 0)), (1, .int v1), (2, .long v2)]) X.1 X.2.1 dX12_proof_77 hl (by decide) rfl (fun ls hl => ?_)
            refine lv_iconst (v := (0 : Int32)) X.1 X.2.1 dX12_proof_79 (by decide) ?_
            refine lv_istore (lv' := [(10, .int (0 : Int32)), (8, .long (0 : Int64)), (6, .long y29), (4, .long y28), (0, .ref (aT 0)), (1, .int v1), (2, .long v2)]) X.1 X.2.1 dX12_proof_80 hl (by decide) rfl (fun ls hl => ?_)
            obtain ⟨x30, hx30, h⟩ := kb_of h
            refine (kitr_go (hd := 82) (body := fun q => p_X12_proof_L82 v1 v2 x27.2 y28 y29 q) (G := (fun e => ∀ (H : Heap) (locs : List Loc) (ls : Array Slot), kW D AA s.heap H (List.flatten [gX12 g aT x27.2]) locs → lv_has ls 11 [(0, .ref (aT 0)), (2, .long v2), (4, .long y28), (6, .long y29), (8, .long e.2.1), (10, .int e.2.2)] → W p l en (kR 6 170) s m args below meth c H locs 0 0 QQ (F0 m e.1 ls []))) (fun s31 e32 hb33 hG34 => ?_) kF _ x30 hx30 ?_) _ _ _ V (lv_sub hl [4, 6, 3, 2, 1, 0] rfl)
            · intro H locs ls V hl
              show W p l en (kR 6 170) s m args below meth c H locs 0 0 QQ (F0 m 82 ls [])
              have h : p_X12_proof_L82 v1 v2 x27.2 y28 y29 s31 = some e32 := hb33
              unfold p_X12_proof_L82 at h
              have V : kW D AA s.heap H (List.flatten [gX12 g aT x27.2]) locs := V
              have hl : lv_has ls 11 [(0, .ref (aT 0)), (2, .long v2), (4, .long y28), (6, .long y29), (8, .long s31.1), (10, .int s31.2)] := hl
              refine lv_iload X.1 X.2.1 dX12_proof_82 (lv_at hl 5 rfl) ?_
              refine lv_bipush (v := (40 : Int32)) X.1 X.2.1 dX12_proof_84 (by decide) ?_
              refine lv_icmp_ge (tgt := 127) X.1 X.2.1 dX12_proof_86 (by decide) (fun hc => ?_) (fun hc => ?_)
              · replace h := kif_t hc h
                obtain rfl := Option.some.inj h
                exact hG34 _ _ _ V (lv_sub hl [0, 1, 2, 3, 4, 5] rfl)
              · replace h := kif_f hc h
                refine lv_lload_n X.1 X.2.1 dX12_proof_89 rfl (lv_at hl 1 rfl) ?_
                refine lv_iload X.1 X.2.1 dX12_proof_90 (lv_at hl 5 rfl) ?_
                obtain ⟨x35, hx35, h⟩ := kb_of h
                refine s_callSi (segs' := [gX12 g aT x27.2]) X V (c_X12_has l D g v2 s31.2 x35 hx35) w_X12_225 ⟨Nat.le_of_ble_eq_true rfl, Nat.le_of_ble_eq_true rfl⟩ ⟨Nat.zero_le _, Nat.zero_le _⟩ rfl [] rfl rfl (kFst_refl _) rfl rfl hl.1 (Nat.le_of_ble_eq_true rfl) dX12_proof_92 (fun H locs V => ?_)
                refine lv_if_eq (tgt := 121) X.1 X.2.1 dX12_proof_95 (by decide) (fun hc => ?_) (fun hc => ?_)
                · replace h := kif_t hc h
                  obtain ⟨y36, ey36⟩ : ∃ y : Int32, y = (s31.2 + (1 : Int32)) := ⟨_, rfl⟩
                  replace h := kl_of ey36 h
                  refine lv_iinc (v := y36) (lv' := [(10, .int y36), (0, .ref (aT 0)), (2, .long v2), (4, .long y28), (6, .long y29), (8, .long s31.1)]) X.1 X.2.1 dX12_proof_121 hl (k := 5) rfl (by rw [ey36]; rfl) (by decide) rfl (fun ls hl => ?_)
                  refine lv_goto (tgt := 82) X.1 X.2.1 dX12_proof_124 (by decide) ?_
                  obtain rfl := Option.some.inj h
                  exact hG34 _ _ _ V (lv_sub hl [1, 2, 3, 4, 5, 0] rfl)
                · replace h := kif_f hc h
                  refine lv_lload X.1 X.2.1 dX12_proof_98 (lv_at hl 4 rfl) ?_
                  refine lv_lconst (v := (1 : Int64)) X.1 X.2.1 dX12_proof_100 (by decide) ?_
                  refine lv_aload_n X.1 X.2.1 dX12_proof_101 rfl (lv_at hl 0 rfl) ?_
                  refine lv_aload_n X.1 X.2.1 dX12_proof_102 rfl (lv_at hl 0 rfl) ?_
                  refine lv_iload X.1 X.2.1 dX12_proof_103 (lv_at hl 5 rfl) ?_
                  obtain ⟨x37, hx37, h⟩ := kb_of h
                  refine s_callVi (segs' := [gX12 g aT x27.2]) (ci := 12) (i0 := 0) X V (c_X12_standsX l D g aT x27.2 s31.2 x37 hx37) w_X12_116 ⟨Nat.le_of_ble_eq_true rfl, Nat.le_of_ble_eq_true rfl⟩ ⟨Nat.zero_le _, Nat.zero_le _⟩ rfl rfl rfl rfl [0] rfl rfl (kFst_refl _) rfl rfl hl.1 (Nat.le_of_ble_eq_true rfl) dX12_proof_105 (fun H locs V => ?_)
                  refine lv_aload_n X.1 X.2.1 dX12_proof_108 rfl (lv_at hl 0 rfl) ?_
                  refine lv_iload X.1 X.2.1 dX12_proof_109 (lv_at hl 5 rfl) ?_
                  obtain ⟨x38, hx38, h⟩ := kb_of h
                  refine s_callVi (segs' := [gX12 g aT x27.2]) (ci := 12) (i0 := 0) X V (c_X12_standsY l D g aT x27.2 s31.2 x38 hx38) w_X12_119 ⟨Nat.le_of_ble_eq_true rfl, Nat.le_of_ble_eq_true rfl⟩ ⟨Nat.zero_le _, Nat.zero_le _⟩ rfl rfl rfl rfl [0] rfl rfl (kFst_refl _) rfl rfl hl.1 (Nat.le_of_ble_eq_true rfl) dX12_proof_111 (fun H locs V => ?_)
                  obtain ⟨x39, hx39, h⟩ := kb_of h
                  refine s_callVi (segs' := [gX12 g aT x27.2]) (ci := 12) (i0 := 0) X V (c_X12_spotAt l D g aT x27.2 x37 x38 x39 hx39) w_X12_314 ⟨Nat.le_of_ble_eq_true rfl, Nat.le_of_ble_eq_true rfl⟩ ⟨Nat.zero_le _, Nat.zero_le _⟩ rfl rfl rfl rfl [0] rfl rfl (kFst_refl _) rfl rfl hl.1 (Nat.le_of_ble_eq_true rfl) dX12_proof_114 (fun H locs V => ?_)
                  refine lv_lshl X.1 X.2.1 dX12_proof_117 rfl ?_
                  refine lv_lor X.1 X.2.1 dX12_proof_118 ?_
                  refine lv_topl (fun y40 ey40 => ?_)
                  replace h := kl_of ey40 h
                  refine lv_lstore (lv' := [(8, .long y40), (0, .ref (aT 0)), (2, .long v2), (4, .long y28), (6, .long y29), (10, .int s31.2)]) X.1 X.2.1 dX12_proof_119 hl (by decide) rfl (fun ls hl => ?_)
                  obtain ⟨y41, ey41⟩ : ∃ y : Int32, y = (s31.2 + (1 : Int32)) := ⟨_, rfl⟩
                  replace h := kl_of ey41 h
                  refine lv_iinc (v := y41) (lv' := [(10, .int y41), (8, .long y40), (0, .ref (aT 0)), (2, .long v2), (4, .long y28), (6, .long y29)]) X.1 X.2.1 dX12_proof_121 hl (k := 5) rfl (by rw [ey41]; rfl) (by decide) rfl (fun ls hl => ?_)
                  refine lv_goto (tgt := 82) X.1 X.2.1 dX12_proof_124 (by decide) ?_
                  obtain rfl := Option.some.inj h
                  exact hG34 _ _ _ V (lv_sub hl [2, 3, 4, 5, 1, 0] rfl)
            · intro H locs ls V hl
              have V : kW D AA s.heap H (List.flatten [gX12 g aT x27.2]) locs := V
              have hl : lv_has ls 11 [(0, .ref (aT 0)), (2, .long v2), (4, .long y28), (6, .long y29), (8, .long x30.2.1), (10, .int x30.2.2)] := hl
              obtain ⟨hc, h⟩ := kg_of h
              refine W.eq (g2 := F0 m 127 ls []) (by rw [hc]) ?_
              refine lv_aload_n X.1 X.2.1 dX12_proof_127 rfl (lv_at hl 0 rfl) ?_
              refine lv_lload X.1 X.2.1 dX12_proof_128 (lv_at hl 4 rfl) ?_
              obtain ⟨x42, hx42, h⟩ := kb_of h
              refine s_callVv (segs' := [gX12 g aT x42]) (ci := 12) (i0 := 0) X V (c_X12_layCircle l D g aT x27.2 x30.2.1 x42 hx42) w_X12_285 ⟨Nat.le_of_ble_eq_true rfl, Nat.le_of_ble_eq_true rfl⟩ ⟨Nat.zero_le _, Nat.zero_le _⟩ rfl rfl rfl rfl [0] rfl rfl ⟨gX12_fst, trivial⟩ rfl rfl hl.1 (Nat.le_of_ble_eq_true rfl) dX12_proof_130 (fun H locs V => ?_)
              refine lv_aload_n X.1 X.2.1 dX12_proof_133 rfl (lv_at hl 0 rfl) ?_
              refine gf_X12_196 (i := 0) X V rfl dX12_proof_134 ?_
              refine lv_lload X.1 X.2.1 dX12_proof_137 (lv_at hl 2 rfl) ?_
              refine W.lcmp X.1 X.2.1 dX12_proof_139 ?_
              refine lv_if_ne (tgt := 157) X.1 X.2.1 dX12_proof_140 (by decide) (fun hc => ?_) (fun hc => ?_)
              · replace h := kif_f hc h
                refine lv_iconst (v := (0 : Int32)) X.1 X.2.1 dX12_proof_157 (by decide) ?_
                obtain rfl := Option.some.inj h
                rw [hAA] at V
                rw [hQQ]
                exact k_iret X V rfl dX12_proof_158
              · replace h := kif_t hc h
                refine lv_aload_n X.1 X.2.1 dX12_proof_143 rfl (lv_at hl 0 rfl) ?_
                refine gf_X12_199 (i := 0) X V rfl dX12_proof_144 ?_
                refine lv_lload X.1 X.2.1 dX12_proof_147 (lv_at hl 3 rfl) ?_
                refine W.lcmp X.1 X.2.1 dX12_proof_149 ?_
                refine lv_if_ne (tgt := 157) X.1 X.2.1 dX12_proof_150 (by decide) (fun hc => ?_) (fun hc => ?_)
                · replace h := kif_f hc h
                  refine lv_iconst (v := (0 : Int32)) X.1 X.2.1 dX12_proof_157 (by decide) ?_
                  obtain rfl := Option.some.inj h
                  rw [hAA] at V
                  rw [hQQ]
                  exact k_iret X V rfl dX12_proof_158
                · replace h := kif_t hc h
                  refine lv_iconst (v := (1 : Int32)) X.1 X.2.1 dX12_proof_153 (by decide) ?_
                  refine lv_goto (tgt := 158) X.1 X.2.1 dX12_proof_154 (by decide) ?_
                  obtain rfl := Option.some.inj h
                  rw [hAA] at V
                  rw [hQQ]
                  exact k_iret X V rfl dX12_proof_158
          · replace h := kif_t hc h
            refine lv_iconst (v := (-1 : Int32)) X.1 X.2.1 dX12_proof_62 (by decide) ?_
            obtain rfl := Option.some.inj h
            rw [hAA] at V
            rw [hQQ]
            exact k_iret X V rfl dX12_proof_63
    · replace h := kif_f hc h
      refine lv_iconst (v := (-1 : Int32)) X.1 X.2.1 dX12_proof_15 (by decide) ?_
      obtain rfl := Option.some.inj h
      rw [hAA] at V
      rw [hQQ]
      exact k_iret X V rfl dX12_proof_16

def p_X12_when_L29 (v1 : Int32) (v2 : Int32) (v3 : Int32) (s : Int32 × Int32 × tX12) : Option (Nat × (Int32 × Int32 × tX12)) :=
  kif ((20 : Int32) < s.2.1) (some (87, (s.1, s.2.1, s.2.2))) (kif (s.1 = (-1 : Int32)) (kg (kii (168 : Int32) 170) (kl (s.2.2.1, s.2.2.2.1, va_up s.2.2.2.2.1 0 (upd (s.2.2.2.2.1 0) ((168 : Int32)).toNatClampNeg s.2.1), s.2.2.2.2.2) (fun z3 => kb (p_X12_hasCircle z3 v1) (fun x4 => kif ((kz x4.1) = 0) (kl (s.2.1 + (1 : Int32)) (fun y5 => some (29, (s.1, y5, x4.2)))) (kb (p_X12_against (x4.2.2.1 21) (x4.2.2.1 22) v2.toInt64 (1 : Int64)) (fun x6 => kif (x6 ≤ 0) (kl (s.2.1 + (1 : Int32)) (fun y7 => some (29, (s.1, y7, x4.2)))) (kl (s.2.1 + (1 : Int32)) (fun y8 => some (29, (s.2.1, y8, x4.2)))))))))) (some (87, (s.1, s.2.1, s.2.2))))
def p_X12_when (zT : tX12) (v1 : Int32) (v2 : Int32) : Option (Int32 × tX12) :=
  kif (v2 < 0) (some ((-1 : Int32), zT)) (kb (p_X12_isLaid zT v1) (fun x1 => kif ((kz x1.1) = 0) (some ((-1 : Int32), x1.2)) (kg (kii (168 : Int32) 170) (kl ((x1.2.2.2.1 0) (168 : Int32).toNatClampNeg) (fun y2 => kb (kitr 29 (fun q => p_X12_when_L29 v1 v2 y2 q) kF ((-1 : Int32), (0 : Int32), x1.2)) (fun x9 => kg (x9.1 = 87) (kg (kii (168 : Int32) 170) (kl (x9.2.2.2.1, x9.2.2.2.2.1, va_up x9.2.2.2.2.2.1 0 (upd (x9.2.2.2.2.2.1 0) ((168 : Int32)).toNatClampNeg y2), x9.2.2.2.2.2.2) (fun z10 => some (x9.2.1, z10))))))))))
set_option maxHeartbeats 4000000 in
set_option maxRecDepth 100000 in
theorem c_X12_when (l : Launch) (D : va_G) (g : kG) (aT : Nat → Nat) (zT : tX12) (v1 : Int32) (v2 : Int32) (r : Int32 × tX12) (h : p_X12_when zT v1 v2 = some r) : kMi l yX12_when cX12_when 6 (some .int) (kR 6 170) D (kty g) [.ref (aT 0), .int v1, .int v2] (List.flatten [gX12 g aT zT]) r.1 (List.flatten [gX12 g aT r.2]) := by
  intro sz
  refine k_enter (lv := [(0, .ref (aT 0)), (1, .int v1), (2, .int v2)]) RX12 (by decide +kernel) rfl rfl (Nat.le_of_ble_eq_true rfl) ?_
  intro p en s m args below meth c ls hsz X V hl
  obtain ⟨QQ, hQQ⟩ : ∃ q, q = MQ below (va_Qi (fun r' (_ : Unit) => r' = r.1) (fun _ => kE D (List.flatten [gX12 g aT r.2])) (va_A (List.flatten [gX12 g aT zT]) sz)) args s 0 0 (va_A (List.flatten [gX12 g aT zT]) sz) := ⟨_, rfl⟩
  rw [← hQQ]
  obtain ⟨AA, hAA⟩ : ∃ q, q = va_A (List.flatten [gX12 g aT zT]) sz := ⟨_, rfl⟩
  rw [← hAA] at V
  unfold p_X12_when at h
  refine lv_iload_n X.1 X.2.1 dX12_when_0 rfl (lv_at hl 2 rfl) ?_
  refine lv_if_lt (tgt := 12) X.1 X.2.1 dX12_when_1 (by decide) (fun hc => ?_) (fun hc => ?_)
  · replace h := kif_t hc h
    refine lv_iconst (v := (-1 : Int32)) X.1 X.2.1 dX12_when_12 (by decide) ?_
    obtain rfl := Option.some.inj h
    rw [hAA] at V
    rw [hQQ]
    exact k_iret X V rfl dX12_when_13
  · replace h := kif_f hc h
    refine lv_aload_n X.1 X.2.1 dX12_when_4 rfl (lv_at hl 0 rfl) ?_
    refine lv_iload_n X.1 X.2.1 dX12_when_5 rfl (lv_at hl 1 rfl) ?_
    obtain ⟨x11, hx11, h⟩ := kb_of h
    refine s_callVi (segs' := [gX12 g aT x11.2]) (ci := 12) (i0 := 0) X V (c_X12_isLaid l D g aT zT v1 x11 hx11) w_X12_173 ⟨Nat.le_of_ble_eq_true rfl, Nat.le_of_ble_eq_true rfl⟩ ⟨Nat.zero_le _, Nat.zero_le _⟩ rfl rfl rfl rfl [0] rfl rfl ⟨gX12_fst, trivial⟩ rfl rfl hl.1 (Nat.le_of_ble_eq_true rfl) dX12_when_6 (fun H locs V => ?_)
    refine lv_if_ne (tgt := 14) X.1 X.2.1 dX12_when_9 (by decide) (fun hc => ?_) (fun hc => ?_)
    · replace h := kif_f hc h
      refine lv_aload_n X.1 X.2.1 dX12_when_14 rfl (lv_at hl 0 rfl) ?_
      refine gf_X12_7 (i := 0) X V rfl dX12_when_15 ?_
      refine lv_sipush (v := (168 : Int32)) X.1 X.2.1 dX12_when_18 (by decide) ?_
      obtain ⟨hc, h⟩ := kg_of h
      refine al_X12_0 (i := 0) X V rfl hc dX12_when_21 ?_
      refine lv_topi (fun y12 ey12 => ?_)
      replace h := kl_of ey12 h
      refine lv_istore_n (lv' := [(3, .int y12), (0, .ref (aT 0)), (1, .int v1), (2, .int v2)]) X.1 X.2.1 dX12_when_22 rfl hl (by decide) rfl (fun ls hl => ?_)
      refine lv_iconst (v := (-1 : Int32)) X.1 X.2.1 dX12_when_23 (by decide) ?_
      refine lv_istore (lv' := [(4, .int (-1 : Int32)), (3, .int y12), (0, .ref (aT 0)), (1, .int v1), (2, .int v2)]) X.1 X.2.1 dX12_when_24 hl (by decide) rfl (fun ls hl => ?_)
      refine lv_iconst (v := (0 : Int32)) X.1 X.2.1 dX12_when_26 (by decide) ?_
      refine lv_istore (lv' := [(5, .int (0 : Int32)), (4, .int (-1 : Int32)), (3, .int y12), (0, .ref (aT 0)), (1, .int v1), (2, .int v2)]) X.1 X.2.1 dX12_when_27 hl (by decide) rfl (fun ls hl => ?_)
      obtain ⟨x13, hx13, h⟩ := kb_of h
      refine (kitr_go (hd := 29) (body := fun q => p_X12_when_L29 v1 v2 y12 q) (G := (fun e => ∀ (H : Heap) (locs : List Loc) (ls : Array Slot), kW D AA s.heap H (List.flatten [gX12 g aT e.2.2.2]) locs → lv_has ls 6 [(0, .ref (aT 0)), (1, .int v1), (2, .int v2), (3, .int y12), (4, .int e.2.1), (5, .int e.2.2.1)] → W p l en (kR 6 170) s m args below meth c H locs 0 0 QQ (F0 m e.1 ls []))) (fun s14 e15 hb16 hG17 => ?_) kF _ x13 hx13 ?_) _ _ _ V (lv_sub hl [3, 4, 5, 2, 1, 0] rfl)
      · intro H locs ls V hl
        show W p l en (kR 6 170) s m args below meth c H locs 0 0 QQ (F0 m 29 ls [])
        have h : p_X12_when_L29 v1 v2 y12 s14 = some e15 := hb16
        unfold p_X12_when_L29 at h
        have V : kW D AA s.heap H (List.flatten [gX12 g aT s14.2.2]) locs := V
        have hl : lv_has ls 6 [(0, .ref (aT 0)), (1, .int v1), (2, .int v2), (3, .int y12), (4, .int s14.1), (5, .int s14.2.1)] := hl
        refine lv_iload X.1 X.2.1 dX12_when_29 (lv_at hl 5 rfl) ?_
        refine lv_bipush (v := (20 : Int32)) X.1 X.2.1 dX12_when_31 (by decide) ?_
        refine lv_icmp_gt (tgt := 87) X.1 X.2.1 dX12_when_33 (by decide) (fun hc => ?_) (fun hc => ?_)
        · replace h := kif_t hc h
          obtain rfl := Option.some.inj h
          exact hG17 _ _ _ V (lv_sub hl [0, 1, 2, 3, 4, 5] rfl)
        · replace h := kif_f hc h
          refine lv_iload X.1 X.2.1 dX12_when_36 (lv_at hl 4 rfl) ?_
          refine lv_iconst (v := (-1 : Int32)) X.1 X.2.1 dX12_when_38 (by decide) ?_
          refine lv_icmp_ne (tgt := 87) X.1 X.2.1 dX12_when_39 (by decide) (fun hc => ?_) (fun hc => ?_)
          · replace h := kif_f hc h
            obtain rfl := Option.some.inj h
            exact hG17 _ _ _ V (lv_sub hl [0, 1, 2, 3, 4, 5] rfl)
          · replace h := kif_t hc h
            refine lv_aload_n X.1 X.2.1 dX12_when_42 rfl (lv_at hl 0 rfl) ?_
            refine gf_X12_7 (i := 0) X V rfl dX12_when_43 ?_
            refine lv_sipush (v := (168 : Int32)) X.1 X.2.1 dX12_when_46 (by decide) ?_
            refine lv_iload X.1 X.2.1 dX12_when_49 (lv_at hl 5 rfl) ?_
            obtain ⟨hc, h⟩ := kg_of h
            refine as_X12_0 (i := 0) X V rfl hc dX12_when_51 (fun H locs V => ?_)
            obtain ⟨z18, ez18⟩ : ∃ y, y = (s14.2.2.1, s14.2.2.2.1, va_up s14.2.2.2.2.1 0 (upd (s14.2.2.2.2.1 0) ((168 : Int32)).toNatClampNeg s14.2.1), s14.2.2.2.2.2) := ⟨_, rfl⟩
            replace h := kl_of ez18 h
            have V : kW D AA s.heap H (List.flatten [gX12 g aT z18]) locs := by rw [ez18]; exact V
            refine lv_aload_n X.1 X.2.1 dX12_when_52 rfl (lv_at hl 0 rfl) ?_
            refine lv_iload_n X.1 X.2.1 dX12_when_53 rfl (lv_at hl 1 rfl) ?_
            obtain ⟨x19, hx19, h⟩ := kb_of h
            refine s_callVi (segs' := [gX12 g aT x19.2]) (ci := 12) (i0 := 0) X V (c_X12_hasCircle l D g aT z18 v1 x19 hx19) w_X12_288 ⟨Nat.le_of_ble_eq_true rfl, Nat.le_of_ble_eq_true rfl⟩ ⟨Nat.zero_le _, Nat.zero_le _⟩ rfl rfl rfl rfl [0] rfl rfl ⟨gX12_fst, trivial⟩ rfl rfl hl.1 (Nat.le_of_ble_eq_true rfl) dX12_when_54 (fun H locs V => ?_)
            refine lv_if_eq (tgt := 81) X.1 X.2.1 dX12_when_57 (by decide) (fun hc => ?_) (fun hc => ?_)
            · replace h := kif_t hc h
              obtain ⟨y20, ey20⟩ : ∃ y : Int32, y = (s14.2.1 + (1 : Int32)) := ⟨_, rfl⟩
              replace h := kl_of ey20 h
              refine lv_iinc (v := y20) (lv' := [(5, .int y20), (0, .ref (aT 0)), (1, .int v1), (2, .int v2), (3, .int y12), (4, .int s14.1)]) X.1 X.2.1 dX12_when_81 hl (k := 5) rfl (by rw [ey20]; rfl) (by decide) rfl (fun ls hl => ?_)
              refine lv_goto (tgt := 29) X.1 X.2.1 dX12_when_84 (by decide) ?_
              obtain rfl := Option.some.inj h
              exact hG17 _ _ _ V (lv_sub hl [1, 2, 3, 4, 5, 0] rfl)
            · replace h := kif_f hc h
              refine lv_aload_n X.1 X.2.1 dX12_when_60 rfl (lv_at hl 0 rfl) ?_
              refine gf_X12_196 (i := 0) X V rfl dX12_when_61 ?_
              refine lv_aload_n X.1 X.2.1 dX12_when_64 rfl (lv_at hl 0 rfl) ?_
              refine gf_X12_199 (i := 0) X V rfl dX12_when_65 ?_
              refine lv_iload_n X.1 X.2.1 dX12_when_68 rfl (lv_at hl 2 rfl) ?_
              refine lv_i2l X.1 X.2.1 dX12_when_69 rfl ?_
              refine lv_lconst (v := (1 : Int64)) X.1 X.2.1 dX12_when_70 (by decide) ?_
              obtain ⟨x21, hx21, h⟩ := kb_of h
              refine s_callSi (segs' := [gX12 g aT x19.2]) X V (c_X12_against l D g (x19.2.2.1 21) (x19.2.2.1 22) v2.toInt64 (1 : Int64) x21 hx21) w_X12_271 ⟨Nat.le_of_ble_eq_true rfl, Nat.le_of_ble_eq_true rfl⟩ ⟨Nat.zero_le _, Nat.zero_le _⟩ rfl [] rfl rfl (kFst_refl _) rfl rfl hl.1 (Nat.le_of_ble_eq_true rfl) dX12_when_71 (fun H locs V => ?_)
              refine lv_if_le (tgt := 81) X.1 X.2.1 dX12_when_74 (by decide) (fun hc => ?_) (fun hc => ?_)
              · replace h := kif_t hc h
                obtain ⟨y22, ey22⟩ : ∃ y : Int32, y = (s14.2.1 + (1 : Int32)) := ⟨_, rfl⟩
                replace h := kl_of ey22 h
                refine lv_iinc (v := y22) (lv' := [(5, .int y22), (0, .ref (aT 0)), (1, .int v1), (2, .int v2), (3, .int y12), (4, .int s14.1)]) X.1 X.2.1 dX12_when_81 hl (k := 5) rfl (by rw [ey22]; rfl) (by decide) rfl (fun ls hl => ?_)
                refine lv_goto (tgt := 29) X.1 X.2.1 dX12_when_84 (by decide) ?_
                obtain rfl := Option.some.inj h
                exact hG17 _ _ _ V (lv_sub hl [1, 2, 3, 4, 5, 0] rfl)
              · replace h := kif_f hc h
                refine lv_iload X.1 X.2.1 dX12_when_77 (lv_at hl 5 rfl) ?_
                refine lv_istore (lv' := [(4, .int s14.2.1), (0, .ref (aT 0)), (1, .int v1), (2, .int v2), (3, .int y12), (5, .int s14.2.1)]) X.1 X.2.1 dX12_when_79 hl (by decide) rfl (fun ls hl => ?_)
                obtain ⟨y23, ey23⟩ : ∃ y : Int32, y = (s14.2.1 + (1 : Int32)) := ⟨_, rfl⟩
                replace h := kl_of ey23 h
                refine lv_iinc (v := y23) (lv' := [(5, .int y23), (4, .int s14.2.1), (0, .ref (aT 0)), (1, .int v1), (2, .int v2), (3, .int y12)]) X.1 X.2.1 dX12_when_81 hl (k := 5) rfl (by rw [ey23]; rfl) (by decide) rfl (fun ls hl => ?_)
                refine lv_goto (tgt := 29) X.1 X.2.1 dX12_when_84 (by decide) ?_
                obtain rfl := Option.some.inj h
                exact hG17 _ _ _ V (lv_sub hl [2, 3, 4, 5, 1, 0] rfl)
      · intro H locs ls V hl
        have V : kW D AA s.heap H (List.flatten [gX12 g aT x13.2.2.2]) locs := V
        have hl : lv_has ls 6 [(0, .ref (aT 0)), (1, .int v1), (2, .int v2), (3, .int y12), (4, .int x13.2.1), (5, .int x13.2.2.1)] := hl
        obtain ⟨hc, h⟩ := kg_of h
        refine W.eq (g2 := F0 m 87 ls []) (by rw [hc]) ?_
        refine lv_aload_n X.1 X.2.1 dX12_when_87 rfl (lv_at hl 0 rfl) ?_
        refine gf_X12_7 (i := 0) X V rfl dX12_when_88 ?_
        refine lv_sipush (v := (168 : Int32)) X.1 X.2.1 dX12_when_91 (by decide) ?_
        refine lv_iload_n X.1 X.2.1 dX12_when_94 rfl (lv_at hl 3 rfl) ?_
        obtain ⟨hc, h⟩ := kg_of h
        refine as_X12_0 (i := 0) X V rfl hc dX12_when_95 (fun H locs V => ?_)
        obtain ⟨z24, ez24⟩ : ∃ y, y = (x13.2.2.2.1, x13.2.2.2.2.1, va_up x13.2.2.2.2.2.1 0 (upd (x13.2.2.2.2.2.1 0) ((168 : Int32)).toNatClampNeg y12), x13.2.2.2.2.2.2) := ⟨_, rfl⟩
        replace h := kl_of ez24 h
        have V : kW D AA s.heap H (List.flatten [gX12 g aT z24]) locs := by rw [ez24]; exact V
        refine lv_iload X.1 X.2.1 dX12_when_96 (lv_at hl 4 rfl) ?_
        obtain rfl := Option.some.inj h
        rw [hAA] at V
        rw [hQQ]
        exact k_iret X V rfl dX12_when_98
    · replace h := kif_t hc h
      refine lv_iconst (v := (-1 : Int32)) X.1 X.2.1 dX12_when_12 (by decide) ?_
      obtain rfl := Option.some.inj h
      rw [hAA] at V
      rw [hQQ]
      exact k_iret X V rfl dX12_when_13

def p_X12_calm_L42 (v1 : Int32) (v2 : Int32) (v3 : Int32) (s : Int32 × Int64 × Int64 × Int32 × tX12) : Option (Nat × (Int32 × Int64 × Int64 × Int32 × tX12)) :=
  kif ((20 : Int32) < s.2.2.2.1) (some (115, (s.1, s.2.1, s.2.2.1, s.2.2.2.1, s.2.2.2.2))) (kg (kii (168 : Int32) 170) (kl (s.2.2.2.2.1, s.2.2.2.2.2.1, va_up s.2.2.2.2.2.2.1 0 (upd (s.2.2.2.2.2.2.1 0) ((168 : Int32)).toNatClampNeg s.2.2.2.1), s.2.2.2.2.2.2.2) (fun z4 => kb (p_X12_hasCircle z4 v1) (fun x5 => kl (kz x5.1) (fun y6 => kif (s.1 = (-1 : Int32)) (kl (x5.2.2.1 21) (fun y7 => kl (x5.2.2.1 22) (fun y8 => kl (s.2.2.2.1 + (1 : Int32)) (fun y9 => some (42, (s.2.2.2.1, y7, y8, y9, x5.2)))))) (kb (p_X12_against (x5.2.2.1 21) (x5.2.2.1 22) s.2.1 s.2.2.1) (fun x10 => kif (x10 < 0) (kl (x5.2.2.1 21) (fun y11 => kl (x5.2.2.1 22) (fun y12 => kl (s.2.2.2.1 + (1 : Int32)) (fun y13 => some (42, (s.2.2.2.1, y11, y12, y13, x5.2)))))) (kl (s.2.2.2.1 + (1 : Int32)) (fun y14 => some (42, (s.1, s.2.1, s.2.2.1, y14, x5.2)))))))))))
def p_X12_calm (zT : tX12) (v1 : Int32) (v2 : Int32) : Option (Int64 × tX12) :=
  kb (p_X12_isIn v2 (0 : Int32) (2 : Int32)) (fun x1 => kif ((kz x1) = 0) (some ((-1 : Int64), zT)) (kb (p_X12_isLaid zT v1) (fun x2 => kif ((kz x2.1) = 0) (some ((-1 : Int64), x2.2)) (kg (kii (168 : Int32) 170) (kl ((x2.2.2.2.1 0) (168 : Int32).toNatClampNeg) (fun y3 => kb (kitr 42 (fun q => p_X12_calm_L42 v1 v2 y3 q) kF ((-1 : Int32), (0 : Int64), (1 : Int64), (0 : Int32), x2.2)) (fun x15 => kg (x15.1 = 115) (kg (kii (168 : Int32) 170) (kl (x15.2.2.2.2.2.1, x15.2.2.2.2.2.2.1, va_up x15.2.2.2.2.2.2.2.1 0 (upd (x15.2.2.2.2.2.2.2.1 0) ((168 : Int32)).toNatClampNeg y3), x15.2.2.2.2.2.2.2.2) (fun z16 => kif (v2 = 0) (some (x15.2.1.toInt64, z16)) (kif (v2 = (1 : Int32)) (some (x15.2.2.1, z16)) (some (x15.2.2.2.1, z16)))))))))))))
set_option maxHeartbeats 4000000 in
set_option maxRecDepth 100000 in
theorem c_X12_calm (l : Launch) (D : va_G) (g : kG) (aT : Nat → Nat) (zT : tX12) (v1 : Int32) (v2 : Int32) (r : Int64 × tX12) (h : p_X12_calm zT v1 v2 = some r) : kMl l yX12_calm cX12_calm 11 (some .long) (kR 6 170) D (kty g) [.ref (aT 0), .int v1, .int v2] (List.flatten [gX12 g aT zT]) r.1 (List.flatten [gX12 g aT r.2]) := by
  intro sz
  refine k_enter (lv := [(0, .ref (aT 0)), (1, .int v1), (2, .int v2)]) RX12 (by decide +kernel) rfl rfl (Nat.le_of_ble_eq_true rfl) ?_
  intro p en s m args below meth c ls hsz X V hl
  obtain ⟨QQ, hQQ⟩ : ∃ q, q = MQ below (va_Ql (fun r' (_ : Unit) => r' = r.1) (fun _ => kE D (List.flatten [gX12 g aT r.2])) (va_A (List.flatten [gX12 g aT zT]) sz)) args s 0 0 (va_A (List.flatten [gX12 g aT zT]) sz) := ⟨_, rfl⟩
  rw [← hQQ]
  obtain ⟨AA, hAA⟩ : ∃ q, q = va_A (List.flatten [gX12 g aT zT]) sz := ⟨_, rfl⟩
  rw [← hAA] at V
  unfold p_X12_calm at h
  refine lv_iload_n X.1 X.2.1 dX12_calm_0 rfl (lv_at hl 2 rfl) ?_
  refine lv_iconst (v := (0 : Int32)) X.1 X.2.1 dX12_calm_1 (by decide) ?_
  refine lv_iconst (v := (2 : Int32)) X.1 X.2.1 dX12_calm_2 (by decide) ?_
  obtain ⟨x17, hx17, h⟩ := kb_of h
  refine s_callSi (segs' := [gX12 g aT zT]) X V (c_X12_isIn l D g v2 (0 : Int32) (2 : Int32) x17 hx17) w_X12_76 ⟨Nat.le_of_ble_eq_true rfl, Nat.le_of_ble_eq_true rfl⟩ ⟨Nat.zero_le _, Nat.zero_le _⟩ rfl [] rfl rfl (kFst_refl _) rfl rfl hl.1 (Nat.le_of_ble_eq_true rfl) dX12_calm_3 (fun H locs V => ?_)
  refine lv_if_eq (tgt := 17) X.1 X.2.1 dX12_calm_6 (by decide) (fun hc => ?_) (fun hc => ?_)
  · replace h := kif_t hc h
    refine lv_ldc2 (v := (-1 : Int64)) X.1 X.2.1 X.2.2.2.1 (X.2.2.2.2.1 _ kc_X12_220) dX12_calm_17 ?_
    obtain rfl := Option.some.inj h
    rw [hAA] at V
    rw [hQQ]
    exact k_lret X V rfl dX12_calm_20
  · replace h := kif_f hc h
    refine lv_aload_n X.1 X.2.1 dX12_calm_9 rfl (lv_at hl 0 rfl) ?_
    refine lv_iload_n X.1 X.2.1 dX12_calm_10 rfl (lv_at hl 1 rfl) ?_
    obtain ⟨x18, hx18, h⟩ := kb_of h
    refine s_callVi (segs' := [gX12 g aT x18.2]) (ci := 12) (i0 := 0) X V (c_X12_isLaid l D g aT zT v1 x18 hx18) w_X12_173 ⟨Nat.le_of_ble_eq_true rfl, Nat.le_of_ble_eq_true rfl⟩ ⟨Nat.zero_le _, Nat.zero_le _⟩ rfl rfl rfl rfl [0] rfl rfl ⟨gX12_fst, trivial⟩ rfl rfl hl.1 (Nat.le_of_ble_eq_true rfl) dX12_calm_11 (fun H locs V => ?_)
    refine lv_if_ne (tgt := 21) X.1 X.2.1 dX12_calm_14 (by decide) (fun hc => ?_) (fun hc => ?_)
    · replace h := kif_f hc h
      refine lv_aload_n X.1 X.2.1 dX12_calm_21 rfl (lv_at hl 0 rfl) ?_
      refine gf_X12_7 (i := 0) X V rfl dX12_calm_22 ?_
      refine lv_sipush (v := (168 : Int32)) X.1 X.2.1 dX12_calm_25 (by decide) ?_
      obtain ⟨hc, h⟩ := kg_of h
      refine al_X12_0 (i := 0) X V rfl hc dX12_calm_28 ?_
      refine lv_topi (fun y19 ey19 => ?_)
      replace h := kl_of ey19 h
      refine lv_istore_n (lv' := [(3, .int y19), (0, .ref (aT 0)), (1, .int v1), (2, .int v2)]) X.1 X.2.1 dX12_calm_29 rfl hl (by decide) rfl (fun ls hl => ?_)
      refine lv_iconst (v := (-1 : Int32)) X.1 X.2.1 dX12_calm_30 (by decide) ?_
      refine lv_istore (lv' := [(4, .int (-1 : Int32)), (3, .int y19), (0, .ref (aT 0)), (1, .int v1), (2, .int v2)]) X.1 X.2.1 dX12_calm_31 hl (by decide) rfl (fun ls hl => ?_)
      refine lv_lconst (v := (0 : Int64)) X.1 X.2.1 dX12_calm_33 (by decide) ?_
      refine lv_lstore (lv' := [(5, .long (0 : Int64)), (4, .int (-1 : Int32)), (3, .int y19), (0, .ref (aT 0)), (1, .int v1), (2, .int v2)]) X.1 X.2.1 dX12_calm_34 hl (by decide) rfl (fun ls hl => ?_)
      refine lv_lconst (v := (1 : Int64)) X.1 X.2.1 dX12_calm_36 (by decide) ?_
      refine lv_lstore (lv' := [(7, .long (1 : Int64)), (5, .long (0 : Int64)), (4, .int (-1 : Int32)), (3, .int y19), (0, .ref (aT 0)), (1, .int v1), (2, .int v2)]) X.1 X.2.1 dX12_calm_37 hl (by decide) rfl (fun ls hl => ?_)
      refine lv_iconst (v := (0 : Int32)) X.1 X.2.1 dX12_calm_39 (by decide) ?_
      refine lv_istore (lv' := [(9, .int (0 : Int32)), (7, .long (1 : Int64)), (5, .long (0 : Int64)), (4, .int (-1 : Int32)), (3, .int y19), (0, .ref (aT 0)), (1, .int v1), (2, .int v2)]) X.1 X.2.1 dX12_calm_40 hl (by decide) rfl (fun ls hl => ?_)
      obtain ⟨x20, hx20, h⟩ := kb_of h
      refine (kitr_go (hd := 42) (body := fun q => p_X12_calm_L42 v1 v2 y19 q) (G := (fun e => ∀ (H : Heap) (locs : List Loc) (ls : Array Slot), kW D AA s.heap H (List.flatten [gX12 g aT e.2.2.2.2.2]) locs → lv_has ls 11 [(0, .ref (aT 0)), (1, .int v1), (2, .int v2), (3, .int y19), (4, .int e.2.1), (5, .long e.2.2.1), (7, .long e.2.2.2.1), (9, .int e.2.2.2.2.1)] → W p l en (kR 6 170) s m args below meth c H locs 0 0 QQ (F0 m e.1 ls []))) (fun s21 e22 hb23 hG24 => ?_) kF _ x20 hx20 ?_) _ _ _ V (lv_sub hl [5, 6, 7, 4, 3, 2, 1, 0] rfl)
      · intro H locs ls V hl
        show W p l en (kR 6 170) s m args below meth c H locs 0 0 QQ (F0 m 42 ls [])
        have h : p_X12_calm_L42 v1 v2 y19 s21 = some e22 := hb23
        unfold p_X12_calm_L42 at h
        have V : kW D AA s.heap H (List.flatten [gX12 g aT s21.2.2.2.2]) locs := V
        have hl : lv_has ls 11 [(0, .ref (aT 0)), (1, .int v1), (2, .int v2), (3, .int y19), (4, .int s21.1), (5, .long s21.2.1), (7, .long s21.2.2.1), (9, .int s21.2.2.2.1)] := hl
        refine lv_iload X.1 X.2.1 dX12_calm_42 (lv_at hl 7 rfl) ?_
        refine lv_bipush (v := (20 : Int32)) X.1 X.2.1 dX12_calm_44 (by decide) ?_
        refine lv_icmp_gt (tgt := 115) X.1 X.2.1 dX12_calm_46 (by decide) (fun hc => ?_) (fun hc => ?_)
        · replace h := kif_t hc h
          obtain rfl := Option.some.inj h
          exact hG24 _ _ _ V (lv_sub hl [0, 1, 2, 3, 4, 5, 6, 7] rfl)
        · replace h := kif_f hc h
          refine lv_aload_n X.1 X.2.1 dX12_calm_49 rfl (lv_at hl 0 rfl) ?_
          refine gf_X12_7 (i := 0) X V rfl dX12_calm_50 ?_
          refine lv_sipush (v := (168 : Int32)) X.1 X.2.1 dX12_calm_53 (by decide) ?_
          refine lv_iload X.1 X.2.1 dX12_calm_56 (lv_at hl 7 rfl) ?_
          obtain ⟨hc, h⟩ := kg_of h
          refine as_X12_0 (i := 0) X V rfl hc dX12_calm_58 (fun H locs V => ?_)
          obtain ⟨z25, ez25⟩ : ∃ y, y = (s21.2.2.2.2.1, s21.2.2.2.2.2.1, va_up s21.2.2.2.2.2.2.1 0 (upd (s21.2.2.2.2.2.2.1 0) ((168 : Int32)).toNatClampNeg s21.2.2.2.1), s21.2.2.2.2.2.2.2) := ⟨_, rfl⟩
          replace h := kl_of ez25 h
          have V : kW D AA s.heap H (List.flatten [gX12 g aT z25]) locs := by rw [ez25]; exact V
          refine lv_aload_n X.1 X.2.1 dX12_calm_59 rfl (lv_at hl 0 rfl) ?_
          refine lv_iload_n X.1 X.2.1 dX12_calm_60 rfl (lv_at hl 1 rfl) ?_
          obtain ⟨x26, hx26, h⟩ := kb_of h
          refine s_callVi (segs' := [gX12 g aT x26.2]) (ci := 12) (i0 := 0) X V (c_X12_hasCircle l D g aT z25 v1 x26 hx26) w_X12_288 ⟨Nat.le_of_ble_eq_true rfl, Nat.le_of_ble_eq_true rfl⟩ ⟨Nat.zero_le _, Nat.zero_le _⟩ rfl rfl rfl rfl [0] rfl rfl ⟨gX12_fst, trivial⟩ rfl rfl hl.1 (Nat.le_of_ble_eq_true rfl) dX12_calm_61 (fun H locs V => ?_)
          refine lv_topi (fun y27 ey27 => ?_)
          replace h := kl_of ey27 h
          refine lv_istore (lv' := [(10, .int y27), (0, .ref (aT 0)), (1, .int v1), (2, .int v2), (3, .int y19), (4, .int s21.1), (5, .long s21.2.1), (7, .long s21.2.2.1), (9, .int s21.2.2.2.1)]) X.1 X.2.1 dX12_calm_64 hl (by decide) rfl (fun ls hl => ?_)
          refine lv_iload X.1 X.2.1 dX12_calm_66 (lv_at hl 5 rfl) ?_
          refine lv_iconst (v := (-1 : Int32)) X.1 X.2.1 dX12_calm_68 (by decide) ?_
          refine lv_icmp_eq (tgt := 93) X.1 X.2.1 dX12_calm_69 (by decide) (fun hc => ?_) (fun hc => ?_)
          · replace h := kif_t hc h
            refine lv_iload X.1 X.2.1 dX12_calm_93 (lv_at hl 8 rfl) ?_
            refine lv_istore (lv' := [(4, .int s21.2.2.2.1), (10, .int y27), (0, .ref (aT 0)), (1, .int v1), (2, .int v2), (3, .int y19), (5, .long s21.2.1), (7, .long s21.2.2.1), (9, .int s21.2.2.2.1)]) X.1 X.2.1 dX12_calm_95 hl (by decide) rfl (fun ls hl => ?_)
            refine lv_aload_n X.1 X.2.1 dX12_calm_97 rfl (lv_at hl 2 rfl) ?_
            refine gf_X12_196 (i := 0) X V rfl dX12_calm_98 ?_
            refine lv_topl (fun y28 ey28 => ?_)
            replace h := kl_of ey28 h
            refine lv_lstore (lv' := [(5, .long y28), (4, .int s21.2.2.2.1), (10, .int y27), (0, .ref (aT 0)), (1, .int v1), (2, .int v2), (3, .int y19), (7, .long s21.2.2.1), (9, .int s21.2.2.2.1)]) X.1 X.2.1 dX12_calm_101 hl (by decide) rfl (fun ls hl => ?_)
            refine lv_aload_n X.1 X.2.1 dX12_calm_103 rfl (lv_at hl 3 rfl) ?_
            refine gf_X12_199 (i := 0) X V rfl dX12_calm_104 ?_
            refine lv_topl (fun y29 ey29 => ?_)
            replace h := kl_of ey29 h
            refine lv_lstore (lv' := [(7, .long y29), (5, .long y28), (4, .int s21.2.2.2.1), (10, .int y27), (0, .ref (aT 0)), (1, .int v1), (2, .int v2), (3, .int y19), (9, .int s21.2.2.2.1)]) X.1 X.2.1 dX12_calm_107 hl (by decide) rfl (fun ls hl => ?_)
            obtain ⟨y30, ey30⟩ : ∃ y : Int32, y = (s21.2.2.2.1 + (1 : Int32)) := ⟨_, rfl⟩
            replace h := kl_of ey30 h
            refine lv_iinc (v := y30) (lv' := [(9, .int y30), (7, .long y29), (5, .long y28), (4, .int s21.2.2.2.1), (10, .int y27), (0, .ref (aT 0)), (1, .int v1), (2, .int v2), (3, .int y19)]) X.1 X.2.1 dX12_calm_109 hl (k := 8) rfl (by rw [ey30]; rfl) (by decide) rfl (fun ls hl => ?_)
            refine lv_goto (tgt := 42) X.1 X.2.1 dX12_calm_112 (by decide) ?_
            obtain rfl := Option.some.inj h
            exact hG24 _ _ _ V (lv_sub hl [5, 6, 7, 8, 3, 2, 1, 0] rfl)
          · replace h := kif_f hc h
            refine lv_aload_n X.1 X.2.1 dX12_calm_72 rfl (lv_at hl 1 rfl) ?_
            refine gf_X12_196 (i := 0) X V rfl dX12_calm_73 ?_
            refine lv_aload_n X.1 X.2.1 dX12_calm_76 rfl (lv_at hl 1 rfl) ?_
            refine gf_X12_199 (i := 0) X V rfl dX12_calm_77 ?_
            refine lv_lload X.1 X.2.1 dX12_calm_80 (lv_at hl 6 rfl) ?_
            refine lv_lload X.1 X.2.1 dX12_calm_82 (lv_at hl 7 rfl) ?_
            obtain ⟨x31, hx31, h⟩ := kb_of h
            refine s_callSi (segs' := [gX12 g aT x26.2]) X V (c_X12_against l D g (x26.2.2.1 21) (x26.2.2.1 22) s21.2.1 s21.2.2.1 x31 hx31) w_X12_271 ⟨Nat.le_of_ble_eq_true rfl, Nat.le_of_ble_eq_true rfl⟩ ⟨Nat.zero_le _, Nat.zero_le _⟩ rfl [] rfl rfl (kFst_refl _) rfl rfl hl.1 (Nat.le_of_ble_eq_true rfl) dX12_calm_84 (fun H locs V => ?_)
            refine lv_if_lt (tgt := 93) X.1 X.2.1 dX12_calm_87 (by decide) (fun hc => ?_) (fun hc => ?_)
            · replace h := kif_t hc h
              refine lv_iload X.1 X.2.1 dX12_calm_93 (lv_at hl 8 rfl) ?_
              refine lv_istore (lv' := [(4, .int s21.2.2.2.1), (10, .int y27), (0, .ref (aT 0)), (1, .int v1), (2, .int v2), (3, .int y19), (5, .long s21.2.1), (7, .long s21.2.2.1), (9, .int s21.2.2.2.1)]) X.1 X.2.1 dX12_calm_95 hl (by decide) rfl (fun ls hl => ?_)
              refine lv_aload_n X.1 X.2.1 dX12_calm_97 rfl (lv_at hl 2 rfl) ?_
              refine gf_X12_196 (i := 0) X V rfl dX12_calm_98 ?_
              refine lv_topl (fun y32 ey32 => ?_)
              replace h := kl_of ey32 h
              refine lv_lstore (lv' := [(5, .long y32), (4, .int s21.2.2.2.1), (10, .int y27), (0, .ref (aT 0)), (1, .int v1), (2, .int v2), (3, .int y19), (7, .long s21.2.2.1), (9, .int s21.2.2.2.1)]) X.1 X.2.1 dX12_calm_101 hl (by decide) rfl (fun ls hl => ?_)
              refine lv_aload_n X.1 X.2.1 dX12_calm_103 rfl (lv_at hl 3 rfl) ?_
              refine gf_X12_199 (i := 0) X V rfl dX12_calm_104 ?_
              refine lv_topl (fun y33 ey33 => ?_)
              replace h := kl_of ey33 h
              refine lv_lstore (lv' := [(7, .long y33), (5, .long y32), (4, .int s21.2.2.2.1), (10, .int y27), (0, .ref (aT 0)), (1, .int v1), (2, .int v2), (3, .int y19), (9, .int s21.2.2.2.1)]) X.1 X.2.1 dX12_calm_107 hl (by decide) rfl (fun ls hl => ?_)
              obtain ⟨y34, ey34⟩ : ∃ y : Int32, y = (s21.2.2.2.1 + (1 : Int32)) := ⟨_, rfl⟩
              replace h := kl_of ey34 h
              refine lv_iinc (v := y34) (lv' := [(9, .int y34), (7, .long y33), (5, .long y32), (4, .int s21.2.2.2.1), (10, .int y27), (0, .ref (aT 0)), (1, .int v1), (2, .int v2), (3, .int y19)]) X.1 X.2.1 dX12_calm_109 hl (k := 8) rfl (by rw [ey34]; rfl) (by decide) rfl (fun ls hl => ?_)
              refine lv_goto (tgt := 42) X.1 X.2.1 dX12_calm_112 (by decide) ?_
              obtain rfl := Option.some.inj h
              exact hG24 _ _ _ V (lv_sub hl [5, 6, 7, 8, 3, 2, 1, 0] rfl)
            · replace h := kif_f hc h
              refine lv_goto (tgt := 109) X.1 X.2.1 dX12_calm_90 (by decide) ?_
              obtain ⟨y35, ey35⟩ : ∃ y : Int32, y = (s21.2.2.2.1 + (1 : Int32)) := ⟨_, rfl⟩
              replace h := kl_of ey35 h
              refine lv_iinc (v := y35) (lv' := [(9, .int y35), (10, .int y27), (0, .ref (aT 0)), (1, .int v1), (2, .int v2), (3, .int y19), (4, .int s21.1), (5, .long s21.2.1), (7, .long s21.2.2.1)]) X.1 X.2.1 dX12_calm_109 hl (k := 8) rfl (by rw [ey35]; rfl) (by decide) rfl (fun ls hl => ?_)
              refine lv_goto (tgt := 42) X.1 X.2.1 dX12_calm_112 (by decide) ?_
              obtain rfl := Option.some.inj h
              exact hG24 _ _ _ V (lv_sub hl [2, 3, 4, 5, 6, 7, 8, 0] rfl)
      · intro H locs ls V hl
        have V : kW D AA s.heap H (List.flatten [gX12 g aT x20.2.2.2.2.2]) locs := V
        have hl : lv_has ls 11 [(0, .ref (aT 0)), (1, .int v1), (2, .int v2), (3, .int y19), (4, .int x20.2.1), (5, .long x20.2.2.1), (7, .long x20.2.2.2.1), (9, .int x20.2.2.2.2.1)] := hl
        obtain ⟨hc, h⟩ := kg_of h
        refine W.eq (g2 := F0 m 115 ls []) (by rw [hc]) ?_
        refine lv_aload_n X.1 X.2.1 dX12_calm_115 rfl (lv_at hl 0 rfl) ?_
        refine gf_X12_7 (i := 0) X V rfl dX12_calm_116 ?_
        refine lv_sipush (v := (168 : Int32)) X.1 X.2.1 dX12_calm_119 (by decide) ?_
        refine lv_iload_n X.1 X.2.1 dX12_calm_122 rfl (lv_at hl 3 rfl) ?_
        obtain ⟨hc, h⟩ := kg_of h
        refine as_X12_0 (i := 0) X V rfl hc dX12_calm_123 (fun H locs V => ?_)
        obtain ⟨z36, ez36⟩ : ∃ y, y = (x20.2.2.2.2.2.1, x20.2.2.2.2.2.2.1, va_up x20.2.2.2.2.2.2.2.1 0 (upd (x20.2.2.2.2.2.2.2.1 0) ((168 : Int32)).toNatClampNeg y19), x20.2.2.2.2.2.2.2.2) := ⟨_, rfl⟩
        replace h := kl_of ez36 h
        have V : kW D AA s.heap H (List.flatten [gX12 g aT z36]) locs := by rw [ez36]; exact V
        refine lv_iload_n X.1 X.2.1 dX12_calm_124 rfl (lv_at hl 2 rfl) ?_
        refine lv_if_ne (tgt := 134) X.1 X.2.1 dX12_calm_125 (by decide) (fun hc => ?_) (fun hc => ?_)
        · replace h := kif_f hc h
          refine lv_iload_n X.1 X.2.1 dX12_calm_134 rfl (lv_at hl 2 rfl) ?_
          refine lv_iconst (v := (1 : Int32)) X.1 X.2.1 dX12_calm_135 (by decide) ?_
          refine lv_icmp_ne (tgt := 144) X.1 X.2.1 dX12_calm_136 (by decide) (fun hc => ?_) (fun hc => ?_)
          · replace h := kif_f hc h
            refine lv_lload X.1 X.2.1 dX12_calm_144 (lv_at hl 6 rfl) ?_
            obtain rfl := Option.some.inj h
            rw [hAA] at V
            rw [hQQ]
            exact k_lret X V rfl dX12_calm_146
          · replace h := kif_t hc h
            refine lv_lload X.1 X.2.1 dX12_calm_139 (lv_at hl 5 rfl) ?_
            refine lv_goto (tgt := 146) X.1 X.2.1 dX12_calm_141 (by decide) ?_
            obtain rfl := Option.some.inj h
            rw [hAA] at V
            rw [hQQ]
            exact k_lret X V rfl dX12_calm_146
        · replace h := kif_t hc h
          refine lv_iload X.1 X.2.1 dX12_calm_128 (lv_at hl 4 rfl) ?_
          refine lv_i2l X.1 X.2.1 dX12_calm_130 rfl ?_
          refine lv_goto (tgt := 146) X.1 X.2.1 dX12_calm_131 (by decide) ?_
          obtain rfl := Option.some.inj h
          rw [hAA] at V
          rw [hQQ]
          exact k_lret X V rfl dX12_calm_146
    · replace h := kif_t hc h
      refine lv_ldc2 (v := (-1 : Int64)) X.1 X.2.1 X.2.2.2.1 (X.2.2.2.2.1 _ kc_X12_220) dX12_calm_17 ?_
      obtain rfl := Option.some.inj h
      rw [hAA] at V
      rw [hQQ]
      exact k_lret X V rfl dX12_calm_20

def p_X12_worse_L55 (v1 : Int32) (v2 : Int32) (v3 : Int32) (v4 : Int32) (v5 : Int32) (s : Int32 × tX12) : Option (Nat × (Int32 × tX12)) :=
  kif (v5 ≤ s.1) (some (106, (s.1, s.2))) (kg (kii s.1 3) (kg (kii ((s.2.2.2.1 31) s.1.toNatClampNeg) 41) (kg (kii s.1 3) (kl (s.2.1, s.2.2.1, va_up s.2.2.2.1 33 (upd (s.2.2.2.1 33) (s.1).toNatClampNeg ((s.2.2.2.1 12) (((s.2.2.2.1 31) s.1.toNatClampNeg)).toNatClampNeg)), s.2.2.2.2) (fun z7 => kg (kii s.1 3) (kg (kii ((z7.2.2.1 31) s.1.toNatClampNeg) 41) (kg (kii s.1 3) (kl (z7.1, z7.2.1, va_up z7.2.2.1 34 (upd (z7.2.2.1 34) (s.1).toNatClampNeg ((z7.2.2.1 13) (((z7.2.2.1 31) s.1.toNatClampNeg)).toNatClampNeg)), z7.2.2.2) (fun z8 => kl (s.1 + (1 : Int32)) (fun y9 => some (55, (y9, z8))))))))))))
def p_X12_worse_L151 (v1 : Int32) (v2 : Int32) (v3 : Int32) (v4 : Int32) (zT : tX12) (v5 : Int32) (s : Int32 × Int32) : Option (Nat × (Int32 × Int32)) :=
  kif (v5 ≤ s.2) (some (199, (s.1, s.2))) (kg (kii s.2 3) (kg (kii s.2 3) (kb (p_X12_lies zT (((zT.2.2.1 33) s.2.toNatClampNeg)).toInt64 (((zT.2.2.1 34) s.2.toNatClampNeg)).toInt64) (fun x14 => kif ((lg_cmp x14 (0 : Int64)) = 0) (kl (s.1 + (1 : Int32)) (fun y15 => kl (s.2 + (1 : Int32)) (fun y16 => some (151, (y15, y16))))) (kl (s.1 + (0 : Int32)) (fun y17 => kl (s.2 + (1 : Int32)) (fun y18 => some (151, (y17, y18)))))))))
def p_X12_worse (zT : tX12) (v1 : Int32) (v2 : Int32) (v3 : Int32) (v4 : Int32) : Option (Int64 × tX12) :=
  kb (p_X12_isFar v2 (150 : Int32)) (fun x1 => kif ((kz x1) = 0) (some ((-1 : Int64), zT)) (kb (p_X12_isFar v3 (150 : Int32)) (fun x2 => kif ((kz x2) = 0) (some ((-1 : Int64), zT)) (kb (p_X12_isIn v4 (0 : Int32) (2 : Int32)) (fun x3 => kif ((kz x3) = 0) (some ((-1 : Int64), zT)) (kb (p_X12_hasCircle zT v1) (fun x4 => kif ((kz x4.1) = 0) (some ((-1 : Int64), x4.2)) (kb (p_X12_layTight x4.2) (fun x5 => kl (x5.1 32) (fun y6 => kb (kitr 55 (fun q => p_X12_worse_L55 v1 v2 v3 v4 y6 q) kF ((0 : Int32), x5)) (fun x10 => kg (x10.1 = 106) (kb (p_X12_addSpot x10.2.2 v2 v3 (40 : Int32)) (fun x11 => kb (p_X12_allSpots x11) (fun x12 => kb (p_X12_layCircle x11 x12) (fun x13 => kif ((2 : Int32) ≤ v4) (kb (kitr 151 (fun q => p_X12_worse_L151 v1 v2 v3 v4 x13 y6 q) kF ((0 : Int32), (0 : Int32))) (fun x19 => kg (x19.1 = 199) (some (x19.2.1.toInt64, x13)))) (kif (v4 = 0) (some ((x13.2.1 21), x13)) (some ((x13.2.1 22), x13))))))))))))))))))
set_option maxHeartbeats 4000000 in
set_option maxRecDepth 100000 in
theorem c_X12_worse (l : Launch) (D : va_G) (g : kG) (aT : Nat → Nat) (zT : tX12) (v1 : Int32) (v2 : Int32) (v3 : Int32) (v4 : Int32) (r : Int64 × tX12) (h : p_X12_worse zT v1 v2 v3 v4 = some r) : kMl l yX12_worse cX12_worse 8 (some .long) (kR 6 170) D (kty g) [.ref (aT 0), .int v1, .int v2, .int v3, .int v4] (List.flatten [gX12 g aT zT]) r.1 (List.flatten [gX12 g aT r.2]) := by
  intro sz
  refine k_enter (lv := [(0, .ref (aT 0)), (1, .int v1), (2, .int v2), (3, .int v3), (4, .int v4)]) RX12 (by decide +kernel) rfl rfl (Nat.le_of_ble_eq_true rfl) ?_
  intro p en s m args below meth c ls hsz X V hl
  obtain ⟨QQ, hQQ⟩ : ∃ q, q = MQ below (va_Ql (fun r' (_ : Unit) => r' = r.1) (fun _ => kE D (List.flatten [gX12 g aT r.2])) (va_A (List.flatten [gX12 g aT zT]) sz)) args s 0 0 (va_A (List.flatten [gX12 g aT zT]) sz) := ⟨_, rfl⟩
  rw [← hQQ]
  obtain ⟨AA, hAA⟩ : ∃ q, q = va_A (List.flatten [gX12 g aT zT]) sz := ⟨_, rfl⟩
  rw [← hAA] at V
  unfold p_X12_worse at h
  refine lv_iload_n X.1 X.2.1 dX12_worse_0 rfl (lv_at hl 2 rfl) ?_
  refine lv_sipush (v := (150 : Int32)) X.1 X.2.1 dX12_worse_1 (by decide) ?_
  obtain ⟨x20, hx20, h⟩ := kb_of h
  refine s_callSi (segs' := [gX12 g aT zT]) X V (c_X12_isFar l D g v2 (150 : Int32) x20 hx20) w_X12_293 ⟨Nat.le_of_ble_eq_true rfl, Nat.le_of_ble_eq_true rfl⟩ ⟨Nat.zero_le _, Nat.zero_le _⟩ rfl [] rfl rfl (kFst_refl _) rfl rfl hl.1 (Nat.le_of_ble_eq_true rfl) dX12_worse_4 (fun H locs V => ?_)
  refine lv_if_eq (tgt := 38) X.1 X.2.1 dX12_worse_7 (by decide) (fun hc => ?_) (fun hc => ?_)
  · replace h := kif_t hc h
    refine lv_ldc2 (v := (-1 : Int64)) X.1 X.2.1 X.2.2.2.1 (X.2.2.2.2.1 _ kc_X12_220) dX12_worse_38 ?_
    obtain rfl := Option.some.inj h
    rw [hAA] at V
    rw [hQQ]
    exact k_lret X V rfl dX12_worse_41
  · replace h := kif_f hc h
    refine lv_iload_n X.1 X.2.1 dX12_worse_10 rfl (lv_at hl 3 rfl) ?_
    refine lv_sipush (v := (150 : Int32)) X.1 X.2.1 dX12_worse_11 (by decide) ?_
    obtain ⟨x21, hx21, h⟩ := kb_of h
    refine s_callSi (segs' := [gX12 g aT zT]) X V (c_X12_isFar l D g v3 (150 : Int32) x21 hx21) w_X12_293 ⟨Nat.le_of_ble_eq_true rfl, Nat.le_of_ble_eq_true rfl⟩ ⟨Nat.zero_le _, Nat.zero_le _⟩ rfl [] rfl rfl (kFst_refl _) rfl rfl hl.1 (Nat.le_of_ble_eq_true rfl) dX12_worse_14 (fun H locs V => ?_)
    refine lv_if_eq (tgt := 38) X.1 X.2.1 dX12_worse_17 (by decide) (fun hc => ?_) (fun hc => ?_)
    · replace h := kif_t hc h
      refine lv_ldc2 (v := (-1 : Int64)) X.1 X.2.1 X.2.2.2.1 (X.2.2.2.2.1 _ kc_X12_220) dX12_worse_38 ?_
      obtain rfl := Option.some.inj h
      rw [hAA] at V
      rw [hQQ]
      exact k_lret X V rfl dX12_worse_41
    · replace h := kif_f hc h
      refine lv_iload X.1 X.2.1 dX12_worse_20 (lv_at hl 4 rfl) ?_
      refine lv_iconst (v := (0 : Int32)) X.1 X.2.1 dX12_worse_22 (by decide) ?_
      refine lv_iconst (v := (2 : Int32)) X.1 X.2.1 dX12_worse_23 (by decide) ?_
      obtain ⟨x22, hx22, h⟩ := kb_of h
      refine s_callSi (segs' := [gX12 g aT zT]) X V (c_X12_isIn l D g v4 (0 : Int32) (2 : Int32) x22 hx22) w_X12_76 ⟨Nat.le_of_ble_eq_true rfl, Nat.le_of_ble_eq_true rfl⟩ ⟨Nat.zero_le _, Nat.zero_le _⟩ rfl [] rfl rfl (kFst_refl _) rfl rfl hl.1 (Nat.le_of_ble_eq_true rfl) dX12_worse_24 (fun H locs V => ?_)
      refine lv_if_eq (tgt := 38) X.1 X.2.1 dX12_worse_27 (by decide) (fun hc => ?_) (fun hc => ?_)
      · replace h := kif_t hc h
        refine lv_ldc2 (v := (-1 : Int64)) X.1 X.2.1 X.2.2.2.1 (X.2.2.2.2.1 _ kc_X12_220) dX12_worse_38 ?_
        obtain rfl := Option.some.inj h
        rw [hAA] at V
        rw [hQQ]
        exact k_lret X V rfl dX12_worse_41
      · replace h := kif_f hc h
        refine lv_aload_n X.1 X.2.1 dX12_worse_30 rfl (lv_at hl 0 rfl) ?_
        refine lv_iload_n X.1 X.2.1 dX12_worse_31 rfl (lv_at hl 1 rfl) ?_
        obtain ⟨x23, hx23, h⟩ := kb_of h
        refine s_callVi (segs' := [gX12 g aT x23.2]) (ci := 12) (i0 := 0) X V (c_X12_hasCircle l D g aT zT v1 x23 hx23) w_X12_288 ⟨Nat.le_of_ble_eq_true rfl, Nat.le_of_ble_eq_true rfl⟩ ⟨Nat.zero_le _, Nat.zero_le _⟩ rfl rfl rfl rfl [0] rfl rfl ⟨gX12_fst, trivial⟩ rfl rfl hl.1 (Nat.le_of_ble_eq_true rfl) dX12_worse_32 (fun H locs V => ?_)
        refine lv_if_ne (tgt := 42) X.1 X.2.1 dX12_worse_35 (by decide) (fun hc => ?_) (fun hc => ?_)
        · replace h := kif_f hc h
          refine lv_aload_n X.1 X.2.1 dX12_worse_42 rfl (lv_at hl 0 rfl) ?_
          obtain ⟨x24, hx24, h⟩ := kb_of h
          refine s_callVv (segs' := [gX12 g aT x24]) (ci := 12) (i0 := 0) X V (c_X12_layTight l D g aT x23.2 x24 hx24) w_X12_308 ⟨Nat.le_of_ble_eq_true rfl, Nat.le_of_ble_eq_true rfl⟩ ⟨Nat.zero_le _, Nat.zero_le _⟩ rfl rfl rfl rfl [0] rfl rfl ⟨gX12_fst, trivial⟩ rfl rfl hl.1 (Nat.le_of_ble_eq_true rfl) dX12_worse_43 (fun H locs V => ?_)
          refine lv_aload_n X.1 X.2.1 dX12_worse_46 rfl (lv_at hl 0 rfl) ?_
          refine gf_X12_299 (i := 0) X V rfl dX12_worse_47 ?_
          refine lv_topi (fun y25 ey25 => ?_)
          replace h := kl_of ey25 h
          refine lv_istore (lv' := [(5, .int y25), (0, .ref (aT 0)), (1, .int v1), (2, .int v2), (3, .int v3), (4, .int v4)]) X.1 X.2.1 dX12_worse_50 hl (by decide) rfl (fun ls hl => ?_)
          refine lv_iconst (v := (0 : Int32)) X.1 X.2.1 dX12_worse_52 (by decide) ?_
          refine lv_istore (lv' := [(6, .int (0 : Int32)), (5, .int y25), (0, .ref (aT 0)), (1, .int v1), (2, .int v2), (3, .int v3), (4, .int v4)]) X.1 X.2.1 dX12_worse_53 hl (by decide) rfl (fun ls hl => ?_)
          obtain ⟨x26, hx26, h⟩ := kb_of h
          refine (kitr_go (hd := 55) (body := fun q => p_X12_worse_L55 v1 v2 v3 v4 y25 q) (G := (fun e => ∀ (H : Heap) (locs : List Loc) (ls : Array Slot), kW D AA s.heap H (List.flatten [gX12 g aT e.2.2]) locs → lv_has ls 8 [(0, .ref (aT 0)), (2, .int v2), (3, .int v3), (4, .int v4), (5, .int y25), (6, .int e.2.1)] → W p l en (kR 6 170) s m args below meth c H locs 0 0 QQ (F0 m e.1 ls []))) (fun s27 e28 hb29 hG30 => ?_) kF _ x26 hx26 ?_) _ _ _ V (lv_sub hl [2, 4, 5, 6, 1, 0] rfl)
          · intro H locs ls V hl
            show W p l en (kR 6 170) s m args below meth c H locs 0 0 QQ (F0 m 55 ls [])
            have h : p_X12_worse_L55 v1 v2 v3 v4 y25 s27 = some e28 := hb29
            unfold p_X12_worse_L55 at h
            have V : kW D AA s.heap H (List.flatten [gX12 g aT s27.2]) locs := V
            have hl : lv_has ls 8 [(0, .ref (aT 0)), (2, .int v2), (3, .int v3), (4, .int v4), (5, .int y25), (6, .int s27.1)] := hl
            refine lv_iload X.1 X.2.1 dX12_worse_55 (lv_at hl 5 rfl) ?_
            refine lv_iload X.1 X.2.1 dX12_worse_57 (lv_at hl 4 rfl) ?_
            refine lv_icmp_ge (tgt := 106) X.1 X.2.1 dX12_worse_59 (by decide) (fun hc => ?_) (fun hc => ?_)
            · replace h := kif_t hc h
              obtain rfl := Option.some.inj h
              exact hG30 _ _ _ V (lv_sub hl [0, 1, 2, 3, 4, 5] rfl)
            · replace h := kif_f hc h
              refine lv_aload_n X.1 X.2.1 dX12_worse_62 rfl (lv_at hl 0 rfl) ?_
              refine gf_X12_48 (i := 0) X V rfl dX12_worse_63 ?_
              refine lv_iload X.1 X.2.1 dX12_worse_66 (lv_at hl 5 rfl) ?_
              refine lv_aload_n X.1 X.2.1 dX12_worse_68 rfl (lv_at hl 0 rfl) ?_
              refine gf_X12_33 (i := 0) X V rfl dX12_worse_69 ?_
              refine lv_aload_n X.1 X.2.1 dX12_worse_72 rfl (lv_at hl 0 rfl) ?_
              refine gf_X12_45 (i := 0) X V rfl dX12_worse_73 ?_
              refine lv_iload X.1 X.2.1 dX12_worse_76 (lv_at hl 5 rfl) ?_
              obtain ⟨hc, h⟩ := kg_of h
              refine al_X12_31 (i := 0) X V rfl hc dX12_worse_78 ?_
              obtain ⟨hc, h⟩ := kg_of h
              refine al_X12_12 (i := 0) X V rfl hc dX12_worse_79 ?_
              obtain ⟨hc, h⟩ := kg_of h
              refine as_X12_33 (i := 0) X V rfl hc dX12_worse_80 (fun H locs V => ?_)
              obtain ⟨z31, ez31⟩ : ∃ y, y = (s27.2.1, s27.2.2.1, va_up s27.2.2.2.1 33 (upd (s27.2.2.2.1 33) (s27.1).toNatClampNeg ((s27.2.2.2.1 12) (((s27.2.2.2.1 31) s27.1.toNatClampNeg)).toNatClampNeg)), s27.2.2.2.2) := ⟨_, rfl⟩
              replace h := kl_of ez31 h
              have V : kW D AA s.heap H (List.flatten [gX12 g aT z31]) locs := by rw [ez31]; exact V
              refine lv_aload_n X.1 X.2.1 dX12_worse_81 rfl (lv_at hl 0 rfl) ?_
              refine gf_X12_51 (i := 0) X V rfl dX12_worse_82 ?_
              refine lv_iload X.1 X.2.1 dX12_worse_85 (lv_at hl 5 rfl) ?_
              refine lv_aload_n X.1 X.2.1 dX12_worse_87 rfl (lv_at hl 0 rfl) ?_
              refine gf_X12_36 (i := 0) X V rfl dX12_worse_88 ?_
              refine lv_aload_n X.1 X.2.1 dX12_worse_91 rfl (lv_at hl 0 rfl) ?_
              refine gf_X12_45 (i := 0) X V rfl dX12_worse_92 ?_
              refine lv_iload X.1 X.2.1 dX12_worse_95 (lv_at hl 5 rfl) ?_
              obtain ⟨hc, h⟩ := kg_of h
              refine al_X12_31 (i := 0) X V rfl hc dX12_worse_97 ?_
              obtain ⟨hc, h⟩ := kg_of h
              refine al_X12_13 (i := 0) X V rfl hc dX12_worse_98 ?_
              obtain ⟨hc, h⟩ := kg_of h
              refine as_X12_34 (i := 0) X V rfl hc dX12_worse_99 (fun H locs V => ?_)
              obtain ⟨z32, ez32⟩ : ∃ y, y = (z31.1, z31.2.1, va_up z31.2.2.1 34 (upd (z31.2.2.1 34) (s27.1).toNatClampNeg ((z31.2.2.1 13) (((z31.2.2.1 31) s27.1.toNatClampNeg)).toNatClampNeg)), z31.2.2.2) := ⟨_, rfl⟩
              replace h := kl_of ez32 h
              have V : kW D AA s.heap H (List.flatten [gX12 g aT z32]) locs := by rw [ez32]; exact V
              obtain ⟨y33, ey33⟩ : ∃ y : Int32, y = (s27.1 + (1 : Int32)) := ⟨_, rfl⟩
              replace h := kl_of ey33 h
              refine lv_iinc (v := y33) (lv' := [(6, .int y33), (0, .ref (aT 0)), (2, .int v2), (3, .int v3), (4, .int v4), (5, .int y25)]) X.1 X.2.1 dX12_worse_100 hl (k := 5) rfl (by rw [ey33]; rfl) (by decide) rfl (fun ls hl => ?_)
              refine lv_goto (tgt := 55) X.1 X.2.1 dX12_worse_103 (by decide) ?_
              obtain rfl := Option.some.inj h
              exact hG30 _ _ _ V (lv_sub hl [1, 2, 3, 4, 5, 0] rfl)
          · intro H locs ls V hl
            have V : kW D AA s.heap H (List.flatten [gX12 g aT x26.2.2]) locs := V
            have hl : lv_has ls 8 [(0, .ref (aT 0)), (2, .int v2), (3, .int v3), (4, .int v4), (5, .int y25), (6, .int x26.2.1)] := hl
            obtain ⟨hc, h⟩ := kg_of h
            refine W.eq (g2 := F0 m 106 ls []) (by rw [hc]) ?_
            refine lv_aload_n X.1 X.2.1 dX12_worse_106 rfl (lv_at hl 0 rfl) ?_
            refine lv_iload_n X.1 X.2.1 dX12_worse_107 rfl (lv_at hl 1 rfl) ?_
            refine lv_iload_n X.1 X.2.1 dX12_worse_108 rfl (lv_at hl 2 rfl) ?_
            refine lv_bipush (v := (40 : Int32)) X.1 X.2.1 dX12_worse_109 (by decide) ?_
            obtain ⟨x34, hx34, h⟩ := kb_of h
            refine s_callVv (segs' := [gX12 g aT x34]) (ci := 12) (i0 := 0) X V (c_X12_addSpot l D g aT x26.2.2 v2 v3 (40 : Int32) x34 hx34) w_X12_163 ⟨Nat.le_of_ble_eq_true rfl, Nat.le_of_ble_eq_true rfl⟩ ⟨Nat.zero_le _, Nat.zero_le _⟩ rfl rfl rfl rfl [0] rfl rfl ⟨gX12_fst, trivial⟩ rfl rfl hl.1 (Nat.le_of_ble_eq_true rfl) dX12_worse_111 (fun H locs V => ?_)
            refine lv_aload_n X.1 X.2.1 dX12_worse_114 rfl (lv_at hl 0 rfl) ?_
            refine lv_aload_n X.1 X.2.1 dX12_worse_115 rfl (lv_at hl 0 rfl) ?_
            obtain ⟨x35, hx35, h⟩ := kb_of h
            refine s_callVl (segs' := [gX12 g aT x34]) (ci := 12) (i0 := 0) X V (c_X12_allSpots l D g aT x34 x35 hx35) w_X12_281 ⟨Nat.le_of_ble_eq_true rfl, Nat.le_of_ble_eq_true rfl⟩ ⟨Nat.zero_le _, Nat.zero_le _⟩ rfl rfl rfl rfl [0] rfl rfl (kFst_refl _) rfl rfl hl.1 (Nat.le_of_ble_eq_true rfl) dX12_worse_116 (fun H locs V => ?_)
            obtain ⟨x36, hx36, h⟩ := kb_of h
            refine s_callVv (segs' := [gX12 g aT x36]) (ci := 12) (i0 := 0) X V (c_X12_layCircle l D g aT x34 x35 x36 hx36) w_X12_285 ⟨Nat.le_of_ble_eq_true rfl, Nat.le_of_ble_eq_true rfl⟩ ⟨Nat.zero_le _, Nat.zero_le _⟩ rfl rfl rfl rfl [0] rfl rfl ⟨gX12_fst, trivial⟩ rfl rfl hl.1 (Nat.le_of_ble_eq_true rfl) dX12_worse_119 (fun H locs V => ?_)
            refine lv_iload X.1 X.2.1 dX12_worse_122 (lv_at hl 3 rfl) ?_
            refine lv_iconst (v := (2 : Int32)) X.1 X.2.1 dX12_worse_124 (by decide) ?_
            refine lv_icmp_ge (tgt := 145) X.1 X.2.1 dX12_worse_125 (by decide) (fun hc => ?_) (fun hc => ?_)
            · replace h := kif_t hc h
              refine lv_iconst (v := (0 : Int32)) X.1 X.2.1 dX12_worse_145 (by decide) ?_
              refine lv_istore (lv' := [(6, .int (0 : Int32)), (0, .ref (aT 0)), (2, .int v2), (3, .int v3), (4, .int v4), (5, .int y25)]) X.1 X.2.1 dX12_worse_146 hl (by decide) rfl (fun ls hl => ?_)
              refine lv_iconst (v := (0 : Int32)) X.1 X.2.1 dX12_worse_148 (by decide) ?_
              refine lv_istore (lv' := [(7, .int (0 : Int32)), (6, .int (0 : Int32)), (0, .ref (aT 0)), (2, .int v2), (3, .int v3), (4, .int v4), (5, .int y25)]) X.1 X.2.1 dX12_worse_149 hl (by decide) rfl (fun ls hl => ?_)
              obtain ⟨x37, hx37, h⟩ := kb_of h
              refine (kitr_go (hd := 151) (body := fun q => p_X12_worse_L151 v1 v2 v3 v4 x36 y25 q) (G := (fun e => ∀ (H : Heap) (locs : List Loc) (ls : Array Slot), kW D AA s.heap H (List.flatten [gX12 g aT x36]) locs → lv_has ls 8 [(0, .ref (aT 0)), (5, .int y25), (6, .int e.2.1), (7, .int e.2.2)] → W p l en (kR 6 170) s m args below meth c H locs 0 0 QQ (F0 m e.1 ls []))) (fun s38 e39 hb40 hG41 => ?_) kF _ x37 hx37 ?_) _ _ _ V (lv_sub hl [2, 6, 1, 0] rfl)
              · intro H locs ls V hl
                show W p l en (kR 6 170) s m args below meth c H locs 0 0 QQ (F0 m 151 ls [])
                have h : p_X12_worse_L151 v1 v2 v3 v4 x36 y25 s38 = some e39 := hb40
                unfold p_X12_worse_L151 at h
                have V : kW D AA s.heap H (List.flatten [gX12 g aT x36]) locs := V
                have hl : lv_has ls 8 [(0, .ref (aT 0)), (5, .int y25), (6, .int s38.1), (7, .int s38.2)] := hl
                refine lv_iload X.1 X.2.1 dX12_worse_151 (lv_at hl 3 rfl) ?_
                refine lv_iload X.1 X.2.1 dX12_worse_153 (lv_at hl 1 rfl) ?_
                refine lv_icmp_ge (tgt := 199) X.1 X.2.1 dX12_worse_155 (by decide) (fun hc => ?_) (fun hc => ?_)
                · replace h := kif_t hc h
                  obtain rfl := Option.some.inj h
                  exact hG41 _ _ _ V (lv_sub hl [0, 1, 2, 3] rfl)
                · replace h := kif_f hc h
                  refine lv_iload X.1 X.2.1 dX12_worse_158 (lv_at hl 2 rfl) ?_
                  refine lv_aload_n X.1 X.2.1 dX12_worse_160 rfl (lv_at hl 0 rfl) ?_
                  refine lv_aload_n X.1 X.2.1 dX12_worse_161 rfl (lv_at hl 0 rfl) ?_
                  refine gf_X12_48 (i := 0) X V rfl dX12_worse_162 ?_
                  refine lv_iload X.1 X.2.1 dX12_worse_165 (lv_at hl 3 rfl) ?_
                  obtain ⟨hc, h⟩ := kg_of h
                  refine al_X12_33 (i := 0) X V rfl hc dX12_worse_167 ?_
                  refine lv_i2l X.1 X.2.1 dX12_worse_168 rfl ?_
                  refine lv_aload_n X.1 X.2.1 dX12_worse_169 rfl (lv_at hl 0 rfl) ?_
                  refine gf_X12_51 (i := 0) X V rfl dX12_worse_170 ?_
                  refine lv_iload X.1 X.2.1 dX12_worse_173 (lv_at hl 3 rfl) ?_
                  obtain ⟨hc, h⟩ := kg_of h
                  refine al_X12_34 (i := 0) X V rfl hc dX12_worse_175 ?_
                  refine lv_i2l X.1 X.2.1 dX12_worse_176 rfl ?_
                  obtain ⟨x42, hx42, h⟩ := kb_of h
                  refine s_callVl (segs' := [gX12 g aT x36]) (ci := 12) (i0 := 0) X V (c_X12_lies l D g aT x36 (((x36.2.2.1 33) s38.2.toNatClampNeg)).toInt64 (((x36.2.2.1 34) s38.2.toNatClampNeg)).toInt64 x42 hx42) w_X12_222 ⟨Nat.le_of_ble_eq_true rfl, Nat.le_of_ble_eq_true rfl⟩ ⟨Nat.zero_le _, Nat.zero_le _⟩ rfl rfl rfl rfl [0] rfl rfl (kFst_refl _) rfl rfl hl.1 (Nat.le_of_ble_eq_true rfl) dX12_worse_177 (fun H locs V => ?_)
                  refine lv_lconst (v := (0 : Int64)) X.1 X.2.1 dX12_worse_180 (by decide) ?_
                  refine W.lcmp X.1 X.2.1 dX12_worse_181 ?_
                  refine lv_if_ne (tgt := 189) X.1 X.2.1 dX12_worse_182 (by decide) (fun hc => ?_) (fun hc => ?_)
                  · replace h := kif_f hc h
                    refine lv_iconst (v := (0 : Int32)) X.1 X.2.1 dX12_worse_189 (by decide) ?_
                    refine lv_iadd X.1 X.2.1 dX12_worse_190 ?_
                    refine lv_topi (fun y43 ey43 => ?_)
                    replace h := kl_of ey43 h
                    refine lv_istore (lv' := [(6, .int y43), (0, .ref (aT 0)), (5, .int y25), (7, .int s38.2)]) X.1 X.2.1 dX12_worse_191 hl (by decide) rfl (fun ls hl => ?_)
                    obtain ⟨y44, ey44⟩ : ∃ y : Int32, y = (s38.2 + (1 : Int32)) := ⟨_, rfl⟩
                    replace h := kl_of ey44 h
                    refine lv_iinc (v := y44) (lv' := [(7, .int y44), (6, .int y43), (0, .ref (aT 0)), (5, .int y25)]) X.1 X.2.1 dX12_worse_193 hl (k := 3) rfl (by rw [ey44]; rfl) (by decide) rfl (fun ls hl => ?_)
                    refine lv_goto (tgt := 151) X.1 X.2.1 dX12_worse_196 (by decide) ?_
                    obtain rfl := Option.some.inj h
                    exact hG41 _ _ _ V (lv_sub hl [2, 3, 1, 0] rfl)
                  · replace h := kif_t hc h
                    refine lv_iconst (v := (1 : Int32)) X.1 X.2.1 dX12_worse_185 (by decide) ?_
                    refine lv_goto (tgt := 190) X.1 X.2.1 dX12_worse_186 (by decide) ?_
                    refine lv_iadd X.1 X.2.1 dX12_worse_190 ?_
                    refine lv_topi (fun y45 ey45 => ?_)
                    replace h := kl_of ey45 h
                    refine lv_istore (lv' := [(6, .int y45), (0, .ref (aT 0)), (5, .int y25), (7, .int s38.2)]) X.1 X.2.1 dX12_worse_191 hl (by decide) rfl (fun ls hl => ?_)
                    obtain ⟨y46, ey46⟩ : ∃ y : Int32, y = (s38.2 + (1 : Int32)) := ⟨_, rfl⟩
                    replace h := kl_of ey46 h
                    refine lv_iinc (v := y46) (lv' := [(7, .int y46), (6, .int y45), (0, .ref (aT 0)), (5, .int y25)]) X.1 X.2.1 dX12_worse_193 hl (k := 3) rfl (by rw [ey46]; rfl) (by decide) rfl (fun ls hl => ?_)
                    refine lv_goto (tgt := 151) X.1 X.2.1 dX12_worse_196 (by decide) ?_
                    obtain rfl := Option.some.inj h
                    exact hG41 _ _ _ V (lv_sub hl [2, 3, 1, 0] rfl)
              · intro H locs ls V hl
                have V : kW D AA s.heap H (List.flatten [gX12 g aT x36]) locs := V
                have hl : lv_has ls 8 [(0, .ref (aT 0)), (5, .int y25), (6, .int x37.2.1), (7, .int x37.2.2)] := hl
                obtain ⟨hc, h⟩ := kg_of h
                refine W.eq (g2 := F0 m 199 ls []) (by rw [hc]) ?_
                refine lv_iload X.1 X.2.1 dX12_worse_199 (lv_at hl 2 rfl) ?_
                refine lv_i2l X.1 X.2.1 dX12_worse_201 rfl ?_
                obtain rfl := Option.some.inj h
                rw [hAA] at V
                rw [hQQ]
                exact k_lret X V rfl dX12_worse_202
            · replace h := kif_f hc h
              refine lv_iload X.1 X.2.1 dX12_worse_128 (lv_at hl 3 rfl) ?_
              refine lv_if_ne (tgt := 140) X.1 X.2.1 dX12_worse_130 (by decide) (fun hc => ?_) (fun hc => ?_)
              · replace h := kif_f hc h
                refine lv_aload_n X.1 X.2.1 dX12_worse_140 rfl (lv_at hl 0 rfl) ?_
                refine gf_X12_199 (i := 0) X V rfl dX12_worse_141 ?_
                obtain rfl := Option.some.inj h
                rw [hAA] at V
                rw [hQQ]
                exact k_lret X V rfl dX12_worse_144
              · replace h := kif_t hc h
                refine lv_aload_n X.1 X.2.1 dX12_worse_133 rfl (lv_at hl 0 rfl) ?_
                refine gf_X12_196 (i := 0) X V rfl dX12_worse_134 ?_
                refine lv_goto (tgt := 144) X.1 X.2.1 dX12_worse_137 (by decide) ?_
                obtain rfl := Option.some.inj h
                rw [hAA] at V
                rw [hQQ]
                exact k_lret X V rfl dX12_worse_144
        · replace h := kif_t hc h
          refine lv_ldc2 (v := (-1 : Int64)) X.1 X.2.1 X.2.2.2.1 (X.2.2.2.2.1 _ kc_X12_220) dX12_worse_38 ?_
          obtain rfl := Option.some.inj h
          rw [hAA] at V
          rw [hQQ]
          exact k_lret X V rfl dX12_worse_41

def p_X12_bits_L4 (v0 : Int32) (s : Int32 × Int32) : Option (Nat × (Int32 × Int32)) :=
  kif (s.2 = 0) (some (20, (s.1, s.2))) (kl (s.1 + (1 : Int32)) (fun y1 => kl (s.2 &&& (s.2 - (1 : Int32))) (fun y2 => some (4, (y1, y2)))))
def p_X12_bits (v0 : Int32) : Option (Int32) :=
  kb (kitr 4 (fun q => p_X12_bits_L4 v0 q) kF ((0 : Int32), v0)) (fun x3 => kg (x3.1 = 20) (some x3.2.1))
set_option maxHeartbeats 4000000 in
set_option maxRecDepth 100000 in
theorem c_X12_bits (l : Launch) (D : va_G) (g : kG)  (v0 : Int32) (r : Int32) (h : p_X12_bits v0 = some r) : kMi l yX12_bits cX12_bits 3 (some .int) (kR 0 0) D (kty g) [.int v0] (List.flatten ([] : List va_W)) r (List.flatten ([] : List va_W)) := by
  intro sz
  refine k_enter (lv := [(0, .int v0)]) RX12 (by decide +kernel) rfl rfl (Nat.le_of_ble_eq_true rfl) ?_
  intro p en s m args below meth c ls hsz X V hl
  obtain ⟨QQ, hQQ⟩ : ∃ q, q = MQ below (va_Qi (fun r' (_ : Unit) => r' = r) (fun _ => kE D (List.flatten ([] : List va_W))) (va_A (List.flatten ([] : List va_W)) sz)) args s 0 0 (va_A (List.flatten ([] : List va_W)) sz) := ⟨_, rfl⟩
  rw [← hQQ]
  obtain ⟨AA, hAA⟩ : ∃ q, q = va_A (List.flatten ([] : List va_W)) sz := ⟨_, rfl⟩
  rw [← hAA] at V
  unfold p_X12_bits at h
  refine lv_iconst (v := (0 : Int32)) X.1 X.2.1 dX12_bits_0 (by decide) ?_
  refine lv_istore_n (lv' := [(1, .int (0 : Int32)), (0, .int v0)]) X.1 X.2.1 dX12_bits_1 rfl hl (by decide) rfl (fun ls hl => ?_)
  refine lv_iload_n X.1 X.2.1 dX12_bits_2 rfl (lv_at hl 1 rfl) ?_
  refine lv_istore_n (lv' := [(2, .int v0), (1, .int (0 : Int32)), (0, .int v0)]) X.1 X.2.1 dX12_bits_3 rfl hl (by decide) rfl (fun ls hl => ?_)
  obtain ⟨x4, hx4, h⟩ := kb_of h
  refine (kitr_go (hd := 4) (body := fun q => p_X12_bits_L4 v0 q) (G := (fun e => ∀ (H : Heap) (locs : List Loc) (ls : Array Slot), kW D AA s.heap H (List.flatten ([] : List va_W)) locs → lv_has ls 3 [(1, .int e.2.1), (2, .int e.2.2)] → W p l en (kR 0 0) s m args below meth c H locs 0 0 QQ (F0 m e.1 ls []))) (fun s5 e6 hb7 hG8 => ?_) kF _ x4 hx4 ?_) _ _ _ V (lv_sub hl [1, 0] rfl)
  · intro H locs ls V hl
    show W p l en (kR 0 0) s m args below meth c H locs 0 0 QQ (F0 m 4 ls [])
    have h : p_X12_bits_L4 v0 s5 = some e6 := hb7
    unfold p_X12_bits_L4 at h
    have V : kW D AA s.heap H (List.flatten ([] : List va_W)) locs := V
    have hl : lv_has ls 3 [(1, .int s5.1), (2, .int s5.2)] := hl
    refine lv_iload_n X.1 X.2.1 dX12_bits_4 rfl (lv_at hl 1 rfl) ?_
    refine lv_if_eq (tgt := 20) X.1 X.2.1 dX12_bits_5 (by decide) (fun hc => ?_) (fun hc => ?_)
    · replace h := kif_t hc h
      obtain rfl := Option.some.inj h
      exact hG8 _ _ _ V (lv_sub hl [0, 1] rfl)
    · replace h := kif_f hc h
      obtain ⟨y9, ey9⟩ : ∃ y : Int32, y = (s5.1 + (1 : Int32)) := ⟨_, rfl⟩
      replace h := kl_of ey9 h
      refine lv_iinc (v := y9) (lv' := [(1, .int y9), (2, .int s5.2)]) X.1 X.2.1 dX12_bits_8 hl (k := 0) rfl (by rw [ey9]; rfl) (by decide) rfl (fun ls hl => ?_)
      refine lv_iload_n X.1 X.2.1 dX12_bits_11 rfl (lv_at hl 1 rfl) ?_
      refine lv_iload_n X.1 X.2.1 dX12_bits_12 rfl (lv_at hl 1 rfl) ?_
      refine lv_iconst (v := (1 : Int32)) X.1 X.2.1 dX12_bits_13 (by decide) ?_
      refine lv_isub X.1 X.2.1 dX12_bits_14 ?_
      refine lv_iand X.1 X.2.1 dX12_bits_15 ?_
      refine lv_topi (fun y10 ey10 => ?_)
      replace h := kl_of ey10 h
      refine lv_istore_n (lv' := [(2, .int y10), (1, .int y9)]) X.1 X.2.1 dX12_bits_16 rfl hl (by decide) rfl (fun ls hl => ?_)
      refine lv_goto (tgt := 4) X.1 X.2.1 dX12_bits_17 (by decide) ?_
      obtain rfl := Option.some.inj h
      exact hG8 _ _ _ V (lv_sub hl [1, 0] rfl)
  · intro H locs ls V hl
    have V : kW D AA s.heap H (List.flatten ([] : List va_W)) locs := V
    have hl : lv_has ls 3 [(1, .int x4.2.1), (2, .int x4.2.2)] := hl
    obtain ⟨hc, h⟩ := kg_of h
    refine W.eq (g2 := F0 m 20 ls []) (by rw [hc]) ?_
    refine lv_iload_n X.1 X.2.1 dX12_bits_20 rfl (lv_at hl 0 rfl) ?_
    obtain rfl := Option.some.inj h
    rw [hAA] at V
    rw [hQQ]
    exact k_iret X V rfl dX12_bits_21

def p_X12_heaviest_L21 (v1 : Int32) (s : Int32 × Int64 × Int64 × Int32 × tX12) : Option (Nat × (Int32 × Int64 × Int64 × Int32 × tX12)) :=
  kif ((16 : Int32) ≤ s.2.2.2.1) (some (96, (s.1, s.2.1, s.2.2.1, s.2.2.2.1, s.2.2.2.2))) (kb (p_X12_bits s.2.2.2.1) (fun x2 => kif (x2 = (v1 + (1 : Int32))) (kb (p_X12_hasCircle s.2.2.2.2 s.2.2.2.1) (fun x3 => kif ((kz x3.1) = 0) (kl (s.2.2.2.1 + (1 : Int32)) (fun y4 => some (21, (s.1, s.2.1, s.2.2.1, y4, x3.2)))) (kif (s.1 = (-1 : Int32)) (kl (x3.2.2.1 21) (fun y5 => kl (x3.2.2.1 22) (fun y6 => kl (s.2.2.2.1 + (1 : Int32)) (fun y7 => some (21, (s.2.2.2.1, y5, y6, y7, x3.2)))))) (kb (p_X12_against (x3.2.2.1 21) (x3.2.2.1 22) s.2.1 s.2.2.1) (fun x8 => kif (0 < x8) (kl (x3.2.2.1 21) (fun y9 => kl (x3.2.2.1 22) (fun y10 => kl (s.2.2.2.1 + (1 : Int32)) (fun y11 => some (21, (s.2.2.2.1, y9, y10, y11, x3.2)))))) (kl (s.2.2.2.1 + (1 : Int32)) (fun y12 => some (21, (s.1, s.2.1, s.2.2.1, y12, x3.2))))))))) (kl (s.2.2.2.1 + (1 : Int32)) (fun y13 => some (21, (s.1, s.2.1, s.2.2.1, y13, s.2.2.2.2))))))
def p_X12_heaviest (zT : tX12) (v1 : Int32) : Option (Int32 × tX12) :=
  kb (p_X12_isIn v1 (0 : Int32) (1 : Int32)) (fun x1 => kif ((kz x1) = 0) (some ((-1 : Int32), zT)) (kb (kitr 21 (fun q => p_X12_heaviest_L21 v1 q) kF ((-1 : Int32), (0 : Int64), (1 : Int64), (1 : Int32), zT)) (fun x14 => kg (x14.1 = 96) (some (x14.2.1, x14.2.2.2.2.2)))))
set_option maxHeartbeats 4000000 in
set_option maxRecDepth 100000 in
theorem c_X12_heaviest (l : Launch) (D : va_G) (g : kG) (aT : Nat → Nat) (zT : tX12) (v1 : Int32) (r : Int32 × tX12) (h : p_X12_heaviest zT v1 = some r) : kMi l yX12_heaviest cX12_heaviest 8 (some .int) (kR 6 170) D (kty g) [.ref (aT 0), .int v1] (List.flatten [gX12 g aT zT]) r.1 (List.flatten [gX12 g aT r.2]) := by
  intro sz
  refine k_enter (lv := [(0, .ref (aT 0)), (1, .int v1)]) RX12 (by decide +kernel) rfl rfl (Nat.le_of_ble_eq_true rfl) ?_
  intro p en s m args below meth c ls hsz X V hl
  obtain ⟨QQ, hQQ⟩ : ∃ q, q = MQ below (va_Qi (fun r' (_ : Unit) => r' = r.1) (fun _ => kE D (List.flatten [gX12 g aT r.2])) (va_A (List.flatten [gX12 g aT zT]) sz)) args s 0 0 (va_A (List.flatten [gX12 g aT zT]) sz) := ⟨_, rfl⟩
  rw [← hQQ]
  obtain ⟨AA, hAA⟩ : ∃ q, q = va_A (List.flatten [gX12 g aT zT]) sz := ⟨_, rfl⟩
  rw [← hAA] at V
  unfold p_X12_heaviest at h
  refine lv_iload_n X.1 X.2.1 dX12_heaviest_0 rfl (lv_at hl 1 rfl) ?_
  refine lv_iconst (v := (0 : Int32)) X.1 X.2.1 dX12_heaviest_1 (by decide) ?_
  refine lv_iconst (v := (1 : Int32)) X.1 X.2.1 dX12_heaviest_2 (by decide) ?_
  obtain ⟨x15, hx15, h⟩ := kb_of h
  refine s_callSi (segs' := [gX12 g aT zT]) X V (c_X12_isIn l D g v1 (0 : Int32) (1 : Int32) x15 hx15) w_X12_76 ⟨Nat.le_of_ble_eq_true rfl, Nat.le_of_ble_eq_true rfl⟩ ⟨Nat.zero_le _, Nat.zero_le _⟩ rfl [] rfl rfl (kFst_refl _) rfl rfl hl.1 (Nat.le_of_ble_eq_true rfl) dX12_heaviest_3 (fun H locs V => ?_)
  refine lv_if_ne (tgt := 11) X.1 X.2.1 dX12_heaviest_6 (by decide) (fun hc => ?_) (fun hc => ?_)
  · replace h := kif_f hc h
    refine lv_iconst (v := (-1 : Int32)) X.1 X.2.1 dX12_heaviest_11 (by decide) ?_
    refine lv_istore_n (lv' := [(2, .int (-1 : Int32)), (0, .ref (aT 0)), (1, .int v1)]) X.1 X.2.1 dX12_heaviest_12 rfl hl (by decide) rfl (fun ls hl => ?_)
    refine lv_lconst (v := (0 : Int64)) X.1 X.2.1 dX12_heaviest_13 (by decide) ?_
    refine lv_lstore_n (lv' := [(3, .long (0 : Int64)), (2, .int (-1 : Int32)), (0, .ref (aT 0)), (1, .int v1)]) X.1 X.2.1 dX12_heaviest_14 rfl hl (by decide) rfl (fun ls hl => ?_)
    refine lv_lconst (v := (1 : Int64)) X.1 X.2.1 dX12_heaviest_15 (by decide) ?_
    refine lv_lstore (lv' := [(5, .long (1 : Int64)), (3, .long (0 : Int64)), (2, .int (-1 : Int32)), (0, .ref (aT 0)), (1, .int v1)]) X.1 X.2.1 dX12_heaviest_16 hl (by decide) rfl (fun ls hl => ?_)
    refine lv_iconst (v := (1 : Int32)) X.1 X.2.1 dX12_heaviest_18 (by decide) ?_
    refine lv_istore (lv' := [(7, .int (1 : Int32)), (5, .long (1 : Int64)), (3, .long (0 : Int64)), (2, .int (-1 : Int32)), (0, .ref (aT 0)), (1, .int v1)]) X.1 X.2.1 dX12_heaviest_19 hl (by decide) rfl (fun ls hl => ?_)
    obtain ⟨x16, hx16, h⟩ := kb_of h
    refine (kitr_go (hd := 21) (body := fun q => p_X12_heaviest_L21 v1 q) (G := (fun e => ∀ (H : Heap) (locs : List Loc) (ls : Array Slot), kW D AA s.heap H (List.flatten [gX12 g aT e.2.2.2.2.2]) locs → lv_has ls 8 [(0, .ref (aT 0)), (1, .int v1), (2, .int e.2.1), (3, .long e.2.2.1), (5, .long e.2.2.2.1), (7, .int e.2.2.2.2.1)] → W p l en (kR 6 170) s m args below meth c H locs 0 0 QQ (F0 m e.1 ls []))) (fun s17 e18 hb19 hG20 => ?_) kF _ x16 hx16 ?_) _ _ _ V (lv_sub hl [4, 5, 3, 2, 1, 0] rfl)
    · intro H locs ls V hl
      show W p l en (kR 6 170) s m args below meth c H locs 0 0 QQ (F0 m 21 ls [])
      have h : p_X12_heaviest_L21 v1 s17 = some e18 := hb19
      unfold p_X12_heaviest_L21 at h
      have V : kW D AA s.heap H (List.flatten [gX12 g aT s17.2.2.2.2]) locs := V
      have hl : lv_has ls 8 [(0, .ref (aT 0)), (1, .int v1), (2, .int s17.1), (3, .long s17.2.1), (5, .long s17.2.2.1), (7, .int s17.2.2.2.1)] := hl
      refine lv_iload X.1 X.2.1 dX12_heaviest_21 (lv_at hl 5 rfl) ?_
      refine lv_bipush (v := (16 : Int32)) X.1 X.2.1 dX12_heaviest_23 (by decide) ?_
      refine lv_icmp_ge (tgt := 96) X.1 X.2.1 dX12_heaviest_25 (by decide) (fun hc => ?_) (fun hc => ?_)
      · replace h := kif_t hc h
        obtain rfl := Option.some.inj h
        exact hG20 _ _ _ V (lv_sub hl [0, 1, 2, 3, 4, 5] rfl)
      · replace h := kif_f hc h
        refine lv_iload X.1 X.2.1 dX12_heaviest_28 (lv_at hl 5 rfl) ?_
        obtain ⟨x21, hx21, h⟩ := kb_of h
        refine s_callSi (segs' := [gX12 g aT s17.2.2.2.2]) X V (c_X12_bits l D g s17.2.2.2.1 x21 hx21) w_X12_317 ⟨Nat.le_of_ble_eq_true rfl, Nat.le_of_ble_eq_true rfl⟩ ⟨Nat.zero_le _, Nat.zero_le _⟩ rfl [] rfl rfl (kFst_refl _) rfl rfl hl.1 (Nat.le_of_ble_eq_true rfl) dX12_heaviest_30 (fun H locs V => ?_)
        refine lv_iload_n X.1 X.2.1 dX12_heaviest_33 rfl (lv_at hl 1 rfl) ?_
        refine lv_iconst (v := (1 : Int32)) X.1 X.2.1 dX12_heaviest_34 (by decide) ?_
        refine lv_iadd X.1 X.2.1 dX12_heaviest_35 ?_
        refine lv_icmp_ne (tgt := 90) X.1 X.2.1 dX12_heaviest_36 (by decide) (fun hc => ?_) (fun hc => ?_)
        · replace h := kif_f hc h
          obtain ⟨y22, ey22⟩ : ∃ y : Int32, y = (s17.2.2.2.1 + (1 : Int32)) := ⟨_, rfl⟩
          replace h := kl_of ey22 h
          refine lv_iinc (v := y22) (lv' := [(7, .int y22), (0, .ref (aT 0)), (1, .int v1), (2, .int s17.1), (3, .long s17.2.1), (5, .long s17.2.2.1)]) X.1 X.2.1 dX12_heaviest_90 hl (k := 5) rfl (by rw [ey22]; rfl) (by decide) rfl (fun ls hl => ?_)
          refine lv_goto (tgt := 21) X.1 X.2.1 dX12_heaviest_93 (by decide) ?_
          obtain rfl := Option.some.inj h
          exact hG20 _ _ _ V (lv_sub hl [1, 2, 3, 4, 5, 0] rfl)
        · replace h := kif_t hc h
          refine lv_aload_n X.1 X.2.1 dX12_heaviest_39 rfl (lv_at hl 0 rfl) ?_
          refine lv_iload X.1 X.2.1 dX12_heaviest_40 (lv_at hl 5 rfl) ?_
          obtain ⟨x23, hx23, h⟩ := kb_of h
          refine s_callVi (segs' := [gX12 g aT x23.2]) (ci := 12) (i0 := 0) X V (c_X12_hasCircle l D g aT s17.2.2.2.2 s17.2.2.2.1 x23 hx23) w_X12_288 ⟨Nat.le_of_ble_eq_true rfl, Nat.le_of_ble_eq_true rfl⟩ ⟨Nat.zero_le _, Nat.zero_le _⟩ rfl rfl rfl rfl [0] rfl rfl ⟨gX12_fst, trivial⟩ rfl rfl hl.1 (Nat.le_of_ble_eq_true rfl) dX12_heaviest_42 (fun H locs V => ?_)
          refine lv_if_ne (tgt := 51) X.1 X.2.1 dX12_heaviest_45 (by decide) (fun hc => ?_) (fun hc => ?_)
          · replace h := kif_f hc h
            refine lv_iload_n X.1 X.2.1 dX12_heaviest_51 rfl (lv_at hl 2 rfl) ?_
            refine lv_iconst (v := (-1 : Int32)) X.1 X.2.1 dX12_heaviest_52 (by decide) ?_
            refine lv_icmp_eq (tgt := 76) X.1 X.2.1 dX12_heaviest_53 (by decide) (fun hc => ?_) (fun hc => ?_)
            · replace h := kif_t hc h
              refine lv_iload X.1 X.2.1 dX12_heaviest_76 (lv_at hl 5 rfl) ?_
              refine lv_istore_n (lv' := [(2, .int s17.2.2.2.1), (0, .ref (aT 0)), (1, .int v1), (3, .long s17.2.1), (5, .long s17.2.2.1), (7, .int s17.2.2.2.1)]) X.1 X.2.1 dX12_heaviest_78 rfl hl (by decide) rfl (fun ls hl => ?_)
              refine lv_aload_n X.1 X.2.1 dX12_heaviest_79 rfl (lv_at hl 1 rfl) ?_
              refine gf_X12_196 (i := 0) X V rfl dX12_heaviest_80 ?_
              refine lv_topl (fun y24 ey24 => ?_)
              replace h := kl_of ey24 h
              refine lv_lstore_n (lv' := [(3, .long y24), (2, .int s17.2.2.2.1), (0, .ref (aT 0)), (1, .int v1), (5, .long s17.2.2.1), (7, .int s17.2.2.2.1)]) X.1 X.2.1 dX12_heaviest_83 rfl hl (by decide) rfl (fun ls hl => ?_)
              refine lv_aload_n X.1 X.2.1 dX12_heaviest_84 rfl (lv_at hl 2 rfl) ?_
              refine gf_X12_199 (i := 0) X V rfl dX12_heaviest_85 ?_
              refine lv_topl (fun y25 ey25 => ?_)
              replace h := kl_of ey25 h
              refine lv_lstore (lv' := [(5, .long y25), (3, .long y24), (2, .int s17.2.2.2.1), (0, .ref (aT 0)), (1, .int v1), (7, .int s17.2.2.2.1)]) X.1 X.2.1 dX12_heaviest_88 hl (by decide) rfl (fun ls hl => ?_)
              obtain ⟨y26, ey26⟩ : ∃ y : Int32, y = (s17.2.2.2.1 + (1 : Int32)) := ⟨_, rfl⟩
              replace h := kl_of ey26 h
              refine lv_iinc (v := y26) (lv' := [(7, .int y26), (5, .long y25), (3, .long y24), (2, .int s17.2.2.2.1), (0, .ref (aT 0)), (1, .int v1)]) X.1 X.2.1 dX12_heaviest_90 hl (k := 5) rfl (by rw [ey26]; rfl) (by decide) rfl (fun ls hl => ?_)
              refine lv_goto (tgt := 21) X.1 X.2.1 dX12_heaviest_93 (by decide) ?_
              obtain rfl := Option.some.inj h
              exact hG20 _ _ _ V (lv_sub hl [4, 5, 3, 2, 1, 0] rfl)
            · replace h := kif_f hc h
              refine lv_aload_n X.1 X.2.1 dX12_heaviest_56 rfl (lv_at hl 0 rfl) ?_
              refine gf_X12_196 (i := 0) X V rfl dX12_heaviest_57 ?_
              refine lv_aload_n X.1 X.2.1 dX12_heaviest_60 rfl (lv_at hl 0 rfl) ?_
              refine gf_X12_199 (i := 0) X V rfl dX12_heaviest_61 ?_
              refine lv_lload_n X.1 X.2.1 dX12_heaviest_64 rfl (lv_at hl 3 rfl) ?_
              refine lv_lload X.1 X.2.1 dX12_heaviest_65 (lv_at hl 4 rfl) ?_
              obtain ⟨x27, hx27, h⟩ := kb_of h
              refine s_callSi (segs' := [gX12 g aT x23.2]) X V (c_X12_against l D g (x23.2.2.1 21) (x23.2.2.1 22) s17.2.1 s17.2.2.1 x27 hx27) w_X12_271 ⟨Nat.le_of_ble_eq_true rfl, Nat.le_of_ble_eq_true rfl⟩ ⟨Nat.zero_le _, Nat.zero_le _⟩ rfl [] rfl rfl (kFst_refl _) rfl rfl hl.1 (Nat.le_of_ble_eq_true rfl) dX12_heaviest_67 (fun H locs V => ?_)
              refine lv_if_gt (tgt := 76) X.1 X.2.1 dX12_heaviest_70 (by decide) (fun hc => ?_) (fun hc => ?_)
              · replace h := kif_t hc h
                refine lv_iload X.1 X.2.1 dX12_heaviest_76 (lv_at hl 5 rfl) ?_
                refine lv_istore_n (lv' := [(2, .int s17.2.2.2.1), (0, .ref (aT 0)), (1, .int v1), (3, .long s17.2.1), (5, .long s17.2.2.1), (7, .int s17.2.2.2.1)]) X.1 X.2.1 dX12_heaviest_78 rfl hl (by decide) rfl (fun ls hl => ?_)
                refine lv_aload_n X.1 X.2.1 dX12_heaviest_79 rfl (lv_at hl 1 rfl) ?_
                refine gf_X12_196 (i := 0) X V rfl dX12_heaviest_80 ?_
                refine lv_topl (fun y28 ey28 => ?_)
                replace h := kl_of ey28 h
                refine lv_lstore_n (lv' := [(3, .long y28), (2, .int s17.2.2.2.1), (0, .ref (aT 0)), (1, .int v1), (5, .long s17.2.2.1), (7, .int s17.2.2.2.1)]) X.1 X.2.1 dX12_heaviest_83 rfl hl (by decide) rfl (fun ls hl => ?_)
                refine lv_aload_n X.1 X.2.1 dX12_heaviest_84 rfl (lv_at hl 2 rfl) ?_
                refine gf_X12_199 (i := 0) X V rfl dX12_heaviest_85 ?_
                refine lv_topl (fun y29 ey29 => ?_)
                replace h := kl_of ey29 h
                refine lv_lstore (lv' := [(5, .long y29), (3, .long y28), (2, .int s17.2.2.2.1), (0, .ref (aT 0)), (1, .int v1), (7, .int s17.2.2.2.1)]) X.1 X.2.1 dX12_heaviest_88 hl (by decide) rfl (fun ls hl => ?_)
                obtain ⟨y30, ey30⟩ : ∃ y : Int32, y = (s17.2.2.2.1 + (1 : Int32)) := ⟨_, rfl⟩
                replace h := kl_of ey30 h
                refine lv_iinc (v := y30) (lv' := [(7, .int y30), (5, .long y29), (3, .long y28), (2, .int s17.2.2.2.1), (0, .ref (aT 0)), (1, .int v1)]) X.1 X.2.1 dX12_heaviest_90 hl (k := 5) rfl (by rw [ey30]; rfl) (by decide) rfl (fun ls hl => ?_)
                refine lv_goto (tgt := 21) X.1 X.2.1 dX12_heaviest_93 (by decide) ?_
                obtain rfl := Option.some.inj h
                exact hG20 _ _ _ V (lv_sub hl [4, 5, 3, 2, 1, 0] rfl)
              · replace h := kif_f hc h
                refine lv_goto (tgt := 90) X.1 X.2.1 dX12_heaviest_73 (by decide) ?_
                obtain ⟨y31, ey31⟩ : ∃ y : Int32, y = (s17.2.2.2.1 + (1 : Int32)) := ⟨_, rfl⟩
                replace h := kl_of ey31 h
                refine lv_iinc (v := y31) (lv' := [(7, .int y31), (0, .ref (aT 0)), (1, .int v1), (2, .int s17.1), (3, .long s17.2.1), (5, .long s17.2.2.1)]) X.1 X.2.1 dX12_heaviest_90 hl (k := 5) rfl (by rw [ey31]; rfl) (by decide) rfl (fun ls hl => ?_)
                refine lv_goto (tgt := 21) X.1 X.2.1 dX12_heaviest_93 (by decide) ?_
                obtain rfl := Option.some.inj h
                exact hG20 _ _ _ V (lv_sub hl [1, 2, 3, 4, 5, 0] rfl)
          · replace h := kif_t hc h
            refine lv_goto (tgt := 90) X.1 X.2.1 dX12_heaviest_48 (by decide) ?_
            obtain ⟨y32, ey32⟩ : ∃ y : Int32, y = (s17.2.2.2.1 + (1 : Int32)) := ⟨_, rfl⟩
            replace h := kl_of ey32 h
            refine lv_iinc (v := y32) (lv' := [(7, .int y32), (0, .ref (aT 0)), (1, .int v1), (2, .int s17.1), (3, .long s17.2.1), (5, .long s17.2.2.1)]) X.1 X.2.1 dX12_heaviest_90 hl (k := 5) rfl (by rw [ey32]; rfl) (by decide) rfl (fun ls hl => ?_)
            refine lv_goto (tgt := 21) X.1 X.2.1 dX12_heaviest_93 (by decide) ?_
            obtain rfl := Option.some.inj h
            exact hG20 _ _ _ V (lv_sub hl [1, 2, 3, 4, 5, 0] rfl)
    · intro H locs ls V hl
      have V : kW D AA s.heap H (List.flatten [gX12 g aT x16.2.2.2.2.2]) locs := V
      have hl : lv_has ls 8 [(0, .ref (aT 0)), (1, .int v1), (2, .int x16.2.1), (3, .long x16.2.2.1), (5, .long x16.2.2.2.1), (7, .int x16.2.2.2.2.1)] := hl
      obtain ⟨hc, h⟩ := kg_of h
      refine W.eq (g2 := F0 m 96 ls []) (by rw [hc]) ?_
      refine lv_iload_n X.1 X.2.1 dX12_heaviest_96 rfl (lv_at hl 2 rfl) ?_
      obtain rfl := Option.some.inj h
      rw [hAA] at V
      rw [hQQ]
      exact k_iret X V rfl dX12_heaviest_97
  · replace h := kif_t hc h
    refine lv_iconst (v := (-1 : Int32)) X.1 X.2.1 dX12_heaviest_9 (by decide) ?_
    obtain rfl := Option.some.inj h
    rw [hAA] at V
    rw [hQQ]
    exact k_iret X V rfl dX12_heaviest_10

def p_X12_layHull_L26 (v1 : Int64) (zT : tX12) (v4 : Int32) (s : Int32) : Option (Nat × (Int32)) :=
  kif (s ≤ (1 : Int32)) (some (64, s)) (kg (kii (s - (2 : Int32)) 42) (kg (kii (s - (1 : Int32)) 42) (kb (p_X12_turn zT ((zT.2.2.1 36) ((s - (2 : Int32))).toNatClampNeg) ((zT.2.2.1 36) ((s - (1 : Int32))).toNatClampNeg) v4) (fun x3 => kif (0 < (lg_cmp x3 (0 : Int64))) (some (64, s)) (kl (s + (-1 : Int32)) (fun y4 => some (26, y4)))))))
def p_X12_layHull_L5 (v1 : Int64) (s : Int32 × Int32 × tX12) : Option (Nat × (Int32 × Int32 × tX12)) :=
  kif ((s.2.2.1 15) ≤ s.2.1) (some (81, (s.1, s.2.1, s.2.2))) (kb (p_X12_has v1 s.2.1) (fun x1 => kif ((kz x1) = 0) (kl (s.2.1 + (1 : Int32)) (fun y2 => some (5, (s.1, y2, s.2.2)))) (kb (kitr 26 (fun q => p_X12_layHull_L26 v1 s.2.2 s.2.1 q) kF s.1) (fun x5 => kg (x5.1 = 64) (kg (kii x5.2 42) (kl (s.2.2.1, s.2.2.2.1, va_up s.2.2.2.2.1 36 (upd (s.2.2.2.2.1 36) (x5.2).toNatClampNeg s.2.1), s.2.2.2.2.2) (fun z6 => kl (x5.2 + (1 : Int32)) (fun y7 => kl (s.2.1 + (1 : Int32)) (fun y8 => some (5, (y7, y8, z6)))))))))))
def p_X12_layHull_L89 (v1 : Int64) (v3 : Int32) (s : Int32 × tX12) : Option (Nat × (Int32 × tX12)) :=
  kif (v3 ≤ s.1) (some (115, (s.1, s.2))) (kg (kii s.1 42) (kg (kii s.1 42) (kl (s.2.1, s.2.2.1, va_up s.2.2.2.1 35 (upd (s.2.2.2.1 35) (s.1).toNatClampNeg ((s.2.2.2.1 36) s.1.toNatClampNeg)), s.2.2.2.2) (fun z11 => kl (s.1 + (1 : Int32)) (fun y12 => some (89, (y12, z11)))))))
def p_X12_layHull_L164 (v1 : Int64) (zT : tX12) (v5 : Int32) (s : Int32) : Option (Nat × (Int32)) :=
  kif (s ≤ (1 : Int32)) (some (202, s)) (kg (kii (s - (2 : Int32)) 42) (kg (kii (s - (1 : Int32)) 42) (kb (p_X12_turn zT ((zT.2.2.1 36) ((s - (2 : Int32))).toNatClampNeg) ((zT.2.2.1 36) ((s - (1 : Int32))).toNatClampNeg) v5) (fun x19 => kif (0 < (lg_cmp x19 (0 : Int64))) (some (202, s)) (kl (s + (-1 : Int32)) (fun y20 => some (164, y20)))))))
def p_X12_layHull_L147 (v1 : Int64) (s : Int32 × Int32 × tX12) : Option (Nat × (Int32 × Int32 × tX12)) :=
  kif (s.2.1 < 0) (some (219, (s.1, s.2.1, s.2.2))) (kb (p_X12_has v1 s.2.1) (fun x17 => kif ((kz x17) = 0) (kl (s.2.1 + (-1 : Int32)) (fun y18 => some (147, (s.1, y18, s.2.2)))) (kb (kitr 164 (fun q => p_X12_layHull_L164 v1 s.2.2 s.2.1 q) kF s.1) (fun x21 => kg (x21.1 = 202) (kg (kii x21.2 42) (kl (s.2.2.1, s.2.2.2.1, va_up s.2.2.2.2.1 36 (upd (s.2.2.2.2.1 36) (x21.2).toNatClampNeg s.2.1), s.2.2.2.2.2) (fun z22 => kl (x21.2 + (1 : Int32)) (fun y23 => kl (s.2.1 + (-1 : Int32)) (fun y24 => some (147, (y23, y24, z22)))))))))))
def p_X12_layHull_L222 (v1 : Int64) (v3 : Int32) (s : Int32 × tX12) : Option (Nat × (Int32 × tX12)) :=
  kif ((v3 - (1 : Int32)) ≤ s.1) (some (262, (s.1, s.2))) (kg (kii s.1 42) (kg (kii (s.2.1 37) 42) (kl (s.2.1, s.2.2.1, va_up s.2.2.2.1 35 (upd (s.2.2.2.1 35) ((s.2.1 37)).toNatClampNeg ((s.2.2.2.1 36) s.1.toNatClampNeg)), s.2.2.2.2) (fun z26 => kl (va_up z26.1 37 ((z26.1 37) + (1 : Int32)), z26.2) (fun z27 => kl (s.1 + (1 : Int32)) (fun y28 => some (222, (y28, z27))))))))
def p_X12_layHull (zT : tX12) (v1 : Int64) : Option (tX12) :=
  kb (kitr 5 (fun q => p_X12_layHull_L5 v1 q) kF ((0 : Int32), (0 : Int32), zT)) (fun x9 => kg (x9.1 = 81) (kl (va_up x9.2.2.2.1 37 x9.2.1, x9.2.2.2.2) (fun z10 => kb (kitr 89 (fun q => p_X12_layHull_L89 v1 x9.2.1 q) kF ((0 : Int32), z10)) (fun x13 => kg (x13.1 = 115) (kif ((2 : Int32) ≤ x9.2.1) (kg (kii (x9.2.1 - (1 : Int32)) 42) (kl ((x13.2.2.2.2.1 36) ((x9.2.1 - (1 : Int32))).toNatClampNeg) (fun y14 => kg (kii (0 : Int32) 42) (kl (x13.2.2.1, x13.2.2.2.1, va_up x13.2.2.2.2.1 36 (upd (x13.2.2.2.2.1 36) ((0 : Int32)).toNatClampNeg y14), x13.2.2.2.2.2) (fun z15 => kl (y14 - (1 : Int32)) (fun y16 => kb (kitr 147 (fun q => p_X12_layHull_L147 v1 q) kF ((1 : Int32), y16, z15)) (fun x25 => kg (x25.1 = 219) (kb (kitr 222 (fun q => p_X12_layHull_L222 v1 x25.2.1 q) kF ((1 : Int32), x25.2.2.2)) (fun x29 => kg (x29.1 = 262) (some x29.2.2)))))))))) (some x13.2.2))))))
set_option maxHeartbeats 4000000 in
set_option maxRecDepth 100000 in
theorem c_X12_layHull (l : Launch) (D : va_G) (g : kG) (aT : Nat → Nat) (zT : tX12) (v1 : Int64) (r : tX12) (h : p_X12_layHull zT v1 = some r) : kMv l yX12_layHull cX12_layHull 6 none (kR 1 23) D (kty g) [.ref (aT 0), .long v1] (List.flatten [gX12 g aT zT]) (List.flatten [gX12 g aT r]) := by
  intro sz
  refine k_enter (lv := [(0, .ref (aT 0)), (1, .long v1)]) RX12 (by decide +kernel) rfl rfl (Nat.le_of_ble_eq_true rfl) ?_
  intro p en s m args below meth c ls hsz X V hl
  obtain ⟨QQ, hQQ⟩ : ∃ q, q = MQ below (va_Qv (fun (_ : Unit) => True) (fun _ => kE D (List.flatten [gX12 g aT r])) (va_A (List.flatten [gX12 g aT zT]) sz)) args s 0 0 (va_A (List.flatten [gX12 g aT zT]) sz) := ⟨_, rfl⟩
  rw [← hQQ]
  obtain ⟨AA, hAA⟩ : ∃ q, q = va_A (List.flatten [gX12 g aT zT]) sz := ⟨_, rfl⟩
  rw [← hAA] at V
  unfold p_X12_layHull at h
  refine lv_iconst (v := (0 : Int32)) X.1 X.2.1 dX12_layHull_0 (by decide) ?_
  refine lv_istore_n (lv' := [(3, .int (0 : Int32)), (0, .ref (aT 0)), (1, .long v1)]) X.1 X.2.1 dX12_layHull_1 rfl hl (by decide) rfl (fun ls hl => ?_)
  refine lv_iconst (v := (0 : Int32)) X.1 X.2.1 dX12_layHull_2 (by decide) ?_
  refine lv_istore (lv' := [(4, .int (0 : Int32)), (3, .int (0 : Int32)), (0, .ref (aT 0)), (1, .long v1)]) X.1 X.2.1 dX12_layHull_3 hl (by decide) rfl (fun ls hl => ?_)
  obtain ⟨x30, hx30, h⟩ := kb_of h
  refine (kitr_go (hd := 5) (body := fun q => p_X12_layHull_L5 v1 q) (G := (fun e => ∀ (H : Heap) (locs : List Loc) (ls : Array Slot), kW D AA s.heap H (List.flatten [gX12 g aT e.2.2.2]) locs → lv_has ls 6 [(0, .ref (aT 0)), (1, .long v1), (3, .int e.2.1), (4, .int e.2.2.1)] → W p l en (kR 1 23) s m args below meth c H locs 0 0 QQ (F0 m e.1 ls []))) (fun s31 e32 hb33 hG34 => ?_) kF _ x30 hx30 ?_) _ _ _ V (lv_sub hl [2, 3, 1, 0] rfl)
  · intro H locs ls V hl
    show W p l en (kR 1 23) s m args below meth c H locs 0 0 QQ (F0 m 5 ls [])
    have h : p_X12_layHull_L5 v1 s31 = some e32 := hb33
    unfold p_X12_layHull_L5 at h
    have V : kW D AA s.heap H (List.flatten [gX12 g aT s31.2.2]) locs := V
    have hl : lv_has ls 6 [(0, .ref (aT 0)), (1, .long v1), (3, .int s31.1), (4, .int s31.2.1)] := hl
    refine lv_iload X.1 X.2.1 dX12_layHull_5 (lv_at hl 3 rfl) ?_
    refine lv_aload_n X.1 X.2.1 dX12_layHull_7 rfl (lv_at hl 0 rfl) ?_
    refine gf_X12_157 (i := 0) X V rfl dX12_layHull_8 ?_
    refine lv_icmp_ge (tgt := 81) X.1 X.2.1 dX12_layHull_11 (by decide) (fun hc => ?_) (fun hc => ?_)
    · replace h := kif_t hc h
      obtain rfl := Option.some.inj h
      exact hG34 _ _ _ V (lv_sub hl [0, 1, 2, 3] rfl)
    · replace h := kif_f hc h
      refine lv_lload_n X.1 X.2.1 dX12_layHull_14 rfl (lv_at hl 1 rfl) ?_
      refine lv_iload X.1 X.2.1 dX12_layHull_15 (lv_at hl 3 rfl) ?_
      obtain ⟨x35, hx35, h⟩ := kb_of h
      refine s_callSi (segs' := [gX12 g aT s31.2.2]) X V (c_X12_has l D g v1 s31.2.1 x35 hx35) w_X12_225 ⟨Nat.le_of_ble_eq_true rfl, Nat.le_of_ble_eq_true rfl⟩ ⟨Nat.zero_le _, Nat.zero_le _⟩ rfl [] rfl rfl (kFst_refl _) rfl rfl hl.1 (Nat.le_of_ble_eq_true rfl) dX12_layHull_17 (fun H locs V => ?_)
      refine lv_if_ne (tgt := 26) X.1 X.2.1 dX12_layHull_20 (by decide) (fun hc => ?_) (fun hc => ?_)
      · replace h := kif_f hc h
        obtain ⟨x36, hx36, h⟩ := kb_of h
        refine (kitr_go (hd := 26) (body := fun q => p_X12_layHull_L26 v1 s31.2.2 s31.2.1 q) (G := (fun e => ∀ (H : Heap) (locs : List Loc) (ls : Array Slot), kW D AA s.heap H (List.flatten [gX12 g aT s31.2.2]) locs → lv_has ls 6 [(0, .ref (aT 0)), (1, .long v1), (3, .int e.2), (4, .int s31.2.1)] → W p l en (kR 1 23) s m args below meth c H locs 0 0 QQ (F0 m e.1 ls []))) (fun s37 e38 hb39 hG40 => ?_) kF _ x36 hx36 ?_) _ _ _ V (lv_sub hl [0, 1, 2, 3] rfl)
        · intro H locs ls V hl
          show W p l en (kR 1 23) s m args below meth c H locs 0 0 QQ (F0 m 26 ls [])
          have h : p_X12_layHull_L26 v1 s31.2.2 s31.2.1 s37 = some e38 := hb39
          unfold p_X12_layHull_L26 at h
          have V : kW D AA s.heap H (List.flatten [gX12 g aT s31.2.2]) locs := V
          have hl : lv_has ls 6 [(0, .ref (aT 0)), (1, .long v1), (3, .int s37), (4, .int s31.2.1)] := hl
          refine lv_iload_n X.1 X.2.1 dX12_layHull_26 rfl (lv_at hl 2 rfl) ?_
          refine lv_iconst (v := (1 : Int32)) X.1 X.2.1 dX12_layHull_27 (by decide) ?_
          refine lv_icmp_le (tgt := 64) X.1 X.2.1 dX12_layHull_28 (by decide) (fun hc => ?_) (fun hc => ?_)
          · replace h := kif_t hc h
            obtain rfl := Option.some.inj h
            exact hG40 _ _ _ V (lv_sub hl [0, 1, 2, 3] rfl)
          · replace h := kif_f hc h
            refine lv_aload_n X.1 X.2.1 dX12_layHull_31 rfl (lv_at hl 0 rfl) ?_
            refine lv_aload_n X.1 X.2.1 dX12_layHull_32 rfl (lv_at hl 0 rfl) ?_
            refine gf_X12_57 (i := 0) X V rfl dX12_layHull_33 ?_
            refine lv_iload_n X.1 X.2.1 dX12_layHull_36 rfl (lv_at hl 2 rfl) ?_
            refine lv_iconst (v := (2 : Int32)) X.1 X.2.1 dX12_layHull_37 (by decide) ?_
            refine lv_isub X.1 X.2.1 dX12_layHull_38 ?_
            obtain ⟨hc, h⟩ := kg_of h
            refine al_X12_36 (i := 0) X V rfl hc dX12_layHull_39 ?_
            refine lv_aload_n X.1 X.2.1 dX12_layHull_40 rfl (lv_at hl 0 rfl) ?_
            refine gf_X12_57 (i := 0) X V rfl dX12_layHull_41 ?_
            refine lv_iload_n X.1 X.2.1 dX12_layHull_44 rfl (lv_at hl 2 rfl) ?_
            refine lv_iconst (v := (1 : Int32)) X.1 X.2.1 dX12_layHull_45 (by decide) ?_
            refine lv_isub X.1 X.2.1 dX12_layHull_46 ?_
            obtain ⟨hc, h⟩ := kg_of h
            refine al_X12_36 (i := 0) X V rfl hc dX12_layHull_47 ?_
            refine lv_iload X.1 X.2.1 dX12_layHull_48 (lv_at hl 3 rfl) ?_
            obtain ⟨x41, hx41, h⟩ := kb_of h
            refine s_callVl (segs' := [gX12 g aT s31.2.2]) (ci := 12) (i0 := 0) X V (c_X12_turn l D g aT s31.2.2 ((s31.2.2.2.2.1 36) ((s37 - (2 : Int32))).toNatClampNeg) ((s31.2.2.2.2.1 36) ((s37 - (1 : Int32))).toNatClampNeg) s31.2.1 x41 hx41) w_X12_216 ⟨Nat.le_of_ble_eq_true rfl, Nat.le_of_ble_eq_true rfl⟩ ⟨Nat.zero_le _, Nat.zero_le _⟩ rfl rfl rfl rfl [0] rfl rfl (kFst_refl _) rfl rfl hl.1 (Nat.le_of_ble_eq_true rfl) dX12_layHull_50 (fun H locs V => ?_)
            refine lv_lconst (v := (0 : Int64)) X.1 X.2.1 dX12_layHull_53 (by decide) ?_
            refine W.lcmp X.1 X.2.1 dX12_layHull_54 ?_
            refine lv_if_gt (tgt := 64) X.1 X.2.1 dX12_layHull_55 (by decide) (fun hc => ?_) (fun hc => ?_)
            · replace h := kif_t hc h
              obtain rfl := Option.some.inj h
              exact hG40 _ _ _ V (lv_sub hl [0, 1, 2, 3] rfl)
            · replace h := kif_f hc h
              obtain ⟨y42, ey42⟩ : ∃ y : Int32, y = (s37 + (-1 : Int32)) := ⟨_, rfl⟩
              replace h := kl_of ey42 h
              refine lv_iinc (v := y42) (lv' := [(3, .int y42), (0, .ref (aT 0)), (1, .long v1), (4, .int s31.2.1)]) X.1 X.2.1 dX12_layHull_58 hl (k := 2) rfl (by rw [ey42]; rfl) (by decide) rfl (fun ls hl => ?_)
              refine lv_goto (tgt := 26) X.1 X.2.1 dX12_layHull_61 (by decide) ?_
              obtain rfl := Option.some.inj h
              exact hG40 _ _ _ V (lv_sub hl [1, 2, 0, 3] rfl)
        · intro H locs ls V hl
          have V : kW D AA s.heap H (List.flatten [gX12 g aT s31.2.2]) locs := V
          have hl : lv_has ls 6 [(0, .ref (aT 0)), (1, .long v1), (3, .int x36.2), (4, .int s31.2.1)] := hl
          obtain ⟨hc, h⟩ := kg_of h
          refine W.eq (g2 := F0 m 64 ls []) (by rw [hc]) ?_
          refine lv_aload_n X.1 X.2.1 dX12_layHull_64 rfl (lv_at hl 0 rfl) ?_
          refine gf_X12_57 (i := 0) X V rfl dX12_layHull_65 ?_
          refine lv_iload_n X.1 X.2.1 dX12_layHull_68 rfl (lv_at hl 2 rfl) ?_
          refine lv_iload X.1 X.2.1 dX12_layHull_69 (lv_at hl 3 rfl) ?_
          obtain ⟨hc, h⟩ := kg_of h
          refine as_X12_36 (i := 0) X V rfl hc dX12_layHull_71 (fun H locs V => ?_)
          obtain ⟨z43, ez43⟩ : ∃ y, y = (s31.2.2.1, s31.2.2.2.1, va_up s31.2.2.2.2.1 36 (upd (s31.2.2.2.2.1 36) (x36.2).toNatClampNeg s31.2.1), s31.2.2.2.2.2) := ⟨_, rfl⟩
          replace h := kl_of ez43 h
          have V : kW D AA s.heap H (List.flatten [gX12 g aT z43]) locs := by rw [ez43]; exact V
          obtain ⟨y44, ey44⟩ : ∃ y : Int32, y = (x36.2 + (1 : Int32)) := ⟨_, rfl⟩
          replace h := kl_of ey44 h
          refine lv_iinc (v := y44) (lv' := [(3, .int y44), (0, .ref (aT 0)), (1, .long v1), (4, .int s31.2.1)]) X.1 X.2.1 dX12_layHull_72 hl (k := 2) rfl (by rw [ey44]; rfl) (by decide) rfl (fun ls hl => ?_)
          obtain ⟨y45, ey45⟩ : ∃ y : Int32, y = (s31.2.1 + (1 : Int32)) := ⟨_, rfl⟩
          replace h := kl_of ey45 h
          refine lv_iinc (v := y45) (lv' := [(4, .int y45), (3, .int y44), (0, .ref (aT 0)), (1, .long v1)]) X.1 X.2.1 dX12_layHull_75 hl (k := 3) rfl (by rw [ey45]; rfl) (by decide) rfl (fun ls hl => ?_)
          refine lv_goto (tgt := 5) X.1 X.2.1 dX12_layHull_78 (by decide) ?_
          obtain rfl := Option.some.inj h
          exact hG34 _ _ _ V (lv_sub hl [2, 3, 1, 0] rfl)
      · replace h := kif_t hc h
        refine lv_goto (tgt := 75) X.1 X.2.1 dX12_layHull_23 (by decide) ?_
        obtain ⟨y46, ey46⟩ : ∃ y : Int32, y = (s31.2.1 + (1 : Int32)) := ⟨_, rfl⟩
        replace h := kl_of ey46 h
        refine lv_iinc (v := y46) (lv' := [(4, .int y46), (0, .ref (aT 0)), (1, .long v1), (3, .int s31.1)]) X.1 X.2.1 dX12_layHull_75 hl (k := 3) rfl (by rw [ey46]; rfl) (by decide) rfl (fun ls hl => ?_)
        refine lv_goto (tgt := 5) X.1 X.2.1 dX12_layHull_78 (by decide) ?_
        obtain rfl := Option.some.inj h
        exact hG34 _ _ _ V (lv_sub hl [1, 2, 3, 0] rfl)
  · intro H locs ls V hl
    have V : kW D AA s.heap H (List.flatten [gX12 g aT x30.2.2.2]) locs := V
    have hl : lv_has ls 6 [(0, .ref (aT 0)), (1, .long v1), (3, .int x30.2.1), (4, .int x30.2.2.1)] := hl
    obtain ⟨hc, h⟩ := kg_of h
    refine W.eq (g2 := F0 m 81 ls []) (by rw [hc]) ?_
    refine lv_aload_n X.1 X.2.1 dX12_layHull_81 rfl (lv_at hl 0 rfl) ?_
    refine lv_iload_n X.1 X.2.1 dX12_layHull_82 rfl (lv_at hl 2 rfl) ?_
    refine pf_X12_320 (i := 0) X V rfl dX12_layHull_83 (fun H locs V => ?_)
    obtain ⟨z47, ez47⟩ : ∃ y, y = (va_up x30.2.2.2.1 37 x30.2.1, x30.2.2.2.2) := ⟨_, rfl⟩
    replace h := kl_of ez47 h
    have V : kW D AA s.heap H (List.flatten [gX12 g aT z47]) locs := by rw [ez47]; exact V
    refine lv_iconst (v := (0 : Int32)) X.1 X.2.1 dX12_layHull_86 (by decide) ?_
    refine lv_istore (lv' := [(4, .int (0 : Int32)), (0, .ref (aT 0)), (1, .long v1), (3, .int x30.2.1)]) X.1 X.2.1 dX12_layHull_87 hl (by decide) rfl (fun ls hl => ?_)
    obtain ⟨x48, hx48, h⟩ := kb_of h
    refine (kitr_go (hd := 89) (body := fun q => p_X12_layHull_L89 v1 x30.2.1 q) (G := (fun e => ∀ (H : Heap) (locs : List Loc) (ls : Array Slot), kW D AA s.heap H (List.flatten [gX12 g aT e.2.2]) locs → lv_has ls 6 [(0, .ref (aT 0)), (1, .long v1), (3, .int x30.2.1), (4, .int e.2.1)] → W p l en (kR 1 23) s m args below meth c H locs 0 0 QQ (F0 m e.1 ls []))) (fun s49 e50 hb51 hG52 => ?_) kF _ x48 hx48 ?_) _ _ _ V (lv_sub hl [1, 2, 3, 0] rfl)
    · intro H locs ls V hl
      show W p l en (kR 1 23) s m args below meth c H locs 0 0 QQ (F0 m 89 ls [])
      have h : p_X12_layHull_L89 v1 x30.2.1 s49 = some e50 := hb51
      unfold p_X12_layHull_L89 at h
      have V : kW D AA s.heap H (List.flatten [gX12 g aT s49.2]) locs := V
      have hl : lv_has ls 6 [(0, .ref (aT 0)), (1, .long v1), (3, .int x30.2.1), (4, .int s49.1)] := hl
      refine lv_iload X.1 X.2.1 dX12_layHull_89 (lv_at hl 3 rfl) ?_
      refine lv_iload_n X.1 X.2.1 dX12_layHull_91 rfl (lv_at hl 2 rfl) ?_
      refine lv_icmp_ge (tgt := 115) X.1 X.2.1 dX12_layHull_92 (by decide) (fun hc => ?_) (fun hc => ?_)
      · replace h := kif_t hc h
        obtain rfl := Option.some.inj h
        exact hG52 _ _ _ V (lv_sub hl [0, 1, 2, 3] rfl)
      · replace h := kif_f hc h
        refine lv_aload_n X.1 X.2.1 dX12_layHull_95 rfl (lv_at hl 0 rfl) ?_
        refine gf_X12_54 (i := 0) X V rfl dX12_layHull_96 ?_
        refine lv_iload X.1 X.2.1 dX12_layHull_99 (lv_at hl 3 rfl) ?_
        refine lv_aload_n X.1 X.2.1 dX12_layHull_101 rfl (lv_at hl 0 rfl) ?_
        refine gf_X12_57 (i := 0) X V rfl dX12_layHull_102 ?_
        refine lv_iload X.1 X.2.1 dX12_layHull_105 (lv_at hl 3 rfl) ?_
        obtain ⟨hc, h⟩ := kg_of h
        refine al_X12_36 (i := 0) X V rfl hc dX12_layHull_107 ?_
        obtain ⟨hc, h⟩ := kg_of h
        refine as_X12_35 (i := 0) X V rfl hc dX12_layHull_108 (fun H locs V => ?_)
        obtain ⟨z53, ez53⟩ : ∃ y, y = (s49.2.1, s49.2.2.1, va_up s49.2.2.2.1 35 (upd (s49.2.2.2.1 35) (s49.1).toNatClampNeg ((s49.2.2.2.1 36) s49.1.toNatClampNeg)), s49.2.2.2.2) := ⟨_, rfl⟩
        replace h := kl_of ez53 h
        have V : kW D AA s.heap H (List.flatten [gX12 g aT z53]) locs := by rw [ez53]; exact V
        obtain ⟨y54, ey54⟩ : ∃ y : Int32, y = (s49.1 + (1 : Int32)) := ⟨_, rfl⟩
        replace h := kl_of ey54 h
        refine lv_iinc (v := y54) (lv' := [(4, .int y54), (0, .ref (aT 0)), (1, .long v1), (3, .int x30.2.1)]) X.1 X.2.1 dX12_layHull_109 hl (k := 3) rfl (by rw [ey54]; rfl) (by decide) rfl (fun ls hl => ?_)
        refine lv_goto (tgt := 89) X.1 X.2.1 dX12_layHull_112 (by decide) ?_
        obtain rfl := Option.some.inj h
        exact hG52 _ _ _ V (lv_sub hl [1, 2, 3, 0] rfl)
    · intro H locs ls V hl
      have V : kW D AA s.heap H (List.flatten [gX12 g aT x48.2.2]) locs := V
      have hl : lv_has ls 6 [(0, .ref (aT 0)), (1, .long v1), (3, .int x30.2.1), (4, .int x48.2.1)] := hl
      obtain ⟨hc, h⟩ := kg_of h
      refine W.eq (g2 := F0 m 115 ls []) (by rw [hc]) ?_
      refine lv_iload_n X.1 X.2.1 dX12_layHull_115 rfl (lv_at hl 2 rfl) ?_
      refine lv_iconst (v := (2 : Int32)) X.1 X.2.1 dX12_layHull_116 (by decide) ?_
      refine lv_icmp_ge (tgt := 121) X.1 X.2.1 dX12_layHull_117 (by decide) (fun hc => ?_) (fun hc => ?_)
      · replace h := kif_t hc h
        refine lv_aload_n X.1 X.2.1 dX12_layHull_121 rfl (lv_at hl 0 rfl) ?_
        refine gf_X12_57 (i := 0) X V rfl dX12_layHull_122 ?_
        refine lv_iload_n X.1 X.2.1 dX12_layHull_125 rfl (lv_at hl 2 rfl) ?_
        refine lv_iconst (v := (1 : Int32)) X.1 X.2.1 dX12_layHull_126 (by decide) ?_
        refine lv_isub X.1 X.2.1 dX12_layHull_127 ?_
        obtain ⟨hc, h⟩ := kg_of h
        refine al_X12_36 (i := 0) X V rfl hc dX12_layHull_128 ?_
        refine lv_topi (fun y55 ey55 => ?_)
        replace h := kl_of ey55 h
        refine lv_istore (lv' := [(4, .int y55), (0, .ref (aT 0)), (1, .long v1), (3, .int x30.2.1)]) X.1 X.2.1 dX12_layHull_129 hl (by decide) rfl (fun ls hl => ?_)
        refine lv_iconst (v := (1 : Int32)) X.1 X.2.1 dX12_layHull_131 (by decide) ?_
        refine lv_istore_n (lv' := [(3, .int (1 : Int32)), (4, .int y55), (0, .ref (aT 0)), (1, .long v1)]) X.1 X.2.1 dX12_layHull_132 rfl hl (by decide) rfl (fun ls hl => ?_)
        refine lv_aload_n X.1 X.2.1 dX12_layHull_133 rfl (lv_at hl 2 rfl) ?_
        refine gf_X12_57 (i := 0) X V rfl dX12_layHull_134 ?_
        refine lv_iconst (v := (0 : Int32)) X.1 X.2.1 dX12_layHull_137 (by decide) ?_
        refine lv_iload X.1 X.2.1 dX12_layHull_138 (lv_at hl 1 rfl) ?_
        obtain ⟨hc, h⟩ := kg_of h
        refine as_X12_36 (i := 0) X V rfl hc dX12_layHull_140 (fun H locs V => ?_)
        obtain ⟨z56, ez56⟩ : ∃ y, y = (x48.2.2.1, x48.2.2.2.1, va_up x48.2.2.2.2.1 36 (upd (x48.2.2.2.2.1 36) ((0 : Int32)).toNatClampNeg y55), x48.2.2.2.2.2) := ⟨_, rfl⟩
        replace h := kl_of ez56 h
        have V : kW D AA s.heap H (List.flatten [gX12 g aT z56]) locs := by rw [ez56]; exact V
        refine lv_iload X.1 X.2.1 dX12_layHull_141 (lv_at hl 1 rfl) ?_
        refine lv_iconst (v := (1 : Int32)) X.1 X.2.1 dX12_layHull_143 (by decide) ?_
        refine lv_isub X.1 X.2.1 dX12_layHull_144 ?_
        refine lv_topi (fun y57 ey57 => ?_)
        replace h := kl_of ey57 h
        refine lv_istore (lv' := [(5, .int y57), (3, .int (1 : Int32)), (4, .int y55), (0, .ref (aT 0)), (1, .long v1)]) X.1 X.2.1 dX12_layHull_145 hl (by decide) rfl (fun ls hl => ?_)
        obtain ⟨x58, hx58, h⟩ := kb_of h
        refine (kitr_go (hd := 147) (body := fun q => p_X12_layHull_L147 v1 q) (G := (fun e => ∀ (H : Heap) (locs : List Loc) (ls : Array Slot), kW D AA s.heap H (List.flatten [gX12 g aT e.2.2.2]) locs → lv_has ls 6 [(0, .ref (aT 0)), (1, .long v1), (3, .int e.2.1), (5, .int e.2.2.1)] → W p l en (kR 1 23) s m args below meth c H locs 0 0 QQ (F0 m e.1 ls []))) (fun s59 e60 hb61 hG62 => ?_) kF _ x58 hx58 ?_) _ _ _ V (lv_sub hl [3, 4, 1, 0] rfl)
        · intro H locs ls V hl
          show W p l en (kR 1 23) s m args below meth c H locs 0 0 QQ (F0 m 147 ls [])
          have h : p_X12_layHull_L147 v1 s59 = some e60 := hb61
          unfold p_X12_layHull_L147 at h
          have V : kW D AA s.heap H (List.flatten [gX12 g aT s59.2.2]) locs := V
          have hl : lv_has ls 6 [(0, .ref (aT 0)), (1, .long v1), (3, .int s59.1), (5, .int s59.2.1)] := hl
          refine lv_iload X.1 X.2.1 dX12_layHull_147 (lv_at hl 3 rfl) ?_
          refine lv_if_lt (tgt := 219) X.1 X.2.1 dX12_layHull_149 (by decide) (fun hc => ?_) (fun hc => ?_)
          · replace h := kif_t hc h
            obtain rfl := Option.some.inj h
            exact hG62 _ _ _ V (lv_sub hl [0, 1, 2, 3] rfl)
          · replace h := kif_f hc h
            refine lv_lload_n X.1 X.2.1 dX12_layHull_152 rfl (lv_at hl 1 rfl) ?_
            refine lv_iload X.1 X.2.1 dX12_layHull_153 (lv_at hl 3 rfl) ?_
            obtain ⟨x63, hx63, h⟩ := kb_of h
            refine s_callSi (segs' := [gX12 g aT s59.2.2]) X V (c_X12_has l D g v1 s59.2.1 x63 hx63) w_X12_225 ⟨Nat.le_of_ble_eq_true rfl, Nat.le_of_ble_eq_true rfl⟩ ⟨Nat.zero_le _, Nat.zero_le _⟩ rfl [] rfl rfl (kFst_refl _) rfl rfl hl.1 (Nat.le_of_ble_eq_true rfl) dX12_layHull_155 (fun H locs V => ?_)
            refine lv_if_ne (tgt := 164) X.1 X.2.1 dX12_layHull_158 (by decide) (fun hc => ?_) (fun hc => ?_)
            · replace h := kif_f hc h
              obtain ⟨x64, hx64, h⟩ := kb_of h
              refine (kitr_go (hd := 164) (body := fun q => p_X12_layHull_L164 v1 s59.2.2 s59.2.1 q) (G := (fun e => ∀ (H : Heap) (locs : List Loc) (ls : Array Slot), kW D AA s.heap H (List.flatten [gX12 g aT s59.2.2]) locs → lv_has ls 6 [(0, .ref (aT 0)), (1, .long v1), (3, .int e.2), (5, .int s59.2.1)] → W p l en (kR 1 23) s m args below meth c H locs 0 0 QQ (F0 m e.1 ls []))) (fun s65 e66 hb67 hG68 => ?_) kF _ x64 hx64 ?_) _ _ _ V (lv_sub hl [0, 1, 2, 3] rfl)
              · intro H locs ls V hl
                show W p l en (kR 1 23) s m args below meth c H locs 0 0 QQ (F0 m 164 ls [])
                have h : p_X12_layHull_L164 v1 s59.2.2 s59.2.1 s65 = some e66 := hb67
                unfold p_X12_layHull_L164 at h
                have V : kW D AA s.heap H (List.flatten [gX12 g aT s59.2.2]) locs := V
                have hl : lv_has ls 6 [(0, .ref (aT 0)), (1, .long v1), (3, .int s65), (5, .int s59.2.1)] := hl
                refine lv_iload_n X.1 X.2.1 dX12_layHull_164 rfl (lv_at hl 2 rfl) ?_
                refine lv_iconst (v := (1 : Int32)) X.1 X.2.1 dX12_layHull_165 (by decide) ?_
                refine lv_icmp_le (tgt := 202) X.1 X.2.1 dX12_layHull_166 (by decide) (fun hc => ?_) (fun hc => ?_)
                · replace h := kif_t hc h
                  obtain rfl := Option.some.inj h
                  exact hG68 _ _ _ V (lv_sub hl [0, 1, 2, 3] rfl)
                · replace h := kif_f hc h
                  refine lv_aload_n X.1 X.2.1 dX12_layHull_169 rfl (lv_at hl 0 rfl) ?_
                  refine lv_aload_n X.1 X.2.1 dX12_layHull_170 rfl (lv_at hl 0 rfl) ?_
                  refine gf_X12_57 (i := 0) X V rfl dX12_layHull_171 ?_
                  refine lv_iload_n X.1 X.2.1 dX12_layHull_174 rfl (lv_at hl 2 rfl) ?_
                  refine lv_iconst (v := (2 : Int32)) X.1 X.2.1 dX12_layHull_175 (by decide) ?_
                  refine lv_isub X.1 X.2.1 dX12_layHull_176 ?_
                  obtain ⟨hc, h⟩ := kg_of h
                  refine al_X12_36 (i := 0) X V rfl hc dX12_layHull_177 ?_
                  refine lv_aload_n X.1 X.2.1 dX12_layHull_178 rfl (lv_at hl 0 rfl) ?_
                  refine gf_X12_57 (i := 0) X V rfl dX12_layHull_179 ?_
                  refine lv_iload_n X.1 X.2.1 dX12_layHull_182 rfl (lv_at hl 2 rfl) ?_
                  refine lv_iconst (v := (1 : Int32)) X.1 X.2.1 dX12_layHull_183 (by decide) ?_
                  refine lv_isub X.1 X.2.1 dX12_layHull_184 ?_
                  obtain ⟨hc, h⟩ := kg_of h
                  refine al_X12_36 (i := 0) X V rfl hc dX12_layHull_185 ?_
                  refine lv_iload X.1 X.2.1 dX12_layHull_186 (lv_at hl 3 rfl) ?_
                  obtain ⟨x69, hx69, h⟩ := kb_of h
                  refine s_callVl (segs' := [gX12 g aT s59.2.2]) (ci := 12) (i0 := 0) X V (c_X12_turn l D g aT s59.2.2 ((s59.2.2.2.2.1 36) ((s65 - (2 : Int32))).toNatClampNeg) ((s59.2.2.2.2.1 36) ((s65 - (1 : Int32))).toNatClampNeg) s59.2.1 x69 hx69) w_X12_216 ⟨Nat.le_of_ble_eq_true rfl, Nat.le_of_ble_eq_true rfl⟩ ⟨Nat.zero_le _, Nat.zero_le _⟩ rfl rfl rfl rfl [0] rfl rfl (kFst_refl _) rfl rfl hl.1 (Nat.le_of_ble_eq_true rfl) dX12_layHull_188 (fun H locs V => ?_)
                  refine lv_lconst (v := (0 : Int64)) X.1 X.2.1 dX12_layHull_191 (by decide) ?_
                  refine W.lcmp X.1 X.2.1 dX12_layHull_192 ?_
                  refine lv_if_gt (tgt := 202) X.1 X.2.1 dX12_layHull_193 (by decide) (fun hc => ?_) (fun hc => ?_)
                  · replace h := kif_t hc h
                    obtain rfl := Option.some.inj h
                    exact hG68 _ _ _ V (lv_sub hl [0, 1, 2, 3] rfl)
                  · replace h := kif_f hc h
                    obtain ⟨y70, ey70⟩ : ∃ y : Int32, y = (s65 + (-1 : Int32)) := ⟨_, rfl⟩
                    replace h := kl_of ey70 h
                    refine lv_iinc (v := y70) (lv' := [(3, .int y70), (0, .ref (aT 0)), (1, .long v1), (5, .int s59.2.1)]) X.1 X.2.1 dX12_layHull_196 hl (k := 2) rfl (by rw [ey70]; rfl) (by decide) rfl (fun ls hl => ?_)
                    refine lv_goto (tgt := 164) X.1 X.2.1 dX12_layHull_199 (by decide) ?_
                    obtain rfl := Option.some.inj h
                    exact hG68 _ _ _ V (lv_sub hl [1, 2, 0, 3] rfl)
              · intro H locs ls V hl
                have V : kW D AA s.heap H (List.flatten [gX12 g aT s59.2.2]) locs := V
                have hl : lv_has ls 6 [(0, .ref (aT 0)), (1, .long v1), (3, .int x64.2), (5, .int s59.2.1)] := hl
                obtain ⟨hc, h⟩ := kg_of h
                refine W.eq (g2 := F0 m 202 ls []) (by rw [hc]) ?_
                refine lv_aload_n X.1 X.2.1 dX12_layHull_202 rfl (lv_at hl 0 rfl) ?_
                refine gf_X12_57 (i := 0) X V rfl dX12_layHull_203 ?_
                refine lv_iload_n X.1 X.2.1 dX12_layHull_206 rfl (lv_at hl 2 rfl) ?_
                refine lv_iload X.1 X.2.1 dX12_layHull_207 (lv_at hl 3 rfl) ?_
                obtain ⟨hc, h⟩ := kg_of h
                refine as_X12_36 (i := 0) X V rfl hc dX12_layHull_209 (fun H locs V => ?_)
                obtain ⟨z71, ez71⟩ : ∃ y, y = (s59.2.2.1, s59.2.2.2.1, va_up s59.2.2.2.2.1 36 (upd (s59.2.2.2.2.1 36) (x64.2).toNatClampNeg s59.2.1), s59.2.2.2.2.2) := ⟨_, rfl⟩
                replace h := kl_of ez71 h
                have V : kW D AA s.heap H (List.flatten [gX12 g aT z71]) locs := by rw [ez71]; exact V
                obtain ⟨y72, ey72⟩ : ∃ y : Int32, y = (x64.2 + (1 : Int32)) := ⟨_, rfl⟩
                replace h := kl_of ey72 h
                refine lv_iinc (v := y72) (lv' := [(3, .int y72), (0, .ref (aT 0)), (1, .long v1), (5, .int s59.2.1)]) X.1 X.2.1 dX12_layHull_210 hl (k := 2) rfl (by rw [ey72]; rfl) (by decide) rfl (fun ls hl => ?_)
                obtain ⟨y73, ey73⟩ : ∃ y : Int32, y = (s59.2.1 + (-1 : Int32)) := ⟨_, rfl⟩
                replace h := kl_of ey73 h
                refine lv_iinc (v := y73) (lv' := [(5, .int y73), (3, .int y72), (0, .ref (aT 0)), (1, .long v1)]) X.1 X.2.1 dX12_layHull_213 hl (k := 3) rfl (by rw [ey73]; rfl) (by decide) rfl (fun ls hl => ?_)
                refine lv_goto (tgt := 147) X.1 X.2.1 dX12_layHull_216 (by decide) ?_
                obtain rfl := Option.some.inj h
                exact hG62 _ _ _ V (lv_sub hl [2, 3, 1, 0] rfl)
            · replace h := kif_t hc h
              refine lv_goto (tgt := 213) X.1 X.2.1 dX12_layHull_161 (by decide) ?_
              obtain ⟨y74, ey74⟩ : ∃ y : Int32, y = (s59.2.1 + (-1 : Int32)) := ⟨_, rfl⟩
              replace h := kl_of ey74 h
              refine lv_iinc (v := y74) (lv' := [(5, .int y74), (0, .ref (aT 0)), (1, .long v1), (3, .int s59.1)]) X.1 X.2.1 dX12_layHull_213 hl (k := 3) rfl (by rw [ey74]; rfl) (by decide) rfl (fun ls hl => ?_)
              refine lv_goto (tgt := 147) X.1 X.2.1 dX12_layHull_216 (by decide) ?_
              obtain rfl := Option.some.inj h
              exact hG62 _ _ _ V (lv_sub hl [1, 2, 3, 0] rfl)
        · intro H locs ls V hl
          have V : kW D AA s.heap H (List.flatten [gX12 g aT x58.2.2.2]) locs := V
          have hl : lv_has ls 6 [(0, .ref (aT 0)), (1, .long v1), (3, .int x58.2.1), (5, .int x58.2.2.1)] := hl
          obtain ⟨hc, h⟩ := kg_of h
          refine W.eq (g2 := F0 m 219 ls []) (by rw [hc]) ?_
          refine lv_iconst (v := (1 : Int32)) X.1 X.2.1 dX12_layHull_219 (by decide) ?_
          refine lv_istore (lv' := [(5, .int (1 : Int32)), (0, .ref (aT 0)), (1, .long v1), (3, .int x58.2.1)]) X.1 X.2.1 dX12_layHull_220 hl (by decide) rfl (fun ls hl => ?_)
          obtain ⟨x75, hx75, h⟩ := kb_of h
          refine (kitr_go (hd := 222) (body := fun q => p_X12_layHull_L222 v1 x58.2.1 q) (G := (fun e => ∀ (H : Heap) (locs : List Loc) (ls : Array Slot), kW D AA s.heap H (List.flatten [gX12 g aT e.2.2]) locs → lv_has ls 6 [(0, .ref (aT 0)), (3, .int x58.2.1), (5, .int e.2.1)] → W p l en (kR 1 23) s m args below meth c H locs 0 0 QQ (F0 m e.1 ls []))) (fun s76 e77 hb78 hG79 => ?_) kF _ x75 hx75 ?_) _ _ _ V (lv_sub hl [1, 3, 0] rfl)
          · intro H locs ls V hl
            show W p l en (kR 1 23) s m args below meth c H locs 0 0 QQ (F0 m 222 ls [])
            have h : p_X12_layHull_L222 v1 x58.2.1 s76 = some e77 := hb78
            unfold p_X12_layHull_L222 at h
            have V : kW D AA s.heap H (List.flatten [gX12 g aT s76.2]) locs := V
            have hl : lv_has ls 6 [(0, .ref (aT 0)), (3, .int x58.2.1), (5, .int s76.1)] := hl
            refine lv_iload X.1 X.2.1 dX12_layHull_222 (lv_at hl 2 rfl) ?_
            refine lv_iload_n X.1 X.2.1 dX12_layHull_224 rfl (lv_at hl 1 rfl) ?_
            refine lv_iconst (v := (1 : Int32)) X.1 X.2.1 dX12_layHull_225 (by decide) ?_
            refine lv_isub X.1 X.2.1 dX12_layHull_226 ?_
            refine lv_icmp_ge (tgt := 262) X.1 X.2.1 dX12_layHull_227 (by decide) (fun hc => ?_) (fun hc => ?_)
            · replace h := kif_t hc h
              obtain rfl := Option.some.inj h
              exact hG79 _ _ _ V (lv_sub hl [0, 1, 2] rfl)
            · replace h := kif_f hc h
              refine lv_aload_n X.1 X.2.1 dX12_layHull_230 rfl (lv_at hl 0 rfl) ?_
              refine gf_X12_54 (i := 0) X V rfl dX12_layHull_231 ?_
              refine lv_aload_n X.1 X.2.1 dX12_layHull_234 rfl (lv_at hl 0 rfl) ?_
              refine gf_X12_320 (i := 0) X V rfl dX12_layHull_235 ?_
              refine lv_aload_n X.1 X.2.1 dX12_layHull_238 rfl (lv_at hl 0 rfl) ?_
              refine gf_X12_57 (i := 0) X V rfl dX12_layHull_239 ?_
              refine lv_iload X.1 X.2.1 dX12_layHull_242 (lv_at hl 2 rfl) ?_
              obtain ⟨hc, h⟩ := kg_of h
              refine al_X12_36 (i := 0) X V rfl hc dX12_layHull_244 ?_
              obtain ⟨hc, h⟩ := kg_of h
              refine as_X12_35 (i := 0) X V rfl hc dX12_layHull_245 (fun H locs V => ?_)
              obtain ⟨z80, ez80⟩ : ∃ y, y = (s76.2.1, s76.2.2.1, va_up s76.2.2.2.1 35 (upd (s76.2.2.2.1 35) ((s76.2.1 37)).toNatClampNeg ((s76.2.2.2.1 36) s76.1.toNatClampNeg)), s76.2.2.2.2) := ⟨_, rfl⟩
              replace h := kl_of ez80 h
              have V : kW D AA s.heap H (List.flatten [gX12 g aT z80]) locs := by rw [ez80]; exact V
              refine lv_aload_n X.1 X.2.1 dX12_layHull_246 rfl (lv_at hl 0 rfl) ?_
              refine lv_dup X.1 X.2.1 dX12_layHull_247 rfl ?_
              refine gf_X12_320 (i := 0) X V rfl dX12_layHull_248 ?_
              refine lv_iconst (v := (1 : Int32)) X.1 X.2.1 dX12_layHull_251 (by decide) ?_
              refine lv_iadd X.1 X.2.1 dX12_layHull_252 ?_
              refine pf_X12_320 (i := 0) X V rfl dX12_layHull_253 (fun H locs V => ?_)
              obtain ⟨z81, ez81⟩ : ∃ y, y = (va_up z80.1 37 ((z80.1 37) + (1 : Int32)), z80.2) := ⟨_, rfl⟩
              replace h := kl_of ez81 h
              have V : kW D AA s.heap H (List.flatten [gX12 g aT z81]) locs := by rw [ez81]; exact V
              obtain ⟨y82, ey82⟩ : ∃ y : Int32, y = (s76.1 + (1 : Int32)) := ⟨_, rfl⟩
              replace h := kl_of ey82 h
              refine lv_iinc (v := y82) (lv' := [(5, .int y82), (0, .ref (aT 0)), (3, .int x58.2.1)]) X.1 X.2.1 dX12_layHull_256 hl (k := 2) rfl (by rw [ey82]; rfl) (by decide) rfl (fun ls hl => ?_)
              refine lv_goto (tgt := 222) X.1 X.2.1 dX12_layHull_259 (by decide) ?_
              obtain rfl := Option.some.inj h
              exact hG79 _ _ _ V (lv_sub hl [1, 2, 0] rfl)
          · intro H locs ls V hl
            have V : kW D AA s.heap H (List.flatten [gX12 g aT x75.2.2]) locs := V
            have hl : lv_has ls 6 [(0, .ref (aT 0)), (3, .int x58.2.1), (5, .int x75.2.1)] := hl
            obtain ⟨hc, h⟩ := kg_of h
            refine W.eq (g2 := F0 m 262 ls []) (by rw [hc]) ?_
            obtain rfl := Option.some.inj h
            rw [hAA] at V
            rw [hQQ]
            exact k_vret X V dX12_layHull_262
      · replace h := kif_f hc h
        obtain rfl := Option.some.inj h
        rw [hAA] at V
        rw [hQQ]
        exact k_vret X V dX12_layHull_120

def p_X12_hasHull (zT : tX12) (v1 : Int32) : Option (Bool × tX12) :=
  kb (p_X12_isLaid zT v1) (fun x1 => kif ((kz x1.1) = 0) (some (false, x1.2)) (kb (p_X12_allSpots x1.2) (fun x2 => kb (p_X12_layHull x1.2 x2) (fun x3 => some (true, x3)))))
set_option maxHeartbeats 4000000 in
set_option maxRecDepth 100000 in
theorem c_X12_hasHull (l : Launch) (D : va_G) (g : kG) (aT : Nat → Nat) (zT : tX12) (v1 : Int32) (r : Bool × tX12) (h : p_X12_hasHull zT v1 = some r) : kMi l yX12_hasHull cX12_hasHull 2 (some .boolean) (kR 3 69) D (kty g) [.ref (aT 0), .int v1] (List.flatten [gX12 g aT zT]) (kz r.1) (List.flatten [gX12 g aT r.2]) := by
  intro sz
  refine k_enter (lv := [(0, .ref (aT 0)), (1, .int v1)]) RX12 (by decide +kernel) rfl rfl (Nat.le_of_ble_eq_true rfl) ?_
  intro p en s m args below meth c ls hsz X V hl
  obtain ⟨QQ, hQQ⟩ : ∃ q, q = MQ below (va_Qi (fun r' (_ : Unit) => r' = kz r.1) (fun _ => kE D (List.flatten [gX12 g aT r.2])) (va_A (List.flatten [gX12 g aT zT]) sz)) args s 0 0 (va_A (List.flatten [gX12 g aT zT]) sz) := ⟨_, rfl⟩
  rw [← hQQ]
  obtain ⟨AA, hAA⟩ : ∃ q, q = va_A (List.flatten [gX12 g aT zT]) sz := ⟨_, rfl⟩
  rw [← hAA] at V
  unfold p_X12_hasHull at h
  refine lv_aload_n X.1 X.2.1 dX12_hasHull_0 rfl (lv_at hl 0 rfl) ?_
  refine lv_iload_n X.1 X.2.1 dX12_hasHull_1 rfl (lv_at hl 1 rfl) ?_
  obtain ⟨x4, hx4, h⟩ := kb_of h
  refine s_callVi (segs' := [gX12 g aT x4.2]) (ci := 12) (i0 := 0) X V (c_X12_isLaid l D g aT zT v1 x4 hx4) w_X12_173 ⟨Nat.le_of_ble_eq_true rfl, Nat.le_of_ble_eq_true rfl⟩ ⟨Nat.zero_le _, Nat.zero_le _⟩ rfl rfl rfl rfl [0] rfl rfl ⟨gX12_fst, trivial⟩ rfl rfl hl.1 (Nat.le_of_ble_eq_true rfl) dX12_hasHull_2 (fun H locs V => ?_)
  refine lv_if_ne (tgt := 10) X.1 X.2.1 dX12_hasHull_5 (by decide) (fun hc => ?_) (fun hc => ?_)
  · replace h := kif_f hc h
    refine lv_aload_n X.1 X.2.1 dX12_hasHull_10 rfl (lv_at hl 0 rfl) ?_
    refine lv_aload_n X.1 X.2.1 dX12_hasHull_11 rfl (lv_at hl 0 rfl) ?_
    obtain ⟨x5, hx5, h⟩ := kb_of h
    refine s_callVl (segs' := [gX12 g aT x4.2]) (ci := 12) (i0 := 0) X V (c_X12_allSpots l D g aT x4.2 x5 hx5) w_X12_281 ⟨Nat.le_of_ble_eq_true rfl, Nat.le_of_ble_eq_true rfl⟩ ⟨Nat.zero_le _, Nat.zero_le _⟩ rfl rfl rfl rfl [0] rfl rfl (kFst_refl _) rfl rfl hl.1 (Nat.le_of_ble_eq_true rfl) dX12_hasHull_12 (fun H locs V => ?_)
    obtain ⟨x6, hx6, h⟩ := kb_of h
    refine s_callVv (segs' := [gX12 g aT x6]) (ci := 12) (i0 := 0) X V (c_X12_layHull l D g aT x4.2 x5 x6 hx6) w_X12_323 ⟨Nat.le_of_ble_eq_true rfl, Nat.le_of_ble_eq_true rfl⟩ ⟨Nat.zero_le _, Nat.zero_le _⟩ rfl rfl rfl rfl [0] rfl rfl ⟨gX12_fst, trivial⟩ rfl rfl hl.1 (Nat.le_of_ble_eq_true rfl) dX12_hasHull_15 (fun H locs V => ?_)
    refine lv_iconst (v := (1 : Int32)) X.1 X.2.1 dX12_hasHull_18 (by decide) ?_
    obtain rfl := Option.some.inj h
    rw [hAA] at V
    rw [hQQ]
    exact k_zret X V (b := true) rfl rfl dX12_hasHull_19
  · replace h := kif_t hc h
    refine lv_iconst (v := (0 : Int32)) X.1 X.2.1 dX12_hasHull_8 (by decide) ?_
    obtain rfl := Option.some.inj h
    rw [hAA] at V
    rw [hQQ]
    exact k_zret X V (b := false) rfl rfl dX12_hasHull_9

def p_X12_isWide (zT : tX12) (v1 : Int32) : Option (Bool × tX12) :=
  kb (p_X12_hasHull zT v1) (fun x1 => kif ((kz x1.1) = 0) (some (false, x1.2)) (kif ((x1.2.1 37) ≤ (2 : Int32)) (some (false, x1.2)) (some (true, x1.2))))
set_option maxHeartbeats 4000000 in
set_option maxRecDepth 100000 in
theorem c_X12_isWide (l : Launch) (D : va_G) (g : kG) (aT : Nat → Nat) (zT : tX12) (v1 : Int32) (r : Bool × tX12) (h : p_X12_isWide zT v1 = some r) : kMi l yX12_isWide cX12_isWide 2 (some .boolean) (kR 4 90) D (kty g) [.ref (aT 0), .int v1] (List.flatten [gX12 g aT zT]) (kz r.1) (List.flatten [gX12 g aT r.2]) := by
  intro sz
  refine k_enter (lv := [(0, .ref (aT 0)), (1, .int v1)]) RX12 (by decide +kernel) rfl rfl (Nat.le_of_ble_eq_true rfl) ?_
  intro p en s m args below meth c ls hsz X V hl
  obtain ⟨QQ, hQQ⟩ : ∃ q, q = MQ below (va_Qi (fun r' (_ : Unit) => r' = kz r.1) (fun _ => kE D (List.flatten [gX12 g aT r.2])) (va_A (List.flatten [gX12 g aT zT]) sz)) args s 0 0 (va_A (List.flatten [gX12 g aT zT]) sz) := ⟨_, rfl⟩
  rw [← hQQ]
  obtain ⟨AA, hAA⟩ : ∃ q, q = va_A (List.flatten [gX12 g aT zT]) sz := ⟨_, rfl⟩
  rw [← hAA] at V
  unfold p_X12_isWide at h
  refine lv_aload_n X.1 X.2.1 dX12_isWide_0 rfl (lv_at hl 0 rfl) ?_
  refine lv_iload_n X.1 X.2.1 dX12_isWide_1 rfl (lv_at hl 1 rfl) ?_
  obtain ⟨x2, hx2, h⟩ := kb_of h
  refine s_callVi (segs' := [gX12 g aT x2.2]) (ci := 12) (i0 := 0) X V (c_X12_hasHull l D g aT zT v1 x2 hx2) w_X12_326 ⟨Nat.le_of_ble_eq_true rfl, Nat.le_of_ble_eq_true rfl⟩ ⟨Nat.zero_le _, Nat.zero_le _⟩ rfl rfl rfl rfl [0] rfl rfl ⟨gX12_fst, trivial⟩ rfl rfl hl.1 (Nat.le_of_ble_eq_true rfl) dX12_isWide_2 (fun H locs V => ?_)
  refine lv_if_eq (tgt := 20) X.1 X.2.1 dX12_isWide_5 (by decide) (fun hc => ?_) (fun hc => ?_)
  · replace h := kif_t hc h
    refine lv_iconst (v := (0 : Int32)) X.1 X.2.1 dX12_isWide_20 (by decide) ?_
    obtain rfl := Option.some.inj h
    rw [hAA] at V
    rw [hQQ]
    exact k_zret X V (b := false) rfl rfl dX12_isWide_21
  · replace h := kif_f hc h
    refine lv_aload_n X.1 X.2.1 dX12_isWide_8 rfl (lv_at hl 0 rfl) ?_
    refine gf_X12_320 (i := 0) X V rfl dX12_isWide_9 ?_
    refine lv_iconst (v := (2 : Int32)) X.1 X.2.1 dX12_isWide_12 (by decide) ?_
    refine lv_icmp_le (tgt := 20) X.1 X.2.1 dX12_isWide_13 (by decide) (fun hc => ?_) (fun hc => ?_)
    · replace h := kif_t hc h
      refine lv_iconst (v := (0 : Int32)) X.1 X.2.1 dX12_isWide_20 (by decide) ?_
      obtain rfl := Option.some.inj h
      rw [hAA] at V
      rw [hQQ]
      exact k_zret X V (b := false) rfl rfl dX12_isWide_21
    · replace h := kif_f hc h
      refine lv_iconst (v := (1 : Int32)) X.1 X.2.1 dX12_isWide_16 (by decide) ?_
      refine lv_goto (tgt := 21) X.1 X.2.1 dX12_isWide_17 (by decide) ?_
      obtain rfl := Option.some.inj h
      rw [hAA] at V
      rw [hQQ]
      exact k_zret X V (b := true) rfl rfl dX12_isWide_21

def p_X12_after (zT : tX12) (v1 : Int32) : Option (Int32) :=
  kif ((zT.1 37) ≤ (v1 + (1 : Int32))) (some (0 : Int32)) (some ((v1 + (1 : Int32))))
set_option maxHeartbeats 4000000 in
set_option maxRecDepth 100000 in
theorem c_X12_after (l : Launch) (D : va_G) (g : kG) (aT : Nat → Nat) (zT : tX12) (v1 : Int32) (r : Int32) (h : p_X12_after zT v1 = some r) : kMi l yX12_after cX12_after 2 (some .int) (kR 0 0) D (kty g) [.ref (aT 0), .int v1] (List.flatten [gX12 g aT zT]) r (List.flatten [gX12 g aT zT]) := by
  intro sz
  refine k_enter (lv := [(0, .ref (aT 0)), (1, .int v1)]) RX12 (by decide +kernel) rfl rfl (Nat.le_of_ble_eq_true rfl) ?_
  intro p en s m args below meth c ls hsz X V hl
  obtain ⟨QQ, hQQ⟩ : ∃ q, q = MQ below (va_Qi (fun r' (_ : Unit) => r' = r) (fun _ => kE D (List.flatten [gX12 g aT zT])) (va_A (List.flatten [gX12 g aT zT]) sz)) args s 0 0 (va_A (List.flatten [gX12 g aT zT]) sz) := ⟨_, rfl⟩
  rw [← hQQ]
  obtain ⟨AA, hAA⟩ : ∃ q, q = va_A (List.flatten [gX12 g aT zT]) sz := ⟨_, rfl⟩
  rw [← hAA] at V
  unfold p_X12_after at h
  refine lv_iload_n X.1 X.2.1 dX12_after_0 rfl (lv_at hl 1 rfl) ?_
  refine lv_iconst (v := (1 : Int32)) X.1 X.2.1 dX12_after_1 (by decide) ?_
  refine lv_iadd X.1 X.2.1 dX12_after_2 ?_
  refine lv_aload_n X.1 X.2.1 dX12_after_3 rfl (lv_at hl 0 rfl) ?_
  refine gf_X12_320 (i := 0) X V rfl dX12_after_4 ?_
  refine lv_icmp_ge (tgt := 16) X.1 X.2.1 dX12_after_7 (by decide) (fun hc => ?_) (fun hc => ?_)
  · replace h := kif_t hc h
    refine lv_iconst (v := (0 : Int32)) X.1 X.2.1 dX12_after_16 (by decide) ?_
    obtain rfl := Option.some.inj h
    rw [hAA] at V
    rw [hQQ]
    exact k_iret X V rfl dX12_after_17
  · replace h := kif_f hc h
    refine lv_iload_n X.1 X.2.1 dX12_after_10 rfl (lv_at hl 1 rfl) ?_
    refine lv_iconst (v := (1 : Int32)) X.1 X.2.1 dX12_after_11 (by decide) ?_
    refine lv_iadd X.1 X.2.1 dX12_after_12 ?_
    refine lv_goto (tgt := 17) X.1 X.2.1 dX12_after_13 (by decide) ?_
    obtain rfl := Option.some.inj h
    rw [hAA] at V
    rw [hQQ]
    exact k_iret X V rfl dX12_after_17
