def p_X12_is_J73 (zT : tX12) (v1 : Int32) : Option (Int32) :=
  kb (p_X12_countPoints zT (v1 - (4 : Int32))) (fun x2 => some x2)
def p_X12_is (zT : tX12) (v1 : Int32) : Option (Int32) :=
  kif (v1 = (0 : Int32)) (kb (p_X12_countPoints zT (-1 : Int32)) (fun x1 => some x1)) (kif (v1 = (1 : Int32)) (kg (kii (168 : Int32) 170) (some (((zT.2.2.1 0) (168 : Int32).toNatClampNeg)))) (kif (v1 = (2 : Int32)) (some ((zT.1 2))) (kif (v1 = (3 : Int32)) (some ((zT.1 4))) (kif (v1 = (4 : Int32)) (p_X12_is_J73 zT v1) (kif (v1 = (5 : Int32)) (p_X12_is_J73 zT v1) (kif (v1 = (6 : Int32)) (p_X12_is_J73 zT v1) (kif (v1 = (7 : Int32)) (p_X12_is_J73 zT v1) (some (-1 : Int32)))))))))
set_option maxHeartbeats 4000000 in
set_option maxRecDepth 100000 in
theorem c_X12_is (l : Launch) (D : va_G) (g : kG) (aT : Nat → Nat) (zT : tX12) (v1 : Int32) (r : Int32) (h : p_X12_is zT v1 = some r) : kMi l yX12_is cX12_is 2 (some .int) (kR 1 23) D (kty g) [.ref (aT 0), .int v1] (List.flatten [gX12 g aT zT]) r (List.flatten [gX12 g aT zT]) := by
  intro sz
  refine k_enter (lv := [(0, .ref (aT 0)), (1, .int v1)]) RX12 (by decide +kernel) rfl rfl (Nat.le_of_ble_eq_true rfl) ?_
  intro p en s m args below meth c ls hsz X V hl
  obtain ⟨QQ, hQQ⟩ : ∃ q, q = MQ below (va_Qi (fun r' (_ : Unit) => r' = r) (fun _ => kE D (List.flatten [gX12 g aT zT])) (va_A (List.flatten [gX12 g aT zT]) sz)) args s 0 0 (va_A (List.flatten [gX12 g aT zT]) sz) := ⟨_, rfl⟩
  rw [← hQQ]
  obtain ⟨AA, hAA⟩ : ∃ q, q = va_A (List.flatten [gX12 g aT zT]) sz := ⟨_, rfl⟩
  rw [← hAA] at V
  have J73 : ∀  (H : Heap) (locs : List Loc) (ls : Array Slot), p_X12_is_J73 zT v1 = some r → kW D AA s.heap H (List.flatten [gX12 g aT zT]) locs → lv_has ls 2 [(0, .ref (aT 0)), (1, .int v1)] → W p l en (kR 1 23) s m args below meth c H locs 0 0 QQ (F0 m 73 ls []) := by
    intro  H locs ls h V hl
    unfold p_X12_is_J73 at h
    refine lv_aload_n X.1 X.2.1 dX12_is_73 rfl (lv_at hl 0 rfl) ?_
    refine lv_iload_n X.1 X.2.1 dX12_is_74 rfl (lv_at hl 1 rfl) ?_
    refine lv_iconst (v := (4 : Int32)) X.1 X.2.1 dX12_is_75 (by decide) ?_
    refine lv_isub X.1 X.2.1 dX12_is_76 ?_
    obtain ⟨x3, hx3, h⟩ := kb_of h
    refine s_callVi (segs' := [gX12 g aT zT]) (ci := 12) (i0 := 0) X V (c_X12_countPoints l D g aT zT (v1 - (4 : Int32)) x3 hx3) w_X12_109 ⟨Nat.le_of_ble_eq_true rfl, Nat.le_of_ble_eq_true rfl⟩ ⟨Nat.zero_le _, Nat.zero_le _⟩ rfl rfl rfl rfl [0] rfl rfl (kFst_refl _) rfl rfl hl.1 (Nat.le_of_ble_eq_true rfl) dX12_is_77 (fun H locs V => ?_)
    obtain rfl := Option.some.inj h
    rw [hAA] at V
    rw [hQQ]
    exact k_iret X V rfl dX12_is_80
  unfold p_X12_is at h
  refine lv_iload_n X.1 X.2.1 dX12_is_0 rfl (lv_at hl 1 rfl) ?_
  by_cases hs0 : v1 = (0 : Int32)
  · replace h := kif_t hs0 h
    refine lv_tableIn (off := 47) (tgt := 48) X.1 X.2.1 dX12_is_1 (by rw [hs0]; decide) (by rw [hs0]; decide) (by rw [hs0]; rfl) (by decide) ?_
    refine lv_aload_n X.1 X.2.1 dX12_is_48 rfl (lv_at hl 0 rfl) ?_
    refine lv_iconst (v := (-1 : Int32)) X.1 X.2.1 dX12_is_49 (by decide) ?_
    obtain ⟨x4, hx4, h⟩ := kb_of h
    refine s_callVi (segs' := [gX12 g aT zT]) (ci := 12) (i0 := 0) X V (c_X12_countPoints l D g aT zT (-1 : Int32) x4 hx4) w_X12_109 ⟨Nat.le_of_ble_eq_true rfl, Nat.le_of_ble_eq_true rfl⟩ ⟨Nat.zero_le _, Nat.zero_le _⟩ rfl rfl rfl rfl [0] rfl rfl (kFst_refl _) rfl rfl hl.1 (Nat.le_of_ble_eq_true rfl) dX12_is_50 (fun H locs V => ?_)
    obtain rfl := Option.some.inj h
    rw [hAA] at V
    rw [hQQ]
    exact k_iret X V rfl dX12_is_53
  · replace h := kif_f hs0 h
    by_cases hs1 : v1 = (1 : Int32)
    · replace h := kif_t hs1 h
      refine lv_tableIn (off := 53) (tgt := 54) X.1 X.2.1 dX12_is_1 (by rw [hs1]; decide) (by rw [hs1]; decide) (by rw [hs1]; rfl) (by decide) ?_
      refine lv_aload_n X.1 X.2.1 dX12_is_54 rfl (lv_at hl 0 rfl) ?_
      refine gf_X12_7 (i := 0) X V rfl dX12_is_55 ?_
      refine lv_sipush (v := (168 : Int32)) X.1 X.2.1 dX12_is_58 (by decide) ?_
      obtain ⟨hc, h⟩ := kg_of h
      refine al_X12_0 (i := 0) X V rfl hc dX12_is_61 ?_
      obtain rfl := Option.some.inj h
      rw [hAA] at V
      rw [hQQ]
      exact k_iret X V rfl dX12_is_62
    · replace h := kif_f hs1 h
      by_cases hs2 : v1 = (2 : Int32)
      · replace h := kif_t hs2 h
        refine lv_tableIn (off := 62) (tgt := 63) X.1 X.2.1 dX12_is_1 (by rw [hs2]; decide) (by rw [hs2]; decide) (by rw [hs2]; rfl) (by decide) ?_
        refine lv_aload_n X.1 X.2.1 dX12_is_63 rfl (lv_at hl 0 rfl) ?_
        refine gf_X12_73 (i := 0) X V rfl dX12_is_64 ?_
        obtain rfl := Option.some.inj h
        rw [hAA] at V
        rw [hQQ]
        exact k_iret X V rfl dX12_is_67
      · replace h := kif_f hs2 h
        by_cases hs3 : v1 = (3 : Int32)
        · replace h := kif_t hs3 h
          refine lv_tableIn (off := 67) (tgt := 68) X.1 X.2.1 dX12_is_1 (by rw [hs3]; decide) (by rw [hs3]; decide) (by rw [hs3]; rfl) (by decide) ?_
          refine lv_aload_n X.1 X.2.1 dX12_is_68 rfl (lv_at hl 0 rfl) ?_
          refine gf_X12_113 (i := 0) X V rfl dX12_is_69 ?_
          obtain rfl := Option.some.inj h
          rw [hAA] at V
          rw [hQQ]
          exact k_iret X V rfl dX12_is_72
        · replace h := kif_f hs3 h
          by_cases hs4 : v1 = (4 : Int32)
          · replace h := kif_t hs4 h
            refine lv_tableIn (off := 72) (tgt := 73) X.1 X.2.1 dX12_is_1 (by rw [hs4]; decide) (by rw [hs4]; decide) (by rw [hs4]; rfl) (by decide) ?_
            exact J73  _ _ _ h V (lv_sub hl [0, 1] rfl)
          · replace h := kif_f hs4 h
            by_cases hs5 : v1 = (5 : Int32)
            · replace h := kif_t hs5 h
              refine lv_tableIn (off := 72) (tgt := 73) X.1 X.2.1 dX12_is_1 (by rw [hs5]; decide) (by rw [hs5]; decide) (by rw [hs5]; rfl) (by decide) ?_
              exact J73  _ _ _ h V (lv_sub hl [0, 1] rfl)
            · replace h := kif_f hs5 h
              by_cases hs6 : v1 = (6 : Int32)
              · replace h := kif_t hs6 h
                refine lv_tableIn (off := 72) (tgt := 73) X.1 X.2.1 dX12_is_1 (by rw [hs6]; decide) (by rw [hs6]; decide) (by rw [hs6]; rfl) (by decide) ?_
                exact J73  _ _ _ h V (lv_sub hl [0, 1] rfl)
              · replace h := kif_f hs6 h
                by_cases hs7 : v1 = (7 : Int32)
                · replace h := kif_t hs7 h
                  refine lv_tableIn (off := 72) (tgt := 73) X.1 X.2.1 dX12_is_1 (by rw [hs7]; decide) (by rw [hs7]; decide) (by rw [hs7]; rfl) (by decide) ?_
                  exact J73  _ _ _ h V (lv_sub hl [0, 1] rfl)
                · replace h := kif_f hs7 h
                  refine lv_tableOut (tgt := 81) X.1 X.2.1 dX12_is_1 (by have q0 := k_ne (0 : Int32) 0 (by decide) hs0; have q1 := k_ne (1 : Int32) 1 (by decide) hs1; have q2 := k_ne (2 : Int32) 2 (by decide) hs2; have q3 := k_ne (3 : Int32) 3 (by decide) hs3; have q4 := k_ne (4 : Int32) 4 (by decide) hs4; have q5 := k_ne (5 : Int32) 5 (by decide) hs5; have q6 := k_ne (6 : Int32) 6 (by decide) hs6; have q7 := k_ne (7 : Int32) 7 (by decide) hs7; omega) (by decide) ?_
                  refine lv_iconst (v := (-1 : Int32)) X.1 X.2.1 dX12_is_81 (by decide) ?_
                  obtain rfl := Option.some.inj h
                  rw [hAA] at V
                  rw [hQQ]
                  exact k_iret X V rfl dX12_is_82

def p_X12_standsX (zT : tX12) (v1 : Int32) : Option (Int32) :=
  kg (kii ((40 : Int32) + v1) 170) (kg (kii ((120 : Int32) + v1) 170) (kg (kii ((160 : Int32) + ((2 : Int32) * ((zT.2.2.1 0) (((120 : Int32) + v1)).toNatClampNeg))) 170) (kg (kii (168 : Int32) 170) (some ((((zT.2.2.1 0) (((40 : Int32) + v1)).toNatClampNeg) + (((zT.2.2.1 0) (((160 : Int32) + ((2 : Int32) * ((zT.2.2.1 0) (((120 : Int32) + v1)).toNatClampNeg)))).toNatClampNeg) * ((zT.2.2.1 0) (168 : Int32).toNatClampNeg))))))))
set_option maxHeartbeats 4000000 in
set_option maxRecDepth 100000 in
theorem c_X12_standsX (l : Launch) (D : va_G) (g : kG) (aT : Nat → Nat) (zT : tX12) (v1 : Int32) (r : Int32) (h : p_X12_standsX zT v1 = some r) : kMi l yX12_standsX cX12_standsX 2 (some .int) (kR 0 0) D (kty g) [.ref (aT 0), .int v1] (List.flatten [gX12 g aT zT]) r (List.flatten [gX12 g aT zT]) := by
  intro sz
  refine k_enter (lv := [(0, .ref (aT 0)), (1, .int v1)]) RX12 (by decide +kernel) rfl rfl (Nat.le_of_ble_eq_true rfl) ?_
  intro p en s m args below meth c ls hsz X V hl
  obtain ⟨QQ, hQQ⟩ : ∃ q, q = MQ below (va_Qi (fun r' (_ : Unit) => r' = r) (fun _ => kE D (List.flatten [gX12 g aT zT])) (va_A (List.flatten [gX12 g aT zT]) sz)) args s 0 0 (va_A (List.flatten [gX12 g aT zT]) sz) := ⟨_, rfl⟩
  rw [← hQQ]
  obtain ⟨AA, hAA⟩ : ∃ q, q = va_A (List.flatten [gX12 g aT zT]) sz := ⟨_, rfl⟩
  rw [← hAA] at V
  unfold p_X12_standsX at h
  refine lv_aload_n X.1 X.2.1 dX12_standsX_0 rfl (lv_at hl 0 rfl) ?_
  refine gf_X12_7 (i := 0) X V rfl dX12_standsX_1 ?_
  refine lv_bipush (v := (40 : Int32)) X.1 X.2.1 dX12_standsX_4 (by decide) ?_
  refine lv_iload_n X.1 X.2.1 dX12_standsX_6 rfl (lv_at hl 1 rfl) ?_
  refine lv_iadd X.1 X.2.1 dX12_standsX_7 ?_
  obtain ⟨hc, h⟩ := kg_of h
  refine al_X12_0 (i := 0) X V rfl hc dX12_standsX_8 ?_
  refine lv_aload_n X.1 X.2.1 dX12_standsX_9 rfl (lv_at hl 0 rfl) ?_
  refine gf_X12_7 (i := 0) X V rfl dX12_standsX_10 ?_
  refine lv_sipush (v := (160 : Int32)) X.1 X.2.1 dX12_standsX_13 (by decide) ?_
  refine lv_iconst (v := (2 : Int32)) X.1 X.2.1 dX12_standsX_16 (by decide) ?_
  refine lv_aload_n X.1 X.2.1 dX12_standsX_17 rfl (lv_at hl 0 rfl) ?_
  refine gf_X12_7 (i := 0) X V rfl dX12_standsX_18 ?_
  refine lv_bipush (v := (120 : Int32)) X.1 X.2.1 dX12_standsX_21 (by decide) ?_
  refine lv_iload_n X.1 X.2.1 dX12_standsX_23 rfl (lv_at hl 1 rfl) ?_
  refine lv_iadd X.1 X.2.1 dX12_standsX_24 ?_
  obtain ⟨hc, h⟩ := kg_of h
  refine al_X12_0 (i := 0) X V rfl hc dX12_standsX_25 ?_
  refine lv_imul X.1 X.2.1 dX12_standsX_26 ?_
  refine lv_iadd X.1 X.2.1 dX12_standsX_27 ?_
  obtain ⟨hc, h⟩ := kg_of h
  refine al_X12_0 (i := 0) X V rfl hc dX12_standsX_28 ?_
  refine lv_aload_n X.1 X.2.1 dX12_standsX_29 rfl (lv_at hl 0 rfl) ?_
  refine gf_X12_7 (i := 0) X V rfl dX12_standsX_30 ?_
  refine lv_sipush (v := (168 : Int32)) X.1 X.2.1 dX12_standsX_33 (by decide) ?_
  obtain ⟨hc, h⟩ := kg_of h
  refine al_X12_0 (i := 0) X V rfl hc dX12_standsX_36 ?_
  refine lv_imul X.1 X.2.1 dX12_standsX_37 ?_
  refine lv_iadd X.1 X.2.1 dX12_standsX_38 ?_
  obtain rfl := Option.some.inj h
  rw [hAA] at V
  rw [hQQ]
  exact k_iret X V rfl dX12_standsX_39

def p_X12_standsY (zT : tX12) (v1 : Int32) : Option (Int32) :=
  kg (kii ((80 : Int32) + v1) 170) (kg (kii ((120 : Int32) + v1) 170) (kg (kii (((160 : Int32) + ((2 : Int32) * ((zT.2.2.1 0) (((120 : Int32) + v1)).toNatClampNeg))) + (1 : Int32)) 170) (kg (kii (168 : Int32) 170) (some ((((zT.2.2.1 0) (((80 : Int32) + v1)).toNatClampNeg) + (((zT.2.2.1 0) ((((160 : Int32) + ((2 : Int32) * ((zT.2.2.1 0) (((120 : Int32) + v1)).toNatClampNeg))) + (1 : Int32))).toNatClampNeg) * ((zT.2.2.1 0) (168 : Int32).toNatClampNeg))))))))
set_option maxHeartbeats 4000000 in
set_option maxRecDepth 100000 in
theorem c_X12_standsY (l : Launch) (D : va_G) (g : kG) (aT : Nat → Nat) (zT : tX12) (v1 : Int32) (r : Int32) (h : p_X12_standsY zT v1 = some r) : kMi l yX12_standsY cX12_standsY 2 (some .int) (kR 0 0) D (kty g) [.ref (aT 0), .int v1] (List.flatten [gX12 g aT zT]) r (List.flatten [gX12 g aT zT]) := by
  intro sz
  refine k_enter (lv := [(0, .ref (aT 0)), (1, .int v1)]) RX12 (by decide +kernel) rfl rfl (Nat.le_of_ble_eq_true rfl) ?_
  intro p en s m args below meth c ls hsz X V hl
  obtain ⟨QQ, hQQ⟩ : ∃ q, q = MQ below (va_Qi (fun r' (_ : Unit) => r' = r) (fun _ => kE D (List.flatten [gX12 g aT zT])) (va_A (List.flatten [gX12 g aT zT]) sz)) args s 0 0 (va_A (List.flatten [gX12 g aT zT]) sz) := ⟨_, rfl⟩
  rw [← hQQ]
  obtain ⟨AA, hAA⟩ : ∃ q, q = va_A (List.flatten [gX12 g aT zT]) sz := ⟨_, rfl⟩
  rw [← hAA] at V
  unfold p_X12_standsY at h
  refine lv_aload_n X.1 X.2.1 dX12_standsY_0 rfl (lv_at hl 0 rfl) ?_
  refine gf_X12_7 (i := 0) X V rfl dX12_standsY_1 ?_
  refine lv_bipush (v := (80 : Int32)) X.1 X.2.1 dX12_standsY_4 (by decide) ?_
  refine lv_iload_n X.1 X.2.1 dX12_standsY_6 rfl (lv_at hl 1 rfl) ?_
  refine lv_iadd X.1 X.2.1 dX12_standsY_7 ?_
  obtain ⟨hc, h⟩ := kg_of h
  refine al_X12_0 (i := 0) X V rfl hc dX12_standsY_8 ?_
  refine lv_aload_n X.1 X.2.1 dX12_standsY_9 rfl (lv_at hl 0 rfl) ?_
  refine gf_X12_7 (i := 0) X V rfl dX12_standsY_10 ?_
  refine lv_sipush (v := (160 : Int32)) X.1 X.2.1 dX12_standsY_13 (by decide) ?_
  refine lv_iconst (v := (2 : Int32)) X.1 X.2.1 dX12_standsY_16 (by decide) ?_
  refine lv_aload_n X.1 X.2.1 dX12_standsY_17 rfl (lv_at hl 0 rfl) ?_
  refine gf_X12_7 (i := 0) X V rfl dX12_standsY_18 ?_
  refine lv_bipush (v := (120 : Int32)) X.1 X.2.1 dX12_standsY_21 (by decide) ?_
  refine lv_iload_n X.1 X.2.1 dX12_standsY_23 rfl (lv_at hl 1 rfl) ?_
  refine lv_iadd X.1 X.2.1 dX12_standsY_24 ?_
  obtain ⟨hc, h⟩ := kg_of h
  refine al_X12_0 (i := 0) X V rfl hc dX12_standsY_25 ?_
  refine lv_imul X.1 X.2.1 dX12_standsY_26 ?_
  refine lv_iadd X.1 X.2.1 dX12_standsY_27 ?_
  refine lv_iconst (v := (1 : Int32)) X.1 X.2.1 dX12_standsY_28 (by decide) ?_
  refine lv_iadd X.1 X.2.1 dX12_standsY_29 ?_
  obtain ⟨hc, h⟩ := kg_of h
  refine al_X12_0 (i := 0) X V rfl hc dX12_standsY_30 ?_
  refine lv_aload_n X.1 X.2.1 dX12_standsY_31 rfl (lv_at hl 0 rfl) ?_
  refine gf_X12_7 (i := 0) X V rfl dX12_standsY_32 ?_
  refine lv_sipush (v := (168 : Int32)) X.1 X.2.1 dX12_standsY_35 (by decide) ?_
  obtain ⟨hc, h⟩ := kg_of h
  refine al_X12_0 (i := 0) X V rfl hc dX12_standsY_38 ?_
  refine lv_imul X.1 X.2.1 dX12_standsY_39 ?_
  refine lv_iadd X.1 X.2.1 dX12_standsY_40 ?_
  obtain rfl := Option.some.inj h
  rw [hAA] at V
  rw [hQQ]
  exact k_iret X V rfl dX12_standsY_41

def p_X12_point (zT : tX12) (v1 : Int32) (v2 : Int32) : Option (Int32) :=
  kb (p_X12_isPoint zT v1) (fun x1 => kif ((kz x1) = 0) (some (-1000 : Int32)) (kif (v2 = (0 : Int32)) (kg (kii ((40 : Int32) + v1) 170) (some (((zT.2.2.1 0) (((40 : Int32) + v1)).toNatClampNeg)))) (kif (v2 = (1 : Int32)) (kg (kii ((80 : Int32) + v1) 170) (some (((zT.2.2.1 0) (((80 : Int32) + v1)).toNatClampNeg)))) (kif (v2 = (2 : Int32)) (kg (kii ((120 : Int32) + v1) 170) (some (((zT.2.2.1 0) (((120 : Int32) + v1)).toNatClampNeg)))) (kif (v2 = (3 : Int32)) (kb (p_X12_standsX zT v1) (fun x2 => some x2)) (kif (v2 = (4 : Int32)) (kb (p_X12_standsY zT v1) (fun x3 => some x3)) (some (-1000 : Int32))))))))
set_option maxHeartbeats 4000000 in
set_option maxRecDepth 100000 in
theorem c_X12_point (l : Launch) (D : va_G) (g : kG) (aT : Nat → Nat) (zT : tX12) (v1 : Int32) (v2 : Int32) (r : Int32) (h : p_X12_point zT v1 v2 = some r) : kMi l yX12_point cX12_point 3 (some .int) (kR 2 43) D (kty g) [.ref (aT 0), .int v1, .int v2] (List.flatten [gX12 g aT zT]) r (List.flatten [gX12 g aT zT]) := by
  intro sz
  refine k_enter (lv := [(0, .ref (aT 0)), (1, .int v1), (2, .int v2)]) RX12 (by decide +kernel) rfl rfl (Nat.le_of_ble_eq_true rfl) ?_
  intro p en s m args below meth c ls hsz X V hl
  obtain ⟨QQ, hQQ⟩ : ∃ q, q = MQ below (va_Qi (fun r' (_ : Unit) => r' = r) (fun _ => kE D (List.flatten [gX12 g aT zT])) (va_A (List.flatten [gX12 g aT zT]) sz)) args s 0 0 (va_A (List.flatten [gX12 g aT zT]) sz) := ⟨_, rfl⟩
  rw [← hQQ]
  obtain ⟨AA, hAA⟩ : ∃ q, q = va_A (List.flatten [gX12 g aT zT]) sz := ⟨_, rfl⟩
  rw [← hAA] at V
  unfold p_X12_point at h
  refine lv_aload_n X.1 X.2.1 dX12_point_0 rfl (lv_at hl 0 rfl) ?_
  refine lv_iload_n X.1 X.2.1 dX12_point_1 rfl (lv_at hl 1 rfl) ?_
  obtain ⟨x4, hx4, h⟩ := kb_of h
  refine s_callVi (segs' := [gX12 g aT zT]) (ci := 12) (i0 := 0) X V (c_X12_isPoint l D g aT zT v1 x4 hx4) w_X12_99 ⟨Nat.le_of_ble_eq_true rfl, Nat.le_of_ble_eq_true rfl⟩ ⟨Nat.zero_le _, Nat.zero_le _⟩ rfl rfl rfl rfl [0] rfl rfl (kFst_refl _) rfl rfl hl.1 (Nat.le_of_ble_eq_true rfl) dX12_point_2 (fun H locs V => ?_)
  refine lv_if_ne (tgt := 12) X.1 X.2.1 dX12_point_5 (by decide) (fun hc => ?_) (fun hc => ?_)
  · replace h := kif_f hc h
    refine lv_iload_n X.1 X.2.1 dX12_point_12 rfl (lv_at hl 2 rfl) ?_
    by_cases hs0 : v2 = (0 : Int32)
    · replace h := kif_t hs0 h
      refine lv_tableIn (off := 35) (tgt := 48) X.1 X.2.1 dX12_point_13 (by rw [hs0]; decide) (by rw [hs0]; decide) (by rw [hs0]; rfl) (by decide) ?_
      refine lv_aload_n X.1 X.2.1 dX12_point_48 rfl (lv_at hl 0 rfl) ?_
      refine gf_X12_7 (i := 0) X V rfl dX12_point_49 ?_
      refine lv_bipush (v := (40 : Int32)) X.1 X.2.1 dX12_point_52 (by decide) ?_
      refine lv_iload_n X.1 X.2.1 dX12_point_54 rfl (lv_at hl 1 rfl) ?_
      refine lv_iadd X.1 X.2.1 dX12_point_55 ?_
      obtain ⟨hc, h⟩ := kg_of h
      refine al_X12_0 (i := 0) X V rfl hc dX12_point_56 ?_
      obtain rfl := Option.some.inj h
      rw [hAA] at V
      rw [hQQ]
      exact k_iret X V rfl dX12_point_57
    · replace h := kif_f hs0 h
      by_cases hs1 : v2 = (1 : Int32)
      · replace h := kif_t hs1 h
        refine lv_tableIn (off := 45) (tgt := 58) X.1 X.2.1 dX12_point_13 (by rw [hs1]; decide) (by rw [hs1]; decide) (by rw [hs1]; rfl) (by decide) ?_
        refine lv_aload_n X.1 X.2.1 dX12_point_58 rfl (lv_at hl 0 rfl) ?_
        refine gf_X12_7 (i := 0) X V rfl dX12_point_59 ?_
        refine lv_bipush (v := (80 : Int32)) X.1 X.2.1 dX12_point_62 (by decide) ?_
        refine lv_iload_n X.1 X.2.1 dX12_point_64 rfl (lv_at hl 1 rfl) ?_
        refine lv_iadd X.1 X.2.1 dX12_point_65 ?_
        obtain ⟨hc, h⟩ := kg_of h
        refine al_X12_0 (i := 0) X V rfl hc dX12_point_66 ?_
        obtain rfl := Option.some.inj h
        rw [hAA] at V
        rw [hQQ]
        exact k_iret X V rfl dX12_point_67
      · replace h := kif_f hs1 h
        by_cases hs2 : v2 = (2 : Int32)
        · replace h := kif_t hs2 h
          refine lv_tableIn (off := 55) (tgt := 68) X.1 X.2.1 dX12_point_13 (by rw [hs2]; decide) (by rw [hs2]; decide) (by rw [hs2]; rfl) (by decide) ?_
          refine lv_aload_n X.1 X.2.1 dX12_point_68 rfl (lv_at hl 0 rfl) ?_
          refine gf_X12_7 (i := 0) X V rfl dX12_point_69 ?_
          refine lv_bipush (v := (120 : Int32)) X.1 X.2.1 dX12_point_72 (by decide) ?_
          refine lv_iload_n X.1 X.2.1 dX12_point_74 rfl (lv_at hl 1 rfl) ?_
          refine lv_iadd X.1 X.2.1 dX12_point_75 ?_
          obtain ⟨hc, h⟩ := kg_of h
          refine al_X12_0 (i := 0) X V rfl hc dX12_point_76 ?_
          obtain rfl := Option.some.inj h
          rw [hAA] at V
          rw [hQQ]
          exact k_iret X V rfl dX12_point_77
        · replace h := kif_f hs2 h
          by_cases hs3 : v2 = (3 : Int32)
          · replace h := kif_t hs3 h
            refine lv_tableIn (off := 65) (tgt := 78) X.1 X.2.1 dX12_point_13 (by rw [hs3]; decide) (by rw [hs3]; decide) (by rw [hs3]; rfl) (by decide) ?_
            refine lv_aload_n X.1 X.2.1 dX12_point_78 rfl (lv_at hl 0 rfl) ?_
            refine lv_iload_n X.1 X.2.1 dX12_point_79 rfl (lv_at hl 1 rfl) ?_
            obtain ⟨x5, hx5, h⟩ := kb_of h
            refine s_callVi (segs' := [gX12 g aT zT]) (ci := 12) (i0 := 0) X V (c_X12_standsX l D g aT zT v1 x5 hx5) w_X12_116 ⟨Nat.le_of_ble_eq_true rfl, Nat.le_of_ble_eq_true rfl⟩ ⟨Nat.zero_le _, Nat.zero_le _⟩ rfl rfl rfl rfl [0] rfl rfl (kFst_refl _) rfl rfl hl.1 (Nat.le_of_ble_eq_true rfl) dX12_point_80 (fun H locs V => ?_)
            obtain rfl := Option.some.inj h
            rw [hAA] at V
            rw [hQQ]
            exact k_iret X V rfl dX12_point_83
          · replace h := kif_f hs3 h
            by_cases hs4 : v2 = (4 : Int32)
            · replace h := kif_t hs4 h
              refine lv_tableIn (off := 71) (tgt := 84) X.1 X.2.1 dX12_point_13 (by rw [hs4]; decide) (by rw [hs4]; decide) (by rw [hs4]; rfl) (by decide) ?_
              refine lv_aload_n X.1 X.2.1 dX12_point_84 rfl (lv_at hl 0 rfl) ?_
              refine lv_iload_n X.1 X.2.1 dX12_point_85 rfl (lv_at hl 1 rfl) ?_
              obtain ⟨x6, hx6, h⟩ := kb_of h
              refine s_callVi (segs' := [gX12 g aT zT]) (ci := 12) (i0 := 0) X V (c_X12_standsY l D g aT zT v1 x6 hx6) w_X12_119 ⟨Nat.le_of_ble_eq_true rfl, Nat.le_of_ble_eq_true rfl⟩ ⟨Nat.zero_le _, Nat.zero_le _⟩ rfl rfl rfl rfl [0] rfl rfl (kFst_refl _) rfl rfl hl.1 (Nat.le_of_ble_eq_true rfl) dX12_point_86 (fun H locs V => ?_)
              obtain rfl := Option.some.inj h
              rw [hAA] at V
              rw [hQQ]
              exact k_iret X V rfl dX12_point_89
            · replace h := kif_f hs4 h
              refine lv_tableOut (tgt := 90) X.1 X.2.1 dX12_point_13 (by have q0 := k_ne (0 : Int32) 0 (by decide) hs0; have q1 := k_ne (1 : Int32) 1 (by decide) hs1; have q2 := k_ne (2 : Int32) 2 (by decide) hs2; have q3 := k_ne (3 : Int32) 3 (by decide) hs3; have q4 := k_ne (4 : Int32) 4 (by decide) hs4; omega) (by decide) ?_
              refine lv_sipush (v := (-1000 : Int32)) X.1 X.2.1 dX12_point_90 (by decide) ?_
              obtain rfl := Option.some.inj h
              rw [hAA] at V
              rw [hQQ]
              exact k_iret X V rfl dX12_point_93
  · replace h := kif_t hc h
    refine lv_sipush (v := (-1000 : Int32)) X.1 X.2.1 dX12_point_8 (by decide) ?_
    obtain rfl := Option.some.inj h
    rw [hAA] at V
    rw [hQQ]
    exact k_iret X V rfl dX12_point_11

def p_X12_four_L3 (v1 : Int32) (s : Int32 × tX12) : Option (Nat × (Int32 × tX12)) :=
  kif (s.1 < 0) (some (36, (s.1, s.2))) (kg (kii (s.2.1 4) 400) (kl (s.2.1, s.2.2.1, va_up s.2.2.2.1 3 (upd (s.2.2.2.1 3) ((s.2.1 4)).toNatClampNeg (vp_nar .byte ((v1 >>> (s.1 &&& 31))).toInt8.toInt32)), s.2.2.2.2) (fun z1 => kl (va_up z1.1 4 ((z1.1 4) + (1 : Int32)), z1.2) (fun z2 => kl (s.1 + (-8 : Int32)) (fun y3 => some (3, (y3, z2)))))))
def p_X12_four (zT : tX12) (v1 : Int32) : Option (tX12) :=
  kb (kitr 3 (fun q => p_X12_four_L3 v1 q) kF ((24 : Int32), zT)) (fun x4 => kg (x4.1 = 36) (some x4.2.2))
set_option maxHeartbeats 4000000 in
set_option maxRecDepth 100000 in
theorem c_X12_four (l : Launch) (D : va_G) (g : kG) (aT : Nat → Nat) (zT : tX12) (v1 : Int32) (r : tX12) (h : p_X12_four zT v1 = some r) : kMv l yX12_four cX12_four 3 none (kR 0 0) D (kty g) [.ref (aT 0), .int v1] (List.flatten [gX12 g aT zT]) (List.flatten [gX12 g aT r]) := by
  intro sz
  refine k_enter (lv := [(0, .ref (aT 0)), (1, .int v1)]) RX12 (by decide +kernel) rfl rfl (Nat.le_of_ble_eq_true rfl) ?_
  intro p en s m args below meth c ls hsz X V hl
  obtain ⟨QQ, hQQ⟩ : ∃ q, q = MQ below (va_Qv (fun (_ : Unit) => True) (fun _ => kE D (List.flatten [gX12 g aT r])) (va_A (List.flatten [gX12 g aT zT]) sz)) args s 0 0 (va_A (List.flatten [gX12 g aT zT]) sz) := ⟨_, rfl⟩
  rw [← hQQ]
  obtain ⟨AA, hAA⟩ : ∃ q, q = va_A (List.flatten [gX12 g aT zT]) sz := ⟨_, rfl⟩
  rw [← hAA] at V
  unfold p_X12_four at h
  refine lv_bipush (v := (24 : Int32)) X.1 X.2.1 dX12_four_0 (by decide) ?_
  refine lv_istore_n (lv' := [(2, .int (24 : Int32)), (0, .ref (aT 0)), (1, .int v1)]) X.1 X.2.1 dX12_four_2 rfl hl (by decide) rfl (fun ls hl => ?_)
  obtain ⟨x5, hx5, h⟩ := kb_of h
  refine (kitr_go (hd := 3) (body := fun q => p_X12_four_L3 v1 q) (G := (fun e => ∀ (H : Heap) (locs : List Loc) (ls : Array Slot), kW D AA s.heap H (List.flatten [gX12 g aT e.2.2]) locs → lv_has ls 3 [(0, .ref (aT 0)), (1, .int v1), (2, .int e.2.1)] → W p l en (kR 0 0) s m args below meth c H locs 0 0 QQ (F0 m e.1 ls []))) (fun s6 e7 hb8 hG9 => ?_) kF _ x5 hx5 ?_) _ _ _ V (lv_sub hl [1, 2, 0] rfl)
  · intro H locs ls V hl
    show W p l en (kR 0 0) s m args below meth c H locs 0 0 QQ (F0 m 3 ls [])
    have h : p_X12_four_L3 v1 s6 = some e7 := hb8
    unfold p_X12_four_L3 at h
    have V : kW D AA s.heap H (List.flatten [gX12 g aT s6.2]) locs := V
    have hl : lv_has ls 3 [(0, .ref (aT 0)), (1, .int v1), (2, .int s6.1)] := hl
    refine lv_iload_n X.1 X.2.1 dX12_four_3 rfl (lv_at hl 2 rfl) ?_
    refine lv_if_lt (tgt := 36) X.1 X.2.1 dX12_four_4 (by decide) (fun hc => ?_) (fun hc => ?_)
    · replace h := kif_t hc h
      obtain rfl := Option.some.inj h
      exact hG9 _ _ _ V (lv_sub hl [0, 1, 2] rfl)
    · replace h := kif_f hc h
      refine lv_aload_n X.1 X.2.1 dX12_four_7 rfl (lv_at hl 0 rfl) ?_
      refine gf_X12_16 (i := 0) X V rfl dX12_four_8 ?_
      refine lv_aload_n X.1 X.2.1 dX12_four_11 rfl (lv_at hl 0 rfl) ?_
      refine gf_X12_113 (i := 0) X V rfl dX12_four_12 ?_
      refine lv_iload_n X.1 X.2.1 dX12_four_15 rfl (lv_at hl 1 rfl) ?_
      refine lv_iload_n X.1 X.2.1 dX12_four_16 rfl (lv_at hl 2 rfl) ?_
      refine lv_ishr X.1 X.2.1 dX12_four_17 ?_
      refine lv_i2b X.1 X.2.1 dX12_four_18 rfl ?_
      obtain ⟨hc, h⟩ := kg_of h
      refine as_X12_3 (i := 0) X V rfl hc dX12_four_19 (fun H locs V => ?_)
      obtain ⟨z10, ez10⟩ : ∃ y, y = (s6.2.1, s6.2.2.1, va_up s6.2.2.2.1 3 (upd (s6.2.2.2.1 3) ((s6.2.1 4)).toNatClampNeg (vp_nar .byte ((v1 >>> (s6.1 &&& 31))).toInt8.toInt32)), s6.2.2.2.2) := ⟨_, rfl⟩
      replace h := kl_of ez10 h
      have V : kW D AA s.heap H (List.flatten [gX12 g aT z10]) locs := by rw [ez10]; exact V
      refine lv_aload_n X.1 X.2.1 dX12_four_20 rfl (lv_at hl 0 rfl) ?_
      refine lv_dup X.1 X.2.1 dX12_four_21 rfl ?_
      refine gf_X12_113 (i := 0) X V rfl dX12_four_22 ?_
      refine lv_iconst (v := (1 : Int32)) X.1 X.2.1 dX12_four_25 (by decide) ?_
      refine lv_iadd X.1 X.2.1 dX12_four_26 ?_
      refine pf_X12_113 (i := 0) X V rfl dX12_four_27 (fun H locs V => ?_)
      obtain ⟨z11, ez11⟩ : ∃ y, y = (va_up z10.1 4 ((z10.1 4) + (1 : Int32)), z10.2) := ⟨_, rfl⟩
      replace h := kl_of ez11 h
      have V : kW D AA s.heap H (List.flatten [gX12 g aT z11]) locs := by rw [ez11]; exact V
      obtain ⟨y12, ey12⟩ : ∃ y : Int32, y = (s6.1 + (-8 : Int32)) := ⟨_, rfl⟩
      replace h := kl_of ey12 h
      refine lv_iinc (v := y12) (lv' := [(2, .int y12), (0, .ref (aT 0)), (1, .int v1)]) X.1 X.2.1 dX12_four_30 hl (k := 2) rfl (by rw [ey12]; rfl) (by decide) rfl (fun ls hl => ?_)
      refine lv_goto (tgt := 3) X.1 X.2.1 dX12_four_33 (by decide) ?_
      obtain rfl := Option.some.inj h
      exact hG9 _ _ _ V (lv_sub hl [1, 2, 0] rfl)
  · intro H locs ls V hl
    have V : kW D AA s.heap H (List.flatten [gX12 g aT x5.2.2]) locs := V
    have hl : lv_has ls 3 [(0, .ref (aT 0)), (1, .int v1), (2, .int x5.2.1)] := hl
    obtain ⟨hc, h⟩ := kg_of h
    refine W.eq (g2 := F0 m 36 ls []) (by rw [hc]) ?_
    obtain rfl := Option.some.inj h
    rw [hAA] at V
    rw [hQQ]
    exact k_vret X V dX12_four_36

def p_X12_feed (zT : tX12) (v1 : Int32) (v2 : Int32) (v3 : Int32) (v4 : Int32) (v5 : Int32) : Option (Int32 × tX12) :=
  kif (((zT.1 4) + (20 : Int32)) ≤ (400 : Int32)) (kb (p_X12_four zT v1) (fun x1 => kb (p_X12_four x1 v2) (fun x2 => kb (p_X12_four x2 v3) (fun x3 => kb (p_X12_four x3 v4) (fun x4 => kb (p_X12_four x4 v5) (fun x5 => some ((x5.1 4), x5))))))) (some ((-1 : Int32), zT))
set_option maxHeartbeats 4000000 in
set_option maxRecDepth 100000 in
theorem c_X12_feed (l : Launch) (D : va_G) (g : kG) (aT : Nat → Nat) (zT : tX12) (v1 : Int32) (v2 : Int32) (v3 : Int32) (v4 : Int32) (v5 : Int32) (r : Int32 × tX12) (h : p_X12_feed zT v1 v2 v3 v4 v5 = some r) : kMi l yX12_feed cX12_feed 6 (some .int) (kR 1 22) D (kty g) [.ref (aT 0), .int v1, .int v2, .int v3, .int v4, .int v5] (List.flatten [gX12 g aT zT]) r.1 (List.flatten [gX12 g aT r.2]) := by
  intro sz
  refine k_enter (lv := [(0, .ref (aT 0)), (1, .int v1), (2, .int v2), (3, .int v3), (4, .int v4), (5, .int v5)]) RX12 (by decide +kernel) rfl rfl (Nat.le_of_ble_eq_true rfl) ?_
  intro p en s m args below meth c ls hsz X V hl
  obtain ⟨QQ, hQQ⟩ : ∃ q, q = MQ below (va_Qi (fun r' (_ : Unit) => r' = r.1) (fun _ => kE D (List.flatten [gX12 g aT r.2])) (va_A (List.flatten [gX12 g aT zT]) sz)) args s 0 0 (va_A (List.flatten [gX12 g aT zT]) sz) := ⟨_, rfl⟩
  rw [← hQQ]
  obtain ⟨AA, hAA⟩ : ∃ q, q = va_A (List.flatten [gX12 g aT zT]) sz := ⟨_, rfl⟩
  rw [← hAA] at V
  unfold p_X12_feed at h
  refine lv_aload_n X.1 X.2.1 dX12_feed_0 rfl (lv_at hl 0 rfl) ?_
  refine gf_X12_113 (i := 0) X V rfl dX12_feed_1 ?_
  refine lv_bipush (v := (20 : Int32)) X.1 X.2.1 dX12_feed_4 (by decide) ?_
  refine lv_iadd X.1 X.2.1 dX12_feed_6 ?_
  refine lv_sipush (v := (400 : Int32)) X.1 X.2.1 dX12_feed_7 (by decide) ?_
  refine lv_icmp_le (tgt := 15) X.1 X.2.1 dX12_feed_10 (by decide) (fun hc => ?_) (fun hc => ?_)
  · replace h := kif_t hc h
    refine lv_aload_n X.1 X.2.1 dX12_feed_15 rfl (lv_at hl 0 rfl) ?_
    refine lv_iload_n X.1 X.2.1 dX12_feed_16 rfl (lv_at hl 1 rfl) ?_
    obtain ⟨x6, hx6, h⟩ := kb_of h
    refine s_callVv (segs' := [gX12 g aT x6]) (ci := 12) (i0 := 0) X V (c_X12_four l D g aT zT v1 x6 hx6) w_X12_122 ⟨Nat.le_of_ble_eq_true rfl, Nat.le_of_ble_eq_true rfl⟩ ⟨Nat.zero_le _, Nat.zero_le _⟩ rfl rfl rfl rfl [0] rfl rfl ⟨gX12_fst, trivial⟩ rfl rfl hl.1 (Nat.le_of_ble_eq_true rfl) dX12_feed_17 (fun H locs V => ?_)
    refine lv_aload_n X.1 X.2.1 dX12_feed_20 rfl (lv_at hl 0 rfl) ?_
    refine lv_iload_n X.1 X.2.1 dX12_feed_21 rfl (lv_at hl 2 rfl) ?_
    obtain ⟨x7, hx7, h⟩ := kb_of h
    refine s_callVv (segs' := [gX12 g aT x7]) (ci := 12) (i0 := 0) X V (c_X12_four l D g aT x6 v2 x7 hx7) w_X12_122 ⟨Nat.le_of_ble_eq_true rfl, Nat.le_of_ble_eq_true rfl⟩ ⟨Nat.zero_le _, Nat.zero_le _⟩ rfl rfl rfl rfl [0] rfl rfl ⟨gX12_fst, trivial⟩ rfl rfl hl.1 (Nat.le_of_ble_eq_true rfl) dX12_feed_22 (fun H locs V => ?_)
    refine lv_aload_n X.1 X.2.1 dX12_feed_25 rfl (lv_at hl 0 rfl) ?_
    refine lv_iload_n X.1 X.2.1 dX12_feed_26 rfl (lv_at hl 3 rfl) ?_
    obtain ⟨x8, hx8, h⟩ := kb_of h
    refine s_callVv (segs' := [gX12 g aT x8]) (ci := 12) (i0 := 0) X V (c_X12_four l D g aT x7 v3 x8 hx8) w_X12_122 ⟨Nat.le_of_ble_eq_true rfl, Nat.le_of_ble_eq_true rfl⟩ ⟨Nat.zero_le _, Nat.zero_le _⟩ rfl rfl rfl rfl [0] rfl rfl ⟨gX12_fst, trivial⟩ rfl rfl hl.1 (Nat.le_of_ble_eq_true rfl) dX12_feed_27 (fun H locs V => ?_)
    refine lv_aload_n X.1 X.2.1 dX12_feed_30 rfl (lv_at hl 0 rfl) ?_
    refine lv_iload X.1 X.2.1 dX12_feed_31 (lv_at hl 4 rfl) ?_
    obtain ⟨x9, hx9, h⟩ := kb_of h
    refine s_callVv (segs' := [gX12 g aT x9]) (ci := 12) (i0 := 0) X V (c_X12_four l D g aT x8 v4 x9 hx9) w_X12_122 ⟨Nat.le_of_ble_eq_true rfl, Nat.le_of_ble_eq_true rfl⟩ ⟨Nat.zero_le _, Nat.zero_le _⟩ rfl rfl rfl rfl [0] rfl rfl ⟨gX12_fst, trivial⟩ rfl rfl hl.1 (Nat.le_of_ble_eq_true rfl) dX12_feed_33 (fun H locs V => ?_)
    refine lv_aload_n X.1 X.2.1 dX12_feed_36 rfl (lv_at hl 0 rfl) ?_
    refine lv_iload X.1 X.2.1 dX12_feed_37 (lv_at hl 5 rfl) ?_
    obtain ⟨x10, hx10, h⟩ := kb_of h
    refine s_callVv (segs' := [gX12 g aT x10]) (ci := 12) (i0 := 0) X V (c_X12_four l D g aT x9 v5 x10 hx10) w_X12_122 ⟨Nat.le_of_ble_eq_true rfl, Nat.le_of_ble_eq_true rfl⟩ ⟨Nat.zero_le _, Nat.zero_le _⟩ rfl rfl rfl rfl [0] rfl rfl ⟨gX12_fst, trivial⟩ rfl rfl hl.1 (Nat.le_of_ble_eq_true rfl) dX12_feed_39 (fun H locs V => ?_)
    refine lv_aload_n X.1 X.2.1 dX12_feed_42 rfl (lv_at hl 0 rfl) ?_
    refine gf_X12_113 (i := 0) X V rfl dX12_feed_43 ?_
    obtain rfl := Option.some.inj h
    rw [hAA] at V
    rw [hQQ]
    exact k_iret X V rfl dX12_feed_46
  · replace h := kif_f hc h
    refine lv_iconst (v := (-1 : Int32)) X.1 X.2.1 dX12_feed_13 (by decide) ?_
    obtain rfl := Option.some.inj h
    rw [hAA] at V
    rw [hQQ]
    exact k_iret X V rfl dX12_feed_14

def p_X12_end (zT : tX12) (v1 : Int32) : Option (Int32 × tX12) :=
  kb (p_X12_isIn v1 (0 : Int32) (zT.1 4)) (fun x1 => kif ((kz x1) = 0) (some ((-1 : Int32), zT)) (kl (va_up zT.1 4 v1, zT.2) (fun z2 => some (v1, z2))))
set_option maxHeartbeats 4000000 in
set_option maxRecDepth 100000 in
theorem c_X12_end (l : Launch) (D : va_G) (g : kG) (aT : Nat → Nat) (zT : tX12) (v1 : Int32) (r : Int32 × tX12) (h : p_X12_end zT v1 = some r) : kMi l yX12_end cX12_end 2 (some .int) (kR 1 22) D (kty g) [.ref (aT 0), .int v1] (List.flatten [gX12 g aT zT]) r.1 (List.flatten [gX12 g aT r.2]) := by
  intro sz
  refine k_enter (lv := [(0, .ref (aT 0)), (1, .int v1)]) RX12 (by decide +kernel) rfl rfl (Nat.le_of_ble_eq_true rfl) ?_
  intro p en s m args below meth c ls hsz X V hl
  obtain ⟨QQ, hQQ⟩ : ∃ q, q = MQ below (va_Qi (fun r' (_ : Unit) => r' = r.1) (fun _ => kE D (List.flatten [gX12 g aT r.2])) (va_A (List.flatten [gX12 g aT zT]) sz)) args s 0 0 (va_A (List.flatten [gX12 g aT zT]) sz) := ⟨_, rfl⟩
  rw [← hQQ]
  obtain ⟨AA, hAA⟩ : ∃ q, q = va_A (List.flatten [gX12 g aT zT]) sz := ⟨_, rfl⟩
  rw [← hAA] at V
  unfold p_X12_end at h
  refine lv_iload_n X.1 X.2.1 dX12_end_0 rfl (lv_at hl 1 rfl) ?_
  refine lv_iconst (v := (0 : Int32)) X.1 X.2.1 dX12_end_1 (by decide) ?_
  refine lv_aload_n X.1 X.2.1 dX12_end_2 rfl (lv_at hl 0 rfl) ?_
  refine gf_X12_113 (i := 0) X V rfl dX12_end_3 ?_
  obtain ⟨x3, hx3, h⟩ := kb_of h
  refine s_callSi (segs' := [gX12 g aT zT]) X V (c_X12_isIn l D g v1 (0 : Int32) (zT.1 4) x3 hx3) w_X12_76 ⟨Nat.le_of_ble_eq_true rfl, Nat.le_of_ble_eq_true rfl⟩ ⟨Nat.zero_le _, Nat.zero_le _⟩ rfl [] rfl rfl (kFst_refl _) rfl rfl hl.1 (Nat.le_of_ble_eq_true rfl) dX12_end_6 (fun H locs V => ?_)
  refine lv_if_ne (tgt := 14) X.1 X.2.1 dX12_end_9 (by decide) (fun hc => ?_) (fun hc => ?_)
  · replace h := kif_f hc h
    refine lv_aload_n X.1 X.2.1 dX12_end_14 rfl (lv_at hl 0 rfl) ?_
    refine lv_iload_n X.1 X.2.1 dX12_end_15 rfl (lv_at hl 1 rfl) ?_
    refine pf_X12_113 (i := 0) X V rfl dX12_end_16 (fun H locs V => ?_)
    obtain ⟨z4, ez4⟩ : ∃ y, y = (va_up zT.1 4 v1, zT.2) := ⟨_, rfl⟩
    replace h := kl_of ez4 h
    have V : kW D AA s.heap H (List.flatten [gX12 g aT z4]) locs := by rw [ez4]; exact V
    refine lv_iload_n X.1 X.2.1 dX12_end_19 rfl (lv_at hl 1 rfl) ?_
    obtain rfl := Option.some.inj h
    rw [hAA] at V
    rw [hQQ]
    exact k_iret X V rfl dX12_end_20
  · replace h := kif_t hc h
    refine lv_iconst (v := (-1 : Int32)) X.1 X.2.1 dX12_end_12 (by decide) ?_
    obtain rfl := Option.some.inj h
    rw [hAA] at V
    rw [hQQ]
    exact k_iret X V rfl dX12_end_13

def p_X12_here (zT : tX12) : Option (Int32) :=
  kif ((zT.1 4) ≤ (zT.1 5)) (some (-1 : Int32)) (kg (kii (zT.1 5) 400) (some ((((zT.2.2.1 3) ((zT.1 5)).toNatClampNeg) &&& (255 : Int32)))))
set_option maxHeartbeats 4000000 in
set_option maxRecDepth 100000 in
theorem c_X12_here (l : Launch) (D : va_G) (g : kG) (aT : Nat → Nat) (zT : tX12) (r : Int32) (h : p_X12_here zT = some r) : kMi l yX12_here cX12_here 1 (some .int) (kR 0 0) D (kty g) [.ref (aT 0)] (List.flatten [gX12 g aT zT]) r (List.flatten [gX12 g aT zT]) := by
  intro sz
  refine k_enter (lv := [(0, .ref (aT 0))]) RX12 (by decide +kernel) rfl rfl (Nat.le_of_ble_eq_true rfl) ?_
  intro p en s m args below meth c ls hsz X V hl
  obtain ⟨QQ, hQQ⟩ : ∃ q, q = MQ below (va_Qi (fun r' (_ : Unit) => r' = r) (fun _ => kE D (List.flatten [gX12 g aT zT])) (va_A (List.flatten [gX12 g aT zT]) sz)) args s 0 0 (va_A (List.flatten [gX12 g aT zT]) sz) := ⟨_, rfl⟩
  rw [← hQQ]
  obtain ⟨AA, hAA⟩ : ∃ q, q = va_A (List.flatten [gX12 g aT zT]) sz := ⟨_, rfl⟩
  rw [← hAA] at V
  unfold p_X12_here at h
  refine lv_aload_n X.1 X.2.1 dX12_here_0 rfl (lv_at hl 0 rfl) ?_
  refine gf_X12_126 (i := 0) X V rfl dX12_here_1 ?_
  refine lv_aload_n X.1 X.2.1 dX12_here_4 rfl (lv_at hl 0 rfl) ?_
  refine gf_X12_113 (i := 0) X V rfl dX12_here_5 ?_
  refine lv_icmp_ge (tgt := 27) X.1 X.2.1 dX12_here_8 (by decide) (fun hc => ?_) (fun hc => ?_)
  · replace h := kif_t hc h
    refine lv_iconst (v := (-1 : Int32)) X.1 X.2.1 dX12_here_27 (by decide) ?_
    obtain rfl := Option.some.inj h
    rw [hAA] at V
    rw [hQQ]
    exact k_iret X V rfl dX12_here_28
  · replace h := kif_f hc h
    refine lv_aload_n X.1 X.2.1 dX12_here_11 rfl (lv_at hl 0 rfl) ?_
    refine gf_X12_16 (i := 0) X V rfl dX12_here_12 ?_
    refine lv_aload_n X.1 X.2.1 dX12_here_15 rfl (lv_at hl 0 rfl) ?_
    refine gf_X12_126 (i := 0) X V rfl dX12_here_16 ?_
    obtain ⟨hc, h⟩ := kg_of h
    refine al_X12_3 (i := 0) X V rfl hc dX12_here_19 ?_
    refine lv_sipush (v := (255 : Int32)) X.1 X.2.1 dX12_here_20 (by decide) ?_
    refine lv_iand X.1 X.2.1 dX12_here_23 ?_
    refine lv_goto (tgt := 28) X.1 X.2.1 dX12_here_24 (by decide) ?_
    obtain rfl := Option.some.inj h
    rw [hAA] at V
    rw [hQQ]
    exact k_iret X V rfl dX12_here_28

def p_X12_isFigure (v0 : Int32) : Option (Bool) :=
  kif (v0 < (48 : Int32)) (some false) (kif ((57 : Int32) < v0) (some false) (some true))
set_option maxHeartbeats 4000000 in
set_option maxRecDepth 100000 in
theorem c_X12_isFigure (l : Launch) (D : va_G) (g : kG)  (v0 : Int32) (r : Bool) (h : p_X12_isFigure v0 = some r) : kMi l yX12_isFigure cX12_isFigure 1 (some .boolean) (kR 0 0) D (kty g) [.int v0] (List.flatten ([] : List va_W)) (kz r) (List.flatten ([] : List va_W)) := by
  intro sz
  refine k_enter (lv := [(0, .int v0)]) RX12 (by decide +kernel) rfl rfl (Nat.le_of_ble_eq_true rfl) ?_
  intro p en s m args below meth c ls hsz X V hl
  obtain ⟨QQ, hQQ⟩ : ∃ q, q = MQ below (va_Qi (fun r' (_ : Unit) => r' = kz r) (fun _ => kE D (List.flatten ([] : List va_W))) (va_A (List.flatten ([] : List va_W)) sz)) args s 0 0 (va_A (List.flatten ([] : List va_W)) sz) := ⟨_, rfl⟩
  rw [← hQQ]
  obtain ⟨AA, hAA⟩ : ∃ q, q = va_A (List.flatten ([] : List va_W)) sz := ⟨_, rfl⟩
  rw [← hAA] at V
  unfold p_X12_isFigure at h
  refine lv_iload_n X.1 X.2.1 dX12_isFigure_0 rfl (lv_at hl 0 rfl) ?_
  refine lv_bipush (v := (48 : Int32)) X.1 X.2.1 dX12_isFigure_1 (by decide) ?_
  refine lv_icmp_lt (tgt := 16) X.1 X.2.1 dX12_isFigure_3 (by decide) (fun hc => ?_) (fun hc => ?_)
  · replace h := kif_t hc h
    refine lv_iconst (v := (0 : Int32)) X.1 X.2.1 dX12_isFigure_16 (by decide) ?_
    obtain rfl := Option.some.inj h
    rw [hAA] at V
    rw [hQQ]
    exact k_zret X V (b := false) rfl rfl dX12_isFigure_17
  · replace h := kif_f hc h
    refine lv_iload_n X.1 X.2.1 dX12_isFigure_6 rfl (lv_at hl 0 rfl) ?_
    refine lv_bipush (v := (57 : Int32)) X.1 X.2.1 dX12_isFigure_7 (by decide) ?_
    refine lv_icmp_gt (tgt := 16) X.1 X.2.1 dX12_isFigure_9 (by decide) (fun hc => ?_) (fun hc => ?_)
    · replace h := kif_t hc h
      refine lv_iconst (v := (0 : Int32)) X.1 X.2.1 dX12_isFigure_16 (by decide) ?_
      obtain rfl := Option.some.inj h
      rw [hAA] at V
      rw [hQQ]
      exact k_zret X V (b := false) rfl rfl dX12_isFigure_17
    · replace h := kif_f hc h
      refine lv_iconst (v := (1 : Int32)) X.1 X.2.1 dX12_isFigure_12 (by decide) ?_
      refine lv_goto (tgt := 17) X.1 X.2.1 dX12_isFigure_13 (by decide) ?_
      obtain rfl := Option.some.inj h
      rw [hAA] at V
      rw [hQQ]
      exact k_zret X V (b := true) rfl rfl dX12_isFigure_17

def p_X12_fails (zT : tX12) (v1 : Int32) : Option (Bool × tX12) :=
  kl (va_up zT.1 6 v1, zT.2) (fun z1 => some (false, z1))
set_option maxHeartbeats 4000000 in
set_option maxRecDepth 100000 in
theorem c_X12_fails (l : Launch) (D : va_G) (g : kG) (aT : Nat → Nat) (zT : tX12) (v1 : Int32) (r : Bool × tX12) (h : p_X12_fails zT v1 = some r) : kMi l yX12_fails cX12_fails 2 (some .boolean) (kR 0 0) D (kty g) [.ref (aT 0), .int v1] (List.flatten [gX12 g aT zT]) (kz r.1) (List.flatten [gX12 g aT r.2]) := by
  intro sz
  refine k_enter (lv := [(0, .ref (aT 0)), (1, .int v1)]) RX12 (by decide +kernel) rfl rfl (Nat.le_of_ble_eq_true rfl) ?_
  intro p en s m args below meth c ls hsz X V hl
  obtain ⟨QQ, hQQ⟩ : ∃ q, q = MQ below (va_Qi (fun r' (_ : Unit) => r' = kz r.1) (fun _ => kE D (List.flatten [gX12 g aT r.2])) (va_A (List.flatten [gX12 g aT zT]) sz)) args s 0 0 (va_A (List.flatten [gX12 g aT zT]) sz) := ⟨_, rfl⟩
  rw [← hQQ]
  obtain ⟨AA, hAA⟩ : ∃ q, q = va_A (List.flatten [gX12 g aT zT]) sz := ⟨_, rfl⟩
  rw [← hAA] at V
  unfold p_X12_fails at h
  refine lv_aload_n X.1 X.2.1 dX12_fails_0 rfl (lv_at hl 0 rfl) ?_
  refine lv_iload_n X.1 X.2.1 dX12_fails_1 rfl (lv_at hl 1 rfl) ?_
  refine pf_X12_20 (i := 0) X V rfl dX12_fails_2 (fun H locs V => ?_)
  obtain ⟨z2, ez2⟩ : ∃ y, y = (va_up zT.1 6 v1, zT.2) := ⟨_, rfl⟩
  replace h := kl_of ez2 h
  have V : kW D AA s.heap H (List.flatten [gX12 g aT z2]) locs := by rw [ez2]; exact V
  refine lv_iconst (v := (0 : Int32)) X.1 X.2.1 dX12_fails_5 (by decide) ?_
  obtain rfl := Option.some.inj h
  rw [hAA] at V
  rw [hQQ]
  exact k_zret X V (b := false) rfl rfl dX12_fails_6

def p_X12_takes (zT : tX12) (v1 : Int32) : Option (Bool × tX12) :=
  kb (p_X12_here zT) (fun x1 => kif (x1 = v1) (kl (va_up zT.1 5 ((zT.1 5) + (1 : Int32)), zT.2) (fun z2 => some (true, z2))) (kb (p_X12_fails zT (zT.1 5)) (fun x3 => some (x3.1, x3.2))))
set_option maxHeartbeats 4000000 in
set_option maxRecDepth 100000 in
theorem c_X12_takes (l : Launch) (D : va_G) (g : kG) (aT : Nat → Nat) (zT : tX12) (v1 : Int32) (r : Bool × tX12) (h : p_X12_takes zT v1 = some r) : kMi l yX12_takes cX12_takes 2 (some .boolean) (kR 1 21) D (kty g) [.ref (aT 0), .int v1] (List.flatten [gX12 g aT zT]) (kz r.1) (List.flatten [gX12 g aT r.2]) := by
  intro sz
  refine k_enter (lv := [(0, .ref (aT 0)), (1, .int v1)]) RX12 (by decide +kernel) rfl rfl (Nat.le_of_ble_eq_true rfl) ?_
  intro p en s m args below meth c ls hsz X V hl
  obtain ⟨QQ, hQQ⟩ : ∃ q, q = MQ below (va_Qi (fun r' (_ : Unit) => r' = kz r.1) (fun _ => kE D (List.flatten [gX12 g aT r.2])) (va_A (List.flatten [gX12 g aT zT]) sz)) args s 0 0 (va_A (List.flatten [gX12 g aT zT]) sz) := ⟨_, rfl⟩
  rw [← hQQ]
  obtain ⟨AA, hAA⟩ : ∃ q, q = va_A (List.flatten [gX12 g aT zT]) sz := ⟨_, rfl⟩
  rw [← hAA] at V
  unfold p_X12_takes at h
  refine lv_aload_n X.1 X.2.1 dX12_takes_0 rfl (lv_at hl 0 rfl) ?_
  obtain ⟨x4, hx4, h⟩ := kb_of h
  refine s_callVi (segs' := [gX12 g aT zT]) (ci := 12) (i0 := 0) X V (c_X12_here l D g aT zT x4 hx4) w_X12_129 ⟨Nat.le_of_ble_eq_true rfl, Nat.le_of_ble_eq_true rfl⟩ ⟨Nat.zero_le _, Nat.zero_le _⟩ rfl rfl rfl rfl [0] rfl rfl (kFst_refl _) rfl rfl hl.1 (Nat.le_of_ble_eq_true rfl) dX12_takes_1 (fun H locs V => ?_)
  refine lv_iload_n X.1 X.2.1 dX12_takes_4 rfl (lv_at hl 1 rfl) ?_
  refine lv_icmp_eq (tgt := 17) X.1 X.2.1 dX12_takes_5 (by decide) (fun hc => ?_) (fun hc => ?_)
  · replace h := kif_t hc h
    refine lv_aload_n X.1 X.2.1 dX12_takes_17 rfl (lv_at hl 0 rfl) ?_
    refine lv_dup X.1 X.2.1 dX12_takes_18 rfl ?_
    refine gf_X12_126 (i := 0) X V rfl dX12_takes_19 ?_
    refine lv_iconst (v := (1 : Int32)) X.1 X.2.1 dX12_takes_22 (by decide) ?_
    refine lv_iadd X.1 X.2.1 dX12_takes_23 ?_
    refine pf_X12_126 (i := 0) X V rfl dX12_takes_24 (fun H locs V => ?_)
    obtain ⟨z5, ez5⟩ : ∃ y, y = (va_up zT.1 5 ((zT.1 5) + (1 : Int32)), zT.2) := ⟨_, rfl⟩
    replace h := kl_of ez5 h
    have V : kW D AA s.heap H (List.flatten [gX12 g aT z5]) locs := by rw [ez5]; exact V
    refine lv_iconst (v := (1 : Int32)) X.1 X.2.1 dX12_takes_27 (by decide) ?_
    obtain rfl := Option.some.inj h
    rw [hAA] at V
    rw [hQQ]
    exact k_zret X V (b := true) rfl rfl dX12_takes_28
  · replace h := kif_f hc h
    refine lv_aload_n X.1 X.2.1 dX12_takes_8 rfl (lv_at hl 0 rfl) ?_
    refine lv_aload_n X.1 X.2.1 dX12_takes_9 rfl (lv_at hl 0 rfl) ?_
    refine gf_X12_126 (i := 0) X V rfl dX12_takes_10 ?_
    obtain ⟨x6, hx6, h⟩ := kb_of h
    refine s_callVi (segs' := [gX12 g aT x6.2]) (ci := 12) (i0 := 0) X V (c_X12_fails l D g aT zT (zT.1 5) x6 hx6) w_X12_132 ⟨Nat.le_of_ble_eq_true rfl, Nat.le_of_ble_eq_true rfl⟩ ⟨Nat.zero_le _, Nat.zero_le _⟩ rfl rfl rfl rfl [0] rfl rfl ⟨gX12_fst, trivial⟩ rfl rfl hl.1 (Nat.le_of_ble_eq_true rfl) dX12_takes_13 (fun H locs V => ?_)
    obtain rfl := Option.some.inj h
    rw [hAA] at V
    rw [hQQ]
    exact k_zret X V (b := x6.1) rfl rfl dX12_takes_16

def p_X12_readNumber_L64 (v1 : Int32) (v2 : Int32) (v3 : Int32) (v4 : Int32) (s : tX12) : Option (Nat × (tX12)) :=
  kb (p_X12_here s) (fun x8 => kb (p_X12_isFigure x8) (fun x9 => kif ((kz x9) = 0) (some (117, s)) (kif ((3 : Int32) ≤ ((s.1 5) - v4)) (some (117, s)) (kb (p_X12_here s) (fun x10 => kl (va_up s.1 7 ((((10 : Int32) * (s.1 7)) + x10) - (48 : Int32)), s.2) (fun z11 => kl (va_up z11.1 5 ((z11.1 5) + (1 : Int32)), z11.2) (fun z12 => some (64, z12))))))))
def p_X12_readNumber_J117 (v1 : Int32) (zT : tX12) (v2 : Int32) (v3 : Int32) : Option (Bool × tX12) :=
  kb (p_X12_here zT) (fun x14 => kb (p_X12_isFigure x14) (fun x15 => kif ((kz x15) = 0) (kif ((zT.1 7) ≤ v1) (kif (v3 = 0) (kl (va_up zT.1 7 (zT.1 7), zT.2) (fun z16 => some (true, z16))) (kl (va_up zT.1 7 (-(zT.1 7)), zT.2) (fun z17 => some (true, z17)))) (kb (p_X12_fails zT v2) (fun x18 => some (x18.1, x18.2)))) (kb (p_X12_fails zT (zT.1 5)) (fun x19 => some (x19.1, x19.2)))))
def p_X12_readNumber_J34 (v1 : Int32) (zT : tX12) (v2 : Int32) (v3 : Int32) : Option (Bool × tX12) :=
  kb (p_X12_here zT) (fun x3 => kb (p_X12_isFigure x3) (fun x4 => kif ((kz x4) = 0) (kb (p_X12_fails zT (zT.1 5)) (fun x5 => some (x5.1, x5.2))) (kl (zT.1 5) (fun y6 => kl (va_up zT.1 7 (0 : Int32), zT.2) (fun z7 => kb (kitr 64 (fun q => p_X12_readNumber_L64 v1 v2 v3 y6 q) kF z7) (fun x13 => kg (x13.1 = 117) (p_X12_readNumber_J117 v1 x13.2 v2 v3)))))))
def p_X12_readNumber_J19 (v1 : Int32) (zT : tX12) (v2 : Int32) (k19_0 : Int32) : Option (Bool × tX12) :=
  kif (k19_0 = 0) (p_X12_readNumber_J34 v1 zT v2 k19_0) (kl (va_up zT.1 5 ((zT.1 5) + (1 : Int32)), zT.2) (fun z20 => p_X12_readNumber_J34 v1 z20 v2 k19_0))
def p_X12_readNumber (zT : tX12) (v1 : Int32) : Option (Bool × tX12) :=
  kl (zT.1 5) (fun y1 => kb (p_X12_here zT) (fun x2 => kif (x2 = (45 : Int32)) (p_X12_readNumber_J19 v1 zT y1 (1 : Int32)) (p_X12_readNumber_J19 v1 zT y1 (0 : Int32))))
set_option maxHeartbeats 4000000 in
set_option maxRecDepth 100000 in
theorem c_X12_readNumber (l : Launch) (D : va_G) (g : kG) (aT : Nat → Nat) (zT : tX12) (v1 : Int32) (r : Bool × tX12) (h : p_X12_readNumber zT v1 = some r) : kMi l yX12_readNumber cX12_readNumber 5 (some .boolean) (kR 1 21) D (kty g) [.ref (aT 0), .int v1] (List.flatten [gX12 g aT zT]) (kz r.1) (List.flatten [gX12 g aT r.2]) := by
  intro sz
  refine k_enter (lv := [(0, .ref (aT 0)), (1, .int v1)]) RX12 (by decide +kernel) rfl rfl (Nat.le_of_ble_eq_true rfl) ?_
  intro p en s m args below meth c ls hsz X V hl
  obtain ⟨QQ, hQQ⟩ : ∃ q, q = MQ below (va_Qi (fun r' (_ : Unit) => r' = kz r.1) (fun _ => kE D (List.flatten [gX12 g aT r.2])) (va_A (List.flatten [gX12 g aT zT]) sz)) args s 0 0 (va_A (List.flatten [gX12 g aT zT]) sz) := ⟨_, rfl⟩
  rw [← hQQ]
  obtain ⟨AA, hAA⟩ : ∃ q, q = va_A (List.flatten [gX12 g aT zT]) sz := ⟨_, rfl⟩
  rw [← hAA] at V
  have J117 : ∀ (zT : tX12) (v2 : Int32) (v3 : Int32) (H : Heap) (locs : List Loc) (ls : Array Slot), p_X12_readNumber_J117 v1 zT v2 v3 = some r → kW D AA s.heap H (List.flatten [gX12 g aT zT]) locs → lv_has ls 5 [(0, .ref (aT 0)), (1, .int v1), (2, .int v2), (3, .int v3)] → W p l en (kR 1 21) s m args below meth c H locs 0 0 QQ (F0 m 117 ls []) := by
    intro zT v2 v3 H locs ls h V hl
    unfold p_X12_readNumber_J117 at h
    refine lv_aload_n X.1 X.2.1 dX12_readNumber_117 rfl (lv_at hl 0 rfl) ?_
    obtain ⟨x21, hx21, h⟩ := kb_of h
    refine s_callVi (segs' := [gX12 g aT zT]) (ci := 12) (i0 := 0) X V (c_X12_here l D g aT zT x21 hx21) w_X12_129 ⟨Nat.le_of_ble_eq_true rfl, Nat.le_of_ble_eq_true rfl⟩ ⟨Nat.zero_le _, Nat.zero_le _⟩ rfl rfl rfl rfl [0] rfl rfl (kFst_refl _) rfl rfl hl.1 (Nat.le_of_ble_eq_true rfl) dX12_readNumber_118 (fun H locs V => ?_)
    obtain ⟨x22, hx22, h⟩ := kb_of h
    refine s_callSi (segs' := [gX12 g aT zT]) X V (c_X12_isFigure l D g x21 x22 hx22) w_X12_135 ⟨Nat.le_of_ble_eq_true rfl, Nat.le_of_ble_eq_true rfl⟩ ⟨Nat.zero_le _, Nat.zero_le _⟩ rfl [] rfl rfl (kFst_refl _) rfl rfl hl.1 (Nat.le_of_ble_eq_true rfl) dX12_readNumber_121 (fun H locs V => ?_)
    refine lv_if_eq (tgt := 136) X.1 X.2.1 dX12_readNumber_124 (by decide) (fun hc => ?_) (fun hc => ?_)
    · replace h := kif_t hc h
      refine lv_aload_n X.1 X.2.1 dX12_readNumber_136 rfl (lv_at hl 0 rfl) ?_
      refine gf_X12_138 (i := 0) X V rfl dX12_readNumber_137 ?_
      refine lv_iload_n X.1 X.2.1 dX12_readNumber_140 rfl (lv_at hl 1 rfl) ?_
      refine lv_icmp_le (tgt := 150) X.1 X.2.1 dX12_readNumber_141 (by decide) (fun hc => ?_) (fun hc => ?_)
      · replace h := kif_t hc h
        refine lv_aload_n X.1 X.2.1 dX12_readNumber_150 rfl (lv_at hl 0 rfl) ?_
        refine lv_iload_n X.1 X.2.1 dX12_readNumber_151 rfl (lv_at hl 3 rfl) ?_
        refine lv_if_eq (tgt := 163) X.1 X.2.1 dX12_readNumber_152 (by decide) (fun hc => ?_) (fun hc => ?_)
        · replace h := kif_t hc h
          refine lv_aload_n X.1 X.2.1 dX12_readNumber_163 rfl (lv_at hl 0 rfl) ?_
          refine gf_X12_138 (i := 0) X V rfl dX12_readNumber_164 ?_
          refine pf_X12_138 (i := 0) X V rfl dX12_readNumber_167 (fun H locs V => ?_)
          obtain ⟨z23, ez23⟩ : ∃ y, y = (va_up zT.1 7 (zT.1 7), zT.2) := ⟨_, rfl⟩
          replace h := kl_of ez23 h
          have V : kW D AA s.heap H (List.flatten [gX12 g aT z23]) locs := by rw [ez23]; exact V
          refine lv_iconst (v := (1 : Int32)) X.1 X.2.1 dX12_readNumber_170 (by decide) ?_
          obtain rfl := Option.some.inj h
          rw [hAA] at V
          rw [hQQ]
          exact k_zret X V (b := true) rfl rfl dX12_readNumber_171
        · replace h := kif_f hc h
          refine lv_aload_n X.1 X.2.1 dX12_readNumber_155 rfl (lv_at hl 0 rfl) ?_
          refine gf_X12_138 (i := 0) X V rfl dX12_readNumber_156 ?_
          refine lv_ineg X.1 X.2.1 dX12_readNumber_159 ?_
          refine lv_goto (tgt := 167) X.1 X.2.1 dX12_readNumber_160 (by decide) ?_
          refine pf_X12_138 (i := 0) X V rfl dX12_readNumber_167 (fun H locs V => ?_)
          obtain ⟨z24, ez24⟩ : ∃ y, y = (va_up zT.1 7 (-(zT.1 7)), zT.2) := ⟨_, rfl⟩
          replace h := kl_of ez24 h
          have V : kW D AA s.heap H (List.flatten [gX12 g aT z24]) locs := by rw [ez24]; exact V
          refine lv_iconst (v := (1 : Int32)) X.1 X.2.1 dX12_readNumber_170 (by decide) ?_
          obtain rfl := Option.some.inj h
          rw [hAA] at V
          rw [hQQ]
          exact k_zret X V (b := true) rfl rfl dX12_readNumber_171
      · replace h := kif_f hc h
        refine lv_aload_n X.1 X.2.1 dX12_readNumber_144 rfl (lv_at hl 0 rfl) ?_
        refine lv_iload_n X.1 X.2.1 dX12_readNumber_145 rfl (lv_at hl 2 rfl) ?_
        obtain ⟨x25, hx25, h⟩ := kb_of h
        refine s_callVi (segs' := [gX12 g aT x25.2]) (ci := 12) (i0 := 0) X V (c_X12_fails l D g aT zT v2 x25 hx25) w_X12_132 ⟨Nat.le_of_ble_eq_true rfl, Nat.le_of_ble_eq_true rfl⟩ ⟨Nat.zero_le _, Nat.zero_le _⟩ rfl rfl rfl rfl [0] rfl rfl ⟨gX12_fst, trivial⟩ rfl rfl hl.1 (Nat.le_of_ble_eq_true rfl) dX12_readNumber_146 (fun H locs V => ?_)
        obtain rfl := Option.some.inj h
        rw [hAA] at V
        rw [hQQ]
        exact k_zret X V (b := x25.1) rfl rfl dX12_readNumber_149
    · replace h := kif_f hc h
      refine lv_aload_n X.1 X.2.1 dX12_readNumber_127 rfl (lv_at hl 0 rfl) ?_
      refine lv_aload_n X.1 X.2.1 dX12_readNumber_128 rfl (lv_at hl 0 rfl) ?_
      refine gf_X12_126 (i := 0) X V rfl dX12_readNumber_129 ?_
      obtain ⟨x26, hx26, h⟩ := kb_of h
      refine s_callVi (segs' := [gX12 g aT x26.2]) (ci := 12) (i0 := 0) X V (c_X12_fails l D g aT zT (zT.1 5) x26 hx26) w_X12_132 ⟨Nat.le_of_ble_eq_true rfl, Nat.le_of_ble_eq_true rfl⟩ ⟨Nat.zero_le _, Nat.zero_le _⟩ rfl rfl rfl rfl [0] rfl rfl ⟨gX12_fst, trivial⟩ rfl rfl hl.1 (Nat.le_of_ble_eq_true rfl) dX12_readNumber_132 (fun H locs V => ?_)
      obtain rfl := Option.some.inj h
      rw [hAA] at V
      rw [hQQ]
      exact k_zret X V (b := x26.1) rfl rfl dX12_readNumber_135
  have J34 : ∀ (zT : tX12) (v2 : Int32) (v3 : Int32) (H : Heap) (locs : List Loc) (ls : Array Slot), p_X12_readNumber_J34 v1 zT v2 v3 = some r → kW D AA s.heap H (List.flatten [gX12 g aT zT]) locs → lv_has ls 5 [(0, .ref (aT 0)), (1, .int v1), (2, .int v2), (3, .int v3)] → W p l en (kR 1 21) s m args below meth c H locs 0 0 QQ (F0 m 34 ls []) := by
    intro zT v2 v3 H locs ls h V hl
    unfold p_X12_readNumber_J34 at h
    refine lv_aload_n X.1 X.2.1 dX12_readNumber_34 rfl (lv_at hl 0 rfl) ?_
    obtain ⟨x27, hx27, h⟩ := kb_of h
    refine s_callVi (segs' := [gX12 g aT zT]) (ci := 12) (i0 := 0) X V (c_X12_here l D g aT zT x27 hx27) w_X12_129 ⟨Nat.le_of_ble_eq_true rfl, Nat.le_of_ble_eq_true rfl⟩ ⟨Nat.zero_le _, Nat.zero_le _⟩ rfl rfl rfl rfl [0] rfl rfl (kFst_refl _) rfl rfl hl.1 (Nat.le_of_ble_eq_true rfl) dX12_readNumber_35 (fun H locs V => ?_)
    obtain ⟨x28, hx28, h⟩ := kb_of h
    refine s_callSi (segs' := [gX12 g aT zT]) X V (c_X12_isFigure l D g x27 x28 hx28) w_X12_135 ⟨Nat.le_of_ble_eq_true rfl, Nat.le_of_ble_eq_true rfl⟩ ⟨Nat.zero_le _, Nat.zero_le _⟩ rfl [] rfl rfl (kFst_refl _) rfl rfl hl.1 (Nat.le_of_ble_eq_true rfl) dX12_readNumber_38 (fun H locs V => ?_)
    refine lv_if_ne (tgt := 53) X.1 X.2.1 dX12_readNumber_41 (by decide) (fun hc => ?_) (fun hc => ?_)
    · replace h := kif_f hc h
      refine lv_aload_n X.1 X.2.1 dX12_readNumber_53 rfl (lv_at hl 0 rfl) ?_
      refine gf_X12_126 (i := 0) X V rfl dX12_readNumber_54 ?_
      refine lv_topi (fun y29 ey29 => ?_)
      replace h := kl_of ey29 h
      refine lv_istore (lv' := [(4, .int y29), (0, .ref (aT 0)), (1, .int v1), (2, .int v2), (3, .int v3)]) X.1 X.2.1 dX12_readNumber_57 hl (by decide) rfl (fun ls hl => ?_)
      refine lv_aload_n X.1 X.2.1 dX12_readNumber_59 rfl (lv_at hl 1 rfl) ?_
      refine lv_iconst (v := (0 : Int32)) X.1 X.2.1 dX12_readNumber_60 (by decide) ?_
      refine pf_X12_138 (i := 0) X V rfl dX12_readNumber_61 (fun H locs V => ?_)
      obtain ⟨z30, ez30⟩ : ∃ y, y = (va_up zT.1 7 (0 : Int32), zT.2) := ⟨_, rfl⟩
      replace h := kl_of ez30 h
      have V : kW D AA s.heap H (List.flatten [gX12 g aT z30]) locs := by rw [ez30]; exact V
      obtain ⟨x31, hx31, h⟩ := kb_of h
      refine (kitr_go (hd := 64) (body := fun q => p_X12_readNumber_L64 v1 v2 v3 y29 q) (G := (fun e => ∀ (H : Heap) (locs : List Loc) (ls : Array Slot), kW D AA s.heap H (List.flatten [gX12 g aT e.2]) locs → lv_has ls 5 [(0, .ref (aT 0)), (1, .int v1), (2, .int v2), (3, .int v3), (4, .int y29)] → W p l en (kR 1 21) s m args below meth c H locs 0 0 QQ (F0 m e.1 ls []))) (fun s32 e33 hb34 hG35 => ?_) kF _ x31 hx31 ?_) _ _ _ V (lv_sub hl [1, 2, 3, 4, 0] rfl)
      · intro H locs ls V hl
        show W p l en (kR 1 21) s m args below meth c H locs 0 0 QQ (F0 m 64 ls [])
        have h : p_X12_readNumber_L64 v1 v2 v3 y29 s32 = some e33 := hb34
        unfold p_X12_readNumber_L64 at h
        have V : kW D AA s.heap H (List.flatten [gX12 g aT s32]) locs := V
        have hl : lv_has ls 5 [(0, .ref (aT 0)), (1, .int v1), (2, .int v2), (3, .int v3), (4, .int y29)] := hl
        refine lv_aload_n X.1 X.2.1 dX12_readNumber_64 rfl (lv_at hl 0 rfl) ?_
        obtain ⟨x36, hx36, h⟩ := kb_of h
        refine s_callVi (segs' := [gX12 g aT s32]) (ci := 12) (i0 := 0) X V (c_X12_here l D g aT s32 x36 hx36) w_X12_129 ⟨Nat.le_of_ble_eq_true rfl, Nat.le_of_ble_eq_true rfl⟩ ⟨Nat.zero_le _, Nat.zero_le _⟩ rfl rfl rfl rfl [0] rfl rfl (kFst_refl _) rfl rfl hl.1 (Nat.le_of_ble_eq_true rfl) dX12_readNumber_65 (fun H locs V => ?_)
        obtain ⟨x37, hx37, h⟩ := kb_of h
        refine s_callSi (segs' := [gX12 g aT s32]) X V (c_X12_isFigure l D g x36 x37 hx37) w_X12_135 ⟨Nat.le_of_ble_eq_true rfl, Nat.le_of_ble_eq_true rfl⟩ ⟨Nat.zero_le _, Nat.zero_le _⟩ rfl [] rfl rfl (kFst_refl _) rfl rfl hl.1 (Nat.le_of_ble_eq_true rfl) dX12_readNumber_68 (fun H locs V => ?_)
        refine lv_if_eq (tgt := 117) X.1 X.2.1 dX12_readNumber_71 (by decide) (fun hc => ?_) (fun hc => ?_)
        · replace h := kif_t hc h
          obtain rfl := Option.some.inj h
          exact hG35 _ _ _ V (lv_sub hl [0, 1, 2, 3, 4] rfl)
        · replace h := kif_f hc h
          refine lv_aload_n X.1 X.2.1 dX12_readNumber_74 rfl (lv_at hl 0 rfl) ?_
          refine gf_X12_126 (i := 0) X V rfl dX12_readNumber_75 ?_
          refine lv_iload X.1 X.2.1 dX12_readNumber_78 (lv_at hl 4 rfl) ?_
          refine lv_isub X.1 X.2.1 dX12_readNumber_80 ?_
          refine lv_iconst (v := (3 : Int32)) X.1 X.2.1 dX12_readNumber_81 (by decide) ?_
          refine lv_icmp_ge (tgt := 117) X.1 X.2.1 dX12_readNumber_82 (by decide) (fun hc => ?_) (fun hc => ?_)
          · replace h := kif_t hc h
            obtain rfl := Option.some.inj h
            exact hG35 _ _ _ V (lv_sub hl [0, 1, 2, 3, 4] rfl)
          · replace h := kif_f hc h
            refine lv_aload_n X.1 X.2.1 dX12_readNumber_85 rfl (lv_at hl 0 rfl) ?_
            refine lv_bipush (v := (10 : Int32)) X.1 X.2.1 dX12_readNumber_86 (by decide) ?_
            refine lv_aload_n X.1 X.2.1 dX12_readNumber_88 rfl (lv_at hl 0 rfl) ?_
            refine gf_X12_138 (i := 0) X V rfl dX12_readNumber_89 ?_
            refine lv_imul X.1 X.2.1 dX12_readNumber_92 ?_
            refine lv_aload_n X.1 X.2.1 dX12_readNumber_93 rfl (lv_at hl 0 rfl) ?_
            obtain ⟨x38, hx38, h⟩ := kb_of h
            refine s_callVi (segs' := [gX12 g aT s32]) (ci := 12) (i0 := 0) X V (c_X12_here l D g aT s32 x38 hx38) w_X12_129 ⟨Nat.le_of_ble_eq_true rfl, Nat.le_of_ble_eq_true rfl⟩ ⟨Nat.zero_le _, Nat.zero_le _⟩ rfl rfl rfl rfl [0] rfl rfl (kFst_refl _) rfl rfl hl.1 (Nat.le_of_ble_eq_true rfl) dX12_readNumber_94 (fun H locs V => ?_)
            refine lv_iadd X.1 X.2.1 dX12_readNumber_97 ?_
            refine lv_bipush (v := (48 : Int32)) X.1 X.2.1 dX12_readNumber_98 (by decide) ?_
            refine lv_isub X.1 X.2.1 dX12_readNumber_100 ?_
            refine pf_X12_138 (i := 0) X V rfl dX12_readNumber_101 (fun H locs V => ?_)
            obtain ⟨z39, ez39⟩ : ∃ y, y = (va_up s32.1 7 ((((10 : Int32) * (s32.1 7)) + x38) - (48 : Int32)), s32.2) := ⟨_, rfl⟩
            replace h := kl_of ez39 h
            have V : kW D AA s.heap H (List.flatten [gX12 g aT z39]) locs := by rw [ez39]; exact V
            refine lv_aload_n X.1 X.2.1 dX12_readNumber_104 rfl (lv_at hl 0 rfl) ?_
            refine lv_dup X.1 X.2.1 dX12_readNumber_105 rfl ?_
            refine gf_X12_126 (i := 0) X V rfl dX12_readNumber_106 ?_
            refine lv_iconst (v := (1 : Int32)) X.1 X.2.1 dX12_readNumber_109 (by decide) ?_
            refine lv_iadd X.1 X.2.1 dX12_readNumber_110 ?_
            refine pf_X12_126 (i := 0) X V rfl dX12_readNumber_111 (fun H locs V => ?_)
            obtain ⟨z40, ez40⟩ : ∃ y, y = (va_up z39.1 5 ((z39.1 5) + (1 : Int32)), z39.2) := ⟨_, rfl⟩
            replace h := kl_of ez40 h
            have V : kW D AA s.heap H (List.flatten [gX12 g aT z40]) locs := by rw [ez40]; exact V
            refine lv_goto (tgt := 64) X.1 X.2.1 dX12_readNumber_114 (by decide) ?_
            obtain rfl := Option.some.inj h
            exact hG35 _ _ _ V (lv_sub hl [0, 1, 2, 3, 4] rfl)
      · intro H locs ls V hl
        have V : kW D AA s.heap H (List.flatten [gX12 g aT x31.2]) locs := V
        have hl : lv_has ls 5 [(0, .ref (aT 0)), (1, .int v1), (2, .int v2), (3, .int v3), (4, .int y29)] := hl
        obtain ⟨hc, h⟩ := kg_of h
        refine W.eq (g2 := F0 m 117 ls []) (by rw [hc]) ?_
        exact J117 x31.2 v2 v3 _ _ _ h V (lv_sub hl [0, 1, 2, 3] rfl)
    · replace h := kif_t hc h
      refine lv_aload_n X.1 X.2.1 dX12_readNumber_44 rfl (lv_at hl 0 rfl) ?_
      refine lv_aload_n X.1 X.2.1 dX12_readNumber_45 rfl (lv_at hl 0 rfl) ?_
      refine gf_X12_126 (i := 0) X V rfl dX12_readNumber_46 ?_
      obtain ⟨x41, hx41, h⟩ := kb_of h
      refine s_callVi (segs' := [gX12 g aT x41.2]) (ci := 12) (i0 := 0) X V (c_X12_fails l D g aT zT (zT.1 5) x41 hx41) w_X12_132 ⟨Nat.le_of_ble_eq_true rfl, Nat.le_of_ble_eq_true rfl⟩ ⟨Nat.zero_le _, Nat.zero_le _⟩ rfl rfl rfl rfl [0] rfl rfl ⟨gX12_fst, trivial⟩ rfl rfl hl.1 (Nat.le_of_ble_eq_true rfl) dX12_readNumber_49 (fun H locs V => ?_)
      obtain rfl := Option.some.inj h
      rw [hAA] at V
      rw [hQQ]
      exact k_zret X V (b := x41.1) rfl rfl dX12_readNumber_52
  have J19 : ∀ (zT : tX12) (v2 : Int32) (k19_0 : Int32) (H : Heap) (locs : List Loc) (ls : Array Slot), p_X12_readNumber_J19 v1 zT v2 k19_0 = some r → kW D AA s.heap H (List.flatten [gX12 g aT zT]) locs → lv_has ls 5 [(0, .ref (aT 0)), (1, .int v1), (2, .int v2)] → W p l en (kR 1 21) s m args below meth c H locs 0 0 QQ (F0 m 19 ls [.int k19_0]) := by
    intro zT v2 k19_0 H locs ls h V hl
    unfold p_X12_readNumber_J19 at h
    refine lv_istore_n (lv' := [(3, .int k19_0), (0, .ref (aT 0)), (1, .int v1), (2, .int v2)]) X.1 X.2.1 dX12_readNumber_19 rfl hl (by decide) rfl (fun ls hl => ?_)
    refine lv_iload_n X.1 X.2.1 dX12_readNumber_20 rfl (lv_at hl 0 rfl) ?_
    refine lv_if_eq (tgt := 34) X.1 X.2.1 dX12_readNumber_21 (by decide) (fun hc => ?_) (fun hc => ?_)
    · replace h := kif_t hc h
      exact J34 zT v2 k19_0 _ _ _ h V (lv_sub hl [1, 2, 3, 0] rfl)
    · replace h := kif_f hc h
      refine lv_aload_n X.1 X.2.1 dX12_readNumber_24 rfl (lv_at hl 1 rfl) ?_
      refine lv_dup X.1 X.2.1 dX12_readNumber_25 rfl ?_
      refine gf_X12_126 (i := 0) X V rfl dX12_readNumber_26 ?_
      refine lv_iconst (v := (1 : Int32)) X.1 X.2.1 dX12_readNumber_29 (by decide) ?_
      refine lv_iadd X.1 X.2.1 dX12_readNumber_30 ?_
      refine pf_X12_126 (i := 0) X V rfl dX12_readNumber_31 (fun H locs V => ?_)
      obtain ⟨z42, ez42⟩ : ∃ y, y = (va_up zT.1 5 ((zT.1 5) + (1 : Int32)), zT.2) := ⟨_, rfl⟩
      replace h := kl_of ez42 h
      have V : kW D AA s.heap H (List.flatten [gX12 g aT z42]) locs := by rw [ez42]; exact V
      exact J34 z42 v2 k19_0 _ _ _ h V (lv_sub hl [1, 2, 3, 0] rfl)
  unfold p_X12_readNumber at h
  refine lv_aload_n X.1 X.2.1 dX12_readNumber_0 rfl (lv_at hl 0 rfl) ?_
  refine gf_X12_126 (i := 0) X V rfl dX12_readNumber_1 ?_
  refine lv_topi (fun y43 ey43 => ?_)
  replace h := kl_of ey43 h
  refine lv_istore_n (lv' := [(2, .int y43), (0, .ref (aT 0)), (1, .int v1)]) X.1 X.2.1 dX12_readNumber_4 rfl hl (by decide) rfl (fun ls hl => ?_)
  refine lv_aload_n X.1 X.2.1 dX12_readNumber_5 rfl (lv_at hl 1 rfl) ?_
  obtain ⟨x44, hx44, h⟩ := kb_of h
  refine s_callVi (segs' := [gX12 g aT zT]) (ci := 12) (i0 := 0) X V (c_X12_here l D g aT zT x44 hx44) w_X12_129 ⟨Nat.le_of_ble_eq_true rfl, Nat.le_of_ble_eq_true rfl⟩ ⟨Nat.zero_le _, Nat.zero_le _⟩ rfl rfl rfl rfl [0] rfl rfl (kFst_refl _) rfl rfl hl.1 (Nat.le_of_ble_eq_true rfl) dX12_readNumber_6 (fun H locs V => ?_)
  refine lv_bipush (v := (45 : Int32)) X.1 X.2.1 dX12_readNumber_9 (by decide) ?_
  refine lv_icmp_ne (tgt := 18) X.1 X.2.1 dX12_readNumber_11 (by decide) (fun hc => ?_) (fun hc => ?_)
  · replace h := kif_f hc h
    refine lv_iconst (v := (0 : Int32)) X.1 X.2.1 dX12_readNumber_18 (by decide) ?_
    exact J19 zT y43 (0 : Int32) _ _ _ h V (lv_sub hl [1, 2, 0] rfl)
  · replace h := kif_t hc h
    refine lv_iconst (v := (1 : Int32)) X.1 X.2.1 dX12_readNumber_14 (by decide) ?_
    refine lv_goto (tgt := 19) X.1 X.2.1 dX12_readNumber_15 (by decide) ?_
    exact J19 zT y43 (1 : Int32) _ _ _ h V (lv_sub hl [1, 2, 0] rfl)

def p_X12_readItem_J174 (v1 : Int32) (zT : tX12) (k174_1 : Int32) (k174_2 : Int32) : Option (Bool × tX12) :=
  kg (kii k174_1 100) (kl (zT.1, zT.2.1, va_up zT.2.2.1 8 (upd (zT.2.2.1 8) (k174_1).toNatClampNeg k174_2), zT.2.2.2) (fun z14 => kl (va_up z14.1 11 ((z14.1 11) + (1 : Int32)), z14.2) (fun z15 => kb (p_X12_takes z15 (59 : Int32)) (fun x16 => some (x16.1, x16.2)))))
def p_X12_readItem_J94 (v1 : Int32) (zT : tX12) (v2 : Int32) (v4 : Int32) (k94_0 : Int32) : Option (Bool × tX12) :=
  kb (p_X12_readNumber zT k94_0) (fun x9 => kif ((kz x9.1) = 0) (some (false, x9.2)) (kg (kii (x9.2.1 11) 100) (kl (x9.2.1, x9.2.2.1, va_up x9.2.2.2.1 9 (upd (x9.2.2.2.1 9) ((x9.2.1 11)).toNatClampNeg (x9.2.1 7)), x9.2.2.2.2) (fun z10 => kb (p_X12_takes z10 (44 : Int32)) (fun x11 => kif ((kz x11.1) = 0) (some (false, x11.2)) (kb (p_X12_readNumber x11.2 k94_0) (fun x12 => kif ((kz x12.1) = 0) (some (false, x12.2)) (kg (kii (x12.2.1 11) 100) (kl (x12.2.1, x12.2.2.1, va_up x12.2.2.2.1 10 (upd (x12.2.2.2.1 10) ((x12.2.1 11)).toNatClampNeg (x12.2.1 7)), x12.2.2.2.2) (fun z13 => kif (v2 = 0) (p_X12_readItem_J174 v1 z13 (z13.1 11) v4) (p_X12_readItem_J174 v1 z13 (z13.1 11) ((4 : Int32) + v4))))))))))))
def p_X12_readItem_J74 (v1 : Int32) (zT : tX12) (v2 : Int32) (v4 : Int32) : Option (Bool × tX12) :=
  kl (va_up zT.1 5 ((zT.1 5) + (1 : Int32)), zT.2) (fun z8 => kif (v2 = 0) (p_X12_readItem_J94 v1 z8 v2 v4 (100 : Int32)) (p_X12_readItem_J94 v1 z8 v2 v4 (3 : Int32)))
def p_X12_readItem_J34 (v1 : Int32) (zT : tX12) (v2 : Int32) (v3 : Int32) : Option (Bool × tX12) :=
  kb (p_X12_here zT) (fun x3 => kl (x3 - (97 : Int32)) (fun y4 => kb (p_X12_isHeap y4) (fun x5 => kif ((kz x5) = 0) (kb (p_X12_fails zT (zT.1 5)) (fun x6 => some (x6.1, x6.2))) (kif (v2 = 0) (kif (v1 = 0) (kb (p_X12_fails zT v3) (fun x7 => some (x7.1, x7.2))) (p_X12_readItem_J74 v1 zT v2 y4)) (p_X12_readItem_J74 v1 zT v2 y4)))))
def p_X12_readItem_J14 (v1 : Int32) (zT : tX12) (k14_0 : Int32) : Option (Bool × tX12) :=
  kl (zT.1 5) (fun y2 => kif (k14_0 = 0) (p_X12_readItem_J34 v1 zT k14_0 y2) (kl (va_up zT.1 5 ((zT.1 5) + (1 : Int32)), zT.2) (fun z17 => p_X12_readItem_J34 v1 z17 k14_0 y2)))
def p_X12_readItem (zT : tX12) (v1 : Int32) : Option (Bool × tX12) :=
  kb (p_X12_here zT) (fun x1 => kif (x1 = (112 : Int32)) (p_X12_readItem_J14 v1 zT (1 : Int32)) (p_X12_readItem_J14 v1 zT (0 : Int32)))
set_option maxHeartbeats 4000000 in
set_option maxRecDepth 100000 in
theorem c_X12_readItem (l : Launch) (D : va_G) (g : kG) (aT : Nat → Nat) (zT : tX12) (v1 : Int32) (r : Bool × tX12) (h : p_X12_readItem zT v1 = some r) : kMi l yX12_readItem cX12_readItem 6 (some .boolean) (kR 2 45) D (kty g) [.ref (aT 0), .int v1] (List.flatten [gX12 g aT zT]) (kz r.1) (List.flatten [gX12 g aT r.2]) := by
  intro sz
  refine k_enter (lv := [(0, .ref (aT 0)), (1, .int v1)]) RX12 (by decide +kernel) rfl rfl (Nat.le_of_ble_eq_true rfl) ?_
  intro p en s m args below meth c ls hsz X V hl
  obtain ⟨QQ, hQQ⟩ : ∃ q, q = MQ below (va_Qi (fun r' (_ : Unit) => r' = kz r.1) (fun _ => kE D (List.flatten [gX12 g aT r.2])) (va_A (List.flatten [gX12 g aT zT]) sz)) args s 0 0 (va_A (List.flatten [gX12 g aT zT]) sz) := ⟨_, rfl⟩
  rw [← hQQ]
  obtain ⟨AA, hAA⟩ : ∃ q, q = va_A (List.flatten [gX12 g aT zT]) sz := ⟨_, rfl⟩
  rw [← hAA] at V
  have J174 : ∀ (zT : tX12) (k174_1 : Int32) (k174_2 : Int32) (H : Heap) (locs : List Loc) (ls : Array Slot), p_X12_readItem_J174 v1 zT k174_1 k174_2 = some r → kW D AA s.heap H (List.flatten [gX12 g aT zT]) locs → lv_has ls 6 [(0, .ref (aT 0))] → W p l en (kR 2 45) s m args below meth c H locs 0 0 QQ (F0 m 174 ls [.int k174_2, .int k174_1, .ref (aT 4)]) := by
    intro zT k174_1 k174_2 H locs ls h V hl
    unfold p_X12_readItem_J174 at h
    obtain ⟨hc, h⟩ := kg_of h
    refine as_X12_8 (i := 0) X V rfl hc dX12_readItem_174 (fun H locs V => ?_)
    obtain ⟨z18, ez18⟩ : ∃ y, y = (zT.1, zT.2.1, va_up zT.2.2.1 8 (upd (zT.2.2.1 8) (k174_1).toNatClampNeg k174_2), zT.2.2.2) := ⟨_, rfl⟩
    replace h := kl_of ez18 h
    have V : kW D AA s.heap H (List.flatten [gX12 g aT z18]) locs := by rw [ez18]; exact V
    refine lv_aload_n X.1 X.2.1 dX12_readItem_175 rfl (lv_at hl 0 rfl) ?_
    refine lv_dup X.1 X.2.1 dX12_readItem_176 rfl ?_
    refine gf_X12_144 (i := 0) X V rfl dX12_readItem_177 ?_
    refine lv_iconst (v := (1 : Int32)) X.1 X.2.1 dX12_readItem_180 (by decide) ?_
    refine lv_iadd X.1 X.2.1 dX12_readItem_181 ?_
    refine pf_X12_144 (i := 0) X V rfl dX12_readItem_182 (fun H locs V => ?_)
    obtain ⟨z19, ez19⟩ : ∃ y, y = (va_up z18.1 11 ((z18.1 11) + (1 : Int32)), z18.2) := ⟨_, rfl⟩
    replace h := kl_of ez19 h
    have V : kW D AA s.heap H (List.flatten [gX12 g aT z19]) locs := by rw [ez19]; exact V
    refine lv_aload_n X.1 X.2.1 dX12_readItem_185 rfl (lv_at hl 0 rfl) ?_
    refine lv_bipush (v := (59 : Int32)) X.1 X.2.1 dX12_readItem_186 (by decide) ?_
    obtain ⟨x20, hx20, h⟩ := kb_of h
    refine s_callVi (segs' := [gX12 g aT x20.2]) (ci := 12) (i0 := 0) X V (c_X12_takes l D g aT z19 (59 : Int32) x20 hx20) w_X12_147 ⟨Nat.le_of_ble_eq_true rfl, Nat.le_of_ble_eq_true rfl⟩ ⟨Nat.zero_le _, Nat.zero_le _⟩ rfl rfl rfl rfl [0] rfl rfl ⟨gX12_fst, trivial⟩ rfl rfl hl.1 (Nat.le_of_ble_eq_true rfl) dX12_readItem_188 (fun H locs V => ?_)
    obtain rfl := Option.some.inj h
    rw [hAA] at V
    rw [hQQ]
    exact k_zret X V (b := x20.1) rfl rfl dX12_readItem_191
  have J94 : ∀ (zT : tX12) (v2 : Int32) (v4 : Int32) (k94_0 : Int32) (H : Heap) (locs : List Loc) (ls : Array Slot), p_X12_readItem_J94 v1 zT v2 v4 k94_0 = some r → kW D AA s.heap H (List.flatten [gX12 g aT zT]) locs → lv_has ls 6 [(0, .ref (aT 0)), (2, .int v2), (4, .int v4)] → W p l en (kR 2 45) s m args below meth c H locs 0 0 QQ (F0 m 94 ls [.int k94_0]) := by
    intro zT v2 v4 k94_0 H locs ls h V hl
    unfold p_X12_readItem_J94 at h
    refine lv_istore (lv' := [(5, .int k94_0), (0, .ref (aT 0)), (2, .int v2), (4, .int v4)]) X.1 X.2.1 dX12_readItem_94 hl (by decide) rfl (fun ls hl => ?_)
    refine lv_aload_n X.1 X.2.1 dX12_readItem_96 rfl (lv_at hl 1 rfl) ?_
    refine lv_iload X.1 X.2.1 dX12_readItem_97 (lv_at hl 0 rfl) ?_
    obtain ⟨x21, hx21, h⟩ := kb_of h
    refine s_callVi (segs' := [gX12 g aT x21.2]) (ci := 12) (i0 := 0) X V (c_X12_readNumber l D g aT zT k94_0 x21 hx21) w_X12_141 ⟨Nat.le_of_ble_eq_true rfl, Nat.le_of_ble_eq_true rfl⟩ ⟨Nat.zero_le _, Nat.zero_le _⟩ rfl rfl rfl rfl [0] rfl rfl ⟨gX12_fst, trivial⟩ rfl rfl hl.1 (Nat.le_of_ble_eq_true rfl) dX12_readItem_99 (fun H locs V => ?_)
    refine lv_if_ne (tgt := 107) X.1 X.2.1 dX12_readItem_102 (by decide) (fun hc => ?_) (fun hc => ?_)
    · replace h := kif_f hc h
      refine lv_aload_n X.1 X.2.1 dX12_readItem_107 rfl (lv_at hl 1 rfl) ?_
      refine gf_X12_27 (i := 0) X V rfl dX12_readItem_108 ?_
      refine lv_aload_n X.1 X.2.1 dX12_readItem_111 rfl (lv_at hl 1 rfl) ?_
      refine gf_X12_144 (i := 0) X V rfl dX12_readItem_112 ?_
      refine lv_aload_n X.1 X.2.1 dX12_readItem_115 rfl (lv_at hl 1 rfl) ?_
      refine gf_X12_138 (i := 0) X V rfl dX12_readItem_116 ?_
      obtain ⟨hc, h⟩ := kg_of h
      refine as_X12_9 (i := 0) X V rfl hc dX12_readItem_119 (fun H locs V => ?_)
      obtain ⟨z22, ez22⟩ : ∃ y, y = (x21.2.1, x21.2.2.1, va_up x21.2.2.2.1 9 (upd (x21.2.2.2.1 9) ((x21.2.1 11)).toNatClampNeg (x21.2.1 7)), x21.2.2.2.2) := ⟨_, rfl⟩
      replace h := kl_of ez22 h
      have V : kW D AA s.heap H (List.flatten [gX12 g aT z22]) locs := by rw [ez22]; exact V
      refine lv_aload_n X.1 X.2.1 dX12_readItem_120 rfl (lv_at hl 1 rfl) ?_
      refine lv_bipush (v := (44 : Int32)) X.1 X.2.1 dX12_readItem_121 (by decide) ?_
      obtain ⟨x23, hx23, h⟩ := kb_of h
      refine s_callVi (segs' := [gX12 g aT x23.2]) (ci := 12) (i0 := 0) X V (c_X12_takes l D g aT z22 (44 : Int32) x23 hx23) w_X12_147 ⟨Nat.le_of_ble_eq_true rfl, Nat.le_of_ble_eq_true rfl⟩ ⟨Nat.zero_le _, Nat.zero_le _⟩ rfl rfl rfl rfl [0] rfl rfl ⟨gX12_fst, trivial⟩ rfl rfl hl.1 (Nat.le_of_ble_eq_true rfl) dX12_readItem_123 (fun H locs V => ?_)
      refine lv_if_eq (tgt := 138) X.1 X.2.1 dX12_readItem_126 (by decide) (fun hc => ?_) (fun hc => ?_)
      · replace h := kif_t hc h
        refine lv_iconst (v := (0 : Int32)) X.1 X.2.1 dX12_readItem_138 (by decide) ?_
        obtain rfl := Option.some.inj h
        rw [hAA] at V
        rw [hQQ]
        exact k_zret X V (b := false) rfl rfl dX12_readItem_139
      · replace h := kif_f hc h
        refine lv_aload_n X.1 X.2.1 dX12_readItem_129 rfl (lv_at hl 1 rfl) ?_
        refine lv_iload X.1 X.2.1 dX12_readItem_130 (lv_at hl 0 rfl) ?_
        obtain ⟨x24, hx24, h⟩ := kb_of h
        refine s_callVi (segs' := [gX12 g aT x24.2]) (ci := 12) (i0 := 0) X V (c_X12_readNumber l D g aT x23.2 k94_0 x24 hx24) w_X12_141 ⟨Nat.le_of_ble_eq_true rfl, Nat.le_of_ble_eq_true rfl⟩ ⟨Nat.zero_le _, Nat.zero_le _⟩ rfl rfl rfl rfl [0] rfl rfl ⟨gX12_fst, trivial⟩ rfl rfl hl.1 (Nat.le_of_ble_eq_true rfl) dX12_readItem_132 (fun H locs V => ?_)
        refine lv_if_ne (tgt := 140) X.1 X.2.1 dX12_readItem_135 (by decide) (fun hc => ?_) (fun hc => ?_)
        · replace h := kif_f hc h
          refine lv_aload_n X.1 X.2.1 dX12_readItem_140 rfl (lv_at hl 1 rfl) ?_
          refine gf_X12_30 (i := 0) X V rfl dX12_readItem_141 ?_
          refine lv_aload_n X.1 X.2.1 dX12_readItem_144 rfl (lv_at hl 1 rfl) ?_
          refine gf_X12_144 (i := 0) X V rfl dX12_readItem_145 ?_
          refine lv_aload_n X.1 X.2.1 dX12_readItem_148 rfl (lv_at hl 1 rfl) ?_
          refine gf_X12_138 (i := 0) X V rfl dX12_readItem_149 ?_
          obtain ⟨hc, h⟩ := kg_of h
          refine as_X12_10 (i := 0) X V rfl hc dX12_readItem_152 (fun H locs V => ?_)
          obtain ⟨z25, ez25⟩ : ∃ y, y = (x24.2.1, x24.2.2.1, va_up x24.2.2.2.1 10 (upd (x24.2.2.2.1 10) ((x24.2.1 11)).toNatClampNeg (x24.2.1 7)), x24.2.2.2.2) := ⟨_, rfl⟩
          replace h := kl_of ez25 h
          have V : kW D AA s.heap H (List.flatten [gX12 g aT z25]) locs := by rw [ez25]; exact V
          refine lv_aload_n X.1 X.2.1 dX12_readItem_153 rfl (lv_at hl 1 rfl) ?_
          refine gf_X12_24 (i := 0) X V rfl dX12_readItem_154 ?_
          refine lv_aload_n X.1 X.2.1 dX12_readItem_157 rfl (lv_at hl 1 rfl) ?_
          refine gf_X12_144 (i := 0) X V rfl dX12_readItem_158 ?_
          refine lv_iload_n X.1 X.2.1 dX12_readItem_161 rfl (lv_at hl 2 rfl) ?_
          refine lv_if_eq (tgt := 172) X.1 X.2.1 dX12_readItem_162 (by decide) (fun hc => ?_) (fun hc => ?_)
          · replace h := kif_t hc h
            refine lv_iload X.1 X.2.1 dX12_readItem_172 (lv_at hl 3 rfl) ?_
            exact J174 z25 (z25.1 11) v4 _ _ _ h V (lv_sub hl [1] rfl)
          · replace h := kif_f hc h
            refine lv_iconst (v := (4 : Int32)) X.1 X.2.1 dX12_readItem_165 (by decide) ?_
            refine lv_iload X.1 X.2.1 dX12_readItem_166 (lv_at hl 3 rfl) ?_
            refine lv_iadd X.1 X.2.1 dX12_readItem_168 ?_
            refine lv_goto (tgt := 174) X.1 X.2.1 dX12_readItem_169 (by decide) ?_
            exact J174 z25 (z25.1 11) ((4 : Int32) + v4) _ _ _ h V (lv_sub hl [1] rfl)
        · replace h := kif_t hc h
          refine lv_iconst (v := (0 : Int32)) X.1 X.2.1 dX12_readItem_138 (by decide) ?_
          obtain rfl := Option.some.inj h
          rw [hAA] at V
          rw [hQQ]
          exact k_zret X V (b := false) rfl rfl dX12_readItem_139
    · replace h := kif_t hc h
      refine lv_iconst (v := (0 : Int32)) X.1 X.2.1 dX12_readItem_105 (by decide) ?_
      obtain rfl := Option.some.inj h
      rw [hAA] at V
      rw [hQQ]
      exact k_zret X V (b := false) rfl rfl dX12_readItem_106
  have J74 : ∀ (zT : tX12) (v2 : Int32) (v4 : Int32) (H : Heap) (locs : List Loc) (ls : Array Slot), p_X12_readItem_J74 v1 zT v2 v4 = some r → kW D AA s.heap H (List.flatten [gX12 g aT zT]) locs → lv_has ls 6 [(0, .ref (aT 0)), (2, .int v2), (4, .int v4)] → W p l en (kR 2 45) s m args below meth c H locs 0 0 QQ (F0 m 74 ls []) := by
    intro zT v2 v4 H locs ls h V hl
    unfold p_X12_readItem_J74 at h
    refine lv_aload_n X.1 X.2.1 dX12_readItem_74 rfl (lv_at hl 0 rfl) ?_
    refine lv_dup X.1 X.2.1 dX12_readItem_75 rfl ?_
    refine gf_X12_126 (i := 0) X V rfl dX12_readItem_76 ?_
    refine lv_iconst (v := (1 : Int32)) X.1 X.2.1 dX12_readItem_79 (by decide) ?_
    refine lv_iadd X.1 X.2.1 dX12_readItem_80 ?_
    refine pf_X12_126 (i := 0) X V rfl dX12_readItem_81 (fun H locs V => ?_)
    obtain ⟨z26, ez26⟩ : ∃ y, y = (va_up zT.1 5 ((zT.1 5) + (1 : Int32)), zT.2) := ⟨_, rfl⟩
    replace h := kl_of ez26 h
    have V : kW D AA s.heap H (List.flatten [gX12 g aT z26]) locs := by rw [ez26]; exact V
    refine lv_iload_n X.1 X.2.1 dX12_readItem_84 rfl (lv_at hl 1 rfl) ?_
    refine lv_if_eq (tgt := 92) X.1 X.2.1 dX12_readItem_85 (by decide) (fun hc => ?_) (fun hc => ?_)
    · replace h := kif_t hc h
      refine lv_bipush (v := (100 : Int32)) X.1 X.2.1 dX12_readItem_92 (by decide) ?_
      exact J94 z26 v2 v4 (100 : Int32) _ _ _ h V (lv_sub hl [0, 1, 2] rfl)
    · replace h := kif_f hc h
      refine lv_iconst (v := (3 : Int32)) X.1 X.2.1 dX12_readItem_88 (by decide) ?_
      refine lv_goto (tgt := 94) X.1 X.2.1 dX12_readItem_89 (by decide) ?_
      exact J94 z26 v2 v4 (3 : Int32) _ _ _ h V (lv_sub hl [0, 1, 2] rfl)
  have J34 : ∀ (zT : tX12) (v2 : Int32) (v3 : Int32) (H : Heap) (locs : List Loc) (ls : Array Slot), p_X12_readItem_J34 v1 zT v2 v3 = some r → kW D AA s.heap H (List.flatten [gX12 g aT zT]) locs → lv_has ls 6 [(0, .ref (aT 0)), (1, .int v1), (2, .int v2), (3, .int v3)] → W p l en (kR 2 45) s m args below meth c H locs 0 0 QQ (F0 m 34 ls []) := by
    intro zT v2 v3 H locs ls h V hl
    unfold p_X12_readItem_J34 at h
    refine lv_aload_n X.1 X.2.1 dX12_readItem_34 rfl (lv_at hl 0 rfl) ?_
    obtain ⟨x27, hx27, h⟩ := kb_of h
    refine s_callVi (segs' := [gX12 g aT zT]) (ci := 12) (i0 := 0) X V (c_X12_here l D g aT zT x27 hx27) w_X12_129 ⟨Nat.le_of_ble_eq_true rfl, Nat.le_of_ble_eq_true rfl⟩ ⟨Nat.zero_le _, Nat.zero_le _⟩ rfl rfl rfl rfl [0] rfl rfl (kFst_refl _) rfl rfl hl.1 (Nat.le_of_ble_eq_true rfl) dX12_readItem_35 (fun H locs V => ?_)
    refine lv_bipush (v := (97 : Int32)) X.1 X.2.1 dX12_readItem_38 (by decide) ?_
    refine lv_isub X.1 X.2.1 dX12_readItem_40 ?_
    refine lv_topi (fun y28 ey28 => ?_)
    replace h := kl_of ey28 h
    refine lv_istore (lv' := [(4, .int y28), (0, .ref (aT 0)), (1, .int v1), (2, .int v2), (3, .int v3)]) X.1 X.2.1 dX12_readItem_41 hl (by decide) rfl (fun ls hl => ?_)
    refine lv_iload X.1 X.2.1 dX12_readItem_43 (lv_at hl 0 rfl) ?_
    obtain ⟨x29, hx29, h⟩ := kb_of h
    refine s_callSi (segs' := [gX12 g aT zT]) X V (c_X12_isHeap l D g y28 x29 hx29) w_X12_88 ⟨Nat.le_of_ble_eq_true rfl, Nat.le_of_ble_eq_true rfl⟩ ⟨Nat.zero_le _, Nat.zero_le _⟩ rfl [] rfl rfl (kFst_refl _) rfl rfl hl.1 (Nat.le_of_ble_eq_true rfl) dX12_readItem_45 (fun H locs V => ?_)
    refine lv_if_ne (tgt := 60) X.1 X.2.1 dX12_readItem_48 (by decide) (fun hc => ?_) (fun hc => ?_)
    · replace h := kif_f hc h
      refine lv_iload_n X.1 X.2.1 dX12_readItem_60 rfl (lv_at hl 3 rfl) ?_
      refine lv_if_ne (tgt := 74) X.1 X.2.1 dX12_readItem_61 (by decide) (fun hc => ?_) (fun hc => ?_)
      · replace h := kif_f hc h
        exact J74 zT v2 y28 _ _ _ h V (lv_sub hl [1, 3, 0] rfl)
      · replace h := kif_t hc h
        refine lv_iload_n X.1 X.2.1 dX12_readItem_64 rfl (lv_at hl 2 rfl) ?_
        refine lv_if_ne (tgt := 74) X.1 X.2.1 dX12_readItem_65 (by decide) (fun hc => ?_) (fun hc => ?_)
        · replace h := kif_f hc h
          exact J74 zT v2 y28 _ _ _ h V (lv_sub hl [1, 3, 0] rfl)
        · replace h := kif_t hc h
          refine lv_aload_n X.1 X.2.1 dX12_readItem_68 rfl (lv_at hl 1 rfl) ?_
          refine lv_iload_n X.1 X.2.1 dX12_readItem_69 rfl (lv_at hl 4 rfl) ?_
          obtain ⟨x30, hx30, h⟩ := kb_of h
          refine s_callVi (segs' := [gX12 g aT x30.2]) (ci := 12) (i0 := 0) X V (c_X12_fails l D g aT zT v3 x30 hx30) w_X12_132 ⟨Nat.le_of_ble_eq_true rfl, Nat.le_of_ble_eq_true rfl⟩ ⟨Nat.zero_le _, Nat.zero_le _⟩ rfl rfl rfl rfl [0] rfl rfl ⟨gX12_fst, trivial⟩ rfl rfl hl.1 (Nat.le_of_ble_eq_true rfl) dX12_readItem_70 (fun H locs V => ?_)
          obtain rfl := Option.some.inj h
          rw [hAA] at V
          rw [hQQ]
          exact k_zret X V (b := x30.1) rfl rfl dX12_readItem_73
    · replace h := kif_t hc h
      refine lv_aload_n X.1 X.2.1 dX12_readItem_51 rfl (lv_at hl 1 rfl) ?_
      refine lv_aload_n X.1 X.2.1 dX12_readItem_52 rfl (lv_at hl 1 rfl) ?_
      refine gf_X12_126 (i := 0) X V rfl dX12_readItem_53 ?_
      obtain ⟨x31, hx31, h⟩ := kb_of h
      refine s_callVi (segs' := [gX12 g aT x31.2]) (ci := 12) (i0 := 0) X V (c_X12_fails l D g aT zT (zT.1 5) x31 hx31) w_X12_132 ⟨Nat.le_of_ble_eq_true rfl, Nat.le_of_ble_eq_true rfl⟩ ⟨Nat.zero_le _, Nat.zero_le _⟩ rfl rfl rfl rfl [0] rfl rfl ⟨gX12_fst, trivial⟩ rfl rfl hl.1 (Nat.le_of_ble_eq_true rfl) dX12_readItem_56 (fun H locs V => ?_)
      obtain rfl := Option.some.inj h
      rw [hAA] at V
      rw [hQQ]
      exact k_zret X V (b := x31.1) rfl rfl dX12_readItem_59
  have J14 : ∀ (zT : tX12) (k14_0 : Int32) (H : Heap) (locs : List Loc) (ls : Array Slot), p_X12_readItem_J14 v1 zT k14_0 = some r → kW D AA s.heap H (List.flatten [gX12 g aT zT]) locs → lv_has ls 6 [(0, .ref (aT 0)), (1, .int v1)] → W p l en (kR 2 45) s m args below meth c H locs 0 0 QQ (F0 m 14 ls [.int k14_0]) := by
    intro zT k14_0 H locs ls h V hl
    unfold p_X12_readItem_J14 at h
    refine lv_istore_n (lv' := [(2, .int k14_0), (0, .ref (aT 0)), (1, .int v1)]) X.1 X.2.1 dX12_readItem_14 rfl hl (by decide) rfl (fun ls hl => ?_)
    refine lv_aload_n X.1 X.2.1 dX12_readItem_15 rfl (lv_at hl 1 rfl) ?_
    refine gf_X12_126 (i := 0) X V rfl dX12_readItem_16 ?_
    refine lv_topi (fun y32 ey32 => ?_)
    replace h := kl_of ey32 h
    refine lv_istore_n (lv' := [(3, .int y32), (2, .int k14_0), (0, .ref (aT 0)), (1, .int v1)]) X.1 X.2.1 dX12_readItem_19 rfl hl (by decide) rfl (fun ls hl => ?_)
    refine lv_iload_n X.1 X.2.1 dX12_readItem_20 rfl (lv_at hl 1 rfl) ?_
    refine lv_if_eq (tgt := 34) X.1 X.2.1 dX12_readItem_21 (by decide) (fun hc => ?_) (fun hc => ?_)
    · replace h := kif_t hc h
      exact J34 zT k14_0 y32 _ _ _ h V (lv_sub hl [2, 3, 1, 0] rfl)
    · replace h := kif_f hc h
      refine lv_aload_n X.1 X.2.1 dX12_readItem_24 rfl (lv_at hl 2 rfl) ?_
      refine lv_dup X.1 X.2.1 dX12_readItem_25 rfl ?_
      refine gf_X12_126 (i := 0) X V rfl dX12_readItem_26 ?_
      refine lv_iconst (v := (1 : Int32)) X.1 X.2.1 dX12_readItem_29 (by decide) ?_
      refine lv_iadd X.1 X.2.1 dX12_readItem_30 ?_
      refine pf_X12_126 (i := 0) X V rfl dX12_readItem_31 (fun H locs V => ?_)
      obtain ⟨z33, ez33⟩ : ∃ y, y = (va_up zT.1 5 ((zT.1 5) + (1 : Int32)), zT.2) := ⟨_, rfl⟩
      replace h := kl_of ez33 h
      have V : kW D AA s.heap H (List.flatten [gX12 g aT z33]) locs := by rw [ez33]; exact V
      exact J34 z33 k14_0 y32 _ _ _ h V (lv_sub hl [2, 3, 1, 0] rfl)
  unfold p_X12_readItem at h
  refine lv_aload_n X.1 X.2.1 dX12_readItem_0 rfl (lv_at hl 0 rfl) ?_
  obtain ⟨x34, hx34, h⟩ := kb_of h
  refine s_callVi (segs' := [gX12 g aT zT]) (ci := 12) (i0 := 0) X V (c_X12_here l D g aT zT x34 hx34) w_X12_129 ⟨Nat.le_of_ble_eq_true rfl, Nat.le_of_ble_eq_true rfl⟩ ⟨Nat.zero_le _, Nat.zero_le _⟩ rfl rfl rfl rfl [0] rfl rfl (kFst_refl _) rfl rfl hl.1 (Nat.le_of_ble_eq_true rfl) dX12_readItem_1 (fun H locs V => ?_)
  refine lv_bipush (v := (112 : Int32)) X.1 X.2.1 dX12_readItem_4 (by decide) ?_
  refine lv_icmp_ne (tgt := 13) X.1 X.2.1 dX12_readItem_6 (by decide) (fun hc => ?_) (fun hc => ?_)
  · replace h := kif_f hc h
    refine lv_iconst (v := (0 : Int32)) X.1 X.2.1 dX12_readItem_13 (by decide) ?_
    exact J14 zT (0 : Int32) _ _ _ h V (lv_sub hl [0, 1] rfl)
  · replace h := kif_t hc h
    refine lv_iconst (v := (1 : Int32)) X.1 X.2.1 dX12_readItem_9 (by decide) ?_
    refine lv_goto (tgt := 14) X.1 X.2.1 dX12_readItem_10 (by decide) ?_
    exact J14 zT (1 : Int32) _ _ _ h V (lv_sub hl [0, 1] rfl)

def p_X12_readText_L24 (s : Int32 × tX12) : Option (Nat × (Int32 × tX12)) :=
  kif ((s.2.1 4) ≤ (s.2.1 5)) (some (71, (s.1, s.2))) (kl (s.2.1 11) (fun y6 => kb (p_X12_readItem s.2 s.1) (fun x7 => kif ((kz x7.1) = 0) (some (48, (s.1, x7.2))) (kg (kii y6 100) (kif ((4 : Int32) ≤ ((x7.2.2.2.1 8) y6.toNatClampNeg)) (kl (s.1 - (0 : Int32)) (fun y8 => some (24, (y8, x7.2)))) (kl (s.1 - (1 : Int32)) (fun y9 => some (24, (y9, x7.2)))))))))
def p_X12_readText (zT : tX12) : Option (Bool × tX12) :=
  kl (va_up zT.1 5 (0 : Int32), zT.2) (fun z1 => kl (va_up z1.1 6 (-1 : Int32), z1.2) (fun z2 => kl (va_up z2.1 11 (0 : Int32), z2.2) (fun z3 => kb (p_X12_countPoints z3 (-1 : Int32)) (fun x4 => kl ((40 : Int32) - x4) (fun y5 => kb (kitr 24 (fun q => p_X12_readText_L24 q) kF (y5, z3)) (fun x10 => kif (x10.1 = 48) (some (false, x10.2.2)) (kg (x10.1 = 71) (some (true, x10.2.2)))))))))
set_option maxHeartbeats 4000000 in
set_option maxRecDepth 100000 in
theorem c_X12_readText (l : Launch) (D : va_G) (g : kG) (aT : Nat → Nat) (zT : tX12) (r : Bool × tX12) (h : p_X12_readText zT = some r) : kMi l yX12_readText cX12_readText 3 (some .boolean) (kR 3 70) D (kty g) [.ref (aT 0)] (List.flatten [gX12 g aT zT]) (kz r.1) (List.flatten [gX12 g aT r.2]) := by
  intro sz
  refine k_enter (lv := [(0, .ref (aT 0))]) RX12 (by decide +kernel) rfl rfl (Nat.le_of_ble_eq_true rfl) ?_
  intro p en s m args below meth c ls hsz X V hl
  obtain ⟨QQ, hQQ⟩ : ∃ q, q = MQ below (va_Qi (fun r' (_ : Unit) => r' = kz r.1) (fun _ => kE D (List.flatten [gX12 g aT r.2])) (va_A (List.flatten [gX12 g aT zT]) sz)) args s 0 0 (va_A (List.flatten [gX12 g aT zT]) sz) := ⟨_, rfl⟩
  rw [← hQQ]
  obtain ⟨AA, hAA⟩ : ∃ q, q = va_A (List.flatten [gX12 g aT zT]) sz := ⟨_, rfl⟩
  rw [← hAA] at V
  unfold p_X12_readText at h
  refine lv_aload_n X.1 X.2.1 dX12_readText_0 rfl (lv_at hl 0 rfl) ?_
  refine lv_iconst (v := (0 : Int32)) X.1 X.2.1 dX12_readText_1 (by decide) ?_
  refine pf_X12_126 (i := 0) X V rfl dX12_readText_2 (fun H locs V => ?_)
  obtain ⟨z11, ez11⟩ : ∃ y, y = (va_up zT.1 5 (0 : Int32), zT.2) := ⟨_, rfl⟩
  replace h := kl_of ez11 h
  have V : kW D AA s.heap H (List.flatten [gX12 g aT z11]) locs := by rw [ez11]; exact V
  refine lv_aload_n X.1 X.2.1 dX12_readText_5 rfl (lv_at hl 0 rfl) ?_
  refine lv_iconst (v := (-1 : Int32)) X.1 X.2.1 dX12_readText_6 (by decide) ?_
  refine pf_X12_20 (i := 0) X V rfl dX12_readText_7 (fun H locs V => ?_)
  obtain ⟨z12, ez12⟩ : ∃ y, y = (va_up z11.1 6 (-1 : Int32), z11.2) := ⟨_, rfl⟩
  replace h := kl_of ez12 h
  have V : kW D AA s.heap H (List.flatten [gX12 g aT z12]) locs := by rw [ez12]; exact V
  refine lv_aload_n X.1 X.2.1 dX12_readText_10 rfl (lv_at hl 0 rfl) ?_
  refine lv_iconst (v := (0 : Int32)) X.1 X.2.1 dX12_readText_11 (by decide) ?_
  refine pf_X12_144 (i := 0) X V rfl dX12_readText_12 (fun H locs V => ?_)
  obtain ⟨z13, ez13⟩ : ∃ y, y = (va_up z12.1 11 (0 : Int32), z12.2) := ⟨_, rfl⟩
  replace h := kl_of ez13 h
  have V : kW D AA s.heap H (List.flatten [gX12 g aT z13]) locs := by rw [ez13]; exact V
  refine lv_bipush (v := (40 : Int32)) X.1 X.2.1 dX12_readText_15 (by decide) ?_
  refine lv_aload_n X.1 X.2.1 dX12_readText_17 rfl (lv_at hl 0 rfl) ?_
  refine lv_iconst (v := (-1 : Int32)) X.1 X.2.1 dX12_readText_18 (by decide) ?_
  obtain ⟨x14, hx14, h⟩ := kb_of h
  refine s_callVi (segs' := [gX12 g aT z13]) (ci := 12) (i0 := 0) X V (c_X12_countPoints l D g aT z13 (-1 : Int32) x14 hx14) w_X12_109 ⟨Nat.le_of_ble_eq_true rfl, Nat.le_of_ble_eq_true rfl⟩ ⟨Nat.zero_le _, Nat.zero_le _⟩ rfl rfl rfl rfl [0] rfl rfl (kFst_refl _) rfl rfl hl.1 (Nat.le_of_ble_eq_true rfl) dX12_readText_19 (fun H locs V => ?_)
  refine lv_isub X.1 X.2.1 dX12_readText_22 ?_
  refine lv_topi (fun y15 ey15 => ?_)
  replace h := kl_of ey15 h
  refine lv_istore_n (lv' := [(1, .int y15), (0, .ref (aT 0))]) X.1 X.2.1 dX12_readText_23 rfl hl (by decide) rfl (fun ls hl => ?_)
  obtain ⟨x16, hx16, h⟩ := kb_of h
  refine (kitr_go (hd := 24) (body := fun q => p_X12_readText_L24 q) (G := (fun e => ∀ (H : Heap) (locs : List Loc) (ls : Array Slot), kW D AA s.heap H (List.flatten [gX12 g aT e.2.2]) locs → lv_has ls 3 [(0, .ref (aT 0)), (1, .int e.2.1)] → W p l en (kR 3 70) s m args below meth c H locs 0 0 QQ (F0 m e.1 ls []))) (fun s17 e18 hb19 hG20 => ?_) kF _ x16 hx16 ?_) _ _ _ V (lv_sub hl [1, 0] rfl)
  · intro H locs ls V hl
    show W p l en (kR 3 70) s m args below meth c H locs 0 0 QQ (F0 m 24 ls [])
    have h : p_X12_readText_L24 s17 = some e18 := hb19
    unfold p_X12_readText_L24 at h
    have V : kW D AA s.heap H (List.flatten [gX12 g aT s17.2]) locs := V
    have hl : lv_has ls 3 [(0, .ref (aT 0)), (1, .int s17.1)] := hl
    refine lv_aload_n X.1 X.2.1 dX12_readText_24 rfl (lv_at hl 0 rfl) ?_
    refine gf_X12_126 (i := 0) X V rfl dX12_readText_25 ?_
    refine lv_aload_n X.1 X.2.1 dX12_readText_28 rfl (lv_at hl 0 rfl) ?_
    refine gf_X12_113 (i := 0) X V rfl dX12_readText_29 ?_
    refine lv_icmp_ge (tgt := 71) X.1 X.2.1 dX12_readText_32 (by decide) (fun hc => ?_) (fun hc => ?_)
    · replace h := kif_t hc h
      obtain rfl := Option.some.inj h
      exact hG20 _ _ _ V (lv_sub hl [0, 1] rfl)
    · replace h := kif_f hc h
      refine lv_aload_n X.1 X.2.1 dX12_readText_35 rfl (lv_at hl 0 rfl) ?_
      refine gf_X12_144 (i := 0) X V rfl dX12_readText_36 ?_
      refine lv_topi (fun y21 ey21 => ?_)
      replace h := kl_of ey21 h
      refine lv_istore_n (lv' := [(2, .int y21), (0, .ref (aT 0)), (1, .int s17.1)]) X.1 X.2.1 dX12_readText_39 rfl hl (by decide) rfl (fun ls hl => ?_)
      refine lv_aload_n X.1 X.2.1 dX12_readText_40 rfl (lv_at hl 1 rfl) ?_
      refine lv_iload_n X.1 X.2.1 dX12_readText_41 rfl (lv_at hl 2 rfl) ?_
      obtain ⟨x22, hx22, h⟩ := kb_of h
      refine s_callVi (segs' := [gX12 g aT x22.2]) (ci := 12) (i0 := 0) X V (c_X12_readItem l D g aT s17.2 s17.1 x22 hx22) w_X12_150 ⟨Nat.le_of_ble_eq_true rfl, Nat.le_of_ble_eq_true rfl⟩ ⟨Nat.zero_le _, Nat.zero_le _⟩ rfl rfl rfl rfl [0] rfl rfl ⟨gX12_fst, trivial⟩ rfl rfl hl.1 (Nat.le_of_ble_eq_true rfl) dX12_readText_42 (fun H locs V => ?_)
      refine lv_if_ne (tgt := 50) X.1 X.2.1 dX12_readText_45 (by decide) (fun hc => ?_) (fun hc => ?_)
      · replace h := kif_f hc h
        refine lv_iload_n X.1 X.2.1 dX12_readText_50 rfl (lv_at hl 2 rfl) ?_
        refine lv_aload_n X.1 X.2.1 dX12_readText_51 rfl (lv_at hl 1 rfl) ?_
        refine gf_X12_24 (i := 0) X V rfl dX12_readText_52 ?_
        refine lv_iload_n X.1 X.2.1 dX12_readText_55 rfl (lv_at hl 0 rfl) ?_
        obtain ⟨hc, h⟩ := kg_of h
        refine al_X12_8 (i := 0) X V rfl hc dX12_readText_56 ?_
        refine lv_iconst (v := (4 : Int32)) X.1 X.2.1 dX12_readText_57 (by decide) ?_
        refine lv_icmp_ge (tgt := 65) X.1 X.2.1 dX12_readText_58 (by decide) (fun hc => ?_) (fun hc => ?_)
        · replace h := kif_t hc h
          refine lv_iconst (v := (0 : Int32)) X.1 X.2.1 dX12_readText_65 (by decide) ?_
          refine lv_isub X.1 X.2.1 dX12_readText_66 ?_
          refine lv_topi (fun y23 ey23 => ?_)
          replace h := kl_of ey23 h
          refine lv_istore_n (lv' := [(1, .int y23), (2, .int y21), (0, .ref (aT 0))]) X.1 X.2.1 dX12_readText_67 rfl hl (by decide) rfl (fun ls hl => ?_)
          refine lv_goto (tgt := 24) X.1 X.2.1 dX12_readText_68 (by decide) ?_
          obtain rfl := Option.some.inj h
          exact hG20 _ _ _ V (lv_sub hl [2, 0] rfl)
        · replace h := kif_f hc h
          refine lv_iconst (v := (1 : Int32)) X.1 X.2.1 dX12_readText_61 (by decide) ?_
          refine lv_goto (tgt := 66) X.1 X.2.1 dX12_readText_62 (by decide) ?_
          refine lv_isub X.1 X.2.1 dX12_readText_66 ?_
          refine lv_topi (fun y24 ey24 => ?_)
          replace h := kl_of ey24 h
          refine lv_istore_n (lv' := [(1, .int y24), (2, .int y21), (0, .ref (aT 0))]) X.1 X.2.1 dX12_readText_67 rfl hl (by decide) rfl (fun ls hl => ?_)
          refine lv_goto (tgt := 24) X.1 X.2.1 dX12_readText_68 (by decide) ?_
          obtain rfl := Option.some.inj h
          exact hG20 _ _ _ V (lv_sub hl [2, 0] rfl)
      · replace h := kif_t hc h
        obtain rfl := Option.some.inj h
        exact hG20 _ _ _ V (lv_sub hl [1, 2] rfl)
  · intro H locs ls V hl
    have V : kW D AA s.heap H (List.flatten [gX12 g aT x16.2.2]) locs := V
    have hl : lv_has ls 3 [(0, .ref (aT 0)), (1, .int x16.2.1)] := hl
    by_cases hc : x16.1 = 48
    · replace h := kif_t hc h
      refine W.eq (g2 := F0 m 48 ls []) (by rw [hc]) ?_
      refine lv_iconst (v := (0 : Int32)) X.1 X.2.1 dX12_readText_48 (by decide) ?_
      obtain rfl := Option.some.inj h
      rw [hAA] at V
      rw [hQQ]
      exact k_zret X V (b := false) rfl rfl dX12_readText_49
    · replace h := kif_f hc h
      obtain ⟨hc, h⟩ := kg_of h
      refine W.eq (g2 := F0 m 71 ls []) (by rw [hc]) ?_
      refine lv_iconst (v := (1 : Int32)) X.1 X.2.1 dX12_readText_71 (by decide) ?_
      obtain rfl := Option.some.inj h
      rw [hAA] at V
      rw [hQQ]
      exact k_zret X V (b := true) rfl rfl dX12_readText_72

def p_X12_text_L22 (s : Int32 × tX12) : Option (Nat × (Int32 × tX12)) :=
  kif ((s.2.1 11) ≤ s.1) (some (99, (s.1, s.2))) (kg (kii s.1 100) (kif ((4 : Int32) ≤ ((s.2.2.2.1 8) s.1.toNatClampNeg)) (kg (kii s.1 100) (kg (kii s.1 100) (kg (kii s.1 100) (kb (p_X12_layPace s.2 (((s.2.2.2.1 8) s.1.toNatClampNeg) - (4 : Int32)) ((s.2.2.2.1 9) s.1.toNatClampNeg) ((s.2.2.2.1 10) s.1.toNatClampNeg)) (fun x5 => kl (s.1 + (1 : Int32)) (fun y6 => some (22, (y6, x5)))))))) (kb (p_X12_free s.2) (fun x7 => kg (kii s.1 100) (kg (kii s.1 100) (kg (kii s.1 100) (kb (p_X12_lay s.2 x7 ((s.2.2.2.1 9) s.1.toNatClampNeg) ((s.2.2.2.1 10) s.1.toNatClampNeg) ((s.2.2.2.1 8) s.1.toNatClampNeg)) (fun x8 => kl (s.1 + (1 : Int32)) (fun y9 => some (22, (y9, x8)))))))))))
def p_X12_text (zT : tX12) : Option (Int32 × tX12) :=
  kb (p_X12_readText zT) (fun x1 => kl (kz x1.1) (fun y2 => kl (va_up x1.2.1 4 (0 : Int32), x1.2.2) (fun z3 => kif (y2 = 0) (some ((-1 : Int32), z3)) (kb (p_X12_keep z3) (fun x4 => kb (kitr 22 (fun q => p_X12_text_L22 q) kF ((0 : Int32), x4)) (fun x10 => kg (x10.1 = 99) (some ((x10.2.2.1 11), x10.2.2))))))))
set_option maxHeartbeats 4000000 in
set_option maxRecDepth 100000 in
theorem c_X12_text (l : Launch) (D : va_G) (g : kG) (aT : Nat → Nat) (zT : tX12) (r : Int32 × tX12) (h : p_X12_text zT = some r) : kMi l yX12_text cX12_text 3 (some .int) (kR 4 92) D (kty g) [.ref (aT 0)] (List.flatten [gX12 g aT zT]) r.1 (List.flatten [gX12 g aT r.2]) := by
  intro sz
  refine k_enter (lv := [(0, .ref (aT 0))]) RX12 (by decide +kernel) rfl rfl (Nat.le_of_ble_eq_true rfl) ?_
  intro p en s m args below meth c ls hsz X V hl
  obtain ⟨QQ, hQQ⟩ : ∃ q, q = MQ below (va_Qi (fun r' (_ : Unit) => r' = r.1) (fun _ => kE D (List.flatten [gX12 g aT r.2])) (va_A (List.flatten [gX12 g aT zT]) sz)) args s 0 0 (va_A (List.flatten [gX12 g aT zT]) sz) := ⟨_, rfl⟩
  rw [← hQQ]
  obtain ⟨AA, hAA⟩ : ∃ q, q = va_A (List.flatten [gX12 g aT zT]) sz := ⟨_, rfl⟩
  rw [← hAA] at V
  unfold p_X12_text at h
  refine lv_aload_n X.1 X.2.1 dX12_text_0 rfl (lv_at hl 0 rfl) ?_
  obtain ⟨x11, hx11, h⟩ := kb_of h
  refine s_callVi (segs' := [gX12 g aT x11.2]) (ci := 12) (i0 := 0) X V (c_X12_readText l D g aT zT x11 hx11) w_X12_153 ⟨Nat.le_of_ble_eq_true rfl, Nat.le_of_ble_eq_true rfl⟩ ⟨Nat.zero_le _, Nat.zero_le _⟩ rfl rfl rfl rfl [0] rfl rfl ⟨gX12_fst, trivial⟩ rfl rfl hl.1 (Nat.le_of_ble_eq_true rfl) dX12_text_1 (fun H locs V => ?_)
  refine lv_topi (fun y12 ey12 => ?_)
  replace h := kl_of ey12 h
  refine lv_istore_n (lv' := [(1, .int y12), (0, .ref (aT 0))]) X.1 X.2.1 dX12_text_4 rfl hl (by decide) rfl (fun ls hl => ?_)
  refine lv_aload_n X.1 X.2.1 dX12_text_5 rfl (lv_at hl 1 rfl) ?_
  refine lv_iconst (v := (0 : Int32)) X.1 X.2.1 dX12_text_6 (by decide) ?_
  refine pf_X12_113 (i := 0) X V rfl dX12_text_7 (fun H locs V => ?_)
  obtain ⟨z13, ez13⟩ : ∃ y, y = (va_up x11.2.1 4 (0 : Int32), x11.2.2) := ⟨_, rfl⟩
  replace h := kl_of ez13 h
  have V : kW D AA s.heap H (List.flatten [gX12 g aT z13]) locs := by rw [ez13]; exact V
  refine lv_iload_n X.1 X.2.1 dX12_text_10 rfl (lv_at hl 0 rfl) ?_
  refine lv_if_ne (tgt := 16) X.1 X.2.1 dX12_text_11 (by decide) (fun hc => ?_) (fun hc => ?_)
  · replace h := kif_f hc h
    refine lv_aload_n X.1 X.2.1 dX12_text_16 rfl (lv_at hl 1 rfl) ?_
    obtain ⟨x14, hx14, h⟩ := kb_of h
    refine s_callVv (segs' := [gX12 g aT x14]) (ci := 12) (i0 := 0) X V (c_X12_keep l D g aT z13 x14 hx14) w_X12_92 ⟨Nat.le_of_ble_eq_true rfl, Nat.le_of_ble_eq_true rfl⟩ ⟨Nat.zero_le _, Nat.zero_le _⟩ rfl rfl rfl rfl [0] rfl rfl ⟨gX12_fst, trivial⟩ rfl rfl hl.1 (Nat.le_of_ble_eq_true rfl) dX12_text_17 (fun H locs V => ?_)
    refine lv_iconst (v := (0 : Int32)) X.1 X.2.1 dX12_text_20 (by decide) ?_
    refine lv_istore_n (lv' := [(2, .int (0 : Int32)), (1, .int y12), (0, .ref (aT 0))]) X.1 X.2.1 dX12_text_21 rfl hl (by decide) rfl (fun ls hl => ?_)
    obtain ⟨x15, hx15, h⟩ := kb_of h
    refine (kitr_go (hd := 22) (body := fun q => p_X12_text_L22 q) (G := (fun e => ∀ (H : Heap) (locs : List Loc) (ls : Array Slot), kW D AA s.heap H (List.flatten [gX12 g aT e.2.2]) locs → lv_has ls 3 [(0, .ref (aT 0)), (2, .int e.2.1)] → W p l en (kR 4 92) s m args below meth c H locs 0 0 QQ (F0 m e.1 ls []))) (fun s16 e17 hb18 hG19 => ?_) kF _ x15 hx15 ?_) _ _ _ V (lv_sub hl [2, 0] rfl)
    · intro H locs ls V hl
      show W p l en (kR 4 92) s m args below meth c H locs 0 0 QQ (F0 m 22 ls [])
      have h : p_X12_text_L22 s16 = some e17 := hb18
      unfold p_X12_text_L22 at h
      have V : kW D AA s.heap H (List.flatten [gX12 g aT s16.2]) locs := V
      have hl : lv_has ls 3 [(0, .ref (aT 0)), (2, .int s16.1)] := hl
      refine lv_iload_n X.1 X.2.1 dX12_text_22 rfl (lv_at hl 1 rfl) ?_
      refine lv_aload_n X.1 X.2.1 dX12_text_23 rfl (lv_at hl 0 rfl) ?_
      refine gf_X12_144 (i := 0) X V rfl dX12_text_24 ?_
      refine lv_icmp_ge (tgt := 99) X.1 X.2.1 dX12_text_27 (by decide) (fun hc => ?_) (fun hc => ?_)
      · replace h := kif_t hc h
        obtain rfl := Option.some.inj h
        exact hG19 _ _ _ V (lv_sub hl [0, 1] rfl)
      · replace h := kif_f hc h
        refine lv_aload_n X.1 X.2.1 dX12_text_30 rfl (lv_at hl 0 rfl) ?_
        refine gf_X12_24 (i := 0) X V rfl dX12_text_31 ?_
        refine lv_iload_n X.1 X.2.1 dX12_text_34 rfl (lv_at hl 1 rfl) ?_
        obtain ⟨hc, h⟩ := kg_of h
        refine al_X12_8 (i := 0) X V rfl hc dX12_text_35 ?_
        refine lv_iconst (v := (4 : Int32)) X.1 X.2.1 dX12_text_36 (by decide) ?_
        refine lv_icmp_ge (tgt := 69) X.1 X.2.1 dX12_text_37 (by decide) (fun hc => ?_) (fun hc => ?_)
        · replace h := kif_t hc h
          refine lv_aload_n X.1 X.2.1 dX12_text_69 rfl (lv_at hl 0 rfl) ?_
          refine lv_aload_n X.1 X.2.1 dX12_text_70 rfl (lv_at hl 0 rfl) ?_
          refine gf_X12_24 (i := 0) X V rfl dX12_text_71 ?_
          refine lv_iload_n X.1 X.2.1 dX12_text_74 rfl (lv_at hl 1 rfl) ?_
          obtain ⟨hc, h⟩ := kg_of h
          refine al_X12_8 (i := 0) X V rfl hc dX12_text_75 ?_
          refine lv_iconst (v := (4 : Int32)) X.1 X.2.1 dX12_text_76 (by decide) ?_
          refine lv_isub X.1 X.2.1 dX12_text_77 ?_
          refine lv_aload_n X.1 X.2.1 dX12_text_78 rfl (lv_at hl 0 rfl) ?_
          refine gf_X12_27 (i := 0) X V rfl dX12_text_79 ?_
          refine lv_iload_n X.1 X.2.1 dX12_text_82 rfl (lv_at hl 1 rfl) ?_
          obtain ⟨hc, h⟩ := kg_of h
          refine al_X12_9 (i := 0) X V rfl hc dX12_text_83 ?_
          refine lv_aload_n X.1 X.2.1 dX12_text_84 rfl (lv_at hl 0 rfl) ?_
          refine gf_X12_30 (i := 0) X V rfl dX12_text_85 ?_
          refine lv_iload_n X.1 X.2.1 dX12_text_88 rfl (lv_at hl 1 rfl) ?_
          obtain ⟨hc, h⟩ := kg_of h
          refine al_X12_10 (i := 0) X V rfl hc dX12_text_89 ?_
          obtain ⟨x20, hx20, h⟩ := kb_of h
          refine s_callVv (segs' := [gX12 g aT x20]) (ci := 12) (i0 := 0) X V (c_X12_layPace l D g aT s16.2 (((s16.2.2.2.1 8) s16.1.toNatClampNeg) - (4 : Int32)) ((s16.2.2.2.1 9) s16.1.toNatClampNeg) ((s16.2.2.2.1 10) s16.1.toNatClampNeg) x20 hx20) w_X12_105 ⟨Nat.le_of_ble_eq_true rfl, Nat.le_of_ble_eq_true rfl⟩ ⟨Nat.zero_le _, Nat.zero_le _⟩ rfl rfl rfl rfl [0] rfl rfl ⟨gX12_fst, trivial⟩ rfl rfl hl.1 (Nat.le_of_ble_eq_true rfl) dX12_text_90 (fun H locs V => ?_)
          obtain ⟨y21, ey21⟩ : ∃ y : Int32, y = (s16.1 + (1 : Int32)) := ⟨_, rfl⟩
          replace h := kl_of ey21 h
          refine lv_iinc (v := y21) (lv' := [(2, .int y21), (0, .ref (aT 0))]) X.1 X.2.1 dX12_text_93 hl (k := 1) rfl (by rw [ey21]; rfl) (by decide) rfl (fun ls hl => ?_)
          refine lv_goto (tgt := 22) X.1 X.2.1 dX12_text_96 (by decide) ?_
          obtain rfl := Option.some.inj h
          exact hG19 _ _ _ V (lv_sub hl [1, 0] rfl)
        · replace h := kif_f hc h
          refine lv_aload_n X.1 X.2.1 dX12_text_40 rfl (lv_at hl 0 rfl) ?_
          refine lv_aload_n X.1 X.2.1 dX12_text_41 rfl (lv_at hl 0 rfl) ?_
          obtain ⟨x22, hx22, h⟩ := kb_of h
          refine s_callVi (segs' := [gX12 g aT s16.2]) (ci := 12) (i0 := 0) X V (c_X12_free l D g aT s16.2 x22 hx22) w_X12_80 ⟨Nat.le_of_ble_eq_true rfl, Nat.le_of_ble_eq_true rfl⟩ ⟨Nat.zero_le _, Nat.zero_le _⟩ rfl rfl rfl rfl [0] rfl rfl (kFst_refl _) rfl rfl hl.1 (Nat.le_of_ble_eq_true rfl) dX12_text_42 (fun H locs V => ?_)
          refine lv_aload_n X.1 X.2.1 dX12_text_45 rfl (lv_at hl 0 rfl) ?_
          refine gf_X12_27 (i := 0) X V rfl dX12_text_46 ?_
          refine lv_iload_n X.1 X.2.1 dX12_text_49 rfl (lv_at hl 1 rfl) ?_
          obtain ⟨hc, h⟩ := kg_of h
          refine al_X12_9 (i := 0) X V rfl hc dX12_text_50 ?_
          refine lv_aload_n X.1 X.2.1 dX12_text_51 rfl (lv_at hl 0 rfl) ?_
          refine gf_X12_30 (i := 0) X V rfl dX12_text_52 ?_
          refine lv_iload_n X.1 X.2.1 dX12_text_55 rfl (lv_at hl 1 rfl) ?_
          obtain ⟨hc, h⟩ := kg_of h
          refine al_X12_10 (i := 0) X V rfl hc dX12_text_56 ?_
          refine lv_aload_n X.1 X.2.1 dX12_text_57 rfl (lv_at hl 0 rfl) ?_
          refine gf_X12_24 (i := 0) X V rfl dX12_text_58 ?_
          refine lv_iload_n X.1 X.2.1 dX12_text_61 rfl (lv_at hl 1 rfl) ?_
          obtain ⟨hc, h⟩ := kg_of h
          refine al_X12_8 (i := 0) X V rfl hc dX12_text_62 ?_
          obtain ⟨x23, hx23, h⟩ := kb_of h
          refine s_callVv (segs' := [gX12 g aT x23]) (ci := 12) (i0 := 0) X V (c_X12_lay l D g aT s16.2 x22 ((s16.2.2.2.1 9) s16.1.toNatClampNeg) ((s16.2.2.2.1 10) s16.1.toNatClampNeg) ((s16.2.2.2.1 8) s16.1.toNatClampNeg) x23 hx23) w_X12_95 ⟨Nat.le_of_ble_eq_true rfl, Nat.le_of_ble_eq_true rfl⟩ ⟨Nat.zero_le _, Nat.zero_le _⟩ rfl rfl rfl rfl [0] rfl rfl ⟨gX12_fst, trivial⟩ rfl rfl hl.1 (Nat.le_of_ble_eq_true rfl) dX12_text_63 (fun H locs V => ?_)
          refine lv_goto (tgt := 93) X.1 X.2.1 dX12_text_66 (by decide) ?_
          obtain ⟨y24, ey24⟩ : ∃ y : Int32, y = (s16.1 + (1 : Int32)) := ⟨_, rfl⟩
          replace h := kl_of ey24 h
          refine lv_iinc (v := y24) (lv' := [(2, .int y24), (0, .ref (aT 0))]) X.1 X.2.1 dX12_text_93 hl (k := 1) rfl (by rw [ey24]; rfl) (by decide) rfl (fun ls hl => ?_)
          refine lv_goto (tgt := 22) X.1 X.2.1 dX12_text_96 (by decide) ?_
          obtain rfl := Option.some.inj h
          exact hG19 _ _ _ V (lv_sub hl [1, 0] rfl)
    · intro H locs ls V hl
      have V : kW D AA s.heap H (List.flatten [gX12 g aT x15.2.2]) locs := V
      have hl : lv_has ls 3 [(0, .ref (aT 0)), (2, .int x15.2.1)] := hl
      obtain ⟨hc, h⟩ := kg_of h
      refine W.eq (g2 := F0 m 99 ls []) (by rw [hc]) ?_
      refine lv_aload_n X.1 X.2.1 dX12_text_99 rfl (lv_at hl 0 rfl) ?_
      refine gf_X12_144 (i := 0) X V rfl dX12_text_100 ?_
      obtain rfl := Option.some.inj h
      rw [hAA] at V
      rw [hQQ]
      exact k_iret X V rfl dX12_text_103
  · replace h := kif_t hc h
    refine lv_iconst (v := (-1 : Int32)) X.1 X.2.1 dX12_text_14 (by decide) ?_
    obtain rfl := Option.some.inj h
    rw [hAA] at V
    rw [hQQ]
    exact k_iret X V rfl dX12_text_15

def p_X12_fault (zT : tX12) : Option (Int32) :=
  some ((zT.1 6))
set_option maxHeartbeats 4000000 in
set_option maxRecDepth 100000 in
theorem c_X12_fault (l : Launch) (D : va_G) (g : kG) (aT : Nat → Nat) (zT : tX12) (r : Int32) (h : p_X12_fault zT = some r) : kMi l yX12_fault cX12_fault 1 (some .int) (kR 0 0) D (kty g) [.ref (aT 0)] (List.flatten [gX12 g aT zT]) r (List.flatten [gX12 g aT zT]) := by
  intro sz
  refine k_enter (lv := [(0, .ref (aT 0))]) RX12 (by decide +kernel) rfl rfl (Nat.le_of_ble_eq_true rfl) ?_
  intro p en s m args below meth c ls hsz X V hl
  obtain ⟨QQ, hQQ⟩ : ∃ q, q = MQ below (va_Qi (fun r' (_ : Unit) => r' = r) (fun _ => kE D (List.flatten [gX12 g aT zT])) (va_A (List.flatten [gX12 g aT zT]) sz)) args s 0 0 (va_A (List.flatten [gX12 g aT zT]) sz) := ⟨_, rfl⟩
  rw [← hQQ]
  obtain ⟨AA, hAA⟩ : ∃ q, q = va_A (List.flatten [gX12 g aT zT]) sz := ⟨_, rfl⟩
  rw [← hAA] at V
  unfold p_X12_fault at h
  refine lv_aload_n X.1 X.2.1 dX12_fault_0 rfl (lv_at hl 0 rfl) ?_
  refine gf_X12_20 (i := 0) X V rfl dX12_fault_1 ?_
  obtain rfl := Option.some.inj h
  rw [hAA] at V
  rw [hQQ]
  exact k_iret X V rfl dX12_fault_4
