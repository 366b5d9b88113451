def p_X2_add_L15 (zT_0 : tX0) (zP1 : tX8) (zT : tX2) (s : Int32 × Int32) : Option (Nat × (Int32 × Int32)) :=
  kb (p_X8_count zP1) (fun x1 => kif (x1 ≤ s.2) (some (55, (s.1, s.2))) (kb (p_X8_x zP1 s.2) (fun x2 => kb (p_X8_y zP1 s.2) (fun x3 => kb (p_X0_side zT_0 x2 x3) (fun x4 => kif (0 < x4) (kl (s.2 + (1 : Int32)) (fun y5 => some (15, (s.1, y5)))) (kl (s.1 ||| ((1 : Int32) <<< (s.2 &&& 31))) (fun y6 => kl (s.2 + (1 : Int32)) (fun y7 => some (15, (y6, y7))))))))))
def p_X2_add (zT : tX2) (zT_0 : tX0) (zP1 : tX8) : Option (tX2) :=
  kif (zT.2.2.2.2.1 < (298 : Int32)) (kb (kitr 15 (fun q => p_X2_add_L15 zT_0 zP1 zT q) kF ((0 : Int32), (0 : Int32))) (fun x8 => kg (x8.1 = 55) (kb (p_X0_sizeAbove zT_0) (fun x9 => kg (kii zT.2.2.2.2.1 298) (kl ((vp_updL zT.1 (zT.2.2.2.2.1).toNatClampNeg x9), zT.2) (fun z10 => kb (p_X0_sizeBelow zT_0) (fun x11 => kg (kii z10.2.2.2.2.1 298) (kl (z10.1, (vp_updL z10.2.1 (z10.2.2.2.2.1).toNatClampNeg x11), z10.2.2) (fun z12 => kg (kii z12.2.2.2.2.1 298) (kl (z12.1, z12.2.1, (upd z12.2.2.1 (z12.2.2.2.2.1).toNatClampNeg x8.2.1), z12.2.2.2) (fun z13 => kg (kii z13.2.2.2.2.1 298) (kl (z13.1, z13.2.1, z13.2.2.1, (upd z13.2.2.2.1 (z13.2.2.2.2.1).toNatClampNeg z13.2.2.2.2.1), z13.2.2.2.2) (fun z14 => kl (z14.1, z14.2.1, z14.2.2.1, z14.2.2.2.1, (z14.2.2.2.2.1 + (1 : Int32)), z14.2.2.2.2.2) (fun z15 => some z15)))))))))))))) (some zT)
set_option maxHeartbeats 4000000 in
set_option maxRecDepth 100000 in
theorem c_X2_add (l : Launch) (D : va_G) (g : kG) (aT : Nat → Nat) (aP1 : Nat → Nat) (bT : Nat → Nat → Nat) (zT : tX2) (zT_0 : tX0) (zP1 : tX8) (r : tX2) (h : p_X2_add zT zT_0 zP1 = some r) : kMv l yX2_add cX2_add 4 none (kR 2 49) D (kty g) [.ref (aT 0), .ref (aP1 0)] (List.flatten [gX2 g aT bT zT, gX0 g (bT 0) zT_0, gX8 g aP1 zP1]) (List.flatten [gX2 g aT bT r, gX0 g (bT 0) zT_0, gX8 g aP1 zP1]) := by
  intro sz
  refine k_enter (lv := [(0, .ref (aT 0)), (1, .ref (aP1 0))]) RX2 (by decide +kernel) rfl rfl (Nat.le_of_ble_eq_true rfl) ?_
  intro p en s m args below meth c ls hsz X V hl
  obtain ⟨QQ, hQQ⟩ : ∃ q, q = MQ below (va_Qv (fun (_ : Unit) => True) (fun _ => kE D (List.flatten [gX2 g aT bT r, gX0 g (bT 0) zT_0, gX8 g aP1 zP1])) (va_A (List.flatten [gX2 g aT bT zT, gX0 g (bT 0) zT_0, gX8 g aP1 zP1]) sz)) args s 0 0 (va_A (List.flatten [gX2 g aT bT zT, gX0 g (bT 0) zT_0, gX8 g aP1 zP1]) sz) := ⟨_, rfl⟩
  rw [← hQQ]
  obtain ⟨AA, hAA⟩ : ∃ q, q = va_A (List.flatten [gX2 g aT bT zT, gX0 g (bT 0) zT_0, gX8 g aP1 zP1]) sz := ⟨_, rfl⟩
  rw [← hAA] at V
  unfold p_X2_add at h
  refine lv_aload_n X.1 X.2.1 dX2_add_0 rfl (lv_at hl 0 rfl) ?_
  refine gf_X2_32 (i := 0) X V rfl dX2_add_1 ?_
  refine lv_sipush (v := (298 : Int32)) X.1 X.2.1 dX2_add_4 (by decide) ?_
  refine lv_icmp_lt (tgt := 11) X.1 X.2.1 dX2_add_7 (by decide) (fun hc => ?_) (fun hc => ?_)
  · replace h := kif_t hc h
    refine lv_iconst (v := (0 : Int32)) X.1 X.2.1 dX2_add_11 (by decide) ?_
    refine lv_istore_n (lv' := [(2, .int (0 : Int32)), (0, .ref (aT 0)), (1, .ref (aP1 0))]) X.1 X.2.1 dX2_add_12 rfl hl (by decide) rfl (fun ls hl => ?_)
    refine lv_iconst (v := (0 : Int32)) X.1 X.2.1 dX2_add_13 (by decide) ?_
    refine lv_istore_n (lv' := [(3, .int (0 : Int32)), (2, .int (0 : Int32)), (0, .ref (aT 0)), (1, .ref (aP1 0))]) X.1 X.2.1 dX2_add_14 rfl hl (by decide) rfl (fun ls hl => ?_)
    obtain ⟨x16, hx16, h⟩ := kb_of h
    refine (kitr_go (hd := 15) (body := fun q => p_X2_add_L15 zT_0 zP1 zT q) (G := (fun e => ∀ (H : Heap) (locs : List Loc) (ls : Array Slot), kW D AA s.heap H (List.flatten [gX2 g aT bT zT, gX0 g (bT 0) zT_0, gX8 g aP1 zP1]) locs → lv_has ls 4 [(0, .ref (aT 0)), (1, .ref (aP1 0)), (2, .int e.2.1), (3, .int e.2.2)] → W p l en (kR 2 49) s m args below meth c H locs 0 0 QQ (F0 m e.1 ls []))) (fun s17 e18 hb19 hG20 => ?_) kF _ x16 hx16 ?_) _ _ _ V (lv_sub hl [2, 3, 1, 0] rfl)
    · intro H locs ls V hl
      show W p l en (kR 2 49) s m args below meth c H locs 0 0 QQ (F0 m 15 ls [])
      have h : p_X2_add_L15 zT_0 zP1 zT s17 = some e18 := hb19
      unfold p_X2_add_L15 at h
      have V : kW D AA s.heap H (List.flatten [gX2 g aT bT zT, gX0 g (bT 0) zT_0, gX8 g aP1 zP1]) locs := V
      have hl : lv_has ls 4 [(0, .ref (aT 0)), (1, .ref (aP1 0)), (2, .int s17.1), (3, .int s17.2)] := hl
      refine lv_iload_n X.1 X.2.1 dX2_add_15 rfl (lv_at hl 3 rfl) ?_
      refine lv_aload_n X.1 X.2.1 dX2_add_16 rfl (lv_at hl 1 rfl) ?_
      obtain ⟨x21, hx21, h⟩ := kb_of h
      refine s_callVi (segs' := [gX2 g aT bT zT, gX0 g (bT 0) zT_0, gX8 g aP1 zP1]) (ci := 8) (i0 := 0) X V (c_X8_count l D g aP1 zP1 x21 hx21) w_X2_36 ⟨Nat.le_of_ble_eq_true rfl, Nat.le_of_ble_eq_true rfl⟩ ⟨Nat.zero_le _, Nat.zero_le _⟩ rfl rfl rfl rfl [2] rfl rfl (kFst_refl _) rfl rfl hl.1 (Nat.le_of_ble_eq_true rfl) dX2_add_17 (fun H locs V => ?_)
      refine lv_icmp_ge (tgt := 55) X.1 X.2.1 dX2_add_20 (by decide) (fun hc => ?_) (fun hc => ?_)
      · replace h := kif_t hc h
        obtain rfl := Option.some.inj h
        exact hG20 _ _ _ V (lv_sub hl [0, 1, 2, 3] rfl)
      · replace h := kif_f hc h
        refine lv_aload_n X.1 X.2.1 dX2_add_23 rfl (lv_at hl 0 rfl) ?_
        refine gf_X2_12 (i := 0) X V rfl dX2_add_24 ?_
        refine lv_aload_n X.1 X.2.1 dX2_add_27 rfl (lv_at hl 1 rfl) ?_
        refine lv_iload_n X.1 X.2.1 dX2_add_28 rfl (lv_at hl 3 rfl) ?_
        obtain ⟨x22, hx22, h⟩ := kb_of h
        refine s_callVi (segs' := [gX2 g aT bT zT, gX0 g (bT 0) zT_0, gX8 g aP1 zP1]) (ci := 8) (i0 := 0) X V (c_X8_x l D g aP1 zP1 s17.2 x22 hx22) w_X2_70 ⟨Nat.le_of_ble_eq_true rfl, Nat.le_of_ble_eq_true rfl⟩ ⟨Nat.zero_le _, Nat.zero_le _⟩ rfl rfl rfl rfl [2] rfl rfl (kFst_refl _) rfl rfl hl.1 (Nat.le_of_ble_eq_true rfl) dX2_add_29 (fun H locs V => ?_)
        refine lv_aload_n X.1 X.2.1 dX2_add_32 rfl (lv_at hl 1 rfl) ?_
        refine lv_iload_n X.1 X.2.1 dX2_add_33 rfl (lv_at hl 3 rfl) ?_
        obtain ⟨x23, hx23, h⟩ := kb_of h
        refine s_callVi (segs' := [gX2 g aT bT zT, gX0 g (bT 0) zT_0, gX8 g aP1 zP1]) (ci := 8) (i0 := 0) X V (c_X8_y l D g aP1 zP1 s17.2 x23 hx23) w_X2_74 ⟨Nat.le_of_ble_eq_true rfl, Nat.le_of_ble_eq_true rfl⟩ ⟨Nat.zero_le _, Nat.zero_le _⟩ rfl rfl rfl rfl [2] rfl rfl (kFst_refl _) rfl rfl hl.1 (Nat.le_of_ble_eq_true rfl) dX2_add_34 (fun H locs V => ?_)
        obtain ⟨x24, hx24, h⟩ := kb_of h
        refine s_callVi (segs' := [gX2 g aT bT zT, gX0 g (bT 0) zT_0, gX8 g aP1 zP1]) (ci := 0) (i0 := 0) X V (c_X0_side l D g (bT 0) zT_0 x22 x23 x24 hx24) w_X2_77 ⟨Nat.le_of_ble_eq_true rfl, Nat.le_of_ble_eq_true rfl⟩ ⟨Nat.zero_le _, Nat.zero_le _⟩ rfl rfl rfl rfl [1] rfl rfl (kFst_refl _) rfl rfl hl.1 (Nat.le_of_ble_eq_true rfl) dX2_add_37 (fun H locs V => ?_)
        refine lv_if_gt (tgt := 49) X.1 X.2.1 dX2_add_40 (by decide) (fun hc => ?_) (fun hc => ?_)
        · replace h := kif_t hc h
          obtain ⟨y25, ey25⟩ : ∃ y : Int32, y = (s17.2 + (1 : Int32)) := ⟨_, rfl⟩
          replace h := kl_of ey25 h
          refine lv_iinc (v := y25) (lv' := [(3, .int y25), (0, .ref (aT 0)), (1, .ref (aP1 0)), (2, .int s17.1)]) X.1 X.2.1 dX2_add_49 hl (k := 3) rfl (by rw [ey25]; rfl) (by decide) rfl (fun ls hl => ?_)
          refine lv_goto (tgt := 15) X.1 X.2.1 dX2_add_52 (by decide) ?_
          obtain rfl := Option.some.inj h
          exact hG20 _ _ _ V (lv_sub hl [1, 2, 3, 0] rfl)
        · replace h := kif_f hc h
          refine lv_iload_n X.1 X.2.1 dX2_add_43 rfl (lv_at hl 2 rfl) ?_
          refine lv_iconst (v := (1 : Int32)) X.1 X.2.1 dX2_add_44 (by decide) ?_
          refine lv_iload_n X.1 X.2.1 dX2_add_45 rfl (lv_at hl 3 rfl) ?_
          refine lv_ishl X.1 X.2.1 dX2_add_46 ?_
          refine lv_ior X.1 X.2.1 dX2_add_47 ?_
          refine lv_topi (fun y26 ey26 => ?_)
          replace h := kl_of ey26 h
          refine lv_istore_n (lv' := [(2, .int y26), (0, .ref (aT 0)), (1, .ref (aP1 0)), (3, .int s17.2)]) X.1 X.2.1 dX2_add_48 rfl hl (by decide) rfl (fun ls hl => ?_)
          obtain ⟨y27, ey27⟩ : ∃ y : Int32, y = (s17.2 + (1 : Int32)) := ⟨_, rfl⟩
          replace h := kl_of ey27 h
          refine lv_iinc (v := y27) (lv' := [(3, .int y27), (2, .int y26), (0, .ref (aT 0)), (1, .ref (aP1 0))]) X.1 X.2.1 dX2_add_49 hl (k := 3) rfl (by rw [ey27]; rfl) (by decide) rfl (fun ls hl => ?_)
          refine lv_goto (tgt := 15) X.1 X.2.1 dX2_add_52 (by decide) ?_
          obtain rfl := Option.some.inj h
          exact hG20 _ _ _ V (lv_sub hl [2, 3, 1, 0] rfl)
    · intro H locs ls V hl
      have V : kW D AA s.heap H (List.flatten [gX2 g aT bT zT, gX0 g (bT 0) zT_0, gX8 g aP1 zP1]) locs := V
      have hl : lv_has ls 4 [(0, .ref (aT 0)), (1, .ref (aP1 0)), (2, .int x16.2.1), (3, .int x16.2.2)] := hl
      obtain ⟨hc, h⟩ := kg_of h
      refine W.eq (g2 := F0 m 55 ls []) (by rw [hc]) ?_
      refine lv_aload_n X.1 X.2.1 dX2_add_55 rfl (lv_at hl 0 rfl) ?_
      refine gf_X2_18 (i := 0) X V rfl dX2_add_56 ?_
      refine lv_aload_n X.1 X.2.1 dX2_add_59 rfl (lv_at hl 0 rfl) ?_
      refine gf_X2_32 (i := 0) X V rfl dX2_add_60 ?_
      refine lv_aload_n X.1 X.2.1 dX2_add_63 rfl (lv_at hl 0 rfl) ?_
      refine gf_X2_12 (i := 0) X V rfl dX2_add_64 ?_
      obtain ⟨x28, hx28, h⟩ := kb_of h
      refine s_callVl (segs' := [gX2 g aT bT zT, gX0 g (bT 0) zT_0, gX8 g aP1 zP1]) (ci := 0) (i0 := 0) X V (c_X0_sizeAbove l D g (bT 0) zT_0 x28 hx28) w_X2_80 ⟨Nat.le_of_ble_eq_true rfl, Nat.le_of_ble_eq_true rfl⟩ ⟨Nat.zero_le _, Nat.zero_le _⟩ rfl rfl rfl rfl [1] rfl rfl (kFst_refl _) rfl rfl hl.1 (Nat.le_of_ble_eq_true rfl) dX2_add_67 (fun H locs V => ?_)
      obtain ⟨hc, h⟩ := kg_of h
      refine as_X2_1 (i := 0) X V rfl hc dX2_add_70 (fun H locs V => ?_)
      obtain ⟨z29, ez29⟩ : ∃ y, y = ((vp_updL zT.1 (zT.2.2.2.2.1).toNatClampNeg x28), zT.2) := ⟨_, rfl⟩
      replace h := kl_of ez29 h
      have V : kW D AA s.heap H (List.flatten [gX2 g aT bT z29, gX0 g (bT 0) zT_0, gX8 g aP1 zP1]) locs := by rw [ez29]; exact V
      refine lv_aload_n X.1 X.2.1 dX2_add_71 rfl (lv_at hl 0 rfl) ?_
      refine gf_X2_22 (i := 0) X V rfl dX2_add_72 ?_
      refine lv_aload_n X.1 X.2.1 dX2_add_75 rfl (lv_at hl 0 rfl) ?_
      refine gf_X2_32 (i := 0) X V rfl dX2_add_76 ?_
      refine lv_aload_n X.1 X.2.1 dX2_add_79 rfl (lv_at hl 0 rfl) ?_
      refine gf_X2_12 (i := 0) X V rfl dX2_add_80 ?_
      obtain ⟨x30, hx30, h⟩ := kb_of h
      refine s_callVl (segs' := [gX2 g aT bT z29, gX0 g (bT 0) zT_0, gX8 g aP1 zP1]) (ci := 0) (i0 := 0) X V (c_X0_sizeBelow l D g (bT 0) zT_0 x30 hx30) w_X2_84 ⟨Nat.le_of_ble_eq_true rfl, Nat.le_of_ble_eq_true rfl⟩ ⟨Nat.zero_le _, Nat.zero_le _⟩ rfl rfl rfl rfl [1] rfl rfl (kFst_refl _) rfl rfl hl.1 (Nat.le_of_ble_eq_true rfl) dX2_add_83 (fun H locs V => ?_)
      obtain ⟨hc, h⟩ := kg_of h
      refine as_X2_2 (i := 0) X V rfl hc dX2_add_86 (fun H locs V => ?_)
      obtain ⟨z31, ez31⟩ : ∃ y, y = (z29.1, (vp_updL z29.2.1 (z29.2.2.2.2.1).toNatClampNeg x30), z29.2.2) := ⟨_, rfl⟩
      replace h := kl_of ez31 h
      have V : kW D AA s.heap H (List.flatten [gX2 g aT bT z31, gX0 g (bT 0) zT_0, gX8 g aP1 zP1]) locs := by rw [ez31]; exact V
      refine lv_aload_n X.1 X.2.1 dX2_add_87 rfl (lv_at hl 0 rfl) ?_
      refine gf_X2_25 (i := 0) X V rfl dX2_add_88 ?_
      refine lv_aload_n X.1 X.2.1 dX2_add_91 rfl (lv_at hl 0 rfl) ?_
      refine gf_X2_32 (i := 0) X V rfl dX2_add_92 ?_
      refine lv_iload_n X.1 X.2.1 dX2_add_95 rfl (lv_at hl 2 rfl) ?_
      obtain ⟨hc, h⟩ := kg_of h
      refine as_X2_3 (i := 0) X V rfl hc dX2_add_96 (fun H locs V => ?_)
      obtain ⟨z32, ez32⟩ : ∃ y, y = (z31.1, z31.2.1, (upd z31.2.2.1 (z31.2.2.2.2.1).toNatClampNeg x16.2.1), z31.2.2.2) := ⟨_, rfl⟩
      replace h := kl_of ez32 h
      have V : kW D AA s.heap H (List.flatten [gX2 g aT bT z32, gX0 g (bT 0) zT_0, gX8 g aP1 zP1]) locs := by rw [ez32]; exact V
      refine lv_aload_n X.1 X.2.1 dX2_add_97 rfl (lv_at hl 0 rfl) ?_
      refine gf_X2_29 (i := 0) X V rfl dX2_add_98 ?_
      refine lv_aload_n X.1 X.2.1 dX2_add_101 rfl (lv_at hl 0 rfl) ?_
      refine gf_X2_32 (i := 0) X V rfl dX2_add_102 ?_
      refine lv_aload_n X.1 X.2.1 dX2_add_105 rfl (lv_at hl 0 rfl) ?_
      refine gf_X2_32 (i := 0) X V rfl dX2_add_106 ?_
      obtain ⟨hc, h⟩ := kg_of h
      refine as_X2_4 (i := 0) X V rfl hc dX2_add_109 (fun H locs V => ?_)
      obtain ⟨z33, ez33⟩ : ∃ y, y = (z32.1, z32.2.1, z32.2.2.1, (upd z32.2.2.2.1 (z32.2.2.2.2.1).toNatClampNeg z32.2.2.2.2.1), z32.2.2.2.2) := ⟨_, rfl⟩
      replace h := kl_of ez33 h
      have V : kW D AA s.heap H (List.flatten [gX2 g aT bT z33, gX0 g (bT 0) zT_0, gX8 g aP1 zP1]) locs := by rw [ez33]; exact V
      refine lv_aload_n X.1 X.2.1 dX2_add_110 rfl (lv_at hl 0 rfl) ?_
      refine lv_dup X.1 X.2.1 dX2_add_111 rfl ?_
      refine gf_X2_32 (i := 0) X V rfl dX2_add_112 ?_
      refine lv_iconst (v := (1 : Int32)) X.1 X.2.1 dX2_add_115 (by decide) ?_
      refine lv_iadd X.1 X.2.1 dX2_add_116 ?_
      refine pf_X2_32 (i := 0) X V rfl dX2_add_117 (fun H locs V => ?_)
      obtain ⟨z34, ez34⟩ : ∃ y, y = (z33.1, z33.2.1, z33.2.2.1, z33.2.2.2.1, (z33.2.2.2.2.1 + (1 : Int32)), z33.2.2.2.2.2) := ⟨_, rfl⟩
      replace h := kl_of ez34 h
      have V : kW D AA s.heap H (List.flatten [gX2 g aT bT z34, gX0 g (bT 0) zT_0, gX8 g aP1 zP1]) locs := by rw [ez34]; exact V
      obtain rfl := Option.some.inj h
      rw [hAA] at V
      rw [hQQ]
      exact k_vret X V dX2_add_120
  · replace h := kif_f hc h
    obtain rfl := Option.some.inj h
    rw [hAA] at V
    rw [hQQ]
    exact k_vret X V dX2_add_10

def p_X2_discAt (zT : tX2) (v1 : Int32) : Option (Int32) :=
  kif (v1 < 0) (some (0 : Int32)) (kif (zT.2.2.2.2.1 ≤ v1) (some (0 : Int32)) (kg (kii v1 298) (some ((zT.2.2.2.1 v1.toNatClampNeg)))))
set_option maxHeartbeats 4000000 in
set_option maxRecDepth 100000 in
theorem c_X2_discAt (l : Launch) (D : va_G) (g : kG) (aT : Nat → Nat) (bT : Nat → Nat → Nat) (zT : tX2) (v1 : Int32) (r : Int32) (h : p_X2_discAt zT v1 = some r) : kMi l yX2_discAt cX2_discAt 2 (some .int) (kR 0 0) D (kty g) [.ref (aT 0), .int v1] (List.flatten [gX2 g aT bT zT]) r (List.flatten [gX2 g aT bT zT]) := by
  intro sz
  refine k_enter (lv := [(0, .ref (aT 0)), (1, .int v1)]) RX2 (by decide +kernel) rfl rfl (Nat.le_of_ble_eq_true rfl) ?_
  intro p en s m args below meth c ls hsz X V hl
  obtain ⟨QQ, hQQ⟩ : ∃ q, q = MQ below (va_Qi (fun r' (_ : Unit) => r' = r) (fun _ => kE D (List.flatten [gX2 g aT bT zT])) (va_A (List.flatten [gX2 g aT bT zT]) sz)) args s 0 0 (va_A (List.flatten [gX2 g aT bT zT]) sz) := ⟨_, rfl⟩
  rw [← hQQ]
  obtain ⟨AA, hAA⟩ : ∃ q, q = va_A (List.flatten [gX2 g aT bT zT]) sz := ⟨_, rfl⟩
  rw [← hAA] at V
  unfold p_X2_discAt at h
  refine lv_iload_n X.1 X.2.1 dX2_discAt_0 rfl (lv_at hl 1 rfl) ?_
  refine lv_if_lt (tgt := 21) X.1 X.2.1 dX2_discAt_1 (by decide) (fun hc => ?_) (fun hc => ?_)
  · replace h := kif_t hc h
    refine lv_iconst (v := (0 : Int32)) X.1 X.2.1 dX2_discAt_21 (by decide) ?_
    obtain rfl := Option.some.inj h
    rw [hAA] at V
    rw [hQQ]
    exact k_iret X V rfl dX2_discAt_22
  · replace h := kif_f hc h
    refine lv_iload_n X.1 X.2.1 dX2_discAt_4 rfl (lv_at hl 1 rfl) ?_
    refine lv_aload_n X.1 X.2.1 dX2_discAt_5 rfl (lv_at hl 0 rfl) ?_
    refine gf_X2_32 (i := 0) X V rfl dX2_discAt_6 ?_
    refine lv_icmp_ge (tgt := 21) X.1 X.2.1 dX2_discAt_9 (by decide) (fun hc => ?_) (fun hc => ?_)
    · replace h := kif_t hc h
      refine lv_iconst (v := (0 : Int32)) X.1 X.2.1 dX2_discAt_21 (by decide) ?_
      obtain rfl := Option.some.inj h
      rw [hAA] at V
      rw [hQQ]
      exact k_iret X V rfl dX2_discAt_22
    · replace h := kif_f hc h
      refine lv_aload_n X.1 X.2.1 dX2_discAt_12 rfl (lv_at hl 0 rfl) ?_
      refine gf_X2_29 (i := 0) X V rfl dX2_discAt_13 ?_
      refine lv_iload_n X.1 X.2.1 dX2_discAt_16 rfl (lv_at hl 1 rfl) ?_
      obtain ⟨hc, h⟩ := kg_of h
      refine al_X2_4 (i := 0) X V rfl hc dX2_discAt_17 ?_
      refine lv_goto (tgt := 22) X.1 X.2.1 dX2_discAt_18 (by decide) ?_
      obtain rfl := Option.some.inj h
      rw [hAA] at V
      rw [hQQ]
      exact k_iret X V rfl dX2_discAt_22

def p_X2_sizeOrder (zT : tX2) (v1 : Int32) (v2 : Int32) : Option (Int32) :=
  kif (v1 < 0) (some (0 : Int32)) (kif ((298 : Int32) ≤ v1) (some (0 : Int32)) (kif (v2 < 0) (some (0 : Int32)) (kif (v2 < (298 : Int32)) (kg (kii v1 298) (kg (kii v1 298) (kg (kii v2 298) (kg (kii v2 298) (kb (p_X3_compare (zT.1 v1.toNatClampNeg) (zT.2.1 v1.toNatClampNeg) (zT.1 v2.toNatClampNeg) (zT.2.1 v2.toNatClampNeg)) (fun x1 => some x1)))))) (some (0 : Int32)))))
set_option maxHeartbeats 4000000 in
set_option maxRecDepth 100000 in
theorem c_X2_sizeOrder (l : Launch) (D : va_G) (g : kG) (aT : Nat → Nat) (bT : Nat → Nat → Nat) (zT : tX2) (v1 : Int32) (v2 : Int32) (r : Int32) (h : p_X2_sizeOrder zT v1 v2 = some r) : kMi l yX2_sizeOrder cX2_sizeOrder 3 (some .int) (kR 2 69) D (kty g) [.ref (aT 0), .int v1, .int v2] (List.flatten [gX2 g aT bT zT]) r (List.flatten [gX2 g aT bT zT]) := by
  intro sz
  refine k_enter (lv := [(0, .ref (aT 0)), (1, .int v1), (2, .int v2)]) RX2 (by decide +kernel) rfl rfl (Nat.le_of_ble_eq_true rfl) ?_
  intro p en s m args below meth c ls hsz X V hl
  obtain ⟨QQ, hQQ⟩ : ∃ q, q = MQ below (va_Qi (fun r' (_ : Unit) => r' = r) (fun _ => kE D (List.flatten [gX2 g aT bT zT])) (va_A (List.flatten [gX2 g aT bT zT]) sz)) args s 0 0 (va_A (List.flatten [gX2 g aT bT zT]) sz) := ⟨_, rfl⟩
  rw [← hQQ]
  obtain ⟨AA, hAA⟩ : ∃ q, q = va_A (List.flatten [gX2 g aT bT zT]) sz := ⟨_, rfl⟩
  rw [← hAA] at V
  unfold p_X2_sizeOrder at h
  refine lv_iload_n X.1 X.2.1 dX2_sizeOrder_0 rfl (lv_at hl 1 rfl) ?_
  refine lv_if_lt (tgt := 22) X.1 X.2.1 dX2_sizeOrder_1 (by decide) (fun hc => ?_) (fun hc => ?_)
  · replace h := kif_t hc h
    refine lv_iconst (v := (0 : Int32)) X.1 X.2.1 dX2_sizeOrder_22 (by decide) ?_
    obtain rfl := Option.some.inj h
    rw [hAA] at V
    rw [hQQ]
    exact k_iret X V rfl dX2_sizeOrder_23
  · replace h := kif_f hc h
    refine lv_iload_n X.1 X.2.1 dX2_sizeOrder_4 rfl (lv_at hl 1 rfl) ?_
    refine lv_sipush (v := (298 : Int32)) X.1 X.2.1 dX2_sizeOrder_5 (by decide) ?_
    refine lv_icmp_ge (tgt := 22) X.1 X.2.1 dX2_sizeOrder_8 (by decide) (fun hc => ?_) (fun hc => ?_)
    · replace h := kif_t hc h
      refine lv_iconst (v := (0 : Int32)) X.1 X.2.1 dX2_sizeOrder_22 (by decide) ?_
      obtain rfl := Option.some.inj h
      rw [hAA] at V
      rw [hQQ]
      exact k_iret X V rfl dX2_sizeOrder_23
    · replace h := kif_f hc h
      refine lv_iload_n X.1 X.2.1 dX2_sizeOrder_11 rfl (lv_at hl 2 rfl) ?_
      refine lv_if_lt (tgt := 22) X.1 X.2.1 dX2_sizeOrder_12 (by decide) (fun hc => ?_) (fun hc => ?_)
      · replace h := kif_t hc h
        refine lv_iconst (v := (0 : Int32)) X.1 X.2.1 dX2_sizeOrder_22 (by decide) ?_
        obtain rfl := Option.some.inj h
        rw [hAA] at V
        rw [hQQ]
        exact k_iret X V rfl dX2_sizeOrder_23
      · replace h := kif_f hc h
        refine lv_iload_n X.1 X.2.1 dX2_sizeOrder_15 rfl (lv_at hl 2 rfl) ?_
        refine lv_sipush (v := (298 : Int32)) X.1 X.2.1 dX2_sizeOrder_16 (by decide) ?_
        refine lv_icmp_lt (tgt := 24) X.1 X.2.1 dX2_sizeOrder_19 (by decide) (fun hc => ?_) (fun hc => ?_)
        · replace h := kif_t hc h
          refine lv_aload_n X.1 X.2.1 dX2_sizeOrder_24 rfl (lv_at hl 0 rfl) ?_
          refine gf_X2_18 (i := 0) X V rfl dX2_sizeOrder_25 ?_
          refine lv_iload_n X.1 X.2.1 dX2_sizeOrder_28 rfl (lv_at hl 1 rfl) ?_
          obtain ⟨hc, h⟩ := kg_of h
          refine al_X2_1 (i := 0) X V rfl hc dX2_sizeOrder_29 ?_
          refine lv_aload_n X.1 X.2.1 dX2_sizeOrder_30 rfl (lv_at hl 0 rfl) ?_
          refine gf_X2_22 (i := 0) X V rfl dX2_sizeOrder_31 ?_
          refine lv_iload_n X.1 X.2.1 dX2_sizeOrder_34 rfl (lv_at hl 1 rfl) ?_
          obtain ⟨hc, h⟩ := kg_of h
          refine al_X2_2 (i := 0) X V rfl hc dX2_sizeOrder_35 ?_
          refine lv_aload_n X.1 X.2.1 dX2_sizeOrder_36 rfl (lv_at hl 0 rfl) ?_
          refine gf_X2_18 (i := 0) X V rfl dX2_sizeOrder_37 ?_
          refine lv_iload_n X.1 X.2.1 dX2_sizeOrder_40 rfl (lv_at hl 2 rfl) ?_
          obtain ⟨hc, h⟩ := kg_of h
          refine al_X2_1 (i := 0) X V rfl hc dX2_sizeOrder_41 ?_
          refine lv_aload_n X.1 X.2.1 dX2_sizeOrder_42 rfl (lv_at hl 0 rfl) ?_
          refine gf_X2_22 (i := 0) X V rfl dX2_sizeOrder_43 ?_
          refine lv_iload_n X.1 X.2.1 dX2_sizeOrder_46 rfl (lv_at hl 2 rfl) ?_
          obtain ⟨hc, h⟩ := kg_of h
          refine al_X2_2 (i := 0) X V rfl hc dX2_sizeOrder_47 ?_
          obtain ⟨x2, hx2, h⟩ := kb_of h
          refine s_callSi (segs' := [gX2 g aT bT zT]) X V (c_X3_compare l D g (zT.1 v1.toNatClampNeg) (zT.2.1 v1.toNatClampNeg) (zT.1 v2.toNatClampNeg) (zT.2.1 v2.toNatClampNeg) x2 hx2) w_X2_93 ⟨Nat.le_of_ble_eq_true rfl, Nat.le_of_ble_eq_true rfl⟩ ⟨Nat.zero_le _, Nat.zero_le _⟩ rfl [] rfl rfl (kFst_refl _) rfl rfl hl.1 (Nat.le_of_ble_eq_true rfl) dX2_sizeOrder_48 (fun H locs V => ?_)
          obtain rfl := Option.some.inj h
          rw [hAA] at V
          rw [hQQ]
          exact k_iret X V rfl dX2_sizeOrder_51
        · replace h := kif_f hc h
          refine lv_iconst (v := (0 : Int32)) X.1 X.2.1 dX2_sizeOrder_22 (by decide) ?_
          obtain rfl := Option.some.inj h
          rw [hAA] at V
          rw [hQQ]
          exact k_iret X V rfl dX2_sizeOrder_23

def p_X2_sink_L28 (v1 : Int32) (v2 : Int32) (v3 : Int32) (s : Int32 × tX2) : Option (Nat × (Int32 × tX2)) :=
  kif (s.1 < v2) (some (75, (s.1, s.2))) (kb (p_X2_discAt s.2 (s.1 - v2)) (fun x2 => kb (p_X2_sizeOrder s.2 x2 v3) (fun x3 => kif (x3 ≤ 0) (some (75, (s.1, s.2))) (kg (kii (s.1 - v2) 298) (kg (kii s.1 298) (kl (s.2.1, s.2.2.1, s.2.2.2.1, (upd s.2.2.2.2.1 (s.1).toNatClampNeg (s.2.2.2.2.1 ((s.1 - v2)).toNatClampNeg)), s.2.2.2.2.2) (fun z4 => kl (s.1 - v2) (fun y5 => some (28, (y5, z4))))))))))
def p_X2_sink (zT : tX2) (v1 : Int32) (v2 : Int32) : Option (tX2) :=
  kif (v2 < (1 : Int32)) (some zT) (kif (v1 < v2) (some zT) (kif (v1 < zT.2.2.2.2.1) (kb (p_X2_discAt zT v1) (fun x1 => kb (kitr 28 (fun q => p_X2_sink_L28 v1 v2 x1 q) kF (v1, zT)) (fun x6 => kg (x6.1 = 75) (kg (kii x6.2.1 298) (kl (x6.2.2.1, x6.2.2.2.1, x6.2.2.2.2.1, (upd x6.2.2.2.2.2.1 (x6.2.1).toNatClampNeg x1), x6.2.2.2.2.2.2) (fun z7 => some z7)))))) (some zT)))
set_option maxHeartbeats 4000000 in
set_option maxRecDepth 100000 in
theorem c_X2_sink (l : Launch) (D : va_G) (g : kG) (aT : Nat → Nat) (bT : Nat → Nat → Nat) (zT : tX2) (v1 : Int32) (v2 : Int32) (r : tX2) (h : p_X2_sink zT v1 v2 = some r) : kMv l yX2_sink cX2_sink 5 none (kR 3 91) D (kty g) [.ref (aT 0), .int v1, .int v2] (List.flatten [gX2 g aT bT zT]) (List.flatten [gX2 g aT bT r]) := by
  intro sz
  refine k_enter (lv := [(0, .ref (aT 0)), (1, .int v1), (2, .int v2)]) RX2 (by decide +kernel) rfl rfl (Nat.le_of_ble_eq_true rfl) ?_
  intro p en s m args below meth c ls hsz X V hl
  obtain ⟨QQ, hQQ⟩ : ∃ q, q = MQ below (va_Qv (fun (_ : Unit) => True) (fun _ => kE D (List.flatten [gX2 g aT bT r])) (va_A (List.flatten [gX2 g aT bT zT]) sz)) args s 0 0 (va_A (List.flatten [gX2 g aT bT zT]) sz) := ⟨_, rfl⟩
  rw [← hQQ]
  obtain ⟨AA, hAA⟩ : ∃ q, q = va_A (List.flatten [gX2 g aT bT zT]) sz := ⟨_, rfl⟩
  rw [← hAA] at V
  unfold p_X2_sink at h
  refine lv_iload_n X.1 X.2.1 dX2_sink_0 rfl (lv_at hl 2 rfl) ?_
  refine lv_iconst (v := (1 : Int32)) X.1 X.2.1 dX2_sink_1 (by decide) ?_
  refine lv_icmp_lt (tgt := 18) X.1 X.2.1 dX2_sink_2 (by decide) (fun hc => ?_) (fun hc => ?_)
  · replace h := kif_t hc h
    obtain rfl := Option.some.inj h
    rw [hAA] at V
    rw [hQQ]
    exact k_vret X V dX2_sink_18
  · replace h := kif_f hc h
    refine lv_iload_n X.1 X.2.1 dX2_sink_5 rfl (lv_at hl 1 rfl) ?_
    refine lv_iload_n X.1 X.2.1 dX2_sink_6 rfl (lv_at hl 2 rfl) ?_
    refine lv_icmp_lt (tgt := 18) X.1 X.2.1 dX2_sink_7 (by decide) (fun hc => ?_) (fun hc => ?_)
    · replace h := kif_t hc h
      obtain rfl := Option.some.inj h
      rw [hAA] at V
      rw [hQQ]
      exact k_vret X V dX2_sink_18
    · replace h := kif_f hc h
      refine lv_iload_n X.1 X.2.1 dX2_sink_10 rfl (lv_at hl 1 rfl) ?_
      refine lv_aload_n X.1 X.2.1 dX2_sink_11 rfl (lv_at hl 0 rfl) ?_
      refine gf_X2_32 (i := 0) X V rfl dX2_sink_12 ?_
      refine lv_icmp_lt (tgt := 19) X.1 X.2.1 dX2_sink_15 (by decide) (fun hc => ?_) (fun hc => ?_)
      · replace h := kif_t hc h
        refine lv_aload_n X.1 X.2.1 dX2_sink_19 rfl (lv_at hl 0 rfl) ?_
        refine lv_iload_n X.1 X.2.1 dX2_sink_20 rfl (lv_at hl 1 rfl) ?_
        obtain ⟨x8, hx8, h⟩ := kb_of h
        refine s_callVi (segs' := [gX2 g aT bT zT]) (ci := 2) (i0 := 0) X V (c_X2_discAt l D g aT bT zT v1 x8 hx8) w_X2_87 ⟨Nat.le_of_ble_eq_true rfl, Nat.le_of_ble_eq_true rfl⟩ ⟨Nat.zero_le _, Nat.zero_le _⟩ rfl rfl rfl rfl [0] rfl rfl (kFst_refl _) rfl rfl hl.1 (Nat.le_of_ble_eq_true rfl) dX2_sink_21 (fun H locs V => ?_)
        refine lv_istore_n (lv' := [(3, .int x8), (0, .ref (aT 0)), (1, .int v1), (2, .int v2)]) X.1 X.2.1 dX2_sink_24 rfl hl (by decide) rfl (fun ls hl => ?_)
        refine lv_iload_n X.1 X.2.1 dX2_sink_25 rfl (lv_at hl 2 rfl) ?_
        refine lv_istore (lv' := [(4, .int v1), (3, .int x8), (0, .ref (aT 0)), (1, .int v1), (2, .int v2)]) X.1 X.2.1 dX2_sink_26 hl (by decide) rfl (fun ls hl => ?_)
        obtain ⟨x9, hx9, h⟩ := kb_of h
        refine (kitr_go (hd := 28) (body := fun q => p_X2_sink_L28 v1 v2 x8 q) (G := (fun e => ∀ (H : Heap) (locs : List Loc) (ls : Array Slot), kW D AA s.heap H (List.flatten [gX2 g aT bT e.2.2]) locs → lv_has ls 5 [(0, .ref (aT 0)), (2, .int v2), (3, .int x8), (4, .int e.2.1)] → W p l en (kR 3 91) s m args below meth c H locs 0 0 QQ (F0 m e.1 ls []))) (fun s10 e11 hb12 hG13 => ?_) kF _ x9 hx9 ?_) _ _ _ V (lv_sub hl [2, 4, 1, 0] rfl)
        · intro H locs ls V hl
          show W p l en (kR 3 91) s m args below meth c H locs 0 0 QQ (F0 m 28 ls [])
          have h : p_X2_sink_L28 v1 v2 x8 s10 = some e11 := hb12
          unfold p_X2_sink_L28 at h
          have V : kW D AA s.heap H (List.flatten [gX2 g aT bT s10.2]) locs := V
          have hl : lv_has ls 5 [(0, .ref (aT 0)), (2, .int v2), (3, .int x8), (4, .int s10.1)] := hl
          refine lv_iload X.1 X.2.1 dX2_sink_28 (lv_at hl 3 rfl) ?_
          refine lv_iload_n X.1 X.2.1 dX2_sink_30 rfl (lv_at hl 1 rfl) ?_
          refine lv_icmp_lt (tgt := 75) X.1 X.2.1 dX2_sink_31 (by decide) (fun hc => ?_) (fun hc => ?_)
          · replace h := kif_t hc h
            obtain rfl := Option.some.inj h
            exact hG13 _ _ _ V (lv_sub hl [0, 1, 2, 3] rfl)
          · replace h := kif_f hc h
            refine lv_aload_n X.1 X.2.1 dX2_sink_34 rfl (lv_at hl 0 rfl) ?_
            refine lv_aload_n X.1 X.2.1 dX2_sink_35 rfl (lv_at hl 0 rfl) ?_
            refine lv_iload X.1 X.2.1 dX2_sink_36 (lv_at hl 3 rfl) ?_
            refine lv_iload_n X.1 X.2.1 dX2_sink_38 rfl (lv_at hl 1 rfl) ?_
            refine lv_isub X.1 X.2.1 dX2_sink_39 ?_
            obtain ⟨x14, hx14, h⟩ := kb_of h
            refine s_callVi (segs' := [gX2 g aT bT s10.2]) (ci := 2) (i0 := 0) X V (c_X2_discAt l D g aT bT s10.2 (s10.1 - v2) x14 hx14) w_X2_87 ⟨Nat.le_of_ble_eq_true rfl, Nat.le_of_ble_eq_true rfl⟩ ⟨Nat.zero_le _, Nat.zero_le _⟩ rfl rfl rfl rfl [0] rfl rfl (kFst_refl _) rfl rfl hl.1 (Nat.le_of_ble_eq_true rfl) dX2_sink_40 (fun H locs V => ?_)
            refine lv_iload_n X.1 X.2.1 dX2_sink_43 rfl (lv_at hl 2 rfl) ?_
            obtain ⟨x15, hx15, h⟩ := kb_of h
            refine s_callVi (segs' := [gX2 g aT bT s10.2]) (ci := 2) (i0 := 0) X V (c_X2_sizeOrder l D g aT bT s10.2 x14 x8 x15 hx15) w_X2_90 ⟨Nat.le_of_ble_eq_true rfl, Nat.le_of_ble_eq_true rfl⟩ ⟨Nat.zero_le _, Nat.zero_le _⟩ rfl rfl rfl rfl [0] rfl rfl (kFst_refl _) rfl rfl hl.1 (Nat.le_of_ble_eq_true rfl) dX2_sink_44 (fun H locs V => ?_)
            refine lv_if_le (tgt := 75) X.1 X.2.1 dX2_sink_47 (by decide) (fun hc => ?_) (fun hc => ?_)
            · replace h := kif_t hc h
              obtain rfl := Option.some.inj h
              exact hG13 _ _ _ V (lv_sub hl [0, 1, 2, 3] rfl)
            · replace h := kif_f hc h
              refine lv_aload_n X.1 X.2.1 dX2_sink_50 rfl (lv_at hl 0 rfl) ?_
              refine gf_X2_29 (i := 0) X V rfl dX2_sink_51 ?_
              refine lv_iload X.1 X.2.1 dX2_sink_54 (lv_at hl 3 rfl) ?_
              refine lv_aload_n X.1 X.2.1 dX2_sink_56 rfl (lv_at hl 0 rfl) ?_
              refine gf_X2_29 (i := 0) X V rfl dX2_sink_57 ?_
              refine lv_iload X.1 X.2.1 dX2_sink_60 (lv_at hl 3 rfl) ?_
              refine lv_iload_n X.1 X.2.1 dX2_sink_62 rfl (lv_at hl 1 rfl) ?_
              refine lv_isub X.1 X.2.1 dX2_sink_63 ?_
              obtain ⟨hc, h⟩ := kg_of h
              refine al_X2_4 (i := 0) X V rfl hc dX2_sink_64 ?_
              obtain ⟨hc, h⟩ := kg_of h
              refine as_X2_4 (i := 0) X V rfl hc dX2_sink_65 (fun H locs V => ?_)
              obtain ⟨z16, ez16⟩ : ∃ y, y = (s10.2.1, s10.2.2.1, s10.2.2.2.1, (upd s10.2.2.2.2.1 (s10.1).toNatClampNeg (s10.2.2.2.2.1 ((s10.1 - v2)).toNatClampNeg)), s10.2.2.2.2.2) := ⟨_, rfl⟩
              replace h := kl_of ez16 h
              have V : kW D AA s.heap H (List.flatten [gX2 g aT bT z16]) locs := by rw [ez16]; exact V
              refine lv_iload X.1 X.2.1 dX2_sink_66 (lv_at hl 3 rfl) ?_
              refine lv_iload_n X.1 X.2.1 dX2_sink_68 rfl (lv_at hl 1 rfl) ?_
              refine lv_isub X.1 X.2.1 dX2_sink_69 ?_
              refine lv_topi (fun y17 ey17 => ?_)
              replace h := kl_of ey17 h
              refine lv_istore (lv' := [(4, .int y17), (0, .ref (aT 0)), (2, .int v2), (3, .int x8)]) X.1 X.2.1 dX2_sink_70 hl (by decide) rfl (fun ls hl => ?_)
              refine lv_goto (tgt := 28) X.1 X.2.1 dX2_sink_72 (by decide) ?_
              obtain rfl := Option.some.inj h
              exact hG13 _ _ _ V (lv_sub hl [1, 2, 3, 0] rfl)
        · intro H locs ls V hl
          have V : kW D AA s.heap H (List.flatten [gX2 g aT bT x9.2.2]) locs := V
          have hl : lv_has ls 5 [(0, .ref (aT 0)), (2, .int v2), (3, .int x8), (4, .int x9.2.1)] := hl
          obtain ⟨hc, h⟩ := kg_of h
          refine W.eq (g2 := F0 m 75 ls []) (by rw [hc]) ?_
          refine lv_aload_n X.1 X.2.1 dX2_sink_75 rfl (lv_at hl 0 rfl) ?_
          refine gf_X2_29 (i := 0) X V rfl dX2_sink_76 ?_
          refine lv_iload X.1 X.2.1 dX2_sink_79 (lv_at hl 3 rfl) ?_
          refine lv_iload_n X.1 X.2.1 dX2_sink_81 rfl (lv_at hl 2 rfl) ?_
          obtain ⟨hc, h⟩ := kg_of h
          refine as_X2_4 (i := 0) X V rfl hc dX2_sink_82 (fun H locs V => ?_)
          obtain ⟨z18, ez18⟩ : ∃ y, y = (x9.2.2.1, x9.2.2.2.1, x9.2.2.2.2.1, (upd x9.2.2.2.2.2.1 (x9.2.1).toNatClampNeg x8), x9.2.2.2.2.2.2) := ⟨_, rfl⟩
          replace h := kl_of ez18 h
          have V : kW D AA s.heap H (List.flatten [gX2 g aT bT z18]) locs := by rw [ez18]; exact V
          obtain rfl := Option.some.inj h
          rw [hAA] at V
          rw [hQQ]
          exact k_vret X V dX2_sink_83
      · replace h := kif_f hc h
        obtain rfl := Option.some.inj h
        rw [hAA] at V
        rw [hQQ]
        exact k_vret X V dX2_sink_18

def p_X2_about_L71 (zP1 : tX8) (v2 : Int32) (v3 : Int32) (s : Int32 × tX2 × tX0) : Option (Nat × (Int32 × tX2 × tX0)) :=
  kif (v3 ≤ s.1) (some (103, (s.1, s.2.1, s.2.2))) (kb (p_X0_throughThree s.2.2 zP1 v2 v3 s.1) (fun x10 => kif ((kz x10.1) = 0) (kl (s.1 + (1 : Int32)) (fun y11 => some (71, (y11, s.2.1, x10.2)))) (kb (p_X2_add s.2.1 x10.2 zP1) (fun x12 => kl (s.1 + (1 : Int32)) (fun y13 => some (71, (y13, x12, x10.2)))))))
def p_X2_about_L48 (zP1 : tX8) (v2 : Int32) (s : Int32 × tX2 × tX0) : Option (Nat × (Int32 × tX2 × tX0)) :=
  kif (v2 ≤ s.1) (some (109, (s.1, s.2.1, s.2.2))) (kb (p_X0_acrossTwo s.2.2 zP1 v2 s.1) (fun x8 => kb (p_X2_add s.2.1 x8 zP1) (fun x9 => kb (kitr 71 (fun q => p_X2_about_L71 zP1 v2 s.1 q) kF ((0 : Int32), x9, x8)) (fun x14 => kg (x14.1 = 103) (kl (s.1 + (1 : Int32)) (fun y15 => some (48, (y15, x14.2.2.1, x14.2.2.2))))))))
def p_X2_about_L24 (zP1 : tX8) (s : Int32 × tX2 × tX0) : Option (Nat × (Int32 × tX2 × tX0)) :=
  kb (p_X8_count zP1) (fun x5 => kif (x5 ≤ s.1) (some (115, (s.1, s.2.1, s.2.2))) (kb (p_X0_atOne s.2.2 zP1 s.1) (fun x6 => kb (p_X2_add s.2.1 x6 zP1) (fun x7 => kb (kitr 48 (fun q => p_X2_about_L48 zP1 s.1 q) kF ((0 : Int32), x7, x6)) (fun x16 => kg (x16.1 = 109) (kl (s.1 + (1 : Int32)) (fun y17 => some (24, (y17, x16.2.2.1, x16.2.2.2)))))))))
def p_X2_about_L128 (zP1 : tX8) (zT_0 : tX0) (v2 : Int32) (s : Int32 × tX2) : Option (Nat × (Int32 × tX2)) :=
  kif (s.2.2.2.2.2.1 ≤ s.1) (some (148, (s.1, s.2))) (kb (p_X2_sink s.2 s.1 v2) (fun x20 => kl (s.1 + (1 : Int32)) (fun y21 => some (128, (y21, x20)))))
def p_X2_about_L122 (zP1 : tX8) (zT_0 : tX0) (s : Int32 × tX2) : Option (Nat × (Int32 × tX2)) :=
  kif (s.1 ≤ 0) (some (155, (s.1, s.2))) (kb (kitr 128 (fun q => p_X2_about_L128 zP1 zT_0 s.1 q) kF (s.1, s.2)) (fun x22 => kg (x22.1 = 148) (kl (s.1 / (2 : Int32)) (fun y23 => some (122, (y23, x22.2.2))))))
def p_X2_about (zT : tX2) (zT_0 : tX0) (zP1 : tX8) : Option (tX2 × tX0) :=
  kl (zT.1, zT.2.1, zT.2.2.1, zT.2.2.2.1, (0 : Int32), zT.2.2.2.2.2) (fun z1 => kb (p_X8_count zP1) (fun x2 => kb (p_J9_min_7cf53 x2 (12 : Int32)) (fun x3 => kl (z1.1, z1.2.1, z1.2.2.1, z1.2.2.2.1, z1.2.2.2.2.1, (((1 : Int32) <<< (x3 &&& 31)) - (1 : Int32))) (fun z4 => kb (kitr 24 (fun q => p_X2_about_L24 zP1 q) kF ((0 : Int32), z4, zT_0)) (fun x18 => kg (x18.1 = 115) (kl (x18.2.2.1.2.2.2.2.1 / (2 : Int32)) (fun y19 => kb (kitr 122 (fun q => p_X2_about_L122 zP1 x18.2.2.2 q) kF (y19, x18.2.2.1)) (fun x24 => kg (x24.1 = 155) (some (x24.2.2, x18.2.2.2))))))))))
set_option maxHeartbeats 4000000 in
set_option maxRecDepth 100000 in
theorem c_X2_about (l : Launch) (D : va_G) (g : kG) (aT : Nat → Nat) (aP1 : Nat → Nat) (bT : Nat → Nat → Nat) (zT : tX2) (zT_0 : tX0) (zP1 : tX8) (r : tX2 × tX0) (h : p_X2_about zT zT_0 zP1 = some r) : kMv l yX2_about cX2_about 5 none (kR 4 115) D (kty g) [.ref (aT 0), .ref (aP1 0)] (List.flatten [gX2 g aT bT zT, gX0 g (bT 0) zT_0, gX8 g aP1 zP1]) (List.flatten [gX2 g aT bT r.1, gX0 g (bT 0) r.2, gX8 g aP1 zP1]) := by
  intro sz
  refine k_enter (lv := [(0, .ref (aT 0)), (1, .ref (aP1 0))]) RX2 (by decide +kernel) rfl rfl (Nat.le_of_ble_eq_true rfl) ?_
  intro p en s m args below meth c ls hsz X V hl
  obtain ⟨QQ, hQQ⟩ : ∃ q, q = MQ below (va_Qv (fun (_ : Unit) => True) (fun _ => kE D (List.flatten [gX2 g aT bT r.1, gX0 g (bT 0) r.2, gX8 g aP1 zP1])) (va_A (List.flatten [gX2 g aT bT zT, gX0 g (bT 0) zT_0, gX8 g aP1 zP1]) sz)) args s 0 0 (va_A (List.flatten [gX2 g aT bT zT, gX0 g (bT 0) zT_0, gX8 g aP1 zP1]) sz) := ⟨_, rfl⟩
  rw [← hQQ]
  obtain ⟨AA, hAA⟩ : ∃ q, q = va_A (List.flatten [gX2 g aT bT zT, gX0 g (bT 0) zT_0, gX8 g aP1 zP1]) sz := ⟨_, rfl⟩
  rw [← hAA] at V
  unfold p_X2_about at h
  refine lv_aload_n X.1 X.2.1 dX2_about_0 rfl (lv_at hl 0 rfl) ?_
  refine lv_iconst (v := (0 : Int32)) X.1 X.2.1 dX2_about_1 (by decide) ?_
  refine pf_X2_32 (i := 0) X V rfl dX2_about_2 (fun H locs V => ?_)
  obtain ⟨z25, ez25⟩ : ∃ y, y = (zT.1, zT.2.1, zT.2.2.1, zT.2.2.2.1, (0 : Int32), zT.2.2.2.2.2) := ⟨_, rfl⟩
  replace h := kl_of ez25 h
  have V : kW D AA s.heap H (List.flatten [gX2 g aT bT z25, gX0 g (bT 0) zT_0, gX8 g aP1 zP1]) locs := by rw [ez25]; exact V
  refine lv_aload_n X.1 X.2.1 dX2_about_5 rfl (lv_at hl 0 rfl) ?_
  refine lv_iconst (v := (1 : Int32)) X.1 X.2.1 dX2_about_6 (by decide) ?_
  refine lv_aload_n X.1 X.2.1 dX2_about_7 rfl (lv_at hl 1 rfl) ?_
  obtain ⟨x26, hx26, h⟩ := kb_of h
  refine s_callVi (segs' := [gX2 g aT bT z25, gX0 g (bT 0) zT_0, gX8 g aP1 zP1]) (ci := 8) (i0 := 0) X V (c_X8_count l D g aP1 zP1 x26 hx26) w_X2_36 ⟨Nat.le_of_ble_eq_true rfl, Nat.le_of_ble_eq_true rfl⟩ ⟨Nat.zero_le _, Nat.zero_le _⟩ rfl rfl rfl rfl [2] rfl rfl (kFst_refl _) rfl rfl hl.1 (Nat.le_of_ble_eq_true rfl) dX2_about_8 (fun H locs V => ?_)
  refine lv_bipush (v := (12 : Int32)) X.1 X.2.1 dX2_about_11 (by decide) ?_
  obtain ⟨x27, hx27, h⟩ := kb_of h
  refine s_callSi (segs' := [gX2 g aT bT z25, gX0 g (bT 0) zT_0, gX8 g aP1 zP1]) X V (c_J9_min_7cf53 l D g x26 (12 : Int32) x27 hx27) w_X2_41 ⟨Nat.le_of_ble_eq_true rfl, Nat.le_of_ble_eq_true rfl⟩ ⟨Nat.zero_le _, Nat.zero_le _⟩ rfl [] rfl rfl (kFst_refl _) rfl rfl hl.1 (Nat.le_of_ble_eq_true rfl) dX2_about_13 (fun H locs V => ?_)
  refine lv_ishl X.1 X.2.1 dX2_about_16 ?_
  refine lv_iconst (v := (1 : Int32)) X.1 X.2.1 dX2_about_17 (by decide) ?_
  refine lv_isub X.1 X.2.1 dX2_about_18 ?_
  refine pf_X2_47 (i := 0) X V rfl dX2_about_19 (fun H locs V => ?_)
  obtain ⟨z28, ez28⟩ : ∃ y, y = (z25.1, z25.2.1, z25.2.2.1, z25.2.2.2.1, z25.2.2.2.2.1, (((1 : Int32) <<< (x27 &&& 31)) - (1 : Int32))) := ⟨_, rfl⟩
  replace h := kl_of ez28 h
  have V : kW D AA s.heap H (List.flatten [gX2 g aT bT z28, gX0 g (bT 0) zT_0, gX8 g aP1 zP1]) locs := by rw [ez28]; exact V
  refine lv_iconst (v := (0 : Int32)) X.1 X.2.1 dX2_about_22 (by decide) ?_
  refine lv_istore_n (lv' := [(2, .int (0 : Int32)), (0, .ref (aT 0)), (1, .ref (aP1 0))]) X.1 X.2.1 dX2_about_23 rfl hl (by decide) rfl (fun ls hl => ?_)
  obtain ⟨x29, hx29, h⟩ := kb_of h
  refine (kitr_go (hd := 24) (body := fun q => p_X2_about_L24 zP1 q) (G := (fun e => ∀ (H : Heap) (locs : List Loc) (ls : Array Slot), kW D AA s.heap H (List.flatten [gX2 g aT bT e.2.2.1, gX0 g (bT 0) e.2.2.2, gX8 g aP1 zP1]) locs → lv_has ls 5 [(0, .ref (aT 0)), (1, .ref (aP1 0)), (2, .int e.2.1)] → W p l en (kR 4 115) s m args below meth c H locs 0 0 QQ (F0 m e.1 ls []))) (fun s30 e31 hb32 hG33 => ?_) kF _ x29 hx29 ?_) _ _ _ V (lv_sub hl [1, 2, 0] rfl)
  · intro H locs ls V hl
    show W p l en (kR 4 115) s m args below meth c H locs 0 0 QQ (F0 m 24 ls [])
    have h : p_X2_about_L24 zP1 s30 = some e31 := hb32
    unfold p_X2_about_L24 at h
    have V : kW D AA s.heap H (List.flatten [gX2 g aT bT s30.2.1, gX0 g (bT 0) s30.2.2, gX8 g aP1 zP1]) locs := V
    have hl : lv_has ls 5 [(0, .ref (aT 0)), (1, .ref (aP1 0)), (2, .int s30.1)] := hl
    refine lv_iload_n X.1 X.2.1 dX2_about_24 rfl (lv_at hl 2 rfl) ?_
    refine lv_aload_n X.1 X.2.1 dX2_about_25 rfl (lv_at hl 1 rfl) ?_
    obtain ⟨x34, hx34, h⟩ := kb_of h
    refine s_callVi (segs' := [gX2 g aT bT s30.2.1, gX0 g (bT 0) s30.2.2, gX8 g aP1 zP1]) (ci := 8) (i0 := 0) X V (c_X8_count l D g aP1 zP1 x34 hx34) w_X2_36 ⟨Nat.le_of_ble_eq_true rfl, Nat.le_of_ble_eq_true rfl⟩ ⟨Nat.zero_le _, Nat.zero_le _⟩ rfl rfl rfl rfl [2] rfl rfl (kFst_refl _) rfl rfl hl.1 (Nat.le_of_ble_eq_true rfl) dX2_about_26 (fun H locs V => ?_)
    refine lv_icmp_ge (tgt := 115) X.1 X.2.1 dX2_about_29 (by decide) (fun hc => ?_) (fun hc => ?_)
    · replace h := kif_t hc h
      obtain rfl := Option.some.inj h
      exact hG33 _ _ _ V (lv_sub hl [0, 1, 2] rfl)
    · replace h := kif_f hc h
      refine lv_aload_n X.1 X.2.1 dX2_about_32 rfl (lv_at hl 0 rfl) ?_
      refine gf_X2_12 (i := 0) X V rfl dX2_about_33 ?_
      refine lv_aload_n X.1 X.2.1 dX2_about_36 rfl (lv_at hl 1 rfl) ?_
      refine lv_iload_n X.1 X.2.1 dX2_about_37 rfl (lv_at hl 2 rfl) ?_
      obtain ⟨x35, hx35, h⟩ := kb_of h
      refine s_callVv (segs' := [gX2 g aT bT s30.2.1, gX0 g (bT 0) x35, gX8 g aP1 zP1]) (ci := 0) (i0 := 0) X V (c_X0_atOne l D g (bT 0) aP1 s30.2.2 zP1 s30.1 x35 hx35) w_X2_50 ⟨Nat.le_of_ble_eq_true rfl, Nat.le_of_ble_eq_true rfl⟩ ⟨Nat.zero_le _, Nat.zero_le _⟩ rfl rfl rfl rfl [1, 2] rfl rfl ⟨gX0_fst, rfl, trivial⟩ rfl rfl hl.1 (Nat.le_of_ble_eq_true rfl) dX2_about_38 (fun H locs V => ?_)
      refine lv_aload_n X.1 X.2.1 dX2_about_41 rfl (lv_at hl 0 rfl) ?_
      refine lv_aload_n X.1 X.2.1 dX2_about_42 rfl (lv_at hl 1 rfl) ?_
      obtain ⟨x36, hx36, h⟩ := kb_of h
      refine s_callVv (segs' := [gX2 g aT bT x36, gX0 g (bT 0) x35, gX8 g aP1 zP1]) (ci := 2) (i0 := 0) X V (c_X2_add l D g aT aP1 bT s30.2.1 x35 zP1 x36 hx36) w_X2_54 ⟨Nat.le_of_ble_eq_true rfl, Nat.le_of_ble_eq_true rfl⟩ ⟨Nat.zero_le _, Nat.zero_le _⟩ rfl rfl rfl rfl [0, 1, 2] rfl rfl ⟨gX2_fst, rfl, rfl, trivial⟩ rfl rfl hl.1 (Nat.le_of_ble_eq_true rfl) dX2_about_43 (fun H locs V => ?_)
      refine lv_iconst (v := (0 : Int32)) X.1 X.2.1 dX2_about_46 (by decide) ?_
      refine lv_istore_n (lv' := [(3, .int (0 : Int32)), (0, .ref (aT 0)), (1, .ref (aP1 0)), (2, .int s30.1)]) X.1 X.2.1 dX2_about_47 rfl hl (by decide) rfl (fun ls hl => ?_)
      obtain ⟨x37, hx37, h⟩ := kb_of h
      refine (kitr_go (hd := 48) (body := fun q => p_X2_about_L48 zP1 s30.1 q) (G := (fun e => ∀ (H : Heap) (locs : List Loc) (ls : Array Slot), kW D AA s.heap H (List.flatten [gX2 g aT bT e.2.2.1, gX0 g (bT 0) e.2.2.2, gX8 g aP1 zP1]) locs → lv_has ls 5 [(0, .ref (aT 0)), (1, .ref (aP1 0)), (2, .int s30.1), (3, .int e.2.1)] → W p l en (kR 4 115) s m args below meth c H locs 0 0 QQ (F0 m e.1 ls []))) (fun s38 e39 hb40 hG41 => ?_) kF _ x37 hx37 ?_) _ _ _ V (lv_sub hl [1, 2, 3, 0] rfl)
      · intro H locs ls V hl
        show W p l en (kR 4 115) s m args below meth c H locs 0 0 QQ (F0 m 48 ls [])
        have h : p_X2_about_L48 zP1 s30.1 s38 = some e39 := hb40
        unfold p_X2_about_L48 at h
        have V : kW D AA s.heap H (List.flatten [gX2 g aT bT s38.2.1, gX0 g (bT 0) s38.2.2, gX8 g aP1 zP1]) locs := V
        have hl : lv_has ls 5 [(0, .ref (aT 0)), (1, .ref (aP1 0)), (2, .int s30.1), (3, .int s38.1)] := hl
        refine lv_iload_n X.1 X.2.1 dX2_about_48 rfl (lv_at hl 3 rfl) ?_
        refine lv_iload_n X.1 X.2.1 dX2_about_49 rfl (lv_at hl 2 rfl) ?_
        refine lv_icmp_ge (tgt := 109) X.1 X.2.1 dX2_about_50 (by decide) (fun hc => ?_) (fun hc => ?_)
        · replace h := kif_t hc h
          obtain rfl := Option.some.inj h
          exact hG41 _ _ _ V (lv_sub hl [0, 1, 2, 3] rfl)
        · replace h := kif_f hc h
          refine lv_aload_n X.1 X.2.1 dX2_about_53 rfl (lv_at hl 0 rfl) ?_
          refine gf_X2_12 (i := 0) X V rfl dX2_about_54 ?_
          refine lv_aload_n X.1 X.2.1 dX2_about_57 rfl (lv_at hl 1 rfl) ?_
          refine lv_iload_n X.1 X.2.1 dX2_about_58 rfl (lv_at hl 2 rfl) ?_
          refine lv_iload_n X.1 X.2.1 dX2_about_59 rfl (lv_at hl 3 rfl) ?_
          obtain ⟨x42, hx42, h⟩ := kb_of h
          refine s_callVv (segs' := [gX2 g aT bT s38.2.1, gX0 g (bT 0) x42, gX8 g aP1 zP1]) (ci := 0) (i0 := 0) X V (c_X0_acrossTwo l D g (bT 0) aP1 s38.2.2 zP1 s30.1 s38.1 x42 hx42) w_X2_58 ⟨Nat.le_of_ble_eq_true rfl, Nat.le_of_ble_eq_true rfl⟩ ⟨Nat.zero_le _, Nat.zero_le _⟩ rfl rfl rfl rfl [1, 2] rfl rfl ⟨gX0_fst, rfl, trivial⟩ rfl rfl hl.1 (Nat.le_of_ble_eq_true rfl) dX2_about_60 (fun H locs V => ?_)
          refine lv_aload_n X.1 X.2.1 dX2_about_63 rfl (lv_at hl 0 rfl) ?_
          refine lv_aload_n X.1 X.2.1 dX2_about_64 rfl (lv_at hl 1 rfl) ?_
          obtain ⟨x43, hx43, h⟩ := kb_of h
          refine s_callVv (segs' := [gX2 g aT bT x43, gX0 g (bT 0) x42, gX8 g aP1 zP1]) (ci := 2) (i0 := 0) X V (c_X2_add l D g aT aP1 bT s38.2.1 x42 zP1 x43 hx43) w_X2_54 ⟨Nat.le_of_ble_eq_true rfl, Nat.le_of_ble_eq_true rfl⟩ ⟨Nat.zero_le _, Nat.zero_le _⟩ rfl rfl rfl rfl [0, 1, 2] rfl rfl ⟨gX2_fst, rfl, rfl, trivial⟩ rfl rfl hl.1 (Nat.le_of_ble_eq_true rfl) dX2_about_65 (fun H locs V => ?_)
          refine lv_iconst (v := (0 : Int32)) X.1 X.2.1 dX2_about_68 (by decide) ?_
          refine lv_istore (lv' := [(4, .int (0 : Int32)), (0, .ref (aT 0)), (1, .ref (aP1 0)), (2, .int s30.1), (3, .int s38.1)]) X.1 X.2.1 dX2_about_69 hl (by decide) rfl (fun ls hl => ?_)
          obtain ⟨x44, hx44, h⟩ := kb_of h
          refine (kitr_go (hd := 71) (body := fun q => p_X2_about_L71 zP1 s30.1 s38.1 q) (G := (fun e => ∀ (H : Heap) (locs : List Loc) (ls : Array Slot), kW D AA s.heap H (List.flatten [gX2 g aT bT e.2.2.1, gX0 g (bT 0) e.2.2.2, gX8 g aP1 zP1]) locs → lv_has ls 5 [(0, .ref (aT 0)), (1, .ref (aP1 0)), (2, .int s30.1), (3, .int s38.1), (4, .int e.2.1)] → W p l en (kR 4 115) s m args below meth c H locs 0 0 QQ (F0 m e.1 ls []))) (fun s45 e46 hb47 hG48 => ?_) kF _ x44 hx44 ?_) _ _ _ V (lv_sub hl [1, 2, 3, 4, 0] rfl)
          · intro H locs ls V hl
            show W p l en (kR 4 115) s m args below meth c H locs 0 0 QQ (F0 m 71 ls [])
            have h : p_X2_about_L71 zP1 s30.1 s38.1 s45 = some e46 := hb47
            unfold p_X2_about_L71 at h
            have V : kW D AA s.heap H (List.flatten [gX2 g aT bT s45.2.1, gX0 g (bT 0) s45.2.2, gX8 g aP1 zP1]) locs := V
            have hl : lv_has ls 5 [(0, .ref (aT 0)), (1, .ref (aP1 0)), (2, .int s30.1), (3, .int s38.1), (4, .int s45.1)] := hl
            refine lv_iload X.1 X.2.1 dX2_about_71 (lv_at hl 4 rfl) ?_
            refine lv_iload_n X.1 X.2.1 dX2_about_73 rfl (lv_at hl 3 rfl) ?_
            refine lv_icmp_ge (tgt := 103) X.1 X.2.1 dX2_about_74 (by decide) (fun hc => ?_) (fun hc => ?_)
            · replace h := kif_t hc h
              obtain rfl := Option.some.inj h
              exact hG48 _ _ _ V (lv_sub hl [0, 1, 2, 3, 4] rfl)
            · replace h := kif_f hc h
              refine lv_aload_n X.1 X.2.1 dX2_about_77 rfl (lv_at hl 0 rfl) ?_
              refine gf_X2_12 (i := 0) X V rfl dX2_about_78 ?_
              refine lv_aload_n X.1 X.2.1 dX2_about_81 rfl (lv_at hl 1 rfl) ?_
              refine lv_iload_n X.1 X.2.1 dX2_about_82 rfl (lv_at hl 2 rfl) ?_
              refine lv_iload_n X.1 X.2.1 dX2_about_83 rfl (lv_at hl 3 rfl) ?_
              refine lv_iload X.1 X.2.1 dX2_about_84 (lv_at hl 4 rfl) ?_
              obtain ⟨x49, hx49, h⟩ := kb_of h
              refine s_callVi (segs' := [gX2 g aT bT s45.2.1, gX0 g (bT 0) x49.2, gX8 g aP1 zP1]) (ci := 0) (i0 := 0) X V (c_X0_throughThree l D g (bT 0) aP1 s45.2.2 zP1 s30.1 s38.1 s45.1 x49 hx49) w_X2_62 ⟨Nat.le_of_ble_eq_true rfl, Nat.le_of_ble_eq_true rfl⟩ ⟨Nat.zero_le _, Nat.zero_le _⟩ rfl rfl rfl rfl [1, 2] rfl rfl ⟨gX0_fst, rfl, trivial⟩ rfl rfl hl.1 (Nat.le_of_ble_eq_true rfl) dX2_about_86 (fun H locs V => ?_)
              refine lv_if_eq (tgt := 97) X.1 X.2.1 dX2_about_89 (by decide) (fun hc => ?_) (fun hc => ?_)
              · replace h := kif_t hc h
                obtain ⟨y50, ey50⟩ : ∃ y : Int32, y = (s45.1 + (1 : Int32)) := ⟨_, rfl⟩
                replace h := kl_of ey50 h
                refine lv_iinc (v := y50) (lv' := [(4, .int y50), (0, .ref (aT 0)), (1, .ref (aP1 0)), (2, .int s30.1), (3, .int s38.1)]) X.1 X.2.1 dX2_about_97 hl (k := 4) rfl (by rw [ey50]; rfl) (by decide) rfl (fun ls hl => ?_)
                refine lv_goto (tgt := 71) X.1 X.2.1 dX2_about_100 (by decide) ?_
                obtain rfl := Option.some.inj h
                exact hG48 _ _ _ V (lv_sub hl [1, 2, 3, 4, 0] rfl)
              · replace h := kif_f hc h
                refine lv_aload_n X.1 X.2.1 dX2_about_92 rfl (lv_at hl 0 rfl) ?_
                refine lv_aload_n X.1 X.2.1 dX2_about_93 rfl (lv_at hl 1 rfl) ?_
                obtain ⟨x51, hx51, h⟩ := kb_of h
                refine s_callVv (segs' := [gX2 g aT bT x51, gX0 g (bT 0) x49.2, gX8 g aP1 zP1]) (ci := 2) (i0 := 0) X V (c_X2_add l D g aT aP1 bT s45.2.1 x49.2 zP1 x51 hx51) w_X2_54 ⟨Nat.le_of_ble_eq_true rfl, Nat.le_of_ble_eq_true rfl⟩ ⟨Nat.zero_le _, Nat.zero_le _⟩ rfl rfl rfl rfl [0, 1, 2] rfl rfl ⟨gX2_fst, rfl, rfl, trivial⟩ rfl rfl hl.1 (Nat.le_of_ble_eq_true rfl) dX2_about_94 (fun H locs V => ?_)
                obtain ⟨y52, ey52⟩ : ∃ y : Int32, y = (s45.1 + (1 : Int32)) := ⟨_, rfl⟩
                replace h := kl_of ey52 h
                refine lv_iinc (v := y52) (lv' := [(4, .int y52), (0, .ref (aT 0)), (1, .ref (aP1 0)), (2, .int s30.1), (3, .int s38.1)]) X.1 X.2.1 dX2_about_97 hl (k := 4) rfl (by rw [ey52]; rfl) (by decide) rfl (fun ls hl => ?_)
                refine lv_goto (tgt := 71) X.1 X.2.1 dX2_about_100 (by decide) ?_
                obtain rfl := Option.some.inj h
                exact hG48 _ _ _ V (lv_sub hl [1, 2, 3, 4, 0] rfl)
          · intro H locs ls V hl
            have V : kW D AA s.heap H (List.flatten [gX2 g aT bT x44.2.2.1, gX0 g (bT 0) x44.2.2.2, gX8 g aP1 zP1]) locs := V
            have hl : lv_has ls 5 [(0, .ref (aT 0)), (1, .ref (aP1 0)), (2, .int s30.1), (3, .int s38.1), (4, .int x44.2.1)] := hl
            obtain ⟨hc, h⟩ := kg_of h
            refine W.eq (g2 := F0 m 103 ls []) (by rw [hc]) ?_
            obtain ⟨y53, ey53⟩ : ∃ y : Int32, y = (s38.1 + (1 : Int32)) := ⟨_, rfl⟩
            replace h := kl_of ey53 h
            refine lv_iinc (v := y53) (lv' := [(3, .int y53), (0, .ref (aT 0)), (1, .ref (aP1 0)), (2, .int s30.1), (4, .int x44.2.1)]) X.1 X.2.1 dX2_about_103 hl (k := 3) rfl (by rw [ey53]; rfl) (by decide) rfl (fun ls hl => ?_)
            refine lv_goto (tgt := 48) X.1 X.2.1 dX2_about_106 (by decide) ?_
            obtain rfl := Option.some.inj h
            exact hG41 _ _ _ V (lv_sub hl [1, 2, 3, 0] rfl)
      · intro H locs ls V hl
        have V : kW D AA s.heap H (List.flatten [gX2 g aT bT x37.2.2.1, gX0 g (bT 0) x37.2.2.2, gX8 g aP1 zP1]) locs := V
        have hl : lv_has ls 5 [(0, .ref (aT 0)), (1, .ref (aP1 0)), (2, .int s30.1), (3, .int x37.2.1)] := hl
        obtain ⟨hc, h⟩ := kg_of h
        refine W.eq (g2 := F0 m 109 ls []) (by rw [hc]) ?_
        obtain ⟨y54, ey54⟩ : ∃ y : Int32, y = (s30.1 + (1 : Int32)) := ⟨_, rfl⟩
        replace h := kl_of ey54 h
        refine lv_iinc (v := y54) (lv' := [(2, .int y54), (0, .ref (aT 0)), (1, .ref (aP1 0)), (3, .int x37.2.1)]) X.1 X.2.1 dX2_about_109 hl (k := 2) rfl (by rw [ey54]; rfl) (by decide) rfl (fun ls hl => ?_)
        refine lv_goto (tgt := 24) X.1 X.2.1 dX2_about_112 (by decide) ?_
        obtain rfl := Option.some.inj h
        exact hG33 _ _ _ V (lv_sub hl [1, 2, 0] rfl)
  · intro H locs ls V hl
    have V : kW D AA s.heap H (List.flatten [gX2 g aT bT x29.2.2.1, gX0 g (bT 0) x29.2.2.2, gX8 g aP1 zP1]) locs := V
    have hl : lv_has ls 5 [(0, .ref (aT 0)), (1, .ref (aP1 0)), (2, .int x29.2.1)] := hl
    obtain ⟨hc, h⟩ := kg_of h
    refine W.eq (g2 := F0 m 115 ls []) (by rw [hc]) ?_
    refine lv_aload_n X.1 X.2.1 dX2_about_115 rfl (lv_at hl 0 rfl) ?_
    refine gf_X2_32 (i := 0) X V rfl dX2_about_116 ?_
    refine lv_iconst (v := (2 : Int32)) X.1 X.2.1 dX2_about_119 (by decide) ?_
    refine lv_idiv X.1 X.2.1 dX2_about_120 (by decide) ?_
    refine lv_topi (fun y55 ey55 => ?_)
    replace h := kl_of ey55 h
    refine lv_istore_n (lv' := [(2, .int y55), (0, .ref (aT 0)), (1, .ref (aP1 0))]) X.1 X.2.1 dX2_about_121 rfl hl (by decide) rfl (fun ls hl => ?_)
    obtain ⟨x56, hx56, h⟩ := kb_of h
    refine (kitr_go (hd := 122) (body := fun q => p_X2_about_L122 zP1 x29.2.2.2 q) (G := (fun e => ∀ (H : Heap) (locs : List Loc) (ls : Array Slot), kW D AA s.heap H (List.flatten [gX2 g aT bT e.2.2, gX0 g (bT 0) x29.2.2.2, gX8 g aP1 zP1]) locs → lv_has ls 5 [(0, .ref (aT 0)), (2, .int e.2.1)] → W p l en (kR 4 115) s m args below meth c H locs 0 0 QQ (F0 m e.1 ls []))) (fun s57 e58 hb59 hG60 => ?_) kF _ x56 hx56 ?_) _ _ _ V (lv_sub hl [1, 0] rfl)
    · intro H locs ls V hl
      show W p l en (kR 4 115) s m args below meth c H locs 0 0 QQ (F0 m 122 ls [])
      have h : p_X2_about_L122 zP1 x29.2.2.2 s57 = some e58 := hb59
      unfold p_X2_about_L122 at h
      have V : kW D AA s.heap H (List.flatten [gX2 g aT bT s57.2, gX0 g (bT 0) x29.2.2.2, gX8 g aP1 zP1]) locs := V
      have hl : lv_has ls 5 [(0, .ref (aT 0)), (2, .int s57.1)] := hl
      refine lv_iload_n X.1 X.2.1 dX2_about_122 rfl (lv_at hl 1 rfl) ?_
      refine lv_if_le (tgt := 155) X.1 X.2.1 dX2_about_123 (by decide) (fun hc => ?_) (fun hc => ?_)
      · replace h := kif_t hc h
        obtain rfl := Option.some.inj h
        exact hG60 _ _ _ V (lv_sub hl [0, 1] rfl)
      · replace h := kif_f hc h
        refine lv_iload_n X.1 X.2.1 dX2_about_126 rfl (lv_at hl 1 rfl) ?_
        refine lv_istore_n (lv' := [(3, .int s57.1), (0, .ref (aT 0)), (2, .int s57.1)]) X.1 X.2.1 dX2_about_127 rfl hl (by decide) rfl (fun ls hl => ?_)
        obtain ⟨x61, hx61, h⟩ := kb_of h
        refine (kitr_go (hd := 128) (body := fun q => p_X2_about_L128 zP1 x29.2.2.2 s57.1 q) (G := (fun e => ∀ (H : Heap) (locs : List Loc) (ls : Array Slot), kW D AA s.heap H (List.flatten [gX2 g aT bT e.2.2, gX0 g (bT 0) x29.2.2.2, gX8 g aP1 zP1]) locs → lv_has ls 5 [(0, .ref (aT 0)), (2, .int s57.1), (3, .int e.2.1)] → W p l en (kR 4 115) s m args below meth c H locs 0 0 QQ (F0 m e.1 ls []))) (fun s62 e63 hb64 hG65 => ?_) kF _ x61 hx61 ?_) _ _ _ V (lv_sub hl [1, 2, 0] rfl)
        · intro H locs ls V hl
          show W p l en (kR 4 115) s m args below meth c H locs 0 0 QQ (F0 m 128 ls [])
          have h : p_X2_about_L128 zP1 x29.2.2.2 s57.1 s62 = some e63 := hb64
          unfold p_X2_about_L128 at h
          have V : kW D AA s.heap H (List.flatten [gX2 g aT bT s62.2, gX0 g (bT 0) x29.2.2.2, gX8 g aP1 zP1]) locs := V
          have hl : lv_has ls 5 [(0, .ref (aT 0)), (2, .int s57.1), (3, .int s62.1)] := hl
          refine lv_iload_n X.1 X.2.1 dX2_about_128 rfl (lv_at hl 2 rfl) ?_
          refine lv_aload_n X.1 X.2.1 dX2_about_129 rfl (lv_at hl 0 rfl) ?_
          refine gf_X2_32 (i := 0) X V rfl dX2_about_130 ?_
          refine lv_icmp_ge (tgt := 148) X.1 X.2.1 dX2_about_133 (by decide) (fun hc => ?_) (fun hc => ?_)
          · replace h := kif_t hc h
            obtain rfl := Option.some.inj h
            exact hG65 _ _ _ V (lv_sub hl [0, 1, 2] rfl)
          · replace h := kif_f hc h
            refine lv_aload_n X.1 X.2.1 dX2_about_136 rfl (lv_at hl 0 rfl) ?_
            refine lv_iload_n X.1 X.2.1 dX2_about_137 rfl (lv_at hl 2 rfl) ?_
            refine lv_iload_n X.1 X.2.1 dX2_about_138 rfl (lv_at hl 1 rfl) ?_
            obtain ⟨x66, hx66, h⟩ := kb_of h
            refine s_callVv (segs' := [gX2 g aT bT x66, gX0 g (bT 0) x29.2.2.2, gX8 g aP1 zP1]) (ci := 2) (i0 := 0) X V (c_X2_sink l D g aT bT s62.2 s62.1 s57.1 x66 hx66) w_X2_66 ⟨Nat.le_of_ble_eq_true rfl, Nat.le_of_ble_eq_true rfl⟩ ⟨Nat.zero_le _, Nat.zero_le _⟩ rfl rfl rfl rfl [0] rfl rfl ⟨gX2_fst, trivial⟩ rfl rfl hl.1 (Nat.le_of_ble_eq_true rfl) dX2_about_139 (fun H locs V => ?_)
            obtain ⟨y67, ey67⟩ : ∃ y : Int32, y = (s62.1 + (1 : Int32)) := ⟨_, rfl⟩
            replace h := kl_of ey67 h
            refine lv_iinc (v := y67) (lv' := [(3, .int y67), (0, .ref (aT 0)), (2, .int s57.1)]) X.1 X.2.1 dX2_about_142 hl (k := 2) rfl (by rw [ey67]; rfl) (by decide) rfl (fun ls hl => ?_)
            refine lv_goto (tgt := 128) X.1 X.2.1 dX2_about_145 (by decide) ?_
            obtain rfl := Option.some.inj h
            exact hG65 _ _ _ V (lv_sub hl [1, 2, 0] rfl)
        · intro H locs ls V hl
          have V : kW D AA s.heap H (List.flatten [gX2 g aT bT x61.2.2, gX0 g (bT 0) x29.2.2.2, gX8 g aP1 zP1]) locs := V
          have hl : lv_has ls 5 [(0, .ref (aT 0)), (2, .int s57.1), (3, .int x61.2.1)] := hl
          obtain ⟨hc, h⟩ := kg_of h
          refine W.eq (g2 := F0 m 148 ls []) (by rw [hc]) ?_
          refine lv_iload_n X.1 X.2.1 dX2_about_148 rfl (lv_at hl 1 rfl) ?_
          refine lv_iconst (v := (2 : Int32)) X.1 X.2.1 dX2_about_149 (by decide) ?_
          refine lv_idiv X.1 X.2.1 dX2_about_150 (by decide) ?_
          refine lv_topi (fun y68 ey68 => ?_)
          replace h := kl_of ey68 h
          refine lv_istore_n (lv' := [(2, .int y68), (0, .ref (aT 0)), (3, .int x61.2.1)]) X.1 X.2.1 dX2_about_151 rfl hl (by decide) rfl (fun ls hl => ?_)
          refine lv_goto (tgt := 122) X.1 X.2.1 dX2_about_152 (by decide) ?_
          obtain rfl := Option.some.inj h
          exact hG60 _ _ _ V (lv_sub hl [1, 0] rfl)
    · intro H locs ls V hl
      have V : kW D AA s.heap H (List.flatten [gX2 g aT bT x56.2.2, gX0 g (bT 0) x29.2.2.2, gX8 g aP1 zP1]) locs := V
      have hl : lv_has ls 5 [(0, .ref (aT 0)), (2, .int x56.2.1)] := hl
      obtain ⟨hc, h⟩ := kg_of h
      refine W.eq (g2 := F0 m 155 ls []) (by rw [hc]) ?_
      obtain rfl := Option.some.inj h
      rw [hAA] at V
      rw [hQQ]
      exact k_vret X V dX2_about_155

def p_X2_bitsOf (zT : tX2) (v1 : Int32) : Option (Int32) :=
  kif (v1 < 0) (some (0 : Int32)) (kif (zT.2.2.2.2.1 ≤ v1) (some (0 : Int32)) (kg (kii v1 298) (some ((zT.2.2.1 v1.toNatClampNeg)))))
set_option maxHeartbeats 4000000 in
set_option maxRecDepth 100000 in
theorem c_X2_bitsOf (l : Launch) (D : va_G) (g : kG) (aT : Nat → Nat) (bT : Nat → Nat → Nat) (zT : tX2) (v1 : Int32) (r : Int32) (h : p_X2_bitsOf zT v1 = some r) : kMi l yX2_bitsOf cX2_bitsOf 2 (some .int) (kR 0 0) D (kty g) [.ref (aT 0), .int v1] (List.flatten [gX2 g aT bT zT]) r (List.flatten [gX2 g aT bT zT]) := by
  intro sz
  refine k_enter (lv := [(0, .ref (aT 0)), (1, .int v1)]) RX2 (by decide +kernel) rfl rfl (Nat.le_of_ble_eq_true rfl) ?_
  intro p en s m args below meth c ls hsz X V hl
  obtain ⟨QQ, hQQ⟩ : ∃ q, q = MQ below (va_Qi (fun r' (_ : Unit) => r' = r) (fun _ => kE D (List.flatten [gX2 g aT bT zT])) (va_A (List.flatten [gX2 g aT bT zT]) sz)) args s 0 0 (va_A (List.flatten [gX2 g aT bT zT]) sz) := ⟨_, rfl⟩
  rw [← hQQ]
  obtain ⟨AA, hAA⟩ : ∃ q, q = va_A (List.flatten [gX2 g aT bT zT]) sz := ⟨_, rfl⟩
  rw [← hAA] at V
  unfold p_X2_bitsOf at h
  refine lv_iload_n X.1 X.2.1 dX2_bitsOf_0 rfl (lv_at hl 1 rfl) ?_
  refine lv_if_lt (tgt := 21) X.1 X.2.1 dX2_bitsOf_1 (by decide) (fun hc => ?_) (fun hc => ?_)
  · replace h := kif_t hc h
    refine lv_iconst (v := (0 : Int32)) X.1 X.2.1 dX2_bitsOf_21 (by decide) ?_
    obtain rfl := Option.some.inj h
    rw [hAA] at V
    rw [hQQ]
    exact k_iret X V rfl dX2_bitsOf_22
  · replace h := kif_f hc h
    refine lv_iload_n X.1 X.2.1 dX2_bitsOf_4 rfl (lv_at hl 1 rfl) ?_
    refine lv_aload_n X.1 X.2.1 dX2_bitsOf_5 rfl (lv_at hl 0 rfl) ?_
    refine gf_X2_32 (i := 0) X V rfl dX2_bitsOf_6 ?_
    refine lv_icmp_ge (tgt := 21) X.1 X.2.1 dX2_bitsOf_9 (by decide) (fun hc => ?_) (fun hc => ?_)
    · replace h := kif_t hc h
      refine lv_iconst (v := (0 : Int32)) X.1 X.2.1 dX2_bitsOf_21 (by decide) ?_
      obtain rfl := Option.some.inj h
      rw [hAA] at V
      rw [hQQ]
      exact k_iret X V rfl dX2_bitsOf_22
    · replace h := kif_f hc h
      refine lv_aload_n X.1 X.2.1 dX2_bitsOf_12 rfl (lv_at hl 0 rfl) ?_
      refine gf_X2_25 (i := 0) X V rfl dX2_bitsOf_13 ?_
      refine lv_iload_n X.1 X.2.1 dX2_bitsOf_16 rfl (lv_at hl 1 rfl) ?_
      obtain ⟨hc, h⟩ := kg_of h
      refine al_X2_3 (i := 0) X V rfl hc dX2_bitsOf_17 ?_
      refine lv_goto (tgt := 22) X.1 X.2.1 dX2_bitsOf_18 (by decide) ?_
      obtain rfl := Option.some.inj h
      rw [hAA] at V
      rw [hQQ]
      exact k_iret X V rfl dX2_bitsOf_22

def p_X2_tellSize (zT : tX2) (zP2 : tX3) (v1 : Int32) : Option (tX3) :=
  kif (v1 < 0) (some zP2) (kif (zT.2.2.2.2.1 ≤ v1) (some zP2) (kg (kii v1 298) (kg (kii v1 298) (kb (p_X3_set zP2 (zT.1 v1.toNatClampNeg) (zT.2.1 v1.toNatClampNeg)) (fun x1 => some x1)))))
set_option maxHeartbeats 4000000 in
set_option maxRecDepth 100000 in
theorem c_X2_tellSize (l : Launch) (D : va_G) (g : kG) (aT : Nat → Nat) (aP2 : Nat → Nat) (bT : Nat → Nat → Nat) (zT : tX2) (zP2 : tX3) (v1 : Int32) (r : tX3) (h : p_X2_tellSize zT zP2 v1 = some r) : kMv l yX2_tellSize cX2_tellSize 3 none (kR 3 78) D (kty g) [.ref (aT 0), .int v1, .ref (aP2 0)] (List.flatten [gX2 g aT bT zT, gX3 g aP2 zP2]) (List.flatten [gX2 g aT bT zT, gX3 g aP2 r]) := by
  intro sz
  refine k_enter (lv := [(0, .ref (aT 0)), (1, .int v1), (2, .ref (aP2 0))]) RX2 (by decide +kernel) rfl rfl (Nat.le_of_ble_eq_true rfl) ?_
  intro p en s m args below meth c ls hsz X V hl
  obtain ⟨QQ, hQQ⟩ : ∃ q, q = MQ below (va_Qv (fun (_ : Unit) => True) (fun _ => kE D (List.flatten [gX2 g aT bT zT, gX3 g aP2 r])) (va_A (List.flatten [gX2 g aT bT zT, gX3 g aP2 zP2]) sz)) args s 0 0 (va_A (List.flatten [gX2 g aT bT zT, gX3 g aP2 zP2]) sz) := ⟨_, rfl⟩
  rw [← hQQ]
  obtain ⟨AA, hAA⟩ : ∃ q, q = va_A (List.flatten [gX2 g aT bT zT, gX3 g aP2 zP2]) sz := ⟨_, rfl⟩
  rw [← hAA] at V
  unfold p_X2_tellSize at h
  refine lv_iload_n X.1 X.2.1 dX2_tellSize_0 rfl (lv_at hl 1 rfl) ?_
  refine lv_if_lt (tgt := 28) X.1 X.2.1 dX2_tellSize_1 (by decide) (fun hc => ?_) (fun hc => ?_)
  · replace h := kif_t hc h
    obtain rfl := Option.some.inj h
    rw [hAA] at V
    rw [hQQ]
    exact k_vret X V dX2_tellSize_28
  · replace h := kif_f hc h
    refine lv_iload_n X.1 X.2.1 dX2_tellSize_4 rfl (lv_at hl 1 rfl) ?_
    refine lv_aload_n X.1 X.2.1 dX2_tellSize_5 rfl (lv_at hl 0 rfl) ?_
    refine gf_X2_32 (i := 0) X V rfl dX2_tellSize_6 ?_
    refine lv_icmp_ge (tgt := 28) X.1 X.2.1 dX2_tellSize_9 (by decide) (fun hc => ?_) (fun hc => ?_)
    · replace h := kif_t hc h
      obtain rfl := Option.some.inj h
      rw [hAA] at V
      rw [hQQ]
      exact k_vret X V dX2_tellSize_28
    · replace h := kif_f hc h
      refine lv_aload_n X.1 X.2.1 dX2_tellSize_12 rfl (lv_at hl 2 rfl) ?_
      refine lv_aload_n X.1 X.2.1 dX2_tellSize_13 rfl (lv_at hl 0 rfl) ?_
      refine gf_X2_18 (i := 0) X V rfl dX2_tellSize_14 ?_
      refine lv_iload_n X.1 X.2.1 dX2_tellSize_17 rfl (lv_at hl 1 rfl) ?_
      obtain ⟨hc, h⟩ := kg_of h
      refine al_X2_1 (i := 0) X V rfl hc dX2_tellSize_18 ?_
      refine lv_aload_n X.1 X.2.1 dX2_tellSize_19 rfl (lv_at hl 0 rfl) ?_
      refine gf_X2_22 (i := 0) X V rfl dX2_tellSize_20 ?_
      refine lv_iload_n X.1 X.2.1 dX2_tellSize_23 rfl (lv_at hl 1 rfl) ?_
      obtain ⟨hc, h⟩ := kg_of h
      refine al_X2_2 (i := 0) X V rfl hc dX2_tellSize_24 ?_
      obtain ⟨x2, hx2, h⟩ := kb_of h
      refine s_callVv (segs' := [gX2 g aT bT zT, gX3 g aP2 x2]) (ci := 3) (i0 := 0) X V (c_X3_set l D g aP2 zP2 (zT.1 v1.toNatClampNeg) (zT.2.1 v1.toNatClampNeg) x2 hx2) w_X2_99 ⟨Nat.le_of_ble_eq_true rfl, Nat.le_of_ble_eq_true rfl⟩ ⟨Nat.zero_le _, Nat.zero_le _⟩ rfl rfl rfl rfl [1] rfl rfl ⟨gX3_fst, trivial⟩ rfl rfl hl.1 (Nat.le_of_ble_eq_true rfl) dX2_tellSize_25 (fun H locs V => ?_)
      obtain rfl := Option.some.inj h
      rw [hAA] at V
      rw [hQQ]
      exact k_vret X V dX2_tellSize_28

def p_X2_isFuller (v0 : Int32) (v1 : Int32) : Option (Bool) :=
  kb (p_J6_bitCount_0f7a4 v0) (fun x1 => kb (p_J6_bitCount_0f7a4 v1) (fun x2 => kl (x1 - x2) (fun y3 => kif (0 < y3) (some true) (kif (y3 = 0) (kif (v1 ≤ v0) (some false) (some true)) (some false)))))
set_option maxHeartbeats 4000000 in
set_option maxRecDepth 100000 in
theorem c_X2_isFuller (l : Launch) (D : va_G) (g : kG)  (v0 : Int32) (v1 : Int32) (r : Bool) (h : p_X2_isFuller v0 v1 = some r) : kMi l yX2_isFuller cX2_isFuller 3 (some .boolean) (kR 1 20) D (kty g) [.int v0, .int v1] (List.flatten ([] : List va_W)) (kz r) (List.flatten ([] : List va_W)) := by
  intro sz
  refine k_enter (lv := [(0, .int v0), (1, .int v1)]) RX2 (by decide +kernel) rfl rfl (Nat.le_of_ble_eq_true rfl) ?_
  intro p en s m args below meth c ls hsz X V hl
  obtain ⟨QQ, hQQ⟩ : ∃ q, q = MQ below (va_Qi (fun r' (_ : Unit) => r' = kz r) (fun _ => kE D (List.flatten ([] : List va_W))) (va_A (List.flatten ([] : List va_W)) sz)) args s 0 0 (va_A (List.flatten ([] : List va_W)) sz) := ⟨_, rfl⟩
  rw [← hQQ]
  obtain ⟨AA, hAA⟩ : ∃ q, q = va_A (List.flatten ([] : List va_W)) sz := ⟨_, rfl⟩
  rw [← hAA] at V
  unfold p_X2_isFuller at h
  refine lv_iload_n X.1 X.2.1 dX2_isFuller_0 rfl (lv_at hl 0 rfl) ?_
  obtain ⟨x4, hx4, h⟩ := kb_of h
  refine s_callSi (segs' := ([] : List va_W)) X V (c_J6_bitCount_0f7a4 l D g v0 x4 hx4) w_X2_106 ⟨Nat.le_of_ble_eq_true rfl, Nat.le_of_ble_eq_true rfl⟩ ⟨Nat.zero_le _, Nat.zero_le _⟩ rfl [] rfl rfl (kFst_refl _) rfl rfl hl.1 (Nat.le_of_ble_eq_true rfl) dX2_isFuller_1 (fun H locs V => ?_)
  refine lv_iload_n X.1 X.2.1 dX2_isFuller_4 rfl (lv_at hl 1 rfl) ?_
  obtain ⟨x5, hx5, h⟩ := kb_of h
  refine s_callSi (segs' := ([] : List va_W)) X V (c_J6_bitCount_0f7a4 l D g v1 x5 hx5) w_X2_106 ⟨Nat.le_of_ble_eq_true rfl, Nat.le_of_ble_eq_true rfl⟩ ⟨Nat.zero_le _, Nat.zero_le _⟩ rfl [] rfl rfl (kFst_refl _) rfl rfl hl.1 (Nat.le_of_ble_eq_true rfl) dX2_isFuller_5 (fun H locs V => ?_)
  refine lv_isub X.1 X.2.1 dX2_isFuller_8 ?_
  refine lv_topi (fun y6 ey6 => ?_)
  replace h := kl_of ey6 h
  refine lv_istore_n (lv' := [(2, .int y6), (0, .int v0), (1, .int v1)]) X.1 X.2.1 dX2_isFuller_9 rfl hl (by decide) rfl (fun ls hl => ?_)
  refine lv_iload_n X.1 X.2.1 dX2_isFuller_10 rfl (lv_at hl 0 rfl) ?_
  refine lv_if_gt (tgt := 23) X.1 X.2.1 dX2_isFuller_11 (by decide) (fun hc => ?_) (fun hc => ?_)
  · replace h := kif_t hc h
    refine lv_iconst (v := (1 : Int32)) X.1 X.2.1 dX2_isFuller_23 (by decide) ?_
    refine lv_goto (tgt := 28) X.1 X.2.1 dX2_isFuller_24 (by decide) ?_
    obtain rfl := Option.some.inj h
    rw [hAA] at V
    rw [hQQ]
    exact k_zret X V (b := true) rfl rfl dX2_isFuller_28
  · replace h := kif_f hc h
    refine lv_iload_n X.1 X.2.1 dX2_isFuller_14 rfl (lv_at hl 0 rfl) ?_
    refine lv_if_ne (tgt := 27) X.1 X.2.1 dX2_isFuller_15 (by decide) (fun hc => ?_) (fun hc => ?_)
    · replace h := kif_f hc h
      refine lv_iconst (v := (0 : Int32)) X.1 X.2.1 dX2_isFuller_27 (by decide) ?_
      obtain rfl := Option.some.inj h
      rw [hAA] at V
      rw [hQQ]
      exact k_zret X V (b := false) rfl rfl dX2_isFuller_28
    · replace h := kif_t hc h
      refine lv_iload_n X.1 X.2.1 dX2_isFuller_18 rfl (lv_at hl 1 rfl) ?_
      refine lv_iload_n X.1 X.2.1 dX2_isFuller_19 rfl (lv_at hl 2 rfl) ?_
      refine lv_icmp_ge (tgt := 27) X.1 X.2.1 dX2_isFuller_20 (by decide) (fun hc => ?_) (fun hc => ?_)
      · replace h := kif_t hc h
        refine lv_iconst (v := (0 : Int32)) X.1 X.2.1 dX2_isFuller_27 (by decide) ?_
        obtain rfl := Option.some.inj h
        rw [hAA] at V
        rw [hQQ]
        exact k_zret X V (b := false) rfl rfl dX2_isFuller_28
      · replace h := kif_f hc h
        refine lv_iconst (v := (1 : Int32)) X.1 X.2.1 dX2_isFuller_23 (by decide) ?_
        refine lv_goto (tgt := 28) X.1 X.2.1 dX2_isFuller_24 (by decide) ?_
        obtain rfl := Option.some.inj h
        rw [hAA] at V
        rw [hQQ]
        exact k_zret X V (b := true) rfl rfl dX2_isFuller_28

def p_X2_holding_J56_5 (zT : tX2) (v1 : Int32) (zP2 : tX3) (v3 : Int32) (v4 : Int32) (v5 : Int32) : Option (Nat × (Int32 × Int32)) :=
  kif (v3 = (-1 : Int32)) (kl (v4 + (1 : Int32)) (fun y4 => some (5, (v5, y4)))) (kb (p_X2_bitsOf zT v5) (fun x5 => kb (p_X2_bitsOf zT v3) (fun x6 => kb (p_X2_isFuller x5 x6) (fun x7 => kif ((kz x7) = 0) (kl (v4 + (1 : Int32)) (fun y8 => some (5, (v3, y8)))) (kl (v4 + (1 : Int32)) (fun y9 => some (5, (v5, y9))))))))
def p_X2_holding_L5 (zT : tX2) (v1 : Int32) (zP2 : tX3) (s : Int32 × Int32) : Option (Nat × (Int32 × Int32)) :=
  kif (zT.2.2.2.2.1 ≤ s.2) (some (87, (s.1, s.2))) (kb (p_X2_discAt zT s.2) (fun x1 => kb (p_X2_bitsOf zT x1) (fun x2 => kb (p_J6_bitCount_0f7a4 x2) (fun x3 => kif (v1 ≤ x3) (kif (s.1 = (-1 : Int32)) (p_X2_holding_J56_5 zT v1 zP2 s.1 s.2 x1) (kb (p_X2_sizeOrder zT x1 s.1) (fun x10 => kif (x10 ≤ 0) (p_X2_holding_J56_5 zT v1 zP2 s.1 s.2 x1) (some (53, (s.1, s.2)))))) (kl (s.2 + (1 : Int32)) (fun y11 => some (5, (s.1, y11))))))))
def p_X2_holding_J87 (zT : tX2) (v1 : Int32) (zP2 : tX3) (v3 : Int32) : Option (Int32 × tX3) :=
  kb (p_X2_tellSize zT zP2 v3) (fun x13 => kb (p_X2_bitsOf zT v3) (fun x14 => some (x14, x13)))
def p_X2_holding (zT : tX2) (zP2 : tX3) (v1 : Int32) : Option (Int32 × tX3) :=
  kb (kitr 5 (fun q => p_X2_holding_L5 zT v1 zP2 q) kF ((-1 : Int32), (0 : Int32))) (fun x12 => kif (x12.1 = 53) (p_X2_holding_J87 zT v1 zP2 x12.2.1) (kg (x12.1 = 87) (p_X2_holding_J87 zT v1 zP2 x12.2.1)))
set_option maxHeartbeats 4000000 in
set_option maxRecDepth 100000 in
theorem c_X2_holding (l : Launch) (D : va_G) (g : kG) (aT : Nat → Nat) (aP2 : Nat → Nat) (bT : Nat → Nat → Nat) (zT : tX2) (zP2 : tX3) (v1 : Int32) (r : Int32 × tX3) (h : p_X2_holding zT zP2 v1 = some r) : kMi l yX2_holding cX2_holding 6 (some .int) (kR 4 100) D (kty g) [.ref (aT 0), .int v1, .ref (aP2 0)] (List.flatten [gX2 g aT bT zT, gX3 g aP2 zP2]) r.1 (List.flatten [gX2 g aT bT zT, gX3 g aP2 r.2]) := by
  intro sz
  refine k_enter (lv := [(0, .ref (aT 0)), (1, .int v1), (2, .ref (aP2 0))]) RX2 (by decide +kernel) rfl rfl (Nat.le_of_ble_eq_true rfl) ?_
  intro p en s m args below meth c ls hsz X V hl
  obtain ⟨QQ, hQQ⟩ : ∃ q, q = MQ below (va_Qi (fun r' (_ : Unit) => r' = r.1) (fun _ => kE D (List.flatten [gX2 g aT bT zT, gX3 g aP2 r.2])) (va_A (List.flatten [gX2 g aT bT zT, gX3 g aP2 zP2]) sz)) args s 0 0 (va_A (List.flatten [gX2 g aT bT zT, gX3 g aP2 zP2]) sz) := ⟨_, rfl⟩
  rw [← hQQ]
  obtain ⟨AA, hAA⟩ : ∃ q, q = va_A (List.flatten [gX2 g aT bT zT, gX3 g aP2 zP2]) sz := ⟨_, rfl⟩
  rw [← hAA] at V
  have J87 : ∀ (zP2 : tX3) (v3 : Int32) (H : Heap) (locs : List Loc) (ls : Array Slot), p_X2_holding_J87 zT v1 zP2 v3 = some r → kW D AA s.heap H (List.flatten [gX2 g aT bT zT, gX3 g aP2 zP2]) locs → lv_has ls 6 [(0, .ref (aT 0)), (2, .ref (aP2 0)), (3, .int v3)] → W p l en (kR 4 100) s m args below meth c H locs 0 0 QQ (F0 m 87 ls []) := by
    intro zP2 v3 H locs ls h V hl
    unfold p_X2_holding_J87 at h
    refine lv_aload_n X.1 X.2.1 dX2_holding_87 rfl (lv_at hl 0 rfl) ?_
    refine lv_iload_n X.1 X.2.1 dX2_holding_88 rfl (lv_at hl 2 rfl) ?_
    refine lv_aload_n X.1 X.2.1 dX2_holding_89 rfl (lv_at hl 1 rfl) ?_
    obtain ⟨x15, hx15, h⟩ := kb_of h
    refine s_callVv (segs' := [gX2 g aT bT zT, gX3 g aP2 x15]) (ci := 2) (i0 := 0) X V (c_X2_tellSize l D g aT aP2 bT zT zP2 v3 x15 hx15) w_X2_115 ⟨Nat.le_of_ble_eq_true rfl, Nat.le_of_ble_eq_true rfl⟩ ⟨Nat.zero_le _, Nat.zero_le _⟩ rfl rfl rfl rfl [0, 1] rfl rfl ⟨rfl, gX3_fst, trivial⟩ rfl rfl hl.1 (Nat.le_of_ble_eq_true rfl) dX2_holding_90 (fun H locs V => ?_)
    refine lv_aload_n X.1 X.2.1 dX2_holding_93 rfl (lv_at hl 0 rfl) ?_
    refine lv_iload_n X.1 X.2.1 dX2_holding_94 rfl (lv_at hl 2 rfl) ?_
    obtain ⟨x16, hx16, h⟩ := kb_of h
    refine s_callVi (segs' := [gX2 g aT bT zT, gX3 g aP2 x15]) (ci := 2) (i0 := 0) X V (c_X2_bitsOf l D g aT bT zT v3 x16 hx16) w_X2_103 ⟨Nat.le_of_ble_eq_true rfl, Nat.le_of_ble_eq_true rfl⟩ ⟨Nat.zero_le _, Nat.zero_le _⟩ rfl rfl rfl rfl [0] rfl rfl (kFst_refl _) rfl rfl hl.1 (Nat.le_of_ble_eq_true rfl) dX2_holding_95 (fun H locs V => ?_)
    obtain rfl := Option.some.inj h
    rw [hAA] at V
    rw [hQQ]
    exact k_iret X V rfl dX2_holding_98
  unfold p_X2_holding at h
  refine lv_iconst (v := (-1 : Int32)) X.1 X.2.1 dX2_holding_0 (by decide) ?_
  refine lv_istore_n (lv' := [(3, .int (-1 : Int32)), (0, .ref (aT 0)), (1, .int v1), (2, .ref (aP2 0))]) X.1 X.2.1 dX2_holding_1 rfl hl (by decide) rfl (fun ls hl => ?_)
  refine lv_iconst (v := (0 : Int32)) X.1 X.2.1 dX2_holding_2 (by decide) ?_
  refine lv_istore (lv' := [(4, .int (0 : Int32)), (3, .int (-1 : Int32)), (0, .ref (aT 0)), (1, .int v1), (2, .ref (aP2 0))]) X.1 X.2.1 dX2_holding_3 hl (by decide) rfl (fun ls hl => ?_)
  obtain ⟨x17, hx17, h⟩ := kb_of h
  refine (kitr_go (hd := 5) (body := fun q => p_X2_holding_L5 zT v1 zP2 q) (G := (fun e => ∀ (H : Heap) (locs : List Loc) (ls : Array Slot), kW D AA s.heap H (List.flatten [gX2 g aT bT zT, gX3 g aP2 zP2]) locs → lv_has ls 6 [(0, .ref (aT 0)), (1, .int v1), (2, .ref (aP2 0)), (3, .int e.2.1), (4, .int e.2.2)] → W p l en (kR 4 100) s m args below meth c H locs 0 0 QQ (F0 m e.1 ls []))) (fun s18 e19 hb20 hG21 => ?_) kF _ x17 hx17 ?_) _ _ _ V (lv_sub hl [2, 3, 4, 1, 0] rfl)
  · intro H locs ls V hl
    show W p l en (kR 4 100) s m args below meth c H locs 0 0 QQ (F0 m 5 ls [])
    have h : p_X2_holding_L5 zT v1 zP2 s18 = some e19 := hb20
    unfold p_X2_holding_L5 at h
    have V : kW D AA s.heap H (List.flatten [gX2 g aT bT zT, gX3 g aP2 zP2]) locs := V
    have hl : lv_has ls 6 [(0, .ref (aT 0)), (1, .int v1), (2, .ref (aP2 0)), (3, .int s18.1), (4, .int s18.2)] := hl
    have J56 : ∀ (v3 : Int32) (v4 : Int32) (v5 : Int32) (H : Heap) (locs : List Loc) (ls : Array Slot), p_X2_holding_J56_5 zT v1 zP2 v3 v4 v5 = some e19 → kW D AA s.heap H (List.flatten [gX2 g aT bT zT, gX3 g aP2 zP2]) locs → lv_has ls 6 [(0, .ref (aT 0)), (1, .int v1), (2, .ref (aP2 0)), (3, .int v3), (4, .int v4), (5, .int v5)] → W p l en (kR 4 100) s m args below meth c H locs 0 0 QQ (F0 m 56 ls []) := by
      intro v3 v4 v5 H locs ls h V hl
      unfold p_X2_holding_J56_5 at h
      refine lv_iload_n X.1 X.2.1 dX2_holding_56 rfl (lv_at hl 3 rfl) ?_
      refine lv_iconst (v := (-1 : Int32)) X.1 X.2.1 dX2_holding_57 (by decide) ?_
      refine lv_icmp_eq (tgt := 78) X.1 X.2.1 dX2_holding_58 (by decide) (fun hc => ?_) (fun hc => ?_)
      · replace h := kif_t hc h
        refine lv_iload X.1 X.2.1 dX2_holding_78 (lv_at hl 5 rfl) ?_
        refine lv_istore_n (lv' := [(3, .int v5), (0, .ref (aT 0)), (1, .int v1), (2, .ref (aP2 0)), (4, .int v4), (5, .int v5)]) X.1 X.2.1 dX2_holding_80 rfl hl (by decide) rfl (fun ls hl => ?_)
        obtain ⟨y22, ey22⟩ : ∃ y : Int32, y = (v4 + (1 : Int32)) := ⟨_, rfl⟩
        replace h := kl_of ey22 h
        refine lv_iinc (v := y22) (lv' := [(4, .int y22), (3, .int v5), (0, .ref (aT 0)), (1, .int v1), (2, .ref (aP2 0)), (5, .int v5)]) X.1 X.2.1 dX2_holding_81 hl (k := 4) rfl (by rw [ey22]; rfl) (by decide) rfl (fun ls hl => ?_)
        refine lv_goto (tgt := 5) X.1 X.2.1 dX2_holding_84 (by decide) ?_
        obtain rfl := Option.some.inj h
        exact hG21 _ _ _ V (lv_sub hl [2, 3, 4, 1, 0] rfl)
      · replace h := kif_f hc h
        refine lv_aload_n X.1 X.2.1 dX2_holding_61 rfl (lv_at hl 0 rfl) ?_
        refine lv_iload X.1 X.2.1 dX2_holding_62 (lv_at hl 5 rfl) ?_
        obtain ⟨x23, hx23, h⟩ := kb_of h
        refine s_callVi (segs' := [gX2 g aT bT zT, gX3 g aP2 zP2]) (ci := 2) (i0 := 0) X V (c_X2_bitsOf l D g aT bT zT v5 x23 hx23) w_X2_103 ⟨Nat.le_of_ble_eq_true rfl, Nat.le_of_ble_eq_true rfl⟩ ⟨Nat.zero_le _, Nat.zero_le _⟩ rfl rfl rfl rfl [0] rfl rfl (kFst_refl _) rfl rfl hl.1 (Nat.le_of_ble_eq_true rfl) dX2_holding_64 (fun H locs V => ?_)
        refine lv_aload_n X.1 X.2.1 dX2_holding_67 rfl (lv_at hl 0 rfl) ?_
        refine lv_iload_n X.1 X.2.1 dX2_holding_68 rfl (lv_at hl 3 rfl) ?_
        obtain ⟨x24, hx24, h⟩ := kb_of h
        refine s_callVi (segs' := [gX2 g aT bT zT, gX3 g aP2 zP2]) (ci := 2) (i0 := 0) X V (c_X2_bitsOf l D g aT bT zT v3 x24 hx24) w_X2_103 ⟨Nat.le_of_ble_eq_true rfl, Nat.le_of_ble_eq_true rfl⟩ ⟨Nat.zero_le _, Nat.zero_le _⟩ rfl rfl rfl rfl [0] rfl rfl (kFst_refl _) rfl rfl hl.1 (Nat.le_of_ble_eq_true rfl) dX2_holding_69 (fun H locs V => ?_)
        obtain ⟨x25, hx25, h⟩ := kb_of h
        refine s_callSi (segs' := [gX2 g aT bT zT, gX3 g aP2 zP2]) X V (c_X2_isFuller l D g x23 x24 x25 hx25) w_X2_111 ⟨Nat.le_of_ble_eq_true rfl, Nat.le_of_ble_eq_true rfl⟩ ⟨Nat.zero_le _, Nat.zero_le _⟩ rfl [] rfl rfl (kFst_refl _) rfl rfl hl.1 (Nat.le_of_ble_eq_true rfl) dX2_holding_72 (fun H locs V => ?_)
        refine lv_if_eq (tgt := 81) X.1 X.2.1 dX2_holding_75 (by decide) (fun hc => ?_) (fun hc => ?_)
        · replace h := kif_t hc h
          obtain ⟨y26, ey26⟩ : ∃ y : Int32, y = (v4 + (1 : Int32)) := ⟨_, rfl⟩
          replace h := kl_of ey26 h
          refine lv_iinc (v := y26) (lv' := [(4, .int y26), (0, .ref (aT 0)), (1, .int v1), (2, .ref (aP2 0)), (3, .int v3), (5, .int v5)]) X.1 X.2.1 dX2_holding_81 hl (k := 4) rfl (by rw [ey26]; rfl) (by decide) rfl (fun ls hl => ?_)
          refine lv_goto (tgt := 5) X.1 X.2.1 dX2_holding_84 (by decide) ?_
          obtain rfl := Option.some.inj h
          exact hG21 _ _ _ V (lv_sub hl [1, 2, 3, 4, 0] rfl)
        · replace h := kif_f hc h
          refine lv_iload X.1 X.2.1 dX2_holding_78 (lv_at hl 5 rfl) ?_
          refine lv_istore_n (lv' := [(3, .int v5), (0, .ref (aT 0)), (1, .int v1), (2, .ref (aP2 0)), (4, .int v4), (5, .int v5)]) X.1 X.2.1 dX2_holding_80 rfl hl (by decide) rfl (fun ls hl => ?_)
          obtain ⟨y27, ey27⟩ : ∃ y : Int32, y = (v4 + (1 : Int32)) := ⟨_, rfl⟩
          replace h := kl_of ey27 h
          refine lv_iinc (v := y27) (lv' := [(4, .int y27), (3, .int v5), (0, .ref (aT 0)), (1, .int v1), (2, .ref (aP2 0)), (5, .int v5)]) X.1 X.2.1 dX2_holding_81 hl (k := 4) rfl (by rw [ey27]; rfl) (by decide) rfl (fun ls hl => ?_)
          refine lv_goto (tgt := 5) X.1 X.2.1 dX2_holding_84 (by decide) ?_
          obtain rfl := Option.some.inj h
          exact hG21 _ _ _ V (lv_sub hl [2, 3, 4, 1, 0] rfl)
    refine lv_iload X.1 X.2.1 dX2_holding_5 (lv_at hl 4 rfl) ?_
    refine lv_aload_n X.1 X.2.1 dX2_holding_7 rfl (lv_at hl 0 rfl) ?_
    refine gf_X2_32 (i := 0) X V rfl dX2_holding_8 ?_
    refine lv_icmp_ge (tgt := 87) X.1 X.2.1 dX2_holding_11 (by decide) (fun hc => ?_) (fun hc => ?_)
    · replace h := kif_t hc h
      obtain rfl := Option.some.inj h
      exact hG21 _ _ _ V (lv_sub hl [0, 1, 2, 3, 4] rfl)
    · replace h := kif_f hc h
      refine lv_aload_n X.1 X.2.1 dX2_holding_14 rfl (lv_at hl 0 rfl) ?_
      refine lv_iload X.1 X.2.1 dX2_holding_15 (lv_at hl 4 rfl) ?_
      obtain ⟨x28, hx28, h⟩ := kb_of h
      refine s_callVi (segs' := [gX2 g aT bT zT, gX3 g aP2 zP2]) (ci := 2) (i0 := 0) X V (c_X2_discAt l D g aT bT zT s18.2 x28 hx28) w_X2_87 ⟨Nat.le_of_ble_eq_true rfl, Nat.le_of_ble_eq_true rfl⟩ ⟨Nat.zero_le _, Nat.zero_le _⟩ rfl rfl rfl rfl [0] rfl rfl (kFst_refl _) rfl rfl hl.1 (Nat.le_of_ble_eq_true rfl) dX2_holding_17 (fun H locs V => ?_)
      refine lv_istore (lv' := [(5, .int x28), (0, .ref (aT 0)), (1, .int v1), (2, .ref (aP2 0)), (3, .int s18.1), (4, .int s18.2)]) X.1 X.2.1 dX2_holding_20 hl (by decide) rfl (fun ls hl => ?_)
      refine lv_aload_n X.1 X.2.1 dX2_holding_22 rfl (lv_at hl 1 rfl) ?_
      refine lv_iload X.1 X.2.1 dX2_holding_23 (lv_at hl 0 rfl) ?_
      obtain ⟨x29, hx29, h⟩ := kb_of h
      refine s_callVi (segs' := [gX2 g aT bT zT, gX3 g aP2 zP2]) (ci := 2) (i0 := 0) X V (c_X2_bitsOf l D g aT bT zT x28 x29 hx29) w_X2_103 ⟨Nat.le_of_ble_eq_true rfl, Nat.le_of_ble_eq_true rfl⟩ ⟨Nat.zero_le _, Nat.zero_le _⟩ rfl rfl rfl rfl [0] rfl rfl (kFst_refl _) rfl rfl hl.1 (Nat.le_of_ble_eq_true rfl) dX2_holding_25 (fun H locs V => ?_)
      obtain ⟨x30, hx30, h⟩ := kb_of h
      refine s_callSi (segs' := [gX2 g aT bT zT, gX3 g aP2 zP2]) X V (c_J6_bitCount_0f7a4 l D g x29 x30 hx30) w_X2_106 ⟨Nat.le_of_ble_eq_true rfl, Nat.le_of_ble_eq_true rfl⟩ ⟨Nat.zero_le _, Nat.zero_le _⟩ rfl [] rfl rfl (kFst_refl _) rfl rfl hl.1 (Nat.le_of_ble_eq_true rfl) dX2_holding_28 (fun H locs V => ?_)
      refine lv_iload_n X.1 X.2.1 dX2_holding_31 rfl (lv_at hl 2 rfl) ?_
      refine lv_icmp_ge (tgt := 38) X.1 X.2.1 dX2_holding_32 (by decide) (fun hc => ?_) (fun hc => ?_)
      · replace h := kif_t hc h
        refine lv_iload_n X.1 X.2.1 dX2_holding_38 rfl (lv_at hl 4 rfl) ?_
        refine lv_iconst (v := (-1 : Int32)) X.1 X.2.1 dX2_holding_39 (by decide) ?_
        refine lv_icmp_eq (tgt := 56) X.1 X.2.1 dX2_holding_40 (by decide) (fun hc => ?_) (fun hc => ?_)
        · replace h := kif_t hc h
          exact J56 s18.1 s18.2 x28 _ _ _ h V (lv_sub hl [1, 2, 3, 4, 5, 0] rfl)
        · replace h := kif_f hc h
          refine lv_aload_n X.1 X.2.1 dX2_holding_43 rfl (lv_at hl 1 rfl) ?_
          refine lv_iload X.1 X.2.1 dX2_holding_44 (lv_at hl 0 rfl) ?_
          refine lv_iload_n X.1 X.2.1 dX2_holding_46 rfl (lv_at hl 4 rfl) ?_
          obtain ⟨x31, hx31, h⟩ := kb_of h
          refine s_callVi (segs' := [gX2 g aT bT zT, gX3 g aP2 zP2]) (ci := 2) (i0 := 0) X V (c_X2_sizeOrder l D g aT bT zT x28 s18.1 x31 hx31) w_X2_90 ⟨Nat.le_of_ble_eq_true rfl, Nat.le_of_ble_eq_true rfl⟩ ⟨Nat.zero_le _, Nat.zero_le _⟩ rfl rfl rfl rfl [0] rfl rfl (kFst_refl _) rfl rfl hl.1 (Nat.le_of_ble_eq_true rfl) dX2_holding_47 (fun H locs V => ?_)
          refine lv_if_le (tgt := 56) X.1 X.2.1 dX2_holding_50 (by decide) (fun hc => ?_) (fun hc => ?_)
          · replace h := kif_t hc h
            exact J56 s18.1 s18.2 x28 _ _ _ h V (lv_sub hl [1, 2, 3, 4, 5, 0] rfl)
          · replace h := kif_f hc h
            obtain rfl := Option.some.inj h
            exact hG21 _ _ _ V (lv_sub hl [1, 2, 3, 4, 5] rfl)
      · replace h := kif_f hc h
        refine lv_goto (tgt := 81) X.1 X.2.1 dX2_holding_35 (by decide) ?_
        obtain ⟨y32, ey32⟩ : ∃ y : Int32, y = (s18.2 + (1 : Int32)) := ⟨_, rfl⟩
        replace h := kl_of ey32 h
        refine lv_iinc (v := y32) (lv' := [(4, .int y32), (5, .int x28), (0, .ref (aT 0)), (1, .int v1), (2, .ref (aP2 0)), (3, .int s18.1)]) X.1 X.2.1 dX2_holding_81 hl (k := 5) rfl (by rw [ey32]; rfl) (by decide) rfl (fun ls hl => ?_)
        refine lv_goto (tgt := 5) X.1 X.2.1 dX2_holding_84 (by decide) ?_
        obtain rfl := Option.some.inj h
        exact hG21 _ _ _ V (lv_sub hl [2, 3, 4, 5, 0] rfl)
  · intro H locs ls V hl
    have V : kW D AA s.heap H (List.flatten [gX2 g aT bT zT, gX3 g aP2 zP2]) locs := V
    have hl : lv_has ls 6 [(0, .ref (aT 0)), (1, .int v1), (2, .ref (aP2 0)), (3, .int x17.2.1), (4, .int x17.2.2)] := hl
    by_cases hc : x17.1 = 53
    · replace h := kif_t hc h
      refine W.eq (g2 := F0 m 53 ls []) (by rw [hc]) ?_
      refine lv_goto (tgt := 87) X.1 X.2.1 dX2_holding_53 (by decide) ?_
      exact J87 zP2 x17.2.1 _ _ _ h V (lv_sub hl [0, 2, 3] rfl)
    · replace h := kif_f hc h
      obtain ⟨hc, h⟩ := kg_of h
      refine W.eq (g2 := F0 m 87 ls []) (by rw [hc]) ?_
      exact J87 zP2 x17.2.1 _ _ _ h V (lv_sub hl [0, 2, 3] rfl)

def p_X2_partBetween (zT : tX2) (v1 : Int32) (v2 : Int32) : Option (Int32) :=
  kl ((zT.2.2.2.2.2 &&& (v2 ^^^ (-1 : Int32))) ||| (1 : Int32)) (fun y1 => kif ((y1 &&& (v1 ^^^ (-1 : Int32))) = 0) (kif (y1 = zT.2.2.2.2.2) (some (0 : Int32)) (some y1)) (some (0 : Int32)))
set_option maxHeartbeats 4000000 in
set_option maxRecDepth 100000 in
theorem c_X2_partBetween (l : Launch) (D : va_G) (g : kG) (aT : Nat → Nat) (bT : Nat → Nat → Nat) (zT : tX2) (v1 : Int32) (v2 : Int32) (r : Int32) (h : p_X2_partBetween zT v1 v2 = some r) : kMi l yX2_partBetween cX2_partBetween 4 (some .int) (kR 0 0) D (kty g) [.ref (aT 0), .int v1, .int v2] (List.flatten [gX2 g aT bT zT]) r (List.flatten [gX2 g aT bT zT]) := by
  intro sz
  refine k_enter (lv := [(0, .ref (aT 0)), (1, .int v1), (2, .int v2)]) RX2 (by decide +kernel) rfl rfl (Nat.le_of_ble_eq_true rfl) ?_
  intro p en s m args below meth c ls hsz X V hl
  obtain ⟨QQ, hQQ⟩ : ∃ q, q = MQ below (va_Qi (fun r' (_ : Unit) => r' = r) (fun _ => kE D (List.flatten [gX2 g aT bT zT])) (va_A (List.flatten [gX2 g aT bT zT]) sz)) args s 0 0 (va_A (List.flatten [gX2 g aT bT zT]) sz) := ⟨_, rfl⟩
  rw [← hQQ]
  obtain ⟨AA, hAA⟩ : ∃ q, q = va_A (List.flatten [gX2 g aT bT zT]) sz := ⟨_, rfl⟩
  rw [← hAA] at V
  unfold p_X2_partBetween at h
  refine lv_aload_n X.1 X.2.1 dX2_partBetween_0 rfl (lv_at hl 0 rfl) ?_
  refine gf_X2_47 (i := 0) X V rfl dX2_partBetween_1 ?_
  refine lv_iload_n X.1 X.2.1 dX2_partBetween_4 rfl (lv_at hl 2 rfl) ?_
  refine lv_iconst (v := (-1 : Int32)) X.1 X.2.1 dX2_partBetween_5 (by decide) ?_
  refine lv_ixor X.1 X.2.1 dX2_partBetween_6 ?_
  refine lv_iand X.1 X.2.1 dX2_partBetween_7 ?_
  refine lv_iconst (v := (1 : Int32)) X.1 X.2.1 dX2_partBetween_8 (by decide) ?_
  refine lv_ior X.1 X.2.1 dX2_partBetween_9 ?_
  refine lv_topi (fun y2 ey2 => ?_)
  replace h := kl_of ey2 h
  refine lv_istore_n (lv' := [(3, .int y2), (0, .ref (aT 0)), (1, .int v1), (2, .int v2)]) X.1 X.2.1 dX2_partBetween_10 rfl hl (by decide) rfl (fun ls hl => ?_)
  refine lv_iload_n X.1 X.2.1 dX2_partBetween_11 rfl (lv_at hl 0 rfl) ?_
  refine lv_iload_n X.1 X.2.1 dX2_partBetween_12 rfl (lv_at hl 2 rfl) ?_
  refine lv_iconst (v := (-1 : Int32)) X.1 X.2.1 dX2_partBetween_13 (by decide) ?_
  refine lv_ixor X.1 X.2.1 dX2_partBetween_14 ?_
  refine lv_iand X.1 X.2.1 dX2_partBetween_15 ?_
  refine lv_if_ne (tgt := 31) X.1 X.2.1 dX2_partBetween_16 (by decide) (fun hc => ?_) (fun hc => ?_)
  · replace h := kif_f hc h
    refine lv_iconst (v := (0 : Int32)) X.1 X.2.1 dX2_partBetween_31 (by decide) ?_
    obtain rfl := Option.some.inj h
    rw [hAA] at V
    rw [hQQ]
    exact k_iret X V rfl dX2_partBetween_32
  · replace h := kif_t hc h
    refine lv_iload_n X.1 X.2.1 dX2_partBetween_19 rfl (lv_at hl 0 rfl) ?_
    refine lv_aload_n X.1 X.2.1 dX2_partBetween_20 rfl (lv_at hl 1 rfl) ?_
    refine gf_X2_47 (i := 0) X V rfl dX2_partBetween_21 ?_
    refine lv_icmp_eq (tgt := 31) X.1 X.2.1 dX2_partBetween_24 (by decide) (fun hc => ?_) (fun hc => ?_)
    · replace h := kif_t hc h
      refine lv_iconst (v := (0 : Int32)) X.1 X.2.1 dX2_partBetween_31 (by decide) ?_
      obtain rfl := Option.some.inj h
      rw [hAA] at V
      rw [hQQ]
      exact k_iret X V rfl dX2_partBetween_32
    · replace h := kif_f hc h
      refine lv_iload_n X.1 X.2.1 dX2_partBetween_27 rfl (lv_at hl 0 rfl) ?_
      refine lv_goto (tgt := 32) X.1 X.2.1 dX2_partBetween_28 (by decide) ?_
      obtain rfl := Option.some.inj h
      rw [hAA] at V
      rw [hQQ]
      exact k_iret X V rfl dX2_partBetween_32

def p_X2_lesser (v0 : Int32) (v1 : Int32) : Option (Int32) :=
  kif (v0 = 0) (some ((v0 ||| v1))) (kif (v1 = 0) (some ((v0 ||| v1))) (kb (p_J9_min_7cf53 v0 v1) (fun x1 => some x1)))
set_option maxHeartbeats 4000000 in
set_option maxRecDepth 100000 in
theorem c_X2_lesser (l : Launch) (D : va_G) (g : kG)  (v0 : Int32) (v1 : Int32) (r : Int32) (h : p_X2_lesser v0 v1 = some r) : kMi l yX2_lesser cX2_lesser 2 (some .int) (kR 1 21) D (kty g) [.int v0, .int v1] (List.flatten ([] : List va_W)) r (List.flatten ([] : List va_W)) := by
  intro sz
  refine k_enter (lv := [(0, .int v0), (1, .int v1)]) RX2 (by decide +kernel) rfl rfl (Nat.le_of_ble_eq_true rfl) ?_
  intro p en s m args below meth c ls hsz X V hl
  obtain ⟨QQ, hQQ⟩ : ∃ q, q = MQ below (va_Qi (fun r' (_ : Unit) => r' = r) (fun _ => kE D (List.flatten ([] : List va_W))) (va_A (List.flatten ([] : List va_W)) sz)) args s 0 0 (va_A (List.flatten ([] : List va_W)) sz) := ⟨_, rfl⟩
  rw [← hQQ]
  obtain ⟨AA, hAA⟩ : ∃ q, q = va_A (List.flatten ([] : List va_W)) sz := ⟨_, rfl⟩
  rw [← hAA] at V
  unfold p_X2_lesser at h
  refine lv_iload_n X.1 X.2.1 dX2_lesser_0 rfl (lv_at hl 0 rfl) ?_
  refine lv_if_eq (tgt := 8) X.1 X.2.1 dX2_lesser_1 (by decide) (fun hc => ?_) (fun hc => ?_)
  · replace h := kif_t hc h
    refine lv_iload_n X.1 X.2.1 dX2_lesser_8 rfl (lv_at hl 0 rfl) ?_
    refine lv_iload_n X.1 X.2.1 dX2_lesser_9 rfl (lv_at hl 1 rfl) ?_
    refine lv_ior X.1 X.2.1 dX2_lesser_10 ?_
    obtain rfl := Option.some.inj h
    rw [hAA] at V
    rw [hQQ]
    exact k_iret X V rfl dX2_lesser_11
  · replace h := kif_f hc h
    refine lv_iload_n X.1 X.2.1 dX2_lesser_4 rfl (lv_at hl 1 rfl) ?_
    refine lv_if_ne (tgt := 12) X.1 X.2.1 dX2_lesser_5 (by decide) (fun hc => ?_) (fun hc => ?_)
    · replace h := kif_f hc h
      refine lv_iload_n X.1 X.2.1 dX2_lesser_12 rfl (lv_at hl 0 rfl) ?_
      refine lv_iload_n X.1 X.2.1 dX2_lesser_13 rfl (lv_at hl 1 rfl) ?_
      obtain ⟨x2, hx2, h⟩ := kb_of h
      refine s_callSi (segs' := ([] : List va_W)) X V (c_J9_min_7cf53 l D g v0 v1 x2 hx2) w_X2_41 ⟨Nat.le_of_ble_eq_true rfl, Nat.le_of_ble_eq_true rfl⟩ ⟨Nat.zero_le _, Nat.zero_le _⟩ rfl [] rfl rfl (kFst_refl _) rfl rfl hl.1 (Nat.le_of_ble_eq_true rfl) dX2_lesser_14 (fun H locs V => ?_)
      obtain rfl := Option.some.inj h
      rw [hAA] at V
      rw [hQQ]
      exact k_iret X V rfl dX2_lesser_17
    · replace h := kif_t hc h
      refine lv_iload_n X.1 X.2.1 dX2_lesser_8 rfl (lv_at hl 0 rfl) ?_
      refine lv_iload_n X.1 X.2.1 dX2_lesser_9 rfl (lv_at hl 1 rfl) ?_
      refine lv_ior X.1 X.2.1 dX2_lesser_10 ?_
      obtain rfl := Option.some.inj h
      rw [hAA] at V
      rw [hQQ]
      exact k_iret X V rfl dX2_lesser_11

def p_X2_parting_L53 (zT : tX2) (zP1 : tX3) (v2 : Int32) (v4 : Int32) (v5 : Int32) (v6 : Int32) (s : Int32 × Int32) : Option (Nat × (Int32 × Int32)) :=
  kif (v4 ≤ s.2) (some (119, (s.1, s.2))) (kb (p_X2_discAt zT s.2) (fun x3 => kb (p_X2_bitsOf zT x3) (fun x4 => kif ((v6 ||| x4) = zT.2.2.2.2.2) (kb (p_X2_partBetween zT v6 x4) (fun x5 => kb (p_X2_lesser s.1 x5) (fun x6 => kb (p_X2_partBetween zT x4 v6) (fun x7 => kb (p_X2_lesser x6 x7) (fun x8 => kl (s.2 + (1 : Int32)) (fun y9 => some (53, (x8, y9)))))))) (kl (s.2 + (1 : Int32)) (fun y10 => some (53, (s.1, y10)))))))
def p_X2_parting_J42_7 (zT : tX2) (zP1 : tX3) (v2 : Int32) (v3 : Int32) (v4 : Int32) (v5 : Int32) : Option (Nat × (Int32 × Int32 × Int32)) :=
  kb (p_X2_bitsOf zT v5) (fun x2 => kb (kitr 53 (fun q => p_X2_parting_L53 zT zP1 v2 v4 v5 x2 q) kF (v3, (0 : Int32))) (fun x11 => kg (x11.1 = 119) (kif (x11.2.1 = 0) (kl (v4 + (1 : Int32)) (fun y12 => some (7, (v2, x11.2.1, y12)))) (kif (v2 = (-1 : Int32)) (kl (v4 + (1 : Int32)) (fun y13 => some (7, (v5, x11.2.1, y13)))) (kl (v4 + (1 : Int32)) (fun y14 => some (7, (v2, x11.2.1, y14))))))))
def p_X2_parting_L7 (zT : tX2) (zP1 : tX3) (s : Int32 × Int32 × Int32) : Option (Nat × (Int32 × Int32 × Int32)) :=
  kif (zT.2.2.2.2.1 ≤ s.2.2) (some (137, (s.1, s.2.1, s.2.2))) (kb (p_X2_discAt zT s.2.2) (fun x1 => kif (s.1 = (-1 : Int32)) (p_X2_parting_J42_7 zT zP1 s.1 s.2.1 s.2.2 x1) (kb (p_X2_sizeOrder zT x1 s.1) (fun x15 => kif (x15 ≤ 0) (p_X2_parting_J42_7 zT zP1 s.1 s.2.1 s.2.2 x1) (some (39, (s.1, s.2.1, s.2.2)))))))
def p_X2_parting_J137 (zT : tX2) (zP1 : tX3) (v2 : Int32) (v3 : Int32) : Option (Int32 × tX3) :=
  kb (p_X2_tellSize zT zP1 v2) (fun x17 => some (v3, x17))
def p_X2_parting (zT : tX2) (zP1 : tX3) : Option (Int32 × tX3) :=
  kb (kitr 7 (fun q => p_X2_parting_L7 zT zP1 q) kF ((-1 : Int32), (0 : Int32), (0 : Int32))) (fun x16 => kif (x16.1 = 39) (p_X2_parting_J137 zT zP1 x16.2.1 x16.2.2.1) (kg (x16.1 = 137) (p_X2_parting_J137 zT zP1 x16.2.1 x16.2.2.1)))
set_option maxHeartbeats 4000000 in
set_option maxRecDepth 100000 in
theorem c_X2_parting (l : Launch) (D : va_G) (g : kG) (aT : Nat → Nat) (aP1 : Nat → Nat) (bT : Nat → Nat → Nat) (zT : tX2) (zP1 : tX3) (r : Int32 × tX3) (h : p_X2_parting zT zP1 = some r) : kMi l yX2_parting cX2_parting 9 (some .int) (kR 4 100) D (kty g) [.ref (aT 0), .ref (aP1 0)] (List.flatten [gX2 g aT bT zT, gX3 g aP1 zP1]) r.1 (List.flatten [gX2 g aT bT zT, gX3 g aP1 r.2]) := by
  intro sz
  refine k_enter (lv := [(0, .ref (aT 0)), (1, .ref (aP1 0))]) RX2 (by decide +kernel) rfl rfl (Nat.le_of_ble_eq_true rfl) ?_
  intro p en s m args below meth c ls hsz X V hl
  obtain ⟨QQ, hQQ⟩ : ∃ q, q = MQ below (va_Qi (fun r' (_ : Unit) => r' = r.1) (fun _ => kE D (List.flatten [gX2 g aT bT zT, gX3 g aP1 r.2])) (va_A (List.flatten [gX2 g aT bT zT, gX3 g aP1 zP1]) sz)) args s 0 0 (va_A (List.flatten [gX2 g aT bT zT, gX3 g aP1 zP1]) sz) := ⟨_, rfl⟩
  rw [← hQQ]
  obtain ⟨AA, hAA⟩ : ∃ q, q = va_A (List.flatten [gX2 g aT bT zT, gX3 g aP1 zP1]) sz := ⟨_, rfl⟩
  rw [← hAA] at V
  have J137 : ∀ (zP1 : tX3) (v2 : Int32) (v3 : Int32) (H : Heap) (locs : List Loc) (ls : Array Slot), p_X2_parting_J137 zT zP1 v2 v3 = some r → kW D AA s.heap H (List.flatten [gX2 g aT bT zT, gX3 g aP1 zP1]) locs → lv_has ls 9 [(0, .ref (aT 0)), (1, .ref (aP1 0)), (2, .int v2), (3, .int v3)] → W p l en (kR 4 100) s m args below meth c H locs 0 0 QQ (F0 m 137 ls []) := by
    intro zP1 v2 v3 H locs ls h V hl
    unfold p_X2_parting_J137 at h
    refine lv_aload_n X.1 X.2.1 dX2_parting_137 rfl (lv_at hl 0 rfl) ?_
    refine lv_iload_n X.1 X.2.1 dX2_parting_138 rfl (lv_at hl 2 rfl) ?_
    refine lv_aload_n X.1 X.2.1 dX2_parting_139 rfl (lv_at hl 1 rfl) ?_
    obtain ⟨x18, hx18, h⟩ := kb_of h
    refine s_callVv (segs' := [gX2 g aT bT zT, gX3 g aP1 x18]) (ci := 2) (i0 := 0) X V (c_X2_tellSize l D g aT aP1 bT zT zP1 v2 x18 hx18) w_X2_115 ⟨Nat.le_of_ble_eq_true rfl, Nat.le_of_ble_eq_true rfl⟩ ⟨Nat.zero_le _, Nat.zero_le _⟩ rfl rfl rfl rfl [0, 1] rfl rfl ⟨rfl, gX3_fst, trivial⟩ rfl rfl hl.1 (Nat.le_of_ble_eq_true rfl) dX2_parting_140 (fun H locs V => ?_)
    refine lv_iload_n X.1 X.2.1 dX2_parting_143 rfl (lv_at hl 3 rfl) ?_
    obtain rfl := Option.some.inj h
    rw [hAA] at V
    rw [hQQ]
    exact k_iret X V rfl dX2_parting_144
  unfold p_X2_parting at h
  refine lv_iconst (v := (-1 : Int32)) X.1 X.2.1 dX2_parting_0 (by decide) ?_
  refine lv_istore_n (lv' := [(2, .int (-1 : Int32)), (0, .ref (aT 0)), (1, .ref (aP1 0))]) X.1 X.2.1 dX2_parting_1 rfl hl (by decide) rfl (fun ls hl => ?_)
  refine lv_iconst (v := (0 : Int32)) X.1 X.2.1 dX2_parting_2 (by decide) ?_
  refine lv_istore_n (lv' := [(3, .int (0 : Int32)), (2, .int (-1 : Int32)), (0, .ref (aT 0)), (1, .ref (aP1 0))]) X.1 X.2.1 dX2_parting_3 rfl hl (by decide) rfl (fun ls hl => ?_)
  refine lv_iconst (v := (0 : Int32)) X.1 X.2.1 dX2_parting_4 (by decide) ?_
  refine lv_istore (lv' := [(4, .int (0 : Int32)), (3, .int (0 : Int32)), (2, .int (-1 : Int32)), (0, .ref (aT 0)), (1, .ref (aP1 0))]) X.1 X.2.1 dX2_parting_5 hl (by decide) rfl (fun ls hl => ?_)
  obtain ⟨x19, hx19, h⟩ := kb_of h
  refine (kitr_go (hd := 7) (body := fun q => p_X2_parting_L7 zT zP1 q) (G := (fun e => ∀ (H : Heap) (locs : List Loc) (ls : Array Slot), kW D AA s.heap H (List.flatten [gX2 g aT bT zT, gX3 g aP1 zP1]) locs → lv_has ls 9 [(0, .ref (aT 0)), (1, .ref (aP1 0)), (2, .int e.2.1), (3, .int e.2.2.1), (4, .int e.2.2.2)] → W p l en (kR 4 100) s m args below meth c H locs 0 0 QQ (F0 m e.1 ls []))) (fun s20 e21 hb22 hG23 => ?_) kF _ x19 hx19 ?_) _ _ _ V (lv_sub hl [3, 4, 2, 1, 0] rfl)
  · intro H locs ls V hl
    show W p l en (kR 4 100) s m args below meth c H locs 0 0 QQ (F0 m 7 ls [])
    have h : p_X2_parting_L7 zT zP1 s20 = some e21 := hb22
    unfold p_X2_parting_L7 at h
    have V : kW D AA s.heap H (List.flatten [gX2 g aT bT zT, gX3 g aP1 zP1]) locs := V
    have hl : lv_has ls 9 [(0, .ref (aT 0)), (1, .ref (aP1 0)), (2, .int s20.1), (3, .int s20.2.1), (4, .int s20.2.2)] := hl
    have J42 : ∀ (v2 : Int32) (v3 : Int32) (v4 : Int32) (v5 : Int32) (H : Heap) (locs : List Loc) (ls : Array Slot), p_X2_parting_J42_7 zT zP1 v2 v3 v4 v5 = some e21 → kW D AA s.heap H (List.flatten [gX2 g aT bT zT, gX3 g aP1 zP1]) locs → lv_has ls 9 [(0, .ref (aT 0)), (1, .ref (aP1 0)), (2, .int v2), (3, .int v3), (4, .int v4), (5, .int v5)] → W p l en (kR 4 100) s m args below meth c H locs 0 0 QQ (F0 m 42 ls []) := by
      intro v2 v3 v4 v5 H locs ls h V hl
      unfold p_X2_parting_J42_7 at h
      refine lv_aload_n X.1 X.2.1 dX2_parting_42 rfl (lv_at hl 0 rfl) ?_
      refine lv_iload X.1 X.2.1 dX2_parting_43 (lv_at hl 5 rfl) ?_
      obtain ⟨x24, hx24, h⟩ := kb_of h
      refine s_callVi (segs' := [gX2 g aT bT zT, gX3 g aP1 zP1]) (ci := 2) (i0 := 0) X V (c_X2_bitsOf l D g aT bT zT v5 x24 hx24) w_X2_103 ⟨Nat.le_of_ble_eq_true rfl, Nat.le_of_ble_eq_true rfl⟩ ⟨Nat.zero_le _, Nat.zero_le _⟩ rfl rfl rfl rfl [0] rfl rfl (kFst_refl _) rfl rfl hl.1 (Nat.le_of_ble_eq_true rfl) dX2_parting_45 (fun H locs V => ?_)
      refine lv_istore (lv' := [(6, .int x24), (0, .ref (aT 0)), (1, .ref (aP1 0)), (2, .int v2), (3, .int v3), (4, .int v4), (5, .int v5)]) X.1 X.2.1 dX2_parting_48 hl (by decide) rfl (fun ls hl => ?_)
      refine lv_iconst (v := (0 : Int32)) X.1 X.2.1 dX2_parting_50 (by decide) ?_
      refine lv_istore (lv' := [(7, .int (0 : Int32)), (6, .int x24), (0, .ref (aT 0)), (1, .ref (aP1 0)), (2, .int v2), (3, .int v3), (4, .int v4), (5, .int v5)]) X.1 X.2.1 dX2_parting_51 hl (by decide) rfl (fun ls hl => ?_)
      obtain ⟨x25, hx25, h⟩ := kb_of h
      refine (kitr_go (hd := 53) (body := fun q => p_X2_parting_L53 zT zP1 v2 v4 v5 x24 q) (G := (fun e => ∀ (H : Heap) (locs : List Loc) (ls : Array Slot), kW D AA s.heap H (List.flatten [gX2 g aT bT zT, gX3 g aP1 zP1]) locs → lv_has ls 9 [(0, .ref (aT 0)), (1, .ref (aP1 0)), (2, .int v2), (3, .int e.2.1), (4, .int v4), (5, .int v5), (6, .int x24), (7, .int e.2.2)] → W p l en (kR 4 100) s m args below meth c H locs 0 0 QQ (F0 m e.1 ls []))) (fun s26 e27 hb28 hG29 => ?_) kF _ x25 hx25 ?_) _ _ _ V (lv_sub hl [2, 3, 4, 5, 6, 7, 1, 0] rfl)
      · intro H locs ls V hl
        show W p l en (kR 4 100) s m args below meth c H locs 0 0 QQ (F0 m 53 ls [])
        have h : p_X2_parting_L53 zT zP1 v2 v4 v5 x24 s26 = some e27 := hb28
        unfold p_X2_parting_L53 at h
        have V : kW D AA s.heap H (List.flatten [gX2 g aT bT zT, gX3 g aP1 zP1]) locs := V
        have hl : lv_has ls 9 [(0, .ref (aT 0)), (1, .ref (aP1 0)), (2, .int v2), (3, .int s26.1), (4, .int v4), (5, .int v5), (6, .int x24), (7, .int s26.2)] := hl
        refine lv_iload X.1 X.2.1 dX2_parting_53 (lv_at hl 7 rfl) ?_
        refine lv_iload X.1 X.2.1 dX2_parting_55 (lv_at hl 4 rfl) ?_
        refine lv_icmp_ge (tgt := 119) X.1 X.2.1 dX2_parting_57 (by decide) (fun hc => ?_) (fun hc => ?_)
        · replace h := kif_t hc h
          obtain rfl := Option.some.inj h
          exact hG29 _ _ _ V (lv_sub hl [0, 1, 2, 3, 4, 5, 6, 7] rfl)
        · replace h := kif_f hc h
          refine lv_aload_n X.1 X.2.1 dX2_parting_60 rfl (lv_at hl 0 rfl) ?_
          refine lv_aload_n X.1 X.2.1 dX2_parting_61 rfl (lv_at hl 0 rfl) ?_
          refine lv_iload X.1 X.2.1 dX2_parting_62 (lv_at hl 7 rfl) ?_
          obtain ⟨x30, hx30, h⟩ := kb_of h
          refine s_callVi (segs' := [gX2 g aT bT zT, gX3 g aP1 zP1]) (ci := 2) (i0 := 0) X V (c_X2_discAt l D g aT bT zT s26.2 x30 hx30) w_X2_87 ⟨Nat.le_of_ble_eq_true rfl, Nat.le_of_ble_eq_true rfl⟩ ⟨Nat.zero_le _, Nat.zero_le _⟩ rfl rfl rfl rfl [0] rfl rfl (kFst_refl _) rfl rfl hl.1 (Nat.le_of_ble_eq_true rfl) dX2_parting_64 (fun H locs V => ?_)
          obtain ⟨x31, hx31, h⟩ := kb_of h
          refine s_callVi (segs' := [gX2 g aT bT zT, gX3 g aP1 zP1]) (ci := 2) (i0 := 0) X V (c_X2_bitsOf l D g aT bT zT x30 x31 hx31) w_X2_103 ⟨Nat.le_of_ble_eq_true rfl, Nat.le_of_ble_eq_true rfl⟩ ⟨Nat.zero_le _, Nat.zero_le _⟩ rfl rfl rfl rfl [0] rfl rfl (kFst_refl _) rfl rfl hl.1 (Nat.le_of_ble_eq_true rfl) dX2_parting_67 (fun H locs V => ?_)
          refine lv_istore (lv' := [(8, .int x31), (0, .ref (aT 0)), (1, .ref (aP1 0)), (2, .int v2), (3, .int s26.1), (4, .int v4), (5, .int v5), (6, .int x24), (7, .int s26.2)]) X.1 X.2.1 dX2_parting_70 hl (by decide) rfl (fun ls hl => ?_)
          refine lv_iload X.1 X.2.1 dX2_parting_72 (lv_at hl 7 rfl) ?_
          refine lv_iload X.1 X.2.1 dX2_parting_74 (lv_at hl 0 rfl) ?_
          refine lv_ior X.1 X.2.1 dX2_parting_76 ?_
          refine lv_aload_n X.1 X.2.1 dX2_parting_77 rfl (lv_at hl 1 rfl) ?_
          refine gf_X2_47 (i := 0) X V rfl dX2_parting_78 ?_
          refine lv_icmp_eq (tgt := 87) X.1 X.2.1 dX2_parting_81 (by decide) (fun hc => ?_) (fun hc => ?_)
          · replace h := kif_t hc h
            refine lv_iload_n X.1 X.2.1 dX2_parting_87 rfl (lv_at hl 4 rfl) ?_
            refine lv_aload_n X.1 X.2.1 dX2_parting_88 rfl (lv_at hl 1 rfl) ?_
            refine lv_iload X.1 X.2.1 dX2_parting_89 (lv_at hl 7 rfl) ?_
            refine lv_iload X.1 X.2.1 dX2_parting_91 (lv_at hl 0 rfl) ?_
            obtain ⟨x32, hx32, h⟩ := kb_of h
            refine s_callVi (segs' := [gX2 g aT bT zT, gX3 g aP1 zP1]) (ci := 2) (i0 := 0) X V (c_X2_partBetween l D g aT bT zT x24 x31 x32 hx32) w_X2_119 ⟨Nat.le_of_ble_eq_true rfl, Nat.le_of_ble_eq_true rfl⟩ ⟨Nat.zero_le _, Nat.zero_le _⟩ rfl rfl rfl rfl [0] rfl rfl (kFst_refl _) rfl rfl hl.1 (Nat.le_of_ble_eq_true rfl) dX2_parting_93 (fun H locs V => ?_)
            obtain ⟨x33, hx33, h⟩ := kb_of h
            refine s_callSi (segs' := [gX2 g aT bT zT, gX3 g aP1 zP1]) X V (c_X2_lesser l D g s26.1 x32 x33 hx33) w_X2_122 ⟨Nat.le_of_ble_eq_true rfl, Nat.le_of_ble_eq_true rfl⟩ ⟨Nat.zero_le _, Nat.zero_le _⟩ rfl [] rfl rfl (kFst_refl _) rfl rfl hl.1 (Nat.le_of_ble_eq_true rfl) dX2_parting_96 (fun H locs V => ?_)
            refine lv_istore_n (lv' := [(3, .int x33), (8, .int x31), (0, .ref (aT 0)), (1, .ref (aP1 0)), (2, .int v2), (4, .int v4), (5, .int v5), (6, .int x24), (7, .int s26.2)]) X.1 X.2.1 dX2_parting_99 rfl hl (by decide) rfl (fun ls hl => ?_)
            refine lv_iload_n X.1 X.2.1 dX2_parting_100 rfl (lv_at hl 0 rfl) ?_
            refine lv_aload_n X.1 X.2.1 dX2_parting_101 rfl (lv_at hl 2 rfl) ?_
            refine lv_iload X.1 X.2.1 dX2_parting_102 (lv_at hl 1 rfl) ?_
            refine lv_iload X.1 X.2.1 dX2_parting_104 (lv_at hl 7 rfl) ?_
            obtain ⟨x34, hx34, h⟩ := kb_of h
            refine s_callVi (segs' := [gX2 g aT bT zT, gX3 g aP1 zP1]) (ci := 2) (i0 := 0) X V (c_X2_partBetween l D g aT bT zT x31 x24 x34 hx34) w_X2_119 ⟨Nat.le_of_ble_eq_true rfl, Nat.le_of_ble_eq_true rfl⟩ ⟨Nat.zero_le _, Nat.zero_le _⟩ rfl rfl rfl rfl [0] rfl rfl (kFst_refl _) rfl rfl hl.1 (Nat.le_of_ble_eq_true rfl) dX2_parting_106 (fun H locs V => ?_)
            obtain ⟨x35, hx35, h⟩ := kb_of h
            refine s_callSi (segs' := [gX2 g aT bT zT, gX3 g aP1 zP1]) X V (c_X2_lesser l D g x33 x34 x35 hx35) w_X2_122 ⟨Nat.le_of_ble_eq_true rfl, Nat.le_of_ble_eq_true rfl⟩ ⟨Nat.zero_le _, Nat.zero_le _⟩ rfl [] rfl rfl (kFst_refl _) rfl rfl hl.1 (Nat.le_of_ble_eq_true rfl) dX2_parting_109 (fun H locs V => ?_)
            refine lv_istore_n (lv' := [(3, .int x35), (8, .int x31), (0, .ref (aT 0)), (1, .ref (aP1 0)), (2, .int v2), (4, .int v4), (5, .int v5), (6, .int x24), (7, .int s26.2)]) X.1 X.2.1 dX2_parting_112 rfl hl (by decide) rfl (fun ls hl => ?_)
            obtain ⟨y36, ey36⟩ : ∃ y : Int32, y = (s26.2 + (1 : Int32)) := ⟨_, rfl⟩
            replace h := kl_of ey36 h
            refine lv_iinc (v := y36) (lv' := [(7, .int y36), (3, .int x35), (8, .int x31), (0, .ref (aT 0)), (1, .ref (aP1 0)), (2, .int v2), (4, .int v4), (5, .int v5), (6, .int x24)]) X.1 X.2.1 dX2_parting_113 hl (k := 8) rfl (by rw [ey36]; rfl) (by decide) rfl (fun ls hl => ?_)
            refine lv_goto (tgt := 53) X.1 X.2.1 dX2_parting_116 (by decide) ?_
            obtain rfl := Option.some.inj h
            exact hG29 _ _ _ V (lv_sub hl [3, 4, 5, 1, 6, 7, 8, 0] rfl)
          · replace h := kif_f hc h
            refine lv_goto (tgt := 113) X.1 X.2.1 dX2_parting_84 (by decide) ?_
            obtain ⟨y37, ey37⟩ : ∃ y : Int32, y = (s26.2 + (1 : Int32)) := ⟨_, rfl⟩
            replace h := kl_of ey37 h
            refine lv_iinc (v := y37) (lv' := [(7, .int y37), (8, .int x31), (0, .ref (aT 0)), (1, .ref (aP1 0)), (2, .int v2), (3, .int s26.1), (4, .int v4), (5, .int v5), (6, .int x24)]) X.1 X.2.1 dX2_parting_113 hl (k := 8) rfl (by rw [ey37]; rfl) (by decide) rfl (fun ls hl => ?_)
            refine lv_goto (tgt := 53) X.1 X.2.1 dX2_parting_116 (by decide) ?_
            obtain rfl := Option.some.inj h
            exact hG29 _ _ _ V (lv_sub hl [2, 3, 4, 5, 6, 7, 8, 0] rfl)
      · intro H locs ls V hl
        have V : kW D AA s.heap H (List.flatten [gX2 g aT bT zT, gX3 g aP1 zP1]) locs := V
        have hl : lv_has ls 9 [(0, .ref (aT 0)), (1, .ref (aP1 0)), (2, .int v2), (3, .int x25.2.1), (4, .int v4), (5, .int v5), (6, .int x24), (7, .int x25.2.2)] := hl
        obtain ⟨hc, h⟩ := kg_of h
        refine W.eq (g2 := F0 m 119 ls []) (by rw [hc]) ?_
        refine lv_iload_n X.1 X.2.1 dX2_parting_119 rfl (lv_at hl 3 rfl) ?_
        refine lv_if_eq (tgt := 131) X.1 X.2.1 dX2_parting_120 (by decide) (fun hc => ?_) (fun hc => ?_)
        · replace h := kif_t hc h
          obtain ⟨y38, ey38⟩ : ∃ y : Int32, y = (v4 + (1 : Int32)) := ⟨_, rfl⟩
          replace h := kl_of ey38 h
          refine lv_iinc (v := y38) (lv' := [(4, .int y38), (0, .ref (aT 0)), (1, .ref (aP1 0)), (2, .int v2), (3, .int x25.2.1), (5, .int v5), (6, .int x24), (7, .int x25.2.2)]) X.1 X.2.1 dX2_parting_131 hl (k := 4) rfl (by rw [ey38]; rfl) (by decide) rfl (fun ls hl => ?_)
          refine lv_goto (tgt := 7) X.1 X.2.1 dX2_parting_134 (by decide) ?_
          obtain rfl := Option.some.inj h
          exact hG23 _ _ _ V (lv_sub hl [1, 2, 3, 4, 0] rfl)
        · replace h := kif_f hc h
          refine lv_iload_n X.1 X.2.1 dX2_parting_123 rfl (lv_at hl 2 rfl) ?_
          refine lv_iconst (v := (-1 : Int32)) X.1 X.2.1 dX2_parting_124 (by decide) ?_
          refine lv_icmp_ne (tgt := 131) X.1 X.2.1 dX2_parting_125 (by decide) (fun hc => ?_) (fun hc => ?_)
          · replace h := kif_f hc h
            obtain ⟨y39, ey39⟩ : ∃ y : Int32, y = (v4 + (1 : Int32)) := ⟨_, rfl⟩
            replace h := kl_of ey39 h
            refine lv_iinc (v := y39) (lv' := [(4, .int y39), (0, .ref (aT 0)), (1, .ref (aP1 0)), (2, .int v2), (3, .int x25.2.1), (5, .int v5), (6, .int x24), (7, .int x25.2.2)]) X.1 X.2.1 dX2_parting_131 hl (k := 4) rfl (by rw [ey39]; rfl) (by decide) rfl (fun ls hl => ?_)
            refine lv_goto (tgt := 7) X.1 X.2.1 dX2_parting_134 (by decide) ?_
            obtain rfl := Option.some.inj h
            exact hG23 _ _ _ V (lv_sub hl [1, 2, 3, 4, 0] rfl)
          · replace h := kif_t hc h
            refine lv_iload X.1 X.2.1 dX2_parting_128 (lv_at hl 5 rfl) ?_
            refine lv_istore_n (lv' := [(2, .int v5), (0, .ref (aT 0)), (1, .ref (aP1 0)), (3, .int x25.2.1), (4, .int v4), (5, .int v5), (6, .int x24), (7, .int x25.2.2)]) X.1 X.2.1 dX2_parting_130 rfl hl (by decide) rfl (fun ls hl => ?_)
            obtain ⟨y40, ey40⟩ : ∃ y : Int32, y = (v4 + (1 : Int32)) := ⟨_, rfl⟩
            replace h := kl_of ey40 h
            refine lv_iinc (v := y40) (lv' := [(4, .int y40), (2, .int v5), (0, .ref (aT 0)), (1, .ref (aP1 0)), (3, .int x25.2.1), (5, .int v5), (6, .int x24), (7, .int x25.2.2)]) X.1 X.2.1 dX2_parting_131 hl (k := 4) rfl (by rw [ey40]; rfl) (by decide) rfl (fun ls hl => ?_)
            refine lv_goto (tgt := 7) X.1 X.2.1 dX2_parting_134 (by decide) ?_
            obtain rfl := Option.some.inj h
            exact hG23 _ _ _ V (lv_sub hl [2, 3, 1, 4, 0] rfl)
    refine lv_iload X.1 X.2.1 dX2_parting_7 (lv_at hl 4 rfl) ?_
    refine lv_aload_n X.1 X.2.1 dX2_parting_9 rfl (lv_at hl 0 rfl) ?_
    refine gf_X2_32 (i := 0) X V rfl dX2_parting_10 ?_
    refine lv_icmp_ge (tgt := 137) X.1 X.2.1 dX2_parting_13 (by decide) (fun hc => ?_) (fun hc => ?_)
    · replace h := kif_t hc h
      obtain rfl := Option.some.inj h
      exact hG23 _ _ _ V (lv_sub hl [0, 1, 2, 3, 4] rfl)
    · replace h := kif_f hc h
      refine lv_aload_n X.1 X.2.1 dX2_parting_16 rfl (lv_at hl 0 rfl) ?_
      refine lv_iload X.1 X.2.1 dX2_parting_17 (lv_at hl 4 rfl) ?_
      obtain ⟨x41, hx41, h⟩ := kb_of h
      refine s_callVi (segs' := [gX2 g aT bT zT, gX3 g aP1 zP1]) (ci := 2) (i0 := 0) X V (c_X2_discAt l D g aT bT zT s20.2.2 x41 hx41) w_X2_87 ⟨Nat.le_of_ble_eq_true rfl, Nat.le_of_ble_eq_true rfl⟩ ⟨Nat.zero_le _, Nat.zero_le _⟩ rfl rfl rfl rfl [0] rfl rfl (kFst_refl _) rfl rfl hl.1 (Nat.le_of_ble_eq_true rfl) dX2_parting_19 (fun H locs V => ?_)
      refine lv_istore (lv' := [(5, .int x41), (0, .ref (aT 0)), (1, .ref (aP1 0)), (2, .int s20.1), (3, .int s20.2.1), (4, .int s20.2.2)]) X.1 X.2.1 dX2_parting_22 hl (by decide) rfl (fun ls hl => ?_)
      refine lv_iload_n X.1 X.2.1 dX2_parting_24 rfl (lv_at hl 3 rfl) ?_
      refine lv_iconst (v := (-1 : Int32)) X.1 X.2.1 dX2_parting_25 (by decide) ?_
      refine lv_icmp_eq (tgt := 42) X.1 X.2.1 dX2_parting_26 (by decide) (fun hc => ?_) (fun hc => ?_)
      · replace h := kif_t hc h
        exact J42 s20.1 s20.2.1 s20.2.2 x41 _ _ _ h V (lv_sub hl [1, 2, 3, 4, 5, 0] rfl)
      · replace h := kif_f hc h
        refine lv_aload_n X.1 X.2.1 dX2_parting_29 rfl (lv_at hl 1 rfl) ?_
        refine lv_iload X.1 X.2.1 dX2_parting_30 (lv_at hl 0 rfl) ?_
        refine lv_iload_n X.1 X.2.1 dX2_parting_32 rfl (lv_at hl 3 rfl) ?_
        obtain ⟨x42, hx42, h⟩ := kb_of h
        refine s_callVi (segs' := [gX2 g aT bT zT, gX3 g aP1 zP1]) (ci := 2) (i0 := 0) X V (c_X2_sizeOrder l D g aT bT zT x41 s20.1 x42 hx42) w_X2_90 ⟨Nat.le_of_ble_eq_true rfl, Nat.le_of_ble_eq_true rfl⟩ ⟨Nat.zero_le _, Nat.zero_le _⟩ rfl rfl rfl rfl [0] rfl rfl (kFst_refl _) rfl rfl hl.1 (Nat.le_of_ble_eq_true rfl) dX2_parting_33 (fun H locs V => ?_)
        refine lv_if_le (tgt := 42) X.1 X.2.1 dX2_parting_36 (by decide) (fun hc => ?_) (fun hc => ?_)
        · replace h := kif_t hc h
          exact J42 s20.1 s20.2.1 s20.2.2 x41 _ _ _ h V (lv_sub hl [1, 2, 3, 4, 5, 0] rfl)
        · replace h := kif_f hc h
          obtain rfl := Option.some.inj h
          exact hG23 _ _ _ V (lv_sub hl [1, 2, 3, 4, 5] rfl)
  · intro H locs ls V hl
    have V : kW D AA s.heap H (List.flatten [gX2 g aT bT zT, gX3 g aP1 zP1]) locs := V
    have hl : lv_has ls 9 [(0, .ref (aT 0)), (1, .ref (aP1 0)), (2, .int x19.2.1), (3, .int x19.2.2.1), (4, .int x19.2.2.2)] := hl
    by_cases hc : x19.1 = 39
    · replace h := kif_t hc h
      refine W.eq (g2 := F0 m 39 ls []) (by rw [hc]) ?_
      refine lv_goto (tgt := 137) X.1 X.2.1 dX2_parting_39 (by decide) ?_
      exact J137 zP1 x19.2.1 x19.2.2.1 _ _ _ h V (lv_sub hl [0, 1, 2, 3] rfl)
    · replace h := kif_f hc h
      obtain ⟨hc, h⟩ := kg_of h
      refine W.eq (g2 := F0 m 137 ls []) (by rw [hc]) ?_
      exact J137 zP1 x19.2.1 x19.2.2.1 _ _ _ h V (lv_sub hl [0, 1, 2, 3] rfl)
