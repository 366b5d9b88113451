def p_X5_narrowest_J43_4 (zT : tX5) (zP1 : tX3) (v3 : Int32) (v4 : Int64) : Option (Nat × (Int32 × Int32 × tX3)) :=
  kb (p_X5_sideSquared zT v3) (fun x4 => kb (p_X3_set zP1 v4 x4) (fun x5 => kl (v3 + (1 : Int32)) (fun y6 => some (4, (v3, y6, x5)))))
def p_X5_narrowest_L4 (zT : tX5) (s : Int32 × Int32 × tX3) : Option (Nat × (Int32 × Int32 × tX3)) :=
  kif (zT.2.2.2 ≤ s.2.1) (some (62, (s.1, s.2.1, s.2.2))) (kb (p_X5_height zT s.2.1) (fun x1 => kb (p_X5_height zT s.2.1) (fun x2 => kl (x1 * x2) (fun y3 => kif (s.2.1 = 0) (p_X5_narrowest_J43_4 zT s.2.2 s.2.1 y3) (kb (p_X5_sideSquared zT s.2.1) (fun x7 => kb (p_X3_against s.2.2 y3 x7) (fun x8 => kif (x8 ≤ 0) (kl (s.2.1 + (1 : Int32)) (fun y9 => some (4, (s.1, y9, s.2.2)))) (p_X5_narrowest_J43_4 zT s.2.2 s.2.1 y3))))))))
def p_X5_narrowest (zT : tX5) (zP1 : tX3) : Option (Int32 × tX3) :=
  kb (kitr 4 (fun q => p_X5_narrowest_L4 zT q) kF ((0 : Int32), (0 : Int32), zP1)) (fun x10 => kg (x10.1 = 62) (kb (p_X5_number zT x10.2.1) (fun x11 => some (x11, x10.2.2.2))))
set_option maxHeartbeats 4000000 in
set_option maxRecDepth 100000 in
theorem c_X5_narrowest (l : Launch) (D : va_G) (g : kG) (aT : Nat → Nat) (aP1 : Nat → Nat) (zT : tX5) (zP1 : tX3) (r : Int32 × tX3) (h : p_X5_narrowest zT zP1 = some r) : kMi l yX5_narrowest cX5_narrowest 6 (some .int) (kR 4 93) D (kty g) [.ref (aT 0), .ref (aP1 0)] (List.flatten [gX5 g aT zT, gX3 g aP1 zP1]) r.1 (List.flatten [gX5 g aT zT, gX3 g aP1 r.2]) := by
  intro sz
  refine k_enter (lv := [(0, .ref (aT 0)), (1, .ref (aP1 0))]) RX5 (by decide +kernel) rfl rfl (Nat.le_of_ble_eq_true rfl) ?_
  intro p en s m args below meth c ls hsz X V hl
  obtain ⟨QQ, hQQ⟩ : ∃ q, q = MQ below (va_Qi (fun r' (_ : Unit) => r' = r.1) (fun _ => kE D (List.flatten [gX5 g aT zT, gX3 g aP1 r.2])) (va_A (List.flatten [gX5 g aT zT, gX3 g aP1 zP1]) sz)) args s 0 0 (va_A (List.flatten [gX5 g aT zT, gX3 g aP1 zP1]) sz) := ⟨_, rfl⟩
  rw [← hQQ]
  obtain ⟨AA, hAA⟩ : ∃ q, q = va_A (List.flatten [gX5 g aT zT, gX3 g aP1 zP1]) sz := ⟨_, rfl⟩
  rw [← hAA] at V
  unfold p_X5_narrowest at h
  refine lv_iconst (v := (0 : Int32)) X.1 X.2.1 dX5_narrowest_0 (by decide) ?_
  refine lv_istore_n (lv' := [(2, .int (0 : Int32)), (0, .ref (aT 0)), (1, .ref (aP1 0))]) X.1 X.2.1 dX5_narrowest_1 rfl hl (by decide) rfl (fun ls hl => ?_)
  refine lv_iconst (v := (0 : Int32)) X.1 X.2.1 dX5_narrowest_2 (by decide) ?_
  refine lv_istore_n (lv' := [(3, .int (0 : Int32)), (2, .int (0 : Int32)), (0, .ref (aT 0)), (1, .ref (aP1 0))]) X.1 X.2.1 dX5_narrowest_3 rfl hl (by decide) rfl (fun ls hl => ?_)
  obtain ⟨x12, hx12, h⟩ := kb_of h
  refine (kitr_go (hd := 4) (body := fun q => p_X5_narrowest_L4 zT q) (G := (fun e => ∀ (H : Heap) (locs : List Loc) (ls : Array Slot), kW D AA s.heap H (List.flatten [gX5 g aT zT, gX3 g aP1 e.2.2.2]) locs → lv_has ls 6 [(0, .ref (aT 0)), (1, .ref (aP1 0)), (2, .int e.2.1), (3, .int e.2.2.1)] → W p l en (kR 4 93) s m args below meth c H locs 0 0 QQ (F0 m e.1 ls []))) (fun s13 e14 hb15 hG16 => ?_) kF _ x12 hx12 ?_) _ _ _ V (lv_sub hl [2, 3, 1, 0] rfl)
  · intro H locs ls V hl
    show W p l en (kR 4 93) s m args below meth c H locs 0 0 QQ (F0 m 4 ls [])
    have h : p_X5_narrowest_L4 zT s13 = some e14 := hb15
    unfold p_X5_narrowest_L4 at h
    have V : kW D AA s.heap H (List.flatten [gX5 g aT zT, gX3 g aP1 s13.2.2]) locs := V
    have hl : lv_has ls 6 [(0, .ref (aT 0)), (1, .ref (aP1 0)), (2, .int s13.1), (3, .int s13.2.1)] := hl
    have J43 : ∀ (zP1 : tX3) (v3 : Int32) (v4 : Int64) (H : Heap) (locs : List Loc) (ls : Array Slot), p_X5_narrowest_J43_4 zT zP1 v3 v4 = some e14 → kW D AA s.heap H (List.flatten [gX5 g aT zT, gX3 g aP1 zP1]) locs → lv_has ls 6 [(0, .ref (aT 0)), (1, .ref (aP1 0)), (3, .int v3), (4, .long v4)] → W p l en (kR 4 93) s m args below meth c H locs 0 0 QQ (F0 m 43 ls []) := by
      intro zP1 v3 v4 H locs ls h V hl
      unfold p_X5_narrowest_J43_4 at h
      refine lv_aload_n X.1 X.2.1 dX5_narrowest_43 rfl (lv_at hl 1 rfl) ?_
      refine lv_lload X.1 X.2.1 dX5_narrowest_44 (lv_at hl 3 rfl) ?_
      refine lv_aload_n X.1 X.2.1 dX5_narrowest_46 rfl (lv_at hl 0 rfl) ?_
      refine lv_iload_n X.1 X.2.1 dX5_narrowest_47 rfl (lv_at hl 2 rfl) ?_
      obtain ⟨x17, hx17, h⟩ := kb_of h
      refine s_callVl (segs' := [gX5 g aT zT, gX3 g aP1 zP1]) (ci := 5) (i0 := 0) X V (c_X5_sideSquared l D g aT zT v3 x17 hx17) w_X5_69 ⟨Nat.le_of_ble_eq_true rfl, Nat.le_of_ble_eq_true rfl⟩ ⟨Nat.zero_le _, Nat.zero_le _⟩ rfl rfl rfl rfl [0] rfl rfl (kFst_refl _) rfl rfl hl.1 (Nat.le_of_ble_eq_true rfl) dX5_narrowest_48 (fun H locs V => ?_)
      obtain ⟨x18, hx18, h⟩ := kb_of h
      refine s_callVv (segs' := [gX5 g aT zT, gX3 g aP1 x18]) (ci := 3) (i0 := 0) X V (c_X3_set l D g aP1 zP1 v4 x17 x18 hx18) w_X5_78 ⟨Nat.le_of_ble_eq_true rfl, Nat.le_of_ble_eq_true rfl⟩ ⟨Nat.zero_le _, Nat.zero_le _⟩ rfl rfl rfl rfl [1] rfl rfl ⟨gX3_fst, trivial⟩ rfl rfl hl.1 (Nat.le_of_ble_eq_true rfl) dX5_narrowest_51 (fun H locs V => ?_)
      refine lv_iload_n X.1 X.2.1 dX5_narrowest_54 rfl (lv_at hl 2 rfl) ?_
      refine lv_istore_n (lv' := [(2, .int v3), (0, .ref (aT 0)), (1, .ref (aP1 0)), (3, .int v3), (4, .long v4)]) X.1 X.2.1 dX5_narrowest_55 rfl hl (by decide) rfl (fun ls hl => ?_)
      obtain ⟨y19, ey19⟩ : ∃ y : Int32, y = (v3 + (1 : Int32)) := ⟨_, rfl⟩
      replace h := kl_of ey19 h
      refine lv_iinc (v := y19) (lv' := [(3, .int y19), (2, .int v3), (0, .ref (aT 0)), (1, .ref (aP1 0)), (4, .long v4)]) X.1 X.2.1 dX5_narrowest_56 hl (k := 3) rfl (by rw [ey19]; rfl) (by decide) rfl (fun ls hl => ?_)
      refine lv_goto (tgt := 4) X.1 X.2.1 dX5_narrowest_59 (by decide) ?_
      obtain rfl := Option.some.inj h
      exact hG16 _ _ _ V (lv_sub hl [2, 3, 1, 0] rfl)
    refine lv_iload_n X.1 X.2.1 dX5_narrowest_4 rfl (lv_at hl 3 rfl) ?_
    refine lv_aload_n X.1 X.2.1 dX5_narrowest_5 rfl (lv_at hl 0 rfl) ?_
    refine gf_X5_23 (i := 0) X V rfl dX5_narrowest_6 ?_
    refine lv_icmp_ge (tgt := 62) X.1 X.2.1 dX5_narrowest_9 (by decide) (fun hc => ?_) (fun hc => ?_)
    · replace h := kif_t hc h
      obtain rfl := Option.some.inj h
      exact hG16 _ _ _ V (lv_sub hl [0, 1, 2, 3] rfl)
    · replace h := kif_f hc h
      refine lv_aload_n X.1 X.2.1 dX5_narrowest_12 rfl (lv_at hl 0 rfl) ?_
      refine lv_iload_n X.1 X.2.1 dX5_narrowest_13 rfl (lv_at hl 3 rfl) ?_
      obtain ⟨x20, hx20, h⟩ := kb_of h
      refine s_callVl (segs' := [gX5 g aT zT, gX3 g aP1 s13.2.2]) (ci := 5) (i0 := 0) X V (c_X5_height l D g aT zT s13.2.1 x20 hx20) w_X5_66 ⟨Nat.le_of_ble_eq_true rfl, Nat.le_of_ble_eq_true rfl⟩ ⟨Nat.zero_le _, Nat.zero_le _⟩ rfl rfl rfl rfl [0] rfl rfl (kFst_refl _) rfl rfl hl.1 (Nat.le_of_ble_eq_true rfl) dX5_narrowest_14 (fun H locs V => ?_)
      refine lv_aload_n X.1 X.2.1 dX5_narrowest_17 rfl (lv_at hl 0 rfl) ?_
      refine lv_iload_n X.1 X.2.1 dX5_narrowest_18 rfl (lv_at hl 3 rfl) ?_
      obtain ⟨x21, hx21, h⟩ := kb_of h
      refine s_callVl (segs' := [gX5 g aT zT, gX3 g aP1 s13.2.2]) (ci := 5) (i0 := 0) X V (c_X5_height l D g aT zT s13.2.1 x21 hx21) w_X5_66 ⟨Nat.le_of_ble_eq_true rfl, Nat.le_of_ble_eq_true rfl⟩ ⟨Nat.zero_le _, Nat.zero_le _⟩ rfl rfl rfl rfl [0] rfl rfl (kFst_refl _) rfl rfl hl.1 (Nat.le_of_ble_eq_true rfl) dX5_narrowest_19 (fun H locs V => ?_)
      refine lv_lmul X.1 X.2.1 dX5_narrowest_22 ?_
      refine lv_topl (fun y22 ey22 => ?_)
      replace h := kl_of ey22 h
      refine lv_lstore (lv' := [(4, .long y22), (0, .ref (aT 0)), (1, .ref (aP1 0)), (2, .int s13.1), (3, .int s13.2.1)]) X.1 X.2.1 dX5_narrowest_23 hl (by decide) rfl (fun ls hl => ?_)
      refine lv_iload_n X.1 X.2.1 dX5_narrowest_25 rfl (lv_at hl 4 rfl) ?_
      refine lv_if_eq (tgt := 43) X.1 X.2.1 dX5_narrowest_26 (by decide) (fun hc => ?_) (fun hc => ?_)
      · replace h := kif_t hc h
        exact J43 s13.2.2 s13.2.1 y22 _ _ _ h V (lv_sub hl [1, 2, 4, 0] rfl)
      · replace h := kif_f hc h
        refine lv_aload_n X.1 X.2.1 dX5_narrowest_29 rfl (lv_at hl 2 rfl) ?_
        refine lv_lload X.1 X.2.1 dX5_narrowest_30 (lv_at hl 0 rfl) ?_
        refine lv_aload_n X.1 X.2.1 dX5_narrowest_32 rfl (lv_at hl 1 rfl) ?_
        refine lv_iload_n X.1 X.2.1 dX5_narrowest_33 rfl (lv_at hl 4 rfl) ?_
        obtain ⟨x23, hx23, h⟩ := kb_of h
        refine s_callVl (segs' := [gX5 g aT zT, gX3 g aP1 s13.2.2]) (ci := 5) (i0 := 0) X V (c_X5_sideSquared l D g aT zT s13.2.1 x23 hx23) w_X5_69 ⟨Nat.le_of_ble_eq_true rfl, Nat.le_of_ble_eq_true rfl⟩ ⟨Nat.zero_le _, Nat.zero_le _⟩ rfl rfl rfl rfl [0] rfl rfl (kFst_refl _) rfl rfl hl.1 (Nat.le_of_ble_eq_true rfl) dX5_narrowest_34 (fun H locs V => ?_)
        obtain ⟨x24, hx24, h⟩ := kb_of h
        refine s_callVi (segs' := [gX5 g aT zT, gX3 g aP1 s13.2.2]) (ci := 3) (i0 := 0) X V (c_X3_against l D g aP1 s13.2.2 y22 x23 x24 hx24) w_X5_72 ⟨Nat.le_of_ble_eq_true rfl, Nat.le_of_ble_eq_true rfl⟩ ⟨Nat.zero_le _, Nat.zero_le _⟩ rfl rfl rfl rfl [1] rfl rfl (kFst_refl _) rfl rfl hl.1 (Nat.le_of_ble_eq_true rfl) dX5_narrowest_37 (fun H locs V => ?_)
        refine lv_if_le (tgt := 56) X.1 X.2.1 dX5_narrowest_40 (by decide) (fun hc => ?_) (fun hc => ?_)
        · replace h := kif_t hc h
          obtain ⟨y25, ey25⟩ : ∃ y : Int32, y = (s13.2.1 + (1 : Int32)) := ⟨_, rfl⟩
          replace h := kl_of ey25 h
          refine lv_iinc (v := y25) (lv' := [(3, .int y25), (4, .long y22), (0, .ref (aT 0)), (1, .ref (aP1 0)), (2, .int s13.1)]) X.1 X.2.1 dX5_narrowest_56 hl (k := 4) rfl (by rw [ey25]; rfl) (by decide) rfl (fun ls hl => ?_)
          refine lv_goto (tgt := 4) X.1 X.2.1 dX5_narrowest_59 (by decide) ?_
          obtain rfl := Option.some.inj h
          exact hG16 _ _ _ V (lv_sub hl [2, 3, 4, 0] rfl)
        · replace h := kif_f hc h
          exact J43 s13.2.2 s13.2.1 y22 _ _ _ h V (lv_sub hl [1, 2, 4, 0] rfl)
  · intro H locs ls V hl
    have V : kW D AA s.heap H (List.flatten [gX5 g aT zT, gX3 g aP1 x12.2.2.2]) locs := V
    have hl : lv_has ls 6 [(0, .ref (aT 0)), (1, .ref (aP1 0)), (2, .int x12.2.1), (3, .int x12.2.2.1)] := hl
    obtain ⟨hc, h⟩ := kg_of h
    refine W.eq (g2 := F0 m 62 ls []) (by rw [hc]) ?_
    refine lv_aload_n X.1 X.2.1 dX5_narrowest_62 rfl (lv_at hl 0 rfl) ?_
    refine lv_iload_n X.1 X.2.1 dX5_narrowest_63 rfl (lv_at hl 2 rfl) ?_
    obtain ⟨x26, hx26, h⟩ := kb_of h
    refine s_callVi (segs' := [gX5 g aT zT, gX3 g aP1 x12.2.2.2]) (ci := 5) (i0 := 0) X V (c_X5_number l D g aT zT x12.2.1 x26 hx26) w_X5_82 ⟨Nat.le_of_ble_eq_true rfl, Nat.le_of_ble_eq_true rfl⟩ ⟨Nat.zero_le _, Nat.zero_le _⟩ rfl rfl rfl rfl [0] rfl rfl (kFst_refl _) rfl rfl hl.1 (Nat.le_of_ble_eq_true rfl) dX5_narrowest_64 (fun H locs V => ?_)
    obtain rfl := Option.some.inj h
    rw [hAA] at V
    rw [hQQ]
    exact k_iret X V rfl dX5_narrowest_67

def p_X5_most_L24 (zT : tX5) (v1 : Int64) (v3 : Int64) (s : Int64 × Int32) : Option (Nat × (Int64 × Int32)) :=
  kif (zT.2.2.2 ≤ s.2) (some (67, (s.1, s.2))) (kg (kii s.2 82) (kg (kii s.2 82) (kb (p_J9_max_f86c9 s.1 ((v1 * ((zT.1 s.2.toNatClampNeg)).toInt64) + (v3 * ((zT.2.1 s.2.toNatClampNeg)).toInt64))) (fun x2 => kl (s.2 + (1 : Int32)) (fun y3 => some (24, (x2, y3)))))))
def p_X5_most (zT : tX5) (v1 : Int64) (v3 : Int64) : Option (Int64) :=
  kg (kii (0 : Int32) 82) (kg (kii (0 : Int32) 82) (kl ((v1 * ((zT.1 (0 : Int32).toNatClampNeg)).toInt64) + (v3 * ((zT.2.1 (0 : Int32).toNatClampNeg)).toInt64)) (fun y1 => kb (kitr 24 (fun q => p_X5_most_L24 zT v1 v3 q) kF (y1, (1 : Int32))) (fun x4 => kg (x4.1 = 67) (some x4.2.1)))))
set_option maxHeartbeats 4000000 in
set_option maxRecDepth 100000 in
theorem c_X5_most (l : Launch) (D : va_G) (g : kG) (aT : Nat → Nat) (zT : tX5) (v1 : Int64) (v3 : Int64) (r : Int64) (h : p_X5_most zT v1 v3 = some r) : kMl l yX5_most cX5_most 8 (some .long) (kR 1 23) D (kty g) [.ref (aT 0), .long v1, .long v3] (List.flatten [gX5 g aT zT]) r (List.flatten [gX5 g aT zT]) := by
  intro sz
  refine k_enter (lv := [(0, .ref (aT 0)), (1, .long v1), (3, .long v3)]) RX5 (by decide +kernel) rfl rfl (Nat.le_of_ble_eq_true rfl) ?_
  intro p en s m args below meth c ls hsz X V hl
  obtain ⟨QQ, hQQ⟩ : ∃ q, q = MQ below (va_Ql (fun r' (_ : Unit) => r' = r) (fun _ => kE D (List.flatten [gX5 g aT zT])) (va_A (List.flatten [gX5 g aT zT]) sz)) args s 0 0 (va_A (List.flatten [gX5 g aT zT]) sz) := ⟨_, rfl⟩
  rw [← hQQ]
  obtain ⟨AA, hAA⟩ : ∃ q, q = va_A (List.flatten [gX5 g aT zT]) sz := ⟨_, rfl⟩
  rw [← hAA] at V
  unfold p_X5_most at h
  refine lv_lload_n X.1 X.2.1 dX5_most_0 rfl (lv_at hl 1 rfl) ?_
  refine lv_aload_n X.1 X.2.1 dX5_most_1 rfl (lv_at hl 0 rfl) ?_
  refine gf_X5_13 (i := 0) X V rfl dX5_most_2 ?_
  refine lv_iconst (v := (0 : Int32)) X.1 X.2.1 dX5_most_5 (by decide) ?_
  obtain ⟨hc, h⟩ := kg_of h
  refine al_X5_0 (i := 0) X V rfl hc dX5_most_6 ?_
  refine lv_i2l X.1 X.2.1 dX5_most_7 rfl ?_
  refine lv_lmul X.1 X.2.1 dX5_most_8 ?_
  refine lv_lload_n X.1 X.2.1 dX5_most_9 rfl (lv_at hl 2 rfl) ?_
  refine lv_aload_n X.1 X.2.1 dX5_most_10 rfl (lv_at hl 0 rfl) ?_
  refine gf_X5_17 (i := 0) X V rfl dX5_most_11 ?_
  refine lv_iconst (v := (0 : Int32)) X.1 X.2.1 dX5_most_14 (by decide) ?_
  obtain ⟨hc, h⟩ := kg_of h
  refine al_X5_1 (i := 0) X V rfl hc dX5_most_15 ?_
  refine lv_i2l X.1 X.2.1 dX5_most_16 rfl ?_
  refine lv_lmul X.1 X.2.1 dX5_most_17 ?_
  refine lv_ladd X.1 X.2.1 dX5_most_18 ?_
  refine lv_topl (fun y5 ey5 => ?_)
  replace h := kl_of ey5 h
  refine lv_lstore (lv' := [(5, .long y5), (0, .ref (aT 0)), (1, .long v1), (3, .long v3)]) X.1 X.2.1 dX5_most_19 hl (by decide) rfl (fun ls hl => ?_)
  refine lv_iconst (v := (1 : Int32)) X.1 X.2.1 dX5_most_21 (by decide) ?_
  refine lv_istore (lv' := [(7, .int (1 : Int32)), (5, .long y5), (0, .ref (aT 0)), (1, .long v1), (3, .long v3)]) X.1 X.2.1 dX5_most_22 hl (by decide) rfl (fun ls hl => ?_)
  obtain ⟨x6, hx6, h⟩ := kb_of h
  refine (kitr_go (hd := 24) (body := fun q => p_X5_most_L24 zT v1 v3 q) (G := (fun e => ∀ (H : Heap) (locs : List Loc) (ls : Array Slot), kW D AA s.heap H (List.flatten [gX5 g aT zT]) locs → lv_has ls 8 [(0, .ref (aT 0)), (1, .long v1), (3, .long v3), (5, .long e.2.1), (7, .int e.2.2)] → W p l en (kR 1 23) s m args below meth c H locs 0 0 QQ (F0 m e.1 ls []))) (fun s7 e8 hb9 hG10 => ?_) kF _ x6 hx6 ?_) _ _ _ V (lv_sub hl [2, 3, 4, 1, 0] rfl)
  · intro H locs ls V hl
    show W p l en (kR 1 23) s m args below meth c H locs 0 0 QQ (F0 m 24 ls [])
    have h : p_X5_most_L24 zT v1 v3 s7 = some e8 := hb9
    unfold p_X5_most_L24 at h
    have V : kW D AA s.heap H (List.flatten [gX5 g aT zT]) locs := V
    have hl : lv_has ls 8 [(0, .ref (aT 0)), (1, .long v1), (3, .long v3), (5, .long s7.1), (7, .int s7.2)] := hl
    refine lv_iload X.1 X.2.1 dX5_most_24 (lv_at hl 4 rfl) ?_
    refine lv_aload_n X.1 X.2.1 dX5_most_26 rfl (lv_at hl 0 rfl) ?_
    refine gf_X5_23 (i := 0) X V rfl dX5_most_27 ?_
    refine lv_icmp_ge (tgt := 67) X.1 X.2.1 dX5_most_30 (by decide) (fun hc => ?_) (fun hc => ?_)
    · replace h := kif_t hc h
      obtain rfl := Option.some.inj h
      exact hG10 _ _ _ V (lv_sub hl [0, 1, 2, 3, 4] rfl)
    · replace h := kif_f hc h
      refine lv_lload X.1 X.2.1 dX5_most_33 (lv_at hl 3 rfl) ?_
      refine lv_lload_n X.1 X.2.1 dX5_most_35 rfl (lv_at hl 1 rfl) ?_
      refine lv_aload_n X.1 X.2.1 dX5_most_36 rfl (lv_at hl 0 rfl) ?_
      refine gf_X5_13 (i := 0) X V rfl dX5_most_37 ?_
      refine lv_iload X.1 X.2.1 dX5_most_40 (lv_at hl 4 rfl) ?_
      obtain ⟨hc, h⟩ := kg_of h
      refine al_X5_0 (i := 0) X V rfl hc dX5_most_42 ?_
      refine lv_i2l X.1 X.2.1 dX5_most_43 rfl ?_
      refine lv_lmul X.1 X.2.1 dX5_most_44 ?_
      refine lv_lload_n X.1 X.2.1 dX5_most_45 rfl (lv_at hl 2 rfl) ?_
      refine lv_aload_n X.1 X.2.1 dX5_most_46 rfl (lv_at hl 0 rfl) ?_
      refine gf_X5_17 (i := 0) X V rfl dX5_most_47 ?_
      refine lv_iload X.1 X.2.1 dX5_most_50 (lv_at hl 4 rfl) ?_
      obtain ⟨hc, h⟩ := kg_of h
      refine al_X5_1 (i := 0) X V rfl hc dX5_most_52 ?_
      refine lv_i2l X.1 X.2.1 dX5_most_53 rfl ?_
      refine lv_lmul X.1 X.2.1 dX5_most_54 ?_
      refine lv_ladd X.1 X.2.1 dX5_most_55 ?_
      obtain ⟨x11, hx11, h⟩ := kb_of h
      refine s_callSl (segs' := [gX5 g aT zT]) X V (c_J9_max_f86c9 l D g s7.1 ((v1 * ((zT.1 s7.2.toNatClampNeg)).toInt64) + (v3 * ((zT.2.1 s7.2.toNatClampNeg)).toInt64)) x11 hx11) w_X5_60 ⟨Nat.le_of_ble_eq_true rfl, Nat.le_of_ble_eq_true rfl⟩ ⟨Nat.zero_le _, Nat.zero_le _⟩ rfl [] rfl rfl (kFst_refl _) rfl rfl hl.1 (Nat.le_of_ble_eq_true rfl) dX5_most_56 (fun H locs V => ?_)
      refine lv_lstore (lv' := [(5, .long x11), (0, .ref (aT 0)), (1, .long v1), (3, .long v3), (7, .int s7.2)]) X.1 X.2.1 dX5_most_59 hl (by decide) rfl (fun ls hl => ?_)
      obtain ⟨y12, ey12⟩ : ∃ y : Int32, y = (s7.2 + (1 : Int32)) := ⟨_, rfl⟩
      replace h := kl_of ey12 h
      refine lv_iinc (v := y12) (lv' := [(7, .int y12), (5, .long x11), (0, .ref (aT 0)), (1, .long v1), (3, .long v3)]) X.1 X.2.1 dX5_most_61 hl (k := 4) rfl (by rw [ey12]; rfl) (by decide) rfl (fun ls hl => ?_)
      refine lv_goto (tgt := 24) X.1 X.2.1 dX5_most_64 (by decide) ?_
      obtain rfl := Option.some.inj h
      exact hG10 _ _ _ V (lv_sub hl [2, 3, 4, 1, 0] rfl)
  · intro H locs ls V hl
    have V : kW D AA s.heap H (List.flatten [gX5 g aT zT]) locs := V
    have hl : lv_has ls 8 [(0, .ref (aT 0)), (1, .long v1), (3, .long v3), (5, .long x6.2.1), (7, .int x6.2.2)] := hl
    obtain ⟨hc, h⟩ := kg_of h
    refine W.eq (g2 := F0 m 67 ls []) (by rw [hc]) ?_
    refine lv_lload X.1 X.2.1 dX5_most_67 (lv_at hl 3 rfl) ?_
    obtain rfl := Option.some.inj h
    rw [hAA] at V
    rw [hQQ]
    exact k_lret X V rfl dX5_most_69

def p_X5_least_L24 (zT : tX5) (v1 : Int64) (v3 : Int64) (s : Int64 × Int32) : Option (Nat × (Int64 × Int32)) :=
  kif (zT.2.2.2 ≤ s.2) (some (67, (s.1, s.2))) (kg (kii s.2 82) (kg (kii s.2 82) (kb (p_J9_min_f86c9 s.1 ((v1 * ((zT.1 s.2.toNatClampNeg)).toInt64) + (v3 * ((zT.2.1 s.2.toNatClampNeg)).toInt64))) (fun x2 => kl (s.2 + (1 : Int32)) (fun y3 => some (24, (x2, y3)))))))
def p_X5_least (zT : tX5) (v1 : Int64) (v3 : Int64) : Option (Int64) :=
  kg (kii (0 : Int32) 82) (kg (kii (0 : Int32) 82) (kl ((v1 * ((zT.1 (0 : Int32).toNatClampNeg)).toInt64) + (v3 * ((zT.2.1 (0 : Int32).toNatClampNeg)).toInt64)) (fun y1 => kb (kitr 24 (fun q => p_X5_least_L24 zT v1 v3 q) kF (y1, (1 : Int32))) (fun x4 => kg (x4.1 = 67) (some x4.2.1)))))
set_option maxHeartbeats 4000000 in
set_option maxRecDepth 100000 in
theorem c_X5_least (l : Launch) (D : va_G) (g : kG) (aT : Nat → Nat) (zT : tX5) (v1 : Int64) (v3 : Int64) (r : Int64) (h : p_X5_least zT v1 v3 = some r) : kMl l yX5_least cX5_least 8 (some .long) (kR 1 23) D (kty g) [.ref (aT 0), .long v1, .long v3] (List.flatten [gX5 g aT zT]) r (List.flatten [gX5 g aT zT]) := by
  intro sz
  refine k_enter (lv := [(0, .ref (aT 0)), (1, .long v1), (3, .long v3)]) RX5 (by decide +kernel) rfl rfl (Nat.le_of_ble_eq_true rfl) ?_
  intro p en s m args below meth c ls hsz X V hl
  obtain ⟨QQ, hQQ⟩ : ∃ q, q = MQ below (va_Ql (fun r' (_ : Unit) => r' = r) (fun _ => kE D (List.flatten [gX5 g aT zT])) (va_A (List.flatten [gX5 g aT zT]) sz)) args s 0 0 (va_A (List.flatten [gX5 g aT zT]) sz) := ⟨_, rfl⟩
  rw [← hQQ]
  obtain ⟨AA, hAA⟩ : ∃ q, q = va_A (List.flatten [gX5 g aT zT]) sz := ⟨_, rfl⟩
  rw [← hAA] at V
  unfold p_X5_least at h
  refine lv_lload_n X.1 X.2.1 dX5_least_0 rfl (lv_at hl 1 rfl) ?_
  refine lv_aload_n X.1 X.2.1 dX5_least_1 rfl (lv_at hl 0 rfl) ?_
  refine gf_X5_13 (i := 0) X V rfl dX5_least_2 ?_
  refine lv_iconst (v := (0 : Int32)) X.1 X.2.1 dX5_least_5 (by decide) ?_
  obtain ⟨hc, h⟩ := kg_of h
  refine al_X5_0 (i := 0) X V rfl hc dX5_least_6 ?_
  refine lv_i2l X.1 X.2.1 dX5_least_7 rfl ?_
  refine lv_lmul X.1 X.2.1 dX5_least_8 ?_
  refine lv_lload_n X.1 X.2.1 dX5_least_9 rfl (lv_at hl 2 rfl) ?_
  refine lv_aload_n X.1 X.2.1 dX5_least_10 rfl (lv_at hl 0 rfl) ?_
  refine gf_X5_17 (i := 0) X V rfl dX5_least_11 ?_
  refine lv_iconst (v := (0 : Int32)) X.1 X.2.1 dX5_least_14 (by decide) ?_
  obtain ⟨hc, h⟩ := kg_of h
  refine al_X5_1 (i := 0) X V rfl hc dX5_least_15 ?_
  refine lv_i2l X.1 X.2.1 dX5_least_16 rfl ?_
  refine lv_lmul X.1 X.2.1 dX5_least_17 ?_
  refine lv_ladd X.1 X.2.1 dX5_least_18 ?_
  refine lv_topl (fun y5 ey5 => ?_)
  replace h := kl_of ey5 h
  refine lv_lstore (lv' := [(5, .long y5), (0, .ref (aT 0)), (1, .long v1), (3, .long v3)]) X.1 X.2.1 dX5_least_19 hl (by decide) rfl (fun ls hl => ?_)
  refine lv_iconst (v := (1 : Int32)) X.1 X.2.1 dX5_least_21 (by decide) ?_
  refine lv_istore (lv' := [(7, .int (1 : Int32)), (5, .long y5), (0, .ref (aT 0)), (1, .long v1), (3, .long v3)]) X.1 X.2.1 dX5_least_22 hl (by decide) rfl (fun ls hl => ?_)
  obtain ⟨x6, hx6, h⟩ := kb_of h
  refine (kitr_go (hd := 24) (body := fun q => p_X5_least_L24 zT v1 v3 q) (G := (fun e => ∀ (H : Heap) (locs : List Loc) (ls : Array Slot), kW D AA s.heap H (List.flatten [gX5 g aT zT]) locs → lv_has ls 8 [(0, .ref (aT 0)), (1, .long v1), (3, .long v3), (5, .long e.2.1), (7, .int e.2.2)] → W p l en (kR 1 23) s m args below meth c H locs 0 0 QQ (F0 m e.1 ls []))) (fun s7 e8 hb9 hG10 => ?_) kF _ x6 hx6 ?_) _ _ _ V (lv_sub hl [2, 3, 4, 1, 0] rfl)
  · intro H locs ls V hl
    show W p l en (kR 1 23) s m args below meth c H locs 0 0 QQ (F0 m 24 ls [])
    have h : p_X5_least_L24 zT v1 v3 s7 = some e8 := hb9
    unfold p_X5_least_L24 at h
    have V : kW D AA s.heap H (List.flatten [gX5 g aT zT]) locs := V
    have hl : lv_has ls 8 [(0, .ref (aT 0)), (1, .long v1), (3, .long v3), (5, .long s7.1), (7, .int s7.2)] := hl
    refine lv_iload X.1 X.2.1 dX5_least_24 (lv_at hl 4 rfl) ?_
    refine lv_aload_n X.1 X.2.1 dX5_least_26 rfl (lv_at hl 0 rfl) ?_
    refine gf_X5_23 (i := 0) X V rfl dX5_least_27 ?_
    refine lv_icmp_ge (tgt := 67) X.1 X.2.1 dX5_least_30 (by decide) (fun hc => ?_) (fun hc => ?_)
    · replace h := kif_t hc h
      obtain rfl := Option.some.inj h
      exact hG10 _ _ _ V (lv_sub hl [0, 1, 2, 3, 4] rfl)
    · replace h := kif_f hc h
      refine lv_lload X.1 X.2.1 dX5_least_33 (lv_at hl 3 rfl) ?_
      refine lv_lload_n X.1 X.2.1 dX5_least_35 rfl (lv_at hl 1 rfl) ?_
      refine lv_aload_n X.1 X.2.1 dX5_least_36 rfl (lv_at hl 0 rfl) ?_
      refine gf_X5_13 (i := 0) X V rfl dX5_least_37 ?_
      refine lv_iload X.1 X.2.1 dX5_least_40 (lv_at hl 4 rfl) ?_
      obtain ⟨hc, h⟩ := kg_of h
      refine al_X5_0 (i := 0) X V rfl hc dX5_least_42 ?_
      refine lv_i2l X.1 X.2.1 dX5_least_43 rfl ?_
      refine lv_lmul X.1 X.2.1 dX5_least_44 ?_
      refine lv_lload_n X.1 X.2.1 dX5_least_45 rfl (lv_at hl 2 rfl) ?_
      refine lv_aload_n X.1 X.2.1 dX5_least_46 rfl (lv_at hl 0 rfl) ?_
      refine gf_X5_17 (i := 0) X V rfl dX5_least_47 ?_
      refine lv_iload X.1 X.2.1 dX5_least_50 (lv_at hl 4 rfl) ?_
      obtain ⟨hc, h⟩ := kg_of h
      refine al_X5_1 (i := 0) X V rfl hc dX5_least_52 ?_
      refine lv_i2l X.1 X.2.1 dX5_least_53 rfl ?_
      refine lv_lmul X.1 X.2.1 dX5_least_54 ?_
      refine lv_ladd X.1 X.2.1 dX5_least_55 ?_
      obtain ⟨x11, hx11, h⟩ := kb_of h
      refine s_callSl (segs' := [gX5 g aT zT]) X V (c_J9_min_f86c9 l D g s7.1 ((v1 * ((zT.1 s7.2.toNatClampNeg)).toInt64) + (v3 * ((zT.2.1 s7.2.toNatClampNeg)).toInt64)) x11 hx11) w_X5_89 ⟨Nat.le_of_ble_eq_true rfl, Nat.le_of_ble_eq_true rfl⟩ ⟨Nat.zero_le _, Nat.zero_le _⟩ rfl [] rfl rfl (kFst_refl _) rfl rfl hl.1 (Nat.le_of_ble_eq_true rfl) dX5_least_56 (fun H locs V => ?_)
      refine lv_lstore (lv' := [(5, .long x11), (0, .ref (aT 0)), (1, .long v1), (3, .long v3), (7, .int s7.2)]) X.1 X.2.1 dX5_least_59 hl (by decide) rfl (fun ls hl => ?_)
      obtain ⟨y12, ey12⟩ : ∃ y : Int32, y = (s7.2 + (1 : Int32)) := ⟨_, rfl⟩
      replace h := kl_of ey12 h
      refine lv_iinc (v := y12) (lv' := [(7, .int y12), (5, .long x11), (0, .ref (aT 0)), (1, .long v1), (3, .long v3)]) X.1 X.2.1 dX5_least_61 hl (k := 4) rfl (by rw [ey12]; rfl) (by decide) rfl (fun ls hl => ?_)
      refine lv_goto (tgt := 24) X.1 X.2.1 dX5_least_64 (by decide) ?_
      obtain rfl := Option.some.inj h
      exact hG10 _ _ _ V (lv_sub hl [2, 3, 4, 1, 0] rfl)
  · intro H locs ls V hl
    have V : kW D AA s.heap H (List.flatten [gX5 g aT zT]) locs := V
    have hl : lv_has ls 8 [(0, .ref (aT 0)), (1, .long v1), (3, .long v3), (5, .long x6.2.1), (7, .int x6.2.2)] := hl
    obtain ⟨hc, h⟩ := kg_of h
    refine W.eq (g2 := F0 m 67 ls []) (by rw [hc]) ?_
    refine lv_lload X.1 X.2.1 dX5_least_67 (lv_at hl 3 rfl) ?_
    obtain rfl := Option.some.inj h
    rw [hAA] at V
    rw [hQQ]
    exact k_lret X V rfl dX5_least_69

def p_X5_leastBox_J67_4 (zT : tX5) (zP1 : tX3) (v3 : Int32) (v4 : Int64) : Option (Nat × (Int32 × Int32 × tX3)) :=
  kb (p_X5_sideSquared zT v3) (fun x9 => kb (p_X3_set zP1 v4 x9) (fun x10 => kl (v3 + (1 : Int32)) (fun y11 => some (4, (v3, y11, x10)))))
def p_X5_leastBox_L4 (zT : tX5) (s : Int32 × Int32 × tX3) : Option (Nat × (Int32 × Int32 × tX3)) :=
  kif (zT.2.2.2 ≤ s.2.1) (some (86, (s.1, s.2.1, s.2.2))) (kb (p_X5_height zT s.2.1) (fun x1 => kb (p_X5_sideX zT s.2.1) (fun x2 => kb (p_X5_sideY zT s.2.1) (fun x3 => kb (p_X5_most zT x2 x3) (fun x4 => kb (p_X5_sideX zT s.2.1) (fun x5 => kb (p_X5_sideY zT s.2.1) (fun x6 => kb (p_X5_least zT x5 x6) (fun x7 => kl (x1 * (x4 - x7)) (fun y8 => kif (s.2.1 = 0) (p_X5_leastBox_J67_4 zT s.2.2 s.2.1 y8) (kb (p_X5_sideSquared zT s.2.1) (fun x12 => kb (p_X3_against s.2.2 y8 x12) (fun x13 => kif (x13 ≤ 0) (kl (s.2.1 + (1 : Int32)) (fun y14 => some (4, (s.1, y14, s.2.2)))) (p_X5_leastBox_J67_4 zT s.2.2 s.2.1 y8)))))))))))))
def p_X5_leastBox (zT : tX5) (zP1 : tX3) : Option (Int32 × tX3) :=
  kb (kitr 4 (fun q => p_X5_leastBox_L4 zT q) kF ((0 : Int32), (0 : Int32), zP1)) (fun x15 => kg (x15.1 = 86) (kb (p_X5_number zT x15.2.1) (fun x16 => some (x16, x15.2.2.2))))
set_option maxHeartbeats 4000000 in
set_option maxRecDepth 100000 in
theorem c_X5_leastBox (l : Launch) (D : va_G) (g : kG) (aT : Nat → Nat) (aP1 : Nat → Nat) (zT : tX5) (zP1 : tX3) (r : Int32 × tX3) (h : p_X5_leastBox zT zP1 = some r) : kMi l yX5_leastBox cX5_leastBox 6 (some .int) (kR 4 93) D (kty g) [.ref (aT 0), .ref (aP1 0)] (List.flatten [gX5 g aT zT, gX3 g aP1 zP1]) r.1 (List.flatten [gX5 g aT zT, gX3 g aP1 r.2]) := by
  intro sz
  refine k_enter (lv := [(0, .ref (aT 0)), (1, .ref (aP1 0))]) RX5 (by decide +kernel) rfl rfl (Nat.le_of_ble_eq_true rfl) ?_
  intro p en s m args below meth c ls hsz X V hl
  obtain ⟨QQ, hQQ⟩ : ∃ q, q = MQ below (va_Qi (fun r' (_ : Unit) => r' = r.1) (fun _ => kE D (List.flatten [gX5 g aT zT, gX3 g aP1 r.2])) (va_A (List.flatten [gX5 g aT zT, gX3 g aP1 zP1]) sz)) args s 0 0 (va_A (List.flatten [gX5 g aT zT, gX3 g aP1 zP1]) sz) := ⟨_, rfl⟩
  rw [← hQQ]
  obtain ⟨AA, hAA⟩ : ∃ q, q = va_A (List.flatten [gX5 g aT zT, gX3 g aP1 zP1]) sz := ⟨_, rfl⟩
  rw [← hAA] at V
  unfold p_X5_leastBox at h
  refine lv_iconst (v := (0 : Int32)) X.1 X.2.1 dX5_leastBox_0 (by decide) ?_
  refine lv_istore_n (lv' := [(2, .int (0 : Int32)), (0, .ref (aT 0)), (1, .ref (aP1 0))]) X.1 X.2.1 dX5_leastBox_1 rfl hl (by decide) rfl (fun ls hl => ?_)
  refine lv_iconst (v := (0 : Int32)) X.1 X.2.1 dX5_leastBox_2 (by decide) ?_
  refine lv_istore_n (lv' := [(3, .int (0 : Int32)), (2, .int (0 : Int32)), (0, .ref (aT 0)), (1, .ref (aP1 0))]) X.1 X.2.1 dX5_leastBox_3 rfl hl (by decide) rfl (fun ls hl => ?_)
  obtain ⟨x17, hx17, h⟩ := kb_of h
  refine (kitr_go (hd := 4) (body := fun q => p_X5_leastBox_L4 zT q) (G := (fun e => ∀ (H : Heap) (locs : List Loc) (ls : Array Slot), kW D AA s.heap H (List.flatten [gX5 g aT zT, gX3 g aP1 e.2.2.2]) locs → lv_has ls 6 [(0, .ref (aT 0)), (1, .ref (aP1 0)), (2, .int e.2.1), (3, .int e.2.2.1)] → W p l en (kR 4 93) s m args below meth c H locs 0 0 QQ (F0 m e.1 ls []))) (fun s18 e19 hb20 hG21 => ?_) kF _ x17 hx17 ?_) _ _ _ V (lv_sub hl [2, 3, 1, 0] rfl)
  · intro H locs ls V hl
    show W p l en (kR 4 93) s m args below meth c H locs 0 0 QQ (F0 m 4 ls [])
    have h : p_X5_leastBox_L4 zT s18 = some e19 := hb20
    unfold p_X5_leastBox_L4 at h
    have V : kW D AA s.heap H (List.flatten [gX5 g aT zT, gX3 g aP1 s18.2.2]) locs := V
    have hl : lv_has ls 6 [(0, .ref (aT 0)), (1, .ref (aP1 0)), (2, .int s18.1), (3, .int s18.2.1)] := hl
    have J67 : ∀ (zP1 : tX3) (v3 : Int32) (v4 : Int64) (H : Heap) (locs : List Loc) (ls : Array Slot), p_X5_leastBox_J67_4 zT zP1 v3 v4 = some e19 → kW D AA s.heap H (List.flatten [gX5 g aT zT, gX3 g aP1 zP1]) locs → lv_has ls 6 [(0, .ref (aT 0)), (1, .ref (aP1 0)), (3, .int v3), (4, .long v4)] → W p l en (kR 4 93) s m args below meth c H locs 0 0 QQ (F0 m 67 ls []) := by
      intro zP1 v3 v4 H locs ls h V hl
      unfold p_X5_leastBox_J67_4 at h
      refine lv_aload_n X.1 X.2.1 dX5_leastBox_67 rfl (lv_at hl 1 rfl) ?_
      refine lv_lload X.1 X.2.1 dX5_leastBox_68 (lv_at hl 3 rfl) ?_
      refine lv_aload_n X.1 X.2.1 dX5_leastBox_70 rfl (lv_at hl 0 rfl) ?_
      refine lv_iload_n X.1 X.2.1 dX5_leastBox_71 rfl (lv_at hl 2 rfl) ?_
      obtain ⟨x22, hx22, h⟩ := kb_of h
      refine s_callVl (segs' := [gX5 g aT zT, gX3 g aP1 zP1]) (ci := 5) (i0 := 0) X V (c_X5_sideSquared l D g aT zT v3 x22 hx22) w_X5_69 ⟨Nat.le_of_ble_eq_true rfl, Nat.le_of_ble_eq_true rfl⟩ ⟨Nat.zero_le _, Nat.zero_le _⟩ rfl rfl rfl rfl [0] rfl rfl (kFst_refl _) rfl rfl hl.1 (Nat.le_of_ble_eq_true rfl) dX5_leastBox_72 (fun H locs V => ?_)
      obtain ⟨x23, hx23, h⟩ := kb_of h
      refine s_callVv (segs' := [gX5 g aT zT, gX3 g aP1 x23]) (ci := 3) (i0 := 0) X V (c_X3_set l D g aP1 zP1 v4 x22 x23 hx23) w_X5_78 ⟨Nat.le_of_ble_eq_true rfl, Nat.le_of_ble_eq_true rfl⟩ ⟨Nat.zero_le _, Nat.zero_le _⟩ rfl rfl rfl rfl [1] rfl rfl ⟨gX3_fst, trivial⟩ rfl rfl hl.1 (Nat.le_of_ble_eq_true rfl) dX5_leastBox_75 (fun H locs V => ?_)
      refine lv_iload_n X.1 X.2.1 dX5_leastBox_78 rfl (lv_at hl 2 rfl) ?_
      refine lv_istore_n (lv' := [(2, .int v3), (0, .ref (aT 0)), (1, .ref (aP1 0)), (3, .int v3), (4, .long v4)]) X.1 X.2.1 dX5_leastBox_79 rfl hl (by decide) rfl (fun ls hl => ?_)
      obtain ⟨y24, ey24⟩ : ∃ y : Int32, y = (v3 + (1 : Int32)) := ⟨_, rfl⟩
      replace h := kl_of ey24 h
      refine lv_iinc (v := y24) (lv' := [(3, .int y24), (2, .int v3), (0, .ref (aT 0)), (1, .ref (aP1 0)), (4, .long v4)]) X.1 X.2.1 dX5_leastBox_80 hl (k := 3) rfl (by rw [ey24]; rfl) (by decide) rfl (fun ls hl => ?_)
      refine lv_goto (tgt := 4) X.1 X.2.1 dX5_leastBox_83 (by decide) ?_
      obtain rfl := Option.some.inj h
      exact hG21 _ _ _ V (lv_sub hl [2, 3, 1, 0] rfl)
    refine lv_iload_n X.1 X.2.1 dX5_leastBox_4 rfl (lv_at hl 3 rfl) ?_
    refine lv_aload_n X.1 X.2.1 dX5_leastBox_5 rfl (lv_at hl 0 rfl) ?_
    refine gf_X5_23 (i := 0) X V rfl dX5_leastBox_6 ?_
    refine lv_icmp_ge (tgt := 86) X.1 X.2.1 dX5_leastBox_9 (by decide) (fun hc => ?_) (fun hc => ?_)
    · replace h := kif_t hc h
      obtain rfl := Option.some.inj h
      exact hG21 _ _ _ V (lv_sub hl [0, 1, 2, 3] rfl)
    · replace h := kif_f hc h
      refine lv_aload_n X.1 X.2.1 dX5_leastBox_12 rfl (lv_at hl 0 rfl) ?_
      refine lv_iload_n X.1 X.2.1 dX5_leastBox_13 rfl (lv_at hl 3 rfl) ?_
      obtain ⟨x25, hx25, h⟩ := kb_of h
      refine s_callVl (segs' := [gX5 g aT zT, gX3 g aP1 s18.2.2]) (ci := 5) (i0 := 0) X V (c_X5_height l D g aT zT s18.2.1 x25 hx25) w_X5_66 ⟨Nat.le_of_ble_eq_true rfl, Nat.le_of_ble_eq_true rfl⟩ ⟨Nat.zero_le _, Nat.zero_le _⟩ rfl rfl rfl rfl [0] rfl rfl (kFst_refl _) rfl rfl hl.1 (Nat.le_of_ble_eq_true rfl) dX5_leastBox_14 (fun H locs V => ?_)
      refine lv_aload_n X.1 X.2.1 dX5_leastBox_17 rfl (lv_at hl 0 rfl) ?_
      refine lv_aload_n X.1 X.2.1 dX5_leastBox_18 rfl (lv_at hl 0 rfl) ?_
      refine lv_iload_n X.1 X.2.1 dX5_leastBox_19 rfl (lv_at hl 3 rfl) ?_
      obtain ⟨x26, hx26, h⟩ := kb_of h
      refine s_callVl (segs' := [gX5 g aT zT, gX3 g aP1 s18.2.2]) (ci := 5) (i0 := 0) X V (c_X5_sideX l D g aT zT s18.2.1 x26 hx26) w_X5_37 ⟨Nat.le_of_ble_eq_true rfl, Nat.le_of_ble_eq_true rfl⟩ ⟨Nat.zero_le _, Nat.zero_le _⟩ rfl rfl rfl rfl [0] rfl rfl (kFst_refl _) rfl rfl hl.1 (Nat.le_of_ble_eq_true rfl) dX5_leastBox_20 (fun H locs V => ?_)
      refine lv_aload_n X.1 X.2.1 dX5_leastBox_23 rfl (lv_at hl 0 rfl) ?_
      refine lv_iload_n X.1 X.2.1 dX5_leastBox_24 rfl (lv_at hl 3 rfl) ?_
      obtain ⟨x27, hx27, h⟩ := kb_of h
      refine s_callVl (segs' := [gX5 g aT zT, gX3 g aP1 s18.2.2]) (ci := 5) (i0 := 0) X V (c_X5_sideY l D g aT zT s18.2.1 x27 hx27) w_X5_41 ⟨Nat.le_of_ble_eq_true rfl, Nat.le_of_ble_eq_true rfl⟩ ⟨Nat.zero_le _, Nat.zero_le _⟩ rfl rfl rfl rfl [0] rfl rfl (kFst_refl _) rfl rfl hl.1 (Nat.le_of_ble_eq_true rfl) dX5_leastBox_25 (fun H locs V => ?_)
      obtain ⟨x28, hx28, h⟩ := kb_of h
      refine s_callVl (segs' := [gX5 g aT zT, gX3 g aP1 s18.2.2]) (ci := 5) (i0 := 0) X V (c_X5_most l D g aT zT x26 x27 x28 hx28) w_X5_83 ⟨Nat.le_of_ble_eq_true rfl, Nat.le_of_ble_eq_true rfl⟩ ⟨Nat.zero_le _, Nat.zero_le _⟩ rfl rfl rfl rfl [0] rfl rfl (kFst_refl _) rfl rfl hl.1 (Nat.le_of_ble_eq_true rfl) dX5_leastBox_28 (fun H locs V => ?_)
      refine lv_aload_n X.1 X.2.1 dX5_leastBox_31 rfl (lv_at hl 0 rfl) ?_
      refine lv_aload_n X.1 X.2.1 dX5_leastBox_32 rfl (lv_at hl 0 rfl) ?_
      refine lv_iload_n X.1 X.2.1 dX5_leastBox_33 rfl (lv_at hl 3 rfl) ?_
      obtain ⟨x29, hx29, h⟩ := kb_of h
      refine s_callVl (segs' := [gX5 g aT zT, gX3 g aP1 s18.2.2]) (ci := 5) (i0 := 0) X V (c_X5_sideX l D g aT zT s18.2.1 x29 hx29) w_X5_37 ⟨Nat.le_of_ble_eq_true rfl, Nat.le_of_ble_eq_true rfl⟩ ⟨Nat.zero_le _, Nat.zero_le _⟩ rfl rfl rfl rfl [0] rfl rfl (kFst_refl _) rfl rfl hl.1 (Nat.le_of_ble_eq_true rfl) dX5_leastBox_34 (fun H locs V => ?_)
      refine lv_aload_n X.1 X.2.1 dX5_leastBox_37 rfl (lv_at hl 0 rfl) ?_
      refine lv_iload_n X.1 X.2.1 dX5_leastBox_38 rfl (lv_at hl 3 rfl) ?_
      obtain ⟨x30, hx30, h⟩ := kb_of h
      refine s_callVl (segs' := [gX5 g aT zT, gX3 g aP1 s18.2.2]) (ci := 5) (i0 := 0) X V (c_X5_sideY l D g aT zT s18.2.1 x30 hx30) w_X5_41 ⟨Nat.le_of_ble_eq_true rfl, Nat.le_of_ble_eq_true rfl⟩ ⟨Nat.zero_le _, Nat.zero_le _⟩ rfl rfl rfl rfl [0] rfl rfl (kFst_refl _) rfl rfl hl.1 (Nat.le_of_ble_eq_true rfl) dX5_leastBox_39 (fun H locs V => ?_)
      obtain ⟨x31, hx31, h⟩ := kb_of h
      refine s_callVl (segs' := [gX5 g aT zT, gX3 g aP1 s18.2.2]) (ci := 5) (i0 := 0) X V (c_X5_least l D g aT zT x29 x30 x31 hx31) w_X5_86 ⟨Nat.le_of_ble_eq_true rfl, Nat.le_of_ble_eq_true rfl⟩ ⟨Nat.zero_le _, Nat.zero_le _⟩ rfl rfl rfl rfl [0] rfl rfl (kFst_refl _) rfl rfl hl.1 (Nat.le_of_ble_eq_true rfl) dX5_leastBox_42 (fun H locs V => ?_)
      refine lv_lsub X.1 X.2.1 dX5_leastBox_45 ?_
      refine lv_lmul X.1 X.2.1 dX5_leastBox_46 ?_
      refine lv_topl (fun y32 ey32 => ?_)
      replace h := kl_of ey32 h
      refine lv_lstore (lv' := [(4, .long y32), (0, .ref (aT 0)), (1, .ref (aP1 0)), (2, .int s18.1), (3, .int s18.2.1)]) X.1 X.2.1 dX5_leastBox_47 hl (by decide) rfl (fun ls hl => ?_)
      refine lv_iload_n X.1 X.2.1 dX5_leastBox_49 rfl (lv_at hl 4 rfl) ?_
      refine lv_if_eq (tgt := 67) X.1 X.2.1 dX5_leastBox_50 (by decide) (fun hc => ?_) (fun hc => ?_)
      · replace h := kif_t hc h
        exact J67 s18.2.2 s18.2.1 y32 _ _ _ h V (lv_sub hl [1, 2, 4, 0] rfl)
      · replace h := kif_f hc h
        refine lv_aload_n X.1 X.2.1 dX5_leastBox_53 rfl (lv_at hl 2 rfl) ?_
        refine lv_lload X.1 X.2.1 dX5_leastBox_54 (lv_at hl 0 rfl) ?_
        refine lv_aload_n X.1 X.2.1 dX5_leastBox_56 rfl (lv_at hl 1 rfl) ?_
        refine lv_iload_n X.1 X.2.1 dX5_leastBox_57 rfl (lv_at hl 4 rfl) ?_
        obtain ⟨x33, hx33, h⟩ := kb_of h
        refine s_callVl (segs' := [gX5 g aT zT, gX3 g aP1 s18.2.2]) (ci := 5) (i0 := 0) X V (c_X5_sideSquared l D g aT zT s18.2.1 x33 hx33) w_X5_69 ⟨Nat.le_of_ble_eq_true rfl, Nat.le_of_ble_eq_true rfl⟩ ⟨Nat.zero_le _, Nat.zero_le _⟩ rfl rfl rfl rfl [0] rfl rfl (kFst_refl _) rfl rfl hl.1 (Nat.le_of_ble_eq_true rfl) dX5_leastBox_58 (fun H locs V => ?_)
        obtain ⟨x34, hx34, h⟩ := kb_of h
        refine s_callVi (segs' := [gX5 g aT zT, gX3 g aP1 s18.2.2]) (ci := 3) (i0 := 0) X V (c_X3_against l D g aP1 s18.2.2 y32 x33 x34 hx34) w_X5_72 ⟨Nat.le_of_ble_eq_true rfl, Nat.le_of_ble_eq_true rfl⟩ ⟨Nat.zero_le _, Nat.zero_le _⟩ rfl rfl rfl rfl [1] rfl rfl (kFst_refl _) rfl rfl hl.1 (Nat.le_of_ble_eq_true rfl) dX5_leastBox_61 (fun H locs V => ?_)
        refine lv_if_le (tgt := 80) X.1 X.2.1 dX5_leastBox_64 (by decide) (fun hc => ?_) (fun hc => ?_)
        · replace h := kif_t hc h
          obtain ⟨y35, ey35⟩ : ∃ y : Int32, y = (s18.2.1 + (1 : Int32)) := ⟨_, rfl⟩
          replace h := kl_of ey35 h
          refine lv_iinc (v := y35) (lv' := [(3, .int y35), (4, .long y32), (0, .ref (aT 0)), (1, .ref (aP1 0)), (2, .int s18.1)]) X.1 X.2.1 dX5_leastBox_80 hl (k := 4) rfl (by rw [ey35]; rfl) (by decide) rfl (fun ls hl => ?_)
          refine lv_goto (tgt := 4) X.1 X.2.1 dX5_leastBox_83 (by decide) ?_
          obtain rfl := Option.some.inj h
          exact hG21 _ _ _ V (lv_sub hl [2, 3, 4, 0] rfl)
        · replace h := kif_f hc h
          exact J67 s18.2.2 s18.2.1 y32 _ _ _ h V (lv_sub hl [1, 2, 4, 0] rfl)
  · intro H locs ls V hl
    have V : kW D AA s.heap H (List.flatten [gX5 g aT zT, gX3 g aP1 x17.2.2.2]) locs := V
    have hl : lv_has ls 6 [(0, .ref (aT 0)), (1, .ref (aP1 0)), (2, .int x17.2.1), (3, .int x17.2.2.1)] := hl
    obtain ⟨hc, h⟩ := kg_of h
    refine W.eq (g2 := F0 m 86 ls []) (by rw [hc]) ?_
    refine lv_aload_n X.1 X.2.1 dX5_leastBox_86 rfl (lv_at hl 0 rfl) ?_
    refine lv_iload_n X.1 X.2.1 dX5_leastBox_87 rfl (lv_at hl 2 rfl) ?_
    obtain ⟨x36, hx36, h⟩ := kb_of h
    refine s_callVi (segs' := [gX5 g aT zT, gX3 g aP1 x17.2.2.2]) (ci := 5) (i0 := 0) X V (c_X5_number l D g aT zT x17.2.1 x36 hx36) w_X5_82 ⟨Nat.le_of_ble_eq_true rfl, Nat.le_of_ble_eq_true rfl⟩ ⟨Nat.zero_le _, Nat.zero_le _⟩ rfl rfl rfl rfl [0] rfl rfl (kFst_refl _) rfl rfl hl.1 (Nat.le_of_ble_eq_true rfl) dX5_leastBox_88 (fun H locs V => ?_)
    obtain rfl := Option.some.inj h
    rw [hAA] at V
    rw [hQQ]
    exact k_iret X V rfl dX5_leastBox_91

def p_X5_farthest_L11 (zT : tX5) (v1 : Int64) (v3 : Int64) (v5 : Int64) (s : Int32) : Option (Nat × (Int32)) :=
  kif (zT.2.2.2 ≤ s) (some (56, s)) (kg (kii s 82) (kg (kii s 82) (kif ((lg_cmp ((v1 * ((zT.1 s.toNatClampNeg)).toInt64) + (v3 * ((zT.2.1 s.toNatClampNeg)).toInt64)) v5) = 0) (some (47, s)) (kl (s + (1 : Int32)) (fun y2 => some (11, y2))))))
def p_X5_farthest (zT : tX5) (v1 : Int64) (v3 : Int64) : Option (Int32) :=
  kb (p_X5_most zT v1 v3) (fun x1 => kb (kitr 11 (fun q => p_X5_farthest_L11 zT v1 v3 x1 q) kF (0 : Int32)) (fun x3 => kif (x3.1 = 47) (some x3.2) (kg (x3.1 = 56) (some (-1 : Int32)))))
set_option maxHeartbeats 4000000 in
set_option maxRecDepth 100000 in
theorem c_X5_farthest (l : Launch) (D : va_G) (g : kG) (aT : Nat → Nat) (zT : tX5) (v1 : Int64) (v3 : Int64) (r : Int32) (h : p_X5_farthest zT v1 v3 = some r) : kMi l yX5_farthest cX5_farthest 8 (some .int) (kR 2 50) D (kty g) [.ref (aT 0), .long v1, .long v3] (List.flatten [gX5 g aT zT]) r (List.flatten [gX5 g aT zT]) := by
  intro sz
  refine k_enter (lv := [(0, .ref (aT 0)), (1, .long v1), (3, .long v3)]) RX5 (by decide +kernel) rfl rfl (Nat.le_of_ble_eq_true rfl) ?_
  intro p en s m args below meth c ls hsz X V hl
  obtain ⟨QQ, hQQ⟩ : ∃ q, q = MQ below (va_Qi (fun r' (_ : Unit) => r' = r) (fun _ => kE D (List.flatten [gX5 g aT zT])) (va_A (List.flatten [gX5 g aT zT]) sz)) args s 0 0 (va_A (List.flatten [gX5 g aT zT]) sz) := ⟨_, rfl⟩
  rw [← hQQ]
  obtain ⟨AA, hAA⟩ : ∃ q, q = va_A (List.flatten [gX5 g aT zT]) sz := ⟨_, rfl⟩
  rw [← hAA] at V
  unfold p_X5_farthest at h
  refine lv_aload_n X.1 X.2.1 dX5_farthest_0 rfl (lv_at hl 0 rfl) ?_
  refine lv_lload_n X.1 X.2.1 dX5_farthest_1 rfl (lv_at hl 1 rfl) ?_
  refine lv_lload_n X.1 X.2.1 dX5_farthest_2 rfl (lv_at hl 2 rfl) ?_
  obtain ⟨x4, hx4, h⟩ := kb_of h
  refine s_callVl (segs' := [gX5 g aT zT]) (ci := 5) (i0 := 0) X V (c_X5_most l D g aT zT v1 v3 x4 hx4) w_X5_83 ⟨Nat.le_of_ble_eq_true rfl, Nat.le_of_ble_eq_true rfl⟩ ⟨Nat.zero_le _, Nat.zero_le _⟩ rfl rfl rfl rfl [0] rfl rfl (kFst_refl _) rfl rfl hl.1 (Nat.le_of_ble_eq_true rfl) dX5_farthest_3 (fun H locs V => ?_)
  refine lv_lstore (lv' := [(5, .long x4), (0, .ref (aT 0)), (1, .long v1), (3, .long v3)]) X.1 X.2.1 dX5_farthest_6 hl (by decide) rfl (fun ls hl => ?_)
  refine lv_iconst (v := (0 : Int32)) X.1 X.2.1 dX5_farthest_8 (by decide) ?_
  refine lv_istore (lv' := [(7, .int (0 : Int32)), (5, .long x4), (0, .ref (aT 0)), (1, .long v1), (3, .long v3)]) X.1 X.2.1 dX5_farthest_9 hl (by decide) rfl (fun ls hl => ?_)
  obtain ⟨x5, hx5, h⟩ := kb_of h
  refine (kitr_go (hd := 11) (body := fun q => p_X5_farthest_L11 zT v1 v3 x4 q) (G := (fun e => ∀ (H : Heap) (locs : List Loc) (ls : Array Slot), kW D AA s.heap H (List.flatten [gX5 g aT zT]) locs → lv_has ls 8 [(0, .ref (aT 0)), (1, .long v1), (3, .long v3), (5, .long x4), (7, .int e.2)] → W p l en (kR 2 50) s m args below meth c H locs 0 0 QQ (F0 m e.1 ls []))) (fun s6 e7 hb8 hG9 => ?_) kF _ x5 hx5 ?_) _ _ _ V (lv_sub hl [2, 3, 4, 1, 0] rfl)
  · intro H locs ls V hl
    show W p l en (kR 2 50) s m args below meth c H locs 0 0 QQ (F0 m 11 ls [])
    have h : p_X5_farthest_L11 zT v1 v3 x4 s6 = some e7 := hb8
    unfold p_X5_farthest_L11 at h
    have V : kW D AA s.heap H (List.flatten [gX5 g aT zT]) locs := V
    have hl : lv_has ls 8 [(0, .ref (aT 0)), (1, .long v1), (3, .long v3), (5, .long x4), (7, .int s6)] := hl
    refine lv_iload X.1 X.2.1 dX5_farthest_11 (lv_at hl 4 rfl) ?_
    refine lv_aload_n X.1 X.2.1 dX5_farthest_13 rfl (lv_at hl 0 rfl) ?_
    refine gf_X5_23 (i := 0) X V rfl dX5_farthest_14 ?_
    refine lv_icmp_ge (tgt := 56) X.1 X.2.1 dX5_farthest_17 (by decide) (fun hc => ?_) (fun hc => ?_)
    · replace h := kif_t hc h
      obtain rfl := Option.some.inj h
      exact hG9 _ _ _ V (lv_sub hl [0, 1, 2, 3, 4] rfl)
    · replace h := kif_f hc h
      refine lv_lload_n X.1 X.2.1 dX5_farthest_20 rfl (lv_at hl 1 rfl) ?_
      refine lv_aload_n X.1 X.2.1 dX5_farthest_21 rfl (lv_at hl 0 rfl) ?_
      refine gf_X5_13 (i := 0) X V rfl dX5_farthest_22 ?_
      refine lv_iload X.1 X.2.1 dX5_farthest_25 (lv_at hl 4 rfl) ?_
      obtain ⟨hc, h⟩ := kg_of h
      refine al_X5_0 (i := 0) X V rfl hc dX5_farthest_27 ?_
      refine lv_i2l X.1 X.2.1 dX5_farthest_28 rfl ?_
      refine lv_lmul X.1 X.2.1 dX5_farthest_29 ?_
      refine lv_lload_n X.1 X.2.1 dX5_farthest_30 rfl (lv_at hl 2 rfl) ?_
      refine lv_aload_n X.1 X.2.1 dX5_farthest_31 rfl (lv_at hl 0 rfl) ?_
      refine gf_X5_17 (i := 0) X V rfl dX5_farthest_32 ?_
      refine lv_iload X.1 X.2.1 dX5_farthest_35 (lv_at hl 4 rfl) ?_
      obtain ⟨hc, h⟩ := kg_of h
      refine al_X5_1 (i := 0) X V rfl hc dX5_farthest_37 ?_
      refine lv_i2l X.1 X.2.1 dX5_farthest_38 rfl ?_
      refine lv_lmul X.1 X.2.1 dX5_farthest_39 ?_
      refine lv_ladd X.1 X.2.1 dX5_farthest_40 ?_
      refine lv_lload X.1 X.2.1 dX5_farthest_41 (lv_at hl 3 rfl) ?_
      refine W.lcmp X.1 X.2.1 dX5_farthest_43 ?_
      refine lv_if_ne (tgt := 50) X.1 X.2.1 dX5_farthest_44 (by decide) (fun hc => ?_) (fun hc => ?_)
      · replace h := kif_f hc h
        obtain ⟨y10, ey10⟩ : ∃ y : Int32, y = (s6 + (1 : Int32)) := ⟨_, rfl⟩
        replace h := kl_of ey10 h
        refine lv_iinc (v := y10) (lv' := [(7, .int y10), (0, .ref (aT 0)), (1, .long v1), (3, .long v3), (5, .long x4)]) X.1 X.2.1 dX5_farthest_50 hl (k := 4) rfl (by rw [ey10]; rfl) (by decide) rfl (fun ls hl => ?_)
        refine lv_goto (tgt := 11) X.1 X.2.1 dX5_farthest_53 (by decide) ?_
        obtain rfl := Option.some.inj h
        exact hG9 _ _ _ V (lv_sub hl [1, 2, 3, 4, 0] rfl)
      · replace h := kif_t hc h
        obtain rfl := Option.some.inj h
        exact hG9 _ _ _ V (lv_sub hl [0, 1, 2, 3, 4] rfl)
  · intro H locs ls V hl
    have V : kW D AA s.heap H (List.flatten [gX5 g aT zT]) locs := V
    have hl : lv_has ls 8 [(0, .ref (aT 0)), (1, .long v1), (3, .long v3), (5, .long x4), (7, .int x5.2)] := hl
    by_cases hc : x5.1 = 47
    · replace h := kif_t hc h
      refine W.eq (g2 := F0 m 47 ls []) (by rw [hc]) ?_
      refine lv_iload X.1 X.2.1 dX5_farthest_47 (lv_at hl 4 rfl) ?_
      obtain rfl := Option.some.inj h
      rw [hAA] at V
      rw [hQQ]
      exact k_iret X V rfl dX5_farthest_49
    · replace h := kif_f hc h
      obtain ⟨hc, h⟩ := kg_of h
      refine W.eq (g2 := F0 m 56 ls []) (by rw [hc]) ?_
      refine lv_iconst (v := (-1 : Int32)) X.1 X.2.1 dX5_farthest_56 (by decide) ?_
      obtain rfl := Option.some.inj h
      rw [hAA] at V
      rw [hQQ]
      exact k_iret X V rfl dX5_farthest_57

def p_X5_isApart (zT : tX5) (zP1 : tX5) (v2 : Int64) (v4 : Int64) : Option (Bool) :=
  kb (p_X5_most zT v2 v4) (fun x1 => kb (p_X5_least zP1 v2 v4) (fun x2 => kif ((lg_cmp x1 x2) < 0) (some true) (kb (p_X5_most zP1 v2 v4) (fun x3 => kb (p_X5_least zT v2 v4) (fun x4 => kif (0 ≤ (lg_cmp x3 x4)) (some false) (some true))))))
set_option maxHeartbeats 4000000 in
set_option maxRecDepth 100000 in
theorem c_X5_isApart (l : Launch) (D : va_G) (g : kG) (aT : Nat → Nat) (aP1 : Nat → Nat) (zT : tX5) (zP1 : tX5) (v2 : Int64) (v4 : Int64) (r : Bool) (h : p_X5_isApart zT zP1 v2 v4 = some r) : kMi l yX5_isApart cX5_isApart 6 (some .boolean) (kR 2 50) D (kty g) [.ref (aT 0), .ref (aP1 0), .long v2, .long v4] (List.flatten [gX5 g aT zT, gX5 g aP1 zP1]) (kz r) (List.flatten [gX5 g aT zT, gX5 g aP1 zP1]) := by
  intro sz
  refine k_enter (lv := [(0, .ref (aT 0)), (1, .ref (aP1 0)), (2, .long v2), (4, .long v4)]) RX5 (by decide +kernel) rfl rfl (Nat.le_of_ble_eq_true rfl) ?_
  intro p en s m args below meth c ls hsz X V hl
  obtain ⟨QQ, hQQ⟩ : ∃ q, q = MQ below (va_Qi (fun r' (_ : Unit) => r' = kz r) (fun _ => kE D (List.flatten [gX5 g aT zT, gX5 g aP1 zP1])) (va_A (List.flatten [gX5 g aT zT, gX5 g aP1 zP1]) sz)) args s 0 0 (va_A (List.flatten [gX5 g aT zT, gX5 g aP1 zP1]) sz) := ⟨_, rfl⟩
  rw [← hQQ]
  obtain ⟨AA, hAA⟩ : ∃ q, q = va_A (List.flatten [gX5 g aT zT, gX5 g aP1 zP1]) sz := ⟨_, rfl⟩
  rw [← hAA] at V
  unfold p_X5_isApart at h
  refine lv_aload_n X.1 X.2.1 dX5_isApart_0 rfl (lv_at hl 0 rfl) ?_
  refine lv_lload_n X.1 X.2.1 dX5_isApart_1 rfl (lv_at hl 2 rfl) ?_
  refine lv_lload X.1 X.2.1 dX5_isApart_2 (lv_at hl 3 rfl) ?_
  obtain ⟨x5, hx5, h⟩ := kb_of h
  refine s_callVl (segs' := [gX5 g aT zT, gX5 g aP1 zP1]) (ci := 5) (i0 := 0) X V (c_X5_most l D g aT zT v2 v4 x5 hx5) w_X5_83 ⟨Nat.le_of_ble_eq_true rfl, Nat.le_of_ble_eq_true rfl⟩ ⟨Nat.zero_le _, Nat.zero_le _⟩ rfl rfl rfl rfl [0] rfl rfl (kFst_refl _) rfl rfl hl.1 (Nat.le_of_ble_eq_true rfl) dX5_isApart_4 (fun H locs V => ?_)
  refine lv_aload_n X.1 X.2.1 dX5_isApart_7 rfl (lv_at hl 1 rfl) ?_
  refine lv_lload_n X.1 X.2.1 dX5_isApart_8 rfl (lv_at hl 2 rfl) ?_
  refine lv_lload X.1 X.2.1 dX5_isApart_9 (lv_at hl 3 rfl) ?_
  obtain ⟨x6, hx6, h⟩ := kb_of h
  refine s_callVl (segs' := [gX5 g aT zT, gX5 g aP1 zP1]) (ci := 5) (i0 := 0) X V (c_X5_least l D g aP1 zP1 v2 v4 x6 hx6) w_X5_86 ⟨Nat.le_of_ble_eq_true rfl, Nat.le_of_ble_eq_true rfl⟩ ⟨Nat.zero_le _, Nat.zero_le _⟩ rfl rfl rfl rfl [1] rfl rfl (kFst_refl _) rfl rfl hl.1 (Nat.le_of_ble_eq_true rfl) dX5_isApart_11 (fun H locs V => ?_)
  refine W.lcmp X.1 X.2.1 dX5_isApart_14 ?_
  refine lv_if_lt (tgt := 36) X.1 X.2.1 dX5_isApart_15 (by decide) (fun hc => ?_) (fun hc => ?_)
  · replace h := kif_t hc h
    refine lv_iconst (v := (1 : Int32)) X.1 X.2.1 dX5_isApart_36 (by decide) ?_
    refine lv_goto (tgt := 41) X.1 X.2.1 dX5_isApart_37 (by decide) ?_
    obtain rfl := Option.some.inj h
    rw [hAA] at V
    rw [hQQ]
    exact k_zret X V (b := true) rfl rfl dX5_isApart_41
  · replace h := kif_f hc h
    refine lv_aload_n X.1 X.2.1 dX5_isApart_18 rfl (lv_at hl 1 rfl) ?_
    refine lv_lload_n X.1 X.2.1 dX5_isApart_19 rfl (lv_at hl 2 rfl) ?_
    refine lv_lload X.1 X.2.1 dX5_isApart_20 (lv_at hl 3 rfl) ?_
    obtain ⟨x7, hx7, h⟩ := kb_of h
    refine s_callVl (segs' := [gX5 g aT zT, gX5 g aP1 zP1]) (ci := 5) (i0 := 0) X V (c_X5_most l D g aP1 zP1 v2 v4 x7 hx7) w_X5_83 ⟨Nat.le_of_ble_eq_true rfl, Nat.le_of_ble_eq_true rfl⟩ ⟨Nat.zero_le _, Nat.zero_le _⟩ rfl rfl rfl rfl [1] rfl rfl (kFst_refl _) rfl rfl hl.1 (Nat.le_of_ble_eq_true rfl) dX5_isApart_22 (fun H locs V => ?_)
    refine lv_aload_n X.1 X.2.1 dX5_isApart_25 rfl (lv_at hl 0 rfl) ?_
    refine lv_lload_n X.1 X.2.1 dX5_isApart_26 rfl (lv_at hl 2 rfl) ?_
    refine lv_lload X.1 X.2.1 dX5_isApart_27 (lv_at hl 3 rfl) ?_
    obtain ⟨x8, hx8, h⟩ := kb_of h
    refine s_callVl (segs' := [gX5 g aT zT, gX5 g aP1 zP1]) (ci := 5) (i0 := 0) X V (c_X5_least l D g aT zT v2 v4 x8 hx8) w_X5_86 ⟨Nat.le_of_ble_eq_true rfl, Nat.le_of_ble_eq_true rfl⟩ ⟨Nat.zero_le _, Nat.zero_le _⟩ rfl rfl rfl rfl [0] rfl rfl (kFst_refl _) rfl rfl hl.1 (Nat.le_of_ble_eq_true rfl) dX5_isApart_29 (fun H locs V => ?_)
    refine W.lcmp X.1 X.2.1 dX5_isApart_32 ?_
    refine lv_if_ge (tgt := 40) X.1 X.2.1 dX5_isApart_33 (by decide) (fun hc => ?_) (fun hc => ?_)
    · replace h := kif_t hc h
      refine lv_iconst (v := (0 : Int32)) X.1 X.2.1 dX5_isApart_40 (by decide) ?_
      obtain rfl := Option.some.inj h
      rw [hAA] at V
      rw [hQQ]
      exact k_zret X V (b := false) rfl rfl dX5_isApart_41
    · replace h := kif_f hc h
      refine lv_iconst (v := (1 : Int32)) X.1 X.2.1 dX5_isApart_36 (by decide) ?_
      refine lv_goto (tgt := 41) X.1 X.2.1 dX5_isApart_37 (by decide) ?_
      obtain rfl := Option.some.inj h
      rw [hAA] at V
      rw [hQQ]
      exact k_zret X V (b := true) rfl rfl dX5_isApart_41

def p_X5_isApartBySides_L2 (zT : tX5) (zP1 : tX5) (s : Int32) : Option (Nat × (Int32)) :=
  kif (zT.2.2.2 ≤ s) (some (55, s)) (kb (p_X5_sideX zT s) (fun x1 => kb (p_X5_sideY zT s) (fun x2 => kb (p_X5_isApart zT zP1 x1 x2) (fun x3 => kif ((kz x3) = 0) (kb (p_X5_sideY zT s) (fun x4 => kb (p_X5_sideX zT s) (fun x5 => kb (p_X5_isApart zT zP1 (-x4) x5) (fun x6 => kif ((kz x6) = 0) (kl (s + (1 : Int32)) (fun y7 => some (2, y7))) (some (47, s)))))) (some (47, s))))))
def p_X5_isApartBySides (zT : tX5) (zP1 : tX5) : Option (Bool) :=
  kb (kitr 2 (fun q => p_X5_isApartBySides_L2 zT zP1 q) kF (0 : Int32)) (fun x8 => kif (x8.1 = 47) (some true) (kg (x8.1 = 55) (some false)))
set_option maxHeartbeats 4000000 in
set_option maxRecDepth 100000 in
theorem c_X5_isApartBySides (l : Launch) (D : va_G) (g : kG) (aT : Nat → Nat) (aP1 : Nat → Nat) (zT : tX5) (zP1 : tX5) (r : Bool) (h : p_X5_isApartBySides zT zP1 = some r) : kMi l yX5_isApartBySides cX5_isApartBySides 3 (some .boolean) (kR 3 75) D (kty g) [.ref (aT 0), .ref (aP1 0)] (List.flatten [gX5 g aT zT, gX5 g aP1 zP1]) (kz r) (List.flatten [gX5 g aT zT, gX5 g aP1 zP1]) := by
  intro sz
  refine k_enter (lv := [(0, .ref (aT 0)), (1, .ref (aP1 0))]) RX5 (by decide +kernel) rfl rfl (Nat.le_of_ble_eq_true rfl) ?_
  intro p en s m args below meth c ls hsz X V hl
  obtain ⟨QQ, hQQ⟩ : ∃ q, q = MQ below (va_Qi (fun r' (_ : Unit) => r' = kz r) (fun _ => kE D (List.flatten [gX5 g aT zT, gX5 g aP1 zP1])) (va_A (List.flatten [gX5 g aT zT, gX5 g aP1 zP1]) sz)) args s 0 0 (va_A (List.flatten [gX5 g aT zT, gX5 g aP1 zP1]) sz) := ⟨_, rfl⟩
  rw [← hQQ]
  obtain ⟨AA, hAA⟩ : ∃ q, q = va_A (List.flatten [gX5 g aT zT, gX5 g aP1 zP1]) sz := ⟨_, rfl⟩
  rw [← hAA] at V
  unfold p_X5_isApartBySides at h
  refine lv_iconst (v := (0 : Int32)) X.1 X.2.1 dX5_isApartBySides_0 (by decide) ?_
  refine lv_istore_n (lv' := [(2, .int (0 : Int32)), (0, .ref (aT 0)), (1, .ref (aP1 0))]) X.1 X.2.1 dX5_isApartBySides_1 rfl hl (by decide) rfl (fun ls hl => ?_)
  obtain ⟨x9, hx9, h⟩ := kb_of h
  refine (kitr_go (hd := 2) (body := fun q => p_X5_isApartBySides_L2 zT zP1 q) (G := (fun e => ∀ (H : Heap) (locs : List Loc) (ls : Array Slot), kW D AA s.heap H (List.flatten [gX5 g aT zT, gX5 g aP1 zP1]) locs → lv_has ls 3 [(0, .ref (aT 0)), (1, .ref (aP1 0)), (2, .int e.2)] → W p l en (kR 3 75) s m args below meth c H locs 0 0 QQ (F0 m e.1 ls []))) (fun s10 e11 hb12 hG13 => ?_) kF _ x9 hx9 ?_) _ _ _ V (lv_sub hl [1, 2, 0] rfl)
  · intro H locs ls V hl
    show W p l en (kR 3 75) s m args below meth c H locs 0 0 QQ (F0 m 2 ls [])
    have h : p_X5_isApartBySides_L2 zT zP1 s10 = some e11 := hb12
    unfold p_X5_isApartBySides_L2 at h
    have V : kW D AA s.heap H (List.flatten [gX5 g aT zT, gX5 g aP1 zP1]) locs := V
    have hl : lv_has ls 3 [(0, .ref (aT 0)), (1, .ref (aP1 0)), (2, .int s10)] := hl
    refine lv_iload_n X.1 X.2.1 dX5_isApartBySides_2 rfl (lv_at hl 2 rfl) ?_
    refine lv_aload_n X.1 X.2.1 dX5_isApartBySides_3 rfl (lv_at hl 0 rfl) ?_
    refine gf_X5_23 (i := 0) X V rfl dX5_isApartBySides_4 ?_
    refine lv_icmp_ge (tgt := 55) X.1 X.2.1 dX5_isApartBySides_7 (by decide) (fun hc => ?_) (fun hc => ?_)
    · replace h := kif_t hc h
      obtain rfl := Option.some.inj h
      exact hG13 _ _ _ V (lv_sub hl [0, 1, 2] rfl)
    · replace h := kif_f hc h
      refine lv_aload_n X.1 X.2.1 dX5_isApartBySides_10 rfl (lv_at hl 0 rfl) ?_
      refine lv_aload_n X.1 X.2.1 dX5_isApartBySides_11 rfl (lv_at hl 1 rfl) ?_
      refine lv_aload_n X.1 X.2.1 dX5_isApartBySides_12 rfl (lv_at hl 0 rfl) ?_
      refine lv_iload_n X.1 X.2.1 dX5_isApartBySides_13 rfl (lv_at hl 2 rfl) ?_
      obtain ⟨x14, hx14, h⟩ := kb_of h
      refine s_callVl (segs' := [gX5 g aT zT, gX5 g aP1 zP1]) (ci := 5) (i0 := 0) X V (c_X5_sideX l D g aT zT s10 x14 hx14) w_X5_37 ⟨Nat.le_of_ble_eq_true rfl, Nat.le_of_ble_eq_true rfl⟩ ⟨Nat.zero_le _, Nat.zero_le _⟩ rfl rfl rfl rfl [0] rfl rfl (kFst_refl _) rfl rfl hl.1 (Nat.le_of_ble_eq_true rfl) dX5_isApartBySides_14 (fun H locs V => ?_)
      refine lv_aload_n X.1 X.2.1 dX5_isApartBySides_17 rfl (lv_at hl 0 rfl) ?_
      refine lv_iload_n X.1 X.2.1 dX5_isApartBySides_18 rfl (lv_at hl 2 rfl) ?_
      obtain ⟨x15, hx15, h⟩ := kb_of h
      refine s_callVl (segs' := [gX5 g aT zT, gX5 g aP1 zP1]) (ci := 5) (i0 := 0) X V (c_X5_sideY l D g aT zT s10 x15 hx15) w_X5_41 ⟨Nat.le_of_ble_eq_true rfl, Nat.le_of_ble_eq_true rfl⟩ ⟨Nat.zero_le _, Nat.zero_le _⟩ rfl rfl rfl rfl [0] rfl rfl (kFst_refl _) rfl rfl hl.1 (Nat.le_of_ble_eq_true rfl) dX5_isApartBySides_19 (fun H locs V => ?_)
      obtain ⟨x16, hx16, h⟩ := kb_of h
      refine s_callVi (segs' := [gX5 g aT zT, gX5 g aP1 zP1]) (ci := 5) (i0 := 0) X V (c_X5_isApart l D g aT aP1 zT zP1 x14 x15 x16 hx16) w_X5_92 ⟨Nat.le_of_ble_eq_true rfl, Nat.le_of_ble_eq_true rfl⟩ ⟨Nat.zero_le _, Nat.zero_le _⟩ rfl rfl rfl rfl [0, 1] rfl rfl (kFst_refl _) rfl rfl hl.1 (Nat.le_of_ble_eq_true rfl) dX5_isApartBySides_22 (fun H locs V => ?_)
      refine lv_if_ne (tgt := 47) X.1 X.2.1 dX5_isApartBySides_25 (by decide) (fun hc => ?_) (fun hc => ?_)
      · replace h := kif_f hc h
        obtain rfl := Option.some.inj h
        exact hG13 _ _ _ V (lv_sub hl [0, 1, 2] rfl)
      · replace h := kif_t hc h
        refine lv_aload_n X.1 X.2.1 dX5_isApartBySides_28 rfl (lv_at hl 0 rfl) ?_
        refine lv_aload_n X.1 X.2.1 dX5_isApartBySides_29 rfl (lv_at hl 1 rfl) ?_
        refine lv_aload_n X.1 X.2.1 dX5_isApartBySides_30 rfl (lv_at hl 0 rfl) ?_
        refine lv_iload_n X.1 X.2.1 dX5_isApartBySides_31 rfl (lv_at hl 2 rfl) ?_
        obtain ⟨x17, hx17, h⟩ := kb_of h
        refine s_callVl (segs' := [gX5 g aT zT, gX5 g aP1 zP1]) (ci := 5) (i0 := 0) X V (c_X5_sideY l D g aT zT s10 x17 hx17) w_X5_41 ⟨Nat.le_of_ble_eq_true rfl, Nat.le_of_ble_eq_true rfl⟩ ⟨Nat.zero_le _, Nat.zero_le _⟩ rfl rfl rfl rfl [0] rfl rfl (kFst_refl _) rfl rfl hl.1 (Nat.le_of_ble_eq_true rfl) dX5_isApartBySides_32 (fun H locs V => ?_)
        refine lv_lneg X.1 X.2.1 dX5_isApartBySides_35 ?_
        refine lv_aload_n X.1 X.2.1 dX5_isApartBySides_36 rfl (lv_at hl 0 rfl) ?_
        refine lv_iload_n X.1 X.2.1 dX5_isApartBySides_37 rfl (lv_at hl 2 rfl) ?_
        obtain ⟨x18, hx18, h⟩ := kb_of h
        refine s_callVl (segs' := [gX5 g aT zT, gX5 g aP1 zP1]) (ci := 5) (i0 := 0) X V (c_X5_sideX l D g aT zT s10 x18 hx18) w_X5_37 ⟨Nat.le_of_ble_eq_true rfl, Nat.le_of_ble_eq_true rfl⟩ ⟨Nat.zero_le _, Nat.zero_le _⟩ rfl rfl rfl rfl [0] rfl rfl (kFst_refl _) rfl rfl hl.1 (Nat.le_of_ble_eq_true rfl) dX5_isApartBySides_38 (fun H locs V => ?_)
        obtain ⟨x19, hx19, h⟩ := kb_of h
        refine s_callVi (segs' := [gX5 g aT zT, gX5 g aP1 zP1]) (ci := 5) (i0 := 0) X V (c_X5_isApart l D g aT aP1 zT zP1 (-x17) x18 x19 hx19) w_X5_92 ⟨Nat.le_of_ble_eq_true rfl, Nat.le_of_ble_eq_true rfl⟩ ⟨Nat.zero_le _, Nat.zero_le _⟩ rfl rfl rfl rfl [0, 1] rfl rfl (kFst_refl _) rfl rfl hl.1 (Nat.le_of_ble_eq_true rfl) dX5_isApartBySides_41 (fun H locs V => ?_)
        refine lv_if_eq (tgt := 49) X.1 X.2.1 dX5_isApartBySides_44 (by decide) (fun hc => ?_) (fun hc => ?_)
        · replace h := kif_t hc h
          obtain ⟨y20, ey20⟩ : ∃ y : Int32, y = (s10 + (1 : Int32)) := ⟨_, rfl⟩
          replace h := kl_of ey20 h
          refine lv_iinc (v := y20) (lv' := [(2, .int y20), (0, .ref (aT 0)), (1, .ref (aP1 0))]) X.1 X.2.1 dX5_isApartBySides_49 hl (k := 2) rfl (by rw [ey20]; rfl) (by decide) rfl (fun ls hl => ?_)
          refine lv_goto (tgt := 2) X.1 X.2.1 dX5_isApartBySides_52 (by decide) ?_
          obtain rfl := Option.some.inj h
          exact hG13 _ _ _ V (lv_sub hl [1, 2, 0] rfl)
        · replace h := kif_f hc h
          obtain rfl := Option.some.inj h
          exact hG13 _ _ _ V (lv_sub hl [0, 1, 2] rfl)
  · intro H locs ls V hl
    have V : kW D AA s.heap H (List.flatten [gX5 g aT zT, gX5 g aP1 zP1]) locs := V
    have hl : lv_has ls 3 [(0, .ref (aT 0)), (1, .ref (aP1 0)), (2, .int x9.2)] := hl
    by_cases hc : x9.1 = 47
    · replace h := kif_t hc h
      refine W.eq (g2 := F0 m 47 ls []) (by rw [hc]) ?_
      refine lv_iconst (v := (1 : Int32)) X.1 X.2.1 dX5_isApartBySides_47 (by decide) ?_
      obtain rfl := Option.some.inj h
      rw [hAA] at V
      rw [hQQ]
      exact k_zret X V (b := true) rfl rfl dX5_isApartBySides_48
    · replace h := kif_f hc h
      obtain ⟨hc, h⟩ := kg_of h
      refine W.eq (g2 := F0 m 55 ls []) (by rw [hc]) ?_
      refine lv_iconst (v := (0 : Int32)) X.1 X.2.1 dX5_isApartBySides_55 (by decide) ?_
      obtain rfl := Option.some.inj h
      rw [hAA] at V
      rw [hQQ]
      exact k_zret X V (b := false) rfl rfl dX5_isApartBySides_56

def p_X5_touches (zT : tX5) (zP1 : tX5) : Option (Bool) :=
  kb (p_X5_isApart zT zP1 (1 : Int64) (0 : Int64)) (fun x1 => kif ((kz x1) = 0) (kb (p_X5_isApart zT zP1 (0 : Int64) (1 : Int64)) (fun x2 => kif ((kz x2) = 0) (kb (p_X5_isApartBySides zT zP1) (fun x3 => kif ((kz x3) = 0) (kb (p_X5_isApartBySides zP1 zT) (fun x4 => kif ((kz x4) = 0) (some true) (some false))) (some false))) (some false))) (some false))
set_option maxHeartbeats 4000000 in
set_option maxRecDepth 100000 in
theorem c_X5_touches (l : Launch) (D : va_G) (g : kG) (aT : Nat → Nat) (aP1 : Nat → Nat) (zT : tX5) (zP1 : tX5) (r : Bool) (h : p_X5_touches zT zP1 = some r) : kMi l yX5_touches cX5_touches 2 (some .boolean) (kR 4 97) D (kty g) [.ref (aT 0), .ref (aP1 0)] (List.flatten [gX5 g aT zT, gX5 g aP1 zP1]) (kz r) (List.flatten [gX5 g aT zT, gX5 g aP1 zP1]) := by
  intro sz
  refine k_enter (lv := [(0, .ref (aT 0)), (1, .ref (aP1 0))]) RX5 (by decide +kernel) rfl rfl (Nat.le_of_ble_eq_true rfl) ?_
  intro p en s m args below meth c ls hsz X V hl
  obtain ⟨QQ, hQQ⟩ : ∃ q, q = MQ below (va_Qi (fun r' (_ : Unit) => r' = kz r) (fun _ => kE D (List.flatten [gX5 g aT zT, gX5 g aP1 zP1])) (va_A (List.flatten [gX5 g aT zT, gX5 g aP1 zP1]) sz)) args s 0 0 (va_A (List.flatten [gX5 g aT zT, gX5 g aP1 zP1]) sz) := ⟨_, rfl⟩
  rw [← hQQ]
  obtain ⟨AA, hAA⟩ : ∃ q, q = va_A (List.flatten [gX5 g aT zT, gX5 g aP1 zP1]) sz := ⟨_, rfl⟩
  rw [← hAA] at V
  unfold p_X5_touches at h
  refine lv_aload_n X.1 X.2.1 dX5_touches_0 rfl (lv_at hl 0 rfl) ?_
  refine lv_aload_n X.1 X.2.1 dX5_touches_1 rfl (lv_at hl 1 rfl) ?_
  refine lv_lconst (v := (1 : Int64)) X.1 X.2.1 dX5_touches_2 (by decide) ?_
  refine lv_lconst (v := (0 : Int64)) X.1 X.2.1 dX5_touches_3 (by decide) ?_
  obtain ⟨x5, hx5, h⟩ := kb_of h
  refine s_callVi (segs' := [gX5 g aT zT, gX5 g aP1 zP1]) (ci := 5) (i0 := 0) X V (c_X5_isApart l D g aT aP1 zT zP1 (1 : Int64) (0 : Int64) x5 hx5) w_X5_92 ⟨Nat.le_of_ble_eq_true rfl, Nat.le_of_ble_eq_true rfl⟩ ⟨Nat.zero_le _, Nat.zero_le _⟩ rfl rfl rfl rfl [0, 1] rfl rfl (kFst_refl _) rfl rfl hl.1 (Nat.le_of_ble_eq_true rfl) dX5_touches_4 (fun H locs V => ?_)
  refine lv_if_ne (tgt := 40) X.1 X.2.1 dX5_touches_7 (by decide) (fun hc => ?_) (fun hc => ?_)
  · replace h := kif_f hc h
    refine lv_iconst (v := (0 : Int32)) X.1 X.2.1 dX5_touches_40 (by decide) ?_
    obtain rfl := Option.some.inj h
    rw [hAA] at V
    rw [hQQ]
    exact k_zret X V (b := false) rfl rfl dX5_touches_41
  · replace h := kif_t hc h
    refine lv_aload_n X.1 X.2.1 dX5_touches_10 rfl (lv_at hl 0 rfl) ?_
    refine lv_aload_n X.1 X.2.1 dX5_touches_11 rfl (lv_at hl 1 rfl) ?_
    refine lv_lconst (v := (0 : Int64)) X.1 X.2.1 dX5_touches_12 (by decide) ?_
    refine lv_lconst (v := (1 : Int64)) X.1 X.2.1 dX5_touches_13 (by decide) ?_
    obtain ⟨x6, hx6, h⟩ := kb_of h
    refine s_callVi (segs' := [gX5 g aT zT, gX5 g aP1 zP1]) (ci := 5) (i0 := 0) X V (c_X5_isApart l D g aT aP1 zT zP1 (0 : Int64) (1 : Int64) x6 hx6) w_X5_92 ⟨Nat.le_of_ble_eq_true rfl, Nat.le_of_ble_eq_true rfl⟩ ⟨Nat.zero_le _, Nat.zero_le _⟩ rfl rfl rfl rfl [0, 1] rfl rfl (kFst_refl _) rfl rfl hl.1 (Nat.le_of_ble_eq_true rfl) dX5_touches_14 (fun H locs V => ?_)
    refine lv_if_ne (tgt := 40) X.1 X.2.1 dX5_touches_17 (by decide) (fun hc => ?_) (fun hc => ?_)
    · replace h := kif_f hc h
      refine lv_iconst (v := (0 : Int32)) X.1 X.2.1 dX5_touches_40 (by decide) ?_
      obtain rfl := Option.some.inj h
      rw [hAA] at V
      rw [hQQ]
      exact k_zret X V (b := false) rfl rfl dX5_touches_41
    · replace h := kif_t hc h
      refine lv_aload_n X.1 X.2.1 dX5_touches_20 rfl (lv_at hl 0 rfl) ?_
      refine lv_aload_n X.1 X.2.1 dX5_touches_21 rfl (lv_at hl 1 rfl) ?_
      obtain ⟨x7, hx7, h⟩ := kb_of h
      refine s_callVi (segs' := [gX5 g aT zT, gX5 g aP1 zP1]) (ci := 5) (i0 := 0) X V (c_X5_isApartBySides l D g aT aP1 zT zP1 x7 hx7) w_X5_96 ⟨Nat.le_of_ble_eq_true rfl, Nat.le_of_ble_eq_true rfl⟩ ⟨Nat.zero_le _, Nat.zero_le _⟩ rfl rfl rfl rfl [0, 1] rfl rfl (kFst_refl _) rfl rfl hl.1 (Nat.le_of_ble_eq_true rfl) dX5_touches_22 (fun H locs V => ?_)
      refine lv_if_ne (tgt := 40) X.1 X.2.1 dX5_touches_25 (by decide) (fun hc => ?_) (fun hc => ?_)
      · replace h := kif_f hc h
        refine lv_iconst (v := (0 : Int32)) X.1 X.2.1 dX5_touches_40 (by decide) ?_
        obtain rfl := Option.some.inj h
        rw [hAA] at V
        rw [hQQ]
        exact k_zret X V (b := false) rfl rfl dX5_touches_41
      · replace h := kif_t hc h
        refine lv_aload_n X.1 X.2.1 dX5_touches_28 rfl (lv_at hl 1 rfl) ?_
        refine lv_aload_n X.1 X.2.1 dX5_touches_29 rfl (lv_at hl 0 rfl) ?_
        obtain ⟨x8, hx8, h⟩ := kb_of h
        refine s_callVi (segs' := [gX5 g aT zT, gX5 g aP1 zP1]) (ci := 5) (i0 := 0) X V (c_X5_isApartBySides l D g aP1 aT zP1 zT x8 hx8) w_X5_96 ⟨Nat.le_of_ble_eq_true rfl, Nat.le_of_ble_eq_true rfl⟩ ⟨Nat.zero_le _, Nat.zero_le _⟩ rfl rfl rfl rfl [1, 0] rfl rfl (kFst_refl _) rfl rfl hl.1 (Nat.le_of_ble_eq_true rfl) dX5_touches_30 (fun H locs V => ?_)
        refine lv_if_ne (tgt := 40) X.1 X.2.1 dX5_touches_33 (by decide) (fun hc => ?_) (fun hc => ?_)
        · replace h := kif_f hc h
          refine lv_iconst (v := (0 : Int32)) X.1 X.2.1 dX5_touches_40 (by decide) ?_
          obtain rfl := Option.some.inj h
          rw [hAA] at V
          rw [hQQ]
          exact k_zret X V (b := false) rfl rfl dX5_touches_41
        · replace h := kif_t hc h
          refine lv_iconst (v := (1 : Int32)) X.1 X.2.1 dX5_touches_36 (by decide) ?_
          refine lv_goto (tgt := 41) X.1 X.2.1 dX5_touches_37 (by decide) ?_
          obtain rfl := Option.some.inj h
          rw [hAA] at V
          rw [hQQ]
          exact k_zret X V (b := true) rfl rfl dX5_touches_41

def p_X5_wholeOnRim_L38 (zT : tX5) (s : Int64 × Int32) : Option (Nat × (Int64 × Int32)) :=
  kif (zT.2.2.2 ≤ s.2) (some (68, (s.1, s.2))) (kb (p_X5_sideX zT s.2) (fun x4 => kb (p_X5_sideY zT s.2) (fun x5 => kb (p_X3_gcd x4 x5) (fun x6 => kl (s.1 + x6) (fun y7 => kl (s.2 + (1 : Int32)) (fun y8 => some (38, (y7, y8))))))))
def p_X5_wholeOnRim (zT : tX5) : Option (Int64) :=
  kif (zT.2.2.2 = (1 : Int32)) (some (1 : Int64)) (kif (zT.2.2.2 = (2 : Int32)) (kb (p_X5_sideX zT (0 : Int32)) (fun x1 => kb (p_X5_sideY zT (0 : Int32)) (fun x2 => kb (p_X3_gcd x1 x2) (fun x3 => some ((x3 + (1 : Int64))))))) (kb (kitr 38 (fun q => p_X5_wholeOnRim_L38 zT q) kF ((0 : Int64), (0 : Int32))) (fun x9 => kg (x9.1 = 68) (some x9.2.1))))
set_option maxHeartbeats 4000000 in
set_option maxRecDepth 100000 in
theorem c_X5_wholeOnRim (l : Launch) (D : va_G) (g : kG) (aT : Nat → Nat) (zT : tX5) (r : Int64) (h : p_X5_wholeOnRim zT = some r) : kMl l yX5_wholeOnRim cX5_wholeOnRim 4 (some .long) (kR 2 51) D (kty g) [.ref (aT 0)] (List.flatten [gX5 g aT zT]) r (List.flatten [gX5 g aT zT]) := by
  intro sz
  refine k_enter (lv := [(0, .ref (aT 0))]) RX5 (by decide +kernel) rfl rfl (Nat.le_of_ble_eq_true rfl) ?_
  intro p en s m args below meth c ls hsz X V hl
  obtain ⟨QQ, hQQ⟩ : ∃ q, q = MQ below (va_Ql (fun r' (_ : Unit) => r' = r) (fun _ => kE D (List.flatten [gX5 g aT zT])) (va_A (List.flatten [gX5 g aT zT]) sz)) args s 0 0 (va_A (List.flatten [gX5 g aT zT]) sz) := ⟨_, rfl⟩
  rw [← hQQ]
  obtain ⟨AA, hAA⟩ : ∃ q, q = va_A (List.flatten [gX5 g aT zT]) sz := ⟨_, rfl⟩
  rw [← hAA] at V
  unfold p_X5_wholeOnRim at h
  refine lv_aload_n X.1 X.2.1 dX5_wholeOnRim_0 rfl (lv_at hl 0 rfl) ?_
  refine gf_X5_23 (i := 0) X V rfl dX5_wholeOnRim_1 ?_
  refine lv_iconst (v := (1 : Int32)) X.1 X.2.1 dX5_wholeOnRim_4 (by decide) ?_
  refine lv_icmp_ne (tgt := 10) X.1 X.2.1 dX5_wholeOnRim_5 (by decide) (fun hc => ?_) (fun hc => ?_)
  · replace h := kif_f hc h
    refine lv_aload_n X.1 X.2.1 dX5_wholeOnRim_10 rfl (lv_at hl 0 rfl) ?_
    refine gf_X5_23 (i := 0) X V rfl dX5_wholeOnRim_11 ?_
    refine lv_iconst (v := (2 : Int32)) X.1 X.2.1 dX5_wholeOnRim_14 (by decide) ?_
    refine lv_icmp_ne (tgt := 34) X.1 X.2.1 dX5_wholeOnRim_15 (by decide) (fun hc => ?_) (fun hc => ?_)
    · replace h := kif_f hc h
      refine lv_lconst (v := (0 : Int64)) X.1 X.2.1 dX5_wholeOnRim_34 (by decide) ?_
      refine lv_lstore_n (lv' := [(1, .long (0 : Int64)), (0, .ref (aT 0))]) X.1 X.2.1 dX5_wholeOnRim_35 rfl hl (by decide) rfl (fun ls hl => ?_)
      refine lv_iconst (v := (0 : Int32)) X.1 X.2.1 dX5_wholeOnRim_36 (by decide) ?_
      refine lv_istore_n (lv' := [(3, .int (0 : Int32)), (1, .long (0 : Int64)), (0, .ref (aT 0))]) X.1 X.2.1 dX5_wholeOnRim_37 rfl hl (by decide) rfl (fun ls hl => ?_)
      obtain ⟨x10, hx10, h⟩ := kb_of h
      refine (kitr_go (hd := 38) (body := fun q => p_X5_wholeOnRim_L38 zT q) (G := (fun e => ∀ (H : Heap) (locs : List Loc) (ls : Array Slot), kW D AA s.heap H (List.flatten [gX5 g aT zT]) locs → lv_has ls 4 [(0, .ref (aT 0)), (1, .long e.2.1), (3, .int e.2.2)] → W p l en (kR 2 51) s m args below meth c H locs 0 0 QQ (F0 m e.1 ls []))) (fun s11 e12 hb13 hG14 => ?_) kF _ x10 hx10 ?_) _ _ _ V (lv_sub hl [2, 1, 0] rfl)
      · intro H locs ls V hl
        show W p l en (kR 2 51) s m args below meth c H locs 0 0 QQ (F0 m 38 ls [])
        have h : p_X5_wholeOnRim_L38 zT s11 = some e12 := hb13
        unfold p_X5_wholeOnRim_L38 at h
        have V : kW D AA s.heap H (List.flatten [gX5 g aT zT]) locs := V
        have hl : lv_has ls 4 [(0, .ref (aT 0)), (1, .long s11.1), (3, .int s11.2)] := hl
        refine lv_iload_n X.1 X.2.1 dX5_wholeOnRim_38 rfl (lv_at hl 2 rfl) ?_
        refine lv_aload_n X.1 X.2.1 dX5_wholeOnRim_39 rfl (lv_at hl 0 rfl) ?_
        refine gf_X5_23 (i := 0) X V rfl dX5_wholeOnRim_40 ?_
        refine lv_icmp_ge (tgt := 68) X.1 X.2.1 dX5_wholeOnRim_43 (by decide) (fun hc => ?_) (fun hc => ?_)
        · replace h := kif_t hc h
          obtain rfl := Option.some.inj h
          exact hG14 _ _ _ V (lv_sub hl [0, 1, 2] rfl)
        · replace h := kif_f hc h
          refine lv_lload_n X.1 X.2.1 dX5_wholeOnRim_46 rfl (lv_at hl 1 rfl) ?_
          refine lv_aload_n X.1 X.2.1 dX5_wholeOnRim_47 rfl (lv_at hl 0 rfl) ?_
          refine lv_iload_n X.1 X.2.1 dX5_wholeOnRim_48 rfl (lv_at hl 2 rfl) ?_
          obtain ⟨x15, hx15, h⟩ := kb_of h
          refine s_callVl (segs' := [gX5 g aT zT]) (ci := 5) (i0 := 0) X V (c_X5_sideX l D g aT zT s11.2 x15 hx15) w_X5_37 ⟨Nat.le_of_ble_eq_true rfl, Nat.le_of_ble_eq_true rfl⟩ ⟨Nat.zero_le _, Nat.zero_le _⟩ rfl rfl rfl rfl [0] rfl rfl (kFst_refl _) rfl rfl hl.1 (Nat.le_of_ble_eq_true rfl) dX5_wholeOnRim_49 (fun H locs V => ?_)
          refine lv_aload_n X.1 X.2.1 dX5_wholeOnRim_52 rfl (lv_at hl 0 rfl) ?_
          refine lv_iload_n X.1 X.2.1 dX5_wholeOnRim_53 rfl (lv_at hl 2 rfl) ?_
          obtain ⟨x16, hx16, h⟩ := kb_of h
          refine s_callVl (segs' := [gX5 g aT zT]) (ci := 5) (i0 := 0) X V (c_X5_sideY l D g aT zT s11.2 x16 hx16) w_X5_41 ⟨Nat.le_of_ble_eq_true rfl, Nat.le_of_ble_eq_true rfl⟩ ⟨Nat.zero_le _, Nat.zero_le _⟩ rfl rfl rfl rfl [0] rfl rfl (kFst_refl _) rfl rfl hl.1 (Nat.le_of_ble_eq_true rfl) dX5_wholeOnRim_54 (fun H locs V => ?_)
          obtain ⟨x17, hx17, h⟩ := kb_of h
          refine s_callSl (segs' := [gX5 g aT zT]) X V (c_X3_gcd l D g x15 x16 x17 hx17) w_X5_100 ⟨Nat.le_of_ble_eq_true rfl, Nat.le_of_ble_eq_true rfl⟩ ⟨Nat.zero_le _, Nat.zero_le _⟩ rfl [] rfl rfl (kFst_refl _) rfl rfl hl.1 (Nat.le_of_ble_eq_true rfl) dX5_wholeOnRim_57 (fun H locs V => ?_)
          refine lv_ladd X.1 X.2.1 dX5_wholeOnRim_60 ?_
          refine lv_topl (fun y18 ey18 => ?_)
          replace h := kl_of ey18 h
          refine lv_lstore_n (lv' := [(1, .long y18), (0, .ref (aT 0)), (3, .int s11.2)]) X.1 X.2.1 dX5_wholeOnRim_61 rfl hl (by decide) rfl (fun ls hl => ?_)
          obtain ⟨y19, ey19⟩ : ∃ y : Int32, y = (s11.2 + (1 : Int32)) := ⟨_, rfl⟩
          replace h := kl_of ey19 h
          refine lv_iinc (v := y19) (lv' := [(3, .int y19), (1, .long y18), (0, .ref (aT 0))]) X.1 X.2.1 dX5_wholeOnRim_62 hl (k := 2) rfl (by rw [ey19]; rfl) (by decide) rfl (fun ls hl => ?_)
          refine lv_goto (tgt := 38) X.1 X.2.1 dX5_wholeOnRim_65 (by decide) ?_
          obtain rfl := Option.some.inj h
          exact hG14 _ _ _ V (lv_sub hl [2, 1, 0] rfl)
      · intro H locs ls V hl
        have V : kW D AA s.heap H (List.flatten [gX5 g aT zT]) locs := V
        have hl : lv_has ls 4 [(0, .ref (aT 0)), (1, .long x10.2.1), (3, .int x10.2.2)] := hl
        obtain ⟨hc, h⟩ := kg_of h
        refine W.eq (g2 := F0 m 68 ls []) (by rw [hc]) ?_
        refine lv_lload_n X.1 X.2.1 dX5_wholeOnRim_68 rfl (lv_at hl 1 rfl) ?_
        obtain rfl := Option.some.inj h
        rw [hAA] at V
        rw [hQQ]
        exact k_lret X V rfl dX5_wholeOnRim_69
    · replace h := kif_t hc h
      refine lv_aload_n X.1 X.2.1 dX5_wholeOnRim_18 rfl (lv_at hl 0 rfl) ?_
      refine lv_iconst (v := (0 : Int32)) X.1 X.2.1 dX5_wholeOnRim_19 (by decide) ?_
      obtain ⟨x20, hx20, h⟩ := kb_of h
      refine s_callVl (segs' := [gX5 g aT zT]) (ci := 5) (i0 := 0) X V (c_X5_sideX l D g aT zT (0 : Int32) x20 hx20) w_X5_37 ⟨Nat.le_of_ble_eq_true rfl, Nat.le_of_ble_eq_true rfl⟩ ⟨Nat.zero_le _, Nat.zero_le _⟩ rfl rfl rfl rfl [0] rfl rfl (kFst_refl _) rfl rfl hl.1 (Nat.le_of_ble_eq_true rfl) dX5_wholeOnRim_20 (fun H locs V => ?_)
      refine lv_aload_n X.1 X.2.1 dX5_wholeOnRim_23 rfl (lv_at hl 0 rfl) ?_
      refine lv_iconst (v := (0 : Int32)) X.1 X.2.1 dX5_wholeOnRim_24 (by decide) ?_
      obtain ⟨x21, hx21, h⟩ := kb_of h
      refine s_callVl (segs' := [gX5 g aT zT]) (ci := 5) (i0 := 0) X V (c_X5_sideY l D g aT zT (0 : Int32) x21 hx21) w_X5_41 ⟨Nat.le_of_ble_eq_true rfl, Nat.le_of_ble_eq_true rfl⟩ ⟨Nat.zero_le _, Nat.zero_le _⟩ rfl rfl rfl rfl [0] rfl rfl (kFst_refl _) rfl rfl hl.1 (Nat.le_of_ble_eq_true rfl) dX5_wholeOnRim_25 (fun H locs V => ?_)
      obtain ⟨x22, hx22, h⟩ := kb_of h
      refine s_callSl (segs' := [gX5 g aT zT]) X V (c_X3_gcd l D g x20 x21 x22 hx22) w_X5_100 ⟨Nat.le_of_ble_eq_true rfl, Nat.le_of_ble_eq_true rfl⟩ ⟨Nat.zero_le _, Nat.zero_le _⟩ rfl [] rfl rfl (kFst_refl _) rfl rfl hl.1 (Nat.le_of_ble_eq_true rfl) dX5_wholeOnRim_28 (fun H locs V => ?_)
      refine lv_lconst (v := (1 : Int64)) X.1 X.2.1 dX5_wholeOnRim_31 (by decide) ?_
      refine lv_ladd X.1 X.2.1 dX5_wholeOnRim_32 ?_
      obtain rfl := Option.some.inj h
      rw [hAA] at V
      rw [hQQ]
      exact k_lret X V rfl dX5_wholeOnRim_33
  · replace h := kif_t hc h
    refine lv_lconst (v := (1 : Int64)) X.1 X.2.1 dX5_wholeOnRim_8 (by decide) ?_
    obtain rfl := Option.some.inj h
    rw [hAA] at V
    rw [hQQ]
    exact k_lret X V rfl dX5_wholeOnRim_9

def p_X5_wholeWithin (zT : tX5) : Option (Int64) :=
  kif ((3 : Int32) ≤ zT.2.2.2) (kb (p_X5_twiceArea zT) (fun x1 => kb (p_X5_wholeOnRim zT) (fun x2 => some ((((x1 - x2) + (2 : Int64)) / (2 : Int64)))))) (some (0 : Int64))
set_option maxHeartbeats 4000000 in
set_option maxRecDepth 100000 in
theorem c_X5_wholeWithin (l : Launch) (D : va_G) (g : kG) (aT : Nat → Nat) (zT : tX5) (r : Int64) (h : p_X5_wholeWithin zT = some r) : kMl l yX5_wholeWithin cX5_wholeWithin 1 (some .long) (kR 4 88) D (kty g) [.ref (aT 0)] (List.flatten [gX5 g aT zT]) r (List.flatten [gX5 g aT zT]) := by
  intro sz
  refine k_enter (lv := [(0, .ref (aT 0))]) RX5 (by decide +kernel) rfl rfl (Nat.le_of_ble_eq_true rfl) ?_
  intro p en s m args below meth c ls hsz X V hl
  obtain ⟨QQ, hQQ⟩ : ∃ q, q = MQ below (va_Ql (fun r' (_ : Unit) => r' = r) (fun _ => kE D (List.flatten [gX5 g aT zT])) (va_A (List.flatten [gX5 g aT zT]) sz)) args s 0 0 (va_A (List.flatten [gX5 g aT zT]) sz) := ⟨_, rfl⟩
  rw [← hQQ]
  obtain ⟨AA, hAA⟩ : ∃ q, q = va_A (List.flatten [gX5 g aT zT]) sz := ⟨_, rfl⟩
  rw [← hAA] at V
  unfold p_X5_wholeWithin at h
  refine lv_aload_n X.1 X.2.1 dX5_wholeWithin_0 rfl (lv_at hl 0 rfl) ?_
  refine gf_X5_23 (i := 0) X V rfl dX5_wholeWithin_1 ?_
  refine lv_iconst (v := (3 : Int32)) X.1 X.2.1 dX5_wholeWithin_4 (by decide) ?_
  refine lv_icmp_ge (tgt := 12) X.1 X.2.1 dX5_wholeWithin_5 (by decide) (fun hc => ?_) (fun hc => ?_)
  · replace h := kif_t hc h
    refine lv_aload_n X.1 X.2.1 dX5_wholeWithin_12 rfl (lv_at hl 0 rfl) ?_
    obtain ⟨x3, hx3, h⟩ := kb_of h
    refine s_callVl (segs' := [gX5 g aT zT]) (ci := 5) (i0 := 0) X V (c_X5_twiceArea l D g aT zT x3 hx3) w_X5_103 ⟨Nat.le_of_ble_eq_true rfl, Nat.le_of_ble_eq_true rfl⟩ ⟨Nat.zero_le _, Nat.zero_le _⟩ rfl rfl rfl rfl [0] rfl rfl (kFst_refl _) rfl rfl hl.1 (Nat.le_of_ble_eq_true rfl) dX5_wholeWithin_13 (fun H locs V => ?_)
    refine lv_aload_n X.1 X.2.1 dX5_wholeWithin_16 rfl (lv_at hl 0 rfl) ?_
    obtain ⟨x4, hx4, h⟩ := kb_of h
    refine s_callVl (segs' := [gX5 g aT zT]) (ci := 5) (i0 := 0) X V (c_X5_wholeOnRim l D g aT zT x4 hx4) w_X5_107 ⟨Nat.le_of_ble_eq_true rfl, Nat.le_of_ble_eq_true rfl⟩ ⟨Nat.zero_le _, Nat.zero_le _⟩ rfl rfl rfl rfl [0] rfl rfl (kFst_refl _) rfl rfl hl.1 (Nat.le_of_ble_eq_true rfl) dX5_wholeWithin_17 (fun H locs V => ?_)
    refine lv_lsub X.1 X.2.1 dX5_wholeWithin_20 ?_
    refine lv_ldc2 (v := (2 : Int64)) X.1 X.2.1 X.2.2.2.1 (X.2.2.2.2.1 _ kc_X5_110) dX5_wholeWithin_21 ?_
    refine lv_ladd X.1 X.2.1 dX5_wholeWithin_24 ?_
    refine lv_ldc2 (v := (2 : Int64)) X.1 X.2.1 X.2.2.2.1 (X.2.2.2.2.1 _ kc_X5_110) dX5_wholeWithin_25 ?_
    refine lv_ldiv X.1 X.2.1 dX5_wholeWithin_28 (by decide) ?_
    obtain rfl := Option.some.inj h
    rw [hAA] at V
    rw [hQQ]
    exact k_lret X V rfl dX5_wholeWithin_29
  · replace h := kif_f hc h
    refine lv_lconst (v := (0 : Int64)) X.1 X.2.1 dX5_wholeWithin_8 (by decide) ?_
    refine lv_goto (tgt := 29) X.1 X.2.1 dX5_wholeWithin_9 (by decide) ?_
    obtain rfl := Option.some.inj h
    rw [hAA] at V
    rw [hQQ]
    exact k_lret X V rfl dX5_wholeWithin_29

def p_X5_sidesSeen_L5 (zT : tX5) (v1 : Int32) (v2 : Int32) (s : Int32 × Int32) : Option (Nat × (Int32 × Int32)) :=
  kif (zT.2.2.2 ≤ s.2) (some (36, (s.1, s.2))) (kb (p_X5_turn zT s.2 v1 v2) (fun x1 => kif (0 ≤ (lg_cmp x1 (0 : Int64))) (kl (s.2 + (1 : Int32)) (fun y2 => some (5, (s.1, y2)))) (kl (s.1 + (1 : Int32)) (fun y3 => kl (s.2 + (1 : Int32)) (fun y4 => some (5, (y3, y4)))))))
def p_X5_sidesSeen (zT : tX5) (v1 : Int32) (v2 : Int32) : Option (Int32) :=
  kb (kitr 5 (fun q => p_X5_sidesSeen_L5 zT v1 v2 q) kF ((0 : Int32), (0 : Int32))) (fun x5 => kg (x5.1 = 36) (some x5.2.1))
set_option maxHeartbeats 4000000 in
set_option maxRecDepth 100000 in
theorem c_X5_sidesSeen (l : Launch) (D : va_G) (g : kG) (aT : Nat → Nat) (zT : tX5) (v1 : Int32) (v2 : Int32) (r : Int32) (h : p_X5_sidesSeen zT v1 v2 = some r) : kMi l yX5_sidesSeen cX5_sidesSeen 5 (some .int) (kR 3 65) D (kty g) [.ref (aT 0), .int v1, .int v2] (List.flatten [gX5 g aT zT]) r (List.flatten [gX5 g aT zT]) := by
  intro sz
  refine k_enter (lv := [(0, .ref (aT 0)), (1, .int v1), (2, .int v2)]) RX5 (by decide +kernel) rfl rfl (Nat.le_of_ble_eq_true rfl) ?_
  intro p en s m args below meth c ls hsz X V hl
  obtain ⟨QQ, hQQ⟩ : ∃ q, q = MQ below (va_Qi (fun r' (_ : Unit) => r' = r) (fun _ => kE D (List.flatten [gX5 g aT zT])) (va_A (List.flatten [gX5 g aT zT]) sz)) args s 0 0 (va_A (List.flatten [gX5 g aT zT]) sz) := ⟨_, rfl⟩
  rw [← hQQ]
  obtain ⟨AA, hAA⟩ : ∃ q, q = va_A (List.flatten [gX5 g aT zT]) sz := ⟨_, rfl⟩
  rw [← hAA] at V
  unfold p_X5_sidesSeen at h
  refine lv_iconst (v := (0 : Int32)) X.1 X.2.1 dX5_sidesSeen_0 (by decide) ?_
  refine lv_istore_n (lv' := [(3, .int (0 : Int32)), (0, .ref (aT 0)), (1, .int v1), (2, .int v2)]) X.1 X.2.1 dX5_sidesSeen_1 rfl hl (by decide) rfl (fun ls hl => ?_)
  refine lv_iconst (v := (0 : Int32)) X.1 X.2.1 dX5_sidesSeen_2 (by decide) ?_
  refine lv_istore (lv' := [(4, .int (0 : Int32)), (3, .int (0 : Int32)), (0, .ref (aT 0)), (1, .int v1), (2, .int v2)]) X.1 X.2.1 dX5_sidesSeen_3 hl (by decide) rfl (fun ls hl => ?_)
  obtain ⟨x6, hx6, h⟩ := kb_of h
  refine (kitr_go (hd := 5) (body := fun q => p_X5_sidesSeen_L5 zT v1 v2 q) (G := (fun e => ∀ (H : Heap) (locs : List Loc) (ls : Array Slot), kW D AA s.heap H (List.flatten [gX5 g aT zT]) locs → lv_has ls 5 [(0, .ref (aT 0)), (1, .int v1), (2, .int v2), (3, .int e.2.1), (4, .int e.2.2)] → W p l en (kR 3 65) s m args below meth c H locs 0 0 QQ (F0 m e.1 ls []))) (fun s7 e8 hb9 hG10 => ?_) kF _ x6 hx6 ?_) _ _ _ V (lv_sub hl [2, 3, 4, 1, 0] rfl)
  · intro H locs ls V hl
    show W p l en (kR 3 65) s m args below meth c H locs 0 0 QQ (F0 m 5 ls [])
    have h : p_X5_sidesSeen_L5 zT v1 v2 s7 = some e8 := hb9
    unfold p_X5_sidesSeen_L5 at h
    have V : kW D AA s.heap H (List.flatten [gX5 g aT zT]) locs := V
    have hl : lv_has ls 5 [(0, .ref (aT 0)), (1, .int v1), (2, .int v2), (3, .int s7.1), (4, .int s7.2)] := hl
    refine lv_iload X.1 X.2.1 dX5_sidesSeen_5 (lv_at hl 4 rfl) ?_
    refine lv_aload_n X.1 X.2.1 dX5_sidesSeen_7 rfl (lv_at hl 0 rfl) ?_
    refine gf_X5_23 (i := 0) X V rfl dX5_sidesSeen_8 ?_
    refine lv_icmp_ge (tgt := 36) X.1 X.2.1 dX5_sidesSeen_11 (by decide) (fun hc => ?_) (fun hc => ?_)
    · replace h := kif_t hc h
      obtain rfl := Option.some.inj h
      exact hG10 _ _ _ V (lv_sub hl [0, 1, 2, 3, 4] rfl)
    · replace h := kif_f hc h
      refine lv_aload_n X.1 X.2.1 dX5_sidesSeen_14 rfl (lv_at hl 0 rfl) ?_
      refine lv_iload X.1 X.2.1 dX5_sidesSeen_15 (lv_at hl 4 rfl) ?_
      refine lv_iload_n X.1 X.2.1 dX5_sidesSeen_17 rfl (lv_at hl 1 rfl) ?_
      refine lv_iload_n X.1 X.2.1 dX5_sidesSeen_18 rfl (lv_at hl 2 rfl) ?_
      obtain ⟨x11, hx11, h⟩ := kb_of h
      refine s_callVl (segs' := [gX5 g aT zT]) (ci := 5) (i0 := 0) X V (c_X5_turn l D g aT zT s7.2 v1 v2 x11 hx11) w_X5_53 ⟨Nat.le_of_ble_eq_true rfl, Nat.le_of_ble_eq_true rfl⟩ ⟨Nat.zero_le _, Nat.zero_le _⟩ rfl rfl rfl rfl [0] rfl rfl (kFst_refl _) rfl rfl hl.1 (Nat.le_of_ble_eq_true rfl) dX5_sidesSeen_19 (fun H locs V => ?_)
      refine lv_lconst (v := (0 : Int64)) X.1 X.2.1 dX5_sidesSeen_22 (by decide) ?_
      refine W.lcmp X.1 X.2.1 dX5_sidesSeen_23 ?_
      refine lv_if_ge (tgt := 30) X.1 X.2.1 dX5_sidesSeen_24 (by decide) (fun hc => ?_) (fun hc => ?_)
      · replace h := kif_t hc h
        obtain ⟨y12, ey12⟩ : ∃ y : Int32, y = (s7.2 + (1 : Int32)) := ⟨_, rfl⟩
        replace h := kl_of ey12 h
        refine lv_iinc (v := y12) (lv' := [(4, .int y12), (0, .ref (aT 0)), (1, .int v1), (2, .int v2), (3, .int s7.1)]) X.1 X.2.1 dX5_sidesSeen_30 hl (k := 4) rfl (by rw [ey12]; rfl) (by decide) rfl (fun ls hl => ?_)
        refine lv_goto (tgt := 5) X.1 X.2.1 dX5_sidesSeen_33 (by decide) ?_
        obtain rfl := Option.some.inj h
        exact hG10 _ _ _ V (lv_sub hl [1, 2, 3, 4, 0] rfl)
      · replace h := kif_f hc h
        obtain ⟨y13, ey13⟩ : ∃ y : Int32, y = (s7.1 + (1 : Int32)) := ⟨_, rfl⟩
        replace h := kl_of ey13 h
        refine lv_iinc (v := y13) (lv' := [(3, .int y13), (0, .ref (aT 0)), (1, .int v1), (2, .int v2), (4, .int s7.2)]) X.1 X.2.1 dX5_sidesSeen_27 hl (k := 3) rfl (by rw [ey13]; rfl) (by decide) rfl (fun ls hl => ?_)
        obtain ⟨y14, ey14⟩ : ∃ y : Int32, y = (s7.2 + (1 : Int32)) := ⟨_, rfl⟩
        replace h := kl_of ey14 h
        refine lv_iinc (v := y14) (lv' := [(4, .int y14), (3, .int y13), (0, .ref (aT 0)), (1, .int v1), (2, .int v2)]) X.1 X.2.1 dX5_sidesSeen_30 hl (k := 4) rfl (by rw [ey14]; rfl) (by decide) rfl (fun ls hl => ?_)
        refine lv_goto (tgt := 5) X.1 X.2.1 dX5_sidesSeen_33 (by decide) ?_
        obtain rfl := Option.some.inj h
        exact hG10 _ _ _ V (lv_sub hl [2, 3, 4, 1, 0] rfl)
  · intro H locs ls V hl
    have V : kW D AA s.heap H (List.flatten [gX5 g aT zT]) locs := V
    have hl : lv_has ls 5 [(0, .ref (aT 0)), (1, .int v1), (2, .int v2), (3, .int x6.2.1), (4, .int x6.2.2)] := hl
    obtain ⟨hc, h⟩ := kg_of h
    refine W.eq (g2 := F0 m 36 ls []) (by rw [hc]) ?_
    refine lv_iload_n X.1 X.2.1 dX5_sidesSeen_36 rfl (lv_at hl 3 rfl) ?_
    obtain rfl := Option.some.inj h
    rw [hAA] at V
    rw [hQQ]
    exact k_iret X V rfl dX5_sidesSeen_37

def p_X5_seenFrom_L2 (zT : tX5) (v1 : Int32) (v2 : Int32) (s : Int32) : Option (Nat × (Int32)) :=
  kif (zT.2.2.2 ≤ s) (some (50, s)) (kb (p_X5_turn zT s v1 v2) (fun x1 => kif (0 ≤ (lg_cmp x1 (0 : Int64))) (kl (s + (1 : Int32)) (fun y2 => some (2, y2))) (kb (p_X5_before zT s) (fun x3 => kb (p_X5_turn zT x3 v1 v2) (fun x4 => kif ((lg_cmp x4 (0 : Int64)) < 0) (kl (s + (1 : Int32)) (fun y5 => some (2, y5))) (some (38, s)))))))
def p_X5_seenFrom (zT : tX5) (v1 : Int32) (v2 : Int32) : Option (Int32) :=
  kb (kitr 2 (fun q => p_X5_seenFrom_L2 zT v1 v2 q) kF (0 : Int32)) (fun x6 => kif (x6.1 = 38) (kb (p_X5_number zT x6.2) (fun x7 => some x7)) (kg (x6.1 = 50) (some (-1 : Int32))))
set_option maxHeartbeats 4000000 in
set_option maxRecDepth 100000 in
theorem c_X5_seenFrom (l : Launch) (D : va_G) (g : kG) (aT : Nat → Nat) (zT : tX5) (v1 : Int32) (v2 : Int32) (r : Int32) (h : p_X5_seenFrom zT v1 v2 = some r) : kMi l yX5_seenFrom cX5_seenFrom 4 (some .int) (kR 3 65) D (kty g) [.ref (aT 0), .int v1, .int v2] (List.flatten [gX5 g aT zT]) r (List.flatten [gX5 g aT zT]) := by
  intro sz
  refine k_enter (lv := [(0, .ref (aT 0)), (1, .int v1), (2, .int v2)]) RX5 (by decide +kernel) rfl rfl (Nat.le_of_ble_eq_true rfl) ?_
  intro p en s m args below meth c ls hsz X V hl
  obtain ⟨QQ, hQQ⟩ : ∃ q, q = MQ below (va_Qi (fun r' (_ : Unit) => r' = r) (fun _ => kE D (List.flatten [gX5 g aT zT])) (va_A (List.flatten [gX5 g aT zT]) sz)) args s 0 0 (va_A (List.flatten [gX5 g aT zT]) sz) := ⟨_, rfl⟩
  rw [← hQQ]
  obtain ⟨AA, hAA⟩ : ∃ q, q = va_A (List.flatten [gX5 g aT zT]) sz := ⟨_, rfl⟩
  rw [← hAA] at V
  unfold p_X5_seenFrom at h
  refine lv_iconst (v := (0 : Int32)) X.1 X.2.1 dX5_seenFrom_0 (by decide) ?_
  refine lv_istore_n (lv' := [(3, .int (0 : Int32)), (0, .ref (aT 0)), (1, .int v1), (2, .int v2)]) X.1 X.2.1 dX5_seenFrom_1 rfl hl (by decide) rfl (fun ls hl => ?_)
  obtain ⟨x8, hx8, h⟩ := kb_of h
  refine (kitr_go (hd := 2) (body := fun q => p_X5_seenFrom_L2 zT v1 v2 q) (G := (fun e => ∀ (H : Heap) (locs : List Loc) (ls : Array Slot), kW D AA s.heap H (List.flatten [gX5 g aT zT]) locs → lv_has ls 4 [(0, .ref (aT 0)), (1, .int v1), (2, .int v2), (3, .int e.2)] → W p l en (kR 3 65) s m args below meth c H locs 0 0 QQ (F0 m e.1 ls []))) (fun s9 e10 hb11 hG12 => ?_) kF _ x8 hx8 ?_) _ _ _ V (lv_sub hl [1, 2, 3, 0] rfl)
  · intro H locs ls V hl
    show W p l en (kR 3 65) s m args below meth c H locs 0 0 QQ (F0 m 2 ls [])
    have h : p_X5_seenFrom_L2 zT v1 v2 s9 = some e10 := hb11
    unfold p_X5_seenFrom_L2 at h
    have V : kW D AA s.heap H (List.flatten [gX5 g aT zT]) locs := V
    have hl : lv_has ls 4 [(0, .ref (aT 0)), (1, .int v1), (2, .int v2), (3, .int s9)] := hl
    refine lv_iload_n X.1 X.2.1 dX5_seenFrom_2 rfl (lv_at hl 3 rfl) ?_
    refine lv_aload_n X.1 X.2.1 dX5_seenFrom_3 rfl (lv_at hl 0 rfl) ?_
    refine gf_X5_23 (i := 0) X V rfl dX5_seenFrom_4 ?_
    refine lv_icmp_ge (tgt := 50) X.1 X.2.1 dX5_seenFrom_7 (by decide) (fun hc => ?_) (fun hc => ?_)
    · replace h := kif_t hc h
      obtain rfl := Option.some.inj h
      exact hG12 _ _ _ V (lv_sub hl [0, 1, 2, 3] rfl)
    · replace h := kif_f hc h
      refine lv_aload_n X.1 X.2.1 dX5_seenFrom_10 rfl (lv_at hl 0 rfl) ?_
      refine lv_iload_n X.1 X.2.1 dX5_seenFrom_11 rfl (lv_at hl 3 rfl) ?_
      refine lv_iload_n X.1 X.2.1 dX5_seenFrom_12 rfl (lv_at hl 1 rfl) ?_
      refine lv_iload_n X.1 X.2.1 dX5_seenFrom_13 rfl (lv_at hl 2 rfl) ?_
      obtain ⟨x13, hx13, h⟩ := kb_of h
      refine s_callVl (segs' := [gX5 g aT zT]) (ci := 5) (i0 := 0) X V (c_X5_turn l D g aT zT s9 v1 v2 x13 hx13) w_X5_53 ⟨Nat.le_of_ble_eq_true rfl, Nat.le_of_ble_eq_true rfl⟩ ⟨Nat.zero_le _, Nat.zero_le _⟩ rfl rfl rfl rfl [0] rfl rfl (kFst_refl _) rfl rfl hl.1 (Nat.le_of_ble_eq_true rfl) dX5_seenFrom_14 (fun H locs V => ?_)
      refine lv_lconst (v := (0 : Int64)) X.1 X.2.1 dX5_seenFrom_17 (by decide) ?_
      refine W.lcmp X.1 X.2.1 dX5_seenFrom_18 ?_
      refine lv_if_ge (tgt := 44) X.1 X.2.1 dX5_seenFrom_19 (by decide) (fun hc => ?_) (fun hc => ?_)
      · replace h := kif_t hc h
        obtain ⟨y14, ey14⟩ : ∃ y : Int32, y = (s9 + (1 : Int32)) := ⟨_, rfl⟩
        replace h := kl_of ey14 h
        refine lv_iinc (v := y14) (lv' := [(3, .int y14), (0, .ref (aT 0)), (1, .int v1), (2, .int v2)]) X.1 X.2.1 dX5_seenFrom_44 hl (k := 3) rfl (by rw [ey14]; rfl) (by decide) rfl (fun ls hl => ?_)
        refine lv_goto (tgt := 2) X.1 X.2.1 dX5_seenFrom_47 (by decide) ?_
        obtain rfl := Option.some.inj h
        exact hG12 _ _ _ V (lv_sub hl [1, 2, 3, 0] rfl)
      · replace h := kif_f hc h
        refine lv_aload_n X.1 X.2.1 dX5_seenFrom_22 rfl (lv_at hl 0 rfl) ?_
        refine lv_aload_n X.1 X.2.1 dX5_seenFrom_23 rfl (lv_at hl 0 rfl) ?_
        refine lv_iload_n X.1 X.2.1 dX5_seenFrom_24 rfl (lv_at hl 3 rfl) ?_
        obtain ⟨x15, hx15, h⟩ := kb_of h
        refine s_callVi (segs' := [gX5 g aT zT]) (ci := 5) (i0 := 0) X V (c_X5_before l D g aT zT s9 x15 hx15) w_X5_112 ⟨Nat.le_of_ble_eq_true rfl, Nat.le_of_ble_eq_true rfl⟩ ⟨Nat.zero_le _, Nat.zero_le _⟩ rfl rfl rfl rfl [0] rfl rfl (kFst_refl _) rfl rfl hl.1 (Nat.le_of_ble_eq_true rfl) dX5_seenFrom_25 (fun H locs V => ?_)
        refine lv_iload_n X.1 X.2.1 dX5_seenFrom_28 rfl (lv_at hl 1 rfl) ?_
        refine lv_iload_n X.1 X.2.1 dX5_seenFrom_29 rfl (lv_at hl 2 rfl) ?_
        obtain ⟨x16, hx16, h⟩ := kb_of h
        refine s_callVl (segs' := [gX5 g aT zT]) (ci := 5) (i0 := 0) X V (c_X5_turn l D g aT zT x15 v1 v2 x16 hx16) w_X5_53 ⟨Nat.le_of_ble_eq_true rfl, Nat.le_of_ble_eq_true rfl⟩ ⟨Nat.zero_le _, Nat.zero_le _⟩ rfl rfl rfl rfl [0] rfl rfl (kFst_refl _) rfl rfl hl.1 (Nat.le_of_ble_eq_true rfl) dX5_seenFrom_30 (fun H locs V => ?_)
        refine lv_lconst (v := (0 : Int64)) X.1 X.2.1 dX5_seenFrom_33 (by decide) ?_
        refine W.lcmp X.1 X.2.1 dX5_seenFrom_34 ?_
        refine lv_if_lt (tgt := 44) X.1 X.2.1 dX5_seenFrom_35 (by decide) (fun hc => ?_) (fun hc => ?_)
        · replace h := kif_t hc h
          obtain ⟨y17, ey17⟩ : ∃ y : Int32, y = (s9 + (1 : Int32)) := ⟨_, rfl⟩
          replace h := kl_of ey17 h
          refine lv_iinc (v := y17) (lv' := [(3, .int y17), (0, .ref (aT 0)), (1, .int v1), (2, .int v2)]) X.1 X.2.1 dX5_seenFrom_44 hl (k := 3) rfl (by rw [ey17]; rfl) (by decide) rfl (fun ls hl => ?_)
          refine lv_goto (tgt := 2) X.1 X.2.1 dX5_seenFrom_47 (by decide) ?_
          obtain rfl := Option.some.inj h
          exact hG12 _ _ _ V (lv_sub hl [1, 2, 3, 0] rfl)
        · replace h := kif_f hc h
          obtain rfl := Option.some.inj h
          exact hG12 _ _ _ V (lv_sub hl [0, 1, 2, 3] rfl)
  · intro H locs ls V hl
    have V : kW D AA s.heap H (List.flatten [gX5 g aT zT]) locs := V
    have hl : lv_has ls 4 [(0, .ref (aT 0)), (1, .int v1), (2, .int v2), (3, .int x8.2)] := hl
    by_cases hc : x8.1 = 38
    · replace h := kif_t hc h
      refine W.eq (g2 := F0 m 38 ls []) (by rw [hc]) ?_
      refine lv_aload_n X.1 X.2.1 dX5_seenFrom_38 rfl (lv_at hl 0 rfl) ?_
      refine lv_iload_n X.1 X.2.1 dX5_seenFrom_39 rfl (lv_at hl 3 rfl) ?_
      obtain ⟨x18, hx18, h⟩ := kb_of h
      refine s_callVi (segs' := [gX5 g aT zT]) (ci := 5) (i0 := 0) X V (c_X5_number l D g aT zT x8.2 x18 hx18) w_X5_82 ⟨Nat.le_of_ble_eq_true rfl, Nat.le_of_ble_eq_true rfl⟩ ⟨Nat.zero_le _, Nat.zero_le _⟩ rfl rfl rfl rfl [0] rfl rfl (kFst_refl _) rfl rfl hl.1 (Nat.le_of_ble_eq_true rfl) dX5_seenFrom_40 (fun H locs V => ?_)
      obtain rfl := Option.some.inj h
      rw [hAA] at V
      rw [hQQ]
      exact k_iret X V rfl dX5_seenFrom_43
    · replace h := kif_f hc h
      obtain ⟨hc, h⟩ := kg_of h
      refine W.eq (g2 := F0 m 50 ls []) (by rw [hc]) ?_
      refine lv_iconst (v := (-1 : Int32)) X.1 X.2.1 dX5_seenFrom_50 (by decide) ?_
      obtain rfl := Option.some.inj h
      rw [hAA] at V
      rw [hQQ]
      exact k_iret X V rfl dX5_seenFrom_51

def p_X5_seenTo_L2 (zT : tX5) (v1 : Int32) (v2 : Int32) (s : Int32) : Option (Nat × (Int32)) :=
  kif (zT.2.2.2 ≤ s) (some (50, s)) (kb (p_X5_turn zT s v1 v2) (fun x1 => kif ((lg_cmp x1 (0 : Int64)) < 0) (kl (s + (1 : Int32)) (fun y2 => some (2, y2))) (kb (p_X5_before zT s) (fun x3 => kb (p_X5_turn zT x3 v1 v2) (fun x4 => kif (0 ≤ (lg_cmp x4 (0 : Int64))) (kl (s + (1 : Int32)) (fun y5 => some (2, y5))) (some (38, s)))))))
def p_X5_seenTo (zT : tX5) (v1 : Int32) (v2 : Int32) : Option (Int32) :=
  kb (kitr 2 (fun q => p_X5_seenTo_L2 zT v1 v2 q) kF (0 : Int32)) (fun x6 => kif (x6.1 = 38) (kb (p_X5_number zT x6.2) (fun x7 => some x7)) (kg (x6.1 = 50) (some (-1 : Int32))))
set_option maxHeartbeats 4000000 in
set_option maxRecDepth 100000 in
theorem c_X5_seenTo (l : Launch) (D : va_G) (g : kG) (aT : Nat → Nat) (zT : tX5) (v1 : Int32) (v2 : Int32) (r : Int32) (h : p_X5_seenTo zT v1 v2 = some r) : kMi l yX5_seenTo cX5_seenTo 4 (some .int) (kR 3 65) D (kty g) [.ref (aT 0), .int v1, .int v2] (List.flatten [gX5 g aT zT]) r (List.flatten [gX5 g aT zT]) := by
  intro sz
  refine k_enter (lv := [(0, .ref (aT 0)), (1, .int v1), (2, .int v2)]) RX5 (by decide +kernel) rfl rfl (Nat.le_of_ble_eq_true rfl) ?_
  intro p en s m args below meth c ls hsz X V hl
  obtain ⟨QQ, hQQ⟩ : ∃ q, q = MQ below (va_Qi (fun r' (_ : Unit) => r' = r) (fun _ => kE D (List.flatten [gX5 g aT zT])) (va_A (List.flatten [gX5 g aT zT]) sz)) args s 0 0 (va_A (List.flatten [gX5 g aT zT]) sz) := ⟨_, rfl⟩
  rw [← hQQ]
  obtain ⟨AA, hAA⟩ : ∃ q, q = va_A (List.flatten [gX5 g aT zT]) sz := ⟨_, rfl⟩
  rw [← hAA] at V
  unfold p_X5_seenTo at h
  refine lv_iconst (v := (0 : Int32)) X.1 X.2.1 dX5_seenTo_0 (by decide) ?_
  refine lv_istore_n (lv' := [(3, .int (0 : Int32)), (0, .ref (aT 0)), (1, .int v1), (2, .int v2)]) X.1 X.2.1 dX5_seenTo_1 rfl hl (by decide) rfl (fun ls hl => ?_)
  obtain ⟨x8, hx8, h⟩ := kb_of h
  refine (kitr_go (hd := 2) (body := fun q => p_X5_seenTo_L2 zT v1 v2 q) (G := (fun e => ∀ (H : Heap) (locs : List Loc) (ls : Array Slot), kW D AA s.heap H (List.flatten [gX5 g aT zT]) locs → lv_has ls 4 [(0, .ref (aT 0)), (1, .int v1), (2, .int v2), (3, .int e.2)] → W p l en (kR 3 65) s m args below meth c H locs 0 0 QQ (F0 m e.1 ls []))) (fun s9 e10 hb11 hG12 => ?_) kF _ x8 hx8 ?_) _ _ _ V (lv_sub hl [1, 2, 3, 0] rfl)
  · intro H locs ls V hl
    show W p l en (kR 3 65) s m args below meth c H locs 0 0 QQ (F0 m 2 ls [])
    have h : p_X5_seenTo_L2 zT v1 v2 s9 = some e10 := hb11
    unfold p_X5_seenTo_L2 at h
    have V : kW D AA s.heap H (List.flatten [gX5 g aT zT]) locs := V
    have hl : lv_has ls 4 [(0, .ref (aT 0)), (1, .int v1), (2, .int v2), (3, .int s9)] := hl
    refine lv_iload_n X.1 X.2.1 dX5_seenTo_2 rfl (lv_at hl 3 rfl) ?_
    refine lv_aload_n X.1 X.2.1 dX5_seenTo_3 rfl (lv_at hl 0 rfl) ?_
    refine gf_X5_23 (i := 0) X V rfl dX5_seenTo_4 ?_
    refine lv_icmp_ge (tgt := 50) X.1 X.2.1 dX5_seenTo_7 (by decide) (fun hc => ?_) (fun hc => ?_)
    · replace h := kif_t hc h
      obtain rfl := Option.some.inj h
      exact hG12 _ _ _ V (lv_sub hl [0, 1, 2, 3] rfl)
    · replace h := kif_f hc h
      refine lv_aload_n X.1 X.2.1 dX5_seenTo_10 rfl (lv_at hl 0 rfl) ?_
      refine lv_iload_n X.1 X.2.1 dX5_seenTo_11 rfl (lv_at hl 3 rfl) ?_
      refine lv_iload_n X.1 X.2.1 dX5_seenTo_12 rfl (lv_at hl 1 rfl) ?_
      refine lv_iload_n X.1 X.2.1 dX5_seenTo_13 rfl (lv_at hl 2 rfl) ?_
      obtain ⟨x13, hx13, h⟩ := kb_of h
      refine s_callVl (segs' := [gX5 g aT zT]) (ci := 5) (i0 := 0) X V (c_X5_turn l D g aT zT s9 v1 v2 x13 hx13) w_X5_53 ⟨Nat.le_of_ble_eq_true rfl, Nat.le_of_ble_eq_true rfl⟩ ⟨Nat.zero_le _, Nat.zero_le _⟩ rfl rfl rfl rfl [0] rfl rfl (kFst_refl _) rfl rfl hl.1 (Nat.le_of_ble_eq_true rfl) dX5_seenTo_14 (fun H locs V => ?_)
      refine lv_lconst (v := (0 : Int64)) X.1 X.2.1 dX5_seenTo_17 (by decide) ?_
      refine W.lcmp X.1 X.2.1 dX5_seenTo_18 ?_
      refine lv_if_lt (tgt := 44) X.1 X.2.1 dX5_seenTo_19 (by decide) (fun hc => ?_) (fun hc => ?_)
      · replace h := kif_t hc h
        obtain ⟨y14, ey14⟩ : ∃ y : Int32, y = (s9 + (1 : Int32)) := ⟨_, rfl⟩
        replace h := kl_of ey14 h
        refine lv_iinc (v := y14) (lv' := [(3, .int y14), (0, .ref (aT 0)), (1, .int v1), (2, .int v2)]) X.1 X.2.1 dX5_seenTo_44 hl (k := 3) rfl (by rw [ey14]; rfl) (by decide) rfl (fun ls hl => ?_)
        refine lv_goto (tgt := 2) X.1 X.2.1 dX5_seenTo_47 (by decide) ?_
        obtain rfl := Option.some.inj h
        exact hG12 _ _ _ V (lv_sub hl [1, 2, 3, 0] rfl)
      · replace h := kif_f hc h
        refine lv_aload_n X.1 X.2.1 dX5_seenTo_22 rfl (lv_at hl 0 rfl) ?_
        refine lv_aload_n X.1 X.2.1 dX5_seenTo_23 rfl (lv_at hl 0 rfl) ?_
        refine lv_iload_n X.1 X.2.1 dX5_seenTo_24 rfl (lv_at hl 3 rfl) ?_
        obtain ⟨x15, hx15, h⟩ := kb_of h
        refine s_callVi (segs' := [gX5 g aT zT]) (ci := 5) (i0 := 0) X V (c_X5_before l D g aT zT s9 x15 hx15) w_X5_112 ⟨Nat.le_of_ble_eq_true rfl, Nat.le_of_ble_eq_true rfl⟩ ⟨Nat.zero_le _, Nat.zero_le _⟩ rfl rfl rfl rfl [0] rfl rfl (kFst_refl _) rfl rfl hl.1 (Nat.le_of_ble_eq_true rfl) dX5_seenTo_25 (fun H locs V => ?_)
        refine lv_iload_n X.1 X.2.1 dX5_seenTo_28 rfl (lv_at hl 1 rfl) ?_
        refine lv_iload_n X.1 X.2.1 dX5_seenTo_29 rfl (lv_at hl 2 rfl) ?_
        obtain ⟨x16, hx16, h⟩ := kb_of h
        refine s_callVl (segs' := [gX5 g aT zT]) (ci := 5) (i0 := 0) X V (c_X5_turn l D g aT zT x15 v1 v2 x16 hx16) w_X5_53 ⟨Nat.le_of_ble_eq_true rfl, Nat.le_of_ble_eq_true rfl⟩ ⟨Nat.zero_le _, Nat.zero_le _⟩ rfl rfl rfl rfl [0] rfl rfl (kFst_refl _) rfl rfl hl.1 (Nat.le_of_ble_eq_true rfl) dX5_seenTo_30 (fun H locs V => ?_)
        refine lv_lconst (v := (0 : Int64)) X.1 X.2.1 dX5_seenTo_33 (by decide) ?_
        refine W.lcmp X.1 X.2.1 dX5_seenTo_34 ?_
        refine lv_if_ge (tgt := 44) X.1 X.2.1 dX5_seenTo_35 (by decide) (fun hc => ?_) (fun hc => ?_)
        · replace h := kif_t hc h
          obtain ⟨y17, ey17⟩ : ∃ y : Int32, y = (s9 + (1 : Int32)) := ⟨_, rfl⟩
          replace h := kl_of ey17 h
          refine lv_iinc (v := y17) (lv' := [(3, .int y17), (0, .ref (aT 0)), (1, .int v1), (2, .int v2)]) X.1 X.2.1 dX5_seenTo_44 hl (k := 3) rfl (by rw [ey17]; rfl) (by decide) rfl (fun ls hl => ?_)
          refine lv_goto (tgt := 2) X.1 X.2.1 dX5_seenTo_47 (by decide) ?_
          obtain rfl := Option.some.inj h
          exact hG12 _ _ _ V (lv_sub hl [1, 2, 3, 0] rfl)
        · replace h := kif_f hc h
          obtain rfl := Option.some.inj h
          exact hG12 _ _ _ V (lv_sub hl [0, 1, 2, 3] rfl)
  · intro H locs ls V hl
    have V : kW D AA s.heap H (List.flatten [gX5 g aT zT]) locs := V
    have hl : lv_has ls 4 [(0, .ref (aT 0)), (1, .int v1), (2, .int v2), (3, .int x8.2)] := hl
    by_cases hc : x8.1 = 38
    · replace h := kif_t hc h
      refine W.eq (g2 := F0 m 38 ls []) (by rw [hc]) ?_
      refine lv_aload_n X.1 X.2.1 dX5_seenTo_38 rfl (lv_at hl 0 rfl) ?_
      refine lv_iload_n X.1 X.2.1 dX5_seenTo_39 rfl (lv_at hl 3 rfl) ?_
      obtain ⟨x18, hx18, h⟩ := kb_of h
      refine s_callVi (segs' := [gX5 g aT zT]) (ci := 5) (i0 := 0) X V (c_X5_number l D g aT zT x8.2 x18 hx18) w_X5_82 ⟨Nat.le_of_ble_eq_true rfl, Nat.le_of_ble_eq_true rfl⟩ ⟨Nat.zero_le _, Nat.zero_le _⟩ rfl rfl rfl rfl [0] rfl rfl (kFst_refl _) rfl rfl hl.1 (Nat.le_of_ble_eq_true rfl) dX5_seenTo_40 (fun H locs V => ?_)
      obtain rfl := Option.some.inj h
      rw [hAA] at V
      rw [hQQ]
      exact k_iret X V rfl dX5_seenTo_43
    · replace h := kif_f hc h
      obtain ⟨hc, h⟩ := kg_of h
      refine W.eq (g2 := F0 m 50 ls []) (by rw [hc]) ?_
      refine lv_iconst (v := (-1 : Int32)) X.1 X.2.1 dX5_seenTo_50 (by decide) ?_
      obtain rfl := Option.some.inj h
      rw [hAA] at V
      rw [hQQ]
      exact k_iret X V rfl dX5_seenTo_51
