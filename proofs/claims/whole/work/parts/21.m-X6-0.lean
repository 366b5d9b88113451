def p_X6_takeAway_J17 (v1 : Int32) (v2 : Int32) (zT : tX6) (zT_0 : tX8) : Option (tX6 × tX8) :=
  kb (p_X8_drop zT_0 v1) (fun x1 => some (zT, x1))
def p_X6_takeAway (zT : tX6) (zT_0 : tX8) (v1 : Int32) (v2 : Int32) : Option (tX6 × tX8) :=
  kif (v1 < 0) (p_X6_takeAway_J17 v1 v2 zT zT_0) (kif ((40 : Int32) ≤ v1) (p_X6_takeAway_J17 v1 v2 zT zT_0) (kg (kii v1 40) (kl (upd zT (v1).toNatClampNeg v2) (fun z2 => p_X6_takeAway_J17 v1 v2 z2 zT_0))))
set_option maxHeartbeats 4000000 in
set_option maxRecDepth 100000 in
theorem c_X6_takeAway (l : Launch) (D : va_G) (g : kG) (aT : Nat → Nat) (bT : Nat → Nat → Nat) (zT : tX6) (zT_0 : tX8) (v1 : Int32) (v2 : Int32) (r : tX6 × tX8) (h : p_X6_takeAway zT zT_0 v1 v2 = some r) : kMv l yX6_takeAway cX6_takeAway 3 none (kR 2 45) D (kty g) [.ref (aT 0), .int v1, .int v2] (List.flatten [gX6 g aT bT zT, gX8 g (bT 0) zT_0]) (List.flatten [gX6 g aT bT r.1, gX8 g (bT 0) r.2]) := by
  intro sz
  refine k_enter (lv := [(0, .ref (aT 0)), (1, .int v1), (2, .int v2)]) RX6 (by decide +kernel) rfl rfl (Nat.le_of_ble_eq_true rfl) ?_
  intro p en s m args below meth c ls hsz X V hl
  obtain ⟨QQ, hQQ⟩ : ∃ q, q = MQ below (va_Qv (fun (_ : Unit) => True) (fun _ => kE D (List.flatten [gX6 g aT bT r.1, gX8 g (bT 0) r.2])) (va_A (List.flatten [gX6 g aT bT zT, gX8 g (bT 0) zT_0]) sz)) args s 0 0 (va_A (List.flatten [gX6 g aT bT zT, gX8 g (bT 0) zT_0]) sz) := ⟨_, rfl⟩
  rw [← hQQ]
  obtain ⟨AA, hAA⟩ : ∃ q, q = va_A (List.flatten [gX6 g aT bT zT, gX8 g (bT 0) zT_0]) sz := ⟨_, rfl⟩
  rw [← hAA] at V
  have J17 : ∀ (zT : tX6) (zT_0 : tX8) (H : Heap) (locs : List Loc) (ls : Array Slot), p_X6_takeAway_J17 v1 v2 zT zT_0 = some r → kW D AA s.heap H (List.flatten [gX6 g aT bT zT, gX8 g (bT 0) zT_0]) locs → lv_has ls 3 [(0, .ref (aT 0)), (1, .int v1)] → W p l en (kR 2 45) s m args below meth c H locs 0 0 QQ (F0 m 17 ls []) := by
    intro zT zT_0 H locs ls h V hl
    unfold p_X6_takeAway_J17 at h
    refine lv_aload_n X.1 X.2.1 dX6_takeAway_17 rfl (lv_at hl 0 rfl) ?_
    refine gf_X6_12 (i := 0) X V rfl dX6_takeAway_18 ?_
    refine lv_iload_n X.1 X.2.1 dX6_takeAway_21 rfl (lv_at hl 1 rfl) ?_
    obtain ⟨x3, hx3, h⟩ := kb_of h
    refine s_callVv (segs' := [gX6 g aT bT zT, gX8 g (bT 0) x3]) (ci := 8) (i0 := 0) X V (c_X8_drop l D g (bT 0) zT_0 v1 x3 hx3) w_X6_49 ⟨Nat.le_of_ble_eq_true rfl, Nat.le_of_ble_eq_true rfl⟩ ⟨Nat.zero_le _, Nat.zero_le _⟩ rfl rfl rfl rfl [1] rfl rfl ⟨gX8_fst, trivial⟩ rfl rfl hl.1 (Nat.le_of_ble_eq_true rfl) dX6_takeAway_22 (fun H locs V => ?_)
    obtain rfl := Option.some.inj h
    rw [hAA] at V
    rw [hQQ]
    exact k_vret X V dX6_takeAway_25
  unfold p_X6_takeAway at h
  refine lv_iload_n X.1 X.2.1 dX6_takeAway_0 rfl (lv_at hl 1 rfl) ?_
  refine lv_if_lt (tgt := 17) X.1 X.2.1 dX6_takeAway_1 (by decide) (fun hc => ?_) (fun hc => ?_)
  · replace h := kif_t hc h
    exact J17 zT zT_0 _ _ _ h V (lv_sub hl [0, 1] rfl)
  · replace h := kif_f hc h
    refine lv_iload_n X.1 X.2.1 dX6_takeAway_4 rfl (lv_at hl 1 rfl) ?_
    refine lv_bipush (v := (40 : Int32)) X.1 X.2.1 dX6_takeAway_5 (by decide) ?_
    refine lv_icmp_ge (tgt := 17) X.1 X.2.1 dX6_takeAway_7 (by decide) (fun hc => ?_) (fun hc => ?_)
    · replace h := kif_t hc h
      exact J17 zT zT_0 _ _ _ h V (lv_sub hl [0, 1] rfl)
    · replace h := kif_f hc h
      refine lv_aload_n X.1 X.2.1 dX6_takeAway_10 rfl (lv_at hl 0 rfl) ?_
      refine gf_X6_25 (i := 0) X V rfl dX6_takeAway_11 ?_
      refine lv_iload_n X.1 X.2.1 dX6_takeAway_14 rfl (lv_at hl 1 rfl) ?_
      refine lv_iload_n X.1 X.2.1 dX6_takeAway_15 rfl (lv_at hl 2 rfl) ?_
      obtain ⟨hc, h⟩ := kg_of h
      refine as_X6_2 (i := 0) X V rfl hc dX6_takeAway_16 (fun H locs V => ?_)
      obtain ⟨z4, ez4⟩ : ∃ y, y = (upd zT (v1).toNatClampNeg v2) := ⟨_, rfl⟩
      replace h := kl_of ez4 h
      have V : kW D AA s.heap H (List.flatten [gX6 g aT bT z4, gX8 g (bT 0) zT_0]) locs := by rw [ez4]; exact V
      exact J17 z4 zT_0 _ _ _ h V (lv_sub hl [0, 1] rfl)

def p_X6_peel_L39 (zP1 : tX8) (zT_1 : tX5) (v2 : Int32) (s : Int32 × tX6 × tX8) : Option (Nat × (Int32 × tX6 × tX8)) :=
  kb (p_X5_count zT_1) (fun x4 => kif (x4 ≤ s.1) (some (69, (s.1, s.2.1, s.2.2))) (kb (p_X5_number zT_1 s.1) (fun x5 => kb (p_X6_takeAway s.2.1 s.2.2 x5 v2) (fun x6 => kl (s.1 + (1 : Int32)) (fun y7 => some (39, (y7, x6.1, x6.2)))))))
def p_X6_peel_L10 (zP1 : tX8) (s : Int32 × tX6 × tX8 × tX5) : Option (Nat × (Int32 × tX6 × tX8 × tX5)) :=
  kif ((40 : Int32) ≤ s.1) (some (75, (s.1, s.2.1, s.2.2.1, s.2.2.2))) (kb (p_X8_count s.2.2.1) (fun x2 => kif (x2 ≤ 0) (some (75, (s.1, s.2.1, s.2.2.1, s.2.2.2))) (kb (p_X5_about s.2.2.2 s.2.2.1) (fun x3 => kb (kitr 39 (fun q => p_X6_peel_L39 zP1 x3 s.1 q) kF ((0 : Int32), s.2.1, s.2.2.1)) (fun x8 => kg (x8.1 = 69) (kl (s.1 + (1 : Int32)) (fun y9 => some (10, (y9, x8.2.2.1, x8.2.2.2, x3)))))))))
def p_X6_peel (zT : tX6) (zT_0 : tX8) (zT_1 : tX5) (zP1 : tX8) : Option (Int32 × tX6 × tX8 × tX5) :=
  kb (p_X8_copy zT_0 zP1) (fun x1 => kb (kitr 10 (fun q => p_X6_peel_L10 zP1 q) kF ((0 : Int32), zT, x1, zT_1)) (fun x10 => kg (x10.1 = 75) (some (x10.2.1, x10.2.2.1, x10.2.2.2.1, x10.2.2.2.2))))
set_option maxHeartbeats 4000000 in
set_option maxRecDepth 100000 in
theorem c_X6_peel (l : Launch) (D : va_G) (g : kG) (aT : Nat → Nat) (aP1 : Nat → Nat) (bT : Nat → Nat → Nat) (zT : tX6) (zT_0 : tX8) (zT_1 : tX5) (zP1 : tX8) (r : Int32 × tX6 × tX8 × tX5) (h : p_X6_peel zT zT_0 zT_1 zP1 = some r) : kMi l yX6_peel cX6_peel 4 (some .int) (kR 5 111) D (kty g) [.ref (aT 0), .ref (aP1 0)] (List.flatten [gX6 g aT bT zT, gX8 g (bT 0) zT_0, gX5 g (bT 1) zT_1, gX8 g aP1 zP1]) r.1 (List.flatten [gX6 g aT bT r.2.1, gX8 g (bT 0) r.2.2.1, gX5 g (bT 1) r.2.2.2, gX8 g aP1 zP1]) := by
  intro sz
  refine k_enter (lv := [(0, .ref (aT 0)), (1, .ref (aP1 0))]) RX6 (by decide +kernel) rfl rfl (Nat.le_of_ble_eq_true rfl) ?_
  intro p en s m args below meth c ls hsz X V hl
  obtain ⟨QQ, hQQ⟩ : ∃ q, q = MQ below (va_Qi (fun r' (_ : Unit) => r' = r.1) (fun _ => kE D (List.flatten [gX6 g aT bT r.2.1, gX8 g (bT 0) r.2.2.1, gX5 g (bT 1) r.2.2.2, gX8 g aP1 zP1])) (va_A (List.flatten [gX6 g aT bT zT, gX8 g (bT 0) zT_0, gX5 g (bT 1) zT_1, gX8 g aP1 zP1]) sz)) args s 0 0 (va_A (List.flatten [gX6 g aT bT zT, gX8 g (bT 0) zT_0, gX5 g (bT 1) zT_1, gX8 g aP1 zP1]) sz) := ⟨_, rfl⟩
  rw [← hQQ]
  obtain ⟨AA, hAA⟩ : ∃ q, q = va_A (List.flatten [gX6 g aT bT zT, gX8 g (bT 0) zT_0, gX5 g (bT 1) zT_1, gX8 g aP1 zP1]) sz := ⟨_, rfl⟩
  rw [← hAA] at V
  unfold p_X6_peel at h
  refine lv_iconst (v := (0 : Int32)) X.1 X.2.1 dX6_peel_0 (by decide) ?_
  refine lv_istore_n (lv' := [(2, .int (0 : Int32)), (0, .ref (aT 0)), (1, .ref (aP1 0))]) X.1 X.2.1 dX6_peel_1 rfl hl (by decide) rfl (fun ls hl => ?_)
  refine lv_aload_n X.1 X.2.1 dX6_peel_2 rfl (lv_at hl 1 rfl) ?_
  refine gf_X6_12 (i := 0) X V rfl dX6_peel_3 ?_
  refine lv_aload_n X.1 X.2.1 dX6_peel_6 rfl (lv_at hl 2 rfl) ?_
  obtain ⟨x11, hx11, h⟩ := kb_of h
  refine s_callVv (segs' := [gX6 g aT bT zT, gX8 g (bT 0) x11, gX5 g (bT 1) zT_1, gX8 g aP1 zP1]) (ci := 8) (i0 := 0) X V (c_X8_copy l D g (bT 0) aP1 zT_0 zP1 x11 hx11) w_X6_29 ⟨Nat.le_of_ble_eq_true rfl, Nat.le_of_ble_eq_true rfl⟩ ⟨Nat.zero_le _, Nat.zero_le _⟩ rfl rfl rfl rfl [1, 3] rfl rfl ⟨gX8_fst, rfl, trivial⟩ rfl rfl hl.1 (Nat.le_of_ble_eq_true rfl) dX6_peel_7 (fun H locs V => ?_)
  obtain ⟨x12, hx12, h⟩ := kb_of h
  refine (kitr_go (hd := 10) (body := fun q => p_X6_peel_L10 zP1 q) (G := (fun e => ∀ (H : Heap) (locs : List Loc) (ls : Array Slot), kW D AA s.heap H (List.flatten [gX6 g aT bT e.2.2.1, gX8 g (bT 0) e.2.2.2.1, gX5 g (bT 1) e.2.2.2.2, gX8 g aP1 zP1]) locs → lv_has ls 4 [(0, .ref (aT 0)), (2, .int e.2.1)] → W p l en (kR 5 111) s m args below meth c H locs 0 0 QQ (F0 m e.1 ls []))) (fun s13 e14 hb15 hG16 => ?_) kF _ x12 hx12 ?_) _ _ _ V (lv_sub hl [1, 0] rfl)
  · intro H locs ls V hl
    show W p l en (kR 5 111) s m args below meth c H locs 0 0 QQ (F0 m 10 ls [])
    have h : p_X6_peel_L10 zP1 s13 = some e14 := hb15
    unfold p_X6_peel_L10 at h
    have V : kW D AA s.heap H (List.flatten [gX6 g aT bT s13.2.1, gX8 g (bT 0) s13.2.2.1, gX5 g (bT 1) s13.2.2.2, gX8 g aP1 zP1]) locs := V
    have hl : lv_has ls 4 [(0, .ref (aT 0)), (2, .int s13.1)] := hl
    refine lv_iload_n X.1 X.2.1 dX6_peel_10 rfl (lv_at hl 1 rfl) ?_
    refine lv_bipush (v := (40 : Int32)) X.1 X.2.1 dX6_peel_11 (by decide) ?_
    refine lv_icmp_ge (tgt := 75) X.1 X.2.1 dX6_peel_13 (by decide) (fun hc => ?_) (fun hc => ?_)
    · replace h := kif_t hc h
      obtain rfl := Option.some.inj h
      exact hG16 _ _ _ V (lv_sub hl [0, 1] rfl)
    · replace h := kif_f hc h
      refine lv_aload_n X.1 X.2.1 dX6_peel_16 rfl (lv_at hl 0 rfl) ?_
      refine gf_X6_12 (i := 0) X V rfl dX6_peel_17 ?_
      obtain ⟨x17, hx17, h⟩ := kb_of h
      refine s_callVi (segs' := [gX6 g aT bT s13.2.1, gX8 g (bT 0) s13.2.2.1, gX5 g (bT 1) s13.2.2.2, gX8 g aP1 zP1]) (ci := 8) (i0 := 0) X V (c_X8_count l D g (bT 0) s13.2.2.1 x17 hx17) w_X6_33 ⟨Nat.le_of_ble_eq_true rfl, Nat.le_of_ble_eq_true rfl⟩ ⟨Nat.zero_le _, Nat.zero_le _⟩ rfl rfl rfl rfl [1] rfl rfl (kFst_refl _) rfl rfl hl.1 (Nat.le_of_ble_eq_true rfl) dX6_peel_20 (fun H locs V => ?_)
      refine lv_if_le (tgt := 75) X.1 X.2.1 dX6_peel_23 (by decide) (fun hc => ?_) (fun hc => ?_)
      · replace h := kif_t hc h
        obtain rfl := Option.some.inj h
        exact hG16 _ _ _ V (lv_sub hl [0, 1] rfl)
      · replace h := kif_f hc h
        refine lv_aload_n X.1 X.2.1 dX6_peel_26 rfl (lv_at hl 0 rfl) ?_
        refine gf_X6_21 (i := 0) X V rfl dX6_peel_27 ?_
        refine lv_aload_n X.1 X.2.1 dX6_peel_30 rfl (lv_at hl 0 rfl) ?_
        refine gf_X6_12 (i := 0) X V rfl dX6_peel_31 ?_
        obtain ⟨x18, hx18, h⟩ := kb_of h
        refine s_callVv (segs' := [gX6 g aT bT s13.2.1, gX8 g (bT 0) s13.2.2.1, gX5 g (bT 1) x18, gX8 g aP1 zP1]) (ci := 5) (i0 := 0) X V (c_X5_about l D g (bT 1) (bT 0) s13.2.2.2 s13.2.2.1 x18 hx18) w_X6_37 ⟨Nat.le_of_ble_eq_true rfl, Nat.le_of_ble_eq_true rfl⟩ ⟨Nat.zero_le _, Nat.zero_le _⟩ rfl rfl rfl rfl [2, 1] rfl rfl ⟨gX5_fst, rfl, trivial⟩ rfl rfl hl.1 (Nat.le_of_ble_eq_true rfl) dX6_peel_34 (fun H locs V => ?_)
        refine lv_iconst (v := (0 : Int32)) X.1 X.2.1 dX6_peel_37 (by decide) ?_
        refine lv_istore_n (lv' := [(3, .int (0 : Int32)), (0, .ref (aT 0)), (2, .int s13.1)]) X.1 X.2.1 dX6_peel_38 rfl hl (by decide) rfl (fun ls hl => ?_)
        obtain ⟨x19, hx19, h⟩ := kb_of h
        refine (kitr_go (hd := 39) (body := fun q => p_X6_peel_L39 zP1 x18 s13.1 q) (G := (fun e => ∀ (H : Heap) (locs : List Loc) (ls : Array Slot), kW D AA s.heap H (List.flatten [gX6 g aT bT e.2.2.1, gX8 g (bT 0) e.2.2.2, gX5 g (bT 1) x18, gX8 g aP1 zP1]) locs → lv_has ls 4 [(0, .ref (aT 0)), (2, .int s13.1), (3, .int e.2.1)] → W p l en (kR 5 111) s m args below meth c H locs 0 0 QQ (F0 m e.1 ls []))) (fun s20 e21 hb22 hG23 => ?_) kF _ x19 hx19 ?_) _ _ _ V (lv_sub hl [1, 2, 0] rfl)
        · intro H locs ls V hl
          show W p l en (kR 5 111) s m args below meth c H locs 0 0 QQ (F0 m 39 ls [])
          have h : p_X6_peel_L39 zP1 x18 s13.1 s20 = some e21 := hb22
          unfold p_X6_peel_L39 at h
          have V : kW D AA s.heap H (List.flatten [gX6 g aT bT s20.2.1, gX8 g (bT 0) s20.2.2, gX5 g (bT 1) x18, gX8 g aP1 zP1]) locs := V
          have hl : lv_has ls 4 [(0, .ref (aT 0)), (2, .int s13.1), (3, .int s20.1)] := hl
          refine lv_iload_n X.1 X.2.1 dX6_peel_39 rfl (lv_at hl 2 rfl) ?_
          refine lv_aload_n X.1 X.2.1 dX6_peel_40 rfl (lv_at hl 0 rfl) ?_
          refine gf_X6_21 (i := 0) X V rfl dX6_peel_41 ?_
          obtain ⟨x24, hx24, h⟩ := kb_of h
          refine s_callVi (segs' := [gX6 g aT bT s20.2.1, gX8 g (bT 0) s20.2.2, gX5 g (bT 1) x18, gX8 g aP1 zP1]) (ci := 5) (i0 := 0) X V (c_X5_count l D g (bT 1) x18 x24 hx24) w_X6_40 ⟨Nat.le_of_ble_eq_true rfl, Nat.le_of_ble_eq_true rfl⟩ ⟨Nat.zero_le _, Nat.zero_le _⟩ rfl rfl rfl rfl [2] rfl rfl (kFst_refl _) rfl rfl hl.1 (Nat.le_of_ble_eq_true rfl) dX6_peel_44 (fun H locs V => ?_)
          refine lv_icmp_ge (tgt := 69) X.1 X.2.1 dX6_peel_47 (by decide) (fun hc => ?_) (fun hc => ?_)
          · replace h := kif_t hc h
            obtain rfl := Option.some.inj h
            exact hG23 _ _ _ V (lv_sub hl [0, 1, 2] rfl)
          · replace h := kif_f hc h
            refine lv_aload_n X.1 X.2.1 dX6_peel_50 rfl (lv_at hl 0 rfl) ?_
            refine lv_aload_n X.1 X.2.1 dX6_peel_51 rfl (lv_at hl 0 rfl) ?_
            refine gf_X6_21 (i := 0) X V rfl dX6_peel_52 ?_
            refine lv_iload_n X.1 X.2.1 dX6_peel_55 rfl (lv_at hl 2 rfl) ?_
            obtain ⟨x25, hx25, h⟩ := kb_of h
            refine s_callVi (segs' := [gX6 g aT bT s20.2.1, gX8 g (bT 0) s20.2.2, gX5 g (bT 1) x18, gX8 g aP1 zP1]) (ci := 5) (i0 := 0) X V (c_X5_number l D g (bT 1) x18 s20.1 x25 hx25) w_X6_41 ⟨Nat.le_of_ble_eq_true rfl, Nat.le_of_ble_eq_true rfl⟩ ⟨Nat.zero_le _, Nat.zero_le _⟩ rfl rfl rfl rfl [2] rfl rfl (kFst_refl _) rfl rfl hl.1 (Nat.le_of_ble_eq_true rfl) dX6_peel_56 (fun H locs V => ?_)
            refine lv_iload_n X.1 X.2.1 dX6_peel_59 rfl (lv_at hl 1 rfl) ?_
            obtain ⟨x26, hx26, h⟩ := kb_of h
            refine s_callVv (segs' := [gX6 g aT bT x26.1, gX8 g (bT 0) x26.2, gX5 g (bT 1) x18, gX8 g aP1 zP1]) (ci := 6) (i0 := 0) X V (c_X6_takeAway l D g aT bT s20.2.1 s20.2.2 x25 s13.1 x26 hx26) w_X6_45 ⟨Nat.le_of_ble_eq_true rfl, Nat.le_of_ble_eq_true rfl⟩ ⟨Nat.zero_le _, Nat.zero_le _⟩ rfl rfl rfl rfl [0, 1] rfl rfl ⟨gX6_fst, gX8_fst, trivial⟩ rfl rfl hl.1 (Nat.le_of_ble_eq_true rfl) dX6_peel_60 (fun H locs V => ?_)
            obtain ⟨y27, ey27⟩ : ∃ y : Int32, y = (s20.1 + (1 : Int32)) := ⟨_, rfl⟩
            replace h := kl_of ey27 h
            refine lv_iinc (v := y27) (lv' := [(3, .int y27), (0, .ref (aT 0)), (2, .int s13.1)]) X.1 X.2.1 dX6_peel_63 hl (k := 2) rfl (by rw [ey27]; rfl) (by decide) rfl (fun ls hl => ?_)
            refine lv_goto (tgt := 39) X.1 X.2.1 dX6_peel_66 (by decide) ?_
            obtain rfl := Option.some.inj h
            exact hG23 _ _ _ V (lv_sub hl [1, 2, 0] rfl)
        · intro H locs ls V hl
          have V : kW D AA s.heap H (List.flatten [gX6 g aT bT x19.2.2.1, gX8 g (bT 0) x19.2.2.2, gX5 g (bT 1) x18, gX8 g aP1 zP1]) locs := V
          have hl : lv_has ls 4 [(0, .ref (aT 0)), (2, .int s13.1), (3, .int x19.2.1)] := hl
          obtain ⟨hc, h⟩ := kg_of h
          refine W.eq (g2 := F0 m 69 ls []) (by rw [hc]) ?_
          obtain ⟨y28, ey28⟩ : ∃ y : Int32, y = (s13.1 + (1 : Int32)) := ⟨_, rfl⟩
          replace h := kl_of ey28 h
          refine lv_iinc (v := y28) (lv' := [(2, .int y28), (0, .ref (aT 0)), (3, .int x19.2.1)]) X.1 X.2.1 dX6_peel_69 hl (k := 1) rfl (by rw [ey28]; rfl) (by decide) rfl (fun ls hl => ?_)
          refine lv_goto (tgt := 10) X.1 X.2.1 dX6_peel_72 (by decide) ?_
          obtain rfl := Option.some.inj h
          exact hG16 _ _ _ V (lv_sub hl [1, 0] rfl)
  · intro H locs ls V hl
    have V : kW D AA s.heap H (List.flatten [gX6 g aT bT x12.2.2.1, gX8 g (bT 0) x12.2.2.2.1, gX5 g (bT 1) x12.2.2.2.2, gX8 g aP1 zP1]) locs := V
    have hl : lv_has ls 4 [(0, .ref (aT 0)), (2, .int x12.2.1)] := hl
    obtain ⟨hc, h⟩ := kg_of h
    refine W.eq (g2 := F0 m 75 ls []) (by rw [hc]) ?_
    refine lv_iload_n X.1 X.2.1 dX6_peel_75 rfl (lv_at hl 1 rfl) ?_
    obtain rfl := Option.some.inj h
    rw [hAA] at V
    rw [hQQ]
    exact k_iret X V rfl dX6_peel_76

def p_X6_layerOf (zT : tX6) (v1 : Int32) : Option (Int32) :=
  kif (v1 < 0) (some (-1 : Int32)) (kif ((40 : Int32) ≤ v1) (some (-1 : Int32)) (kg (kii v1 40) (some ((zT v1.toNatClampNeg)))))
set_option maxHeartbeats 4000000 in
set_option maxRecDepth 100000 in
theorem c_X6_layerOf (l : Launch) (D : va_G) (g : kG) (aT : Nat → Nat) (bT : Nat → Nat → Nat) (zT : tX6) (v1 : Int32) (r : Int32) (h : p_X6_layerOf zT v1 = some r) : kMi l yX6_layerOf cX6_layerOf 2 (some .int) (kR 0 0) D (kty g) [.ref (aT 0), .int v1] (List.flatten [gX6 g aT bT zT]) r (List.flatten [gX6 g aT bT zT]) := by
  intro sz
  refine k_enter (lv := [(0, .ref (aT 0)), (1, .int v1)]) RX6 (by decide +kernel) rfl rfl (Nat.le_of_ble_eq_true rfl) ?_
  intro p en s m args below meth c ls hsz X V hl
  obtain ⟨QQ, hQQ⟩ : ∃ q, q = MQ below (va_Qi (fun r' (_ : Unit) => r' = r) (fun _ => kE D (List.flatten [gX6 g aT bT zT])) (va_A (List.flatten [gX6 g aT bT zT]) sz)) args s 0 0 (va_A (List.flatten [gX6 g aT bT zT]) sz) := ⟨_, rfl⟩
  rw [← hQQ]
  obtain ⟨AA, hAA⟩ : ∃ q, q = va_A (List.flatten [gX6 g aT bT zT]) sz := ⟨_, rfl⟩
  rw [← hAA] at V
  unfold p_X6_layerOf at h
  refine lv_iload_n X.1 X.2.1 dX6_layerOf_0 rfl (lv_at hl 1 rfl) ?_
  refine lv_if_lt (tgt := 19) X.1 X.2.1 dX6_layerOf_1 (by decide) (fun hc => ?_) (fun hc => ?_)
  · replace h := kif_t hc h
    refine lv_iconst (v := (-1 : Int32)) X.1 X.2.1 dX6_layerOf_19 (by decide) ?_
    obtain rfl := Option.some.inj h
    rw [hAA] at V
    rw [hQQ]
    exact k_iret X V rfl dX6_layerOf_20
  · replace h := kif_f hc h
    refine lv_iload_n X.1 X.2.1 dX6_layerOf_4 rfl (lv_at hl 1 rfl) ?_
    refine lv_bipush (v := (40 : Int32)) X.1 X.2.1 dX6_layerOf_5 (by decide) ?_
    refine lv_icmp_ge (tgt := 19) X.1 X.2.1 dX6_layerOf_7 (by decide) (fun hc => ?_) (fun hc => ?_)
    · replace h := kif_t hc h
      refine lv_iconst (v := (-1 : Int32)) X.1 X.2.1 dX6_layerOf_19 (by decide) ?_
      obtain rfl := Option.some.inj h
      rw [hAA] at V
      rw [hQQ]
      exact k_iret X V rfl dX6_layerOf_20
    · replace h := kif_f hc h
      refine lv_aload_n X.1 X.2.1 dX6_layerOf_10 rfl (lv_at hl 0 rfl) ?_
      refine gf_X6_25 (i := 0) X V rfl dX6_layerOf_11 ?_
      refine lv_iload_n X.1 X.2.1 dX6_layerOf_14 rfl (lv_at hl 1 rfl) ?_
      obtain ⟨hc, h⟩ := kg_of h
      refine al_X6_2 (i := 0) X V rfl hc dX6_layerOf_15 ?_
      refine lv_goto (tgt := 20) X.1 X.2.1 dX6_layerOf_16 (by decide) ?_
      obtain rfl := Option.some.inj h
      rw [hAA] at V
      rw [hQQ]
      exact k_iret X V rfl dX6_layerOf_20
