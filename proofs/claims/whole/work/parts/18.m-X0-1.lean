def p_X0_countOnRim_L4 (zT : tX0) (zP1 : tX8) (s : Int32 × Int32) : Option (Nat × (Int32 × Int32)) :=
  kb (p_X8_count zP1) (fun x1 => kif (x1 ≤ s.2) (some (38, (s.1, s.2))) (kb (p_X8_x zP1 s.2) (fun x2 => kb (p_X8_y zP1 s.2) (fun x3 => kb (p_X0_side zT x2 x3) (fun x4 => kif (x4 = 0) (kl (s.1 + (1 : Int32)) (fun y5 => kl (s.2 + (1 : Int32)) (fun y6 => some (4, (y5, y6))))) (kl (s.2 + (1 : Int32)) (fun y7 => some (4, (s.1, y7)))))))))
def p_X0_countOnRim (zT : tX0) (zP1 : tX8) : Option (Int32) :=
  kb (kitr 4 (fun q => p_X0_countOnRim_L4 zT zP1 q) kF ((0 : Int32), (0 : Int32))) (fun x8 => kg (x8.1 = 38) (some x8.2.1))
set_option maxHeartbeats 4000000 in
set_option maxRecDepth 100000 in
theorem c_X0_countOnRim (l : Launch) (D : va_G) (g : kG) (aT : Nat → Nat) (aP1 : Nat → Nat) (zT : tX0) (zP1 : tX8) (r : Int32) (h : p_X0_countOnRim zT zP1 = some r) : kMi l yX0_countOnRim cX0_countOnRim 4 (some .int) (kR 2 49) D (kty g) [.ref (aT 0), .ref (aP1 0)] (List.flatten [gX0 g aT zT, gX8 g aP1 zP1]) r (List.flatten [gX0 g aT zT, gX8 g aP1 zP1]) := by
  intro sz
  refine k_enter (lv := [(0, .ref (aT 0)), (1, .ref (aP1 0))]) RX0 (by decide +kernel) rfl rfl (Nat.le_of_ble_eq_true rfl) ?_
  intro p en s m args below meth c ls hsz X V hl
  obtain ⟨QQ, hQQ⟩ : ∃ q, q = MQ below (va_Qi (fun r' (_ : Unit) => r' = r) (fun _ => kE D (List.flatten [gX0 g aT zT, gX8 g aP1 zP1])) (va_A (List.flatten [gX0 g aT zT, gX8 g aP1 zP1]) sz)) args s 0 0 (va_A (List.flatten [gX0 g aT zT, gX8 g aP1 zP1]) sz) := ⟨_, rfl⟩
  rw [← hQQ]
  obtain ⟨AA, hAA⟩ : ∃ q, q = va_A (List.flatten [gX0 g aT zT, gX8 g aP1 zP1]) sz := ⟨_, rfl⟩
  rw [← hAA] at V
  unfold p_X0_countOnRim at h
  refine lv_iconst (v := (0 : Int32)) X.1 X.2.1 dX0_countOnRim_0 (by decide) ?_
  refine lv_istore_n (lv' := [(2, .int (0 : Int32)), (0, .ref (aT 0)), (1, .ref (aP1 0))]) X.1 X.2.1 dX0_countOnRim_1 rfl hl (by decide) rfl (fun ls hl => ?_)
  refine lv_iconst (v := (0 : Int32)) X.1 X.2.1 dX0_countOnRim_2 (by decide) ?_
  refine lv_istore_n (lv' := [(3, .int (0 : Int32)), (2, .int (0 : Int32)), (0, .ref (aT 0)), (1, .ref (aP1 0))]) X.1 X.2.1 dX0_countOnRim_3 rfl hl (by decide) rfl (fun ls hl => ?_)
  obtain ⟨x9, hx9, h⟩ := kb_of h
  refine (kitr_go (hd := 4) (body := fun q => p_X0_countOnRim_L4 zT zP1 q) (G := (fun e => ∀ (H : Heap) (locs : List Loc) (ls : Array Slot), kW D AA s.heap H (List.flatten [gX0 g aT zT, gX8 g aP1 zP1]) locs → lv_has ls 4 [(0, .ref (aT 0)), (1, .ref (aP1 0)), (2, .int e.2.1), (3, .int e.2.2)] → W p l en (kR 2 49) s m args below meth c H locs 0 0 QQ (F0 m e.1 ls []))) (fun s10 e11 hb12 hG13 => ?_) kF _ x9 hx9 ?_) _ _ _ V (lv_sub hl [2, 3, 1, 0] rfl)
  · intro H locs ls V hl
    show W p l en (kR 2 49) s m args below meth c H locs 0 0 QQ (F0 m 4 ls [])
    have h : p_X0_countOnRim_L4 zT zP1 s10 = some e11 := hb12
    unfold p_X0_countOnRim_L4 at h
    have V : kW D AA s.heap H (List.flatten [gX0 g aT zT, gX8 g aP1 zP1]) locs := V
    have hl : lv_has ls 4 [(0, .ref (aT 0)), (1, .ref (aP1 0)), (2, .int s10.1), (3, .int s10.2)] := hl
    refine lv_iload_n X.1 X.2.1 dX0_countOnRim_4 rfl (lv_at hl 3 rfl) ?_
    refine lv_aload_n X.1 X.2.1 dX0_countOnRim_5 rfl (lv_at hl 1 rfl) ?_
    obtain ⟨x14, hx14, h⟩ := kb_of h
    refine s_callVi (segs' := [gX0 g aT zT, gX8 g aP1 zP1]) (ci := 8) (i0 := 0) X V (c_X8_count l D g aP1 zP1 x14 hx14) w_X0_28 ⟨Nat.le_of_ble_eq_true rfl, Nat.le_of_ble_eq_true rfl⟩ ⟨Nat.zero_le _, Nat.zero_le _⟩ rfl rfl rfl rfl [1] rfl rfl (kFst_refl _) rfl rfl hl.1 (Nat.le_of_ble_eq_true rfl) dX0_countOnRim_6 (fun H locs V => ?_)
    refine lv_icmp_ge (tgt := 38) X.1 X.2.1 dX0_countOnRim_9 (by decide) (fun hc => ?_) (fun hc => ?_)
    · replace h := kif_t hc h
      obtain rfl := Option.some.inj h
      exact hG13 _ _ _ V (lv_sub hl [0, 1, 2, 3] rfl)
    · replace h := kif_f hc h
      refine lv_aload_n X.1 X.2.1 dX0_countOnRim_12 rfl (lv_at hl 0 rfl) ?_
      refine lv_aload_n X.1 X.2.1 dX0_countOnRim_13 rfl (lv_at hl 1 rfl) ?_
      refine lv_iload_n X.1 X.2.1 dX0_countOnRim_14 rfl (lv_at hl 3 rfl) ?_
      obtain ⟨x15, hx15, h⟩ := kb_of h
      refine s_callVi (segs' := [gX0 g aT zT, gX8 g aP1 zP1]) (ci := 8) (i0 := 0) X V (c_X8_x l D g aP1 zP1 s10.2 x15 hx15) w_X0_50 ⟨Nat.le_of_ble_eq_true rfl, Nat.le_of_ble_eq_true rfl⟩ ⟨Nat.zero_le _, Nat.zero_le _⟩ rfl rfl rfl rfl [1] rfl rfl (kFst_refl _) rfl rfl hl.1 (Nat.le_of_ble_eq_true rfl) dX0_countOnRim_15 (fun H locs V => ?_)
      refine lv_aload_n X.1 X.2.1 dX0_countOnRim_18 rfl (lv_at hl 1 rfl) ?_
      refine lv_iload_n X.1 X.2.1 dX0_countOnRim_19 rfl (lv_at hl 3 rfl) ?_
      obtain ⟨x16, hx16, h⟩ := kb_of h
      refine s_callVi (segs' := [gX0 g aT zT, gX8 g aP1 zP1]) (ci := 8) (i0 := 0) X V (c_X8_y l D g aP1 zP1 s10.2 x16 hx16) w_X0_54 ⟨Nat.le_of_ble_eq_true rfl, Nat.le_of_ble_eq_true rfl⟩ ⟨Nat.zero_le _, Nat.zero_le _⟩ rfl rfl rfl rfl [1] rfl rfl (kFst_refl _) rfl rfl hl.1 (Nat.le_of_ble_eq_true rfl) dX0_countOnRim_20 (fun H locs V => ?_)
      obtain ⟨x17, hx17, h⟩ := kb_of h
      refine s_callVi (segs' := [gX0 g aT zT, gX8 g aP1 zP1]) (ci := 0) (i0 := 0) X V (c_X0_side l D g aT zT x15 x16 x17 hx17) w_X0_57 ⟨Nat.le_of_ble_eq_true rfl, Nat.le_of_ble_eq_true rfl⟩ ⟨Nat.zero_le _, Nat.zero_le _⟩ rfl rfl rfl rfl [0] rfl rfl (kFst_refl _) rfl rfl hl.1 (Nat.le_of_ble_eq_true rfl) dX0_countOnRim_23 (fun H locs V => ?_)
      refine lv_if_ne (tgt := 32) X.1 X.2.1 dX0_countOnRim_26 (by decide) (fun hc => ?_) (fun hc => ?_)
      · replace h := kif_f hc h
        obtain ⟨y18, ey18⟩ : ∃ y : Int32, y = (s10.2 + (1 : Int32)) := ⟨_, rfl⟩
        replace h := kl_of ey18 h
        refine lv_iinc (v := y18) (lv' := [(3, .int y18), (0, .ref (aT 0)), (1, .ref (aP1 0)), (2, .int s10.1)]) X.1 X.2.1 dX0_countOnRim_32 hl (k := 3) rfl (by rw [ey18]; rfl) (by decide) rfl (fun ls hl => ?_)
        refine lv_goto (tgt := 4) X.1 X.2.1 dX0_countOnRim_35 (by decide) ?_
        obtain rfl := Option.some.inj h
        exact hG13 _ _ _ V (lv_sub hl [1, 2, 3, 0] rfl)
      · replace h := kif_t hc h
        obtain ⟨y19, ey19⟩ : ∃ y : Int32, y = (s10.1 + (1 : Int32)) := ⟨_, rfl⟩
        replace h := kl_of ey19 h
        refine lv_iinc (v := y19) (lv' := [(2, .int y19), (0, .ref (aT 0)), (1, .ref (aP1 0)), (3, .int s10.2)]) X.1 X.2.1 dX0_countOnRim_29 hl (k := 2) rfl (by rw [ey19]; rfl) (by decide) rfl (fun ls hl => ?_)
        obtain ⟨y20, ey20⟩ : ∃ y : Int32, y = (s10.2 + (1 : Int32)) := ⟨_, rfl⟩
        replace h := kl_of ey20 h
        refine lv_iinc (v := y20) (lv' := [(3, .int y20), (2, .int y19), (0, .ref (aT 0)), (1, .ref (aP1 0))]) X.1 X.2.1 dX0_countOnRim_32 hl (k := 3) rfl (by rw [ey20]; rfl) (by decide) rfl (fun ls hl => ?_)
        refine lv_goto (tgt := 4) X.1 X.2.1 dX0_countOnRim_35 (by decide) ?_
        obtain rfl := Option.some.inj h
        exact hG13 _ _ _ V (lv_sub hl [2, 3, 1, 0] rfl)
  · intro H locs ls V hl
    have V : kW D AA s.heap H (List.flatten [gX0 g aT zT, gX8 g aP1 zP1]) locs := V
    have hl : lv_has ls 4 [(0, .ref (aT 0)), (1, .ref (aP1 0)), (2, .int x9.2.1), (3, .int x9.2.2)] := hl
    obtain ⟨hc, h⟩ := kg_of h
    refine W.eq (g2 := F0 m 38 ls []) (by rw [hc]) ?_
    refine lv_iload_n X.1 X.2.1 dX0_countOnRim_38 rfl (lv_at hl 2 rfl) ?_
    obtain rfl := Option.some.inj h
    rw [hAA] at V
    rw [hQQ]
    exact k_iret X V rfl dX0_countOnRim_39

def p_X0_tightCount (zT : tX0) : Option (Int32) :=
  some zT.2.2.2.2.2.2.2.2
set_option maxHeartbeats 4000000 in
set_option maxRecDepth 100000 in
theorem c_X0_tightCount (l : Launch) (D : va_G) (g : kG) (aT : Nat → Nat) (zT : tX0) (r : Int32) (h : p_X0_tightCount zT = some r) : kMi l yX0_tightCount cX0_tightCount 1 (some .int) (kR 0 0) D (kty g) [.ref (aT 0)] (List.flatten [gX0 g aT zT]) r (List.flatten [gX0 g aT zT]) := by
  intro sz
  refine k_enter (lv := [(0, .ref (aT 0))]) RX0 (by decide +kernel) rfl rfl (Nat.le_of_ble_eq_true rfl) ?_
  intro p en s m args below meth c ls hsz X V hl
  obtain ⟨QQ, hQQ⟩ : ∃ q, q = MQ below (va_Qi (fun r' (_ : Unit) => r' = r) (fun _ => kE D (List.flatten [gX0 g aT zT])) (va_A (List.flatten [gX0 g aT zT]) sz)) args s 0 0 (va_A (List.flatten [gX0 g aT zT]) sz) := ⟨_, rfl⟩
  rw [← hQQ]
  obtain ⟨AA, hAA⟩ : ∃ q, q = va_A (List.flatten [gX0 g aT zT]) sz := ⟨_, rfl⟩
  rw [← hAA] at V
  unfold p_X0_tightCount at h
  refine lv_aload_n X.1 X.2.1 dX0_tightCount_0 rfl (lv_at hl 0 rfl) ?_
  refine gf_X0_100 (i := 0) X V rfl dX0_tightCount_1 ?_
  obtain rfl := Option.some.inj h
  rw [hAA] at V
  rw [hQQ]
  exact k_iret X V rfl dX0_tightCount_4

def p_X0_tightNumber (zT : tX0) (v1 : Int32) : Option (Int32) :=
  kif (v1 < 0) (some (-1 : Int32)) (kif (zT.2.2.2.2.2.2.2.2 ≤ v1) (some (-1 : Int32)) (kif ((3 : Int32) ≤ v1) (some (-1 : Int32)) (kg (kii v1 3) (some ((zT.2.2.2.2.2.2.2.1 v1.toNatClampNeg))))))
set_option maxHeartbeats 4000000 in
set_option maxRecDepth 100000 in
theorem c_X0_tightNumber (l : Launch) (D : va_G) (g : kG) (aT : Nat → Nat) (zT : tX0) (v1 : Int32) (r : Int32) (h : p_X0_tightNumber zT v1 = some r) : kMi l yX0_tightNumber cX0_tightNumber 2 (some .int) (kR 0 0) D (kty g) [.ref (aT 0), .int v1] (List.flatten [gX0 g aT zT]) r (List.flatten [gX0 g aT zT]) := by
  intro sz
  refine k_enter (lv := [(0, .ref (aT 0)), (1, .int v1)]) RX0 (by decide +kernel) rfl rfl (Nat.le_of_ble_eq_true rfl) ?_
  intro p en s m args below meth c ls hsz X V hl
  obtain ⟨QQ, hQQ⟩ : ∃ q, q = MQ below (va_Qi (fun r' (_ : Unit) => r' = r) (fun _ => kE D (List.flatten [gX0 g aT zT])) (va_A (List.flatten [gX0 g aT zT]) sz)) args s 0 0 (va_A (List.flatten [gX0 g aT zT]) sz) := ⟨_, rfl⟩
  rw [← hQQ]
  obtain ⟨AA, hAA⟩ : ∃ q, q = va_A (List.flatten [gX0 g aT zT]) sz := ⟨_, rfl⟩
  rw [← hAA] at V
  unfold p_X0_tightNumber at h
  refine lv_iload_n X.1 X.2.1 dX0_tightNumber_0 rfl (lv_at hl 1 rfl) ?_
  refine lv_if_lt (tgt := 26) X.1 X.2.1 dX0_tightNumber_1 (by decide) (fun hc => ?_) (fun hc => ?_)
  · replace h := kif_t hc h
    refine lv_iconst (v := (-1 : Int32)) X.1 X.2.1 dX0_tightNumber_26 (by decide) ?_
    obtain rfl := Option.some.inj h
    rw [hAA] at V
    rw [hQQ]
    exact k_iret X V rfl dX0_tightNumber_27
  · replace h := kif_f hc h
    refine lv_iload_n X.1 X.2.1 dX0_tightNumber_4 rfl (lv_at hl 1 rfl) ?_
    refine lv_aload_n X.1 X.2.1 dX0_tightNumber_5 rfl (lv_at hl 0 rfl) ?_
    refine gf_X0_100 (i := 0) X V rfl dX0_tightNumber_6 ?_
    refine lv_icmp_ge (tgt := 26) X.1 X.2.1 dX0_tightNumber_9 (by decide) (fun hc => ?_) (fun hc => ?_)
    · replace h := kif_t hc h
      refine lv_iconst (v := (-1 : Int32)) X.1 X.2.1 dX0_tightNumber_26 (by decide) ?_
      obtain rfl := Option.some.inj h
      rw [hAA] at V
      rw [hQQ]
      exact k_iret X V rfl dX0_tightNumber_27
    · replace h := kif_f hc h
      refine lv_iload_n X.1 X.2.1 dX0_tightNumber_12 rfl (lv_at hl 1 rfl) ?_
      refine lv_iconst (v := (3 : Int32)) X.1 X.2.1 dX0_tightNumber_13 (by decide) ?_
      refine lv_icmp_ge (tgt := 26) X.1 X.2.1 dX0_tightNumber_14 (by decide) (fun hc => ?_) (fun hc => ?_)
      · replace h := kif_t hc h
        refine lv_iconst (v := (-1 : Int32)) X.1 X.2.1 dX0_tightNumber_26 (by decide) ?_
        obtain rfl := Option.some.inj h
        rw [hAA] at V
        rw [hQQ]
        exact k_iret X V rfl dX0_tightNumber_27
      · replace h := kif_f hc h
        refine lv_aload_n X.1 X.2.1 dX0_tightNumber_17 rfl (lv_at hl 0 rfl) ?_
        refine gf_X0_21 (i := 0) X V rfl dX0_tightNumber_18 ?_
        refine lv_iload_n X.1 X.2.1 dX0_tightNumber_21 rfl (lv_at hl 1 rfl) ?_
        obtain ⟨hc, h⟩ := kg_of h
        refine al_X0_7 (i := 0) X V rfl hc dX0_tightNumber_22 ?_
        refine lv_goto (tgt := 27) X.1 X.2.1 dX0_tightNumber_23 (by decide) ?_
        obtain rfl := Option.some.inj h
        rw [hAA] at V
        rw [hQQ]
        exact k_iret X V rfl dX0_tightNumber_27

def p_X0_putOnRim_L15 (zP1 : tX8) (v2 : Int32) (s : Int32 × tX0) : Option (Nat × (Int32 × tX0)) :=
  kif (s.1 ≤ 0) (some (59, (s.1, s.2))) (kg (kii (s.1 - (1 : Int32)) 41) (kb (p_X8_number zP1 (s.2.2.2.2.2.2.1 ((s.1 - (1 : Int32))).toNatClampNeg)) (fun x1 => kb (p_X8_number zP1 v2) (fun x2 => kif (x1 ≤ x2) (some (59, (s.1, s.2))) (kg (kii (s.1 - (1 : Int32)) 41) (kg (kii s.1 41) (kl (s.2.1, s.2.2.1, s.2.2.2.1, s.2.2.2.2.1, s.2.2.2.2.2.1, (upd s.2.2.2.2.2.2.1 (s.1).toNatClampNeg (s.2.2.2.2.2.2.1 ((s.1 - (1 : Int32))).toNatClampNeg)), s.2.2.2.2.2.2.2) (fun z3 => kl (s.1 + (-1 : Int32)) (fun y4 => some (15, (y4, z3)))))))))))
def p_X0_putOnRim (zT : tX0) (zP1 : tX8) (v2 : Int32) : Option (tX0) :=
  kif (zT.2.2.2.2.2.2.1 < (41 : Int32)) (kb (kitr 15 (fun q => p_X0_putOnRim_L15 zP1 v2 q) kF (zT.2.2.2.2.2.2.1, zT)) (fun x5 => kg (x5.1 = 59) (kg (kii x5.2.1 41) (kl (x5.2.2.1, x5.2.2.2.1, x5.2.2.2.2.1, x5.2.2.2.2.2.1, x5.2.2.2.2.2.2.1, (upd x5.2.2.2.2.2.2.2.1 (x5.2.1).toNatClampNeg v2), x5.2.2.2.2.2.2.2.2) (fun z6 => kl (z6.1, z6.2.1, z6.2.2.1, z6.2.2.2.1, z6.2.2.2.2.1, z6.2.2.2.2.2.1, (z6.2.2.2.2.2.2.1 + (1 : Int32)), z6.2.2.2.2.2.2.2) (fun z7 => some z7)))))) (some zT)
set_option maxHeartbeats 4000000 in
set_option maxRecDepth 100000 in
theorem c_X0_putOnRim (l : Launch) (D : va_G) (g : kG) (aT : Nat → Nat) (aP1 : Nat → Nat) (zT : tX0) (zP1 : tX8) (v2 : Int32) (r : tX0) (h : p_X0_putOnRim zT zP1 v2 = some r) : kMv l yX0_putOnRim cX0_putOnRim 4 none (kR 1 21) D (kty g) [.ref (aT 0), .ref (aP1 0), .int v2] (List.flatten [gX0 g aT zT, gX8 g aP1 zP1]) (List.flatten [gX0 g aT r, gX8 g aP1 zP1]) := by
  intro sz
  refine k_enter (lv := [(0, .ref (aT 0)), (1, .ref (aP1 0)), (2, .int v2)]) RX0 (by decide +kernel) rfl rfl (Nat.le_of_ble_eq_true rfl) ?_
  intro p en s m args below meth c ls hsz X V hl
  obtain ⟨QQ, hQQ⟩ : ∃ q, q = MQ below (va_Qv (fun (_ : Unit) => True) (fun _ => kE D (List.flatten [gX0 g aT r, gX8 g aP1 zP1])) (va_A (List.flatten [gX0 g aT zT, gX8 g aP1 zP1]) sz)) args s 0 0 (va_A (List.flatten [gX0 g aT zT, gX8 g aP1 zP1]) sz) := ⟨_, rfl⟩
  rw [← hQQ]
  obtain ⟨AA, hAA⟩ : ∃ q, q = va_A (List.flatten [gX0 g aT zT, gX8 g aP1 zP1]) sz := ⟨_, rfl⟩
  rw [← hAA] at V
  unfold p_X0_putOnRim at h
  refine lv_aload_n X.1 X.2.1 dX0_putOnRim_0 rfl (lv_at hl 0 rfl) ?_
  refine gf_X0_103 (i := 0) X V rfl dX0_putOnRim_1 ?_
  refine lv_istore_n (lv' := [(3, .int zT.2.2.2.2.2.2.1), (0, .ref (aT 0)), (1, .ref (aP1 0)), (2, .int v2)]) X.1 X.2.1 dX0_putOnRim_4 rfl hl (by decide) rfl (fun ls hl => ?_)
  refine lv_iload_n X.1 X.2.1 dX0_putOnRim_5 rfl (lv_at hl 0 rfl) ?_
  refine lv_aload_n X.1 X.2.1 dX0_putOnRim_6 rfl (lv_at hl 1 rfl) ?_
  refine gf_X0_17 (i := 0) X V rfl dX0_putOnRim_7 ?_
  refine ax_X0_5 (i := 0) X V rfl dX0_putOnRim_10 ?_
  refine lv_icmp_lt (tgt := 15) X.1 X.2.1 dX0_putOnRim_11 (by decide) (fun hc => ?_) (fun hc => ?_)
  · replace h := kif_t hc h
    obtain ⟨x8, hx8, h⟩ := kb_of h
    refine (kitr_go (hd := 15) (body := fun q => p_X0_putOnRim_L15 zP1 v2 q) (G := (fun e => ∀ (H : Heap) (locs : List Loc) (ls : Array Slot), kW D AA s.heap H (List.flatten [gX0 g aT e.2.2, gX8 g aP1 zP1]) locs → lv_has ls 4 [(0, .ref (aT 0)), (1, .ref (aP1 0)), (2, .int v2), (3, .int e.2.1)] → W p l en (kR 1 21) s m args below meth c H locs 0 0 QQ (F0 m e.1 ls []))) (fun s9 e10 hb11 hG12 => ?_) kF _ x8 hx8 ?_) _ _ _ V (lv_sub hl [1, 2, 3, 0] rfl)
    · intro H locs ls V hl
      show W p l en (kR 1 21) s m args below meth c H locs 0 0 QQ (F0 m 15 ls [])
      have h : p_X0_putOnRim_L15 zP1 v2 s9 = some e10 := hb11
      unfold p_X0_putOnRim_L15 at h
      have V : kW D AA s.heap H (List.flatten [gX0 g aT s9.2, gX8 g aP1 zP1]) locs := V
      have hl : lv_has ls 4 [(0, .ref (aT 0)), (1, .ref (aP1 0)), (2, .int v2), (3, .int s9.1)] := hl
      refine lv_iload_n X.1 X.2.1 dX0_putOnRim_15 rfl (lv_at hl 3 rfl) ?_
      refine lv_if_le (tgt := 59) X.1 X.2.1 dX0_putOnRim_16 (by decide) (fun hc => ?_) (fun hc => ?_)
      · replace h := kif_t hc h
        obtain rfl := Option.some.inj h
        exact hG12 _ _ _ V (lv_sub hl [0, 1, 2, 3] rfl)
      · replace h := kif_f hc h
        refine lv_aload_n X.1 X.2.1 dX0_putOnRim_19 rfl (lv_at hl 1 rfl) ?_
        refine lv_aload_n X.1 X.2.1 dX0_putOnRim_20 rfl (lv_at hl 0 rfl) ?_
        refine gf_X0_17 (i := 0) X V rfl dX0_putOnRim_21 ?_
        refine lv_iload_n X.1 X.2.1 dX0_putOnRim_24 rfl (lv_at hl 3 rfl) ?_
        refine lv_iconst (v := (1 : Int32)) X.1 X.2.1 dX0_putOnRim_25 (by decide) ?_
        refine lv_isub X.1 X.2.1 dX0_putOnRim_26 ?_
        obtain ⟨hc, h⟩ := kg_of h
        refine al_X0_5 (i := 0) X V rfl hc dX0_putOnRim_27 ?_
        obtain ⟨x13, hx13, h⟩ := kb_of h
        refine s_callVi (segs' := [gX0 g aT s9.2, gX8 g aP1 zP1]) (ci := 8) (i0 := 0) X V (c_X8_number l D g aP1 zP1 (s9.2.2.2.2.2.2.1 ((s9.1 - (1 : Int32))).toNatClampNeg) x13 hx13) w_X0_121 ⟨Nat.le_of_ble_eq_true rfl, Nat.le_of_ble_eq_true rfl⟩ ⟨Nat.zero_le _, Nat.zero_le _⟩ rfl rfl rfl rfl [1] rfl rfl (kFst_refl _) rfl rfl hl.1 (Nat.le_of_ble_eq_true rfl) dX0_putOnRim_28 (fun H locs V => ?_)
        refine lv_aload_n X.1 X.2.1 dX0_putOnRim_31 rfl (lv_at hl 1 rfl) ?_
        refine lv_iload_n X.1 X.2.1 dX0_putOnRim_32 rfl (lv_at hl 2 rfl) ?_
        obtain ⟨x14, hx14, h⟩ := kb_of h
        refine s_callVi (segs' := [gX0 g aT s9.2, gX8 g aP1 zP1]) (ci := 8) (i0 := 0) X V (c_X8_number l D g aP1 zP1 v2 x14 hx14) w_X0_121 ⟨Nat.le_of_ble_eq_true rfl, Nat.le_of_ble_eq_true rfl⟩ ⟨Nat.zero_le _, Nat.zero_le _⟩ rfl rfl rfl rfl [1] rfl rfl (kFst_refl _) rfl rfl hl.1 (Nat.le_of_ble_eq_true rfl) dX0_putOnRim_33 (fun H locs V => ?_)
        refine lv_icmp_le (tgt := 59) X.1 X.2.1 dX0_putOnRim_36 (by decide) (fun hc => ?_) (fun hc => ?_)
        · replace h := kif_t hc h
          obtain rfl := Option.some.inj h
          exact hG12 _ _ _ V (lv_sub hl [0, 1, 2, 3] rfl)
        · replace h := kif_f hc h
          refine lv_aload_n X.1 X.2.1 dX0_putOnRim_39 rfl (lv_at hl 0 rfl) ?_
          refine gf_X0_17 (i := 0) X V rfl dX0_putOnRim_40 ?_
          refine lv_iload_n X.1 X.2.1 dX0_putOnRim_43 rfl (lv_at hl 3 rfl) ?_
          refine lv_aload_n X.1 X.2.1 dX0_putOnRim_44 rfl (lv_at hl 0 rfl) ?_
          refine gf_X0_17 (i := 0) X V rfl dX0_putOnRim_45 ?_
          refine lv_iload_n X.1 X.2.1 dX0_putOnRim_48 rfl (lv_at hl 3 rfl) ?_
          refine lv_iconst (v := (1 : Int32)) X.1 X.2.1 dX0_putOnRim_49 (by decide) ?_
          refine lv_isub X.1 X.2.1 dX0_putOnRim_50 ?_
          obtain ⟨hc, h⟩ := kg_of h
          refine al_X0_5 (i := 0) X V rfl hc dX0_putOnRim_51 ?_
          obtain ⟨hc, h⟩ := kg_of h
          refine as_X0_5 (i := 0) X V rfl hc dX0_putOnRim_52 (fun H locs V => ?_)
          obtain ⟨z15, ez15⟩ : ∃ y, y = (s9.2.1, s9.2.2.1, s9.2.2.2.1, s9.2.2.2.2.1, s9.2.2.2.2.2.1, (upd s9.2.2.2.2.2.2.1 (s9.1).toNatClampNeg (s9.2.2.2.2.2.2.1 ((s9.1 - (1 : Int32))).toNatClampNeg)), s9.2.2.2.2.2.2.2) := ⟨_, rfl⟩
          replace h := kl_of ez15 h
          have V : kW D AA s.heap H (List.flatten [gX0 g aT z15, gX8 g aP1 zP1]) locs := by rw [ez15]; exact V
          obtain ⟨y16, ey16⟩ : ∃ y : Int32, y = (s9.1 + (-1 : Int32)) := ⟨_, rfl⟩
          replace h := kl_of ey16 h
          refine lv_iinc (v := y16) (lv' := [(3, .int y16), (0, .ref (aT 0)), (1, .ref (aP1 0)), (2, .int v2)]) X.1 X.2.1 dX0_putOnRim_53 hl (k := 3) rfl (by rw [ey16]; rfl) (by decide) rfl (fun ls hl => ?_)
          refine lv_goto (tgt := 15) X.1 X.2.1 dX0_putOnRim_56 (by decide) ?_
          obtain rfl := Option.some.inj h
          exact hG12 _ _ _ V (lv_sub hl [1, 2, 3, 0] rfl)
    · intro H locs ls V hl
      have V : kW D AA s.heap H (List.flatten [gX0 g aT x8.2.2, gX8 g aP1 zP1]) locs := V
      have hl : lv_has ls 4 [(0, .ref (aT 0)), (1, .ref (aP1 0)), (2, .int v2), (3, .int x8.2.1)] := hl
      obtain ⟨hc, h⟩ := kg_of h
      refine W.eq (g2 := F0 m 59 ls []) (by rw [hc]) ?_
      refine lv_aload_n X.1 X.2.1 dX0_putOnRim_59 rfl (lv_at hl 0 rfl) ?_
      refine gf_X0_17 (i := 0) X V rfl dX0_putOnRim_60 ?_
      refine lv_iload_n X.1 X.2.1 dX0_putOnRim_63 rfl (lv_at hl 3 rfl) ?_
      refine lv_iload_n X.1 X.2.1 dX0_putOnRim_64 rfl (lv_at hl 2 rfl) ?_
      obtain ⟨hc, h⟩ := kg_of h
      refine as_X0_5 (i := 0) X V rfl hc dX0_putOnRim_65 (fun H locs V => ?_)
      obtain ⟨z17, ez17⟩ : ∃ y, y = (x8.2.2.1, x8.2.2.2.1, x8.2.2.2.2.1, x8.2.2.2.2.2.1, x8.2.2.2.2.2.2.1, (upd x8.2.2.2.2.2.2.2.1 (x8.2.1).toNatClampNeg v2), x8.2.2.2.2.2.2.2.2) := ⟨_, rfl⟩
      replace h := kl_of ez17 h
      have V : kW D AA s.heap H (List.flatten [gX0 g aT z17, gX8 g aP1 zP1]) locs := by rw [ez17]; exact V
      refine lv_aload_n X.1 X.2.1 dX0_putOnRim_66 rfl (lv_at hl 0 rfl) ?_
      refine lv_dup X.1 X.2.1 dX0_putOnRim_67 rfl ?_
      refine gf_X0_103 (i := 0) X V rfl dX0_putOnRim_68 ?_
      refine lv_iconst (v := (1 : Int32)) X.1 X.2.1 dX0_putOnRim_71 (by decide) ?_
      refine lv_iadd X.1 X.2.1 dX0_putOnRim_72 ?_
      refine pf_X0_103 (i := 0) X V rfl dX0_putOnRim_73 (fun H locs V => ?_)
      obtain ⟨z18, ez18⟩ : ∃ y, y = (z17.1, z17.2.1, z17.2.2.1, z17.2.2.2.1, z17.2.2.2.2.1, z17.2.2.2.2.2.1, (z17.2.2.2.2.2.2.1 + (1 : Int32)), z17.2.2.2.2.2.2.2) := ⟨_, rfl⟩
      replace h := kl_of ez18 h
      have V : kW D AA s.heap H (List.flatten [gX0 g aT z18, gX8 g aP1 zP1]) locs := by rw [ez18]; exact V
      obtain rfl := Option.some.inj h
      rw [hAA] at V
      rw [hQQ]
      exact k_vret X V dX0_putOnRim_76
  · replace h := kif_f hc h
    obtain rfl := Option.some.inj h
    rw [hAA] at V
    rw [hQQ]
    exact k_vret X V dX0_putOnRim_14

def p_X0_rimSpot (zT : tX0) (v1 : Int32) : Option (Int32) :=
  kif (v1 < 0) (some (-1 : Int32)) (kif (zT.2.2.2.2.2.2.1 ≤ v1) (some (-1 : Int32)) (kg (kii v1 41) (some ((zT.2.2.2.2.2.1 v1.toNatClampNeg)))))
set_option maxHeartbeats 4000000 in
set_option maxRecDepth 100000 in
theorem c_X0_rimSpot (l : Launch) (D : va_G) (g : kG) (aT : Nat → Nat) (zT : tX0) (v1 : Int32) (r : Int32) (h : p_X0_rimSpot zT v1 = some r) : kMi l yX0_rimSpot cX0_rimSpot 2 (some .int) (kR 0 0) D (kty g) [.ref (aT 0), .int v1] (List.flatten [gX0 g aT zT]) r (List.flatten [gX0 g aT zT]) := by
  intro sz
  refine k_enter (lv := [(0, .ref (aT 0)), (1, .int v1)]) RX0 (by decide +kernel) rfl rfl (Nat.le_of_ble_eq_true rfl) ?_
  intro p en s m args below meth c ls hsz X V hl
  obtain ⟨QQ, hQQ⟩ : ∃ q, q = MQ below (va_Qi (fun r' (_ : Unit) => r' = r) (fun _ => kE D (List.flatten [gX0 g aT zT])) (va_A (List.flatten [gX0 g aT zT]) sz)) args s 0 0 (va_A (List.flatten [gX0 g aT zT]) sz) := ⟨_, rfl⟩
  rw [← hQQ]
  obtain ⟨AA, hAA⟩ : ∃ q, q = va_A (List.flatten [gX0 g aT zT]) sz := ⟨_, rfl⟩
  rw [← hAA] at V
  unfold p_X0_rimSpot at h
  refine lv_iload_n X.1 X.2.1 dX0_rimSpot_0 rfl (lv_at hl 1 rfl) ?_
  refine lv_if_lt (tgt := 21) X.1 X.2.1 dX0_rimSpot_1 (by decide) (fun hc => ?_) (fun hc => ?_)
  · replace h := kif_t hc h
    refine lv_iconst (v := (-1 : Int32)) X.1 X.2.1 dX0_rimSpot_21 (by decide) ?_
    obtain rfl := Option.some.inj h
    rw [hAA] at V
    rw [hQQ]
    exact k_iret X V rfl dX0_rimSpot_22
  · replace h := kif_f hc h
    refine lv_iload_n X.1 X.2.1 dX0_rimSpot_4 rfl (lv_at hl 1 rfl) ?_
    refine lv_aload_n X.1 X.2.1 dX0_rimSpot_5 rfl (lv_at hl 0 rfl) ?_
    refine gf_X0_103 (i := 0) X V rfl dX0_rimSpot_6 ?_
    refine lv_icmp_ge (tgt := 21) X.1 X.2.1 dX0_rimSpot_9 (by decide) (fun hc => ?_) (fun hc => ?_)
    · replace h := kif_t hc h
      refine lv_iconst (v := (-1 : Int32)) X.1 X.2.1 dX0_rimSpot_21 (by decide) ?_
      obtain rfl := Option.some.inj h
      rw [hAA] at V
      rw [hQQ]
      exact k_iret X V rfl dX0_rimSpot_22
    · replace h := kif_f hc h
      refine lv_aload_n X.1 X.2.1 dX0_rimSpot_12 rfl (lv_at hl 0 rfl) ?_
      refine gf_X0_17 (i := 0) X V rfl dX0_rimSpot_13 ?_
      refine lv_iload_n X.1 X.2.1 dX0_rimSpot_16 rfl (lv_at hl 1 rfl) ?_
      obtain ⟨hc, h⟩ := kg_of h
      refine al_X0_5 (i := 0) X V rfl hc dX0_rimSpot_17 ?_
      refine lv_goto (tgt := 22) X.1 X.2.1 dX0_rimSpot_18 (by decide) ?_
      obtain rfl := Option.some.inj h
      rw [hAA] at V
      rw [hQQ]
      exact k_iret X V rfl dX0_rimSpot_22

def p_X0_setTight (zT : tX0) (zP1 : tX8) (v2 : Int32) (v3 : Int32) (v4 : Int32) (v5 : Int32) : Option (tX0) :=
  kb (p_X0_rimSpot zT v3) (fun x1 => kb (p_X8_number zP1 x1) (fun x2 => kg (kii (0 : Int32) 3) (kl (zT.1, zT.2.1, zT.2.2.1, zT.2.2.2.1, zT.2.2.2.2.1, zT.2.2.2.2.2.1, zT.2.2.2.2.2.2.1, (upd zT.2.2.2.2.2.2.2.1 ((0 : Int32)).toNatClampNeg x2), zT.2.2.2.2.2.2.2.2) (fun z3 => kb (p_X0_rimSpot z3 v4) (fun x4 => kb (p_X8_number zP1 x4) (fun x5 => kg (kii (1 : Int32) 3) (kl (z3.1, z3.2.1, z3.2.2.1, z3.2.2.2.1, z3.2.2.2.2.1, z3.2.2.2.2.2.1, z3.2.2.2.2.2.2.1, (upd z3.2.2.2.2.2.2.2.1 ((1 : Int32)).toNatClampNeg x5), z3.2.2.2.2.2.2.2.2) (fun z6 => kb (p_X0_rimSpot z6 v5) (fun x7 => kb (p_X8_number zP1 x7) (fun x8 => kg (kii (2 : Int32) 3) (kl (z6.1, z6.2.1, z6.2.2.1, z6.2.2.2.1, z6.2.2.2.2.1, z6.2.2.2.2.2.1, z6.2.2.2.2.2.2.1, (upd z6.2.2.2.2.2.2.2.1 ((2 : Int32)).toNatClampNeg x8), z6.2.2.2.2.2.2.2.2) (fun z9 => kl (z9.1, z9.2.1, z9.2.2.1, z9.2.2.2.1, z9.2.2.2.2.1, z9.2.2.2.2.2.1, z9.2.2.2.2.2.2.1, z9.2.2.2.2.2.2.2.1, v2) (fun z10 => some z10)))))))))))))
set_option maxHeartbeats 4000000 in
set_option maxRecDepth 100000 in
theorem c_X0_setTight (l : Launch) (D : va_G) (g : kG) (aT : Nat → Nat) (aP1 : Nat → Nat) (zT : tX0) (zP1 : tX8) (v2 : Int32) (v3 : Int32) (v4 : Int32) (v5 : Int32) (r : tX0) (h : p_X0_setTight zT zP1 v2 v3 v4 v5 = some r) : kMv l yX0_setTight cX0_setTight 6 none (kR 1 21) D (kty g) [.ref (aT 0), .ref (aP1 0), .int v2, .int v3, .int v4, .int v5] (List.flatten [gX0 g aT zT, gX8 g aP1 zP1]) (List.flatten [gX0 g aT r, gX8 g aP1 zP1]) := by
  intro sz
  refine k_enter (lv := [(0, .ref (aT 0)), (1, .ref (aP1 0)), (2, .int v2), (3, .int v3), (4, .int v4), (5, .int v5)]) RX0 (by decide +kernel) rfl rfl (Nat.le_of_ble_eq_true rfl) ?_
  intro p en s m args below meth c ls hsz X V hl
  obtain ⟨QQ, hQQ⟩ : ∃ q, q = MQ below (va_Qv (fun (_ : Unit) => True) (fun _ => kE D (List.flatten [gX0 g aT r, gX8 g aP1 zP1])) (va_A (List.flatten [gX0 g aT zT, gX8 g aP1 zP1]) sz)) args s 0 0 (va_A (List.flatten [gX0 g aT zT, gX8 g aP1 zP1]) sz) := ⟨_, rfl⟩
  rw [← hQQ]
  obtain ⟨AA, hAA⟩ : ∃ q, q = va_A (List.flatten [gX0 g aT zT, gX8 g aP1 zP1]) sz := ⟨_, rfl⟩
  rw [← hAA] at V
  unfold p_X0_setTight at h
  refine lv_aload_n X.1 X.2.1 dX0_setTight_0 rfl (lv_at hl 0 rfl) ?_
  refine gf_X0_21 (i := 0) X V rfl dX0_setTight_1 ?_
  refine lv_iconst (v := (0 : Int32)) X.1 X.2.1 dX0_setTight_4 (by decide) ?_
  refine lv_aload_n X.1 X.2.1 dX0_setTight_5 rfl (lv_at hl 1 rfl) ?_
  refine lv_aload_n X.1 X.2.1 dX0_setTight_6 rfl (lv_at hl 0 rfl) ?_
  refine lv_iload_n X.1 X.2.1 dX0_setTight_7 rfl (lv_at hl 3 rfl) ?_
  obtain ⟨x11, hx11, h⟩ := kb_of h
  refine s_callVi (segs' := [gX0 g aT zT, gX8 g aP1 zP1]) (ci := 0) (i0 := 0) X V (c_X0_rimSpot l D g aT zT v3 x11 hx11) w_X0_124 ⟨Nat.le_of_ble_eq_true rfl, Nat.le_of_ble_eq_true rfl⟩ ⟨Nat.zero_le _, Nat.zero_le _⟩ rfl rfl rfl rfl [0] rfl rfl (kFst_refl _) rfl rfl hl.1 (Nat.le_of_ble_eq_true rfl) dX0_setTight_8 (fun H locs V => ?_)
  obtain ⟨x12, hx12, h⟩ := kb_of h
  refine s_callVi (segs' := [gX0 g aT zT, gX8 g aP1 zP1]) (ci := 8) (i0 := 0) X V (c_X8_number l D g aP1 zP1 x11 x12 hx12) w_X0_121 ⟨Nat.le_of_ble_eq_true rfl, Nat.le_of_ble_eq_true rfl⟩ ⟨Nat.zero_le _, Nat.zero_le _⟩ rfl rfl rfl rfl [1] rfl rfl (kFst_refl _) rfl rfl hl.1 (Nat.le_of_ble_eq_true rfl) dX0_setTight_11 (fun H locs V => ?_)
  obtain ⟨hc, h⟩ := kg_of h
  refine as_X0_7 (i := 0) X V rfl hc dX0_setTight_14 (fun H locs V => ?_)
  obtain ⟨z13, ez13⟩ : ∃ y, y = (zT.1, zT.2.1, zT.2.2.1, zT.2.2.2.1, zT.2.2.2.2.1, zT.2.2.2.2.2.1, zT.2.2.2.2.2.2.1, (upd zT.2.2.2.2.2.2.2.1 ((0 : Int32)).toNatClampNeg x12), zT.2.2.2.2.2.2.2.2) := ⟨_, rfl⟩
  replace h := kl_of ez13 h
  have V : kW D AA s.heap H (List.flatten [gX0 g aT z13, gX8 g aP1 zP1]) locs := by rw [ez13]; exact V
  refine lv_aload_n X.1 X.2.1 dX0_setTight_15 rfl (lv_at hl 0 rfl) ?_
  refine gf_X0_21 (i := 0) X V rfl dX0_setTight_16 ?_
  refine lv_iconst (v := (1 : Int32)) X.1 X.2.1 dX0_setTight_19 (by decide) ?_
  refine lv_aload_n X.1 X.2.1 dX0_setTight_20 rfl (lv_at hl 1 rfl) ?_
  refine lv_aload_n X.1 X.2.1 dX0_setTight_21 rfl (lv_at hl 0 rfl) ?_
  refine lv_iload X.1 X.2.1 dX0_setTight_22 (lv_at hl 4 rfl) ?_
  obtain ⟨x14, hx14, h⟩ := kb_of h
  refine s_callVi (segs' := [gX0 g aT z13, gX8 g aP1 zP1]) (ci := 0) (i0 := 0) X V (c_X0_rimSpot l D g aT z13 v4 x14 hx14) w_X0_124 ⟨Nat.le_of_ble_eq_true rfl, Nat.le_of_ble_eq_true rfl⟩ ⟨Nat.zero_le _, Nat.zero_le _⟩ rfl rfl rfl rfl [0] rfl rfl (kFst_refl _) rfl rfl hl.1 (Nat.le_of_ble_eq_true rfl) dX0_setTight_24 (fun H locs V => ?_)
  obtain ⟨x15, hx15, h⟩ := kb_of h
  refine s_callVi (segs' := [gX0 g aT z13, gX8 g aP1 zP1]) (ci := 8) (i0 := 0) X V (c_X8_number l D g aP1 zP1 x14 x15 hx15) w_X0_121 ⟨Nat.le_of_ble_eq_true rfl, Nat.le_of_ble_eq_true rfl⟩ ⟨Nat.zero_le _, Nat.zero_le _⟩ rfl rfl rfl rfl [1] rfl rfl (kFst_refl _) rfl rfl hl.1 (Nat.le_of_ble_eq_true rfl) dX0_setTight_27 (fun H locs V => ?_)
  obtain ⟨hc, h⟩ := kg_of h
  refine as_X0_7 (i := 0) X V rfl hc dX0_setTight_30 (fun H locs V => ?_)
  obtain ⟨z16, ez16⟩ : ∃ y, y = (z13.1, z13.2.1, z13.2.2.1, z13.2.2.2.1, z13.2.2.2.2.1, z13.2.2.2.2.2.1, z13.2.2.2.2.2.2.1, (upd z13.2.2.2.2.2.2.2.1 ((1 : Int32)).toNatClampNeg x15), z13.2.2.2.2.2.2.2.2) := ⟨_, rfl⟩
  replace h := kl_of ez16 h
  have V : kW D AA s.heap H (List.flatten [gX0 g aT z16, gX8 g aP1 zP1]) locs := by rw [ez16]; exact V
  refine lv_aload_n X.1 X.2.1 dX0_setTight_31 rfl (lv_at hl 0 rfl) ?_
  refine gf_X0_21 (i := 0) X V rfl dX0_setTight_32 ?_
  refine lv_iconst (v := (2 : Int32)) X.1 X.2.1 dX0_setTight_35 (by decide) ?_
  refine lv_aload_n X.1 X.2.1 dX0_setTight_36 rfl (lv_at hl 1 rfl) ?_
  refine lv_aload_n X.1 X.2.1 dX0_setTight_37 rfl (lv_at hl 0 rfl) ?_
  refine lv_iload X.1 X.2.1 dX0_setTight_38 (lv_at hl 5 rfl) ?_
  obtain ⟨x17, hx17, h⟩ := kb_of h
  refine s_callVi (segs' := [gX0 g aT z16, gX8 g aP1 zP1]) (ci := 0) (i0 := 0) X V (c_X0_rimSpot l D g aT z16 v5 x17 hx17) w_X0_124 ⟨Nat.le_of_ble_eq_true rfl, Nat.le_of_ble_eq_true rfl⟩ ⟨Nat.zero_le _, Nat.zero_le _⟩ rfl rfl rfl rfl [0] rfl rfl (kFst_refl _) rfl rfl hl.1 (Nat.le_of_ble_eq_true rfl) dX0_setTight_40 (fun H locs V => ?_)
  obtain ⟨x18, hx18, h⟩ := kb_of h
  refine s_callVi (segs' := [gX0 g aT z16, gX8 g aP1 zP1]) (ci := 8) (i0 := 0) X V (c_X8_number l D g aP1 zP1 x17 x18 hx18) w_X0_121 ⟨Nat.le_of_ble_eq_true rfl, Nat.le_of_ble_eq_true rfl⟩ ⟨Nat.zero_le _, Nat.zero_le _⟩ rfl rfl rfl rfl [1] rfl rfl (kFst_refl _) rfl rfl hl.1 (Nat.le_of_ble_eq_true rfl) dX0_setTight_43 (fun H locs V => ?_)
  obtain ⟨hc, h⟩ := kg_of h
  refine as_X0_7 (i := 0) X V rfl hc dX0_setTight_46 (fun H locs V => ?_)
  obtain ⟨z19, ez19⟩ : ∃ y, y = (z16.1, z16.2.1, z16.2.2.1, z16.2.2.2.1, z16.2.2.2.2.1, z16.2.2.2.2.2.1, z16.2.2.2.2.2.2.1, (upd z16.2.2.2.2.2.2.2.1 ((2 : Int32)).toNatClampNeg x18), z16.2.2.2.2.2.2.2.2) := ⟨_, rfl⟩
  replace h := kl_of ez19 h
  have V : kW D AA s.heap H (List.flatten [gX0 g aT z19, gX8 g aP1 zP1]) locs := by rw [ez19]; exact V
  refine lv_aload_n X.1 X.2.1 dX0_setTight_47 rfl (lv_at hl 0 rfl) ?_
  refine lv_iload_n X.1 X.2.1 dX0_setTight_48 rfl (lv_at hl 2 rfl) ?_
  refine pf_X0_100 (i := 0) X V rfl dX0_setTight_49 (fun H locs V => ?_)
  obtain ⟨z20, ez20⟩ : ∃ y, y = (z19.1, z19.2.1, z19.2.2.1, z19.2.2.2.1, z19.2.2.2.2.1, z19.2.2.2.2.2.1, z19.2.2.2.2.2.2.1, z19.2.2.2.2.2.2.2.1, v2) := ⟨_, rfl⟩
  replace h := kl_of ez20 h
  have V : kW D AA s.heap H (List.flatten [gX0 g aT z20, gX8 g aP1 zP1]) locs := by rw [ez20]; exact V
  obtain rfl := Option.some.inj h
  rw [hAA] at V
  rw [hQQ]
  exact k_vret X V dX0_setTight_52

def p_X0_areOpposite (zT : tX0) (zP1 : tX8) (v2 : Int32) (v3 : Int32) : Option (Bool) :=
  kb (p_X8_x zP1 v2) (fun x1 => kb (p_X8_x zP1 v3) (fun x2 => kl (((x1 + x2) - ((2 : Int32) * zT.1))).toInt64 (fun y3 => kb (p_X8_y zP1 v2) (fun x4 => kb (p_X8_y zP1 v3) (fun x5 => kl (((x4 + x5) - ((2 : Int32) * zT.2.1))).toInt64 (fun y6 => kif ((lg_cmp (y3 * zT.2.2.1) ((2 : Int64) * zT.2.2.2.1)) = 0) (kif ((lg_cmp (y6 * zT.2.2.1) ((2 : Int64) * zT.2.2.2.2.1)) = 0) (some true) (some false)) (some false)))))))
set_option maxHeartbeats 4000000 in
set_option maxRecDepth 100000 in
theorem c_X0_areOpposite (l : Launch) (D : va_G) (g : kG) (aT : Nat → Nat) (aP1 : Nat → Nat) (zT : tX0) (zP1 : tX8) (v2 : Int32) (v3 : Int32) (r : Bool) (h : p_X0_areOpposite zT zP1 v2 v3 = some r) : kMi l yX0_areOpposite cX0_areOpposite 8 (some .boolean) (kR 1 21) D (kty g) [.ref (aT 0), .ref (aP1 0), .int v2, .int v3] (List.flatten [gX0 g aT zT, gX8 g aP1 zP1]) (kz r) (List.flatten [gX0 g aT zT, gX8 g aP1 zP1]) := by
  intro sz
  refine k_enter (lv := [(0, .ref (aT 0)), (1, .ref (aP1 0)), (2, .int v2), (3, .int v3)]) RX0 (by decide +kernel) rfl rfl (Nat.le_of_ble_eq_true rfl) ?_
  intro p en s m args below meth c ls hsz X V hl
  obtain ⟨QQ, hQQ⟩ : ∃ q, q = MQ below (va_Qi (fun r' (_ : Unit) => r' = kz r) (fun _ => kE D (List.flatten [gX0 g aT zT, gX8 g aP1 zP1])) (va_A (List.flatten [gX0 g aT zT, gX8 g aP1 zP1]) sz)) args s 0 0 (va_A (List.flatten [gX0 g aT zT, gX8 g aP1 zP1]) sz) := ⟨_, rfl⟩
  rw [← hQQ]
  obtain ⟨AA, hAA⟩ : ∃ q, q = va_A (List.flatten [gX0 g aT zT, gX8 g aP1 zP1]) sz := ⟨_, rfl⟩
  rw [← hAA] at V
  unfold p_X0_areOpposite at h
  refine lv_aload_n X.1 X.2.1 dX0_areOpposite_0 rfl (lv_at hl 1 rfl) ?_
  refine lv_iload_n X.1 X.2.1 dX0_areOpposite_1 rfl (lv_at hl 2 rfl) ?_
  obtain ⟨x7, hx7, h⟩ := kb_of h
  refine s_callVi (segs' := [gX0 g aT zT, gX8 g aP1 zP1]) (ci := 8) (i0 := 0) X V (c_X8_x l D g aP1 zP1 v2 x7 hx7) w_X0_50 ⟨Nat.le_of_ble_eq_true rfl, Nat.le_of_ble_eq_true rfl⟩ ⟨Nat.zero_le _, Nat.zero_le _⟩ rfl rfl rfl rfl [1] rfl rfl (kFst_refl _) rfl rfl hl.1 (Nat.le_of_ble_eq_true rfl) dX0_areOpposite_2 (fun H locs V => ?_)
  refine lv_aload_n X.1 X.2.1 dX0_areOpposite_5 rfl (lv_at hl 1 rfl) ?_
  refine lv_iload_n X.1 X.2.1 dX0_areOpposite_6 rfl (lv_at hl 3 rfl) ?_
  obtain ⟨x8, hx8, h⟩ := kb_of h
  refine s_callVi (segs' := [gX0 g aT zT, gX8 g aP1 zP1]) (ci := 8) (i0 := 0) X V (c_X8_x l D g aP1 zP1 v3 x8 hx8) w_X0_50 ⟨Nat.le_of_ble_eq_true rfl, Nat.le_of_ble_eq_true rfl⟩ ⟨Nat.zero_le _, Nat.zero_le _⟩ rfl rfl rfl rfl [1] rfl rfl (kFst_refl _) rfl rfl hl.1 (Nat.le_of_ble_eq_true rfl) dX0_areOpposite_7 (fun H locs V => ?_)
  refine lv_iadd X.1 X.2.1 dX0_areOpposite_10 ?_
  refine lv_iconst (v := (2 : Int32)) X.1 X.2.1 dX0_areOpposite_11 (by decide) ?_
  refine lv_aload_n X.1 X.2.1 dX0_areOpposite_12 rfl (lv_at hl 0 rfl) ?_
  refine gf_X0_61 (i := 0) X V rfl dX0_areOpposite_13 ?_
  refine lv_imul X.1 X.2.1 dX0_areOpposite_16 ?_
  refine lv_isub X.1 X.2.1 dX0_areOpposite_17 ?_
  refine lv_i2l X.1 X.2.1 dX0_areOpposite_18 rfl ?_
  refine lv_topl (fun y9 ey9 => ?_)
  replace h := kl_of ey9 h
  refine lv_lstore (lv' := [(4, .long y9), (0, .ref (aT 0)), (1, .ref (aP1 0)), (2, .int v2), (3, .int v3)]) X.1 X.2.1 dX0_areOpposite_19 hl (by decide) rfl (fun ls hl => ?_)
  refine lv_aload_n X.1 X.2.1 dX0_areOpposite_21 rfl (lv_at hl 2 rfl) ?_
  refine lv_iload_n X.1 X.2.1 dX0_areOpposite_22 rfl (lv_at hl 3 rfl) ?_
  obtain ⟨x10, hx10, h⟩ := kb_of h
  refine s_callVi (segs' := [gX0 g aT zT, gX8 g aP1 zP1]) (ci := 8) (i0 := 0) X V (c_X8_y l D g aP1 zP1 v2 x10 hx10) w_X0_54 ⟨Nat.le_of_ble_eq_true rfl, Nat.le_of_ble_eq_true rfl⟩ ⟨Nat.zero_le _, Nat.zero_le _⟩ rfl rfl rfl rfl [1] rfl rfl (kFst_refl _) rfl rfl hl.1 (Nat.le_of_ble_eq_true rfl) dX0_areOpposite_23 (fun H locs V => ?_)
  refine lv_aload_n X.1 X.2.1 dX0_areOpposite_26 rfl (lv_at hl 2 rfl) ?_
  refine lv_iload_n X.1 X.2.1 dX0_areOpposite_27 rfl (lv_at hl 4 rfl) ?_
  obtain ⟨x11, hx11, h⟩ := kb_of h
  refine s_callVi (segs' := [gX0 g aT zT, gX8 g aP1 zP1]) (ci := 8) (i0 := 0) X V (c_X8_y l D g aP1 zP1 v3 x11 hx11) w_X0_54 ⟨Nat.le_of_ble_eq_true rfl, Nat.le_of_ble_eq_true rfl⟩ ⟨Nat.zero_le _, Nat.zero_le _⟩ rfl rfl rfl rfl [1] rfl rfl (kFst_refl _) rfl rfl hl.1 (Nat.le_of_ble_eq_true rfl) dX0_areOpposite_28 (fun H locs V => ?_)
  refine lv_iadd X.1 X.2.1 dX0_areOpposite_31 ?_
  refine lv_iconst (v := (2 : Int32)) X.1 X.2.1 dX0_areOpposite_32 (by decide) ?_
  refine lv_aload_n X.1 X.2.1 dX0_areOpposite_33 rfl (lv_at hl 1 rfl) ?_
  refine gf_X0_65 (i := 0) X V rfl dX0_areOpposite_34 ?_
  refine lv_imul X.1 X.2.1 dX0_areOpposite_37 ?_
  refine lv_isub X.1 X.2.1 dX0_areOpposite_38 ?_
  refine lv_i2l X.1 X.2.1 dX0_areOpposite_39 rfl ?_
  refine lv_topl (fun y12 ey12 => ?_)
  replace h := kl_of ey12 h
  refine lv_lstore (lv' := [(6, .long y12), (4, .long y9), (0, .ref (aT 0)), (1, .ref (aP1 0)), (2, .int v2), (3, .int v3)]) X.1 X.2.1 dX0_areOpposite_40 hl (by decide) rfl (fun ls hl => ?_)
  refine lv_lload X.1 X.2.1 dX0_areOpposite_42 (lv_at hl 1 rfl) ?_
  refine lv_aload_n X.1 X.2.1 dX0_areOpposite_44 rfl (lv_at hl 2 rfl) ?_
  refine gf_X0_9 (i := 0) X V rfl dX0_areOpposite_45 ?_
  refine lv_lmul X.1 X.2.1 dX0_areOpposite_48 ?_
  refine lv_ldc2 (v := (2 : Int64)) X.1 X.2.1 X.2.2.2.1 (X.2.2.2.2.1 _ kc_X0_74) dX0_areOpposite_49 ?_
  refine lv_aload_n X.1 X.2.1 dX0_areOpposite_52 rfl (lv_at hl 2 rfl) ?_
  refine gf_X0_68 (i := 0) X V rfl dX0_areOpposite_53 ?_
  refine lv_lmul X.1 X.2.1 dX0_areOpposite_56 ?_
  refine W.lcmp X.1 X.2.1 dX0_areOpposite_57 ?_
  refine lv_if_ne (tgt := 84) X.1 X.2.1 dX0_areOpposite_58 (by decide) (fun hc => ?_) (fun hc => ?_)
  · replace h := kif_f hc h
    refine lv_iconst (v := (0 : Int32)) X.1 X.2.1 dX0_areOpposite_84 (by decide) ?_
    obtain rfl := Option.some.inj h
    rw [hAA] at V
    rw [hQQ]
    exact k_zret X V (b := false) rfl rfl dX0_areOpposite_85
  · replace h := kif_t hc h
    refine lv_lload X.1 X.2.1 dX0_areOpposite_61 (lv_at hl 0 rfl) ?_
    refine lv_aload_n X.1 X.2.1 dX0_areOpposite_63 rfl (lv_at hl 2 rfl) ?_
    refine gf_X0_9 (i := 0) X V rfl dX0_areOpposite_64 ?_
    refine lv_lmul X.1 X.2.1 dX0_areOpposite_67 ?_
    refine lv_ldc2 (v := (2 : Int64)) X.1 X.2.1 X.2.2.2.1 (X.2.2.2.2.1 _ kc_X0_74) dX0_areOpposite_68 ?_
    refine lv_aload_n X.1 X.2.1 dX0_areOpposite_71 rfl (lv_at hl 2 rfl) ?_
    refine gf_X0_71 (i := 0) X V rfl dX0_areOpposite_72 ?_
    refine lv_lmul X.1 X.2.1 dX0_areOpposite_75 ?_
    refine W.lcmp X.1 X.2.1 dX0_areOpposite_76 ?_
    refine lv_if_ne (tgt := 84) X.1 X.2.1 dX0_areOpposite_77 (by decide) (fun hc => ?_) (fun hc => ?_)
    · replace h := kif_f hc h
      refine lv_iconst (v := (0 : Int32)) X.1 X.2.1 dX0_areOpposite_84 (by decide) ?_
      obtain rfl := Option.some.inj h
      rw [hAA] at V
      rw [hQQ]
      exact k_zret X V (b := false) rfl rfl dX0_areOpposite_85
    · replace h := kif_t hc h
      refine lv_iconst (v := (1 : Int32)) X.1 X.2.1 dX0_areOpposite_80 (by decide) ?_
      refine lv_goto (tgt := 85) X.1 X.2.1 dX0_areOpposite_81 (by decide) ?_
      obtain rfl := Option.some.inj h
      rw [hAA] at V
      rw [hQQ]
      exact k_zret X V (b := true) rfl rfl dX0_areOpposite_85

def p_X0_seekTwo_L14 (zP1 : tX8) (zT : tX0) (v2 : Int32) (s : Int32) : Option (Nat × (Int32)) :=
  kif (zT.2.2.2.2.2.2.1 ≤ s) (some (57, s)) (kb (p_X0_rimSpot zT v2) (fun x2 => kb (p_X0_rimSpot zT s) (fun x3 => kb (p_X0_areOpposite zT zP1 x2 x3) (fun x4 => kif ((kz x4) = 0) (kl (s + (1 : Int32)) (fun y5 => some (14, y5))) (some (40, s))))))
def p_X0_seekTwo_L2 (zP1 : tX8) (zT : tX0) (s : Int32 × Int32) : Option (Nat × (Int32 × Int32)) :=
  kif (zT.2.2.2.2.2.2.1 ≤ s.1) (some (63, (s.1, (0 : Int32)))) (kl (s.1 + (1 : Int32)) (fun y1 => kb (kitr 14 (fun q => p_X0_seekTwo_L14 zP1 zT s.1 q) kF y1) (fun x6 => kif (x6.1 = 40) (some (40, (s.1, x6.2))) (kg (x6.1 = 57) (kl (s.1 + (1 : Int32)) (fun y7 => some (2, (y7, (0 : Int32)))))))))
def p_X0_seekTwo (zT : tX0) (zP1 : tX8) : Option (Bool × tX0) :=
  kb (kitr 2 (fun q => p_X0_seekTwo_L2 zP1 zT q) kF ((0 : Int32), (0 : Int32))) (fun x8 => kif (x8.1 = 40) (kb (p_X0_setTight zT zP1 (2 : Int32) x8.2.1 x8.2.2 (0 : Int32)) (fun x9 => some (true, x9))) (kg (x8.1 = 63) (some (false, zT))))
set_option maxHeartbeats 4000000 in
set_option maxRecDepth 100000 in
theorem c_X0_seekTwo (l : Launch) (D : va_G) (g : kG) (aT : Nat → Nat) (aP1 : Nat → Nat) (zT : tX0) (zP1 : tX8) (r : Bool × tX0) (h : p_X0_seekTwo zT zP1 = some r) : kMi l yX0_seekTwo cX0_seekTwo 4 (some .boolean) (kR 2 48) D (kty g) [.ref (aT 0), .ref (aP1 0)] (List.flatten [gX0 g aT zT, gX8 g aP1 zP1]) (kz r.1) (List.flatten [gX0 g aT r.2, gX8 g aP1 zP1]) := by
  intro sz
  refine k_enter (lv := [(0, .ref (aT 0)), (1, .ref (aP1 0))]) RX0 (by decide +kernel) rfl rfl (Nat.le_of_ble_eq_true rfl) ?_
  intro p en s m args below meth c ls hsz X V hl
  obtain ⟨QQ, hQQ⟩ : ∃ q, q = MQ below (va_Qi (fun r' (_ : Unit) => r' = kz r.1) (fun _ => kE D (List.flatten [gX0 g aT r.2, gX8 g aP1 zP1])) (va_A (List.flatten [gX0 g aT zT, gX8 g aP1 zP1]) sz)) args s 0 0 (va_A (List.flatten [gX0 g aT zT, gX8 g aP1 zP1]) sz) := ⟨_, rfl⟩
  rw [← hQQ]
  obtain ⟨AA, hAA⟩ : ∃ q, q = va_A (List.flatten [gX0 g aT zT, gX8 g aP1 zP1]) sz := ⟨_, rfl⟩
  rw [← hAA] at V
  unfold p_X0_seekTwo at h
  refine lv_iconst (v := (0 : Int32)) X.1 X.2.1 dX0_seekTwo_0 (by decide) ?_
  refine lv_istore_n (lv' := [(2, .int (0 : Int32)), (0, .ref (aT 0)), (1, .ref (aP1 0))]) X.1 X.2.1 dX0_seekTwo_1 rfl hl (by decide) rfl (fun ls hl => ?_)
  obtain ⟨x10, hx10, h⟩ := kb_of h
  refine (kitr_go (hd := 2) (body := fun q => p_X0_seekTwo_L2 zP1 zT q) (G := (fun e => ∀ (H : Heap) (locs : List Loc) (ls : Array Slot), kW D AA s.heap H (List.flatten [gX0 g aT zT, gX8 g aP1 zP1]) locs → lv_has ls 4 ([(0, .ref (aT 0)), (1, .ref (aP1 0)), (2, .int e.2.1)] ++ (if e.1 = 40 then [(3, .int e.2.2)] else [])) → W p l en (kR 2 48) s m args below meth c H locs 0 0 QQ (F0 m e.1 ls []))) (fun s11 e12 hb13 hG14 => ?_) kF _ x10 hx10 ?_) _ _ _ V (lv_sub hl [1, 2, 0] rfl)
  · intro H locs ls V hl
    show W p l en (kR 2 48) s m args below meth c H locs 0 0 QQ (F0 m 2 ls [])
    have h : p_X0_seekTwo_L2 zP1 zT s11 = some e12 := hb13
    unfold p_X0_seekTwo_L2 at h
    have V : kW D AA s.heap H (List.flatten [gX0 g aT zT, gX8 g aP1 zP1]) locs := V
    have hl : lv_has ls 4 [(0, .ref (aT 0)), (1, .ref (aP1 0)), (2, .int s11.1)] := hl
    refine lv_iload_n X.1 X.2.1 dX0_seekTwo_2 rfl (lv_at hl 2 rfl) ?_
    refine lv_aload_n X.1 X.2.1 dX0_seekTwo_3 rfl (lv_at hl 0 rfl) ?_
    refine gf_X0_103 (i := 0) X V rfl dX0_seekTwo_4 ?_
    refine lv_icmp_ge (tgt := 63) X.1 X.2.1 dX0_seekTwo_7 (by decide) (fun hc => ?_) (fun hc => ?_)
    · replace h := kif_t hc h
      obtain rfl := Option.some.inj h
      exact hG14 _ _ _ V (lv_sub hl [0, 1, 2] rfl)
    · replace h := kif_f hc h
      refine lv_iload_n X.1 X.2.1 dX0_seekTwo_10 rfl (lv_at hl 2 rfl) ?_
      refine lv_iconst (v := (1 : Int32)) X.1 X.2.1 dX0_seekTwo_11 (by decide) ?_
      refine lv_iadd X.1 X.2.1 dX0_seekTwo_12 ?_
      refine lv_topi (fun y15 ey15 => ?_)
      replace h := kl_of ey15 h
      refine lv_istore_n (lv' := [(3, .int y15), (0, .ref (aT 0)), (1, .ref (aP1 0)), (2, .int s11.1)]) X.1 X.2.1 dX0_seekTwo_13 rfl hl (by decide) rfl (fun ls hl => ?_)
      obtain ⟨x16, hx16, h⟩ := kb_of h
      refine (kitr_go (hd := 14) (body := fun q => p_X0_seekTwo_L14 zP1 zT s11.1 q) (G := (fun e => ∀ (H : Heap) (locs : List Loc) (ls : Array Slot), kW D AA s.heap H (List.flatten [gX0 g aT zT, gX8 g aP1 zP1]) locs → lv_has ls 4 [(0, .ref (aT 0)), (1, .ref (aP1 0)), (2, .int s11.1), (3, .int e.2)] → W p l en (kR 2 48) s m args below meth c H locs 0 0 QQ (F0 m e.1 ls []))) (fun s17 e18 hb19 hG20 => ?_) kF _ x16 hx16 ?_) _ _ _ V (lv_sub hl [1, 2, 3, 0] rfl)
      · intro H locs ls V hl
        show W p l en (kR 2 48) s m args below meth c H locs 0 0 QQ (F0 m 14 ls [])
        have h : p_X0_seekTwo_L14 zP1 zT s11.1 s17 = some e18 := hb19
        unfold p_X0_seekTwo_L14 at h
        have V : kW D AA s.heap H (List.flatten [gX0 g aT zT, gX8 g aP1 zP1]) locs := V
        have hl : lv_has ls 4 [(0, .ref (aT 0)), (1, .ref (aP1 0)), (2, .int s11.1), (3, .int s17)] := hl
        refine lv_iload_n X.1 X.2.1 dX0_seekTwo_14 rfl (lv_at hl 3 rfl) ?_
        refine lv_aload_n X.1 X.2.1 dX0_seekTwo_15 rfl (lv_at hl 0 rfl) ?_
        refine gf_X0_103 (i := 0) X V rfl dX0_seekTwo_16 ?_
        refine lv_icmp_ge (tgt := 57) X.1 X.2.1 dX0_seekTwo_19 (by decide) (fun hc => ?_) (fun hc => ?_)
        · replace h := kif_t hc h
          obtain rfl := Option.some.inj h
          exact hG20 _ _ _ V (lv_sub hl [0, 1, 2, 3] rfl)
        · replace h := kif_f hc h
          refine lv_aload_n X.1 X.2.1 dX0_seekTwo_22 rfl (lv_at hl 0 rfl) ?_
          refine lv_aload_n X.1 X.2.1 dX0_seekTwo_23 rfl (lv_at hl 1 rfl) ?_
          refine lv_aload_n X.1 X.2.1 dX0_seekTwo_24 rfl (lv_at hl 0 rfl) ?_
          refine lv_iload_n X.1 X.2.1 dX0_seekTwo_25 rfl (lv_at hl 2 rfl) ?_
          obtain ⟨x21, hx21, h⟩ := kb_of h
          refine s_callVi (segs' := [gX0 g aT zT, gX8 g aP1 zP1]) (ci := 0) (i0 := 0) X V (c_X0_rimSpot l D g aT zT s11.1 x21 hx21) w_X0_124 ⟨Nat.le_of_ble_eq_true rfl, Nat.le_of_ble_eq_true rfl⟩ ⟨Nat.zero_le _, Nat.zero_le _⟩ rfl rfl rfl rfl [0] rfl rfl (kFst_refl _) rfl rfl hl.1 (Nat.le_of_ble_eq_true rfl) dX0_seekTwo_26 (fun H locs V => ?_)
          refine lv_aload_n X.1 X.2.1 dX0_seekTwo_29 rfl (lv_at hl 0 rfl) ?_
          refine lv_iload_n X.1 X.2.1 dX0_seekTwo_30 rfl (lv_at hl 3 rfl) ?_
          obtain ⟨x22, hx22, h⟩ := kb_of h
          refine s_callVi (segs' := [gX0 g aT zT, gX8 g aP1 zP1]) (ci := 0) (i0 := 0) X V (c_X0_rimSpot l D g aT zT s17 x22 hx22) w_X0_124 ⟨Nat.le_of_ble_eq_true rfl, Nat.le_of_ble_eq_true rfl⟩ ⟨Nat.zero_le _, Nat.zero_le _⟩ rfl rfl rfl rfl [0] rfl rfl (kFst_refl _) rfl rfl hl.1 (Nat.le_of_ble_eq_true rfl) dX0_seekTwo_31 (fun H locs V => ?_)
          obtain ⟨x23, hx23, h⟩ := kb_of h
          refine s_callVi (segs' := [gX0 g aT zT, gX8 g aP1 zP1]) (ci := 0) (i0 := 0) X V (c_X0_areOpposite l D g aT aP1 zT zP1 x21 x22 x23 hx23) w_X0_127 ⟨Nat.le_of_ble_eq_true rfl, Nat.le_of_ble_eq_true rfl⟩ ⟨Nat.zero_le _, Nat.zero_le _⟩ rfl rfl rfl rfl [0, 1] rfl rfl (kFst_refl _) rfl rfl hl.1 (Nat.le_of_ble_eq_true rfl) dX0_seekTwo_34 (fun H locs V => ?_)
          refine lv_if_eq (tgt := 51) X.1 X.2.1 dX0_seekTwo_37 (by decide) (fun hc => ?_) (fun hc => ?_)
          · replace h := kif_t hc h
            obtain ⟨y24, ey24⟩ : ∃ y : Int32, y = (s17 + (1 : Int32)) := ⟨_, rfl⟩
            replace h := kl_of ey24 h
            refine lv_iinc (v := y24) (lv' := [(3, .int y24), (0, .ref (aT 0)), (1, .ref (aP1 0)), (2, .int s11.1)]) X.1 X.2.1 dX0_seekTwo_51 hl (k := 3) rfl (by rw [ey24]; rfl) (by decide) rfl (fun ls hl => ?_)
            refine lv_goto (tgt := 14) X.1 X.2.1 dX0_seekTwo_54 (by decide) ?_
            obtain rfl := Option.some.inj h
            exact hG20 _ _ _ V (lv_sub hl [1, 2, 3, 0] rfl)
          · replace h := kif_f hc h
            obtain rfl := Option.some.inj h
            exact hG20 _ _ _ V (lv_sub hl [0, 1, 2, 3] rfl)
      · intro H locs ls V hl
        have V : kW D AA s.heap H (List.flatten [gX0 g aT zT, gX8 g aP1 zP1]) locs := V
        have hl : lv_has ls 4 [(0, .ref (aT 0)), (1, .ref (aP1 0)), (2, .int s11.1), (3, .int x16.2)] := hl
        by_cases hc : x16.1 = 40
        · replace h := kif_t hc h
          refine W.eq (g2 := F0 m 40 ls []) (by rw [hc]) ?_
          obtain rfl := Option.some.inj h
          exact hG14 _ _ _ V (lv_sub hl [0, 1, 2, 3] rfl)
        · replace h := kif_f hc h
          obtain ⟨hc, h⟩ := kg_of h
          refine W.eq (g2 := F0 m 57 ls []) (by rw [hc]) ?_
          obtain ⟨y25, ey25⟩ : ∃ y : Int32, y = (s11.1 + (1 : Int32)) := ⟨_, rfl⟩
          replace h := kl_of ey25 h
          refine lv_iinc (v := y25) (lv' := [(2, .int y25), (0, .ref (aT 0)), (1, .ref (aP1 0)), (3, .int x16.2)]) X.1 X.2.1 dX0_seekTwo_57 hl (k := 2) rfl (by rw [ey25]; rfl) (by decide) rfl (fun ls hl => ?_)
          refine lv_goto (tgt := 2) X.1 X.2.1 dX0_seekTwo_60 (by decide) ?_
          obtain rfl := Option.some.inj h
          exact hG14 _ _ _ V (lv_sub hl [1, 2, 0] rfl)
  · intro H locs ls V hl
    have V : kW D AA s.heap H (List.flatten [gX0 g aT zT, gX8 g aP1 zP1]) locs := V
    by_cases hc : x10.1 = 40
    · replace h := kif_t hc h
      refine W.eq (g2 := F0 m 40 ls []) (by rw [hc]) ?_
      have hl : lv_has ls 4 [(0, .ref (aT 0)), (1, .ref (aP1 0)), (2, .int x10.2.1), (3, .int x10.2.2)] := by have q := hl; rw [hc] at q; exact q
      refine lv_aload_n X.1 X.2.1 dX0_seekTwo_40 rfl (lv_at hl 0 rfl) ?_
      refine lv_aload_n X.1 X.2.1 dX0_seekTwo_41 rfl (lv_at hl 1 rfl) ?_
      refine lv_iconst (v := (2 : Int32)) X.1 X.2.1 dX0_seekTwo_42 (by decide) ?_
      refine lv_iload_n X.1 X.2.1 dX0_seekTwo_43 rfl (lv_at hl 2 rfl) ?_
      refine lv_iload_n X.1 X.2.1 dX0_seekTwo_44 rfl (lv_at hl 3 rfl) ?_
      refine lv_iconst (v := (0 : Int32)) X.1 X.2.1 dX0_seekTwo_45 (by decide) ?_
      obtain ⟨x26, hx26, h⟩ := kb_of h
      refine s_callVv (segs' := [gX0 g aT x26, gX8 g aP1 zP1]) (ci := 0) (i0 := 0) X V (c_X0_setTight l D g aT aP1 zT zP1 (2 : Int32) x10.2.1 x10.2.2 (0 : Int32) x26 hx26) w_X0_109 ⟨Nat.le_of_ble_eq_true rfl, Nat.le_of_ble_eq_true rfl⟩ ⟨Nat.zero_le _, Nat.zero_le _⟩ rfl rfl rfl rfl [0, 1] rfl rfl ⟨gX0_fst, rfl, trivial⟩ rfl rfl hl.1 (Nat.le_of_ble_eq_true rfl) dX0_seekTwo_46 (fun H locs V => ?_)
      refine lv_iconst (v := (1 : Int32)) X.1 X.2.1 dX0_seekTwo_49 (by decide) ?_
      obtain rfl := Option.some.inj h
      rw [hAA] at V
      rw [hQQ]
      exact k_zret X V (b := true) rfl rfl dX0_seekTwo_50
    · replace h := kif_f hc h
      obtain ⟨hc, h⟩ := kg_of h
      refine W.eq (g2 := F0 m 63 ls []) (by rw [hc]) ?_
      have hl : lv_has ls 4 [(0, .ref (aT 0)), (1, .ref (aP1 0)), (2, .int x10.2.1)] := by have q := hl; rw [hc] at q; exact q
      refine lv_iconst (v := (0 : Int32)) X.1 X.2.1 dX0_seekTwo_63 (by decide) ?_
      obtain rfl := Option.some.inj h
      rw [hAA] at V
      rw [hQQ]
      exact k_zret X V (b := false) rfl rfl dX0_seekTwo_64

def p_X0_areSharp (zP0 : tX8) (v1 : Int32) (v2 : Int32) (v3 : Int32) : Option (Bool) :=
  kb (p_X8_distance zP0 v1 v2) (fun x1 => kb (p_X8_distance zP0 v2 v3) (fun x2 => kb (p_X8_distance zP0 v3 v1) (fun x3 => kif ((x1 + x2) ≤ x3) (some false) (kif ((x2 + x3) ≤ x1) (some false) (kif ((x3 + x1) ≤ x2) (some false) (some true))))))
set_option maxHeartbeats 4000000 in
set_option maxRecDepth 100000 in
theorem c_X0_areSharp (l : Launch) (D : va_G) (g : kG) (aP0 : Nat → Nat) (zP0 : tX8) (v1 : Int32) (v2 : Int32) (v3 : Int32) (r : Bool) (h : p_X0_areSharp zP0 v1 v2 v3 = some r) : kMi l yX0_areSharp cX0_areSharp 7 (some .boolean) (kR 2 45) D (kty g) [.ref (aP0 0), .int v1, .int v2, .int v3] (List.flatten [gX8 g aP0 zP0]) (kz r) (List.flatten [gX8 g aP0 zP0]) := by
  intro sz
  refine k_enter (lv := [(0, .ref (aP0 0)), (1, .int v1), (2, .int v2), (3, .int v3)]) RX0 (by decide +kernel) rfl rfl (Nat.le_of_ble_eq_true rfl) ?_
  intro p en s m args below meth c ls hsz X V hl
  obtain ⟨QQ, hQQ⟩ : ∃ q, q = MQ below (va_Qi (fun r' (_ : Unit) => r' = kz r) (fun _ => kE D (List.flatten [gX8 g aP0 zP0])) (va_A (List.flatten [gX8 g aP0 zP0]) sz)) args s 0 0 (va_A (List.flatten [gX8 g aP0 zP0]) sz) := ⟨_, rfl⟩
  rw [← hQQ]
  obtain ⟨AA, hAA⟩ : ∃ q, q = va_A (List.flatten [gX8 g aP0 zP0]) sz := ⟨_, rfl⟩
  rw [← hAA] at V
  unfold p_X0_areSharp at h
  refine lv_aload_n X.1 X.2.1 dX0_areSharp_0 rfl (lv_at hl 0 rfl) ?_
  refine lv_iload_n X.1 X.2.1 dX0_areSharp_1 rfl (lv_at hl 1 rfl) ?_
  refine lv_iload_n X.1 X.2.1 dX0_areSharp_2 rfl (lv_at hl 2 rfl) ?_
  obtain ⟨x4, hx4, h⟩ := kb_of h
  refine s_callVi (segs' := [gX8 g aP0 zP0]) (ci := 8) (i0 := 0) X V (c_X8_distance l D g aP0 zP0 v1 v2 x4 hx4) w_X0_134 ⟨Nat.le_of_ble_eq_true rfl, Nat.le_of_ble_eq_true rfl⟩ ⟨Nat.zero_le _, Nat.zero_le _⟩ rfl rfl rfl rfl [0] rfl rfl (kFst_refl _) rfl rfl hl.1 (Nat.le_of_ble_eq_true rfl) dX0_areSharp_3 (fun H locs V => ?_)
  refine lv_istore (lv' := [(4, .int x4), (0, .ref (aP0 0)), (1, .int v1), (2, .int v2), (3, .int v3)]) X.1 X.2.1 dX0_areSharp_6 hl (by decide) rfl (fun ls hl => ?_)
  refine lv_aload_n X.1 X.2.1 dX0_areSharp_8 rfl (lv_at hl 1 rfl) ?_
  refine lv_iload_n X.1 X.2.1 dX0_areSharp_9 rfl (lv_at hl 3 rfl) ?_
  refine lv_iload_n X.1 X.2.1 dX0_areSharp_10 rfl (lv_at hl 4 rfl) ?_
  obtain ⟨x5, hx5, h⟩ := kb_of h
  refine s_callVi (segs' := [gX8 g aP0 zP0]) (ci := 8) (i0 := 0) X V (c_X8_distance l D g aP0 zP0 v2 v3 x5 hx5) w_X0_134 ⟨Nat.le_of_ble_eq_true rfl, Nat.le_of_ble_eq_true rfl⟩ ⟨Nat.zero_le _, Nat.zero_le _⟩ rfl rfl rfl rfl [0] rfl rfl (kFst_refl _) rfl rfl hl.1 (Nat.le_of_ble_eq_true rfl) dX0_areSharp_11 (fun H locs V => ?_)
  refine lv_istore (lv' := [(5, .int x5), (4, .int x4), (0, .ref (aP0 0)), (1, .int v1), (2, .int v2), (3, .int v3)]) X.1 X.2.1 dX0_areSharp_14 hl (by decide) rfl (fun ls hl => ?_)
  refine lv_aload_n X.1 X.2.1 dX0_areSharp_16 rfl (lv_at hl 2 rfl) ?_
  refine lv_iload_n X.1 X.2.1 dX0_areSharp_17 rfl (lv_at hl 5 rfl) ?_
  refine lv_iload_n X.1 X.2.1 dX0_areSharp_18 rfl (lv_at hl 3 rfl) ?_
  obtain ⟨x6, hx6, h⟩ := kb_of h
  refine s_callVi (segs' := [gX8 g aP0 zP0]) (ci := 8) (i0 := 0) X V (c_X8_distance l D g aP0 zP0 v3 v1 x6 hx6) w_X0_134 ⟨Nat.le_of_ble_eq_true rfl, Nat.le_of_ble_eq_true rfl⟩ ⟨Nat.zero_le _, Nat.zero_le _⟩ rfl rfl rfl rfl [0] rfl rfl (kFst_refl _) rfl rfl hl.1 (Nat.le_of_ble_eq_true rfl) dX0_areSharp_19 (fun H locs V => ?_)
  refine lv_istore (lv' := [(6, .int x6), (5, .int x5), (4, .int x4), (0, .ref (aP0 0)), (1, .int v1), (2, .int v2), (3, .int v3)]) X.1 X.2.1 dX0_areSharp_22 hl (by decide) rfl (fun ls hl => ?_)
  refine lv_iload X.1 X.2.1 dX0_areSharp_24 (lv_at hl 2 rfl) ?_
  refine lv_iload X.1 X.2.1 dX0_areSharp_26 (lv_at hl 1 rfl) ?_
  refine lv_iadd X.1 X.2.1 dX0_areSharp_28 ?_
  refine lv_iload X.1 X.2.1 dX0_areSharp_29 (lv_at hl 0 rfl) ?_
  refine lv_icmp_le (tgt := 58) X.1 X.2.1 dX0_areSharp_31 (by decide) (fun hc => ?_) (fun hc => ?_)
  · replace h := kif_t hc h
    refine lv_iconst (v := (0 : Int32)) X.1 X.2.1 dX0_areSharp_58 (by decide) ?_
    obtain rfl := Option.some.inj h
    rw [hAA] at V
    rw [hQQ]
    exact k_zret X V (b := false) rfl rfl dX0_areSharp_59
  · replace h := kif_f hc h
    refine lv_iload X.1 X.2.1 dX0_areSharp_34 (lv_at hl 1 rfl) ?_
    refine lv_iload X.1 X.2.1 dX0_areSharp_36 (lv_at hl 0 rfl) ?_
    refine lv_iadd X.1 X.2.1 dX0_areSharp_38 ?_
    refine lv_iload X.1 X.2.1 dX0_areSharp_39 (lv_at hl 2 rfl) ?_
    refine lv_icmp_le (tgt := 58) X.1 X.2.1 dX0_areSharp_41 (by decide) (fun hc => ?_) (fun hc => ?_)
    · replace h := kif_t hc h
      refine lv_iconst (v := (0 : Int32)) X.1 X.2.1 dX0_areSharp_58 (by decide) ?_
      obtain rfl := Option.some.inj h
      rw [hAA] at V
      rw [hQQ]
      exact k_zret X V (b := false) rfl rfl dX0_areSharp_59
    · replace h := kif_f hc h
      refine lv_iload X.1 X.2.1 dX0_areSharp_44 (lv_at hl 0 rfl) ?_
      refine lv_iload X.1 X.2.1 dX0_areSharp_46 (lv_at hl 2 rfl) ?_
      refine lv_iadd X.1 X.2.1 dX0_areSharp_48 ?_
      refine lv_iload X.1 X.2.1 dX0_areSharp_49 (lv_at hl 1 rfl) ?_
      refine lv_icmp_le (tgt := 58) X.1 X.2.1 dX0_areSharp_51 (by decide) (fun hc => ?_) (fun hc => ?_)
      · replace h := kif_t hc h
        refine lv_iconst (v := (0 : Int32)) X.1 X.2.1 dX0_areSharp_58 (by decide) ?_
        obtain rfl := Option.some.inj h
        rw [hAA] at V
        rw [hQQ]
        exact k_zret X V (b := false) rfl rfl dX0_areSharp_59
      · replace h := kif_f hc h
        refine lv_iconst (v := (1 : Int32)) X.1 X.2.1 dX0_areSharp_54 (by decide) ?_
        refine lv_goto (tgt := 59) X.1 X.2.1 dX0_areSharp_55 (by decide) ?_
        obtain rfl := Option.some.inj h
        rw [hAA] at V
        rw [hQQ]
        exact k_zret X V (b := true) rfl rfl dX0_areSharp_59

def p_X0_seekThree_L27 (zP1 : tX8) (zT : tX0) (v2 : Int32) (v3 : Int32) (s : Int32) : Option (Nat × (Int32)) :=
  kif (zT.2.2.2.2.2.2.1 ≤ s) (some (76, s)) (kb (p_X0_rimSpot zT v2) (fun x3 => kb (p_X0_rimSpot zT v3) (fun x4 => kb (p_X0_rimSpot zT s) (fun x5 => kb (p_X0_areSharp zP1 x3 x4 x5) (fun x6 => kif ((kz x6) = 0) (kl (s + (1 : Int32)) (fun y7 => some (27, y7))) (some (59, s)))))))
def p_X0_seekThree_L14 (zP1 : tX8) (zT : tX0) (v2 : Int32) (s : Int32 × Int32) : Option (Nat × (Int32 × Int32)) :=
  kif (zT.2.2.2.2.2.2.1 ≤ s.1) (some (82, (s.1, (0 : Int32)))) (kl (s.1 + (1 : Int32)) (fun y2 => kb (kitr 27 (fun q => p_X0_seekThree_L27 zP1 zT v2 s.1 q) kF y2) (fun x8 => kif (x8.1 = 59) (some (59, (s.1, x8.2))) (kg (x8.1 = 76) (kl (s.1 + (1 : Int32)) (fun y9 => some (14, (y9, (0 : Int32)))))))))
def p_X0_seekThree_L2 (zP1 : tX8) (zT : tX0) (s : Int32 × Int32 × Int32) : Option (Nat × (Int32 × Int32 × Int32)) :=
  kif (zT.2.2.2.2.2.2.1 ≤ s.1) (some (88, (s.1, (0 : Int32), (0 : Int32)))) (kl (s.1 + (1 : Int32)) (fun y1 => kb (kitr 14 (fun q => p_X0_seekThree_L14 zP1 zT s.1 q) kF (y1, (0 : Int32))) (fun x10 => kif (x10.1 = 59) (some (59, (s.1, x10.2.1, x10.2.2))) (kg (x10.1 = 82) (kl (s.1 + (1 : Int32)) (fun y11 => some (2, (y11, (0 : Int32), (0 : Int32)))))))))
def p_X0_seekThree (zT : tX0) (zP1 : tX8) : Option (tX0) :=
  kb (kitr 2 (fun q => p_X0_seekThree_L2 zP1 zT q) kF ((0 : Int32), (0 : Int32), (0 : Int32))) (fun x12 => kif (x12.1 = 59) (kb (p_X0_setTight zT zP1 (3 : Int32) x12.2.1 x12.2.2.1 x12.2.2.2) (fun x13 => some x13)) (kg (x12.1 = 88) (some zT)))
set_option maxHeartbeats 4000000 in
set_option maxRecDepth 100000 in
theorem c_X0_seekThree (l : Launch) (D : va_G) (g : kG) (aT : Nat → Nat) (aP1 : Nat → Nat) (zT : tX0) (zP1 : tX8) (r : tX0) (h : p_X0_seekThree zT zP1 = some r) : kMv l yX0_seekThree cX0_seekThree 5 none (kR 3 71) D (kty g) [.ref (aT 0), .ref (aP1 0)] (List.flatten [gX0 g aT zT, gX8 g aP1 zP1]) (List.flatten [gX0 g aT r, gX8 g aP1 zP1]) := by
  intro sz
  refine k_enter (lv := [(0, .ref (aT 0)), (1, .ref (aP1 0))]) RX0 (by decide +kernel) rfl rfl (Nat.le_of_ble_eq_true rfl) ?_
  intro p en s m args below meth c ls hsz X V hl
  obtain ⟨QQ, hQQ⟩ : ∃ q, q = MQ below (va_Qv (fun (_ : Unit) => True) (fun _ => kE D (List.flatten [gX0 g aT r, gX8 g aP1 zP1])) (va_A (List.flatten [gX0 g aT zT, gX8 g aP1 zP1]) sz)) args s 0 0 (va_A (List.flatten [gX0 g aT zT, gX8 g aP1 zP1]) sz) := ⟨_, rfl⟩
  rw [← hQQ]
  obtain ⟨AA, hAA⟩ : ∃ q, q = va_A (List.flatten [gX0 g aT zT, gX8 g aP1 zP1]) sz := ⟨_, rfl⟩
  rw [← hAA] at V
  unfold p_X0_seekThree at h
  refine lv_iconst (v := (0 : Int32)) X.1 X.2.1 dX0_seekThree_0 (by decide) ?_
  refine lv_istore_n (lv' := [(2, .int (0 : Int32)), (0, .ref (aT 0)), (1, .ref (aP1 0))]) X.1 X.2.1 dX0_seekThree_1 rfl hl (by decide) rfl (fun ls hl => ?_)
  obtain ⟨x14, hx14, h⟩ := kb_of h
  refine (kitr_go (hd := 2) (body := fun q => p_X0_seekThree_L2 zP1 zT q) (G := (fun e => ∀ (H : Heap) (locs : List Loc) (ls : Array Slot), kW D AA s.heap H (List.flatten [gX0 g aT zT, gX8 g aP1 zP1]) locs → lv_has ls 5 ([(0, .ref (aT 0)), (1, .ref (aP1 0)), (2, .int e.2.1)] ++ (if e.1 = 59 then [(3, .int e.2.2.1), (4, .int e.2.2.2)] else [])) → W p l en (kR 3 71) s m args below meth c H locs 0 0 QQ (F0 m e.1 ls []))) (fun s15 e16 hb17 hG18 => ?_) kF _ x14 hx14 ?_) _ _ _ V (lv_sub hl [1, 2, 0] rfl)
  · intro H locs ls V hl
    show W p l en (kR 3 71) s m args below meth c H locs 0 0 QQ (F0 m 2 ls [])
    have h : p_X0_seekThree_L2 zP1 zT s15 = some e16 := hb17
    unfold p_X0_seekThree_L2 at h
    have V : kW D AA s.heap H (List.flatten [gX0 g aT zT, gX8 g aP1 zP1]) locs := V
    have hl : lv_has ls 5 [(0, .ref (aT 0)), (1, .ref (aP1 0)), (2, .int s15.1)] := hl
    refine lv_iload_n X.1 X.2.1 dX0_seekThree_2 rfl (lv_at hl 2 rfl) ?_
    refine lv_aload_n X.1 X.2.1 dX0_seekThree_3 rfl (lv_at hl 0 rfl) ?_
    refine gf_X0_103 (i := 0) X V rfl dX0_seekThree_4 ?_
    refine lv_icmp_ge (tgt := 88) X.1 X.2.1 dX0_seekThree_7 (by decide) (fun hc => ?_) (fun hc => ?_)
    · replace h := kif_t hc h
      obtain rfl := Option.some.inj h
      exact hG18 _ _ _ V (lv_sub hl [0, 1, 2] rfl)
    · replace h := kif_f hc h
      refine lv_iload_n X.1 X.2.1 dX0_seekThree_10 rfl (lv_at hl 2 rfl) ?_
      refine lv_iconst (v := (1 : Int32)) X.1 X.2.1 dX0_seekThree_11 (by decide) ?_
      refine lv_iadd X.1 X.2.1 dX0_seekThree_12 ?_
      refine lv_topi (fun y19 ey19 => ?_)
      replace h := kl_of ey19 h
      refine lv_istore_n (lv' := [(3, .int y19), (0, .ref (aT 0)), (1, .ref (aP1 0)), (2, .int s15.1)]) X.1 X.2.1 dX0_seekThree_13 rfl hl (by decide) rfl (fun ls hl => ?_)
      obtain ⟨x20, hx20, h⟩ := kb_of h
      refine (kitr_go (hd := 14) (body := fun q => p_X0_seekThree_L14 zP1 zT s15.1 q) (G := (fun e => ∀ (H : Heap) (locs : List Loc) (ls : Array Slot), kW D AA s.heap H (List.flatten [gX0 g aT zT, gX8 g aP1 zP1]) locs → lv_has ls 5 ([(0, .ref (aT 0)), (1, .ref (aP1 0)), (2, .int s15.1), (3, .int e.2.1)] ++ (if e.1 = 59 then [(4, .int e.2.2)] else [])) → W p l en (kR 3 71) s m args below meth c H locs 0 0 QQ (F0 m e.1 ls []))) (fun s21 e22 hb23 hG24 => ?_) kF _ x20 hx20 ?_) _ _ _ V (lv_sub hl [1, 2, 3, 0] rfl)
      · intro H locs ls V hl
        show W p l en (kR 3 71) s m args below meth c H locs 0 0 QQ (F0 m 14 ls [])
        have h : p_X0_seekThree_L14 zP1 zT s15.1 s21 = some e22 := hb23
        unfold p_X0_seekThree_L14 at h
        have V : kW D AA s.heap H (List.flatten [gX0 g aT zT, gX8 g aP1 zP1]) locs := V
        have hl : lv_has ls 5 [(0, .ref (aT 0)), (1, .ref (aP1 0)), (2, .int s15.1), (3, .int s21.1)] := hl
        refine lv_iload_n X.1 X.2.1 dX0_seekThree_14 rfl (lv_at hl 3 rfl) ?_
        refine lv_aload_n X.1 X.2.1 dX0_seekThree_15 rfl (lv_at hl 0 rfl) ?_
        refine gf_X0_103 (i := 0) X V rfl dX0_seekThree_16 ?_
        refine lv_icmp_ge (tgt := 82) X.1 X.2.1 dX0_seekThree_19 (by decide) (fun hc => ?_) (fun hc => ?_)
        · replace h := kif_t hc h
          obtain rfl := Option.some.inj h
          exact hG24 _ _ _ V (lv_sub hl [0, 1, 2, 3] rfl)
        · replace h := kif_f hc h
          refine lv_iload_n X.1 X.2.1 dX0_seekThree_22 rfl (lv_at hl 3 rfl) ?_
          refine lv_iconst (v := (1 : Int32)) X.1 X.2.1 dX0_seekThree_23 (by decide) ?_
          refine lv_iadd X.1 X.2.1 dX0_seekThree_24 ?_
          refine lv_topi (fun y25 ey25 => ?_)
          replace h := kl_of ey25 h
          refine lv_istore (lv' := [(4, .int y25), (0, .ref (aT 0)), (1, .ref (aP1 0)), (2, .int s15.1), (3, .int s21.1)]) X.1 X.2.1 dX0_seekThree_25 hl (by decide) rfl (fun ls hl => ?_)
          obtain ⟨x26, hx26, h⟩ := kb_of h
          refine (kitr_go (hd := 27) (body := fun q => p_X0_seekThree_L27 zP1 zT s15.1 s21.1 q) (G := (fun e => ∀ (H : Heap) (locs : List Loc) (ls : Array Slot), kW D AA s.heap H (List.flatten [gX0 g aT zT, gX8 g aP1 zP1]) locs → lv_has ls 5 [(0, .ref (aT 0)), (1, .ref (aP1 0)), (2, .int s15.1), (3, .int s21.1), (4, .int e.2)] → W p l en (kR 3 71) s m args below meth c H locs 0 0 QQ (F0 m e.1 ls []))) (fun s27 e28 hb29 hG30 => ?_) kF _ x26 hx26 ?_) _ _ _ V (lv_sub hl [1, 2, 3, 4, 0] rfl)
          · intro H locs ls V hl
            show W p l en (kR 3 71) s m args below meth c H locs 0 0 QQ (F0 m 27 ls [])
            have h : p_X0_seekThree_L27 zP1 zT s15.1 s21.1 s27 = some e28 := hb29
            unfold p_X0_seekThree_L27 at h
            have V : kW D AA s.heap H (List.flatten [gX0 g aT zT, gX8 g aP1 zP1]) locs := V
            have hl : lv_has ls 5 [(0, .ref (aT 0)), (1, .ref (aP1 0)), (2, .int s15.1), (3, .int s21.1), (4, .int s27)] := hl
            refine lv_iload X.1 X.2.1 dX0_seekThree_27 (lv_at hl 4 rfl) ?_
            refine lv_aload_n X.1 X.2.1 dX0_seekThree_29 rfl (lv_at hl 0 rfl) ?_
            refine gf_X0_103 (i := 0) X V rfl dX0_seekThree_30 ?_
            refine lv_icmp_ge (tgt := 76) X.1 X.2.1 dX0_seekThree_33 (by decide) (fun hc => ?_) (fun hc => ?_)
            · replace h := kif_t hc h
              obtain rfl := Option.some.inj h
              exact hG30 _ _ _ V (lv_sub hl [0, 1, 2, 3, 4] rfl)
            · replace h := kif_f hc h
              refine lv_aload_n X.1 X.2.1 dX0_seekThree_36 rfl (lv_at hl 1 rfl) ?_
              refine lv_aload_n X.1 X.2.1 dX0_seekThree_37 rfl (lv_at hl 0 rfl) ?_
              refine lv_iload_n X.1 X.2.1 dX0_seekThree_38 rfl (lv_at hl 2 rfl) ?_
              obtain ⟨x31, hx31, h⟩ := kb_of h
              refine s_callVi (segs' := [gX0 g aT zT, gX8 g aP1 zP1]) (ci := 0) (i0 := 0) X V (c_X0_rimSpot l D g aT zT s15.1 x31 hx31) w_X0_124 ⟨Nat.le_of_ble_eq_true rfl, Nat.le_of_ble_eq_true rfl⟩ ⟨Nat.zero_le _, Nat.zero_le _⟩ rfl rfl rfl rfl [0] rfl rfl (kFst_refl _) rfl rfl hl.1 (Nat.le_of_ble_eq_true rfl) dX0_seekThree_39 (fun H locs V => ?_)
              refine lv_aload_n X.1 X.2.1 dX0_seekThree_42 rfl (lv_at hl 0 rfl) ?_
              refine lv_iload_n X.1 X.2.1 dX0_seekThree_43 rfl (lv_at hl 3 rfl) ?_
              obtain ⟨x32, hx32, h⟩ := kb_of h
              refine s_callVi (segs' := [gX0 g aT zT, gX8 g aP1 zP1]) (ci := 0) (i0 := 0) X V (c_X0_rimSpot l D g aT zT s21.1 x32 hx32) w_X0_124 ⟨Nat.le_of_ble_eq_true rfl, Nat.le_of_ble_eq_true rfl⟩ ⟨Nat.zero_le _, Nat.zero_le _⟩ rfl rfl rfl rfl [0] rfl rfl (kFst_refl _) rfl rfl hl.1 (Nat.le_of_ble_eq_true rfl) dX0_seekThree_44 (fun H locs V => ?_)
              refine lv_aload_n X.1 X.2.1 dX0_seekThree_47 rfl (lv_at hl 0 rfl) ?_
              refine lv_iload X.1 X.2.1 dX0_seekThree_48 (lv_at hl 4 rfl) ?_
              obtain ⟨x33, hx33, h⟩ := kb_of h
              refine s_callVi (segs' := [gX0 g aT zT, gX8 g aP1 zP1]) (ci := 0) (i0 := 0) X V (c_X0_rimSpot l D g aT zT s27 x33 hx33) w_X0_124 ⟨Nat.le_of_ble_eq_true rfl, Nat.le_of_ble_eq_true rfl⟩ ⟨Nat.zero_le _, Nat.zero_le _⟩ rfl rfl rfl rfl [0] rfl rfl (kFst_refl _) rfl rfl hl.1 (Nat.le_of_ble_eq_true rfl) dX0_seekThree_50 (fun H locs V => ?_)
              obtain ⟨x34, hx34, h⟩ := kb_of h
              refine s_callSi (segs' := [gX0 g aT zT, gX8 g aP1 zP1]) X V (c_X0_areSharp l D g aP1 zP1 x31 x32 x33 x34 hx34) w_X0_131 ⟨Nat.le_of_ble_eq_true rfl, Nat.le_of_ble_eq_true rfl⟩ ⟨Nat.zero_le _, Nat.zero_le _⟩ rfl [1] rfl rfl (kFst_refl _) rfl rfl hl.1 (Nat.le_of_ble_eq_true rfl) dX0_seekThree_53 (fun H locs V => ?_)
              refine lv_if_eq (tgt := 70) X.1 X.2.1 dX0_seekThree_56 (by decide) (fun hc => ?_) (fun hc => ?_)
              · replace h := kif_t hc h
                obtain ⟨y35, ey35⟩ : ∃ y : Int32, y = (s27 + (1 : Int32)) := ⟨_, rfl⟩
                replace h := kl_of ey35 h
                refine lv_iinc (v := y35) (lv' := [(4, .int y35), (0, .ref (aT 0)), (1, .ref (aP1 0)), (2, .int s15.1), (3, .int s21.1)]) X.1 X.2.1 dX0_seekThree_70 hl (k := 4) rfl (by rw [ey35]; rfl) (by decide) rfl (fun ls hl => ?_)
                refine lv_goto (tgt := 27) X.1 X.2.1 dX0_seekThree_73 (by decide) ?_
                obtain rfl := Option.some.inj h
                exact hG30 _ _ _ V (lv_sub hl [1, 2, 3, 4, 0] rfl)
              · replace h := kif_f hc h
                obtain rfl := Option.some.inj h
                exact hG30 _ _ _ V (lv_sub hl [0, 1, 2, 3, 4] rfl)
          · intro H locs ls V hl
            have V : kW D AA s.heap H (List.flatten [gX0 g aT zT, gX8 g aP1 zP1]) locs := V
            have hl : lv_has ls 5 [(0, .ref (aT 0)), (1, .ref (aP1 0)), (2, .int s15.1), (3, .int s21.1), (4, .int x26.2)] := hl
            by_cases hc : x26.1 = 59
            · replace h := kif_t hc h
              refine W.eq (g2 := F0 m 59 ls []) (by rw [hc]) ?_
              obtain rfl := Option.some.inj h
              exact hG24 _ _ _ V (lv_sub hl [0, 1, 2, 3, 4] rfl)
            · replace h := kif_f hc h
              obtain ⟨hc, h⟩ := kg_of h
              refine W.eq (g2 := F0 m 76 ls []) (by rw [hc]) ?_
              obtain ⟨y36, ey36⟩ : ∃ y : Int32, y = (s21.1 + (1 : Int32)) := ⟨_, rfl⟩
              replace h := kl_of ey36 h
              refine lv_iinc (v := y36) (lv' := [(3, .int y36), (0, .ref (aT 0)), (1, .ref (aP1 0)), (2, .int s15.1), (4, .int x26.2)]) X.1 X.2.1 dX0_seekThree_76 hl (k := 3) rfl (by rw [ey36]; rfl) (by decide) rfl (fun ls hl => ?_)
              refine lv_goto (tgt := 14) X.1 X.2.1 dX0_seekThree_79 (by decide) ?_
              obtain rfl := Option.some.inj h
              exact hG24 _ _ _ V (lv_sub hl [1, 2, 3, 0] rfl)
      · intro H locs ls V hl
        have V : kW D AA s.heap H (List.flatten [gX0 g aT zT, gX8 g aP1 zP1]) locs := V
        by_cases hc : x20.1 = 59
        · replace h := kif_t hc h
          refine W.eq (g2 := F0 m 59 ls []) (by rw [hc]) ?_
          have hl : lv_has ls 5 [(0, .ref (aT 0)), (1, .ref (aP1 0)), (2, .int s15.1), (3, .int x20.2.1), (4, .int x20.2.2)] := by have q := hl; rw [hc] at q; exact q
          obtain rfl := Option.some.inj h
          exact hG18 _ _ _ V (lv_sub hl [0, 1, 2, 3, 4] rfl)
        · replace h := kif_f hc h
          obtain ⟨hc, h⟩ := kg_of h
          refine W.eq (g2 := F0 m 82 ls []) (by rw [hc]) ?_
          have hl : lv_has ls 5 [(0, .ref (aT 0)), (1, .ref (aP1 0)), (2, .int s15.1), (3, .int x20.2.1)] := by have q := hl; rw [hc] at q; exact q
          obtain ⟨y37, ey37⟩ : ∃ y : Int32, y = (s15.1 + (1 : Int32)) := ⟨_, rfl⟩
          replace h := kl_of ey37 h
          refine lv_iinc (v := y37) (lv' := [(2, .int y37), (0, .ref (aT 0)), (1, .ref (aP1 0)), (3, .int x20.2.1)]) X.1 X.2.1 dX0_seekThree_82 hl (k := 2) rfl (by rw [ey37]; rfl) (by decide) rfl (fun ls hl => ?_)
          refine lv_goto (tgt := 2) X.1 X.2.1 dX0_seekThree_85 (by decide) ?_
          obtain rfl := Option.some.inj h
          exact hG18 _ _ _ V (lv_sub hl [1, 2, 0] rfl)
  · intro H locs ls V hl
    have V : kW D AA s.heap H (List.flatten [gX0 g aT zT, gX8 g aP1 zP1]) locs := V
    by_cases hc : x14.1 = 59
    · replace h := kif_t hc h
      refine W.eq (g2 := F0 m 59 ls []) (by rw [hc]) ?_
      have hl : lv_has ls 5 [(0, .ref (aT 0)), (1, .ref (aP1 0)), (2, .int x14.2.1), (3, .int x14.2.2.1), (4, .int x14.2.2.2)] := by have q := hl; rw [hc] at q; exact q
      refine lv_aload_n X.1 X.2.1 dX0_seekThree_59 rfl (lv_at hl 0 rfl) ?_
      refine lv_aload_n X.1 X.2.1 dX0_seekThree_60 rfl (lv_at hl 1 rfl) ?_
      refine lv_iconst (v := (3 : Int32)) X.1 X.2.1 dX0_seekThree_61 (by decide) ?_
      refine lv_iload_n X.1 X.2.1 dX0_seekThree_62 rfl (lv_at hl 2 rfl) ?_
      refine lv_iload_n X.1 X.2.1 dX0_seekThree_63 rfl (lv_at hl 3 rfl) ?_
      refine lv_iload X.1 X.2.1 dX0_seekThree_64 (lv_at hl 4 rfl) ?_
      obtain ⟨x38, hx38, h⟩ := kb_of h
      refine s_callVv (segs' := [gX0 g aT x38, gX8 g aP1 zP1]) (ci := 0) (i0 := 0) X V (c_X0_setTight l D g aT aP1 zT zP1 (3 : Int32) x14.2.1 x14.2.2.1 x14.2.2.2 x38 hx38) w_X0_109 ⟨Nat.le_of_ble_eq_true rfl, Nat.le_of_ble_eq_true rfl⟩ ⟨Nat.zero_le _, Nat.zero_le _⟩ rfl rfl rfl rfl [0, 1] rfl rfl ⟨gX0_fst, rfl, trivial⟩ rfl rfl hl.1 (Nat.le_of_ble_eq_true rfl) dX0_seekThree_66 (fun H locs V => ?_)
      obtain rfl := Option.some.inj h
      rw [hAA] at V
      rw [hQQ]
      exact k_vret X V dX0_seekThree_69
    · replace h := kif_f hc h
      obtain ⟨hc, h⟩ := kg_of h
      refine W.eq (g2 := F0 m 88 ls []) (by rw [hc]) ?_
      have hl : lv_has ls 5 [(0, .ref (aT 0)), (1, .ref (aP1 0)), (2, .int x14.2.1)] := by have q := hl; rw [hc] at q; exact q
      obtain rfl := Option.some.inj h
      rw [hAA] at V
      rw [hQQ]
      exact k_vret X V dX0_seekThree_88

def p_X0_seekTight_L7 (zP1 : tX8) (s : Int32 × tX0) : Option (Nat × (Int32 × tX0)) :=
  kb (p_X8_count zP1) (fun x2 => kif (x2 ≤ s.1) (some (44, (s.1, s.2))) (kb (p_X8_x zP1 s.1) (fun x3 => kb (p_X8_y zP1 s.1) (fun x4 => kb (p_X0_side s.2 x3 x4) (fun x5 => kif (x5 = 0) (kb (p_X0_putOnRim s.2 zP1 s.1) (fun x6 => kl (s.1 + (1 : Int32)) (fun y7 => some (7, (y7, x6))))) (kl (s.1 + (1 : Int32)) (fun y8 => some (7, (y8, s.2)))))))))
def p_X0_seekTight (zT : tX0) (zP1 : tX8) : Option (tX0) :=
  kl (zT.1, zT.2.1, zT.2.2.1, zT.2.2.2.1, zT.2.2.2.2.1, zT.2.2.2.2.2.1, (0 : Int32), zT.2.2.2.2.2.2.2) (fun z1 => kb (kitr 7 (fun q => p_X0_seekTight_L7 zP1 q) kF ((0 : Int32), z1)) (fun x9 => kg (x9.1 = 44) (kl (x9.2.2.1, x9.2.2.2.1, x9.2.2.2.2.1, x9.2.2.2.2.2.1, x9.2.2.2.2.2.2.1, x9.2.2.2.2.2.2.2.1, x9.2.2.2.2.2.2.2.2.1, x9.2.2.2.2.2.2.2.2.2.1, (0 : Int32)) (fun z10 => kif (z10.2.2.2.2.2.2.1 = (1 : Int32)) (kb (p_X0_setTight z10 zP1 (1 : Int32) (0 : Int32) (0 : Int32) (0 : Int32)) (fun x11 => some x11)) (kb (p_X0_seekTwo z10 zP1) (fun x12 => kif ((kz x12.1) = 0) (kb (p_X0_seekThree x12.2 zP1) (fun x13 => some x13)) (some x12.2)))))))
set_option maxHeartbeats 4000000 in
set_option maxRecDepth 100000 in
theorem c_X0_seekTight (l : Launch) (D : va_G) (g : kG) (aT : Nat → Nat) (aP1 : Nat → Nat) (zT : tX0) (zP1 : tX8) (r : tX0) (h : p_X0_seekTight zT zP1 = some r) : kMv l yX0_seekTight cX0_seekTight 3 none (kR 4 95) D (kty g) [.ref (aT 0), .ref (aP1 0)] (List.flatten [gX0 g aT zT, gX8 g aP1 zP1]) (List.flatten [gX0 g aT r, gX8 g aP1 zP1]) := by
  intro sz
  refine k_enter (lv := [(0, .ref (aT 0)), (1, .ref (aP1 0))]) RX0 (by decide +kernel) rfl rfl (Nat.le_of_ble_eq_true rfl) ?_
  intro p en s m args below meth c ls hsz X V hl
  obtain ⟨QQ, hQQ⟩ : ∃ q, q = MQ below (va_Qv (fun (_ : Unit) => True) (fun _ => kE D (List.flatten [gX0 g aT r, gX8 g aP1 zP1])) (va_A (List.flatten [gX0 g aT zT, gX8 g aP1 zP1]) sz)) args s 0 0 (va_A (List.flatten [gX0 g aT zT, gX8 g aP1 zP1]) sz) := ⟨_, rfl⟩
  rw [← hQQ]
  obtain ⟨AA, hAA⟩ : ∃ q, q = va_A (List.flatten [gX0 g aT zT, gX8 g aP1 zP1]) sz := ⟨_, rfl⟩
  rw [← hAA] at V
  unfold p_X0_seekTight at h
  refine lv_aload_n X.1 X.2.1 dX0_seekTight_0 rfl (lv_at hl 0 rfl) ?_
  refine lv_iconst (v := (0 : Int32)) X.1 X.2.1 dX0_seekTight_1 (by decide) ?_
  refine pf_X0_103 (i := 0) X V rfl dX0_seekTight_2 (fun H locs V => ?_)
  obtain ⟨z14, ez14⟩ : ∃ y, y = (zT.1, zT.2.1, zT.2.2.1, zT.2.2.2.1, zT.2.2.2.2.1, zT.2.2.2.2.2.1, (0 : Int32), zT.2.2.2.2.2.2.2) := ⟨_, rfl⟩
  replace h := kl_of ez14 h
  have V : kW D AA s.heap H (List.flatten [gX0 g aT z14, gX8 g aP1 zP1]) locs := by rw [ez14]; exact V
  refine lv_iconst (v := (0 : Int32)) X.1 X.2.1 dX0_seekTight_5 (by decide) ?_
  refine lv_istore_n (lv' := [(2, .int (0 : Int32)), (0, .ref (aT 0)), (1, .ref (aP1 0))]) X.1 X.2.1 dX0_seekTight_6 rfl hl (by decide) rfl (fun ls hl => ?_)
  obtain ⟨x15, hx15, h⟩ := kb_of h
  refine (kitr_go (hd := 7) (body := fun q => p_X0_seekTight_L7 zP1 q) (G := (fun e => ∀ (H : Heap) (locs : List Loc) (ls : Array Slot), kW D AA s.heap H (List.flatten [gX0 g aT e.2.2, gX8 g aP1 zP1]) locs → lv_has ls 3 [(0, .ref (aT 0)), (1, .ref (aP1 0)), (2, .int e.2.1)] → W p l en (kR 4 95) s m args below meth c H locs 0 0 QQ (F0 m e.1 ls []))) (fun s16 e17 hb18 hG19 => ?_) kF _ x15 hx15 ?_) _ _ _ V (lv_sub hl [1, 2, 0] rfl)
  · intro H locs ls V hl
    show W p l en (kR 4 95) s m args below meth c H locs 0 0 QQ (F0 m 7 ls [])
    have h : p_X0_seekTight_L7 zP1 s16 = some e17 := hb18
    unfold p_X0_seekTight_L7 at h
    have V : kW D AA s.heap H (List.flatten [gX0 g aT s16.2, gX8 g aP1 zP1]) locs := V
    have hl : lv_has ls 3 [(0, .ref (aT 0)), (1, .ref (aP1 0)), (2, .int s16.1)] := hl
    refine lv_iload_n X.1 X.2.1 dX0_seekTight_7 rfl (lv_at hl 2 rfl) ?_
    refine lv_aload_n X.1 X.2.1 dX0_seekTight_8 rfl (lv_at hl 1 rfl) ?_
    obtain ⟨x20, hx20, h⟩ := kb_of h
    refine s_callVi (segs' := [gX0 g aT s16.2, gX8 g aP1 zP1]) (ci := 8) (i0 := 0) X V (c_X8_count l D g aP1 zP1 x20 hx20) w_X0_28 ⟨Nat.le_of_ble_eq_true rfl, Nat.le_of_ble_eq_true rfl⟩ ⟨Nat.zero_le _, Nat.zero_le _⟩ rfl rfl rfl rfl [1] rfl rfl (kFst_refl _) rfl rfl hl.1 (Nat.le_of_ble_eq_true rfl) dX0_seekTight_9 (fun H locs V => ?_)
    refine lv_icmp_ge (tgt := 44) X.1 X.2.1 dX0_seekTight_12 (by decide) (fun hc => ?_) (fun hc => ?_)
    · replace h := kif_t hc h
      obtain rfl := Option.some.inj h
      exact hG19 _ _ _ V (lv_sub hl [0, 1, 2] rfl)
    · replace h := kif_f hc h
      refine lv_aload_n X.1 X.2.1 dX0_seekTight_15 rfl (lv_at hl 0 rfl) ?_
      refine lv_aload_n X.1 X.2.1 dX0_seekTight_16 rfl (lv_at hl 1 rfl) ?_
      refine lv_iload_n X.1 X.2.1 dX0_seekTight_17 rfl (lv_at hl 2 rfl) ?_
      obtain ⟨x21, hx21, h⟩ := kb_of h
      refine s_callVi (segs' := [gX0 g aT s16.2, gX8 g aP1 zP1]) (ci := 8) (i0 := 0) X V (c_X8_x l D g aP1 zP1 s16.1 x21 hx21) w_X0_50 ⟨Nat.le_of_ble_eq_true rfl, Nat.le_of_ble_eq_true rfl⟩ ⟨Nat.zero_le _, Nat.zero_le _⟩ rfl rfl rfl rfl [1] rfl rfl (kFst_refl _) rfl rfl hl.1 (Nat.le_of_ble_eq_true rfl) dX0_seekTight_18 (fun H locs V => ?_)
      refine lv_aload_n X.1 X.2.1 dX0_seekTight_21 rfl (lv_at hl 1 rfl) ?_
      refine lv_iload_n X.1 X.2.1 dX0_seekTight_22 rfl (lv_at hl 2 rfl) ?_
      obtain ⟨x22, hx22, h⟩ := kb_of h
      refine s_callVi (segs' := [gX0 g aT s16.2, gX8 g aP1 zP1]) (ci := 8) (i0 := 0) X V (c_X8_y l D g aP1 zP1 s16.1 x22 hx22) w_X0_54 ⟨Nat.le_of_ble_eq_true rfl, Nat.le_of_ble_eq_true rfl⟩ ⟨Nat.zero_le _, Nat.zero_le _⟩ rfl rfl rfl rfl [1] rfl rfl (kFst_refl _) rfl rfl hl.1 (Nat.le_of_ble_eq_true rfl) dX0_seekTight_23 (fun H locs V => ?_)
      obtain ⟨x23, hx23, h⟩ := kb_of h
      refine s_callVi (segs' := [gX0 g aT s16.2, gX8 g aP1 zP1]) (ci := 0) (i0 := 0) X V (c_X0_side l D g aT s16.2 x21 x22 x23 hx23) w_X0_57 ⟨Nat.le_of_ble_eq_true rfl, Nat.le_of_ble_eq_true rfl⟩ ⟨Nat.zero_le _, Nat.zero_le _⟩ rfl rfl rfl rfl [0] rfl rfl (kFst_refl _) rfl rfl hl.1 (Nat.le_of_ble_eq_true rfl) dX0_seekTight_26 (fun H locs V => ?_)
      refine lv_if_ne (tgt := 38) X.1 X.2.1 dX0_seekTight_29 (by decide) (fun hc => ?_) (fun hc => ?_)
      · replace h := kif_f hc h
        obtain ⟨y24, ey24⟩ : ∃ y : Int32, y = (s16.1 + (1 : Int32)) := ⟨_, rfl⟩
        replace h := kl_of ey24 h
        refine lv_iinc (v := y24) (lv' := [(2, .int y24), (0, .ref (aT 0)), (1, .ref (aP1 0))]) X.1 X.2.1 dX0_seekTight_38 hl (k := 2) rfl (by rw [ey24]; rfl) (by decide) rfl (fun ls hl => ?_)
        refine lv_goto (tgt := 7) X.1 X.2.1 dX0_seekTight_41 (by decide) ?_
        obtain rfl := Option.some.inj h
        exact hG19 _ _ _ V (lv_sub hl [1, 2, 0] rfl)
      · replace h := kif_t hc h
        refine lv_aload_n X.1 X.2.1 dX0_seekTight_32 rfl (lv_at hl 0 rfl) ?_
        refine lv_aload_n X.1 X.2.1 dX0_seekTight_33 rfl (lv_at hl 1 rfl) ?_
        refine lv_iload_n X.1 X.2.1 dX0_seekTight_34 rfl (lv_at hl 2 rfl) ?_
        obtain ⟨x25, hx25, h⟩ := kb_of h
        refine s_callVv (segs' := [gX0 g aT x25, gX8 g aP1 zP1]) (ci := 0) (i0 := 0) X V (c_X0_putOnRim l D g aT aP1 s16.2 zP1 s16.1 x25 hx25) w_X0_106 ⟨Nat.le_of_ble_eq_true rfl, Nat.le_of_ble_eq_true rfl⟩ ⟨Nat.zero_le _, Nat.zero_le _⟩ rfl rfl rfl rfl [0, 1] rfl rfl ⟨gX0_fst, rfl, trivial⟩ rfl rfl hl.1 (Nat.le_of_ble_eq_true rfl) dX0_seekTight_35 (fun H locs V => ?_)
        obtain ⟨y26, ey26⟩ : ∃ y : Int32, y = (s16.1 + (1 : Int32)) := ⟨_, rfl⟩
        replace h := kl_of ey26 h
        refine lv_iinc (v := y26) (lv' := [(2, .int y26), (0, .ref (aT 0)), (1, .ref (aP1 0))]) X.1 X.2.1 dX0_seekTight_38 hl (k := 2) rfl (by rw [ey26]; rfl) (by decide) rfl (fun ls hl => ?_)
        refine lv_goto (tgt := 7) X.1 X.2.1 dX0_seekTight_41 (by decide) ?_
        obtain rfl := Option.some.inj h
        exact hG19 _ _ _ V (lv_sub hl [1, 2, 0] rfl)
  · intro H locs ls V hl
    have V : kW D AA s.heap H (List.flatten [gX0 g aT x15.2.2, gX8 g aP1 zP1]) locs := V
    have hl : lv_has ls 3 [(0, .ref (aT 0)), (1, .ref (aP1 0)), (2, .int x15.2.1)] := hl
    obtain ⟨hc, h⟩ := kg_of h
    refine W.eq (g2 := F0 m 44 ls []) (by rw [hc]) ?_
    refine lv_aload_n X.1 X.2.1 dX0_seekTight_44 rfl (lv_at hl 0 rfl) ?_
    refine lv_iconst (v := (0 : Int32)) X.1 X.2.1 dX0_seekTight_45 (by decide) ?_
    refine pf_X0_100 (i := 0) X V rfl dX0_seekTight_46 (fun H locs V => ?_)
    obtain ⟨z27, ez27⟩ : ∃ y, y = (x15.2.2.1, x15.2.2.2.1, x15.2.2.2.2.1, x15.2.2.2.2.2.1, x15.2.2.2.2.2.2.1, x15.2.2.2.2.2.2.2.1, x15.2.2.2.2.2.2.2.2.1, x15.2.2.2.2.2.2.2.2.2.1, (0 : Int32)) := ⟨_, rfl⟩
    replace h := kl_of ez27 h
    have V : kW D AA s.heap H (List.flatten [gX0 g aT z27, gX8 g aP1 zP1]) locs := by rw [ez27]; exact V
    refine lv_aload_n X.1 X.2.1 dX0_seekTight_49 rfl (lv_at hl 0 rfl) ?_
    refine gf_X0_103 (i := 0) X V rfl dX0_seekTight_50 ?_
    refine lv_iconst (v := (1 : Int32)) X.1 X.2.1 dX0_seekTight_53 (by decide) ?_
    refine lv_icmp_ne (tgt := 69) X.1 X.2.1 dX0_seekTight_54 (by decide) (fun hc => ?_) (fun hc => ?_)
    · replace h := kif_f hc h
      refine lv_aload_n X.1 X.2.1 dX0_seekTight_69 rfl (lv_at hl 0 rfl) ?_
      refine lv_aload_n X.1 X.2.1 dX0_seekTight_70 rfl (lv_at hl 1 rfl) ?_
      obtain ⟨x28, hx28, h⟩ := kb_of h
      refine s_callVi (segs' := [gX0 g aT x28.2, gX8 g aP1 zP1]) (ci := 0) (i0 := 0) X V (c_X0_seekTwo l D g aT aP1 z27 zP1 x28 hx28) w_X0_113 ⟨Nat.le_of_ble_eq_true rfl, Nat.le_of_ble_eq_true rfl⟩ ⟨Nat.zero_le _, Nat.zero_le _⟩ rfl rfl rfl rfl [0, 1] rfl rfl ⟨gX0_fst, rfl, trivial⟩ rfl rfl hl.1 (Nat.le_of_ble_eq_true rfl) dX0_seekTight_71 (fun H locs V => ?_)
      refine lv_if_ne (tgt := 82) X.1 X.2.1 dX0_seekTight_74 (by decide) (fun hc => ?_) (fun hc => ?_)
      · replace h := kif_f hc h
        obtain rfl := Option.some.inj h
        rw [hAA] at V
        rw [hQQ]
        exact k_vret X V dX0_seekTight_82
      · replace h := kif_t hc h
        refine lv_aload_n X.1 X.2.1 dX0_seekTight_77 rfl (lv_at hl 0 rfl) ?_
        refine lv_aload_n X.1 X.2.1 dX0_seekTight_78 rfl (lv_at hl 1 rfl) ?_
        obtain ⟨x29, hx29, h⟩ := kb_of h
        refine s_callVv (segs' := [gX0 g aT x29, gX8 g aP1 zP1]) (ci := 0) (i0 := 0) X V (c_X0_seekThree l D g aT aP1 x28.2 zP1 x29 hx29) w_X0_117 ⟨Nat.le_of_ble_eq_true rfl, Nat.le_of_ble_eq_true rfl⟩ ⟨Nat.zero_le _, Nat.zero_le _⟩ rfl rfl rfl rfl [0, 1] rfl rfl ⟨gX0_fst, rfl, trivial⟩ rfl rfl hl.1 (Nat.le_of_ble_eq_true rfl) dX0_seekTight_79 (fun H locs V => ?_)
        obtain rfl := Option.some.inj h
        rw [hAA] at V
        rw [hQQ]
        exact k_vret X V dX0_seekTight_82
    · replace h := kif_t hc h
      refine lv_aload_n X.1 X.2.1 dX0_seekTight_57 rfl (lv_at hl 0 rfl) ?_
      refine lv_aload_n X.1 X.2.1 dX0_seekTight_58 rfl (lv_at hl 1 rfl) ?_
      refine lv_iconst (v := (1 : Int32)) X.1 X.2.1 dX0_seekTight_59 (by decide) ?_
      refine lv_iconst (v := (0 : Int32)) X.1 X.2.1 dX0_seekTight_60 (by decide) ?_
      refine lv_iconst (v := (0 : Int32)) X.1 X.2.1 dX0_seekTight_61 (by decide) ?_
      refine lv_iconst (v := (0 : Int32)) X.1 X.2.1 dX0_seekTight_62 (by decide) ?_
      obtain ⟨x30, hx30, h⟩ := kb_of h
      refine s_callVv (segs' := [gX0 g aT x30, gX8 g aP1 zP1]) (ci := 0) (i0 := 0) X V (c_X0_setTight l D g aT aP1 z27 zP1 (1 : Int32) (0 : Int32) (0 : Int32) (0 : Int32) x30 hx30) w_X0_109 ⟨Nat.le_of_ble_eq_true rfl, Nat.le_of_ble_eq_true rfl⟩ ⟨Nat.zero_le _, Nat.zero_le _⟩ rfl rfl rfl rfl [0, 1] rfl rfl ⟨gX0_fst, rfl, trivial⟩ rfl rfl hl.1 (Nat.le_of_ble_eq_true rfl) dX0_seekTight_63 (fun H locs V => ?_)
      refine lv_goto (tgt := 82) X.1 X.2.1 dX0_seekTight_66 (by decide) ?_
      obtain rfl := Option.some.inj h
      rw [hAA] at V
      rw [hQQ]
      exact k_vret X V dX0_seekTight_82
