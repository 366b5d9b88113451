def p_X9_length (zT : tX9) : Option (Int32) :=
  some zT.2.1
set_option maxHeartbeats 4000000 in
set_option maxRecDepth 100000 in
theorem c_X9_length (l : Launch) (D : va_G) (g : kG) (aT : Nat → Nat) (zT : tX9) (r : Int32) (h : p_X9_length zT = some r) : kMi l yX9_length cX9_length 1 (some .int) (kR 0 0) D (kty g) [.ref (aT 0)] (List.flatten [gX9 g aT zT]) r (List.flatten [gX9 g aT zT]) := by
  intro sz
  refine k_enter (lv := [(0, .ref (aT 0))]) RX9 (by decide +kernel) rfl rfl (Nat.le_of_ble_eq_true rfl) ?_
  intro p en s m args below meth c ls hsz X V hl
  obtain ⟨QQ, hQQ⟩ : ∃ q, q = MQ below (va_Qi (fun r' (_ : Unit) => r' = r) (fun _ => kE D (List.flatten [gX9 g aT zT])) (va_A (List.flatten [gX9 g aT zT]) sz)) args s 0 0 (va_A (List.flatten [gX9 g aT zT]) sz) := ⟨_, rfl⟩
  rw [← hQQ]
  obtain ⟨AA, hAA⟩ : ∃ q, q = va_A (List.flatten [gX9 g aT zT]) sz := ⟨_, rfl⟩
  rw [← hAA] at V
  unfold p_X9_length at h
  refine lv_aload_n X.1 X.2.1 dX9_length_0 rfl (lv_at hl 0 rfl) ?_
  refine gf_X9_19 (i := 0) X V rfl dX9_length_1 ?_
  obtain rfl := Option.some.inj h
  rw [hAA] at V
  rw [hQQ]
  exact k_iret X V rfl dX9_length_4

def p_X9_faultPlace (zT : tX9) : Option (Int32) :=
  some zT.2.2.2
set_option maxHeartbeats 4000000 in
set_option maxRecDepth 100000 in
theorem c_X9_faultPlace (l : Launch) (D : va_G) (g : kG) (aT : Nat → Nat) (zT : tX9) (r : Int32) (h : p_X9_faultPlace zT = some r) : kMi l yX9_faultPlace cX9_faultPlace 1 (some .int) (kR 0 0) D (kty g) [.ref (aT 0)] (List.flatten [gX9 g aT zT]) r (List.flatten [gX9 g aT zT]) := by
  intro sz
  refine k_enter (lv := [(0, .ref (aT 0))]) RX9 (by decide +kernel) rfl rfl (Nat.le_of_ble_eq_true rfl) ?_
  intro p en s m args below meth c ls hsz X V hl
  obtain ⟨QQ, hQQ⟩ : ∃ q, q = MQ below (va_Qi (fun r' (_ : Unit) => r' = r) (fun _ => kE D (List.flatten [gX9 g aT zT])) (va_A (List.flatten [gX9 g aT zT]) sz)) args s 0 0 (va_A (List.flatten [gX9 g aT zT]) sz) := ⟨_, rfl⟩
  rw [← hQQ]
  obtain ⟨AA, hAA⟩ : ∃ q, q = va_A (List.flatten [gX9 g aT zT]) sz := ⟨_, rfl⟩
  rw [← hAA] at V
  unfold p_X9_faultPlace at h
  refine lv_aload_n X.1 X.2.1 dX9_faultPlace_0 rfl (lv_at hl 0 rfl) ?_
  refine gf_X9_15 (i := 0) X V rfl dX9_faultPlace_1 ?_
  obtain rfl := Option.some.inj h
  rw [hAA] at V
  rw [hQQ]
  exact k_iret X V rfl dX9_faultPlace_4

def p_X9_hasRoom (zT : tX9) (v1 : Int32) : Option (Bool) :=
  kif ((400 : Int32) < (zT.2.1 + v1)) (some false) (some true)
set_option maxHeartbeats 4000000 in
set_option maxRecDepth 100000 in
theorem c_X9_hasRoom (l : Launch) (D : va_G) (g : kG) (aT : Nat → Nat) (zT : tX9) (v1 : Int32) (r : Bool) (h : p_X9_hasRoom zT v1 = some r) : kMi l yX9_hasRoom cX9_hasRoom 2 (some .boolean) (kR 0 0) D (kty g) [.ref (aT 0), .int v1] (List.flatten [gX9 g aT zT]) (kz r) (List.flatten [gX9 g aT zT]) := by
  intro sz
  refine k_enter (lv := [(0, .ref (aT 0)), (1, .int v1)]) RX9 (by decide +kernel) rfl rfl (Nat.le_of_ble_eq_true rfl) ?_
  intro p en s m args below meth c ls hsz X V hl
  obtain ⟨QQ, hQQ⟩ : ∃ q, q = MQ below (va_Qi (fun r' (_ : Unit) => r' = kz r) (fun _ => kE D (List.flatten [gX9 g aT zT])) (va_A (List.flatten [gX9 g aT zT]) sz)) args s 0 0 (va_A (List.flatten [gX9 g aT zT]) sz) := ⟨_, rfl⟩
  rw [← hQQ]
  obtain ⟨AA, hAA⟩ : ∃ q, q = va_A (List.flatten [gX9 g aT zT]) sz := ⟨_, rfl⟩
  rw [← hAA] at V
  unfold p_X9_hasRoom at h
  refine lv_aload_n X.1 X.2.1 dX9_hasRoom_0 rfl (lv_at hl 0 rfl) ?_
  refine gf_X9_19 (i := 0) X V rfl dX9_hasRoom_1 ?_
  refine lv_iload_n X.1 X.2.1 dX9_hasRoom_4 rfl (lv_at hl 1 rfl) ?_
  refine lv_iadd X.1 X.2.1 dX9_hasRoom_5 ?_
  refine lv_sipush (v := (400 : Int32)) X.1 X.2.1 dX9_hasRoom_6 (by decide) ?_
  refine lv_icmp_gt (tgt := 16) X.1 X.2.1 dX9_hasRoom_9 (by decide) (fun hc => ?_) (fun hc => ?_)
  · replace h := kif_t hc h
    refine lv_iconst (v := (0 : Int32)) X.1 X.2.1 dX9_hasRoom_16 (by decide) ?_
    obtain rfl := Option.some.inj h
    rw [hAA] at V
    rw [hQQ]
    exact k_zret X V (b := false) rfl rfl dX9_hasRoom_17
  · replace h := kif_f hc h
    refine lv_iconst (v := (1 : Int32)) X.1 X.2.1 dX9_hasRoom_12 (by decide) ?_
    refine lv_goto (tgt := 17) X.1 X.2.1 dX9_hasRoom_13 (by decide) ?_
    obtain rfl := Option.some.inj h
    rw [hAA] at V
    rw [hQQ]
    exact k_zret X V (b := true) rfl rfl dX9_hasRoom_17

def p_X9_take_L3 (v1 : Int32) (s : Int32 × tX9) : Option (Nat × (Int32 × tX9)) :=
  kif (s.1 < 0) (some (48, (s.1, s.2))) (kb (p_X9_hasRoom s.2 (1 : Int32)) (fun x1 => kif ((kz x1) = 0) (some (15, (s.1, s.2))) (kg (kii s.2.2.1 400) (kl ((upd s.2.1 (s.2.2.1).toNatClampNeg ((v1 >>> (s.1 &&& 31)) &&& (255 : Int32))), s.2.2) (fun z2 => kl (z2.1, (z2.2.1 + (1 : Int32)), z2.2.2) (fun z3 => kl (s.1 + (-8 : Int32)) (fun y4 => some (3, (y4, z3)))))))))
def p_X9_take (zT : tX9) (v1 : Int32) : Option (tX9) :=
  kb (kitr 3 (fun q => p_X9_take_L3 v1 q) kF ((24 : Int32), zT)) (fun x5 => kif (x5.1 = 15) (some x5.2.2) (kg (x5.1 = 48) (some x5.2.2)))
set_option maxHeartbeats 4000000 in
set_option maxRecDepth 100000 in
theorem c_X9_take (l : Launch) (D : va_G) (g : kG) (aT : Nat → Nat) (zT : tX9) (v1 : Int32) (r : tX9) (h : p_X9_take zT v1 = some r) : kMv l yX9_take cX9_take 3 none (kR 1 21) D (kty g) [.ref (aT 0), .int v1] (List.flatten [gX9 g aT zT]) (List.flatten [gX9 g aT r]) := by
  intro sz
  refine k_enter (lv := [(0, .ref (aT 0)), (1, .int v1)]) RX9 (by decide +kernel) rfl rfl (Nat.le_of_ble_eq_true rfl) ?_
  intro p en s m args below meth c ls hsz X V hl
  obtain ⟨QQ, hQQ⟩ : ∃ q, q = MQ below (va_Qv (fun (_ : Unit) => True) (fun _ => kE D (List.flatten [gX9 g aT r])) (va_A (List.flatten [gX9 g aT zT]) sz)) args s 0 0 (va_A (List.flatten [gX9 g aT zT]) sz) := ⟨_, rfl⟩
  rw [← hQQ]
  obtain ⟨AA, hAA⟩ : ∃ q, q = va_A (List.flatten [gX9 g aT zT]) sz := ⟨_, rfl⟩
  rw [← hAA] at V
  unfold p_X9_take at h
  refine lv_bipush (v := (24 : Int32)) X.1 X.2.1 dX9_take_0 (by decide) ?_
  refine lv_istore_n (lv' := [(2, .int (24 : Int32)), (0, .ref (aT 0)), (1, .int v1)]) X.1 X.2.1 dX9_take_2 rfl hl (by decide) rfl (fun ls hl => ?_)
  obtain ⟨x6, hx6, h⟩ := kb_of h
  refine (kitr_go (hd := 3) (body := fun q => p_X9_take_L3 v1 q) (G := (fun e => ∀ (H : Heap) (locs : List Loc) (ls : Array Slot), kW D AA s.heap H (List.flatten [gX9 g aT e.2.2]) locs → lv_has ls 3 [(0, .ref (aT 0)), (1, .int v1), (2, .int e.2.1)] → W p l en (kR 1 21) s m args below meth c H locs 0 0 QQ (F0 m e.1 ls []))) (fun s7 e8 hb9 hG10 => ?_) kF _ x6 hx6 ?_) _ _ _ V (lv_sub hl [1, 2, 0] rfl)
  · intro H locs ls V hl
    show W p l en (kR 1 21) s m args below meth c H locs 0 0 QQ (F0 m 3 ls [])
    have h : p_X9_take_L3 v1 s7 = some e8 := hb9
    unfold p_X9_take_L3 at h
    have V : kW D AA s.heap H (List.flatten [gX9 g aT s7.2]) locs := V
    have hl : lv_has ls 3 [(0, .ref (aT 0)), (1, .int v1), (2, .int s7.1)] := hl
    refine lv_iload_n X.1 X.2.1 dX9_take_3 rfl (lv_at hl 2 rfl) ?_
    refine lv_if_lt (tgt := 48) X.1 X.2.1 dX9_take_4 (by decide) (fun hc => ?_) (fun hc => ?_)
    · replace h := kif_t hc h
      obtain rfl := Option.some.inj h
      exact hG10 _ _ _ V (lv_sub hl [0, 1, 2] rfl)
    · replace h := kif_f hc h
      refine lv_aload_n X.1 X.2.1 dX9_take_7 rfl (lv_at hl 0 rfl) ?_
      refine lv_iconst (v := (1 : Int32)) X.1 X.2.1 dX9_take_8 (by decide) ?_
      obtain ⟨x11, hx11, h⟩ := kb_of h
      refine s_callVi (segs' := [gX9 g aT s7.2]) (ci := 9) (i0 := 0) X V (c_X9_hasRoom l D g aT s7.2 (1 : Int32) x11 hx11) w_X9_22 ⟨Nat.le_of_ble_eq_true rfl, Nat.le_of_ble_eq_true rfl⟩ ⟨Nat.zero_le _, Nat.zero_le _⟩ rfl rfl rfl rfl [0] rfl rfl (kFst_refl _) rfl rfl hl.1 (Nat.le_of_ble_eq_true rfl) dX9_take_9 (fun H locs V => ?_)
      refine lv_if_ne (tgt := 16) X.1 X.2.1 dX9_take_12 (by decide) (fun hc => ?_) (fun hc => ?_)
      · replace h := kif_f hc h
        refine lv_aload_n X.1 X.2.1 dX9_take_16 rfl (lv_at hl 0 rfl) ?_
        refine gf_X9_11 (i := 0) X V rfl dX9_take_17 ?_
        refine lv_aload_n X.1 X.2.1 dX9_take_20 rfl (lv_at hl 0 rfl) ?_
        refine gf_X9_19 (i := 0) X V rfl dX9_take_21 ?_
        refine lv_iload_n X.1 X.2.1 dX9_take_24 rfl (lv_at hl 1 rfl) ?_
        refine lv_iload_n X.1 X.2.1 dX9_take_25 rfl (lv_at hl 2 rfl) ?_
        refine lv_ishr X.1 X.2.1 dX9_take_26 ?_
        refine lv_sipush (v := (255 : Int32)) X.1 X.2.1 dX9_take_27 (by decide) ?_
        refine lv_iand X.1 X.2.1 dX9_take_30 ?_
        obtain ⟨hc, h⟩ := kg_of h
        refine as_X9_0 (i := 0) X V rfl hc dX9_take_31 (fun H locs V => ?_)
        obtain ⟨z12, ez12⟩ : ∃ y, y = ((upd s7.2.1 (s7.2.2.1).toNatClampNeg ((v1 >>> (s7.1 &&& 31)) &&& (255 : Int32))), s7.2.2) := ⟨_, rfl⟩
        replace h := kl_of ez12 h
        have V : kW D AA s.heap H (List.flatten [gX9 g aT z12]) locs := by rw [ez12]; exact V
        refine lv_aload_n X.1 X.2.1 dX9_take_32 rfl (lv_at hl 0 rfl) ?_
        refine lv_dup X.1 X.2.1 dX9_take_33 rfl ?_
        refine gf_X9_19 (i := 0) X V rfl dX9_take_34 ?_
        refine lv_iconst (v := (1 : Int32)) X.1 X.2.1 dX9_take_37 (by decide) ?_
        refine lv_iadd X.1 X.2.1 dX9_take_38 ?_
        refine pf_X9_19 (i := 0) X V rfl dX9_take_39 (fun H locs V => ?_)
        obtain ⟨z13, ez13⟩ : ∃ y, y = (z12.1, (z12.2.1 + (1 : Int32)), z12.2.2) := ⟨_, rfl⟩
        replace h := kl_of ez13 h
        have V : kW D AA s.heap H (List.flatten [gX9 g aT z13]) locs := by rw [ez13]; exact V
        obtain ⟨y14, ey14⟩ : ∃ y : Int32, y = (s7.1 + (-8 : Int32)) := ⟨_, rfl⟩
        replace h := kl_of ey14 h
        refine lv_iinc (v := y14) (lv' := [(2, .int y14), (0, .ref (aT 0)), (1, .int v1)]) X.1 X.2.1 dX9_take_42 hl (k := 2) rfl (by rw [ey14]; rfl) (by decide) rfl (fun ls hl => ?_)
        refine lv_goto (tgt := 3) X.1 X.2.1 dX9_take_45 (by decide) ?_
        obtain rfl := Option.some.inj h
        exact hG10 _ _ _ V (lv_sub hl [1, 2, 0] rfl)
      · replace h := kif_t hc h
        obtain rfl := Option.some.inj h
        exact hG10 _ _ _ V (lv_sub hl [0, 1, 2] rfl)
  · intro H locs ls V hl
    have V : kW D AA s.heap H (List.flatten [gX9 g aT x6.2.2]) locs := V
    have hl : lv_has ls 3 [(0, .ref (aT 0)), (1, .int v1), (2, .int x6.2.1)] := hl
    by_cases hc : x6.1 = 15
    · replace h := kif_t hc h
      refine W.eq (g2 := F0 m 15 ls []) (by rw [hc]) ?_
      obtain rfl := Option.some.inj h
      rw [hAA] at V
      rw [hQQ]
      exact k_vret X V dX9_take_15
    · replace h := kif_f hc h
      obtain ⟨hc, h⟩ := kg_of h
      refine W.eq (g2 := F0 m 48 ls []) (by rw [hc]) ?_
      obtain rfl := Option.some.inj h
      rw [hAA] at V
      rw [hQQ]
      exact k_vret X V dX9_take_48

def p_X9_cut (zT : tX9) (v1 : Int32) : Option (Bool × tX9) :=
  kif (v1 < 0) (some (false, zT)) (kif (v1 ≤ zT.2.1) (kl (zT.1, v1, zT.2.2) (fun z1 => some (true, z1))) (some (false, zT)))
set_option maxHeartbeats 4000000 in
set_option maxRecDepth 100000 in
theorem c_X9_cut (l : Launch) (D : va_G) (g : kG) (aT : Nat → Nat) (zT : tX9) (v1 : Int32) (r : Bool × tX9) (h : p_X9_cut zT v1 = some r) : kMi l yX9_cut cX9_cut 2 (some .boolean) (kR 0 0) D (kty g) [.ref (aT 0), .int v1] (List.flatten [gX9 g aT zT]) (kz r.1) (List.flatten [gX9 g aT r.2]) := by
  intro sz
  refine k_enter (lv := [(0, .ref (aT 0)), (1, .int v1)]) RX9 (by decide +kernel) rfl rfl (Nat.le_of_ble_eq_true rfl) ?_
  intro p en s m args below meth c ls hsz X V hl
  obtain ⟨QQ, hQQ⟩ : ∃ q, q = MQ below (va_Qi (fun r' (_ : Unit) => r' = kz r.1) (fun _ => kE D (List.flatten [gX9 g aT r.2])) (va_A (List.flatten [gX9 g aT zT]) sz)) args s 0 0 (va_A (List.flatten [gX9 g aT zT]) sz) := ⟨_, rfl⟩
  rw [← hQQ]
  obtain ⟨AA, hAA⟩ : ∃ q, q = va_A (List.flatten [gX9 g aT zT]) sz := ⟨_, rfl⟩
  rw [← hAA] at V
  unfold p_X9_cut at h
  refine lv_iload_n X.1 X.2.1 dX9_cut_0 rfl (lv_at hl 1 rfl) ?_
  refine lv_if_lt (tgt := 12) X.1 X.2.1 dX9_cut_1 (by decide) (fun hc => ?_) (fun hc => ?_)
  · replace h := kif_t hc h
    refine lv_iconst (v := (0 : Int32)) X.1 X.2.1 dX9_cut_12 (by decide) ?_
    obtain rfl := Option.some.inj h
    rw [hAA] at V
    rw [hQQ]
    exact k_zret X V (b := false) rfl rfl dX9_cut_13
  · replace h := kif_f hc h
    refine lv_iload_n X.1 X.2.1 dX9_cut_4 rfl (lv_at hl 1 rfl) ?_
    refine lv_aload_n X.1 X.2.1 dX9_cut_5 rfl (lv_at hl 0 rfl) ?_
    refine gf_X9_19 (i := 0) X V rfl dX9_cut_6 ?_
    refine lv_icmp_le (tgt := 14) X.1 X.2.1 dX9_cut_9 (by decide) (fun hc => ?_) (fun hc => ?_)
    · replace h := kif_t hc h
      refine lv_aload_n X.1 X.2.1 dX9_cut_14 rfl (lv_at hl 0 rfl) ?_
      refine lv_iload_n X.1 X.2.1 dX9_cut_15 rfl (lv_at hl 1 rfl) ?_
      refine pf_X9_19 (i := 0) X V rfl dX9_cut_16 (fun H locs V => ?_)
      obtain ⟨z2, ez2⟩ : ∃ y, y = (zT.1, v1, zT.2.2) := ⟨_, rfl⟩
      replace h := kl_of ez2 h
      have V : kW D AA s.heap H (List.flatten [gX9 g aT z2]) locs := by rw [ez2]; exact V
      refine lv_iconst (v := (1 : Int32)) X.1 X.2.1 dX9_cut_19 (by decide) ?_
      obtain rfl := Option.some.inj h
      rw [hAA] at V
      rw [hQQ]
      exact k_zret X V (b := true) rfl rfl dX9_cut_20
    · replace h := kif_f hc h
      refine lv_iconst (v := (0 : Int32)) X.1 X.2.1 dX9_cut_12 (by decide) ?_
      obtain rfl := Option.some.inj h
      rw [hAA] at V
      rw [hQQ]
      exact k_zret X V (b := false) rfl rfl dX9_cut_13

def p_X9_next (zT : tX9) : Option (Int32) :=
  kif (zT.2.2.1 < 0) (some (-1 : Int32)) (kif (zT.2.1 ≤ zT.2.2.1) (some (-1 : Int32)) (kg (kii zT.2.2.1 400) (some ((zT.1 zT.2.2.1.toNatClampNeg)))))
set_option maxHeartbeats 4000000 in
set_option maxRecDepth 100000 in
theorem c_X9_next (l : Launch) (D : va_G) (g : kG) (aT : Nat → Nat) (zT : tX9) (r : Int32) (h : p_X9_next zT = some r) : kMi l yX9_next cX9_next 1 (some .int) (kR 0 0) D (kty g) [.ref (aT 0)] (List.flatten [gX9 g aT zT]) r (List.flatten [gX9 g aT zT]) := by
  intro sz
  refine k_enter (lv := [(0, .ref (aT 0))]) RX9 (by decide +kernel) rfl rfl (Nat.le_of_ble_eq_true rfl) ?_
  intro p en s m args below meth c ls hsz X V hl
  obtain ⟨QQ, hQQ⟩ : ∃ q, q = MQ below (va_Qi (fun r' (_ : Unit) => r' = r) (fun _ => kE D (List.flatten [gX9 g aT zT])) (va_A (List.flatten [gX9 g aT zT]) sz)) args s 0 0 (va_A (List.flatten [gX9 g aT zT]) sz) := ⟨_, rfl⟩
  rw [← hQQ]
  obtain ⟨AA, hAA⟩ : ∃ q, q = va_A (List.flatten [gX9 g aT zT]) sz := ⟨_, rfl⟩
  rw [← hAA] at V
  unfold p_X9_next at h
  refine lv_aload_n X.1 X.2.1 dX9_next_0 rfl (lv_at hl 0 rfl) ?_
  refine gf_X9_26 (i := 0) X V rfl dX9_next_1 ?_
  refine lv_if_lt (tgt := 30) X.1 X.2.1 dX9_next_4 (by decide) (fun hc => ?_) (fun hc => ?_)
  · replace h := kif_t hc h
    refine lv_iconst (v := (-1 : Int32)) X.1 X.2.1 dX9_next_30 (by decide) ?_
    obtain rfl := Option.some.inj h
    rw [hAA] at V
    rw [hQQ]
    exact k_iret X V rfl dX9_next_31
  · replace h := kif_f hc h
    refine lv_aload_n X.1 X.2.1 dX9_next_7 rfl (lv_at hl 0 rfl) ?_
    refine gf_X9_26 (i := 0) X V rfl dX9_next_8 ?_
    refine lv_aload_n X.1 X.2.1 dX9_next_11 rfl (lv_at hl 0 rfl) ?_
    refine gf_X9_19 (i := 0) X V rfl dX9_next_12 ?_
    refine lv_icmp_ge (tgt := 30) X.1 X.2.1 dX9_next_15 (by decide) (fun hc => ?_) (fun hc => ?_)
    · replace h := kif_t hc h
      refine lv_iconst (v := (-1 : Int32)) X.1 X.2.1 dX9_next_30 (by decide) ?_
      obtain rfl := Option.some.inj h
      rw [hAA] at V
      rw [hQQ]
      exact k_iret X V rfl dX9_next_31
    · replace h := kif_f hc h
      refine lv_aload_n X.1 X.2.1 dX9_next_18 rfl (lv_at hl 0 rfl) ?_
      refine gf_X9_11 (i := 0) X V rfl dX9_next_19 ?_
      refine lv_aload_n X.1 X.2.1 dX9_next_22 rfl (lv_at hl 0 rfl) ?_
      refine gf_X9_26 (i := 0) X V rfl dX9_next_23 ?_
      obtain ⟨hc, h⟩ := kg_of h
      refine al_X9_0 (i := 0) X V rfl hc dX9_next_26 ?_
      refine lv_goto (tgt := 31) X.1 X.2.1 dX9_next_27 (by decide) ?_
      obtain rfl := Option.some.inj h
      rw [hAA] at V
      rw [hQQ]
      exact k_iret X V rfl dX9_next_31

def p_X9_fail (zT : tX9) (v1 : Int32) : Option (tX9) :=
  kif (zT.2.2.2 = (-1 : Int32)) (kl (zT.1, zT.2.1, zT.2.2.1, v1) (fun z1 => some z1)) (some zT)
set_option maxHeartbeats 4000000 in
set_option maxRecDepth 100000 in
theorem c_X9_fail (l : Launch) (D : va_G) (g : kG) (aT : Nat → Nat) (zT : tX9) (v1 : Int32) (r : tX9) (h : p_X9_fail zT v1 = some r) : kMv l yX9_fail cX9_fail 2 none (kR 0 0) D (kty g) [.ref (aT 0), .int v1] (List.flatten [gX9 g aT zT]) (List.flatten [gX9 g aT r]) := by
  intro sz
  refine k_enter (lv := [(0, .ref (aT 0)), (1, .int v1)]) RX9 (by decide +kernel) rfl rfl (Nat.le_of_ble_eq_true rfl) ?_
  intro p en s m args below meth c ls hsz X V hl
  obtain ⟨QQ, hQQ⟩ : ∃ q, q = MQ below (va_Qv (fun (_ : Unit) => True) (fun _ => kE D (List.flatten [gX9 g aT r])) (va_A (List.flatten [gX9 g aT zT]) sz)) args s 0 0 (va_A (List.flatten [gX9 g aT zT]) sz) := ⟨_, rfl⟩
  rw [← hQQ]
  obtain ⟨AA, hAA⟩ : ∃ q, q = va_A (List.flatten [gX9 g aT zT]) sz := ⟨_, rfl⟩
  rw [← hAA] at V
  unfold p_X9_fail at h
  refine lv_aload_n X.1 X.2.1 dX9_fail_0 rfl (lv_at hl 0 rfl) ?_
  refine gf_X9_15 (i := 0) X V rfl dX9_fail_1 ?_
  refine lv_iconst (v := (-1 : Int32)) X.1 X.2.1 dX9_fail_4 (by decide) ?_
  refine lv_icmp_ne (tgt := 13) X.1 X.2.1 dX9_fail_5 (by decide) (fun hc => ?_) (fun hc => ?_)
  · replace h := kif_f hc h
    obtain rfl := Option.some.inj h
    rw [hAA] at V
    rw [hQQ]
    exact k_vret X V dX9_fail_13
  · replace h := kif_t hc h
    refine lv_aload_n X.1 X.2.1 dX9_fail_8 rfl (lv_at hl 0 rfl) ?_
    refine lv_iload_n X.1 X.2.1 dX9_fail_9 rfl (lv_at hl 1 rfl) ?_
    refine pf_X9_15 (i := 0) X V rfl dX9_fail_10 (fun H locs V => ?_)
    obtain ⟨z2, ez2⟩ : ∃ y, y = (zT.1, zT.2.1, zT.2.2.1, v1) := ⟨_, rfl⟩
    replace h := kl_of ez2 h
    have V : kW D AA s.heap H (List.flatten [gX9 g aT z2]) locs := by rw [ez2]; exact V
    obtain rfl := Option.some.inj h
    rw [hAA] at V
    rw [hQQ]
    exact k_vret X V dX9_fail_13

def p_X9_readHeap (zT : tX9) : Option (Int32 × tX9) :=
  kb (p_X9_next zT) (fun x1 => kl (x1 - (97 : Int32)) (fun y2 => kb (p_X11_isHeap y2) (fun x3 => kif ((kz x3) = 0) (kb (p_X9_fail zT zT.2.2.1) (fun x4 => kl (x4.1, x4.2.1, (x4.2.2.1 + (1 : Int32)), x4.2.2.2) (fun z5 => some (y2, z5)))) (kl (zT.1, zT.2.1, (zT.2.2.1 + (1 : Int32)), zT.2.2.2) (fun z6 => some (y2, z6))))))
set_option maxHeartbeats 4000000 in
set_option maxRecDepth 100000 in
theorem c_X9_readHeap (l : Launch) (D : va_G) (g : kG) (aT : Nat → Nat) (zT : tX9) (r : Int32 × tX9) (h : p_X9_readHeap zT = some r) : kMi l yX9_readHeap cX9_readHeap 2 (some .int) (kR 1 21) D (kty g) [.ref (aT 0)] (List.flatten [gX9 g aT zT]) r.1 (List.flatten [gX9 g aT r.2]) := by
  intro sz
  refine k_enter (lv := [(0, .ref (aT 0))]) RX9 (by decide +kernel) rfl rfl (Nat.le_of_ble_eq_true rfl) ?_
  intro p en s m args below meth c ls hsz X V hl
  obtain ⟨QQ, hQQ⟩ : ∃ q, q = MQ below (va_Qi (fun r' (_ : Unit) => r' = r.1) (fun _ => kE D (List.flatten [gX9 g aT r.2])) (va_A (List.flatten [gX9 g aT zT]) sz)) args s 0 0 (va_A (List.flatten [gX9 g aT zT]) sz) := ⟨_, rfl⟩
  rw [← hQQ]
  obtain ⟨AA, hAA⟩ : ∃ q, q = va_A (List.flatten [gX9 g aT zT]) sz := ⟨_, rfl⟩
  rw [← hAA] at V
  unfold p_X9_readHeap at h
  refine lv_aload_n X.1 X.2.1 dX9_readHeap_0 rfl (lv_at hl 0 rfl) ?_
  obtain ⟨x7, hx7, h⟩ := kb_of h
  refine s_callVi (segs' := [gX9 g aT zT]) (ci := 9) (i0 := 0) X V (c_X9_next l D g aT zT x7 hx7) w_X9_44 ⟨Nat.le_of_ble_eq_true rfl, Nat.le_of_ble_eq_true rfl⟩ ⟨Nat.zero_le _, Nat.zero_le _⟩ rfl rfl rfl rfl [0] rfl rfl (kFst_refl _) rfl rfl hl.1 (Nat.le_of_ble_eq_true rfl) dX9_readHeap_1 (fun H locs V => ?_)
  refine lv_bipush (v := (97 : Int32)) X.1 X.2.1 dX9_readHeap_4 (by decide) ?_
  refine lv_isub X.1 X.2.1 dX9_readHeap_6 ?_
  refine lv_topi (fun y8 ey8 => ?_)
  replace h := kl_of ey8 h
  refine lv_istore_n (lv' := [(1, .int y8), (0, .ref (aT 0))]) X.1 X.2.1 dX9_readHeap_7 rfl hl (by decide) rfl (fun ls hl => ?_)
  refine lv_iload_n X.1 X.2.1 dX9_readHeap_8 rfl (lv_at hl 0 rfl) ?_
  obtain ⟨x9, hx9, h⟩ := kb_of h
  refine s_callNi (segs' := [gX9 g aT zT]) X V (c_X11_isHeap l D g y8 x9 hx9) w_X9_79 ⟨Nat.le_of_ble_eq_true rfl, Nat.le_of_ble_eq_true rfl⟩ ⟨Nat.zero_le _, Nat.zero_le _⟩ rfl [] rfl rfl (kFst_refl _) rfl rfl hl.1 (Nat.le_of_ble_eq_true rfl) dX9_readHeap_9 (fun H locs V => ?_)
  refine lv_if_ne (tgt := 23) X.1 X.2.1 dX9_readHeap_12 (by decide) (fun hc => ?_) (fun hc => ?_)
  · replace h := kif_f hc h
    refine lv_aload_n X.1 X.2.1 dX9_readHeap_23 rfl (lv_at hl 1 rfl) ?_
    refine lv_dup X.1 X.2.1 dX9_readHeap_24 rfl ?_
    refine gf_X9_26 (i := 0) X V rfl dX9_readHeap_25 ?_
    refine lv_iconst (v := (1 : Int32)) X.1 X.2.1 dX9_readHeap_28 (by decide) ?_
    refine lv_iadd X.1 X.2.1 dX9_readHeap_29 ?_
    refine pf_X9_26 (i := 0) X V rfl dX9_readHeap_30 (fun H locs V => ?_)
    obtain ⟨z10, ez10⟩ : ∃ y, y = (zT.1, zT.2.1, (zT.2.2.1 + (1 : Int32)), zT.2.2.2) := ⟨_, rfl⟩
    replace h := kl_of ez10 h
    have V : kW D AA s.heap H (List.flatten [gX9 g aT z10]) locs := by rw [ez10]; exact V
    refine lv_iload_n X.1 X.2.1 dX9_readHeap_33 rfl (lv_at hl 0 rfl) ?_
    obtain rfl := Option.some.inj h
    rw [hAA] at V
    rw [hQQ]
    exact k_iret X V rfl dX9_readHeap_34
  · replace h := kif_t hc h
    refine lv_aload_n X.1 X.2.1 dX9_readHeap_15 rfl (lv_at hl 1 rfl) ?_
    refine lv_aload_n X.1 X.2.1 dX9_readHeap_16 rfl (lv_at hl 1 rfl) ?_
    refine gf_X9_26 (i := 0) X V rfl dX9_readHeap_17 ?_
    obtain ⟨x11, hx11, h⟩ := kb_of h
    refine s_callVv (segs' := [gX9 g aT x11]) (ci := 9) (i0 := 0) X V (c_X9_fail l D g aT zT zT.2.2.1 x11 hx11) w_X9_72 ⟨Nat.le_of_ble_eq_true rfl, Nat.le_of_ble_eq_true rfl⟩ ⟨Nat.zero_le _, Nat.zero_le _⟩ rfl rfl rfl rfl [0] rfl rfl ⟨gX9_fst, trivial⟩ rfl rfl hl.1 (Nat.le_of_ble_eq_true rfl) dX9_readHeap_20 (fun H locs V => ?_)
    refine lv_aload_n X.1 X.2.1 dX9_readHeap_23 rfl (lv_at hl 1 rfl) ?_
    refine lv_dup X.1 X.2.1 dX9_readHeap_24 rfl ?_
    refine gf_X9_26 (i := 0) X V rfl dX9_readHeap_25 ?_
    refine lv_iconst (v := (1 : Int32)) X.1 X.2.1 dX9_readHeap_28 (by decide) ?_
    refine lv_iadd X.1 X.2.1 dX9_readHeap_29 ?_
    refine pf_X9_26 (i := 0) X V rfl dX9_readHeap_30 (fun H locs V => ?_)
    obtain ⟨z12, ez12⟩ : ∃ y, y = (x11.1, x11.2.1, (x11.2.2.1 + (1 : Int32)), x11.2.2.2) := ⟨_, rfl⟩
    replace h := kl_of ez12 h
    have V : kW D AA s.heap H (List.flatten [gX9 g aT z12]) locs := by rw [ez12]; exact V
    refine lv_iload_n X.1 X.2.1 dX9_readHeap_33 rfl (lv_at hl 0 rfl) ?_
    obtain rfl := Option.some.inj h
    rw [hAA] at V
    rw [hQQ]
    exact k_iret X V rfl dX9_readHeap_34

def p_X9_nextIsDigit (zT : tX9) : Option (Bool) :=
  kb (p_X9_next zT) (fun x1 => kif (x1 < (48 : Int32)) (some false) (kb (p_X9_next zT) (fun x2 => kif ((57 : Int32) < x2) (some false) (some true))))
set_option maxHeartbeats 4000000 in
set_option maxRecDepth 100000 in
theorem c_X9_nextIsDigit (l : Launch) (D : va_G) (g : kG) (aT : Nat → Nat) (zT : tX9) (r : Bool) (h : p_X9_nextIsDigit zT = some r) : kMi l yX9_nextIsDigit cX9_nextIsDigit 1 (some .boolean) (kR 1 20) D (kty g) [.ref (aT 0)] (List.flatten [gX9 g aT zT]) (kz r) (List.flatten [gX9 g aT zT]) := by
  intro sz
  refine k_enter (lv := [(0, .ref (aT 0))]) RX9 (by decide +kernel) rfl rfl (Nat.le_of_ble_eq_true rfl) ?_
  intro p en s m args below meth c ls hsz X V hl
  obtain ⟨QQ, hQQ⟩ : ∃ q, q = MQ below (va_Qi (fun r' (_ : Unit) => r' = kz r) (fun _ => kE D (List.flatten [gX9 g aT zT])) (va_A (List.flatten [gX9 g aT zT]) sz)) args s 0 0 (va_A (List.flatten [gX9 g aT zT]) sz) := ⟨_, rfl⟩
  rw [← hQQ]
  obtain ⟨AA, hAA⟩ : ∃ q, q = va_A (List.flatten [gX9 g aT zT]) sz := ⟨_, rfl⟩
  rw [← hAA] at V
  unfold p_X9_nextIsDigit at h
  refine lv_aload_n X.1 X.2.1 dX9_nextIsDigit_0 rfl (lv_at hl 0 rfl) ?_
  obtain ⟨x3, hx3, h⟩ := kb_of h
  refine s_callVi (segs' := [gX9 g aT zT]) (ci := 9) (i0 := 0) X V (c_X9_next l D g aT zT x3 hx3) w_X9_44 ⟨Nat.le_of_ble_eq_true rfl, Nat.le_of_ble_eq_true rfl⟩ ⟨Nat.zero_le _, Nat.zero_le _⟩ rfl rfl rfl rfl [0] rfl rfl (kFst_refl _) rfl rfl hl.1 (Nat.le_of_ble_eq_true rfl) dX9_nextIsDigit_1 (fun H locs V => ?_)
  refine lv_bipush (v := (48 : Int32)) X.1 X.2.1 dX9_nextIsDigit_4 (by decide) ?_
  refine lv_icmp_lt (tgt := 22) X.1 X.2.1 dX9_nextIsDigit_6 (by decide) (fun hc => ?_) (fun hc => ?_)
  · replace h := kif_t hc h
    refine lv_iconst (v := (0 : Int32)) X.1 X.2.1 dX9_nextIsDigit_22 (by decide) ?_
    obtain rfl := Option.some.inj h
    rw [hAA] at V
    rw [hQQ]
    exact k_zret X V (b := false) rfl rfl dX9_nextIsDigit_23
  · replace h := kif_f hc h
    refine lv_aload_n X.1 X.2.1 dX9_nextIsDigit_9 rfl (lv_at hl 0 rfl) ?_
    obtain ⟨x4, hx4, h⟩ := kb_of h
    refine s_callVi (segs' := [gX9 g aT zT]) (ci := 9) (i0 := 0) X V (c_X9_next l D g aT zT x4 hx4) w_X9_44 ⟨Nat.le_of_ble_eq_true rfl, Nat.le_of_ble_eq_true rfl⟩ ⟨Nat.zero_le _, Nat.zero_le _⟩ rfl rfl rfl rfl [0] rfl rfl (kFst_refl _) rfl rfl hl.1 (Nat.le_of_ble_eq_true rfl) dX9_nextIsDigit_10 (fun H locs V => ?_)
    refine lv_bipush (v := (57 : Int32)) X.1 X.2.1 dX9_nextIsDigit_13 (by decide) ?_
    refine lv_icmp_gt (tgt := 22) X.1 X.2.1 dX9_nextIsDigit_15 (by decide) (fun hc => ?_) (fun hc => ?_)
    · replace h := kif_t hc h
      refine lv_iconst (v := (0 : Int32)) X.1 X.2.1 dX9_nextIsDigit_22 (by decide) ?_
      obtain rfl := Option.some.inj h
      rw [hAA] at V
      rw [hQQ]
      exact k_zret X V (b := false) rfl rfl dX9_nextIsDigit_23
    · replace h := kif_f hc h
      refine lv_iconst (v := (1 : Int32)) X.1 X.2.1 dX9_nextIsDigit_18 (by decide) ?_
      refine lv_goto (tgt := 23) X.1 X.2.1 dX9_nextIsDigit_19 (by decide) ?_
      obtain rfl := Option.some.inj h
      rw [hAA] at V
      rw [hQQ]
      exact k_zret X V (b := true) rfl rfl dX9_nextIsDigit_23

def p_X9_readNumber_L40 (v1 : Int32) (v2 : Int32) (v3 : Int32) (s : Int32 × Int32 × tX9) : Option (Nat × (Int32 × Int32 × tX9)) :=
  kif ((3 : Int32) ≤ s.2.1) (some (84, (s.1, s.2.1, s.2.2))) (kb (p_X9_nextIsDigit s.2.2) (fun x2 => kif ((kz x2) = 0) (some (84, (s.1, s.2.1, s.2.2))) (kb (p_X9_next s.2.2) (fun x3 => kl ((((10 : Int32) * s.1) + x3) - (48 : Int32)) (fun y4 => kl (s.2.2.1, s.2.2.2.1, (s.2.2.2.2.1 + (1 : Int32)), s.2.2.2.2.2) (fun z5 => kl (s.2.1 + (1 : Int32)) (fun y6 => some (40, (y4, y6, z5)))))))))
def p_X9_readNumber_J115 (v1 : Int32) (zT : tX9) (v3 : Int32) (v4 : Int32) : Option (Int32 × tX9) :=
  kif (v3 = 0) (some (v4, zT)) (some ((-v4), zT))
def p_X9_readNumber_J104 (v1 : Int32) (zT : tX9) (v2 : Int32) (v3 : Int32) (v4 : Int32) : Option (Int32 × tX9) :=
  kif (v4 ≤ v1) (p_X9_readNumber_J115 v1 zT v3 v4) (kb (p_X9_fail zT v2) (fun x9 => p_X9_readNumber_J115 v1 x9 v3 v4))
def p_X9_readNumber_J96 (v1 : Int32) (zT : tX9) (v2 : Int32) (v3 : Int32) (v4 : Int32) : Option (Int32 × tX9) :=
  kb (p_X9_fail zT zT.2.2.1) (fun x8 => p_X9_readNumber_J104 v1 x8 v2 v3 v4)
def p_X9_readNumber_J84 (v1 : Int32) (zT : tX9) (v2 : Int32) (v3 : Int32) (v4 : Int32) (v5 : Int32) : Option (Int32 × tX9) :=
  kif (v5 = 0) (p_X9_readNumber_J96 v1 zT v2 v3 v4) (kb (p_X9_nextIsDigit zT) (fun x10 => kif ((kz x10) = 0) (p_X9_readNumber_J104 v1 zT v2 v3 v4) (p_X9_readNumber_J96 v1 zT v2 v3 v4)))
def p_X9_readNumber_J40 (v1 : Int32) (zT : tX9) (v2 : Int32) (v3 : Int32) (v4 : Int32) (v5 : Int32) : Option (Int32 × tX9) :=
  kb (kitr 40 (fun q => p_X9_readNumber_L40 v1 v2 v3 q) kF (v4, v5, zT)) (fun x7 => kg (x7.1 = 84) (p_X9_readNumber_J84 v1 x7.2.2.2 v2 v3 x7.2.1 x7.2.2.1))
def p_X9_readNumber_J19 (v1 : Int32) (zT : tX9) (v2 : Int32) (k19_0 : Int32) : Option (Int32 × tX9) :=
  kif (k19_0 = 0) (p_X9_readNumber_J40 v1 zT v2 k19_0 (0 : Int32) (0 : Int32)) (kl (zT.1, zT.2.1, (zT.2.2.1 + (1 : Int32)), zT.2.2.2) (fun z11 => p_X9_readNumber_J40 v1 z11 v2 k19_0 (0 : Int32) (0 : Int32)))
def p_X9_readNumber (zT : tX9) (v1 : Int32) : Option (Int32 × tX9) :=
  kb (p_X9_next zT) (fun x1 => kif (x1 = (45 : Int32)) (p_X9_readNumber_J19 v1 zT zT.2.2.1 (1 : Int32)) (p_X9_readNumber_J19 v1 zT zT.2.2.1 (0 : Int32)))
set_option maxHeartbeats 4000000 in
set_option maxRecDepth 100000 in
theorem c_X9_readNumber (l : Launch) (D : va_G) (g : kG) (aT : Nat → Nat) (zT : tX9) (v1 : Int32) (r : Int32 × tX9) (h : p_X9_readNumber zT v1 = some r) : kMi l yX9_readNumber cX9_readNumber 6 (some .int) (kR 2 40) D (kty g) [.ref (aT 0), .int v1] (List.flatten [gX9 g aT zT]) r.1 (List.flatten [gX9 g aT r.2]) := by
  intro sz
  refine k_enter (lv := [(0, .ref (aT 0)), (1, .int v1)]) RX9 (by decide +kernel) rfl rfl (Nat.le_of_ble_eq_true rfl) ?_
  intro p en s m args below meth c ls hsz X V hl
  obtain ⟨QQ, hQQ⟩ : ∃ q, q = MQ below (va_Qi (fun r' (_ : Unit) => r' = r.1) (fun _ => kE D (List.flatten [gX9 g aT r.2])) (va_A (List.flatten [gX9 g aT zT]) sz)) args s 0 0 (va_A (List.flatten [gX9 g aT zT]) sz) := ⟨_, rfl⟩
  rw [← hQQ]
  obtain ⟨AA, hAA⟩ : ∃ q, q = va_A (List.flatten [gX9 g aT zT]) sz := ⟨_, rfl⟩
  rw [← hAA] at V
  have J115 : ∀ (zT : tX9) (v3 : Int32) (v4 : Int32) (H : Heap) (locs : List Loc) (ls : Array Slot), p_X9_readNumber_J115 v1 zT v3 v4 = some r → kW D AA s.heap H (List.flatten [gX9 g aT zT]) locs → lv_has ls 6 [(3, .int v3), (4, .int v4)] → W p l en (kR 2 40) s m args below meth c H locs 0 0 QQ (F0 m 115 ls []) := by
    intro zT v3 v4 H locs ls h V hl
    unfold p_X9_readNumber_J115 at h
    refine lv_iload_n X.1 X.2.1 dX9_readNumber_115 rfl (lv_at hl 0 rfl) ?_
    refine lv_if_eq (tgt := 125) X.1 X.2.1 dX9_readNumber_116 (by decide) (fun hc => ?_) (fun hc => ?_)
    · replace h := kif_t hc h
      refine lv_iload X.1 X.2.1 dX9_readNumber_125 (lv_at hl 1 rfl) ?_
      obtain rfl := Option.some.inj h
      rw [hAA] at V
      rw [hQQ]
      exact k_iret X V rfl dX9_readNumber_127
    · replace h := kif_f hc h
      refine lv_iload X.1 X.2.1 dX9_readNumber_119 (lv_at hl 1 rfl) ?_
      refine lv_ineg X.1 X.2.1 dX9_readNumber_121 ?_
      refine lv_goto (tgt := 127) X.1 X.2.1 dX9_readNumber_122 (by decide) ?_
      obtain rfl := Option.some.inj h
      rw [hAA] at V
      rw [hQQ]
      exact k_iret X V rfl dX9_readNumber_127
  have J104 : ∀ (zT : tX9) (v2 : Int32) (v3 : Int32) (v4 : Int32) (H : Heap) (locs : List Loc) (ls : Array Slot), p_X9_readNumber_J104 v1 zT v2 v3 v4 = some r → kW D AA s.heap H (List.flatten [gX9 g aT zT]) locs → lv_has ls 6 [(0, .ref (aT 0)), (1, .int v1), (2, .int v2), (3, .int v3), (4, .int v4)] → W p l en (kR 2 40) s m args below meth c H locs 0 0 QQ (F0 m 104 ls []) := by
    intro zT v2 v3 v4 H locs ls h V hl
    unfold p_X9_readNumber_J104 at h
    refine lv_iload X.1 X.2.1 dX9_readNumber_104 (lv_at hl 4 rfl) ?_
    refine lv_iload_n X.1 X.2.1 dX9_readNumber_106 rfl (lv_at hl 1 rfl) ?_
    refine lv_icmp_le (tgt := 115) X.1 X.2.1 dX9_readNumber_107 (by decide) (fun hc => ?_) (fun hc => ?_)
    · replace h := kif_t hc h
      exact J115 zT v3 v4 _ _ _ h V (lv_sub hl [3, 4] rfl)
    · replace h := kif_f hc h
      refine lv_aload_n X.1 X.2.1 dX9_readNumber_110 rfl (lv_at hl 0 rfl) ?_
      refine lv_iload_n X.1 X.2.1 dX9_readNumber_111 rfl (lv_at hl 2 rfl) ?_
      obtain ⟨x12, hx12, h⟩ := kb_of h
      refine s_callVv (segs' := [gX9 g aT x12]) (ci := 9) (i0 := 0) X V (c_X9_fail l D g aT zT v2 x12 hx12) w_X9_72 ⟨Nat.le_of_ble_eq_true rfl, Nat.le_of_ble_eq_true rfl⟩ ⟨Nat.zero_le _, Nat.zero_le _⟩ rfl rfl rfl rfl [0] rfl rfl ⟨gX9_fst, trivial⟩ rfl rfl hl.1 (Nat.le_of_ble_eq_true rfl) dX9_readNumber_112 (fun H locs V => ?_)
      exact J115 x12 v3 v4 _ _ _ h V (lv_sub hl [3, 4] rfl)
  have J96 : ∀ (zT : tX9) (v2 : Int32) (v3 : Int32) (v4 : Int32) (H : Heap) (locs : List Loc) (ls : Array Slot), p_X9_readNumber_J96 v1 zT v2 v3 v4 = some r → kW D AA s.heap H (List.flatten [gX9 g aT zT]) locs → lv_has ls 6 [(0, .ref (aT 0)), (1, .int v1), (2, .int v2), (3, .int v3), (4, .int v4)] → W p l en (kR 2 40) s m args below meth c H locs 0 0 QQ (F0 m 96 ls []) := by
    intro zT v2 v3 v4 H locs ls h V hl
    unfold p_X9_readNumber_J96 at h
    refine lv_aload_n X.1 X.2.1 dX9_readNumber_96 rfl (lv_at hl 0 rfl) ?_
    refine lv_aload_n X.1 X.2.1 dX9_readNumber_97 rfl (lv_at hl 0 rfl) ?_
    refine gf_X9_26 (i := 0) X V rfl dX9_readNumber_98 ?_
    obtain ⟨x13, hx13, h⟩ := kb_of h
    refine s_callVv (segs' := [gX9 g aT x13]) (ci := 9) (i0 := 0) X V (c_X9_fail l D g aT zT zT.2.2.1 x13 hx13) w_X9_72 ⟨Nat.le_of_ble_eq_true rfl, Nat.le_of_ble_eq_true rfl⟩ ⟨Nat.zero_le _, Nat.zero_le _⟩ rfl rfl rfl rfl [0] rfl rfl ⟨gX9_fst, trivial⟩ rfl rfl hl.1 (Nat.le_of_ble_eq_true rfl) dX9_readNumber_101 (fun H locs V => ?_)
    exact J104 x13 v2 v3 v4 _ _ _ h V (lv_sub hl [0, 1, 2, 3, 4] rfl)
  have J84 : ∀ (zT : tX9) (v2 : Int32) (v3 : Int32) (v4 : Int32) (v5 : Int32) (H : Heap) (locs : List Loc) (ls : Array Slot), p_X9_readNumber_J84 v1 zT v2 v3 v4 v5 = some r → kW D AA s.heap H (List.flatten [gX9 g aT zT]) locs → lv_has ls 6 [(0, .ref (aT 0)), (1, .int v1), (2, .int v2), (3, .int v3), (4, .int v4), (5, .int v5)] → W p l en (kR 2 40) s m args below meth c H locs 0 0 QQ (F0 m 84 ls []) := by
    intro zT v2 v3 v4 v5 H locs ls h V hl
    unfold p_X9_readNumber_J84 at h
    refine lv_iload X.1 X.2.1 dX9_readNumber_84 (lv_at hl 5 rfl) ?_
    refine lv_if_eq (tgt := 96) X.1 X.2.1 dX9_readNumber_86 (by decide) (fun hc => ?_) (fun hc => ?_)
    · replace h := kif_t hc h
      exact J96 zT v2 v3 v4 _ _ _ h V (lv_sub hl [0, 1, 2, 3, 4] rfl)
    · replace h := kif_f hc h
      refine lv_aload_n X.1 X.2.1 dX9_readNumber_89 rfl (lv_at hl 0 rfl) ?_
      obtain ⟨x14, hx14, h⟩ := kb_of h
      refine s_callVi (segs' := [gX9 g aT zT]) (ci := 9) (i0 := 0) X V (c_X9_nextIsDigit l D g aT zT x14 hx14) w_X9_82 ⟨Nat.le_of_ble_eq_true rfl, Nat.le_of_ble_eq_true rfl⟩ ⟨Nat.zero_le _, Nat.zero_le _⟩ rfl rfl rfl rfl [0] rfl rfl (kFst_refl _) rfl rfl hl.1 (Nat.le_of_ble_eq_true rfl) dX9_readNumber_90 (fun H locs V => ?_)
      refine lv_if_eq (tgt := 104) X.1 X.2.1 dX9_readNumber_93 (by decide) (fun hc => ?_) (fun hc => ?_)
      · replace h := kif_t hc h
        exact J104 zT v2 v3 v4 _ _ _ h V (lv_sub hl [0, 1, 2, 3, 4] rfl)
      · replace h := kif_f hc h
        exact J96 zT v2 v3 v4 _ _ _ h V (lv_sub hl [0, 1, 2, 3, 4] rfl)
  have J40 : ∀ (zT : tX9) (v2 : Int32) (v3 : Int32) (v4 : Int32) (v5 : Int32) (H : Heap) (locs : List Loc) (ls : Array Slot), p_X9_readNumber_J40 v1 zT v2 v3 v4 v5 = some r → kW D AA s.heap H (List.flatten [gX9 g aT zT]) locs → lv_has ls 6 [(0, .ref (aT 0)), (1, .int v1), (2, .int v2), (3, .int v3), (4, .int v4), (5, .int v5)] → W p l en (kR 2 40) s m args below meth c H locs 0 0 QQ (F0 m 40 ls []) := by
    intro zT v2 v3 v4 v5 H locs ls h V hl
    unfold p_X9_readNumber_J40 at h
    obtain ⟨x15, hx15, h⟩ := kb_of h
    refine (kitr_go (hd := 40) (body := fun q => p_X9_readNumber_L40 v1 v2 v3 q) (G := (fun e => ∀ (H : Heap) (locs : List Loc) (ls : Array Slot), kW D AA s.heap H (List.flatten [gX9 g aT e.2.2.2]) locs → lv_has ls 6 [(0, .ref (aT 0)), (1, .int v1), (2, .int v2), (3, .int v3), (4, .int e.2.1), (5, .int e.2.2.1)] → W p l en (kR 2 40) s m args below meth c H locs 0 0 QQ (F0 m e.1 ls []))) (fun s16 e17 hb18 hG19 => ?_) kF _ x15 hx15 ?_) _ _ _ V (lv_sub hl [0, 1, 2, 3, 4, 5] rfl)
    · intro H locs ls V hl
      show W p l en (kR 2 40) s m args below meth c H locs 0 0 QQ (F0 m 40 ls [])
      have h : p_X9_readNumber_L40 v1 v2 v3 s16 = some e17 := hb18
      unfold p_X9_readNumber_L40 at h
      have V : kW D AA s.heap H (List.flatten [gX9 g aT s16.2.2]) locs := V
      have hl : lv_has ls 6 [(0, .ref (aT 0)), (1, .int v1), (2, .int v2), (3, .int v3), (4, .int s16.1), (5, .int s16.2.1)] := hl
      refine lv_iload X.1 X.2.1 dX9_readNumber_40 (lv_at hl 5 rfl) ?_
      refine lv_iconst (v := (3 : Int32)) X.1 X.2.1 dX9_readNumber_42 (by decide) ?_
      refine lv_icmp_ge (tgt := 84) X.1 X.2.1 dX9_readNumber_43 (by decide) (fun hc => ?_) (fun hc => ?_)
      · replace h := kif_t hc h
        obtain rfl := Option.some.inj h
        exact hG19 _ _ _ V (lv_sub hl [0, 1, 2, 3, 4, 5] rfl)
      · replace h := kif_f hc h
        refine lv_aload_n X.1 X.2.1 dX9_readNumber_46 rfl (lv_at hl 0 rfl) ?_
        obtain ⟨x20, hx20, h⟩ := kb_of h
        refine s_callVi (segs' := [gX9 g aT s16.2.2]) (ci := 9) (i0 := 0) X V (c_X9_nextIsDigit l D g aT s16.2.2 x20 hx20) w_X9_82 ⟨Nat.le_of_ble_eq_true rfl, Nat.le_of_ble_eq_true rfl⟩ ⟨Nat.zero_le _, Nat.zero_le _⟩ rfl rfl rfl rfl [0] rfl rfl (kFst_refl _) rfl rfl hl.1 (Nat.le_of_ble_eq_true rfl) dX9_readNumber_47 (fun H locs V => ?_)
        refine lv_if_eq (tgt := 84) X.1 X.2.1 dX9_readNumber_50 (by decide) (fun hc => ?_) (fun hc => ?_)
        · replace h := kif_t hc h
          obtain rfl := Option.some.inj h
          exact hG19 _ _ _ V (lv_sub hl [0, 1, 2, 3, 4, 5] rfl)
        · replace h := kif_f hc h
          refine lv_bipush (v := (10 : Int32)) X.1 X.2.1 dX9_readNumber_53 (by decide) ?_
          refine lv_iload X.1 X.2.1 dX9_readNumber_55 (lv_at hl 4 rfl) ?_
          refine lv_imul X.1 X.2.1 dX9_readNumber_57 ?_
          refine lv_aload_n X.1 X.2.1 dX9_readNumber_58 rfl (lv_at hl 0 rfl) ?_
          obtain ⟨x21, hx21, h⟩ := kb_of h
          refine s_callVi (segs' := [gX9 g aT s16.2.2]) (ci := 9) (i0 := 0) X V (c_X9_next l D g aT s16.2.2 x21 hx21) w_X9_44 ⟨Nat.le_of_ble_eq_true rfl, Nat.le_of_ble_eq_true rfl⟩ ⟨Nat.zero_le _, Nat.zero_le _⟩ rfl rfl rfl rfl [0] rfl rfl (kFst_refl _) rfl rfl hl.1 (Nat.le_of_ble_eq_true rfl) dX9_readNumber_59 (fun H locs V => ?_)
          refine lv_iadd X.1 X.2.1 dX9_readNumber_62 ?_
          refine lv_bipush (v := (48 : Int32)) X.1 X.2.1 dX9_readNumber_63 (by decide) ?_
          refine lv_isub X.1 X.2.1 dX9_readNumber_65 ?_
          refine lv_topi (fun y22 ey22 => ?_)
          replace h := kl_of ey22 h
          refine lv_istore (lv' := [(4, .int y22), (0, .ref (aT 0)), (1, .int v1), (2, .int v2), (3, .int v3), (5, .int s16.2.1)]) X.1 X.2.1 dX9_readNumber_66 hl (by decide) rfl (fun ls hl => ?_)
          refine lv_aload_n X.1 X.2.1 dX9_readNumber_68 rfl (lv_at hl 1 rfl) ?_
          refine lv_dup X.1 X.2.1 dX9_readNumber_69 rfl ?_
          refine gf_X9_26 (i := 0) X V rfl dX9_readNumber_70 ?_
          refine lv_iconst (v := (1 : Int32)) X.1 X.2.1 dX9_readNumber_73 (by decide) ?_
          refine lv_iadd X.1 X.2.1 dX9_readNumber_74 ?_
          refine pf_X9_26 (i := 0) X V rfl dX9_readNumber_75 (fun H locs V => ?_)
          obtain ⟨z23, ez23⟩ : ∃ y, y = (s16.2.2.1, s16.2.2.2.1, (s16.2.2.2.2.1 + (1 : Int32)), s16.2.2.2.2.2) := ⟨_, rfl⟩
          replace h := kl_of ez23 h
          have V : kW D AA s.heap H (List.flatten [gX9 g aT z23]) locs := by rw [ez23]; exact V
          obtain ⟨y24, ey24⟩ : ∃ y : Int32, y = (s16.2.1 + (1 : Int32)) := ⟨_, rfl⟩
          replace h := kl_of ey24 h
          refine lv_iinc (v := y24) (lv' := [(5, .int y24), (4, .int y22), (0, .ref (aT 0)), (1, .int v1), (2, .int v2), (3, .int v3)]) X.1 X.2.1 dX9_readNumber_78 hl (k := 5) rfl (by rw [ey24]; rfl) (by decide) rfl (fun ls hl => ?_)
          refine lv_goto (tgt := 40) X.1 X.2.1 dX9_readNumber_81 (by decide) ?_
          obtain rfl := Option.some.inj h
          exact hG19 _ _ _ V (lv_sub hl [2, 3, 4, 5, 1, 0] rfl)
    · intro H locs ls V hl
      have V : kW D AA s.heap H (List.flatten [gX9 g aT x15.2.2.2]) locs := V
      have hl : lv_has ls 6 [(0, .ref (aT 0)), (1, .int v1), (2, .int v2), (3, .int v3), (4, .int x15.2.1), (5, .int x15.2.2.1)] := hl
      obtain ⟨hc, h⟩ := kg_of h
      refine W.eq (g2 := F0 m 84 ls []) (by rw [hc]) ?_
      exact J84 x15.2.2.2 v2 v3 x15.2.1 x15.2.2.1 _ _ _ h V (lv_sub hl [0, 1, 2, 3, 4, 5] rfl)
  have J19 : ∀ (zT : tX9) (v2 : Int32) (k19_0 : Int32) (H : Heap) (locs : List Loc) (ls : Array Slot), p_X9_readNumber_J19 v1 zT v2 k19_0 = some r → kW D AA s.heap H (List.flatten [gX9 g aT zT]) locs → lv_has ls 6 [(0, .ref (aT 0)), (1, .int v1), (2, .int v2)] → W p l en (kR 2 40) s m args below meth c H locs 0 0 QQ (F0 m 19 ls [.int k19_0]) := by
    intro zT v2 k19_0 H locs ls h V hl
    unfold p_X9_readNumber_J19 at h
    refine lv_istore_n (lv' := [(3, .int k19_0), (0, .ref (aT 0)), (1, .int v1), (2, .int v2)]) X.1 X.2.1 dX9_readNumber_19 rfl hl (by decide) rfl (fun ls hl => ?_)
    refine lv_iconst (v := (0 : Int32)) X.1 X.2.1 dX9_readNumber_20 (by decide) ?_
    refine lv_istore (lv' := [(4, .int (0 : Int32)), (3, .int k19_0), (0, .ref (aT 0)), (1, .int v1), (2, .int v2)]) X.1 X.2.1 dX9_readNumber_21 hl (by decide) rfl (fun ls hl => ?_)
    refine lv_iconst (v := (0 : Int32)) X.1 X.2.1 dX9_readNumber_23 (by decide) ?_
    refine lv_istore (lv' := [(5, .int (0 : Int32)), (4, .int (0 : Int32)), (3, .int k19_0), (0, .ref (aT 0)), (1, .int v1), (2, .int v2)]) X.1 X.2.1 dX9_readNumber_24 hl (by decide) rfl (fun ls hl => ?_)
    refine lv_iload_n X.1 X.2.1 dX9_readNumber_26 rfl (lv_at hl 2 rfl) ?_
    refine lv_if_eq (tgt := 40) X.1 X.2.1 dX9_readNumber_27 (by decide) (fun hc => ?_) (fun hc => ?_)
    · replace h := kif_t hc h
      exact J40 zT v2 k19_0 (0 : Int32) (0 : Int32) _ _ _ h V (lv_sub hl [3, 4, 5, 2, 1, 0] rfl)
    · replace h := kif_f hc h
      refine lv_aload_n X.1 X.2.1 dX9_readNumber_30 rfl (lv_at hl 3 rfl) ?_
      refine lv_dup X.1 X.2.1 dX9_readNumber_31 rfl ?_
      refine gf_X9_26 (i := 0) X V rfl dX9_readNumber_32 ?_
      refine lv_iconst (v := (1 : Int32)) X.1 X.2.1 dX9_readNumber_35 (by decide) ?_
      refine lv_iadd X.1 X.2.1 dX9_readNumber_36 ?_
      refine pf_X9_26 (i := 0) X V rfl dX9_readNumber_37 (fun H locs V => ?_)
      obtain ⟨z25, ez25⟩ : ∃ y, y = (zT.1, zT.2.1, (zT.2.2.1 + (1 : Int32)), zT.2.2.2) := ⟨_, rfl⟩
      replace h := kl_of ez25 h
      have V : kW D AA s.heap H (List.flatten [gX9 g aT z25]) locs := by rw [ez25]; exact V
      exact J40 z25 v2 k19_0 (0 : Int32) (0 : Int32) _ _ _ h V (lv_sub hl [3, 4, 5, 2, 1, 0] rfl)
  unfold p_X9_readNumber at h
  refine lv_aload_n X.1 X.2.1 dX9_readNumber_0 rfl (lv_at hl 0 rfl) ?_
  refine gf_X9_26 (i := 0) X V rfl dX9_readNumber_1 ?_
  refine lv_istore_n (lv' := [(2, .int zT.2.2.1), (0, .ref (aT 0)), (1, .int v1)]) X.1 X.2.1 dX9_readNumber_4 rfl hl (by decide) rfl (fun ls hl => ?_)
  refine lv_aload_n X.1 X.2.1 dX9_readNumber_5 rfl (lv_at hl 1 rfl) ?_
  obtain ⟨x26, hx26, h⟩ := kb_of h
  refine s_callVi (segs' := [gX9 g aT zT]) (ci := 9) (i0 := 0) X V (c_X9_next l D g aT zT x26 hx26) w_X9_44 ⟨Nat.le_of_ble_eq_true rfl, Nat.le_of_ble_eq_true rfl⟩ ⟨Nat.zero_le _, Nat.zero_le _⟩ rfl rfl rfl rfl [0] rfl rfl (kFst_refl _) rfl rfl hl.1 (Nat.le_of_ble_eq_true rfl) dX9_readNumber_6 (fun H locs V => ?_)
  refine lv_bipush (v := (45 : Int32)) X.1 X.2.1 dX9_readNumber_9 (by decide) ?_
  refine lv_icmp_ne (tgt := 18) X.1 X.2.1 dX9_readNumber_11 (by decide) (fun hc => ?_) (fun hc => ?_)
  · replace h := kif_f hc h
    refine lv_iconst (v := (0 : Int32)) X.1 X.2.1 dX9_readNumber_18 (by decide) ?_
    exact J19 zT zT.2.2.1 (0 : Int32) _ _ _ h V (lv_sub hl [1, 2, 0] rfl)
  · replace h := kif_t hc h
    refine lv_iconst (v := (1 : Int32)) X.1 X.2.1 dX9_readNumber_14 (by decide) ?_
    refine lv_goto (tgt := 19) X.1 X.2.1 dX9_readNumber_15 (by decide) ?_
    exact J19 zT zT.2.2.1 (1 : Int32) _ _ _ h V (lv_sub hl [1, 2, 0] rfl)

def p_X9_expect (zT : tX9) (v1 : Int32) : Option (tX9) :=
  kb (p_X9_next zT) (fun x1 => kif (x1 = v1) (kl (zT.1, zT.2.1, (zT.2.2.1 + (1 : Int32)), zT.2.2.2) (fun z2 => some z2)) (kb (p_X9_fail zT zT.2.2.1) (fun x3 => kl (x3.1, x3.2.1, (x3.2.2.1 + (1 : Int32)), x3.2.2.2) (fun z4 => some z4))))
set_option maxHeartbeats 4000000 in
set_option maxRecDepth 100000 in
theorem c_X9_expect (l : Launch) (D : va_G) (g : kG) (aT : Nat → Nat) (zT : tX9) (v1 : Int32) (r : tX9) (h : p_X9_expect zT v1 = some r) : kMv l yX9_expect cX9_expect 2 none (kR 1 21) D (kty g) [.ref (aT 0), .int v1] (List.flatten [gX9 g aT zT]) (List.flatten [gX9 g aT r]) := by
  intro sz
  refine k_enter (lv := [(0, .ref (aT 0)), (1, .int v1)]) RX9 (by decide +kernel) rfl rfl (Nat.le_of_ble_eq_true rfl) ?_
  intro p en s m args below meth c ls hsz X V hl
  obtain ⟨QQ, hQQ⟩ : ∃ q, q = MQ below (va_Qv (fun (_ : Unit) => True) (fun _ => kE D (List.flatten [gX9 g aT r])) (va_A (List.flatten [gX9 g aT zT]) sz)) args s 0 0 (va_A (List.flatten [gX9 g aT zT]) sz) := ⟨_, rfl⟩
  rw [← hQQ]
  obtain ⟨AA, hAA⟩ : ∃ q, q = va_A (List.flatten [gX9 g aT zT]) sz := ⟨_, rfl⟩
  rw [← hAA] at V
  unfold p_X9_expect at h
  refine lv_aload_n X.1 X.2.1 dX9_expect_0 rfl (lv_at hl 0 rfl) ?_
  obtain ⟨x5, hx5, h⟩ := kb_of h
  refine s_callVi (segs' := [gX9 g aT zT]) (ci := 9) (i0 := 0) X V (c_X9_next l D g aT zT x5 hx5) w_X9_44 ⟨Nat.le_of_ble_eq_true rfl, Nat.le_of_ble_eq_true rfl⟩ ⟨Nat.zero_le _, Nat.zero_le _⟩ rfl rfl rfl rfl [0] rfl rfl (kFst_refl _) rfl rfl hl.1 (Nat.le_of_ble_eq_true rfl) dX9_expect_1 (fun H locs V => ?_)
  refine lv_iload_n X.1 X.2.1 dX9_expect_4 rfl (lv_at hl 1 rfl) ?_
  refine lv_icmp_eq (tgt := 16) X.1 X.2.1 dX9_expect_5 (by decide) (fun hc => ?_) (fun hc => ?_)
  · replace h := kif_t hc h
    refine lv_aload_n X.1 X.2.1 dX9_expect_16 rfl (lv_at hl 0 rfl) ?_
    refine lv_dup X.1 X.2.1 dX9_expect_17 rfl ?_
    refine gf_X9_26 (i := 0) X V rfl dX9_expect_18 ?_
    refine lv_iconst (v := (1 : Int32)) X.1 X.2.1 dX9_expect_21 (by decide) ?_
    refine lv_iadd X.1 X.2.1 dX9_expect_22 ?_
    refine pf_X9_26 (i := 0) X V rfl dX9_expect_23 (fun H locs V => ?_)
    obtain ⟨z6, ez6⟩ : ∃ y, y = (zT.1, zT.2.1, (zT.2.2.1 + (1 : Int32)), zT.2.2.2) := ⟨_, rfl⟩
    replace h := kl_of ez6 h
    have V : kW D AA s.heap H (List.flatten [gX9 g aT z6]) locs := by rw [ez6]; exact V
    obtain rfl := Option.some.inj h
    rw [hAA] at V
    rw [hQQ]
    exact k_vret X V dX9_expect_26
  · replace h := kif_f hc h
    refine lv_aload_n X.1 X.2.1 dX9_expect_8 rfl (lv_at hl 0 rfl) ?_
    refine lv_aload_n X.1 X.2.1 dX9_expect_9 rfl (lv_at hl 0 rfl) ?_
    refine gf_X9_26 (i := 0) X V rfl dX9_expect_10 ?_
    obtain ⟨x7, hx7, h⟩ := kb_of h
    refine s_callVv (segs' := [gX9 g aT x7]) (ci := 9) (i0 := 0) X V (c_X9_fail l D g aT zT zT.2.2.1 x7 hx7) w_X9_72 ⟨Nat.le_of_ble_eq_true rfl, Nat.le_of_ble_eq_true rfl⟩ ⟨Nat.zero_le _, Nat.zero_le _⟩ rfl rfl rfl rfl [0] rfl rfl ⟨gX9_fst, trivial⟩ rfl rfl hl.1 (Nat.le_of_ble_eq_true rfl) dX9_expect_13 (fun H locs V => ?_)
    refine lv_aload_n X.1 X.2.1 dX9_expect_16 rfl (lv_at hl 0 rfl) ?_
    refine lv_dup X.1 X.2.1 dX9_expect_17 rfl ?_
    refine gf_X9_26 (i := 0) X V rfl dX9_expect_18 ?_
    refine lv_iconst (v := (1 : Int32)) X.1 X.2.1 dX9_expect_21 (by decide) ?_
    refine lv_iadd X.1 X.2.1 dX9_expect_22 ?_
    refine pf_X9_26 (i := 0) X V rfl dX9_expect_23 (fun H locs V => ?_)
    obtain ⟨z8, ez8⟩ : ∃ y, y = (x7.1, x7.2.1, (x7.2.2.1 + (1 : Int32)), x7.2.2.2) := ⟨_, rfl⟩
    replace h := kl_of ez8 h
    have V : kW D AA s.heap H (List.flatten [gX9 g aT z8]) locs := by rw [ez8]; exact V
    obtain rfl := Option.some.inj h
    rw [hAA] at V
    rw [hQQ]
    exact k_vret X V dX9_expect_26

def p_X9_readPace (zT : tX9) (zP1 : tX4) : Option (tX9 × tX4) :=
  kb (p_X9_readHeap zT) (fun x1 => kb (p_X9_readNumber x1.2 (3 : Int32)) (fun x2 => kb (p_X9_expect x2.2 (44 : Int32)) (fun x3 => kb (p_X9_readNumber x3 (3 : Int32)) (fun x4 => kb (p_X9_expect x4.2 (59 : Int32)) (fun x5 => kif (x5.2.2.2 = (-1 : Int32)) (kb (p_X4_setPace zP1 x1.1 x2.1 x4.1) (fun x6 => some (x5, x6))) (some (x5, zP1)))))))
set_option maxHeartbeats 4000000 in
set_option maxRecDepth 100000 in
theorem c_X9_readPace (l : Launch) (D : va_G) (g : kG) (aT : Nat → Nat) (aP1 : Nat → Nat) (zT : tX9) (zP1 : tX4) (r : tX9 × tX4) (h : p_X9_readPace zT zP1 = some r) : kMv l yX9_readPace cX9_readPace 5 none (kR 3 65) D (kty g) [.ref (aT 0), .ref (aP1 0)] (List.flatten [gX9 g aT zT, gX4 g aP1 zP1]) (List.flatten [gX9 g aT r.1, gX4 g aP1 r.2]) := by
  intro sz
  refine k_enter (lv := [(0, .ref (aT 0)), (1, .ref (aP1 0))]) RX9 (by decide +kernel) rfl rfl (Nat.le_of_ble_eq_true rfl) ?_
  intro p en s m args below meth c ls hsz X V hl
  obtain ⟨QQ, hQQ⟩ : ∃ q, q = MQ below (va_Qv (fun (_ : Unit) => True) (fun _ => kE D (List.flatten [gX9 g aT r.1, gX4 g aP1 r.2])) (va_A (List.flatten [gX9 g aT zT, gX4 g aP1 zP1]) sz)) args s 0 0 (va_A (List.flatten [gX9 g aT zT, gX4 g aP1 zP1]) sz) := ⟨_, rfl⟩
  rw [← hQQ]
  obtain ⟨AA, hAA⟩ : ∃ q, q = va_A (List.flatten [gX9 g aT zT, gX4 g aP1 zP1]) sz := ⟨_, rfl⟩
  rw [← hAA] at V
  unfold p_X9_readPace at h
  refine lv_aload_n X.1 X.2.1 dX9_readPace_0 rfl (lv_at hl 0 rfl) ?_
  obtain ⟨x7, hx7, h⟩ := kb_of h
  refine s_callVi (segs' := [gX9 g aT x7.2, gX4 g aP1 zP1]) (ci := 9) (i0 := 0) X V (c_X9_readHeap l D g aT zT x7 hx7) w_X9_54 ⟨Nat.le_of_ble_eq_true rfl, Nat.le_of_ble_eq_true rfl⟩ ⟨Nat.zero_le _, Nat.zero_le _⟩ rfl rfl rfl rfl [0] rfl rfl ⟨gX9_fst, trivial⟩ rfl rfl hl.1 (Nat.le_of_ble_eq_true rfl) dX9_readPace_1 (fun H locs V => ?_)
  refine lv_istore_n (lv' := [(2, .int x7.1), (0, .ref (aT 0)), (1, .ref (aP1 0))]) X.1 X.2.1 dX9_readPace_4 rfl hl (by decide) rfl (fun ls hl => ?_)
  refine lv_aload_n X.1 X.2.1 dX9_readPace_5 rfl (lv_at hl 1 rfl) ?_
  refine lv_iconst (v := (3 : Int32)) X.1 X.2.1 dX9_readPace_6 (by decide) ?_
  obtain ⟨x8, hx8, h⟩ := kb_of h
  refine s_callVi (segs' := [gX9 g aT x8.2, gX4 g aP1 zP1]) (ci := 9) (i0 := 0) X V (c_X9_readNumber l D g aT x7.2 (3 : Int32) x8 hx8) w_X9_57 ⟨Nat.le_of_ble_eq_true rfl, Nat.le_of_ble_eq_true rfl⟩ ⟨Nat.zero_le _, Nat.zero_le _⟩ rfl rfl rfl rfl [0] rfl rfl ⟨gX9_fst, trivial⟩ rfl rfl hl.1 (Nat.le_of_ble_eq_true rfl) dX9_readPace_7 (fun H locs V => ?_)
  refine lv_istore_n (lv' := [(3, .int x8.1), (2, .int x7.1), (0, .ref (aT 0)), (1, .ref (aP1 0))]) X.1 X.2.1 dX9_readPace_10 rfl hl (by decide) rfl (fun ls hl => ?_)
  refine lv_aload_n X.1 X.2.1 dX9_readPace_11 rfl (lv_at hl 2 rfl) ?_
  refine lv_bipush (v := (44 : Int32)) X.1 X.2.1 dX9_readPace_12 (by decide) ?_
  obtain ⟨x9, hx9, h⟩ := kb_of h
  refine s_callVv (segs' := [gX9 g aT x9, gX4 g aP1 zP1]) (ci := 9) (i0 := 0) X V (c_X9_expect l D g aT x8.2 (44 : Int32) x9 hx9) w_X9_61 ⟨Nat.le_of_ble_eq_true rfl, Nat.le_of_ble_eq_true rfl⟩ ⟨Nat.zero_le _, Nat.zero_le _⟩ rfl rfl rfl rfl [0] rfl rfl ⟨gX9_fst, trivial⟩ rfl rfl hl.1 (Nat.le_of_ble_eq_true rfl) dX9_readPace_14 (fun H locs V => ?_)
  refine lv_aload_n X.1 X.2.1 dX9_readPace_17 rfl (lv_at hl 2 rfl) ?_
  refine lv_iconst (v := (3 : Int32)) X.1 X.2.1 dX9_readPace_18 (by decide) ?_
  obtain ⟨x10, hx10, h⟩ := kb_of h
  refine s_callVi (segs' := [gX9 g aT x10.2, gX4 g aP1 zP1]) (ci := 9) (i0 := 0) X V (c_X9_readNumber l D g aT x9 (3 : Int32) x10 hx10) w_X9_57 ⟨Nat.le_of_ble_eq_true rfl, Nat.le_of_ble_eq_true rfl⟩ ⟨Nat.zero_le _, Nat.zero_le _⟩ rfl rfl rfl rfl [0] rfl rfl ⟨gX9_fst, trivial⟩ rfl rfl hl.1 (Nat.le_of_ble_eq_true rfl) dX9_readPace_19 (fun H locs V => ?_)
  refine lv_istore (lv' := [(4, .int x10.1), (3, .int x8.1), (2, .int x7.1), (0, .ref (aT 0)), (1, .ref (aP1 0))]) X.1 X.2.1 dX9_readPace_22 hl (by decide) rfl (fun ls hl => ?_)
  refine lv_aload_n X.1 X.2.1 dX9_readPace_24 rfl (lv_at hl 3 rfl) ?_
  refine lv_bipush (v := (59 : Int32)) X.1 X.2.1 dX9_readPace_25 (by decide) ?_
  obtain ⟨x11, hx11, h⟩ := kb_of h
  refine s_callVv (segs' := [gX9 g aT x11, gX4 g aP1 zP1]) (ci := 9) (i0 := 0) X V (c_X9_expect l D g aT x10.2 (59 : Int32) x11 hx11) w_X9_61 ⟨Nat.le_of_ble_eq_true rfl, Nat.le_of_ble_eq_true rfl⟩ ⟨Nat.zero_le _, Nat.zero_le _⟩ rfl rfl rfl rfl [0] rfl rfl ⟨gX9_fst, trivial⟩ rfl rfl hl.1 (Nat.le_of_ble_eq_true rfl) dX9_readPace_27 (fun H locs V => ?_)
  refine lv_aload_n X.1 X.2.1 dX9_readPace_30 rfl (lv_at hl 3 rfl) ?_
  refine gf_X9_15 (i := 0) X V rfl dX9_readPace_31 ?_
  refine lv_iconst (v := (-1 : Int32)) X.1 X.2.1 dX9_readPace_34 (by decide) ?_
  refine lv_icmp_ne (tgt := 46) X.1 X.2.1 dX9_readPace_35 (by decide) (fun hc => ?_) (fun hc => ?_)
  · replace h := kif_f hc h
    obtain rfl := Option.some.inj h
    rw [hAA] at V
    rw [hQQ]
    exact k_vret X V dX9_readPace_46
  · replace h := kif_t hc h
    refine lv_aload_n X.1 X.2.1 dX9_readPace_38 rfl (lv_at hl 4 rfl) ?_
    refine lv_iload_n X.1 X.2.1 dX9_readPace_39 rfl (lv_at hl 2 rfl) ?_
    refine lv_iload_n X.1 X.2.1 dX9_readPace_40 rfl (lv_at hl 1 rfl) ?_
    refine lv_iload X.1 X.2.1 dX9_readPace_41 (lv_at hl 0 rfl) ?_
    obtain ⟨x12, hx12, h⟩ := kb_of h
    refine s_callVv (segs' := [gX9 g aT x11, gX4 g aP1 x12]) (ci := 4) (i0 := 0) X V (c_X4_setPace l D g aP1 zP1 x7.1 x8.1 x10.1 x12 hx12) w_X9_65 ⟨Nat.le_of_ble_eq_true rfl, Nat.le_of_ble_eq_true rfl⟩ ⟨Nat.zero_le _, Nat.zero_le _⟩ rfl rfl rfl rfl [1] rfl rfl ⟨gX4_fst, trivial⟩ rfl rfl hl.1 (Nat.le_of_ble_eq_true rfl) dX9_readPace_43 (fun H locs V => ?_)
    obtain rfl := Option.some.inj h
    rw [hAA] at V
    rw [hQQ]
    exact k_vret X V dX9_readPace_46

def p_X9_readPoint_J26 (zT : tX9) (zP1 : tX4) (v3 : Int32) (v4 : Int32) : Option (tX9 × tX4) :=
  kb (p_X9_readNumber zT (100 : Int32)) (fun x4 => kb (p_X9_expect x4.2 (44 : Int32)) (fun x5 => kb (p_X9_readNumber x5 (100 : Int32)) (fun x6 => kb (p_X9_expect x6.2 (59 : Int32)) (fun x7 => kif (x7.2.2.2 = (-1 : Int32)) (kb (p_X4_place zP1 v3 x4.1 x6.1 v4) (fun x8 => some (x7, x8))) (some (x7, zP1))))))
def p_X9_readPoint (zT : tX9) (zP1 : tX4) : Option (tX9 × tX4) :=
  kb (p_X4_free zP1) (fun x1 => kb (p_X9_readHeap zT) (fun x2 => kif (x1 = (-1 : Int32)) (kb (p_X9_fail x2.2 zT.2.2.1) (fun x3 => p_X9_readPoint_J26 x3 zP1 x1 x2.1)) (p_X9_readPoint_J26 x2.2 zP1 x1 x2.1)))
set_option maxHeartbeats 4000000 in
set_option maxRecDepth 100000 in
theorem c_X9_readPoint (l : Launch) (D : va_G) (g : kG) (aT : Nat → Nat) (aP1 : Nat → Nat) (zT : tX9) (zP1 : tX4) (r : tX9 × tX4) (h : p_X9_readPoint zT zP1 = some r) : kMv l yX9_readPoint cX9_readPoint 7 none (kR 3 65) D (kty g) [.ref (aT 0), .ref (aP1 0)] (List.flatten [gX9 g aT zT, gX4 g aP1 zP1]) (List.flatten [gX9 g aT r.1, gX4 g aP1 r.2]) := by
  intro sz
  refine k_enter (lv := [(0, .ref (aT 0)), (1, .ref (aP1 0))]) RX9 (by decide +kernel) rfl rfl (Nat.le_of_ble_eq_true rfl) ?_
  intro p en s m args below meth c ls hsz X V hl
  obtain ⟨QQ, hQQ⟩ : ∃ q, q = MQ below (va_Qv (fun (_ : Unit) => True) (fun _ => kE D (List.flatten [gX9 g aT r.1, gX4 g aP1 r.2])) (va_A (List.flatten [gX9 g aT zT, gX4 g aP1 zP1]) sz)) args s 0 0 (va_A (List.flatten [gX9 g aT zT, gX4 g aP1 zP1]) sz) := ⟨_, rfl⟩
  rw [← hQQ]
  obtain ⟨AA, hAA⟩ : ∃ q, q = va_A (List.flatten [gX9 g aT zT, gX4 g aP1 zP1]) sz := ⟨_, rfl⟩
  rw [← hAA] at V
  have J26 : ∀ (zT : tX9) (zP1 : tX4) (v3 : Int32) (v4 : Int32) (H : Heap) (locs : List Loc) (ls : Array Slot), p_X9_readPoint_J26 zT zP1 v3 v4 = some r → kW D AA s.heap H (List.flatten [gX9 g aT zT, gX4 g aP1 zP1]) locs → lv_has ls 7 [(0, .ref (aT 0)), (1, .ref (aP1 0)), (3, .int v3), (4, .int v4)] → W p l en (kR 3 65) s m args below meth c H locs 0 0 QQ (F0 m 26 ls []) := by
    intro zT zP1 v3 v4 H locs ls h V hl
    unfold p_X9_readPoint_J26 at h
    refine lv_aload_n X.1 X.2.1 dX9_readPoint_26 rfl (lv_at hl 0 rfl) ?_
    refine lv_bipush (v := (100 : Int32)) X.1 X.2.1 dX9_readPoint_27 (by decide) ?_
    obtain ⟨x9, hx9, h⟩ := kb_of h
    refine s_callVi (segs' := [gX9 g aT x9.2, gX4 g aP1 zP1]) (ci := 9) (i0 := 0) X V (c_X9_readNumber l D g aT zT (100 : Int32) x9 hx9) w_X9_57 ⟨Nat.le_of_ble_eq_true rfl, Nat.le_of_ble_eq_true rfl⟩ ⟨Nat.zero_le _, Nat.zero_le _⟩ rfl rfl rfl rfl [0] rfl rfl ⟨gX9_fst, trivial⟩ rfl rfl hl.1 (Nat.le_of_ble_eq_true rfl) dX9_readPoint_29 (fun H locs V => ?_)
    refine lv_istore (lv' := [(5, .int x9.1), (0, .ref (aT 0)), (1, .ref (aP1 0)), (3, .int v3), (4, .int v4)]) X.1 X.2.1 dX9_readPoint_32 hl (by decide) rfl (fun ls hl => ?_)
    refine lv_aload_n X.1 X.2.1 dX9_readPoint_34 rfl (lv_at hl 1 rfl) ?_
    refine lv_bipush (v := (44 : Int32)) X.1 X.2.1 dX9_readPoint_35 (by decide) ?_
    obtain ⟨x10, hx10, h⟩ := kb_of h
    refine s_callVv (segs' := [gX9 g aT x10, gX4 g aP1 zP1]) (ci := 9) (i0 := 0) X V (c_X9_expect l D g aT x9.2 (44 : Int32) x10 hx10) w_X9_61 ⟨Nat.le_of_ble_eq_true rfl, Nat.le_of_ble_eq_true rfl⟩ ⟨Nat.zero_le _, Nat.zero_le _⟩ rfl rfl rfl rfl [0] rfl rfl ⟨gX9_fst, trivial⟩ rfl rfl hl.1 (Nat.le_of_ble_eq_true rfl) dX9_readPoint_37 (fun H locs V => ?_)
    refine lv_aload_n X.1 X.2.1 dX9_readPoint_40 rfl (lv_at hl 1 rfl) ?_
    refine lv_bipush (v := (100 : Int32)) X.1 X.2.1 dX9_readPoint_41 (by decide) ?_
    obtain ⟨x11, hx11, h⟩ := kb_of h
    refine s_callVi (segs' := [gX9 g aT x11.2, gX4 g aP1 zP1]) (ci := 9) (i0 := 0) X V (c_X9_readNumber l D g aT x10 (100 : Int32) x11 hx11) w_X9_57 ⟨Nat.le_of_ble_eq_true rfl, Nat.le_of_ble_eq_true rfl⟩ ⟨Nat.zero_le _, Nat.zero_le _⟩ rfl rfl rfl rfl [0] rfl rfl ⟨gX9_fst, trivial⟩ rfl rfl hl.1 (Nat.le_of_ble_eq_true rfl) dX9_readPoint_43 (fun H locs V => ?_)
    refine lv_istore (lv' := [(6, .int x11.1), (5, .int x9.1), (0, .ref (aT 0)), (1, .ref (aP1 0)), (3, .int v3), (4, .int v4)]) X.1 X.2.1 dX9_readPoint_46 hl (by decide) rfl (fun ls hl => ?_)
    refine lv_aload_n X.1 X.2.1 dX9_readPoint_48 rfl (lv_at hl 2 rfl) ?_
    refine lv_bipush (v := (59 : Int32)) X.1 X.2.1 dX9_readPoint_49 (by decide) ?_
    obtain ⟨x12, hx12, h⟩ := kb_of h
    refine s_callVv (segs' := [gX9 g aT x12, gX4 g aP1 zP1]) (ci := 9) (i0 := 0) X V (c_X9_expect l D g aT x11.2 (59 : Int32) x12 hx12) w_X9_61 ⟨Nat.le_of_ble_eq_true rfl, Nat.le_of_ble_eq_true rfl⟩ ⟨Nat.zero_le _, Nat.zero_le _⟩ rfl rfl rfl rfl [0] rfl rfl ⟨gX9_fst, trivial⟩ rfl rfl hl.1 (Nat.le_of_ble_eq_true rfl) dX9_readPoint_51 (fun H locs V => ?_)
    refine lv_aload_n X.1 X.2.1 dX9_readPoint_54 rfl (lv_at hl 2 rfl) ?_
    refine gf_X9_15 (i := 0) X V rfl dX9_readPoint_55 ?_
    refine lv_iconst (v := (-1 : Int32)) X.1 X.2.1 dX9_readPoint_58 (by decide) ?_
    refine lv_icmp_ne (tgt := 73) X.1 X.2.1 dX9_readPoint_59 (by decide) (fun hc => ?_) (fun hc => ?_)
    · replace h := kif_f hc h
      obtain rfl := Option.some.inj h
      rw [hAA] at V
      rw [hQQ]
      exact k_vret X V dX9_readPoint_73
    · replace h := kif_t hc h
      refine lv_aload_n X.1 X.2.1 dX9_readPoint_62 rfl (lv_at hl 3 rfl) ?_
      refine lv_iload_n X.1 X.2.1 dX9_readPoint_63 rfl (lv_at hl 4 rfl) ?_
      refine lv_iload X.1 X.2.1 dX9_readPoint_64 (lv_at hl 1 rfl) ?_
      refine lv_iload X.1 X.2.1 dX9_readPoint_66 (lv_at hl 0 rfl) ?_
      refine lv_iload X.1 X.2.1 dX9_readPoint_68 (lv_at hl 5 rfl) ?_
      obtain ⟨x13, hx13, h⟩ := kb_of h
      refine s_callVv (segs' := [gX9 g aT x12, gX4 g aP1 x13]) (ci := 4) (i0 := 0) X V (c_X4_place l D g aP1 zP1 v3 x9.1 x11.1 v4 x13 hx13) w_X9_75 ⟨Nat.le_of_ble_eq_true rfl, Nat.le_of_ble_eq_true rfl⟩ ⟨Nat.zero_le _, Nat.zero_le _⟩ rfl rfl rfl rfl [1] rfl rfl ⟨gX4_fst, trivial⟩ rfl rfl hl.1 (Nat.le_of_ble_eq_true rfl) dX9_readPoint_70 (fun H locs V => ?_)
      obtain rfl := Option.some.inj h
      rw [hAA] at V
      rw [hQQ]
      exact k_vret X V dX9_readPoint_73
  unfold p_X9_readPoint at h
  refine lv_aload_n X.1 X.2.1 dX9_readPoint_0 rfl (lv_at hl 0 rfl) ?_
  refine gf_X9_26 (i := 0) X V rfl dX9_readPoint_1 ?_
  refine lv_istore_n (lv' := [(2, .int zT.2.2.1), (0, .ref (aT 0)), (1, .ref (aP1 0))]) X.1 X.2.1 dX9_readPoint_4 rfl hl (by decide) rfl (fun ls hl => ?_)
  refine lv_aload_n X.1 X.2.1 dX9_readPoint_5 rfl (lv_at hl 2 rfl) ?_
  obtain ⟨x14, hx14, h⟩ := kb_of h
  refine s_callVi (segs' := [gX9 g aT zT, gX4 g aP1 zP1]) (ci := 4) (i0 := 0) X V (c_X4_free l D g aP1 zP1 x14 hx14) w_X9_69 ⟨Nat.le_of_ble_eq_true rfl, Nat.le_of_ble_eq_true rfl⟩ ⟨Nat.zero_le _, Nat.zero_le _⟩ rfl rfl rfl rfl [1] rfl rfl (kFst_refl _) rfl rfl hl.1 (Nat.le_of_ble_eq_true rfl) dX9_readPoint_6 (fun H locs V => ?_)
  refine lv_istore_n (lv' := [(3, .int x14), (2, .int zT.2.2.1), (0, .ref (aT 0)), (1, .ref (aP1 0))]) X.1 X.2.1 dX9_readPoint_9 rfl hl (by decide) rfl (fun ls hl => ?_)
  refine lv_aload_n X.1 X.2.1 dX9_readPoint_10 rfl (lv_at hl 2 rfl) ?_
  obtain ⟨x15, hx15, h⟩ := kb_of h
  refine s_callVi (segs' := [gX9 g aT x15.2, gX4 g aP1 zP1]) (ci := 9) (i0 := 0) X V (c_X9_readHeap l D g aT zT x15 hx15) w_X9_54 ⟨Nat.le_of_ble_eq_true rfl, Nat.le_of_ble_eq_true rfl⟩ ⟨Nat.zero_le _, Nat.zero_le _⟩ rfl rfl rfl rfl [0] rfl rfl ⟨gX9_fst, trivial⟩ rfl rfl hl.1 (Nat.le_of_ble_eq_true rfl) dX9_readPoint_11 (fun H locs V => ?_)
  refine lv_istore (lv' := [(4, .int x15.1), (3, .int x14), (2, .int zT.2.2.1), (0, .ref (aT 0)), (1, .ref (aP1 0))]) X.1 X.2.1 dX9_readPoint_14 hl (by decide) rfl (fun ls hl => ?_)
  refine lv_iload_n X.1 X.2.1 dX9_readPoint_16 rfl (lv_at hl 1 rfl) ?_
  refine lv_iconst (v := (-1 : Int32)) X.1 X.2.1 dX9_readPoint_17 (by decide) ?_
  refine lv_icmp_ne (tgt := 26) X.1 X.2.1 dX9_readPoint_18 (by decide) (fun hc => ?_) (fun hc => ?_)
  · replace h := kif_f hc h
    exact J26 x15.2 zP1 x14 x15.1 _ _ _ h V (lv_sub hl [3, 4, 1, 0] rfl)
  · replace h := kif_t hc h
    refine lv_aload_n X.1 X.2.1 dX9_readPoint_21 rfl (lv_at hl 3 rfl) ?_
    refine lv_iload_n X.1 X.2.1 dX9_readPoint_22 rfl (lv_at hl 2 rfl) ?_
    obtain ⟨x16, hx16, h⟩ := kb_of h
    refine s_callVv (segs' := [gX9 g aT x16, gX4 g aP1 zP1]) (ci := 9) (i0 := 0) X V (c_X9_fail l D g aT x15.2 zT.2.2.1 x16 hx16) w_X9_72 ⟨Nat.le_of_ble_eq_true rfl, Nat.le_of_ble_eq_true rfl⟩ ⟨Nat.zero_le _, Nat.zero_le _⟩ rfl rfl rfl rfl [0] rfl rfl ⟨gX9_fst, trivial⟩ rfl rfl hl.1 (Nat.le_of_ble_eq_true rfl) dX9_readPoint_23 (fun H locs V => ?_)
    exact J26 x16 zP1 x14 x15.1 _ _ _ h V (lv_sub hl [3, 4, 1, 0] rfl)

def p_X9_readItem (zT : tX9) (zP1 : tX4) : Option (tX9 × tX4) :=
  kb (p_X9_next zT) (fun x1 => kif (x1 = (112 : Int32)) (kl (zT.1, zT.2.1, (zT.2.2.1 + (1 : Int32)), zT.2.2.2) (fun z2 => kb (p_X9_readPace z2 zP1) (fun x3 => some (x3.1, x3.2)))) (kb (p_X9_readPoint zT zP1) (fun x4 => some (x4.1, x4.2))))
set_option maxHeartbeats 4000000 in
set_option maxRecDepth 100000 in
theorem c_X9_readItem (l : Launch) (D : va_G) (g : kG) (aT : Nat → Nat) (aP1 : Nat → Nat) (zT : tX9) (zP1 : tX4) (r : tX9 × tX4) (h : p_X9_readItem zT zP1 = some r) : kMv l yX9_readItem cX9_readItem 2 none (kR 4 91) D (kty g) [.ref (aT 0), .ref (aP1 0)] (List.flatten [gX9 g aT zT, gX4 g aP1 zP1]) (List.flatten [gX9 g aT r.1, gX4 g aP1 r.2]) := by
  intro sz
  refine k_enter (lv := [(0, .ref (aT 0)), (1, .ref (aP1 0))]) RX9 (by decide +kernel) rfl rfl (Nat.le_of_ble_eq_true rfl) ?_
  intro p en s m args below meth c ls hsz X V hl
  obtain ⟨QQ, hQQ⟩ : ∃ q, q = MQ below (va_Qv (fun (_ : Unit) => True) (fun _ => kE D (List.flatten [gX9 g aT r.1, gX4 g aP1 r.2])) (va_A (List.flatten [gX9 g aT zT, gX4 g aP1 zP1]) sz)) args s 0 0 (va_A (List.flatten [gX9 g aT zT, gX4 g aP1 zP1]) sz) := ⟨_, rfl⟩
  rw [← hQQ]
  obtain ⟨AA, hAA⟩ : ∃ q, q = va_A (List.flatten [gX9 g aT zT, gX4 g aP1 zP1]) sz := ⟨_, rfl⟩
  rw [← hAA] at V
  unfold p_X9_readItem at h
  refine lv_aload_n X.1 X.2.1 dX9_readItem_0 rfl (lv_at hl 0 rfl) ?_
  obtain ⟨x5, hx5, h⟩ := kb_of h
  refine s_callVi (segs' := [gX9 g aT zT, gX4 g aP1 zP1]) (ci := 9) (i0 := 0) X V (c_X9_next l D g aT zT x5 hx5) w_X9_44 ⟨Nat.le_of_ble_eq_true rfl, Nat.le_of_ble_eq_true rfl⟩ ⟨Nat.zero_le _, Nat.zero_le _⟩ rfl rfl rfl rfl [0] rfl rfl (kFst_refl _) rfl rfl hl.1 (Nat.le_of_ble_eq_true rfl) dX9_readItem_1 (fun H locs V => ?_)
  refine lv_bipush (v := (112 : Int32)) X.1 X.2.1 dX9_readItem_4 (by decide) ?_
  refine lv_icmp_ne (tgt := 27) X.1 X.2.1 dX9_readItem_6 (by decide) (fun hc => ?_) (fun hc => ?_)
  · replace h := kif_f hc h
    refine lv_aload_n X.1 X.2.1 dX9_readItem_27 rfl (lv_at hl 0 rfl) ?_
    refine lv_aload_n X.1 X.2.1 dX9_readItem_28 rfl (lv_at hl 1 rfl) ?_
    obtain ⟨x6, hx6, h⟩ := kb_of h
    refine s_callVv (segs' := [gX9 g aT x6.1, gX4 g aP1 x6.2]) (ci := 9) (i0 := 0) X V (c_X9_readPoint l D g aT aP1 zT zP1 x6 hx6) w_X9_51 ⟨Nat.le_of_ble_eq_true rfl, Nat.le_of_ble_eq_true rfl⟩ ⟨Nat.zero_le _, Nat.zero_le _⟩ rfl rfl rfl rfl [0, 1] rfl rfl ⟨gX9_fst, gX4_fst, trivial⟩ rfl rfl hl.1 (Nat.le_of_ble_eq_true rfl) dX9_readItem_29 (fun H locs V => ?_)
    obtain rfl := Option.some.inj h
    rw [hAA] at V
    rw [hQQ]
    exact k_vret X V dX9_readItem_32
  · replace h := kif_t hc h
    refine lv_aload_n X.1 X.2.1 dX9_readItem_9 rfl (lv_at hl 0 rfl) ?_
    refine lv_dup X.1 X.2.1 dX9_readItem_10 rfl ?_
    refine gf_X9_26 (i := 0) X V rfl dX9_readItem_11 ?_
    refine lv_iconst (v := (1 : Int32)) X.1 X.2.1 dX9_readItem_14 (by decide) ?_
    refine lv_iadd X.1 X.2.1 dX9_readItem_15 ?_
    refine pf_X9_26 (i := 0) X V rfl dX9_readItem_16 (fun H locs V => ?_)
    obtain ⟨z7, ez7⟩ : ∃ y, y = (zT.1, zT.2.1, (zT.2.2.1 + (1 : Int32)), zT.2.2.2) := ⟨_, rfl⟩
    replace h := kl_of ez7 h
    have V : kW D AA s.heap H (List.flatten [gX9 g aT z7, gX4 g aP1 zP1]) locs := by rw [ez7]; exact V
    refine lv_aload_n X.1 X.2.1 dX9_readItem_19 rfl (lv_at hl 0 rfl) ?_
    refine lv_aload_n X.1 X.2.1 dX9_readItem_20 rfl (lv_at hl 1 rfl) ?_
    obtain ⟨x8, hx8, h⟩ := kb_of h
    refine s_callVv (segs' := [gX9 g aT x8.1, gX4 g aP1 x8.2]) (ci := 9) (i0 := 0) X V (c_X9_readPace l D g aT aP1 z7 zP1 x8 hx8) w_X9_48 ⟨Nat.le_of_ble_eq_true rfl, Nat.le_of_ble_eq_true rfl⟩ ⟨Nat.zero_le _, Nat.zero_le _⟩ rfl rfl rfl rfl [0, 1] rfl rfl ⟨gX9_fst, gX4_fst, trivial⟩ rfl rfl hl.1 (Nat.le_of_ble_eq_true rfl) dX9_readItem_21 (fun H locs V => ?_)
    refine lv_goto (tgt := 32) X.1 X.2.1 dX9_readItem_24 (by decide) ?_
    obtain rfl := Option.some.inj h
    rw [hAA] at V
    rw [hQQ]
    exact k_vret X V dX9_readItem_32

def p_X9_read_L20 (s : Int32 × Int32 × tX9 × tX4) : Option (Nat × (Int32 × Int32 × tX9 × tX4)) :=
  kif (s.2.1 ≤ 0) (some (57, (s.1, s.2.1, s.2.2.1, s.2.2.2))) (kif (s.2.2.1.2.1 ≤ s.2.2.1.2.2.1) (some (57, (s.1, s.2.1, s.2.2.1, s.2.2.2))) (kif (s.2.2.1.2.2.2 = (-1 : Int32)) (kb (p_X9_readItem s.2.2.1 s.2.2.2) (fun x4 => kl (s.1 + (1 : Int32)) (fun y5 => kl (s.2.1 + (-1 : Int32)) (fun y6 => some (20, (y5, y6, x4.1, x4.2)))))) (some (57, (s.1, s.2.1, s.2.2.1, s.2.2.2)))))
def p_X9_read_J57 (zT : tX9) (zP1 : tX4) (v2 : Int32) : Option (Int32 × tX9 × tX4) :=
  kl (zT.1, (0 : Int32), zT.2.2) (fun z8 => kif (z8.2.2.2 = (-1 : Int32)) (kb (p_X4_keep zP1) (fun x9 => some (v2, z8, x9))) (kb (p_X4_returnToMark zP1) (fun x10 => some ((-1 : Int32), z8, x10))))
def p_X9_read (zT : tX9) (zP1 : tX4) : Option (Int32 × tX9 × tX4) :=
  kl (zT.1, zT.2.1, (0 : Int32), zT.2.2.2) (fun z1 => kl (z1.1, z1.2.1, z1.2.2.1, (-1 : Int32)) (fun z2 => kb (p_X4_mark zP1) (fun x3 => kb (kitr 20 (fun q => p_X9_read_L20 q) kF ((0 : Int32), (400 : Int32), z2, x3)) (fun x7 => kg (x7.1 = 57) (p_X9_read_J57 x7.2.2.2.1 x7.2.2.2.2 x7.2.1)))))
set_option maxHeartbeats 4000000 in
set_option maxRecDepth 100000 in
theorem c_X9_read (l : Launch) (D : va_G) (g : kG) (aT : Nat → Nat) (aP1 : Nat → Nat) (zT : tX9) (zP1 : tX4) (r : Int32 × tX9 × tX4) (h : p_X9_read zT zP1 = some r) : kMi l yX9_read cX9_read 4 (some .int) (kR 5 112) D (kty g) [.ref (aT 0), .ref (aP1 0)] (List.flatten [gX9 g aT zT, gX4 g aP1 zP1]) r.1 (List.flatten [gX9 g aT r.2.1, gX4 g aP1 r.2.2]) := by
  intro sz
  refine k_enter (lv := [(0, .ref (aT 0)), (1, .ref (aP1 0))]) RX9 (by decide +kernel) rfl rfl (Nat.le_of_ble_eq_true rfl) ?_
  intro p en s m args below meth c ls hsz X V hl
  obtain ⟨QQ, hQQ⟩ : ∃ q, q = MQ below (va_Qi (fun r' (_ : Unit) => r' = r.1) (fun _ => kE D (List.flatten [gX9 g aT r.2.1, gX4 g aP1 r.2.2])) (va_A (List.flatten [gX9 g aT zT, gX4 g aP1 zP1]) sz)) args s 0 0 (va_A (List.flatten [gX9 g aT zT, gX4 g aP1 zP1]) sz) := ⟨_, rfl⟩
  rw [← hQQ]
  obtain ⟨AA, hAA⟩ : ∃ q, q = va_A (List.flatten [gX9 g aT zT, gX4 g aP1 zP1]) sz := ⟨_, rfl⟩
  rw [← hAA] at V
  have J57 : ∀ (zT : tX9) (zP1 : tX4) (v2 : Int32) (H : Heap) (locs : List Loc) (ls : Array Slot), p_X9_read_J57 zT zP1 v2 = some r → kW D AA s.heap H (List.flatten [gX9 g aT zT, gX4 g aP1 zP1]) locs → lv_has ls 4 [(0, .ref (aT 0)), (1, .ref (aP1 0)), (2, .int v2)] → W p l en (kR 5 112) s m args below meth c H locs 0 0 QQ (F0 m 57 ls []) := by
    intro zT zP1 v2 H locs ls h V hl
    unfold p_X9_read_J57 at h
    refine lv_aload_n X.1 X.2.1 dX9_read_57 rfl (lv_at hl 0 rfl) ?_
    refine lv_iconst (v := (0 : Int32)) X.1 X.2.1 dX9_read_58 (by decide) ?_
    refine pf_X9_19 (i := 0) X V rfl dX9_read_59 (fun H locs V => ?_)
    obtain ⟨z11, ez11⟩ : ∃ y, y = (zT.1, (0 : Int32), zT.2.2) := ⟨_, rfl⟩
    replace h := kl_of ez11 h
    have V : kW D AA s.heap H (List.flatten [gX9 g aT z11, gX4 g aP1 zP1]) locs := by rw [ez11]; exact V
    refine lv_aload_n X.1 X.2.1 dX9_read_62 rfl (lv_at hl 0 rfl) ?_
    refine gf_X9_15 (i := 0) X V rfl dX9_read_63 ?_
    refine lv_iconst (v := (-1 : Int32)) X.1 X.2.1 dX9_read_66 (by decide) ?_
    refine lv_icmp_eq (tgt := 76) X.1 X.2.1 dX9_read_67 (by decide) (fun hc => ?_) (fun hc => ?_)
    · replace h := kif_t hc h
      refine lv_aload_n X.1 X.2.1 dX9_read_76 rfl (lv_at hl 1 rfl) ?_
      obtain ⟨x12, hx12, h⟩ := kb_of h
      refine s_callVv (segs' := [gX9 g aT z11, gX4 g aP1 x12]) (ci := 4) (i0 := 0) X V (c_X4_keep l D g aP1 zP1 x12 hx12) w_X9_41 ⟨Nat.le_of_ble_eq_true rfl, Nat.le_of_ble_eq_true rfl⟩ ⟨Nat.zero_le _, Nat.zero_le _⟩ rfl rfl rfl rfl [1] rfl rfl ⟨gX4_fst, trivial⟩ rfl rfl hl.1 (Nat.le_of_ble_eq_true rfl) dX9_read_77 (fun H locs V => ?_)
      refine lv_iload_n X.1 X.2.1 dX9_read_80 rfl (lv_at hl 2 rfl) ?_
      obtain rfl := Option.some.inj h
      rw [hAA] at V
      rw [hQQ]
      exact k_iret X V rfl dX9_read_81
    · replace h := kif_f hc h
      refine lv_aload_n X.1 X.2.1 dX9_read_70 rfl (lv_at hl 1 rfl) ?_
      obtain ⟨x13, hx13, h⟩ := kb_of h
      refine s_callVv (segs' := [gX9 g aT z11, gX4 g aP1 x13]) (ci := 4) (i0 := 0) X V (c_X4_returnToMark l D g aP1 zP1 x13 hx13) w_X9_38 ⟨Nat.le_of_ble_eq_true rfl, Nat.le_of_ble_eq_true rfl⟩ ⟨Nat.zero_le _, Nat.zero_le _⟩ rfl rfl rfl rfl [1] rfl rfl ⟨gX4_fst, trivial⟩ rfl rfl hl.1 (Nat.le_of_ble_eq_true rfl) dX9_read_71 (fun H locs V => ?_)
      refine lv_iconst (v := (-1 : Int32)) X.1 X.2.1 dX9_read_74 (by decide) ?_
      obtain rfl := Option.some.inj h
      rw [hAA] at V
      rw [hQQ]
      exact k_iret X V rfl dX9_read_75
  unfold p_X9_read at h
  refine lv_iconst (v := (0 : Int32)) X.1 X.2.1 dX9_read_0 (by decide) ?_
  refine lv_istore_n (lv' := [(2, .int (0 : Int32)), (0, .ref (aT 0)), (1, .ref (aP1 0))]) X.1 X.2.1 dX9_read_1 rfl hl (by decide) rfl (fun ls hl => ?_)
  refine lv_aload_n X.1 X.2.1 dX9_read_2 rfl (lv_at hl 1 rfl) ?_
  refine lv_iconst (v := (0 : Int32)) X.1 X.2.1 dX9_read_3 (by decide) ?_
  refine pf_X9_26 (i := 0) X V rfl dX9_read_4 (fun H locs V => ?_)
  obtain ⟨z14, ez14⟩ : ∃ y, y = (zT.1, zT.2.1, (0 : Int32), zT.2.2.2) := ⟨_, rfl⟩
  replace h := kl_of ez14 h
  have V : kW D AA s.heap H (List.flatten [gX9 g aT z14, gX4 g aP1 zP1]) locs := by rw [ez14]; exact V
  refine lv_aload_n X.1 X.2.1 dX9_read_7 rfl (lv_at hl 1 rfl) ?_
  refine lv_iconst (v := (-1 : Int32)) X.1 X.2.1 dX9_read_8 (by decide) ?_
  refine pf_X9_15 (i := 0) X V rfl dX9_read_9 (fun H locs V => ?_)
  obtain ⟨z15, ez15⟩ : ∃ y, y = (z14.1, z14.2.1, z14.2.2.1, (-1 : Int32)) := ⟨_, rfl⟩
  replace h := kl_of ez15 h
  have V : kW D AA s.heap H (List.flatten [gX9 g aT z15, gX4 g aP1 zP1]) locs := by rw [ez15]; exact V
  refine lv_aload_n X.1 X.2.1 dX9_read_12 rfl (lv_at hl 2 rfl) ?_
  obtain ⟨x16, hx16, h⟩ := kb_of h
  refine s_callVv (segs' := [gX9 g aT z15, gX4 g aP1 x16]) (ci := 4) (i0 := 0) X V (c_X4_mark l D g aP1 zP1 x16 hx16) w_X9_29 ⟨Nat.le_of_ble_eq_true rfl, Nat.le_of_ble_eq_true rfl⟩ ⟨Nat.zero_le _, Nat.zero_le _⟩ rfl rfl rfl rfl [1] rfl rfl ⟨gX4_fst, trivial⟩ rfl rfl hl.1 (Nat.le_of_ble_eq_true rfl) dX9_read_13 (fun H locs V => ?_)
  refine lv_sipush (v := (400 : Int32)) X.1 X.2.1 dX9_read_16 (by decide) ?_
  refine lv_istore_n (lv' := [(3, .int (400 : Int32)), (2, .int (0 : Int32)), (0, .ref (aT 0)), (1, .ref (aP1 0))]) X.1 X.2.1 dX9_read_19 rfl hl (by decide) rfl (fun ls hl => ?_)
  obtain ⟨x17, hx17, h⟩ := kb_of h
  refine (kitr_go (hd := 20) (body := fun q => p_X9_read_L20 q) (G := (fun e => ∀ (H : Heap) (locs : List Loc) (ls : Array Slot), kW D AA s.heap H (List.flatten [gX9 g aT e.2.2.2.1, gX4 g aP1 e.2.2.2.2]) locs → lv_has ls 4 [(0, .ref (aT 0)), (1, .ref (aP1 0)), (2, .int e.2.1), (3, .int e.2.2.1)] → W p l en (kR 5 112) s m args below meth c H locs 0 0 QQ (F0 m e.1 ls []))) (fun s18 e19 hb20 hG21 => ?_) kF _ x17 hx17 ?_) _ _ _ V (lv_sub hl [2, 3, 1, 0] rfl)
  · intro H locs ls V hl
    show W p l en (kR 5 112) s m args below meth c H locs 0 0 QQ (F0 m 20 ls [])
    have h : p_X9_read_L20 s18 = some e19 := hb20
    unfold p_X9_read_L20 at h
    have V : kW D AA s.heap H (List.flatten [gX9 g aT s18.2.2.1, gX4 g aP1 s18.2.2.2]) locs := V
    have hl : lv_has ls 4 [(0, .ref (aT 0)), (1, .ref (aP1 0)), (2, .int s18.1), (3, .int s18.2.1)] := hl
    refine lv_iload_n X.1 X.2.1 dX9_read_20 rfl (lv_at hl 3 rfl) ?_
    refine lv_if_le (tgt := 57) X.1 X.2.1 dX9_read_21 (by decide) (fun hc => ?_) (fun hc => ?_)
    · replace h := kif_t hc h
      obtain rfl := Option.some.inj h
      exact hG21 _ _ _ V (lv_sub hl [0, 1, 2, 3] rfl)
    · replace h := kif_f hc h
      refine lv_aload_n X.1 X.2.1 dX9_read_24 rfl (lv_at hl 0 rfl) ?_
      refine gf_X9_26 (i := 0) X V rfl dX9_read_25 ?_
      refine lv_aload_n X.1 X.2.1 dX9_read_28 rfl (lv_at hl 0 rfl) ?_
      refine gf_X9_19 (i := 0) X V rfl dX9_read_29 ?_
      refine lv_icmp_ge (tgt := 57) X.1 X.2.1 dX9_read_32 (by decide) (fun hc => ?_) (fun hc => ?_)
      · replace h := kif_t hc h
        obtain rfl := Option.some.inj h
        exact hG21 _ _ _ V (lv_sub hl [0, 1, 2, 3] rfl)
      · replace h := kif_f hc h
        refine lv_aload_n X.1 X.2.1 dX9_read_35 rfl (lv_at hl 0 rfl) ?_
        refine gf_X9_15 (i := 0) X V rfl dX9_read_36 ?_
        refine lv_iconst (v := (-1 : Int32)) X.1 X.2.1 dX9_read_39 (by decide) ?_
        refine lv_icmp_ne (tgt := 57) X.1 X.2.1 dX9_read_40 (by decide) (fun hc => ?_) (fun hc => ?_)
        · replace h := kif_f hc h
          obtain rfl := Option.some.inj h
          exact hG21 _ _ _ V (lv_sub hl [0, 1, 2, 3] rfl)
        · replace h := kif_t hc h
          refine lv_aload_n X.1 X.2.1 dX9_read_43 rfl (lv_at hl 0 rfl) ?_
          refine lv_aload_n X.1 X.2.1 dX9_read_44 rfl (lv_at hl 1 rfl) ?_
          obtain ⟨x22, hx22, h⟩ := kb_of h
          refine s_callVv (segs' := [gX9 g aT x22.1, gX4 g aP1 x22.2]) (ci := 9) (i0 := 0) X V (c_X9_readItem l D g aT aP1 s18.2.2.1 s18.2.2.2 x22 hx22) w_X9_34 ⟨Nat.le_of_ble_eq_true rfl, Nat.le_of_ble_eq_true rfl⟩ ⟨Nat.zero_le _, Nat.zero_le _⟩ rfl rfl rfl rfl [0, 1] rfl rfl ⟨gX9_fst, gX4_fst, trivial⟩ rfl rfl hl.1 (Nat.le_of_ble_eq_true rfl) dX9_read_45 (fun H locs V => ?_)
          obtain ⟨y23, ey23⟩ : ∃ y : Int32, y = (s18.1 + (1 : Int32)) := ⟨_, rfl⟩
          replace h := kl_of ey23 h
          refine lv_iinc (v := y23) (lv' := [(2, .int y23), (0, .ref (aT 0)), (1, .ref (aP1 0)), (3, .int s18.2.1)]) X.1 X.2.1 dX9_read_48 hl (k := 2) rfl (by rw [ey23]; rfl) (by decide) rfl (fun ls hl => ?_)
          obtain ⟨y24, ey24⟩ : ∃ y : Int32, y = (s18.2.1 + (-1 : Int32)) := ⟨_, rfl⟩
          replace h := kl_of ey24 h
          refine lv_iinc (v := y24) (lv' := [(3, .int y24), (2, .int y23), (0, .ref (aT 0)), (1, .ref (aP1 0))]) X.1 X.2.1 dX9_read_51 hl (k := 3) rfl (by rw [ey24]; rfl) (by decide) rfl (fun ls hl => ?_)
          refine lv_goto (tgt := 20) X.1 X.2.1 dX9_read_54 (by decide) ?_
          obtain rfl := Option.some.inj h
          exact hG21 _ _ _ V (lv_sub hl [2, 3, 1, 0] rfl)
  · intro H locs ls V hl
    have V : kW D AA s.heap H (List.flatten [gX9 g aT x17.2.2.2.1, gX4 g aP1 x17.2.2.2.2]) locs := V
    have hl : lv_has ls 4 [(0, .ref (aT 0)), (1, .ref (aP1 0)), (2, .int x17.2.1), (3, .int x17.2.2.1)] := hl
    obtain ⟨hc, h⟩ := kg_of h
    refine W.eq (g2 := F0 m 57 ls []) (by rw [hc]) ?_
    exact J57 x17.2.2.2.1 x17.2.2.2.2 x17.2.1 _ _ _ h V (lv_sub hl [0, 1, 2] rfl)
