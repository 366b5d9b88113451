def p_X12_isIn (v0 : Int32) (v1 : Int32) (v2 : Int32) : Option (Bool) :=
  kif (v0 < v1) (some false) (kif (v2 < v0) (some false) (some true))
set_option maxHeartbeats 4000000 in
set_option maxRecDepth 100000 in
theorem c_X12_isIn (l : Launch) (D : va_G) (g : kG)  (v0 : Int32) (v1 : Int32) (v2 : Int32) (r : Bool) (h : p_X12_isIn v0 v1 v2 = some r) : kMi l yX12_isIn cX12_isIn 3 (some .boolean) (kR 0 0) D (kty g) [.int v0, .int v1, .int v2] (List.flatten ([] : List va_W)) (kz r) (List.flatten ([] : List va_W)) := by
  intro sz
  refine k_enter (lv := [(0, .int v0), (1, .int v1), (2, .int v2)]) RX12 (by decide +kernel) rfl rfl (Nat.le_of_ble_eq_true rfl) ?_
  intro p en s m args below meth c ls hsz X V hl
  obtain ⟨QQ, hQQ⟩ : ∃ q, q = MQ below (va_Qi (fun r' (_ : Unit) => r' = kz r) (fun _ => kE D (List.flatten ([] : List va_W))) (va_A (List.flatten ([] : List va_W)) sz)) args s 0 0 (va_A (List.flatten ([] : List va_W)) sz) := ⟨_, rfl⟩
  rw [← hQQ]
  obtain ⟨AA, hAA⟩ : ∃ q, q = va_A (List.flatten ([] : List va_W)) sz := ⟨_, rfl⟩
  rw [← hAA] at V
  unfold p_X12_isIn at h
  refine lv_iload_n X.1 X.2.1 dX12_isIn_0 rfl (lv_at hl 0 rfl) ?_
  refine lv_iload_n X.1 X.2.1 dX12_isIn_1 rfl (lv_at hl 1 rfl) ?_
  refine lv_icmp_lt (tgt := 14) X.1 X.2.1 dX12_isIn_2 (by decide) (fun hc => ?_) (fun hc => ?_)
  · replace h := kif_t hc h
    refine lv_iconst (v := (0 : Int32)) X.1 X.2.1 dX12_isIn_14 (by decide) ?_
    obtain rfl := Option.some.inj h
    rw [hAA] at V
    rw [hQQ]
    exact k_zret X V (b := false) rfl rfl dX12_isIn_15
  · replace h := kif_f hc h
    refine lv_iload_n X.1 X.2.1 dX12_isIn_5 rfl (lv_at hl 0 rfl) ?_
    refine lv_iload_n X.1 X.2.1 dX12_isIn_6 rfl (lv_at hl 2 rfl) ?_
    refine lv_icmp_gt (tgt := 14) X.1 X.2.1 dX12_isIn_7 (by decide) (fun hc => ?_) (fun hc => ?_)
    · replace h := kif_t hc h
      refine lv_iconst (v := (0 : Int32)) X.1 X.2.1 dX12_isIn_14 (by decide) ?_
      obtain rfl := Option.some.inj h
      rw [hAA] at V
      rw [hQQ]
      exact k_zret X V (b := false) rfl rfl dX12_isIn_15
    · replace h := kif_f hc h
      refine lv_iconst (v := (1 : Int32)) X.1 X.2.1 dX12_isIn_10 (by decide) ?_
      refine lv_goto (tgt := 15) X.1 X.2.1 dX12_isIn_11 (by decide) ?_
      obtain rfl := Option.some.inj h
      rw [hAA] at V
      rw [hQQ]
      exact k_zret X V (b := true) rfl rfl dX12_isIn_15

def p_X12_keep_L11 (s : Int32 × tX12) : Option (Nat × (Int32 × tX12)) :=
  kif ((3230 : Int32) ≤ s.1) (some (40, (s.1, s.2))) (kg (kii (s.1 + (170 : Int32)) 3400) (kg (kii s.1 3400) (kl (s.2.1, s.2.2.1, va_up s.2.2.2.1 1 (upd (s.2.2.2.1 1) (s.1).toNatClampNeg ((s.2.2.2.1 1) ((s.1 + (170 : Int32))).toNatClampNeg)), s.2.2.2.2) (fun z1 => kl (s.1 + (1 : Int32)) (fun y2 => some (11, (y2, z1)))))))
def p_X12_keep_L52 (s : Int32 × tX12) : Option (Nat × (Int32 × tX12)) :=
  kif ((170 : Int32) ≤ s.1) (some (86, (s.1, s.2))) (kg (kii s.1 170) (kg (kii (((170 : Int32) * (s.2.1 2)) + s.1) 3400) (kl (s.2.1, s.2.2.1, va_up s.2.2.2.1 1 (upd (s.2.2.2.1 1) ((((170 : Int32) * (s.2.1 2)) + s.1)).toNatClampNeg ((s.2.2.2.1 0) s.1.toNatClampNeg)), s.2.2.2.2) (fun z5 => kl (s.1 + (1 : Int32)) (fun y6 => some (52, (y6, z5)))))))
def p_X12_keep_J50 (zT : tX12) : Option (tX12) :=
  kb (kitr 52 (fun q => p_X12_keep_L52 q) kF ((0 : Int32), zT)) (fun x7 => kg (x7.1 = 86) (kl (va_up x7.2.2.1 2 ((x7.2.2.1 2) + (1 : Int32)), x7.2.2.2) (fun z8 => some z8)))
def p_X12_keep (zT : tX12) : Option (tX12) :=
  kif ((zT.1 2) = (20 : Int32)) (kb (kitr 11 (fun q => p_X12_keep_L11 q) kF ((0 : Int32), zT)) (fun x3 => kg (x3.1 = 40) (kl (va_up x3.2.2.1 2 ((x3.2.2.1 2) - (1 : Int32)), x3.2.2.2) (fun z4 => p_X12_keep_J50 z4)))) (p_X12_keep_J50 zT)
set_option maxHeartbeats 4000000 in
set_option maxRecDepth 100000 in
theorem c_X12_keep (l : Launch) (D : va_G) (g : kG) (aT : Nat → Nat) (zT : tX12) (r : tX12) (h : p_X12_keep zT = some r) : kMv l yX12_keep cX12_keep 2 none (kR 0 0) D (kty g) [.ref (aT 0)] (List.flatten [gX12 g aT zT]) (List.flatten [gX12 g aT r]) := by
  intro sz
  refine k_enter (lv := [(0, .ref (aT 0))]) RX12 (by decide +kernel) rfl rfl (Nat.le_of_ble_eq_true rfl) ?_
  intro p en s m args below meth c ls hsz X V hl
  obtain ⟨QQ, hQQ⟩ : ∃ q, q = MQ below (va_Qv (fun (_ : Unit) => True) (fun _ => kE D (List.flatten [gX12 g aT r])) (va_A (List.flatten [gX12 g aT zT]) sz)) args s 0 0 (va_A (List.flatten [gX12 g aT zT]) sz) := ⟨_, rfl⟩
  rw [← hQQ]
  obtain ⟨AA, hAA⟩ : ∃ q, q = va_A (List.flatten [gX12 g aT zT]) sz := ⟨_, rfl⟩
  rw [← hAA] at V
  have J50 : ∀ (zT : tX12) (H : Heap) (locs : List Loc) (ls : Array Slot), p_X12_keep_J50 zT = some r → kW D AA s.heap H (List.flatten [gX12 g aT zT]) locs → lv_has ls 2 [(0, .ref (aT 0))] → W p l en (kR 0 0) s m args below meth c H locs 0 0 QQ (F0 m 50 ls []) := by
    intro zT H locs ls h V hl
    unfold p_X12_keep_J50 at h
    refine lv_iconst (v := (0 : Int32)) X.1 X.2.1 dX12_keep_50 (by decide) ?_
    refine lv_istore_n (lv' := [(1, .int (0 : Int32)), (0, .ref (aT 0))]) X.1 X.2.1 dX12_keep_51 rfl hl (by decide) rfl (fun ls hl => ?_)
    obtain ⟨x9, hx9, h⟩ := kb_of h
    refine (kitr_go (hd := 52) (body := fun q => p_X12_keep_L52 q) (G := (fun e => ∀ (H : Heap) (locs : List Loc) (ls : Array Slot), kW D AA s.heap H (List.flatten [gX12 g aT e.2.2]) locs → lv_has ls 2 [(0, .ref (aT 0)), (1, .int e.2.1)] → W p l en (kR 0 0) s m args below meth c H locs 0 0 QQ (F0 m e.1 ls []))) (fun s10 e11 hb12 hG13 => ?_) kF _ x9 hx9 ?_) _ _ _ V (lv_sub hl [1, 0] rfl)
    · intro H locs ls V hl
      show W p l en (kR 0 0) s m args below meth c H locs 0 0 QQ (F0 m 52 ls [])
      have h : p_X12_keep_L52 s10 = some e11 := hb12
      unfold p_X12_keep_L52 at h
      have V : kW D AA s.heap H (List.flatten [gX12 g aT s10.2]) locs := V
      have hl : lv_has ls 2 [(0, .ref (aT 0)), (1, .int s10.1)] := hl
      refine lv_iload_n X.1 X.2.1 dX12_keep_52 rfl (lv_at hl 1 rfl) ?_
      refine lv_sipush (v := (170 : Int32)) X.1 X.2.1 dX12_keep_53 (by decide) ?_
      refine lv_icmp_ge (tgt := 86) X.1 X.2.1 dX12_keep_56 (by decide) (fun hc => ?_) (fun hc => ?_)
      · replace h := kif_t hc h
        obtain rfl := Option.some.inj h
        exact hG13 _ _ _ V (lv_sub hl [0, 1] rfl)
      · replace h := kif_f hc h
        refine lv_aload_n X.1 X.2.1 dX12_keep_59 rfl (lv_at hl 0 rfl) ?_
        refine gf_X12_13 (i := 0) X V rfl dX12_keep_60 ?_
        refine lv_sipush (v := (170 : Int32)) X.1 X.2.1 dX12_keep_63 (by decide) ?_
        refine lv_aload_n X.1 X.2.1 dX12_keep_66 rfl (lv_at hl 0 rfl) ?_
        refine gf_X12_73 (i := 0) X V rfl dX12_keep_67 ?_
        refine lv_imul X.1 X.2.1 dX12_keep_70 ?_
        refine lv_iload_n X.1 X.2.1 dX12_keep_71 rfl (lv_at hl 1 rfl) ?_
        refine lv_iadd X.1 X.2.1 dX12_keep_72 ?_
        refine lv_aload_n X.1 X.2.1 dX12_keep_73 rfl (lv_at hl 0 rfl) ?_
        refine gf_X12_7 (i := 0) X V rfl dX12_keep_74 ?_
        refine lv_iload_n X.1 X.2.1 dX12_keep_77 rfl (lv_at hl 1 rfl) ?_
        obtain ⟨hc, h⟩ := kg_of h
        refine al_X12_0 (i := 0) X V rfl hc dX12_keep_78 ?_
        obtain ⟨hc, h⟩ := kg_of h
        refine as_X12_1 (i := 0) X V rfl hc dX12_keep_79 (fun H locs V => ?_)
        obtain ⟨z14, ez14⟩ : ∃ y, y = (s10.2.1, s10.2.2.1, va_up s10.2.2.2.1 1 (upd (s10.2.2.2.1 1) ((((170 : Int32) * (s10.2.1 2)) + s10.1)).toNatClampNeg ((s10.2.2.2.1 0) s10.1.toNatClampNeg)), s10.2.2.2.2) := ⟨_, rfl⟩
        replace h := kl_of ez14 h
        have V : kW D AA s.heap H (List.flatten [gX12 g aT z14]) locs := by rw [ez14]; exact V
        obtain ⟨y15, ey15⟩ : ∃ y : Int32, y = (s10.1 + (1 : Int32)) := ⟨_, rfl⟩
        replace h := kl_of ey15 h
        refine lv_iinc (v := y15) (lv' := [(1, .int y15), (0, .ref (aT 0))]) X.1 X.2.1 dX12_keep_80 hl (k := 1) rfl (by rw [ey15]; rfl) (by decide) rfl (fun ls hl => ?_)
        refine lv_goto (tgt := 52) X.1 X.2.1 dX12_keep_83 (by decide) ?_
        obtain rfl := Option.some.inj h
        exact hG13 _ _ _ V (lv_sub hl [1, 0] rfl)
    · intro H locs ls V hl
      have V : kW D AA s.heap H (List.flatten [gX12 g aT x9.2.2]) locs := V
      have hl : lv_has ls 2 [(0, .ref (aT 0)), (1, .int x9.2.1)] := hl
      obtain ⟨hc, h⟩ := kg_of h
      refine W.eq (g2 := F0 m 86 ls []) (by rw [hc]) ?_
      refine lv_aload_n X.1 X.2.1 dX12_keep_86 rfl (lv_at hl 0 rfl) ?_
      refine lv_dup X.1 X.2.1 dX12_keep_87 rfl ?_
      refine gf_X12_73 (i := 0) X V rfl dX12_keep_88 ?_
      refine lv_iconst (v := (1 : Int32)) X.1 X.2.1 dX12_keep_91 (by decide) ?_
      refine lv_iadd X.1 X.2.1 dX12_keep_92 ?_
      refine pf_X12_73 (i := 0) X V rfl dX12_keep_93 (fun H locs V => ?_)
      obtain ⟨z16, ez16⟩ : ∃ y, y = (va_up x9.2.2.1 2 ((x9.2.2.1 2) + (1 : Int32)), x9.2.2.2) := ⟨_, rfl⟩
      replace h := kl_of ez16 h
      have V : kW D AA s.heap H (List.flatten [gX12 g aT z16]) locs := by rw [ez16]; exact V
      obtain rfl := Option.some.inj h
      rw [hAA] at V
      rw [hQQ]
      exact k_vret X V dX12_keep_96
  unfold p_X12_keep at h
  refine lv_aload_n X.1 X.2.1 dX12_keep_0 rfl (lv_at hl 0 rfl) ?_
  refine gf_X12_73 (i := 0) X V rfl dX12_keep_1 ?_
  refine lv_bipush (v := (20 : Int32)) X.1 X.2.1 dX12_keep_4 (by decide) ?_
  refine lv_icmp_ne (tgt := 50) X.1 X.2.1 dX12_keep_6 (by decide) (fun hc => ?_) (fun hc => ?_)
  · replace h := kif_f hc h
    exact J50 zT _ _ _ h V (lv_sub hl [0] rfl)
  · replace h := kif_t hc h
    refine lv_iconst (v := (0 : Int32)) X.1 X.2.1 dX12_keep_9 (by decide) ?_
    refine lv_istore_n (lv' := [(1, .int (0 : Int32)), (0, .ref (aT 0))]) X.1 X.2.1 dX12_keep_10 rfl hl (by decide) rfl (fun ls hl => ?_)
    obtain ⟨x17, hx17, h⟩ := kb_of h
    refine (kitr_go (hd := 11) (body := fun q => p_X12_keep_L11 q) (G := (fun e => ∀ (H : Heap) (locs : List Loc) (ls : Array Slot), kW D AA s.heap H (List.flatten [gX12 g aT e.2.2]) locs → lv_has ls 2 [(0, .ref (aT 0)), (1, .int e.2.1)] → W p l en (kR 0 0) s m args below meth c H locs 0 0 QQ (F0 m e.1 ls []))) (fun s18 e19 hb20 hG21 => ?_) kF _ x17 hx17 ?_) _ _ _ V (lv_sub hl [1, 0] rfl)
    · intro H locs ls V hl
      show W p l en (kR 0 0) s m args below meth c H locs 0 0 QQ (F0 m 11 ls [])
      have h : p_X12_keep_L11 s18 = some e19 := hb20
      unfold p_X12_keep_L11 at h
      have V : kW D AA s.heap H (List.flatten [gX12 g aT s18.2]) locs := V
      have hl : lv_has ls 2 [(0, .ref (aT 0)), (1, .int s18.1)] := hl
      refine lv_iload_n X.1 X.2.1 dX12_keep_11 rfl (lv_at hl 1 rfl) ?_
      refine lv_sipush (v := (3230 : Int32)) X.1 X.2.1 dX12_keep_12 (by decide) ?_
      refine lv_icmp_ge (tgt := 40) X.1 X.2.1 dX12_keep_15 (by decide) (fun hc => ?_) (fun hc => ?_)
      · replace h := kif_t hc h
        obtain rfl := Option.some.inj h
        exact hG21 _ _ _ V (lv_sub hl [0, 1] rfl)
      · replace h := kif_f hc h
        refine lv_aload_n X.1 X.2.1 dX12_keep_18 rfl (lv_at hl 0 rfl) ?_
        refine gf_X12_13 (i := 0) X V rfl dX12_keep_19 ?_
        refine lv_iload_n X.1 X.2.1 dX12_keep_22 rfl (lv_at hl 1 rfl) ?_
        refine lv_aload_n X.1 X.2.1 dX12_keep_23 rfl (lv_at hl 0 rfl) ?_
        refine gf_X12_13 (i := 0) X V rfl dX12_keep_24 ?_
        refine lv_iload_n X.1 X.2.1 dX12_keep_27 rfl (lv_at hl 1 rfl) ?_
        refine lv_sipush (v := (170 : Int32)) X.1 X.2.1 dX12_keep_28 (by decide) ?_
        refine lv_iadd X.1 X.2.1 dX12_keep_31 ?_
        obtain ⟨hc, h⟩ := kg_of h
        refine al_X12_1 (i := 0) X V rfl hc dX12_keep_32 ?_
        obtain ⟨hc, h⟩ := kg_of h
        refine as_X12_1 (i := 0) X V rfl hc dX12_keep_33 (fun H locs V => ?_)
        obtain ⟨z22, ez22⟩ : ∃ y, y = (s18.2.1, s18.2.2.1, va_up s18.2.2.2.1 1 (upd (s18.2.2.2.1 1) (s18.1).toNatClampNeg ((s18.2.2.2.1 1) ((s18.1 + (170 : Int32))).toNatClampNeg)), s18.2.2.2.2) := ⟨_, rfl⟩
        replace h := kl_of ez22 h
        have V : kW D AA s.heap H (List.flatten [gX12 g aT z22]) locs := by rw [ez22]; exact V
        obtain ⟨y23, ey23⟩ : ∃ y : Int32, y = (s18.1 + (1 : Int32)) := ⟨_, rfl⟩
        replace h := kl_of ey23 h
        refine lv_iinc (v := y23) (lv' := [(1, .int y23), (0, .ref (aT 0))]) X.1 X.2.1 dX12_keep_34 hl (k := 1) rfl (by rw [ey23]; rfl) (by decide) rfl (fun ls hl => ?_)
        refine lv_goto (tgt := 11) X.1 X.2.1 dX12_keep_37 (by decide) ?_
        obtain rfl := Option.some.inj h
        exact hG21 _ _ _ V (lv_sub hl [1, 0] rfl)
    · intro H locs ls V hl
      have V : kW D AA s.heap H (List.flatten [gX12 g aT x17.2.2]) locs := V
      have hl : lv_has ls 2 [(0, .ref (aT 0)), (1, .int x17.2.1)] := hl
      obtain ⟨hc, h⟩ := kg_of h
      refine W.eq (g2 := F0 m 40 ls []) (by rw [hc]) ?_
      refine lv_aload_n X.1 X.2.1 dX12_keep_40 rfl (lv_at hl 0 rfl) ?_
      refine lv_dup X.1 X.2.1 dX12_keep_41 rfl ?_
      refine gf_X12_73 (i := 0) X V rfl dX12_keep_42 ?_
      refine lv_iconst (v := (1 : Int32)) X.1 X.2.1 dX12_keep_45 (by decide) ?_
      refine lv_isub X.1 X.2.1 dX12_keep_46 ?_
      refine pf_X12_73 (i := 0) X V rfl dX12_keep_47 (fun H locs V => ?_)
      obtain ⟨z24, ez24⟩ : ∃ y, y = (va_up x17.2.2.1 2 ((x17.2.2.1 2) - (1 : Int32)), x17.2.2.2) := ⟨_, rfl⟩
      replace h := kl_of ez24 h
      have V : kW D AA s.heap H (List.flatten [gX12 g aT z24]) locs := by rw [ez24]; exact V
      exact J50 z24 _ _ _ h V (lv_sub hl [0] rfl)

def p_X12_back_L21 (s : Int32 × tX12) : Option (Nat × (Int32 × tX12)) :=
  kif ((170 : Int32) ≤ s.1) (some (55, (s.1, s.2))) (kg (kii (((170 : Int32) * (s.2.1 2)) + s.1) 3400) (kg (kii s.1 170) (kl (s.2.1, s.2.2.1, va_up s.2.2.2.1 0 (upd (s.2.2.2.1 0) (s.1).toNatClampNeg ((s.2.2.2.1 1) ((((170 : Int32) * (s.2.1 2)) + s.1)).toNatClampNeg)), s.2.2.2.2) (fun z2 => kl (s.1 + (1 : Int32)) (fun y3 => some (21, (y3, z2)))))))
def p_X12_back (zT : tX12) : Option (Int32 × tX12) :=
  kif ((zT.1 2) = 0) (some ((-1 : Int32), zT)) (kl (va_up zT.1 2 ((zT.1 2) - (1 : Int32)), zT.2) (fun z1 => kb (kitr 21 (fun q => p_X12_back_L21 q) kF ((0 : Int32), z1)) (fun x4 => kg (x4.1 = 55) (some ((x4.2.2.1 2), x4.2.2)))))
set_option maxHeartbeats 4000000 in
set_option maxRecDepth 100000 in
theorem c_X12_back (l : Launch) (D : va_G) (g : kG) (aT : Nat → Nat) (zT : tX12) (r : Int32 × tX12) (h : p_X12_back zT = some r) : kMi l yX12_back cX12_back 2 (some .int) (kR 0 0) D (kty g) [.ref (aT 0)] (List.flatten [gX12 g aT zT]) r.1 (List.flatten [gX12 g aT r.2]) := by
  intro sz
  refine k_enter (lv := [(0, .ref (aT 0))]) RX12 (by decide +kernel) rfl rfl (Nat.le_of_ble_eq_true rfl) ?_
  intro p en s m args below meth c ls hsz X V hl
  obtain ⟨QQ, hQQ⟩ : ∃ q, q = MQ below (va_Qi (fun r' (_ : Unit) => r' = r.1) (fun _ => kE D (List.flatten [gX12 g aT r.2])) (va_A (List.flatten [gX12 g aT zT]) sz)) args s 0 0 (va_A (List.flatten [gX12 g aT zT]) sz) := ⟨_, rfl⟩
  rw [← hQQ]
  obtain ⟨AA, hAA⟩ : ∃ q, q = va_A (List.flatten [gX12 g aT zT]) sz := ⟨_, rfl⟩
  rw [← hAA] at V
  unfold p_X12_back at h
  refine lv_aload_n X.1 X.2.1 dX12_back_0 rfl (lv_at hl 0 rfl) ?_
  refine gf_X12_73 (i := 0) X V rfl dX12_back_1 ?_
  refine lv_if_ne (tgt := 9) X.1 X.2.1 dX12_back_4 (by decide) (fun hc => ?_) (fun hc => ?_)
  · replace h := kif_f hc h
    refine lv_aload_n X.1 X.2.1 dX12_back_9 rfl (lv_at hl 0 rfl) ?_
    refine lv_dup X.1 X.2.1 dX12_back_10 rfl ?_
    refine gf_X12_73 (i := 0) X V rfl dX12_back_11 ?_
    refine lv_iconst (v := (1 : Int32)) X.1 X.2.1 dX12_back_14 (by decide) ?_
    refine lv_isub X.1 X.2.1 dX12_back_15 ?_
    refine pf_X12_73 (i := 0) X V rfl dX12_back_16 (fun H locs V => ?_)
    obtain ⟨z5, ez5⟩ : ∃ y, y = (va_up zT.1 2 ((zT.1 2) - (1 : Int32)), zT.2) := ⟨_, rfl⟩
    replace h := kl_of ez5 h
    have V : kW D AA s.heap H (List.flatten [gX12 g aT z5]) locs := by rw [ez5]; exact V
    refine lv_iconst (v := (0 : Int32)) X.1 X.2.1 dX12_back_19 (by decide) ?_
    refine lv_istore_n (lv' := [(1, .int (0 : Int32)), (0, .ref (aT 0))]) X.1 X.2.1 dX12_back_20 rfl hl (by decide) rfl (fun ls hl => ?_)
    obtain ⟨x6, hx6, h⟩ := kb_of h
    refine (kitr_go (hd := 21) (body := fun q => p_X12_back_L21 q) (G := (fun e => ∀ (H : Heap) (locs : List Loc) (ls : Array Slot), kW D AA s.heap H (List.flatten [gX12 g aT e.2.2]) locs → lv_has ls 2 [(0, .ref (aT 0)), (1, .int e.2.1)] → W p l en (kR 0 0) s m args below meth c H locs 0 0 QQ (F0 m e.1 ls []))) (fun s7 e8 hb9 hG10 => ?_) kF _ x6 hx6 ?_) _ _ _ V (lv_sub hl [1, 0] rfl)
    · intro H locs ls V hl
      show W p l en (kR 0 0) s m args below meth c H locs 0 0 QQ (F0 m 21 ls [])
      have h : p_X12_back_L21 s7 = some e8 := hb9
      unfold p_X12_back_L21 at h
      have V : kW D AA s.heap H (List.flatten [gX12 g aT s7.2]) locs := V
      have hl : lv_has ls 2 [(0, .ref (aT 0)), (1, .int s7.1)] := hl
      refine lv_iload_n X.1 X.2.1 dX12_back_21 rfl (lv_at hl 1 rfl) ?_
      refine lv_sipush (v := (170 : Int32)) X.1 X.2.1 dX12_back_22 (by decide) ?_
      refine lv_icmp_ge (tgt := 55) X.1 X.2.1 dX12_back_25 (by decide) (fun hc => ?_) (fun hc => ?_)
      · replace h := kif_t hc h
        obtain rfl := Option.some.inj h
        exact hG10 _ _ _ V (lv_sub hl [0, 1] rfl)
      · replace h := kif_f hc h
        refine lv_aload_n X.1 X.2.1 dX12_back_28 rfl (lv_at hl 0 rfl) ?_
        refine gf_X12_7 (i := 0) X V rfl dX12_back_29 ?_
        refine lv_iload_n X.1 X.2.1 dX12_back_32 rfl (lv_at hl 1 rfl) ?_
        refine lv_aload_n X.1 X.2.1 dX12_back_33 rfl (lv_at hl 0 rfl) ?_
        refine gf_X12_13 (i := 0) X V rfl dX12_back_34 ?_
        refine lv_sipush (v := (170 : Int32)) X.1 X.2.1 dX12_back_37 (by decide) ?_
        refine lv_aload_n X.1 X.2.1 dX12_back_40 rfl (lv_at hl 0 rfl) ?_
        refine gf_X12_73 (i := 0) X V rfl dX12_back_41 ?_
        refine lv_imul X.1 X.2.1 dX12_back_44 ?_
        refine lv_iload_n X.1 X.2.1 dX12_back_45 rfl (lv_at hl 1 rfl) ?_
        refine lv_iadd X.1 X.2.1 dX12_back_46 ?_
        obtain ⟨hc, h⟩ := kg_of h
        refine al_X12_1 (i := 0) X V rfl hc dX12_back_47 ?_
        obtain ⟨hc, h⟩ := kg_of h
        refine as_X12_0 (i := 0) X V rfl hc dX12_back_48 (fun H locs V => ?_)
        obtain ⟨z11, ez11⟩ : ∃ y, y = (s7.2.1, s7.2.2.1, va_up s7.2.2.2.1 0 (upd (s7.2.2.2.1 0) (s7.1).toNatClampNeg ((s7.2.2.2.1 1) ((((170 : Int32) * (s7.2.1 2)) + s7.1)).toNatClampNeg)), s7.2.2.2.2) := ⟨_, rfl⟩
        replace h := kl_of ez11 h
        have V : kW D AA s.heap H (List.flatten [gX12 g aT z11]) locs := by rw [ez11]; exact V
        obtain ⟨y12, ey12⟩ : ∃ y : Int32, y = (s7.1 + (1 : Int32)) := ⟨_, rfl⟩
        replace h := kl_of ey12 h
        refine lv_iinc (v := y12) (lv' := [(1, .int y12), (0, .ref (aT 0))]) X.1 X.2.1 dX12_back_49 hl (k := 1) rfl (by rw [ey12]; rfl) (by decide) rfl (fun ls hl => ?_)
        refine lv_goto (tgt := 21) X.1 X.2.1 dX12_back_52 (by decide) ?_
        obtain rfl := Option.some.inj h
        exact hG10 _ _ _ V (lv_sub hl [1, 0] rfl)
    · intro H locs ls V hl
      have V : kW D AA s.heap H (List.flatten [gX12 g aT x6.2.2]) locs := V
      have hl : lv_has ls 2 [(0, .ref (aT 0)), (1, .int x6.2.1)] := hl
      obtain ⟨hc, h⟩ := kg_of h
      refine W.eq (g2 := F0 m 55 ls []) (by rw [hc]) ?_
      refine lv_aload_n X.1 X.2.1 dX12_back_55 rfl (lv_at hl 0 rfl) ?_
      refine gf_X12_73 (i := 0) X V rfl dX12_back_56 ?_
      obtain rfl := Option.some.inj h
      rw [hAA] at V
      rw [hQQ]
      exact k_iret X V rfl dX12_back_59
  · replace h := kif_t hc h
    refine lv_iconst (v := (-1 : Int32)) X.1 X.2.1 dX12_back_7 (by decide) ?_
    obtain rfl := Option.some.inj h
    rw [hAA] at V
    rw [hQQ]
    exact k_iret X V rfl dX12_back_8

def p_X12_isPoint (zT : tX12) (v1 : Int32) : Option (Bool) :=
  kb (p_X12_isIn v1 (0 : Int32) (39 : Int32)) (fun x1 => kif ((kz x1) = 0) (some false) (kg (kii ((0 : Int32) + v1) 170) (kif (((zT.2.2.1 0) (((0 : Int32) + v1)).toNatClampNeg) = (1 : Int32)) (some true) (some false))))
set_option maxHeartbeats 4000000 in
set_option maxRecDepth 100000 in
theorem c_X12_isPoint (l : Launch) (D : va_G) (g : kG) (aT : Nat → Nat) (zT : tX12) (v1 : Int32) (r : Bool) (h : p_X12_isPoint zT v1 = some r) : kMi l yX12_isPoint cX12_isPoint 2 (some .boolean) (kR 1 22) D (kty g) [.ref (aT 0), .int v1] (List.flatten [gX12 g aT zT]) (kz r) (List.flatten [gX12 g aT zT]) := by
  intro sz
  refine k_enter (lv := [(0, .ref (aT 0)), (1, .int v1)]) RX12 (by decide +kernel) rfl rfl (Nat.le_of_ble_eq_true rfl) ?_
  intro p en s m args below meth c ls hsz X V hl
  obtain ⟨QQ, hQQ⟩ : ∃ q, q = MQ below (va_Qi (fun r' (_ : Unit) => r' = kz r) (fun _ => kE D (List.flatten [gX12 g aT zT])) (va_A (List.flatten [gX12 g aT zT]) sz)) args s 0 0 (va_A (List.flatten [gX12 g aT zT]) sz) := ⟨_, rfl⟩
  rw [← hQQ]
  obtain ⟨AA, hAA⟩ : ∃ q, q = va_A (List.flatten [gX12 g aT zT]) sz := ⟨_, rfl⟩
  rw [← hAA] at V
  unfold p_X12_isPoint at h
  refine lv_iload_n X.1 X.2.1 dX12_isPoint_0 rfl (lv_at hl 1 rfl) ?_
  refine lv_iconst (v := (0 : Int32)) X.1 X.2.1 dX12_isPoint_1 (by decide) ?_
  refine lv_bipush (v := (39 : Int32)) X.1 X.2.1 dX12_isPoint_2 (by decide) ?_
  obtain ⟨x2, hx2, h⟩ := kb_of h
  refine s_callSi (segs' := [gX12 g aT zT]) X V (c_X12_isIn l D g v1 (0 : Int32) (39 : Int32) x2 hx2) w_X12_76 ⟨Nat.le_of_ble_eq_true rfl, Nat.le_of_ble_eq_true rfl⟩ ⟨Nat.zero_le _, Nat.zero_le _⟩ rfl [] rfl rfl (kFst_refl _) rfl rfl hl.1 (Nat.le_of_ble_eq_true rfl) dX12_isPoint_4 (fun H locs V => ?_)
  refine lv_if_eq (tgt := 26) X.1 X.2.1 dX12_isPoint_7 (by decide) (fun hc => ?_) (fun hc => ?_)
  · replace h := kif_t hc h
    refine lv_iconst (v := (0 : Int32)) X.1 X.2.1 dX12_isPoint_26 (by decide) ?_
    obtain rfl := Option.some.inj h
    rw [hAA] at V
    rw [hQQ]
    exact k_zret X V (b := false) rfl rfl dX12_isPoint_27
  · replace h := kif_f hc h
    refine lv_aload_n X.1 X.2.1 dX12_isPoint_10 rfl (lv_at hl 0 rfl) ?_
    refine gf_X12_7 (i := 0) X V rfl dX12_isPoint_11 ?_
    refine lv_iconst (v := (0 : Int32)) X.1 X.2.1 dX12_isPoint_14 (by decide) ?_
    refine lv_iload_n X.1 X.2.1 dX12_isPoint_15 rfl (lv_at hl 1 rfl) ?_
    refine lv_iadd X.1 X.2.1 dX12_isPoint_16 ?_
    obtain ⟨hc, h⟩ := kg_of h
    refine al_X12_0 (i := 0) X V rfl hc dX12_isPoint_17 ?_
    refine lv_iconst (v := (1 : Int32)) X.1 X.2.1 dX12_isPoint_18 (by decide) ?_
    refine lv_icmp_ne (tgt := 26) X.1 X.2.1 dX12_isPoint_19 (by decide) (fun hc => ?_) (fun hc => ?_)
    · replace h := kif_f hc h
      refine lv_iconst (v := (0 : Int32)) X.1 X.2.1 dX12_isPoint_26 (by decide) ?_
      obtain rfl := Option.some.inj h
      rw [hAA] at V
      rw [hQQ]
      exact k_zret X V (b := false) rfl rfl dX12_isPoint_27
    · replace h := kif_t hc h
      refine lv_iconst (v := (1 : Int32)) X.1 X.2.1 dX12_isPoint_22 (by decide) ?_
      refine lv_goto (tgt := 27) X.1 X.2.1 dX12_isPoint_23 (by decide) ?_
      obtain rfl := Option.some.inj h
      rw [hAA] at V
      rw [hQQ]
      exact k_zret X V (b := true) rfl rfl dX12_isPoint_27

def p_X12_isPlace (v0 : Int32) (v1 : Int32) : Option (Bool) :=
  kb (p_X12_isIn v0 (-100 : Int32) (100 : Int32)) (fun x1 => kif ((kz x1) = 0) (some false) (kb (p_X12_isIn v1 (-100 : Int32) (100 : Int32)) (fun x2 => kif ((kz x2) = 0) (some false) (some true))))
set_option maxHeartbeats 4000000 in
set_option maxRecDepth 100000 in
theorem c_X12_isPlace (l : Launch) (D : va_G) (g : kG)  (v0 : Int32) (v1 : Int32) (r : Bool) (h : p_X12_isPlace v0 v1 = some r) : kMi l yX12_isPlace cX12_isPlace 2 (some .boolean) (kR 1 22) D (kty g) [.int v0, .int v1] (List.flatten ([] : List va_W)) (kz r) (List.flatten ([] : List va_W)) := by
  intro sz
  refine k_enter (lv := [(0, .int v0), (1, .int v1)]) RX12 (by decide +kernel) rfl rfl (Nat.le_of_ble_eq_true rfl) ?_
  intro p en s m args below meth c ls hsz X V hl
  obtain ⟨QQ, hQQ⟩ : ∃ q, q = MQ below (va_Qi (fun r' (_ : Unit) => r' = kz r) (fun _ => kE D (List.flatten ([] : List va_W))) (va_A (List.flatten ([] : List va_W)) sz)) args s 0 0 (va_A (List.flatten ([] : List va_W)) sz) := ⟨_, rfl⟩
  rw [← hQQ]
  obtain ⟨AA, hAA⟩ : ∃ q, q = va_A (List.flatten ([] : List va_W)) sz := ⟨_, rfl⟩
  rw [← hAA] at V
  unfold p_X12_isPlace at h
  refine lv_iload_n X.1 X.2.1 dX12_isPlace_0 rfl (lv_at hl 0 rfl) ?_
  refine lv_bipush (v := (-100 : Int32)) X.1 X.2.1 dX12_isPlace_1 (by decide) ?_
  refine lv_bipush (v := (100 : Int32)) X.1 X.2.1 dX12_isPlace_3 (by decide) ?_
  obtain ⟨x3, hx3, h⟩ := kb_of h
  refine s_callSi (segs' := ([] : List va_W)) X V (c_X12_isIn l D g v0 (-100 : Int32) (100 : Int32) x3 hx3) w_X12_76 ⟨Nat.le_of_ble_eq_true rfl, Nat.le_of_ble_eq_true rfl⟩ ⟨Nat.zero_le _, Nat.zero_le _⟩ rfl [] rfl rfl (kFst_refl _) rfl rfl hl.1 (Nat.le_of_ble_eq_true rfl) dX12_isPlace_5 (fun H locs V => ?_)
  refine lv_if_eq (tgt := 26) X.1 X.2.1 dX12_isPlace_8 (by decide) (fun hc => ?_) (fun hc => ?_)
  · replace h := kif_t hc h
    refine lv_iconst (v := (0 : Int32)) X.1 X.2.1 dX12_isPlace_26 (by decide) ?_
    obtain rfl := Option.some.inj h
    rw [hAA] at V
    rw [hQQ]
    exact k_zret X V (b := false) rfl rfl dX12_isPlace_27
  · replace h := kif_f hc h
    refine lv_iload_n X.1 X.2.1 dX12_isPlace_11 rfl (lv_at hl 1 rfl) ?_
    refine lv_bipush (v := (-100 : Int32)) X.1 X.2.1 dX12_isPlace_12 (by decide) ?_
    refine lv_bipush (v := (100 : Int32)) X.1 X.2.1 dX12_isPlace_14 (by decide) ?_
    obtain ⟨x4, hx4, h⟩ := kb_of h
    refine s_callSi (segs' := ([] : List va_W)) X V (c_X12_isIn l D g v1 (-100 : Int32) (100 : Int32) x4 hx4) w_X12_76 ⟨Nat.le_of_ble_eq_true rfl, Nat.le_of_ble_eq_true rfl⟩ ⟨Nat.zero_le _, Nat.zero_le _⟩ rfl [] rfl rfl (kFst_refl _) rfl rfl hl.1 (Nat.le_of_ble_eq_true rfl) dX12_isPlace_16 (fun H locs V => ?_)
    refine lv_if_eq (tgt := 26) X.1 X.2.1 dX12_isPlace_19 (by decide) (fun hc => ?_) (fun hc => ?_)
    · replace h := kif_t hc h
      refine lv_iconst (v := (0 : Int32)) X.1 X.2.1 dX12_isPlace_26 (by decide) ?_
      obtain rfl := Option.some.inj h
      rw [hAA] at V
      rw [hQQ]
      exact k_zret X V (b := false) rfl rfl dX12_isPlace_27
    · replace h := kif_f hc h
      refine lv_iconst (v := (1 : Int32)) X.1 X.2.1 dX12_isPlace_22 (by decide) ?_
      refine lv_goto (tgt := 27) X.1 X.2.1 dX12_isPlace_23 (by decide) ?_
      obtain rfl := Option.some.inj h
      rw [hAA] at V
      rw [hQQ]
      exact k_zret X V (b := true) rfl rfl dX12_isPlace_27

def p_X12_isHeap (v0 : Int32) : Option (Bool) :=
  kb (p_X12_isIn v0 (0 : Int32) (3 : Int32)) (fun x1 => some x1)
set_option maxHeartbeats 4000000 in
set_option maxRecDepth 100000 in
theorem c_X12_isHeap (l : Launch) (D : va_G) (g : kG)  (v0 : Int32) (r : Bool) (h : p_X12_isHeap v0 = some r) : kMi l yX12_isHeap cX12_isHeap 1 (some .boolean) (kR 1 22) D (kty g) [.int v0] (List.flatten ([] : List va_W)) (kz r) (List.flatten ([] : List va_W)) := by
  intro sz
  refine k_enter (lv := [(0, .int v0)]) RX12 (by decide +kernel) rfl rfl (Nat.le_of_ble_eq_true rfl) ?_
  intro p en s m args below meth c ls hsz X V hl
  obtain ⟨QQ, hQQ⟩ : ∃ q, q = MQ below (va_Qi (fun r' (_ : Unit) => r' = kz r) (fun _ => kE D (List.flatten ([] : List va_W))) (va_A (List.flatten ([] : List va_W)) sz)) args s 0 0 (va_A (List.flatten ([] : List va_W)) sz) := ⟨_, rfl⟩
  rw [← hQQ]
  obtain ⟨AA, hAA⟩ : ∃ q, q = va_A (List.flatten ([] : List va_W)) sz := ⟨_, rfl⟩
  rw [← hAA] at V
  unfold p_X12_isHeap at h
  refine lv_iload_n X.1 X.2.1 dX12_isHeap_0 rfl (lv_at hl 0 rfl) ?_
  refine lv_iconst (v := (0 : Int32)) X.1 X.2.1 dX12_isHeap_1 (by decide) ?_
  refine lv_iconst (v := (3 : Int32)) X.1 X.2.1 dX12_isHeap_2 (by decide) ?_
  obtain ⟨x2, hx2, h⟩ := kb_of h
  refine s_callSi (segs' := ([] : List va_W)) X V (c_X12_isIn l D g v0 (0 : Int32) (3 : Int32) x2 hx2) w_X12_76 ⟨Nat.le_of_ble_eq_true rfl, Nat.le_of_ble_eq_true rfl⟩ ⟨Nat.zero_le _, Nat.zero_le _⟩ rfl [] rfl rfl (kFst_refl _) rfl rfl hl.1 (Nat.le_of_ble_eq_true rfl) dX12_isHeap_3 (fun H locs V => ?_)
  obtain rfl := Option.some.inj h
  rw [hAA] at V
  rw [hQQ]
  exact k_zret X V (b := x2) rfl rfl dX12_isHeap_6

def p_X12_free_L2 (zT : tX12) (s : Int32) : Option (Nat × (Int32)) :=
  kif ((40 : Int32) ≤ s) (some (27, s)) (kg (kii ((0 : Int32) + s) 170) (kif (((zT.2.2.1 0) (((0 : Int32) + s)).toNatClampNeg) = 0) (some (19, s)) (kl (s + (1 : Int32)) (fun y1 => some (2, y1)))))
def p_X12_free (zT : tX12) : Option (Int32) :=
  kb (kitr 2 (fun q => p_X12_free_L2 zT q) kF (0 : Int32)) (fun x2 => kif (x2.1 = 19) (some x2.2) (kg (x2.1 = 27) (some (-1 : Int32))))
set_option maxHeartbeats 4000000 in
set_option maxRecDepth 100000 in
theorem c_X12_free (l : Launch) (D : va_G) (g : kG) (aT : Nat → Nat) (zT : tX12) (r : Int32) (h : p_X12_free zT = some r) : kMi l yX12_free cX12_free 2 (some .int) (kR 0 0) D (kty g) [.ref (aT 0)] (List.flatten [gX12 g aT zT]) r (List.flatten [gX12 g aT zT]) := by
  intro sz
  refine k_enter (lv := [(0, .ref (aT 0))]) RX12 (by decide +kernel) rfl rfl (Nat.le_of_ble_eq_true rfl) ?_
  intro p en s m args below meth c ls hsz X V hl
  obtain ⟨QQ, hQQ⟩ : ∃ q, q = MQ below (va_Qi (fun r' (_ : Unit) => r' = r) (fun _ => kE D (List.flatten [gX12 g aT zT])) (va_A (List.flatten [gX12 g aT zT]) sz)) args s 0 0 (va_A (List.flatten [gX12 g aT zT]) sz) := ⟨_, rfl⟩
  rw [← hQQ]
  obtain ⟨AA, hAA⟩ : ∃ q, q = va_A (List.flatten [gX12 g aT zT]) sz := ⟨_, rfl⟩
  rw [← hAA] at V
  unfold p_X12_free at h
  refine lv_iconst (v := (0 : Int32)) X.1 X.2.1 dX12_free_0 (by decide) ?_
  refine lv_istore_n (lv' := [(1, .int (0 : Int32)), (0, .ref (aT 0))]) X.1 X.2.1 dX12_free_1 rfl hl (by decide) rfl (fun ls hl => ?_)
  obtain ⟨x3, hx3, h⟩ := kb_of h
  refine (kitr_go (hd := 2) (body := fun q => p_X12_free_L2 zT q) (G := (fun e => ∀ (H : Heap) (locs : List Loc) (ls : Array Slot), kW D AA s.heap H (List.flatten [gX12 g aT zT]) locs → lv_has ls 2 [(0, .ref (aT 0)), (1, .int e.2)] → W p l en (kR 0 0) s m args below meth c H locs 0 0 QQ (F0 m e.1 ls []))) (fun s4 e5 hb6 hG7 => ?_) kF _ x3 hx3 ?_) _ _ _ V (lv_sub hl [1, 0] rfl)
  · intro H locs ls V hl
    show W p l en (kR 0 0) s m args below meth c H locs 0 0 QQ (F0 m 2 ls [])
    have h : p_X12_free_L2 zT s4 = some e5 := hb6
    unfold p_X12_free_L2 at h
    have V : kW D AA s.heap H (List.flatten [gX12 g aT zT]) locs := V
    have hl : lv_has ls 2 [(0, .ref (aT 0)), (1, .int s4)] := hl
    refine lv_iload_n X.1 X.2.1 dX12_free_2 rfl (lv_at hl 1 rfl) ?_
    refine lv_bipush (v := (40 : Int32)) X.1 X.2.1 dX12_free_3 (by decide) ?_
    refine lv_icmp_ge (tgt := 27) X.1 X.2.1 dX12_free_5 (by decide) (fun hc => ?_) (fun hc => ?_)
    · replace h := kif_t hc h
      obtain rfl := Option.some.inj h
      exact hG7 _ _ _ V (lv_sub hl [0, 1] rfl)
    · replace h := kif_f hc h
      refine lv_aload_n X.1 X.2.1 dX12_free_8 rfl (lv_at hl 0 rfl) ?_
      refine gf_X12_7 (i := 0) X V rfl dX12_free_9 ?_
      refine lv_iconst (v := (0 : Int32)) X.1 X.2.1 dX12_free_12 (by decide) ?_
      refine lv_iload_n X.1 X.2.1 dX12_free_13 rfl (lv_at hl 1 rfl) ?_
      refine lv_iadd X.1 X.2.1 dX12_free_14 ?_
      obtain ⟨hc, h⟩ := kg_of h
      refine al_X12_0 (i := 0) X V rfl hc dX12_free_15 ?_
      refine lv_if_ne (tgt := 21) X.1 X.2.1 dX12_free_16 (by decide) (fun hc => ?_) (fun hc => ?_)
      · replace h := kif_f hc h
        obtain ⟨y8, ey8⟩ : ∃ y : Int32, y = (s4 + (1 : Int32)) := ⟨_, rfl⟩
        replace h := kl_of ey8 h
        refine lv_iinc (v := y8) (lv' := [(1, .int y8), (0, .ref (aT 0))]) X.1 X.2.1 dX12_free_21 hl (k := 1) rfl (by rw [ey8]; rfl) (by decide) rfl (fun ls hl => ?_)
        refine lv_goto (tgt := 2) X.1 X.2.1 dX12_free_24 (by decide) ?_
        obtain rfl := Option.some.inj h
        exact hG7 _ _ _ V (lv_sub hl [1, 0] rfl)
      · replace h := kif_t hc h
        obtain rfl := Option.some.inj h
        exact hG7 _ _ _ V (lv_sub hl [0, 1] rfl)
  · intro H locs ls V hl
    have V : kW D AA s.heap H (List.flatten [gX12 g aT zT]) locs := V
    have hl : lv_has ls 2 [(0, .ref (aT 0)), (1, .int x3.2)] := hl
    by_cases hc : x3.1 = 19
    · replace h := kif_t hc h
      refine W.eq (g2 := F0 m 19 ls []) (by rw [hc]) ?_
      refine lv_iload_n X.1 X.2.1 dX12_free_19 rfl (lv_at hl 1 rfl) ?_
      obtain rfl := Option.some.inj h
      rw [hAA] at V
      rw [hQQ]
      exact k_iret X V rfl dX12_free_20
    · replace h := kif_f hc h
      obtain ⟨hc, h⟩ := kg_of h
      refine W.eq (g2 := F0 m 27 ls []) (by rw [hc]) ?_
      refine lv_iconst (v := (-1 : Int32)) X.1 X.2.1 dX12_free_27 (by decide) ?_
      obtain rfl := Option.some.inj h
      rw [hAA] at V
      rw [hQQ]
      exact k_iret X V rfl dX12_free_28

def p_X12_lay (zT : tX12) (v1 : Int32) (v2 : Int32) (v3 : Int32) (v4 : Int32) : Option (tX12) :=
  kg (kii ((0 : Int32) + v1) 170) (kl (zT.1, zT.2.1, va_up zT.2.2.1 0 (upd (zT.2.2.1 0) (((0 : Int32) + v1)).toNatClampNeg (1 : Int32)), zT.2.2.2) (fun z1 => kg (kii ((40 : Int32) + v1) 170) (kl (z1.1, z1.2.1, va_up z1.2.2.1 0 (upd (z1.2.2.1 0) (((40 : Int32) + v1)).toNatClampNeg v2), z1.2.2.2) (fun z2 => kg (kii ((80 : Int32) + v1) 170) (kl (z2.1, z2.2.1, va_up z2.2.2.1 0 (upd (z2.2.2.1 0) (((80 : Int32) + v1)).toNatClampNeg v3), z2.2.2.2) (fun z3 => kg (kii ((120 : Int32) + v1) 170) (kl (z3.1, z3.2.1, va_up z3.2.2.1 0 (upd (z3.2.2.1 0) (((120 : Int32) + v1)).toNatClampNeg v4), z3.2.2.2) (fun z4 => some z4))))))))
set_option maxHeartbeats 4000000 in
set_option maxRecDepth 100000 in
theorem c_X12_lay (l : Launch) (D : va_G) (g : kG) (aT : Nat → Nat) (zT : tX12) (v1 : Int32) (v2 : Int32) (v3 : Int32) (v4 : Int32) (r : tX12) (h : p_X12_lay zT v1 v2 v3 v4 = some r) : kMv l yX12_lay cX12_lay 5 none (kR 0 0) D (kty g) [.ref (aT 0), .int v1, .int v2, .int v3, .int v4] (List.flatten [gX12 g aT zT]) (List.flatten [gX12 g aT r]) := by
  intro sz
  refine k_enter (lv := [(0, .ref (aT 0)), (1, .int v1), (2, .int v2), (3, .int v3), (4, .int v4)]) RX12 (by decide +kernel) rfl rfl (Nat.le_of_ble_eq_true rfl) ?_
  intro p en s m args below meth c ls hsz X V hl
  obtain ⟨QQ, hQQ⟩ : ∃ q, q = MQ below (va_Qv (fun (_ : Unit) => True) (fun _ => kE D (List.flatten [gX12 g aT r])) (va_A (List.flatten [gX12 g aT zT]) sz)) args s 0 0 (va_A (List.flatten [gX12 g aT zT]) sz) := ⟨_, rfl⟩
  rw [← hQQ]
  obtain ⟨AA, hAA⟩ : ∃ q, q = va_A (List.flatten [gX12 g aT zT]) sz := ⟨_, rfl⟩
  rw [← hAA] at V
  unfold p_X12_lay at h
  refine lv_aload_n X.1 X.2.1 dX12_lay_0 rfl (lv_at hl 0 rfl) ?_
  refine gf_X12_7 (i := 0) X V rfl dX12_lay_1 ?_
  refine lv_iconst (v := (0 : Int32)) X.1 X.2.1 dX12_lay_4 (by decide) ?_
  refine lv_iload_n X.1 X.2.1 dX12_lay_5 rfl (lv_at hl 1 rfl) ?_
  refine lv_iadd X.1 X.2.1 dX12_lay_6 ?_
  refine lv_iconst (v := (1 : Int32)) X.1 X.2.1 dX12_lay_7 (by decide) ?_
  obtain ⟨hc, h⟩ := kg_of h
  refine as_X12_0 (i := 0) X V rfl hc dX12_lay_8 (fun H locs V => ?_)
  obtain ⟨z5, ez5⟩ : ∃ y, y = (zT.1, zT.2.1, va_up zT.2.2.1 0 (upd (zT.2.2.1 0) (((0 : Int32) + v1)).toNatClampNeg (1 : Int32)), zT.2.2.2) := ⟨_, rfl⟩
  replace h := kl_of ez5 h
  have V : kW D AA s.heap H (List.flatten [gX12 g aT z5]) locs := by rw [ez5]; exact V
  refine lv_aload_n X.1 X.2.1 dX12_lay_9 rfl (lv_at hl 0 rfl) ?_
  refine gf_X12_7 (i := 0) X V rfl dX12_lay_10 ?_
  refine lv_bipush (v := (40 : Int32)) X.1 X.2.1 dX12_lay_13 (by decide) ?_
  refine lv_iload_n X.1 X.2.1 dX12_lay_15 rfl (lv_at hl 1 rfl) ?_
  refine lv_iadd X.1 X.2.1 dX12_lay_16 ?_
  refine lv_iload_n X.1 X.2.1 dX12_lay_17 rfl (lv_at hl 2 rfl) ?_
  obtain ⟨hc, h⟩ := kg_of h
  refine as_X12_0 (i := 0) X V rfl hc dX12_lay_18 (fun H locs V => ?_)
  obtain ⟨z6, ez6⟩ : ∃ y, y = (z5.1, z5.2.1, va_up z5.2.2.1 0 (upd (z5.2.2.1 0) (((40 : Int32) + v1)).toNatClampNeg v2), z5.2.2.2) := ⟨_, rfl⟩
  replace h := kl_of ez6 h
  have V : kW D AA s.heap H (List.flatten [gX12 g aT z6]) locs := by rw [ez6]; exact V
  refine lv_aload_n X.1 X.2.1 dX12_lay_19 rfl (lv_at hl 0 rfl) ?_
  refine gf_X12_7 (i := 0) X V rfl dX12_lay_20 ?_
  refine lv_bipush (v := (80 : Int32)) X.1 X.2.1 dX12_lay_23 (by decide) ?_
  refine lv_iload_n X.1 X.2.1 dX12_lay_25 rfl (lv_at hl 1 rfl) ?_
  refine lv_iadd X.1 X.2.1 dX12_lay_26 ?_
  refine lv_iload_n X.1 X.2.1 dX12_lay_27 rfl (lv_at hl 3 rfl) ?_
  obtain ⟨hc, h⟩ := kg_of h
  refine as_X12_0 (i := 0) X V rfl hc dX12_lay_28 (fun H locs V => ?_)
  obtain ⟨z7, ez7⟩ : ∃ y, y = (z6.1, z6.2.1, va_up z6.2.2.1 0 (upd (z6.2.2.1 0) (((80 : Int32) + v1)).toNatClampNeg v3), z6.2.2.2) := ⟨_, rfl⟩
  replace h := kl_of ez7 h
  have V : kW D AA s.heap H (List.flatten [gX12 g aT z7]) locs := by rw [ez7]; exact V
  refine lv_aload_n X.1 X.2.1 dX12_lay_29 rfl (lv_at hl 0 rfl) ?_
  refine gf_X12_7 (i := 0) X V rfl dX12_lay_30 ?_
  refine lv_bipush (v := (120 : Int32)) X.1 X.2.1 dX12_lay_33 (by decide) ?_
  refine lv_iload_n X.1 X.2.1 dX12_lay_35 rfl (lv_at hl 1 rfl) ?_
  refine lv_iadd X.1 X.2.1 dX12_lay_36 ?_
  refine lv_iload X.1 X.2.1 dX12_lay_37 (lv_at hl 4 rfl) ?_
  obtain ⟨hc, h⟩ := kg_of h
  refine as_X12_0 (i := 0) X V rfl hc dX12_lay_39 (fun H locs V => ?_)
  obtain ⟨z8, ez8⟩ : ∃ y, y = (z7.1, z7.2.1, va_up z7.2.2.1 0 (upd (z7.2.2.1 0) (((120 : Int32) + v1)).toNatClampNeg v4), z7.2.2.2) := ⟨_, rfl⟩
  replace h := kl_of ez8 h
  have V : kW D AA s.heap H (List.flatten [gX12 g aT z8]) locs := by rw [ez8]; exact V
  obtain rfl := Option.some.inj h
  rw [hAA] at V
  rw [hQQ]
  exact k_vret X V dX12_lay_40

def p_X12_put (zT : tX12) (v1 : Int32) (v2 : Int32) (v3 : Int32) : Option (Int32 × tX12) :=
  kb (p_X12_free zT) (fun x1 => kb (p_X12_isPlace v1 v2) (fun x2 => kif ((kz x2) = 0) (some ((-1 : Int32), zT)) (kb (p_X12_isHeap v3) (fun x3 => kif ((kz x3) = 0) (some ((-1 : Int32), zT)) (kif (x1 = (-1 : Int32)) (some ((-1 : Int32), zT)) (kb (p_X12_keep zT) (fun x4 => kb (p_X12_lay x4 x1 v1 v2 v3) (fun x5 => some (x1, x5)))))))))
set_option maxHeartbeats 4000000 in
set_option maxRecDepth 100000 in
theorem c_X12_put (l : Launch) (D : va_G) (g : kG) (aT : Nat → Nat) (zT : tX12) (v1 : Int32) (v2 : Int32) (v3 : Int32) (r : Int32 × tX12) (h : p_X12_put zT v1 v2 v3 = some r) : kMi l yX12_put cX12_put 5 (some .int) (kR 2 43) D (kty g) [.ref (aT 0), .int v1, .int v2, .int v3] (List.flatten [gX12 g aT zT]) r.1 (List.flatten [gX12 g aT r.2]) := by
  intro sz
  refine k_enter (lv := [(0, .ref (aT 0)), (1, .int v1), (2, .int v2), (3, .int v3)]) RX12 (by decide +kernel) rfl rfl (Nat.le_of_ble_eq_true rfl) ?_
  intro p en s m args below meth c ls hsz X V hl
  obtain ⟨QQ, hQQ⟩ : ∃ q, q = MQ below (va_Qi (fun r' (_ : Unit) => r' = r.1) (fun _ => kE D (List.flatten [gX12 g aT r.2])) (va_A (List.flatten [gX12 g aT zT]) sz)) args s 0 0 (va_A (List.flatten [gX12 g aT zT]) sz) := ⟨_, rfl⟩
  rw [← hQQ]
  obtain ⟨AA, hAA⟩ : ∃ q, q = va_A (List.flatten [gX12 g aT zT]) sz := ⟨_, rfl⟩
  rw [← hAA] at V
  unfold p_X12_put at h
  refine lv_aload_n X.1 X.2.1 dX12_put_0 rfl (lv_at hl 0 rfl) ?_
  obtain ⟨x6, hx6, h⟩ := kb_of h
  refine s_callVi (segs' := [gX12 g aT zT]) (ci := 12) (i0 := 0) X V (c_X12_free l D g aT zT x6 hx6) w_X12_80 ⟨Nat.le_of_ble_eq_true rfl, Nat.le_of_ble_eq_true rfl⟩ ⟨Nat.zero_le _, Nat.zero_le _⟩ rfl rfl rfl rfl [0] rfl rfl (kFst_refl _) rfl rfl hl.1 (Nat.le_of_ble_eq_true rfl) dX12_put_1 (fun H locs V => ?_)
  refine lv_istore (lv' := [(4, .int x6), (0, .ref (aT 0)), (1, .int v1), (2, .int v2), (3, .int v3)]) X.1 X.2.1 dX12_put_4 hl (by decide) rfl (fun ls hl => ?_)
  refine lv_iload_n X.1 X.2.1 dX12_put_6 rfl (lv_at hl 2 rfl) ?_
  refine lv_iload_n X.1 X.2.1 dX12_put_7 rfl (lv_at hl 3 rfl) ?_
  obtain ⟨x7, hx7, h⟩ := kb_of h
  refine s_callSi (segs' := [gX12 g aT zT]) X V (c_X12_isPlace l D g v1 v2 x7 hx7) w_X12_84 ⟨Nat.le_of_ble_eq_true rfl, Nat.le_of_ble_eq_true rfl⟩ ⟨Nat.zero_le _, Nat.zero_le _⟩ rfl [] rfl rfl (kFst_refl _) rfl rfl hl.1 (Nat.le_of_ble_eq_true rfl) dX12_put_8 (fun H locs V => ?_)
  refine lv_if_eq (tgt := 27) X.1 X.2.1 dX12_put_11 (by decide) (fun hc => ?_) (fun hc => ?_)
  · replace h := kif_t hc h
    refine lv_iconst (v := (-1 : Int32)) X.1 X.2.1 dX12_put_27 (by decide) ?_
    obtain rfl := Option.some.inj h
    rw [hAA] at V
    rw [hQQ]
    exact k_iret X V rfl dX12_put_28
  · replace h := kif_f hc h
    refine lv_iload_n X.1 X.2.1 dX12_put_14 rfl (lv_at hl 4 rfl) ?_
    obtain ⟨x8, hx8, h⟩ := kb_of h
    refine s_callSi (segs' := [gX12 g aT zT]) X V (c_X12_isHeap l D g v3 x8 hx8) w_X12_88 ⟨Nat.le_of_ble_eq_true rfl, Nat.le_of_ble_eq_true rfl⟩ ⟨Nat.zero_le _, Nat.zero_le _⟩ rfl [] rfl rfl (kFst_refl _) rfl rfl hl.1 (Nat.le_of_ble_eq_true rfl) dX12_put_15 (fun H locs V => ?_)
    refine lv_if_eq (tgt := 27) X.1 X.2.1 dX12_put_18 (by decide) (fun hc => ?_) (fun hc => ?_)
    · replace h := kif_t hc h
      refine lv_iconst (v := (-1 : Int32)) X.1 X.2.1 dX12_put_27 (by decide) ?_
      obtain rfl := Option.some.inj h
      rw [hAA] at V
      rw [hQQ]
      exact k_iret X V rfl dX12_put_28
    · replace h := kif_f hc h
      refine lv_iload X.1 X.2.1 dX12_put_21 (lv_at hl 0 rfl) ?_
      refine lv_iconst (v := (-1 : Int32)) X.1 X.2.1 dX12_put_23 (by decide) ?_
      refine lv_icmp_ne (tgt := 29) X.1 X.2.1 dX12_put_24 (by decide) (fun hc => ?_) (fun hc => ?_)
      · replace h := kif_f hc h
        refine lv_aload_n X.1 X.2.1 dX12_put_29 rfl (lv_at hl 1 rfl) ?_
        obtain ⟨x9, hx9, h⟩ := kb_of h
        refine s_callVv (segs' := [gX12 g aT x9]) (ci := 12) (i0 := 0) X V (c_X12_keep l D g aT zT x9 hx9) w_X12_92 ⟨Nat.le_of_ble_eq_true rfl, Nat.le_of_ble_eq_true rfl⟩ ⟨Nat.zero_le _, Nat.zero_le _⟩ rfl rfl rfl rfl [0] rfl rfl ⟨gX12_fst, trivial⟩ rfl rfl hl.1 (Nat.le_of_ble_eq_true rfl) dX12_put_30 (fun H locs V => ?_)
        refine lv_aload_n X.1 X.2.1 dX12_put_33 rfl (lv_at hl 1 rfl) ?_
        refine lv_iload X.1 X.2.1 dX12_put_34 (lv_at hl 0 rfl) ?_
        refine lv_iload_n X.1 X.2.1 dX12_put_36 rfl (lv_at hl 2 rfl) ?_
        refine lv_iload_n X.1 X.2.1 dX12_put_37 rfl (lv_at hl 3 rfl) ?_
        refine lv_iload_n X.1 X.2.1 dX12_put_38 rfl (lv_at hl 4 rfl) ?_
        obtain ⟨x10, hx10, h⟩ := kb_of h
        refine s_callVv (segs' := [gX12 g aT x10]) (ci := 12) (i0 := 0) X V (c_X12_lay l D g aT x9 x6 v1 v2 v3 x10 hx10) w_X12_95 ⟨Nat.le_of_ble_eq_true rfl, Nat.le_of_ble_eq_true rfl⟩ ⟨Nat.zero_le _, Nat.zero_le _⟩ rfl rfl rfl rfl [0] rfl rfl ⟨gX12_fst, trivial⟩ rfl rfl hl.1 (Nat.le_of_ble_eq_true rfl) dX12_put_39 (fun H locs V => ?_)
        refine lv_iload X.1 X.2.1 dX12_put_42 (lv_at hl 0 rfl) ?_
        obtain rfl := Option.some.inj h
        rw [hAA] at V
        rw [hQQ]
        exact k_iret X V rfl dX12_put_44
      · replace h := kif_t hc h
        refine lv_iconst (v := (-1 : Int32)) X.1 X.2.1 dX12_put_27 (by decide) ?_
        obtain rfl := Option.some.inj h
        rw [hAA] at V
        rw [hQQ]
        exact k_iret X V rfl dX12_put_28

def p_X12_gone (zT : tX12) (v1 : Int32) : Option (Bool × tX12) :=
  kb (p_X12_isPoint zT v1) (fun x1 => kif ((kz x1) = 0) (some (false, zT)) (kb (p_X12_keep zT) (fun x2 => kg (kii ((0 : Int32) + v1) 170) (kl (x2.1, x2.2.1, va_up x2.2.2.1 0 (upd (x2.2.2.1 0) (((0 : Int32) + v1)).toNatClampNeg (0 : Int32)), x2.2.2.2) (fun z3 => some (true, z3))))))
set_option maxHeartbeats 4000000 in
set_option maxRecDepth 100000 in
theorem c_X12_gone (l : Launch) (D : va_G) (g : kG) (aT : Nat → Nat) (zT : tX12) (v1 : Int32) (r : Bool × tX12) (h : p_X12_gone zT v1 = some r) : kMi l yX12_gone cX12_gone 2 (some .boolean) (kR 2 43) D (kty g) [.ref (aT 0), .int v1] (List.flatten [gX12 g aT zT]) (kz r.1) (List.flatten [gX12 g aT r.2]) := by
  intro sz
  refine k_enter (lv := [(0, .ref (aT 0)), (1, .int v1)]) RX12 (by decide +kernel) rfl rfl (Nat.le_of_ble_eq_true rfl) ?_
  intro p en s m args below meth c ls hsz X V hl
  obtain ⟨QQ, hQQ⟩ : ∃ q, q = MQ below (va_Qi (fun r' (_ : Unit) => r' = kz r.1) (fun _ => kE D (List.flatten [gX12 g aT r.2])) (va_A (List.flatten [gX12 g aT zT]) sz)) args s 0 0 (va_A (List.flatten [gX12 g aT zT]) sz) := ⟨_, rfl⟩
  rw [← hQQ]
  obtain ⟨AA, hAA⟩ : ∃ q, q = va_A (List.flatten [gX12 g aT zT]) sz := ⟨_, rfl⟩
  rw [← hAA] at V
  unfold p_X12_gone at h
  refine lv_aload_n X.1 X.2.1 dX12_gone_0 rfl (lv_at hl 0 rfl) ?_
  refine lv_iload_n X.1 X.2.1 dX12_gone_1 rfl (lv_at hl 1 rfl) ?_
  obtain ⟨x4, hx4, h⟩ := kb_of h
  refine s_callVi (segs' := [gX12 g aT zT]) (ci := 12) (i0 := 0) X V (c_X12_isPoint l D g aT zT v1 x4 hx4) w_X12_99 ⟨Nat.le_of_ble_eq_true rfl, Nat.le_of_ble_eq_true rfl⟩ ⟨Nat.zero_le _, Nat.zero_le _⟩ rfl rfl rfl rfl [0] rfl rfl (kFst_refl _) rfl rfl hl.1 (Nat.le_of_ble_eq_true rfl) dX12_gone_2 (fun H locs V => ?_)
  refine lv_if_ne (tgt := 10) X.1 X.2.1 dX12_gone_5 (by decide) (fun hc => ?_) (fun hc => ?_)
  · replace h := kif_f hc h
    refine lv_aload_n X.1 X.2.1 dX12_gone_10 rfl (lv_at hl 0 rfl) ?_
    obtain ⟨x5, hx5, h⟩ := kb_of h
    refine s_callVv (segs' := [gX12 g aT x5]) (ci := 12) (i0 := 0) X V (c_X12_keep l D g aT zT x5 hx5) w_X12_92 ⟨Nat.le_of_ble_eq_true rfl, Nat.le_of_ble_eq_true rfl⟩ ⟨Nat.zero_le _, Nat.zero_le _⟩ rfl rfl rfl rfl [0] rfl rfl ⟨gX12_fst, trivial⟩ rfl rfl hl.1 (Nat.le_of_ble_eq_true rfl) dX12_gone_11 (fun H locs V => ?_)
    refine lv_aload_n X.1 X.2.1 dX12_gone_14 rfl (lv_at hl 0 rfl) ?_
    refine gf_X12_7 (i := 0) X V rfl dX12_gone_15 ?_
    refine lv_iconst (v := (0 : Int32)) X.1 X.2.1 dX12_gone_18 (by decide) ?_
    refine lv_iload_n X.1 X.2.1 dX12_gone_19 rfl (lv_at hl 1 rfl) ?_
    refine lv_iadd X.1 X.2.1 dX12_gone_20 ?_
    refine lv_iconst (v := (0 : Int32)) X.1 X.2.1 dX12_gone_21 (by decide) ?_
    obtain ⟨hc, h⟩ := kg_of h
    refine as_X12_0 (i := 0) X V rfl hc dX12_gone_22 (fun H locs V => ?_)
    obtain ⟨z6, ez6⟩ : ∃ y, y = (x5.1, x5.2.1, va_up x5.2.2.1 0 (upd (x5.2.2.1 0) (((0 : Int32) + v1)).toNatClampNeg (0 : Int32)), x5.2.2.2) := ⟨_, rfl⟩
    replace h := kl_of ez6 h
    have V : kW D AA s.heap H (List.flatten [gX12 g aT z6]) locs := by rw [ez6]; exact V
    refine lv_iconst (v := (1 : Int32)) X.1 X.2.1 dX12_gone_23 (by decide) ?_
    obtain rfl := Option.some.inj h
    rw [hAA] at V
    rw [hQQ]
    exact k_zret X V (b := true) rfl rfl dX12_gone_24
  · replace h := kif_t hc h
    refine lv_iconst (v := (0 : Int32)) X.1 X.2.1 dX12_gone_8 (by decide) ?_
    obtain rfl := Option.some.inj h
    rw [hAA] at V
    rw [hQQ]
    exact k_zret X V (b := false) rfl rfl dX12_gone_9

def p_X12_moved (zT : tX12) (v1 : Int32) (v2 : Int32) (v3 : Int32) : Option (Bool × tX12) :=
  kb (p_X12_isPoint zT v1) (fun x1 => kif ((kz x1) = 0) (some (false, zT)) (kb (p_X12_isPlace v2 v3) (fun x2 => kif ((kz x2) = 0) (some (false, zT)) (kb (p_X12_keep zT) (fun x3 => kg (kii ((120 : Int32) + v1) 170) (kb (p_X12_lay x3 v1 v2 v3 ((x3.2.2.1 0) (((120 : Int32) + v1)).toNatClampNeg)) (fun x4 => some (true, x4))))))))
set_option maxHeartbeats 4000000 in
set_option maxRecDepth 100000 in
theorem c_X12_moved (l : Launch) (D : va_G) (g : kG) (aT : Nat → Nat) (zT : tX12) (v1 : Int32) (v2 : Int32) (v3 : Int32) (r : Bool × tX12) (h : p_X12_moved zT v1 v2 v3 = some r) : kMi l yX12_moved cX12_moved 4 (some .boolean) (kR 2 43) D (kty g) [.ref (aT 0), .int v1, .int v2, .int v3] (List.flatten [gX12 g aT zT]) (kz r.1) (List.flatten [gX12 g aT r.2]) := by
  intro sz
  refine k_enter (lv := [(0, .ref (aT 0)), (1, .int v1), (2, .int v2), (3, .int v3)]) RX12 (by decide +kernel) rfl rfl (Nat.le_of_ble_eq_true rfl) ?_
  intro p en s m args below meth c ls hsz X V hl
  obtain ⟨QQ, hQQ⟩ : ∃ q, q = MQ below (va_Qi (fun r' (_ : Unit) => r' = kz r.1) (fun _ => kE D (List.flatten [gX12 g aT r.2])) (va_A (List.flatten [gX12 g aT zT]) sz)) args s 0 0 (va_A (List.flatten [gX12 g aT zT]) sz) := ⟨_, rfl⟩
  rw [← hQQ]
  obtain ⟨AA, hAA⟩ : ∃ q, q = va_A (List.flatten [gX12 g aT zT]) sz := ⟨_, rfl⟩
  rw [← hAA] at V
  unfold p_X12_moved at h
  refine lv_aload_n X.1 X.2.1 dX12_moved_0 rfl (lv_at hl 0 rfl) ?_
  refine lv_iload_n X.1 X.2.1 dX12_moved_1 rfl (lv_at hl 1 rfl) ?_
  obtain ⟨x5, hx5, h⟩ := kb_of h
  refine s_callVi (segs' := [gX12 g aT zT]) (ci := 12) (i0 := 0) X V (c_X12_isPoint l D g aT zT v1 x5 hx5) w_X12_99 ⟨Nat.le_of_ble_eq_true rfl, Nat.le_of_ble_eq_true rfl⟩ ⟨Nat.zero_le _, Nat.zero_le _⟩ rfl rfl rfl rfl [0] rfl rfl (kFst_refl _) rfl rfl hl.1 (Nat.le_of_ble_eq_true rfl) dX12_moved_2 (fun H locs V => ?_)
  refine lv_if_eq (tgt := 16) X.1 X.2.1 dX12_moved_5 (by decide) (fun hc => ?_) (fun hc => ?_)
  · replace h := kif_t hc h
    refine lv_iconst (v := (0 : Int32)) X.1 X.2.1 dX12_moved_16 (by decide) ?_
    obtain rfl := Option.some.inj h
    rw [hAA] at V
    rw [hQQ]
    exact k_zret X V (b := false) rfl rfl dX12_moved_17
  · replace h := kif_f hc h
    refine lv_iload_n X.1 X.2.1 dX12_moved_8 rfl (lv_at hl 2 rfl) ?_
    refine lv_iload_n X.1 X.2.1 dX12_moved_9 rfl (lv_at hl 3 rfl) ?_
    obtain ⟨x6, hx6, h⟩ := kb_of h
    refine s_callSi (segs' := [gX12 g aT zT]) X V (c_X12_isPlace l D g v2 v3 x6 hx6) w_X12_84 ⟨Nat.le_of_ble_eq_true rfl, Nat.le_of_ble_eq_true rfl⟩ ⟨Nat.zero_le _, Nat.zero_le _⟩ rfl [] rfl rfl (kFst_refl _) rfl rfl hl.1 (Nat.le_of_ble_eq_true rfl) dX12_moved_10 (fun H locs V => ?_)
    refine lv_if_ne (tgt := 18) X.1 X.2.1 dX12_moved_13 (by decide) (fun hc => ?_) (fun hc => ?_)
    · replace h := kif_f hc h
      refine lv_aload_n X.1 X.2.1 dX12_moved_18 rfl (lv_at hl 0 rfl) ?_
      obtain ⟨x7, hx7, h⟩ := kb_of h
      refine s_callVv (segs' := [gX12 g aT x7]) (ci := 12) (i0 := 0) X V (c_X12_keep l D g aT zT x7 hx7) w_X12_92 ⟨Nat.le_of_ble_eq_true rfl, Nat.le_of_ble_eq_true rfl⟩ ⟨Nat.zero_le _, Nat.zero_le _⟩ rfl rfl rfl rfl [0] rfl rfl ⟨gX12_fst, trivial⟩ rfl rfl hl.1 (Nat.le_of_ble_eq_true rfl) dX12_moved_19 (fun H locs V => ?_)
      refine lv_aload_n X.1 X.2.1 dX12_moved_22 rfl (lv_at hl 0 rfl) ?_
      refine lv_iload_n X.1 X.2.1 dX12_moved_23 rfl (lv_at hl 1 rfl) ?_
      refine lv_iload_n X.1 X.2.1 dX12_moved_24 rfl (lv_at hl 2 rfl) ?_
      refine lv_iload_n X.1 X.2.1 dX12_moved_25 rfl (lv_at hl 3 rfl) ?_
      refine lv_aload_n X.1 X.2.1 dX12_moved_26 rfl (lv_at hl 0 rfl) ?_
      refine gf_X12_7 (i := 0) X V rfl dX12_moved_27 ?_
      refine lv_bipush (v := (120 : Int32)) X.1 X.2.1 dX12_moved_30 (by decide) ?_
      refine lv_iload_n X.1 X.2.1 dX12_moved_32 rfl (lv_at hl 1 rfl) ?_
      refine lv_iadd X.1 X.2.1 dX12_moved_33 ?_
      obtain ⟨hc, h⟩ := kg_of h
      refine al_X12_0 (i := 0) X V rfl hc dX12_moved_34 ?_
      obtain ⟨x8, hx8, h⟩ := kb_of h
      refine s_callVv (segs' := [gX12 g aT x8]) (ci := 12) (i0 := 0) X V (c_X12_lay l D g aT x7 v1 v2 v3 ((x7.2.2.1 0) (((120 : Int32) + v1)).toNatClampNeg) x8 hx8) w_X12_95 ⟨Nat.le_of_ble_eq_true rfl, Nat.le_of_ble_eq_true rfl⟩ ⟨Nat.zero_le _, Nat.zero_le _⟩ rfl rfl rfl rfl [0] rfl rfl ⟨gX12_fst, trivial⟩ rfl rfl hl.1 (Nat.le_of_ble_eq_true rfl) dX12_moved_35 (fun H locs V => ?_)
      refine lv_iconst (v := (1 : Int32)) X.1 X.2.1 dX12_moved_38 (by decide) ?_
      obtain rfl := Option.some.inj h
      rw [hAA] at V
      rw [hQQ]
      exact k_zret X V (b := true) rfl rfl dX12_moved_39
    · replace h := kif_t hc h
      refine lv_iconst (v := (0 : Int32)) X.1 X.2.1 dX12_moved_16 (by decide) ?_
      obtain rfl := Option.some.inj h
      rw [hAA] at V
      rw [hQQ]
      exact k_zret X V (b := false) rfl rfl dX12_moved_17

def p_X12_isPace (v0 : Int32) : Option (Bool) :=
  kb (p_X12_isIn v0 (-3 : Int32) (3 : Int32)) (fun x1 => some x1)
set_option maxHeartbeats 4000000 in
set_option maxRecDepth 100000 in
theorem c_X12_isPace (l : Launch) (D : va_G) (g : kG)  (v0 : Int32) (r : Bool) (h : p_X12_isPace v0 = some r) : kMi l yX12_isPace cX12_isPace 1 (some .boolean) (kR 1 22) D (kty g) [.int v0] (List.flatten ([] : List va_W)) (kz r) (List.flatten ([] : List va_W)) := by
  intro sz
  refine k_enter (lv := [(0, .int v0)]) RX12 (by decide +kernel) rfl rfl (Nat.le_of_ble_eq_true rfl) ?_
  intro p en s m args below meth c ls hsz X V hl
  obtain ⟨QQ, hQQ⟩ : ∃ q, q = MQ below (va_Qi (fun r' (_ : Unit) => r' = kz r) (fun _ => kE D (List.flatten ([] : List va_W))) (va_A (List.flatten ([] : List va_W)) sz)) args s 0 0 (va_A (List.flatten ([] : List va_W)) sz) := ⟨_, rfl⟩
  rw [← hQQ]
  obtain ⟨AA, hAA⟩ : ∃ q, q = va_A (List.flatten ([] : List va_W)) sz := ⟨_, rfl⟩
  rw [← hAA] at V
  unfold p_X12_isPace at h
  refine lv_iload_n X.1 X.2.1 dX12_isPace_0 rfl (lv_at hl 0 rfl) ?_
  refine lv_bipush (v := (-3 : Int32)) X.1 X.2.1 dX12_isPace_1 (by decide) ?_
  refine lv_iconst (v := (3 : Int32)) X.1 X.2.1 dX12_isPace_3 (by decide) ?_
  obtain ⟨x2, hx2, h⟩ := kb_of h
  refine s_callSi (segs' := ([] : List va_W)) X V (c_X12_isIn l D g v0 (-3 : Int32) (3 : Int32) x2 hx2) w_X12_76 ⟨Nat.le_of_ble_eq_true rfl, Nat.le_of_ble_eq_true rfl⟩ ⟨Nat.zero_le _, Nat.zero_le _⟩ rfl [] rfl rfl (kFst_refl _) rfl rfl hl.1 (Nat.le_of_ble_eq_true rfl) dX12_isPace_4 (fun H locs V => ?_)
  obtain rfl := Option.some.inj h
  rw [hAA] at V
  rw [hQQ]
  exact k_zret X V (b := x2) rfl rfl dX12_isPace_7

def p_X12_layPace (zT : tX12) (v1 : Int32) (v2 : Int32) (v3 : Int32) : Option (tX12) :=
  kg (kii ((160 : Int32) + ((2 : Int32) * v1)) 170) (kl (zT.1, zT.2.1, va_up zT.2.2.1 0 (upd (zT.2.2.1 0) (((160 : Int32) + ((2 : Int32) * v1))).toNatClampNeg v2), zT.2.2.2) (fun z1 => kg (kii (((160 : Int32) + ((2 : Int32) * v1)) + (1 : Int32)) 170) (kl (z1.1, z1.2.1, va_up z1.2.2.1 0 (upd (z1.2.2.1 0) ((((160 : Int32) + ((2 : Int32) * v1)) + (1 : Int32))).toNatClampNeg v3), z1.2.2.2) (fun z2 => some z2))))
set_option maxHeartbeats 4000000 in
set_option maxRecDepth 100000 in
theorem c_X12_layPace (l : Launch) (D : va_G) (g : kG) (aT : Nat → Nat) (zT : tX12) (v1 : Int32) (v2 : Int32) (v3 : Int32) (r : tX12) (h : p_X12_layPace zT v1 v2 v3 = some r) : kMv l yX12_layPace cX12_layPace 4 none (kR 0 0) D (kty g) [.ref (aT 0), .int v1, .int v2, .int v3] (List.flatten [gX12 g aT zT]) (List.flatten [gX12 g aT r]) := by
  intro sz
  refine k_enter (lv := [(0, .ref (aT 0)), (1, .int v1), (2, .int v2), (3, .int v3)]) RX12 (by decide +kernel) rfl rfl (Nat.le_of_ble_eq_true rfl) ?_
  intro p en s m args below meth c ls hsz X V hl
  obtain ⟨QQ, hQQ⟩ : ∃ q, q = MQ below (va_Qv (fun (_ : Unit) => True) (fun _ => kE D (List.flatten [gX12 g aT r])) (va_A (List.flatten [gX12 g aT zT]) sz)) args s 0 0 (va_A (List.flatten [gX12 g aT zT]) sz) := ⟨_, rfl⟩
  rw [← hQQ]
  obtain ⟨AA, hAA⟩ : ∃ q, q = va_A (List.flatten [gX12 g aT zT]) sz := ⟨_, rfl⟩
  rw [← hAA] at V
  unfold p_X12_layPace at h
  refine lv_aload_n X.1 X.2.1 dX12_layPace_0 rfl (lv_at hl 0 rfl) ?_
  refine gf_X12_7 (i := 0) X V rfl dX12_layPace_1 ?_
  refine lv_sipush (v := (160 : Int32)) X.1 X.2.1 dX12_layPace_4 (by decide) ?_
  refine lv_iconst (v := (2 : Int32)) X.1 X.2.1 dX12_layPace_7 (by decide) ?_
  refine lv_iload_n X.1 X.2.1 dX12_layPace_8 rfl (lv_at hl 1 rfl) ?_
  refine lv_imul X.1 X.2.1 dX12_layPace_9 ?_
  refine lv_iadd X.1 X.2.1 dX12_layPace_10 ?_
  refine lv_iload_n X.1 X.2.1 dX12_layPace_11 rfl (lv_at hl 2 rfl) ?_
  obtain ⟨hc, h⟩ := kg_of h
  refine as_X12_0 (i := 0) X V rfl hc dX12_layPace_12 (fun H locs V => ?_)
  obtain ⟨z3, ez3⟩ : ∃ y, y = (zT.1, zT.2.1, va_up zT.2.2.1 0 (upd (zT.2.2.1 0) (((160 : Int32) + ((2 : Int32) * v1))).toNatClampNeg v2), zT.2.2.2) := ⟨_, rfl⟩
  replace h := kl_of ez3 h
  have V : kW D AA s.heap H (List.flatten [gX12 g aT z3]) locs := by rw [ez3]; exact V
  refine lv_aload_n X.1 X.2.1 dX12_layPace_13 rfl (lv_at hl 0 rfl) ?_
  refine gf_X12_7 (i := 0) X V rfl dX12_layPace_14 ?_
  refine lv_sipush (v := (160 : Int32)) X.1 X.2.1 dX12_layPace_17 (by decide) ?_
  refine lv_iconst (v := (2 : Int32)) X.1 X.2.1 dX12_layPace_20 (by decide) ?_
  refine lv_iload_n X.1 X.2.1 dX12_layPace_21 rfl (lv_at hl 1 rfl) ?_
  refine lv_imul X.1 X.2.1 dX12_layPace_22 ?_
  refine lv_iadd X.1 X.2.1 dX12_layPace_23 ?_
  refine lv_iconst (v := (1 : Int32)) X.1 X.2.1 dX12_layPace_24 (by decide) ?_
  refine lv_iadd X.1 X.2.1 dX12_layPace_25 ?_
  refine lv_iload_n X.1 X.2.1 dX12_layPace_26 rfl (lv_at hl 3 rfl) ?_
  obtain ⟨hc, h⟩ := kg_of h
  refine as_X12_0 (i := 0) X V rfl hc dX12_layPace_27 (fun H locs V => ?_)
  obtain ⟨z4, ez4⟩ : ∃ y, y = (z3.1, z3.2.1, va_up z3.2.2.1 0 (upd (z3.2.2.1 0) ((((160 : Int32) + ((2 : Int32) * v1)) + (1 : Int32))).toNatClampNeg v3), z3.2.2.2) := ⟨_, rfl⟩
  replace h := kl_of ez4 h
  have V : kW D AA s.heap H (List.flatten [gX12 g aT z4]) locs := by rw [ez4]; exact V
  obtain rfl := Option.some.inj h
  rw [hAA] at V
  rw [hQQ]
  exact k_vret X V dX12_layPace_28

def p_X12_pace (zT : tX12) (v1 : Int32) (v2 : Int32) (v3 : Int32) : Option (Bool × tX12) :=
  kb (p_X12_isHeap v1) (fun x1 => kif ((kz x1) = 0) (some (false, zT)) (kb (p_X12_isPace v2) (fun x2 => kif ((kz x2) = 0) (some (false, zT)) (kb (p_X12_isPace v3) (fun x3 => kif ((kz x3) = 0) (some (false, zT)) (kb (p_X12_keep zT) (fun x4 => kb (p_X12_layPace x4 v1 v2 v3) (fun x5 => some (true, x5)))))))))
set_option maxHeartbeats 4000000 in
set_option maxRecDepth 100000 in
theorem c_X12_pace (l : Launch) (D : va_G) (g : kG) (aT : Nat → Nat) (zT : tX12) (v1 : Int32) (v2 : Int32) (v3 : Int32) (r : Bool × tX12) (h : p_X12_pace zT v1 v2 v3 = some r) : kMi l yX12_pace cX12_pace 4 (some .boolean) (kR 2 42) D (kty g) [.ref (aT 0), .int v1, .int v2, .int v3] (List.flatten [gX12 g aT zT]) (kz r.1) (List.flatten [gX12 g aT r.2]) := by
  intro sz
  refine k_enter (lv := [(0, .ref (aT 0)), (1, .int v1), (2, .int v2), (3, .int v3)]) RX12 (by decide +kernel) rfl rfl (Nat.le_of_ble_eq_true rfl) ?_
  intro p en s m args below meth c ls hsz X V hl
  obtain ⟨QQ, hQQ⟩ : ∃ q, q = MQ below (va_Qi (fun r' (_ : Unit) => r' = kz r.1) (fun _ => kE D (List.flatten [gX12 g aT r.2])) (va_A (List.flatten [gX12 g aT zT]) sz)) args s 0 0 (va_A (List.flatten [gX12 g aT zT]) sz) := ⟨_, rfl⟩
  rw [← hQQ]
  obtain ⟨AA, hAA⟩ : ∃ q, q = va_A (List.flatten [gX12 g aT zT]) sz := ⟨_, rfl⟩
  rw [← hAA] at V
  unfold p_X12_pace at h
  refine lv_iload_n X.1 X.2.1 dX12_pace_0 rfl (lv_at hl 1 rfl) ?_
  obtain ⟨x6, hx6, h⟩ := kb_of h
  refine s_callSi (segs' := [gX12 g aT zT]) X V (c_X12_isHeap l D g v1 x6 hx6) w_X12_88 ⟨Nat.le_of_ble_eq_true rfl, Nat.le_of_ble_eq_true rfl⟩ ⟨Nat.zero_le _, Nat.zero_le _⟩ rfl [] rfl rfl (kFst_refl _) rfl rfl hl.1 (Nat.le_of_ble_eq_true rfl) dX12_pace_1 (fun H locs V => ?_)
  refine lv_if_eq (tgt := 21) X.1 X.2.1 dX12_pace_4 (by decide) (fun hc => ?_) (fun hc => ?_)
  · replace h := kif_t hc h
    refine lv_iconst (v := (0 : Int32)) X.1 X.2.1 dX12_pace_21 (by decide) ?_
    obtain rfl := Option.some.inj h
    rw [hAA] at V
    rw [hQQ]
    exact k_zret X V (b := false) rfl rfl dX12_pace_22
  · replace h := kif_f hc h
    refine lv_iload_n X.1 X.2.1 dX12_pace_7 rfl (lv_at hl 2 rfl) ?_
    obtain ⟨x7, hx7, h⟩ := kb_of h
    refine s_callSi (segs' := [gX12 g aT zT]) X V (c_X12_isPace l D g v2 x7 hx7) w_X12_102 ⟨Nat.le_of_ble_eq_true rfl, Nat.le_of_ble_eq_true rfl⟩ ⟨Nat.zero_le _, Nat.zero_le _⟩ rfl [] rfl rfl (kFst_refl _) rfl rfl hl.1 (Nat.le_of_ble_eq_true rfl) dX12_pace_8 (fun H locs V => ?_)
    refine lv_if_eq (tgt := 21) X.1 X.2.1 dX12_pace_11 (by decide) (fun hc => ?_) (fun hc => ?_)
    · replace h := kif_t hc h
      refine lv_iconst (v := (0 : Int32)) X.1 X.2.1 dX12_pace_21 (by decide) ?_
      obtain rfl := Option.some.inj h
      rw [hAA] at V
      rw [hQQ]
      exact k_zret X V (b := false) rfl rfl dX12_pace_22
    · replace h := kif_f hc h
      refine lv_iload_n X.1 X.2.1 dX12_pace_14 rfl (lv_at hl 3 rfl) ?_
      obtain ⟨x8, hx8, h⟩ := kb_of h
      refine s_callSi (segs' := [gX12 g aT zT]) X V (c_X12_isPace l D g v3 x8 hx8) w_X12_102 ⟨Nat.le_of_ble_eq_true rfl, Nat.le_of_ble_eq_true rfl⟩ ⟨Nat.zero_le _, Nat.zero_le _⟩ rfl [] rfl rfl (kFst_refl _) rfl rfl hl.1 (Nat.le_of_ble_eq_true rfl) dX12_pace_15 (fun H locs V => ?_)
      refine lv_if_ne (tgt := 23) X.1 X.2.1 dX12_pace_18 (by decide) (fun hc => ?_) (fun hc => ?_)
      · replace h := kif_f hc h
        refine lv_aload_n X.1 X.2.1 dX12_pace_23 rfl (lv_at hl 0 rfl) ?_
        obtain ⟨x9, hx9, h⟩ := kb_of h
        refine s_callVv (segs' := [gX12 g aT x9]) (ci := 12) (i0 := 0) X V (c_X12_keep l D g aT zT x9 hx9) w_X12_92 ⟨Nat.le_of_ble_eq_true rfl, Nat.le_of_ble_eq_true rfl⟩ ⟨Nat.zero_le _, Nat.zero_le _⟩ rfl rfl rfl rfl [0] rfl rfl ⟨gX12_fst, trivial⟩ rfl rfl hl.1 (Nat.le_of_ble_eq_true rfl) dX12_pace_24 (fun H locs V => ?_)
        refine lv_aload_n X.1 X.2.1 dX12_pace_27 rfl (lv_at hl 0 rfl) ?_
        refine lv_iload_n X.1 X.2.1 dX12_pace_28 rfl (lv_at hl 1 rfl) ?_
        refine lv_iload_n X.1 X.2.1 dX12_pace_29 rfl (lv_at hl 2 rfl) ?_
        refine lv_iload_n X.1 X.2.1 dX12_pace_30 rfl (lv_at hl 3 rfl) ?_
        obtain ⟨x10, hx10, h⟩ := kb_of h
        refine s_callVv (segs' := [gX12 g aT x10]) (ci := 12) (i0 := 0) X V (c_X12_layPace l D g aT x9 v1 v2 v3 x10 hx10) w_X12_105 ⟨Nat.le_of_ble_eq_true rfl, Nat.le_of_ble_eq_true rfl⟩ ⟨Nat.zero_le _, Nat.zero_le _⟩ rfl rfl rfl rfl [0] rfl rfl ⟨gX12_fst, trivial⟩ rfl rfl hl.1 (Nat.le_of_ble_eq_true rfl) dX12_pace_31 (fun H locs V => ?_)
        refine lv_iconst (v := (1 : Int32)) X.1 X.2.1 dX12_pace_34 (by decide) ?_
        obtain rfl := Option.some.inj h
        rw [hAA] at V
        rw [hQQ]
        exact k_zret X V (b := true) rfl rfl dX12_pace_35
      · replace h := kif_t hc h
        refine lv_iconst (v := (0 : Int32)) X.1 X.2.1 dX12_pace_21 (by decide) ?_
        obtain rfl := Option.some.inj h
        rw [hAA] at V
        rw [hQQ]
        exact k_zret X V (b := false) rfl rfl dX12_pace_22

def p_X12_tick (zT : tX12) (v1 : Int32) : Option (Int32 × tX12) :=
  kb (p_X12_isIn v1 (0 : Int32) (20 : Int32)) (fun x1 => kif ((kz x1) = 0) (some ((-1 : Int32), zT)) (kg (kii (168 : Int32) 170) (kl ((zT.2.2.1 0) (168 : Int32).toNatClampNeg) (fun y2 => kb (p_X12_keep zT) (fun x3 => kg (kii (168 : Int32) 170) (kl (x3.1, x3.2.1, va_up x3.2.2.1 0 (upd (x3.2.2.1 0) ((168 : Int32)).toNatClampNeg v1), x3.2.2.2) (fun z4 => some (y2, z4))))))))
set_option maxHeartbeats 4000000 in
set_option maxRecDepth 100000 in
theorem c_X12_tick (l : Launch) (D : va_G) (g : kG) (aT : Nat → Nat) (zT : tX12) (v1 : Int32) (r : Int32 × tX12) (h : p_X12_tick zT v1 = some r) : kMi l yX12_tick cX12_tick 3 (some .int) (kR 1 22) D (kty g) [.ref (aT 0), .int v1] (List.flatten [gX12 g aT zT]) r.1 (List.flatten [gX12 g aT r.2]) := by
  intro sz
  refine k_enter (lv := [(0, .ref (aT 0)), (1, .int v1)]) RX12 (by decide +kernel) rfl rfl (Nat.le_of_ble_eq_true rfl) ?_
  intro p en s m args below meth c ls hsz X V hl
  obtain ⟨QQ, hQQ⟩ : ∃ q, q = MQ below (va_Qi (fun r' (_ : Unit) => r' = r.1) (fun _ => kE D (List.flatten [gX12 g aT r.2])) (va_A (List.flatten [gX12 g aT zT]) sz)) args s 0 0 (va_A (List.flatten [gX12 g aT zT]) sz) := ⟨_, rfl⟩
  rw [← hQQ]
  obtain ⟨AA, hAA⟩ : ∃ q, q = va_A (List.flatten [gX12 g aT zT]) sz := ⟨_, rfl⟩
  rw [← hAA] at V
  unfold p_X12_tick at h
  refine lv_iload_n X.1 X.2.1 dX12_tick_0 rfl (lv_at hl 1 rfl) ?_
  refine lv_iconst (v := (0 : Int32)) X.1 X.2.1 dX12_tick_1 (by decide) ?_
  refine lv_bipush (v := (20 : Int32)) X.1 X.2.1 dX12_tick_2 (by decide) ?_
  obtain ⟨x5, hx5, h⟩ := kb_of h
  refine s_callSi (segs' := [gX12 g aT zT]) X V (c_X12_isIn l D g v1 (0 : Int32) (20 : Int32) x5 hx5) w_X12_76 ⟨Nat.le_of_ble_eq_true rfl, Nat.le_of_ble_eq_true rfl⟩ ⟨Nat.zero_le _, Nat.zero_le _⟩ rfl [] rfl rfl (kFst_refl _) rfl rfl hl.1 (Nat.le_of_ble_eq_true rfl) dX12_tick_4 (fun H locs V => ?_)
  refine lv_if_ne (tgt := 12) X.1 X.2.1 dX12_tick_7 (by decide) (fun hc => ?_) (fun hc => ?_)
  · replace h := kif_f hc h
    refine lv_aload_n X.1 X.2.1 dX12_tick_12 rfl (lv_at hl 0 rfl) ?_
    refine gf_X12_7 (i := 0) X V rfl dX12_tick_13 ?_
    refine lv_sipush (v := (168 : Int32)) X.1 X.2.1 dX12_tick_16 (by decide) ?_
    obtain ⟨hc, h⟩ := kg_of h
    refine al_X12_0 (i := 0) X V rfl hc dX12_tick_19 ?_
    refine lv_topi (fun y6 ey6 => ?_)
    replace h := kl_of ey6 h
    refine lv_istore_n (lv' := [(2, .int y6), (0, .ref (aT 0)), (1, .int v1)]) X.1 X.2.1 dX12_tick_20 rfl hl (by decide) rfl (fun ls hl => ?_)
    refine lv_aload_n X.1 X.2.1 dX12_tick_21 rfl (lv_at hl 1 rfl) ?_
    obtain ⟨x7, hx7, h⟩ := kb_of h
    refine s_callVv (segs' := [gX12 g aT x7]) (ci := 12) (i0 := 0) X V (c_X12_keep l D g aT zT x7 hx7) w_X12_92 ⟨Nat.le_of_ble_eq_true rfl, Nat.le_of_ble_eq_true rfl⟩ ⟨Nat.zero_le _, Nat.zero_le _⟩ rfl rfl rfl rfl [0] rfl rfl ⟨gX12_fst, trivial⟩ rfl rfl hl.1 (Nat.le_of_ble_eq_true rfl) dX12_tick_22 (fun H locs V => ?_)
    refine lv_aload_n X.1 X.2.1 dX12_tick_25 rfl (lv_at hl 1 rfl) ?_
    refine gf_X12_7 (i := 0) X V rfl dX12_tick_26 ?_
    refine lv_sipush (v := (168 : Int32)) X.1 X.2.1 dX12_tick_29 (by decide) ?_
    refine lv_iload_n X.1 X.2.1 dX12_tick_32 rfl (lv_at hl 2 rfl) ?_
    obtain ⟨hc, h⟩ := kg_of h
    refine as_X12_0 (i := 0) X V rfl hc dX12_tick_33 (fun H locs V => ?_)
    obtain ⟨z8, ez8⟩ : ∃ y, y = (x7.1, x7.2.1, va_up x7.2.2.1 0 (upd (x7.2.2.1 0) ((168 : Int32)).toNatClampNeg v1), x7.2.2.2) := ⟨_, rfl⟩
    replace h := kl_of ez8 h
    have V : kW D AA s.heap H (List.flatten [gX12 g aT z8]) locs := by rw [ez8]; exact V
    refine lv_iload_n X.1 X.2.1 dX12_tick_34 rfl (lv_at hl 0 rfl) ?_
    obtain rfl := Option.some.inj h
    rw [hAA] at V
    rw [hQQ]
    exact k_iret X V rfl dX12_tick_35
  · replace h := kif_t hc h
    refine lv_iconst (v := (-1 : Int32)) X.1 X.2.1 dX12_tick_10 (by decide) ?_
    obtain rfl := Option.some.inj h
    rw [hAA] at V
    rw [hQQ]
    exact k_iret X V rfl dX12_tick_11

def p_X12_countPoints_L4 (zT : tX12) (v1 : Int32) (s : Int32 × Int32) : Option (Nat × (Int32 × Int32)) :=
  kif ((40 : Int32) ≤ s.2) (some (54, (s.1, s.2))) (kg (kii ((0 : Int32) + s.2) 170) (kif (((zT.2.2.1 0) (((0 : Int32) + s.2)).toNatClampNeg) = (1 : Int32)) (kif (v1 = (-1 : Int32)) (kl (s.1 + (1 : Int32)) (fun y1 => kl (s.2 + (1 : Int32)) (fun y2 => some (4, (y1, y2))))) (kg (kii ((120 : Int32) + s.2) 170) (kif (((zT.2.2.1 0) (((120 : Int32) + s.2)).toNatClampNeg) = v1) (kl (s.1 + (1 : Int32)) (fun y3 => kl (s.2 + (1 : Int32)) (fun y4 => some (4, (y3, y4))))) (kl (s.1 + (0 : Int32)) (fun y5 => kl (s.2 + (1 : Int32)) (fun y6 => some (4, (y5, y6)))))))) (kl (s.1 + (0 : Int32)) (fun y7 => kl (s.2 + (1 : Int32)) (fun y8 => some (4, (y7, y8)))))))
def p_X12_countPoints (zT : tX12) (v1 : Int32) : Option (Int32) :=
  kb (kitr 4 (fun q => p_X12_countPoints_L4 zT v1 q) kF ((0 : Int32), (0 : Int32))) (fun x9 => kg (x9.1 = 54) (some x9.2.1))
set_option maxHeartbeats 4000000 in
set_option maxRecDepth 100000 in
theorem c_X12_countPoints (l : Launch) (D : va_G) (g : kG) (aT : Nat → Nat) (zT : tX12) (v1 : Int32) (r : Int32) (h : p_X12_countPoints zT v1 = some r) : kMi l yX12_countPoints cX12_countPoints 4 (some .int) (kR 0 0) D (kty g) [.ref (aT 0), .int v1] (List.flatten [gX12 g aT zT]) r (List.flatten [gX12 g aT zT]) := by
  intro sz
  refine k_enter (lv := [(0, .ref (aT 0)), (1, .int v1)]) RX12 (by decide +kernel) rfl rfl (Nat.le_of_ble_eq_true rfl) ?_
  intro p en s m args below meth c ls hsz X V hl
  obtain ⟨QQ, hQQ⟩ : ∃ q, q = MQ below (va_Qi (fun r' (_ : Unit) => r' = r) (fun _ => kE D (List.flatten [gX12 g aT zT])) (va_A (List.flatten [gX12 g aT zT]) sz)) args s 0 0 (va_A (List.flatten [gX12 g aT zT]) sz) := ⟨_, rfl⟩
  rw [← hQQ]
  obtain ⟨AA, hAA⟩ : ∃ q, q = va_A (List.flatten [gX12 g aT zT]) sz := ⟨_, rfl⟩
  rw [← hAA] at V
  unfold p_X12_countPoints at h
  refine lv_iconst (v := (0 : Int32)) X.1 X.2.1 dX12_countPoints_0 (by decide) ?_
  refine lv_istore_n (lv' := [(2, .int (0 : Int32)), (0, .ref (aT 0)), (1, .int v1)]) X.1 X.2.1 dX12_countPoints_1 rfl hl (by decide) rfl (fun ls hl => ?_)
  refine lv_iconst (v := (0 : Int32)) X.1 X.2.1 dX12_countPoints_2 (by decide) ?_
  refine lv_istore_n (lv' := [(3, .int (0 : Int32)), (2, .int (0 : Int32)), (0, .ref (aT 0)), (1, .int v1)]) X.1 X.2.1 dX12_countPoints_3 rfl hl (by decide) rfl (fun ls hl => ?_)
  obtain ⟨x10, hx10, h⟩ := kb_of h
  refine (kitr_go (hd := 4) (body := fun q => p_X12_countPoints_L4 zT v1 q) (G := (fun e => ∀ (H : Heap) (locs : List Loc) (ls : Array Slot), kW D AA s.heap H (List.flatten [gX12 g aT zT]) locs → lv_has ls 4 [(0, .ref (aT 0)), (1, .int v1), (2, .int e.2.1), (3, .int e.2.2)] → W p l en (kR 0 0) s m args below meth c H locs 0 0 QQ (F0 m e.1 ls []))) (fun s11 e12 hb13 hG14 => ?_) kF _ x10 hx10 ?_) _ _ _ V (lv_sub hl [2, 3, 1, 0] rfl)
  · intro H locs ls V hl
    show W p l en (kR 0 0) s m args below meth c H locs 0 0 QQ (F0 m 4 ls [])
    have h : p_X12_countPoints_L4 zT v1 s11 = some e12 := hb13
    unfold p_X12_countPoints_L4 at h
    have V : kW D AA s.heap H (List.flatten [gX12 g aT zT]) locs := V
    have hl : lv_has ls 4 [(0, .ref (aT 0)), (1, .int v1), (2, .int s11.1), (3, .int s11.2)] := hl
    refine lv_iload_n X.1 X.2.1 dX12_countPoints_4 rfl (lv_at hl 3 rfl) ?_
    refine lv_bipush (v := (40 : Int32)) X.1 X.2.1 dX12_countPoints_5 (by decide) ?_
    refine lv_icmp_ge (tgt := 54) X.1 X.2.1 dX12_countPoints_7 (by decide) (fun hc => ?_) (fun hc => ?_)
    · replace h := kif_t hc h
      obtain rfl := Option.some.inj h
      exact hG14 _ _ _ V (lv_sub hl [0, 1, 2, 3] rfl)
    · replace h := kif_f hc h
      refine lv_iload_n X.1 X.2.1 dX12_countPoints_10 rfl (lv_at hl 2 rfl) ?_
      refine lv_aload_n X.1 X.2.1 dX12_countPoints_11 rfl (lv_at hl 0 rfl) ?_
      refine gf_X12_7 (i := 0) X V rfl dX12_countPoints_12 ?_
      refine lv_iconst (v := (0 : Int32)) X.1 X.2.1 dX12_countPoints_15 (by decide) ?_
      refine lv_iload_n X.1 X.2.1 dX12_countPoints_16 rfl (lv_at hl 3 rfl) ?_
      refine lv_iadd X.1 X.2.1 dX12_countPoints_17 ?_
      obtain ⟨hc, h⟩ := kg_of h
      refine al_X12_0 (i := 0) X V rfl hc dX12_countPoints_18 ?_
      refine lv_iconst (v := (1 : Int32)) X.1 X.2.1 dX12_countPoints_19 (by decide) ?_
      refine lv_icmp_ne (tgt := 45) X.1 X.2.1 dX12_countPoints_20 (by decide) (fun hc => ?_) (fun hc => ?_)
      · replace h := kif_f hc h
        refine lv_iconst (v := (0 : Int32)) X.1 X.2.1 dX12_countPoints_45 (by decide) ?_
        refine lv_iadd X.1 X.2.1 dX12_countPoints_46 ?_
        refine lv_topi (fun y15 ey15 => ?_)
        replace h := kl_of ey15 h
        refine lv_istore_n (lv' := [(2, .int y15), (0, .ref (aT 0)), (1, .int v1), (3, .int s11.2)]) X.1 X.2.1 dX12_countPoints_47 rfl hl (by decide) rfl (fun ls hl => ?_)
        obtain ⟨y16, ey16⟩ : ∃ y : Int32, y = (s11.2 + (1 : Int32)) := ⟨_, rfl⟩
        replace h := kl_of ey16 h
        refine lv_iinc (v := y16) (lv' := [(3, .int y16), (2, .int y15), (0, .ref (aT 0)), (1, .int v1)]) X.1 X.2.1 dX12_countPoints_48 hl (k := 3) rfl (by rw [ey16]; rfl) (by decide) rfl (fun ls hl => ?_)
        refine lv_goto (tgt := 4) X.1 X.2.1 dX12_countPoints_51 (by decide) ?_
        obtain rfl := Option.some.inj h
        exact hG14 _ _ _ V (lv_sub hl [2, 3, 1, 0] rfl)
      · replace h := kif_t hc h
        refine lv_iload_n X.1 X.2.1 dX12_countPoints_23 rfl (lv_at hl 1 rfl) ?_
        refine lv_iconst (v := (-1 : Int32)) X.1 X.2.1 dX12_countPoints_24 (by decide) ?_
        refine lv_icmp_eq (tgt := 41) X.1 X.2.1 dX12_countPoints_25 (by decide) (fun hc => ?_) (fun hc => ?_)
        · replace h := kif_t hc h
          refine lv_iconst (v := (1 : Int32)) X.1 X.2.1 dX12_countPoints_41 (by decide) ?_
          refine lv_goto (tgt := 46) X.1 X.2.1 dX12_countPoints_42 (by decide) ?_
          refine lv_iadd X.1 X.2.1 dX12_countPoints_46 ?_
          refine lv_topi (fun y17 ey17 => ?_)
          replace h := kl_of ey17 h
          refine lv_istore_n (lv' := [(2, .int y17), (0, .ref (aT 0)), (1, .int v1), (3, .int s11.2)]) X.1 X.2.1 dX12_countPoints_47 rfl hl (by decide) rfl (fun ls hl => ?_)
          obtain ⟨y18, ey18⟩ : ∃ y : Int32, y = (s11.2 + (1 : Int32)) := ⟨_, rfl⟩
          replace h := kl_of ey18 h
          refine lv_iinc (v := y18) (lv' := [(3, .int y18), (2, .int y17), (0, .ref (aT 0)), (1, .int v1)]) X.1 X.2.1 dX12_countPoints_48 hl (k := 3) rfl (by rw [ey18]; rfl) (by decide) rfl (fun ls hl => ?_)
          refine lv_goto (tgt := 4) X.1 X.2.1 dX12_countPoints_51 (by decide) ?_
          obtain rfl := Option.some.inj h
          exact hG14 _ _ _ V (lv_sub hl [2, 3, 1, 0] rfl)
        · replace h := kif_f hc h
          refine lv_aload_n X.1 X.2.1 dX12_countPoints_28 rfl (lv_at hl 0 rfl) ?_
          refine gf_X12_7 (i := 0) X V rfl dX12_countPoints_29 ?_
          refine lv_bipush (v := (120 : Int32)) X.1 X.2.1 dX12_countPoints_32 (by decide) ?_
          refine lv_iload_n X.1 X.2.1 dX12_countPoints_34 rfl (lv_at hl 3 rfl) ?_
          refine lv_iadd X.1 X.2.1 dX12_countPoints_35 ?_
          obtain ⟨hc, h⟩ := kg_of h
          refine al_X12_0 (i := 0) X V rfl hc dX12_countPoints_36 ?_
          refine lv_iload_n X.1 X.2.1 dX12_countPoints_37 rfl (lv_at hl 1 rfl) ?_
          refine lv_icmp_ne (tgt := 45) X.1 X.2.1 dX12_countPoints_38 (by decide) (fun hc => ?_) (fun hc => ?_)
          · replace h := kif_f hc h
            refine lv_iconst (v := (0 : Int32)) X.1 X.2.1 dX12_countPoints_45 (by decide) ?_
            refine lv_iadd X.1 X.2.1 dX12_countPoints_46 ?_
            refine lv_topi (fun y19 ey19 => ?_)
            replace h := kl_of ey19 h
            refine lv_istore_n (lv' := [(2, .int y19), (0, .ref (aT 0)), (1, .int v1), (3, .int s11.2)]) X.1 X.2.1 dX12_countPoints_47 rfl hl (by decide) rfl (fun ls hl => ?_)
            obtain ⟨y20, ey20⟩ : ∃ y : Int32, y = (s11.2 + (1 : Int32)) := ⟨_, rfl⟩
            replace h := kl_of ey20 h
            refine lv_iinc (v := y20) (lv' := [(3, .int y20), (2, .int y19), (0, .ref (aT 0)), (1, .int v1)]) X.1 X.2.1 dX12_countPoints_48 hl (k := 3) rfl (by rw [ey20]; rfl) (by decide) rfl (fun ls hl => ?_)
            refine lv_goto (tgt := 4) X.1 X.2.1 dX12_countPoints_51 (by decide) ?_
            obtain rfl := Option.some.inj h
            exact hG14 _ _ _ V (lv_sub hl [2, 3, 1, 0] rfl)
          · replace h := kif_t hc h
            refine lv_iconst (v := (1 : Int32)) X.1 X.2.1 dX12_countPoints_41 (by decide) ?_
            refine lv_goto (tgt := 46) X.1 X.2.1 dX12_countPoints_42 (by decide) ?_
            refine lv_iadd X.1 X.2.1 dX12_countPoints_46 ?_
            refine lv_topi (fun y21 ey21 => ?_)
            replace h := kl_of ey21 h
            refine lv_istore_n (lv' := [(2, .int y21), (0, .ref (aT 0)), (1, .int v1), (3, .int s11.2)]) X.1 X.2.1 dX12_countPoints_47 rfl hl (by decide) rfl (fun ls hl => ?_)
            obtain ⟨y22, ey22⟩ : ∃ y : Int32, y = (s11.2 + (1 : Int32)) := ⟨_, rfl⟩
            replace h := kl_of ey22 h
            refine lv_iinc (v := y22) (lv' := [(3, .int y22), (2, .int y21), (0, .ref (aT 0)), (1, .int v1)]) X.1 X.2.1 dX12_countPoints_48 hl (k := 3) rfl (by rw [ey22]; rfl) (by decide) rfl (fun ls hl => ?_)
            refine lv_goto (tgt := 4) X.1 X.2.1 dX12_countPoints_51 (by decide) ?_
            obtain rfl := Option.some.inj h
            exact hG14 _ _ _ V (lv_sub hl [2, 3, 1, 0] rfl)
  · intro H locs ls V hl
    have V : kW D AA s.heap H (List.flatten [gX12 g aT zT]) locs := V
    have hl : lv_has ls 4 [(0, .ref (aT 0)), (1, .int v1), (2, .int x10.2.1), (3, .int x10.2.2)] := hl
    obtain ⟨hc, h⟩ := kg_of h
    refine W.eq (g2 := F0 m 54 ls []) (by rw [hc]) ?_
    refine lv_iload_n X.1 X.2.1 dX12_countPoints_54 rfl (lv_at hl 2 rfl) ?_
    obtain rfl := Option.some.inj h
    rw [hAA] at V
    rw [hQQ]
    exact k_iret X V rfl dX12_countPoints_55
