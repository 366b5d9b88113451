def p_X12_isOf (zT : tX12) (v1 : Int32) (v2 : Int32) : Option (Bool) :=
  kg (kii ((0 : Int32) + v2) 170) (kif (((zT.2.2.1 0) (((0 : Int32) + v2)).toNatClampNeg) = (1 : Int32)) (kg (kii ((120 : Int32) + v2) 170) (kif (((v1 >>> (((zT.2.2.1 0) (((120 : Int32) + v2)).toNatClampNeg) &&& 31)) &&& (1 : Int32)) = (1 : Int32)) (some true) (some false))) (some false))
set_option maxHeartbeats 4000000 in
set_option maxRecDepth 100000 in
theorem c_X12_isOf (l : Launch) (D : va_G) (g : kG) (aT : Nat → Nat) (zT : tX12) (v1 : Int32) (v2 : Int32) (r : Bool) (h : p_X12_isOf zT v1 v2 = some r) : kMi l yX12_isOf cX12_isOf 3 (some .boolean) (kR 0 0) D (kty g) [.ref (aT 0), .int v1, .int v2] (List.flatten [gX12 g aT zT]) (kz r) (List.flatten [gX12 g aT zT]) := by
  intro sz
  refine k_enter (lv := [(0, .ref (aT 0)), (1, .int v1), (2, .int v2)]) RX12 (by decide +kernel) rfl rfl (Nat.le_of_ble_eq_true rfl) ?_
  intro p en s m args below meth c ls hsz X V hl
  obtain ⟨QQ, hQQ⟩ : ∃ q, q = MQ below (va_Qi (fun r' (_ : Unit) => r' = kz r) (fun _ => kE D (List.flatten [gX12 g aT zT])) (va_A (List.flatten [gX12 g aT zT]) sz)) args s 0 0 (va_A (List.flatten [gX12 g aT zT]) sz) := ⟨_, rfl⟩
  rw [← hQQ]
  obtain ⟨AA, hAA⟩ : ∃ q, q = va_A (List.flatten [gX12 g aT zT]) sz := ⟨_, rfl⟩
  rw [← hAA] at V
  unfold p_X12_isOf at h
  refine lv_aload_n X.1 X.2.1 dX12_isOf_0 rfl (lv_at hl 0 rfl) ?_
  refine gf_X12_7 (i := 0) X V rfl dX12_isOf_1 ?_
  refine lv_iconst (v := (0 : Int32)) X.1 X.2.1 dX12_isOf_4 (by decide) ?_
  refine lv_iload_n X.1 X.2.1 dX12_isOf_5 rfl (lv_at hl 2 rfl) ?_
  refine lv_iadd X.1 X.2.1 dX12_isOf_6 ?_
  obtain ⟨hc, h⟩ := kg_of h
  refine al_X12_0 (i := 0) X V rfl hc dX12_isOf_7 ?_
  refine lv_iconst (v := (1 : Int32)) X.1 X.2.1 dX12_isOf_8 (by decide) ?_
  refine lv_icmp_ne (tgt := 33) X.1 X.2.1 dX12_isOf_9 (by decide) (fun hc => ?_) (fun hc => ?_)
  · replace h := kif_f hc h
    refine lv_iconst (v := (0 : Int32)) X.1 X.2.1 dX12_isOf_33 (by decide) ?_
    obtain rfl := Option.some.inj h
    rw [hAA] at V
    rw [hQQ]
    exact k_zret X V (b := false) rfl rfl dX12_isOf_34
  · replace h := kif_t hc h
    refine lv_iload_n X.1 X.2.1 dX12_isOf_12 rfl (lv_at hl 1 rfl) ?_
    refine lv_aload_n X.1 X.2.1 dX12_isOf_13 rfl (lv_at hl 0 rfl) ?_
    refine gf_X12_7 (i := 0) X V rfl dX12_isOf_14 ?_
    refine lv_bipush (v := (120 : Int32)) X.1 X.2.1 dX12_isOf_17 (by decide) ?_
    refine lv_iload_n X.1 X.2.1 dX12_isOf_19 rfl (lv_at hl 2 rfl) ?_
    refine lv_iadd X.1 X.2.1 dX12_isOf_20 ?_
    obtain ⟨hc, h⟩ := kg_of h
    refine al_X12_0 (i := 0) X V rfl hc dX12_isOf_21 ?_
    refine lv_ishr X.1 X.2.1 dX12_isOf_22 ?_
    refine lv_iconst (v := (1 : Int32)) X.1 X.2.1 dX12_isOf_23 (by decide) ?_
    refine lv_iand X.1 X.2.1 dX12_isOf_24 ?_
    refine lv_iconst (v := (1 : Int32)) X.1 X.2.1 dX12_isOf_25 (by decide) ?_
    refine lv_icmp_ne (tgt := 33) X.1 X.2.1 dX12_isOf_26 (by decide) (fun hc => ?_) (fun hc => ?_)
    · replace h := kif_f hc h
      refine lv_iconst (v := (0 : Int32)) X.1 X.2.1 dX12_isOf_33 (by decide) ?_
      obtain rfl := Option.some.inj h
      rw [hAA] at V
      rw [hQQ]
      exact k_zret X V (b := false) rfl rfl dX12_isOf_34
    · replace h := kif_t hc h
      refine lv_iconst (v := (1 : Int32)) X.1 X.2.1 dX12_isOf_29 (by decide) ?_
      refine lv_goto (tgt := 34) X.1 X.2.1 dX12_isOf_30 (by decide) ?_
      obtain rfl := Option.some.inj h
      rw [hAA] at V
      rw [hQQ]
      exact k_zret X V (b := true) rfl rfl dX12_isOf_34

def p_X12_isSet (v0 : Int32) : Option (Bool) :=
  kb (p_X12_isIn v0 (1 : Int32) (15 : Int32)) (fun x1 => some x1)
set_option maxHeartbeats 4000000 in
set_option maxRecDepth 100000 in
theorem c_X12_isSet (l : Launch) (D : va_G) (g : kG)  (v0 : Int32) (r : Bool) (h : p_X12_isSet v0 = some r) : kMi l yX12_isSet cX12_isSet 1 (some .boolean) (kR 1 22) D (kty g) [.int v0] (List.flatten ([] : List va_W)) (kz r) (List.flatten ([] : List va_W)) := by
  intro sz
  refine k_enter (lv := [(0, .int v0)]) RX12 (by decide +kernel) rfl rfl (Nat.le_of_ble_eq_true rfl) ?_
  intro p en s m args below meth c ls hsz X V hl
  obtain ⟨QQ, hQQ⟩ : ∃ q, q = MQ below (va_Qi (fun r' (_ : Unit) => r' = kz r) (fun _ => kE D (List.flatten ([] : List va_W))) (va_A (List.flatten ([] : List va_W)) sz)) args s 0 0 (va_A (List.flatten ([] : List va_W)) sz) := ⟨_, rfl⟩
  rw [← hQQ]
  obtain ⟨AA, hAA⟩ : ∃ q, q = va_A (List.flatten ([] : List va_W)) sz := ⟨_, rfl⟩
  rw [← hAA] at V
  unfold p_X12_isSet at h
  refine lv_iload_n X.1 X.2.1 dX12_isSet_0 rfl (lv_at hl 0 rfl) ?_
  refine lv_iconst (v := (1 : Int32)) X.1 X.2.1 dX12_isSet_1 (by decide) ?_
  refine lv_bipush (v := (15 : Int32)) X.1 X.2.1 dX12_isSet_2 (by decide) ?_
  obtain ⟨x2, hx2, h⟩ := kb_of h
  refine s_callSi (segs' := ([] : List va_W)) X V (c_X12_isIn l D g v0 (1 : Int32) (15 : Int32) x2 hx2) w_X12_76 ⟨Nat.le_of_ble_eq_true rfl, Nat.le_of_ble_eq_true rfl⟩ ⟨Nat.zero_le _, Nat.zero_le _⟩ rfl [] rfl rfl (kFst_refl _) rfl rfl hl.1 (Nat.le_of_ble_eq_true rfl) dX12_isSet_4 (fun H locs V => ?_)
  obtain rfl := Option.some.inj h
  rw [hAA] at V
  rw [hQQ]
  exact k_zret X V (b := x2) rfl rfl dX12_isSet_7

def p_X12_addSpot_L3 (v1 : Int32) (v2 : Int32) (v3 : Int32) (zT : tX12) (s : Int32) : Option (Nat × (Int32)) :=
  kif ((zT.1 15) ≤ s) (some (51, s)) (kg (kii s 41) (kif (((zT.2.2.1 12) s.toNatClampNeg) < v1) (kl (s + (1 : Int32)) (fun y1 => some (3, y1))) (kg (kii s 41) (kif (((zT.2.2.1 12) s.toNatClampNeg) = v1) (kg (kii s 41) (kif (v2 ≤ ((zT.2.2.1 13) s.toNatClampNeg)) (some (51, s)) (kl (s + (1 : Int32)) (fun y2 => some (3, y2))))) (some (51, s))))))
def p_X12_addSpot_L89 (v1 : Int32) (v2 : Int32) (v3 : Int32) (v4 : Int32) (s : Int32 × tX12) : Option (Nat × (Int32 × tX12)) :=
  kif (s.1 ≤ v4) (some (150, (s.1, s.2))) (kg (kii (s.1 - (1 : Int32)) 41) (kg (kii s.1 41) (kl (s.2.1, s.2.2.1, va_up s.2.2.2.1 12 (upd (s.2.2.2.1 12) (s.1).toNatClampNeg ((s.2.2.2.1 12) ((s.1 - (1 : Int32))).toNatClampNeg)), s.2.2.2.2) (fun z5 => kg (kii (s.1 - (1 : Int32)) 41) (kg (kii s.1 41) (kl (z5.1, z5.2.1, va_up z5.2.2.1 13 (upd (z5.2.2.1 13) (s.1).toNatClampNeg ((z5.2.2.1 13) ((s.1 - (1 : Int32))).toNatClampNeg)), z5.2.2.2) (fun z6 => kg (kii (s.1 - (1 : Int32)) 41) (kg (kii s.1 41) (kl (z6.1, z6.2.1, va_up z6.2.2.1 14 (upd (z6.2.2.1 14) (s.1).toNatClampNeg ((z6.2.2.1 14) ((s.1 - (1 : Int32))).toNatClampNeg)), z6.2.2.2) (fun z7 => kl (s.1 + (-1 : Int32)) (fun y8 => some (89, (y8, z7)))))))))))))
def p_X12_addSpot_J83 (v1 : Int32) (v2 : Int32) (v3 : Int32) (zT : tX12) (v4 : Int32) : Option (tX12) :=
  kl (zT.1 15) (fun y4 => kb (kitr 89 (fun q => p_X12_addSpot_L89 v1 v2 v3 v4 q) kF (y4, zT)) (fun x9 => kg (x9.1 = 150) (kg (kii v4 41) (kl (x9.2.2.1, x9.2.2.2.1, va_up x9.2.2.2.2.1 12 (upd (x9.2.2.2.2.1 12) (v4).toNatClampNeg v1), x9.2.2.2.2.2) (fun z10 => kg (kii v4 41) (kl (z10.1, z10.2.1, va_up z10.2.2.1 13 (upd (z10.2.2.1 13) (v4).toNatClampNeg v2), z10.2.2.2) (fun z11 => kg (kii v4 41) (kl (z11.1, z11.2.1, va_up z11.2.2.1 14 (upd (z11.2.2.1 14) (v4).toNatClampNeg v3), z11.2.2.2) (fun z12 => kl (va_up z12.1 15 ((z12.1 15) + (1 : Int32)), z12.2) (fun z13 => some z13))))))))))
def p_X12_addSpot_J51 (v1 : Int32) (v2 : Int32) (v3 : Int32) (zT : tX12) (v4 : Int32) : Option (tX12) :=
  kif ((zT.1 15) ≤ v4) (p_X12_addSpot_J83 v1 v2 v3 zT v4) (kg (kii v4 41) (kif (((zT.2.2.1 12) v4.toNatClampNeg) = v1) (kg (kii v4 41) (kif (((zT.2.2.1 13) v4.toNatClampNeg) = v2) (some zT) (p_X12_addSpot_J83 v1 v2 v3 zT v4))) (p_X12_addSpot_J83 v1 v2 v3 zT v4)))
def p_X12_addSpot (zT : tX12) (v1 : Int32) (v2 : Int32) (v3 : Int32) : Option (tX12) :=
  kb (kitr 3 (fun q => p_X12_addSpot_L3 v1 v2 v3 zT q) kF (0 : Int32)) (fun x3 => kg (x3.1 = 51) (p_X12_addSpot_J51 v1 v2 v3 zT x3.2))
set_option maxHeartbeats 4000000 in
set_option maxRecDepth 100000 in
theorem c_X12_addSpot (l : Launch) (D : va_G) (g : kG) (aT : Nat → Nat) (zT : tX12) (v1 : Int32) (v2 : Int32) (v3 : Int32) (r : tX12) (h : p_X12_addSpot zT v1 v2 v3 = some r) : kMv l yX12_addSpot cX12_addSpot 6 none (kR 0 0) D (kty g) [.ref (aT 0), .int v1, .int v2, .int v3] (List.flatten [gX12 g aT zT]) (List.flatten [gX12 g aT r]) := by
  intro sz
  refine k_enter (lv := [(0, .ref (aT 0)), (1, .int v1), (2, .int v2), (3, .int v3)]) RX12 (by decide +kernel) rfl rfl (Nat.le_of_ble_eq_true rfl) ?_
  intro p en s m args below meth c ls hsz X V hl
  obtain ⟨QQ, hQQ⟩ : ∃ q, q = MQ below (va_Qv (fun (_ : Unit) => True) (fun _ => kE D (List.flatten [gX12 g aT r])) (va_A (List.flatten [gX12 g aT zT]) sz)) args s 0 0 (va_A (List.flatten [gX12 g aT zT]) sz) := ⟨_, rfl⟩
  rw [← hQQ]
  obtain ⟨AA, hAA⟩ : ∃ q, q = va_A (List.flatten [gX12 g aT zT]) sz := ⟨_, rfl⟩
  rw [← hAA] at V
  have J83 : ∀ (zT : tX12) (v4 : Int32) (H : Heap) (locs : List Loc) (ls : Array Slot), p_X12_addSpot_J83 v1 v2 v3 zT v4 = some r → kW D AA s.heap H (List.flatten [gX12 g aT zT]) locs → lv_has ls 6 [(0, .ref (aT 0)), (1, .int v1), (2, .int v2), (3, .int v3), (4, .int v4)] → W p l en (kR 0 0) s m args below meth c H locs 0 0 QQ (F0 m 83 ls []) := by
    intro zT v4 H locs ls h V hl
    unfold p_X12_addSpot_J83 at h
    refine lv_aload_n X.1 X.2.1 dX12_addSpot_83 rfl (lv_at hl 0 rfl) ?_
    refine gf_X12_157 (i := 0) X V rfl dX12_addSpot_84 ?_
    refine lv_topi (fun y14 ey14 => ?_)
    replace h := kl_of ey14 h
    refine lv_istore (lv' := [(5, .int y14), (0, .ref (aT 0)), (1, .int v1), (2, .int v2), (3, .int v3), (4, .int v4)]) X.1 X.2.1 dX12_addSpot_87 hl (by decide) rfl (fun ls hl => ?_)
    obtain ⟨x15, hx15, h⟩ := kb_of h
    refine (kitr_go (hd := 89) (body := fun q => p_X12_addSpot_L89 v1 v2 v3 v4 q) (G := (fun e => ∀ (H : Heap) (locs : List Loc) (ls : Array Slot), kW D AA s.heap H (List.flatten [gX12 g aT e.2.2]) locs → lv_has ls 6 [(0, .ref (aT 0)), (1, .int v1), (2, .int v2), (3, .int v3), (4, .int v4), (5, .int e.2.1)] → W p l en (kR 0 0) s m args below meth c H locs 0 0 QQ (F0 m e.1 ls []))) (fun s16 e17 hb18 hG19 => ?_) kF _ x15 hx15 ?_) _ _ _ V (lv_sub hl [1, 2, 3, 4, 5, 0] rfl)
    · intro H locs ls V hl
      show W p l en (kR 0 0) s m args below meth c H locs 0 0 QQ (F0 m 89 ls [])
      have h : p_X12_addSpot_L89 v1 v2 v3 v4 s16 = some e17 := hb18
      unfold p_X12_addSpot_L89 at h
      have V : kW D AA s.heap H (List.flatten [gX12 g aT s16.2]) locs := V
      have hl : lv_has ls 6 [(0, .ref (aT 0)), (1, .int v1), (2, .int v2), (3, .int v3), (4, .int v4), (5, .int s16.1)] := hl
      refine lv_iload X.1 X.2.1 dX12_addSpot_89 (lv_at hl 5 rfl) ?_
      refine lv_iload X.1 X.2.1 dX12_addSpot_91 (lv_at hl 4 rfl) ?_
      refine lv_icmp_le (tgt := 150) X.1 X.2.1 dX12_addSpot_93 (by decide) (fun hc => ?_) (fun hc => ?_)
      · replace h := kif_t hc h
        obtain rfl := Option.some.inj h
        exact hG19 _ _ _ V (lv_sub hl [0, 1, 2, 3, 4, 5] rfl)
      · replace h := kif_f hc h
        refine lv_aload_n X.1 X.2.1 dX12_addSpot_96 rfl (lv_at hl 0 rfl) ?_
        refine gf_X12_33 (i := 0) X V rfl dX12_addSpot_97 ?_
        refine lv_iload X.1 X.2.1 dX12_addSpot_100 (lv_at hl 5 rfl) ?_
        refine lv_aload_n X.1 X.2.1 dX12_addSpot_102 rfl (lv_at hl 0 rfl) ?_
        refine gf_X12_33 (i := 0) X V rfl dX12_addSpot_103 ?_
        refine lv_iload X.1 X.2.1 dX12_addSpot_106 (lv_at hl 5 rfl) ?_
        refine lv_iconst (v := (1 : Int32)) X.1 X.2.1 dX12_addSpot_108 (by decide) ?_
        refine lv_isub X.1 X.2.1 dX12_addSpot_109 ?_
        obtain ⟨hc, h⟩ := kg_of h
        refine al_X12_12 (i := 0) X V rfl hc dX12_addSpot_110 ?_
        obtain ⟨hc, h⟩ := kg_of h
        refine as_X12_12 (i := 0) X V rfl hc dX12_addSpot_111 (fun H locs V => ?_)
        obtain ⟨z20, ez20⟩ : ∃ y, y = (s16.2.1, s16.2.2.1, va_up s16.2.2.2.1 12 (upd (s16.2.2.2.1 12) (s16.1).toNatClampNeg ((s16.2.2.2.1 12) ((s16.1 - (1 : Int32))).toNatClampNeg)), s16.2.2.2.2) := ⟨_, rfl⟩
        replace h := kl_of ez20 h
        have V : kW D AA s.heap H (List.flatten [gX12 g aT z20]) locs := by rw [ez20]; exact V
        refine lv_aload_n X.1 X.2.1 dX12_addSpot_112 rfl (lv_at hl 0 rfl) ?_
        refine gf_X12_36 (i := 0) X V rfl dX12_addSpot_113 ?_
        refine lv_iload X.1 X.2.1 dX12_addSpot_116 (lv_at hl 5 rfl) ?_
        refine lv_aload_n X.1 X.2.1 dX12_addSpot_118 rfl (lv_at hl 0 rfl) ?_
        refine gf_X12_36 (i := 0) X V rfl dX12_addSpot_119 ?_
        refine lv_iload X.1 X.2.1 dX12_addSpot_122 (lv_at hl 5 rfl) ?_
        refine lv_iconst (v := (1 : Int32)) X.1 X.2.1 dX12_addSpot_124 (by decide) ?_
        refine lv_isub X.1 X.2.1 dX12_addSpot_125 ?_
        obtain ⟨hc, h⟩ := kg_of h
        refine al_X12_13 (i := 0) X V rfl hc dX12_addSpot_126 ?_
        obtain ⟨hc, h⟩ := kg_of h
        refine as_X12_13 (i := 0) X V rfl hc dX12_addSpot_127 (fun H locs V => ?_)
        obtain ⟨z21, ez21⟩ : ∃ y, y = (z20.1, z20.2.1, va_up z20.2.2.1 13 (upd (z20.2.2.1 13) (s16.1).toNatClampNeg ((z20.2.2.1 13) ((s16.1 - (1 : Int32))).toNatClampNeg)), z20.2.2.2) := ⟨_, rfl⟩
        replace h := kl_of ez21 h
        have V : kW D AA s.heap H (List.flatten [gX12 g aT z21]) locs := by rw [ez21]; exact V
        refine lv_aload_n X.1 X.2.1 dX12_addSpot_128 rfl (lv_at hl 0 rfl) ?_
        refine gf_X12_39 (i := 0) X V rfl dX12_addSpot_129 ?_
        refine lv_iload X.1 X.2.1 dX12_addSpot_132 (lv_at hl 5 rfl) ?_
        refine lv_aload_n X.1 X.2.1 dX12_addSpot_134 rfl (lv_at hl 0 rfl) ?_
        refine gf_X12_39 (i := 0) X V rfl dX12_addSpot_135 ?_
        refine lv_iload X.1 X.2.1 dX12_addSpot_138 (lv_at hl 5 rfl) ?_
        refine lv_iconst (v := (1 : Int32)) X.1 X.2.1 dX12_addSpot_140 (by decide) ?_
        refine lv_isub X.1 X.2.1 dX12_addSpot_141 ?_
        obtain ⟨hc, h⟩ := kg_of h
        refine al_X12_14 (i := 0) X V rfl hc dX12_addSpot_142 ?_
        obtain ⟨hc, h⟩ := kg_of h
        refine as_X12_14 (i := 0) X V rfl hc dX12_addSpot_143 (fun H locs V => ?_)
        obtain ⟨z22, ez22⟩ : ∃ y, y = (z21.1, z21.2.1, va_up z21.2.2.1 14 (upd (z21.2.2.1 14) (s16.1).toNatClampNeg ((z21.2.2.1 14) ((s16.1 - (1 : Int32))).toNatClampNeg)), z21.2.2.2) := ⟨_, rfl⟩
        replace h := kl_of ez22 h
        have V : kW D AA s.heap H (List.flatten [gX12 g aT z22]) locs := by rw [ez22]; exact V
        obtain ⟨y23, ey23⟩ : ∃ y : Int32, y = (s16.1 + (-1 : Int32)) := ⟨_, rfl⟩
        replace h := kl_of ey23 h
        refine lv_iinc (v := y23) (lv' := [(5, .int y23), (0, .ref (aT 0)), (1, .int v1), (2, .int v2), (3, .int v3), (4, .int v4)]) X.1 X.2.1 dX12_addSpot_144 hl (k := 5) rfl (by rw [ey23]; rfl) (by decide) rfl (fun ls hl => ?_)
        refine lv_goto (tgt := 89) X.1 X.2.1 dX12_addSpot_147 (by decide) ?_
        obtain rfl := Option.some.inj h
        exact hG19 _ _ _ V (lv_sub hl [1, 2, 3, 4, 5, 0] rfl)
    · intro H locs ls V hl
      have V : kW D AA s.heap H (List.flatten [gX12 g aT x15.2.2]) locs := V
      have hl : lv_has ls 6 [(0, .ref (aT 0)), (1, .int v1), (2, .int v2), (3, .int v3), (4, .int v4), (5, .int x15.2.1)] := hl
      obtain ⟨hc, h⟩ := kg_of h
      refine W.eq (g2 := F0 m 150 ls []) (by rw [hc]) ?_
      refine lv_aload_n X.1 X.2.1 dX12_addSpot_150 rfl (lv_at hl 0 rfl) ?_
      refine gf_X12_33 (i := 0) X V rfl dX12_addSpot_151 ?_
      refine lv_iload X.1 X.2.1 dX12_addSpot_154 (lv_at hl 4 rfl) ?_
      refine lv_iload_n X.1 X.2.1 dX12_addSpot_156 rfl (lv_at hl 1 rfl) ?_
      obtain ⟨hc, h⟩ := kg_of h
      refine as_X12_12 (i := 0) X V rfl hc dX12_addSpot_157 (fun H locs V => ?_)
      obtain ⟨z24, ez24⟩ : ∃ y, y = (x15.2.2.1, x15.2.2.2.1, va_up x15.2.2.2.2.1 12 (upd (x15.2.2.2.2.1 12) (v4).toNatClampNeg v1), x15.2.2.2.2.2) := ⟨_, rfl⟩
      replace h := kl_of ez24 h
      have V : kW D AA s.heap H (List.flatten [gX12 g aT z24]) locs := by rw [ez24]; exact V
      refine lv_aload_n X.1 X.2.1 dX12_addSpot_158 rfl (lv_at hl 0 rfl) ?_
      refine gf_X12_36 (i := 0) X V rfl dX12_addSpot_159 ?_
      refine lv_iload X.1 X.2.1 dX12_addSpot_162 (lv_at hl 4 rfl) ?_
      refine lv_iload_n X.1 X.2.1 dX12_addSpot_164 rfl (lv_at hl 2 rfl) ?_
      obtain ⟨hc, h⟩ := kg_of h
      refine as_X12_13 (i := 0) X V rfl hc dX12_addSpot_165 (fun H locs V => ?_)
      obtain ⟨z25, ez25⟩ : ∃ y, y = (z24.1, z24.2.1, va_up z24.2.2.1 13 (upd (z24.2.2.1 13) (v4).toNatClampNeg v2), z24.2.2.2) := ⟨_, rfl⟩
      replace h := kl_of ez25 h
      have V : kW D AA s.heap H (List.flatten [gX12 g aT z25]) locs := by rw [ez25]; exact V
      refine lv_aload_n X.1 X.2.1 dX12_addSpot_166 rfl (lv_at hl 0 rfl) ?_
      refine gf_X12_39 (i := 0) X V rfl dX12_addSpot_167 ?_
      refine lv_iload X.1 X.2.1 dX12_addSpot_170 (lv_at hl 4 rfl) ?_
      refine lv_iload_n X.1 X.2.1 dX12_addSpot_172 rfl (lv_at hl 3 rfl) ?_
      obtain ⟨hc, h⟩ := kg_of h
      refine as_X12_14 (i := 0) X V rfl hc dX12_addSpot_173 (fun H locs V => ?_)
      obtain ⟨z26, ez26⟩ : ∃ y, y = (z25.1, z25.2.1, va_up z25.2.2.1 14 (upd (z25.2.2.1 14) (v4).toNatClampNeg v3), z25.2.2.2) := ⟨_, rfl⟩
      replace h := kl_of ez26 h
      have V : kW D AA s.heap H (List.flatten [gX12 g aT z26]) locs := by rw [ez26]; exact V
      refine lv_aload_n X.1 X.2.1 dX12_addSpot_174 rfl (lv_at hl 0 rfl) ?_
      refine lv_dup X.1 X.2.1 dX12_addSpot_175 rfl ?_
      refine gf_X12_157 (i := 0) X V rfl dX12_addSpot_176 ?_
      refine lv_iconst (v := (1 : Int32)) X.1 X.2.1 dX12_addSpot_179 (by decide) ?_
      refine lv_iadd X.1 X.2.1 dX12_addSpot_180 ?_
      refine pf_X12_157 (i := 0) X V rfl dX12_addSpot_181 (fun H locs V => ?_)
      obtain ⟨z27, ez27⟩ : ∃ y, y = (va_up z26.1 15 ((z26.1 15) + (1 : Int32)), z26.2) := ⟨_, rfl⟩
      replace h := kl_of ez27 h
      have V : kW D AA s.heap H (List.flatten [gX12 g aT z27]) locs := by rw [ez27]; exact V
      obtain rfl := Option.some.inj h
      rw [hAA] at V
      rw [hQQ]
      exact k_vret X V dX12_addSpot_184
  have J51 : ∀ (zT : tX12) (v4 : Int32) (H : Heap) (locs : List Loc) (ls : Array Slot), p_X12_addSpot_J51 v1 v2 v3 zT v4 = some r → kW D AA s.heap H (List.flatten [gX12 g aT zT]) locs → lv_has ls 6 [(0, .ref (aT 0)), (1, .int v1), (2, .int v2), (3, .int v3), (4, .int v4)] → W p l en (kR 0 0) s m args below meth c H locs 0 0 QQ (F0 m 51 ls []) := by
    intro zT v4 H locs ls h V hl
    unfold p_X12_addSpot_J51 at h
    refine lv_iload X.1 X.2.1 dX12_addSpot_51 (lv_at hl 4 rfl) ?_
    refine lv_aload_n X.1 X.2.1 dX12_addSpot_53 rfl (lv_at hl 0 rfl) ?_
    refine gf_X12_157 (i := 0) X V rfl dX12_addSpot_54 ?_
    refine lv_icmp_ge (tgt := 83) X.1 X.2.1 dX12_addSpot_57 (by decide) (fun hc => ?_) (fun hc => ?_)
    · replace h := kif_t hc h
      exact J83 zT v4 _ _ _ h V (lv_sub hl [0, 1, 2, 3, 4] rfl)
    · replace h := kif_f hc h
      refine lv_aload_n X.1 X.2.1 dX12_addSpot_60 rfl (lv_at hl 0 rfl) ?_
      refine gf_X12_33 (i := 0) X V rfl dX12_addSpot_61 ?_
      refine lv_iload X.1 X.2.1 dX12_addSpot_64 (lv_at hl 4 rfl) ?_
      obtain ⟨hc, h⟩ := kg_of h
      refine al_X12_12 (i := 0) X V rfl hc dX12_addSpot_66 ?_
      refine lv_iload_n X.1 X.2.1 dX12_addSpot_67 rfl (lv_at hl 1 rfl) ?_
      refine lv_icmp_ne (tgt := 83) X.1 X.2.1 dX12_addSpot_68 (by decide) (fun hc => ?_) (fun hc => ?_)
      · replace h := kif_f hc h
        exact J83 zT v4 _ _ _ h V (lv_sub hl [0, 1, 2, 3, 4] rfl)
      · replace h := kif_t hc h
        refine lv_aload_n X.1 X.2.1 dX12_addSpot_71 rfl (lv_at hl 0 rfl) ?_
        refine gf_X12_36 (i := 0) X V rfl dX12_addSpot_72 ?_
        refine lv_iload X.1 X.2.1 dX12_addSpot_75 (lv_at hl 4 rfl) ?_
        obtain ⟨hc, h⟩ := kg_of h
        refine al_X12_13 (i := 0) X V rfl hc dX12_addSpot_77 ?_
        refine lv_iload_n X.1 X.2.1 dX12_addSpot_78 rfl (lv_at hl 2 rfl) ?_
        refine lv_icmp_ne (tgt := 83) X.1 X.2.1 dX12_addSpot_79 (by decide) (fun hc => ?_) (fun hc => ?_)
        · replace h := kif_f hc h
          exact J83 zT v4 _ _ _ h V (lv_sub hl [0, 1, 2, 3, 4] rfl)
        · replace h := kif_t hc h
          obtain rfl := Option.some.inj h
          rw [hAA] at V
          rw [hQQ]
          exact k_vret X V dX12_addSpot_82
  unfold p_X12_addSpot at h
  refine lv_iconst (v := (0 : Int32)) X.1 X.2.1 dX12_addSpot_0 (by decide) ?_
  refine lv_istore (lv' := [(4, .int (0 : Int32)), (0, .ref (aT 0)), (1, .int v1), (2, .int v2), (3, .int v3)]) X.1 X.2.1 dX12_addSpot_1 hl (by decide) rfl (fun ls hl => ?_)
  obtain ⟨x28, hx28, h⟩ := kb_of h
  refine (kitr_go (hd := 3) (body := fun q => p_X12_addSpot_L3 v1 v2 v3 zT q) (G := (fun e => ∀ (H : Heap) (locs : List Loc) (ls : Array Slot), kW D AA s.heap H (List.flatten [gX12 g aT zT]) locs → lv_has ls 6 [(0, .ref (aT 0)), (1, .int v1), (2, .int v2), (3, .int v3), (4, .int e.2)] → W p l en (kR 0 0) s m args below meth c H locs 0 0 QQ (F0 m e.1 ls []))) (fun s29 e30 hb31 hG32 => ?_) kF _ x28 hx28 ?_) _ _ _ V (lv_sub hl [1, 2, 3, 4, 0] rfl)
  · intro H locs ls V hl
    show W p l en (kR 0 0) s m args below meth c H locs 0 0 QQ (F0 m 3 ls [])
    have h : p_X12_addSpot_L3 v1 v2 v3 zT s29 = some e30 := hb31
    unfold p_X12_addSpot_L3 at h
    have V : kW D AA s.heap H (List.flatten [gX12 g aT zT]) locs := V
    have hl : lv_has ls 6 [(0, .ref (aT 0)), (1, .int v1), (2, .int v2), (3, .int v3), (4, .int s29)] := hl
    refine lv_iload X.1 X.2.1 dX12_addSpot_3 (lv_at hl 4 rfl) ?_
    refine lv_aload_n X.1 X.2.1 dX12_addSpot_5 rfl (lv_at hl 0 rfl) ?_
    refine gf_X12_157 (i := 0) X V rfl dX12_addSpot_6 ?_
    refine lv_icmp_ge (tgt := 51) X.1 X.2.1 dX12_addSpot_9 (by decide) (fun hc => ?_) (fun hc => ?_)
    · replace h := kif_t hc h
      obtain rfl := Option.some.inj h
      exact hG32 _ _ _ V (lv_sub hl [0, 1, 2, 3, 4] rfl)
    · replace h := kif_f hc h
      refine lv_aload_n X.1 X.2.1 dX12_addSpot_12 rfl (lv_at hl 0 rfl) ?_
      refine gf_X12_33 (i := 0) X V rfl dX12_addSpot_13 ?_
      refine lv_iload X.1 X.2.1 dX12_addSpot_16 (lv_at hl 4 rfl) ?_
      obtain ⟨hc, h⟩ := kg_of h
      refine al_X12_12 (i := 0) X V rfl hc dX12_addSpot_18 ?_
      refine lv_iload_n X.1 X.2.1 dX12_addSpot_19 rfl (lv_at hl 1 rfl) ?_
      refine lv_icmp_lt (tgt := 45) X.1 X.2.1 dX12_addSpot_20 (by decide) (fun hc => ?_) (fun hc => ?_)
      · replace h := kif_t hc h
        obtain ⟨y33, ey33⟩ : ∃ y : Int32, y = (s29 + (1 : Int32)) := ⟨_, rfl⟩
        replace h := kl_of ey33 h
        refine lv_iinc (v := y33) (lv' := [(4, .int y33), (0, .ref (aT 0)), (1, .int v1), (2, .int v2), (3, .int v3)]) X.1 X.2.1 dX12_addSpot_45 hl (k := 4) rfl (by rw [ey33]; rfl) (by decide) rfl (fun ls hl => ?_)
        refine lv_goto (tgt := 3) X.1 X.2.1 dX12_addSpot_48 (by decide) ?_
        obtain rfl := Option.some.inj h
        exact hG32 _ _ _ V (lv_sub hl [1, 2, 3, 4, 0] rfl)
      · replace h := kif_f hc h
        refine lv_aload_n X.1 X.2.1 dX12_addSpot_23 rfl (lv_at hl 0 rfl) ?_
        refine gf_X12_33 (i := 0) X V rfl dX12_addSpot_24 ?_
        refine lv_iload X.1 X.2.1 dX12_addSpot_27 (lv_at hl 4 rfl) ?_
        obtain ⟨hc, h⟩ := kg_of h
        refine al_X12_12 (i := 0) X V rfl hc dX12_addSpot_29 ?_
        refine lv_iload_n X.1 X.2.1 dX12_addSpot_30 rfl (lv_at hl 1 rfl) ?_
        refine lv_icmp_ne (tgt := 51) X.1 X.2.1 dX12_addSpot_31 (by decide) (fun hc => ?_) (fun hc => ?_)
        · replace h := kif_f hc h
          obtain rfl := Option.some.inj h
          exact hG32 _ _ _ V (lv_sub hl [0, 1, 2, 3, 4] rfl)
        · replace h := kif_t hc h
          refine lv_aload_n X.1 X.2.1 dX12_addSpot_34 rfl (lv_at hl 0 rfl) ?_
          refine gf_X12_36 (i := 0) X V rfl dX12_addSpot_35 ?_
          refine lv_iload X.1 X.2.1 dX12_addSpot_38 (lv_at hl 4 rfl) ?_
          obtain ⟨hc, h⟩ := kg_of h
          refine al_X12_13 (i := 0) X V rfl hc dX12_addSpot_40 ?_
          refine lv_iload_n X.1 X.2.1 dX12_addSpot_41 rfl (lv_at hl 2 rfl) ?_
          refine lv_icmp_ge (tgt := 51) X.1 X.2.1 dX12_addSpot_42 (by decide) (fun hc => ?_) (fun hc => ?_)
          · replace h := kif_t hc h
            obtain rfl := Option.some.inj h
            exact hG32 _ _ _ V (lv_sub hl [0, 1, 2, 3, 4] rfl)
          · replace h := kif_f hc h
            obtain ⟨y34, ey34⟩ : ∃ y : Int32, y = (s29 + (1 : Int32)) := ⟨_, rfl⟩
            replace h := kl_of ey34 h
            refine lv_iinc (v := y34) (lv' := [(4, .int y34), (0, .ref (aT 0)), (1, .int v1), (2, .int v2), (3, .int v3)]) X.1 X.2.1 dX12_addSpot_45 hl (k := 4) rfl (by rw [ey34]; rfl) (by decide) rfl (fun ls hl => ?_)
            refine lv_goto (tgt := 3) X.1 X.2.1 dX12_addSpot_48 (by decide) ?_
            obtain rfl := Option.some.inj h
            exact hG32 _ _ _ V (lv_sub hl [1, 2, 3, 4, 0] rfl)
  · intro H locs ls V hl
    have V : kW D AA s.heap H (List.flatten [gX12 g aT zT]) locs := V
    have hl : lv_has ls 6 [(0, .ref (aT 0)), (1, .int v1), (2, .int v2), (3, .int v3), (4, .int x28.2)] := hl
    obtain ⟨hc, h⟩ := kg_of h
    refine W.eq (g2 := F0 m 51 ls []) (by rw [hc]) ?_
    exact J51 zT x28.2 _ _ _ h V (lv_sub hl [0, 1, 2, 3, 4] rfl)

def p_X12_layBut_L7 (v1 : Int32) (v2 : Int32) (s : Int32 × tX12) : Option (Nat × (Int32 × tX12)) :=
  kif ((40 : Int32) ≤ s.1) (some (48, (s.1, s.2))) (kif (s.1 = v2) (kl (s.1 + (1 : Int32)) (fun y2 => some (7, (y2, s.2)))) (kb (p_X12_isOf s.2 v1 s.1) (fun x3 => kif ((kz x3) = 0) (kl (s.1 + (1 : Int32)) (fun y4 => some (7, (y4, s.2)))) (kb (p_X12_standsX s.2 s.1) (fun x5 => kb (p_X12_standsY s.2 s.1) (fun x6 => kb (p_X12_addSpot s.2 x5 x6 s.1) (fun x7 => kl (s.1 + (1 : Int32)) (fun y8 => some (7, (y8, x7))))))))))
def p_X12_layBut (zT : tX12) (v1 : Int32) (v2 : Int32) : Option (Int32 × tX12) :=
  kl (va_up zT.1 15 (0 : Int32), zT.2) (fun z1 => kb (kitr 7 (fun q => p_X12_layBut_L7 v1 v2 q) kF ((0 : Int32), z1)) (fun x9 => kg (x9.1 = 48) (some ((x9.2.2.1 15), x9.2.2))))
set_option maxHeartbeats 4000000 in
set_option maxRecDepth 100000 in
theorem c_X12_layBut (l : Launch) (D : va_G) (g : kG) (aT : Nat → Nat) (zT : tX12) (v1 : Int32) (v2 : Int32) (r : Int32 × tX12) (h : p_X12_layBut zT v1 v2 = some r) : kMi l yX12_layBut cX12_layBut 4 (some .int) (kR 1 25) D (kty g) [.ref (aT 0), .int v1, .int v2] (List.flatten [gX12 g aT zT]) r.1 (List.flatten [gX12 g aT r.2]) := by
  intro sz
  refine k_enter (lv := [(0, .ref (aT 0)), (1, .int v1), (2, .int v2)]) RX12 (by decide +kernel) rfl rfl (Nat.le_of_ble_eq_true rfl) ?_
  intro p en s m args below meth c ls hsz X V hl
  obtain ⟨QQ, hQQ⟩ : ∃ q, q = MQ below (va_Qi (fun r' (_ : Unit) => r' = r.1) (fun _ => kE D (List.flatten [gX12 g aT r.2])) (va_A (List.flatten [gX12 g aT zT]) sz)) args s 0 0 (va_A (List.flatten [gX12 g aT zT]) sz) := ⟨_, rfl⟩
  rw [← hQQ]
  obtain ⟨AA, hAA⟩ : ∃ q, q = va_A (List.flatten [gX12 g aT zT]) sz := ⟨_, rfl⟩
  rw [← hAA] at V
  unfold p_X12_layBut at h
  refine lv_aload_n X.1 X.2.1 dX12_layBut_0 rfl (lv_at hl 0 rfl) ?_
  refine lv_iconst (v := (0 : Int32)) X.1 X.2.1 dX12_layBut_1 (by decide) ?_
  refine pf_X12_157 (i := 0) X V rfl dX12_layBut_2 (fun H locs V => ?_)
  obtain ⟨z10, ez10⟩ : ∃ y, y = (va_up zT.1 15 (0 : Int32), zT.2) := ⟨_, rfl⟩
  replace h := kl_of ez10 h
  have V : kW D AA s.heap H (List.flatten [gX12 g aT z10]) locs := by rw [ez10]; exact V
  refine lv_iconst (v := (0 : Int32)) X.1 X.2.1 dX12_layBut_5 (by decide) ?_
  refine lv_istore_n (lv' := [(3, .int (0 : Int32)), (0, .ref (aT 0)), (1, .int v1), (2, .int v2)]) X.1 X.2.1 dX12_layBut_6 rfl hl (by decide) rfl (fun ls hl => ?_)
  obtain ⟨x11, hx11, h⟩ := kb_of h
  refine (kitr_go (hd := 7) (body := fun q => p_X12_layBut_L7 v1 v2 q) (G := (fun e => ∀ (H : Heap) (locs : List Loc) (ls : Array Slot), kW D AA s.heap H (List.flatten [gX12 g aT e.2.2]) locs → lv_has ls 4 [(0, .ref (aT 0)), (1, .int v1), (2, .int v2), (3, .int e.2.1)] → W p l en (kR 1 25) s m args below meth c H locs 0 0 QQ (F0 m e.1 ls []))) (fun s12 e13 hb14 hG15 => ?_) kF _ x11 hx11 ?_) _ _ _ V (lv_sub hl [1, 2, 3, 0] rfl)
  · intro H locs ls V hl
    show W p l en (kR 1 25) s m args below meth c H locs 0 0 QQ (F0 m 7 ls [])
    have h : p_X12_layBut_L7 v1 v2 s12 = some e13 := hb14
    unfold p_X12_layBut_L7 at h
    have V : kW D AA s.heap H (List.flatten [gX12 g aT s12.2]) locs := V
    have hl : lv_has ls 4 [(0, .ref (aT 0)), (1, .int v1), (2, .int v2), (3, .int s12.1)] := hl
    refine lv_iload_n X.1 X.2.1 dX12_layBut_7 rfl (lv_at hl 3 rfl) ?_
    refine lv_bipush (v := (40 : Int32)) X.1 X.2.1 dX12_layBut_8 (by decide) ?_
    refine lv_icmp_ge (tgt := 48) X.1 X.2.1 dX12_layBut_10 (by decide) (fun hc => ?_) (fun hc => ?_)
    · replace h := kif_t hc h
      obtain rfl := Option.some.inj h
      exact hG15 _ _ _ V (lv_sub hl [0, 1, 2, 3] rfl)
    · replace h := kif_f hc h
      refine lv_iload_n X.1 X.2.1 dX12_layBut_13 rfl (lv_at hl 3 rfl) ?_
      refine lv_iload_n X.1 X.2.1 dX12_layBut_14 rfl (lv_at hl 2 rfl) ?_
      refine lv_icmp_eq (tgt := 42) X.1 X.2.1 dX12_layBut_15 (by decide) (fun hc => ?_) (fun hc => ?_)
      · replace h := kif_t hc h
        obtain ⟨y16, ey16⟩ : ∃ y : Int32, y = (s12.1 + (1 : Int32)) := ⟨_, rfl⟩
        replace h := kl_of ey16 h
        refine lv_iinc (v := y16) (lv' := [(3, .int y16), (0, .ref (aT 0)), (1, .int v1), (2, .int v2)]) X.1 X.2.1 dX12_layBut_42 hl (k := 3) rfl (by rw [ey16]; rfl) (by decide) rfl (fun ls hl => ?_)
        refine lv_goto (tgt := 7) X.1 X.2.1 dX12_layBut_45 (by decide) ?_
        obtain rfl := Option.some.inj h
        exact hG15 _ _ _ V (lv_sub hl [1, 2, 3, 0] rfl)
      · replace h := kif_f hc h
        refine lv_aload_n X.1 X.2.1 dX12_layBut_18 rfl (lv_at hl 0 rfl) ?_
        refine lv_iload_n X.1 X.2.1 dX12_layBut_19 rfl (lv_at hl 1 rfl) ?_
        refine lv_iload_n X.1 X.2.1 dX12_layBut_20 rfl (lv_at hl 3 rfl) ?_
        obtain ⟨x17, hx17, h⟩ := kb_of h
        refine s_callVi (segs' := [gX12 g aT s12.2]) (ci := 12) (i0 := 0) X V (c_X12_isOf l D g aT s12.2 v1 s12.1 x17 hx17) w_X12_160 ⟨Nat.le_of_ble_eq_true rfl, Nat.le_of_ble_eq_true rfl⟩ ⟨Nat.zero_le _, Nat.zero_le _⟩ rfl rfl rfl rfl [0] rfl rfl (kFst_refl _) rfl rfl hl.1 (Nat.le_of_ble_eq_true rfl) dX12_layBut_21 (fun H locs V => ?_)
        refine lv_if_eq (tgt := 42) X.1 X.2.1 dX12_layBut_24 (by decide) (fun hc => ?_) (fun hc => ?_)
        · replace h := kif_t hc h
          obtain ⟨y18, ey18⟩ : ∃ y : Int32, y = (s12.1 + (1 : Int32)) := ⟨_, rfl⟩
          replace h := kl_of ey18 h
          refine lv_iinc (v := y18) (lv' := [(3, .int y18), (0, .ref (aT 0)), (1, .int v1), (2, .int v2)]) X.1 X.2.1 dX12_layBut_42 hl (k := 3) rfl (by rw [ey18]; rfl) (by decide) rfl (fun ls hl => ?_)
          refine lv_goto (tgt := 7) X.1 X.2.1 dX12_layBut_45 (by decide) ?_
          obtain rfl := Option.some.inj h
          exact hG15 _ _ _ V (lv_sub hl [1, 2, 3, 0] rfl)
        · replace h := kif_f hc h
          refine lv_aload_n X.1 X.2.1 dX12_layBut_27 rfl (lv_at hl 0 rfl) ?_
          refine lv_aload_n X.1 X.2.1 dX12_layBut_28 rfl (lv_at hl 0 rfl) ?_
          refine lv_iload_n X.1 X.2.1 dX12_layBut_29 rfl (lv_at hl 3 rfl) ?_
          obtain ⟨x19, hx19, h⟩ := kb_of h
          refine s_callVi (segs' := [gX12 g aT s12.2]) (ci := 12) (i0 := 0) X V (c_X12_standsX l D g aT s12.2 s12.1 x19 hx19) w_X12_116 ⟨Nat.le_of_ble_eq_true rfl, Nat.le_of_ble_eq_true rfl⟩ ⟨Nat.zero_le _, Nat.zero_le _⟩ rfl rfl rfl rfl [0] rfl rfl (kFst_refl _) rfl rfl hl.1 (Nat.le_of_ble_eq_true rfl) dX12_layBut_30 (fun H locs V => ?_)
          refine lv_aload_n X.1 X.2.1 dX12_layBut_33 rfl (lv_at hl 0 rfl) ?_
          refine lv_iload_n X.1 X.2.1 dX12_layBut_34 rfl (lv_at hl 3 rfl) ?_
          obtain ⟨x20, hx20, h⟩ := kb_of h
          refine s_callVi (segs' := [gX12 g aT s12.2]) (ci := 12) (i0 := 0) X V (c_X12_standsY l D g aT s12.2 s12.1 x20 hx20) w_X12_119 ⟨Nat.le_of_ble_eq_true rfl, Nat.le_of_ble_eq_true rfl⟩ ⟨Nat.zero_le _, Nat.zero_le _⟩ rfl rfl rfl rfl [0] rfl rfl (kFst_refl _) rfl rfl hl.1 (Nat.le_of_ble_eq_true rfl) dX12_layBut_35 (fun H locs V => ?_)
          refine lv_iload_n X.1 X.2.1 dX12_layBut_38 rfl (lv_at hl 3 rfl) ?_
          obtain ⟨x21, hx21, h⟩ := kb_of h
          refine s_callVv (segs' := [gX12 g aT x21]) (ci := 12) (i0 := 0) X V (c_X12_addSpot l D g aT s12.2 x19 x20 s12.1 x21 hx21) w_X12_163 ⟨Nat.le_of_ble_eq_true rfl, Nat.le_of_ble_eq_true rfl⟩ ⟨Nat.zero_le _, Nat.zero_le _⟩ rfl rfl rfl rfl [0] rfl rfl ⟨gX12_fst, trivial⟩ rfl rfl hl.1 (Nat.le_of_ble_eq_true rfl) dX12_layBut_39 (fun H locs V => ?_)
          obtain ⟨y22, ey22⟩ : ∃ y : Int32, y = (s12.1 + (1 : Int32)) := ⟨_, rfl⟩
          replace h := kl_of ey22 h
          refine lv_iinc (v := y22) (lv' := [(3, .int y22), (0, .ref (aT 0)), (1, .int v1), (2, .int v2)]) X.1 X.2.1 dX12_layBut_42 hl (k := 3) rfl (by rw [ey22]; rfl) (by decide) rfl (fun ls hl => ?_)
          refine lv_goto (tgt := 7) X.1 X.2.1 dX12_layBut_45 (by decide) ?_
          obtain rfl := Option.some.inj h
          exact hG15 _ _ _ V (lv_sub hl [1, 2, 3, 0] rfl)
  · intro H locs ls V hl
    have V : kW D AA s.heap H (List.flatten [gX12 g aT x11.2.2]) locs := V
    have hl : lv_has ls 4 [(0, .ref (aT 0)), (1, .int v1), (2, .int v2), (3, .int x11.2.1)] := hl
    obtain ⟨hc, h⟩ := kg_of h
    refine W.eq (g2 := F0 m 48 ls []) (by rw [hc]) ?_
    refine lv_aload_n X.1 X.2.1 dX12_layBut_48 rfl (lv_at hl 0 rfl) ?_
    refine gf_X12_157 (i := 0) X V rfl dX12_layBut_49 ?_
    obtain rfl := Option.some.inj h
    rw [hAA] at V
    rw [hQQ]
    exact k_iret X V rfl dX12_layBut_52

def p_X12_isLaid (zT : tX12) (v1 : Int32) : Option (Bool × tX12) :=
  kb (p_X12_isSet v1) (fun x1 => kif ((kz x1) = 0) (some (false, zT)) (kb (p_X12_layBut zT v1 (-1 : Int32)) (fun x2 => kif (x2.1 ≤ 0) (some (false, x2.2)) (some (true, x2.2)))))
set_option maxHeartbeats 4000000 in
set_option maxRecDepth 100000 in
theorem c_X12_isLaid (l : Launch) (D : va_G) (g : kG) (aT : Nat → Nat) (zT : tX12) (v1 : Int32) (r : Bool × tX12) (h : p_X12_isLaid zT v1 = some r) : kMi l yX12_isLaid cX12_isLaid 2 (some .boolean) (kR 2 48) D (kty g) [.ref (aT 0), .int v1] (List.flatten [gX12 g aT zT]) (kz r.1) (List.flatten [gX12 g aT r.2]) := by
  intro sz
  refine k_enter (lv := [(0, .ref (aT 0)), (1, .int v1)]) RX12 (by decide +kernel) rfl rfl (Nat.le_of_ble_eq_true rfl) ?_
  intro p en s m args below meth c ls hsz X V hl
  obtain ⟨QQ, hQQ⟩ : ∃ q, q = MQ below (va_Qi (fun r' (_ : Unit) => r' = kz r.1) (fun _ => kE D (List.flatten [gX12 g aT r.2])) (va_A (List.flatten [gX12 g aT zT]) sz)) args s 0 0 (va_A (List.flatten [gX12 g aT zT]) sz) := ⟨_, rfl⟩
  rw [← hQQ]
  obtain ⟨AA, hAA⟩ : ∃ q, q = va_A (List.flatten [gX12 g aT zT]) sz := ⟨_, rfl⟩
  rw [← hAA] at V
  unfold p_X12_isLaid at h
  refine lv_iload_n X.1 X.2.1 dX12_isLaid_0 rfl (lv_at hl 1 rfl) ?_
  obtain ⟨x3, hx3, h⟩ := kb_of h
  refine s_callSi (segs' := [gX12 g aT zT]) X V (c_X12_isSet l D g v1 x3 hx3) w_X12_166 ⟨Nat.le_of_ble_eq_true rfl, Nat.le_of_ble_eq_true rfl⟩ ⟨Nat.zero_le _, Nat.zero_le _⟩ rfl [] rfl rfl (kFst_refl _) rfl rfl hl.1 (Nat.le_of_ble_eq_true rfl) dX12_isLaid_1 (fun H locs V => ?_)
  refine lv_if_eq (tgt := 20) X.1 X.2.1 dX12_isLaid_4 (by decide) (fun hc => ?_) (fun hc => ?_)
  · replace h := kif_t hc h
    refine lv_iconst (v := (0 : Int32)) X.1 X.2.1 dX12_isLaid_20 (by decide) ?_
    obtain rfl := Option.some.inj h
    rw [hAA] at V
    rw [hQQ]
    exact k_zret X V (b := false) rfl rfl dX12_isLaid_21
  · replace h := kif_f hc h
    refine lv_aload_n X.1 X.2.1 dX12_isLaid_7 rfl (lv_at hl 0 rfl) ?_
    refine lv_iload_n X.1 X.2.1 dX12_isLaid_8 rfl (lv_at hl 1 rfl) ?_
    refine lv_iconst (v := (-1 : Int32)) X.1 X.2.1 dX12_isLaid_9 (by decide) ?_
    obtain ⟨x4, hx4, h⟩ := kb_of h
    refine s_callVi (segs' := [gX12 g aT x4.2]) (ci := 12) (i0 := 0) X V (c_X12_layBut l D g aT zT v1 (-1 : Int32) x4 hx4) w_X12_169 ⟨Nat.le_of_ble_eq_true rfl, Nat.le_of_ble_eq_true rfl⟩ ⟨Nat.zero_le _, Nat.zero_le _⟩ rfl rfl rfl rfl [0] rfl rfl ⟨gX12_fst, trivial⟩ rfl rfl hl.1 (Nat.le_of_ble_eq_true rfl) dX12_isLaid_10 (fun H locs V => ?_)
    refine lv_if_le (tgt := 20) X.1 X.2.1 dX12_isLaid_13 (by decide) (fun hc => ?_) (fun hc => ?_)
    · replace h := kif_t hc h
      refine lv_iconst (v := (0 : Int32)) X.1 X.2.1 dX12_isLaid_20 (by decide) ?_
      obtain rfl := Option.some.inj h
      rw [hAA] at V
      rw [hQQ]
      exact k_zret X V (b := false) rfl rfl dX12_isLaid_21
    · replace h := kif_f hc h
      refine lv_iconst (v := (1 : Int32)) X.1 X.2.1 dX12_isLaid_16 (by decide) ?_
      refine lv_goto (tgt := 21) X.1 X.2.1 dX12_isLaid_17 (by decide) ?_
      obtain rfl := Option.some.inj h
      rw [hAA] at V
      rw [hQQ]
      exact k_zret X V (b := true) rfl rfl dX12_isLaid_21

def p_X12_spots (zT : tX12) (v1 : Int32) : Option (Int32 × tX12) :=
  kb (p_X12_isSet v1) (fun x1 => kif ((kz x1) = 0) (some ((-1 : Int32), zT)) (kb (p_X12_layBut zT v1 (-1 : Int32)) (fun x2 => some (x2.1, x2.2))))
set_option maxHeartbeats 4000000 in
set_option maxRecDepth 100000 in
theorem c_X12_spots (l : Launch) (D : va_G) (g : kG) (aT : Nat → Nat) (zT : tX12) (v1 : Int32) (r : Int32 × tX12) (h : p_X12_spots zT v1 = some r) : kMi l yX12_spots cX12_spots 2 (some .int) (kR 2 48) D (kty g) [.ref (aT 0), .int v1] (List.flatten [gX12 g aT zT]) r.1 (List.flatten [gX12 g aT r.2]) := by
  intro sz
  refine k_enter (lv := [(0, .ref (aT 0)), (1, .int v1)]) RX12 (by decide +kernel) rfl rfl (Nat.le_of_ble_eq_true rfl) ?_
  intro p en s m args below meth c ls hsz X V hl
  obtain ⟨QQ, hQQ⟩ : ∃ q, q = MQ below (va_Qi (fun r' (_ : Unit) => r' = r.1) (fun _ => kE D (List.flatten [gX12 g aT r.2])) (va_A (List.flatten [gX12 g aT zT]) sz)) args s 0 0 (va_A (List.flatten [gX12 g aT zT]) sz) := ⟨_, rfl⟩
  rw [← hQQ]
  obtain ⟨AA, hAA⟩ : ∃ q, q = va_A (List.flatten [gX12 g aT zT]) sz := ⟨_, rfl⟩
  rw [← hAA] at V
  unfold p_X12_spots at h
  refine lv_iload_n X.1 X.2.1 dX12_spots_0 rfl (lv_at hl 1 rfl) ?_
  obtain ⟨x3, hx3, h⟩ := kb_of h
  refine s_callSi (segs' := [gX12 g aT zT]) X V (c_X12_isSet l D g v1 x3 hx3) w_X12_166 ⟨Nat.le_of_ble_eq_true rfl, Nat.le_of_ble_eq_true rfl⟩ ⟨Nat.zero_le _, Nat.zero_le _⟩ rfl [] rfl rfl (kFst_refl _) rfl rfl hl.1 (Nat.le_of_ble_eq_true rfl) dX12_spots_1 (fun H locs V => ?_)
  refine lv_if_eq (tgt := 16) X.1 X.2.1 dX12_spots_4 (by decide) (fun hc => ?_) (fun hc => ?_)
  · replace h := kif_t hc h
    refine lv_iconst (v := (-1 : Int32)) X.1 X.2.1 dX12_spots_16 (by decide) ?_
    obtain rfl := Option.some.inj h
    rw [hAA] at V
    rw [hQQ]
    exact k_iret X V rfl dX12_spots_17
  · replace h := kif_f hc h
    refine lv_aload_n X.1 X.2.1 dX12_spots_7 rfl (lv_at hl 0 rfl) ?_
    refine lv_iload_n X.1 X.2.1 dX12_spots_8 rfl (lv_at hl 1 rfl) ?_
    refine lv_iconst (v := (-1 : Int32)) X.1 X.2.1 dX12_spots_9 (by decide) ?_
    obtain ⟨x4, hx4, h⟩ := kb_of h
    refine s_callVi (segs' := [gX12 g aT x4.2]) (ci := 12) (i0 := 0) X V (c_X12_layBut l D g aT zT v1 (-1 : Int32) x4 hx4) w_X12_169 ⟨Nat.le_of_ble_eq_true rfl, Nat.le_of_ble_eq_true rfl⟩ ⟨Nat.zero_le _, Nat.zero_le _⟩ rfl rfl rfl rfl [0] rfl rfl ⟨gX12_fst, trivial⟩ rfl rfl hl.1 (Nat.le_of_ble_eq_true rfl) dX12_spots_10 (fun H locs V => ?_)
    refine lv_goto (tgt := 17) X.1 X.2.1 dX12_spots_13 (by decide) ?_
    obtain rfl := Option.some.inj h
    rw [hAA] at V
    rw [hQQ]
    exact k_iret X V rfl dX12_spots_17

def p_X12_spot (zT : tX12) (v1 : Int32) (v2 : Int32) (v3 : Int32) : Option (Int32 × tX12) :=
  kb (p_X12_isLaid zT v1) (fun x1 => kif ((kz x1.1) = 0) (some ((-1000 : Int32), x1.2)) (kb (p_X12_isIn v2 (0 : Int32) ((x1.2.1 15) - (1 : Int32))) (fun x2 => kif ((kz x2) = 0) (some ((-1000 : Int32), x1.2)) (kb (p_X12_isIn v3 (0 : Int32) (2 : Int32)) (fun x3 => kif ((kz x3) = 0) (some ((-1000 : Int32), x1.2)) (kif (v3 = 0) (kg (kii v2 41) (some (((x1.2.2.2.1 12) v2.toNatClampNeg), x1.2))) (kif (v3 = (1 : Int32)) (kg (kii v2 41) (some (((x1.2.2.2.1 13) v2.toNatClampNeg), x1.2))) (kg (kii v2 41) (some (((x1.2.2.2.1 14) v2.toNatClampNeg), x1.2))))))))))
set_option maxHeartbeats 4000000 in
set_option maxRecDepth 100000 in
theorem c_X12_spot (l : Launch) (D : va_G) (g : kG) (aT : Nat → Nat) (zT : tX12) (v1 : Int32) (v2 : Int32) (v3 : Int32) (r : Int32 × tX12) (h : p_X12_spot zT v1 v2 v3 = some r) : kMi l yX12_spot cX12_spot 4 (some .int) (kR 3 69) D (kty g) [.ref (aT 0), .int v1, .int v2, .int v3] (List.flatten [gX12 g aT zT]) r.1 (List.flatten [gX12 g aT r.2]) := by
  intro sz
  refine k_enter (lv := [(0, .ref (aT 0)), (1, .int v1), (2, .int v2), (3, .int v3)]) RX12 (by decide +kernel) rfl rfl (Nat.le_of_ble_eq_true rfl) ?_
  intro p en s m args below meth c ls hsz X V hl
  obtain ⟨QQ, hQQ⟩ : ∃ q, q = MQ below (va_Qi (fun r' (_ : Unit) => r' = r.1) (fun _ => kE D (List.flatten [gX12 g aT r.2])) (va_A (List.flatten [gX12 g aT zT]) sz)) args s 0 0 (va_A (List.flatten [gX12 g aT zT]) sz) := ⟨_, rfl⟩
  rw [← hQQ]
  obtain ⟨AA, hAA⟩ : ∃ q, q = va_A (List.flatten [gX12 g aT zT]) sz := ⟨_, rfl⟩
  rw [← hAA] at V
  unfold p_X12_spot at h
  refine lv_aload_n X.1 X.2.1 dX12_spot_0 rfl (lv_at hl 0 rfl) ?_
  refine lv_iload_n X.1 X.2.1 dX12_spot_1 rfl (lv_at hl 1 rfl) ?_
  obtain ⟨x4, hx4, h⟩ := kb_of h
  refine s_callVi (segs' := [gX12 g aT x4.2]) (ci := 12) (i0 := 0) X V (c_X12_isLaid l D g aT zT v1 x4 hx4) w_X12_173 ⟨Nat.le_of_ble_eq_true rfl, Nat.le_of_ble_eq_true rfl⟩ ⟨Nat.zero_le _, Nat.zero_le _⟩ rfl rfl rfl rfl [0] rfl rfl ⟨gX12_fst, trivial⟩ rfl rfl hl.1 (Nat.le_of_ble_eq_true rfl) dX12_spot_2 (fun H locs V => ?_)
  refine lv_if_eq (tgt := 31) X.1 X.2.1 dX12_spot_5 (by decide) (fun hc => ?_) (fun hc => ?_)
  · replace h := kif_t hc h
    refine lv_sipush (v := (-1000 : Int32)) X.1 X.2.1 dX12_spot_31 (by decide) ?_
    obtain rfl := Option.some.inj h
    rw [hAA] at V
    rw [hQQ]
    exact k_iret X V rfl dX12_spot_34
  · replace h := kif_f hc h
    refine lv_iload_n X.1 X.2.1 dX12_spot_8 rfl (lv_at hl 2 rfl) ?_
    refine lv_iconst (v := (0 : Int32)) X.1 X.2.1 dX12_spot_9 (by decide) ?_
    refine lv_aload_n X.1 X.2.1 dX12_spot_10 rfl (lv_at hl 0 rfl) ?_
    refine gf_X12_157 (i := 0) X V rfl dX12_spot_11 ?_
    refine lv_iconst (v := (1 : Int32)) X.1 X.2.1 dX12_spot_14 (by decide) ?_
    refine lv_isub X.1 X.2.1 dX12_spot_15 ?_
    obtain ⟨x5, hx5, h⟩ := kb_of h
    refine s_callSi (segs' := [gX12 g aT x4.2]) X V (c_X12_isIn l D g v2 (0 : Int32) ((x4.2.1 15) - (1 : Int32)) x5 hx5) w_X12_76 ⟨Nat.le_of_ble_eq_true rfl, Nat.le_of_ble_eq_true rfl⟩ ⟨Nat.zero_le _, Nat.zero_le _⟩ rfl [] rfl rfl (kFst_refl _) rfl rfl hl.1 (Nat.le_of_ble_eq_true rfl) dX12_spot_16 (fun H locs V => ?_)
    refine lv_if_eq (tgt := 31) X.1 X.2.1 dX12_spot_19 (by decide) (fun hc => ?_) (fun hc => ?_)
    · replace h := kif_t hc h
      refine lv_sipush (v := (-1000 : Int32)) X.1 X.2.1 dX12_spot_31 (by decide) ?_
      obtain rfl := Option.some.inj h
      rw [hAA] at V
      rw [hQQ]
      exact k_iret X V rfl dX12_spot_34
    · replace h := kif_f hc h
      refine lv_iload_n X.1 X.2.1 dX12_spot_22 rfl (lv_at hl 3 rfl) ?_
      refine lv_iconst (v := (0 : Int32)) X.1 X.2.1 dX12_spot_23 (by decide) ?_
      refine lv_iconst (v := (2 : Int32)) X.1 X.2.1 dX12_spot_24 (by decide) ?_
      obtain ⟨x6, hx6, h⟩ := kb_of h
      refine s_callSi (segs' := [gX12 g aT x4.2]) X V (c_X12_isIn l D g v3 (0 : Int32) (2 : Int32) x6 hx6) w_X12_76 ⟨Nat.le_of_ble_eq_true rfl, Nat.le_of_ble_eq_true rfl⟩ ⟨Nat.zero_le _, Nat.zero_le _⟩ rfl [] rfl rfl (kFst_refl _) rfl rfl hl.1 (Nat.le_of_ble_eq_true rfl) dX12_spot_25 (fun H locs V => ?_)
      refine lv_if_ne (tgt := 35) X.1 X.2.1 dX12_spot_28 (by decide) (fun hc => ?_) (fun hc => ?_)
      · replace h := kif_f hc h
        refine lv_iload_n X.1 X.2.1 dX12_spot_35 rfl (lv_at hl 3 rfl) ?_
        refine lv_if_ne (tgt := 48) X.1 X.2.1 dX12_spot_36 (by decide) (fun hc => ?_) (fun hc => ?_)
        · replace h := kif_f hc h
          refine lv_iload_n X.1 X.2.1 dX12_spot_48 rfl (lv_at hl 3 rfl) ?_
          refine lv_iconst (v := (1 : Int32)) X.1 X.2.1 dX12_spot_49 (by decide) ?_
          refine lv_icmp_ne (tgt := 62) X.1 X.2.1 dX12_spot_50 (by decide) (fun hc => ?_) (fun hc => ?_)
          · replace h := kif_f hc h
            refine lv_aload_n X.1 X.2.1 dX12_spot_62 rfl (lv_at hl 0 rfl) ?_
            refine gf_X12_39 (i := 0) X V rfl dX12_spot_63 ?_
            refine lv_iload_n X.1 X.2.1 dX12_spot_66 rfl (lv_at hl 2 rfl) ?_
            obtain ⟨hc, h⟩ := kg_of h
            refine al_X12_14 (i := 0) X V rfl hc dX12_spot_67 ?_
            obtain rfl := Option.some.inj h
            rw [hAA] at V
            rw [hQQ]
            exact k_iret X V rfl dX12_spot_68
          · replace h := kif_t hc h
            refine lv_aload_n X.1 X.2.1 dX12_spot_53 rfl (lv_at hl 0 rfl) ?_
            refine gf_X12_36 (i := 0) X V rfl dX12_spot_54 ?_
            refine lv_iload_n X.1 X.2.1 dX12_spot_57 rfl (lv_at hl 2 rfl) ?_
            obtain ⟨hc, h⟩ := kg_of h
            refine al_X12_13 (i := 0) X V rfl hc dX12_spot_58 ?_
            refine lv_goto (tgt := 68) X.1 X.2.1 dX12_spot_59 (by decide) ?_
            obtain rfl := Option.some.inj h
            rw [hAA] at V
            rw [hQQ]
            exact k_iret X V rfl dX12_spot_68
        · replace h := kif_t hc h
          refine lv_aload_n X.1 X.2.1 dX12_spot_39 rfl (lv_at hl 0 rfl) ?_
          refine gf_X12_33 (i := 0) X V rfl dX12_spot_40 ?_
          refine lv_iload_n X.1 X.2.1 dX12_spot_43 rfl (lv_at hl 2 rfl) ?_
          obtain ⟨hc, h⟩ := kg_of h
          refine al_X12_12 (i := 0) X V rfl hc dX12_spot_44 ?_
          refine lv_goto (tgt := 68) X.1 X.2.1 dX12_spot_45 (by decide) ?_
          obtain rfl := Option.some.inj h
          rw [hAA] at V
          rw [hQQ]
          exact k_iret X V rfl dX12_spot_68
      · replace h := kif_t hc h
        refine lv_sipush (v := (-1000 : Int32)) X.1 X.2.1 dX12_spot_31 (by decide) ?_
        obtain rfl := Option.some.inj h
        rw [hAA] at V
        rw [hQQ]
        exact k_iret X V rfl dX12_spot_34

def p_X12_spotAt_L2 (zT : tX12) (v1 : Int32) (v2 : Int32) (s : Int32) : Option (Nat × (Int32)) :=
  kif ((zT.1 15) ≤ s) (some (38, s)) (kg (kii s 41) (kif (((zT.2.2.1 12) s.toNatClampNeg) = v1) (kg (kii s 41) (kif (((zT.2.2.1 13) s.toNatClampNeg) = v2) (some (30, s)) (kl (s + (1 : Int32)) (fun y1 => some (2, y1))))) (kl (s + (1 : Int32)) (fun y2 => some (2, y2)))))
def p_X12_spotAt (zT : tX12) (v1 : Int32) (v2 : Int32) : Option (Int32) :=
  kb (kitr 2 (fun q => p_X12_spotAt_L2 zT v1 v2 q) kF (0 : Int32)) (fun x3 => kif (x3.1 = 30) (some x3.2) (kg (x3.1 = 38) (some (-1 : Int32))))
set_option maxHeartbeats 4000000 in
set_option maxRecDepth 100000 in
theorem c_X12_spotAt (l : Launch) (D : va_G) (g : kG) (aT : Nat → Nat) (zT : tX12) (v1 : Int32) (v2 : Int32) (r : Int32) (h : p_X12_spotAt zT v1 v2 = some r) : kMi l yX12_spotAt cX12_spotAt 4 (some .int) (kR 0 0) D (kty g) [.ref (aT 0), .int v1, .int v2] (List.flatten [gX12 g aT zT]) r (List.flatten [gX12 g aT zT]) := by
  intro sz
  refine k_enter (lv := [(0, .ref (aT 0)), (1, .int v1), (2, .int v2)]) RX12 (by decide +kernel) rfl rfl (Nat.le_of_ble_eq_true rfl) ?_
  intro p en s m args below meth c ls hsz X V hl
  obtain ⟨QQ, hQQ⟩ : ∃ q, q = MQ below (va_Qi (fun r' (_ : Unit) => r' = r) (fun _ => kE D (List.flatten [gX12 g aT zT])) (va_A (List.flatten [gX12 g aT zT]) sz)) args s 0 0 (va_A (List.flatten [gX12 g aT zT]) sz) := ⟨_, rfl⟩
  rw [← hQQ]
  obtain ⟨AA, hAA⟩ : ∃ q, q = va_A (List.flatten [gX12 g aT zT]) sz := ⟨_, rfl⟩
  rw [← hAA] at V
  unfold p_X12_spotAt at h
  refine lv_iconst (v := (0 : Int32)) X.1 X.2.1 dX12_spotAt_0 (by decide) ?_
  refine lv_istore_n (lv' := [(3, .int (0 : Int32)), (0, .ref (aT 0)), (1, .int v1), (2, .int v2)]) X.1 X.2.1 dX12_spotAt_1 rfl hl (by decide) rfl (fun ls hl => ?_)
  obtain ⟨x4, hx4, h⟩ := kb_of h
  refine (kitr_go (hd := 2) (body := fun q => p_X12_spotAt_L2 zT v1 v2 q) (G := (fun e => ∀ (H : Heap) (locs : List Loc) (ls : Array Slot), kW D AA s.heap H (List.flatten [gX12 g aT zT]) locs → lv_has ls 4 [(0, .ref (aT 0)), (1, .int v1), (2, .int v2), (3, .int e.2)] → W p l en (kR 0 0) s m args below meth c H locs 0 0 QQ (F0 m e.1 ls []))) (fun s5 e6 hb7 hG8 => ?_) kF _ x4 hx4 ?_) _ _ _ V (lv_sub hl [1, 2, 3, 0] rfl)
  · intro H locs ls V hl
    show W p l en (kR 0 0) s m args below meth c H locs 0 0 QQ (F0 m 2 ls [])
    have h : p_X12_spotAt_L2 zT v1 v2 s5 = some e6 := hb7
    unfold p_X12_spotAt_L2 at h
    have V : kW D AA s.heap H (List.flatten [gX12 g aT zT]) locs := V
    have hl : lv_has ls 4 [(0, .ref (aT 0)), (1, .int v1), (2, .int v2), (3, .int s5)] := hl
    refine lv_iload_n X.1 X.2.1 dX12_spotAt_2 rfl (lv_at hl 3 rfl) ?_
    refine lv_aload_n X.1 X.2.1 dX12_spotAt_3 rfl (lv_at hl 0 rfl) ?_
    refine gf_X12_157 (i := 0) X V rfl dX12_spotAt_4 ?_
    refine lv_icmp_ge (tgt := 38) X.1 X.2.1 dX12_spotAt_7 (by decide) (fun hc => ?_) (fun hc => ?_)
    · replace h := kif_t hc h
      obtain rfl := Option.some.inj h
      exact hG8 _ _ _ V (lv_sub hl [0, 1, 2, 3] rfl)
    · replace h := kif_f hc h
      refine lv_aload_n X.1 X.2.1 dX12_spotAt_10 rfl (lv_at hl 0 rfl) ?_
      refine gf_X12_33 (i := 0) X V rfl dX12_spotAt_11 ?_
      refine lv_iload_n X.1 X.2.1 dX12_spotAt_14 rfl (lv_at hl 3 rfl) ?_
      obtain ⟨hc, h⟩ := kg_of h
      refine al_X12_12 (i := 0) X V rfl hc dX12_spotAt_15 ?_
      refine lv_iload_n X.1 X.2.1 dX12_spotAt_16 rfl (lv_at hl 1 rfl) ?_
      refine lv_icmp_ne (tgt := 32) X.1 X.2.1 dX12_spotAt_17 (by decide) (fun hc => ?_) (fun hc => ?_)
      · replace h := kif_f hc h
        obtain ⟨y9, ey9⟩ : ∃ y : Int32, y = (s5 + (1 : Int32)) := ⟨_, rfl⟩
        replace h := kl_of ey9 h
        refine lv_iinc (v := y9) (lv' := [(3, .int y9), (0, .ref (aT 0)), (1, .int v1), (2, .int v2)]) X.1 X.2.1 dX12_spotAt_32 hl (k := 3) rfl (by rw [ey9]; rfl) (by decide) rfl (fun ls hl => ?_)
        refine lv_goto (tgt := 2) X.1 X.2.1 dX12_spotAt_35 (by decide) ?_
        obtain rfl := Option.some.inj h
        exact hG8 _ _ _ V (lv_sub hl [1, 2, 3, 0] rfl)
      · replace h := kif_t hc h
        refine lv_aload_n X.1 X.2.1 dX12_spotAt_20 rfl (lv_at hl 0 rfl) ?_
        refine gf_X12_36 (i := 0) X V rfl dX12_spotAt_21 ?_
        refine lv_iload_n X.1 X.2.1 dX12_spotAt_24 rfl (lv_at hl 3 rfl) ?_
        obtain ⟨hc, h⟩ := kg_of h
        refine al_X12_13 (i := 0) X V rfl hc dX12_spotAt_25 ?_
        refine lv_iload_n X.1 X.2.1 dX12_spotAt_26 rfl (lv_at hl 2 rfl) ?_
        refine lv_icmp_ne (tgt := 32) X.1 X.2.1 dX12_spotAt_27 (by decide) (fun hc => ?_) (fun hc => ?_)
        · replace h := kif_f hc h
          obtain ⟨y10, ey10⟩ : ∃ y : Int32, y = (s5 + (1 : Int32)) := ⟨_, rfl⟩
          replace h := kl_of ey10 h
          refine lv_iinc (v := y10) (lv' := [(3, .int y10), (0, .ref (aT 0)), (1, .int v1), (2, .int v2)]) X.1 X.2.1 dX12_spotAt_32 hl (k := 3) rfl (by rw [ey10]; rfl) (by decide) rfl (fun ls hl => ?_)
          refine lv_goto (tgt := 2) X.1 X.2.1 dX12_spotAt_35 (by decide) ?_
          obtain rfl := Option.some.inj h
          exact hG8 _ _ _ V (lv_sub hl [1, 2, 3, 0] rfl)
        · replace h := kif_t hc h
          obtain rfl := Option.some.inj h
          exact hG8 _ _ _ V (lv_sub hl [0, 1, 2, 3] rfl)
  · intro H locs ls V hl
    have V : kW D AA s.heap H (List.flatten [gX12 g aT zT]) locs := V
    have hl : lv_has ls 4 [(0, .ref (aT 0)), (1, .int v1), (2, .int v2), (3, .int x4.2)] := hl
    by_cases hc : x4.1 = 30
    · replace h := kif_t hc h
      refine W.eq (g2 := F0 m 30 ls []) (by rw [hc]) ?_
      refine lv_iload_n X.1 X.2.1 dX12_spotAt_30 rfl (lv_at hl 3 rfl) ?_
      obtain rfl := Option.some.inj h
      rw [hAA] at V
      rw [hQQ]
      exact k_iret X V rfl dX12_spotAt_31
    · replace h := kif_f hc h
      obtain ⟨hc, h⟩ := kg_of h
      refine W.eq (g2 := F0 m 38 ls []) (by rw [hc]) ?_
      refine lv_iconst (v := (-1 : Int32)) X.1 X.2.1 dX12_spotAt_38 (by decide) ?_
      obtain rfl := Option.some.inj h
      rw [hAA] at V
      rw [hQQ]
      exact k_iret X V rfl dX12_spotAt_39

def p_X12_common_L28 (v0 : Int64) (v2 : Int64) (s : Int64 × Int64) : Option (Nat × (Int64 × Int64)) :=
  kif ((lg_cmp s.2 (0 : Int64)) = 0) (some (53, (s.1, s.2))) (kg (¬ s.2 = 0) (kl (s.1 - s.1 / s.2 * s.2) (fun y1 => some (28, (s.2, y1)))))
def p_X12_common_J26 (v0 : Int64) (v2 : Int64) (v4 : Int64) (k26_0 : Int64) : Option (Int64) :=
  kb (kitr 28 (fun q => p_X12_common_L28 v0 v2 q) kF (v4, k26_0)) (fun x2 => kg (x2.1 = 53) (kif ((lg_cmp x2.2.1 (0 : Int64)) = 0) (some (1 : Int64)) (some x2.2.1)))
def p_X12_common_J12 (v0 : Int64) (v2 : Int64) (k12_0 : Int64) : Option (Int64) :=
  kif (0 ≤ (lg_cmp v2 (0 : Int64))) (p_X12_common_J26 v0 v2 k12_0 v2) (p_X12_common_J26 v0 v2 k12_0 (-v2))
def p_X12_common (v0 : Int64) (v2 : Int64) : Option (Int64) :=
  kif (0 ≤ (lg_cmp v0 (0 : Int64))) (p_X12_common_J12 v0 v2 v0) (p_X12_common_J12 v0 v2 (-v0))
set_option maxHeartbeats 4000000 in
set_option maxRecDepth 100000 in
theorem c_X12_common (l : Launch) (D : va_G) (g : kG)  (v0 : Int64) (v2 : Int64) (r : Int64) (h : p_X12_common v0 v2 = some r) : kMl l yX12_common cX12_common 10 (some .long) (kR 0 0) D (kty g) [.long v0, .long v2] (List.flatten ([] : List va_W)) r (List.flatten ([] : List va_W)) := by
  intro sz
  refine k_enter (lv := [(0, .long v0), (2, .long v2)]) RX12 (by decide +kernel) rfl rfl (Nat.le_of_ble_eq_true rfl) ?_
  intro p en s m args below meth c ls hsz X V hl
  obtain ⟨QQ, hQQ⟩ : ∃ q, q = MQ below (va_Ql (fun r' (_ : Unit) => r' = r) (fun _ => kE D (List.flatten ([] : List va_W))) (va_A (List.flatten ([] : List va_W)) sz)) args s 0 0 (va_A (List.flatten ([] : List va_W)) sz) := ⟨_, rfl⟩
  rw [← hQQ]
  obtain ⟨AA, hAA⟩ : ∃ q, q = va_A (List.flatten ([] : List va_W)) sz := ⟨_, rfl⟩
  rw [← hAA] at V
  have J26 : ∀ (v4 : Int64) (k26_0 : Int64) (H : Heap) (locs : List Loc) (ls : Array Slot), p_X12_common_J26 v0 v2 v4 k26_0 = some r → kW D AA s.heap H (List.flatten ([] : List va_W)) locs → lv_has ls 10 [(4, .long v4)] → W p l en (kR 0 0) s m args below meth c H locs 0 0 QQ (F0 m 26 ls [.long k26_0]) := by
    intro v4 k26_0 H locs ls h V hl
    unfold p_X12_common_J26 at h
    refine lv_lstore (lv' := [(6, .long k26_0), (4, .long v4)]) X.1 X.2.1 dX12_common_26 hl (by decide) rfl (fun ls hl => ?_)
    obtain ⟨x3, hx3, h⟩ := kb_of h
    refine (kitr_go (hd := 28) (body := fun q => p_X12_common_L28 v0 v2 q) (G := (fun e => ∀ (H : Heap) (locs : List Loc) (ls : Array Slot), kW D AA s.heap H (List.flatten ([] : List va_W)) locs → lv_has ls 10 [(4, .long e.2.1), (6, .long e.2.2)] → W p l en (kR 0 0) s m args below meth c H locs 0 0 QQ (F0 m e.1 ls []))) (fun s4 e5 hb6 hG7 => ?_) kF _ x3 hx3 ?_) _ _ _ V (lv_sub hl [1, 0] rfl)
    · intro H locs ls V hl
      show W p l en (kR 0 0) s m args below meth c H locs 0 0 QQ (F0 m 28 ls [])
      have h : p_X12_common_L28 v0 v2 s4 = some e5 := hb6
      unfold p_X12_common_L28 at h
      have V : kW D AA s.heap H (List.flatten ([] : List va_W)) locs := V
      have hl : lv_has ls 10 [(4, .long s4.1), (6, .long s4.2)] := hl
      refine lv_lload X.1 X.2.1 dX12_common_28 (lv_at hl 1 rfl) ?_
      refine lv_lconst (v := (0 : Int64)) X.1 X.2.1 dX12_common_30 (by decide) ?_
      refine W.lcmp X.1 X.2.1 dX12_common_31 ?_
      refine lv_if_eq (tgt := 53) X.1 X.2.1 dX12_common_32 (by decide) (fun hc => ?_) (fun hc => ?_)
      · replace h := kif_t hc h
        obtain rfl := Option.some.inj h
        exact hG7 _ _ _ V (lv_sub hl [0, 1] rfl)
      · replace h := kif_f hc h
        refine lv_lload X.1 X.2.1 dX12_common_35 (lv_at hl 0 rfl) ?_
        refine lv_lload X.1 X.2.1 dX12_common_37 (lv_at hl 1 rfl) ?_
        obtain ⟨hc, h⟩ := kg_of h
        refine lv_lrem X.1 X.2.1 dX12_common_39 hc ?_
        refine lv_topl (fun y8 ey8 => ?_)
        replace h := kl_of ey8 h
        refine lv_lstore (lv' := [(8, .long y8), (4, .long s4.1), (6, .long s4.2)]) X.1 X.2.1 dX12_common_40 hl (by decide) rfl (fun ls hl => ?_)
        refine lv_lload X.1 X.2.1 dX12_common_42 (lv_at hl 2 rfl) ?_
        refine lv_lstore (lv' := [(4, .long s4.2), (8, .long y8), (6, .long s4.2)]) X.1 X.2.1 dX12_common_44 hl (by decide) rfl (fun ls hl => ?_)
        refine lv_lload X.1 X.2.1 dX12_common_46 (lv_at hl 1 rfl) ?_
        refine lv_lstore (lv' := [(6, .long y8), (4, .long s4.2), (8, .long y8)]) X.1 X.2.1 dX12_common_48 hl (by decide) rfl (fun ls hl => ?_)
        refine lv_goto (tgt := 28) X.1 X.2.1 dX12_common_50 (by decide) ?_
        obtain rfl := Option.some.inj h
        exact hG7 _ _ _ V (lv_sub hl [1, 0] rfl)
    · intro H locs ls V hl
      have V : kW D AA s.heap H (List.flatten ([] : List va_W)) locs := V
      have hl : lv_has ls 10 [(4, .long x3.2.1), (6, .long x3.2.2)] := hl
      obtain ⟨hc, h⟩ := kg_of h
      refine W.eq (g2 := F0 m 53 ls []) (by rw [hc]) ?_
      refine lv_lload X.1 X.2.1 dX12_common_53 (lv_at hl 0 rfl) ?_
      refine lv_lconst (v := (0 : Int64)) X.1 X.2.1 dX12_common_55 (by decide) ?_
      refine W.lcmp X.1 X.2.1 dX12_common_56 ?_
      refine lv_if_ne (tgt := 64) X.1 X.2.1 dX12_common_57 (by decide) (fun hc => ?_) (fun hc => ?_)
      · replace h := kif_f hc h
        refine lv_lload X.1 X.2.1 dX12_common_64 (lv_at hl 0 rfl) ?_
        obtain rfl := Option.some.inj h
        rw [hAA] at V
        rw [hQQ]
        exact k_lret X V rfl dX12_common_66
      · replace h := kif_t hc h
        refine lv_lconst (v := (1 : Int64)) X.1 X.2.1 dX12_common_60 (by decide) ?_
        refine lv_goto (tgt := 66) X.1 X.2.1 dX12_common_61 (by decide) ?_
        obtain rfl := Option.some.inj h
        rw [hAA] at V
        rw [hQQ]
        exact k_lret X V rfl dX12_common_66
  have J12 : ∀ (k12_0 : Int64) (H : Heap) (locs : List Loc) (ls : Array Slot), p_X12_common_J12 v0 v2 k12_0 = some r → kW D AA s.heap H (List.flatten ([] : List va_W)) locs → lv_has ls 10 [(2, .long v2)] → W p l en (kR 0 0) s m args below meth c H locs 0 0 QQ (F0 m 12 ls [.long k12_0]) := by
    intro k12_0 H locs ls h V hl
    unfold p_X12_common_J12 at h
    refine lv_lstore (lv' := [(4, .long k12_0), (2, .long v2)]) X.1 X.2.1 dX12_common_12 hl (by decide) rfl (fun ls hl => ?_)
    refine lv_lload_n X.1 X.2.1 dX12_common_14 rfl (lv_at hl 1 rfl) ?_
    refine lv_lconst (v := (0 : Int64)) X.1 X.2.1 dX12_common_15 (by decide) ?_
    refine W.lcmp X.1 X.2.1 dX12_common_16 ?_
    refine lv_if_ge (tgt := 25) X.1 X.2.1 dX12_common_17 (by decide) (fun hc => ?_) (fun hc => ?_)
    · replace h := kif_t hc h
      refine lv_lload_n X.1 X.2.1 dX12_common_25 rfl (lv_at hl 1 rfl) ?_
      exact J26 k12_0 v2 _ _ _ h V (lv_sub hl [0] rfl)
    · replace h := kif_f hc h
      refine lv_lload_n X.1 X.2.1 dX12_common_20 rfl (lv_at hl 1 rfl) ?_
      refine lv_lneg X.1 X.2.1 dX12_common_21 ?_
      refine lv_goto (tgt := 26) X.1 X.2.1 dX12_common_22 (by decide) ?_
      exact J26 k12_0 (-v2) _ _ _ h V (lv_sub hl [0] rfl)
  unfold p_X12_common at h
  refine lv_lload_n X.1 X.2.1 dX12_common_0 rfl (lv_at hl 0 rfl) ?_
  refine lv_lconst (v := (0 : Int64)) X.1 X.2.1 dX12_common_1 (by decide) ?_
  refine W.lcmp X.1 X.2.1 dX12_common_2 ?_
  refine lv_if_ge (tgt := 11) X.1 X.2.1 dX12_common_3 (by decide) (fun hc => ?_) (fun hc => ?_)
  · replace h := kif_t hc h
    refine lv_lload_n X.1 X.2.1 dX12_common_11 rfl (lv_at hl 0 rfl) ?_
    exact J12 v0 _ _ _ h V (lv_sub hl [1] rfl)
  · replace h := kif_f hc h
    refine lv_lload_n X.1 X.2.1 dX12_common_6 rfl (lv_at hl 0 rfl) ?_
    refine lv_lneg X.1 X.2.1 dX12_common_7 ?_
    refine lv_goto (tgt := 12) X.1 X.2.1 dX12_common_8 (by decide) ?_
    exact J12 (-v0) _ _ _ h V (lv_sub hl [1] rfl)

def p_X12_above_J12 (v0 : Int64) (v2 : Int64) (k12_0 : Int64) : Option (Int64) :=
  kb (p_X12_common v0 v2) (fun x1 => kg (¬ x1 = 0) (some ((k12_0 / x1))))
def p_X12_above (v0 : Int64) (v2 : Int64) : Option (Int64) :=
  kif (0 ≤ (lg_cmp v2 (0 : Int64))) (p_X12_above_J12 v0 v2 v0) (p_X12_above_J12 v0 v2 (-v0))
set_option maxHeartbeats 4000000 in
set_option maxRecDepth 100000 in
theorem c_X12_above (l : Launch) (D : va_G) (g : kG)  (v0 : Int64) (v2 : Int64) (r : Int64) (h : p_X12_above v0 v2 = some r) : kMl l yX12_above cX12_above 4 (some .long) (kR 1 29) D (kty g) [.long v0, .long v2] (List.flatten ([] : List va_W)) r (List.flatten ([] : List va_W)) := by
  intro sz
  refine k_enter (lv := [(0, .long v0), (2, .long v2)]) RX12 (by decide +kernel) rfl rfl (Nat.le_of_ble_eq_true rfl) ?_
  intro p en s m args below meth c ls hsz X V hl
  obtain ⟨QQ, hQQ⟩ : ∃ q, q = MQ below (va_Ql (fun r' (_ : Unit) => r' = r) (fun _ => kE D (List.flatten ([] : List va_W))) (va_A (List.flatten ([] : List va_W)) sz)) args s 0 0 (va_A (List.flatten ([] : List va_W)) sz) := ⟨_, rfl⟩
  rw [← hQQ]
  obtain ⟨AA, hAA⟩ : ∃ q, q = va_A (List.flatten ([] : List va_W)) sz := ⟨_, rfl⟩
  rw [← hAA] at V
  have J12 : ∀ (k12_0 : Int64) (H : Heap) (locs : List Loc) (ls : Array Slot), p_X12_above_J12 v0 v2 k12_0 = some r → kW D AA s.heap H (List.flatten ([] : List va_W)) locs → lv_has ls 4 [(0, .long v0), (2, .long v2)] → W p l en (kR 1 29) s m args below meth c H locs 0 0 QQ (F0 m 12 ls [.long k12_0]) := by
    intro k12_0 H locs ls h V hl
    unfold p_X12_above_J12 at h
    refine lv_lload_n X.1 X.2.1 dX12_above_12 rfl (lv_at hl 0 rfl) ?_
    refine lv_lload_n X.1 X.2.1 dX12_above_13 rfl (lv_at hl 1 rfl) ?_
    obtain ⟨x2, hx2, h⟩ := kb_of h
    refine s_callSl (segs' := ([] : List va_W)) X V (c_X12_common l D g v0 v2 x2 hx2) w_X12_176 ⟨Nat.le_of_ble_eq_true rfl, Nat.le_of_ble_eq_true rfl⟩ ⟨Nat.zero_le _, Nat.zero_le _⟩ rfl [] rfl rfl (kFst_refl _) rfl rfl hl.1 (Nat.le_of_ble_eq_true rfl) dX12_above_14 (fun H locs V => ?_)
    obtain ⟨hc, h⟩ := kg_of h
    refine lv_ldiv X.1 X.2.1 dX12_above_17 hc ?_
    obtain rfl := Option.some.inj h
    rw [hAA] at V
    rw [hQQ]
    exact k_lret X V rfl dX12_above_18
  unfold p_X12_above at h
  refine lv_lload_n X.1 X.2.1 dX12_above_0 rfl (lv_at hl 1 rfl) ?_
  refine lv_lconst (v := (0 : Int64)) X.1 X.2.1 dX12_above_1 (by decide) ?_
  refine W.lcmp X.1 X.2.1 dX12_above_2 ?_
  refine lv_if_ge (tgt := 11) X.1 X.2.1 dX12_above_3 (by decide) (fun hc => ?_) (fun hc => ?_)
  · replace h := kif_t hc h
    refine lv_lload_n X.1 X.2.1 dX12_above_11 rfl (lv_at hl 0 rfl) ?_
    exact J12 v0 _ _ _ h V (lv_sub hl [0, 1] rfl)
  · replace h := kif_f hc h
    refine lv_lload_n X.1 X.2.1 dX12_above_6 rfl (lv_at hl 0 rfl) ?_
    refine lv_lneg X.1 X.2.1 dX12_above_7 ?_
    refine lv_goto (tgt := 12) X.1 X.2.1 dX12_above_8 (by decide) ?_
    exact J12 (-v0) _ _ _ h V (lv_sub hl [0, 1] rfl)

def p_X12_below_J12 (v0 : Int64) (v2 : Int64) (k12_0 : Int64) : Option (Int64) :=
  kb (p_X12_common v0 v2) (fun x1 => kg (¬ x1 = 0) (some ((k12_0 / x1))))
def p_X12_below (v0 : Int64) (v2 : Int64) : Option (Int64) :=
  kif (0 ≤ (lg_cmp v2 (0 : Int64))) (p_X12_below_J12 v0 v2 v2) (p_X12_below_J12 v0 v2 (-v2))
set_option maxHeartbeats 4000000 in
set_option maxRecDepth 100000 in
theorem c_X12_below (l : Launch) (D : va_G) (g : kG)  (v0 : Int64) (v2 : Int64) (r : Int64) (h : p_X12_below v0 v2 = some r) : kMl l yX12_below cX12_below 4 (some .long) (kR 1 29) D (kty g) [.long v0, .long v2] (List.flatten ([] : List va_W)) r (List.flatten ([] : List va_W)) := by
  intro sz
  refine k_enter (lv := [(0, .long v0), (2, .long v2)]) RX12 (by decide +kernel) rfl rfl (Nat.le_of_ble_eq_true rfl) ?_
  intro p en s m args below meth c ls hsz X V hl
  obtain ⟨QQ, hQQ⟩ : ∃ q, q = MQ below (va_Ql (fun r' (_ : Unit) => r' = r) (fun _ => kE D (List.flatten ([] : List va_W))) (va_A (List.flatten ([] : List va_W)) sz)) args s 0 0 (va_A (List.flatten ([] : List va_W)) sz) := ⟨_, rfl⟩
  rw [← hQQ]
  obtain ⟨AA, hAA⟩ : ∃ q, q = va_A (List.flatten ([] : List va_W)) sz := ⟨_, rfl⟩
  rw [← hAA] at V
  have J12 : ∀ (k12_0 : Int64) (H : Heap) (locs : List Loc) (ls : Array Slot), p_X12_below_J12 v0 v2 k12_0 = some r → kW D AA s.heap H (List.flatten ([] : List va_W)) locs → lv_has ls 4 [(0, .long v0), (2, .long v2)] → W p l en (kR 1 29) s m args below meth c H locs 0 0 QQ (F0 m 12 ls [.long k12_0]) := by
    intro k12_0 H locs ls h V hl
    unfold p_X12_below_J12 at h
    refine lv_lload_n X.1 X.2.1 dX12_below_12 rfl (lv_at hl 0 rfl) ?_
    refine lv_lload_n X.1 X.2.1 dX12_below_13 rfl (lv_at hl 1 rfl) ?_
    obtain ⟨x2, hx2, h⟩ := kb_of h
    refine s_callSl (segs' := ([] : List va_W)) X V (c_X12_common l D g v0 v2 x2 hx2) w_X12_176 ⟨Nat.le_of_ble_eq_true rfl, Nat.le_of_ble_eq_true rfl⟩ ⟨Nat.zero_le _, Nat.zero_le _⟩ rfl [] rfl rfl (kFst_refl _) rfl rfl hl.1 (Nat.le_of_ble_eq_true rfl) dX12_below_14 (fun H locs V => ?_)
    obtain ⟨hc, h⟩ := kg_of h
    refine lv_ldiv X.1 X.2.1 dX12_below_17 hc ?_
    obtain rfl := Option.some.inj h
    rw [hAA] at V
    rw [hQQ]
    exact k_lret X V rfl dX12_below_18
  unfold p_X12_below at h
  refine lv_lload_n X.1 X.2.1 dX12_below_0 rfl (lv_at hl 1 rfl) ?_
  refine lv_lconst (v := (0 : Int64)) X.1 X.2.1 dX12_below_1 (by decide) ?_
  refine W.lcmp X.1 X.2.1 dX12_below_2 ?_
  refine lv_if_ge (tgt := 11) X.1 X.2.1 dX12_below_3 (by decide) (fun hc => ?_) (fun hc => ?_)
  · replace h := kif_t hc h
    refine lv_lload_n X.1 X.2.1 dX12_below_11 rfl (lv_at hl 1 rfl) ?_
    exact J12 v2 _ _ _ h V (lv_sub hl [0, 1] rfl)
  · replace h := kif_f hc h
    refine lv_lload_n X.1 X.2.1 dX12_below_6 rfl (lv_at hl 1 rfl) ?_
    refine lv_lneg X.1 X.2.1 dX12_below_7 ?_
    refine lv_goto (tgt := 12) X.1 X.2.1 dX12_below_8 (by decide) ?_
    exact J12 (-v2) _ _ _ h V (lv_sub hl [0, 1] rfl)

def p_X12_against_L17 (v0 : Int64) (v2 : Int64) (v4 : Int64) (v6 : Int64) (s : Int64 × Int64 × Int64 × Int64 × Int32 × Int64 × Int64) : Option (Nat × (Int64 × Int64 × Int64 × Int64 × Int32 × Int64 × Int64)) :=
  kg (¬ s.2.1 = 0) (kl (s.1 / s.2.1) (fun y1 => kg (¬ s.2.2.2.1 = 0) (kl (s.2.2.1 / s.2.2.2.1) (fun y2 => kif ((lg_cmp y1 y2) = 0) (kl (s.1 - (y1 * s.2.1)) (fun y3 => kl (s.2.2.1 - (y2 * s.2.2.2.1)) (fun y4 => kif ((lg_cmp y3 (0 : Int64)) = 0) (some (90, (y3, s.2.1, y4, s.2.2.2.1, s.2.2.2.2.1, (0 : Int64), (0 : Int64)))) (kif ((lg_cmp y4 (0 : Int64)) = 0) (some (90, (y3, s.2.1, y4, s.2.2.2.1, s.2.2.2.2.1, (0 : Int64), (0 : Int64)))) (kl (-s.2.2.2.2.1) (fun y5 => some (17, (s.2.1, y3, s.2.2.2.1, y4, y5, (0 : Int64), (0 : Int64))))))))) (some (39, (s.1, s.2.1, s.2.2.1, s.2.2.2.1, s.2.2.2.2.1, y1, y2)))))))
def p_X12_against_J90 (v0 : Int64) (v2 : Int64) (v4 : Int64) (v6 : Int64) (v8 : Int64) (v12 : Int64) (v16 : Int32) : Option (Int32) :=
  kif ((lg_cmp v8 v12) = 0) (some (0 : Int32)) (kif ((lg_cmp v8 (0 : Int64)) = 0) (some ((-v16))) (some v16))
def p_X12_against (v0 : Int64) (v2 : Int64) (v4 : Int64) (v6 : Int64) : Option (Int32) :=
  kb (kitr 17 (fun q => p_X12_against_L17 v0 v2 v4 v6 q) kF (v0, v2, v4, v6, (1 : Int32), (0 : Int64), (0 : Int64))) (fun x6 => kif (x6.1 = 39) (kif (0 ≤ (lg_cmp x6.2.2.2.2.2.2.1 x6.2.2.2.2.2.2.2)) (some x6.2.2.2.2.2.1) (some ((-x6.2.2.2.2.2.1)))) (kg (x6.1 = 90) (p_X12_against_J90 v0 v2 v4 v6 x6.2.1 x6.2.2.2.1 x6.2.2.2.2.2.1)))
set_option maxHeartbeats 4000000 in
set_option maxRecDepth 100000 in
theorem c_X12_against (l : Launch) (D : va_G) (g : kG)  (v0 : Int64) (v2 : Int64) (v4 : Int64) (v6 : Int64) (r : Int32) (h : p_X12_against v0 v2 v4 v6 = some r) : kMi l yX12_against cX12_against 23 (some .int) (kR 0 0) D (kty g) [.long v0, .long v2, .long v4, .long v6] (List.flatten ([] : List va_W)) r (List.flatten ([] : List va_W)) := by
  intro sz
  refine k_enter (lv := [(0, .long v0), (2, .long v2), (4, .long v4), (6, .long v6)]) RX12 (by decide +kernel) rfl rfl (Nat.le_of_ble_eq_true rfl) ?_
  intro p en s m args below meth c ls hsz X V hl
  obtain ⟨QQ, hQQ⟩ : ∃ q, q = MQ below (va_Qi (fun r' (_ : Unit) => r' = r) (fun _ => kE D (List.flatten ([] : List va_W))) (va_A (List.flatten ([] : List va_W)) sz)) args s 0 0 (va_A (List.flatten ([] : List va_W)) sz) := ⟨_, rfl⟩
  rw [← hQQ]
  obtain ⟨AA, hAA⟩ : ∃ q, q = va_A (List.flatten ([] : List va_W)) sz := ⟨_, rfl⟩
  rw [← hAA] at V
  have J90 : ∀ (v8 : Int64) (v12 : Int64) (v16 : Int32) (H : Heap) (locs : List Loc) (ls : Array Slot), p_X12_against_J90 v0 v2 v4 v6 v8 v12 v16 = some r → kW D AA s.heap H (List.flatten ([] : List va_W)) locs → lv_has ls 23 [(8, .long v8), (12, .long v12), (16, .int v16)] → W p l en (kR 0 0) s m args below meth c H locs 0 0 QQ (F0 m 90 ls []) := by
    intro v8 v12 v16 H locs ls h V hl
    unfold p_X12_against_J90 at h
    refine lv_lload X.1 X.2.1 dX12_against_90 (lv_at hl 0 rfl) ?_
    refine lv_lload X.1 X.2.1 dX12_against_92 (lv_at hl 1 rfl) ?_
    refine W.lcmp X.1 X.2.1 dX12_against_94 ?_
    refine lv_if_ne (tgt := 102) X.1 X.2.1 dX12_against_95 (by decide) (fun hc => ?_) (fun hc => ?_)
    · replace h := kif_f hc h
      refine lv_lload X.1 X.2.1 dX12_against_102 (lv_at hl 0 rfl) ?_
      refine lv_lconst (v := (0 : Int64)) X.1 X.2.1 dX12_against_104 (by decide) ?_
      refine W.lcmp X.1 X.2.1 dX12_against_105 ?_
      refine lv_if_ne (tgt := 115) X.1 X.2.1 dX12_against_106 (by decide) (fun hc => ?_) (fun hc => ?_)
      · replace h := kif_f hc h
        refine lv_iload X.1 X.2.1 dX12_against_115 (lv_at hl 2 rfl) ?_
        obtain rfl := Option.some.inj h
        rw [hAA] at V
        rw [hQQ]
        exact k_iret X V rfl dX12_against_117
      · replace h := kif_t hc h
        refine lv_iload X.1 X.2.1 dX12_against_109 (lv_at hl 2 rfl) ?_
        refine lv_ineg X.1 X.2.1 dX12_against_111 ?_
        refine lv_goto (tgt := 117) X.1 X.2.1 dX12_against_112 (by decide) ?_
        obtain rfl := Option.some.inj h
        rw [hAA] at V
        rw [hQQ]
        exact k_iret X V rfl dX12_against_117
    · replace h := kif_t hc h
      refine lv_iconst (v := (0 : Int32)) X.1 X.2.1 dX12_against_98 (by decide) ?_
      refine lv_goto (tgt := 117) X.1 X.2.1 dX12_against_99 (by decide) ?_
      obtain rfl := Option.some.inj h
      rw [hAA] at V
      rw [hQQ]
      exact k_iret X V rfl dX12_against_117
  unfold p_X12_against at h
  refine lv_lload_n X.1 X.2.1 dX12_against_0 rfl (lv_at hl 0 rfl) ?_
  refine lv_lstore (lv' := [(8, .long v0), (0, .long v0), (2, .long v2), (4, .long v4), (6, .long v6)]) X.1 X.2.1 dX12_against_1 hl (by decide) rfl (fun ls hl => ?_)
  refine lv_lload_n X.1 X.2.1 dX12_against_3 rfl (lv_at hl 2 rfl) ?_
  refine lv_lstore (lv' := [(10, .long v2), (8, .long v0), (0, .long v0), (2, .long v2), (4, .long v4), (6, .long v6)]) X.1 X.2.1 dX12_against_4 hl (by decide) rfl (fun ls hl => ?_)
  refine lv_lload X.1 X.2.1 dX12_against_6 (lv_at hl 4 rfl) ?_
  refine lv_lstore (lv' := [(12, .long v4), (10, .long v2), (8, .long v0), (0, .long v0), (2, .long v2), (4, .long v4), (6, .long v6)]) X.1 X.2.1 dX12_against_8 hl (by decide) rfl (fun ls hl => ?_)
  refine lv_lload X.1 X.2.1 dX12_against_10 (lv_at hl 6 rfl) ?_
  refine lv_lstore (lv' := [(14, .long v6), (12, .long v4), (10, .long v2), (8, .long v0), (0, .long v0), (2, .long v2), (4, .long v4), (6, .long v6)]) X.1 X.2.1 dX12_against_12 hl (by decide) rfl (fun ls hl => ?_)
  refine lv_iconst (v := (1 : Int32)) X.1 X.2.1 dX12_against_14 (by decide) ?_
  refine lv_istore (lv' := [(16, .int (1 : Int32)), (14, .long v6), (12, .long v4), (10, .long v2), (8, .long v0), (0, .long v0), (2, .long v2), (4, .long v4), (6, .long v6)]) X.1 X.2.1 dX12_against_15 hl (by decide) rfl (fun ls hl => ?_)
  obtain ⟨x7, hx7, h⟩ := kb_of h
  refine (kitr_go (hd := 17) (body := fun q => p_X12_against_L17 v0 v2 v4 v6 q) (G := (fun e => ∀ (H : Heap) (locs : List Loc) (ls : Array Slot), kW D AA s.heap H (List.flatten ([] : List va_W)) locs → lv_has ls 23 ([(8, .long e.2.1), (10, .long e.2.2.1), (12, .long e.2.2.2.1), (14, .long e.2.2.2.2.1), (16, .int e.2.2.2.2.2.1)] ++ (if e.1 = 39 then [(17, .long e.2.2.2.2.2.2.1), (19, .long e.2.2.2.2.2.2.2)] else [])) → W p l en (kR 0 0) s m args below meth c H locs 0 0 QQ (F0 m e.1 ls []))) (fun s8 e9 hb10 hG11 => ?_) kF _ x7 hx7 ?_) _ _ _ V (lv_sub hl [4, 3, 2, 1, 0] rfl)
  · intro H locs ls V hl
    show W p l en (kR 0 0) s m args below meth c H locs 0 0 QQ (F0 m 17 ls [])
    have h : p_X12_against_L17 v0 v2 v4 v6 s8 = some e9 := hb10
    unfold p_X12_against_L17 at h
    have V : kW D AA s.heap H (List.flatten ([] : List va_W)) locs := V
    have hl : lv_has ls 23 [(8, .long s8.1), (10, .long s8.2.1), (12, .long s8.2.2.1), (14, .long s8.2.2.2.1), (16, .int s8.2.2.2.2.1)] := hl
    refine lv_lload X.1 X.2.1 dX12_against_17 (lv_at hl 0 rfl) ?_
    refine lv_lload X.1 X.2.1 dX12_against_19 (lv_at hl 1 rfl) ?_
    obtain ⟨hc, h⟩ := kg_of h
    refine lv_ldiv X.1 X.2.1 dX12_against_21 hc ?_
    refine lv_topl (fun y12 ey12 => ?_)
    replace h := kl_of ey12 h
    refine lv_lstore (lv' := [(17, .long y12), (8, .long s8.1), (10, .long s8.2.1), (12, .long s8.2.2.1), (14, .long s8.2.2.2.1), (16, .int s8.2.2.2.2.1)]) X.1 X.2.1 dX12_against_22 hl (by decide) rfl (fun ls hl => ?_)
    refine lv_lload X.1 X.2.1 dX12_against_24 (lv_at hl 3 rfl) ?_
    refine lv_lload X.1 X.2.1 dX12_against_26 (lv_at hl 4 rfl) ?_
    obtain ⟨hc, h⟩ := kg_of h
    refine lv_ldiv X.1 X.2.1 dX12_against_28 hc ?_
    refine lv_topl (fun y13 ey13 => ?_)
    replace h := kl_of ey13 h
    refine lv_lstore (lv' := [(19, .long y13), (17, .long y12), (8, .long s8.1), (10, .long s8.2.1), (12, .long s8.2.2.1), (14, .long s8.2.2.2.1), (16, .int s8.2.2.2.2.1)]) X.1 X.2.1 dX12_against_29 hl (by decide) rfl (fun ls hl => ?_)
    refine lv_lload X.1 X.2.1 dX12_against_31 (lv_at hl 1 rfl) ?_
    refine lv_lload X.1 X.2.1 dX12_against_33 (lv_at hl 0 rfl) ?_
    refine W.lcmp X.1 X.2.1 dX12_against_35 ?_
    refine lv_if_eq (tgt := 56) X.1 X.2.1 dX12_against_36 (by decide) (fun hc => ?_) (fun hc => ?_)
    · replace h := kif_t hc h
      refine lv_lload X.1 X.2.1 dX12_against_56 (lv_at hl 2 rfl) ?_
      refine lv_lload X.1 X.2.1 dX12_against_58 (lv_at hl 1 rfl) ?_
      refine lv_lload X.1 X.2.1 dX12_against_60 (lv_at hl 3 rfl) ?_
      refine lv_lmul X.1 X.2.1 dX12_against_62 ?_
      refine lv_lsub X.1 X.2.1 dX12_against_63 ?_
      refine lv_topl (fun y14 ey14 => ?_)
      replace h := kl_of ey14 h
      refine lv_lstore (lv' := [(8, .long y14), (19, .long y13), (17, .long y12), (10, .long s8.2.1), (12, .long s8.2.2.1), (14, .long s8.2.2.2.1), (16, .int s8.2.2.2.2.1)]) X.1 X.2.1 dX12_against_64 hl (by decide) rfl (fun ls hl => ?_)
      refine lv_lload X.1 X.2.1 dX12_against_66 (lv_at hl 4 rfl) ?_
      refine lv_lload X.1 X.2.1 dX12_against_68 (lv_at hl 1 rfl) ?_
      refine lv_lload X.1 X.2.1 dX12_against_70 (lv_at hl 5 rfl) ?_
      refine lv_lmul X.1 X.2.1 dX12_against_72 ?_
      refine lv_lsub X.1 X.2.1 dX12_against_73 ?_
      refine lv_topl (fun y15 ey15 => ?_)
      replace h := kl_of ey15 h
      refine lv_lstore (lv' := [(12, .long y15), (8, .long y14), (19, .long y13), (17, .long y12), (10, .long s8.2.1), (14, .long s8.2.2.2.1), (16, .int s8.2.2.2.2.1)]) X.1 X.2.1 dX12_against_74 hl (by decide) rfl (fun ls hl => ?_)
      refine lv_lload X.1 X.2.1 dX12_against_76 (lv_at hl 1 rfl) ?_
      refine lv_lconst (v := (0 : Int64)) X.1 X.2.1 dX12_against_78 (by decide) ?_
      refine W.lcmp X.1 X.2.1 dX12_against_79 ?_
      refine lv_if_eq (tgt := 90) X.1 X.2.1 dX12_against_80 (by decide) (fun hc => ?_) (fun hc => ?_)
      · replace h := kif_t hc h
        obtain rfl := Option.some.inj h
        exact hG11 _ _ _ V (lv_sub hl [1, 4, 0, 5, 6] rfl)
      · replace h := kif_f hc h
        refine lv_lload X.1 X.2.1 dX12_against_83 (lv_at hl 0 rfl) ?_
        refine lv_lconst (v := (0 : Int64)) X.1 X.2.1 dX12_against_85 (by decide) ?_
        refine W.lcmp X.1 X.2.1 dX12_against_86 ?_
        refine lv_if_ne (tgt := 118) X.1 X.2.1 dX12_against_87 (by decide) (fun hc => ?_) (fun hc => ?_)
        · replace h := kif_f hc h
          refine lv_lload X.1 X.2.1 dX12_against_118 (lv_at hl 1 rfl) ?_
          refine lv_lstore (lv' := [(21, .long y14), (12, .long y15), (8, .long y14), (19, .long y13), (17, .long y12), (10, .long s8.2.1), (14, .long s8.2.2.2.1), (16, .int s8.2.2.2.2.1)]) X.1 X.2.1 dX12_against_120 hl (by decide) rfl (fun ls hl => ?_)
          refine lv_lload X.1 X.2.1 dX12_against_122 (lv_at hl 5 rfl) ?_
          refine lv_lstore (lv' := [(8, .long s8.2.1), (21, .long y14), (12, .long y15), (19, .long y13), (17, .long y12), (10, .long s8.2.1), (14, .long s8.2.2.2.1), (16, .int s8.2.2.2.2.1)]) X.1 X.2.1 dX12_against_124 hl (by decide) rfl (fun ls hl => ?_)
          refine lv_lload X.1 X.2.1 dX12_against_126 (lv_at hl 1 rfl) ?_
          refine lv_lstore (lv' := [(10, .long y14), (8, .long s8.2.1), (21, .long y14), (12, .long y15), (19, .long y13), (17, .long y12), (14, .long s8.2.2.2.1), (16, .int s8.2.2.2.2.1)]) X.1 X.2.1 dX12_against_128 hl (by decide) rfl (fun ls hl => ?_)
          refine lv_lload X.1 X.2.1 dX12_against_130 (lv_at hl 3 rfl) ?_
          refine lv_lstore (lv' := [(21, .long y15), (10, .long y14), (8, .long s8.2.1), (12, .long y15), (19, .long y13), (17, .long y12), (14, .long s8.2.2.2.1), (16, .int s8.2.2.2.2.1)]) X.1 X.2.1 dX12_against_132 hl (by decide) rfl (fun ls hl => ?_)
          refine lv_lload X.1 X.2.1 dX12_against_134 (lv_at hl 6 rfl) ?_
          refine lv_lstore (lv' := [(12, .long s8.2.2.2.1), (21, .long y15), (10, .long y14), (8, .long s8.2.1), (19, .long y13), (17, .long y12), (14, .long s8.2.2.2.1), (16, .int s8.2.2.2.2.1)]) X.1 X.2.1 dX12_against_136 hl (by decide) rfl (fun ls hl => ?_)
          refine lv_lload X.1 X.2.1 dX12_against_138 (lv_at hl 1 rfl) ?_
          refine lv_lstore (lv' := [(14, .long y15), (12, .long s8.2.2.2.1), (21, .long y15), (10, .long y14), (8, .long s8.2.1), (19, .long y13), (17, .long y12), (16, .int s8.2.2.2.2.1)]) X.1 X.2.1 dX12_against_140 hl (by decide) rfl (fun ls hl => ?_)
          refine lv_iload X.1 X.2.1 dX12_against_142 (lv_at hl 7 rfl) ?_
          refine lv_ineg X.1 X.2.1 dX12_against_144 ?_
          refine lv_topi (fun y16 ey16 => ?_)
          replace h := kl_of ey16 h
          refine lv_istore (lv' := [(16, .int y16), (14, .long y15), (12, .long s8.2.2.2.1), (21, .long y15), (10, .long y14), (8, .long s8.2.1), (19, .long y13), (17, .long y12)]) X.1 X.2.1 dX12_against_145 hl (by decide) rfl (fun ls hl => ?_)
          refine lv_goto (tgt := 17) X.1 X.2.1 dX12_against_147 (by decide) ?_
          obtain rfl := Option.some.inj h
          exact hG11 _ _ _ V (lv_sub hl [5, 4, 2, 1, 0] rfl)
        · replace h := kif_t hc h
          obtain rfl := Option.some.inj h
          exact hG11 _ _ _ V (lv_sub hl [1, 4, 0, 5, 6] rfl)
    · replace h := kif_f hc h
      obtain rfl := Option.some.inj h
      exact hG11 _ _ _ V (lv_sub hl [2, 3, 4, 5, 6, 1, 0] rfl)
  · intro H locs ls V hl
    have V : kW D AA s.heap H (List.flatten ([] : List va_W)) locs := V
    by_cases hc : x7.1 = 39
    · replace h := kif_t hc h
      refine W.eq (g2 := F0 m 39 ls []) (by rw [hc]) ?_
      have hl : lv_has ls 23 [(8, .long x7.2.1), (10, .long x7.2.2.1), (12, .long x7.2.2.2.1), (14, .long x7.2.2.2.2.1), (16, .int x7.2.2.2.2.2.1), (17, .long x7.2.2.2.2.2.2.1), (19, .long x7.2.2.2.2.2.2.2)] := by have q := hl; rw [hc] at q; exact q
      refine lv_lload X.1 X.2.1 dX12_against_39 (lv_at hl 5 rfl) ?_
      refine lv_lload X.1 X.2.1 dX12_against_41 (lv_at hl 6 rfl) ?_
      refine W.lcmp X.1 X.2.1 dX12_against_43 ?_
      refine lv_if_ge (tgt := 53) X.1 X.2.1 dX12_against_44 (by decide) (fun hc => ?_) (fun hc => ?_)
      · replace h := kif_t hc h
        refine lv_iload X.1 X.2.1 dX12_against_53 (lv_at hl 4 rfl) ?_
        obtain rfl := Option.some.inj h
        rw [hAA] at V
        rw [hQQ]
        exact k_iret X V rfl dX12_against_55
      · replace h := kif_f hc h
        refine lv_iload X.1 X.2.1 dX12_against_47 (lv_at hl 4 rfl) ?_
        refine lv_ineg X.1 X.2.1 dX12_against_49 ?_
        refine lv_goto (tgt := 55) X.1 X.2.1 dX12_against_50 (by decide) ?_
        obtain rfl := Option.some.inj h
        rw [hAA] at V
        rw [hQQ]
        exact k_iret X V rfl dX12_against_55
    · replace h := kif_f hc h
      obtain ⟨hc, h⟩ := kg_of h
      refine W.eq (g2 := F0 m 90 ls []) (by rw [hc]) ?_
      have hl : lv_has ls 23 [(8, .long x7.2.1), (10, .long x7.2.2.1), (12, .long x7.2.2.2.1), (14, .long x7.2.2.2.2.1), (16, .int x7.2.2.2.2.2.1)] := by have q := hl; rw [hc] at q; exact q
      exact J90 x7.2.1 x7.2.2.2.1 x7.2.2.2.2.2.1 _ _ _ h V (lv_sub hl [0, 2, 4] rfl)

def p_X12_apart (zT : tX12) (v1 : Int32) (v2 : Int32) : Option (Int64) :=
  kg (kii v1 41) (kg (kii v2 41) (kg (kii v1 41) (kg (kii v2 41) (kg (kii v1 41) (kg (kii v2 41) (kg (kii v1 41) (kg (kii v2 41) (some (((((((zT.2.2.1 12) v1.toNatClampNeg) - ((zT.2.2.1 12) v2.toNatClampNeg))).toInt64 * ((((zT.2.2.1 12) v1.toNatClampNeg) - ((zT.2.2.1 12) v2.toNatClampNeg))).toInt64) + (((((zT.2.2.1 13) v1.toNatClampNeg) - ((zT.2.2.1 13) v2.toNatClampNeg))).toInt64 * ((((zT.2.2.1 13) v1.toNatClampNeg) - ((zT.2.2.1 13) v2.toNatClampNeg))).toInt64)))))))))))
set_option maxHeartbeats 4000000 in
set_option maxRecDepth 100000 in
theorem c_X12_apart (l : Launch) (D : va_G) (g : kG) (aT : Nat → Nat) (zT : tX12) (v1 : Int32) (v2 : Int32) (r : Int64) (h : p_X12_apart zT v1 v2 = some r) : kMl l yX12_apart cX12_apart 3 (some .long) (kR 0 0) D (kty g) [.ref (aT 0), .int v1, .int v2] (List.flatten [gX12 g aT zT]) r (List.flatten [gX12 g aT zT]) := by
  intro sz
  refine k_enter (lv := [(0, .ref (aT 0)), (1, .int v1), (2, .int v2)]) RX12 (by decide +kernel) rfl rfl (Nat.le_of_ble_eq_true rfl) ?_
  intro p en s m args below meth c ls hsz X V hl
  obtain ⟨QQ, hQQ⟩ : ∃ q, q = MQ below (va_Ql (fun r' (_ : Unit) => r' = r) (fun _ => kE D (List.flatten [gX12 g aT zT])) (va_A (List.flatten [gX12 g aT zT]) sz)) args s 0 0 (va_A (List.flatten [gX12 g aT zT]) sz) := ⟨_, rfl⟩
  rw [← hQQ]
  obtain ⟨AA, hAA⟩ : ∃ q, q = va_A (List.flatten [gX12 g aT zT]) sz := ⟨_, rfl⟩
  rw [← hAA] at V
  unfold p_X12_apart at h
  refine lv_aload_n X.1 X.2.1 dX12_apart_0 rfl (lv_at hl 0 rfl) ?_
  refine gf_X12_33 (i := 0) X V rfl dX12_apart_1 ?_
  refine lv_iload_n X.1 X.2.1 dX12_apart_4 rfl (lv_at hl 1 rfl) ?_
  obtain ⟨hc, h⟩ := kg_of h
  refine al_X12_12 (i := 0) X V rfl hc dX12_apart_5 ?_
  refine lv_aload_n X.1 X.2.1 dX12_apart_6 rfl (lv_at hl 0 rfl) ?_
  refine gf_X12_33 (i := 0) X V rfl dX12_apart_7 ?_
  refine lv_iload_n X.1 X.2.1 dX12_apart_10 rfl (lv_at hl 2 rfl) ?_
  obtain ⟨hc, h⟩ := kg_of h
  refine al_X12_12 (i := 0) X V rfl hc dX12_apart_11 ?_
  refine lv_isub X.1 X.2.1 dX12_apart_12 ?_
  refine lv_i2l X.1 X.2.1 dX12_apart_13 rfl ?_
  refine lv_aload_n X.1 X.2.1 dX12_apart_14 rfl (lv_at hl 0 rfl) ?_
  refine gf_X12_33 (i := 0) X V rfl dX12_apart_15 ?_
  refine lv_iload_n X.1 X.2.1 dX12_apart_18 rfl (lv_at hl 1 rfl) ?_
  obtain ⟨hc, h⟩ := kg_of h
  refine al_X12_12 (i := 0) X V rfl hc dX12_apart_19 ?_
  refine lv_aload_n X.1 X.2.1 dX12_apart_20 rfl (lv_at hl 0 rfl) ?_
  refine gf_X12_33 (i := 0) X V rfl dX12_apart_21 ?_
  refine lv_iload_n X.1 X.2.1 dX12_apart_24 rfl (lv_at hl 2 rfl) ?_
  obtain ⟨hc, h⟩ := kg_of h
  refine al_X12_12 (i := 0) X V rfl hc dX12_apart_25 ?_
  refine lv_isub X.1 X.2.1 dX12_apart_26 ?_
  refine lv_i2l X.1 X.2.1 dX12_apart_27 rfl ?_
  refine lv_lmul X.1 X.2.1 dX12_apart_28 ?_
  refine lv_aload_n X.1 X.2.1 dX12_apart_29 rfl (lv_at hl 0 rfl) ?_
  refine gf_X12_36 (i := 0) X V rfl dX12_apart_30 ?_
  refine lv_iload_n X.1 X.2.1 dX12_apart_33 rfl (lv_at hl 1 rfl) ?_
  obtain ⟨hc, h⟩ := kg_of h
  refine al_X12_13 (i := 0) X V rfl hc dX12_apart_34 ?_
  refine lv_aload_n X.1 X.2.1 dX12_apart_35 rfl (lv_at hl 0 rfl) ?_
  refine gf_X12_36 (i := 0) X V rfl dX12_apart_36 ?_
  refine lv_iload_n X.1 X.2.1 dX12_apart_39 rfl (lv_at hl 2 rfl) ?_
  obtain ⟨hc, h⟩ := kg_of h
  refine al_X12_13 (i := 0) X V rfl hc dX12_apart_40 ?_
  refine lv_isub X.1 X.2.1 dX12_apart_41 ?_
  refine lv_i2l X.1 X.2.1 dX12_apart_42 rfl ?_
  refine lv_aload_n X.1 X.2.1 dX12_apart_43 rfl (lv_at hl 0 rfl) ?_
  refine gf_X12_36 (i := 0) X V rfl dX12_apart_44 ?_
  refine lv_iload_n X.1 X.2.1 dX12_apart_47 rfl (lv_at hl 1 rfl) ?_
  obtain ⟨hc, h⟩ := kg_of h
  refine al_X12_13 (i := 0) X V rfl hc dX12_apart_48 ?_
  refine lv_aload_n X.1 X.2.1 dX12_apart_49 rfl (lv_at hl 0 rfl) ?_
  refine gf_X12_36 (i := 0) X V rfl dX12_apart_50 ?_
  refine lv_iload_n X.1 X.2.1 dX12_apart_53 rfl (lv_at hl 2 rfl) ?_
  obtain ⟨hc, h⟩ := kg_of h
  refine al_X12_13 (i := 0) X V rfl hc dX12_apart_54 ?_
  refine lv_isub X.1 X.2.1 dX12_apart_55 ?_
  refine lv_i2l X.1 X.2.1 dX12_apart_56 rfl ?_
  refine lv_lmul X.1 X.2.1 dX12_apart_57 ?_
  refine lv_ladd X.1 X.2.1 dX12_apart_58 ?_
  obtain rfl := Option.some.inj h
  rw [hAA] at V
  rw [hQQ]
  exact k_lret X V rfl dX12_apart_59

def p_X12_one (zT : tX12) (v1 : Int32) : Option (tX12) :=
  kg (kii v1 41) (kl (zT.1, va_up zT.2.1 16 (((zT.2.2.1 12) v1.toNatClampNeg)).toInt64, zT.2.2) (fun z1 => kg (kii v1 41) (kl (z1.1, va_up z1.2.1 17 (((z1.2.2.1 13) v1.toNatClampNeg)).toInt64, z1.2.2) (fun z2 => kl (z2.1, va_up z2.2.1 18 (0 : Int64), z2.2.2) (fun z3 => kl (z3.1, va_up z3.2.1 19 (0 : Int64), z3.2.2) (fun z4 => kl (z4.1, va_up z4.2.1 20 (1 : Int64), z4.2.2) (fun z5 => kl (z5.1, va_up z5.2.1 21 (0 : Int64), z5.2.2) (fun z6 => kl (z6.1, va_up z6.2.1 22 (1 : Int64), z6.2.2) (fun z7 => some z7)))))))))
set_option maxHeartbeats 4000000 in
set_option maxRecDepth 100000 in
theorem c_X12_one (l : Launch) (D : va_G) (g : kG) (aT : Nat → Nat) (zT : tX12) (v1 : Int32) (r : tX12) (h : p_X12_one zT v1 = some r) : kMv l yX12_one cX12_one 2 none (kR 0 0) D (kty g) [.ref (aT 0), .int v1] (List.flatten [gX12 g aT zT]) (List.flatten [gX12 g aT r]) := by
  intro sz
  refine k_enter (lv := [(0, .ref (aT 0)), (1, .int v1)]) RX12 (by decide +kernel) rfl rfl (Nat.le_of_ble_eq_true rfl) ?_
  intro p en s m args below meth c ls hsz X V hl
  obtain ⟨QQ, hQQ⟩ : ∃ q, q = MQ below (va_Qv (fun (_ : Unit) => True) (fun _ => kE D (List.flatten [gX12 g aT r])) (va_A (List.flatten [gX12 g aT zT]) sz)) args s 0 0 (va_A (List.flatten [gX12 g aT zT]) sz) := ⟨_, rfl⟩
  rw [← hQQ]
  obtain ⟨AA, hAA⟩ : ∃ q, q = va_A (List.flatten [gX12 g aT zT]) sz := ⟨_, rfl⟩
  rw [← hAA] at V
  unfold p_X12_one at h
  refine lv_aload_n X.1 X.2.1 dX12_one_0 rfl (lv_at hl 0 rfl) ?_
  refine lv_aload_n X.1 X.2.1 dX12_one_1 rfl (lv_at hl 0 rfl) ?_
  refine gf_X12_33 (i := 0) X V rfl dX12_one_2 ?_
  refine lv_iload_n X.1 X.2.1 dX12_one_5 rfl (lv_at hl 1 rfl) ?_
  obtain ⟨hc, h⟩ := kg_of h
  refine al_X12_12 (i := 0) X V rfl hc dX12_one_6 ?_
  refine lv_i2l X.1 X.2.1 dX12_one_7 rfl ?_
  refine pf_X12_180 (i := 0) X V rfl dX12_one_8 (fun H locs V => ?_)
  obtain ⟨z8, ez8⟩ : ∃ y, y = (zT.1, va_up zT.2.1 16 (((zT.2.2.1 12) v1.toNatClampNeg)).toInt64, zT.2.2) := ⟨_, rfl⟩
  replace h := kl_of ez8 h
  have V : kW D AA s.heap H (List.flatten [gX12 g aT z8]) locs := by rw [ez8]; exact V
  refine lv_aload_n X.1 X.2.1 dX12_one_11 rfl (lv_at hl 0 rfl) ?_
  refine lv_aload_n X.1 X.2.1 dX12_one_12 rfl (lv_at hl 0 rfl) ?_
  refine gf_X12_36 (i := 0) X V rfl dX12_one_13 ?_
  refine lv_iload_n X.1 X.2.1 dX12_one_16 rfl (lv_at hl 1 rfl) ?_
  obtain ⟨hc, h⟩ := kg_of h
  refine al_X12_13 (i := 0) X V rfl hc dX12_one_17 ?_
  refine lv_i2l X.1 X.2.1 dX12_one_18 rfl ?_
  refine pf_X12_184 (i := 0) X V rfl dX12_one_19 (fun H locs V => ?_)
  obtain ⟨z9, ez9⟩ : ∃ y, y = (z8.1, va_up z8.2.1 17 (((z8.2.2.1 13) v1.toNatClampNeg)).toInt64, z8.2.2) := ⟨_, rfl⟩
  replace h := kl_of ez9 h
  have V : kW D AA s.heap H (List.flatten [gX12 g aT z9]) locs := by rw [ez9]; exact V
  refine lv_aload_n X.1 X.2.1 dX12_one_22 rfl (lv_at hl 0 rfl) ?_
  refine lv_lconst (v := (0 : Int64)) X.1 X.2.1 dX12_one_23 (by decide) ?_
  refine pf_X12_187 (i := 0) X V rfl dX12_one_24 (fun H locs V => ?_)
  obtain ⟨z10, ez10⟩ : ∃ y, y = (z9.1, va_up z9.2.1 18 (0 : Int64), z9.2.2) := ⟨_, rfl⟩
  replace h := kl_of ez10 h
  have V : kW D AA s.heap H (List.flatten [gX12 g aT z10]) locs := by rw [ez10]; exact V
  refine lv_aload_n X.1 X.2.1 dX12_one_27 rfl (lv_at hl 0 rfl) ?_
  refine lv_lconst (v := (0 : Int64)) X.1 X.2.1 dX12_one_28 (by decide) ?_
  refine pf_X12_190 (i := 0) X V rfl dX12_one_29 (fun H locs V => ?_)
  obtain ⟨z11, ez11⟩ : ∃ y, y = (z10.1, va_up z10.2.1 19 (0 : Int64), z10.2.2) := ⟨_, rfl⟩
  replace h := kl_of ez11 h
  have V : kW D AA s.heap H (List.flatten [gX12 g aT z11]) locs := by rw [ez11]; exact V
  refine lv_aload_n X.1 X.2.1 dX12_one_32 rfl (lv_at hl 0 rfl) ?_
  refine lv_lconst (v := (1 : Int64)) X.1 X.2.1 dX12_one_33 (by decide) ?_
  refine pf_X12_193 (i := 0) X V rfl dX12_one_34 (fun H locs V => ?_)
  obtain ⟨z12, ez12⟩ : ∃ y, y = (z11.1, va_up z11.2.1 20 (1 : Int64), z11.2.2) := ⟨_, rfl⟩
  replace h := kl_of ez12 h
  have V : kW D AA s.heap H (List.flatten [gX12 g aT z12]) locs := by rw [ez12]; exact V
  refine lv_aload_n X.1 X.2.1 dX12_one_37 rfl (lv_at hl 0 rfl) ?_
  refine lv_lconst (v := (0 : Int64)) X.1 X.2.1 dX12_one_38 (by decide) ?_
  refine pf_X12_196 (i := 0) X V rfl dX12_one_39 (fun H locs V => ?_)
  obtain ⟨z13, ez13⟩ : ∃ y, y = (z12.1, va_up z12.2.1 21 (0 : Int64), z12.2.2) := ⟨_, rfl⟩
  replace h := kl_of ez13 h
  have V : kW D AA s.heap H (List.flatten [gX12 g aT z13]) locs := by rw [ez13]; exact V
  refine lv_aload_n X.1 X.2.1 dX12_one_42 rfl (lv_at hl 0 rfl) ?_
  refine lv_lconst (v := (1 : Int64)) X.1 X.2.1 dX12_one_43 (by decide) ?_
  refine pf_X12_199 (i := 0) X V rfl dX12_one_44 (fun H locs V => ?_)
  obtain ⟨z14, ez14⟩ : ∃ y, y = (z13.1, va_up z13.2.1 22 (1 : Int64), z13.2.2) := ⟨_, rfl⟩
  replace h := kl_of ez14 h
  have V : kW D AA s.heap H (List.flatten [gX12 g aT z14]) locs := by rw [ez14]; exact V
  obtain rfl := Option.some.inj h
  rw [hAA] at V
  rw [hQQ]
  exact k_vret X V dX12_one_47

def p_X12_pair (zT : tX12) (v1 : Int32) (v2 : Int32) : Option (tX12) :=
  kg (kii v1 41) (kl (zT.1, va_up zT.2.1 16 (((zT.2.2.1 12) v1.toNatClampNeg)).toInt64, zT.2.2) (fun z1 => kg (kii v1 41) (kl (z1.1, va_up z1.2.1 17 (((z1.2.2.1 13) v1.toNatClampNeg)).toInt64, z1.2.2) (fun z2 => kg (kii v2 41) (kg (kii v1 41) (kl (z2.1, va_up z2.2.1 18 ((((z2.2.2.1 12) v2.toNatClampNeg) - ((z2.2.2.1 12) v1.toNatClampNeg))).toInt64, z2.2.2) (fun z3 => kg (kii v2 41) (kg (kii v1 41) (kl (z3.1, va_up z3.2.1 19 ((((z3.2.2.1 13) v2.toNatClampNeg) - ((z3.2.2.1 13) v1.toNatClampNeg))).toInt64, z3.2.2) (fun z4 => kl (z4.1, va_up z4.2.1 20 (2 : Int64), z4.2.2) (fun z5 => kb (p_X12_apart z5 v1 v2) (fun x6 => kb (p_X12_above x6 (4 : Int64)) (fun x7 => kl (z5.1, va_up z5.2.1 21 x7, z5.2.2) (fun z8 => kb (p_X12_below x6 (4 : Int64)) (fun x9 => kl (z8.1, va_up z8.2.1 22 x9, z8.2.2) (fun z10 => some z10))))))))))))))))
set_option maxHeartbeats 4000000 in
set_option maxRecDepth 100000 in
theorem c_X12_pair (l : Launch) (D : va_G) (g : kG) (aT : Nat → Nat) (zT : tX12) (v1 : Int32) (v2 : Int32) (r : tX12) (h : p_X12_pair zT v1 v2 = some r) : kMv l yX12_pair cX12_pair 5 none (kR 2 52) D (kty g) [.ref (aT 0), .int v1, .int v2] (List.flatten [gX12 g aT zT]) (List.flatten [gX12 g aT r]) := by
  intro sz
  refine k_enter (lv := [(0, .ref (aT 0)), (1, .int v1), (2, .int v2)]) RX12 (by decide +kernel) rfl rfl (Nat.le_of_ble_eq_true rfl) ?_
  intro p en s m args below meth c ls hsz X V hl
  obtain ⟨QQ, hQQ⟩ : ∃ q, q = MQ below (va_Qv (fun (_ : Unit) => True) (fun _ => kE D (List.flatten [gX12 g aT r])) (va_A (List.flatten [gX12 g aT zT]) sz)) args s 0 0 (va_A (List.flatten [gX12 g aT zT]) sz) := ⟨_, rfl⟩
  rw [← hQQ]
  obtain ⟨AA, hAA⟩ : ∃ q, q = va_A (List.flatten [gX12 g aT zT]) sz := ⟨_, rfl⟩
  rw [← hAA] at V
  unfold p_X12_pair at h
  refine lv_aload_n X.1 X.2.1 dX12_pair_0 rfl (lv_at hl 0 rfl) ?_
  refine lv_aload_n X.1 X.2.1 dX12_pair_1 rfl (lv_at hl 0 rfl) ?_
  refine gf_X12_33 (i := 0) X V rfl dX12_pair_2 ?_
  refine lv_iload_n X.1 X.2.1 dX12_pair_5 rfl (lv_at hl 1 rfl) ?_
  obtain ⟨hc, h⟩ := kg_of h
  refine al_X12_12 (i := 0) X V rfl hc dX12_pair_6 ?_
  refine lv_i2l X.1 X.2.1 dX12_pair_7 rfl ?_
  refine pf_X12_180 (i := 0) X V rfl dX12_pair_8 (fun H locs V => ?_)
  obtain ⟨z11, ez11⟩ : ∃ y, y = (zT.1, va_up zT.2.1 16 (((zT.2.2.1 12) v1.toNatClampNeg)).toInt64, zT.2.2) := ⟨_, rfl⟩
  replace h := kl_of ez11 h
  have V : kW D AA s.heap H (List.flatten [gX12 g aT z11]) locs := by rw [ez11]; exact V
  refine lv_aload_n X.1 X.2.1 dX12_pair_11 rfl (lv_at hl 0 rfl) ?_
  refine lv_aload_n X.1 X.2.1 dX12_pair_12 rfl (lv_at hl 0 rfl) ?_
  refine gf_X12_36 (i := 0) X V rfl dX12_pair_13 ?_
  refine lv_iload_n X.1 X.2.1 dX12_pair_16 rfl (lv_at hl 1 rfl) ?_
  obtain ⟨hc, h⟩ := kg_of h
  refine al_X12_13 (i := 0) X V rfl hc dX12_pair_17 ?_
  refine lv_i2l X.1 X.2.1 dX12_pair_18 rfl ?_
  refine pf_X12_184 (i := 0) X V rfl dX12_pair_19 (fun H locs V => ?_)
  obtain ⟨z12, ez12⟩ : ∃ y, y = (z11.1, va_up z11.2.1 17 (((z11.2.2.1 13) v1.toNatClampNeg)).toInt64, z11.2.2) := ⟨_, rfl⟩
  replace h := kl_of ez12 h
  have V : kW D AA s.heap H (List.flatten [gX12 g aT z12]) locs := by rw [ez12]; exact V
  refine lv_aload_n X.1 X.2.1 dX12_pair_22 rfl (lv_at hl 0 rfl) ?_
  refine lv_aload_n X.1 X.2.1 dX12_pair_23 rfl (lv_at hl 0 rfl) ?_
  refine gf_X12_33 (i := 0) X V rfl dX12_pair_24 ?_
  refine lv_iload_n X.1 X.2.1 dX12_pair_27 rfl (lv_at hl 2 rfl) ?_
  obtain ⟨hc, h⟩ := kg_of h
  refine al_X12_12 (i := 0) X V rfl hc dX12_pair_28 ?_
  refine lv_aload_n X.1 X.2.1 dX12_pair_29 rfl (lv_at hl 0 rfl) ?_
  refine gf_X12_33 (i := 0) X V rfl dX12_pair_30 ?_
  refine lv_iload_n X.1 X.2.1 dX12_pair_33 rfl (lv_at hl 1 rfl) ?_
  obtain ⟨hc, h⟩ := kg_of h
  refine al_X12_12 (i := 0) X V rfl hc dX12_pair_34 ?_
  refine lv_isub X.1 X.2.1 dX12_pair_35 ?_
  refine lv_i2l X.1 X.2.1 dX12_pair_36 rfl ?_
  refine pf_X12_187 (i := 0) X V rfl dX12_pair_37 (fun H locs V => ?_)
  obtain ⟨z13, ez13⟩ : ∃ y, y = (z12.1, va_up z12.2.1 18 ((((z12.2.2.1 12) v2.toNatClampNeg) - ((z12.2.2.1 12) v1.toNatClampNeg))).toInt64, z12.2.2) := ⟨_, rfl⟩
  replace h := kl_of ez13 h
  have V : kW D AA s.heap H (List.flatten [gX12 g aT z13]) locs := by rw [ez13]; exact V
  refine lv_aload_n X.1 X.2.1 dX12_pair_40 rfl (lv_at hl 0 rfl) ?_
  refine lv_aload_n X.1 X.2.1 dX12_pair_41 rfl (lv_at hl 0 rfl) ?_
  refine gf_X12_36 (i := 0) X V rfl dX12_pair_42 ?_
  refine lv_iload_n X.1 X.2.1 dX12_pair_45 rfl (lv_at hl 2 rfl) ?_
  obtain ⟨hc, h⟩ := kg_of h
  refine al_X12_13 (i := 0) X V rfl hc dX12_pair_46 ?_
  refine lv_aload_n X.1 X.2.1 dX12_pair_47 rfl (lv_at hl 0 rfl) ?_
  refine gf_X12_36 (i := 0) X V rfl dX12_pair_48 ?_
  refine lv_iload_n X.1 X.2.1 dX12_pair_51 rfl (lv_at hl 1 rfl) ?_
  obtain ⟨hc, h⟩ := kg_of h
  refine al_X12_13 (i := 0) X V rfl hc dX12_pair_52 ?_
  refine lv_isub X.1 X.2.1 dX12_pair_53 ?_
  refine lv_i2l X.1 X.2.1 dX12_pair_54 rfl ?_
  refine pf_X12_190 (i := 0) X V rfl dX12_pair_55 (fun H locs V => ?_)
  obtain ⟨z14, ez14⟩ : ∃ y, y = (z13.1, va_up z13.2.1 19 ((((z13.2.2.1 13) v2.toNatClampNeg) - ((z13.2.2.1 13) v1.toNatClampNeg))).toInt64, z13.2.2) := ⟨_, rfl⟩
  replace h := kl_of ez14 h
  have V : kW D AA s.heap H (List.flatten [gX12 g aT z14]) locs := by rw [ez14]; exact V
  refine lv_aload_n X.1 X.2.1 dX12_pair_58 rfl (lv_at hl 0 rfl) ?_
  refine lv_ldc2 (v := (2 : Int64)) X.1 X.2.1 X.2.2.2.1 (X.2.2.2.2.1 _ kc_X12_202) dX12_pair_59 ?_
  refine pf_X12_193 (i := 0) X V rfl dX12_pair_62 (fun H locs V => ?_)
  obtain ⟨z15, ez15⟩ : ∃ y, y = (z14.1, va_up z14.2.1 20 (2 : Int64), z14.2.2) := ⟨_, rfl⟩
  replace h := kl_of ez15 h
  have V : kW D AA s.heap H (List.flatten [gX12 g aT z15]) locs := by rw [ez15]; exact V
  refine lv_aload_n X.1 X.2.1 dX12_pair_65 rfl (lv_at hl 0 rfl) ?_
  refine lv_iload_n X.1 X.2.1 dX12_pair_66 rfl (lv_at hl 1 rfl) ?_
  refine lv_iload_n X.1 X.2.1 dX12_pair_67 rfl (lv_at hl 2 rfl) ?_
  obtain ⟨x16, hx16, h⟩ := kb_of h
  refine s_callVl (segs' := [gX12 g aT z15]) (ci := 12) (i0 := 0) X V (c_X12_apart l D g aT z15 v1 v2 x16 hx16) w_X12_204 ⟨Nat.le_of_ble_eq_true rfl, Nat.le_of_ble_eq_true rfl⟩ ⟨Nat.zero_le _, Nat.zero_le _⟩ rfl rfl rfl rfl [0] rfl rfl (kFst_refl _) rfl rfl hl.1 (Nat.le_of_ble_eq_true rfl) dX12_pair_68 (fun H locs V => ?_)
  refine lv_lstore_n (lv' := [(3, .long x16), (0, .ref (aT 0)), (1, .int v1), (2, .int v2)]) X.1 X.2.1 dX12_pair_71 rfl hl (by decide) rfl (fun ls hl => ?_)
  refine lv_aload_n X.1 X.2.1 dX12_pair_72 rfl (lv_at hl 1 rfl) ?_
  refine lv_lload_n X.1 X.2.1 dX12_pair_73 rfl (lv_at hl 0 rfl) ?_
  refine lv_ldc2 (v := (4 : Int64)) X.1 X.2.1 X.2.2.2.1 (X.2.2.2.2.1 _ kc_X12_208) dX12_pair_74 ?_
  obtain ⟨x17, hx17, h⟩ := kb_of h
  refine s_callSl (segs' := [gX12 g aT z15]) X V (c_X12_above l D g x16 (4 : Int64) x17 hx17) w_X12_210 ⟨Nat.le_of_ble_eq_true rfl, Nat.le_of_ble_eq_true rfl⟩ ⟨Nat.zero_le _, Nat.zero_le _⟩ rfl [] rfl rfl (kFst_refl _) rfl rfl hl.1 (Nat.le_of_ble_eq_true rfl) dX12_pair_77 (fun H locs V => ?_)
  refine pf_X12_196 (i := 0) X V rfl dX12_pair_80 (fun H locs V => ?_)
  obtain ⟨z18, ez18⟩ : ∃ y, y = (z15.1, va_up z15.2.1 21 x17, z15.2.2) := ⟨_, rfl⟩
  replace h := kl_of ez18 h
  have V : kW D AA s.heap H (List.flatten [gX12 g aT z18]) locs := by rw [ez18]; exact V
  refine lv_aload_n X.1 X.2.1 dX12_pair_83 rfl (lv_at hl 1 rfl) ?_
  refine lv_lload_n X.1 X.2.1 dX12_pair_84 rfl (lv_at hl 0 rfl) ?_
  refine lv_ldc2 (v := (4 : Int64)) X.1 X.2.1 X.2.2.2.1 (X.2.2.2.2.1 _ kc_X12_208) dX12_pair_85 ?_
  obtain ⟨x19, hx19, h⟩ := kb_of h
  refine s_callSl (segs' := [gX12 g aT z18]) X V (c_X12_below l D g x16 (4 : Int64) x19 hx19) w_X12_213 ⟨Nat.le_of_ble_eq_true rfl, Nat.le_of_ble_eq_true rfl⟩ ⟨Nat.zero_le _, Nat.zero_le _⟩ rfl [] rfl rfl (kFst_refl _) rfl rfl hl.1 (Nat.le_of_ble_eq_true rfl) dX12_pair_88 (fun H locs V => ?_)
  refine pf_X12_199 (i := 0) X V rfl dX12_pair_91 (fun H locs V => ?_)
  obtain ⟨z20, ez20⟩ : ∃ y, y = (z18.1, va_up z18.2.1 22 x19, z18.2.2) := ⟨_, rfl⟩
  replace h := kl_of ez20 h
  have V : kW D AA s.heap H (List.flatten [gX12 g aT z20]) locs := by rw [ez20]; exact V
  obtain rfl := Option.some.inj h
  rw [hAA] at V
  rw [hQQ]
  exact k_vret X V dX12_pair_94

def p_X12_turn (zT : tX12) (v1 : Int32) (v2 : Int32) (v3 : Int32) : Option (Int64) :=
  kg (kii v2 41) (kg (kii v1 41) (kg (kii v3 41) (kg (kii v1 41) (kg (kii v2 41) (kg (kii v1 41) (kg (kii v3 41) (kg (kii v1 41) (some (((((((zT.2.2.1 12) v2.toNatClampNeg) - ((zT.2.2.1 12) v1.toNatClampNeg))).toInt64 * ((((zT.2.2.1 13) v3.toNatClampNeg) - ((zT.2.2.1 13) v1.toNatClampNeg))).toInt64) - (((((zT.2.2.1 13) v2.toNatClampNeg) - ((zT.2.2.1 13) v1.toNatClampNeg))).toInt64 * ((((zT.2.2.1 12) v3.toNatClampNeg) - ((zT.2.2.1 12) v1.toNatClampNeg))).toInt64)))))))))))
set_option maxHeartbeats 4000000 in
set_option maxRecDepth 100000 in
theorem c_X12_turn (l : Launch) (D : va_G) (g : kG) (aT : Nat → Nat) (zT : tX12) (v1 : Int32) (v2 : Int32) (v3 : Int32) (r : Int64) (h : p_X12_turn zT v1 v2 v3 = some r) : kMl l yX12_turn cX12_turn 4 (some .long) (kR 0 0) D (kty g) [.ref (aT 0), .int v1, .int v2, .int v3] (List.flatten [gX12 g aT zT]) r (List.flatten [gX12 g aT zT]) := by
  intro sz
  refine k_enter (lv := [(0, .ref (aT 0)), (1, .int v1), (2, .int v2), (3, .int v3)]) RX12 (by decide +kernel) rfl rfl (Nat.le_of_ble_eq_true rfl) ?_
  intro p en s m args below meth c ls hsz X V hl
  obtain ⟨QQ, hQQ⟩ : ∃ q, q = MQ below (va_Ql (fun r' (_ : Unit) => r' = r) (fun _ => kE D (List.flatten [gX12 g aT zT])) (va_A (List.flatten [gX12 g aT zT]) sz)) args s 0 0 (va_A (List.flatten [gX12 g aT zT]) sz) := ⟨_, rfl⟩
  rw [← hQQ]
  obtain ⟨AA, hAA⟩ : ∃ q, q = va_A (List.flatten [gX12 g aT zT]) sz := ⟨_, rfl⟩
  rw [← hAA] at V
  unfold p_X12_turn at h
  refine lv_aload_n X.1 X.2.1 dX12_turn_0 rfl (lv_at hl 0 rfl) ?_
  refine gf_X12_33 (i := 0) X V rfl dX12_turn_1 ?_
  refine lv_iload_n X.1 X.2.1 dX12_turn_4 rfl (lv_at hl 2 rfl) ?_
  obtain ⟨hc, h⟩ := kg_of h
  refine al_X12_12 (i := 0) X V rfl hc dX12_turn_5 ?_
  refine lv_aload_n X.1 X.2.1 dX12_turn_6 rfl (lv_at hl 0 rfl) ?_
  refine gf_X12_33 (i := 0) X V rfl dX12_turn_7 ?_
  refine lv_iload_n X.1 X.2.1 dX12_turn_10 rfl (lv_at hl 1 rfl) ?_
  obtain ⟨hc, h⟩ := kg_of h
  refine al_X12_12 (i := 0) X V rfl hc dX12_turn_11 ?_
  refine lv_isub X.1 X.2.1 dX12_turn_12 ?_
  refine lv_i2l X.1 X.2.1 dX12_turn_13 rfl ?_
  refine lv_aload_n X.1 X.2.1 dX12_turn_14 rfl (lv_at hl 0 rfl) ?_
  refine gf_X12_36 (i := 0) X V rfl dX12_turn_15 ?_
  refine lv_iload_n X.1 X.2.1 dX12_turn_18 rfl (lv_at hl 3 rfl) ?_
  obtain ⟨hc, h⟩ := kg_of h
  refine al_X12_13 (i := 0) X V rfl hc dX12_turn_19 ?_
  refine lv_aload_n X.1 X.2.1 dX12_turn_20 rfl (lv_at hl 0 rfl) ?_
  refine gf_X12_36 (i := 0) X V rfl dX12_turn_21 ?_
  refine lv_iload_n X.1 X.2.1 dX12_turn_24 rfl (lv_at hl 1 rfl) ?_
  obtain ⟨hc, h⟩ := kg_of h
  refine al_X12_13 (i := 0) X V rfl hc dX12_turn_25 ?_
  refine lv_isub X.1 X.2.1 dX12_turn_26 ?_
  refine lv_i2l X.1 X.2.1 dX12_turn_27 rfl ?_
  refine lv_lmul X.1 X.2.1 dX12_turn_28 ?_
  refine lv_aload_n X.1 X.2.1 dX12_turn_29 rfl (lv_at hl 0 rfl) ?_
  refine gf_X12_36 (i := 0) X V rfl dX12_turn_30 ?_
  refine lv_iload_n X.1 X.2.1 dX12_turn_33 rfl (lv_at hl 2 rfl) ?_
  obtain ⟨hc, h⟩ := kg_of h
  refine al_X12_13 (i := 0) X V rfl hc dX12_turn_34 ?_
  refine lv_aload_n X.1 X.2.1 dX12_turn_35 rfl (lv_at hl 0 rfl) ?_
  refine gf_X12_36 (i := 0) X V rfl dX12_turn_36 ?_
  refine lv_iload_n X.1 X.2.1 dX12_turn_39 rfl (lv_at hl 1 rfl) ?_
  obtain ⟨hc, h⟩ := kg_of h
  refine al_X12_13 (i := 0) X V rfl hc dX12_turn_40 ?_
  refine lv_isub X.1 X.2.1 dX12_turn_41 ?_
  refine lv_i2l X.1 X.2.1 dX12_turn_42 rfl ?_
  refine lv_aload_n X.1 X.2.1 dX12_turn_43 rfl (lv_at hl 0 rfl) ?_
  refine gf_X12_33 (i := 0) X V rfl dX12_turn_44 ?_
  refine lv_iload_n X.1 X.2.1 dX12_turn_47 rfl (lv_at hl 3 rfl) ?_
  obtain ⟨hc, h⟩ := kg_of h
  refine al_X12_12 (i := 0) X V rfl hc dX12_turn_48 ?_
  refine lv_aload_n X.1 X.2.1 dX12_turn_49 rfl (lv_at hl 0 rfl) ?_
  refine gf_X12_33 (i := 0) X V rfl dX12_turn_50 ?_
  refine lv_iload_n X.1 X.2.1 dX12_turn_53 rfl (lv_at hl 1 rfl) ?_
  obtain ⟨hc, h⟩ := kg_of h
  refine al_X12_12 (i := 0) X V rfl hc dX12_turn_54 ?_
  refine lv_isub X.1 X.2.1 dX12_turn_55 ?_
  refine lv_i2l X.1 X.2.1 dX12_turn_56 rfl ?_
  refine lv_lmul X.1 X.2.1 dX12_turn_57 ?_
  refine lv_lsub X.1 X.2.1 dX12_turn_58 ?_
  obtain rfl := Option.some.inj h
  rw [hAA] at V
  rw [hQQ]
  exact k_lret X V rfl dX12_turn_59
