def p_X12_lay_ (zT : tX12) (v1 : Int32) : Option (tX12) :=
  kg (kii (zT.1 55) 500) (kl (zT.1, zT.2.1, va_up zT.2.2.1 54 (upd (zT.2.2.1 54) ((zT.1 55)).toNatClampNeg (vp_nar .byte (v1).toInt8.toInt32)), zT.2.2.2) (fun z1 => kl (va_up z1.1 55 ((z1.1 55) + (1 : Int32)), z1.2) (fun z2 => some z2)))
set_option maxHeartbeats 4000000 in
set_option maxRecDepth 100000 in
theorem c_X12_lay_ (l : Launch) (D : va_G) (g : kG) (aT : Nat → Nat) (zT : tX12) (v1 : Int32) (r : tX12) (h : p_X12_lay_ zT v1 = some r) : kMv l yX12_lay_ cX12_lay_ 2 none (kR 0 0) D (kty g) [.ref (aT 0), .int v1] (List.flatten [gX12 g aT zT]) (List.flatten [gX12 g aT r]) := by
  intro sz
  refine k_enter (lv := [(0, .ref (aT 0)), (1, .int v1)]) RX12 (by decide +kernel) rfl rfl (Nat.le_of_ble_eq_true rfl) ?_
  intro p en s m args below meth c ls hsz X V hl
  obtain ⟨QQ, hQQ⟩ : ∃ q, q = MQ below (va_Qv (fun (_ : Unit) => True) (fun _ => kE D (List.flatten [gX12 g aT r])) (va_A (List.flatten [gX12 g aT zT]) sz)) args s 0 0 (va_A (List.flatten [gX12 g aT zT]) sz) := ⟨_, rfl⟩
  rw [← hQQ]
  obtain ⟨AA, hAA⟩ : ∃ q, q = va_A (List.flatten [gX12 g aT zT]) sz := ⟨_, rfl⟩
  rw [← hAA] at V
  unfold p_X12_lay_ at h
  refine lv_aload_n X.1 X.2.1 dX12_lay__0 rfl (lv_at hl 0 rfl) ?_
  refine gf_X12_70 (i := 0) X V rfl dX12_lay__1 ?_
  refine lv_aload_n X.1 X.2.1 dX12_lay__4 rfl (lv_at hl 0 rfl) ?_
  refine gf_X12_438 (i := 0) X V rfl dX12_lay__5 ?_
  refine lv_iload_n X.1 X.2.1 dX12_lay__8 rfl (lv_at hl 1 rfl) ?_
  refine lv_i2b X.1 X.2.1 dX12_lay__9 rfl ?_
  obtain ⟨hc, h⟩ := kg_of h
  refine as_X12_54 (i := 0) X V rfl hc dX12_lay__10 (fun H locs V => ?_)
  obtain ⟨z3, ez3⟩ : ∃ y, y = (zT.1, zT.2.1, va_up zT.2.2.1 54 (upd (zT.2.2.1 54) ((zT.1 55)).toNatClampNeg (vp_nar .byte (v1).toInt8.toInt32)), zT.2.2.2) := ⟨_, rfl⟩
  replace h := kl_of ez3 h
  have V : kW D AA s.heap H (List.flatten [gX12 g aT z3]) locs := by rw [ez3]; exact V
  refine lv_aload_n X.1 X.2.1 dX12_lay__11 rfl (lv_at hl 0 rfl) ?_
  refine lv_dup X.1 X.2.1 dX12_lay__12 rfl ?_
  refine gf_X12_438 (i := 0) X V rfl dX12_lay__13 ?_
  refine lv_iconst (v := (1 : Int32)) X.1 X.2.1 dX12_lay__16 (by decide) ?_
  refine lv_iadd X.1 X.2.1 dX12_lay__17 ?_
  refine pf_X12_438 (i := 0) X V rfl dX12_lay__18 (fun H locs V => ?_)
  obtain ⟨z4, ez4⟩ : ∃ y, y = (va_up z3.1 55 ((z3.1 55) + (1 : Int32)), z3.2) := ⟨_, rfl⟩
  replace h := kl_of ez4 h
  have V : kW D AA s.heap H (List.flatten [gX12 g aT z4]) locs := by rw [ez4]; exact V
  obtain rfl := Option.some.inj h
  rw [hAA] at V
  rw [hQQ]
  exact k_vret X V dX12_lay__21

def p_X12_layNumber_J58 (v1 : Int32) (zT : tX12) (v2 : Int32) : Option (tX12) :=
  kb (p_X12_lay_ zT ((48 : Int32) + (v2 - v2 / (10 : Int32) * (10 : Int32)))) (fun x1 => some x1)
def p_X12_layNumber_J38 (v1 : Int32) (zT : tX12) (v2 : Int32) : Option (tX12) :=
  kif (v2 ≤ (9 : Int32)) (p_X12_layNumber_J58 v1 zT v2) (kb (p_X12_lay_ zT ((48 : Int32) + ((v2 / (10 : Int32)) - (v2 / (10 : Int32)) / (10 : Int32) * (10 : Int32)))) (fun x2 => p_X12_layNumber_J58 v1 x2 v2))
def p_X12_layNumber_J20 (v1 : Int32) (zT : tX12) (k20_0 : Int32) : Option (tX12) :=
  kif (k20_0 ≤ (99 : Int32)) (p_X12_layNumber_J38 v1 zT k20_0) (kb (p_X12_lay_ zT ((48 : Int32) + (k20_0 / (100 : Int32)))) (fun x3 => p_X12_layNumber_J38 v1 x3 k20_0))
def p_X12_layNumber_J10 (v1 : Int32) (zT : tX12) : Option (tX12) :=
  kif (0 ≤ v1) (p_X12_layNumber_J20 v1 zT v1) (p_X12_layNumber_J20 v1 zT (-v1))
def p_X12_layNumber (zT : tX12) (v1 : Int32) : Option (tX12) :=
  kif (0 ≤ v1) (p_X12_layNumber_J10 v1 zT) (kb (p_X12_lay_ zT (45 : Int32)) (fun x4 => p_X12_layNumber_J10 v1 x4))
set_option maxHeartbeats 4000000 in
set_option maxRecDepth 100000 in
theorem c_X12_layNumber (l : Launch) (D : va_G) (g : kG) (aT : Nat → Nat) (zT : tX12) (v1 : Int32) (r : tX12) (h : p_X12_layNumber zT v1 = some r) : kMv l yX12_layNumber cX12_layNumber 3 none (kR 1 21) D (kty g) [.ref (aT 0), .int v1] (List.flatten [gX12 g aT zT]) (List.flatten [gX12 g aT r]) := by
  intro sz
  refine k_enter (lv := [(0, .ref (aT 0)), (1, .int v1)]) RX12 (by decide +kernel) rfl rfl (Nat.le_of_ble_eq_true rfl) ?_
  intro p en s m args below meth c ls hsz X V hl
  obtain ⟨QQ, hQQ⟩ : ∃ q, q = MQ below (va_Qv (fun (_ : Unit) => True) (fun _ => kE D (List.flatten [gX12 g aT r])) (va_A (List.flatten [gX12 g aT zT]) sz)) args s 0 0 (va_A (List.flatten [gX12 g aT zT]) sz) := ⟨_, rfl⟩
  rw [← hQQ]
  obtain ⟨AA, hAA⟩ : ∃ q, q = va_A (List.flatten [gX12 g aT zT]) sz := ⟨_, rfl⟩
  rw [← hAA] at V
  have J58 : ∀ (zT : tX12) (v2 : Int32) (H : Heap) (locs : List Loc) (ls : Array Slot), p_X12_layNumber_J58 v1 zT v2 = some r → kW D AA s.heap H (List.flatten [gX12 g aT zT]) locs → lv_has ls 3 [(0, .ref (aT 0)), (2, .int v2)] → W p l en (kR 1 21) s m args below meth c H locs 0 0 QQ (F0 m 58 ls []) := by
    intro zT v2 H locs ls h V hl
    unfold p_X12_layNumber_J58 at h
    refine lv_aload_n X.1 X.2.1 dX12_layNumber_58 rfl (lv_at hl 0 rfl) ?_
    refine lv_bipush (v := (48 : Int32)) X.1 X.2.1 dX12_layNumber_59 (by decide) ?_
    refine lv_iload_n X.1 X.2.1 dX12_layNumber_61 rfl (lv_at hl 1 rfl) ?_
    refine lv_bipush (v := (10 : Int32)) X.1 X.2.1 dX12_layNumber_62 (by decide) ?_
    refine lv_irem X.1 X.2.1 dX12_layNumber_64 (by decide) ?_
    refine lv_iadd X.1 X.2.1 dX12_layNumber_65 ?_
    obtain ⟨x5, hx5, h⟩ := kb_of h
    refine s_callVv (segs' := [gX12 g aT x5]) (ci := 12) (i0 := 0) X V (c_X12_lay_ l D g aT zT ((48 : Int32) + (v2 - v2 / (10 : Int32) * (10 : Int32))) x5 hx5) w_X12_441 ⟨Nat.le_of_ble_eq_true rfl, Nat.le_of_ble_eq_true rfl⟩ ⟨Nat.zero_le _, Nat.zero_le _⟩ rfl rfl rfl rfl [0] rfl rfl ⟨gX12_fst, trivial⟩ rfl rfl hl.1 (Nat.le_of_ble_eq_true rfl) dX12_layNumber_66 (fun H locs V => ?_)
    obtain rfl := Option.some.inj h
    rw [hAA] at V
    rw [hQQ]
    exact k_vret X V dX12_layNumber_69
  have J38 : ∀ (zT : tX12) (v2 : Int32) (H : Heap) (locs : List Loc) (ls : Array Slot), p_X12_layNumber_J38 v1 zT v2 = some r → kW D AA s.heap H (List.flatten [gX12 g aT zT]) locs → lv_has ls 3 [(0, .ref (aT 0)), (2, .int v2)] → W p l en (kR 1 21) s m args below meth c H locs 0 0 QQ (F0 m 38 ls []) := by
    intro zT v2 H locs ls h V hl
    unfold p_X12_layNumber_J38 at h
    refine lv_iload_n X.1 X.2.1 dX12_layNumber_38 rfl (lv_at hl 1 rfl) ?_
    refine lv_bipush (v := (9 : Int32)) X.1 X.2.1 dX12_layNumber_39 (by decide) ?_
    refine lv_icmp_le (tgt := 58) X.1 X.2.1 dX12_layNumber_41 (by decide) (fun hc => ?_) (fun hc => ?_)
    · replace h := kif_t hc h
      exact J58 zT v2 _ _ _ h V (lv_sub hl [0, 1] rfl)
    · replace h := kif_f hc h
      refine lv_aload_n X.1 X.2.1 dX12_layNumber_44 rfl (lv_at hl 0 rfl) ?_
      refine lv_bipush (v := (48 : Int32)) X.1 X.2.1 dX12_layNumber_45 (by decide) ?_
      refine lv_iload_n X.1 X.2.1 dX12_layNumber_47 rfl (lv_at hl 1 rfl) ?_
      refine lv_bipush (v := (10 : Int32)) X.1 X.2.1 dX12_layNumber_48 (by decide) ?_
      refine lv_idiv X.1 X.2.1 dX12_layNumber_50 (by decide) ?_
      refine lv_bipush (v := (10 : Int32)) X.1 X.2.1 dX12_layNumber_51 (by decide) ?_
      refine lv_irem X.1 X.2.1 dX12_layNumber_53 (by decide) ?_
      refine lv_iadd X.1 X.2.1 dX12_layNumber_54 ?_
      obtain ⟨x6, hx6, h⟩ := kb_of h
      refine s_callVv (segs' := [gX12 g aT x6]) (ci := 12) (i0 := 0) X V (c_X12_lay_ l D g aT zT ((48 : Int32) + ((v2 / (10 : Int32)) - (v2 / (10 : Int32)) / (10 : Int32) * (10 : Int32))) x6 hx6) w_X12_441 ⟨Nat.le_of_ble_eq_true rfl, Nat.le_of_ble_eq_true rfl⟩ ⟨Nat.zero_le _, Nat.zero_le _⟩ rfl rfl rfl rfl [0] rfl rfl ⟨gX12_fst, trivial⟩ rfl rfl hl.1 (Nat.le_of_ble_eq_true rfl) dX12_layNumber_55 (fun H locs V => ?_)
      exact J58 x6 v2 _ _ _ h V (lv_sub hl [0, 1] rfl)
  have J20 : ∀ (zT : tX12) (k20_0 : Int32) (H : Heap) (locs : List Loc) (ls : Array Slot), p_X12_layNumber_J20 v1 zT k20_0 = some r → kW D AA s.heap H (List.flatten [gX12 g aT zT]) locs → lv_has ls 3 [(0, .ref (aT 0))] → W p l en (kR 1 21) s m args below meth c H locs 0 0 QQ (F0 m 20 ls [.int k20_0]) := by
    intro zT k20_0 H locs ls h V hl
    unfold p_X12_layNumber_J20 at h
    refine lv_istore_n (lv' := [(2, .int k20_0), (0, .ref (aT 0))]) X.1 X.2.1 dX12_layNumber_20 rfl hl (by decide) rfl (fun ls hl => ?_)
    refine lv_iload_n X.1 X.2.1 dX12_layNumber_21 rfl (lv_at hl 0 rfl) ?_
    refine lv_bipush (v := (99 : Int32)) X.1 X.2.1 dX12_layNumber_22 (by decide) ?_
    refine lv_icmp_le (tgt := 38) X.1 X.2.1 dX12_layNumber_24 (by decide) (fun hc => ?_) (fun hc => ?_)
    · replace h := kif_t hc h
      exact J38 zT k20_0 _ _ _ h V (lv_sub hl [1, 0] rfl)
    · replace h := kif_f hc h
      refine lv_aload_n X.1 X.2.1 dX12_layNumber_27 rfl (lv_at hl 1 rfl) ?_
      refine lv_bipush (v := (48 : Int32)) X.1 X.2.1 dX12_layNumber_28 (by decide) ?_
      refine lv_iload_n X.1 X.2.1 dX12_layNumber_30 rfl (lv_at hl 0 rfl) ?_
      refine lv_bipush (v := (100 : Int32)) X.1 X.2.1 dX12_layNumber_31 (by decide) ?_
      refine lv_idiv X.1 X.2.1 dX12_layNumber_33 (by decide) ?_
      refine lv_iadd X.1 X.2.1 dX12_layNumber_34 ?_
      obtain ⟨x7, hx7, h⟩ := kb_of h
      refine s_callVv (segs' := [gX12 g aT x7]) (ci := 12) (i0 := 0) X V (c_X12_lay_ l D g aT zT ((48 : Int32) + (k20_0 / (100 : Int32))) x7 hx7) w_X12_441 ⟨Nat.le_of_ble_eq_true rfl, Nat.le_of_ble_eq_true rfl⟩ ⟨Nat.zero_le _, Nat.zero_le _⟩ rfl rfl rfl rfl [0] rfl rfl ⟨gX12_fst, trivial⟩ rfl rfl hl.1 (Nat.le_of_ble_eq_true rfl) dX12_layNumber_35 (fun H locs V => ?_)
      exact J38 x7 k20_0 _ _ _ h V (lv_sub hl [1, 0] rfl)
  have J10 : ∀ (zT : tX12) (H : Heap) (locs : List Loc) (ls : Array Slot), p_X12_layNumber_J10 v1 zT = some r → kW D AA s.heap H (List.flatten [gX12 g aT zT]) locs → lv_has ls 3 [(0, .ref (aT 0)), (1, .int v1)] → W p l en (kR 1 21) s m args below meth c H locs 0 0 QQ (F0 m 10 ls []) := by
    intro zT H locs ls h V hl
    unfold p_X12_layNumber_J10 at h
    refine lv_iload_n X.1 X.2.1 dX12_layNumber_10 rfl (lv_at hl 1 rfl) ?_
    refine lv_if_ge (tgt := 19) X.1 X.2.1 dX12_layNumber_11 (by decide) (fun hc => ?_) (fun hc => ?_)
    · replace h := kif_t hc h
      refine lv_iload_n X.1 X.2.1 dX12_layNumber_19 rfl (lv_at hl 1 rfl) ?_
      exact J20 zT v1 _ _ _ h V (lv_sub hl [0] rfl)
    · replace h := kif_f hc h
      refine lv_iload_n X.1 X.2.1 dX12_layNumber_14 rfl (lv_at hl 1 rfl) ?_
      refine lv_ineg X.1 X.2.1 dX12_layNumber_15 ?_
      refine lv_goto (tgt := 20) X.1 X.2.1 dX12_layNumber_16 (by decide) ?_
      exact J20 zT (-v1) _ _ _ h V (lv_sub hl [0] rfl)
  unfold p_X12_layNumber at h
  refine lv_iload_n X.1 X.2.1 dX12_layNumber_0 rfl (lv_at hl 1 rfl) ?_
  refine lv_if_ge (tgt := 10) X.1 X.2.1 dX12_layNumber_1 (by decide) (fun hc => ?_) (fun hc => ?_)
  · replace h := kif_t hc h
    exact J10 zT _ _ _ h V (lv_sub hl [0, 1] rfl)
  · replace h := kif_f hc h
    refine lv_aload_n X.1 X.2.1 dX12_layNumber_4 rfl (lv_at hl 0 rfl) ?_
    refine lv_bipush (v := (45 : Int32)) X.1 X.2.1 dX12_layNumber_5 (by decide) ?_
    obtain ⟨x8, hx8, h⟩ := kb_of h
    refine s_callVv (segs' := [gX12 g aT x8]) (ci := 12) (i0 := 0) X V (c_X12_lay_ l D g aT zT (45 : Int32) x8 hx8) w_X12_441 ⟨Nat.le_of_ble_eq_true rfl, Nat.le_of_ble_eq_true rfl⟩ ⟨Nat.zero_le _, Nat.zero_le _⟩ rfl rfl rfl rfl [0] rfl rfl ⟨gX12_fst, trivial⟩ rfl rfl hl.1 (Nat.le_of_ble_eq_true rfl) dX12_layNumber_7 (fun H locs V => ?_)
    exact J10 x8 _ _ _ h V (lv_sub hl [0, 1] rfl)

def p_X12_write_L17 (v1 : Int32) (s : Int32 × tX12) : Option (Nat × (Int32 × tX12)) :=
  kif ((s.2.1 37) ≤ s.1) (some (73, (s.1, s.2))) (kg (kii s.1 42) (kg (kii ((s.2.2.2.1 35) s.1.toNatClampNeg) 41) (kb (p_X12_layNumber s.2 ((s.2.2.2.1 12) (((s.2.2.2.1 35) s.1.toNatClampNeg)).toNatClampNeg)) (fun x3 => kb (p_X12_lay_ x3 (44 : Int32)) (fun x4 => kg (kii s.1 42) (kg (kii ((x4.2.2.1 35) s.1.toNatClampNeg) 41) (kb (p_X12_layNumber x4 ((x4.2.2.1 13) (((x4.2.2.1 35) s.1.toNatClampNeg)).toNatClampNeg)) (fun x5 => kb (p_X12_lay_ x5 (59 : Int32)) (fun x6 => kl (s.1 + (1 : Int32)) (fun y7 => some (17, (y7, x6))))))))))))
def p_X12_write (zT : tX12) (v1 : Int32) : Option (Int32 × tX12) :=
  kb (p_X12_hasHull zT v1) (fun x1 => kif ((kz x1.1) = 0) (some ((-1 : Int32), x1.2)) (kl (va_up x1.2.1 55 (0 : Int32), x1.2.2) (fun z2 => kb (kitr 17 (fun q => p_X12_write_L17 v1 q) kF ((0 : Int32), z2)) (fun x8 => kg (x8.1 = 73) (some ((x8.2.2.1 55), x8.2.2))))))
set_option maxHeartbeats 4000000 in
set_option maxRecDepth 100000 in
theorem c_X12_write (l : Launch) (D : va_G) (g : kG) (aT : Nat → Nat) (zT : tX12) (v1 : Int32) (r : Int32 × tX12) (h : p_X12_write zT v1 = some r) : kMi l yX12_write cX12_write 3 (some .int) (kR 4 90) D (kty g) [.ref (aT 0), .int v1] (List.flatten [gX12 g aT zT]) r.1 (List.flatten [gX12 g aT r.2]) := by
  intro sz
  refine k_enter (lv := [(0, .ref (aT 0)), (1, .int v1)]) RX12 (by decide +kernel) rfl rfl (Nat.le_of_ble_eq_true rfl) ?_
  intro p en s m args below meth c ls hsz X V hl
  obtain ⟨QQ, hQQ⟩ : ∃ q, q = MQ below (va_Qi (fun r' (_ : Unit) => r' = r.1) (fun _ => kE D (List.flatten [gX12 g aT r.2])) (va_A (List.flatten [gX12 g aT zT]) sz)) args s 0 0 (va_A (List.flatten [gX12 g aT zT]) sz) := ⟨_, rfl⟩
  rw [← hQQ]
  obtain ⟨AA, hAA⟩ : ∃ q, q = va_A (List.flatten [gX12 g aT zT]) sz := ⟨_, rfl⟩
  rw [← hAA] at V
  unfold p_X12_write at h
  refine lv_aload_n X.1 X.2.1 dX12_write_0 rfl (lv_at hl 0 rfl) ?_
  refine lv_iload_n X.1 X.2.1 dX12_write_1 rfl (lv_at hl 1 rfl) ?_
  obtain ⟨x9, hx9, h⟩ := kb_of h
  refine s_callVi (segs' := [gX12 g aT x9.2]) (ci := 12) (i0 := 0) X V (c_X12_hasHull l D g aT zT v1 x9 hx9) w_X12_326 ⟨Nat.le_of_ble_eq_true rfl, Nat.le_of_ble_eq_true rfl⟩ ⟨Nat.zero_le _, Nat.zero_le _⟩ rfl rfl rfl rfl [0] rfl rfl ⟨gX12_fst, trivial⟩ rfl rfl hl.1 (Nat.le_of_ble_eq_true rfl) dX12_write_2 (fun H locs V => ?_)
  refine lv_if_ne (tgt := 10) X.1 X.2.1 dX12_write_5 (by decide) (fun hc => ?_) (fun hc => ?_)
  · replace h := kif_f hc h
    refine lv_aload_n X.1 X.2.1 dX12_write_10 rfl (lv_at hl 0 rfl) ?_
    refine lv_iconst (v := (0 : Int32)) X.1 X.2.1 dX12_write_11 (by decide) ?_
    refine pf_X12_438 (i := 0) X V rfl dX12_write_12 (fun H locs V => ?_)
    obtain ⟨z10, ez10⟩ : ∃ y, y = (va_up x9.2.1 55 (0 : Int32), x9.2.2) := ⟨_, rfl⟩
    replace h := kl_of ez10 h
    have V : kW D AA s.heap H (List.flatten [gX12 g aT z10]) locs := by rw [ez10]; exact V
    refine lv_iconst (v := (0 : Int32)) X.1 X.2.1 dX12_write_15 (by decide) ?_
    refine lv_istore_n (lv' := [(2, .int (0 : Int32)), (0, .ref (aT 0)), (1, .int v1)]) X.1 X.2.1 dX12_write_16 rfl hl (by decide) rfl (fun ls hl => ?_)
    obtain ⟨x11, hx11, h⟩ := kb_of h
    refine (kitr_go (hd := 17) (body := fun q => p_X12_write_L17 v1 q) (G := (fun e => ∀ (H : Heap) (locs : List Loc) (ls : Array Slot), kW D AA s.heap H (List.flatten [gX12 g aT e.2.2]) locs → lv_has ls 3 [(0, .ref (aT 0)), (2, .int e.2.1)] → W p l en (kR 4 90) s m args below meth c H locs 0 0 QQ (F0 m e.1 ls []))) (fun s12 e13 hb14 hG15 => ?_) kF _ x11 hx11 ?_) _ _ _ V (lv_sub hl [1, 0] rfl)
    · intro H locs ls V hl
      show W p l en (kR 4 90) s m args below meth c H locs 0 0 QQ (F0 m 17 ls [])
      have h : p_X12_write_L17 v1 s12 = some e13 := hb14
      unfold p_X12_write_L17 at h
      have V : kW D AA s.heap H (List.flatten [gX12 g aT s12.2]) locs := V
      have hl : lv_has ls 3 [(0, .ref (aT 0)), (2, .int s12.1)] := hl
      refine lv_iload_n X.1 X.2.1 dX12_write_17 rfl (lv_at hl 1 rfl) ?_
      refine lv_aload_n X.1 X.2.1 dX12_write_18 rfl (lv_at hl 0 rfl) ?_
      refine gf_X12_320 (i := 0) X V rfl dX12_write_19 ?_
      refine lv_icmp_ge (tgt := 73) X.1 X.2.1 dX12_write_22 (by decide) (fun hc => ?_) (fun hc => ?_)
      · replace h := kif_t hc h
        obtain rfl := Option.some.inj h
        exact hG15 _ _ _ V (lv_sub hl [0, 1] rfl)
      · replace h := kif_f hc h
        refine lv_aload_n X.1 X.2.1 dX12_write_25 rfl (lv_at hl 0 rfl) ?_
        refine lv_aload_n X.1 X.2.1 dX12_write_26 rfl (lv_at hl 0 rfl) ?_
        refine gf_X12_33 (i := 0) X V rfl dX12_write_27 ?_
        refine lv_aload_n X.1 X.2.1 dX12_write_30 rfl (lv_at hl 0 rfl) ?_
        refine gf_X12_54 (i := 0) X V rfl dX12_write_31 ?_
        refine lv_iload_n X.1 X.2.1 dX12_write_34 rfl (lv_at hl 1 rfl) ?_
        obtain ⟨hc, h⟩ := kg_of h
        refine al_X12_35 (i := 0) X V rfl hc dX12_write_35 ?_
        obtain ⟨hc, h⟩ := kg_of h
        refine al_X12_12 (i := 0) X V rfl hc dX12_write_36 ?_
        obtain ⟨x16, hx16, h⟩ := kb_of h
        refine s_callVv (segs' := [gX12 g aT x16]) (ci := 12) (i0 := 0) X V (c_X12_layNumber l D g aT s12.2 ((s12.2.2.2.1 12) (((s12.2.2.2.1 35) s12.1.toNatClampNeg)).toNatClampNeg) x16 hx16) w_X12_443 ⟨Nat.le_of_ble_eq_true rfl, Nat.le_of_ble_eq_true rfl⟩ ⟨Nat.zero_le _, Nat.zero_le _⟩ rfl rfl rfl rfl [0] rfl rfl ⟨gX12_fst, trivial⟩ rfl rfl hl.1 (Nat.le_of_ble_eq_true rfl) dX12_write_37 (fun H locs V => ?_)
        refine lv_aload_n X.1 X.2.1 dX12_write_40 rfl (lv_at hl 0 rfl) ?_
        refine lv_bipush (v := (44 : Int32)) X.1 X.2.1 dX12_write_41 (by decide) ?_
        obtain ⟨x17, hx17, h⟩ := kb_of h
        refine s_callVv (segs' := [gX12 g aT x17]) (ci := 12) (i0 := 0) X V (c_X12_lay_ l D g aT x16 (44 : Int32) x17 hx17) w_X12_441 ⟨Nat.le_of_ble_eq_true rfl, Nat.le_of_ble_eq_true rfl⟩ ⟨Nat.zero_le _, Nat.zero_le _⟩ rfl rfl rfl rfl [0] rfl rfl ⟨gX12_fst, trivial⟩ rfl rfl hl.1 (Nat.le_of_ble_eq_true rfl) dX12_write_43 (fun H locs V => ?_)
        refine lv_aload_n X.1 X.2.1 dX12_write_46 rfl (lv_at hl 0 rfl) ?_
        refine lv_aload_n X.1 X.2.1 dX12_write_47 rfl (lv_at hl 0 rfl) ?_
        refine gf_X12_36 (i := 0) X V rfl dX12_write_48 ?_
        refine lv_aload_n X.1 X.2.1 dX12_write_51 rfl (lv_at hl 0 rfl) ?_
        refine gf_X12_54 (i := 0) X V rfl dX12_write_52 ?_
        refine lv_iload_n X.1 X.2.1 dX12_write_55 rfl (lv_at hl 1 rfl) ?_
        obtain ⟨hc, h⟩ := kg_of h
        refine al_X12_35 (i := 0) X V rfl hc dX12_write_56 ?_
        obtain ⟨hc, h⟩ := kg_of h
        refine al_X12_13 (i := 0) X V rfl hc dX12_write_57 ?_
        obtain ⟨x18, hx18, h⟩ := kb_of h
        refine s_callVv (segs' := [gX12 g aT x18]) (ci := 12) (i0 := 0) X V (c_X12_layNumber l D g aT x17 ((x17.2.2.1 13) (((x17.2.2.1 35) s12.1.toNatClampNeg)).toNatClampNeg) x18 hx18) w_X12_443 ⟨Nat.le_of_ble_eq_true rfl, Nat.le_of_ble_eq_true rfl⟩ ⟨Nat.zero_le _, Nat.zero_le _⟩ rfl rfl rfl rfl [0] rfl rfl ⟨gX12_fst, trivial⟩ rfl rfl hl.1 (Nat.le_of_ble_eq_true rfl) dX12_write_58 (fun H locs V => ?_)
        refine lv_aload_n X.1 X.2.1 dX12_write_61 rfl (lv_at hl 0 rfl) ?_
        refine lv_bipush (v := (59 : Int32)) X.1 X.2.1 dX12_write_62 (by decide) ?_
        obtain ⟨x19, hx19, h⟩ := kb_of h
        refine s_callVv (segs' := [gX12 g aT x19]) (ci := 12) (i0 := 0) X V (c_X12_lay_ l D g aT x18 (59 : Int32) x19 hx19) w_X12_441 ⟨Nat.le_of_ble_eq_true rfl, Nat.le_of_ble_eq_true rfl⟩ ⟨Nat.zero_le _, Nat.zero_le _⟩ rfl rfl rfl rfl [0] rfl rfl ⟨gX12_fst, trivial⟩ rfl rfl hl.1 (Nat.le_of_ble_eq_true rfl) dX12_write_64 (fun H locs V => ?_)
        obtain ⟨y20, ey20⟩ : ∃ y : Int32, y = (s12.1 + (1 : Int32)) := ⟨_, rfl⟩
        replace h := kl_of ey20 h
        refine lv_iinc (v := y20) (lv' := [(2, .int y20), (0, .ref (aT 0))]) X.1 X.2.1 dX12_write_67 hl (k := 1) rfl (by rw [ey20]; rfl) (by decide) rfl (fun ls hl => ?_)
        refine lv_goto (tgt := 17) X.1 X.2.1 dX12_write_70 (by decide) ?_
        obtain rfl := Option.some.inj h
        exact hG15 _ _ _ V (lv_sub hl [1, 0] rfl)
    · intro H locs ls V hl
      have V : kW D AA s.heap H (List.flatten [gX12 g aT x11.2.2]) locs := V
      have hl : lv_has ls 3 [(0, .ref (aT 0)), (2, .int x11.2.1)] := hl
      obtain ⟨hc, h⟩ := kg_of h
      refine W.eq (g2 := F0 m 73 ls []) (by rw [hc]) ?_
      refine lv_aload_n X.1 X.2.1 dX12_write_73 rfl (lv_at hl 0 rfl) ?_
      refine gf_X12_438 (i := 0) X V rfl dX12_write_74 ?_
      obtain rfl := Option.some.inj h
      rw [hAA] at V
      rw [hQQ]
      exact k_iret X V rfl dX12_write_77
  · replace h := kif_t hc h
    refine lv_iconst (v := (-1 : Int32)) X.1 X.2.1 dX12_write_8 (by decide) ?_
    obtain rfl := Option.some.inj h
    rw [hAA] at V
    rw [hQQ]
    exact k_iret X V rfl dX12_write_9

def p_X12_octet (zT : tX12) (v1 : Int32) : Option (Int32) :=
  kb (p_X12_isIn v1 (0 : Int32) ((zT.1 55) - (1 : Int32))) (fun x1 => kif ((kz x1) = 0) (some (-1 : Int32)) (kg (kii v1 500) (some (((zT.2.2.1 54) v1.toNatClampNeg)))))
set_option maxHeartbeats 4000000 in
set_option maxRecDepth 100000 in
theorem c_X12_octet (l : Launch) (D : va_G) (g : kG) (aT : Nat → Nat) (zT : tX12) (v1 : Int32) (r : Int32) (h : p_X12_octet zT v1 = some r) : kMi l yX12_octet cX12_octet 2 (some .int) (kR 1 22) D (kty g) [.ref (aT 0), .int v1] (List.flatten [gX12 g aT zT]) r (List.flatten [gX12 g aT zT]) := by
  intro sz
  refine k_enter (lv := [(0, .ref (aT 0)), (1, .int v1)]) RX12 (by decide +kernel) rfl rfl (Nat.le_of_ble_eq_true rfl) ?_
  intro p en s m args below meth c ls hsz X V hl
  obtain ⟨QQ, hQQ⟩ : ∃ q, q = MQ below (va_Qi (fun r' (_ : Unit) => r' = r) (fun _ => kE D (List.flatten [gX12 g aT zT])) (va_A (List.flatten [gX12 g aT zT]) sz)) args s 0 0 (va_A (List.flatten [gX12 g aT zT]) sz) := ⟨_, rfl⟩
  rw [← hQQ]
  obtain ⟨AA, hAA⟩ : ∃ q, q = va_A (List.flatten [gX12 g aT zT]) sz := ⟨_, rfl⟩
  rw [← hAA] at V
  unfold p_X12_octet at h
  refine lv_iload_n X.1 X.2.1 dX12_octet_0 rfl (lv_at hl 1 rfl) ?_
  refine lv_iconst (v := (0 : Int32)) X.1 X.2.1 dX12_octet_1 (by decide) ?_
  refine lv_aload_n X.1 X.2.1 dX12_octet_2 rfl (lv_at hl 0 rfl) ?_
  refine gf_X12_438 (i := 0) X V rfl dX12_octet_3 ?_
  refine lv_iconst (v := (1 : Int32)) X.1 X.2.1 dX12_octet_6 (by decide) ?_
  refine lv_isub X.1 X.2.1 dX12_octet_7 ?_
  obtain ⟨x2, hx2, h⟩ := kb_of h
  refine s_callSi (segs' := [gX12 g aT zT]) X V (c_X12_isIn l D g v1 (0 : Int32) ((zT.1 55) - (1 : Int32)) x2 hx2) w_X12_76 ⟨Nat.le_of_ble_eq_true rfl, Nat.le_of_ble_eq_true rfl⟩ ⟨Nat.zero_le _, Nat.zero_le _⟩ rfl [] rfl rfl (kFst_refl _) rfl rfl hl.1 (Nat.le_of_ble_eq_true rfl) dX12_octet_8 (fun H locs V => ?_)
  refine lv_if_eq (tgt := 23) X.1 X.2.1 dX12_octet_11 (by decide) (fun hc => ?_) (fun hc => ?_)
  · replace h := kif_t hc h
    refine lv_iconst (v := (-1 : Int32)) X.1 X.2.1 dX12_octet_23 (by decide) ?_
    obtain rfl := Option.some.inj h
    rw [hAA] at V
    rw [hQQ]
    exact k_iret X V rfl dX12_octet_24
  · replace h := kif_f hc h
    refine lv_aload_n X.1 X.2.1 dX12_octet_14 rfl (lv_at hl 0 rfl) ?_
    refine gf_X12_70 (i := 0) X V rfl dX12_octet_15 ?_
    refine lv_iload_n X.1 X.2.1 dX12_octet_18 rfl (lv_at hl 1 rfl) ?_
    obtain ⟨hc, h⟩ := kg_of h
    refine al_X12_54 (i := 0) X V rfl hc dX12_octet_19 ?_
    refine lv_goto (tgt := 24) X.1 X.2.1 dX12_octet_20 (by decide) ?_
    obtain rfl := Option.some.inj h
    rw [hAA] at V
    rw [hQQ]
    exact k_iret X V rfl dX12_octet_24
