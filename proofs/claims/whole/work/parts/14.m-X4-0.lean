def p_X4_has (zT : tX4) (v1 : Int32) : Option (Bool) :=
  kif (v1 < 0) (some false) (kif ((40 : Int32) ≤ v1) (some false) (kg (kii ((80 : Int32) + v1) 129) (kif ((zT.1 (((80 : Int32) + v1)).toNatClampNeg) = (-1 : Int32)) (some false) (some true))))
set_option maxHeartbeats 4000000 in
set_option maxRecDepth 100000 in
theorem c_X4_has (l : Launch) (D : va_G) (g : kG) (aT : Nat → Nat) (zT : tX4) (v1 : Int32) (r : Bool) (h : p_X4_has zT v1 = some r) : kMi l yX4_has cX4_has 2 (some .boolean) (kR 0 0) D (kty g) [.ref (aT 0), .int v1] (List.flatten [gX4 g aT zT]) (kz r) (List.flatten [gX4 g aT zT]) := by
  intro sz
  refine k_enter (lv := [(0, .ref (aT 0)), (1, .int v1)]) RX4 (by decide +kernel) rfl rfl (Nat.le_of_ble_eq_true rfl) ?_
  intro p en s m args below meth c ls hsz X V hl
  obtain ⟨QQ, hQQ⟩ : ∃ q, q = MQ below (va_Qi (fun r' (_ : Unit) => r' = kz r) (fun _ => kE D (List.flatten [gX4 g aT zT])) (va_A (List.flatten [gX4 g aT zT]) sz)) args s 0 0 (va_A (List.flatten [gX4 g aT zT]) sz) := ⟨_, rfl⟩
  rw [← hQQ]
  obtain ⟨AA, hAA⟩ : ∃ q, q = va_A (List.flatten [gX4 g aT zT]) sz := ⟨_, rfl⟩
  rw [← hAA] at V
  unfold p_X4_has at h
  refine lv_iload_n X.1 X.2.1 dX4_has_0 rfl (lv_at hl 1 rfl) ?_
  refine lv_if_lt (tgt := 27) X.1 X.2.1 dX4_has_1 (by decide) (fun hc => ?_) (fun hc => ?_)
  · replace h := kif_t hc h
    refine lv_iconst (v := (0 : Int32)) X.1 X.2.1 dX4_has_27 (by decide) ?_
    obtain rfl := Option.some.inj h
    rw [hAA] at V
    rw [hQQ]
    exact k_zret X V (b := false) rfl rfl dX4_has_28
  · replace h := kif_f hc h
    refine lv_iload_n X.1 X.2.1 dX4_has_4 rfl (lv_at hl 1 rfl) ?_
    refine lv_bipush (v := (40 : Int32)) X.1 X.2.1 dX4_has_5 (by decide) ?_
    refine lv_icmp_ge (tgt := 27) X.1 X.2.1 dX4_has_7 (by decide) (fun hc => ?_) (fun hc => ?_)
    · replace h := kif_t hc h
      refine lv_iconst (v := (0 : Int32)) X.1 X.2.1 dX4_has_27 (by decide) ?_
      obtain rfl := Option.some.inj h
      rw [hAA] at V
      rw [hQQ]
      exact k_zret X V (b := false) rfl rfl dX4_has_28
    · replace h := kif_f hc h
      refine lv_aload_n X.1 X.2.1 dX4_has_10 rfl (lv_at hl 0 rfl) ?_
      refine gf_X4_11 (i := 0) X V rfl dX4_has_11 ?_
      refine lv_bipush (v := (80 : Int32)) X.1 X.2.1 dX4_has_14 (by decide) ?_
      refine lv_iload_n X.1 X.2.1 dX4_has_16 rfl (lv_at hl 1 rfl) ?_
      refine lv_iadd X.1 X.2.1 dX4_has_17 ?_
      obtain ⟨hc, h⟩ := kg_of h
      refine al_X4_0 (i := 0) X V rfl hc dX4_has_18 ?_
      refine lv_iconst (v := (-1 : Int32)) X.1 X.2.1 dX4_has_19 (by decide) ?_
      refine lv_icmp_eq (tgt := 27) X.1 X.2.1 dX4_has_20 (by decide) (fun hc => ?_) (fun hc => ?_)
      · replace h := kif_t hc h
        refine lv_iconst (v := (0 : Int32)) X.1 X.2.1 dX4_has_27 (by decide) ?_
        obtain rfl := Option.some.inj h
        rw [hAA] at V
        rw [hQQ]
        exact k_zret X V (b := false) rfl rfl dX4_has_28
      · replace h := kif_f hc h
        refine lv_iconst (v := (1 : Int32)) X.1 X.2.1 dX4_has_23 (by decide) ?_
        refine lv_goto (tgt := 28) X.1 X.2.1 dX4_has_24 (by decide) ?_
        obtain rfl := Option.some.inj h
        rw [hAA] at V
        rw [hQQ]
        exact k_zret X V (b := true) rfl rfl dX4_has_28

def p_X4_free_L2 (zT : tX4) (s : Int32) : Option (Nat × (Int32)) :=
  kif ((40 : Int32) ≤ s) (some (29, s)) (kg (kii ((80 : Int32) + s) 129) (kif ((zT.1 (((80 : Int32) + s)).toNatClampNeg) = (-1 : Int32)) (some (21, s)) (kl (s + (1 : Int32)) (fun y1 => some (2, y1)))))
def p_X4_free (zT : tX4) : Option (Int32) :=
  kb (kitr 2 (fun q => p_X4_free_L2 zT q) kF (0 : Int32)) (fun x2 => kif (x2.1 = 21) (some x2.2) (kg (x2.1 = 29) (some (-1 : Int32))))
set_option maxHeartbeats 4000000 in
set_option maxRecDepth 100000 in
theorem c_X4_free (l : Launch) (D : va_G) (g : kG) (aT : Nat → Nat) (zT : tX4) (r : Int32) (h : p_X4_free zT = some r) : kMi l yX4_free cX4_free 2 (some .int) (kR 0 0) D (kty g) [.ref (aT 0)] (List.flatten [gX4 g aT zT]) r (List.flatten [gX4 g aT zT]) := by
  intro sz
  refine k_enter (lv := [(0, .ref (aT 0))]) RX4 (by decide +kernel) rfl rfl (Nat.le_of_ble_eq_true rfl) ?_
  intro p en s m args below meth c ls hsz X V hl
  obtain ⟨QQ, hQQ⟩ : ∃ q, q = MQ below (va_Qi (fun r' (_ : Unit) => r' = r) (fun _ => kE D (List.flatten [gX4 g aT zT])) (va_A (List.flatten [gX4 g aT zT]) sz)) args s 0 0 (va_A (List.flatten [gX4 g aT zT]) sz) := ⟨_, rfl⟩
  rw [← hQQ]
  obtain ⟨AA, hAA⟩ : ∃ q, q = va_A (List.flatten [gX4 g aT zT]) sz := ⟨_, rfl⟩
  rw [← hAA] at V
  unfold p_X4_free at h
  refine lv_iconst (v := (0 : Int32)) X.1 X.2.1 dX4_free_0 (by decide) ?_
  refine lv_istore_n (lv' := [(1, .int (0 : Int32)), (0, .ref (aT 0))]) X.1 X.2.1 dX4_free_1 rfl hl (by decide) rfl (fun ls hl => ?_)
  obtain ⟨x3, hx3, h⟩ := kb_of h
  refine (kitr_go (hd := 2) (body := fun q => p_X4_free_L2 zT q) (G := (fun e => ∀ (H : Heap) (locs : List Loc) (ls : Array Slot), kW D AA s.heap H (List.flatten [gX4 g aT zT]) locs → lv_has ls 2 [(0, .ref (aT 0)), (1, .int e.2)] → W p l en (kR 0 0) s m args below meth c H locs 0 0 QQ (F0 m e.1 ls []))) (fun s4 e5 hb6 hG7 => ?_) kF _ x3 hx3 ?_) _ _ _ V (lv_sub hl [1, 0] rfl)
  · intro H locs ls V hl
    show W p l en (kR 0 0) s m args below meth c H locs 0 0 QQ (F0 m 2 ls [])
    have h : p_X4_free_L2 zT s4 = some e5 := hb6
    unfold p_X4_free_L2 at h
    have V : kW D AA s.heap H (List.flatten [gX4 g aT zT]) locs := V
    have hl : lv_has ls 2 [(0, .ref (aT 0)), (1, .int s4)] := hl
    refine lv_iload_n X.1 X.2.1 dX4_free_2 rfl (lv_at hl 1 rfl) ?_
    refine lv_bipush (v := (40 : Int32)) X.1 X.2.1 dX4_free_3 (by decide) ?_
    refine lv_icmp_ge (tgt := 29) X.1 X.2.1 dX4_free_5 (by decide) (fun hc => ?_) (fun hc => ?_)
    · replace h := kif_t hc h
      obtain rfl := Option.some.inj h
      exact hG7 _ _ _ V (lv_sub hl [0, 1] rfl)
    · replace h := kif_f hc h
      refine lv_aload_n X.1 X.2.1 dX4_free_8 rfl (lv_at hl 0 rfl) ?_
      refine gf_X4_11 (i := 0) X V rfl dX4_free_9 ?_
      refine lv_bipush (v := (80 : Int32)) X.1 X.2.1 dX4_free_12 (by decide) ?_
      refine lv_iload_n X.1 X.2.1 dX4_free_14 rfl (lv_at hl 1 rfl) ?_
      refine lv_iadd X.1 X.2.1 dX4_free_15 ?_
      obtain ⟨hc, h⟩ := kg_of h
      refine al_X4_0 (i := 0) X V rfl hc dX4_free_16 ?_
      refine lv_iconst (v := (-1 : Int32)) X.1 X.2.1 dX4_free_17 (by decide) ?_
      refine lv_icmp_ne (tgt := 23) X.1 X.2.1 dX4_free_18 (by decide) (fun hc => ?_) (fun hc => ?_)
      · replace h := kif_f hc h
        obtain ⟨y8, ey8⟩ : ∃ y : Int32, y = (s4 + (1 : Int32)) := ⟨_, rfl⟩
        replace h := kl_of ey8 h
        refine lv_iinc (v := y8) (lv' := [(1, .int y8), (0, .ref (aT 0))]) X.1 X.2.1 dX4_free_23 hl (k := 1) rfl (by rw [ey8]; rfl) (by decide) rfl (fun ls hl => ?_)
        refine lv_goto (tgt := 2) X.1 X.2.1 dX4_free_26 (by decide) ?_
        obtain rfl := Option.some.inj h
        exact hG7 _ _ _ V (lv_sub hl [1, 0] rfl)
      · replace h := kif_t hc h
        obtain rfl := Option.some.inj h
        exact hG7 _ _ _ V (lv_sub hl [0, 1] rfl)
  · intro H locs ls V hl
    have V : kW D AA s.heap H (List.flatten [gX4 g aT zT]) locs := V
    have hl : lv_has ls 2 [(0, .ref (aT 0)), (1, .int x3.2)] := hl
    by_cases hc : x3.1 = 21
    · replace h := kif_t hc h
      refine W.eq (g2 := F0 m 21 ls []) (by rw [hc]) ?_
      refine lv_iload_n X.1 X.2.1 dX4_free_21 rfl (lv_at hl 1 rfl) ?_
      obtain rfl := Option.some.inj h
      rw [hAA] at V
      rw [hQQ]
      exact k_iret X V rfl dX4_free_22
    · replace h := kif_f hc h
      obtain ⟨hc, h⟩ := kg_of h
      refine W.eq (g2 := F0 m 29 ls []) (by rw [hc]) ?_
      refine lv_iconst (v := (-1 : Int32)) X.1 X.2.1 dX4_free_29 (by decide) ?_
      obtain rfl := Option.some.inj h
      rw [hAA] at V
      rw [hQQ]
      exact k_iret X V rfl dX4_free_30

def p_X4_place (zT : tX4) (v1 : Int32) (v2 : Int32) (v3 : Int32) (v4 : Int32) : Option (tX4) :=
  kif (v1 < 0) (some zT) (kif ((40 : Int32) ≤ v1) (some zT) (kb (p_X11_isHeap v4) (fun x1 => kif ((kz x1) = 0) (some zT) (kg (kii ((0 : Int32) + v1) 129) (kl ((upd zT.1 (((0 : Int32) + v1)).toNatClampNeg v2), zT.2) (fun z2 => kg (kii ((40 : Int32) + v1) 129) (kl ((upd z2.1 (((40 : Int32) + v1)).toNatClampNeg v3), z2.2) (fun z3 => kg (kii ((80 : Int32) + v1) 129) (kl ((upd z3.1 (((80 : Int32) + v1)).toNatClampNeg v4), z3.2) (fun z4 => some z4))))))))))
set_option maxHeartbeats 4000000 in
set_option maxRecDepth 100000 in
theorem c_X4_place (l : Launch) (D : va_G) (g : kG) (aT : Nat → Nat) (zT : tX4) (v1 : Int32) (v2 : Int32) (v3 : Int32) (v4 : Int32) (r : tX4) (h : p_X4_place zT v1 v2 v3 v4 = some r) : kMv l yX4_place cX4_place 5 none (kR 1 20) D (kty g) [.ref (aT 0), .int v1, .int v2, .int v3, .int v4] (List.flatten [gX4 g aT zT]) (List.flatten [gX4 g aT r]) := by
  intro sz
  refine k_enter (lv := [(0, .ref (aT 0)), (1, .int v1), (2, .int v2), (3, .int v3), (4, .int v4)]) RX4 (by decide +kernel) rfl rfl (Nat.le_of_ble_eq_true rfl) ?_
  intro p en s m args below meth c ls hsz X V hl
  obtain ⟨QQ, hQQ⟩ : ∃ q, q = MQ below (va_Qv (fun (_ : Unit) => True) (fun _ => kE D (List.flatten [gX4 g aT r])) (va_A (List.flatten [gX4 g aT zT]) sz)) args s 0 0 (va_A (List.flatten [gX4 g aT zT]) sz) := ⟨_, rfl⟩
  rw [← hQQ]
  obtain ⟨AA, hAA⟩ : ∃ q, q = va_A (List.flatten [gX4 g aT zT]) sz := ⟨_, rfl⟩
  rw [← hAA] at V
  unfold p_X4_place at h
  refine lv_iload_n X.1 X.2.1 dX4_place_0 rfl (lv_at hl 1 rfl) ?_
  refine lv_if_lt (tgt := 18) X.1 X.2.1 dX4_place_1 (by decide) (fun hc => ?_) (fun hc => ?_)
  · replace h := kif_t hc h
    obtain rfl := Option.some.inj h
    rw [hAA] at V
    rw [hQQ]
    exact k_vret X V dX4_place_18
  · replace h := kif_f hc h
    refine lv_iload_n X.1 X.2.1 dX4_place_4 rfl (lv_at hl 1 rfl) ?_
    refine lv_bipush (v := (40 : Int32)) X.1 X.2.1 dX4_place_5 (by decide) ?_
    refine lv_icmp_ge (tgt := 18) X.1 X.2.1 dX4_place_7 (by decide) (fun hc => ?_) (fun hc => ?_)
    · replace h := kif_t hc h
      obtain rfl := Option.some.inj h
      rw [hAA] at V
      rw [hQQ]
      exact k_vret X V dX4_place_18
    · replace h := kif_f hc h
      refine lv_iload X.1 X.2.1 dX4_place_10 (lv_at hl 4 rfl) ?_
      obtain ⟨x5, hx5, h⟩ := kb_of h
      refine s_callNi (segs' := [gX4 g aT zT]) X V (c_X11_isHeap l D g v4 x5 hx5) w_X4_27 ⟨Nat.le_of_ble_eq_true rfl, Nat.le_of_ble_eq_true rfl⟩ ⟨Nat.zero_le _, Nat.zero_le _⟩ rfl [] rfl rfl (kFst_refl _) rfl rfl hl.1 (Nat.le_of_ble_eq_true rfl) dX4_place_12 (fun H locs V => ?_)
      refine lv_if_ne (tgt := 19) X.1 X.2.1 dX4_place_15 (by decide) (fun hc => ?_) (fun hc => ?_)
      · replace h := kif_f hc h
        refine lv_aload_n X.1 X.2.1 dX4_place_19 rfl (lv_at hl 0 rfl) ?_
        refine gf_X4_11 (i := 0) X V rfl dX4_place_20 ?_
        refine lv_iconst (v := (0 : Int32)) X.1 X.2.1 dX4_place_23 (by decide) ?_
        refine lv_iload_n X.1 X.2.1 dX4_place_24 rfl (lv_at hl 1 rfl) ?_
        refine lv_iadd X.1 X.2.1 dX4_place_25 ?_
        refine lv_iload_n X.1 X.2.1 dX4_place_26 rfl (lv_at hl 2 rfl) ?_
        obtain ⟨hc, h⟩ := kg_of h
        refine as_X4_0 (i := 0) X V rfl hc dX4_place_27 (fun H locs V => ?_)
        obtain ⟨z6, ez6⟩ : ∃ y, y = ((upd zT.1 (((0 : Int32) + v1)).toNatClampNeg v2), zT.2) := ⟨_, rfl⟩
        replace h := kl_of ez6 h
        have V : kW D AA s.heap H (List.flatten [gX4 g aT z6]) locs := by rw [ez6]; exact V
        refine lv_aload_n X.1 X.2.1 dX4_place_28 rfl (lv_at hl 0 rfl) ?_
        refine gf_X4_11 (i := 0) X V rfl dX4_place_29 ?_
        refine lv_bipush (v := (40 : Int32)) X.1 X.2.1 dX4_place_32 (by decide) ?_
        refine lv_iload_n X.1 X.2.1 dX4_place_34 rfl (lv_at hl 1 rfl) ?_
        refine lv_iadd X.1 X.2.1 dX4_place_35 ?_
        refine lv_iload_n X.1 X.2.1 dX4_place_36 rfl (lv_at hl 3 rfl) ?_
        obtain ⟨hc, h⟩ := kg_of h
        refine as_X4_0 (i := 0) X V rfl hc dX4_place_37 (fun H locs V => ?_)
        obtain ⟨z7, ez7⟩ : ∃ y, y = ((upd z6.1 (((40 : Int32) + v1)).toNatClampNeg v3), z6.2) := ⟨_, rfl⟩
        replace h := kl_of ez7 h
        have V : kW D AA s.heap H (List.flatten [gX4 g aT z7]) locs := by rw [ez7]; exact V
        refine lv_aload_n X.1 X.2.1 dX4_place_38 rfl (lv_at hl 0 rfl) ?_
        refine gf_X4_11 (i := 0) X V rfl dX4_place_39 ?_
        refine lv_bipush (v := (80 : Int32)) X.1 X.2.1 dX4_place_42 (by decide) ?_
        refine lv_iload_n X.1 X.2.1 dX4_place_44 rfl (lv_at hl 1 rfl) ?_
        refine lv_iadd X.1 X.2.1 dX4_place_45 ?_
        refine lv_iload X.1 X.2.1 dX4_place_46 (lv_at hl 4 rfl) ?_
        obtain ⟨hc, h⟩ := kg_of h
        refine as_X4_0 (i := 0) X V rfl hc dX4_place_48 (fun H locs V => ?_)
        obtain ⟨z8, ez8⟩ : ∃ y, y = ((upd z7.1 (((80 : Int32) + v1)).toNatClampNeg v4), z7.2) := ⟨_, rfl⟩
        replace h := kl_of ez8 h
        have V : kW D AA s.heap H (List.flatten [gX4 g aT z8]) locs := by rw [ez8]; exact V
        obtain rfl := Option.some.inj h
        rw [hAA] at V
        rw [hQQ]
        exact k_vret X V dX4_place_49
      · replace h := kif_t hc h
        obtain rfl := Option.some.inj h
        rw [hAA] at V
        rw [hQQ]
        exact k_vret X V dX4_place_18

def p_X4_remove (zT : tX4) (v1 : Int32) : Option (tX4) :=
  kb (p_X4_has zT v1) (fun x1 => kif ((kz x1) = 0) (some zT) (kg (kii ((80 : Int32) + v1) 129) (kl ((upd zT.1 (((80 : Int32) + v1)).toNatClampNeg (-1 : Int32)), zT.2) (fun z2 => some z2))))
set_option maxHeartbeats 4000000 in
set_option maxRecDepth 100000 in
theorem c_X4_remove (l : Launch) (D : va_G) (g : kG) (aT : Nat → Nat) (zT : tX4) (v1 : Int32) (r : tX4) (h : p_X4_remove zT v1 = some r) : kMv l yX4_remove cX4_remove 2 none (kR 1 21) D (kty g) [.ref (aT 0), .int v1] (List.flatten [gX4 g aT zT]) (List.flatten [gX4 g aT r]) := by
  intro sz
  refine k_enter (lv := [(0, .ref (aT 0)), (1, .int v1)]) RX4 (by decide +kernel) rfl rfl (Nat.le_of_ble_eq_true rfl) ?_
  intro p en s m args below meth c ls hsz X V hl
  obtain ⟨QQ, hQQ⟩ : ∃ q, q = MQ below (va_Qv (fun (_ : Unit) => True) (fun _ => kE D (List.flatten [gX4 g aT r])) (va_A (List.flatten [gX4 g aT zT]) sz)) args s 0 0 (va_A (List.flatten [gX4 g aT zT]) sz) := ⟨_, rfl⟩
  rw [← hQQ]
  obtain ⟨AA, hAA⟩ : ∃ q, q = va_A (List.flatten [gX4 g aT zT]) sz := ⟨_, rfl⟩
  rw [← hAA] at V
  unfold p_X4_remove at h
  refine lv_aload_n X.1 X.2.1 dX4_remove_0 rfl (lv_at hl 0 rfl) ?_
  refine lv_iload_n X.1 X.2.1 dX4_remove_1 rfl (lv_at hl 1 rfl) ?_
  obtain ⟨x3, hx3, h⟩ := kb_of h
  refine s_callVi (segs' := [gX4 g aT zT]) (ci := 4) (i0 := 0) X V (c_X4_has l D g aT zT v1 x3 hx3) w_X4_31 ⟨Nat.le_of_ble_eq_true rfl, Nat.le_of_ble_eq_true rfl⟩ ⟨Nat.zero_le _, Nat.zero_le _⟩ rfl rfl rfl rfl [0] rfl rfl (kFst_refl _) rfl rfl hl.1 (Nat.le_of_ble_eq_true rfl) dX4_remove_2 (fun H locs V => ?_)
  refine lv_if_eq (tgt := 18) X.1 X.2.1 dX4_remove_5 (by decide) (fun hc => ?_) (fun hc => ?_)
  · replace h := kif_t hc h
    obtain rfl := Option.some.inj h
    rw [hAA] at V
    rw [hQQ]
    exact k_vret X V dX4_remove_18
  · replace h := kif_f hc h
    refine lv_aload_n X.1 X.2.1 dX4_remove_8 rfl (lv_at hl 0 rfl) ?_
    refine gf_X4_11 (i := 0) X V rfl dX4_remove_9 ?_
    refine lv_bipush (v := (80 : Int32)) X.1 X.2.1 dX4_remove_12 (by decide) ?_
    refine lv_iload_n X.1 X.2.1 dX4_remove_14 rfl (lv_at hl 1 rfl) ?_
    refine lv_iadd X.1 X.2.1 dX4_remove_15 ?_
    refine lv_iconst (v := (-1 : Int32)) X.1 X.2.1 dX4_remove_16 (by decide) ?_
    obtain ⟨hc, h⟩ := kg_of h
    refine as_X4_0 (i := 0) X V rfl hc dX4_remove_17 (fun H locs V => ?_)
    obtain ⟨z4, ez4⟩ : ∃ y, y = ((upd zT.1 (((80 : Int32) + v1)).toNatClampNeg (-1 : Int32)), zT.2) := ⟨_, rfl⟩
    replace h := kl_of ez4 h
    have V : kW D AA s.heap H (List.flatten [gX4 g aT z4]) locs := by rw [ez4]; exact V
    obtain rfl := Option.some.inj h
    rw [hAA] at V
    rw [hQQ]
    exact k_vret X V dX4_remove_18

def p_X4_setPace (zT : tX4) (v1 : Int32) (v2 : Int32) (v3 : Int32) : Option (tX4) :=
  kb (p_X11_isHeap v1) (fun x1 => kif ((kz x1) = 0) (some zT) (kg (kii ((120 : Int32) + v1) 129) (kl ((upd zT.1 (((120 : Int32) + v1)).toNatClampNeg v2), zT.2) (fun z2 => kg (kii ((124 : Int32) + v1) 129) (kl ((upd z2.1 (((124 : Int32) + v1)).toNatClampNeg v3), z2.2) (fun z3 => some z3))))))
set_option maxHeartbeats 4000000 in
set_option maxRecDepth 100000 in
theorem c_X4_setPace (l : Launch) (D : va_G) (g : kG) (aT : Nat → Nat) (zT : tX4) (v1 : Int32) (v2 : Int32) (v3 : Int32) (r : tX4) (h : p_X4_setPace zT v1 v2 v3 = some r) : kMv l yX4_setPace cX4_setPace 4 none (kR 1 20) D (kty g) [.ref (aT 0), .int v1, .int v2, .int v3] (List.flatten [gX4 g aT zT]) (List.flatten [gX4 g aT r]) := by
  intro sz
  refine k_enter (lv := [(0, .ref (aT 0)), (1, .int v1), (2, .int v2), (3, .int v3)]) RX4 (by decide +kernel) rfl rfl (Nat.le_of_ble_eq_true rfl) ?_
  intro p en s m args below meth c ls hsz X V hl
  obtain ⟨QQ, hQQ⟩ : ∃ q, q = MQ below (va_Qv (fun (_ : Unit) => True) (fun _ => kE D (List.flatten [gX4 g aT r])) (va_A (List.flatten [gX4 g aT zT]) sz)) args s 0 0 (va_A (List.flatten [gX4 g aT zT]) sz) := ⟨_, rfl⟩
  rw [← hQQ]
  obtain ⟨AA, hAA⟩ : ∃ q, q = va_A (List.flatten [gX4 g aT zT]) sz := ⟨_, rfl⟩
  rw [← hAA] at V
  unfold p_X4_setPace at h
  refine lv_iload_n X.1 X.2.1 dX4_setPace_0 rfl (lv_at hl 1 rfl) ?_
  obtain ⟨x4, hx4, h⟩ := kb_of h
  refine s_callNi (segs' := [gX4 g aT zT]) X V (c_X11_isHeap l D g v1 x4 hx4) w_X4_27 ⟨Nat.le_of_ble_eq_true rfl, Nat.le_of_ble_eq_true rfl⟩ ⟨Nat.zero_le _, Nat.zero_le _⟩ rfl [] rfl rfl (kFst_refl _) rfl rfl hl.1 (Nat.le_of_ble_eq_true rfl) dX4_setPace_1 (fun H locs V => ?_)
  refine lv_if_ne (tgt := 8) X.1 X.2.1 dX4_setPace_4 (by decide) (fun hc => ?_) (fun hc => ?_)
  · replace h := kif_f hc h
    refine lv_aload_n X.1 X.2.1 dX4_setPace_8 rfl (lv_at hl 0 rfl) ?_
    refine gf_X4_11 (i := 0) X V rfl dX4_setPace_9 ?_
    refine lv_bipush (v := (120 : Int32)) X.1 X.2.1 dX4_setPace_12 (by decide) ?_
    refine lv_iload_n X.1 X.2.1 dX4_setPace_14 rfl (lv_at hl 1 rfl) ?_
    refine lv_iadd X.1 X.2.1 dX4_setPace_15 ?_
    refine lv_iload_n X.1 X.2.1 dX4_setPace_16 rfl (lv_at hl 2 rfl) ?_
    obtain ⟨hc, h⟩ := kg_of h
    refine as_X4_0 (i := 0) X V rfl hc dX4_setPace_17 (fun H locs V => ?_)
    obtain ⟨z5, ez5⟩ : ∃ y, y = ((upd zT.1 (((120 : Int32) + v1)).toNatClampNeg v2), zT.2) := ⟨_, rfl⟩
    replace h := kl_of ez5 h
    have V : kW D AA s.heap H (List.flatten [gX4 g aT z5]) locs := by rw [ez5]; exact V
    refine lv_aload_n X.1 X.2.1 dX4_setPace_18 rfl (lv_at hl 0 rfl) ?_
    refine gf_X4_11 (i := 0) X V rfl dX4_setPace_19 ?_
    refine lv_bipush (v := (124 : Int32)) X.1 X.2.1 dX4_setPace_22 (by decide) ?_
    refine lv_iload_n X.1 X.2.1 dX4_setPace_24 rfl (lv_at hl 1 rfl) ?_
    refine lv_iadd X.1 X.2.1 dX4_setPace_25 ?_
    refine lv_iload_n X.1 X.2.1 dX4_setPace_26 rfl (lv_at hl 3 rfl) ?_
    obtain ⟨hc, h⟩ := kg_of h
    refine as_X4_0 (i := 0) X V rfl hc dX4_setPace_27 (fun H locs V => ?_)
    obtain ⟨z6, ez6⟩ : ∃ y, y = ((upd z5.1 (((124 : Int32) + v1)).toNatClampNeg v3), z5.2) := ⟨_, rfl⟩
    replace h := kl_of ez6 h
    have V : kW D AA s.heap H (List.flatten [gX4 g aT z6]) locs := by rw [ez6]; exact V
    obtain rfl := Option.some.inj h
    rw [hAA] at V
    rw [hQQ]
    exact k_vret X V dX4_setPace_28
  · replace h := kif_t hc h
    obtain rfl := Option.some.inj h
    rw [hAA] at V
    rw [hQQ]
    exact k_vret X V dX4_setPace_7

def p_X4_now (zT : tX4) : Option (Int32) :=
  kg (kii (128 : Int32) 129) (some ((zT.1 (128 : Int32).toNatClampNeg)))
set_option maxHeartbeats 4000000 in
set_option maxRecDepth 100000 in
theorem c_X4_now (l : Launch) (D : va_G) (g : kG) (aT : Nat → Nat) (zT : tX4) (r : Int32) (h : p_X4_now zT = some r) : kMi l yX4_now cX4_now 1 (some .int) (kR 0 0) D (kty g) [.ref (aT 0)] (List.flatten [gX4 g aT zT]) r (List.flatten [gX4 g aT zT]) := by
  intro sz
  refine k_enter (lv := [(0, .ref (aT 0))]) RX4 (by decide +kernel) rfl rfl (Nat.le_of_ble_eq_true rfl) ?_
  intro p en s m args below meth c ls hsz X V hl
  obtain ⟨QQ, hQQ⟩ : ∃ q, q = MQ below (va_Qi (fun r' (_ : Unit) => r' = r) (fun _ => kE D (List.flatten [gX4 g aT zT])) (va_A (List.flatten [gX4 g aT zT]) sz)) args s 0 0 (va_A (List.flatten [gX4 g aT zT]) sz) := ⟨_, rfl⟩
  rw [← hQQ]
  obtain ⟨AA, hAA⟩ : ∃ q, q = va_A (List.flatten [gX4 g aT zT]) sz := ⟨_, rfl⟩
  rw [← hAA] at V
  unfold p_X4_now at h
  refine lv_aload_n X.1 X.2.1 dX4_now_0 rfl (lv_at hl 0 rfl) ?_
  refine gf_X4_11 (i := 0) X V rfl dX4_now_1 ?_
  refine lv_sipush (v := (128 : Int32)) X.1 X.2.1 dX4_now_4 (by decide) ?_
  obtain ⟨hc, h⟩ := kg_of h
  refine al_X4_0 (i := 0) X V rfl hc dX4_now_7 ?_
  obtain rfl := Option.some.inj h
  rw [hAA] at V
  rw [hQQ]
  exact k_iret X V rfl dX4_now_8

def p_X4_setNow (zT : tX4) (v1 : Int32) : Option (tX4) :=
  kg (kii (128 : Int32) 129) (kl ((upd zT.1 ((128 : Int32)).toNatClampNeg v1), zT.2) (fun z1 => some z1))
set_option maxHeartbeats 4000000 in
set_option maxRecDepth 100000 in
theorem c_X4_setNow (l : Launch) (D : va_G) (g : kG) (aT : Nat → Nat) (zT : tX4) (v1 : Int32) (r : tX4) (h : p_X4_setNow zT v1 = some r) : kMv l yX4_setNow cX4_setNow 2 none (kR 0 0) D (kty g) [.ref (aT 0), .int v1] (List.flatten [gX4 g aT zT]) (List.flatten [gX4 g aT r]) := by
  intro sz
  refine k_enter (lv := [(0, .ref (aT 0)), (1, .int v1)]) RX4 (by decide +kernel) rfl rfl (Nat.le_of_ble_eq_true rfl) ?_
  intro p en s m args below meth c ls hsz X V hl
  obtain ⟨QQ, hQQ⟩ : ∃ q, q = MQ below (va_Qv (fun (_ : Unit) => True) (fun _ => kE D (List.flatten [gX4 g aT r])) (va_A (List.flatten [gX4 g aT zT]) sz)) args s 0 0 (va_A (List.flatten [gX4 g aT zT]) sz) := ⟨_, rfl⟩
  rw [← hQQ]
  obtain ⟨AA, hAA⟩ : ∃ q, q = va_A (List.flatten [gX4 g aT zT]) sz := ⟨_, rfl⟩
  rw [← hAA] at V
  unfold p_X4_setNow at h
  refine lv_aload_n X.1 X.2.1 dX4_setNow_0 rfl (lv_at hl 0 rfl) ?_
  refine gf_X4_11 (i := 0) X V rfl dX4_setNow_1 ?_
  refine lv_sipush (v := (128 : Int32)) X.1 X.2.1 dX4_setNow_4 (by decide) ?_
  refine lv_iload_n X.1 X.2.1 dX4_setNow_7 rfl (lv_at hl 1 rfl) ?_
  obtain ⟨hc, h⟩ := kg_of h
  refine as_X4_0 (i := 0) X V rfl hc dX4_setNow_8 (fun H locs V => ?_)
  obtain ⟨z2, ez2⟩ : ∃ y, y = ((upd zT.1 ((128 : Int32)).toNatClampNeg v1), zT.2) := ⟨_, rfl⟩
  replace h := kl_of ez2 h
  have V : kW D AA s.heap H (List.flatten [gX4 g aT z2]) locs := by rw [ez2]; exact V
  obtain rfl := Option.some.inj h
  rw [hAA] at V
  rw [hQQ]
  exact k_vret X V dX4_setNow_9

def p_X4_x (zT : tX4) (v1 : Int32) : Option (Int32) :=
  kb (p_X4_has zT v1) (fun x1 => kif ((kz x1) = 0) (some (0 : Int32)) (kg (kii ((0 : Int32) + v1) 129) (some ((zT.1 (((0 : Int32) + v1)).toNatClampNeg)))))
set_option maxHeartbeats 4000000 in
set_option maxRecDepth 100000 in
theorem c_X4_x (l : Launch) (D : va_G) (g : kG) (aT : Nat → Nat) (zT : tX4) (v1 : Int32) (r : Int32) (h : p_X4_x zT v1 = some r) : kMi l yX4_x cX4_x 2 (some .int) (kR 1 21) D (kty g) [.ref (aT 0), .int v1] (List.flatten [gX4 g aT zT]) r (List.flatten [gX4 g aT zT]) := by
  intro sz
  refine k_enter (lv := [(0, .ref (aT 0)), (1, .int v1)]) RX4 (by decide +kernel) rfl rfl (Nat.le_of_ble_eq_true rfl) ?_
  intro p en s m args below meth c ls hsz X V hl
  obtain ⟨QQ, hQQ⟩ : ∃ q, q = MQ below (va_Qi (fun r' (_ : Unit) => r' = r) (fun _ => kE D (List.flatten [gX4 g aT zT])) (va_A (List.flatten [gX4 g aT zT]) sz)) args s 0 0 (va_A (List.flatten [gX4 g aT zT]) sz) := ⟨_, rfl⟩
  rw [← hQQ]
  obtain ⟨AA, hAA⟩ : ∃ q, q = va_A (List.flatten [gX4 g aT zT]) sz := ⟨_, rfl⟩
  rw [← hAA] at V
  unfold p_X4_x at h
  refine lv_aload_n X.1 X.2.1 dX4_x_0 rfl (lv_at hl 0 rfl) ?_
  refine lv_iload_n X.1 X.2.1 dX4_x_1 rfl (lv_at hl 1 rfl) ?_
  obtain ⟨x2, hx2, h⟩ := kb_of h
  refine s_callVi (segs' := [gX4 g aT zT]) (ci := 4) (i0 := 0) X V (c_X4_has l D g aT zT v1 x2 hx2) w_X4_31 ⟨Nat.le_of_ble_eq_true rfl, Nat.le_of_ble_eq_true rfl⟩ ⟨Nat.zero_le _, Nat.zero_le _⟩ rfl rfl rfl rfl [0] rfl rfl (kFst_refl _) rfl rfl hl.1 (Nat.le_of_ble_eq_true rfl) dX4_x_2 (fun H locs V => ?_)
  refine lv_if_eq (tgt := 19) X.1 X.2.1 dX4_x_5 (by decide) (fun hc => ?_) (fun hc => ?_)
  · replace h := kif_t hc h
    refine lv_iconst (v := (0 : Int32)) X.1 X.2.1 dX4_x_19 (by decide) ?_
    obtain rfl := Option.some.inj h
    rw [hAA] at V
    rw [hQQ]
    exact k_iret X V rfl dX4_x_20
  · replace h := kif_f hc h
    refine lv_aload_n X.1 X.2.1 dX4_x_8 rfl (lv_at hl 0 rfl) ?_
    refine gf_X4_11 (i := 0) X V rfl dX4_x_9 ?_
    refine lv_iconst (v := (0 : Int32)) X.1 X.2.1 dX4_x_12 (by decide) ?_
    refine lv_iload_n X.1 X.2.1 dX4_x_13 rfl (lv_at hl 1 rfl) ?_
    refine lv_iadd X.1 X.2.1 dX4_x_14 ?_
    obtain ⟨hc, h⟩ := kg_of h
    refine al_X4_0 (i := 0) X V rfl hc dX4_x_15 ?_
    refine lv_goto (tgt := 20) X.1 X.2.1 dX4_x_16 (by decide) ?_
    obtain rfl := Option.some.inj h
    rw [hAA] at V
    rw [hQQ]
    exact k_iret X V rfl dX4_x_20

def p_X4_y (zT : tX4) (v1 : Int32) : Option (Int32) :=
  kb (p_X4_has zT v1) (fun x1 => kif ((kz x1) = 0) (some (0 : Int32)) (kg (kii ((40 : Int32) + v1) 129) (some ((zT.1 (((40 : Int32) + v1)).toNatClampNeg)))))
set_option maxHeartbeats 4000000 in
set_option maxRecDepth 100000 in
theorem c_X4_y (l : Launch) (D : va_G) (g : kG) (aT : Nat → Nat) (zT : tX4) (v1 : Int32) (r : Int32) (h : p_X4_y zT v1 = some r) : kMi l yX4_y cX4_y 2 (some .int) (kR 1 21) D (kty g) [.ref (aT 0), .int v1] (List.flatten [gX4 g aT zT]) r (List.flatten [gX4 g aT zT]) := by
  intro sz
  refine k_enter (lv := [(0, .ref (aT 0)), (1, .int v1)]) RX4 (by decide +kernel) rfl rfl (Nat.le_of_ble_eq_true rfl) ?_
  intro p en s m args below meth c ls hsz X V hl
  obtain ⟨QQ, hQQ⟩ : ∃ q, q = MQ below (va_Qi (fun r' (_ : Unit) => r' = r) (fun _ => kE D (List.flatten [gX4 g aT zT])) (va_A (List.flatten [gX4 g aT zT]) sz)) args s 0 0 (va_A (List.flatten [gX4 g aT zT]) sz) := ⟨_, rfl⟩
  rw [← hQQ]
  obtain ⟨AA, hAA⟩ : ∃ q, q = va_A (List.flatten [gX4 g aT zT]) sz := ⟨_, rfl⟩
  rw [← hAA] at V
  unfold p_X4_y at h
  refine lv_aload_n X.1 X.2.1 dX4_y_0 rfl (lv_at hl 0 rfl) ?_
  refine lv_iload_n X.1 X.2.1 dX4_y_1 rfl (lv_at hl 1 rfl) ?_
  obtain ⟨x2, hx2, h⟩ := kb_of h
  refine s_callVi (segs' := [gX4 g aT zT]) (ci := 4) (i0 := 0) X V (c_X4_has l D g aT zT v1 x2 hx2) w_X4_31 ⟨Nat.le_of_ble_eq_true rfl, Nat.le_of_ble_eq_true rfl⟩ ⟨Nat.zero_le _, Nat.zero_le _⟩ rfl rfl rfl rfl [0] rfl rfl (kFst_refl _) rfl rfl hl.1 (Nat.le_of_ble_eq_true rfl) dX4_y_2 (fun H locs V => ?_)
  refine lv_if_eq (tgt := 20) X.1 X.2.1 dX4_y_5 (by decide) (fun hc => ?_) (fun hc => ?_)
  · replace h := kif_t hc h
    refine lv_iconst (v := (0 : Int32)) X.1 X.2.1 dX4_y_20 (by decide) ?_
    obtain rfl := Option.some.inj h
    rw [hAA] at V
    rw [hQQ]
    exact k_iret X V rfl dX4_y_21
  · replace h := kif_f hc h
    refine lv_aload_n X.1 X.2.1 dX4_y_8 rfl (lv_at hl 0 rfl) ?_
    refine gf_X4_11 (i := 0) X V rfl dX4_y_9 ?_
    refine lv_bipush (v := (40 : Int32)) X.1 X.2.1 dX4_y_12 (by decide) ?_
    refine lv_iload_n X.1 X.2.1 dX4_y_14 rfl (lv_at hl 1 rfl) ?_
    refine lv_iadd X.1 X.2.1 dX4_y_15 ?_
    obtain ⟨hc, h⟩ := kg_of h
    refine al_X4_0 (i := 0) X V rfl hc dX4_y_16 ?_
    refine lv_goto (tgt := 21) X.1 X.2.1 dX4_y_17 (by decide) ?_
    obtain rfl := Option.some.inj h
    rw [hAA] at V
    rw [hQQ]
    exact k_iret X V rfl dX4_y_21

def p_X4_heapOf (zT : tX4) (v1 : Int32) : Option (Int32) :=
  kb (p_X4_has zT v1) (fun x1 => kif ((kz x1) = 0) (some (-1 : Int32)) (kg (kii ((80 : Int32) + v1) 129) (some ((zT.1 (((80 : Int32) + v1)).toNatClampNeg)))))
set_option maxHeartbeats 4000000 in
set_option maxRecDepth 100000 in
theorem c_X4_heapOf (l : Launch) (D : va_G) (g : kG) (aT : Nat → Nat) (zT : tX4) (v1 : Int32) (r : Int32) (h : p_X4_heapOf zT v1 = some r) : kMi l yX4_heapOf cX4_heapOf 2 (some .int) (kR 1 21) D (kty g) [.ref (aT 0), .int v1] (List.flatten [gX4 g aT zT]) r (List.flatten [gX4 g aT zT]) := by
  intro sz
  refine k_enter (lv := [(0, .ref (aT 0)), (1, .int v1)]) RX4 (by decide +kernel) rfl rfl (Nat.le_of_ble_eq_true rfl) ?_
  intro p en s m args below meth c ls hsz X V hl
  obtain ⟨QQ, hQQ⟩ : ∃ q, q = MQ below (va_Qi (fun r' (_ : Unit) => r' = r) (fun _ => kE D (List.flatten [gX4 g aT zT])) (va_A (List.flatten [gX4 g aT zT]) sz)) args s 0 0 (va_A (List.flatten [gX4 g aT zT]) sz) := ⟨_, rfl⟩
  rw [← hQQ]
  obtain ⟨AA, hAA⟩ : ∃ q, q = va_A (List.flatten [gX4 g aT zT]) sz := ⟨_, rfl⟩
  rw [← hAA] at V
  unfold p_X4_heapOf at h
  refine lv_aload_n X.1 X.2.1 dX4_heapOf_0 rfl (lv_at hl 0 rfl) ?_
  refine lv_iload_n X.1 X.2.1 dX4_heapOf_1 rfl (lv_at hl 1 rfl) ?_
  obtain ⟨x2, hx2, h⟩ := kb_of h
  refine s_callVi (segs' := [gX4 g aT zT]) (ci := 4) (i0 := 0) X V (c_X4_has l D g aT zT v1 x2 hx2) w_X4_31 ⟨Nat.le_of_ble_eq_true rfl, Nat.le_of_ble_eq_true rfl⟩ ⟨Nat.zero_le _, Nat.zero_le _⟩ rfl rfl rfl rfl [0] rfl rfl (kFst_refl _) rfl rfl hl.1 (Nat.le_of_ble_eq_true rfl) dX4_heapOf_2 (fun H locs V => ?_)
  refine lv_if_eq (tgt := 20) X.1 X.2.1 dX4_heapOf_5 (by decide) (fun hc => ?_) (fun hc => ?_)
  · replace h := kif_t hc h
    refine lv_iconst (v := (-1 : Int32)) X.1 X.2.1 dX4_heapOf_20 (by decide) ?_
    obtain rfl := Option.some.inj h
    rw [hAA] at V
    rw [hQQ]
    exact k_iret X V rfl dX4_heapOf_21
  · replace h := kif_f hc h
    refine lv_aload_n X.1 X.2.1 dX4_heapOf_8 rfl (lv_at hl 0 rfl) ?_
    refine gf_X4_11 (i := 0) X V rfl dX4_heapOf_9 ?_
    refine lv_bipush (v := (80 : Int32)) X.1 X.2.1 dX4_heapOf_12 (by decide) ?_
    refine lv_iload_n X.1 X.2.1 dX4_heapOf_14 rfl (lv_at hl 1 rfl) ?_
    refine lv_iadd X.1 X.2.1 dX4_heapOf_15 ?_
    obtain ⟨hc, h⟩ := kg_of h
    refine al_X4_0 (i := 0) X V rfl hc dX4_heapOf_16 ?_
    refine lv_goto (tgt := 21) X.1 X.2.1 dX4_heapOf_17 (by decide) ?_
    obtain rfl := Option.some.inj h
    rw [hAA] at V
    rw [hQQ]
    exact k_iret X V rfl dX4_heapOf_21

def p_X4_standX (zT : tX4) (v1 : Int32) (v2 : Int32) : Option (Int32) :=
  kb (p_X4_has zT v1) (fun x1 => kif ((kz x1) = 0) (some (0 : Int32)) (kg (kii ((0 : Int32) + v1) 129) (kg (kii ((80 : Int32) + v1) 129) (kg (kii ((120 : Int32) + (zT.1 (((80 : Int32) + v1)).toNatClampNeg)) 129) (some (((zT.1 (((0 : Int32) + v1)).toNatClampNeg) + ((zT.1 (((120 : Int32) + (zT.1 (((80 : Int32) + v1)).toNatClampNeg))).toNatClampNeg) * v2))))))))
set_option maxHeartbeats 4000000 in
set_option maxRecDepth 100000 in
theorem c_X4_standX (l : Launch) (D : va_G) (g : kG) (aT : Nat → Nat) (zT : tX4) (v1 : Int32) (v2 : Int32) (r : Int32) (h : p_X4_standX zT v1 v2 = some r) : kMi l yX4_standX cX4_standX 3 (some .int) (kR 1 21) D (kty g) [.ref (aT 0), .int v1, .int v2] (List.flatten [gX4 g aT zT]) r (List.flatten [gX4 g aT zT]) := by
  intro sz
  refine k_enter (lv := [(0, .ref (aT 0)), (1, .int v1), (2, .int v2)]) RX4 (by decide +kernel) rfl rfl (Nat.le_of_ble_eq_true rfl) ?_
  intro p en s m args below meth c ls hsz X V hl
  obtain ⟨QQ, hQQ⟩ : ∃ q, q = MQ below (va_Qi (fun r' (_ : Unit) => r' = r) (fun _ => kE D (List.flatten [gX4 g aT zT])) (va_A (List.flatten [gX4 g aT zT]) sz)) args s 0 0 (va_A (List.flatten [gX4 g aT zT]) sz) := ⟨_, rfl⟩
  rw [← hQQ]
  obtain ⟨AA, hAA⟩ : ∃ q, q = va_A (List.flatten [gX4 g aT zT]) sz := ⟨_, rfl⟩
  rw [← hAA] at V
  unfold p_X4_standX at h
  refine lv_aload_n X.1 X.2.1 dX4_standX_0 rfl (lv_at hl 0 rfl) ?_
  refine lv_iload_n X.1 X.2.1 dX4_standX_1 rfl (lv_at hl 1 rfl) ?_
  obtain ⟨x2, hx2, h⟩ := kb_of h
  refine s_callVi (segs' := [gX4 g aT zT]) (ci := 4) (i0 := 0) X V (c_X4_has l D g aT zT v1 x2 hx2) w_X4_31 ⟨Nat.le_of_ble_eq_true rfl, Nat.le_of_ble_eq_true rfl⟩ ⟨Nat.zero_le _, Nat.zero_le _⟩ rfl rfl rfl rfl [0] rfl rfl (kFst_refl _) rfl rfl hl.1 (Nat.le_of_ble_eq_true rfl) dX4_standX_2 (fun H locs V => ?_)
  refine lv_if_eq (tgt := 39) X.1 X.2.1 dX4_standX_5 (by decide) (fun hc => ?_) (fun hc => ?_)
  · replace h := kif_t hc h
    refine lv_iconst (v := (0 : Int32)) X.1 X.2.1 dX4_standX_39 (by decide) ?_
    obtain rfl := Option.some.inj h
    rw [hAA] at V
    rw [hQQ]
    exact k_iret X V rfl dX4_standX_40
  · replace h := kif_f hc h
    refine lv_aload_n X.1 X.2.1 dX4_standX_8 rfl (lv_at hl 0 rfl) ?_
    refine gf_X4_11 (i := 0) X V rfl dX4_standX_9 ?_
    refine lv_iconst (v := (0 : Int32)) X.1 X.2.1 dX4_standX_12 (by decide) ?_
    refine lv_iload_n X.1 X.2.1 dX4_standX_13 rfl (lv_at hl 1 rfl) ?_
    refine lv_iadd X.1 X.2.1 dX4_standX_14 ?_
    obtain ⟨hc, h⟩ := kg_of h
    refine al_X4_0 (i := 0) X V rfl hc dX4_standX_15 ?_
    refine lv_aload_n X.1 X.2.1 dX4_standX_16 rfl (lv_at hl 0 rfl) ?_
    refine gf_X4_11 (i := 0) X V rfl dX4_standX_17 ?_
    refine lv_bipush (v := (120 : Int32)) X.1 X.2.1 dX4_standX_20 (by decide) ?_
    refine lv_aload_n X.1 X.2.1 dX4_standX_22 rfl (lv_at hl 0 rfl) ?_
    refine gf_X4_11 (i := 0) X V rfl dX4_standX_23 ?_
    refine lv_bipush (v := (80 : Int32)) X.1 X.2.1 dX4_standX_26 (by decide) ?_
    refine lv_iload_n X.1 X.2.1 dX4_standX_28 rfl (lv_at hl 1 rfl) ?_
    refine lv_iadd X.1 X.2.1 dX4_standX_29 ?_
    obtain ⟨hc, h⟩ := kg_of h
    refine al_X4_0 (i := 0) X V rfl hc dX4_standX_30 ?_
    refine lv_iadd X.1 X.2.1 dX4_standX_31 ?_
    obtain ⟨hc, h⟩ := kg_of h
    refine al_X4_0 (i := 0) X V rfl hc dX4_standX_32 ?_
    refine lv_iload_n X.1 X.2.1 dX4_standX_33 rfl (lv_at hl 2 rfl) ?_
    refine lv_imul X.1 X.2.1 dX4_standX_34 ?_
    refine lv_iadd X.1 X.2.1 dX4_standX_35 ?_
    refine lv_goto (tgt := 40) X.1 X.2.1 dX4_standX_36 (by decide) ?_
    obtain rfl := Option.some.inj h
    rw [hAA] at V
    rw [hQQ]
    exact k_iret X V rfl dX4_standX_40

def p_X4_standY (zT : tX4) (v1 : Int32) (v2 : Int32) : Option (Int32) :=
  kb (p_X4_has zT v1) (fun x1 => kif ((kz x1) = 0) (some (0 : Int32)) (kg (kii ((40 : Int32) + v1) 129) (kg (kii ((80 : Int32) + v1) 129) (kg (kii ((124 : Int32) + (zT.1 (((80 : Int32) + v1)).toNatClampNeg)) 129) (some (((zT.1 (((40 : Int32) + v1)).toNatClampNeg) + ((zT.1 (((124 : Int32) + (zT.1 (((80 : Int32) + v1)).toNatClampNeg))).toNatClampNeg) * v2))))))))
set_option maxHeartbeats 4000000 in
set_option maxRecDepth 100000 in
theorem c_X4_standY (l : Launch) (D : va_G) (g : kG) (aT : Nat → Nat) (zT : tX4) (v1 : Int32) (v2 : Int32) (r : Int32) (h : p_X4_standY zT v1 v2 = some r) : kMi l yX4_standY cX4_standY 3 (some .int) (kR 1 21) D (kty g) [.ref (aT 0), .int v1, .int v2] (List.flatten [gX4 g aT zT]) r (List.flatten [gX4 g aT zT]) := by
  intro sz
  refine k_enter (lv := [(0, .ref (aT 0)), (1, .int v1), (2, .int v2)]) RX4 (by decide +kernel) rfl rfl (Nat.le_of_ble_eq_true rfl) ?_
  intro p en s m args below meth c ls hsz X V hl
  obtain ⟨QQ, hQQ⟩ : ∃ q, q = MQ below (va_Qi (fun r' (_ : Unit) => r' = r) (fun _ => kE D (List.flatten [gX4 g aT zT])) (va_A (List.flatten [gX4 g aT zT]) sz)) args s 0 0 (va_A (List.flatten [gX4 g aT zT]) sz) := ⟨_, rfl⟩
  rw [← hQQ]
  obtain ⟨AA, hAA⟩ : ∃ q, q = va_A (List.flatten [gX4 g aT zT]) sz := ⟨_, rfl⟩
  rw [← hAA] at V
  unfold p_X4_standY at h
  refine lv_aload_n X.1 X.2.1 dX4_standY_0 rfl (lv_at hl 0 rfl) ?_
  refine lv_iload_n X.1 X.2.1 dX4_standY_1 rfl (lv_at hl 1 rfl) ?_
  obtain ⟨x2, hx2, h⟩ := kb_of h
  refine s_callVi (segs' := [gX4 g aT zT]) (ci := 4) (i0 := 0) X V (c_X4_has l D g aT zT v1 x2 hx2) w_X4_31 ⟨Nat.le_of_ble_eq_true rfl, Nat.le_of_ble_eq_true rfl⟩ ⟨Nat.zero_le _, Nat.zero_le _⟩ rfl rfl rfl rfl [0] rfl rfl (kFst_refl _) rfl rfl hl.1 (Nat.le_of_ble_eq_true rfl) dX4_standY_2 (fun H locs V => ?_)
  refine lv_if_eq (tgt := 40) X.1 X.2.1 dX4_standY_5 (by decide) (fun hc => ?_) (fun hc => ?_)
  · replace h := kif_t hc h
    refine lv_iconst (v := (0 : Int32)) X.1 X.2.1 dX4_standY_40 (by decide) ?_
    obtain rfl := Option.some.inj h
    rw [hAA] at V
    rw [hQQ]
    exact k_iret X V rfl dX4_standY_41
  · replace h := kif_f hc h
    refine lv_aload_n X.1 X.2.1 dX4_standY_8 rfl (lv_at hl 0 rfl) ?_
    refine gf_X4_11 (i := 0) X V rfl dX4_standY_9 ?_
    refine lv_bipush (v := (40 : Int32)) X.1 X.2.1 dX4_standY_12 (by decide) ?_
    refine lv_iload_n X.1 X.2.1 dX4_standY_14 rfl (lv_at hl 1 rfl) ?_
    refine lv_iadd X.1 X.2.1 dX4_standY_15 ?_
    obtain ⟨hc, h⟩ := kg_of h
    refine al_X4_0 (i := 0) X V rfl hc dX4_standY_16 ?_
    refine lv_aload_n X.1 X.2.1 dX4_standY_17 rfl (lv_at hl 0 rfl) ?_
    refine gf_X4_11 (i := 0) X V rfl dX4_standY_18 ?_
    refine lv_bipush (v := (124 : Int32)) X.1 X.2.1 dX4_standY_21 (by decide) ?_
    refine lv_aload_n X.1 X.2.1 dX4_standY_23 rfl (lv_at hl 0 rfl) ?_
    refine gf_X4_11 (i := 0) X V rfl dX4_standY_24 ?_
    refine lv_bipush (v := (80 : Int32)) X.1 X.2.1 dX4_standY_27 (by decide) ?_
    refine lv_iload_n X.1 X.2.1 dX4_standY_29 rfl (lv_at hl 1 rfl) ?_
    refine lv_iadd X.1 X.2.1 dX4_standY_30 ?_
    obtain ⟨hc, h⟩ := kg_of h
    refine al_X4_0 (i := 0) X V rfl hc dX4_standY_31 ?_
    refine lv_iadd X.1 X.2.1 dX4_standY_32 ?_
    obtain ⟨hc, h⟩ := kg_of h
    refine al_X4_0 (i := 0) X V rfl hc dX4_standY_33 ?_
    refine lv_iload_n X.1 X.2.1 dX4_standY_34 rfl (lv_at hl 2 rfl) ?_
    refine lv_imul X.1 X.2.1 dX4_standY_35 ?_
    refine lv_iadd X.1 X.2.1 dX4_standY_36 ?_
    refine lv_goto (tgt := 41) X.1 X.2.1 dX4_standY_37 (by decide) ?_
    obtain rfl := Option.some.inj h
    rw [hAA] at V
    rw [hQQ]
    exact k_iret X V rfl dX4_standY_41

def p_X4_bits_L5 (zT : tX4) (v1 : Int32) (s : Int64 × Int32) : Option (Nat × (Int64 × Int32)) :=
  kif ((40 : Int32) ≤ s.2) (some (54, (s.1, s.2))) (kg (kii ((80 : Int32) + s.2) 129) (kl (zT.1 (((80 : Int32) + s.2)).toNatClampNeg) (fun y1 => kb (p_X11_isHeap y1) (fun x2 => kif ((kz x2) = 0) (kl (s.2 + (1 : Int32)) (fun y3 => some (5, (s.1, y3)))) (kif (((v1 >>> (y1 &&& 31)) &&& (1 : Int32)) = 0) (kl (s.2 + (1 : Int32)) (fun y4 => some (5, (s.1, y4)))) (kl (s.1 ||| ((1 : Int64) <<< (s.2.toInt64 &&& 63))) (fun y5 => kl (s.2 + (1 : Int32)) (fun y6 => some (5, (y5, y6))))))))))
def p_X4_bits (zT : tX4) (v1 : Int32) : Option (Int64) :=
  kb (kitr 5 (fun q => p_X4_bits_L5 zT v1 q) kF ((0 : Int64), (0 : Int32))) (fun x7 => kg (x7.1 = 54) (some x7.2.1))
set_option maxHeartbeats 4000000 in
set_option maxRecDepth 100000 in
theorem c_X4_bits (l : Launch) (D : va_G) (g : kG) (aT : Nat → Nat) (zT : tX4) (v1 : Int32) (r : Int64) (h : p_X4_bits zT v1 = some r) : kMl l yX4_bits cX4_bits 6 (some .long) (kR 1 20) D (kty g) [.ref (aT 0), .int v1] (List.flatten [gX4 g aT zT]) r (List.flatten [gX4 g aT zT]) := by
  intro sz
  refine k_enter (lv := [(0, .ref (aT 0)), (1, .int v1)]) RX4 (by decide +kernel) rfl rfl (Nat.le_of_ble_eq_true rfl) ?_
  intro p en s m args below meth c ls hsz X V hl
  obtain ⟨QQ, hQQ⟩ : ∃ q, q = MQ below (va_Ql (fun r' (_ : Unit) => r' = r) (fun _ => kE D (List.flatten [gX4 g aT zT])) (va_A (List.flatten [gX4 g aT zT]) sz)) args s 0 0 (va_A (List.flatten [gX4 g aT zT]) sz) := ⟨_, rfl⟩
  rw [← hQQ]
  obtain ⟨AA, hAA⟩ : ∃ q, q = va_A (List.flatten [gX4 g aT zT]) sz := ⟨_, rfl⟩
  rw [← hAA] at V
  unfold p_X4_bits at h
  refine lv_lconst (v := (0 : Int64)) X.1 X.2.1 dX4_bits_0 (by decide) ?_
  refine lv_lstore_n (lv' := [(2, .long (0 : Int64)), (0, .ref (aT 0)), (1, .int v1)]) X.1 X.2.1 dX4_bits_1 rfl hl (by decide) rfl (fun ls hl => ?_)
  refine lv_iconst (v := (0 : Int32)) X.1 X.2.1 dX4_bits_2 (by decide) ?_
  refine lv_istore (lv' := [(4, .int (0 : Int32)), (2, .long (0 : Int64)), (0, .ref (aT 0)), (1, .int v1)]) X.1 X.2.1 dX4_bits_3 hl (by decide) rfl (fun ls hl => ?_)
  obtain ⟨x8, hx8, h⟩ := kb_of h
  refine (kitr_go (hd := 5) (body := fun q => p_X4_bits_L5 zT v1 q) (G := (fun e => ∀ (H : Heap) (locs : List Loc) (ls : Array Slot), kW D AA s.heap H (List.flatten [gX4 g aT zT]) locs → lv_has ls 6 [(0, .ref (aT 0)), (1, .int v1), (2, .long e.2.1), (4, .int e.2.2)] → W p l en (kR 1 20) s m args below meth c H locs 0 0 QQ (F0 m e.1 ls []))) (fun s9 e10 hb11 hG12 => ?_) kF _ x8 hx8 ?_) _ _ _ V (lv_sub hl [2, 3, 1, 0] rfl)
  · intro H locs ls V hl
    show W p l en (kR 1 20) s m args below meth c H locs 0 0 QQ (F0 m 5 ls [])
    have h : p_X4_bits_L5 zT v1 s9 = some e10 := hb11
    unfold p_X4_bits_L5 at h
    have V : kW D AA s.heap H (List.flatten [gX4 g aT zT]) locs := V
    have hl : lv_has ls 6 [(0, .ref (aT 0)), (1, .int v1), (2, .long s9.1), (4, .int s9.2)] := hl
    refine lv_iload X.1 X.2.1 dX4_bits_5 (lv_at hl 3 rfl) ?_
    refine lv_bipush (v := (40 : Int32)) X.1 X.2.1 dX4_bits_7 (by decide) ?_
    refine lv_icmp_ge (tgt := 54) X.1 X.2.1 dX4_bits_9 (by decide) (fun hc => ?_) (fun hc => ?_)
    · replace h := kif_t hc h
      obtain rfl := Option.some.inj h
      exact hG12 _ _ _ V (lv_sub hl [0, 1, 2, 3] rfl)
    · replace h := kif_f hc h
      refine lv_aload_n X.1 X.2.1 dX4_bits_12 rfl (lv_at hl 0 rfl) ?_
      refine gf_X4_11 (i := 0) X V rfl dX4_bits_13 ?_
      refine lv_bipush (v := (80 : Int32)) X.1 X.2.1 dX4_bits_16 (by decide) ?_
      refine lv_iload X.1 X.2.1 dX4_bits_18 (lv_at hl 3 rfl) ?_
      refine lv_iadd X.1 X.2.1 dX4_bits_20 ?_
      obtain ⟨hc, h⟩ := kg_of h
      refine al_X4_0 (i := 0) X V rfl hc dX4_bits_21 ?_
      refine lv_topi (fun y13 ey13 => ?_)
      replace h := kl_of ey13 h
      refine lv_istore (lv' := [(5, .int y13), (0, .ref (aT 0)), (1, .int v1), (2, .long s9.1), (4, .int s9.2)]) X.1 X.2.1 dX4_bits_22 hl (by decide) rfl (fun ls hl => ?_)
      refine lv_iload X.1 X.2.1 dX4_bits_24 (lv_at hl 0 rfl) ?_
      obtain ⟨x14, hx14, h⟩ := kb_of h
      refine s_callNi (segs' := [gX4 g aT zT]) X V (c_X11_isHeap l D g y13 x14 hx14) w_X4_27 ⟨Nat.le_of_ble_eq_true rfl, Nat.le_of_ble_eq_true rfl⟩ ⟨Nat.zero_le _, Nat.zero_le _⟩ rfl [] rfl rfl (kFst_refl _) rfl rfl hl.1 (Nat.le_of_ble_eq_true rfl) dX4_bits_26 (fun H locs V => ?_)
      refine lv_if_eq (tgt := 48) X.1 X.2.1 dX4_bits_29 (by decide) (fun hc => ?_) (fun hc => ?_)
      · replace h := kif_t hc h
        obtain ⟨y15, ey15⟩ : ∃ y : Int32, y = (s9.2 + (1 : Int32)) := ⟨_, rfl⟩
        replace h := kl_of ey15 h
        refine lv_iinc (v := y15) (lv' := [(4, .int y15), (5, .int y13), (0, .ref (aT 0)), (1, .int v1), (2, .long s9.1)]) X.1 X.2.1 dX4_bits_48 hl (k := 4) rfl (by rw [ey15]; rfl) (by decide) rfl (fun ls hl => ?_)
        refine lv_goto (tgt := 5) X.1 X.2.1 dX4_bits_51 (by decide) ?_
        obtain rfl := Option.some.inj h
        exact hG12 _ _ _ V (lv_sub hl [2, 3, 4, 0] rfl)
      · replace h := kif_f hc h
        refine lv_iload_n X.1 X.2.1 dX4_bits_32 rfl (lv_at hl 2 rfl) ?_
        refine lv_iload X.1 X.2.1 dX4_bits_33 (lv_at hl 0 rfl) ?_
        refine lv_ishr X.1 X.2.1 dX4_bits_35 ?_
        refine lv_iconst (v := (1 : Int32)) X.1 X.2.1 dX4_bits_36 (by decide) ?_
        refine lv_iand X.1 X.2.1 dX4_bits_37 ?_
        refine lv_if_eq (tgt := 48) X.1 X.2.1 dX4_bits_38 (by decide) (fun hc => ?_) (fun hc => ?_)
        · replace h := kif_t hc h
          obtain ⟨y16, ey16⟩ : ∃ y : Int32, y = (s9.2 + (1 : Int32)) := ⟨_, rfl⟩
          replace h := kl_of ey16 h
          refine lv_iinc (v := y16) (lv' := [(4, .int y16), (5, .int y13), (0, .ref (aT 0)), (1, .int v1), (2, .long s9.1)]) X.1 X.2.1 dX4_bits_48 hl (k := 4) rfl (by rw [ey16]; rfl) (by decide) rfl (fun ls hl => ?_)
          refine lv_goto (tgt := 5) X.1 X.2.1 dX4_bits_51 (by decide) ?_
          obtain rfl := Option.some.inj h
          exact hG12 _ _ _ V (lv_sub hl [2, 3, 4, 0] rfl)
        · replace h := kif_f hc h
          refine lv_lload_n X.1 X.2.1 dX4_bits_41 rfl (lv_at hl 3 rfl) ?_
          refine lv_lconst (v := (1 : Int64)) X.1 X.2.1 dX4_bits_42 (by decide) ?_
          refine lv_iload X.1 X.2.1 dX4_bits_43 (lv_at hl 4 rfl) ?_
          refine lv_lshl X.1 X.2.1 dX4_bits_45 rfl ?_
          refine lv_lor X.1 X.2.1 dX4_bits_46 ?_
          refine lv_topl (fun y17 ey17 => ?_)
          replace h := kl_of ey17 h
          refine lv_lstore_n (lv' := [(2, .long y17), (5, .int y13), (0, .ref (aT 0)), (1, .int v1), (4, .int s9.2)]) X.1 X.2.1 dX4_bits_47 rfl hl (by decide) rfl (fun ls hl => ?_)
          obtain ⟨y18, ey18⟩ : ∃ y : Int32, y = (s9.2 + (1 : Int32)) := ⟨_, rfl⟩
          replace h := kl_of ey18 h
          refine lv_iinc (v := y18) (lv' := [(4, .int y18), (2, .long y17), (5, .int y13), (0, .ref (aT 0)), (1, .int v1)]) X.1 X.2.1 dX4_bits_48 hl (k := 4) rfl (by rw [ey18]; rfl) (by decide) rfl (fun ls hl => ?_)
          refine lv_goto (tgt := 5) X.1 X.2.1 dX4_bits_51 (by decide) ?_
          obtain rfl := Option.some.inj h
          exact hG12 _ _ _ V (lv_sub hl [3, 4, 1, 0] rfl)
  · intro H locs ls V hl
    have V : kW D AA s.heap H (List.flatten [gX4 g aT zT]) locs := V
    have hl : lv_has ls 6 [(0, .ref (aT 0)), (1, .int v1), (2, .long x8.2.1), (4, .int x8.2.2)] := hl
    obtain ⟨hc, h⟩ := kg_of h
    refine W.eq (g2 := F0 m 54 ls []) (by rw [hc]) ?_
    refine lv_lload_n X.1 X.2.1 dX4_bits_54 rfl (lv_at hl 2 rfl) ?_
    obtain rfl := Option.some.inj h
    rw [hAA] at V
    rw [hQQ]
    exact k_lret X V rfl dX4_bits_55

def p_X4_mark (zT : tX4) : Option (tX4) :=
  kl (zT.1, (va_cpy zT.1 zT.2.1 0 0 129), zT.2.2) (fun z1 => some z1)
set_option maxHeartbeats 4000000 in
set_option maxRecDepth 100000 in
theorem c_X4_mark (l : Launch) (D : va_G) (g : kG) (aT : Nat → Nat) (zT : tX4) (r : tX4) (h : p_X4_mark zT = some r) : kMv l yX4_mark cX4_mark 1 none (kR 1 60) D (kty g) [.ref (aT 0)] (List.flatten [gX4 g aT zT]) (List.flatten [gX4 g aT r]) := by
  intro sz
  refine k_enter (lv := [(0, .ref (aT 0))]) RX4 (by decide +kernel) rfl rfl (Nat.le_of_ble_eq_true rfl) ?_
  intro p en s m args below meth c ls hsz X V hl
  obtain ⟨QQ, hQQ⟩ : ∃ q, q = MQ below (va_Qv (fun (_ : Unit) => True) (fun _ => kE D (List.flatten [gX4 g aT r])) (va_A (List.flatten [gX4 g aT zT]) sz)) args s 0 0 (va_A (List.flatten [gX4 g aT zT]) sz) := ⟨_, rfl⟩
  rw [← hQQ]
  obtain ⟨AA, hAA⟩ : ∃ q, q = va_A (List.flatten [gX4 g aT zT]) sz := ⟨_, rfl⟩
  rw [← hAA] at V
  unfold p_X4_mark at h
  refine lv_aload_n X.1 X.2.1 dX4_mark_0 rfl (lv_at hl 0 rfl) ?_
  refine gf_X4_11 (i := 0) X V rfl dX4_mark_1 ?_
  refine lv_iconst (v := (0 : Int32)) X.1 X.2.1 dX4_mark_4 (by decide) ?_
  refine lv_aload_n X.1 X.2.1 dX4_mark_5 rfl (lv_at hl 0 rfl) ?_
  refine gf_X4_15 (i := 0) X V rfl dX4_mark_6 ?_
  refine lv_iconst (v := (0 : Int32)) X.1 X.2.1 dX4_mark_9 (by decide) ?_
  refine lv_sipush (v := (129 : Int32)) X.1 X.2.1 dX4_mark_10 (by decide) ?_
  rw [flat1] at V
  refine k_acopy X V hl.1 kcp_X4_34 kcp_nat kcp_stat kcp_ini (q0 := 1) (q1 := 2) (t0 := 0) (t1 := 0) rfl rfl rfl rfl (by decide) (by decide) (by decide) (by decide) (by decide) (Nat.le_of_ble_eq_true rfl) (Nat.le_of_ble_eq_true rfl) dX4_mark_13 (fun H locs V => ?_)
  skip
  obtain ⟨z2, ez2⟩ : ∃ y, y = (zT.1, (va_cpy zT.1 zT.2.1 0 0 129), zT.2.2) := ⟨_, rfl⟩
  replace h := kl_of ez2 h
  have V : kW D AA s.heap H (List.flatten [gX4 g aT z2]) locs := by rw [ez2]; rw [flat1]; exact V
  obtain rfl := Option.some.inj h
  rw [hAA] at V
  rw [hQQ]
  exact k_vret X V dX4_mark_16

def p_X4_returnToMark (zT : tX4) : Option (tX4) :=
  kl ((va_cpy zT.2.1 zT.1 0 0 129), zT.2) (fun z1 => some z1)
set_option maxHeartbeats 4000000 in
set_option maxRecDepth 100000 in
theorem c_X4_returnToMark (l : Launch) (D : va_G) (g : kG) (aT : Nat → Nat) (zT : tX4) (r : tX4) (h : p_X4_returnToMark zT = some r) : kMv l yX4_returnToMark cX4_returnToMark 1 none (kR 1 60) D (kty g) [.ref (aT 0)] (List.flatten [gX4 g aT zT]) (List.flatten [gX4 g aT r]) := by
  intro sz
  refine k_enter (lv := [(0, .ref (aT 0))]) RX4 (by decide +kernel) rfl rfl (Nat.le_of_ble_eq_true rfl) ?_
  intro p en s m args below meth c ls hsz X V hl
  obtain ⟨QQ, hQQ⟩ : ∃ q, q = MQ below (va_Qv (fun (_ : Unit) => True) (fun _ => kE D (List.flatten [gX4 g aT r])) (va_A (List.flatten [gX4 g aT zT]) sz)) args s 0 0 (va_A (List.flatten [gX4 g aT zT]) sz) := ⟨_, rfl⟩
  rw [← hQQ]
  obtain ⟨AA, hAA⟩ : ∃ q, q = va_A (List.flatten [gX4 g aT zT]) sz := ⟨_, rfl⟩
  rw [← hAA] at V
  unfold p_X4_returnToMark at h
  refine lv_aload_n X.1 X.2.1 dX4_returnToMark_0 rfl (lv_at hl 0 rfl) ?_
  refine gf_X4_15 (i := 0) X V rfl dX4_returnToMark_1 ?_
  refine lv_iconst (v := (0 : Int32)) X.1 X.2.1 dX4_returnToMark_4 (by decide) ?_
  refine lv_aload_n X.1 X.2.1 dX4_returnToMark_5 rfl (lv_at hl 0 rfl) ?_
  refine gf_X4_11 (i := 0) X V rfl dX4_returnToMark_6 ?_
  refine lv_iconst (v := (0 : Int32)) X.1 X.2.1 dX4_returnToMark_9 (by decide) ?_
  refine lv_sipush (v := (129 : Int32)) X.1 X.2.1 dX4_returnToMark_10 (by decide) ?_
  rw [flat1] at V
  refine k_acopy X V hl.1 kcp_X4_34 kcp_nat kcp_stat kcp_ini (q0 := 2) (q1 := 1) (t0 := 0) (t1 := 0) rfl rfl rfl rfl (by decide) (by decide) (by decide) (by decide) (by decide) (Nat.le_of_ble_eq_true rfl) (Nat.le_of_ble_eq_true rfl) dX4_returnToMark_13 (fun H locs V => ?_)
  skip
  obtain ⟨z2, ez2⟩ : ∃ y, y = ((va_cpy zT.2.1 zT.1 0 0 129), zT.2) := ⟨_, rfl⟩
  replace h := kl_of ez2 h
  have V : kW D AA s.heap H (List.flatten [gX4 g aT z2]) locs := by rw [ez2]; rw [flat1]; exact V
  obtain rfl := Option.some.inj h
  rw [hAA] at V
  rw [hQQ]
  exact k_vret X V dX4_returnToMark_16

def p_X4_keep (zT : tX4) : Option (tX4) :=
  kl (zT.1, zT.2.1, zT.2.2.1, ((zT.2.2.2.1 + (1 : Int32)) - (zT.2.2.2.1 + (1 : Int32)) / (20 : Int32) * (20 : Int32)), zT.2.2.2.2) (fun z1 => kif (z1.2.2.2.1 < 0) (some z1) (kif (z1.2.2.2.1 < (20 : Int32)) (kg (kii z1.2.2.2.1 20) (kl (z1.1, z1.2.1, (va_up z1.2.2.1 z1.2.2.2.1.toNatClampNeg (va_cpy z1.2.1 (z1.2.2.1 z1.2.2.2.1.toNatClampNeg) 0 0 129)), z1.2.2.2) (fun z2 => kb (p_J9_min_7cf53 (z2.2.2.2.2 + (1 : Int32)) (20 : Int32)) (fun x3 => kl (z2.1, z2.2.1, z2.2.2.1, z2.2.2.2.1, x3) (fun z4 => some z4))))) (some z1)))
set_option maxHeartbeats 4000000 in
set_option maxRecDepth 100000 in
theorem c_X4_keep (l : Launch) (D : va_G) (g : kG) (aT : Nat → Nat) (zT : tX4) (r : tX4) (h : p_X4_keep zT = some r) : kMv l yX4_keep cX4_keep 1 none (kR 1 60) D (kty g) [.ref (aT 0)] (List.flatten [gX4 g aT zT]) (List.flatten [gX4 g aT r]) := by
  intro sz
  refine k_enter (lv := [(0, .ref (aT 0))]) RX4 (by decide +kernel) rfl rfl (Nat.le_of_ble_eq_true rfl) ?_
  intro p en s m args below meth c ls hsz X V hl
  obtain ⟨QQ, hQQ⟩ : ∃ q, q = MQ below (va_Qv (fun (_ : Unit) => True) (fun _ => kE D (List.flatten [gX4 g aT r])) (va_A (List.flatten [gX4 g aT zT]) sz)) args s 0 0 (va_A (List.flatten [gX4 g aT zT]) sz) := ⟨_, rfl⟩
  rw [← hQQ]
  obtain ⟨AA, hAA⟩ : ∃ q, q = va_A (List.flatten [gX4 g aT zT]) sz := ⟨_, rfl⟩
  rw [← hAA] at V
  unfold p_X4_keep at h
  refine lv_aload_n X.1 X.2.1 dX4_keep_0 rfl (lv_at hl 0 rfl) ?_
  refine lv_aload_n X.1 X.2.1 dX4_keep_1 rfl (lv_at hl 0 rfl) ?_
  refine gf_X4_23 (i := 0) X V rfl dX4_keep_2 ?_
  refine lv_iconst (v := (1 : Int32)) X.1 X.2.1 dX4_keep_5 (by decide) ?_
  refine lv_iadd X.1 X.2.1 dX4_keep_6 ?_
  refine lv_bipush (v := (20 : Int32)) X.1 X.2.1 dX4_keep_7 (by decide) ?_
  refine lv_irem X.1 X.2.1 dX4_keep_9 (by decide) ?_
  refine pf_X4_23 (i := 0) X V rfl dX4_keep_10 (fun H locs V => ?_)
  obtain ⟨z5, ez5⟩ : ∃ y, y = (zT.1, zT.2.1, zT.2.2.1, ((zT.2.2.2.1 + (1 : Int32)) - (zT.2.2.2.1 + (1 : Int32)) / (20 : Int32) * (20 : Int32)), zT.2.2.2.2) := ⟨_, rfl⟩
  replace h := kl_of ez5 h
  have V : kW D AA s.heap H (List.flatten [gX4 g aT z5]) locs := by rw [ez5]; exact V
  refine lv_aload_n X.1 X.2.1 dX4_keep_13 rfl (lv_at hl 0 rfl) ?_
  refine gf_X4_23 (i := 0) X V rfl dX4_keep_14 ?_
  refine lv_if_lt (tgt := 29) X.1 X.2.1 dX4_keep_17 (by decide) (fun hc => ?_) (fun hc => ?_)
  · replace h := kif_t hc h
    obtain rfl := Option.some.inj h
    rw [hAA] at V
    rw [hQQ]
    exact k_vret X V dX4_keep_29
  · replace h := kif_f hc h
    refine lv_aload_n X.1 X.2.1 dX4_keep_20 rfl (lv_at hl 0 rfl) ?_
    refine gf_X4_23 (i := 0) X V rfl dX4_keep_21 ?_
    refine lv_bipush (v := (20 : Int32)) X.1 X.2.1 dX4_keep_24 (by decide) ?_
    refine lv_icmp_lt (tgt := 30) X.1 X.2.1 dX4_keep_26 (by decide) (fun hc => ?_) (fun hc => ?_)
    · replace h := kif_t hc h
      refine lv_aload_n X.1 X.2.1 dX4_keep_30 rfl (lv_at hl 0 rfl) ?_
      refine gf_X4_15 (i := 0) X V rfl dX4_keep_31 ?_
      refine lv_iconst (v := (0 : Int32)) X.1 X.2.1 dX4_keep_34 (by decide) ?_
      refine lv_aload_n X.1 X.2.1 dX4_keep_35 rfl (lv_at hl 0 rfl) ?_
      refine gf_X4_20 (i := 0) X V rfl dX4_keep_36 ?_
      refine lv_aload_n X.1 X.2.1 dX4_keep_39 rfl (lv_at hl 0 rfl) ?_
      refine gf_X4_23 (i := 0) X V rfl dX4_keep_40 ?_
      obtain ⟨hc, h⟩ := kg_of h
      have hrow := kin_lt hc
      refine k_kept X (by rw [flat1] at V; exact V) hc dX4_keep_43 ?_
      refine lv_iconst (v := (0 : Int32)) X.1 X.2.1 dX4_keep_44 (by decide) ?_
      refine lv_sipush (v := (129 : Int32)) X.1 X.2.1 dX4_keep_45 (by decide) ?_
      rw [flat1] at V
      refine k_acopy X V hl.1 kcp_X4_34 kcp_nat kcp_stat kcp_ini (q0 := 2) (q1 := 4 + z5.2.2.2.1.toNatClampNeg) (t0 := 0) (t1 := 0) rfl (kept_at g aT z5 _ hrow) rfl rfl (by decide) (by decide) (by decide) (by decide) (by decide) (Nat.le_of_ble_eq_true rfl) (Nat.le_of_ble_eq_true rfl) dX4_keep_48 (fun H locs V => ?_)
      skip
      have V := kept_set hrow V
      obtain ⟨z6, ez6⟩ : ∃ y, y = (z5.1, z5.2.1, (va_up z5.2.2.1 z5.2.2.2.1.toNatClampNeg (va_cpy z5.2.1 (z5.2.2.1 z5.2.2.2.1.toNatClampNeg) 0 0 129)), z5.2.2.2) := ⟨_, rfl⟩
      replace h := kl_of ez6 h
      have V : kW D AA s.heap H (List.flatten [gX4 g aT z6]) locs := by rw [ez6]; rw [flat1]; exact V
      refine lv_aload_n X.1 X.2.1 dX4_keep_51 rfl (lv_at hl 0 rfl) ?_
      refine lv_aload_n X.1 X.2.1 dX4_keep_52 rfl (lv_at hl 0 rfl) ?_
      refine gf_X4_40 (i := 0) X V rfl dX4_keep_53 ?_
      refine lv_iconst (v := (1 : Int32)) X.1 X.2.1 dX4_keep_56 (by decide) ?_
      refine lv_iadd X.1 X.2.1 dX4_keep_57 ?_
      refine lv_bipush (v := (20 : Int32)) X.1 X.2.1 dX4_keep_58 (by decide) ?_
      obtain ⟨x7, hx7, h⟩ := kb_of h
      refine s_callSi (segs' := [gX4 g aT z6]) X V (c_J9_min_7cf53 l D g (z6.2.2.2.2 + (1 : Int32)) (20 : Int32) x7 hx7) w_X4_43 ⟨Nat.le_of_ble_eq_true rfl, Nat.le_of_ble_eq_true rfl⟩ ⟨Nat.zero_le _, Nat.zero_le _⟩ rfl [] rfl rfl (kFst_refl _) rfl rfl hl.1 (Nat.le_of_ble_eq_true rfl) dX4_keep_60 (fun H locs V => ?_)
      refine pf_X4_40 (i := 0) X V rfl dX4_keep_63 (fun H locs V => ?_)
      obtain ⟨z8, ez8⟩ : ∃ y, y = (z6.1, z6.2.1, z6.2.2.1, z6.2.2.2.1, x7) := ⟨_, rfl⟩
      replace h := kl_of ez8 h
      have V : kW D AA s.heap H (List.flatten [gX4 g aT z8]) locs := by rw [ez8]; exact V
      obtain rfl := Option.some.inj h
      rw [hAA] at V
      rw [hQQ]
      exact k_vret X V dX4_keep_66
    · replace h := kif_f hc h
      obtain rfl := Option.some.inj h
      rw [hAA] at V
      rw [hQQ]
      exact k_vret X V dX4_keep_29

def p_X4_takeBack (zT : tX4) : Option (Int32 × tX4) :=
  kif (zT.2.2.2.2 ≤ 0) (some ((-1 : Int32), zT)) (kif (zT.2.2.2.1 < 0) (some ((-1 : Int32), zT)) (kif (zT.2.2.2.1 < (20 : Int32)) (kg (kii zT.2.2.2.1 20) (kl ((va_cpy (zT.2.2.1 zT.2.2.2.1.toNatClampNeg) zT.1 0 0 129), zT.2) (fun z1 => kl (z1.1, z1.2.1, z1.2.2.1, (((z1.2.2.2.1 + (20 : Int32)) - (1 : Int32)) - ((z1.2.2.2.1 + (20 : Int32)) - (1 : Int32)) / (20 : Int32) * (20 : Int32)), z1.2.2.2.2) (fun z2 => kl (z2.1, z2.2.1, z2.2.2.1, z2.2.2.2.1, (z2.2.2.2.2 - (1 : Int32))) (fun z3 => some (z3.2.2.2.2, z3)))))) (some ((-1 : Int32), zT))))
set_option maxHeartbeats 4000000 in
set_option maxRecDepth 100000 in
theorem c_X4_takeBack (l : Launch) (D : va_G) (g : kG) (aT : Nat → Nat) (zT : tX4) (r : Int32 × tX4) (h : p_X4_takeBack zT = some r) : kMi l yX4_takeBack cX4_takeBack 1 (some .int) (kR 1 60) D (kty g) [.ref (aT 0)] (List.flatten [gX4 g aT zT]) r.1 (List.flatten [gX4 g aT r.2]) := by
  intro sz
  refine k_enter (lv := [(0, .ref (aT 0))]) RX4 (by decide +kernel) rfl rfl (Nat.le_of_ble_eq_true rfl) ?_
  intro p en s m args below meth c ls hsz X V hl
  obtain ⟨QQ, hQQ⟩ : ∃ q, q = MQ below (va_Qi (fun r' (_ : Unit) => r' = r.1) (fun _ => kE D (List.flatten [gX4 g aT r.2])) (va_A (List.flatten [gX4 g aT zT]) sz)) args s 0 0 (va_A (List.flatten [gX4 g aT zT]) sz) := ⟨_, rfl⟩
  rw [← hQQ]
  obtain ⟨AA, hAA⟩ : ∃ q, q = va_A (List.flatten [gX4 g aT zT]) sz := ⟨_, rfl⟩
  rw [← hAA] at V
  unfold p_X4_takeBack at h
  refine lv_aload_n X.1 X.2.1 dX4_takeBack_0 rfl (lv_at hl 0 rfl) ?_
  refine gf_X4_40 (i := 0) X V rfl dX4_takeBack_1 ?_
  refine lv_if_le (tgt := 23) X.1 X.2.1 dX4_takeBack_4 (by decide) (fun hc => ?_) (fun hc => ?_)
  · replace h := kif_t hc h
    refine lv_iconst (v := (-1 : Int32)) X.1 X.2.1 dX4_takeBack_23 (by decide) ?_
    obtain rfl := Option.some.inj h
    rw [hAA] at V
    rw [hQQ]
    exact k_iret X V rfl dX4_takeBack_24
  · replace h := kif_f hc h
    refine lv_aload_n X.1 X.2.1 dX4_takeBack_7 rfl (lv_at hl 0 rfl) ?_
    refine gf_X4_23 (i := 0) X V rfl dX4_takeBack_8 ?_
    refine lv_if_lt (tgt := 23) X.1 X.2.1 dX4_takeBack_11 (by decide) (fun hc => ?_) (fun hc => ?_)
    · replace h := kif_t hc h
      refine lv_iconst (v := (-1 : Int32)) X.1 X.2.1 dX4_takeBack_23 (by decide) ?_
      obtain rfl := Option.some.inj h
      rw [hAA] at V
      rw [hQQ]
      exact k_iret X V rfl dX4_takeBack_24
    · replace h := kif_f hc h
      refine lv_aload_n X.1 X.2.1 dX4_takeBack_14 rfl (lv_at hl 0 rfl) ?_
      refine gf_X4_23 (i := 0) X V rfl dX4_takeBack_15 ?_
      refine lv_bipush (v := (20 : Int32)) X.1 X.2.1 dX4_takeBack_18 (by decide) ?_
      refine lv_icmp_lt (tgt := 25) X.1 X.2.1 dX4_takeBack_20 (by decide) (fun hc => ?_) (fun hc => ?_)
      · replace h := kif_t hc h
        refine lv_aload_n X.1 X.2.1 dX4_takeBack_25 rfl (lv_at hl 0 rfl) ?_
        refine gf_X4_20 (i := 0) X V rfl dX4_takeBack_26 ?_
        refine lv_aload_n X.1 X.2.1 dX4_takeBack_29 rfl (lv_at hl 0 rfl) ?_
        refine gf_X4_23 (i := 0) X V rfl dX4_takeBack_30 ?_
        obtain ⟨hc, h⟩ := kg_of h
        have hrow := kin_lt hc
        refine k_kept X (by rw [flat1] at V; exact V) hc dX4_takeBack_33 ?_
        refine lv_iconst (v := (0 : Int32)) X.1 X.2.1 dX4_takeBack_34 (by decide) ?_
        refine lv_aload_n X.1 X.2.1 dX4_takeBack_35 rfl (lv_at hl 0 rfl) ?_
        refine gf_X4_11 (i := 0) X V rfl dX4_takeBack_36 ?_
        refine lv_iconst (v := (0 : Int32)) X.1 X.2.1 dX4_takeBack_39 (by decide) ?_
        refine lv_sipush (v := (129 : Int32)) X.1 X.2.1 dX4_takeBack_40 (by decide) ?_
        rw [flat1] at V
        refine k_acopy X V hl.1 kcp_X4_34 kcp_nat kcp_stat kcp_ini (q0 := 4 + zT.2.2.2.1.toNatClampNeg) (q1 := 1) (t0 := 0) (t1 := 0) (kept_at g aT zT _ hrow) rfl rfl rfl (by decide) (by decide) (by decide) (by decide) (by decide) (Nat.le_of_ble_eq_true rfl) (Nat.le_of_ble_eq_true rfl) dX4_takeBack_43 (fun H locs V => ?_)
        skip
        obtain ⟨z4, ez4⟩ : ∃ y, y = ((va_cpy (zT.2.2.1 zT.2.2.2.1.toNatClampNeg) zT.1 0 0 129), zT.2) := ⟨_, rfl⟩
        replace h := kl_of ez4 h
        have V : kW D AA s.heap H (List.flatten [gX4 g aT z4]) locs := by rw [ez4]; rw [flat1]; exact V
        refine lv_aload_n X.1 X.2.1 dX4_takeBack_46 rfl (lv_at hl 0 rfl) ?_
        refine lv_aload_n X.1 X.2.1 dX4_takeBack_47 rfl (lv_at hl 0 rfl) ?_
        refine gf_X4_23 (i := 0) X V rfl dX4_takeBack_48 ?_
        refine lv_bipush (v := (20 : Int32)) X.1 X.2.1 dX4_takeBack_51 (by decide) ?_
        refine lv_iadd X.1 X.2.1 dX4_takeBack_53 ?_
        refine lv_iconst (v := (1 : Int32)) X.1 X.2.1 dX4_takeBack_54 (by decide) ?_
        refine lv_isub X.1 X.2.1 dX4_takeBack_55 ?_
        refine lv_bipush (v := (20 : Int32)) X.1 X.2.1 dX4_takeBack_56 (by decide) ?_
        refine lv_irem X.1 X.2.1 dX4_takeBack_58 (by decide) ?_
        refine pf_X4_23 (i := 0) X V rfl dX4_takeBack_59 (fun H locs V => ?_)
        obtain ⟨z5, ez5⟩ : ∃ y, y = (z4.1, z4.2.1, z4.2.2.1, (((z4.2.2.2.1 + (20 : Int32)) - (1 : Int32)) - ((z4.2.2.2.1 + (20 : Int32)) - (1 : Int32)) / (20 : Int32) * (20 : Int32)), z4.2.2.2.2) := ⟨_, rfl⟩
        replace h := kl_of ez5 h
        have V : kW D AA s.heap H (List.flatten [gX4 g aT z5]) locs := by rw [ez5]; exact V
        refine lv_aload_n X.1 X.2.1 dX4_takeBack_62 rfl (lv_at hl 0 rfl) ?_
        refine lv_dup X.1 X.2.1 dX4_takeBack_63 rfl ?_
        refine gf_X4_40 (i := 0) X V rfl dX4_takeBack_64 ?_
        refine lv_iconst (v := (1 : Int32)) X.1 X.2.1 dX4_takeBack_67 (by decide) ?_
        refine lv_isub X.1 X.2.1 dX4_takeBack_68 ?_
        refine pf_X4_40 (i := 0) X V rfl dX4_takeBack_69 (fun H locs V => ?_)
        obtain ⟨z6, ez6⟩ : ∃ y, y = (z5.1, z5.2.1, z5.2.2.1, z5.2.2.2.1, (z5.2.2.2.2 - (1 : Int32))) := ⟨_, rfl⟩
        replace h := kl_of ez6 h
        have V : kW D AA s.heap H (List.flatten [gX4 g aT z6]) locs := by rw [ez6]; exact V
        refine lv_aload_n X.1 X.2.1 dX4_takeBack_72 rfl (lv_at hl 0 rfl) ?_
        refine gf_X4_40 (i := 0) X V rfl dX4_takeBack_73 ?_
        obtain rfl := Option.some.inj h
        rw [hAA] at V
        rw [hQQ]
        exact k_iret X V rfl dX4_takeBack_76
      · replace h := kif_f hc h
        refine lv_iconst (v := (-1 : Int32)) X.1 X.2.1 dX4_takeBack_23 (by decide) ?_
        obtain rfl := Option.some.inj h
        rw [hAA] at V
        rw [hQQ]
        exact k_iret X V rfl dX4_takeBack_24

def p_X4_deeds (zT : tX4) : Option (Int32) :=
  some zT.2.2.2.2
set_option maxHeartbeats 4000000 in
set_option maxRecDepth 100000 in
theorem c_X4_deeds (l : Launch) (D : va_G) (g : kG) (aT : Nat → Nat) (zT : tX4) (r : Int32) (h : p_X4_deeds zT = some r) : kMi l yX4_deeds cX4_deeds 1 (some .int) (kR 0 0) D (kty g) [.ref (aT 0)] (List.flatten [gX4 g aT zT]) r (List.flatten [gX4 g aT zT]) := by
  intro sz
  refine k_enter (lv := [(0, .ref (aT 0))]) RX4 (by decide +kernel) rfl rfl (Nat.le_of_ble_eq_true rfl) ?_
  intro p en s m args below meth c ls hsz X V hl
  obtain ⟨QQ, hQQ⟩ : ∃ q, q = MQ below (va_Qi (fun r' (_ : Unit) => r' = r) (fun _ => kE D (List.flatten [gX4 g aT zT])) (va_A (List.flatten [gX4 g aT zT]) sz)) args s 0 0 (va_A (List.flatten [gX4 g aT zT]) sz) := ⟨_, rfl⟩
  rw [← hQQ]
  obtain ⟨AA, hAA⟩ : ∃ q, q = va_A (List.flatten [gX4 g aT zT]) sz := ⟨_, rfl⟩
  rw [← hAA] at V
  unfold p_X4_deeds at h
  refine lv_aload_n X.1 X.2.1 dX4_deeds_0 rfl (lv_at hl 0 rfl) ?_
  refine gf_X4_40 (i := 0) X V rfl dX4_deeds_1 ?_
  obtain rfl := Option.some.inj h
  rw [hAA] at V
  rw [hQQ]
  exact k_iret X V rfl dX4_deeds_4
