def p_X12_hull (zT : tX12) (v1 : Int32) (v2 : Int32) : Option (Int32 × tX12) :=
  kif (v2 < (-1 : Int32)) (some ((-1 : Int32), zT)) (kb (p_X12_hasHull zT v1) (fun x1 => kif ((kz x1.1) = 0) (some ((-1 : Int32), x1.2)) (kif (v2 = (-1 : Int32)) (some ((x1.2.1 37), x1.2)) (kif ((x1.2.1 37) ≤ v2) (some ((-1 : Int32), x1.2)) (kg (kii v2 42) (kg (kii ((x1.2.2.2.1 35) v2.toNatClampNeg) 41) (some (((x1.2.2.2.1 14) (((x1.2.2.2.1 35) v2.toNatClampNeg)).toNatClampNeg), x1.2))))))))
set_option maxHeartbeats 4000000 in
set_option maxRecDepth 100000 in
theorem c_X12_hull (l : Launch) (D : va_G) (g : kG) (aT : Nat → Nat) (zT : tX12) (v1 : Int32) (v2 : Int32) (r : Int32 × tX12) (h : p_X12_hull zT v1 v2 = some r) : kMi l yX12_hull cX12_hull 3 (some .int) (kR 4 90) D (kty g) [.ref (aT 0), .int v1, .int v2] (List.flatten [gX12 g aT zT]) r.1 (List.flatten [gX12 g aT r.2]) := by
  intro sz
  refine k_enter (lv := [(0, .ref (aT 0)), (1, .int v1), (2, .int v2)]) RX12 (by decide +kernel) rfl rfl (Nat.le_of_ble_eq_true rfl) ?_
  intro p en s m args below meth c ls hsz X V hl
  obtain ⟨QQ, hQQ⟩ : ∃ q, q = MQ below (va_Qi (fun r' (_ : Unit) => r' = r.1) (fun _ => kE D (List.flatten [gX12 g aT r.2])) (va_A (List.flatten [gX12 g aT zT]) sz)) args s 0 0 (va_A (List.flatten [gX12 g aT zT]) sz) := ⟨_, rfl⟩
  rw [← hQQ]
  obtain ⟨AA, hAA⟩ : ∃ q, q = va_A (List.flatten [gX12 g aT zT]) sz := ⟨_, rfl⟩
  rw [← hAA] at V
  unfold p_X12_hull at h
  refine lv_iload_n X.1 X.2.1 dX12_hull_0 rfl (lv_at hl 2 rfl) ?_
  refine lv_iconst (v := (-1 : Int32)) X.1 X.2.1 dX12_hull_1 (by decide) ?_
  refine lv_icmp_lt (tgt := 13) X.1 X.2.1 dX12_hull_2 (by decide) (fun hc => ?_) (fun hc => ?_)
  · replace h := kif_t hc h
    refine lv_iconst (v := (-1 : Int32)) X.1 X.2.1 dX12_hull_13 (by decide) ?_
    obtain rfl := Option.some.inj h
    rw [hAA] at V
    rw [hQQ]
    exact k_iret X V rfl dX12_hull_14
  · replace h := kif_f hc h
    refine lv_aload_n X.1 X.2.1 dX12_hull_5 rfl (lv_at hl 0 rfl) ?_
    refine lv_iload_n X.1 X.2.1 dX12_hull_6 rfl (lv_at hl 1 rfl) ?_
    obtain ⟨x2, hx2, h⟩ := kb_of h
    refine s_callVi (segs' := [gX12 g aT x2.2]) (ci := 12) (i0 := 0) X V (c_X12_hasHull l D g aT zT v1 x2 hx2) w_X12_326 ⟨Nat.le_of_ble_eq_true rfl, Nat.le_of_ble_eq_true rfl⟩ ⟨Nat.zero_le _, Nat.zero_le _⟩ rfl rfl rfl rfl [0] rfl rfl ⟨gX12_fst, trivial⟩ rfl rfl hl.1 (Nat.le_of_ble_eq_true rfl) dX12_hull_7 (fun H locs V => ?_)
    refine lv_if_ne (tgt := 15) X.1 X.2.1 dX12_hull_10 (by decide) (fun hc => ?_) (fun hc => ?_)
    · replace h := kif_f hc h
      refine lv_iload_n X.1 X.2.1 dX12_hull_15 rfl (lv_at hl 2 rfl) ?_
      refine lv_iconst (v := (-1 : Int32)) X.1 X.2.1 dX12_hull_16 (by decide) ?_
      refine lv_icmp_ne (tgt := 27) X.1 X.2.1 dX12_hull_17 (by decide) (fun hc => ?_) (fun hc => ?_)
      · replace h := kif_f hc h
        refine lv_iload_n X.1 X.2.1 dX12_hull_27 rfl (lv_at hl 2 rfl) ?_
        refine lv_aload_n X.1 X.2.1 dX12_hull_28 rfl (lv_at hl 0 rfl) ?_
        refine gf_X12_320 (i := 0) X V rfl dX12_hull_29 ?_
        refine lv_icmp_ge (tgt := 49) X.1 X.2.1 dX12_hull_32 (by decide) (fun hc => ?_) (fun hc => ?_)
        · replace h := kif_t hc h
          refine lv_iconst (v := (-1 : Int32)) X.1 X.2.1 dX12_hull_49 (by decide) ?_
          obtain rfl := Option.some.inj h
          rw [hAA] at V
          rw [hQQ]
          exact k_iret X V rfl dX12_hull_50
        · replace h := kif_f hc h
          refine lv_aload_n X.1 X.2.1 dX12_hull_35 rfl (lv_at hl 0 rfl) ?_
          refine gf_X12_39 (i := 0) X V rfl dX12_hull_36 ?_
          refine lv_aload_n X.1 X.2.1 dX12_hull_39 rfl (lv_at hl 0 rfl) ?_
          refine gf_X12_54 (i := 0) X V rfl dX12_hull_40 ?_
          refine lv_iload_n X.1 X.2.1 dX12_hull_43 rfl (lv_at hl 2 rfl) ?_
          obtain ⟨hc, h⟩ := kg_of h
          refine al_X12_35 (i := 0) X V rfl hc dX12_hull_44 ?_
          obtain ⟨hc, h⟩ := kg_of h
          refine al_X12_14 (i := 0) X V rfl hc dX12_hull_45 ?_
          refine lv_goto (tgt := 50) X.1 X.2.1 dX12_hull_46 (by decide) ?_
          obtain rfl := Option.some.inj h
          rw [hAA] at V
          rw [hQQ]
          exact k_iret X V rfl dX12_hull_50
      · replace h := kif_t hc h
        refine lv_aload_n X.1 X.2.1 dX12_hull_20 rfl (lv_at hl 0 rfl) ?_
        refine gf_X12_320 (i := 0) X V rfl dX12_hull_21 ?_
        refine lv_goto (tgt := 50) X.1 X.2.1 dX12_hull_24 (by decide) ?_
        obtain rfl := Option.some.inj h
        rw [hAA] at V
        rw [hQQ]
        exact k_iret X V rfl dX12_hull_50
    · replace h := kif_t hc h
      refine lv_iconst (v := (-1 : Int32)) X.1 X.2.1 dX12_hull_13 (by decide) ?_
      obtain rfl := Option.some.inj h
      rw [hAA] at V
      rw [hQQ]
      exact k_iret X V rfl dX12_hull_14

def p_X12_areaNow_L4 (zT : tX12) (s : Int64 × Int32) : Option (Nat × (Int64 × Int32)) :=
  kif ((zT.1 37) ≤ (s.2 + (1 : Int32))) (some (47, (s.1, s.2))) (kg (kii (0 : Int32) 42) (kg (kii s.2 42) (kg (kii (s.2 + (1 : Int32)) 42) (kb (p_X12_turn zT ((zT.2.2.1 35) (0 : Int32).toNatClampNeg) ((zT.2.2.1 35) s.2.toNatClampNeg) ((zT.2.2.1 35) ((s.2 + (1 : Int32))).toNatClampNeg)) (fun x1 => kl (s.1 + x1) (fun y2 => kl (s.2 + (1 : Int32)) (fun y3 => some (4, (y2, y3)))))))))
def p_X12_areaNow (zT : tX12) : Option (Int32) :=
  kb (kitr 4 (fun q => p_X12_areaNow_L4 zT q) kF ((0 : Int64), (1 : Int32))) (fun x4 => kg (x4.1 = 47) (some x4.2.1.toInt32))
set_option maxHeartbeats 4000000 in
set_option maxRecDepth 100000 in
theorem c_X12_areaNow (l : Launch) (D : va_G) (g : kG) (aT : Nat → Nat) (zT : tX12) (r : Int32) (h : p_X12_areaNow zT = some r) : kMi l yX12_areaNow cX12_areaNow 4 (some .int) (kR 1 23) D (kty g) [.ref (aT 0)] (List.flatten [gX12 g aT zT]) r (List.flatten [gX12 g aT zT]) := by
  intro sz
  refine k_enter (lv := [(0, .ref (aT 0))]) RX12 (by decide +kernel) rfl rfl (Nat.le_of_ble_eq_true rfl) ?_
  intro p en s m args below meth c ls hsz X V hl
  obtain ⟨QQ, hQQ⟩ : ∃ q, q = MQ below (va_Qi (fun r' (_ : Unit) => r' = r) (fun _ => kE D (List.flatten [gX12 g aT zT])) (va_A (List.flatten [gX12 g aT zT]) sz)) args s 0 0 (va_A (List.flatten [gX12 g aT zT]) sz) := ⟨_, rfl⟩
  rw [← hQQ]
  obtain ⟨AA, hAA⟩ : ∃ q, q = va_A (List.flatten [gX12 g aT zT]) sz := ⟨_, rfl⟩
  rw [← hAA] at V
  unfold p_X12_areaNow at h
  refine lv_lconst (v := (0 : Int64)) X.1 X.2.1 dX12_areaNow_0 (by decide) ?_
  refine lv_lstore_n (lv' := [(1, .long (0 : Int64)), (0, .ref (aT 0))]) X.1 X.2.1 dX12_areaNow_1 rfl hl (by decide) rfl (fun ls hl => ?_)
  refine lv_iconst (v := (1 : Int32)) X.1 X.2.1 dX12_areaNow_2 (by decide) ?_
  refine lv_istore_n (lv' := [(3, .int (1 : Int32)), (1, .long (0 : Int64)), (0, .ref (aT 0))]) X.1 X.2.1 dX12_areaNow_3 rfl hl (by decide) rfl (fun ls hl => ?_)
  obtain ⟨x5, hx5, h⟩ := kb_of h
  refine (kitr_go (hd := 4) (body := fun q => p_X12_areaNow_L4 zT q) (G := (fun e => ∀ (H : Heap) (locs : List Loc) (ls : Array Slot), kW D AA s.heap H (List.flatten [gX12 g aT zT]) locs → lv_has ls 4 [(0, .ref (aT 0)), (1, .long e.2.1), (3, .int e.2.2)] → W p l en (kR 1 23) s m args below meth c H locs 0 0 QQ (F0 m e.1 ls []))) (fun s6 e7 hb8 hG9 => ?_) kF _ x5 hx5 ?_) _ _ _ V (lv_sub hl [2, 1, 0] rfl)
  · intro H locs ls V hl
    show W p l en (kR 1 23) s m args below meth c H locs 0 0 QQ (F0 m 4 ls [])
    have h : p_X12_areaNow_L4 zT s6 = some e7 := hb8
    unfold p_X12_areaNow_L4 at h
    have V : kW D AA s.heap H (List.flatten [gX12 g aT zT]) locs := V
    have hl : lv_has ls 4 [(0, .ref (aT 0)), (1, .long s6.1), (3, .int s6.2)] := hl
    refine lv_iload_n X.1 X.2.1 dX12_areaNow_4 rfl (lv_at hl 2 rfl) ?_
    refine lv_iconst (v := (1 : Int32)) X.1 X.2.1 dX12_areaNow_5 (by decide) ?_
    refine lv_iadd X.1 X.2.1 dX12_areaNow_6 ?_
    refine lv_aload_n X.1 X.2.1 dX12_areaNow_7 rfl (lv_at hl 0 rfl) ?_
    refine gf_X12_320 (i := 0) X V rfl dX12_areaNow_8 ?_
    refine lv_icmp_ge (tgt := 47) X.1 X.2.1 dX12_areaNow_11 (by decide) (fun hc => ?_) (fun hc => ?_)
    · replace h := kif_t hc h
      obtain rfl := Option.some.inj h
      exact hG9 _ _ _ V (lv_sub hl [0, 1, 2] rfl)
    · replace h := kif_f hc h
      refine lv_lload_n X.1 X.2.1 dX12_areaNow_14 rfl (lv_at hl 1 rfl) ?_
      refine lv_aload_n X.1 X.2.1 dX12_areaNow_15 rfl (lv_at hl 0 rfl) ?_
      refine lv_aload_n X.1 X.2.1 dX12_areaNow_16 rfl (lv_at hl 0 rfl) ?_
      refine gf_X12_54 (i := 0) X V rfl dX12_areaNow_17 ?_
      refine lv_iconst (v := (0 : Int32)) X.1 X.2.1 dX12_areaNow_20 (by decide) ?_
      obtain ⟨hc, h⟩ := kg_of h
      refine al_X12_35 (i := 0) X V rfl hc dX12_areaNow_21 ?_
      refine lv_aload_n X.1 X.2.1 dX12_areaNow_22 rfl (lv_at hl 0 rfl) ?_
      refine gf_X12_54 (i := 0) X V rfl dX12_areaNow_23 ?_
      refine lv_iload_n X.1 X.2.1 dX12_areaNow_26 rfl (lv_at hl 2 rfl) ?_
      obtain ⟨hc, h⟩ := kg_of h
      refine al_X12_35 (i := 0) X V rfl hc dX12_areaNow_27 ?_
      refine lv_aload_n X.1 X.2.1 dX12_areaNow_28 rfl (lv_at hl 0 rfl) ?_
      refine gf_X12_54 (i := 0) X V rfl dX12_areaNow_29 ?_
      refine lv_iload_n X.1 X.2.1 dX12_areaNow_32 rfl (lv_at hl 2 rfl) ?_
      refine lv_iconst (v := (1 : Int32)) X.1 X.2.1 dX12_areaNow_33 (by decide) ?_
      refine lv_iadd X.1 X.2.1 dX12_areaNow_34 ?_
      obtain ⟨hc, h⟩ := kg_of h
      refine al_X12_35 (i := 0) X V rfl hc dX12_areaNow_35 ?_
      obtain ⟨x10, hx10, h⟩ := kb_of h
      refine s_callVl (segs' := [gX12 g aT zT]) (ci := 12) (i0 := 0) X V (c_X12_turn l D g aT zT ((zT.2.2.1 35) (0 : Int32).toNatClampNeg) ((zT.2.2.1 35) s6.2.toNatClampNeg) ((zT.2.2.1 35) ((s6.2 + (1 : Int32))).toNatClampNeg) x10 hx10) w_X12_216 ⟨Nat.le_of_ble_eq_true rfl, Nat.le_of_ble_eq_true rfl⟩ ⟨Nat.zero_le _, Nat.zero_le _⟩ rfl rfl rfl rfl [0] rfl rfl (kFst_refl _) rfl rfl hl.1 (Nat.le_of_ble_eq_true rfl) dX12_areaNow_36 (fun H locs V => ?_)
      refine lv_ladd X.1 X.2.1 dX12_areaNow_39 ?_
      refine lv_topl (fun y11 ey11 => ?_)
      replace h := kl_of ey11 h
      refine lv_lstore_n (lv' := [(1, .long y11), (0, .ref (aT 0)), (3, .int s6.2)]) X.1 X.2.1 dX12_areaNow_40 rfl hl (by decide) rfl (fun ls hl => ?_)
      obtain ⟨y12, ey12⟩ : ∃ y : Int32, y = (s6.2 + (1 : Int32)) := ⟨_, rfl⟩
      replace h := kl_of ey12 h
      refine lv_iinc (v := y12) (lv' := [(3, .int y12), (1, .long y11), (0, .ref (aT 0))]) X.1 X.2.1 dX12_areaNow_41 hl (k := 2) rfl (by rw [ey12]; rfl) (by decide) rfl (fun ls hl => ?_)
      refine lv_goto (tgt := 4) X.1 X.2.1 dX12_areaNow_44 (by decide) ?_
      obtain rfl := Option.some.inj h
      exact hG9 _ _ _ V (lv_sub hl [2, 1, 0] rfl)
  · intro H locs ls V hl
    have V : kW D AA s.heap H (List.flatten [gX12 g aT zT]) locs := V
    have hl : lv_has ls 4 [(0, .ref (aT 0)), (1, .long x5.2.1), (3, .int x5.2.2)] := hl
    obtain ⟨hc, h⟩ := kg_of h
    refine W.eq (g2 := F0 m 47 ls []) (by rw [hc]) ?_
    refine lv_lload_n X.1 X.2.1 dX12_areaNow_47 rfl (lv_at hl 1 rfl) ?_
    refine lv_l2i X.1 X.2.1 dX12_areaNow_48 rfl ?_
    obtain rfl := Option.some.inj h
    rw [hAA] at V
    rw [hQQ]
    exact k_iret X V rfl dX12_areaNow_49

def p_X12_area (zT : tX12) (v1 : Int32) : Option (Int32 × tX12) :=
  kb (p_X12_hasHull zT v1) (fun x1 => kif ((kz x1.1) = 0) (some ((-1 : Int32), x1.2)) (kb (p_X12_areaNow x1.2) (fun x2 => some (x2, x1.2))))
set_option maxHeartbeats 4000000 in
set_option maxRecDepth 100000 in
theorem c_X12_area (l : Launch) (D : va_G) (g : kG) (aT : Nat → Nat) (zT : tX12) (v1 : Int32) (r : Int32 × tX12) (h : p_X12_area zT v1 = some r) : kMi l yX12_area cX12_area 2 (some .int) (kR 4 90) D (kty g) [.ref (aT 0), .int v1] (List.flatten [gX12 g aT zT]) r.1 (List.flatten [gX12 g aT r.2]) := by
  intro sz
  refine k_enter (lv := [(0, .ref (aT 0)), (1, .int v1)]) RX12 (by decide +kernel) rfl rfl (Nat.le_of_ble_eq_true rfl) ?_
  intro p en s m args below meth c ls hsz X V hl
  obtain ⟨QQ, hQQ⟩ : ∃ q, q = MQ below (va_Qi (fun r' (_ : Unit) => r' = r.1) (fun _ => kE D (List.flatten [gX12 g aT r.2])) (va_A (List.flatten [gX12 g aT zT]) sz)) args s 0 0 (va_A (List.flatten [gX12 g aT zT]) sz) := ⟨_, rfl⟩
  rw [← hQQ]
  obtain ⟨AA, hAA⟩ : ∃ q, q = va_A (List.flatten [gX12 g aT zT]) sz := ⟨_, rfl⟩
  rw [← hAA] at V
  unfold p_X12_area at h
  refine lv_aload_n X.1 X.2.1 dX12_area_0 rfl (lv_at hl 0 rfl) ?_
  refine lv_iload_n X.1 X.2.1 dX12_area_1 rfl (lv_at hl 1 rfl) ?_
  obtain ⟨x3, hx3, h⟩ := kb_of h
  refine s_callVi (segs' := [gX12 g aT x3.2]) (ci := 12) (i0 := 0) X V (c_X12_hasHull l D g aT zT v1 x3 hx3) w_X12_326 ⟨Nat.le_of_ble_eq_true rfl, Nat.le_of_ble_eq_true rfl⟩ ⟨Nat.zero_le _, Nat.zero_le _⟩ rfl rfl rfl rfl [0] rfl rfl ⟨gX12_fst, trivial⟩ rfl rfl hl.1 (Nat.le_of_ble_eq_true rfl) dX12_area_2 (fun H locs V => ?_)
  refine lv_if_eq (tgt := 15) X.1 X.2.1 dX12_area_5 (by decide) (fun hc => ?_) (fun hc => ?_)
  · replace h := kif_t hc h
    refine lv_iconst (v := (-1 : Int32)) X.1 X.2.1 dX12_area_15 (by decide) ?_
    obtain rfl := Option.some.inj h
    rw [hAA] at V
    rw [hQQ]
    exact k_iret X V rfl dX12_area_16
  · replace h := kif_f hc h
    refine lv_aload_n X.1 X.2.1 dX12_area_8 rfl (lv_at hl 0 rfl) ?_
    obtain ⟨x4, hx4, h⟩ := kb_of h
    refine s_callVi (segs' := [gX12 g aT x3.2]) (ci := 12) (i0 := 0) X V (c_X12_areaNow l D g aT x3.2 x4 hx4) w_X12_329 ⟨Nat.le_of_ble_eq_true rfl, Nat.le_of_ble_eq_true rfl⟩ ⟨Nat.zero_le _, Nat.zero_le _⟩ rfl rfl rfl rfl [0] rfl rfl (kFst_refl _) rfl rfl hl.1 (Nat.le_of_ble_eq_true rfl) dX12_area_9 (fun H locs V => ?_)
    refine lv_goto (tgt := 16) X.1 X.2.1 dX12_area_12 (by decide) ?_
    obtain rfl := Option.some.inj h
    rw [hAA] at V
    rw [hQQ]
    exact k_iret X V rfl dX12_area_16

def p_X12_layer_L73 (v1 : Int32) (v2 : Int32) (zT : tX12) (v3 : Int32) (v6 : Int32) (s : Int64 × Int32) : Option (Nat × (Int64 × Int32)) :=
  kif ((zT.1 37) ≤ s.2) (some (120, (s.1, s.2))) (kg (kii s.2 42) (kif (((zT.2.2.1 35) s.2.toNatClampNeg) = v3) (some (93, (s.1, s.2))) (kg (kii s.2 42) (kl (s.1 &&& (((1 : Int64) <<< (((zT.2.2.1 35) s.2.toNatClampNeg).toInt64 &&& 63)) ^^^ (-1 : Int64))) (fun y4 => kl (s.2 + (1 : Int32)) (fun y5 => some (73, (y4, y5))))))))
def p_X12_layer_L57 (v1 : Int32) (v2 : Int32) (v3 : Int32) (s : Int64 × Int32 × tX12) : Option (Nat × (Int64 × Int32 × tX12)) :=
  kif ((lg_cmp s.1 (0 : Int64)) = 0) (some (126, (s.1, s.2.1, s.2.2))) (kb (p_X12_layHull s.2.2 s.1) (fun x3 => kb (kitr 73 (fun q => p_X12_layer_L73 v1 v2 x3 v3 s.2.1 q) kF (s.1, (0 : Int32))) (fun x6 => kif (x6.1 = 93) (some (93, (x6.2.1, s.2.1, x3))) (kg (x6.1 = 120) (kl (s.2.1 + (1 : Int32)) (fun y7 => some (57, (x6.2.1, y7, x3))))))))
def p_X12_layer_J47 (v1 : Int32) (v2 : Int32) (zT : tX12) (k47_0 : Int32) : Option (Int32 × tX12) :=
  kb (p_X12_allSpots zT) (fun x2 => kb (kitr 57 (fun q => p_X12_layer_L57 v1 v2 k47_0 q) kF (x2, (0 : Int32), zT)) (fun x8 => kif (x8.1 = 93) (some (x8.2.2.1, x8.2.2.2)) (kg (x8.1 = 126) (some (x8.2.2.1, x8.2.2.2)))))
def p_X12_layer_J14 (v1 : Int32) (v2 : Int32) (zT : tX12) : Option (Int32 × tX12) :=
  kb (p_X12_isLaid zT v1) (fun x1 => kif ((kz x1.1) = 0) (some ((-1 : Int32), x1.2)) (kif (v2 = (-1 : Int32)) (p_X12_layer_J47 v1 v2 x1.2 (-1 : Int32)) (kb (p_X12_standsX x1.2 v2) (fun x9 => kb (p_X12_standsY x1.2 v2) (fun x10 => kb (p_X12_spotAt x1.2 x9 x10) (fun x11 => p_X12_layer_J47 v1 v2 x1.2 x11))))))
def p_X12_layer (zT : tX12) (v1 : Int32) (v2 : Int32) : Option (Int32 × tX12) :=
  kif (v2 = (-1 : Int32)) (p_X12_layer_J14 v1 v2 zT) (kb (p_X12_isOfSet zT v1 v2) (fun x12 => kif ((kz x12) = 0) (some ((-1 : Int32), zT)) (p_X12_layer_J14 v1 v2 zT)))
set_option maxHeartbeats 4000000 in
set_option maxRecDepth 100000 in
theorem c_X12_layer (l : Launch) (D : va_G) (g : kG) (aT : Nat → Nat) (zT : tX12) (v1 : Int32) (v2 : Int32) (r : Int32 × tX12) (h : p_X12_layer zT v1 v2 = some r) : kMi l yX12_layer cX12_layer 8 (some .int) (kR 3 69) D (kty g) [.ref (aT 0), .int v1, .int v2] (List.flatten [gX12 g aT zT]) r.1 (List.flatten [gX12 g aT r.2]) := by
  intro sz
  refine k_enter (lv := [(0, .ref (aT 0)), (1, .int v1), (2, .int v2)]) RX12 (by decide +kernel) rfl rfl (Nat.le_of_ble_eq_true rfl) ?_
  intro p en s m args below meth c ls hsz X V hl
  obtain ⟨QQ, hQQ⟩ : ∃ q, q = MQ below (va_Qi (fun r' (_ : Unit) => r' = r.1) (fun _ => kE D (List.flatten [gX12 g aT r.2])) (va_A (List.flatten [gX12 g aT zT]) sz)) args s 0 0 (va_A (List.flatten [gX12 g aT zT]) sz) := ⟨_, rfl⟩
  rw [← hQQ]
  obtain ⟨AA, hAA⟩ : ∃ q, q = va_A (List.flatten [gX12 g aT zT]) sz := ⟨_, rfl⟩
  rw [← hAA] at V
  have J47 : ∀ (zT : tX12) (k47_0 : Int32) (H : Heap) (locs : List Loc) (ls : Array Slot), p_X12_layer_J47 v1 v2 zT k47_0 = some r → kW D AA s.heap H (List.flatten [gX12 g aT zT]) locs → lv_has ls 8 [(0, .ref (aT 0))] → W p l en (kR 3 69) s m args below meth c H locs 0 0 QQ (F0 m 47 ls [.int k47_0]) := by
    intro zT k47_0 H locs ls h V hl
    unfold p_X12_layer_J47 at h
    refine lv_istore_n (lv' := [(3, .int k47_0), (0, .ref (aT 0))]) X.1 X.2.1 dX12_layer_47 rfl hl (by decide) rfl (fun ls hl => ?_)
    refine lv_aload_n X.1 X.2.1 dX12_layer_48 rfl (lv_at hl 1 rfl) ?_
    obtain ⟨x13, hx13, h⟩ := kb_of h
    refine s_callVl (segs' := [gX12 g aT zT]) (ci := 12) (i0 := 0) X V (c_X12_allSpots l D g aT zT x13 hx13) w_X12_281 ⟨Nat.le_of_ble_eq_true rfl, Nat.le_of_ble_eq_true rfl⟩ ⟨Nat.zero_le _, Nat.zero_le _⟩ rfl rfl rfl rfl [0] rfl rfl (kFst_refl _) rfl rfl hl.1 (Nat.le_of_ble_eq_true rfl) dX12_layer_49 (fun H locs V => ?_)
    refine lv_lstore (lv' := [(4, .long x13), (3, .int k47_0), (0, .ref (aT 0))]) X.1 X.2.1 dX12_layer_52 hl (by decide) rfl (fun ls hl => ?_)
    refine lv_iconst (v := (0 : Int32)) X.1 X.2.1 dX12_layer_54 (by decide) ?_
    refine lv_istore (lv' := [(6, .int (0 : Int32)), (4, .long x13), (3, .int k47_0), (0, .ref (aT 0))]) X.1 X.2.1 dX12_layer_55 hl (by decide) rfl (fun ls hl => ?_)
    obtain ⟨x14, hx14, h⟩ := kb_of h
    refine (kitr_go (hd := 57) (body := fun q => p_X12_layer_L57 v1 v2 k47_0 q) (G := (fun e => ∀ (H : Heap) (locs : List Loc) (ls : Array Slot), kW D AA s.heap H (List.flatten [gX12 g aT e.2.2.2]) locs → lv_has ls 8 [(0, .ref (aT 0)), (3, .int k47_0), (4, .long e.2.1), (6, .int e.2.2.1)] → W p l en (kR 3 69) s m args below meth c H locs 0 0 QQ (F0 m e.1 ls []))) (fun s15 e16 hb17 hG18 => ?_) kF _ x14 hx14 ?_) _ _ _ V (lv_sub hl [3, 2, 1, 0] rfl)
    · intro H locs ls V hl
      show W p l en (kR 3 69) s m args below meth c H locs 0 0 QQ (F0 m 57 ls [])
      have h : p_X12_layer_L57 v1 v2 k47_0 s15 = some e16 := hb17
      unfold p_X12_layer_L57 at h
      have V : kW D AA s.heap H (List.flatten [gX12 g aT s15.2.2]) locs := V
      have hl : lv_has ls 8 [(0, .ref (aT 0)), (3, .int k47_0), (4, .long s15.1), (6, .int s15.2.1)] := hl
      refine lv_lload X.1 X.2.1 dX12_layer_57 (lv_at hl 2 rfl) ?_
      refine lv_lconst (v := (0 : Int64)) X.1 X.2.1 dX12_layer_59 (by decide) ?_
      refine W.lcmp X.1 X.2.1 dX12_layer_60 ?_
      refine lv_if_eq (tgt := 126) X.1 X.2.1 dX12_layer_61 (by decide) (fun hc => ?_) (fun hc => ?_)
      · replace h := kif_t hc h
        obtain rfl := Option.some.inj h
        exact hG18 _ _ _ V (lv_sub hl [0, 1, 2, 3] rfl)
      · replace h := kif_f hc h
        refine lv_aload_n X.1 X.2.1 dX12_layer_64 rfl (lv_at hl 0 rfl) ?_
        refine lv_lload X.1 X.2.1 dX12_layer_65 (lv_at hl 2 rfl) ?_
        obtain ⟨x19, hx19, h⟩ := kb_of h
        refine s_callVv (segs' := [gX12 g aT x19]) (ci := 12) (i0 := 0) X V (c_X12_layHull l D g aT s15.2.2 s15.1 x19 hx19) w_X12_323 ⟨Nat.le_of_ble_eq_true rfl, Nat.le_of_ble_eq_true rfl⟩ ⟨Nat.zero_le _, Nat.zero_le _⟩ rfl rfl rfl rfl [0] rfl rfl ⟨gX12_fst, trivial⟩ rfl rfl hl.1 (Nat.le_of_ble_eq_true rfl) dX12_layer_67 (fun H locs V => ?_)
        refine lv_iconst (v := (0 : Int32)) X.1 X.2.1 dX12_layer_70 (by decide) ?_
        refine lv_istore (lv' := [(7, .int (0 : Int32)), (0, .ref (aT 0)), (3, .int k47_0), (4, .long s15.1), (6, .int s15.2.1)]) X.1 X.2.1 dX12_layer_71 hl (by decide) rfl (fun ls hl => ?_)
        obtain ⟨x20, hx20, h⟩ := kb_of h
        refine (kitr_go (hd := 73) (body := fun q => p_X12_layer_L73 v1 v2 x19 k47_0 s15.2.1 q) (G := (fun e => ∀ (H : Heap) (locs : List Loc) (ls : Array Slot), kW D AA s.heap H (List.flatten [gX12 g aT x19]) locs → lv_has ls 8 [(0, .ref (aT 0)), (3, .int k47_0), (4, .long e.2.1), (6, .int s15.2.1), (7, .int e.2.2)] → W p l en (kR 3 69) s m args below meth c H locs 0 0 QQ (F0 m e.1 ls []))) (fun s21 e22 hb23 hG24 => ?_) kF _ x20 hx20 ?_) _ _ _ V (lv_sub hl [1, 2, 3, 4, 0] rfl)
        · intro H locs ls V hl
          show W p l en (kR 3 69) s m args below meth c H locs 0 0 QQ (F0 m 73 ls [])
          have h : p_X12_layer_L73 v1 v2 x19 k47_0 s15.2.1 s21 = some e22 := hb23
          unfold p_X12_layer_L73 at h
          have V : kW D AA s.heap H (List.flatten [gX12 g aT x19]) locs := V
          have hl : lv_has ls 8 [(0, .ref (aT 0)), (3, .int k47_0), (4, .long s21.1), (6, .int s15.2.1), (7, .int s21.2)] := hl
          refine lv_iload X.1 X.2.1 dX12_layer_73 (lv_at hl 4 rfl) ?_
          refine lv_aload_n X.1 X.2.1 dX12_layer_75 rfl (lv_at hl 0 rfl) ?_
          refine gf_X12_320 (i := 0) X V rfl dX12_layer_76 ?_
          refine lv_icmp_ge (tgt := 120) X.1 X.2.1 dX12_layer_79 (by decide) (fun hc => ?_) (fun hc => ?_)
          · replace h := kif_t hc h
            obtain rfl := Option.some.inj h
            exact hG24 _ _ _ V (lv_sub hl [0, 1, 2, 3, 4] rfl)
          · replace h := kif_f hc h
            refine lv_aload_n X.1 X.2.1 dX12_layer_82 rfl (lv_at hl 0 rfl) ?_
            refine gf_X12_54 (i := 0) X V rfl dX12_layer_83 ?_
            refine lv_iload X.1 X.2.1 dX12_layer_86 (lv_at hl 4 rfl) ?_
            obtain ⟨hc, h⟩ := kg_of h
            refine al_X12_35 (i := 0) X V rfl hc dX12_layer_88 ?_
            refine lv_iload_n X.1 X.2.1 dX12_layer_89 rfl (lv_at hl 1 rfl) ?_
            refine lv_icmp_ne (tgt := 96) X.1 X.2.1 dX12_layer_90 (by decide) (fun hc => ?_) (fun hc => ?_)
            · replace h := kif_f hc h
              refine lv_lload X.1 X.2.1 dX12_layer_96 (lv_at hl 2 rfl) ?_
              refine lv_lconst (v := (1 : Int64)) X.1 X.2.1 dX12_layer_98 (by decide) ?_
              refine lv_aload_n X.1 X.2.1 dX12_layer_99 rfl (lv_at hl 0 rfl) ?_
              refine gf_X12_54 (i := 0) X V rfl dX12_layer_100 ?_
              refine lv_iload X.1 X.2.1 dX12_layer_103 (lv_at hl 4 rfl) ?_
              obtain ⟨hc, h⟩ := kg_of h
              refine al_X12_35 (i := 0) X V rfl hc dX12_layer_105 ?_
              refine lv_lshl X.1 X.2.1 dX12_layer_106 rfl ?_
              refine lv_ldc2 (v := (-1 : Int64)) X.1 X.2.1 X.2.2.2.1 (X.2.2.2.2.1 _ kc_X12_220) dX12_layer_107 ?_
              refine lv_lxor X.1 X.2.1 dX12_layer_110 ?_
              refine lv_land X.1 X.2.1 dX12_layer_111 ?_
              refine lv_topl (fun y25 ey25 => ?_)
              replace h := kl_of ey25 h
              refine lv_lstore (lv' := [(4, .long y25), (0, .ref (aT 0)), (3, .int k47_0), (6, .int s15.2.1), (7, .int s21.2)]) X.1 X.2.1 dX12_layer_112 hl (by decide) rfl (fun ls hl => ?_)
              obtain ⟨y26, ey26⟩ : ∃ y : Int32, y = (s21.2 + (1 : Int32)) := ⟨_, rfl⟩
              replace h := kl_of ey26 h
              refine lv_iinc (v := y26) (lv' := [(7, .int y26), (4, .long y25), (0, .ref (aT 0)), (3, .int k47_0), (6, .int s15.2.1)]) X.1 X.2.1 dX12_layer_114 hl (k := 4) rfl (by rw [ey26]; rfl) (by decide) rfl (fun ls hl => ?_)
              refine lv_goto (tgt := 73) X.1 X.2.1 dX12_layer_117 (by decide) ?_
              obtain rfl := Option.some.inj h
              exact hG24 _ _ _ V (lv_sub hl [2, 3, 1, 4, 0] rfl)
            · replace h := kif_t hc h
              obtain rfl := Option.some.inj h
              exact hG24 _ _ _ V (lv_sub hl [0, 1, 2, 3, 4] rfl)
        · intro H locs ls V hl
          have V : kW D AA s.heap H (List.flatten [gX12 g aT x19]) locs := V
          have hl : lv_has ls 8 [(0, .ref (aT 0)), (3, .int k47_0), (4, .long x20.2.1), (6, .int s15.2.1), (7, .int x20.2.2)] := hl
          by_cases hc : x20.1 = 93
          · replace h := kif_t hc h
            refine W.eq (g2 := F0 m 93 ls []) (by rw [hc]) ?_
            obtain rfl := Option.some.inj h
            exact hG18 _ _ _ V (lv_sub hl [0, 1, 2, 3] rfl)
          · replace h := kif_f hc h
            obtain ⟨hc, h⟩ := kg_of h
            refine W.eq (g2 := F0 m 120 ls []) (by rw [hc]) ?_
            obtain ⟨y27, ey27⟩ : ∃ y : Int32, y = (s15.2.1 + (1 : Int32)) := ⟨_, rfl⟩
            replace h := kl_of ey27 h
            refine lv_iinc (v := y27) (lv' := [(6, .int y27), (0, .ref (aT 0)), (3, .int k47_0), (4, .long x20.2.1), (7, .int x20.2.2)]) X.1 X.2.1 dX12_layer_120 hl (k := 3) rfl (by rw [ey27]; rfl) (by decide) rfl (fun ls hl => ?_)
            refine lv_goto (tgt := 57) X.1 X.2.1 dX12_layer_123 (by decide) ?_
            obtain rfl := Option.some.inj h
            exact hG18 _ _ _ V (lv_sub hl [1, 2, 3, 0] rfl)
    · intro H locs ls V hl
      have V : kW D AA s.heap H (List.flatten [gX12 g aT x14.2.2.2]) locs := V
      have hl : lv_has ls 8 [(0, .ref (aT 0)), (3, .int k47_0), (4, .long x14.2.1), (6, .int x14.2.2.1)] := hl
      by_cases hc : x14.1 = 93
      · replace h := kif_t hc h
        refine W.eq (g2 := F0 m 93 ls []) (by rw [hc]) ?_
        refine lv_iload X.1 X.2.1 dX12_layer_93 (lv_at hl 3 rfl) ?_
        obtain rfl := Option.some.inj h
        rw [hAA] at V
        rw [hQQ]
        exact k_iret X V rfl dX12_layer_95
      · replace h := kif_f hc h
        obtain ⟨hc, h⟩ := kg_of h
        refine W.eq (g2 := F0 m 126 ls []) (by rw [hc]) ?_
        refine lv_iload X.1 X.2.1 dX12_layer_126 (lv_at hl 3 rfl) ?_
        obtain rfl := Option.some.inj h
        rw [hAA] at V
        rw [hQQ]
        exact k_iret X V rfl dX12_layer_128
  have J14 : ∀ (zT : tX12) (H : Heap) (locs : List Loc) (ls : Array Slot), p_X12_layer_J14 v1 v2 zT = some r → kW D AA s.heap H (List.flatten [gX12 g aT zT]) locs → lv_has ls 8 [(0, .ref (aT 0)), (1, .int v1), (2, .int v2)] → W p l en (kR 3 69) s m args below meth c H locs 0 0 QQ (F0 m 14 ls []) := by
    intro zT H locs ls h V hl
    unfold p_X12_layer_J14 at h
    refine lv_aload_n X.1 X.2.1 dX12_layer_14 rfl (lv_at hl 0 rfl) ?_
    refine lv_iload_n X.1 X.2.1 dX12_layer_15 rfl (lv_at hl 1 rfl) ?_
    obtain ⟨x28, hx28, h⟩ := kb_of h
    refine s_callVi (segs' := [gX12 g aT x28.2]) (ci := 12) (i0 := 0) X V (c_X12_isLaid l D g aT zT v1 x28 hx28) w_X12_173 ⟨Nat.le_of_ble_eq_true rfl, Nat.le_of_ble_eq_true rfl⟩ ⟨Nat.zero_le _, Nat.zero_le _⟩ rfl rfl rfl rfl [0] rfl rfl ⟨gX12_fst, trivial⟩ rfl rfl hl.1 (Nat.le_of_ble_eq_true rfl) dX12_layer_16 (fun H locs V => ?_)
    refine lv_if_ne (tgt := 24) X.1 X.2.1 dX12_layer_19 (by decide) (fun hc => ?_) (fun hc => ?_)
    · replace h := kif_f hc h
      refine lv_iload_n X.1 X.2.1 dX12_layer_24 rfl (lv_at hl 2 rfl) ?_
      refine lv_iconst (v := (-1 : Int32)) X.1 X.2.1 dX12_layer_25 (by decide) ?_
      refine lv_icmp_ne (tgt := 33) X.1 X.2.1 dX12_layer_26 (by decide) (fun hc => ?_) (fun hc => ?_)
      · replace h := kif_f hc h
        refine lv_aload_n X.1 X.2.1 dX12_layer_33 rfl (lv_at hl 0 rfl) ?_
        refine lv_aload_n X.1 X.2.1 dX12_layer_34 rfl (lv_at hl 0 rfl) ?_
        refine lv_iload_n X.1 X.2.1 dX12_layer_35 rfl (lv_at hl 2 rfl) ?_
        obtain ⟨x29, hx29, h⟩ := kb_of h
        refine s_callVi (segs' := [gX12 g aT x28.2]) (ci := 12) (i0 := 0) X V (c_X12_standsX l D g aT x28.2 v2 x29 hx29) w_X12_116 ⟨Nat.le_of_ble_eq_true rfl, Nat.le_of_ble_eq_true rfl⟩ ⟨Nat.zero_le _, Nat.zero_le _⟩ rfl rfl rfl rfl [0] rfl rfl (kFst_refl _) rfl rfl hl.1 (Nat.le_of_ble_eq_true rfl) dX12_layer_36 (fun H locs V => ?_)
        refine lv_aload_n X.1 X.2.1 dX12_layer_39 rfl (lv_at hl 0 rfl) ?_
        refine lv_iload_n X.1 X.2.1 dX12_layer_40 rfl (lv_at hl 2 rfl) ?_
        obtain ⟨x30, hx30, h⟩ := kb_of h
        refine s_callVi (segs' := [gX12 g aT x28.2]) (ci := 12) (i0 := 0) X V (c_X12_standsY l D g aT x28.2 v2 x30 hx30) w_X12_119 ⟨Nat.le_of_ble_eq_true rfl, Nat.le_of_ble_eq_true rfl⟩ ⟨Nat.zero_le _, Nat.zero_le _⟩ rfl rfl rfl rfl [0] rfl rfl (kFst_refl _) rfl rfl hl.1 (Nat.le_of_ble_eq_true rfl) dX12_layer_41 (fun H locs V => ?_)
        obtain ⟨x31, hx31, h⟩ := kb_of h
        refine s_callVi (segs' := [gX12 g aT x28.2]) (ci := 12) (i0 := 0) X V (c_X12_spotAt l D g aT x28.2 x29 x30 x31 hx31) w_X12_314 ⟨Nat.le_of_ble_eq_true rfl, Nat.le_of_ble_eq_true rfl⟩ ⟨Nat.zero_le _, Nat.zero_le _⟩ rfl rfl rfl rfl [0] rfl rfl (kFst_refl _) rfl rfl hl.1 (Nat.le_of_ble_eq_true rfl) dX12_layer_44 (fun H locs V => ?_)
        exact J47 x28.2 x31 _ _ _ h V (lv_sub hl [0] rfl)
      · replace h := kif_t hc h
        refine lv_iconst (v := (-1 : Int32)) X.1 X.2.1 dX12_layer_29 (by decide) ?_
        refine lv_goto (tgt := 47) X.1 X.2.1 dX12_layer_30 (by decide) ?_
        exact J47 x28.2 (-1 : Int32) _ _ _ h V (lv_sub hl [0] rfl)
    · replace h := kif_t hc h
      refine lv_iconst (v := (-1 : Int32)) X.1 X.2.1 dX12_layer_22 (by decide) ?_
      obtain rfl := Option.some.inj h
      rw [hAA] at V
      rw [hQQ]
      exact k_iret X V rfl dX12_layer_23
  unfold p_X12_layer at h
  refine lv_iload_n X.1 X.2.1 dX12_layer_0 rfl (lv_at hl 2 rfl) ?_
  refine lv_iconst (v := (-1 : Int32)) X.1 X.2.1 dX12_layer_1 (by decide) ?_
  refine lv_icmp_eq (tgt := 14) X.1 X.2.1 dX12_layer_2 (by decide) (fun hc => ?_) (fun hc => ?_)
  · replace h := kif_t hc h
    exact J14 zT _ _ _ h V (lv_sub hl [0, 1, 2] rfl)
  · replace h := kif_f hc h
    refine lv_aload_n X.1 X.2.1 dX12_layer_5 rfl (lv_at hl 0 rfl) ?_
    refine lv_iload_n X.1 X.2.1 dX12_layer_6 rfl (lv_at hl 1 rfl) ?_
    refine lv_iload_n X.1 X.2.1 dX12_layer_7 rfl (lv_at hl 2 rfl) ?_
    obtain ⟨x32, hx32, h⟩ := kb_of h
    refine s_callVi (segs' := [gX12 g aT zT]) (ci := 12) (i0 := 0) X V (c_X12_isOfSet l D g aT zT v1 v2 x32 hx32) w_X12_311 ⟨Nat.le_of_ble_eq_true rfl, Nat.le_of_ble_eq_true rfl⟩ ⟨Nat.zero_le _, Nat.zero_le _⟩ rfl rfl rfl rfl [0] rfl rfl (kFst_refl _) rfl rfl hl.1 (Nat.le_of_ble_eq_true rfl) dX12_layer_8 (fun H locs V => ?_)
    refine lv_if_eq (tgt := 22) X.1 X.2.1 dX12_layer_11 (by decide) (fun hc => ?_) (fun hc => ?_)
    · replace h := kif_t hc h
      refine lv_iconst (v := (-1 : Int32)) X.1 X.2.1 dX12_layer_22 (by decide) ?_
      obtain rfl := Option.some.inj h
      rw [hAA] at V
      rw [hQQ]
      exact k_iret X V rfl dX12_layer_23
    · replace h := kif_f hc h
      exact J14 zT _ _ _ h V (lv_sub hl [0, 1, 2] rfl)

def p_X12_measure_J169_64 (v1 : Int32) (zT : tX12) (v2 : Int32) (v3 : Int32) (v4 : Int64) (v6 : Int64) (v10 : Int64) (v12 : Int32) (v16 : Int64) (k169_0 : Int64) : Option (Nat × (Int64 × Int64 × Int32 × tX12)) :=
  kif ((lg_cmp v16 v10) ≤ 0) (kl (v12 + (1 : Int32)) (fun y11 => some (64, (k169_0, v10, y11, zT)))) (kl (v12 + (1 : Int32)) (fun y12 => some (64, (k169_0, v16, y12, zT))))
def p_X12_measure_J151_64 (v1 : Int32) (zT : tX12) (v2 : Int32) (v3 : Int32) (v4 : Int64) (v6 : Int64) (v8 : Int64) (v10 : Int64) (v12 : Int32) (v16 : Int64) (k151_1 : Int64) : Option (Nat × (Int64 × Int64 × Int32 × tX12)) :=
  kl (zT.1, va_up zT.2.1 38 k151_1, zT.2.2) (fun z10 => kif (0 ≤ (lg_cmp v16 v8)) (p_X12_measure_J169_64 v1 z10 v2 v3 v4 v6 v10 v12 v16 v8) (p_X12_measure_J169_64 v1 z10 v2 v3 v4 v6 v10 v12 v16 v16))
def p_X12_measure_L64 (v1 : Int32) (v2 : Int32) (v3 : Int32) (v4 : Int64) (v6 : Int64) (s : Int64 × Int64 × Int32 × tX12) : Option (Nat × (Int64 × Int64 × Int32 × tX12)) :=
  kif ((s.2.2.2.1 37) ≤ s.2.2.1) (some (194, (s.1, s.2.1, s.2.2.1, s.2.2.2))) (kg (kii s.2.2.1 42) (kl ((s.2.2.2.2.2.1 35) s.2.2.1.toNatClampNeg) (fun y7 => kb (p_X12_turn s.2.2.2 v2 v3 y7) (fun x8 => kg (kii y7 41) (kg (kii v2 41) (kg (kii y7 41) (kg (kii v2 41) (kl ((v4 * ((((s.2.2.2.2.2.1 12) y7.toNatClampNeg) - ((s.2.2.2.2.2.1 12) v2.toNatClampNeg))).toInt64) + (v6 * ((((s.2.2.2.2.2.1 13) y7.toNatClampNeg) - ((s.2.2.2.2.2.1 13) v2.toNatClampNeg))).toInt64)) (fun y9 => kif ((lg_cmp x8 (s.2.2.2.2.1 38)) ≤ 0) (p_X12_measure_J151_64 v1 s.2.2.2 v2 v3 v4 v6 s.1 s.2.1 s.2.2.1 y9 (s.2.2.2.2.1 38)) (p_X12_measure_J151_64 v1 s.2.2.2 v2 v3 v4 v6 s.1 s.2.1 s.2.2.1 y9 x8))))))))))
def p_X12_measure (zT : tX12) (v1 : Int32) : Option (tX12) :=
  kg (kii v1 42) (kl ((zT.2.2.1 35) v1.toNatClampNeg) (fun y1 => kb (p_X12_after zT v1) (fun x2 => kg (kii x2 42) (kl ((zT.2.2.1 35) x2.toNatClampNeg) (fun y3 => kg (kii y3 41) (kg (kii y1 41) (kl ((((zT.2.2.1 12) y3.toNatClampNeg) - ((zT.2.2.1 12) y1.toNatClampNeg))).toInt64 (fun y4 => kg (kii y3 41) (kg (kii y1 41) (kl ((((zT.2.2.1 13) y3.toNatClampNeg) - ((zT.2.2.1 13) y1.toNatClampNeg))).toInt64 (fun y5 => kl (zT.1, va_up zT.2.1 38 (0 : Int64), zT.2.2) (fun z6 => kb (kitr 64 (fun q => p_X12_measure_L64 v1 y1 y3 y4 y5 q) kF ((0 : Int64), (0 : Int64), (0 : Int32), z6)) (fun x13 => kg (x13.1 = 194) (kl (x13.2.2.2.2.1, va_up x13.2.2.2.2.2.1 39 (x13.2.2.1 - x13.2.1), x13.2.2.2.2.2.2) (fun z14 => kl (z14.1, va_up z14.2.1 40 ((y4 * y4) + (y5 * y5)), z14.2.2) (fun z15 => some z15))))))))))))))))
set_option maxHeartbeats 4000000 in
set_option maxRecDepth 100000 in
theorem c_X12_measure (l : Launch) (D : va_G) (g : kG) (aT : Nat → Nat) (zT : tX12) (v1 : Int32) (r : tX12) (h : p_X12_measure zT v1 = some r) : kMv l yX12_measure cX12_measure 18 none (kR 1 23) D (kty g) [.ref (aT 0), .int v1] (List.flatten [gX12 g aT zT]) (List.flatten [gX12 g aT r]) := by
  intro sz
  refine k_enter (lv := [(0, .ref (aT 0)), (1, .int v1)]) RX12 (by decide +kernel) rfl rfl (Nat.le_of_ble_eq_true rfl) ?_
  intro p en s m args below meth c ls hsz X V hl
  obtain ⟨QQ, hQQ⟩ : ∃ q, q = MQ below (va_Qv (fun (_ : Unit) => True) (fun _ => kE D (List.flatten [gX12 g aT r])) (va_A (List.flatten [gX12 g aT zT]) sz)) args s 0 0 (va_A (List.flatten [gX12 g aT zT]) sz) := ⟨_, rfl⟩
  rw [← hQQ]
  obtain ⟨AA, hAA⟩ : ∃ q, q = va_A (List.flatten [gX12 g aT zT]) sz := ⟨_, rfl⟩
  rw [← hAA] at V
  unfold p_X12_measure at h
  refine lv_aload_n X.1 X.2.1 dX12_measure_0 rfl (lv_at hl 0 rfl) ?_
  refine gf_X12_54 (i := 0) X V rfl dX12_measure_1 ?_
  refine lv_iload_n X.1 X.2.1 dX12_measure_4 rfl (lv_at hl 1 rfl) ?_
  obtain ⟨hc, h⟩ := kg_of h
  refine al_X12_35 (i := 0) X V rfl hc dX12_measure_5 ?_
  refine lv_topi (fun y16 ey16 => ?_)
  replace h := kl_of ey16 h
  refine lv_istore_n (lv' := [(2, .int y16), (0, .ref (aT 0)), (1, .int v1)]) X.1 X.2.1 dX12_measure_6 rfl hl (by decide) rfl (fun ls hl => ?_)
  refine lv_aload_n X.1 X.2.1 dX12_measure_7 rfl (lv_at hl 1 rfl) ?_
  refine gf_X12_54 (i := 0) X V rfl dX12_measure_8 ?_
  refine lv_aload_n X.1 X.2.1 dX12_measure_11 rfl (lv_at hl 1 rfl) ?_
  refine lv_iload_n X.1 X.2.1 dX12_measure_12 rfl (lv_at hl 2 rfl) ?_
  obtain ⟨x17, hx17, h⟩ := kb_of h
  refine s_callVi (segs' := [gX12 g aT zT]) (ci := 12) (i0 := 0) X V (c_X12_after l D g aT zT v1 x17 hx17) w_X12_332 ⟨Nat.le_of_ble_eq_true rfl, Nat.le_of_ble_eq_true rfl⟩ ⟨Nat.zero_le _, Nat.zero_le _⟩ rfl rfl rfl rfl [0] rfl rfl (kFst_refl _) rfl rfl hl.1 (Nat.le_of_ble_eq_true rfl) dX12_measure_13 (fun H locs V => ?_)
  obtain ⟨hc, h⟩ := kg_of h
  refine al_X12_35 (i := 0) X V rfl hc dX12_measure_16 ?_
  refine lv_topi (fun y18 ey18 => ?_)
  replace h := kl_of ey18 h
  refine lv_istore_n (lv' := [(3, .int y18), (2, .int y16), (0, .ref (aT 0)), (1, .int v1)]) X.1 X.2.1 dX12_measure_17 rfl hl (by decide) rfl (fun ls hl => ?_)
  refine lv_aload_n X.1 X.2.1 dX12_measure_18 rfl (lv_at hl 2 rfl) ?_
  refine gf_X12_33 (i := 0) X V rfl dX12_measure_19 ?_
  refine lv_iload_n X.1 X.2.1 dX12_measure_22 rfl (lv_at hl 0 rfl) ?_
  obtain ⟨hc, h⟩ := kg_of h
  refine al_X12_12 (i := 0) X V rfl hc dX12_measure_23 ?_
  refine lv_aload_n X.1 X.2.1 dX12_measure_24 rfl (lv_at hl 2 rfl) ?_
  refine gf_X12_33 (i := 0) X V rfl dX12_measure_25 ?_
  refine lv_iload_n X.1 X.2.1 dX12_measure_28 rfl (lv_at hl 1 rfl) ?_
  obtain ⟨hc, h⟩ := kg_of h
  refine al_X12_12 (i := 0) X V rfl hc dX12_measure_29 ?_
  refine lv_isub X.1 X.2.1 dX12_measure_30 ?_
  refine lv_i2l X.1 X.2.1 dX12_measure_31 rfl ?_
  refine lv_topl (fun y19 ey19 => ?_)
  replace h := kl_of ey19 h
  refine lv_lstore (lv' := [(4, .long y19), (3, .int y18), (2, .int y16), (0, .ref (aT 0)), (1, .int v1)]) X.1 X.2.1 dX12_measure_32 hl (by decide) rfl (fun ls hl => ?_)
  refine lv_aload_n X.1 X.2.1 dX12_measure_34 rfl (lv_at hl 3 rfl) ?_
  refine gf_X12_36 (i := 0) X V rfl dX12_measure_35 ?_
  refine lv_iload_n X.1 X.2.1 dX12_measure_38 rfl (lv_at hl 1 rfl) ?_
  obtain ⟨hc, h⟩ := kg_of h
  refine al_X12_13 (i := 0) X V rfl hc dX12_measure_39 ?_
  refine lv_aload_n X.1 X.2.1 dX12_measure_40 rfl (lv_at hl 3 rfl) ?_
  refine gf_X12_36 (i := 0) X V rfl dX12_measure_41 ?_
  refine lv_iload_n X.1 X.2.1 dX12_measure_44 rfl (lv_at hl 2 rfl) ?_
  obtain ⟨hc, h⟩ := kg_of h
  refine al_X12_13 (i := 0) X V rfl hc dX12_measure_45 ?_
  refine lv_isub X.1 X.2.1 dX12_measure_46 ?_
  refine lv_i2l X.1 X.2.1 dX12_measure_47 rfl ?_
  refine lv_topl (fun y20 ey20 => ?_)
  replace h := kl_of ey20 h
  refine lv_lstore (lv' := [(6, .long y20), (4, .long y19), (3, .int y18), (2, .int y16), (0, .ref (aT 0)), (1, .int v1)]) X.1 X.2.1 dX12_measure_48 hl (by decide) rfl (fun ls hl => ?_)
  refine lv_lconst (v := (0 : Int64)) X.1 X.2.1 dX12_measure_50 (by decide) ?_
  refine lv_lstore (lv' := [(8, .long (0 : Int64)), (6, .long y20), (4, .long y19), (3, .int y18), (2, .int y16), (0, .ref (aT 0)), (1, .int v1)]) X.1 X.2.1 dX12_measure_51 hl (by decide) rfl (fun ls hl => ?_)
  refine lv_lconst (v := (0 : Int64)) X.1 X.2.1 dX12_measure_53 (by decide) ?_
  refine lv_lstore (lv' := [(10, .long (0 : Int64)), (8, .long (0 : Int64)), (6, .long y20), (4, .long y19), (3, .int y18), (2, .int y16), (0, .ref (aT 0)), (1, .int v1)]) X.1 X.2.1 dX12_measure_54 hl (by decide) rfl (fun ls hl => ?_)
  refine lv_aload_n X.1 X.2.1 dX12_measure_56 rfl (lv_at hl 6 rfl) ?_
  refine lv_lconst (v := (0 : Int64)) X.1 X.2.1 dX12_measure_57 (by decide) ?_
  refine pf_X12_335 (i := 0) X V rfl dX12_measure_58 (fun H locs V => ?_)
  obtain ⟨z21, ez21⟩ : ∃ y, y = (zT.1, va_up zT.2.1 38 (0 : Int64), zT.2.2) := ⟨_, rfl⟩
  replace h := kl_of ez21 h
  have V : kW D AA s.heap H (List.flatten [gX12 g aT z21]) locs := by rw [ez21]; exact V
  refine lv_iconst (v := (0 : Int32)) X.1 X.2.1 dX12_measure_61 (by decide) ?_
  refine lv_istore (lv' := [(12, .int (0 : Int32)), (10, .long (0 : Int64)), (8, .long (0 : Int64)), (6, .long y20), (4, .long y19), (3, .int y18), (2, .int y16), (0, .ref (aT 0)), (1, .int v1)]) X.1 X.2.1 dX12_measure_62 hl (by decide) rfl (fun ls hl => ?_)
  obtain ⟨x22, hx22, h⟩ := kb_of h
  refine (kitr_go (hd := 64) (body := fun q => p_X12_measure_L64 v1 y16 y18 y19 y20 q) (G := (fun e => ∀ (H : Heap) (locs : List Loc) (ls : Array Slot), kW D AA s.heap H (List.flatten [gX12 g aT e.2.2.2.2]) locs → lv_has ls 18 [(0, .ref (aT 0)), (2, .int y16), (3, .int y18), (4, .long y19), (6, .long y20), (8, .long e.2.1), (10, .long e.2.2.1), (12, .int e.2.2.2.1)] → W p l en (kR 1 23) s m args below meth c H locs 0 0 QQ (F0 m e.1 ls []))) (fun s23 e24 hb25 hG26 => ?_) kF _ x22 hx22 ?_) _ _ _ V (lv_sub hl [7, 6, 5, 4, 3, 2, 1, 0] rfl)
  · intro H locs ls V hl
    show W p l en (kR 1 23) s m args below meth c H locs 0 0 QQ (F0 m 64 ls [])
    have h : p_X12_measure_L64 v1 y16 y18 y19 y20 s23 = some e24 := hb25
    unfold p_X12_measure_L64 at h
    have V : kW D AA s.heap H (List.flatten [gX12 g aT s23.2.2.2]) locs := V
    have hl : lv_has ls 18 [(0, .ref (aT 0)), (2, .int y16), (3, .int y18), (4, .long y19), (6, .long y20), (8, .long s23.1), (10, .long s23.2.1), (12, .int s23.2.2.1)] := hl
    have J169 : ∀ (zT : tX12) (v10 : Int64) (v12 : Int32) (v16 : Int64) (k169_0 : Int64) (H : Heap) (locs : List Loc) (ls : Array Slot), p_X12_measure_J169_64 v1 zT y16 y18 y19 y20 v10 v12 v16 k169_0 = some e24 → kW D AA s.heap H (List.flatten [gX12 g aT zT]) locs → lv_has ls 18 [(0, .ref (aT 0)), (2, .int y16), (3, .int y18), (4, .long y19), (6, .long y20), (10, .long v10), (12, .int v12), (16, .long v16)] → W p l en (kR 1 23) s m args below meth c H locs 0 0 QQ (F0 m 169 ls [.long k169_0]) := by
      intro zT v10 v12 v16 k169_0 H locs ls h V hl
      unfold p_X12_measure_J169_64 at h
      refine lv_lstore (lv' := [(8, .long k169_0), (0, .ref (aT 0)), (2, .int y16), (3, .int y18), (4, .long y19), (6, .long y20), (10, .long v10), (12, .int v12), (16, .long v16)]) X.1 X.2.1 dX12_measure_169 hl (by decide) rfl (fun ls hl => ?_)
      refine lv_lload X.1 X.2.1 dX12_measure_171 (lv_at hl 8 rfl) ?_
      refine lv_lload X.1 X.2.1 dX12_measure_173 (lv_at hl 6 rfl) ?_
      refine W.lcmp X.1 X.2.1 dX12_measure_175 ?_
      refine lv_if_le (tgt := 184) X.1 X.2.1 dX12_measure_176 (by decide) (fun hc => ?_) (fun hc => ?_)
      · replace h := kif_t hc h
        refine lv_lload X.1 X.2.1 dX12_measure_184 (lv_at hl 6 rfl) ?_
        refine lv_lstore (lv' := [(10, .long v10), (8, .long k169_0), (0, .ref (aT 0)), (2, .int y16), (3, .int y18), (4, .long y19), (6, .long y20), (12, .int v12), (16, .long v16)]) X.1 X.2.1 dX12_measure_186 hl (by decide) rfl (fun ls hl => ?_)
        obtain ⟨y27, ey27⟩ : ∃ y : Int32, y = (v12 + (1 : Int32)) := ⟨_, rfl⟩
        replace h := kl_of ey27 h
        refine lv_iinc (v := y27) (lv' := [(12, .int y27), (10, .long v10), (8, .long k169_0), (0, .ref (aT 0)), (2, .int y16), (3, .int y18), (4, .long y19), (6, .long y20), (16, .long v16)]) X.1 X.2.1 dX12_measure_188 hl (k := 7) rfl (by rw [ey27]; rfl) (by decide) rfl (fun ls hl => ?_)
        refine lv_goto (tgt := 64) X.1 X.2.1 dX12_measure_191 (by decide) ?_
        obtain rfl := Option.some.inj h
        exact hG26 _ _ _ V (lv_sub hl [3, 4, 5, 6, 7, 2, 1, 0] rfl)
      · replace h := kif_f hc h
        refine lv_lload X.1 X.2.1 dX12_measure_179 (lv_at hl 8 rfl) ?_
        refine lv_goto (tgt := 186) X.1 X.2.1 dX12_measure_181 (by decide) ?_
        refine lv_lstore (lv' := [(10, .long v16), (8, .long k169_0), (0, .ref (aT 0)), (2, .int y16), (3, .int y18), (4, .long y19), (6, .long y20), (12, .int v12), (16, .long v16)]) X.1 X.2.1 dX12_measure_186 hl (by decide) rfl (fun ls hl => ?_)
        obtain ⟨y28, ey28⟩ : ∃ y : Int32, y = (v12 + (1 : Int32)) := ⟨_, rfl⟩
        replace h := kl_of ey28 h
        refine lv_iinc (v := y28) (lv' := [(12, .int y28), (10, .long v16), (8, .long k169_0), (0, .ref (aT 0)), (2, .int y16), (3, .int y18), (4, .long y19), (6, .long y20), (16, .long v16)]) X.1 X.2.1 dX12_measure_188 hl (k := 7) rfl (by rw [ey28]; rfl) (by decide) rfl (fun ls hl => ?_)
        refine lv_goto (tgt := 64) X.1 X.2.1 dX12_measure_191 (by decide) ?_
        obtain rfl := Option.some.inj h
        exact hG26 _ _ _ V (lv_sub hl [3, 4, 5, 6, 7, 2, 1, 0] rfl)
    have J151 : ∀ (zT : tX12) (v8 : Int64) (v10 : Int64) (v12 : Int32) (v16 : Int64) (k151_1 : Int64) (H : Heap) (locs : List Loc) (ls : Array Slot), p_X12_measure_J151_64 v1 zT y16 y18 y19 y20 v8 v10 v12 v16 k151_1 = some e24 → kW D AA s.heap H (List.flatten [gX12 g aT zT]) locs → lv_has ls 18 [(0, .ref (aT 0)), (2, .int y16), (3, .int y18), (4, .long y19), (6, .long y20), (8, .long v8), (10, .long v10), (12, .int v12), (16, .long v16)] → W p l en (kR 1 23) s m args below meth c H locs 0 0 QQ (F0 m 151 ls [.long k151_1, .ref (aT 0)]) := by
      intro zT v8 v10 v12 v16 k151_1 H locs ls h V hl
      unfold p_X12_measure_J151_64 at h
      refine pf_X12_335 (i := 0) X V rfl dX12_measure_151 (fun H locs V => ?_)
      obtain ⟨z29, ez29⟩ : ∃ y, y = (zT.1, va_up zT.2.1 38 k151_1, zT.2.2) := ⟨_, rfl⟩
      replace h := kl_of ez29 h
      have V : kW D AA s.heap H (List.flatten [gX12 g aT z29]) locs := by rw [ez29]; exact V
      refine lv_lload X.1 X.2.1 dX12_measure_154 (lv_at hl 8 rfl) ?_
      refine lv_lload X.1 X.2.1 dX12_measure_156 (lv_at hl 5 rfl) ?_
      refine W.lcmp X.1 X.2.1 dX12_measure_158 ?_
      refine lv_if_ge (tgt := 167) X.1 X.2.1 dX12_measure_159 (by decide) (fun hc => ?_) (fun hc => ?_)
      · replace h := kif_t hc h
        refine lv_lload X.1 X.2.1 dX12_measure_167 (lv_at hl 5 rfl) ?_
        exact J169 z29 v10 v12 v16 v8 _ _ _ h V (lv_sub hl [0, 1, 2, 3, 4, 6, 7, 8] rfl)
      · replace h := kif_f hc h
        refine lv_lload X.1 X.2.1 dX12_measure_162 (lv_at hl 8 rfl) ?_
        refine lv_goto (tgt := 169) X.1 X.2.1 dX12_measure_164 (by decide) ?_
        exact J169 z29 v10 v12 v16 v16 _ _ _ h V (lv_sub hl [0, 1, 2, 3, 4, 6, 7, 8] rfl)
    refine lv_iload X.1 X.2.1 dX12_measure_64 (lv_at hl 7 rfl) ?_
    refine lv_aload_n X.1 X.2.1 dX12_measure_66 rfl (lv_at hl 0 rfl) ?_
    refine gf_X12_320 (i := 0) X V rfl dX12_measure_67 ?_
    refine lv_icmp_ge (tgt := 194) X.1 X.2.1 dX12_measure_70 (by decide) (fun hc => ?_) (fun hc => ?_)
    · replace h := kif_t hc h
      obtain rfl := Option.some.inj h
      exact hG26 _ _ _ V (lv_sub hl [0, 1, 2, 3, 4, 5, 6, 7] rfl)
    · replace h := kif_f hc h
      refine lv_aload_n X.1 X.2.1 dX12_measure_73 rfl (lv_at hl 0 rfl) ?_
      refine gf_X12_54 (i := 0) X V rfl dX12_measure_74 ?_
      refine lv_iload X.1 X.2.1 dX12_measure_77 (lv_at hl 7 rfl) ?_
      obtain ⟨hc, h⟩ := kg_of h
      refine al_X12_35 (i := 0) X V rfl hc dX12_measure_79 ?_
      refine lv_topi (fun y30 ey30 => ?_)
      replace h := kl_of ey30 h
      refine lv_istore (lv' := [(13, .int y30), (0, .ref (aT 0)), (2, .int y16), (3, .int y18), (4, .long y19), (6, .long y20), (8, .long s23.1), (10, .long s23.2.1), (12, .int s23.2.2.1)]) X.1 X.2.1 dX12_measure_80 hl (by decide) rfl (fun ls hl => ?_)
      refine lv_aload_n X.1 X.2.1 dX12_measure_82 rfl (lv_at hl 1 rfl) ?_
      refine lv_iload_n X.1 X.2.1 dX12_measure_83 rfl (lv_at hl 2 rfl) ?_
      refine lv_iload_n X.1 X.2.1 dX12_measure_84 rfl (lv_at hl 3 rfl) ?_
      refine lv_iload X.1 X.2.1 dX12_measure_85 (lv_at hl 0 rfl) ?_
      obtain ⟨x31, hx31, h⟩ := kb_of h
      refine s_callVl (segs' := [gX12 g aT s23.2.2.2]) (ci := 12) (i0 := 0) X V (c_X12_turn l D g aT s23.2.2.2 y16 y18 y30 x31 hx31) w_X12_216 ⟨Nat.le_of_ble_eq_true rfl, Nat.le_of_ble_eq_true rfl⟩ ⟨Nat.zero_le _, Nat.zero_le _⟩ rfl rfl rfl rfl [0] rfl rfl (kFst_refl _) rfl rfl hl.1 (Nat.le_of_ble_eq_true rfl) dX12_measure_87 (fun H locs V => ?_)
      refine lv_lstore (lv' := [(14, .long x31), (13, .int y30), (0, .ref (aT 0)), (2, .int y16), (3, .int y18), (4, .long y19), (6, .long y20), (8, .long s23.1), (10, .long s23.2.1), (12, .int s23.2.2.1)]) X.1 X.2.1 dX12_measure_90 hl (by decide) rfl (fun ls hl => ?_)
      refine lv_lload X.1 X.2.1 dX12_measure_92 (lv_at hl 5 rfl) ?_
      refine lv_aload_n X.1 X.2.1 dX12_measure_94 rfl (lv_at hl 2 rfl) ?_
      refine gf_X12_33 (i := 0) X V rfl dX12_measure_95 ?_
      refine lv_iload X.1 X.2.1 dX12_measure_98 (lv_at hl 1 rfl) ?_
      obtain ⟨hc, h⟩ := kg_of h
      refine al_X12_12 (i := 0) X V rfl hc dX12_measure_100 ?_
      refine lv_aload_n X.1 X.2.1 dX12_measure_101 rfl (lv_at hl 2 rfl) ?_
      refine gf_X12_33 (i := 0) X V rfl dX12_measure_102 ?_
      refine lv_iload_n X.1 X.2.1 dX12_measure_105 rfl (lv_at hl 3 rfl) ?_
      obtain ⟨hc, h⟩ := kg_of h
      refine al_X12_12 (i := 0) X V rfl hc dX12_measure_106 ?_
      refine lv_isub X.1 X.2.1 dX12_measure_107 ?_
      refine lv_i2l X.1 X.2.1 dX12_measure_108 rfl ?_
      refine lv_lmul X.1 X.2.1 dX12_measure_109 ?_
      refine lv_lload X.1 X.2.1 dX12_measure_110 (lv_at hl 6 rfl) ?_
      refine lv_aload_n X.1 X.2.1 dX12_measure_112 rfl (lv_at hl 2 rfl) ?_
      refine gf_X12_36 (i := 0) X V rfl dX12_measure_113 ?_
      refine lv_iload X.1 X.2.1 dX12_measure_116 (lv_at hl 1 rfl) ?_
      obtain ⟨hc, h⟩ := kg_of h
      refine al_X12_13 (i := 0) X V rfl hc dX12_measure_118 ?_
      refine lv_aload_n X.1 X.2.1 dX12_measure_119 rfl (lv_at hl 2 rfl) ?_
      refine gf_X12_36 (i := 0) X V rfl dX12_measure_120 ?_
      refine lv_iload_n X.1 X.2.1 dX12_measure_123 rfl (lv_at hl 3 rfl) ?_
      obtain ⟨hc, h⟩ := kg_of h
      refine al_X12_13 (i := 0) X V rfl hc dX12_measure_124 ?_
      refine lv_isub X.1 X.2.1 dX12_measure_125 ?_
      refine lv_i2l X.1 X.2.1 dX12_measure_126 rfl ?_
      refine lv_lmul X.1 X.2.1 dX12_measure_127 ?_
      refine lv_ladd X.1 X.2.1 dX12_measure_128 ?_
      refine lv_topl (fun y32 ey32 => ?_)
      replace h := kl_of ey32 h
      refine lv_lstore (lv' := [(16, .long y32), (14, .long x31), (13, .int y30), (0, .ref (aT 0)), (2, .int y16), (3, .int y18), (4, .long y19), (6, .long y20), (8, .long s23.1), (10, .long s23.2.1), (12, .int s23.2.2.1)]) X.1 X.2.1 dX12_measure_129 hl (by decide) rfl (fun ls hl => ?_)
      refine lv_aload_n X.1 X.2.1 dX12_measure_131 rfl (lv_at hl 3 rfl) ?_
      refine lv_lload X.1 X.2.1 dX12_measure_132 (lv_at hl 1 rfl) ?_
      refine lv_aload_n X.1 X.2.1 dX12_measure_134 rfl (lv_at hl 3 rfl) ?_
      refine gf_X12_335 (i := 0) X V rfl dX12_measure_135 ?_
      refine W.lcmp X.1 X.2.1 dX12_measure_138 ?_
      refine lv_if_le (tgt := 147) X.1 X.2.1 dX12_measure_139 (by decide) (fun hc => ?_) (fun hc => ?_)
      · replace h := kif_t hc h
        refine lv_aload_n X.1 X.2.1 dX12_measure_147 rfl (lv_at hl 3 rfl) ?_
        refine gf_X12_335 (i := 0) X V rfl dX12_measure_148 ?_
        exact J151 s23.2.2.2 s23.1 s23.2.1 s23.2.2.1 y32 (s23.2.2.2.2.1 38) _ _ _ h V (lv_sub hl [3, 4, 5, 6, 7, 8, 9, 10, 0] rfl)
      · replace h := kif_f hc h
        refine lv_lload X.1 X.2.1 dX12_measure_142 (lv_at hl 1 rfl) ?_
        refine lv_goto (tgt := 151) X.1 X.2.1 dX12_measure_144 (by decide) ?_
        exact J151 s23.2.2.2 s23.1 s23.2.1 s23.2.2.1 y32 x31 _ _ _ h V (lv_sub hl [3, 4, 5, 6, 7, 8, 9, 10, 0] rfl)
  · intro H locs ls V hl
    have V : kW D AA s.heap H (List.flatten [gX12 g aT x22.2.2.2.2]) locs := V
    have hl : lv_has ls 18 [(0, .ref (aT 0)), (2, .int y16), (3, .int y18), (4, .long y19), (6, .long y20), (8, .long x22.2.1), (10, .long x22.2.2.1), (12, .int x22.2.2.2.1)] := hl
    obtain ⟨hc, h⟩ := kg_of h
    refine W.eq (g2 := F0 m 194 ls []) (by rw [hc]) ?_
    refine lv_aload_n X.1 X.2.1 dX12_measure_194 rfl (lv_at hl 0 rfl) ?_
    refine lv_lload X.1 X.2.1 dX12_measure_195 (lv_at hl 6 rfl) ?_
    refine lv_lload X.1 X.2.1 dX12_measure_197 (lv_at hl 5 rfl) ?_
    refine lv_lsub X.1 X.2.1 dX12_measure_199 ?_
    refine pf_X12_338 (i := 0) X V rfl dX12_measure_200 (fun H locs V => ?_)
    obtain ⟨z33, ez33⟩ : ∃ y, y = (x22.2.2.2.2.1, va_up x22.2.2.2.2.2.1 39 (x22.2.2.1 - x22.2.1), x22.2.2.2.2.2.2) := ⟨_, rfl⟩
    replace h := kl_of ez33 h
    have V : kW D AA s.heap H (List.flatten [gX12 g aT z33]) locs := by rw [ez33]; exact V
    refine lv_aload_n X.1 X.2.1 dX12_measure_203 rfl (lv_at hl 0 rfl) ?_
    refine lv_lload X.1 X.2.1 dX12_measure_204 (lv_at hl 3 rfl) ?_
    refine lv_lload X.1 X.2.1 dX12_measure_206 (lv_at hl 3 rfl) ?_
    refine lv_lmul X.1 X.2.1 dX12_measure_208 ?_
    refine lv_lload X.1 X.2.1 dX12_measure_209 (lv_at hl 4 rfl) ?_
    refine lv_lload X.1 X.2.1 dX12_measure_211 (lv_at hl 4 rfl) ?_
    refine lv_lmul X.1 X.2.1 dX12_measure_213 ?_
    refine lv_ladd X.1 X.2.1 dX12_measure_214 ?_
    refine pf_X12_341 (i := 0) X V rfl dX12_measure_215 (fun H locs V => ?_)
    obtain ⟨z34, ez34⟩ : ∃ y, y = (z33.1, va_up z33.2.1 40 ((y19 * y19) + (y20 * y20)), z33.2.2) := ⟨_, rfl⟩
    replace h := kl_of ez34 h
    have V : kW D AA s.heap H (List.flatten [gX12 g aT z34]) locs := by rw [ez34]; exact V
    obtain rfl := Option.some.inj h
    rw [hAA] at V
    rw [hQQ]
    exact k_vret X V dX12_measure_218

def p_X12_narrowest_J73_33 (v1 : Int32) (v2 : Int32) (v3 : Int32) (zT : tX12) (v4 : Int32) (v5 : Int64) (v7 : Int64) (v9 : Int32) (k73_0 : Int64) : Option (Nat × (Int32 × Int64 × Int64 × Int32 × tX12)) :=
  kif (v4 = (-1 : Int32)) (kl (zT.2.1 40) (fun y4 => kl (v9 + (1 : Int32)) (fun y5 => some (33, (v9, k73_0, y4, y5, zT))))) (kb (p_X12_against k73_0 (zT.2.1 40) v5 v7) (fun x6 => kif (x6 < 0) (kl (zT.2.1 40) (fun y7 => kl (v9 + (1 : Int32)) (fun y8 => some (33, (v9, k73_0, y7, y8, zT))))) (kl (v9 + (1 : Int32)) (fun y9 => some (33, (v4, v5, v7, y9, zT))))))
def p_X12_narrowest_L33 (v1 : Int32) (v2 : Int32) (v3 : Int32) (s : Int32 × Int64 × Int64 × Int32 × tX12) : Option (Nat × (Int32 × Int64 × Int64 × Int32 × tX12)) :=
  kif ((s.2.2.2.2.1 37) ≤ s.2.2.2.1) (some (120, (s.1, s.2.1, s.2.2.1, s.2.2.2.1, s.2.2.2.2))) (kb (p_X12_measure s.2.2.2.2 s.2.2.2.1) (fun x3 => kif (v3 = 0) (p_X12_narrowest_J73_33 v1 v2 v3 x3 s.1 s.2.1 s.2.2.1 s.2.2.2.1 ((x3.2.1 38) * (x3.2.1 38))) (p_X12_narrowest_J73_33 v1 v2 v3 x3 s.1 s.2.1 s.2.2.1 s.2.2.2.1 ((x3.2.1 38) * (x3.2.1 39)))))
def p_X12_narrowest (zT : tX12) (v1 : Int32) (v2 : Int32) (v3 : Int32) : Option (Int64 × tX12) :=
  kb (p_X12_isIn v2 (0 : Int32) (2 : Int32)) (fun x1 => kif ((kz x1) = 0) (some ((-1 : Int64), zT)) (kb (p_X12_isWide zT v1) (fun x2 => kif ((kz x2.1) = 0) (some ((-1 : Int64), x2.2)) (kb (kitr 33 (fun q => p_X12_narrowest_L33 v1 v2 v3 q) kF ((-1 : Int32), (0 : Int64), (1 : Int64), (0 : Int32), x2.2)) (fun x10 => kg (x10.1 = 120) (kif (v2 = 0) (kb (p_X12_above x10.2.2.1 x10.2.2.2.1) (fun x11 => some (x11, x10.2.2.2.2.2))) (kif (v2 = (1 : Int32)) (kb (p_X12_below x10.2.2.1 x10.2.2.2.1) (fun x12 => some (x12, x10.2.2.2.2.2))) (kg (kii x10.2.1 42) (kg (kii ((x10.2.2.2.2.2.2.2.1 35) x10.2.1.toNatClampNeg) 41) (some ((((x10.2.2.2.2.2.2.2.1 14) (((x10.2.2.2.2.2.2.2.1 35) x10.2.1.toNatClampNeg)).toNatClampNeg)).toInt64, x10.2.2.2.2.2)))))))))))
set_option maxHeartbeats 4000000 in
set_option maxRecDepth 100000 in
theorem c_X12_narrowest (l : Launch) (D : va_G) (g : kG) (aT : Nat → Nat) (zT : tX12) (v1 : Int32) (v2 : Int32) (v3 : Int32) (r : Int64 × tX12) (h : p_X12_narrowest zT v1 v2 v3 = some r) : kMl l yX12_narrowest cX12_narrowest 12 (some .long) (kR 5 111) D (kty g) [.ref (aT 0), .int v1, .int v2, .int v3] (List.flatten [gX12 g aT zT]) r.1 (List.flatten [gX12 g aT r.2]) := by
  intro sz
  refine k_enter (lv := [(0, .ref (aT 0)), (1, .int v1), (2, .int v2), (3, .int v3)]) RX12 (by decide +kernel) rfl rfl (Nat.le_of_ble_eq_true rfl) ?_
  intro p en s m args below meth c ls hsz X V hl
  obtain ⟨QQ, hQQ⟩ : ∃ q, q = MQ below (va_Ql (fun r' (_ : Unit) => r' = r.1) (fun _ => kE D (List.flatten [gX12 g aT r.2])) (va_A (List.flatten [gX12 g aT zT]) sz)) args s 0 0 (va_A (List.flatten [gX12 g aT zT]) sz) := ⟨_, rfl⟩
  rw [← hQQ]
  obtain ⟨AA, hAA⟩ : ∃ q, q = va_A (List.flatten [gX12 g aT zT]) sz := ⟨_, rfl⟩
  rw [← hAA] at V
  unfold p_X12_narrowest at h
  refine lv_iload_n X.1 X.2.1 dX12_narrowest_0 rfl (lv_at hl 2 rfl) ?_
  refine lv_iconst (v := (0 : Int32)) X.1 X.2.1 dX12_narrowest_1 (by decide) ?_
  refine lv_iconst (v := (2 : Int32)) X.1 X.2.1 dX12_narrowest_2 (by decide) ?_
  obtain ⟨x13, hx13, h⟩ := kb_of h
  refine s_callSi (segs' := [gX12 g aT zT]) X V (c_X12_isIn l D g v2 (0 : Int32) (2 : Int32) x13 hx13) w_X12_76 ⟨Nat.le_of_ble_eq_true rfl, Nat.le_of_ble_eq_true rfl⟩ ⟨Nat.zero_le _, Nat.zero_le _⟩ rfl [] rfl rfl (kFst_refl _) rfl rfl hl.1 (Nat.le_of_ble_eq_true rfl) dX12_narrowest_3 (fun H locs V => ?_)
  refine lv_if_eq (tgt := 17) X.1 X.2.1 dX12_narrowest_6 (by decide) (fun hc => ?_) (fun hc => ?_)
  · replace h := kif_t hc h
    refine lv_ldc2 (v := (-1 : Int64)) X.1 X.2.1 X.2.2.2.1 (X.2.2.2.2.1 _ kc_X12_220) dX12_narrowest_17 ?_
    obtain rfl := Option.some.inj h
    rw [hAA] at V
    rw [hQQ]
    exact k_lret X V rfl dX12_narrowest_20
  · replace h := kif_f hc h
    refine lv_aload_n X.1 X.2.1 dX12_narrowest_9 rfl (lv_at hl 0 rfl) ?_
    refine lv_iload_n X.1 X.2.1 dX12_narrowest_10 rfl (lv_at hl 1 rfl) ?_
    obtain ⟨x14, hx14, h⟩ := kb_of h
    refine s_callVi (segs' := [gX12 g aT x14.2]) (ci := 12) (i0 := 0) X V (c_X12_isWide l D g aT zT v1 x14 hx14) w_X12_344 ⟨Nat.le_of_ble_eq_true rfl, Nat.le_of_ble_eq_true rfl⟩ ⟨Nat.zero_le _, Nat.zero_le _⟩ rfl rfl rfl rfl [0] rfl rfl ⟨gX12_fst, trivial⟩ rfl rfl hl.1 (Nat.le_of_ble_eq_true rfl) dX12_narrowest_11 (fun H locs V => ?_)
    refine lv_if_ne (tgt := 21) X.1 X.2.1 dX12_narrowest_14 (by decide) (fun hc => ?_) (fun hc => ?_)
    · replace h := kif_f hc h
      refine lv_iconst (v := (-1 : Int32)) X.1 X.2.1 dX12_narrowest_21 (by decide) ?_
      refine lv_istore (lv' := [(4, .int (-1 : Int32)), (0, .ref (aT 0)), (1, .int v1), (2, .int v2), (3, .int v3)]) X.1 X.2.1 dX12_narrowest_22 hl (by decide) rfl (fun ls hl => ?_)
      refine lv_lconst (v := (0 : Int64)) X.1 X.2.1 dX12_narrowest_24 (by decide) ?_
      refine lv_lstore (lv' := [(5, .long (0 : Int64)), (4, .int (-1 : Int32)), (0, .ref (aT 0)), (1, .int v1), (2, .int v2), (3, .int v3)]) X.1 X.2.1 dX12_narrowest_25 hl (by decide) rfl (fun ls hl => ?_)
      refine lv_lconst (v := (1 : Int64)) X.1 X.2.1 dX12_narrowest_27 (by decide) ?_
      refine lv_lstore (lv' := [(7, .long (1 : Int64)), (5, .long (0 : Int64)), (4, .int (-1 : Int32)), (0, .ref (aT 0)), (1, .int v1), (2, .int v2), (3, .int v3)]) X.1 X.2.1 dX12_narrowest_28 hl (by decide) rfl (fun ls hl => ?_)
      refine lv_iconst (v := (0 : Int32)) X.1 X.2.1 dX12_narrowest_30 (by decide) ?_
      refine lv_istore (lv' := [(9, .int (0 : Int32)), (7, .long (1 : Int64)), (5, .long (0 : Int64)), (4, .int (-1 : Int32)), (0, .ref (aT 0)), (1, .int v1), (2, .int v2), (3, .int v3)]) X.1 X.2.1 dX12_narrowest_31 hl (by decide) rfl (fun ls hl => ?_)
      obtain ⟨x15, hx15, h⟩ := kb_of h
      refine (kitr_go (hd := 33) (body := fun q => p_X12_narrowest_L33 v1 v2 v3 q) (G := (fun e => ∀ (H : Heap) (locs : List Loc) (ls : Array Slot), kW D AA s.heap H (List.flatten [gX12 g aT e.2.2.2.2.2]) locs → lv_has ls 12 [(0, .ref (aT 0)), (2, .int v2), (3, .int v3), (4, .int e.2.1), (5, .long e.2.2.1), (7, .long e.2.2.2.1), (9, .int e.2.2.2.2.1)] → W p l en (kR 5 111) s m args below meth c H locs 0 0 QQ (F0 m e.1 ls []))) (fun s16 e17 hb18 hG19 => ?_) kF _ x15 hx15 ?_) _ _ _ V (lv_sub hl [4, 6, 7, 3, 2, 1, 0] rfl)
      · intro H locs ls V hl
        show W p l en (kR 5 111) s m args below meth c H locs 0 0 QQ (F0 m 33 ls [])
        have h : p_X12_narrowest_L33 v1 v2 v3 s16 = some e17 := hb18
        unfold p_X12_narrowest_L33 at h
        have V : kW D AA s.heap H (List.flatten [gX12 g aT s16.2.2.2.2]) locs := V
        have hl : lv_has ls 12 [(0, .ref (aT 0)), (2, .int v2), (3, .int v3), (4, .int s16.1), (5, .long s16.2.1), (7, .long s16.2.2.1), (9, .int s16.2.2.2.1)] := hl
        have J73 : ∀ (zT : tX12) (v4 : Int32) (v5 : Int64) (v7 : Int64) (v9 : Int32) (k73_0 : Int64) (H : Heap) (locs : List Loc) (ls : Array Slot), p_X12_narrowest_J73_33 v1 v2 v3 zT v4 v5 v7 v9 k73_0 = some e17 → kW D AA s.heap H (List.flatten [gX12 g aT zT]) locs → lv_has ls 12 [(0, .ref (aT 0)), (2, .int v2), (3, .int v3), (4, .int v4), (5, .long v5), (7, .long v7), (9, .int v9)] → W p l en (kR 5 111) s m args below meth c H locs 0 0 QQ (F0 m 73 ls [.long k73_0]) := by
          intro zT v4 v5 v7 v9 k73_0 H locs ls h V hl
          unfold p_X12_narrowest_J73_33 at h
          refine lv_lstore (lv' := [(10, .long k73_0), (0, .ref (aT 0)), (2, .int v2), (3, .int v3), (4, .int v4), (5, .long v5), (7, .long v7), (9, .int v9)]) X.1 X.2.1 dX12_narrowest_73 hl (by decide) rfl (fun ls hl => ?_)
          refine lv_iload X.1 X.2.1 dX12_narrowest_75 (lv_at hl 4 rfl) ?_
          refine lv_iconst (v := (-1 : Int32)) X.1 X.2.1 dX12_narrowest_77 (by decide) ?_
          refine lv_icmp_eq (tgt := 100) X.1 X.2.1 dX12_narrowest_78 (by decide) (fun hc => ?_) (fun hc => ?_)
          · replace h := kif_t hc h
            refine lv_iload X.1 X.2.1 dX12_narrowest_100 (lv_at hl 7 rfl) ?_
            refine lv_istore (lv' := [(4, .int v9), (10, .long k73_0), (0, .ref (aT 0)), (2, .int v2), (3, .int v3), (5, .long v5), (7, .long v7), (9, .int v9)]) X.1 X.2.1 dX12_narrowest_102 hl (by decide) rfl (fun ls hl => ?_)
            refine lv_lload X.1 X.2.1 dX12_narrowest_104 (lv_at hl 1 rfl) ?_
            refine lv_lstore (lv' := [(5, .long k73_0), (4, .int v9), (10, .long k73_0), (0, .ref (aT 0)), (2, .int v2), (3, .int v3), (7, .long v7), (9, .int v9)]) X.1 X.2.1 dX12_narrowest_106 hl (by decide) rfl (fun ls hl => ?_)
            refine lv_aload_n X.1 X.2.1 dX12_narrowest_108 rfl (lv_at hl 3 rfl) ?_
            refine gf_X12_341 (i := 0) X V rfl dX12_narrowest_109 ?_
            refine lv_topl (fun y20 ey20 => ?_)
            replace h := kl_of ey20 h
            refine lv_lstore (lv' := [(7, .long y20), (5, .long k73_0), (4, .int v9), (10, .long k73_0), (0, .ref (aT 0)), (2, .int v2), (3, .int v3), (9, .int v9)]) X.1 X.2.1 dX12_narrowest_112 hl (by decide) rfl (fun ls hl => ?_)
            obtain ⟨y21, ey21⟩ : ∃ y : Int32, y = (v9 + (1 : Int32)) := ⟨_, rfl⟩
            replace h := kl_of ey21 h
            refine lv_iinc (v := y21) (lv' := [(9, .int y21), (7, .long y20), (5, .long k73_0), (4, .int v9), (10, .long k73_0), (0, .ref (aT 0)), (2, .int v2), (3, .int v3)]) X.1 X.2.1 dX12_narrowest_114 hl (k := 7) rfl (by rw [ey21]; rfl) (by decide) rfl (fun ls hl => ?_)
            refine lv_goto (tgt := 33) X.1 X.2.1 dX12_narrowest_117 (by decide) ?_
            obtain rfl := Option.some.inj h
            exact hG19 _ _ _ V (lv_sub hl [5, 6, 7, 3, 2, 1, 0] rfl)
          · replace h := kif_f hc h
            refine lv_lload X.1 X.2.1 dX12_narrowest_81 (lv_at hl 0 rfl) ?_
            refine lv_aload_n X.1 X.2.1 dX12_narrowest_83 rfl (lv_at hl 1 rfl) ?_
            refine gf_X12_341 (i := 0) X V rfl dX12_narrowest_84 ?_
            refine lv_lload X.1 X.2.1 dX12_narrowest_87 (lv_at hl 5 rfl) ?_
            refine lv_lload X.1 X.2.1 dX12_narrowest_89 (lv_at hl 6 rfl) ?_
            obtain ⟨x22, hx22, h⟩ := kb_of h
            refine s_callSi (segs' := [gX12 g aT zT]) X V (c_X12_against l D g k73_0 (zT.2.1 40) v5 v7 x22 hx22) w_X12_271 ⟨Nat.le_of_ble_eq_true rfl, Nat.le_of_ble_eq_true rfl⟩ ⟨Nat.zero_le _, Nat.zero_le _⟩ rfl [] rfl rfl (kFst_refl _) rfl rfl hl.1 (Nat.le_of_ble_eq_true rfl) dX12_narrowest_91 (fun H locs V => ?_)
            refine lv_if_lt (tgt := 100) X.1 X.2.1 dX12_narrowest_94 (by decide) (fun hc => ?_) (fun hc => ?_)
            · replace h := kif_t hc h
              refine lv_iload X.1 X.2.1 dX12_narrowest_100 (lv_at hl 7 rfl) ?_
              refine lv_istore (lv' := [(4, .int v9), (10, .long k73_0), (0, .ref (aT 0)), (2, .int v2), (3, .int v3), (5, .long v5), (7, .long v7), (9, .int v9)]) X.1 X.2.1 dX12_narrowest_102 hl (by decide) rfl (fun ls hl => ?_)
              refine lv_lload X.1 X.2.1 dX12_narrowest_104 (lv_at hl 1 rfl) ?_
              refine lv_lstore (lv' := [(5, .long k73_0), (4, .int v9), (10, .long k73_0), (0, .ref (aT 0)), (2, .int v2), (3, .int v3), (7, .long v7), (9, .int v9)]) X.1 X.2.1 dX12_narrowest_106 hl (by decide) rfl (fun ls hl => ?_)
              refine lv_aload_n X.1 X.2.1 dX12_narrowest_108 rfl (lv_at hl 3 rfl) ?_
              refine gf_X12_341 (i := 0) X V rfl dX12_narrowest_109 ?_
              refine lv_topl (fun y23 ey23 => ?_)
              replace h := kl_of ey23 h
              refine lv_lstore (lv' := [(7, .long y23), (5, .long k73_0), (4, .int v9), (10, .long k73_0), (0, .ref (aT 0)), (2, .int v2), (3, .int v3), (9, .int v9)]) X.1 X.2.1 dX12_narrowest_112 hl (by decide) rfl (fun ls hl => ?_)
              obtain ⟨y24, ey24⟩ : ∃ y : Int32, y = (v9 + (1 : Int32)) := ⟨_, rfl⟩
              replace h := kl_of ey24 h
              refine lv_iinc (v := y24) (lv' := [(9, .int y24), (7, .long y23), (5, .long k73_0), (4, .int v9), (10, .long k73_0), (0, .ref (aT 0)), (2, .int v2), (3, .int v3)]) X.1 X.2.1 dX12_narrowest_114 hl (k := 7) rfl (by rw [ey24]; rfl) (by decide) rfl (fun ls hl => ?_)
              refine lv_goto (tgt := 33) X.1 X.2.1 dX12_narrowest_117 (by decide) ?_
              obtain rfl := Option.some.inj h
              exact hG19 _ _ _ V (lv_sub hl [5, 6, 7, 3, 2, 1, 0] rfl)
            · replace h := kif_f hc h
              refine lv_goto (tgt := 114) X.1 X.2.1 dX12_narrowest_97 (by decide) ?_
              obtain ⟨y25, ey25⟩ : ∃ y : Int32, y = (v9 + (1 : Int32)) := ⟨_, rfl⟩
              replace h := kl_of ey25 h
              refine lv_iinc (v := y25) (lv' := [(9, .int y25), (10, .long k73_0), (0, .ref (aT 0)), (2, .int v2), (3, .int v3), (4, .int v4), (5, .long v5), (7, .long v7)]) X.1 X.2.1 dX12_narrowest_114 hl (k := 7) rfl (by rw [ey25]; rfl) (by decide) rfl (fun ls hl => ?_)
              refine lv_goto (tgt := 33) X.1 X.2.1 dX12_narrowest_117 (by decide) ?_
              obtain rfl := Option.some.inj h
              exact hG19 _ _ _ V (lv_sub hl [2, 3, 4, 5, 6, 7, 0] rfl)
        refine lv_iload X.1 X.2.1 dX12_narrowest_33 (lv_at hl 6 rfl) ?_
        refine lv_aload_n X.1 X.2.1 dX12_narrowest_35 rfl (lv_at hl 0 rfl) ?_
        refine gf_X12_320 (i := 0) X V rfl dX12_narrowest_36 ?_
        refine lv_icmp_ge (tgt := 120) X.1 X.2.1 dX12_narrowest_39 (by decide) (fun hc => ?_) (fun hc => ?_)
        · replace h := kif_t hc h
          obtain rfl := Option.some.inj h
          exact hG19 _ _ _ V (lv_sub hl [0, 1, 2, 3, 4, 5, 6] rfl)
        · replace h := kif_f hc h
          refine lv_aload_n X.1 X.2.1 dX12_narrowest_42 rfl (lv_at hl 0 rfl) ?_
          refine lv_iload X.1 X.2.1 dX12_narrowest_43 (lv_at hl 6 rfl) ?_
          obtain ⟨x26, hx26, h⟩ := kb_of h
          refine s_callVv (segs' := [gX12 g aT x26]) (ci := 12) (i0 := 0) X V (c_X12_measure l D g aT s16.2.2.2.2 s16.2.2.2.1 x26 hx26) w_X12_347 ⟨Nat.le_of_ble_eq_true rfl, Nat.le_of_ble_eq_true rfl⟩ ⟨Nat.zero_le _, Nat.zero_le _⟩ rfl rfl rfl rfl [0] rfl rfl ⟨gX12_fst, trivial⟩ rfl rfl hl.1 (Nat.le_of_ble_eq_true rfl) dX12_narrowest_45 (fun H locs V => ?_)
          refine lv_iload_n X.1 X.2.1 dX12_narrowest_48 rfl (lv_at hl 2 rfl) ?_
          refine lv_if_eq (tgt := 64) X.1 X.2.1 dX12_narrowest_49 (by decide) (fun hc => ?_) (fun hc => ?_)
          · replace h := kif_t hc h
            refine lv_aload_n X.1 X.2.1 dX12_narrowest_64 rfl (lv_at hl 0 rfl) ?_
            refine gf_X12_335 (i := 0) X V rfl dX12_narrowest_65 ?_
            refine lv_aload_n X.1 X.2.1 dX12_narrowest_68 rfl (lv_at hl 0 rfl) ?_
            refine gf_X12_335 (i := 0) X V rfl dX12_narrowest_69 ?_
            refine lv_lmul X.1 X.2.1 dX12_narrowest_72 ?_
            exact J73 x26 s16.1 s16.2.1 s16.2.2.1 s16.2.2.2.1 ((x26.2.1 38) * (x26.2.1 38)) _ _ _ h V (lv_sub hl [0, 1, 2, 3, 4, 5, 6] rfl)
          · replace h := kif_f hc h
            refine lv_aload_n X.1 X.2.1 dX12_narrowest_52 rfl (lv_at hl 0 rfl) ?_
            refine gf_X12_335 (i := 0) X V rfl dX12_narrowest_53 ?_
            refine lv_aload_n X.1 X.2.1 dX12_narrowest_56 rfl (lv_at hl 0 rfl) ?_
            refine gf_X12_338 (i := 0) X V rfl dX12_narrowest_57 ?_
            refine lv_lmul X.1 X.2.1 dX12_narrowest_60 ?_
            refine lv_goto (tgt := 73) X.1 X.2.1 dX12_narrowest_61 (by decide) ?_
            exact J73 x26 s16.1 s16.2.1 s16.2.2.1 s16.2.2.2.1 ((x26.2.1 38) * (x26.2.1 39)) _ _ _ h V (lv_sub hl [0, 1, 2, 3, 4, 5, 6] rfl)
      · intro H locs ls V hl
        have V : kW D AA s.heap H (List.flatten [gX12 g aT x15.2.2.2.2.2]) locs := V
        have hl : lv_has ls 12 [(0, .ref (aT 0)), (2, .int v2), (3, .int v3), (4, .int x15.2.1), (5, .long x15.2.2.1), (7, .long x15.2.2.2.1), (9, .int x15.2.2.2.2.1)] := hl
        obtain ⟨hc, h⟩ := kg_of h
        refine W.eq (g2 := F0 m 120 ls []) (by rw [hc]) ?_
        refine lv_iload_n X.1 X.2.1 dX12_narrowest_120 rfl (lv_at hl 1 rfl) ?_
        refine lv_if_ne (tgt := 134) X.1 X.2.1 dX12_narrowest_121 (by decide) (fun hc => ?_) (fun hc => ?_)
        · replace h := kif_f hc h
          refine lv_iload_n X.1 X.2.1 dX12_narrowest_134 rfl (lv_at hl 1 rfl) ?_
          refine lv_iconst (v := (1 : Int32)) X.1 X.2.1 dX12_narrowest_135 (by decide) ?_
          refine lv_icmp_ne (tgt := 149) X.1 X.2.1 dX12_narrowest_136 (by decide) (fun hc => ?_) (fun hc => ?_)
          · replace h := kif_f hc h
            refine lv_aload_n X.1 X.2.1 dX12_narrowest_149 rfl (lv_at hl 0 rfl) ?_
            refine gf_X12_39 (i := 0) X V rfl dX12_narrowest_150 ?_
            refine lv_aload_n X.1 X.2.1 dX12_narrowest_153 rfl (lv_at hl 0 rfl) ?_
            refine gf_X12_54 (i := 0) X V rfl dX12_narrowest_154 ?_
            refine lv_iload X.1 X.2.1 dX12_narrowest_157 (lv_at hl 3 rfl) ?_
            obtain ⟨hc, h⟩ := kg_of h
            refine al_X12_35 (i := 0) X V rfl hc dX12_narrowest_159 ?_
            obtain ⟨hc, h⟩ := kg_of h
            refine al_X12_14 (i := 0) X V rfl hc dX12_narrowest_160 ?_
            refine lv_i2l X.1 X.2.1 dX12_narrowest_161 rfl ?_
            obtain rfl := Option.some.inj h
            rw [hAA] at V
            rw [hQQ]
            exact k_lret X V rfl dX12_narrowest_162
          · replace h := kif_t hc h
            refine lv_lload X.1 X.2.1 dX12_narrowest_139 (lv_at hl 4 rfl) ?_
            refine lv_lload X.1 X.2.1 dX12_narrowest_141 (lv_at hl 5 rfl) ?_
            obtain ⟨x27, hx27, h⟩ := kb_of h
            refine s_callSl (segs' := [gX12 g aT x15.2.2.2.2.2]) X V (c_X12_below l D g x15.2.2.1 x15.2.2.2.1 x27 hx27) w_X12_213 ⟨Nat.le_of_ble_eq_true rfl, Nat.le_of_ble_eq_true rfl⟩ ⟨Nat.zero_le _, Nat.zero_le _⟩ rfl [] rfl rfl (kFst_refl _) rfl rfl hl.1 (Nat.le_of_ble_eq_true rfl) dX12_narrowest_143 (fun H locs V => ?_)
            refine lv_goto (tgt := 162) X.1 X.2.1 dX12_narrowest_146 (by decide) ?_
            obtain rfl := Option.some.inj h
            rw [hAA] at V
            rw [hQQ]
            exact k_lret X V rfl dX12_narrowest_162
        · replace h := kif_t hc h
          refine lv_lload X.1 X.2.1 dX12_narrowest_124 (lv_at hl 4 rfl) ?_
          refine lv_lload X.1 X.2.1 dX12_narrowest_126 (lv_at hl 5 rfl) ?_
          obtain ⟨x28, hx28, h⟩ := kb_of h
          refine s_callSl (segs' := [gX12 g aT x15.2.2.2.2.2]) X V (c_X12_above l D g x15.2.2.1 x15.2.2.2.1 x28 hx28) w_X12_210 ⟨Nat.le_of_ble_eq_true rfl, Nat.le_of_ble_eq_true rfl⟩ ⟨Nat.zero_le _, Nat.zero_le _⟩ rfl [] rfl rfl (kFst_refl _) rfl rfl hl.1 (Nat.le_of_ble_eq_true rfl) dX12_narrowest_128 (fun H locs V => ?_)
          refine lv_goto (tgt := 162) X.1 X.2.1 dX12_narrowest_131 (by decide) ?_
          obtain rfl := Option.some.inj h
          rw [hAA] at V
          rw [hQQ]
          exact k_lret X V rfl dX12_narrowest_162
    · replace h := kif_t hc h
      refine lv_ldc2 (v := (-1 : Int64)) X.1 X.2.1 X.2.2.2.1 (X.2.2.2.2.1 _ kc_X12_220) dX12_narrowest_17 ?_
      obtain rfl := Option.some.inj h
      rw [hAA] at V
      rw [hQQ]
      exact k_lret X V rfl dX12_narrowest_20

def p_X12_strip (zT : tX12) (v1 : Int32) (v2 : Int32) : Option (Int64 × tX12) :=
  kb (p_X12_narrowest zT v1 v2 (0 : Int32)) (fun x1 => some (x1.1, x1.2))
set_option maxHeartbeats 4000000 in
set_option maxRecDepth 100000 in
theorem c_X12_strip (l : Launch) (D : va_G) (g : kG) (aT : Nat → Nat) (zT : tX12) (v1 : Int32) (v2 : Int32) (r : Int64 × tX12) (h : p_X12_strip zT v1 v2 = some r) : kMl l yX12_strip cX12_strip 3 (some .long) (kR 6 142) D (kty g) [.ref (aT 0), .int v1, .int v2] (List.flatten [gX12 g aT zT]) r.1 (List.flatten [gX12 g aT r.2]) := by
  intro sz
  refine k_enter (lv := [(0, .ref (aT 0)), (1, .int v1), (2, .int v2)]) RX12 (by decide +kernel) rfl rfl (Nat.le_of_ble_eq_true rfl) ?_
  intro p en s m args below meth c ls hsz X V hl
  obtain ⟨QQ, hQQ⟩ : ∃ q, q = MQ below (va_Ql (fun r' (_ : Unit) => r' = r.1) (fun _ => kE D (List.flatten [gX12 g aT r.2])) (va_A (List.flatten [gX12 g aT zT]) sz)) args s 0 0 (va_A (List.flatten [gX12 g aT zT]) sz) := ⟨_, rfl⟩
  rw [← hQQ]
  obtain ⟨AA, hAA⟩ : ∃ q, q = va_A (List.flatten [gX12 g aT zT]) sz := ⟨_, rfl⟩
  rw [← hAA] at V
  unfold p_X12_strip at h
  refine lv_aload_n X.1 X.2.1 dX12_strip_0 rfl (lv_at hl 0 rfl) ?_
  refine lv_iload_n X.1 X.2.1 dX12_strip_1 rfl (lv_at hl 1 rfl) ?_
  refine lv_iload_n X.1 X.2.1 dX12_strip_2 rfl (lv_at hl 2 rfl) ?_
  refine lv_iconst (v := (0 : Int32)) X.1 X.2.1 dX12_strip_3 (by decide) ?_
  obtain ⟨x2, hx2, h⟩ := kb_of h
  refine s_callVl (segs' := [gX12 g aT x2.2]) (ci := 12) (i0 := 0) X V (c_X12_narrowest l D g aT zT v1 v2 (0 : Int32) x2 hx2) w_X12_350 ⟨Nat.le_of_ble_eq_true rfl, Nat.le_of_ble_eq_true rfl⟩ ⟨Nat.zero_le _, Nat.zero_le _⟩ rfl rfl rfl rfl [0] rfl rfl ⟨gX12_fst, trivial⟩ rfl rfl hl.1 (Nat.le_of_ble_eq_true rfl) dX12_strip_4 (fun H locs V => ?_)
  obtain rfl := Option.some.inj h
  rw [hAA] at V
  rw [hQQ]
  exact k_lret X V rfl dX12_strip_7

def p_X12_box (zT : tX12) (v1 : Int32) (v2 : Int32) : Option (Int64 × tX12) :=
  kb (p_X12_narrowest zT v1 v2 (1 : Int32)) (fun x1 => some (x1.1, x1.2))
set_option maxHeartbeats 4000000 in
set_option maxRecDepth 100000 in
theorem c_X12_box (l : Launch) (D : va_G) (g : kG) (aT : Nat → Nat) (zT : tX12) (v1 : Int32) (v2 : Int32) (r : Int64 × tX12) (h : p_X12_box zT v1 v2 = some r) : kMl l yX12_box cX12_box 3 (some .long) (kR 6 142) D (kty g) [.ref (aT 0), .int v1, .int v2] (List.flatten [gX12 g aT zT]) r.1 (List.flatten [gX12 g aT r.2]) := by
  intro sz
  refine k_enter (lv := [(0, .ref (aT 0)), (1, .int v1), (2, .int v2)]) RX12 (by decide +kernel) rfl rfl (Nat.le_of_ble_eq_true rfl) ?_
  intro p en s m args below meth c ls hsz X V hl
  obtain ⟨QQ, hQQ⟩ : ∃ q, q = MQ below (va_Ql (fun r' (_ : Unit) => r' = r.1) (fun _ => kE D (List.flatten [gX12 g aT r.2])) (va_A (List.flatten [gX12 g aT zT]) sz)) args s 0 0 (va_A (List.flatten [gX12 g aT zT]) sz) := ⟨_, rfl⟩
  rw [← hQQ]
  obtain ⟨AA, hAA⟩ : ∃ q, q = va_A (List.flatten [gX12 g aT zT]) sz := ⟨_, rfl⟩
  rw [← hAA] at V
  unfold p_X12_box at h
  refine lv_aload_n X.1 X.2.1 dX12_box_0 rfl (lv_at hl 0 rfl) ?_
  refine lv_iload_n X.1 X.2.1 dX12_box_1 rfl (lv_at hl 1 rfl) ?_
  refine lv_iload_n X.1 X.2.1 dX12_box_2 rfl (lv_at hl 2 rfl) ?_
  refine lv_iconst (v := (1 : Int32)) X.1 X.2.1 dX12_box_3 (by decide) ?_
  obtain ⟨x2, hx2, h⟩ := kb_of h
  refine s_callVl (segs' := [gX12 g aT x2.2]) (ci := 12) (i0 := 0) X V (c_X12_narrowest l D g aT zT v1 v2 (1 : Int32) x2 hx2) w_X12_350 ⟨Nat.le_of_ble_eq_true rfl, Nat.le_of_ble_eq_true rfl⟩ ⟨Nat.zero_le _, Nat.zero_le _⟩ rfl rfl rfl rfl [0] rfl rfl ⟨gX12_fst, trivial⟩ rfl rfl hl.1 (Nat.le_of_ble_eq_true rfl) dX12_box_4 (fun H locs V => ?_)
  obtain rfl := Option.some.inj h
  rw [hAA] at V
  rw [hQQ]
  exact k_lret X V rfl dX12_box_7

def p_X12_couple_L102 (v1 : Int32) (v2 : Int32) (v3 : Int32) (v4 : Int32) (v5 : Int32) (v6 : Int32) (v7 : Int64) (s : Int32 × tX12) : Option (Nat × (Int32 × tX12)) :=
  kif (s.1 ≤ 0) (some (144, (s.1, s.2))) (kg (kii (s.1 - (1 : Int32)) 780) (kif ((lg_cmp ((s.2.2.2.2 41) ((s.1 - (1 : Int32))).toNatClampNeg) v7) ≤ 0) (some (144, (s.1, s.2))) (kg (kii (s.1 - (1 : Int32)) 780) (kg (kii s.1 780) (kl (s.2.1, s.2.2.1, s.2.2.2.1, va_up s.2.2.2.2 41 (vp_updL (s.2.2.2.2 41) (s.1).toNatClampNeg ((s.2.2.2.2 41) ((s.1 - (1 : Int32))).toNatClampNeg))) (fun z7 => kl (s.1 + (-1 : Int32)) (fun y8 => some (102, (y8, z7)))))))))
def p_X12_couple_L63 (v1 : Int32) (v2 : Int32) (v3 : Int32) (v5 : Int32) (s : Int32 × Int32 × tX12) : Option (Nat × (Int32 × Int32 × tX12)) :=
  kif ((s.2.2.1 15) ≤ s.2.1) (some (162, (s.1, s.2.1, s.2.2))) (kb (p_X12_apart s.2.2 v5 s.2.1) (fun x5 => kl ((((x5 * (64 : Int64)) + v5.toInt64) * (64 : Int64)) + s.2.1.toInt64) (fun y6 => kb (kitr 102 (fun q => p_X12_couple_L102 v1 v2 v3 s.1 v5 s.2.1 y6 q) kF (s.1, s.2.2)) (fun x9 => kg (x9.1 = 144) (kg (kii x9.2.1 780) (kl (x9.2.2.1, x9.2.2.2.1, x9.2.2.2.2.1, va_up x9.2.2.2.2.2 41 (vp_updL (x9.2.2.2.2.2 41) (x9.2.1).toNatClampNeg y6)) (fun z10 => kl (s.1 + (1 : Int32)) (fun y11 => kl (s.2.1 + (1 : Int32)) (fun y12 => some (63, (y11, y12, z10)))))))))))
def p_X12_couple_L48 (v1 : Int32) (v2 : Int32) (v3 : Int32) (s : Int32 × Int32 × tX12) : Option (Nat × (Int32 × Int32 × tX12)) :=
  kif ((s.2.2.1 15) ≤ s.2.1) (some (168, (s.1, s.2.1, s.2.2))) (kl (s.2.1 + (1 : Int32)) (fun y4 => kb (kitr 63 (fun q => p_X12_couple_L63 v1 v2 v3 s.2.1 q) kF (s.1, y4, s.2.2)) (fun x13 => kg (x13.1 = 162) (kl (s.2.1 + (1 : Int32)) (fun y14 => some (48, (x13.2.1, y14, x13.2.2.2)))))))
def p_X12_couple (zT : tX12) (v1 : Int32) (v2 : Int32) (v3 : Int32) : Option (Int32 × tX12) :=
  kb (p_X12_isIn v3 (0 : Int32) (2 : Int32)) (fun x1 => kif ((kz x1) = 0) (some ((-1 : Int32), zT)) (kb (p_X12_isLaid zT v1) (fun x2 => kif ((kz x2.1) = 0) (some ((-1 : Int32), x2.2)) (kb (p_X12_isIn v2 (0 : Int32) ((((x2.2.1 15) * ((x2.2.1 15) - (1 : Int32))) / (2 : Int32)) - (1 : Int32))) (fun x3 => kif ((kz x3) = 0) (some ((-1 : Int32), x2.2)) (kb (kitr 48 (fun q => p_X12_couple_L48 v1 v2 v3 q) kF ((0 : Int32), (0 : Int32), x2.2)) (fun x15 => kg (x15.1 = 168) (kg (kii v2 780) (kl ((x15.2.2.2.2.2.2 41) v2.toNatClampNeg) (fun y16 => kif (v3 = 0) (some (((y16 / (4096 : Int64))).toInt32, x15.2.2.2)) (kif (v3 = (1 : Int32)) (kg (kii (((y16 / (64 : Int64)) - (y16 / (64 : Int64)) / (64 : Int64) * (64 : Int64))).toInt32 41) (some (((x15.2.2.2.2.2.1 14) ((((y16 / (64 : Int64)) - (y16 / (64 : Int64)) / (64 : Int64) * (64 : Int64))).toInt32).toNatClampNeg), x15.2.2.2))) (kg (kii ((y16 - y16 / (64 : Int64) * (64 : Int64))).toInt32 41) (some (((x15.2.2.2.2.2.1 14) (((y16 - y16 / (64 : Int64) * (64 : Int64))).toInt32).toNatClampNeg), x15.2.2.2))))))))))))))
set_option maxHeartbeats 4000000 in
set_option maxRecDepth 100000 in
theorem c_X12_couple (l : Launch) (D : va_G) (g : kG) (aT : Nat → Nat) (zT : tX12) (v1 : Int32) (v2 : Int32) (v3 : Int32) (r : Int32 × tX12) (h : p_X12_couple zT v1 v2 v3 = some r) : kMi l yX12_couple cX12_couple 10 (some .int) (kR 3 69) D (kty g) [.ref (aT 0), .int v1, .int v2, .int v3] (List.flatten [gX12 g aT zT]) r.1 (List.flatten [gX12 g aT r.2]) := by
  intro sz
  refine k_enter (lv := [(0, .ref (aT 0)), (1, .int v1), (2, .int v2), (3, .int v3)]) RX12 (by decide +kernel) rfl rfl (Nat.le_of_ble_eq_true rfl) ?_
  intro p en s m args below meth c ls hsz X V hl
  obtain ⟨QQ, hQQ⟩ : ∃ q, q = MQ below (va_Qi (fun r' (_ : Unit) => r' = r.1) (fun _ => kE D (List.flatten [gX12 g aT r.2])) (va_A (List.flatten [gX12 g aT zT]) sz)) args s 0 0 (va_A (List.flatten [gX12 g aT zT]) sz) := ⟨_, rfl⟩
  rw [← hQQ]
  obtain ⟨AA, hAA⟩ : ∃ q, q = va_A (List.flatten [gX12 g aT zT]) sz := ⟨_, rfl⟩
  rw [← hAA] at V
  unfold p_X12_couple at h
  refine lv_iload_n X.1 X.2.1 dX12_couple_0 rfl (lv_at hl 3 rfl) ?_
  refine lv_iconst (v := (0 : Int32)) X.1 X.2.1 dX12_couple_1 (by decide) ?_
  refine lv_iconst (v := (2 : Int32)) X.1 X.2.1 dX12_couple_2 (by decide) ?_
  obtain ⟨x17, hx17, h⟩ := kb_of h
  refine s_callSi (segs' := [gX12 g aT zT]) X V (c_X12_isIn l D g v3 (0 : Int32) (2 : Int32) x17 hx17) w_X12_76 ⟨Nat.le_of_ble_eq_true rfl, Nat.le_of_ble_eq_true rfl⟩ ⟨Nat.zero_le _, Nat.zero_le _⟩ rfl [] rfl rfl (kFst_refl _) rfl rfl hl.1 (Nat.le_of_ble_eq_true rfl) dX12_couple_3 (fun H locs V => ?_)
  refine lv_if_eq (tgt := 40) X.1 X.2.1 dX12_couple_6 (by decide) (fun hc => ?_) (fun hc => ?_)
  · replace h := kif_t hc h
    refine lv_iconst (v := (-1 : Int32)) X.1 X.2.1 dX12_couple_40 (by decide) ?_
    obtain rfl := Option.some.inj h
    rw [hAA] at V
    rw [hQQ]
    exact k_iret X V rfl dX12_couple_41
  · replace h := kif_f hc h
    refine lv_aload_n X.1 X.2.1 dX12_couple_9 rfl (lv_at hl 0 rfl) ?_
    refine lv_iload_n X.1 X.2.1 dX12_couple_10 rfl (lv_at hl 1 rfl) ?_
    obtain ⟨x18, hx18, h⟩ := kb_of h
    refine s_callVi (segs' := [gX12 g aT x18.2]) (ci := 12) (i0 := 0) X V (c_X12_isLaid l D g aT zT v1 x18 hx18) w_X12_173 ⟨Nat.le_of_ble_eq_true rfl, Nat.le_of_ble_eq_true rfl⟩ ⟨Nat.zero_le _, Nat.zero_le _⟩ rfl rfl rfl rfl [0] rfl rfl ⟨gX12_fst, trivial⟩ rfl rfl hl.1 (Nat.le_of_ble_eq_true rfl) dX12_couple_11 (fun H locs V => ?_)
    refine lv_if_eq (tgt := 40) X.1 X.2.1 dX12_couple_14 (by decide) (fun hc => ?_) (fun hc => ?_)
    · replace h := kif_t hc h
      refine lv_iconst (v := (-1 : Int32)) X.1 X.2.1 dX12_couple_40 (by decide) ?_
      obtain rfl := Option.some.inj h
      rw [hAA] at V
      rw [hQQ]
      exact k_iret X V rfl dX12_couple_41
    · replace h := kif_f hc h
      refine lv_iload_n X.1 X.2.1 dX12_couple_17 rfl (lv_at hl 2 rfl) ?_
      refine lv_iconst (v := (0 : Int32)) X.1 X.2.1 dX12_couple_18 (by decide) ?_
      refine lv_aload_n X.1 X.2.1 dX12_couple_19 rfl (lv_at hl 0 rfl) ?_
      refine gf_X12_157 (i := 0) X V rfl dX12_couple_20 ?_
      refine lv_aload_n X.1 X.2.1 dX12_couple_23 rfl (lv_at hl 0 rfl) ?_
      refine gf_X12_157 (i := 0) X V rfl dX12_couple_24 ?_
      refine lv_iconst (v := (1 : Int32)) X.1 X.2.1 dX12_couple_27 (by decide) ?_
      refine lv_isub X.1 X.2.1 dX12_couple_28 ?_
      refine lv_imul X.1 X.2.1 dX12_couple_29 ?_
      refine lv_iconst (v := (2 : Int32)) X.1 X.2.1 dX12_couple_30 (by decide) ?_
      refine lv_idiv X.1 X.2.1 dX12_couple_31 (by decide) ?_
      refine lv_iconst (v := (1 : Int32)) X.1 X.2.1 dX12_couple_32 (by decide) ?_
      refine lv_isub X.1 X.2.1 dX12_couple_33 ?_
      obtain ⟨x19, hx19, h⟩ := kb_of h
      refine s_callSi (segs' := [gX12 g aT x18.2]) X V (c_X12_isIn l D g v2 (0 : Int32) ((((x18.2.1 15) * ((x18.2.1 15) - (1 : Int32))) / (2 : Int32)) - (1 : Int32)) x19 hx19) w_X12_76 ⟨Nat.le_of_ble_eq_true rfl, Nat.le_of_ble_eq_true rfl⟩ ⟨Nat.zero_le _, Nat.zero_le _⟩ rfl [] rfl rfl (kFst_refl _) rfl rfl hl.1 (Nat.le_of_ble_eq_true rfl) dX12_couple_34 (fun H locs V => ?_)
      refine lv_if_ne (tgt := 42) X.1 X.2.1 dX12_couple_37 (by decide) (fun hc => ?_) (fun hc => ?_)
      · replace h := kif_f hc h
        refine lv_iconst (v := (0 : Int32)) X.1 X.2.1 dX12_couple_42 (by decide) ?_
        refine lv_istore (lv' := [(4, .int (0 : Int32)), (0, .ref (aT 0)), (1, .int v1), (2, .int v2), (3, .int v3)]) X.1 X.2.1 dX12_couple_43 hl (by decide) rfl (fun ls hl => ?_)
        refine lv_iconst (v := (0 : Int32)) X.1 X.2.1 dX12_couple_45 (by decide) ?_
        refine lv_istore (lv' := [(5, .int (0 : Int32)), (4, .int (0 : Int32)), (0, .ref (aT 0)), (1, .int v1), (2, .int v2), (3, .int v3)]) X.1 X.2.1 dX12_couple_46 hl (by decide) rfl (fun ls hl => ?_)
        obtain ⟨x20, hx20, h⟩ := kb_of h
        refine (kitr_go (hd := 48) (body := fun q => p_X12_couple_L48 v1 v2 v3 q) (G := (fun e => ∀ (H : Heap) (locs : List Loc) (ls : Array Slot), kW D AA s.heap H (List.flatten [gX12 g aT e.2.2.2]) locs → lv_has ls 10 [(0, .ref (aT 0)), (2, .int v2), (3, .int v3), (4, .int e.2.1), (5, .int e.2.2.1)] → W p l en (kR 3 69) s m args below meth c H locs 0 0 QQ (F0 m e.1 ls []))) (fun s21 e22 hb23 hG24 => ?_) kF _ x20 hx20 ?_) _ _ _ V (lv_sub hl [2, 4, 5, 1, 0] rfl)
        · intro H locs ls V hl
          show W p l en (kR 3 69) s m args below meth c H locs 0 0 QQ (F0 m 48 ls [])
          have h : p_X12_couple_L48 v1 v2 v3 s21 = some e22 := hb23
          unfold p_X12_couple_L48 at h
          have V : kW D AA s.heap H (List.flatten [gX12 g aT s21.2.2]) locs := V
          have hl : lv_has ls 10 [(0, .ref (aT 0)), (2, .int v2), (3, .int v3), (4, .int s21.1), (5, .int s21.2.1)] := hl
          refine lv_iload X.1 X.2.1 dX12_couple_48 (lv_at hl 4 rfl) ?_
          refine lv_aload_n X.1 X.2.1 dX12_couple_50 rfl (lv_at hl 0 rfl) ?_
          refine gf_X12_157 (i := 0) X V rfl dX12_couple_51 ?_
          refine lv_icmp_ge (tgt := 168) X.1 X.2.1 dX12_couple_54 (by decide) (fun hc => ?_) (fun hc => ?_)
          · replace h := kif_t hc h
            obtain rfl := Option.some.inj h
            exact hG24 _ _ _ V (lv_sub hl [0, 1, 2, 3, 4] rfl)
          · replace h := kif_f hc h
            refine lv_iload X.1 X.2.1 dX12_couple_57 (lv_at hl 4 rfl) ?_
            refine lv_iconst (v := (1 : Int32)) X.1 X.2.1 dX12_couple_59 (by decide) ?_
            refine lv_iadd X.1 X.2.1 dX12_couple_60 ?_
            refine lv_topi (fun y25 ey25 => ?_)
            replace h := kl_of ey25 h
            refine lv_istore (lv' := [(6, .int y25), (0, .ref (aT 0)), (2, .int v2), (3, .int v3), (4, .int s21.1), (5, .int s21.2.1)]) X.1 X.2.1 dX12_couple_61 hl (by decide) rfl (fun ls hl => ?_)
            obtain ⟨x26, hx26, h⟩ := kb_of h
            refine (kitr_go (hd := 63) (body := fun q => p_X12_couple_L63 v1 v2 v3 s21.2.1 q) (G := (fun e => ∀ (H : Heap) (locs : List Loc) (ls : Array Slot), kW D AA s.heap H (List.flatten [gX12 g aT e.2.2.2]) locs → lv_has ls 10 [(0, .ref (aT 0)), (2, .int v2), (3, .int v3), (4, .int e.2.1), (5, .int s21.2.1), (6, .int e.2.2.1)] → W p l en (kR 3 69) s m args below meth c H locs 0 0 QQ (F0 m e.1 ls []))) (fun s27 e28 hb29 hG30 => ?_) kF _ x26 hx26 ?_) _ _ _ V (lv_sub hl [1, 2, 3, 4, 5, 0] rfl)
            · intro H locs ls V hl
              show W p l en (kR 3 69) s m args below meth c H locs 0 0 QQ (F0 m 63 ls [])
              have h : p_X12_couple_L63 v1 v2 v3 s21.2.1 s27 = some e28 := hb29
              unfold p_X12_couple_L63 at h
              have V : kW D AA s.heap H (List.flatten [gX12 g aT s27.2.2]) locs := V
              have hl : lv_has ls 10 [(0, .ref (aT 0)), (2, .int v2), (3, .int v3), (4, .int s27.1), (5, .int s21.2.1), (6, .int s27.2.1)] := hl
              refine lv_iload X.1 X.2.1 dX12_couple_63 (lv_at hl 5 rfl) ?_
              refine lv_aload_n X.1 X.2.1 dX12_couple_65 rfl (lv_at hl 0 rfl) ?_
              refine gf_X12_157 (i := 0) X V rfl dX12_couple_66 ?_
              refine lv_icmp_ge (tgt := 162) X.1 X.2.1 dX12_couple_69 (by decide) (fun hc => ?_) (fun hc => ?_)
              · replace h := kif_t hc h
                obtain rfl := Option.some.inj h
                exact hG30 _ _ _ V (lv_sub hl [0, 1, 2, 3, 4, 5] rfl)
              · replace h := kif_f hc h
                refine lv_aload_n X.1 X.2.1 dX12_couple_72 rfl (lv_at hl 0 rfl) ?_
                refine lv_iload X.1 X.2.1 dX12_couple_73 (lv_at hl 4 rfl) ?_
                refine lv_iload X.1 X.2.1 dX12_couple_75 (lv_at hl 5 rfl) ?_
                obtain ⟨x31, hx31, h⟩ := kb_of h
                refine s_callVl (segs' := [gX12 g aT s27.2.2]) (ci := 12) (i0 := 0) X V (c_X12_apart l D g aT s27.2.2 s21.2.1 s27.2.1 x31 hx31) w_X12_204 ⟨Nat.le_of_ble_eq_true rfl, Nat.le_of_ble_eq_true rfl⟩ ⟨Nat.zero_le _, Nat.zero_le _⟩ rfl rfl rfl rfl [0] rfl rfl (kFst_refl _) rfl rfl hl.1 (Nat.le_of_ble_eq_true rfl) dX12_couple_77 (fun H locs V => ?_)
                refine lv_ldc2 (v := (64 : Int64)) X.1 X.2.1 X.2.2.2.1 (X.2.2.2.2.1 _ kc_X12_354) dX12_couple_80 ?_
                refine lv_lmul X.1 X.2.1 dX12_couple_83 ?_
                refine lv_iload X.1 X.2.1 dX12_couple_84 (lv_at hl 4 rfl) ?_
                refine lv_i2l X.1 X.2.1 dX12_couple_86 rfl ?_
                refine lv_ladd X.1 X.2.1 dX12_couple_87 ?_
                refine lv_ldc2 (v := (64 : Int64)) X.1 X.2.1 X.2.2.2.1 (X.2.2.2.2.1 _ kc_X12_354) dX12_couple_88 ?_
                refine lv_lmul X.1 X.2.1 dX12_couple_91 ?_
                refine lv_iload X.1 X.2.1 dX12_couple_92 (lv_at hl 5 rfl) ?_
                refine lv_i2l X.1 X.2.1 dX12_couple_94 rfl ?_
                refine lv_ladd X.1 X.2.1 dX12_couple_95 ?_
                refine lv_topl (fun y32 ey32 => ?_)
                replace h := kl_of ey32 h
                refine lv_lstore (lv' := [(7, .long y32), (0, .ref (aT 0)), (2, .int v2), (3, .int v3), (4, .int s27.1), (5, .int s21.2.1), (6, .int s27.2.1)]) X.1 X.2.1 dX12_couple_96 hl (by decide) rfl (fun ls hl => ?_)
                refine lv_iload X.1 X.2.1 dX12_couple_98 (lv_at hl 4 rfl) ?_
                refine lv_istore (lv' := [(9, .int s27.1), (7, .long y32), (0, .ref (aT 0)), (2, .int v2), (3, .int v3), (4, .int s27.1), (5, .int s21.2.1), (6, .int s27.2.1)]) X.1 X.2.1 dX12_couple_100 hl (by decide) rfl (fun ls hl => ?_)
                obtain ⟨x33, hx33, h⟩ := kb_of h
                refine (kitr_go (hd := 102) (body := fun q => p_X12_couple_L102 v1 v2 v3 s27.1 s21.2.1 s27.2.1 y32 q) (G := (fun e => ∀ (H : Heap) (locs : List Loc) (ls : Array Slot), kW D AA s.heap H (List.flatten [gX12 g aT e.2.2]) locs → lv_has ls 10 [(0, .ref (aT 0)), (2, .int v2), (3, .int v3), (4, .int s27.1), (5, .int s21.2.1), (6, .int s27.2.1), (7, .long y32), (9, .int e.2.1)] → W p l en (kR 3 69) s m args below meth c H locs 0 0 QQ (F0 m e.1 ls []))) (fun s34 e35 hb36 hG37 => ?_) kF _ x33 hx33 ?_) _ _ _ V (lv_sub hl [2, 3, 4, 5, 6, 7, 1, 0] rfl)
                · intro H locs ls V hl
                  show W p l en (kR 3 69) s m args below meth c H locs 0 0 QQ (F0 m 102 ls [])
                  have h : p_X12_couple_L102 v1 v2 v3 s27.1 s21.2.1 s27.2.1 y32 s34 = some e35 := hb36
                  unfold p_X12_couple_L102 at h
                  have V : kW D AA s.heap H (List.flatten [gX12 g aT s34.2]) locs := V
                  have hl : lv_has ls 10 [(0, .ref (aT 0)), (2, .int v2), (3, .int v3), (4, .int s27.1), (5, .int s21.2.1), (6, .int s27.2.1), (7, .long y32), (9, .int s34.1)] := hl
                  refine lv_iload X.1 X.2.1 dX12_couple_102 (lv_at hl 7 rfl) ?_
                  refine lv_if_le (tgt := 144) X.1 X.2.1 dX12_couple_104 (by decide) (fun hc => ?_) (fun hc => ?_)
                  · replace h := kif_t hc h
                    obtain rfl := Option.some.inj h
                    exact hG37 _ _ _ V (lv_sub hl [0, 1, 2, 3, 4, 5, 6, 7] rfl)
                  · replace h := kif_f hc h
                    refine lv_aload_n X.1 X.2.1 dX12_couple_107 rfl (lv_at hl 0 rfl) ?_
                    refine gf_X12_60 (i := 0) X V rfl dX12_couple_108 ?_
                    refine lv_iload X.1 X.2.1 dX12_couple_111 (lv_at hl 7 rfl) ?_
                    refine lv_iconst (v := (1 : Int32)) X.1 X.2.1 dX12_couple_113 (by decide) ?_
                    refine lv_isub X.1 X.2.1 dX12_couple_114 ?_
                    obtain ⟨hc, h⟩ := kg_of h
                    refine al_X12_41 (i := 0) X V rfl hc dX12_couple_115 ?_
                    refine lv_lload X.1 X.2.1 dX12_couple_116 (lv_at hl 6 rfl) ?_
                    refine W.lcmp X.1 X.2.1 dX12_couple_118 ?_
                    refine lv_if_le (tgt := 144) X.1 X.2.1 dX12_couple_119 (by decide) (fun hc => ?_) (fun hc => ?_)
                    · replace h := kif_t hc h
                      obtain rfl := Option.some.inj h
                      exact hG37 _ _ _ V (lv_sub hl [0, 1, 2, 3, 4, 5, 6, 7] rfl)
                    · replace h := kif_f hc h
                      refine lv_aload_n X.1 X.2.1 dX12_couple_122 rfl (lv_at hl 0 rfl) ?_
                      refine gf_X12_60 (i := 0) X V rfl dX12_couple_123 ?_
                      refine lv_iload X.1 X.2.1 dX12_couple_126 (lv_at hl 7 rfl) ?_
                      refine lv_aload_n X.1 X.2.1 dX12_couple_128 rfl (lv_at hl 0 rfl) ?_
                      refine gf_X12_60 (i := 0) X V rfl dX12_couple_129 ?_
                      refine lv_iload X.1 X.2.1 dX12_couple_132 (lv_at hl 7 rfl) ?_
                      refine lv_iconst (v := (1 : Int32)) X.1 X.2.1 dX12_couple_134 (by decide) ?_
                      refine lv_isub X.1 X.2.1 dX12_couple_135 ?_
                      obtain ⟨hc, h⟩ := kg_of h
                      refine al_X12_41 (i := 0) X V rfl hc dX12_couple_136 ?_
                      obtain ⟨hc, h⟩ := kg_of h
                      refine as_X12_41 (i := 0) X V rfl hc dX12_couple_137 (fun H locs V => ?_)
                      obtain ⟨z38, ez38⟩ : ∃ y, y = (s34.2.1, s34.2.2.1, s34.2.2.2.1, va_up s34.2.2.2.2 41 (vp_updL (s34.2.2.2.2 41) (s34.1).toNatClampNeg ((s34.2.2.2.2 41) ((s34.1 - (1 : Int32))).toNatClampNeg))) := ⟨_, rfl⟩
                      replace h := kl_of ez38 h
                      have V : kW D AA s.heap H (List.flatten [gX12 g aT z38]) locs := by rw [ez38]; exact V
                      obtain ⟨y39, ey39⟩ : ∃ y : Int32, y = (s34.1 + (-1 : Int32)) := ⟨_, rfl⟩
                      replace h := kl_of ey39 h
                      refine lv_iinc (v := y39) (lv' := [(9, .int y39), (0, .ref (aT 0)), (2, .int v2), (3, .int v3), (4, .int s27.1), (5, .int s21.2.1), (6, .int s27.2.1), (7, .long y32)]) X.1 X.2.1 dX12_couple_138 hl (k := 7) rfl (by rw [ey39]; rfl) (by decide) rfl (fun ls hl => ?_)
                      refine lv_goto (tgt := 102) X.1 X.2.1 dX12_couple_141 (by decide) ?_
                      obtain rfl := Option.some.inj h
                      exact hG37 _ _ _ V (lv_sub hl [1, 2, 3, 4, 5, 6, 7, 0] rfl)
                · intro H locs ls V hl
                  have V : kW D AA s.heap H (List.flatten [gX12 g aT x33.2.2]) locs := V
                  have hl : lv_has ls 10 [(0, .ref (aT 0)), (2, .int v2), (3, .int v3), (4, .int s27.1), (5, .int s21.2.1), (6, .int s27.2.1), (7, .long y32), (9, .int x33.2.1)] := hl
                  obtain ⟨hc, h⟩ := kg_of h
                  refine W.eq (g2 := F0 m 144 ls []) (by rw [hc]) ?_
                  refine lv_aload_n X.1 X.2.1 dX12_couple_144 rfl (lv_at hl 0 rfl) ?_
                  refine gf_X12_60 (i := 0) X V rfl dX12_couple_145 ?_
                  refine lv_iload X.1 X.2.1 dX12_couple_148 (lv_at hl 7 rfl) ?_
                  refine lv_lload X.1 X.2.1 dX12_couple_150 (lv_at hl 6 rfl) ?_
                  obtain ⟨hc, h⟩ := kg_of h
                  refine as_X12_41 (i := 0) X V rfl hc dX12_couple_152 (fun H locs V => ?_)
                  obtain ⟨z40, ez40⟩ : ∃ y, y = (x33.2.2.1, x33.2.2.2.1, x33.2.2.2.2.1, va_up x33.2.2.2.2.2 41 (vp_updL (x33.2.2.2.2.2 41) (x33.2.1).toNatClampNeg y32)) := ⟨_, rfl⟩
                  replace h := kl_of ez40 h
                  have V : kW D AA s.heap H (List.flatten [gX12 g aT z40]) locs := by rw [ez40]; exact V
                  obtain ⟨y41, ey41⟩ : ∃ y : Int32, y = (s27.1 + (1 : Int32)) := ⟨_, rfl⟩
                  replace h := kl_of ey41 h
                  refine lv_iinc (v := y41) (lv' := [(4, .int y41), (0, .ref (aT 0)), (2, .int v2), (3, .int v3), (5, .int s21.2.1), (6, .int s27.2.1), (7, .long y32), (9, .int x33.2.1)]) X.1 X.2.1 dX12_couple_153 hl (k := 3) rfl (by rw [ey41]; rfl) (by decide) rfl (fun ls hl => ?_)
                  obtain ⟨y42, ey42⟩ : ∃ y : Int32, y = (s27.2.1 + (1 : Int32)) := ⟨_, rfl⟩
                  replace h := kl_of ey42 h
                  refine lv_iinc (v := y42) (lv' := [(6, .int y42), (4, .int y41), (0, .ref (aT 0)), (2, .int v2), (3, .int v3), (5, .int s21.2.1), (7, .long y32), (9, .int x33.2.1)]) X.1 X.2.1 dX12_couple_156 hl (k := 5) rfl (by rw [ey42]; rfl) (by decide) rfl (fun ls hl => ?_)
                  refine lv_goto (tgt := 63) X.1 X.2.1 dX12_couple_159 (by decide) ?_
                  obtain rfl := Option.some.inj h
                  exact hG30 _ _ _ V (lv_sub hl [2, 3, 4, 1, 5, 0] rfl)
            · intro H locs ls V hl
              have V : kW D AA s.heap H (List.flatten [gX12 g aT x26.2.2.2]) locs := V
              have hl : lv_has ls 10 [(0, .ref (aT 0)), (2, .int v2), (3, .int v3), (4, .int x26.2.1), (5, .int s21.2.1), (6, .int x26.2.2.1)] := hl
              obtain ⟨hc, h⟩ := kg_of h
              refine W.eq (g2 := F0 m 162 ls []) (by rw [hc]) ?_
              obtain ⟨y43, ey43⟩ : ∃ y : Int32, y = (s21.2.1 + (1 : Int32)) := ⟨_, rfl⟩
              replace h := kl_of ey43 h
              refine lv_iinc (v := y43) (lv' := [(5, .int y43), (0, .ref (aT 0)), (2, .int v2), (3, .int v3), (4, .int x26.2.1), (6, .int x26.2.2.1)]) X.1 X.2.1 dX12_couple_162 hl (k := 4) rfl (by rw [ey43]; rfl) (by decide) rfl (fun ls hl => ?_)
              refine lv_goto (tgt := 48) X.1 X.2.1 dX12_couple_165 (by decide) ?_
              obtain rfl := Option.some.inj h
              exact hG24 _ _ _ V (lv_sub hl [1, 2, 3, 4, 0] rfl)
        · intro H locs ls V hl
          have V : kW D AA s.heap H (List.flatten [gX12 g aT x20.2.2.2]) locs := V
          have hl : lv_has ls 10 [(0, .ref (aT 0)), (2, .int v2), (3, .int v3), (4, .int x20.2.1), (5, .int x20.2.2.1)] := hl
          obtain ⟨hc, h⟩ := kg_of h
          refine W.eq (g2 := F0 m 168 ls []) (by rw [hc]) ?_
          refine lv_aload_n X.1 X.2.1 dX12_couple_168 rfl (lv_at hl 0 rfl) ?_
          refine gf_X12_60 (i := 0) X V rfl dX12_couple_169 ?_
          refine lv_iload_n X.1 X.2.1 dX12_couple_172 rfl (lv_at hl 1 rfl) ?_
          obtain ⟨hc, h⟩ := kg_of h
          refine al_X12_41 (i := 0) X V rfl hc dX12_couple_173 ?_
          refine lv_topl (fun y44 ey44 => ?_)
          replace h := kl_of ey44 h
          refine lv_lstore (lv' := [(5, .long y44), (0, .ref (aT 0)), (2, .int v2), (3, .int v3), (4, .int x20.2.1)]) X.1 X.2.1 dX12_couple_174 hl (by decide) rfl (fun ls hl => ?_)
          refine lv_iload_n X.1 X.2.1 dX12_couple_176 rfl (lv_at hl 3 rfl) ?_
          refine lv_if_ne (tgt := 190) X.1 X.2.1 dX12_couple_177 (by decide) (fun hc => ?_) (fun hc => ?_)
          · replace h := kif_f hc h
            refine lv_iload_n X.1 X.2.1 dX12_couple_190 rfl (lv_at hl 3 rfl) ?_
            refine lv_iconst (v := (1 : Int32)) X.1 X.2.1 dX12_couple_191 (by decide) ?_
            refine lv_icmp_ne (tgt := 214) X.1 X.2.1 dX12_couple_192 (by decide) (fun hc => ?_) (fun hc => ?_)
            · replace h := kif_f hc h
              refine lv_aload_n X.1 X.2.1 dX12_couple_214 rfl (lv_at hl 1 rfl) ?_
              refine gf_X12_39 (i := 0) X V rfl dX12_couple_215 ?_
              refine lv_lload X.1 X.2.1 dX12_couple_218 (lv_at hl 0 rfl) ?_
              refine lv_ldc2 (v := (64 : Int64)) X.1 X.2.1 X.2.2.2.1 (X.2.2.2.2.1 _ kc_X12_354) dX12_couple_220 ?_
              refine lv_lrem X.1 X.2.1 dX12_couple_223 (by decide) ?_
              refine lv_l2i X.1 X.2.1 dX12_couple_224 rfl ?_
              obtain ⟨hc, h⟩ := kg_of h
              refine al_X12_14 (i := 0) X V rfl hc dX12_couple_225 ?_
              obtain rfl := Option.some.inj h
              rw [hAA] at V
              rw [hQQ]
              exact k_iret X V rfl dX12_couple_226
            · replace h := kif_t hc h
              refine lv_aload_n X.1 X.2.1 dX12_couple_195 rfl (lv_at hl 1 rfl) ?_
              refine gf_X12_39 (i := 0) X V rfl dX12_couple_196 ?_
              refine lv_lload X.1 X.2.1 dX12_couple_199 (lv_at hl 0 rfl) ?_
              refine lv_ldc2 (v := (64 : Int64)) X.1 X.2.1 X.2.2.2.1 (X.2.2.2.2.1 _ kc_X12_354) dX12_couple_201 ?_
              refine lv_ldiv X.1 X.2.1 dX12_couple_204 (by decide) ?_
              refine lv_ldc2 (v := (64 : Int64)) X.1 X.2.1 X.2.2.2.1 (X.2.2.2.2.1 _ kc_X12_354) dX12_couple_205 ?_
              refine lv_lrem X.1 X.2.1 dX12_couple_208 (by decide) ?_
              refine lv_l2i X.1 X.2.1 dX12_couple_209 rfl ?_
              obtain ⟨hc, h⟩ := kg_of h
              refine al_X12_14 (i := 0) X V rfl hc dX12_couple_210 ?_
              refine lv_goto (tgt := 226) X.1 X.2.1 dX12_couple_211 (by decide) ?_
              obtain rfl := Option.some.inj h
              rw [hAA] at V
              rw [hQQ]
              exact k_iret X V rfl dX12_couple_226
          · replace h := kif_t hc h
            refine lv_lload X.1 X.2.1 dX12_couple_180 (lv_at hl 0 rfl) ?_
            refine lv_ldc2 (v := (4096 : Int64)) X.1 X.2.1 X.2.2.2.1 (X.2.2.2.2.1 _ kc_X12_356) dX12_couple_182 ?_
            refine lv_ldiv X.1 X.2.1 dX12_couple_185 (by decide) ?_
            refine lv_l2i X.1 X.2.1 dX12_couple_186 rfl ?_
            refine lv_goto (tgt := 226) X.1 X.2.1 dX12_couple_187 (by decide) ?_
            obtain rfl := Option.some.inj h
            rw [hAA] at V
            rw [hQQ]
            exact k_iret X V rfl dX12_couple_226
      · replace h := kif_t hc h
        refine lv_iconst (v := (-1 : Int32)) X.1 X.2.1 dX12_couple_40 (by decide) ?_
        obtain rfl := Option.some.inj h
        rw [hAA] at V
        rw [hQQ]
        exact k_iret X V rfl dX12_couple_41

def p_X12_sizeOf (zT : tX12) (v1 : Int32) : Option (Int64) :=
  kg (kii v1 41) (kg (kii v1 41) (kg (kii v1 41) (kg (kii v1 41) (some ((((((zT.2.2.1 12) v1.toNatClampNeg)).toInt64 * (((zT.2.2.1 12) v1.toNatClampNeg)).toInt64) + ((((zT.2.2.1 13) v1.toNatClampNeg)).toInt64 * (((zT.2.2.1 13) v1.toNatClampNeg)).toInt64)))))))
set_option maxHeartbeats 4000000 in
set_option maxRecDepth 100000 in
theorem c_X12_sizeOf (l : Launch) (D : va_G) (g : kG) (aT : Nat → Nat) (zT : tX12) (v1 : Int32) (r : Int64) (h : p_X12_sizeOf zT v1 = some r) : kMl l yX12_sizeOf cX12_sizeOf 2 (some .long) (kR 0 0) D (kty g) [.ref (aT 0), .int v1] (List.flatten [gX12 g aT zT]) r (List.flatten [gX12 g aT zT]) := by
  intro sz
  refine k_enter (lv := [(0, .ref (aT 0)), (1, .int v1)]) RX12 (by decide +kernel) rfl rfl (Nat.le_of_ble_eq_true rfl) ?_
  intro p en s m args below meth c ls hsz X V hl
  obtain ⟨QQ, hQQ⟩ : ∃ q, q = MQ below (va_Ql (fun r' (_ : Unit) => r' = r) (fun _ => kE D (List.flatten [gX12 g aT zT])) (va_A (List.flatten [gX12 g aT zT]) sz)) args s 0 0 (va_A (List.flatten [gX12 g aT zT]) sz) := ⟨_, rfl⟩
  rw [← hQQ]
  obtain ⟨AA, hAA⟩ : ∃ q, q = va_A (List.flatten [gX12 g aT zT]) sz := ⟨_, rfl⟩
  rw [← hAA] at V
  unfold p_X12_sizeOf at h
  refine lv_aload_n X.1 X.2.1 dX12_sizeOf_0 rfl (lv_at hl 0 rfl) ?_
  refine gf_X12_33 (i := 0) X V rfl dX12_sizeOf_1 ?_
  refine lv_iload_n X.1 X.2.1 dX12_sizeOf_4 rfl (lv_at hl 1 rfl) ?_
  obtain ⟨hc, h⟩ := kg_of h
  refine al_X12_12 (i := 0) X V rfl hc dX12_sizeOf_5 ?_
  refine lv_i2l X.1 X.2.1 dX12_sizeOf_6 rfl ?_
  refine lv_aload_n X.1 X.2.1 dX12_sizeOf_7 rfl (lv_at hl 0 rfl) ?_
  refine gf_X12_33 (i := 0) X V rfl dX12_sizeOf_8 ?_
  refine lv_iload_n X.1 X.2.1 dX12_sizeOf_11 rfl (lv_at hl 1 rfl) ?_
  obtain ⟨hc, h⟩ := kg_of h
  refine al_X12_12 (i := 0) X V rfl hc dX12_sizeOf_12 ?_
  refine lv_i2l X.1 X.2.1 dX12_sizeOf_13 rfl ?_
  refine lv_lmul X.1 X.2.1 dX12_sizeOf_14 ?_
  refine lv_aload_n X.1 X.2.1 dX12_sizeOf_15 rfl (lv_at hl 0 rfl) ?_
  refine gf_X12_36 (i := 0) X V rfl dX12_sizeOf_16 ?_
  refine lv_iload_n X.1 X.2.1 dX12_sizeOf_19 rfl (lv_at hl 1 rfl) ?_
  obtain ⟨hc, h⟩ := kg_of h
  refine al_X12_13 (i := 0) X V rfl hc dX12_sizeOf_20 ?_
  refine lv_i2l X.1 X.2.1 dX12_sizeOf_21 rfl ?_
  refine lv_aload_n X.1 X.2.1 dX12_sizeOf_22 rfl (lv_at hl 0 rfl) ?_
  refine gf_X12_36 (i := 0) X V rfl dX12_sizeOf_23 ?_
  refine lv_iload_n X.1 X.2.1 dX12_sizeOf_26 rfl (lv_at hl 1 rfl) ?_
  obtain ⟨hc, h⟩ := kg_of h
  refine al_X12_13 (i := 0) X V rfl hc dX12_sizeOf_27 ?_
  refine lv_i2l X.1 X.2.1 dX12_sizeOf_28 rfl ?_
  refine lv_lmul X.1 X.2.1 dX12_sizeOf_29 ?_
  refine lv_ladd X.1 X.2.1 dX12_sizeOf_30 ?_
  obtain rfl := Option.some.inj h
  rw [hAA] at V
  rw [hQQ]
  exact k_lret X V rfl dX12_sizeOf_31

def p_X12_isBetter (zT : tX12) (v1 : Int64) (v3 : Int64) (v5 : Int64) (v7 : Int64) : Option (Bool) :=
  kb (p_X12_against v1 v7 (zT.2.1 46) (zT.2.1 44)) (fun x1 => kif (x1 = 0) (kif ((lg_cmp (v3 * (zT.2.1 44)) ((zT.2.1 42) * v7)) = 0) (kif (0 ≤ (lg_cmp (v5 * (zT.2.1 44)) ((zT.2.1 43) * v7))) (some false) (some true)) (kif (0 ≤ (lg_cmp (v3 * (zT.2.1 44)) ((zT.2.1 42) * v7))) (some false) (some true))) (kif (0 ≤ x1) (some false) (some true)))
set_option maxHeartbeats 4000000 in
set_option maxRecDepth 100000 in
theorem c_X12_isBetter (l : Launch) (D : va_G) (g : kG) (aT : Nat → Nat) (zT : tX12) (v1 : Int64) (v3 : Int64) (v5 : Int64) (v7 : Int64) (r : Bool) (h : p_X12_isBetter zT v1 v3 v5 v7 = some r) : kMi l yX12_isBetter cX12_isBetter 10 (some .boolean) (kR 1 42) D (kty g) [.ref (aT 0), .long v1, .long v3, .long v5, .long v7] (List.flatten [gX12 g aT zT]) (kz r) (List.flatten [gX12 g aT zT]) := by
  intro sz
  refine k_enter (lv := [(0, .ref (aT 0)), (1, .long v1), (3, .long v3), (5, .long v5), (7, .long v7)]) RX12 (by decide +kernel) rfl rfl (Nat.le_of_ble_eq_true rfl) ?_
  intro p en s m args below meth c ls hsz X V hl
  obtain ⟨QQ, hQQ⟩ : ∃ q, q = MQ below (va_Qi (fun r' (_ : Unit) => r' = kz r) (fun _ => kE D (List.flatten [gX12 g aT zT])) (va_A (List.flatten [gX12 g aT zT]) sz)) args s 0 0 (va_A (List.flatten [gX12 g aT zT]) sz) := ⟨_, rfl⟩
  rw [← hQQ]
  obtain ⟨AA, hAA⟩ : ∃ q, q = va_A (List.flatten [gX12 g aT zT]) sz := ⟨_, rfl⟩
  rw [← hAA] at V
  unfold p_X12_isBetter at h
  refine lv_lload_n X.1 X.2.1 dX12_isBetter_0 rfl (lv_at hl 1 rfl) ?_
  refine lv_lload X.1 X.2.1 dX12_isBetter_1 (lv_at hl 4 rfl) ?_
  refine lv_aload_n X.1 X.2.1 dX12_isBetter_3 rfl (lv_at hl 0 rfl) ?_
  refine gf_X12_382 (i := 0) X V rfl dX12_isBetter_4 ?_
  refine lv_aload_n X.1 X.2.1 dX12_isBetter_7 rfl (lv_at hl 0 rfl) ?_
  refine gf_X12_376 (i := 0) X V rfl dX12_isBetter_8 ?_
  obtain ⟨x2, hx2, h⟩ := kb_of h
  refine s_callSi (segs' := [gX12 g aT zT]) X V (c_X12_against l D g v1 v7 (zT.2.1 46) (zT.2.1 44) x2 hx2) w_X12_271 ⟨Nat.le_of_ble_eq_true rfl, Nat.le_of_ble_eq_true rfl⟩ ⟨Nat.zero_le _, Nat.zero_le _⟩ rfl [] rfl rfl (kFst_refl _) rfl rfl hl.1 (Nat.le_of_ble_eq_true rfl) dX12_isBetter_11 (fun H locs V => ?_)
  refine lv_istore (lv' := [(9, .int x2), (0, .ref (aT 0)), (1, .long v1), (3, .long v3), (5, .long v5), (7, .long v7)]) X.1 X.2.1 dX12_isBetter_14 hl (by decide) rfl (fun ls hl => ?_)
  refine lv_iload X.1 X.2.1 dX12_isBetter_16 (lv_at hl 0 rfl) ?_
  refine lv_if_eq (tgt := 32) X.1 X.2.1 dX12_isBetter_18 (by decide) (fun hc => ?_) (fun hc => ?_)
  · replace h := kif_t hc h
    refine lv_lload_n X.1 X.2.1 dX12_isBetter_32 rfl (lv_at hl 3 rfl) ?_
    refine lv_aload_n X.1 X.2.1 dX12_isBetter_33 rfl (lv_at hl 1 rfl) ?_
    refine gf_X12_376 (i := 0) X V rfl dX12_isBetter_34 ?_
    refine lv_lmul X.1 X.2.1 dX12_isBetter_37 ?_
    refine lv_aload_n X.1 X.2.1 dX12_isBetter_38 rfl (lv_at hl 1 rfl) ?_
    refine gf_X12_370 (i := 0) X V rfl dX12_isBetter_39 ?_
    refine lv_lload X.1 X.2.1 dX12_isBetter_42 (lv_at hl 5 rfl) ?_
    refine lv_lmul X.1 X.2.1 dX12_isBetter_44 ?_
    refine W.lcmp X.1 X.2.1 dX12_isBetter_45 ?_
    refine lv_if_eq (tgt := 72) X.1 X.2.1 dX12_isBetter_46 (by decide) (fun hc => ?_) (fun hc => ?_)
    · replace h := kif_t hc h
      refine lv_lload X.1 X.2.1 dX12_isBetter_72 (lv_at hl 4 rfl) ?_
      refine lv_aload_n X.1 X.2.1 dX12_isBetter_74 rfl (lv_at hl 1 rfl) ?_
      refine gf_X12_376 (i := 0) X V rfl dX12_isBetter_75 ?_
      refine lv_lmul X.1 X.2.1 dX12_isBetter_78 ?_
      refine lv_aload_n X.1 X.2.1 dX12_isBetter_79 rfl (lv_at hl 1 rfl) ?_
      refine gf_X12_373 (i := 0) X V rfl dX12_isBetter_80 ?_
      refine lv_lload X.1 X.2.1 dX12_isBetter_83 (lv_at hl 5 rfl) ?_
      refine lv_lmul X.1 X.2.1 dX12_isBetter_85 ?_
      refine W.lcmp X.1 X.2.1 dX12_isBetter_86 ?_
      refine lv_if_ge (tgt := 94) X.1 X.2.1 dX12_isBetter_87 (by decide) (fun hc => ?_) (fun hc => ?_)
      · replace h := kif_t hc h
        refine lv_iconst (v := (0 : Int32)) X.1 X.2.1 dX12_isBetter_94 (by decide) ?_
        obtain rfl := Option.some.inj h
        rw [hAA] at V
        rw [hQQ]
        exact k_zret X V (b := false) rfl rfl dX12_isBetter_95
      · replace h := kif_f hc h
        refine lv_iconst (v := (1 : Int32)) X.1 X.2.1 dX12_isBetter_90 (by decide) ?_
        refine lv_goto (tgt := 95) X.1 X.2.1 dX12_isBetter_91 (by decide) ?_
        obtain rfl := Option.some.inj h
        rw [hAA] at V
        rw [hQQ]
        exact k_zret X V (b := true) rfl rfl dX12_isBetter_95
    · replace h := kif_f hc h
      refine lv_lload_n X.1 X.2.1 dX12_isBetter_49 rfl (lv_at hl 3 rfl) ?_
      refine lv_aload_n X.1 X.2.1 dX12_isBetter_50 rfl (lv_at hl 1 rfl) ?_
      refine gf_X12_376 (i := 0) X V rfl dX12_isBetter_51 ?_
      refine lv_lmul X.1 X.2.1 dX12_isBetter_54 ?_
      refine lv_aload_n X.1 X.2.1 dX12_isBetter_55 rfl (lv_at hl 1 rfl) ?_
      refine gf_X12_370 (i := 0) X V rfl dX12_isBetter_56 ?_
      refine lv_lload X.1 X.2.1 dX12_isBetter_59 (lv_at hl 5 rfl) ?_
      refine lv_lmul X.1 X.2.1 dX12_isBetter_61 ?_
      refine W.lcmp X.1 X.2.1 dX12_isBetter_62 ?_
      refine lv_if_ge (tgt := 70) X.1 X.2.1 dX12_isBetter_63 (by decide) (fun hc => ?_) (fun hc => ?_)
      · replace h := kif_t hc h
        refine lv_iconst (v := (0 : Int32)) X.1 X.2.1 dX12_isBetter_70 (by decide) ?_
        obtain rfl := Option.some.inj h
        rw [hAA] at V
        rw [hQQ]
        exact k_zret X V (b := false) rfl rfl dX12_isBetter_71
      · replace h := kif_f hc h
        refine lv_iconst (v := (1 : Int32)) X.1 X.2.1 dX12_isBetter_66 (by decide) ?_
        refine lv_goto (tgt := 71) X.1 X.2.1 dX12_isBetter_67 (by decide) ?_
        obtain rfl := Option.some.inj h
        rw [hAA] at V
        rw [hQQ]
        exact k_zret X V (b := true) rfl rfl dX12_isBetter_71
  · replace h := kif_f hc h
    refine lv_iload X.1 X.2.1 dX12_isBetter_21 (lv_at hl 0 rfl) ?_
    refine lv_if_ge (tgt := 30) X.1 X.2.1 dX12_isBetter_23 (by decide) (fun hc => ?_) (fun hc => ?_)
    · replace h := kif_t hc h
      refine lv_iconst (v := (0 : Int32)) X.1 X.2.1 dX12_isBetter_30 (by decide) ?_
      obtain rfl := Option.some.inj h
      rw [hAA] at V
      rw [hQQ]
      exact k_zret X V (b := false) rfl rfl dX12_isBetter_31
    · replace h := kif_f hc h
      refine lv_iconst (v := (1 : Int32)) X.1 X.2.1 dX12_isBetter_26 (by decide) ?_
      refine lv_goto (tgt := 31) X.1 X.2.1 dX12_isBetter_27 (by decide) ?_
      obtain rfl := Option.some.inj h
      rw [hAA] at V
      rw [hQQ]
      exact k_zret X V (b := true) rfl rfl dX12_isBetter_31

def p_X12_tryRing_J262_194 (v1 : Int32) (v2 : Int32) (v3 : Int32) (v4 : Int32) (zT : tX12) (v21 : Int64) (v23 : Int64) (v25 : Int64) (v29 : Int64) (v31 : Int32) (v32 : Int64) (k262_0 : Int64) : Option (Nat × (Int64 × Int64 × Int32)) :=
  kif (v31 = 0) (kl (v31 + (1 : Int32)) (fun y17 => some (194, (k262_0, v32, y17)))) (kif ((lg_cmp v32 v29) ≤ 0) (kl (v31 + (1 : Int32)) (fun y18 => some (194, (k262_0, v29, y18)))) (kl (v31 + (1 : Int32)) (fun y19 => some (194, (k262_0, v32, y19)))))
def p_X12_tryRing_J255_194 (v1 : Int32) (v2 : Int32) (v3 : Int32) (v4 : Int32) (zT : tX12) (v21 : Int64) (v23 : Int64) (v25 : Int64) (v29 : Int64) (v31 : Int32) (v32 : Int64) : Option (Nat × (Int64 × Int64 × Int32)) :=
  p_X12_tryRing_J262_194 v1 v2 v3 v4 zT v21 v23 v25 v29 v31 v32 v32
def p_X12_tryRing_L194 (v1 : Int32) (v2 : Int32) (v3 : Int32) (v4 : Int32) (zT : tX12) (v21 : Int64) (v23 : Int64) (v25 : Int64) (s : Int64 × Int64 × Int32) : Option (Nat × (Int64 × Int64 × Int32)) :=
  kif ((zT.1 15) ≤ s.2.2) (some (292, (s.1, s.2.1, s.2.2))) (kb (p_X12_sizeOf zT s.2.2) (fun x15 => kg (kii s.2.2 41) (kg (kii s.2.2 41) (kl ((x15 * v25) - ((2 : Int64) * ((v21 * (((zT.2.2.1 12) s.2.2.toNatClampNeg)).toInt64) + (v23 * (((zT.2.2.1 13) s.2.2.toNatClampNeg)).toInt64)))) (fun y16 => kif (s.2.2 = 0) (p_X12_tryRing_J255_194 v1 v2 v3 v4 zT v21 v23 v25 s.2.1 s.2.2 y16) (kif (0 ≤ (lg_cmp y16 s.1)) (p_X12_tryRing_J262_194 v1 v2 v3 v4 zT v21 v23 v25 s.2.1 s.2.2 y16 s.1) (p_X12_tryRing_J255_194 v1 v2 v3 v4 zT v21 v23 v25 s.2.1 s.2.2 y16)))))))
def p_X12_tryRing_J318 (v1 : Int32) (v2 : Int32) (v3 : Int32) (v4 : Int32) (zT : tX12) (v21 : Int64) (v23 : Int64) (v25 : Int64) (v27 : Int64) (v29 : Int64) : Option (tX12) :=
  kl (va_up zT.1 47 (1 : Int32), zT.2) (fun z21 => kl (z21.1, va_up z21.2.1 42 v21, z21.2.2) (fun z22 => kl (z22.1, va_up z22.2.1 43 v23, z22.2.2) (fun z23 => kl (z23.1, va_up z23.2.1 44 v25, z23.2.2) (fun z24 => kl (z24.1, va_up z24.2.1 45 v27, z24.2.2) (fun z25 => kl (z25.1, va_up z25.2.1 46 (v29 - v27), z25.2.2) (fun z26 => some z26))))))
def p_X12_tryRing_J144 (v1 : Int32) (v2 : Int32) (v3 : Int32) (v4 : Int32) (zT : tX12) (v5 : Int64) (v7 : Int64) (v9 : Int64) (v11 : Int64) (v13 : Int64) (v15 : Int64) (v17 : Int64) (k144_0 : Int64) : Option (tX12) :=
  kl (k144_0 * ((v15 * v11) - (v17 * v7))) (fun y12 => kl (k144_0 * ((v5 * v17) - (v9 * v15))) (fun y13 => kl (k144_0 * v13) (fun y14 => kb (kitr 194 (fun q => p_X12_tryRing_L194 v1 v2 v3 v4 zT y12 y13 y14 q) kF ((0 : Int64), (0 : Int64), (0 : Int32))) (fun x20 => kg (x20.1 = 292) (kif ((zT.1 47) = 0) (p_X12_tryRing_J318 v1 v2 v3 v4 zT y12 y13 y14 x20.2.1 x20.2.2.1) (kb (p_X12_isBetter zT (x20.2.2.1 - x20.2.1) y12 y13 y14) (fun x27 => kif ((kz x27) = 0) (some zT) (p_X12_tryRing_J318 v1 v2 v3 v4 zT y12 y13 y14 x20.2.1 x20.2.2.1))))))))
def p_X12_tryRing (zT : tX12) (v1 : Int32) (v2 : Int32) (v3 : Int32) (v4 : Int32) : Option (tX12) :=
  kg (kii v2 41) (kg (kii v1 41) (kl ((2 : Int64) * ((((zT.2.2.1 12) v2.toNatClampNeg) - ((zT.2.2.1 12) v1.toNatClampNeg))).toInt64) (fun y1 => kg (kii v2 41) (kg (kii v1 41) (kl ((2 : Int64) * ((((zT.2.2.1 13) v2.toNatClampNeg) - ((zT.2.2.1 13) v1.toNatClampNeg))).toInt64) (fun y2 => kg (kii v4 41) (kg (kii v3 41) (kl ((2 : Int64) * ((((zT.2.2.1 12) v4.toNatClampNeg) - ((zT.2.2.1 12) v3.toNatClampNeg))).toInt64) (fun y3 => kg (kii v4 41) (kg (kii v3 41) (kl ((2 : Int64) * ((((zT.2.2.1 13) v4.toNatClampNeg) - ((zT.2.2.1 13) v3.toNatClampNeg))).toInt64) (fun y4 => kl ((y1 * y4) - (y3 * y2)) (fun y5 => kif ((lg_cmp y5 (0 : Int64)) = 0) (some zT) (kb (p_X12_sizeOf zT v2) (fun x6 => kb (p_X12_sizeOf zT v1) (fun x7 => kl (x6 - x7) (fun y8 => kb (p_X12_sizeOf zT v4) (fun x9 => kb (p_X12_sizeOf zT v3) (fun x10 => kl (x9 - x10) (fun y11 => kif (0 ≤ (lg_cmp y5 (0 : Int64))) (p_X12_tryRing_J144 v1 v2 v3 v4 zT y1 y2 y3 y4 y5 y8 y11 (1 : Int64)) (p_X12_tryRing_J144 v1 v2 v3 v4 zT y1 y2 y3 y4 y5 y8 y11 (-1 : Int64))))))))))))))))))))))
set_option maxHeartbeats 4000000 in
set_option maxRecDepth 100000 in
theorem c_X12_tryRing (l : Launch) (D : va_G) (g : kG) (aT : Nat → Nat) (zT : tX12) (v1 : Int32) (v2 : Int32) (v3 : Int32) (v4 : Int32) (r : tX12) (h : p_X12_tryRing zT v1 v2 v3 v4 = some r) : kMv l yX12_tryRing cX12_tryRing 34 none (kR 2 71) D (kty g) [.ref (aT 0), .int v1, .int v2, .int v3, .int v4] (List.flatten [gX12 g aT zT]) (List.flatten [gX12 g aT r]) := by
  intro sz
  refine k_enter (lv := [(0, .ref (aT 0)), (1, .int v1), (2, .int v2), (3, .int v3), (4, .int v4)]) RX12 (by decide +kernel) rfl rfl (Nat.le_of_ble_eq_true rfl) ?_
  intro p en s m args below meth c ls hsz X V hl
  obtain ⟨QQ, hQQ⟩ : ∃ q, q = MQ below (va_Qv (fun (_ : Unit) => True) (fun _ => kE D (List.flatten [gX12 g aT r])) (va_A (List.flatten [gX12 g aT zT]) sz)) args s 0 0 (va_A (List.flatten [gX12 g aT zT]) sz) := ⟨_, rfl⟩
  rw [← hQQ]
  obtain ⟨AA, hAA⟩ : ∃ q, q = va_A (List.flatten [gX12 g aT zT]) sz := ⟨_, rfl⟩
  rw [← hAA] at V
  have J318 : ∀ (zT : tX12) (v21 : Int64) (v23 : Int64) (v25 : Int64) (v27 : Int64) (v29 : Int64) (H : Heap) (locs : List Loc) (ls : Array Slot), p_X12_tryRing_J318 v1 v2 v3 v4 zT v21 v23 v25 v27 v29 = some r → kW D AA s.heap H (List.flatten [gX12 g aT zT]) locs → lv_has ls 34 [(0, .ref (aT 0)), (21, .long v21), (23, .long v23), (25, .long v25), (27, .long v27), (29, .long v29)] → W p l en (kR 2 71) s m args below meth c H locs 0 0 QQ (F0 m 318 ls []) := by
    intro zT v21 v23 v25 v27 v29 H locs ls h V hl
    unfold p_X12_tryRing_J318 at h
    refine lv_aload_n X.1 X.2.1 dX12_tryRing_318 rfl (lv_at hl 0 rfl) ?_
    refine lv_iconst (v := (1 : Int32)) X.1 X.2.1 dX12_tryRing_319 (by decide) ?_
    refine pf_X12_362 (i := 0) X V rfl rfl rfl dX12_tryRing_320 (fun H locs V => ?_)
    obtain ⟨z28, ez28⟩ : ∃ y, y = (va_up zT.1 47 (1 : Int32), zT.2) := ⟨_, rfl⟩
    replace h := kl_of ez28 h
    have V : kW D AA s.heap H (List.flatten [gX12 g aT z28]) locs := by rw [ez28]; exact V
    refine lv_aload_n X.1 X.2.1 dX12_tryRing_323 rfl (lv_at hl 0 rfl) ?_
    refine lv_lload X.1 X.2.1 dX12_tryRing_324 (lv_at hl 1 rfl) ?_
    refine pf_X12_370 (i := 0) X V rfl dX12_tryRing_326 (fun H locs V => ?_)
    obtain ⟨z29, ez29⟩ : ∃ y, y = (z28.1, va_up z28.2.1 42 v21, z28.2.2) := ⟨_, rfl⟩
    replace h := kl_of ez29 h
    have V : kW D AA s.heap H (List.flatten [gX12 g aT z29]) locs := by rw [ez29]; exact V
    refine lv_aload_n X.1 X.2.1 dX12_tryRing_329 rfl (lv_at hl 0 rfl) ?_
    refine lv_lload X.1 X.2.1 dX12_tryRing_330 (lv_at hl 2 rfl) ?_
    refine pf_X12_373 (i := 0) X V rfl dX12_tryRing_332 (fun H locs V => ?_)
    obtain ⟨z30, ez30⟩ : ∃ y, y = (z29.1, va_up z29.2.1 43 v23, z29.2.2) := ⟨_, rfl⟩
    replace h := kl_of ez30 h
    have V : kW D AA s.heap H (List.flatten [gX12 g aT z30]) locs := by rw [ez30]; exact V
    refine lv_aload_n X.1 X.2.1 dX12_tryRing_335 rfl (lv_at hl 0 rfl) ?_
    refine lv_lload X.1 X.2.1 dX12_tryRing_336 (lv_at hl 3 rfl) ?_
    refine pf_X12_376 (i := 0) X V rfl dX12_tryRing_338 (fun H locs V => ?_)
    obtain ⟨z31, ez31⟩ : ∃ y, y = (z30.1, va_up z30.2.1 44 v25, z30.2.2) := ⟨_, rfl⟩
    replace h := kl_of ez31 h
    have V : kW D AA s.heap H (List.flatten [gX12 g aT z31]) locs := by rw [ez31]; exact V
    refine lv_aload_n X.1 X.2.1 dX12_tryRing_341 rfl (lv_at hl 0 rfl) ?_
    refine lv_lload X.1 X.2.1 dX12_tryRing_342 (lv_at hl 4 rfl) ?_
    refine pf_X12_379 (i := 0) X V rfl dX12_tryRing_344 (fun H locs V => ?_)
    obtain ⟨z32, ez32⟩ : ∃ y, y = (z31.1, va_up z31.2.1 45 v27, z31.2.2) := ⟨_, rfl⟩
    replace h := kl_of ez32 h
    have V : kW D AA s.heap H (List.flatten [gX12 g aT z32]) locs := by rw [ez32]; exact V
    refine lv_aload_n X.1 X.2.1 dX12_tryRing_347 rfl (lv_at hl 0 rfl) ?_
    refine lv_lload X.1 X.2.1 dX12_tryRing_348 (lv_at hl 5 rfl) ?_
    refine lv_lload X.1 X.2.1 dX12_tryRing_350 (lv_at hl 4 rfl) ?_
    refine lv_lsub X.1 X.2.1 dX12_tryRing_352 ?_
    refine pf_X12_382 (i := 0) X V rfl dX12_tryRing_353 (fun H locs V => ?_)
    obtain ⟨z33, ez33⟩ : ∃ y, y = (z32.1, va_up z32.2.1 46 (v29 - v27), z32.2.2) := ⟨_, rfl⟩
    replace h := kl_of ez33 h
    have V : kW D AA s.heap H (List.flatten [gX12 g aT z33]) locs := by rw [ez33]; exact V
    obtain rfl := Option.some.inj h
    rw [hAA] at V
    rw [hQQ]
    exact k_vret X V dX12_tryRing_356
  have J144 : ∀ (zT : tX12) (v5 : Int64) (v7 : Int64) (v9 : Int64) (v11 : Int64) (v13 : Int64) (v15 : Int64) (v17 : Int64) (k144_0 : Int64) (H : Heap) (locs : List Loc) (ls : Array Slot), p_X12_tryRing_J144 v1 v2 v3 v4 zT v5 v7 v9 v11 v13 v15 v17 k144_0 = some r → kW D AA s.heap H (List.flatten [gX12 g aT zT]) locs → lv_has ls 34 [(0, .ref (aT 0)), (5, .long v5), (7, .long v7), (9, .long v9), (11, .long v11), (13, .long v13), (15, .long v15), (17, .long v17)] → W p l en (kR 2 71) s m args below meth c H locs 0 0 QQ (F0 m 144 ls [.long k144_0]) := by
    intro zT v5 v7 v9 v11 v13 v15 v17 k144_0 H locs ls h V hl
    unfold p_X12_tryRing_J144 at h
    refine lv_lstore (lv' := [(19, .long k144_0), (0, .ref (aT 0)), (5, .long v5), (7, .long v7), (9, .long v9), (11, .long v11), (13, .long v13), (15, .long v15), (17, .long v17)]) X.1 X.2.1 dX12_tryRing_144 hl (by decide) rfl (fun ls hl => ?_)
    refine lv_lload X.1 X.2.1 dX12_tryRing_146 (lv_at hl 0 rfl) ?_
    refine lv_lload X.1 X.2.1 dX12_tryRing_148 (lv_at hl 7 rfl) ?_
    refine lv_lload X.1 X.2.1 dX12_tryRing_150 (lv_at hl 5 rfl) ?_
    refine lv_lmul X.1 X.2.1 dX12_tryRing_152 ?_
    refine lv_lload X.1 X.2.1 dX12_tryRing_153 (lv_at hl 8 rfl) ?_
    refine lv_lload X.1 X.2.1 dX12_tryRing_155 (lv_at hl 3 rfl) ?_
    refine lv_lmul X.1 X.2.1 dX12_tryRing_157 ?_
    refine lv_lsub X.1 X.2.1 dX12_tryRing_158 ?_
    refine lv_lmul X.1 X.2.1 dX12_tryRing_159 ?_
    refine lv_topl (fun y34 ey34 => ?_)
    replace h := kl_of ey34 h
    refine lv_lstore (lv' := [(21, .long y34), (19, .long k144_0), (0, .ref (aT 0)), (5, .long v5), (7, .long v7), (9, .long v9), (11, .long v11), (13, .long v13), (15, .long v15), (17, .long v17)]) X.1 X.2.1 dX12_tryRing_160 hl (by decide) rfl (fun ls hl => ?_)
    refine lv_lload X.1 X.2.1 dX12_tryRing_162 (lv_at hl 1 rfl) ?_
    refine lv_lload X.1 X.2.1 dX12_tryRing_164 (lv_at hl 3 rfl) ?_
    refine lv_lload X.1 X.2.1 dX12_tryRing_166 (lv_at hl 9 rfl) ?_
    refine lv_lmul X.1 X.2.1 dX12_tryRing_168 ?_
    refine lv_lload X.1 X.2.1 dX12_tryRing_169 (lv_at hl 5 rfl) ?_
    refine lv_lload X.1 X.2.1 dX12_tryRing_171 (lv_at hl 8 rfl) ?_
    refine lv_lmul X.1 X.2.1 dX12_tryRing_173 ?_
    refine lv_lsub X.1 X.2.1 dX12_tryRing_174 ?_
    refine lv_lmul X.1 X.2.1 dX12_tryRing_175 ?_
    refine lv_topl (fun y35 ey35 => ?_)
    replace h := kl_of ey35 h
    refine lv_lstore (lv' := [(23, .long y35), (21, .long y34), (19, .long k144_0), (0, .ref (aT 0)), (5, .long v5), (7, .long v7), (9, .long v9), (11, .long v11), (13, .long v13), (15, .long v15), (17, .long v17)]) X.1 X.2.1 dX12_tryRing_176 hl (by decide) rfl (fun ls hl => ?_)
    refine lv_lload X.1 X.2.1 dX12_tryRing_178 (lv_at hl 2 rfl) ?_
    refine lv_lload X.1 X.2.1 dX12_tryRing_180 (lv_at hl 8 rfl) ?_
    refine lv_lmul X.1 X.2.1 dX12_tryRing_182 ?_
    refine lv_topl (fun y36 ey36 => ?_)
    replace h := kl_of ey36 h
    refine lv_lstore (lv' := [(25, .long y36), (23, .long y35), (21, .long y34), (19, .long k144_0), (0, .ref (aT 0)), (5, .long v5), (7, .long v7), (9, .long v9), (11, .long v11), (13, .long v13), (15, .long v15), (17, .long v17)]) X.1 X.2.1 dX12_tryRing_183 hl (by decide) rfl (fun ls hl => ?_)
    refine lv_lconst (v := (0 : Int64)) X.1 X.2.1 dX12_tryRing_185 (by decide) ?_
    refine lv_lstore (lv' := [(27, .long (0 : Int64)), (25, .long y36), (23, .long y35), (21, .long y34), (19, .long k144_0), (0, .ref (aT 0)), (5, .long v5), (7, .long v7), (9, .long v9), (11, .long v11), (13, .long v13), (15, .long v15), (17, .long v17)]) X.1 X.2.1 dX12_tryRing_186 hl (by decide) rfl (fun ls hl => ?_)
    refine lv_lconst (v := (0 : Int64)) X.1 X.2.1 dX12_tryRing_188 (by decide) ?_
    refine lv_lstore (lv' := [(29, .long (0 : Int64)), (27, .long (0 : Int64)), (25, .long y36), (23, .long y35), (21, .long y34), (19, .long k144_0), (0, .ref (aT 0)), (5, .long v5), (7, .long v7), (9, .long v9), (11, .long v11), (13, .long v13), (15, .long v15), (17, .long v17)]) X.1 X.2.1 dX12_tryRing_189 hl (by decide) rfl (fun ls hl => ?_)
    refine lv_iconst (v := (0 : Int32)) X.1 X.2.1 dX12_tryRing_191 (by decide) ?_
    refine lv_istore (lv' := [(31, .int (0 : Int32)), (29, .long (0 : Int64)), (27, .long (0 : Int64)), (25, .long y36), (23, .long y35), (21, .long y34), (19, .long k144_0), (0, .ref (aT 0)), (5, .long v5), (7, .long v7), (9, .long v9), (11, .long v11), (13, .long v13), (15, .long v15), (17, .long v17)]) X.1 X.2.1 dX12_tryRing_192 hl (by decide) rfl (fun ls hl => ?_)
    obtain ⟨x37, hx37, h⟩ := kb_of h
    refine (kitr_go (hd := 194) (body := fun q => p_X12_tryRing_L194 v1 v2 v3 v4 zT y34 y35 y36 q) (G := (fun e => ∀ (H : Heap) (locs : List Loc) (ls : Array Slot), kW D AA s.heap H (List.flatten [gX12 g aT zT]) locs → lv_has ls 34 [(0, .ref (aT 0)), (21, .long y34), (23, .long y35), (25, .long y36), (27, .long e.2.1), (29, .long e.2.2.1), (31, .int e.2.2.2)] → W p l en (kR 2 71) s m args below meth c H locs 0 0 QQ (F0 m e.1 ls []))) (fun s38 e39 hb40 hG41 => ?_) kF _ x37 hx37 ?_) _ _ _ V (lv_sub hl [7, 5, 4, 3, 2, 1, 0] rfl)
    · intro H locs ls V hl
      show W p l en (kR 2 71) s m args below meth c H locs 0 0 QQ (F0 m 194 ls [])
      have h : p_X12_tryRing_L194 v1 v2 v3 v4 zT y34 y35 y36 s38 = some e39 := hb40
      unfold p_X12_tryRing_L194 at h
      have V : kW D AA s.heap H (List.flatten [gX12 g aT zT]) locs := V
      have hl : lv_has ls 34 [(0, .ref (aT 0)), (21, .long y34), (23, .long y35), (25, .long y36), (27, .long s38.1), (29, .long s38.2.1), (31, .int s38.2.2)] := hl
      have J262 : ∀ (v29 : Int64) (v31 : Int32) (v32 : Int64) (k262_0 : Int64) (H : Heap) (locs : List Loc) (ls : Array Slot), p_X12_tryRing_J262_194 v1 v2 v3 v4 zT y34 y35 y36 v29 v31 v32 k262_0 = some e39 → kW D AA s.heap H (List.flatten [gX12 g aT zT]) locs → lv_has ls 34 [(0, .ref (aT 0)), (21, .long y34), (23, .long y35), (25, .long y36), (29, .long v29), (31, .int v31), (32, .long v32)] → W p l en (kR 2 71) s m args below meth c H locs 0 0 QQ (F0 m 262 ls [.long k262_0]) := by
        intro v29 v31 v32 k262_0 H locs ls h V hl
        unfold p_X12_tryRing_J262_194 at h
        refine lv_lstore (lv' := [(27, .long k262_0), (0, .ref (aT 0)), (21, .long y34), (23, .long y35), (25, .long y36), (29, .long v29), (31, .int v31), (32, .long v32)]) X.1 X.2.1 dX12_tryRing_262 hl (by decide) rfl (fun ls hl => ?_)
        refine lv_iload X.1 X.2.1 dX12_tryRing_264 (lv_at hl 6 rfl) ?_
        refine lv_if_eq (tgt := 277) X.1 X.2.1 dX12_tryRing_266 (by decide) (fun hc => ?_) (fun hc => ?_)
        · replace h := kif_t hc h
          refine lv_lload X.1 X.2.1 dX12_tryRing_277 (lv_at hl 7 rfl) ?_
          refine lv_goto (tgt := 284) X.1 X.2.1 dX12_tryRing_279 (by decide) ?_
          refine lv_lstore (lv' := [(29, .long v32), (27, .long k262_0), (0, .ref (aT 0)), (21, .long y34), (23, .long y35), (25, .long y36), (31, .int v31), (32, .long v32)]) X.1 X.2.1 dX12_tryRing_284 hl (by decide) rfl (fun ls hl => ?_)
          obtain ⟨y42, ey42⟩ : ∃ y : Int32, y = (v31 + (1 : Int32)) := ⟨_, rfl⟩
          replace h := kl_of ey42 h
          refine lv_iinc (v := y42) (lv' := [(31, .int y42), (29, .long v32), (27, .long k262_0), (0, .ref (aT 0)), (21, .long y34), (23, .long y35), (25, .long y36), (32, .long v32)]) X.1 X.2.1 dX12_tryRing_286 hl (k := 6) rfl (by rw [ey42]; rfl) (by decide) rfl (fun ls hl => ?_)
          refine lv_goto (tgt := 194) X.1 X.2.1 dX12_tryRing_289 (by decide) ?_
          obtain rfl := Option.some.inj h
          exact hG41 _ _ _ V (lv_sub hl [3, 4, 5, 6, 2, 1, 0] rfl)
        · replace h := kif_f hc h
          refine lv_lload X.1 X.2.1 dX12_tryRing_269 (lv_at hl 7 rfl) ?_
          refine lv_lload X.1 X.2.1 dX12_tryRing_271 (lv_at hl 5 rfl) ?_
          refine W.lcmp X.1 X.2.1 dX12_tryRing_273 ?_
          refine lv_if_le (tgt := 282) X.1 X.2.1 dX12_tryRing_274 (by decide) (fun hc => ?_) (fun hc => ?_)
          · replace h := kif_t hc h
            refine lv_lload X.1 X.2.1 dX12_tryRing_282 (lv_at hl 5 rfl) ?_
            refine lv_lstore (lv' := [(29, .long v29), (27, .long k262_0), (0, .ref (aT 0)), (21, .long y34), (23, .long y35), (25, .long y36), (31, .int v31), (32, .long v32)]) X.1 X.2.1 dX12_tryRing_284 hl (by decide) rfl (fun ls hl => ?_)
            obtain ⟨y43, ey43⟩ : ∃ y : Int32, y = (v31 + (1 : Int32)) := ⟨_, rfl⟩
            replace h := kl_of ey43 h
            refine lv_iinc (v := y43) (lv' := [(31, .int y43), (29, .long v29), (27, .long k262_0), (0, .ref (aT 0)), (21, .long y34), (23, .long y35), (25, .long y36), (32, .long v32)]) X.1 X.2.1 dX12_tryRing_286 hl (k := 6) rfl (by rw [ey43]; rfl) (by decide) rfl (fun ls hl => ?_)
            refine lv_goto (tgt := 194) X.1 X.2.1 dX12_tryRing_289 (by decide) ?_
            obtain rfl := Option.some.inj h
            exact hG41 _ _ _ V (lv_sub hl [3, 4, 5, 6, 2, 1, 0] rfl)
          · replace h := kif_f hc h
            refine lv_lload X.1 X.2.1 dX12_tryRing_277 (lv_at hl 7 rfl) ?_
            refine lv_goto (tgt := 284) X.1 X.2.1 dX12_tryRing_279 (by decide) ?_
            refine lv_lstore (lv' := [(29, .long v32), (27, .long k262_0), (0, .ref (aT 0)), (21, .long y34), (23, .long y35), (25, .long y36), (31, .int v31), (32, .long v32)]) X.1 X.2.1 dX12_tryRing_284 hl (by decide) rfl (fun ls hl => ?_)
            obtain ⟨y44, ey44⟩ : ∃ y : Int32, y = (v31 + (1 : Int32)) := ⟨_, rfl⟩
            replace h := kl_of ey44 h
            refine lv_iinc (v := y44) (lv' := [(31, .int y44), (29, .long v32), (27, .long k262_0), (0, .ref (aT 0)), (21, .long y34), (23, .long y35), (25, .long y36), (32, .long v32)]) X.1 X.2.1 dX12_tryRing_286 hl (k := 6) rfl (by rw [ey44]; rfl) (by decide) rfl (fun ls hl => ?_)
            refine lv_goto (tgt := 194) X.1 X.2.1 dX12_tryRing_289 (by decide) ?_
            obtain rfl := Option.some.inj h
            exact hG41 _ _ _ V (lv_sub hl [3, 4, 5, 6, 2, 1, 0] rfl)
      have J255 : ∀ (v29 : Int64) (v31 : Int32) (v32 : Int64) (H : Heap) (locs : List Loc) (ls : Array Slot), p_X12_tryRing_J255_194 v1 v2 v3 v4 zT y34 y35 y36 v29 v31 v32 = some e39 → kW D AA s.heap H (List.flatten [gX12 g aT zT]) locs → lv_has ls 34 [(0, .ref (aT 0)), (21, .long y34), (23, .long y35), (25, .long y36), (29, .long v29), (31, .int v31), (32, .long v32)] → W p l en (kR 2 71) s m args below meth c H locs 0 0 QQ (F0 m 255 ls []) := by
        intro v29 v31 v32 H locs ls h V hl
        unfold p_X12_tryRing_J255_194 at h
        refine lv_lload X.1 X.2.1 dX12_tryRing_255 (lv_at hl 6 rfl) ?_
        refine lv_goto (tgt := 262) X.1 X.2.1 dX12_tryRing_257 (by decide) ?_
        exact J262 v29 v31 v32 v32 _ _ _ h V (lv_sub hl [0, 1, 2, 3, 4, 5, 6] rfl)
      refine lv_iload X.1 X.2.1 dX12_tryRing_194 (lv_at hl 6 rfl) ?_
      refine lv_aload_n X.1 X.2.1 dX12_tryRing_196 rfl (lv_at hl 0 rfl) ?_
      refine gf_X12_157 (i := 0) X V rfl dX12_tryRing_197 ?_
      refine lv_icmp_ge (tgt := 292) X.1 X.2.1 dX12_tryRing_200 (by decide) (fun hc => ?_) (fun hc => ?_)
      · replace h := kif_t hc h
        obtain rfl := Option.some.inj h
        exact hG41 _ _ _ V (lv_sub hl [0, 1, 2, 3, 4, 5, 6] rfl)
      · replace h := kif_f hc h
        refine lv_aload_n X.1 X.2.1 dX12_tryRing_203 rfl (lv_at hl 0 rfl) ?_
        refine lv_iload X.1 X.2.1 dX12_tryRing_204 (lv_at hl 6 rfl) ?_
        obtain ⟨x45, hx45, h⟩ := kb_of h
        refine s_callVl (segs' := [gX12 g aT zT]) (ci := 12) (i0 := 0) X V (c_X12_sizeOf l D g aT zT s38.2.2 x45 hx45) w_X12_358 ⟨Nat.le_of_ble_eq_true rfl, Nat.le_of_ble_eq_true rfl⟩ ⟨Nat.zero_le _, Nat.zero_le _⟩ rfl rfl rfl rfl [0] rfl rfl (kFst_refl _) rfl rfl hl.1 (Nat.le_of_ble_eq_true rfl) dX12_tryRing_206 (fun H locs V => ?_)
        refine lv_lload X.1 X.2.1 dX12_tryRing_209 (lv_at hl 3 rfl) ?_
        refine lv_lmul X.1 X.2.1 dX12_tryRing_211 ?_
        refine lv_ldc2 (v := (2 : Int64)) X.1 X.2.1 X.2.2.2.1 (X.2.2.2.2.1 _ kc_X12_202) dX12_tryRing_212 ?_
        refine lv_lload X.1 X.2.1 dX12_tryRing_215 (lv_at hl 1 rfl) ?_
        refine lv_aload_n X.1 X.2.1 dX12_tryRing_217 rfl (lv_at hl 0 rfl) ?_
        refine gf_X12_33 (i := 0) X V rfl dX12_tryRing_218 ?_
        refine lv_iload X.1 X.2.1 dX12_tryRing_221 (lv_at hl 6 rfl) ?_
        obtain ⟨hc, h⟩ := kg_of h
        refine al_X12_12 (i := 0) X V rfl hc dX12_tryRing_223 ?_
        refine lv_i2l X.1 X.2.1 dX12_tryRing_224 rfl ?_
        refine lv_lmul X.1 X.2.1 dX12_tryRing_225 ?_
        refine lv_lload X.1 X.2.1 dX12_tryRing_226 (lv_at hl 2 rfl) ?_
        refine lv_aload_n X.1 X.2.1 dX12_tryRing_228 rfl (lv_at hl 0 rfl) ?_
        refine gf_X12_36 (i := 0) X V rfl dX12_tryRing_229 ?_
        refine lv_iload X.1 X.2.1 dX12_tryRing_232 (lv_at hl 6 rfl) ?_
        obtain ⟨hc, h⟩ := kg_of h
        refine al_X12_13 (i := 0) X V rfl hc dX12_tryRing_234 ?_
        refine lv_i2l X.1 X.2.1 dX12_tryRing_235 rfl ?_
        refine lv_lmul X.1 X.2.1 dX12_tryRing_236 ?_
        refine lv_ladd X.1 X.2.1 dX12_tryRing_237 ?_
        refine lv_lmul X.1 X.2.1 dX12_tryRing_238 ?_
        refine lv_lsub X.1 X.2.1 dX12_tryRing_239 ?_
        refine lv_topl (fun y46 ey46 => ?_)
        replace h := kl_of ey46 h
        refine lv_lstore (lv' := [(32, .long y46), (0, .ref (aT 0)), (21, .long y34), (23, .long y35), (25, .long y36), (27, .long s38.1), (29, .long s38.2.1), (31, .int s38.2.2)]) X.1 X.2.1 dX12_tryRing_240 hl (by decide) rfl (fun ls hl => ?_)
        refine lv_iload X.1 X.2.1 dX12_tryRing_242 (lv_at hl 7 rfl) ?_
        refine lv_if_eq (tgt := 255) X.1 X.2.1 dX12_tryRing_244 (by decide) (fun hc => ?_) (fun hc => ?_)
        · replace h := kif_t hc h
          exact J255 s38.2.1 s38.2.2 y46 _ _ _ h V (lv_sub hl [1, 2, 3, 4, 6, 7, 0] rfl)
        · replace h := kif_f hc h
          refine lv_lload X.1 X.2.1 dX12_tryRing_247 (lv_at hl 0 rfl) ?_
          refine lv_lload X.1 X.2.1 dX12_tryRing_249 (lv_at hl 5 rfl) ?_
          refine W.lcmp X.1 X.2.1 dX12_tryRing_251 ?_
          refine lv_if_ge (tgt := 260) X.1 X.2.1 dX12_tryRing_252 (by decide) (fun hc => ?_) (fun hc => ?_)
          · replace h := kif_t hc h
            refine lv_lload X.1 X.2.1 dX12_tryRing_260 (lv_at hl 5 rfl) ?_
            exact J262 s38.2.1 s38.2.2 y46 s38.1 _ _ _ h V (lv_sub hl [1, 2, 3, 4, 6, 7, 0] rfl)
          · replace h := kif_f hc h
            exact J255 s38.2.1 s38.2.2 y46 _ _ _ h V (lv_sub hl [1, 2, 3, 4, 6, 7, 0] rfl)
    · intro H locs ls V hl
      have V : kW D AA s.heap H (List.flatten [gX12 g aT zT]) locs := V
      have hl : lv_has ls 34 [(0, .ref (aT 0)), (21, .long y34), (23, .long y35), (25, .long y36), (27, .long x37.2.1), (29, .long x37.2.2.1), (31, .int x37.2.2.2)] := hl
      obtain ⟨hc, h⟩ := kg_of h
      refine W.eq (g2 := F0 m 292 ls []) (by rw [hc]) ?_
      refine lv_aload_n X.1 X.2.1 dX12_tryRing_292 rfl (lv_at hl 0 rfl) ?_
      refine gf_X12_362 (i := 0) X V rfl dX12_tryRing_293 ?_
      refine lv_if_eq (tgt := 318) X.1 X.2.1 dX12_tryRing_296 (by decide) (fun hc => ?_) (fun hc => ?_)
      · replace h := kif_t hc h
        exact J318 zT y34 y35 y36 x37.2.1 x37.2.2.1 _ _ _ h V (lv_sub hl [0, 1, 2, 3, 4, 5] rfl)
      · replace h := kif_f hc h
        refine lv_aload_n X.1 X.2.1 dX12_tryRing_299 rfl (lv_at hl 0 rfl) ?_
        refine lv_lload X.1 X.2.1 dX12_tryRing_300 (lv_at hl 5 rfl) ?_
        refine lv_lload X.1 X.2.1 dX12_tryRing_302 (lv_at hl 4 rfl) ?_
        refine lv_lsub X.1 X.2.1 dX12_tryRing_304 ?_
        refine lv_lload X.1 X.2.1 dX12_tryRing_305 (lv_at hl 1 rfl) ?_
        refine lv_lload X.1 X.2.1 dX12_tryRing_307 (lv_at hl 2 rfl) ?_
        refine lv_lload X.1 X.2.1 dX12_tryRing_309 (lv_at hl 3 rfl) ?_
        obtain ⟨x47, hx47, h⟩ := kb_of h
        refine s_callVi (segs' := [gX12 g aT zT]) (ci := 12) (i0 := 0) X V (c_X12_isBetter l D g aT zT (x37.2.2.1 - x37.2.1) y34 y35 y36 x47 hx47) w_X12_366 ⟨Nat.le_of_ble_eq_true rfl, Nat.le_of_ble_eq_true rfl⟩ ⟨Nat.zero_le _, Nat.zero_le _⟩ rfl rfl rfl rfl [0] rfl rfl (kFst_refl _) rfl rfl hl.1 (Nat.le_of_ble_eq_true rfl) dX12_tryRing_311 (fun H locs V => ?_)
        refine lv_if_ne (tgt := 318) X.1 X.2.1 dX12_tryRing_314 (by decide) (fun hc => ?_) (fun hc => ?_)
        · replace h := kif_f hc h
          exact J318 zT y34 y35 y36 x37.2.1 x37.2.2.1 _ _ _ h V (lv_sub hl [0, 1, 2, 3, 4, 5] rfl)
        · replace h := kif_t hc h
          obtain rfl := Option.some.inj h
          rw [hAA] at V
          rw [hQQ]
          exact k_vret X V dX12_tryRing_317
  unfold p_X12_tryRing at h
  refine lv_ldc2 (v := (2 : Int64)) X.1 X.2.1 X.2.2.2.1 (X.2.2.2.2.1 _ kc_X12_202) dX12_tryRing_0 ?_
  refine lv_aload_n X.1 X.2.1 dX12_tryRing_3 rfl (lv_at hl 0 rfl) ?_
  refine gf_X12_33 (i := 0) X V rfl dX12_tryRing_4 ?_
  refine lv_iload_n X.1 X.2.1 dX12_tryRing_7 rfl (lv_at hl 2 rfl) ?_
  obtain ⟨hc, h⟩ := kg_of h
  refine al_X12_12 (i := 0) X V rfl hc dX12_tryRing_8 ?_
  refine lv_aload_n X.1 X.2.1 dX12_tryRing_9 rfl (lv_at hl 0 rfl) ?_
  refine gf_X12_33 (i := 0) X V rfl dX12_tryRing_10 ?_
  refine lv_iload_n X.1 X.2.1 dX12_tryRing_13 rfl (lv_at hl 1 rfl) ?_
  obtain ⟨hc, h⟩ := kg_of h
  refine al_X12_12 (i := 0) X V rfl hc dX12_tryRing_14 ?_
  refine lv_isub X.1 X.2.1 dX12_tryRing_15 ?_
  refine lv_i2l X.1 X.2.1 dX12_tryRing_16 rfl ?_
  refine lv_lmul X.1 X.2.1 dX12_tryRing_17 ?_
  refine lv_topl (fun y48 ey48 => ?_)
  replace h := kl_of ey48 h
  refine lv_lstore (lv' := [(5, .long y48), (0, .ref (aT 0)), (1, .int v1), (2, .int v2), (3, .int v3), (4, .int v4)]) X.1 X.2.1 dX12_tryRing_18 hl (by decide) rfl (fun ls hl => ?_)
  refine lv_ldc2 (v := (2 : Int64)) X.1 X.2.1 X.2.2.2.1 (X.2.2.2.2.1 _ kc_X12_202) dX12_tryRing_20 ?_
  refine lv_aload_n X.1 X.2.1 dX12_tryRing_23 rfl (lv_at hl 1 rfl) ?_
  refine gf_X12_36 (i := 0) X V rfl dX12_tryRing_24 ?_
  refine lv_iload_n X.1 X.2.1 dX12_tryRing_27 rfl (lv_at hl 3 rfl) ?_
  obtain ⟨hc, h⟩ := kg_of h
  refine al_X12_13 (i := 0) X V rfl hc dX12_tryRing_28 ?_
  refine lv_aload_n X.1 X.2.1 dX12_tryRing_29 rfl (lv_at hl 1 rfl) ?_
  refine gf_X12_36 (i := 0) X V rfl dX12_tryRing_30 ?_
  refine lv_iload_n X.1 X.2.1 dX12_tryRing_33 rfl (lv_at hl 2 rfl) ?_
  obtain ⟨hc, h⟩ := kg_of h
  refine al_X12_13 (i := 0) X V rfl hc dX12_tryRing_34 ?_
  refine lv_isub X.1 X.2.1 dX12_tryRing_35 ?_
  refine lv_i2l X.1 X.2.1 dX12_tryRing_36 rfl ?_
  refine lv_lmul X.1 X.2.1 dX12_tryRing_37 ?_
  refine lv_topl (fun y49 ey49 => ?_)
  replace h := kl_of ey49 h
  refine lv_lstore (lv' := [(7, .long y49), (5, .long y48), (0, .ref (aT 0)), (1, .int v1), (2, .int v2), (3, .int v3), (4, .int v4)]) X.1 X.2.1 dX12_tryRing_38 hl (by decide) rfl (fun ls hl => ?_)
  refine lv_ldc2 (v := (2 : Int64)) X.1 X.2.1 X.2.2.2.1 (X.2.2.2.2.1 _ kc_X12_202) dX12_tryRing_40 ?_
  refine lv_aload_n X.1 X.2.1 dX12_tryRing_43 rfl (lv_at hl 2 rfl) ?_
  refine gf_X12_33 (i := 0) X V rfl dX12_tryRing_44 ?_
  refine lv_iload X.1 X.2.1 dX12_tryRing_47 (lv_at hl 6 rfl) ?_
  obtain ⟨hc, h⟩ := kg_of h
  refine al_X12_12 (i := 0) X V rfl hc dX12_tryRing_49 ?_
  refine lv_aload_n X.1 X.2.1 dX12_tryRing_50 rfl (lv_at hl 2 rfl) ?_
  refine gf_X12_33 (i := 0) X V rfl dX12_tryRing_51 ?_
  refine lv_iload_n X.1 X.2.1 dX12_tryRing_54 rfl (lv_at hl 5 rfl) ?_
  obtain ⟨hc, h⟩ := kg_of h
  refine al_X12_12 (i := 0) X V rfl hc dX12_tryRing_55 ?_
  refine lv_isub X.1 X.2.1 dX12_tryRing_56 ?_
  refine lv_i2l X.1 X.2.1 dX12_tryRing_57 rfl ?_
  refine lv_lmul X.1 X.2.1 dX12_tryRing_58 ?_
  refine lv_topl (fun y50 ey50 => ?_)
  replace h := kl_of ey50 h
  refine lv_lstore (lv' := [(9, .long y50), (7, .long y49), (5, .long y48), (0, .ref (aT 0)), (1, .int v1), (2, .int v2), (3, .int v3), (4, .int v4)]) X.1 X.2.1 dX12_tryRing_59 hl (by decide) rfl (fun ls hl => ?_)
  refine lv_ldc2 (v := (2 : Int64)) X.1 X.2.1 X.2.2.2.1 (X.2.2.2.2.1 _ kc_X12_202) dX12_tryRing_61 ?_
  refine lv_aload_n X.1 X.2.1 dX12_tryRing_64 rfl (lv_at hl 3 rfl) ?_
  refine gf_X12_36 (i := 0) X V rfl dX12_tryRing_65 ?_
  refine lv_iload X.1 X.2.1 dX12_tryRing_68 (lv_at hl 7 rfl) ?_
  obtain ⟨hc, h⟩ := kg_of h
  refine al_X12_13 (i := 0) X V rfl hc dX12_tryRing_70 ?_
  refine lv_aload_n X.1 X.2.1 dX12_tryRing_71 rfl (lv_at hl 3 rfl) ?_
  refine gf_X12_36 (i := 0) X V rfl dX12_tryRing_72 ?_
  refine lv_iload_n X.1 X.2.1 dX12_tryRing_75 rfl (lv_at hl 6 rfl) ?_
  obtain ⟨hc, h⟩ := kg_of h
  refine al_X12_13 (i := 0) X V rfl hc dX12_tryRing_76 ?_
  refine lv_isub X.1 X.2.1 dX12_tryRing_77 ?_
  refine lv_i2l X.1 X.2.1 dX12_tryRing_78 rfl ?_
  refine lv_lmul X.1 X.2.1 dX12_tryRing_79 ?_
  refine lv_topl (fun y51 ey51 => ?_)
  replace h := kl_of ey51 h
  refine lv_lstore (lv' := [(11, .long y51), (9, .long y50), (7, .long y49), (5, .long y48), (0, .ref (aT 0)), (1, .int v1), (2, .int v2), (3, .int v3), (4, .int v4)]) X.1 X.2.1 dX12_tryRing_80 hl (by decide) rfl (fun ls hl => ?_)
  refine lv_lload X.1 X.2.1 dX12_tryRing_82 (lv_at hl 3 rfl) ?_
  refine lv_lload X.1 X.2.1 dX12_tryRing_84 (lv_at hl 0 rfl) ?_
  refine lv_lmul X.1 X.2.1 dX12_tryRing_86 ?_
  refine lv_lload X.1 X.2.1 dX12_tryRing_87 (lv_at hl 1 rfl) ?_
  refine lv_lload X.1 X.2.1 dX12_tryRing_89 (lv_at hl 2 rfl) ?_
  refine lv_lmul X.1 X.2.1 dX12_tryRing_91 ?_
  refine lv_lsub X.1 X.2.1 dX12_tryRing_92 ?_
  refine lv_topl (fun y52 ey52 => ?_)
  replace h := kl_of ey52 h
  refine lv_lstore (lv' := [(13, .long y52), (11, .long y51), (9, .long y50), (7, .long y49), (5, .long y48), (0, .ref (aT 0)), (1, .int v1), (2, .int v2), (3, .int v3), (4, .int v4)]) X.1 X.2.1 dX12_tryRing_93 hl (by decide) rfl (fun ls hl => ?_)
  refine lv_lload X.1 X.2.1 dX12_tryRing_95 (lv_at hl 0 rfl) ?_
  refine lv_lconst (v := (0 : Int64)) X.1 X.2.1 dX12_tryRing_97 (by decide) ?_
  refine W.lcmp X.1 X.2.1 dX12_tryRing_98 ?_
  refine lv_if_ne (tgt := 103) X.1 X.2.1 dX12_tryRing_99 (by decide) (fun hc => ?_) (fun hc => ?_)
  · replace h := kif_f hc h
    refine lv_aload_n X.1 X.2.1 dX12_tryRing_103 rfl (lv_at hl 5 rfl) ?_
    refine lv_iload_n X.1 X.2.1 dX12_tryRing_104 rfl (lv_at hl 7 rfl) ?_
    obtain ⟨x53, hx53, h⟩ := kb_of h
    refine s_callVl (segs' := [gX12 g aT zT]) (ci := 12) (i0 := 0) X V (c_X12_sizeOf l D g aT zT v2 x53 hx53) w_X12_358 ⟨Nat.le_of_ble_eq_true rfl, Nat.le_of_ble_eq_true rfl⟩ ⟨Nat.zero_le _, Nat.zero_le _⟩ rfl rfl rfl rfl [0] rfl rfl (kFst_refl _) rfl rfl hl.1 (Nat.le_of_ble_eq_true rfl) dX12_tryRing_105 (fun H locs V => ?_)
    refine lv_aload_n X.1 X.2.1 dX12_tryRing_108 rfl (lv_at hl 5 rfl) ?_
    refine lv_iload_n X.1 X.2.1 dX12_tryRing_109 rfl (lv_at hl 6 rfl) ?_
    obtain ⟨x54, hx54, h⟩ := kb_of h
    refine s_callVl (segs' := [gX12 g aT zT]) (ci := 12) (i0 := 0) X V (c_X12_sizeOf l D g aT zT v1 x54 hx54) w_X12_358 ⟨Nat.le_of_ble_eq_true rfl, Nat.le_of_ble_eq_true rfl⟩ ⟨Nat.zero_le _, Nat.zero_le _⟩ rfl rfl rfl rfl [0] rfl rfl (kFst_refl _) rfl rfl hl.1 (Nat.le_of_ble_eq_true rfl) dX12_tryRing_110 (fun H locs V => ?_)
    refine lv_lsub X.1 X.2.1 dX12_tryRing_113 ?_
    refine lv_topl (fun y55 ey55 => ?_)
    replace h := kl_of ey55 h
    refine lv_lstore (lv' := [(15, .long y55), (13, .long y52), (11, .long y51), (9, .long y50), (7, .long y49), (5, .long y48), (0, .ref (aT 0)), (1, .int v1), (2, .int v2), (3, .int v3), (4, .int v4)]) X.1 X.2.1 dX12_tryRing_114 hl (by decide) rfl (fun ls hl => ?_)
    refine lv_aload_n X.1 X.2.1 dX12_tryRing_116 rfl (lv_at hl 6 rfl) ?_
    refine lv_iload X.1 X.2.1 dX12_tryRing_117 (lv_at hl 10 rfl) ?_
    obtain ⟨x56, hx56, h⟩ := kb_of h
    refine s_callVl (segs' := [gX12 g aT zT]) (ci := 12) (i0 := 0) X V (c_X12_sizeOf l D g aT zT v4 x56 hx56) w_X12_358 ⟨Nat.le_of_ble_eq_true rfl, Nat.le_of_ble_eq_true rfl⟩ ⟨Nat.zero_le _, Nat.zero_le _⟩ rfl rfl rfl rfl [0] rfl rfl (kFst_refl _) rfl rfl hl.1 (Nat.le_of_ble_eq_true rfl) dX12_tryRing_119 (fun H locs V => ?_)
    refine lv_aload_n X.1 X.2.1 dX12_tryRing_122 rfl (lv_at hl 6 rfl) ?_
    refine lv_iload_n X.1 X.2.1 dX12_tryRing_123 rfl (lv_at hl 9 rfl) ?_
    obtain ⟨x57, hx57, h⟩ := kb_of h
    refine s_callVl (segs' := [gX12 g aT zT]) (ci := 12) (i0 := 0) X V (c_X12_sizeOf l D g aT zT v3 x57 hx57) w_X12_358 ⟨Nat.le_of_ble_eq_true rfl, Nat.le_of_ble_eq_true rfl⟩ ⟨Nat.zero_le _, Nat.zero_le _⟩ rfl rfl rfl rfl [0] rfl rfl (kFst_refl _) rfl rfl hl.1 (Nat.le_of_ble_eq_true rfl) dX12_tryRing_124 (fun H locs V => ?_)
    refine lv_lsub X.1 X.2.1 dX12_tryRing_127 ?_
    refine lv_topl (fun y58 ey58 => ?_)
    replace h := kl_of ey58 h
    refine lv_lstore (lv' := [(17, .long y58), (15, .long y55), (13, .long y52), (11, .long y51), (9, .long y50), (7, .long y49), (5, .long y48), (0, .ref (aT 0)), (1, .int v1), (2, .int v2), (3, .int v3), (4, .int v4)]) X.1 X.2.1 dX12_tryRing_128 hl (by decide) rfl (fun ls hl => ?_)
    refine lv_lload X.1 X.2.1 dX12_tryRing_130 (lv_at hl 2 rfl) ?_
    refine lv_lconst (v := (0 : Int64)) X.1 X.2.1 dX12_tryRing_132 (by decide) ?_
    refine W.lcmp X.1 X.2.1 dX12_tryRing_133 ?_
    refine lv_if_ge (tgt := 143) X.1 X.2.1 dX12_tryRing_134 (by decide) (fun hc => ?_) (fun hc => ?_)
    · replace h := kif_t hc h
      refine lv_lconst (v := (1 : Int64)) X.1 X.2.1 dX12_tryRing_143 (by decide) ?_
      exact J144 zT y48 y49 y50 y51 y52 y55 y58 (1 : Int64) _ _ _ h V (lv_sub hl [7, 6, 5, 4, 3, 2, 1, 0] rfl)
    · replace h := kif_f hc h
      refine lv_ldc2 (v := (-1 : Int64)) X.1 X.2.1 X.2.2.2.1 (X.2.2.2.2.1 _ kc_X12_220) dX12_tryRing_137 ?_
      refine lv_goto (tgt := 144) X.1 X.2.1 dX12_tryRing_140 (by decide) ?_
      exact J144 zT y48 y49 y50 y51 y52 y55 y58 (-1 : Int64) _ _ _ h V (lv_sub hl [7, 6, 5, 4, 3, 2, 1, 0] rfl)
  · replace h := kif_t hc h
    obtain rfl := Option.some.inj h
    rw [hAA] at V
    rw [hQQ]
    exact k_vret X V dX12_tryRing_102

def p_X12_layRing_L42 (v1 : Int32) (v2 : Int32) (v3 : Int32) (s : Int32 × tX12) : Option (Nat × (Int32 × tX12)) :=
  kif ((s.2.1 15) ≤ s.1) (some (66, (s.1, s.2))) (kb (p_X12_tryRing s.2 v1 v2 v3 s.1) (fun x4 => kl (s.1 + (1 : Int32)) (fun y5 => some (42, (y5, x4)))))
def p_X12_layRing_L29 (v1 : Int32) (v2 : Int32) (s : Int32 × tX12) : Option (Nat × (Int32 × tX12)) :=
  kif ((s.2.1 15) ≤ s.1) (some (72, (s.1, s.2))) (kl (s.1 + (1 : Int32)) (fun y3 => kb (kitr 42 (fun q => p_X12_layRing_L42 v1 v2 s.1 q) kF (y3, s.2)) (fun x6 => kg (x6.1 = 66) (kl (s.1 + (1 : Int32)) (fun y7 => some (29, (y7, x6.2.2)))))))
def p_X12_layRing_L19 (v1 : Int32) (s : Int32 × tX12) : Option (Nat × (Int32 × tX12)) :=
  kif ((s.2.1 15) ≤ s.1) (some (78, (s.1, s.2))) (kb (kitr 29 (fun q => p_X12_layRing_L29 v1 s.1 q) kF (v1, s.2)) (fun x8 => kg (x8.1 = 72) (kl (s.1 + (1 : Int32)) (fun y9 => some (19, (y9, x8.2.2))))))
def p_X12_layRing_L7 (s : Int32 × tX12) : Option (Nat × (Int32 × tX12)) :=
  kif ((s.2.1 15) ≤ s.1) (some (84, (s.1, s.2))) (kl (s.1 + (1 : Int32)) (fun y2 => kb (kitr 19 (fun q => p_X12_layRing_L19 s.1 q) kF (y2, s.2)) (fun x10 => kg (x10.1 = 78) (kl (s.1 + (1 : Int32)) (fun y11 => some (7, (y11, x10.2.2)))))))
def p_X12_layRing (zT : tX12) : Option (tX12) :=
  kl (va_up zT.1 47 (0 : Int32), zT.2) (fun z1 => kb (kitr 7 (fun q => p_X12_layRing_L7 q) kF ((0 : Int32), z1)) (fun x12 => kg (x12.1 = 84) (some x12.2.2)))
set_option maxHeartbeats 4000000 in
set_option maxRecDepth 100000 in
theorem c_X12_layRing (l : Launch) (D : va_G) (g : kG) (aT : Nat → Nat) (zT : tX12) (r : tX12) (h : p_X12_layRing zT = some r) : kMv l yX12_layRing cX12_layRing 5 none (kR 3 124) D (kty g) [.ref (aT 0)] (List.flatten [gX12 g aT zT]) (List.flatten [gX12 g aT r]) := by
  intro sz
  refine k_enter (lv := [(0, .ref (aT 0))]) RX12 (by decide +kernel) rfl rfl (Nat.le_of_ble_eq_true rfl) ?_
  intro p en s m args below meth c ls hsz X V hl
  obtain ⟨QQ, hQQ⟩ : ∃ q, q = MQ below (va_Qv (fun (_ : Unit) => True) (fun _ => kE D (List.flatten [gX12 g aT r])) (va_A (List.flatten [gX12 g aT zT]) sz)) args s 0 0 (va_A (List.flatten [gX12 g aT zT]) sz) := ⟨_, rfl⟩
  rw [← hQQ]
  obtain ⟨AA, hAA⟩ : ∃ q, q = va_A (List.flatten [gX12 g aT zT]) sz := ⟨_, rfl⟩
  rw [← hAA] at V
  unfold p_X12_layRing at h
  refine lv_aload_n X.1 X.2.1 dX12_layRing_0 rfl (lv_at hl 0 rfl) ?_
  refine lv_iconst (v := (0 : Int32)) X.1 X.2.1 dX12_layRing_1 (by decide) ?_
  refine pf_X12_362 (i := 0) X V rfl rfl rfl dX12_layRing_2 (fun H locs V => ?_)
  obtain ⟨z13, ez13⟩ : ∃ y, y = (va_up zT.1 47 (0 : Int32), zT.2) := ⟨_, rfl⟩
  replace h := kl_of ez13 h
  have V : kW D AA s.heap H (List.flatten [gX12 g aT z13]) locs := by rw [ez13]; exact V
  refine lv_iconst (v := (0 : Int32)) X.1 X.2.1 dX12_layRing_5 (by decide) ?_
  refine lv_istore_n (lv' := [(1, .int (0 : Int32)), (0, .ref (aT 0))]) X.1 X.2.1 dX12_layRing_6 rfl hl (by decide) rfl (fun ls hl => ?_)
  obtain ⟨x14, hx14, h⟩ := kb_of h
  refine (kitr_go (hd := 7) (body := fun q => p_X12_layRing_L7 q) (G := (fun e => ∀ (H : Heap) (locs : List Loc) (ls : Array Slot), kW D AA s.heap H (List.flatten [gX12 g aT e.2.2]) locs → lv_has ls 5 [(0, .ref (aT 0)), (1, .int e.2.1)] → W p l en (kR 3 124) s m args below meth c H locs 0 0 QQ (F0 m e.1 ls []))) (fun s15 e16 hb17 hG18 => ?_) kF _ x14 hx14 ?_) _ _ _ V (lv_sub hl [1, 0] rfl)
  · intro H locs ls V hl
    show W p l en (kR 3 124) s m args below meth c H locs 0 0 QQ (F0 m 7 ls [])
    have h : p_X12_layRing_L7 s15 = some e16 := hb17
    unfold p_X12_layRing_L7 at h
    have V : kW D AA s.heap H (List.flatten [gX12 g aT s15.2]) locs := V
    have hl : lv_has ls 5 [(0, .ref (aT 0)), (1, .int s15.1)] := hl
    refine lv_iload_n X.1 X.2.1 dX12_layRing_7 rfl (lv_at hl 1 rfl) ?_
    refine lv_aload_n X.1 X.2.1 dX12_layRing_8 rfl (lv_at hl 0 rfl) ?_
    refine gf_X12_157 (i := 0) X V rfl dX12_layRing_9 ?_
    refine lv_icmp_ge (tgt := 84) X.1 X.2.1 dX12_layRing_12 (by decide) (fun hc => ?_) (fun hc => ?_)
    · replace h := kif_t hc h
      obtain rfl := Option.some.inj h
      exact hG18 _ _ _ V (lv_sub hl [0, 1] rfl)
    · replace h := kif_f hc h
      refine lv_iload_n X.1 X.2.1 dX12_layRing_15 rfl (lv_at hl 1 rfl) ?_
      refine lv_iconst (v := (1 : Int32)) X.1 X.2.1 dX12_layRing_16 (by decide) ?_
      refine lv_iadd X.1 X.2.1 dX12_layRing_17 ?_
      refine lv_topi (fun y19 ey19 => ?_)
      replace h := kl_of ey19 h
      refine lv_istore_n (lv' := [(2, .int y19), (0, .ref (aT 0)), (1, .int s15.1)]) X.1 X.2.1 dX12_layRing_18 rfl hl (by decide) rfl (fun ls hl => ?_)
      obtain ⟨x20, hx20, h⟩ := kb_of h
      refine (kitr_go (hd := 19) (body := fun q => p_X12_layRing_L19 s15.1 q) (G := (fun e => ∀ (H : Heap) (locs : List Loc) (ls : Array Slot), kW D AA s.heap H (List.flatten [gX12 g aT e.2.2]) locs → lv_has ls 5 [(0, .ref (aT 0)), (1, .int s15.1), (2, .int e.2.1)] → W p l en (kR 3 124) s m args below meth c H locs 0 0 QQ (F0 m e.1 ls []))) (fun s21 e22 hb23 hG24 => ?_) kF _ x20 hx20 ?_) _ _ _ V (lv_sub hl [1, 2, 0] rfl)
      · intro H locs ls V hl
        show W p l en (kR 3 124) s m args below meth c H locs 0 0 QQ (F0 m 19 ls [])
        have h : p_X12_layRing_L19 s15.1 s21 = some e22 := hb23
        unfold p_X12_layRing_L19 at h
        have V : kW D AA s.heap H (List.flatten [gX12 g aT s21.2]) locs := V
        have hl : lv_has ls 5 [(0, .ref (aT 0)), (1, .int s15.1), (2, .int s21.1)] := hl
        refine lv_iload_n X.1 X.2.1 dX12_layRing_19 rfl (lv_at hl 2 rfl) ?_
        refine lv_aload_n X.1 X.2.1 dX12_layRing_20 rfl (lv_at hl 0 rfl) ?_
        refine gf_X12_157 (i := 0) X V rfl dX12_layRing_21 ?_
        refine lv_icmp_ge (tgt := 78) X.1 X.2.1 dX12_layRing_24 (by decide) (fun hc => ?_) (fun hc => ?_)
        · replace h := kif_t hc h
          obtain rfl := Option.some.inj h
          exact hG24 _ _ _ V (lv_sub hl [0, 1, 2] rfl)
        · replace h := kif_f hc h
          refine lv_iload_n X.1 X.2.1 dX12_layRing_27 rfl (lv_at hl 1 rfl) ?_
          refine lv_istore_n (lv' := [(3, .int s15.1), (0, .ref (aT 0)), (1, .int s15.1), (2, .int s21.1)]) X.1 X.2.1 dX12_layRing_28 rfl hl (by decide) rfl (fun ls hl => ?_)
          obtain ⟨x25, hx25, h⟩ := kb_of h
          refine (kitr_go (hd := 29) (body := fun q => p_X12_layRing_L29 s15.1 s21.1 q) (G := (fun e => ∀ (H : Heap) (locs : List Loc) (ls : Array Slot), kW D AA s.heap H (List.flatten [gX12 g aT e.2.2]) locs → lv_has ls 5 [(0, .ref (aT 0)), (1, .int s15.1), (2, .int s21.1), (3, .int e.2.1)] → W p l en (kR 3 124) s m args below meth c H locs 0 0 QQ (F0 m e.1 ls []))) (fun s26 e27 hb28 hG29 => ?_) kF _ x25 hx25 ?_) _ _ _ V (lv_sub hl [1, 2, 3, 0] rfl)
          · intro H locs ls V hl
            show W p l en (kR 3 124) s m args below meth c H locs 0 0 QQ (F0 m 29 ls [])
            have h : p_X12_layRing_L29 s15.1 s21.1 s26 = some e27 := hb28
            unfold p_X12_layRing_L29 at h
            have V : kW D AA s.heap H (List.flatten [gX12 g aT s26.2]) locs := V
            have hl : lv_has ls 5 [(0, .ref (aT 0)), (1, .int s15.1), (2, .int s21.1), (3, .int s26.1)] := hl
            refine lv_iload_n X.1 X.2.1 dX12_layRing_29 rfl (lv_at hl 3 rfl) ?_
            refine lv_aload_n X.1 X.2.1 dX12_layRing_30 rfl (lv_at hl 0 rfl) ?_
            refine gf_X12_157 (i := 0) X V rfl dX12_layRing_31 ?_
            refine lv_icmp_ge (tgt := 72) X.1 X.2.1 dX12_layRing_34 (by decide) (fun hc => ?_) (fun hc => ?_)
            · replace h := kif_t hc h
              obtain rfl := Option.some.inj h
              exact hG29 _ _ _ V (lv_sub hl [0, 1, 2, 3] rfl)
            · replace h := kif_f hc h
              refine lv_iload_n X.1 X.2.1 dX12_layRing_37 rfl (lv_at hl 3 rfl) ?_
              refine lv_iconst (v := (1 : Int32)) X.1 X.2.1 dX12_layRing_38 (by decide) ?_
              refine lv_iadd X.1 X.2.1 dX12_layRing_39 ?_
              refine lv_topi (fun y30 ey30 => ?_)
              replace h := kl_of ey30 h
              refine lv_istore (lv' := [(4, .int y30), (0, .ref (aT 0)), (1, .int s15.1), (2, .int s21.1), (3, .int s26.1)]) X.1 X.2.1 dX12_layRing_40 hl (by decide) rfl (fun ls hl => ?_)
              obtain ⟨x31, hx31, h⟩ := kb_of h
              refine (kitr_go (hd := 42) (body := fun q => p_X12_layRing_L42 s15.1 s21.1 s26.1 q) (G := (fun e => ∀ (H : Heap) (locs : List Loc) (ls : Array Slot), kW D AA s.heap H (List.flatten [gX12 g aT e.2.2]) locs → lv_has ls 5 [(0, .ref (aT 0)), (1, .int s15.1), (2, .int s21.1), (3, .int s26.1), (4, .int e.2.1)] → W p l en (kR 3 124) s m args below meth c H locs 0 0 QQ (F0 m e.1 ls []))) (fun s32 e33 hb34 hG35 => ?_) kF _ x31 hx31 ?_) _ _ _ V (lv_sub hl [1, 2, 3, 4, 0] rfl)
              · intro H locs ls V hl
                show W p l en (kR 3 124) s m args below meth c H locs 0 0 QQ (F0 m 42 ls [])
                have h : p_X12_layRing_L42 s15.1 s21.1 s26.1 s32 = some e33 := hb34
                unfold p_X12_layRing_L42 at h
                have V : kW D AA s.heap H (List.flatten [gX12 g aT s32.2]) locs := V
                have hl : lv_has ls 5 [(0, .ref (aT 0)), (1, .int s15.1), (2, .int s21.1), (3, .int s26.1), (4, .int s32.1)] := hl
                refine lv_iload X.1 X.2.1 dX12_layRing_42 (lv_at hl 4 rfl) ?_
                refine lv_aload_n X.1 X.2.1 dX12_layRing_44 rfl (lv_at hl 0 rfl) ?_
                refine gf_X12_157 (i := 0) X V rfl dX12_layRing_45 ?_
                refine lv_icmp_ge (tgt := 66) X.1 X.2.1 dX12_layRing_48 (by decide) (fun hc => ?_) (fun hc => ?_)
                · replace h := kif_t hc h
                  obtain rfl := Option.some.inj h
                  exact hG35 _ _ _ V (lv_sub hl [0, 1, 2, 3, 4] rfl)
                · replace h := kif_f hc h
                  refine lv_aload_n X.1 X.2.1 dX12_layRing_51 rfl (lv_at hl 0 rfl) ?_
                  refine lv_iload_n X.1 X.2.1 dX12_layRing_52 rfl (lv_at hl 1 rfl) ?_
                  refine lv_iload_n X.1 X.2.1 dX12_layRing_53 rfl (lv_at hl 2 rfl) ?_
                  refine lv_iload_n X.1 X.2.1 dX12_layRing_54 rfl (lv_at hl 3 rfl) ?_
                  refine lv_iload X.1 X.2.1 dX12_layRing_55 (lv_at hl 4 rfl) ?_
                  obtain ⟨x36, hx36, h⟩ := kb_of h
                  refine s_callVv (segs' := [gX12 g aT x36]) (ci := 12) (i0 := 0) X V (c_X12_tryRing l D g aT s32.2 s15.1 s21.1 s26.1 s32.1 x36 hx36) w_X12_385 ⟨Nat.le_of_ble_eq_true rfl, Nat.le_of_ble_eq_true rfl⟩ ⟨Nat.zero_le _, Nat.zero_le _⟩ rfl rfl rfl rfl [0] rfl rfl ⟨gX12_fst, trivial⟩ rfl rfl hl.1 (Nat.le_of_ble_eq_true rfl) dX12_layRing_57 (fun H locs V => ?_)
                  obtain ⟨y37, ey37⟩ : ∃ y : Int32, y = (s32.1 + (1 : Int32)) := ⟨_, rfl⟩
                  replace h := kl_of ey37 h
                  refine lv_iinc (v := y37) (lv' := [(4, .int y37), (0, .ref (aT 0)), (1, .int s15.1), (2, .int s21.1), (3, .int s26.1)]) X.1 X.2.1 dX12_layRing_60 hl (k := 4) rfl (by rw [ey37]; rfl) (by decide) rfl (fun ls hl => ?_)
                  refine lv_goto (tgt := 42) X.1 X.2.1 dX12_layRing_63 (by decide) ?_
                  obtain rfl := Option.some.inj h
                  exact hG35 _ _ _ V (lv_sub hl [1, 2, 3, 4, 0] rfl)
              · intro H locs ls V hl
                have V : kW D AA s.heap H (List.flatten [gX12 g aT x31.2.2]) locs := V
                have hl : lv_has ls 5 [(0, .ref (aT 0)), (1, .int s15.1), (2, .int s21.1), (3, .int s26.1), (4, .int x31.2.1)] := hl
                obtain ⟨hc, h⟩ := kg_of h
                refine W.eq (g2 := F0 m 66 ls []) (by rw [hc]) ?_
                obtain ⟨y38, ey38⟩ : ∃ y : Int32, y = (s26.1 + (1 : Int32)) := ⟨_, rfl⟩
                replace h := kl_of ey38 h
                refine lv_iinc (v := y38) (lv' := [(3, .int y38), (0, .ref (aT 0)), (1, .int s15.1), (2, .int s21.1), (4, .int x31.2.1)]) X.1 X.2.1 dX12_layRing_66 hl (k := 3) rfl (by rw [ey38]; rfl) (by decide) rfl (fun ls hl => ?_)
                refine lv_goto (tgt := 29) X.1 X.2.1 dX12_layRing_69 (by decide) ?_
                obtain rfl := Option.some.inj h
                exact hG29 _ _ _ V (lv_sub hl [1, 2, 3, 0] rfl)
          · intro H locs ls V hl
            have V : kW D AA s.heap H (List.flatten [gX12 g aT x25.2.2]) locs := V
            have hl : lv_has ls 5 [(0, .ref (aT 0)), (1, .int s15.1), (2, .int s21.1), (3, .int x25.2.1)] := hl
            obtain ⟨hc, h⟩ := kg_of h
            refine W.eq (g2 := F0 m 72 ls []) (by rw [hc]) ?_
            obtain ⟨y39, ey39⟩ : ∃ y : Int32, y = (s21.1 + (1 : Int32)) := ⟨_, rfl⟩
            replace h := kl_of ey39 h
            refine lv_iinc (v := y39) (lv' := [(2, .int y39), (0, .ref (aT 0)), (1, .int s15.1), (3, .int x25.2.1)]) X.1 X.2.1 dX12_layRing_72 hl (k := 2) rfl (by rw [ey39]; rfl) (by decide) rfl (fun ls hl => ?_)
            refine lv_goto (tgt := 19) X.1 X.2.1 dX12_layRing_75 (by decide) ?_
            obtain rfl := Option.some.inj h
            exact hG24 _ _ _ V (lv_sub hl [1, 2, 0] rfl)
      · intro H locs ls V hl
        have V : kW D AA s.heap H (List.flatten [gX12 g aT x20.2.2]) locs := V
        have hl : lv_has ls 5 [(0, .ref (aT 0)), (1, .int s15.1), (2, .int x20.2.1)] := hl
        obtain ⟨hc, h⟩ := kg_of h
        refine W.eq (g2 := F0 m 78 ls []) (by rw [hc]) ?_
        obtain ⟨y40, ey40⟩ : ∃ y : Int32, y = (s15.1 + (1 : Int32)) := ⟨_, rfl⟩
        replace h := kl_of ey40 h
        refine lv_iinc (v := y40) (lv' := [(1, .int y40), (0, .ref (aT 0)), (2, .int x20.2.1)]) X.1 X.2.1 dX12_layRing_78 hl (k := 1) rfl (by rw [ey40]; rfl) (by decide) rfl (fun ls hl => ?_)
        refine lv_goto (tgt := 7) X.1 X.2.1 dX12_layRing_81 (by decide) ?_
        obtain rfl := Option.some.inj h
        exact hG18 _ _ _ V (lv_sub hl [1, 0] rfl)
  · intro H locs ls V hl
    have V : kW D AA s.heap H (List.flatten [gX12 g aT x14.2.2]) locs := V
    have hl : lv_has ls 5 [(0, .ref (aT 0)), (1, .int x14.2.1)] := hl
    obtain ⟨hc, h⟩ := kg_of h
    refine W.eq (g2 := F0 m 84 ls []) (by rw [hc]) ?_
    obtain rfl := Option.some.inj h
    rw [hAA] at V
    rw [hQQ]
    exact k_vret X V dX12_layRing_84

def p_X12_ring (zT : tX12) (v1 : Int32) (v2 : Int32) : Option (Int64 × tX12) :=
  kb (p_X12_isIn v2 (0 : Int32) (9 : Int32)) (fun x1 => kif ((kz x1) = 0) (some ((-1000 : Int64), zT)) (kb (p_X12_isWide zT v1) (fun x2 => kif ((kz x2.1) = 0) (some ((-1000 : Int64), x2.2)) (kif ((x2.2.1 15) ≤ (12 : Int32)) (kb (p_X12_layRing x2.2) (fun x3 => kl (x3.2.1 44) (fun y4 => kl ((((x3.2.1 42) * (x3.2.1 42)) + ((x3.2.1 43) * (x3.2.1 43))) + ((x3.2.1 45) * y4)) (fun y5 => kl (y5 + ((x3.2.1 46) * y4)) (fun y6 => kif (v2 = (0 : Int32)) (kb (p_X12_above (x3.2.1 46) y4) (fun x7 => some (x7, x3))) (kif (v2 = (1 : Int32)) (kb (p_X12_below (x3.2.1 46) y4) (fun x8 => some (x8, x3))) (kif (v2 = (2 : Int32)) (kb (p_X12_above y5 (y4 * y4)) (fun x9 => some (x9, x3))) (kif (v2 = (3 : Int32)) (kb (p_X12_below y5 (y4 * y4)) (fun x10 => some (x10, x3))) (kif (v2 = (4 : Int32)) (kb (p_X12_above y6 (y4 * y4)) (fun x11 => some (x11, x3))) (kif (v2 = (5 : Int32)) (kb (p_X12_below y6 (y4 * y4)) (fun x12 => some (x12, x3))) (kif (v2 = (6 : Int32)) (kb (p_X12_above (x3.2.1 42) y4) (fun x13 => some (x13, x3))) (kif (v2 = (7 : Int32)) (kb (p_X12_below (x3.2.1 42) y4) (fun x14 => some (x14, x3))) (kif (v2 = (8 : Int32)) (kb (p_X12_above (x3.2.1 43) y4) (fun x15 => some (x15, x3))) (kb (p_X12_below (x3.2.1 43) y4) (fun x16 => some (x16, x3)))))))))))))))) (some ((-1000 : Int64), x2.2))))))
set_option maxHeartbeats 4000000 in
set_option maxRecDepth 100000 in
theorem c_X12_ring (l : Launch) (D : va_G) (g : kG) (aT : Nat → Nat) (zT : tX12) (v1 : Int32) (v2 : Int32) (r : Int64 × tX12) (h : p_X12_ring zT v1 v2 = some r) : kMl l yX12_ring cX12_ring 9 (some .long) (kR 5 148) D (kty g) [.ref (aT 0), .int v1, .int v2] (List.flatten [gX12 g aT zT]) r.1 (List.flatten [gX12 g aT r.2]) := by
  intro sz
  refine k_enter (lv := [(0, .ref (aT 0)), (1, .int v1), (2, .int v2)]) RX12 (by decide +kernel) rfl rfl (Nat.le_of_ble_eq_true rfl) ?_
  intro p en s m args below meth c ls hsz X V hl
  obtain ⟨QQ, hQQ⟩ : ∃ q, q = MQ below (va_Ql (fun r' (_ : Unit) => r' = r.1) (fun _ => kE D (List.flatten [gX12 g aT r.2])) (va_A (List.flatten [gX12 g aT zT]) sz)) args s 0 0 (va_A (List.flatten [gX12 g aT zT]) sz) := ⟨_, rfl⟩
  rw [← hQQ]
  obtain ⟨AA, hAA⟩ : ∃ q, q = va_A (List.flatten [gX12 g aT zT]) sz := ⟨_, rfl⟩
  rw [← hAA] at V
  unfold p_X12_ring at h
  refine lv_iload_n X.1 X.2.1 dX12_ring_0 rfl (lv_at hl 2 rfl) ?_
  refine lv_iconst (v := (0 : Int32)) X.1 X.2.1 dX12_ring_1 (by decide) ?_
  refine lv_bipush (v := (9 : Int32)) X.1 X.2.1 dX12_ring_2 (by decide) ?_
  obtain ⟨x17, hx17, h⟩ := kb_of h
  refine s_callSi (segs' := [gX12 g aT zT]) X V (c_X12_isIn l D g v2 (0 : Int32) (9 : Int32) x17 hx17) w_X12_76 ⟨Nat.le_of_ble_eq_true rfl, Nat.le_of_ble_eq_true rfl⟩ ⟨Nat.zero_le _, Nat.zero_le _⟩ rfl [] rfl rfl (kFst_refl _) rfl rfl hl.1 (Nat.le_of_ble_eq_true rfl) dX12_ring_4 (fun H locs V => ?_)
  refine lv_if_eq (tgt := 27) X.1 X.2.1 dX12_ring_7 (by decide) (fun hc => ?_) (fun hc => ?_)
  · replace h := kif_t hc h
    refine lv_ldc2 (v := (-1000 : Int64)) X.1 X.2.1 X.2.2.2.1 (X.2.2.2.2.1 _ kc_X12_291) dX12_ring_27 ?_
    obtain rfl := Option.some.inj h
    rw [hAA] at V
    rw [hQQ]
    exact k_lret X V rfl dX12_ring_30
  · replace h := kif_f hc h
    refine lv_aload_n X.1 X.2.1 dX12_ring_10 rfl (lv_at hl 0 rfl) ?_
    refine lv_iload_n X.1 X.2.1 dX12_ring_11 rfl (lv_at hl 1 rfl) ?_
    obtain ⟨x18, hx18, h⟩ := kb_of h
    refine s_callVi (segs' := [gX12 g aT x18.2]) (ci := 12) (i0 := 0) X V (c_X12_isWide l D g aT zT v1 x18 hx18) w_X12_344 ⟨Nat.le_of_ble_eq_true rfl, Nat.le_of_ble_eq_true rfl⟩ ⟨Nat.zero_le _, Nat.zero_le _⟩ rfl rfl rfl rfl [0] rfl rfl ⟨gX12_fst, trivial⟩ rfl rfl hl.1 (Nat.le_of_ble_eq_true rfl) dX12_ring_12 (fun H locs V => ?_)
    refine lv_if_eq (tgt := 27) X.1 X.2.1 dX12_ring_15 (by decide) (fun hc => ?_) (fun hc => ?_)
    · replace h := kif_t hc h
      refine lv_ldc2 (v := (-1000 : Int64)) X.1 X.2.1 X.2.2.2.1 (X.2.2.2.2.1 _ kc_X12_291) dX12_ring_27 ?_
      obtain rfl := Option.some.inj h
      rw [hAA] at V
      rw [hQQ]
      exact k_lret X V rfl dX12_ring_30
    · replace h := kif_f hc h
      refine lv_aload_n X.1 X.2.1 dX12_ring_18 rfl (lv_at hl 0 rfl) ?_
      refine gf_X12_157 (i := 0) X V rfl dX12_ring_19 ?_
      refine lv_bipush (v := (12 : Int32)) X.1 X.2.1 dX12_ring_22 (by decide) ?_
      refine lv_icmp_le (tgt := 31) X.1 X.2.1 dX12_ring_24 (by decide) (fun hc => ?_) (fun hc => ?_)
      · replace h := kif_t hc h
        refine lv_aload_n X.1 X.2.1 dX12_ring_31 rfl (lv_at hl 0 rfl) ?_
        obtain ⟨x19, hx19, h⟩ := kb_of h
        refine s_callVv (segs' := [gX12 g aT x19]) (ci := 12) (i0 := 0) X V (c_X12_layRing l D g aT x18.2 x19 hx19) w_X12_388 ⟨Nat.le_of_ble_eq_true rfl, Nat.le_of_ble_eq_true rfl⟩ ⟨Nat.zero_le _, Nat.zero_le _⟩ rfl rfl rfl rfl [0] rfl rfl ⟨gX12_fst, trivial⟩ rfl rfl hl.1 (Nat.le_of_ble_eq_true rfl) dX12_ring_32 (fun H locs V => ?_)
        refine lv_aload_n X.1 X.2.1 dX12_ring_35 rfl (lv_at hl 0 rfl) ?_
        refine gf_X12_376 (i := 0) X V rfl dX12_ring_36 ?_
        refine lv_topl (fun y20 ey20 => ?_)
        replace h := kl_of ey20 h
        refine lv_lstore_n (lv' := [(3, .long y20), (0, .ref (aT 0)), (1, .int v1), (2, .int v2)]) X.1 X.2.1 dX12_ring_39 rfl hl (by decide) rfl (fun ls hl => ?_)
        refine lv_aload_n X.1 X.2.1 dX12_ring_40 rfl (lv_at hl 1 rfl) ?_
        refine gf_X12_370 (i := 0) X V rfl dX12_ring_41 ?_
        refine lv_aload_n X.1 X.2.1 dX12_ring_44 rfl (lv_at hl 1 rfl) ?_
        refine gf_X12_370 (i := 0) X V rfl dX12_ring_45 ?_
        refine lv_lmul X.1 X.2.1 dX12_ring_48 ?_
        refine lv_aload_n X.1 X.2.1 dX12_ring_49 rfl (lv_at hl 1 rfl) ?_
        refine gf_X12_373 (i := 0) X V rfl dX12_ring_50 ?_
        refine lv_aload_n X.1 X.2.1 dX12_ring_53 rfl (lv_at hl 1 rfl) ?_
        refine gf_X12_373 (i := 0) X V rfl dX12_ring_54 ?_
        refine lv_lmul X.1 X.2.1 dX12_ring_57 ?_
        refine lv_ladd X.1 X.2.1 dX12_ring_58 ?_
        refine lv_aload_n X.1 X.2.1 dX12_ring_59 rfl (lv_at hl 1 rfl) ?_
        refine gf_X12_379 (i := 0) X V rfl dX12_ring_60 ?_
        refine lv_lload_n X.1 X.2.1 dX12_ring_63 rfl (lv_at hl 0 rfl) ?_
        refine lv_lmul X.1 X.2.1 dX12_ring_64 ?_
        refine lv_ladd X.1 X.2.1 dX12_ring_65 ?_
        refine lv_topl (fun y21 ey21 => ?_)
        replace h := kl_of ey21 h
        refine lv_lstore (lv' := [(5, .long y21), (3, .long y20), (0, .ref (aT 0)), (1, .int v1), (2, .int v2)]) X.1 X.2.1 dX12_ring_66 hl (by decide) rfl (fun ls hl => ?_)
        refine lv_lload X.1 X.2.1 dX12_ring_68 (lv_at hl 0 rfl) ?_
        refine lv_aload_n X.1 X.2.1 dX12_ring_70 rfl (lv_at hl 2 rfl) ?_
        refine gf_X12_382 (i := 0) X V rfl dX12_ring_71 ?_
        refine lv_lload_n X.1 X.2.1 dX12_ring_74 rfl (lv_at hl 1 rfl) ?_
        refine lv_lmul X.1 X.2.1 dX12_ring_75 ?_
        refine lv_ladd X.1 X.2.1 dX12_ring_76 ?_
        refine lv_topl (fun y22 ey22 => ?_)
        replace h := kl_of ey22 h
        refine lv_lstore (lv' := [(7, .long y22), (5, .long y21), (3, .long y20), (0, .ref (aT 0)), (1, .int v1), (2, .int v2)]) X.1 X.2.1 dX12_ring_77 hl (by decide) rfl (fun ls hl => ?_)
        refine lv_iload_n X.1 X.2.1 dX12_ring_79 rfl (lv_at hl 5 rfl) ?_
        by_cases hs0 : v2 = (0 : Int32)
        · replace h := kif_t hs0 h
          refine lv_tableIn (off := 52) (tgt := 132) X.1 X.2.1 dX12_ring_80 (by rw [hs0]; decide) (by rw [hs0]; decide) (by rw [hs0]; rfl) (by decide) ?_
          refine lv_aload_n X.1 X.2.1 dX12_ring_132 rfl (lv_at hl 3 rfl) ?_
          refine gf_X12_382 (i := 0) X V rfl dX12_ring_133 ?_
          refine lv_lload_n X.1 X.2.1 dX12_ring_136 rfl (lv_at hl 2 rfl) ?_
          obtain ⟨x23, hx23, h⟩ := kb_of h
          refine s_callSl (segs' := [gX12 g aT x19]) X V (c_X12_above l D g (x19.2.1 46) y20 x23 hx23) w_X12_210 ⟨Nat.le_of_ble_eq_true rfl, Nat.le_of_ble_eq_true rfl⟩ ⟨Nat.zero_le _, Nat.zero_le _⟩ rfl [] rfl rfl (kFst_refl _) rfl rfl hl.1 (Nat.le_of_ble_eq_true rfl) dX12_ring_137 (fun H locs V => ?_)
          obtain rfl := Option.some.inj h
          rw [hAA] at V
          rw [hQQ]
          exact k_lret X V rfl dX12_ring_140
        · replace h := kif_f hs0 h
          by_cases hs1 : v2 = (1 : Int32)
          · replace h := kif_t hs1 h
            refine lv_tableIn (off := 61) (tgt := 141) X.1 X.2.1 dX12_ring_80 (by rw [hs1]; decide) (by rw [hs1]; decide) (by rw [hs1]; rfl) (by decide) ?_
            refine lv_aload_n X.1 X.2.1 dX12_ring_141 rfl (lv_at hl 3 rfl) ?_
            refine gf_X12_382 (i := 0) X V rfl dX12_ring_142 ?_
            refine lv_lload_n X.1 X.2.1 dX12_ring_145 rfl (lv_at hl 2 rfl) ?_
            obtain ⟨x24, hx24, h⟩ := kb_of h
            refine s_callSl (segs' := [gX12 g aT x19]) X V (c_X12_below l D g (x19.2.1 46) y20 x24 hx24) w_X12_213 ⟨Nat.le_of_ble_eq_true rfl, Nat.le_of_ble_eq_true rfl⟩ ⟨Nat.zero_le _, Nat.zero_le _⟩ rfl [] rfl rfl (kFst_refl _) rfl rfl hl.1 (Nat.le_of_ble_eq_true rfl) dX12_ring_146 (fun H locs V => ?_)
            obtain rfl := Option.some.inj h
            rw [hAA] at V
            rw [hQQ]
            exact k_lret X V rfl dX12_ring_149
          · replace h := kif_f hs1 h
            by_cases hs2 : v2 = (2 : Int32)
            · replace h := kif_t hs2 h
              refine lv_tableIn (off := 70) (tgt := 150) X.1 X.2.1 dX12_ring_80 (by rw [hs2]; decide) (by rw [hs2]; decide) (by rw [hs2]; rfl) (by decide) ?_
              refine lv_lload X.1 X.2.1 dX12_ring_150 (lv_at hl 1 rfl) ?_
              refine lv_lload_n X.1 X.2.1 dX12_ring_152 rfl (lv_at hl 2 rfl) ?_
              refine lv_lload_n X.1 X.2.1 dX12_ring_153 rfl (lv_at hl 2 rfl) ?_
              refine lv_lmul X.1 X.2.1 dX12_ring_154 ?_
              obtain ⟨x25, hx25, h⟩ := kb_of h
              refine s_callSl (segs' := [gX12 g aT x19]) X V (c_X12_above l D g y21 (y20 * y20) x25 hx25) w_X12_210 ⟨Nat.le_of_ble_eq_true rfl, Nat.le_of_ble_eq_true rfl⟩ ⟨Nat.zero_le _, Nat.zero_le _⟩ rfl [] rfl rfl (kFst_refl _) rfl rfl hl.1 (Nat.le_of_ble_eq_true rfl) dX12_ring_155 (fun H locs V => ?_)
              obtain rfl := Option.some.inj h
              rw [hAA] at V
              rw [hQQ]
              exact k_lret X V rfl dX12_ring_158
            · replace h := kif_f hs2 h
              by_cases hs3 : v2 = (3 : Int32)
              · replace h := kif_t hs3 h
                refine lv_tableIn (off := 79) (tgt := 159) X.1 X.2.1 dX12_ring_80 (by rw [hs3]; decide) (by rw [hs3]; decide) (by rw [hs3]; rfl) (by decide) ?_
                refine lv_lload X.1 X.2.1 dX12_ring_159 (lv_at hl 1 rfl) ?_
                refine lv_lload_n X.1 X.2.1 dX12_ring_161 rfl (lv_at hl 2 rfl) ?_
                refine lv_lload_n X.1 X.2.1 dX12_ring_162 rfl (lv_at hl 2 rfl) ?_
                refine lv_lmul X.1 X.2.1 dX12_ring_163 ?_
                obtain ⟨x26, hx26, h⟩ := kb_of h
                refine s_callSl (segs' := [gX12 g aT x19]) X V (c_X12_below l D g y21 (y20 * y20) x26 hx26) w_X12_213 ⟨Nat.le_of_ble_eq_true rfl, Nat.le_of_ble_eq_true rfl⟩ ⟨Nat.zero_le _, Nat.zero_le _⟩ rfl [] rfl rfl (kFst_refl _) rfl rfl hl.1 (Nat.le_of_ble_eq_true rfl) dX12_ring_164 (fun H locs V => ?_)
                obtain rfl := Option.some.inj h
                rw [hAA] at V
                rw [hQQ]
                exact k_lret X V rfl dX12_ring_167
              · replace h := kif_f hs3 h
                by_cases hs4 : v2 = (4 : Int32)
                · replace h := kif_t hs4 h
                  refine lv_tableIn (off := 88) (tgt := 168) X.1 X.2.1 dX12_ring_80 (by rw [hs4]; decide) (by rw [hs4]; decide) (by rw [hs4]; rfl) (by decide) ?_
                  refine lv_lload X.1 X.2.1 dX12_ring_168 (lv_at hl 0 rfl) ?_
                  refine lv_lload_n X.1 X.2.1 dX12_ring_170 rfl (lv_at hl 2 rfl) ?_
                  refine lv_lload_n X.1 X.2.1 dX12_ring_171 rfl (lv_at hl 2 rfl) ?_
                  refine lv_lmul X.1 X.2.1 dX12_ring_172 ?_
                  obtain ⟨x27, hx27, h⟩ := kb_of h
                  refine s_callSl (segs' := [gX12 g aT x19]) X V (c_X12_above l D g y22 (y20 * y20) x27 hx27) w_X12_210 ⟨Nat.le_of_ble_eq_true rfl, Nat.le_of_ble_eq_true rfl⟩ ⟨Nat.zero_le _, Nat.zero_le _⟩ rfl [] rfl rfl (kFst_refl _) rfl rfl hl.1 (Nat.le_of_ble_eq_true rfl) dX12_ring_173 (fun H locs V => ?_)
                  obtain rfl := Option.some.inj h
                  rw [hAA] at V
                  rw [hQQ]
                  exact k_lret X V rfl dX12_ring_176
                · replace h := kif_f hs4 h
                  by_cases hs5 : v2 = (5 : Int32)
                  · replace h := kif_t hs5 h
                    refine lv_tableIn (off := 97) (tgt := 177) X.1 X.2.1 dX12_ring_80 (by rw [hs5]; decide) (by rw [hs5]; decide) (by rw [hs5]; rfl) (by decide) ?_
                    refine lv_lload X.1 X.2.1 dX12_ring_177 (lv_at hl 0 rfl) ?_
                    refine lv_lload_n X.1 X.2.1 dX12_ring_179 rfl (lv_at hl 2 rfl) ?_
                    refine lv_lload_n X.1 X.2.1 dX12_ring_180 rfl (lv_at hl 2 rfl) ?_
                    refine lv_lmul X.1 X.2.1 dX12_ring_181 ?_
                    obtain ⟨x28, hx28, h⟩ := kb_of h
                    refine s_callSl (segs' := [gX12 g aT x19]) X V (c_X12_below l D g y22 (y20 * y20) x28 hx28) w_X12_213 ⟨Nat.le_of_ble_eq_true rfl, Nat.le_of_ble_eq_true rfl⟩ ⟨Nat.zero_le _, Nat.zero_le _⟩ rfl [] rfl rfl (kFst_refl _) rfl rfl hl.1 (Nat.le_of_ble_eq_true rfl) dX12_ring_182 (fun H locs V => ?_)
                    obtain rfl := Option.some.inj h
                    rw [hAA] at V
                    rw [hQQ]
                    exact k_lret X V rfl dX12_ring_185
                  · replace h := kif_f hs5 h
                    by_cases hs6 : v2 = (6 : Int32)
                    · replace h := kif_t hs6 h
                      refine lv_tableIn (off := 106) (tgt := 186) X.1 X.2.1 dX12_ring_80 (by rw [hs6]; decide) (by rw [hs6]; decide) (by rw [hs6]; rfl) (by decide) ?_
                      refine lv_aload_n X.1 X.2.1 dX12_ring_186 rfl (lv_at hl 3 rfl) ?_
                      refine gf_X12_370 (i := 0) X V rfl dX12_ring_187 ?_
                      refine lv_lload_n X.1 X.2.1 dX12_ring_190 rfl (lv_at hl 2 rfl) ?_
                      obtain ⟨x29, hx29, h⟩ := kb_of h
                      refine s_callSl (segs' := [gX12 g aT x19]) X V (c_X12_above l D g (x19.2.1 42) y20 x29 hx29) w_X12_210 ⟨Nat.le_of_ble_eq_true rfl, Nat.le_of_ble_eq_true rfl⟩ ⟨Nat.zero_le _, Nat.zero_le _⟩ rfl [] rfl rfl (kFst_refl _) rfl rfl hl.1 (Nat.le_of_ble_eq_true rfl) dX12_ring_191 (fun H locs V => ?_)
                      obtain rfl := Option.some.inj h
                      rw [hAA] at V
                      rw [hQQ]
                      exact k_lret X V rfl dX12_ring_194
                    · replace h := kif_f hs6 h
                      by_cases hs7 : v2 = (7 : Int32)
                      · replace h := kif_t hs7 h
                        refine lv_tableIn (off := 115) (tgt := 195) X.1 X.2.1 dX12_ring_80 (by rw [hs7]; decide) (by rw [hs7]; decide) (by rw [hs7]; rfl) (by decide) ?_
                        refine lv_aload_n X.1 X.2.1 dX12_ring_195 rfl (lv_at hl 3 rfl) ?_
                        refine gf_X12_370 (i := 0) X V rfl dX12_ring_196 ?_
                        refine lv_lload_n X.1 X.2.1 dX12_ring_199 rfl (lv_at hl 2 rfl) ?_
                        obtain ⟨x30, hx30, h⟩ := kb_of h
                        refine s_callSl (segs' := [gX12 g aT x19]) X V (c_X12_below l D g (x19.2.1 42) y20 x30 hx30) w_X12_213 ⟨Nat.le_of_ble_eq_true rfl, Nat.le_of_ble_eq_true rfl⟩ ⟨Nat.zero_le _, Nat.zero_le _⟩ rfl [] rfl rfl (kFst_refl _) rfl rfl hl.1 (Nat.le_of_ble_eq_true rfl) dX12_ring_200 (fun H locs V => ?_)
                        obtain rfl := Option.some.inj h
                        rw [hAA] at V
                        rw [hQQ]
                        exact k_lret X V rfl dX12_ring_203
                      · replace h := kif_f hs7 h
                        by_cases hs8 : v2 = (8 : Int32)
                        · replace h := kif_t hs8 h
                          refine lv_tableIn (off := 124) (tgt := 204) X.1 X.2.1 dX12_ring_80 (by rw [hs8]; decide) (by rw [hs8]; decide) (by rw [hs8]; rfl) (by decide) ?_
                          refine lv_aload_n X.1 X.2.1 dX12_ring_204 rfl (lv_at hl 3 rfl) ?_
                          refine gf_X12_373 (i := 0) X V rfl dX12_ring_205 ?_
                          refine lv_lload_n X.1 X.2.1 dX12_ring_208 rfl (lv_at hl 2 rfl) ?_
                          obtain ⟨x31, hx31, h⟩ := kb_of h
                          refine s_callSl (segs' := [gX12 g aT x19]) X V (c_X12_above l D g (x19.2.1 43) y20 x31 hx31) w_X12_210 ⟨Nat.le_of_ble_eq_true rfl, Nat.le_of_ble_eq_true rfl⟩ ⟨Nat.zero_le _, Nat.zero_le _⟩ rfl [] rfl rfl (kFst_refl _) rfl rfl hl.1 (Nat.le_of_ble_eq_true rfl) dX12_ring_209 (fun H locs V => ?_)
                          obtain rfl := Option.some.inj h
                          rw [hAA] at V
                          rw [hQQ]
                          exact k_lret X V rfl dX12_ring_212
                        · replace h := kif_f hs8 h
                          refine lv_tableOut (tgt := 213) X.1 X.2.1 dX12_ring_80 (by have q0 := k_ne (0 : Int32) 0 (by decide) hs0; have q1 := k_ne (1 : Int32) 1 (by decide) hs1; have q2 := k_ne (2 : Int32) 2 (by decide) hs2; have q3 := k_ne (3 : Int32) 3 (by decide) hs3; have q4 := k_ne (4 : Int32) 4 (by decide) hs4; have q5 := k_ne (5 : Int32) 5 (by decide) hs5; have q6 := k_ne (6 : Int32) 6 (by decide) hs6; have q7 := k_ne (7 : Int32) 7 (by decide) hs7; have q8 := k_ne (8 : Int32) 8 (by decide) hs8; omega) (by decide) ?_
                          refine lv_aload_n X.1 X.2.1 dX12_ring_213 rfl (lv_at hl 3 rfl) ?_
                          refine gf_X12_373 (i := 0) X V rfl dX12_ring_214 ?_
                          refine lv_lload_n X.1 X.2.1 dX12_ring_217 rfl (lv_at hl 2 rfl) ?_
                          obtain ⟨x32, hx32, h⟩ := kb_of h
                          refine s_callSl (segs' := [gX12 g aT x19]) X V (c_X12_below l D g (x19.2.1 43) y20 x32 hx32) w_X12_213 ⟨Nat.le_of_ble_eq_true rfl, Nat.le_of_ble_eq_true rfl⟩ ⟨Nat.zero_le _, Nat.zero_le _⟩ rfl [] rfl rfl (kFst_refl _) rfl rfl hl.1 (Nat.le_of_ble_eq_true rfl) dX12_ring_218 (fun H locs V => ?_)
                          obtain rfl := Option.some.inj h
                          rw [hAA] at V
                          rw [hQQ]
                          exact k_lret X V rfl dX12_ring_221
      · replace h := kif_f hc h
        refine lv_ldc2 (v := (-1000 : Int64)) X.1 X.2.1 X.2.2.2.1 (X.2.2.2.2.1 _ kc_X12_291) dX12_ring_27 ?_
        obtain rfl := Option.some.inj h
        rw [hAA] at V
        rw [hQQ]
        exact k_lret X V rfl dX12_ring_30

def p_X12_two_J147_51 (v1 : Int32) (v2 : Int32) (zT : tX12) (v3 : Int32) (v4 : Int64) (v6 : Int64) (v8 : Int64) (v10 : Int32) (v11 : Int64) (v13 : Int64) : Option (Nat × (Int32 × Int64 × Int64 × Int32 × tX12)) :=
  kif (v3 = (-1 : Int32)) (kl (v10 + (2 : Int32)) (fun y10 => some (51, (v10, v11, v13, y10, zT)))) (kb (p_X12_against v11 v13 v4 v6) (fun x11 => kif (x11 < 0) (kl (v10 + (2 : Int32)) (fun y12 => some (51, (v10, v11, v13, y12, zT)))) (kl (v10 + (2 : Int32)) (fun y13 => some (51, (v3, v4, v6, y13, zT))))))
def p_X12_two_J93_51 (v1 : Int32) (v2 : Int32) (zT : tX12) (v3 : Int32) (v4 : Int64) (v6 : Int64) (v8 : Int64) (v10 : Int32) : Option (Nat × (Int32 × Int64 × Int64 × Int32 × tX12)) :=
  kl (zT.2.1 21) (fun y6 => kl (zT.2.1 22) (fun y7 => kb (p_X12_layCircle zT (v8 &&& ((v10 ^^^ (-1 : Int32))).toInt64)) (fun x8 => kb (p_X12_against (x8.2.1 21) (x8.2.1 22) y6 y7) (fun x9 => kif (x9 ≤ 0) (p_X12_two_J147_51 v1 v2 x8 v3 v4 v6 v8 v10 y6 y7) (kl (x8.2.1 21) (fun y14 => kl (x8.2.1 22) (fun y15 => p_X12_two_J147_51 v1 v2 x8 v3 v4 v6 v8 v10 y14 y15)))))))
def p_X12_two_L51 (v1 : Int32) (v2 : Int32) (v8 : Int64) (s : Int32 × Int64 × Int64 × Int32 × tX12) : Option (Nat × (Int32 × Int64 × Int64 × Int32 × tX12)) :=
  kif (0 ≤ (lg_cmp s.2.2.2.1.toInt64 v8)) (some (186, (s.1, s.2.1, s.2.2.1, s.2.2.2.1, s.2.2.2.2))) (kb (p_X12_layCircle s.2.2.2.2 s.2.2.2.1.toInt64) (fun x5 => kif (s.1 = (-1 : Int32)) (p_X12_two_J93_51 v1 v2 x5 s.1 s.2.1 s.2.2.1 v8 s.2.2.2.1) (kb (p_X12_against (x5.2.1 21) (x5.2.1 22) s.2.1 s.2.2.1) (fun x16 => kif (x16 < 0) (p_X12_two_J93_51 v1 v2 x5 s.1 s.2.1 s.2.2.1 v8 s.2.2.2.1) (kl (s.2.2.2.1 + (2 : Int32)) (fun y17 => some (51, (s.1, s.2.1, s.2.2.1, y17, x5))))))))
def p_X12_two (zT : tX12) (v1 : Int32) (v2 : Int32) : Option (Int64 × tX12) :=
  kb (p_X12_isIn v2 (0 : Int32) (2 : Int32)) (fun x1 => kif ((kz x1) = 0) (some ((-1 : Int64), zT)) (kb (p_X12_isLaid zT v1) (fun x2 => kif ((kz x2.1) = 0) (some ((-1 : Int64), x2.2)) (kb (p_X12_isIn (x2.2.1 15) (2 : Int32) (12 : Int32)) (fun x3 => kif ((kz x3) = 0) (some ((-1 : Int64), x2.2)) (kb (p_X12_allSpots x2.2) (fun x4 => kb (kitr 51 (fun q => p_X12_two_L51 v1 v2 x4 q) kF ((-1 : Int32), (0 : Int64), (1 : Int64), (1 : Int32), x2.2)) (fun x18 => kg (x18.1 = 186) (kif (v2 = 0) (some (x18.2.2.1, x18.2.2.2.2.2)) (kif (v2 = (1 : Int32)) (some (x18.2.2.2.1, x18.2.2.2.2.2)) (some (x18.2.1.toInt64, x18.2.2.2.2.2))))))))))))
set_option maxHeartbeats 4000000 in
set_option maxRecDepth 100000 in
theorem c_X12_two (l : Launch) (D : va_G) (g : kG) (aT : Nat → Nat) (zT : tX12) (v1 : Int32) (v2 : Int32) (r : Int64 × tX12) (h : p_X12_two zT v1 v2 = some r) : kMl l yX12_two cX12_two 15 (some .long) (kR 5 149) D (kty g) [.ref (aT 0), .int v1, .int v2] (List.flatten [gX12 g aT zT]) r.1 (List.flatten [gX12 g aT r.2]) := by
  intro sz
  refine k_enter (lv := [(0, .ref (aT 0)), (1, .int v1), (2, .int v2)]) RX12 (by decide +kernel) rfl rfl (Nat.le_of_ble_eq_true rfl) ?_
  intro p en s m args below meth c ls hsz X V hl
  obtain ⟨QQ, hQQ⟩ : ∃ q, q = MQ below (va_Ql (fun r' (_ : Unit) => r' = r.1) (fun _ => kE D (List.flatten [gX12 g aT r.2])) (va_A (List.flatten [gX12 g aT zT]) sz)) args s 0 0 (va_A (List.flatten [gX12 g aT zT]) sz) := ⟨_, rfl⟩
  rw [← hQQ]
  obtain ⟨AA, hAA⟩ : ∃ q, q = va_A (List.flatten [gX12 g aT zT]) sz := ⟨_, rfl⟩
  rw [← hAA] at V
  unfold p_X12_two at h
  refine lv_iload_n X.1 X.2.1 dX12_two_0 rfl (lv_at hl 2 rfl) ?_
  refine lv_iconst (v := (0 : Int32)) X.1 X.2.1 dX12_two_1 (by decide) ?_
  refine lv_iconst (v := (2 : Int32)) X.1 X.2.1 dX12_two_2 (by decide) ?_
  obtain ⟨x19, hx19, h⟩ := kb_of h
  refine s_callSi (segs' := [gX12 g aT zT]) X V (c_X12_isIn l D g v2 (0 : Int32) (2 : Int32) x19 hx19) w_X12_76 ⟨Nat.le_of_ble_eq_true rfl, Nat.le_of_ble_eq_true rfl⟩ ⟨Nat.zero_le _, Nat.zero_le _⟩ rfl [] rfl rfl (kFst_refl _) rfl rfl hl.1 (Nat.le_of_ble_eq_true rfl) dX12_two_3 (fun H locs V => ?_)
  refine lv_if_eq (tgt := 30) X.1 X.2.1 dX12_two_6 (by decide) (fun hc => ?_) (fun hc => ?_)
  · replace h := kif_t hc h
    refine lv_ldc2 (v := (-1 : Int64)) X.1 X.2.1 X.2.2.2.1 (X.2.2.2.2.1 _ kc_X12_220) dX12_two_30 ?_
    obtain rfl := Option.some.inj h
    rw [hAA] at V
    rw [hQQ]
    exact k_lret X V rfl dX12_two_33
  · replace h := kif_f hc h
    refine lv_aload_n X.1 X.2.1 dX12_two_9 rfl (lv_at hl 0 rfl) ?_
    refine lv_iload_n X.1 X.2.1 dX12_two_10 rfl (lv_at hl 1 rfl) ?_
    obtain ⟨x20, hx20, h⟩ := kb_of h
    refine s_callVi (segs' := [gX12 g aT x20.2]) (ci := 12) (i0 := 0) X V (c_X12_isLaid l D g aT zT v1 x20 hx20) w_X12_173 ⟨Nat.le_of_ble_eq_true rfl, Nat.le_of_ble_eq_true rfl⟩ ⟨Nat.zero_le _, Nat.zero_le _⟩ rfl rfl rfl rfl [0] rfl rfl ⟨gX12_fst, trivial⟩ rfl rfl hl.1 (Nat.le_of_ble_eq_true rfl) dX12_two_11 (fun H locs V => ?_)
    refine lv_if_eq (tgt := 30) X.1 X.2.1 dX12_two_14 (by decide) (fun hc => ?_) (fun hc => ?_)
    · replace h := kif_t hc h
      refine lv_ldc2 (v := (-1 : Int64)) X.1 X.2.1 X.2.2.2.1 (X.2.2.2.2.1 _ kc_X12_220) dX12_two_30 ?_
      obtain rfl := Option.some.inj h
      rw [hAA] at V
      rw [hQQ]
      exact k_lret X V rfl dX12_two_33
    · replace h := kif_f hc h
      refine lv_aload_n X.1 X.2.1 dX12_two_17 rfl (lv_at hl 0 rfl) ?_
      refine gf_X12_157 (i := 0) X V rfl dX12_two_18 ?_
      refine lv_iconst (v := (2 : Int32)) X.1 X.2.1 dX12_two_21 (by decide) ?_
      refine lv_bipush (v := (12 : Int32)) X.1 X.2.1 dX12_two_22 (by decide) ?_
      obtain ⟨x21, hx21, h⟩ := kb_of h
      refine s_callSi (segs' := [gX12 g aT x20.2]) X V (c_X12_isIn l D g (x20.2.1 15) (2 : Int32) (12 : Int32) x21 hx21) w_X12_76 ⟨Nat.le_of_ble_eq_true rfl, Nat.le_of_ble_eq_true rfl⟩ ⟨Nat.zero_le _, Nat.zero_le _⟩ rfl [] rfl rfl (kFst_refl _) rfl rfl hl.1 (Nat.le_of_ble_eq_true rfl) dX12_two_24 (fun H locs V => ?_)
      refine lv_if_ne (tgt := 34) X.1 X.2.1 dX12_two_27 (by decide) (fun hc => ?_) (fun hc => ?_)
      · replace h := kif_f hc h
        refine lv_iconst (v := (-1 : Int32)) X.1 X.2.1 dX12_two_34 (by decide) ?_
        refine lv_istore_n (lv' := [(3, .int (-1 : Int32)), (0, .ref (aT 0)), (1, .int v1), (2, .int v2)]) X.1 X.2.1 dX12_two_35 rfl hl (by decide) rfl (fun ls hl => ?_)
        refine lv_lconst (v := (0 : Int64)) X.1 X.2.1 dX12_two_36 (by decide) ?_
        refine lv_lstore (lv' := [(4, .long (0 : Int64)), (3, .int (-1 : Int32)), (0, .ref (aT 0)), (1, .int v1), (2, .int v2)]) X.1 X.2.1 dX12_two_37 hl (by decide) rfl (fun ls hl => ?_)
        refine lv_lconst (v := (1 : Int64)) X.1 X.2.1 dX12_two_39 (by decide) ?_
        refine lv_lstore (lv' := [(6, .long (1 : Int64)), (4, .long (0 : Int64)), (3, .int (-1 : Int32)), (0, .ref (aT 0)), (1, .int v1), (2, .int v2)]) X.1 X.2.1 dX12_two_40 hl (by decide) rfl (fun ls hl => ?_)
        refine lv_aload_n X.1 X.2.1 dX12_two_42 rfl (lv_at hl 3 rfl) ?_
        obtain ⟨x22, hx22, h⟩ := kb_of h
        refine s_callVl (segs' := [gX12 g aT x20.2]) (ci := 12) (i0 := 0) X V (c_X12_allSpots l D g aT x20.2 x22 hx22) w_X12_281 ⟨Nat.le_of_ble_eq_true rfl, Nat.le_of_ble_eq_true rfl⟩ ⟨Nat.zero_le _, Nat.zero_le _⟩ rfl rfl rfl rfl [0] rfl rfl (kFst_refl _) rfl rfl hl.1 (Nat.le_of_ble_eq_true rfl) dX12_two_43 (fun H locs V => ?_)
        refine lv_lstore (lv' := [(8, .long x22), (6, .long (1 : Int64)), (4, .long (0 : Int64)), (3, .int (-1 : Int32)), (0, .ref (aT 0)), (1, .int v1), (2, .int v2)]) X.1 X.2.1 dX12_two_46 hl (by decide) rfl (fun ls hl => ?_)
        refine lv_iconst (v := (1 : Int32)) X.1 X.2.1 dX12_two_48 (by decide) ?_
        refine lv_istore (lv' := [(10, .int (1 : Int32)), (8, .long x22), (6, .long (1 : Int64)), (4, .long (0 : Int64)), (3, .int (-1 : Int32)), (0, .ref (aT 0)), (1, .int v1), (2, .int v2)]) X.1 X.2.1 dX12_two_49 hl (by decide) rfl (fun ls hl => ?_)
        obtain ⟨x23, hx23, h⟩ := kb_of h
        refine (kitr_go (hd := 51) (body := fun q => p_X12_two_L51 v1 v2 x22 q) (G := (fun e => ∀ (H : Heap) (locs : List Loc) (ls : Array Slot), kW D AA s.heap H (List.flatten [gX12 g aT e.2.2.2.2.2]) locs → lv_has ls 15 [(0, .ref (aT 0)), (2, .int v2), (3, .int e.2.1), (4, .long e.2.2.1), (6, .long e.2.2.2.1), (8, .long x22), (10, .int e.2.2.2.2.1)] → W p l en (kR 5 149) s m args below meth c H locs 0 0 QQ (F0 m e.1 ls []))) (fun s24 e25 hb26 hG27 => ?_) kF _ x23 hx23 ?_) _ _ _ V (lv_sub hl [5, 7, 4, 3, 2, 1, 0] rfl)
        · intro H locs ls V hl
          show W p l en (kR 5 149) s m args below meth c H locs 0 0 QQ (F0 m 51 ls [])
          have h : p_X12_two_L51 v1 v2 x22 s24 = some e25 := hb26
          unfold p_X12_two_L51 at h
          have V : kW D AA s.heap H (List.flatten [gX12 g aT s24.2.2.2.2]) locs := V
          have hl : lv_has ls 15 [(0, .ref (aT 0)), (2, .int v2), (3, .int s24.1), (4, .long s24.2.1), (6, .long s24.2.2.1), (8, .long x22), (10, .int s24.2.2.2.1)] := hl
          have J147 : ∀ (zT : tX12) (v3 : Int32) (v4 : Int64) (v6 : Int64) (v10 : Int32) (v11 : Int64) (v13 : Int64) (H : Heap) (locs : List Loc) (ls : Array Slot), p_X12_two_J147_51 v1 v2 zT v3 v4 v6 x22 v10 v11 v13 = some e25 → kW D AA s.heap H (List.flatten [gX12 g aT zT]) locs → lv_has ls 15 [(0, .ref (aT 0)), (2, .int v2), (3, .int v3), (4, .long v4), (6, .long v6), (8, .long x22), (10, .int v10), (11, .long v11), (13, .long v13)] → W p l en (kR 5 149) s m args below meth c H locs 0 0 QQ (F0 m 147 ls []) := by
            intro zT v3 v4 v6 v10 v11 v13 H locs ls h V hl
            unfold p_X12_two_J147_51 at h
            refine lv_iload_n X.1 X.2.1 dX12_two_147 rfl (lv_at hl 2 rfl) ?_
            refine lv_iconst (v := (-1 : Int32)) X.1 X.2.1 dX12_two_148 (by decide) ?_
            refine lv_icmp_eq (tgt := 169) X.1 X.2.1 dX12_two_149 (by decide) (fun hc => ?_) (fun hc => ?_)
            · replace h := kif_t hc h
              refine lv_iload X.1 X.2.1 dX12_two_169 (lv_at hl 6 rfl) ?_
              refine lv_istore_n (lv' := [(3, .int v10), (0, .ref (aT 0)), (2, .int v2), (4, .long v4), (6, .long v6), (8, .long x22), (10, .int v10), (11, .long v11), (13, .long v13)]) X.1 X.2.1 dX12_two_171 rfl hl (by decide) rfl (fun ls hl => ?_)
              refine lv_lload X.1 X.2.1 dX12_two_172 (lv_at hl 7 rfl) ?_
              refine lv_lstore (lv' := [(4, .long v11), (3, .int v10), (0, .ref (aT 0)), (2, .int v2), (6, .long v6), (8, .long x22), (10, .int v10), (11, .long v11), (13, .long v13)]) X.1 X.2.1 dX12_two_174 hl (by decide) rfl (fun ls hl => ?_)
              refine lv_lload X.1 X.2.1 dX12_two_176 (lv_at hl 8 rfl) ?_
              refine lv_lstore (lv' := [(6, .long v13), (4, .long v11), (3, .int v10), (0, .ref (aT 0)), (2, .int v2), (8, .long x22), (10, .int v10), (11, .long v11), (13, .long v13)]) X.1 X.2.1 dX12_two_178 hl (by decide) rfl (fun ls hl => ?_)
              obtain ⟨y28, ey28⟩ : ∃ y : Int32, y = (v10 + (2 : Int32)) := ⟨_, rfl⟩
              replace h := kl_of ey28 h
              refine lv_iinc (v := y28) (lv' := [(10, .int y28), (6, .long v13), (4, .long v11), (3, .int v10), (0, .ref (aT 0)), (2, .int v2), (8, .long x22), (11, .long v11), (13, .long v13)]) X.1 X.2.1 dX12_two_180 hl (k := 6) rfl (by rw [ey28]; rfl) (by decide) rfl (fun ls hl => ?_)
              refine lv_goto (tgt := 51) X.1 X.2.1 dX12_two_183 (by decide) ?_
              obtain rfl := Option.some.inj h
              exact hG27 _ _ _ V (lv_sub hl [4, 5, 3, 2, 1, 6, 0] rfl)
            · replace h := kif_f hc h
              refine lv_lload X.1 X.2.1 dX12_two_152 (lv_at hl 7 rfl) ?_
              refine lv_lload X.1 X.2.1 dX12_two_154 (lv_at hl 8 rfl) ?_
              refine lv_lload X.1 X.2.1 dX12_two_156 (lv_at hl 3 rfl) ?_
              refine lv_lload X.1 X.2.1 dX12_two_158 (lv_at hl 4 rfl) ?_
              obtain ⟨x29, hx29, h⟩ := kb_of h
              refine s_callSi (segs' := [gX12 g aT zT]) X V (c_X12_against l D g v11 v13 v4 v6 x29 hx29) w_X12_271 ⟨Nat.le_of_ble_eq_true rfl, Nat.le_of_ble_eq_true rfl⟩ ⟨Nat.zero_le _, Nat.zero_le _⟩ rfl [] rfl rfl (kFst_refl _) rfl rfl hl.1 (Nat.le_of_ble_eq_true rfl) dX12_two_160 (fun H locs V => ?_)
              refine lv_if_lt (tgt := 169) X.1 X.2.1 dX12_two_163 (by decide) (fun hc => ?_) (fun hc => ?_)
              · replace h := kif_t hc h
                refine lv_iload X.1 X.2.1 dX12_two_169 (lv_at hl 6 rfl) ?_
                refine lv_istore_n (lv' := [(3, .int v10), (0, .ref (aT 0)), (2, .int v2), (4, .long v4), (6, .long v6), (8, .long x22), (10, .int v10), (11, .long v11), (13, .long v13)]) X.1 X.2.1 dX12_two_171 rfl hl (by decide) rfl (fun ls hl => ?_)
                refine lv_lload X.1 X.2.1 dX12_two_172 (lv_at hl 7 rfl) ?_
                refine lv_lstore (lv' := [(4, .long v11), (3, .int v10), (0, .ref (aT 0)), (2, .int v2), (6, .long v6), (8, .long x22), (10, .int v10), (11, .long v11), (13, .long v13)]) X.1 X.2.1 dX12_two_174 hl (by decide) rfl (fun ls hl => ?_)
                refine lv_lload X.1 X.2.1 dX12_two_176 (lv_at hl 8 rfl) ?_
                refine lv_lstore (lv' := [(6, .long v13), (4, .long v11), (3, .int v10), (0, .ref (aT 0)), (2, .int v2), (8, .long x22), (10, .int v10), (11, .long v11), (13, .long v13)]) X.1 X.2.1 dX12_two_178 hl (by decide) rfl (fun ls hl => ?_)
                obtain ⟨y30, ey30⟩ : ∃ y : Int32, y = (v10 + (2 : Int32)) := ⟨_, rfl⟩
                replace h := kl_of ey30 h
                refine lv_iinc (v := y30) (lv' := [(10, .int y30), (6, .long v13), (4, .long v11), (3, .int v10), (0, .ref (aT 0)), (2, .int v2), (8, .long x22), (11, .long v11), (13, .long v13)]) X.1 X.2.1 dX12_two_180 hl (k := 6) rfl (by rw [ey30]; rfl) (by decide) rfl (fun ls hl => ?_)
                refine lv_goto (tgt := 51) X.1 X.2.1 dX12_two_183 (by decide) ?_
                obtain rfl := Option.some.inj h
                exact hG27 _ _ _ V (lv_sub hl [4, 5, 3, 2, 1, 6, 0] rfl)
              · replace h := kif_f hc h
                refine lv_goto (tgt := 180) X.1 X.2.1 dX12_two_166 (by decide) ?_
                obtain ⟨y31, ey31⟩ : ∃ y : Int32, y = (v10 + (2 : Int32)) := ⟨_, rfl⟩
                replace h := kl_of ey31 h
                refine lv_iinc (v := y31) (lv' := [(10, .int y31), (0, .ref (aT 0)), (2, .int v2), (3, .int v3), (4, .long v4), (6, .long v6), (8, .long x22), (11, .long v11), (13, .long v13)]) X.1 X.2.1 dX12_two_180 hl (k := 6) rfl (by rw [ey31]; rfl) (by decide) rfl (fun ls hl => ?_)
                refine lv_goto (tgt := 51) X.1 X.2.1 dX12_two_183 (by decide) ?_
                obtain rfl := Option.some.inj h
                exact hG27 _ _ _ V (lv_sub hl [1, 2, 3, 4, 5, 6, 0] rfl)
          have J93 : ∀ (zT : tX12) (v3 : Int32) (v4 : Int64) (v6 : Int64) (v10 : Int32) (H : Heap) (locs : List Loc) (ls : Array Slot), p_X12_two_J93_51 v1 v2 zT v3 v4 v6 x22 v10 = some e25 → kW D AA s.heap H (List.flatten [gX12 g aT zT]) locs → lv_has ls 15 [(0, .ref (aT 0)), (2, .int v2), (3, .int v3), (4, .long v4), (6, .long v6), (8, .long x22), (10, .int v10)] → W p l en (kR 5 149) s m args below meth c H locs 0 0 QQ (F0 m 93 ls []) := by
            intro zT v3 v4 v6 v10 H locs ls h V hl
            unfold p_X12_two_J93_51 at h
            refine lv_aload_n X.1 X.2.1 dX12_two_93 rfl (lv_at hl 0 rfl) ?_
            refine gf_X12_196 (i := 0) X V rfl dX12_two_94 ?_
            refine lv_topl (fun y32 ey32 => ?_)
            replace h := kl_of ey32 h
            refine lv_lstore (lv' := [(11, .long y32), (0, .ref (aT 0)), (2, .int v2), (3, .int v3), (4, .long v4), (6, .long v6), (8, .long x22), (10, .int v10)]) X.1 X.2.1 dX12_two_97 hl (by decide) rfl (fun ls hl => ?_)
            refine lv_aload_n X.1 X.2.1 dX12_two_99 rfl (lv_at hl 1 rfl) ?_
            refine gf_X12_199 (i := 0) X V rfl dX12_two_100 ?_
            refine lv_topl (fun y33 ey33 => ?_)
            replace h := kl_of ey33 h
            refine lv_lstore (lv' := [(13, .long y33), (11, .long y32), (0, .ref (aT 0)), (2, .int v2), (3, .int v3), (4, .long v4), (6, .long v6), (8, .long x22), (10, .int v10)]) X.1 X.2.1 dX12_two_103 hl (by decide) rfl (fun ls hl => ?_)
            refine lv_aload_n X.1 X.2.1 dX12_two_105 rfl (lv_at hl 2 rfl) ?_
            refine lv_lload X.1 X.2.1 dX12_two_106 (lv_at hl 7 rfl) ?_
            refine lv_iload X.1 X.2.1 dX12_two_108 (lv_at hl 8 rfl) ?_
            refine lv_iconst (v := (-1 : Int32)) X.1 X.2.1 dX12_two_110 (by decide) ?_
            refine lv_ixor X.1 X.2.1 dX12_two_111 ?_
            refine lv_i2l X.1 X.2.1 dX12_two_112 rfl ?_
            refine lv_land X.1 X.2.1 dX12_two_113 ?_
            obtain ⟨x34, hx34, h⟩ := kb_of h
            refine s_callVv (segs' := [gX12 g aT x34]) (ci := 12) (i0 := 0) X V (c_X12_layCircle l D g aT zT (x22 &&& ((v10 ^^^ (-1 : Int32))).toInt64) x34 hx34) w_X12_285 ⟨Nat.le_of_ble_eq_true rfl, Nat.le_of_ble_eq_true rfl⟩ ⟨Nat.zero_le _, Nat.zero_le _⟩ rfl rfl rfl rfl [0] rfl rfl ⟨gX12_fst, trivial⟩ rfl rfl hl.1 (Nat.le_of_ble_eq_true rfl) dX12_two_114 (fun H locs V => ?_)
            refine lv_aload_n X.1 X.2.1 dX12_two_117 rfl (lv_at hl 2 rfl) ?_
            refine gf_X12_196 (i := 0) X V rfl dX12_two_118 ?_
            refine lv_aload_n X.1 X.2.1 dX12_two_121 rfl (lv_at hl 2 rfl) ?_
            refine gf_X12_199 (i := 0) X V rfl dX12_two_122 ?_
            refine lv_lload X.1 X.2.1 dX12_two_125 (lv_at hl 1 rfl) ?_
            refine lv_lload X.1 X.2.1 dX12_two_127 (lv_at hl 0 rfl) ?_
            obtain ⟨x35, hx35, h⟩ := kb_of h
            refine s_callSi (segs' := [gX12 g aT x34]) X V (c_X12_against l D g (x34.2.1 21) (x34.2.1 22) y32 y33 x35 hx35) w_X12_271 ⟨Nat.le_of_ble_eq_true rfl, Nat.le_of_ble_eq_true rfl⟩ ⟨Nat.zero_le _, Nat.zero_le _⟩ rfl [] rfl rfl (kFst_refl _) rfl rfl hl.1 (Nat.le_of_ble_eq_true rfl) dX12_two_129 (fun H locs V => ?_)
            refine lv_if_le (tgt := 147) X.1 X.2.1 dX12_two_132 (by decide) (fun hc => ?_) (fun hc => ?_)
            · replace h := kif_t hc h
              exact J147 x34 v3 v4 v6 v10 y32 y33 _ _ _ h V (lv_sub hl [2, 3, 4, 5, 6, 7, 8, 1, 0] rfl)
            · replace h := kif_f hc h
              refine lv_aload_n X.1 X.2.1 dX12_two_135 rfl (lv_at hl 2 rfl) ?_
              refine gf_X12_196 (i := 0) X V rfl dX12_two_136 ?_
              refine lv_topl (fun y36 ey36 => ?_)
              replace h := kl_of ey36 h
              refine lv_lstore (lv' := [(11, .long y36), (13, .long y33), (0, .ref (aT 0)), (2, .int v2), (3, .int v3), (4, .long v4), (6, .long v6), (8, .long x22), (10, .int v10)]) X.1 X.2.1 dX12_two_139 hl (by decide) rfl (fun ls hl => ?_)
              refine lv_aload_n X.1 X.2.1 dX12_two_141 rfl (lv_at hl 2 rfl) ?_
              refine gf_X12_199 (i := 0) X V rfl dX12_two_142 ?_
              refine lv_topl (fun y37 ey37 => ?_)
              replace h := kl_of ey37 h
              refine lv_lstore (lv' := [(13, .long y37), (11, .long y36), (0, .ref (aT 0)), (2, .int v2), (3, .int v3), (4, .long v4), (6, .long v6), (8, .long x22), (10, .int v10)]) X.1 X.2.1 dX12_two_145 hl (by decide) rfl (fun ls hl => ?_)
              exact J147 x34 v3 v4 v6 v10 y36 y37 _ _ _ h V (lv_sub hl [2, 3, 4, 5, 6, 7, 8, 1, 0] rfl)
          refine lv_iload X.1 X.2.1 dX12_two_51 (lv_at hl 6 rfl) ?_
          refine lv_i2l X.1 X.2.1 dX12_two_53 rfl ?_
          refine lv_lload X.1 X.2.1 dX12_two_54 (lv_at hl 5 rfl) ?_
          refine W.lcmp X.1 X.2.1 dX12_two_56 ?_
          refine lv_if_ge (tgt := 186) X.1 X.2.1 dX12_two_57 (by decide) (fun hc => ?_) (fun hc => ?_)
          · replace h := kif_t hc h
            obtain rfl := Option.some.inj h
            exact hG27 _ _ _ V (lv_sub hl [0, 1, 2, 3, 4, 5, 6] rfl)
          · replace h := kif_f hc h
            refine lv_aload_n X.1 X.2.1 dX12_two_60 rfl (lv_at hl 0 rfl) ?_
            refine lv_iload X.1 X.2.1 dX12_two_61 (lv_at hl 6 rfl) ?_
            refine lv_i2l X.1 X.2.1 dX12_two_63 rfl ?_
            obtain ⟨x38, hx38, h⟩ := kb_of h
            refine s_callVv (segs' := [gX12 g aT x38]) (ci := 12) (i0 := 0) X V (c_X12_layCircle l D g aT s24.2.2.2.2 s24.2.2.2.1.toInt64 x38 hx38) w_X12_285 ⟨Nat.le_of_ble_eq_true rfl, Nat.le_of_ble_eq_true rfl⟩ ⟨Nat.zero_le _, Nat.zero_le _⟩ rfl rfl rfl rfl [0] rfl rfl ⟨gX12_fst, trivial⟩ rfl rfl hl.1 (Nat.le_of_ble_eq_true rfl) dX12_two_64 (fun H locs V => ?_)
            refine lv_iload_n X.1 X.2.1 dX12_two_67 rfl (lv_at hl 2 rfl) ?_
            refine lv_iconst (v := (-1 : Int32)) X.1 X.2.1 dX12_two_68 (by decide) ?_
            refine lv_icmp_eq (tgt := 93) X.1 X.2.1 dX12_two_69 (by decide) (fun hc => ?_) (fun hc => ?_)
            · replace h := kif_t hc h
              exact J93 x38 s24.1 s24.2.1 s24.2.2.1 s24.2.2.2.1 _ _ _ h V (lv_sub hl [0, 1, 2, 3, 4, 5, 6] rfl)
            · replace h := kif_f hc h
              refine lv_aload_n X.1 X.2.1 dX12_two_72 rfl (lv_at hl 0 rfl) ?_
              refine gf_X12_196 (i := 0) X V rfl dX12_two_73 ?_
              refine lv_aload_n X.1 X.2.1 dX12_two_76 rfl (lv_at hl 0 rfl) ?_
              refine gf_X12_199 (i := 0) X V rfl dX12_two_77 ?_
              refine lv_lload X.1 X.2.1 dX12_two_80 (lv_at hl 3 rfl) ?_
              refine lv_lload X.1 X.2.1 dX12_two_82 (lv_at hl 4 rfl) ?_
              obtain ⟨x39, hx39, h⟩ := kb_of h
              refine s_callSi (segs' := [gX12 g aT x38]) X V (c_X12_against l D g (x38.2.1 21) (x38.2.1 22) s24.2.1 s24.2.2.1 x39 hx39) w_X12_271 ⟨Nat.le_of_ble_eq_true rfl, Nat.le_of_ble_eq_true rfl⟩ ⟨Nat.zero_le _, Nat.zero_le _⟩ rfl [] rfl rfl (kFst_refl _) rfl rfl hl.1 (Nat.le_of_ble_eq_true rfl) dX12_two_84 (fun H locs V => ?_)
              refine lv_if_lt (tgt := 93) X.1 X.2.1 dX12_two_87 (by decide) (fun hc => ?_) (fun hc => ?_)
              · replace h := kif_t hc h
                exact J93 x38 s24.1 s24.2.1 s24.2.2.1 s24.2.2.2.1 _ _ _ h V (lv_sub hl [0, 1, 2, 3, 4, 5, 6] rfl)
              · replace h := kif_f hc h
                refine lv_goto (tgt := 180) X.1 X.2.1 dX12_two_90 (by decide) ?_
                obtain ⟨y40, ey40⟩ : ∃ y : Int32, y = (s24.2.2.2.1 + (2 : Int32)) := ⟨_, rfl⟩
                replace h := kl_of ey40 h
                refine lv_iinc (v := y40) (lv' := [(10, .int y40), (0, .ref (aT 0)), (2, .int v2), (3, .int s24.1), (4, .long s24.2.1), (6, .long s24.2.2.1), (8, .long x22)]) X.1 X.2.1 dX12_two_180 hl (k := 6) rfl (by rw [ey40]; rfl) (by decide) rfl (fun ls hl => ?_)
                refine lv_goto (tgt := 51) X.1 X.2.1 dX12_two_183 (by decide) ?_
                obtain rfl := Option.some.inj h
                exact hG27 _ _ _ V (lv_sub hl [1, 2, 3, 4, 5, 6, 0] rfl)
        · intro H locs ls V hl
          have V : kW D AA s.heap H (List.flatten [gX12 g aT x23.2.2.2.2.2]) locs := V
          have hl : lv_has ls 15 [(0, .ref (aT 0)), (2, .int v2), (3, .int x23.2.1), (4, .long x23.2.2.1), (6, .long x23.2.2.2.1), (8, .long x22), (10, .int x23.2.2.2.2.1)] := hl
          obtain ⟨hc, h⟩ := kg_of h
          refine W.eq (g2 := F0 m 186 ls []) (by rw [hc]) ?_
          refine lv_iload_n X.1 X.2.1 dX12_two_186 rfl (lv_at hl 1 rfl) ?_
          refine lv_if_ne (tgt := 195) X.1 X.2.1 dX12_two_187 (by decide) (fun hc => ?_) (fun hc => ?_)
          · replace h := kif_f hc h
            refine lv_iload_n X.1 X.2.1 dX12_two_195 rfl (lv_at hl 1 rfl) ?_
            refine lv_iconst (v := (1 : Int32)) X.1 X.2.1 dX12_two_196 (by decide) ?_
            refine lv_icmp_ne (tgt := 205) X.1 X.2.1 dX12_two_197 (by decide) (fun hc => ?_) (fun hc => ?_)
            · replace h := kif_f hc h
              refine lv_iload_n X.1 X.2.1 dX12_two_205 rfl (lv_at hl 2 rfl) ?_
              refine lv_i2l X.1 X.2.1 dX12_two_206 rfl ?_
              obtain rfl := Option.some.inj h
              rw [hAA] at V
              rw [hQQ]
              exact k_lret X V rfl dX12_two_207
            · replace h := kif_t hc h
              refine lv_lload X.1 X.2.1 dX12_two_200 (lv_at hl 4 rfl) ?_
              refine lv_goto (tgt := 207) X.1 X.2.1 dX12_two_202 (by decide) ?_
              obtain rfl := Option.some.inj h
              rw [hAA] at V
              rw [hQQ]
              exact k_lret X V rfl dX12_two_207
          · replace h := kif_t hc h
            refine lv_lload X.1 X.2.1 dX12_two_190 (lv_at hl 3 rfl) ?_
            refine lv_goto (tgt := 207) X.1 X.2.1 dX12_two_192 (by decide) ?_
            obtain rfl := Option.some.inj h
            rw [hAA] at V
            rw [hQQ]
            exact k_lret X V rfl dX12_two_207
      · replace h := kif_t hc h
        refine lv_ldc2 (v := (-1 : Int64)) X.1 X.2.1 X.2.2.2.1 (X.2.2.2.2.1 _ kc_X12_220) dX12_two_30 ?_
        obtain rfl := Option.some.inj h
        rw [hAA] at V
        rw [hQQ]
        exact k_lret X V rfl dX12_two_33

def p_X12_tryFew_L4 (v1 : Int32) (zT : tX12) (s : Int32 × Int32) : Option (Nat × (Int32 × Int32)) :=
  kif ((zT.1 15) ≤ s.2) (some (36, (s.1, s.2))) (kb (p_X12_holds zT s.2) (fun x1 => kif ((kz x1) = 0) (kl (s.1 ||| (0 : Int32)) (fun y2 => kl (s.2 + (1 : Int32)) (fun y3 => some (4, (y2, y3))))) (kl (s.1 ||| ((1 : Int32) <<< (s.2 &&& 31))) (fun y4 => kl (s.2 + (1 : Int32)) (fun y5 => some (4, (y4, y5)))))))
def p_X12_tryFew (zT : tX12) (v1 : Int32) : Option (tX12) :=
  kb (kitr 4 (fun q => p_X12_tryFew_L4 v1 zT q) kF ((0 : Int32), (0 : Int32))) (fun x6 => kg (x6.1 = 36) (kb (p_X12_bits x6.2.1) (fun x7 => kif (v1 ≤ x7) (kif ((zT.1 50) = 0) (kl (zT.1, va_up zT.2.1 48 (zT.2.1 21), zT.2.2) (fun z8 => kl (z8.1, va_up z8.2.1 49 (z8.2.1 22), z8.2.2) (fun z9 => kl (va_up z9.1 50 x6.2.1, z9.2) (fun z10 => some z10)))) (kb (p_X12_against (zT.2.1 21) (zT.2.1 22) (zT.2.1 48) (zT.2.1 49)) (fun x11 => kif (x11 ≤ 0) (kif (x11 = 0) (kb (p_X12_bits x6.2.1) (fun x12 => kb (p_X12_bits (zT.1 50)) (fun x13 => kif (x12 < x13) (some zT) (kb (p_X12_bits x6.2.1) (fun x14 => kb (p_X12_bits (zT.1 50)) (fun x15 => kif (x14 = x15) (kif (x6.2.1 < (zT.1 50)) (kl (zT.1, va_up zT.2.1 48 (zT.2.1 21), zT.2.2) (fun z16 => kl (z16.1, va_up z16.2.1 49 (z16.2.1 22), z16.2.2) (fun z17 => kl (va_up z17.1 50 x6.2.1, z17.2) (fun z18 => some z18)))) (some zT)) (kl (zT.1, va_up zT.2.1 48 (zT.2.1 21), zT.2.2) (fun z19 => kl (z19.1, va_up z19.2.1 49 (z19.2.1 22), z19.2.2) (fun z20 => kl (va_up z20.1 50 x6.2.1, z20.2) (fun z21 => some z21)))))))))) (kl (zT.1, va_up zT.2.1 48 (zT.2.1 21), zT.2.2) (fun z22 => kl (z22.1, va_up z22.2.1 49 (z22.2.1 22), z22.2.2) (fun z23 => kl (va_up z23.1 50 x6.2.1, z23.2) (fun z24 => some z24))))) (some zT)))) (some zT))))
set_option maxHeartbeats 4000000 in
set_option maxRecDepth 100000 in
theorem c_X12_tryFew (l : Launch) (D : va_G) (g : kG) (aT : Nat → Nat) (zT : tX12) (v1 : Int32) (r : tX12) (h : p_X12_tryFew zT v1 = some r) : kMv l yX12_tryFew cX12_tryFew 4 none (kR 2 49) D (kty g) [.ref (aT 0), .int v1] (List.flatten [gX12 g aT zT]) (List.flatten [gX12 g aT r]) := by
  intro sz
  refine k_enter (lv := [(0, .ref (aT 0)), (1, .int v1)]) RX12 (by decide +kernel) rfl rfl (Nat.le_of_ble_eq_true rfl) ?_
  intro p en s m args below meth c ls hsz X V hl
  obtain ⟨QQ, hQQ⟩ : ∃ q, q = MQ below (va_Qv (fun (_ : Unit) => True) (fun _ => kE D (List.flatten [gX12 g aT r])) (va_A (List.flatten [gX12 g aT zT]) sz)) args s 0 0 (va_A (List.flatten [gX12 g aT zT]) sz) := ⟨_, rfl⟩
  rw [← hQQ]
  obtain ⟨AA, hAA⟩ : ∃ q, q = va_A (List.flatten [gX12 g aT zT]) sz := ⟨_, rfl⟩
  rw [← hAA] at V
  unfold p_X12_tryFew at h
  refine lv_iconst (v := (0 : Int32)) X.1 X.2.1 dX12_tryFew_0 (by decide) ?_
  refine lv_istore_n (lv' := [(2, .int (0 : Int32)), (0, .ref (aT 0)), (1, .int v1)]) X.1 X.2.1 dX12_tryFew_1 rfl hl (by decide) rfl (fun ls hl => ?_)
  refine lv_iconst (v := (0 : Int32)) X.1 X.2.1 dX12_tryFew_2 (by decide) ?_
  refine lv_istore_n (lv' := [(3, .int (0 : Int32)), (2, .int (0 : Int32)), (0, .ref (aT 0)), (1, .int v1)]) X.1 X.2.1 dX12_tryFew_3 rfl hl (by decide) rfl (fun ls hl => ?_)
  obtain ⟨x25, hx25, h⟩ := kb_of h
  refine (kitr_go (hd := 4) (body := fun q => p_X12_tryFew_L4 v1 zT q) (G := (fun e => ∀ (H : Heap) (locs : List Loc) (ls : Array Slot), kW D AA s.heap H (List.flatten [gX12 g aT zT]) locs → lv_has ls 4 [(0, .ref (aT 0)), (1, .int v1), (2, .int e.2.1), (3, .int e.2.2)] → W p l en (kR 2 49) s m args below meth c H locs 0 0 QQ (F0 m e.1 ls []))) (fun s26 e27 hb28 hG29 => ?_) kF _ x25 hx25 ?_) _ _ _ V (lv_sub hl [2, 3, 1, 0] rfl)
  · intro H locs ls V hl
    show W p l en (kR 2 49) s m args below meth c H locs 0 0 QQ (F0 m 4 ls [])
    have h : p_X12_tryFew_L4 v1 zT s26 = some e27 := hb28
    unfold p_X12_tryFew_L4 at h
    have V : kW D AA s.heap H (List.flatten [gX12 g aT zT]) locs := V
    have hl : lv_has ls 4 [(0, .ref (aT 0)), (1, .int v1), (2, .int s26.1), (3, .int s26.2)] := hl
    refine lv_iload_n X.1 X.2.1 dX12_tryFew_4 rfl (lv_at hl 3 rfl) ?_
    refine lv_aload_n X.1 X.2.1 dX12_tryFew_5 rfl (lv_at hl 0 rfl) ?_
    refine gf_X12_157 (i := 0) X V rfl dX12_tryFew_6 ?_
    refine lv_icmp_ge (tgt := 36) X.1 X.2.1 dX12_tryFew_9 (by decide) (fun hc => ?_) (fun hc => ?_)
    · replace h := kif_t hc h
      obtain rfl := Option.some.inj h
      exact hG29 _ _ _ V (lv_sub hl [0, 1, 2, 3] rfl)
    · replace h := kif_f hc h
      refine lv_iload_n X.1 X.2.1 dX12_tryFew_12 rfl (lv_at hl 2 rfl) ?_
      refine lv_aload_n X.1 X.2.1 dX12_tryFew_13 rfl (lv_at hl 0 rfl) ?_
      refine lv_iload_n X.1 X.2.1 dX12_tryFew_14 rfl (lv_at hl 3 rfl) ?_
      obtain ⟨x30, hx30, h⟩ := kb_of h
      refine s_callVi (segs' := [gX12 g aT zT]) (ci := 12) (i0 := 0) X V (c_X12_holds l D g aT zT s26.2 x30 hx30) w_X12_229 ⟨Nat.le_of_ble_eq_true rfl, Nat.le_of_ble_eq_true rfl⟩ ⟨Nat.zero_le _, Nat.zero_le _⟩ rfl rfl rfl rfl [0] rfl rfl (kFst_refl _) rfl rfl hl.1 (Nat.le_of_ble_eq_true rfl) dX12_tryFew_15 (fun H locs V => ?_)
      refine lv_if_eq (tgt := 27) X.1 X.2.1 dX12_tryFew_18 (by decide) (fun hc => ?_) (fun hc => ?_)
      · replace h := kif_t hc h
        refine lv_iconst (v := (0 : Int32)) X.1 X.2.1 dX12_tryFew_27 (by decide) ?_
        refine lv_ior X.1 X.2.1 dX12_tryFew_28 ?_
        refine lv_topi (fun y31 ey31 => ?_)
        replace h := kl_of ey31 h
        refine lv_istore_n (lv' := [(2, .int y31), (0, .ref (aT 0)), (1, .int v1), (3, .int s26.2)]) X.1 X.2.1 dX12_tryFew_29 rfl hl (by decide) rfl (fun ls hl => ?_)
        obtain ⟨y32, ey32⟩ : ∃ y : Int32, y = (s26.2 + (1 : Int32)) := ⟨_, rfl⟩
        replace h := kl_of ey32 h
        refine lv_iinc (v := y32) (lv' := [(3, .int y32), (2, .int y31), (0, .ref (aT 0)), (1, .int v1)]) X.1 X.2.1 dX12_tryFew_30 hl (k := 3) rfl (by rw [ey32]; rfl) (by decide) rfl (fun ls hl => ?_)
        refine lv_goto (tgt := 4) X.1 X.2.1 dX12_tryFew_33 (by decide) ?_
        obtain rfl := Option.some.inj h
        exact hG29 _ _ _ V (lv_sub hl [2, 3, 1, 0] rfl)
      · replace h := kif_f hc h
        refine lv_iconst (v := (1 : Int32)) X.1 X.2.1 dX12_tryFew_21 (by decide) ?_
        refine lv_iload_n X.1 X.2.1 dX12_tryFew_22 rfl (lv_at hl 3 rfl) ?_
        refine lv_ishl X.1 X.2.1 dX12_tryFew_23 ?_
        refine lv_goto (tgt := 28) X.1 X.2.1 dX12_tryFew_24 (by decide) ?_
        refine lv_ior X.1 X.2.1 dX12_tryFew_28 ?_
        refine lv_topi (fun y33 ey33 => ?_)
        replace h := kl_of ey33 h
        refine lv_istore_n (lv' := [(2, .int y33), (0, .ref (aT 0)), (1, .int v1), (3, .int s26.2)]) X.1 X.2.1 dX12_tryFew_29 rfl hl (by decide) rfl (fun ls hl => ?_)
        obtain ⟨y34, ey34⟩ : ∃ y : Int32, y = (s26.2 + (1 : Int32)) := ⟨_, rfl⟩
        replace h := kl_of ey34 h
        refine lv_iinc (v := y34) (lv' := [(3, .int y34), (2, .int y33), (0, .ref (aT 0)), (1, .int v1)]) X.1 X.2.1 dX12_tryFew_30 hl (k := 3) rfl (by rw [ey34]; rfl) (by decide) rfl (fun ls hl => ?_)
        refine lv_goto (tgt := 4) X.1 X.2.1 dX12_tryFew_33 (by decide) ?_
        obtain rfl := Option.some.inj h
        exact hG29 _ _ _ V (lv_sub hl [2, 3, 1, 0] rfl)
  · intro H locs ls V hl
    have V : kW D AA s.heap H (List.flatten [gX12 g aT zT]) locs := V
    have hl : lv_has ls 4 [(0, .ref (aT 0)), (1, .int v1), (2, .int x25.2.1), (3, .int x25.2.2)] := hl
    obtain ⟨hc, h⟩ := kg_of h
    refine W.eq (g2 := F0 m 36 ls []) (by rw [hc]) ?_
    refine lv_iload_n X.1 X.2.1 dX12_tryFew_36 rfl (lv_at hl 2 rfl) ?_
    obtain ⟨x35, hx35, h⟩ := kb_of h
    refine s_callSi (segs' := [gX12 g aT zT]) X V (c_X12_bits l D g x25.2.1 x35 hx35) w_X12_317 ⟨Nat.le_of_ble_eq_true rfl, Nat.le_of_ble_eq_true rfl⟩ ⟨Nat.zero_le _, Nat.zero_le _⟩ rfl [] rfl rfl (kFst_refl _) rfl rfl hl.1 (Nat.le_of_ble_eq_true rfl) dX12_tryFew_37 (fun H locs V => ?_)
    refine lv_iload_n X.1 X.2.1 dX12_tryFew_40 rfl (lv_at hl 1 rfl) ?_
    refine lv_icmp_ge (tgt := 45) X.1 X.2.1 dX12_tryFew_41 (by decide) (fun hc => ?_) (fun hc => ?_)
    · replace h := kif_t hc h
      refine lv_aload_n X.1 X.2.1 dX12_tryFew_45 rfl (lv_at hl 0 rfl) ?_
      refine gf_X12_391 (i := 0) X V rfl dX12_tryFew_46 ?_
      refine lv_if_eq (tgt := 118) X.1 X.2.1 dX12_tryFew_49 (by decide) (fun hc => ?_) (fun hc => ?_)
      · replace h := kif_t hc h
        refine lv_aload_n X.1 X.2.1 dX12_tryFew_118 rfl (lv_at hl 0 rfl) ?_
        refine lv_aload_n X.1 X.2.1 dX12_tryFew_119 rfl (lv_at hl 0 rfl) ?_
        refine gf_X12_196 (i := 0) X V rfl dX12_tryFew_120 ?_
        refine pf_X12_394 (i := 0) X V rfl dX12_tryFew_123 (fun H locs V => ?_)
        obtain ⟨z36, ez36⟩ : ∃ y, y = (zT.1, va_up zT.2.1 48 (zT.2.1 21), zT.2.2) := ⟨_, rfl⟩
        replace h := kl_of ez36 h
        have V : kW D AA s.heap H (List.flatten [gX12 g aT z36]) locs := by rw [ez36]; exact V
        refine lv_aload_n X.1 X.2.1 dX12_tryFew_126 rfl (lv_at hl 0 rfl) ?_
        refine lv_aload_n X.1 X.2.1 dX12_tryFew_127 rfl (lv_at hl 0 rfl) ?_
        refine gf_X12_199 (i := 0) X V rfl dX12_tryFew_128 ?_
        refine pf_X12_397 (i := 0) X V rfl dX12_tryFew_131 (fun H locs V => ?_)
        obtain ⟨z37, ez37⟩ : ∃ y, y = (z36.1, va_up z36.2.1 49 (z36.2.1 22), z36.2.2) := ⟨_, rfl⟩
        replace h := kl_of ez37 h
        have V : kW D AA s.heap H (List.flatten [gX12 g aT z37]) locs := by rw [ez37]; exact V
        refine lv_aload_n X.1 X.2.1 dX12_tryFew_134 rfl (lv_at hl 0 rfl) ?_
        refine lv_iload_n X.1 X.2.1 dX12_tryFew_135 rfl (lv_at hl 2 rfl) ?_
        refine pf_X12_391 (i := 0) X V rfl dX12_tryFew_136 (fun H locs V => ?_)
        obtain ⟨z38, ez38⟩ : ∃ y, y = (va_up z37.1 50 x25.2.1, z37.2) := ⟨_, rfl⟩
        replace h := kl_of ez38 h
        have V : kW D AA s.heap H (List.flatten [gX12 g aT z38]) locs := by rw [ez38]; exact V
        obtain rfl := Option.some.inj h
        rw [hAA] at V
        rw [hQQ]
        exact k_vret X V dX12_tryFew_139
      · replace h := kif_f hc h
        refine lv_aload_n X.1 X.2.1 dX12_tryFew_52 rfl (lv_at hl 0 rfl) ?_
        refine gf_X12_196 (i := 0) X V rfl dX12_tryFew_53 ?_
        refine lv_aload_n X.1 X.2.1 dX12_tryFew_56 rfl (lv_at hl 0 rfl) ?_
        refine gf_X12_199 (i := 0) X V rfl dX12_tryFew_57 ?_
        refine lv_aload_n X.1 X.2.1 dX12_tryFew_60 rfl (lv_at hl 0 rfl) ?_
        refine gf_X12_394 (i := 0) X V rfl dX12_tryFew_61 ?_
        refine lv_aload_n X.1 X.2.1 dX12_tryFew_64 rfl (lv_at hl 0 rfl) ?_
        refine gf_X12_397 (i := 0) X V rfl dX12_tryFew_65 ?_
        obtain ⟨x39, hx39, h⟩ := kb_of h
        refine s_callSi (segs' := [gX12 g aT zT]) X V (c_X12_against l D g (zT.2.1 21) (zT.2.1 22) (zT.2.1 48) (zT.2.1 49) x39 hx39) w_X12_271 ⟨Nat.le_of_ble_eq_true rfl, Nat.le_of_ble_eq_true rfl⟩ ⟨Nat.zero_le _, Nat.zero_le _⟩ rfl [] rfl rfl (kFst_refl _) rfl rfl hl.1 (Nat.le_of_ble_eq_true rfl) dX12_tryFew_68 (fun H locs V => ?_)
        refine lv_istore_n (lv' := [(3, .int x39), (0, .ref (aT 0)), (1, .int v1), (2, .int x25.2.1)]) X.1 X.2.1 dX12_tryFew_71 rfl hl (by decide) rfl (fun ls hl => ?_)
        refine lv_iload_n X.1 X.2.1 dX12_tryFew_72 rfl (lv_at hl 0 rfl) ?_
        refine lv_if_le (tgt := 77) X.1 X.2.1 dX12_tryFew_73 (by decide) (fun hc => ?_) (fun hc => ?_)
        · replace h := kif_t hc h
          refine lv_iload_n X.1 X.2.1 dX12_tryFew_77 rfl (lv_at hl 0 rfl) ?_
          refine lv_if_ne (tgt := 118) X.1 X.2.1 dX12_tryFew_78 (by decide) (fun hc => ?_) (fun hc => ?_)
          · replace h := kif_f hc h
            refine lv_aload_n X.1 X.2.1 dX12_tryFew_118 rfl (lv_at hl 1 rfl) ?_
            refine lv_aload_n X.1 X.2.1 dX12_tryFew_119 rfl (lv_at hl 1 rfl) ?_
            refine gf_X12_196 (i := 0) X V rfl dX12_tryFew_120 ?_
            refine pf_X12_394 (i := 0) X V rfl dX12_tryFew_123 (fun H locs V => ?_)
            obtain ⟨z40, ez40⟩ : ∃ y, y = (zT.1, va_up zT.2.1 48 (zT.2.1 21), zT.2.2) := ⟨_, rfl⟩
            replace h := kl_of ez40 h
            have V : kW D AA s.heap H (List.flatten [gX12 g aT z40]) locs := by rw [ez40]; exact V
            refine lv_aload_n X.1 X.2.1 dX12_tryFew_126 rfl (lv_at hl 1 rfl) ?_
            refine lv_aload_n X.1 X.2.1 dX12_tryFew_127 rfl (lv_at hl 1 rfl) ?_
            refine gf_X12_199 (i := 0) X V rfl dX12_tryFew_128 ?_
            refine pf_X12_397 (i := 0) X V rfl dX12_tryFew_131 (fun H locs V => ?_)
            obtain ⟨z41, ez41⟩ : ∃ y, y = (z40.1, va_up z40.2.1 49 (z40.2.1 22), z40.2.2) := ⟨_, rfl⟩
            replace h := kl_of ez41 h
            have V : kW D AA s.heap H (List.flatten [gX12 g aT z41]) locs := by rw [ez41]; exact V
            refine lv_aload_n X.1 X.2.1 dX12_tryFew_134 rfl (lv_at hl 1 rfl) ?_
            refine lv_iload_n X.1 X.2.1 dX12_tryFew_135 rfl (lv_at hl 3 rfl) ?_
            refine pf_X12_391 (i := 0) X V rfl dX12_tryFew_136 (fun H locs V => ?_)
            obtain ⟨z42, ez42⟩ : ∃ y, y = (va_up z41.1 50 x25.2.1, z41.2) := ⟨_, rfl⟩
            replace h := kl_of ez42 h
            have V : kW D AA s.heap H (List.flatten [gX12 g aT z42]) locs := by rw [ez42]; exact V
            obtain rfl := Option.some.inj h
            rw [hAA] at V
            rw [hQQ]
            exact k_vret X V dX12_tryFew_139
          · replace h := kif_t hc h
            refine lv_iload_n X.1 X.2.1 dX12_tryFew_81 rfl (lv_at hl 3 rfl) ?_
            obtain ⟨x43, hx43, h⟩ := kb_of h
            refine s_callSi (segs' := [gX12 g aT zT]) X V (c_X12_bits l D g x25.2.1 x43 hx43) w_X12_317 ⟨Nat.le_of_ble_eq_true rfl, Nat.le_of_ble_eq_true rfl⟩ ⟨Nat.zero_le _, Nat.zero_le _⟩ rfl [] rfl rfl (kFst_refl _) rfl rfl hl.1 (Nat.le_of_ble_eq_true rfl) dX12_tryFew_82 (fun H locs V => ?_)
            refine lv_aload_n X.1 X.2.1 dX12_tryFew_85 rfl (lv_at hl 1 rfl) ?_
            refine gf_X12_391 (i := 0) X V rfl dX12_tryFew_86 ?_
            obtain ⟨x44, hx44, h⟩ := kb_of h
            refine s_callSi (segs' := [gX12 g aT zT]) X V (c_X12_bits l D g (zT.1 50) x44 hx44) w_X12_317 ⟨Nat.le_of_ble_eq_true rfl, Nat.le_of_ble_eq_true rfl⟩ ⟨Nat.zero_le _, Nat.zero_le _⟩ rfl [] rfl rfl (kFst_refl _) rfl rfl hl.1 (Nat.le_of_ble_eq_true rfl) dX12_tryFew_89 (fun H locs V => ?_)
            refine lv_icmp_lt (tgt := 117) X.1 X.2.1 dX12_tryFew_92 (by decide) (fun hc => ?_) (fun hc => ?_)
            · replace h := kif_t hc h
              obtain rfl := Option.some.inj h
              rw [hAA] at V
              rw [hQQ]
              exact k_vret X V dX12_tryFew_117
            · replace h := kif_f hc h
              refine lv_iload_n X.1 X.2.1 dX12_tryFew_95 rfl (lv_at hl 3 rfl) ?_
              obtain ⟨x45, hx45, h⟩ := kb_of h
              refine s_callSi (segs' := [gX12 g aT zT]) X V (c_X12_bits l D g x25.2.1 x45 hx45) w_X12_317 ⟨Nat.le_of_ble_eq_true rfl, Nat.le_of_ble_eq_true rfl⟩ ⟨Nat.zero_le _, Nat.zero_le _⟩ rfl [] rfl rfl (kFst_refl _) rfl rfl hl.1 (Nat.le_of_ble_eq_true rfl) dX12_tryFew_96 (fun H locs V => ?_)
              refine lv_aload_n X.1 X.2.1 dX12_tryFew_99 rfl (lv_at hl 1 rfl) ?_
              refine gf_X12_391 (i := 0) X V rfl dX12_tryFew_100 ?_
              obtain ⟨x46, hx46, h⟩ := kb_of h
              refine s_callSi (segs' := [gX12 g aT zT]) X V (c_X12_bits l D g (zT.1 50) x46 hx46) w_X12_317 ⟨Nat.le_of_ble_eq_true rfl, Nat.le_of_ble_eq_true rfl⟩ ⟨Nat.zero_le _, Nat.zero_le _⟩ rfl [] rfl rfl (kFst_refl _) rfl rfl hl.1 (Nat.le_of_ble_eq_true rfl) dX12_tryFew_103 (fun H locs V => ?_)
              refine lv_icmp_ne (tgt := 118) X.1 X.2.1 dX12_tryFew_106 (by decide) (fun hc => ?_) (fun hc => ?_)
              · replace h := kif_f hc h
                refine lv_aload_n X.1 X.2.1 dX12_tryFew_118 rfl (lv_at hl 1 rfl) ?_
                refine lv_aload_n X.1 X.2.1 dX12_tryFew_119 rfl (lv_at hl 1 rfl) ?_
                refine gf_X12_196 (i := 0) X V rfl dX12_tryFew_120 ?_
                refine pf_X12_394 (i := 0) X V rfl dX12_tryFew_123 (fun H locs V => ?_)
                obtain ⟨z47, ez47⟩ : ∃ y, y = (zT.1, va_up zT.2.1 48 (zT.2.1 21), zT.2.2) := ⟨_, rfl⟩
                replace h := kl_of ez47 h
                have V : kW D AA s.heap H (List.flatten [gX12 g aT z47]) locs := by rw [ez47]; exact V
                refine lv_aload_n X.1 X.2.1 dX12_tryFew_126 rfl (lv_at hl 1 rfl) ?_
                refine lv_aload_n X.1 X.2.1 dX12_tryFew_127 rfl (lv_at hl 1 rfl) ?_
                refine gf_X12_199 (i := 0) X V rfl dX12_tryFew_128 ?_
                refine pf_X12_397 (i := 0) X V rfl dX12_tryFew_131 (fun H locs V => ?_)
                obtain ⟨z48, ez48⟩ : ∃ y, y = (z47.1, va_up z47.2.1 49 (z47.2.1 22), z47.2.2) := ⟨_, rfl⟩
                replace h := kl_of ez48 h
                have V : kW D AA s.heap H (List.flatten [gX12 g aT z48]) locs := by rw [ez48]; exact V
                refine lv_aload_n X.1 X.2.1 dX12_tryFew_134 rfl (lv_at hl 1 rfl) ?_
                refine lv_iload_n X.1 X.2.1 dX12_tryFew_135 rfl (lv_at hl 3 rfl) ?_
                refine pf_X12_391 (i := 0) X V rfl dX12_tryFew_136 (fun H locs V => ?_)
                obtain ⟨z49, ez49⟩ : ∃ y, y = (va_up z48.1 50 x25.2.1, z48.2) := ⟨_, rfl⟩
                replace h := kl_of ez49 h
                have V : kW D AA s.heap H (List.flatten [gX12 g aT z49]) locs := by rw [ez49]; exact V
                obtain rfl := Option.some.inj h
                rw [hAA] at V
                rw [hQQ]
                exact k_vret X V dX12_tryFew_139
              · replace h := kif_t hc h
                refine lv_iload_n X.1 X.2.1 dX12_tryFew_109 rfl (lv_at hl 3 rfl) ?_
                refine lv_aload_n X.1 X.2.1 dX12_tryFew_110 rfl (lv_at hl 1 rfl) ?_
                refine gf_X12_391 (i := 0) X V rfl dX12_tryFew_111 ?_
                refine lv_icmp_lt (tgt := 118) X.1 X.2.1 dX12_tryFew_114 (by decide) (fun hc => ?_) (fun hc => ?_)
                · replace h := kif_t hc h
                  refine lv_aload_n X.1 X.2.1 dX12_tryFew_118 rfl (lv_at hl 1 rfl) ?_
                  refine lv_aload_n X.1 X.2.1 dX12_tryFew_119 rfl (lv_at hl 1 rfl) ?_
                  refine gf_X12_196 (i := 0) X V rfl dX12_tryFew_120 ?_
                  refine pf_X12_394 (i := 0) X V rfl dX12_tryFew_123 (fun H locs V => ?_)
                  obtain ⟨z50, ez50⟩ : ∃ y, y = (zT.1, va_up zT.2.1 48 (zT.2.1 21), zT.2.2) := ⟨_, rfl⟩
                  replace h := kl_of ez50 h
                  have V : kW D AA s.heap H (List.flatten [gX12 g aT z50]) locs := by rw [ez50]; exact V
                  refine lv_aload_n X.1 X.2.1 dX12_tryFew_126 rfl (lv_at hl 1 rfl) ?_
                  refine lv_aload_n X.1 X.2.1 dX12_tryFew_127 rfl (lv_at hl 1 rfl) ?_
                  refine gf_X12_199 (i := 0) X V rfl dX12_tryFew_128 ?_
                  refine pf_X12_397 (i := 0) X V rfl dX12_tryFew_131 (fun H locs V => ?_)
                  obtain ⟨z51, ez51⟩ : ∃ y, y = (z50.1, va_up z50.2.1 49 (z50.2.1 22), z50.2.2) := ⟨_, rfl⟩
                  replace h := kl_of ez51 h
                  have V : kW D AA s.heap H (List.flatten [gX12 g aT z51]) locs := by rw [ez51]; exact V
                  refine lv_aload_n X.1 X.2.1 dX12_tryFew_134 rfl (lv_at hl 1 rfl) ?_
                  refine lv_iload_n X.1 X.2.1 dX12_tryFew_135 rfl (lv_at hl 3 rfl) ?_
                  refine pf_X12_391 (i := 0) X V rfl dX12_tryFew_136 (fun H locs V => ?_)
                  obtain ⟨z52, ez52⟩ : ∃ y, y = (va_up z51.1 50 x25.2.1, z51.2) := ⟨_, rfl⟩
                  replace h := kl_of ez52 h
                  have V : kW D AA s.heap H (List.flatten [gX12 g aT z52]) locs := by rw [ez52]; exact V
                  obtain rfl := Option.some.inj h
                  rw [hAA] at V
                  rw [hQQ]
                  exact k_vret X V dX12_tryFew_139
                · replace h := kif_f hc h
                  obtain rfl := Option.some.inj h
                  rw [hAA] at V
                  rw [hQQ]
                  exact k_vret X V dX12_tryFew_117
        · replace h := kif_f hc h
          obtain rfl := Option.some.inj h
          rw [hAA] at V
          rw [hQQ]
          exact k_vret X V dX12_tryFew_76
    · replace h := kif_f hc h
      obtain rfl := Option.some.inj h
      rw [hAA] at V
      rw [hQQ]
      exact k_vret X V dX12_tryFew_44
