def p_X3_gcd_L15 (v0 : Int64) (v2 : Int64) (s : Int64 × Int64 × Int32) : Option (Nat × (Int64 × Int64 × Int32)) :=
  kif ((200 : Int32) ≤ s.2.2) (some (51, (s.1, s.2.1, s.2.2))) (kif ((lg_cmp s.2.1 (0 : Int64)) = 0) (some (51, (s.1, s.2.1, s.2.2))) (kg (¬ s.2.1 = 0) (kl (s.1 - s.1 / s.2.1 * s.2.1) (fun y3 => kl (s.2.2 + (1 : Int32)) (fun y4 => some (15, (s.2.1, y3, y4)))))))
def p_X3_gcd (v0 : Int64) (v2 : Int64) : Option (Int64) :=
  kb (p_J9_abs_067f4 v0) (fun x1 => kb (p_J9_abs_067f4 v2) (fun x2 => kb (kitr 15 (fun q => p_X3_gcd_L15 v0 v2 q) kF (x1, x2, (0 : Int32))) (fun x5 => kg (x5.1 = 51) (some x5.2.1))))
set_option maxHeartbeats 4000000 in
set_option maxRecDepth 100000 in
theorem c_X3_gcd (l : Launch) (D : va_G) (g : kG)  (v0 : Int64) (v2 : Int64) (r : Int64) (h : p_X3_gcd v0 v2 = some r) : kMl l yX3_gcd cX3_gcd 11 (some .long) (kR 1 21) D (kty g) [.long v0, .long v2] (List.flatten ([] : List va_W)) r (List.flatten ([] : List va_W)) := by
  intro sz
  refine k_enter (lv := [(0, .long v0), (2, .long v2)]) RX3 (by decide +kernel) rfl rfl (Nat.le_of_ble_eq_true rfl) ?_
  intro p en s m args below meth c ls hsz X V hl
  obtain ⟨QQ, hQQ⟩ : ∃ q, q = MQ below (va_Ql (fun r' (_ : Unit) => r' = r) (fun _ => kE D (List.flatten ([] : List va_W))) (va_A (List.flatten ([] : List va_W)) sz)) args s 0 0 (va_A (List.flatten ([] : List va_W)) sz) := ⟨_, rfl⟩
  rw [← hQQ]
  obtain ⟨AA, hAA⟩ : ∃ q, q = va_A (List.flatten ([] : List va_W)) sz := ⟨_, rfl⟩
  rw [← hAA] at V
  unfold p_X3_gcd at h
  refine lv_lload_n X.1 X.2.1 dX3_gcd_0 rfl (lv_at hl 0 rfl) ?_
  obtain ⟨x6, hx6, h⟩ := kb_of h
  refine s_callSl (segs' := ([] : List va_W)) X V (c_J9_abs_067f4 l D g v0 x6 hx6) w_X3_24 ⟨Nat.le_of_ble_eq_true rfl, Nat.le_of_ble_eq_true rfl⟩ ⟨Nat.zero_le _, Nat.zero_le _⟩ rfl [] rfl rfl (kFst_refl _) rfl rfl hl.1 (Nat.le_of_ble_eq_true rfl) dX3_gcd_1 (fun H locs V => ?_)
  refine lv_lstore (lv' := [(4, .long x6), (0, .long v0), (2, .long v2)]) X.1 X.2.1 dX3_gcd_4 hl (by decide) rfl (fun ls hl => ?_)
  refine lv_lload_n X.1 X.2.1 dX3_gcd_6 rfl (lv_at hl 2 rfl) ?_
  obtain ⟨x7, hx7, h⟩ := kb_of h
  refine s_callSl (segs' := ([] : List va_W)) X V (c_J9_abs_067f4 l D g v2 x7 hx7) w_X3_24 ⟨Nat.le_of_ble_eq_true rfl, Nat.le_of_ble_eq_true rfl⟩ ⟨Nat.zero_le _, Nat.zero_le _⟩ rfl [] rfl rfl (kFst_refl _) rfl rfl hl.1 (Nat.le_of_ble_eq_true rfl) dX3_gcd_7 (fun H locs V => ?_)
  refine lv_lstore (lv' := [(6, .long x7), (4, .long x6), (0, .long v0), (2, .long v2)]) X.1 X.2.1 dX3_gcd_10 hl (by decide) rfl (fun ls hl => ?_)
  refine lv_iconst (v := (0 : Int32)) X.1 X.2.1 dX3_gcd_12 (by decide) ?_
  refine lv_istore (lv' := [(8, .int (0 : Int32)), (6, .long x7), (4, .long x6), (0, .long v0), (2, .long v2)]) X.1 X.2.1 dX3_gcd_13 hl (by decide) rfl (fun ls hl => ?_)
  obtain ⟨x8, hx8, h⟩ := kb_of h
  refine (kitr_go (hd := 15) (body := fun q => p_X3_gcd_L15 v0 v2 q) (G := (fun e => ∀ (H : Heap) (locs : List Loc) (ls : Array Slot), kW D AA s.heap H (List.flatten ([] : List va_W)) locs → lv_has ls 11 [(4, .long e.2.1), (6, .long e.2.2.1), (8, .int e.2.2.2)] → W p l en (kR 1 21) s m args below meth c H locs 0 0 QQ (F0 m e.1 ls []))) (fun s9 e10 hb11 hG12 => ?_) kF _ x8 hx8 ?_) _ _ _ V (lv_sub hl [2, 1, 0] rfl)
  · intro H locs ls V hl
    show W p l en (kR 1 21) s m args below meth c H locs 0 0 QQ (F0 m 15 ls [])
    have h : p_X3_gcd_L15 v0 v2 s9 = some e10 := hb11
    unfold p_X3_gcd_L15 at h
    have V : kW D AA s.heap H (List.flatten ([] : List va_W)) locs := V
    have hl : lv_has ls 11 [(4, .long s9.1), (6, .long s9.2.1), (8, .int s9.2.2)] := hl
    refine lv_iload X.1 X.2.1 dX3_gcd_15 (lv_at hl 2 rfl) ?_
    refine lv_sipush (v := (200 : Int32)) X.1 X.2.1 dX3_gcd_17 (by decide) ?_
    refine lv_icmp_ge (tgt := 51) X.1 X.2.1 dX3_gcd_20 (by decide) (fun hc => ?_) (fun hc => ?_)
    · replace h := kif_t hc h
      obtain rfl := Option.some.inj h
      exact hG12 _ _ _ V (lv_sub hl [0, 1, 2] rfl)
    · replace h := kif_f hc h
      refine lv_lload X.1 X.2.1 dX3_gcd_23 (lv_at hl 1 rfl) ?_
      refine lv_lconst (v := (0 : Int64)) X.1 X.2.1 dX3_gcd_25 (by decide) ?_
      refine W.lcmp X.1 X.2.1 dX3_gcd_26 ?_
      refine lv_if_eq (tgt := 51) X.1 X.2.1 dX3_gcd_27 (by decide) (fun hc => ?_) (fun hc => ?_)
      · replace h := kif_t hc h
        obtain rfl := Option.some.inj h
        exact hG12 _ _ _ V (lv_sub hl [0, 1, 2] rfl)
      · replace h := kif_f hc h
        refine lv_lload X.1 X.2.1 dX3_gcd_30 (lv_at hl 0 rfl) ?_
        refine lv_lload X.1 X.2.1 dX3_gcd_32 (lv_at hl 1 rfl) ?_
        obtain ⟨hc, h⟩ := kg_of h
        refine lv_lrem X.1 X.2.1 dX3_gcd_34 hc ?_
        refine lv_topl (fun y13 ey13 => ?_)
        replace h := kl_of ey13 h
        refine lv_lstore (lv' := [(9, .long y13), (4, .long s9.1), (6, .long s9.2.1), (8, .int s9.2.2)]) X.1 X.2.1 dX3_gcd_35 hl (by decide) rfl (fun ls hl => ?_)
        refine lv_lload X.1 X.2.1 dX3_gcd_37 (lv_at hl 2 rfl) ?_
        refine lv_lstore (lv' := [(4, .long s9.2.1), (9, .long y13), (6, .long s9.2.1), (8, .int s9.2.2)]) X.1 X.2.1 dX3_gcd_39 hl (by decide) rfl (fun ls hl => ?_)
        refine lv_lload X.1 X.2.1 dX3_gcd_41 (lv_at hl 1 rfl) ?_
        refine lv_lstore (lv' := [(6, .long y13), (4, .long s9.2.1), (9, .long y13), (8, .int s9.2.2)]) X.1 X.2.1 dX3_gcd_43 hl (by decide) rfl (fun ls hl => ?_)
        obtain ⟨y14, ey14⟩ : ∃ y : Int32, y = (s9.2.2 + (1 : Int32)) := ⟨_, rfl⟩
        replace h := kl_of ey14 h
        refine lv_iinc (v := y14) (lv' := [(8, .int y14), (6, .long y13), (4, .long s9.2.1), (9, .long y13)]) X.1 X.2.1 dX3_gcd_45 hl (k := 3) rfl (by rw [ey14]; rfl) (by decide) rfl (fun ls hl => ?_)
        refine lv_goto (tgt := 15) X.1 X.2.1 dX3_gcd_48 (by decide) ?_
        obtain rfl := Option.some.inj h
        exact hG12 _ _ _ V (lv_sub hl [2, 1, 0] rfl)
  · intro H locs ls V hl
    have V : kW D AA s.heap H (List.flatten ([] : List va_W)) locs := V
    have hl : lv_has ls 11 [(4, .long x8.2.1), (6, .long x8.2.2.1), (8, .int x8.2.2.2)] := hl
    obtain ⟨hc, h⟩ := kg_of h
    refine W.eq (g2 := F0 m 51 ls []) (by rw [hc]) ?_
    refine lv_lload X.1 X.2.1 dX3_gcd_51 (lv_at hl 0 rfl) ?_
    obtain rfl := Option.some.inj h
    rw [hAA] at V
    rw [hQQ]
    exact k_lret X V rfl dX3_gcd_53

def p_X3_set_J56 (v1 : Int64) (v3 : Int64) (zT : tX3) (v5 : Int64) (v7 : Int32) (k56_1 : Int64) : Option (tX3) :=
  kg (¬ v5 = 0) (kl ((k56_1 / v5), zT.2) (fun z6 => kif (v7 = 0) (kg (¬ v5 = 0) (kl (z6.1, (v3 / v5)) (fun z7 => some z7))) (kg (¬ v5 = 0) (kl (z6.1, ((-v3) / v5)) (fun z8 => some z8)))))
def p_X3_set_J18 (v1 : Int64) (v3 : Int64) (zT : tX3) (v5 : Int64) (k18_0 : Int32) : Option (tX3) :=
  kif ((lg_cmp v3 (0 : Int64)) = 0) (kl ((0 : Int64), zT.2) (fun z2 => kl (z2.1, (1 : Int64)) (fun z3 => some z3))) (kif ((lg_cmp v5 (0 : Int64)) = 0) (kl ((0 : Int64), zT.2) (fun z4 => kl (z4.1, (1 : Int64)) (fun z5 => some z5))) (kif (k18_0 = 0) (p_X3_set_J56 v1 v3 zT v5 k18_0 v1) (p_X3_set_J56 v1 v3 zT v5 k18_0 (-v1))))
def p_X3_set (zT : tX3) (v1 : Int64) (v3 : Int64) : Option (tX3) :=
  kb (p_X3_gcd v1 v3) (fun x1 => kif (0 ≤ (lg_cmp v3 (0 : Int64))) (p_X3_set_J18 v1 v3 zT x1 (0 : Int32)) (p_X3_set_J18 v1 v3 zT x1 (1 : Int32)))
set_option maxHeartbeats 4000000 in
set_option maxRecDepth 100000 in
theorem c_X3_set (l : Launch) (D : va_G) (g : kG) (aT : Nat → Nat) (zT : tX3) (v1 : Int64) (v3 : Int64) (r : tX3) (h : p_X3_set zT v1 v3 = some r) : kMv l yX3_set cX3_set 8 none (kR 2 51) D (kty g) [.ref (aT 0), .long v1, .long v3] (List.flatten [gX3 g aT zT]) (List.flatten [gX3 g aT r]) := by
  intro sz
  refine k_enter (lv := [(0, .ref (aT 0)), (1, .long v1), (3, .long v3)]) RX3 (by decide +kernel) rfl rfl (Nat.le_of_ble_eq_true rfl) ?_
  intro p en s m args below meth c ls hsz X V hl
  obtain ⟨QQ, hQQ⟩ : ∃ q, q = MQ below (va_Qv (fun (_ : Unit) => True) (fun _ => kE D (List.flatten [gX3 g aT r])) (va_A (List.flatten [gX3 g aT zT]) sz)) args s 0 0 (va_A (List.flatten [gX3 g aT zT]) sz) := ⟨_, rfl⟩
  rw [← hQQ]
  obtain ⟨AA, hAA⟩ : ∃ q, q = va_A (List.flatten [gX3 g aT zT]) sz := ⟨_, rfl⟩
  rw [← hAA] at V
  have J56 : ∀ (zT : tX3) (v5 : Int64) (v7 : Int32) (k56_1 : Int64) (H : Heap) (locs : List Loc) (ls : Array Slot), p_X3_set_J56 v1 v3 zT v5 v7 k56_1 = some r → kW D AA s.heap H (List.flatten [gX3 g aT zT]) locs → lv_has ls 8 [(0, .ref (aT 0)), (3, .long v3), (5, .long v5), (7, .int v7)] → W p l en (kR 2 51) s m args below meth c H locs 0 0 QQ (F0 m 56 ls [.long k56_1, .ref (aT 0)]) := by
    intro zT v5 v7 k56_1 H locs ls h V hl
    unfold p_X3_set_J56 at h
    refine lv_lload X.1 X.2.1 dX3_set_56 (lv_at hl 2 rfl) ?_
    obtain ⟨hc, h⟩ := kg_of h
    refine lv_ldiv X.1 X.2.1 dX3_set_58 hc ?_
    refine pf_X3_17 (i := 0) X V rfl dX3_set_59 (fun H locs V => ?_)
    obtain ⟨z9, ez9⟩ : ∃ y, y = ((k56_1 / v5), zT.2) := ⟨_, rfl⟩
    replace h := kl_of ez9 h
    have V : kW D AA s.heap H (List.flatten [gX3 g aT z9]) locs := by rw [ez9]; exact V
    refine lv_aload_n X.1 X.2.1 dX3_set_62 rfl (lv_at hl 0 rfl) ?_
    refine lv_iload X.1 X.2.1 dX3_set_63 (lv_at hl 3 rfl) ?_
    refine lv_if_eq (tgt := 73) X.1 X.2.1 dX3_set_65 (by decide) (fun hc => ?_) (fun hc => ?_)
    · replace h := kif_t hc h
      refine lv_lload_n X.1 X.2.1 dX3_set_73 rfl (lv_at hl 1 rfl) ?_
      refine lv_lload X.1 X.2.1 dX3_set_74 (lv_at hl 2 rfl) ?_
      obtain ⟨hc, h⟩ := kg_of h
      refine lv_ldiv X.1 X.2.1 dX3_set_76 hc ?_
      refine pf_X3_7 (i := 0) X V rfl dX3_set_77 (fun H locs V => ?_)
      obtain ⟨z10, ez10⟩ : ∃ y, y = (z9.1, (v3 / v5)) := ⟨_, rfl⟩
      replace h := kl_of ez10 h
      have V : kW D AA s.heap H (List.flatten [gX3 g aT z10]) locs := by rw [ez10]; exact V
      obtain rfl := Option.some.inj h
      rw [hAA] at V
      rw [hQQ]
      exact k_vret X V dX3_set_80
    · replace h := kif_f hc h
      refine lv_lload_n X.1 X.2.1 dX3_set_68 rfl (lv_at hl 1 rfl) ?_
      refine lv_lneg X.1 X.2.1 dX3_set_69 ?_
      refine lv_goto (tgt := 74) X.1 X.2.1 dX3_set_70 (by decide) ?_
      refine lv_lload X.1 X.2.1 dX3_set_74 (lv_at hl 2 rfl) ?_
      obtain ⟨hc, h⟩ := kg_of h
      refine lv_ldiv X.1 X.2.1 dX3_set_76 hc ?_
      refine pf_X3_7 (i := 0) X V rfl dX3_set_77 (fun H locs V => ?_)
      obtain ⟨z11, ez11⟩ : ∃ y, y = (z9.1, ((-v3) / v5)) := ⟨_, rfl⟩
      replace h := kl_of ez11 h
      have V : kW D AA s.heap H (List.flatten [gX3 g aT z11]) locs := by rw [ez11]; exact V
      obtain rfl := Option.some.inj h
      rw [hAA] at V
      rw [hQQ]
      exact k_vret X V dX3_set_80
  have J18 : ∀ (zT : tX3) (v5 : Int64) (k18_0 : Int32) (H : Heap) (locs : List Loc) (ls : Array Slot), p_X3_set_J18 v1 v3 zT v5 k18_0 = some r → kW D AA s.heap H (List.flatten [gX3 g aT zT]) locs → lv_has ls 8 [(0, .ref (aT 0)), (1, .long v1), (3, .long v3), (5, .long v5)] → W p l en (kR 2 51) s m args below meth c H locs 0 0 QQ (F0 m 18 ls [.int k18_0]) := by
    intro zT v5 k18_0 H locs ls h V hl
    unfold p_X3_set_J18 at h
    refine lv_istore (lv' := [(7, .int k18_0), (0, .ref (aT 0)), (1, .long v1), (3, .long v3), (5, .long v5)]) X.1 X.2.1 dX3_set_18 hl (by decide) rfl (fun ls hl => ?_)
    refine lv_lload_n X.1 X.2.1 dX3_set_20 rfl (lv_at hl 3 rfl) ?_
    refine lv_lconst (v := (0 : Int64)) X.1 X.2.1 dX3_set_21 (by decide) ?_
    refine W.lcmp X.1 X.2.1 dX3_set_22 ?_
    refine lv_if_eq (tgt := 33) X.1 X.2.1 dX3_set_23 (by decide) (fun hc => ?_) (fun hc => ?_)
    · replace h := kif_t hc h
      refine lv_aload_n X.1 X.2.1 dX3_set_33 rfl (lv_at hl 1 rfl) ?_
      refine lv_lconst (v := (0 : Int64)) X.1 X.2.1 dX3_set_34 (by decide) ?_
      refine pf_X3_17 (i := 0) X V rfl dX3_set_35 (fun H locs V => ?_)
      obtain ⟨z12, ez12⟩ : ∃ y, y = ((0 : Int64), zT.2) := ⟨_, rfl⟩
      replace h := kl_of ez12 h
      have V : kW D AA s.heap H (List.flatten [gX3 g aT z12]) locs := by rw [ez12]; exact V
      refine lv_aload_n X.1 X.2.1 dX3_set_38 rfl (lv_at hl 1 rfl) ?_
      refine lv_lconst (v := (1 : Int64)) X.1 X.2.1 dX3_set_39 (by decide) ?_
      refine pf_X3_7 (i := 0) X V rfl dX3_set_40 (fun H locs V => ?_)
      obtain ⟨z13, ez13⟩ : ∃ y, y = (z12.1, (1 : Int64)) := ⟨_, rfl⟩
      replace h := kl_of ez13 h
      have V : kW D AA s.heap H (List.flatten [gX3 g aT z13]) locs := by rw [ez13]; exact V
      obtain rfl := Option.some.inj h
      rw [hAA] at V
      rw [hQQ]
      exact k_vret X V dX3_set_43
    · replace h := kif_f hc h
      refine lv_lload X.1 X.2.1 dX3_set_26 (lv_at hl 4 rfl) ?_
      refine lv_lconst (v := (0 : Int64)) X.1 X.2.1 dX3_set_28 (by decide) ?_
      refine W.lcmp X.1 X.2.1 dX3_set_29 ?_
      refine lv_if_ne (tgt := 44) X.1 X.2.1 dX3_set_30 (by decide) (fun hc => ?_) (fun hc => ?_)
      · replace h := kif_f hc h
        refine lv_aload_n X.1 X.2.1 dX3_set_44 rfl (lv_at hl 1 rfl) ?_
        refine lv_iload X.1 X.2.1 dX3_set_45 (lv_at hl 0 rfl) ?_
        refine lv_if_eq (tgt := 55) X.1 X.2.1 dX3_set_47 (by decide) (fun hc => ?_) (fun hc => ?_)
        · replace h := kif_t hc h
          refine lv_lload_n X.1 X.2.1 dX3_set_55 rfl (lv_at hl 2 rfl) ?_
          exact J56 zT v5 k18_0 v1 _ _ _ h V (lv_sub hl [1, 3, 4, 0] rfl)
        · replace h := kif_f hc h
          refine lv_lload_n X.1 X.2.1 dX3_set_50 rfl (lv_at hl 2 rfl) ?_
          refine lv_lneg X.1 X.2.1 dX3_set_51 ?_
          refine lv_goto (tgt := 56) X.1 X.2.1 dX3_set_52 (by decide) ?_
          exact J56 zT v5 k18_0 (-v1) _ _ _ h V (lv_sub hl [1, 3, 4, 0] rfl)
      · replace h := kif_t hc h
        refine lv_aload_n X.1 X.2.1 dX3_set_33 rfl (lv_at hl 1 rfl) ?_
        refine lv_lconst (v := (0 : Int64)) X.1 X.2.1 dX3_set_34 (by decide) ?_
        refine pf_X3_17 (i := 0) X V rfl dX3_set_35 (fun H locs V => ?_)
        obtain ⟨z14, ez14⟩ : ∃ y, y = ((0 : Int64), zT.2) := ⟨_, rfl⟩
        replace h := kl_of ez14 h
        have V : kW D AA s.heap H (List.flatten [gX3 g aT z14]) locs := by rw [ez14]; exact V
        refine lv_aload_n X.1 X.2.1 dX3_set_38 rfl (lv_at hl 1 rfl) ?_
        refine lv_lconst (v := (1 : Int64)) X.1 X.2.1 dX3_set_39 (by decide) ?_
        refine pf_X3_7 (i := 0) X V rfl dX3_set_40 (fun H locs V => ?_)
        obtain ⟨z15, ez15⟩ : ∃ y, y = (z14.1, (1 : Int64)) := ⟨_, rfl⟩
        replace h := kl_of ez15 h
        have V : kW D AA s.heap H (List.flatten [gX3 g aT z15]) locs := by rw [ez15]; exact V
        obtain rfl := Option.some.inj h
        rw [hAA] at V
        rw [hQQ]
        exact k_vret X V dX3_set_43
  unfold p_X3_set at h
  refine lv_lload_n X.1 X.2.1 dX3_set_0 rfl (lv_at hl 1 rfl) ?_
  refine lv_lload_n X.1 X.2.1 dX3_set_1 rfl (lv_at hl 2 rfl) ?_
  obtain ⟨x16, hx16, h⟩ := kb_of h
  refine s_callSl (segs' := [gX3 g aT zT]) X V (c_X3_gcd l D g v1 v3 x16 hx16) w_X3_13 ⟨Nat.le_of_ble_eq_true rfl, Nat.le_of_ble_eq_true rfl⟩ ⟨Nat.zero_le _, Nat.zero_le _⟩ rfl [] rfl rfl (kFst_refl _) rfl rfl hl.1 (Nat.le_of_ble_eq_true rfl) dX3_set_2 (fun H locs V => ?_)
  refine lv_lstore (lv' := [(5, .long x16), (0, .ref (aT 0)), (1, .long v1), (3, .long v3)]) X.1 X.2.1 dX3_set_5 hl (by decide) rfl (fun ls hl => ?_)
  refine lv_lload_n X.1 X.2.1 dX3_set_7 rfl (lv_at hl 3 rfl) ?_
  refine lv_lconst (v := (0 : Int64)) X.1 X.2.1 dX3_set_8 (by decide) ?_
  refine W.lcmp X.1 X.2.1 dX3_set_9 ?_
  refine lv_if_ge (tgt := 17) X.1 X.2.1 dX3_set_10 (by decide) (fun hc => ?_) (fun hc => ?_)
  · replace h := kif_t hc h
    refine lv_iconst (v := (0 : Int32)) X.1 X.2.1 dX3_set_17 (by decide) ?_
    exact J18 zT x16 (0 : Int32) _ _ _ h V (lv_sub hl [1, 2, 3, 0] rfl)
  · replace h := kif_f hc h
    refine lv_iconst (v := (1 : Int32)) X.1 X.2.1 dX3_set_13 (by decide) ?_
    refine lv_goto (tgt := 18) X.1 X.2.1 dX3_set_14 (by decide) ?_
    exact J18 zT x16 (1 : Int32) _ _ _ h V (lv_sub hl [1, 2, 3, 0] rfl)

def p_X3_compare_L17 (v0 : Int64) (v2 : Int64) (v4 : Int64) (v6 : Int64) (s : Int64 × Int64 × Int64 × Int64 × Int32 × Int64 × Int64 × Int64 × Int64) : Option (Nat × (Int64 × Int64 × Int64 × Int64 × Int32 × Int64 × Int64 × Int64 × Int64)) :=
  kif ((200 : Int32) ≤ s.2.2.2.2.1) (some (143, (s.1, s.2.1, s.2.2.1, s.2.2.2.1, s.2.2.2.2.1, (0 : Int64), (0 : Int64), (0 : Int64), (0 : Int64)))) (kif ((lg_cmp s.2.1 (0 : Int64)) ≤ 0) (some (143, (s.1, s.2.1, s.2.2.1, s.2.2.2.1, s.2.2.2.2.1, (0 : Int64), (0 : Int64), (0 : Int64), (0 : Int64)))) (kif ((lg_cmp s.2.2.2.1 (0 : Int64)) ≤ 0) (some (143, (s.1, s.2.1, s.2.2.1, s.2.2.2.1, s.2.2.2.2.1, (0 : Int64), (0 : Int64), (0 : Int64), (0 : Int64)))) (kb (p_J9_floorDiv_f86c9 s.1 s.2.1) (fun x1 => kb (p_J9_floorDiv_f86c9 s.2.2.1 s.2.2.2.1) (fun x2 => kl (s.1 - (x1 * s.2.1)) (fun y3 => kl (s.2.2.1 - (x2 * s.2.2.2.1)) (fun y4 => kif ((lg_cmp x1 x2) = 0) (kif ((lg_cmp y3 (0 : Int64)) = 0) (some (113, (s.1, s.2.1, s.2.2.1, s.2.2.2.1, s.2.2.2.2.1, (0 : Int64), (0 : Int64), y3, y4))) (kif ((lg_cmp y4 (0 : Int64)) = 0) (some (113, (s.1, s.2.1, s.2.2.1, s.2.2.2.1, s.2.2.2.2.1, (0 : Int64), (0 : Int64), y3, y4))) (kl (s.2.2.2.2.1 + (1 : Int32)) (fun y5 => some (17, (s.2.2.2.1, y4, s.2.1, y3, y5, (0 : Int64), (0 : Int64), (0 : Int64), (0 : Int64))))))) (some (85, (s.1, s.2.1, s.2.2.1, s.2.2.2.1, s.2.2.2.2.1, x1, x2, (0 : Int64), (0 : Int64)))))))))))
def p_X3_compare_J113 (v0 : Int64) (v2 : Int64) (v4 : Int64) (v6 : Int64) (v21 : Int64) (v23 : Int64) : Option (Int32) :=
  kb (p_J13_compare_74951 v21 v23) (fun x7 => some x7)
def p_X3_compare (v0 : Int64) (v2 : Int64) (v4 : Int64) (v6 : Int64) : Option (Int32) :=
  kb (kitr 17 (fun q => p_X3_compare_L17 v0 v2 v4 v6 q) kF (v0, v2, v4, v6, (0 : Int32), (0 : Int64), (0 : Int64), (0 : Int64), (0 : Int64))) (fun x6 => kif (x6.1 = 85) (kif (0 ≤ (lg_cmp x6.2.2.2.2.2.2.1 x6.2.2.2.2.2.2.2.1)) (some (1 : Int32)) (some (-1 : Int32))) (kif (x6.1 = 113) (p_X3_compare_J113 v0 v2 v4 v6 x6.2.2.2.2.2.2.2.2.1 x6.2.2.2.2.2.2.2.2.2) (kg (x6.1 = 143) (some (0 : Int32)))))
set_option maxHeartbeats 4000000 in
set_option maxRecDepth 100000 in
theorem c_X3_compare (l : Launch) (D : va_G) (g : kG)  (v0 : Int64) (v2 : Int64) (v4 : Int64) (v6 : Int64) (r : Int32) (h : p_X3_compare v0 v2 v4 v6 = some r) : kMi l yX3_compare cX3_compare 25 (some .int) (kR 1 25) D (kty g) [.long v0, .long v2, .long v4, .long v6] (List.flatten ([] : List va_W)) r (List.flatten ([] : List va_W)) := by
  intro sz
  refine k_enter (lv := [(0, .long v0), (2, .long v2), (4, .long v4), (6, .long v6)]) RX3 (by decide +kernel) rfl rfl (Nat.le_of_ble_eq_true rfl) ?_
  intro p en s m args below meth c ls hsz X V hl
  obtain ⟨QQ, hQQ⟩ : ∃ q, q = MQ below (va_Qi (fun r' (_ : Unit) => r' = r) (fun _ => kE D (List.flatten ([] : List va_W))) (va_A (List.flatten ([] : List va_W)) sz)) args s 0 0 (va_A (List.flatten ([] : List va_W)) sz) := ⟨_, rfl⟩
  rw [← hQQ]
  obtain ⟨AA, hAA⟩ : ∃ q, q = va_A (List.flatten ([] : List va_W)) sz := ⟨_, rfl⟩
  rw [← hAA] at V
  have J113 : ∀ (v21 : Int64) (v23 : Int64) (H : Heap) (locs : List Loc) (ls : Array Slot), p_X3_compare_J113 v0 v2 v4 v6 v21 v23 = some r → kW D AA s.heap H (List.flatten ([] : List va_W)) locs → lv_has ls 25 [(21, .long v21), (23, .long v23)] → W p l en (kR 1 25) s m args below meth c H locs 0 0 QQ (F0 m 113 ls []) := by
    intro v21 v23 H locs ls h V hl
    unfold p_X3_compare_J113 at h
    refine lv_lload X.1 X.2.1 dX3_compare_113 (lv_at hl 0 rfl) ?_
    refine lv_lload X.1 X.2.1 dX3_compare_115 (lv_at hl 1 rfl) ?_
    obtain ⟨x8, hx8, h⟩ := kb_of h
    refine s_callSi (segs' := ([] : List va_W)) X V (c_J13_compare_74951 l D g v21 v23 x8 hx8) w_X3_33 ⟨Nat.le_of_ble_eq_true rfl, Nat.le_of_ble_eq_true rfl⟩ ⟨Nat.zero_le _, Nat.zero_le _⟩ rfl [] rfl rfl (kFst_refl _) rfl rfl hl.1 (Nat.le_of_ble_eq_true rfl) dX3_compare_117 (fun H locs V => ?_)
    obtain rfl := Option.some.inj h
    rw [hAA] at V
    rw [hQQ]
    exact k_iret X V rfl dX3_compare_120
  unfold p_X3_compare at h
  refine lv_lload_n X.1 X.2.1 dX3_compare_0 rfl (lv_at hl 0 rfl) ?_
  refine lv_lstore (lv' := [(8, .long v0), (0, .long v0), (2, .long v2), (4, .long v4), (6, .long v6)]) X.1 X.2.1 dX3_compare_1 hl (by decide) rfl (fun ls hl => ?_)
  refine lv_lload_n X.1 X.2.1 dX3_compare_3 rfl (lv_at hl 2 rfl) ?_
  refine lv_lstore (lv' := [(10, .long v2), (8, .long v0), (0, .long v0), (2, .long v2), (4, .long v4), (6, .long v6)]) X.1 X.2.1 dX3_compare_4 hl (by decide) rfl (fun ls hl => ?_)
  refine lv_lload X.1 X.2.1 dX3_compare_6 (lv_at hl 4 rfl) ?_
  refine lv_lstore (lv' := [(12, .long v4), (10, .long v2), (8, .long v0), (0, .long v0), (2, .long v2), (4, .long v4), (6, .long v6)]) X.1 X.2.1 dX3_compare_8 hl (by decide) rfl (fun ls hl => ?_)
  refine lv_lload X.1 X.2.1 dX3_compare_10 (lv_at hl 6 rfl) ?_
  refine lv_lstore (lv' := [(14, .long v6), (12, .long v4), (10, .long v2), (8, .long v0), (0, .long v0), (2, .long v2), (4, .long v4), (6, .long v6)]) X.1 X.2.1 dX3_compare_12 hl (by decide) rfl (fun ls hl => ?_)
  refine lv_iconst (v := (0 : Int32)) X.1 X.2.1 dX3_compare_14 (by decide) ?_
  refine lv_istore (lv' := [(16, .int (0 : Int32)), (14, .long v6), (12, .long v4), (10, .long v2), (8, .long v0), (0, .long v0), (2, .long v2), (4, .long v4), (6, .long v6)]) X.1 X.2.1 dX3_compare_15 hl (by decide) rfl (fun ls hl => ?_)
  obtain ⟨x9, hx9, h⟩ := kb_of h
  refine (kitr_go (hd := 17) (body := fun q => p_X3_compare_L17 v0 v2 v4 v6 q) (G := (fun e => ∀ (H : Heap) (locs : List Loc) (ls : Array Slot), kW D AA s.heap H (List.flatten ([] : List va_W)) locs → lv_has ls 25 ([(8, .long e.2.1), (10, .long e.2.2.1), (12, .long e.2.2.2.1), (14, .long e.2.2.2.2.1), (16, .int e.2.2.2.2.2.1)] ++ (if e.1 = 85 then [(17, .long e.2.2.2.2.2.2.1), (19, .long e.2.2.2.2.2.2.2.1)] else (if e.1 = 113 then [(21, .long e.2.2.2.2.2.2.2.2.1), (23, .long e.2.2.2.2.2.2.2.2.2)] else []))) → W p l en (kR 1 25) s m args below meth c H locs 0 0 QQ (F0 m e.1 ls []))) (fun s10 e11 hb12 hG13 => ?_) kF _ x9 hx9 ?_) _ _ _ V (lv_sub hl [4, 3, 2, 1, 0] rfl)
  · intro H locs ls V hl
    show W p l en (kR 1 25) s m args below meth c H locs 0 0 QQ (F0 m 17 ls [])
    have h : p_X3_compare_L17 v0 v2 v4 v6 s10 = some e11 := hb12
    unfold p_X3_compare_L17 at h
    have V : kW D AA s.heap H (List.flatten ([] : List va_W)) locs := V
    have hl : lv_has ls 25 [(8, .long s10.1), (10, .long s10.2.1), (12, .long s10.2.2.1), (14, .long s10.2.2.2.1), (16, .int s10.2.2.2.2.1)] := hl
    refine lv_iload X.1 X.2.1 dX3_compare_17 (lv_at hl 4 rfl) ?_
    refine lv_sipush (v := (200 : Int32)) X.1 X.2.1 dX3_compare_19 (by decide) ?_
    refine lv_icmp_ge (tgt := 143) X.1 X.2.1 dX3_compare_22 (by decide) (fun hc => ?_) (fun hc => ?_)
    · replace h := kif_t hc h
      obtain rfl := Option.some.inj h
      exact hG13 _ _ _ V (lv_sub hl [0, 1, 2, 3, 4] rfl)
    · replace h := kif_f hc h
      refine lv_lload X.1 X.2.1 dX3_compare_25 (lv_at hl 1 rfl) ?_
      refine lv_lconst (v := (0 : Int64)) X.1 X.2.1 dX3_compare_27 (by decide) ?_
      refine W.lcmp X.1 X.2.1 dX3_compare_28 ?_
      refine lv_if_le (tgt := 143) X.1 X.2.1 dX3_compare_29 (by decide) (fun hc => ?_) (fun hc => ?_)
      · replace h := kif_t hc h
        obtain rfl := Option.some.inj h
        exact hG13 _ _ _ V (lv_sub hl [0, 1, 2, 3, 4] rfl)
      · replace h := kif_f hc h
        refine lv_lload X.1 X.2.1 dX3_compare_32 (lv_at hl 3 rfl) ?_
        refine lv_lconst (v := (0 : Int64)) X.1 X.2.1 dX3_compare_34 (by decide) ?_
        refine W.lcmp X.1 X.2.1 dX3_compare_35 ?_
        refine lv_if_le (tgt := 143) X.1 X.2.1 dX3_compare_36 (by decide) (fun hc => ?_) (fun hc => ?_)
        · replace h := kif_t hc h
          obtain rfl := Option.some.inj h
          exact hG13 _ _ _ V (lv_sub hl [0, 1, 2, 3, 4] rfl)
        · replace h := kif_f hc h
          refine lv_lload X.1 X.2.1 dX3_compare_39 (lv_at hl 0 rfl) ?_
          refine lv_lload X.1 X.2.1 dX3_compare_41 (lv_at hl 1 rfl) ?_
          obtain ⟨x14, hx14, h⟩ := kb_of h
          refine s_callSl (segs' := ([] : List va_W)) X V (c_J9_floorDiv_f86c9 l D g s10.1 s10.2.1 x14 hx14) w_X3_30 ⟨Nat.le_of_ble_eq_true rfl, Nat.le_of_ble_eq_true rfl⟩ ⟨Nat.zero_le _, Nat.zero_le _⟩ rfl [] rfl rfl (kFst_refl _) rfl rfl hl.1 (Nat.le_of_ble_eq_true rfl) dX3_compare_43 (fun H locs V => ?_)
          refine lv_lstore (lv' := [(17, .long x14), (8, .long s10.1), (10, .long s10.2.1), (12, .long s10.2.2.1), (14, .long s10.2.2.2.1), (16, .int s10.2.2.2.2.1)]) X.1 X.2.1 dX3_compare_46 hl (by decide) rfl (fun ls hl => ?_)
          refine lv_lload X.1 X.2.1 dX3_compare_48 (lv_at hl 3 rfl) ?_
          refine lv_lload X.1 X.2.1 dX3_compare_50 (lv_at hl 4 rfl) ?_
          obtain ⟨x15, hx15, h⟩ := kb_of h
          refine s_callSl (segs' := ([] : List va_W)) X V (c_J9_floorDiv_f86c9 l D g s10.2.2.1 s10.2.2.2.1 x15 hx15) w_X3_30 ⟨Nat.le_of_ble_eq_true rfl, Nat.le_of_ble_eq_true rfl⟩ ⟨Nat.zero_le _, Nat.zero_le _⟩ rfl [] rfl rfl (kFst_refl _) rfl rfl hl.1 (Nat.le_of_ble_eq_true rfl) dX3_compare_52 (fun H locs V => ?_)
          refine lv_lstore (lv' := [(19, .long x15), (17, .long x14), (8, .long s10.1), (10, .long s10.2.1), (12, .long s10.2.2.1), (14, .long s10.2.2.2.1), (16, .int s10.2.2.2.2.1)]) X.1 X.2.1 dX3_compare_55 hl (by decide) rfl (fun ls hl => ?_)
          refine lv_lload X.1 X.2.1 dX3_compare_57 (lv_at hl 2 rfl) ?_
          refine lv_lload X.1 X.2.1 dX3_compare_59 (lv_at hl 1 rfl) ?_
          refine lv_lload X.1 X.2.1 dX3_compare_61 (lv_at hl 3 rfl) ?_
          refine lv_lmul X.1 X.2.1 dX3_compare_63 ?_
          refine lv_lsub X.1 X.2.1 dX3_compare_64 ?_
          refine lv_topl (fun y16 ey16 => ?_)
          replace h := kl_of ey16 h
          refine lv_lstore (lv' := [(21, .long y16), (19, .long x15), (17, .long x14), (8, .long s10.1), (10, .long s10.2.1), (12, .long s10.2.2.1), (14, .long s10.2.2.2.1), (16, .int s10.2.2.2.2.1)]) X.1 X.2.1 dX3_compare_65 hl (by decide) rfl (fun ls hl => ?_)
          refine lv_lload X.1 X.2.1 dX3_compare_67 (lv_at hl 5 rfl) ?_
          refine lv_lload X.1 X.2.1 dX3_compare_69 (lv_at hl 1 rfl) ?_
          refine lv_lload X.1 X.2.1 dX3_compare_71 (lv_at hl 6 rfl) ?_
          refine lv_lmul X.1 X.2.1 dX3_compare_73 ?_
          refine lv_lsub X.1 X.2.1 dX3_compare_74 ?_
          refine lv_topl (fun y17 ey17 => ?_)
          replace h := kl_of ey17 h
          refine lv_lstore (lv' := [(23, .long y17), (21, .long y16), (19, .long x15), (17, .long x14), (8, .long s10.1), (10, .long s10.2.1), (12, .long s10.2.2.1), (14, .long s10.2.2.2.1), (16, .int s10.2.2.2.2.1)]) X.1 X.2.1 dX3_compare_75 hl (by decide) rfl (fun ls hl => ?_)
          refine lv_lload X.1 X.2.1 dX3_compare_77 (lv_at hl 3 rfl) ?_
          refine lv_lload X.1 X.2.1 dX3_compare_79 (lv_at hl 2 rfl) ?_
          refine W.lcmp X.1 X.2.1 dX3_compare_81 ?_
          refine lv_if_eq (tgt := 99) X.1 X.2.1 dX3_compare_82 (by decide) (fun hc => ?_) (fun hc => ?_)
          · replace h := kif_t hc h
            refine lv_lload X.1 X.2.1 dX3_compare_99 (lv_at hl 1 rfl) ?_
            refine lv_lconst (v := (0 : Int64)) X.1 X.2.1 dX3_compare_101 (by decide) ?_
            refine W.lcmp X.1 X.2.1 dX3_compare_102 ?_
            refine lv_if_eq (tgt := 113) X.1 X.2.1 dX3_compare_103 (by decide) (fun hc => ?_) (fun hc => ?_)
            · replace h := kif_t hc h
              obtain rfl := Option.some.inj h
              exact hG13 _ _ _ V (lv_sub hl [4, 5, 6, 7, 8, 1, 0] rfl)
            · replace h := kif_f hc h
              refine lv_lload X.1 X.2.1 dX3_compare_106 (lv_at hl 0 rfl) ?_
              refine lv_lconst (v := (0 : Int64)) X.1 X.2.1 dX3_compare_108 (by decide) ?_
              refine W.lcmp X.1 X.2.1 dX3_compare_109 ?_
              refine lv_if_ne (tgt := 121) X.1 X.2.1 dX3_compare_110 (by decide) (fun hc => ?_) (fun hc => ?_)
              · replace h := kif_f hc h
                refine lv_lload X.1 X.2.1 dX3_compare_121 (lv_at hl 7 rfl) ?_
                refine lv_lstore (lv' := [(8, .long s10.2.2.2.1), (23, .long y17), (21, .long y16), (19, .long x15), (17, .long x14), (10, .long s10.2.1), (12, .long s10.2.2.1), (14, .long s10.2.2.2.1), (16, .int s10.2.2.2.2.1)]) X.1 X.2.1 dX3_compare_123 hl (by decide) rfl (fun ls hl => ?_)
                refine lv_lload X.1 X.2.1 dX3_compare_125 (lv_at hl 5 rfl) ?_
                refine lv_lstore (lv' := [(12, .long s10.2.1), (8, .long s10.2.2.2.1), (23, .long y17), (21, .long y16), (19, .long x15), (17, .long x14), (10, .long s10.2.1), (14, .long s10.2.2.2.1), (16, .int s10.2.2.2.2.1)]) X.1 X.2.1 dX3_compare_127 hl (by decide) rfl (fun ls hl => ?_)
                refine lv_lload X.1 X.2.1 dX3_compare_129 (lv_at hl 2 rfl) ?_
                refine lv_lstore (lv' := [(10, .long y17), (12, .long s10.2.1), (8, .long s10.2.2.2.1), (23, .long y17), (21, .long y16), (19, .long x15), (17, .long x14), (14, .long s10.2.2.2.1), (16, .int s10.2.2.2.2.1)]) X.1 X.2.1 dX3_compare_131 hl (by decide) rfl (fun ls hl => ?_)
                refine lv_lload X.1 X.2.1 dX3_compare_133 (lv_at hl 4 rfl) ?_
                refine lv_lstore (lv' := [(14, .long y16), (10, .long y17), (12, .long s10.2.1), (8, .long s10.2.2.2.1), (23, .long y17), (21, .long y16), (19, .long x15), (17, .long x14), (16, .int s10.2.2.2.2.1)]) X.1 X.2.1 dX3_compare_135 hl (by decide) rfl (fun ls hl => ?_)
                obtain ⟨y18, ey18⟩ : ∃ y : Int32, y = (s10.2.2.2.2.1 + (1 : Int32)) := ⟨_, rfl⟩
                replace h := kl_of ey18 h
                refine lv_iinc (v := y18) (lv' := [(16, .int y18), (14, .long y16), (10, .long y17), (12, .long s10.2.1), (8, .long s10.2.2.2.1), (23, .long y17), (21, .long y16), (19, .long x15), (17, .long x14)]) X.1 X.2.1 dX3_compare_137 hl (k := 8) rfl (by rw [ey18]; rfl) (by decide) rfl (fun ls hl => ?_)
                refine lv_goto (tgt := 17) X.1 X.2.1 dX3_compare_140 (by decide) ?_
                obtain rfl := Option.some.inj h
                exact hG13 _ _ _ V (lv_sub hl [4, 2, 3, 1, 0] rfl)
              · replace h := kif_t hc h
                obtain rfl := Option.some.inj h
                exact hG13 _ _ _ V (lv_sub hl [4, 5, 6, 7, 8, 1, 0] rfl)
          · replace h := kif_f hc h
            obtain rfl := Option.some.inj h
            exact hG13 _ _ _ V (lv_sub hl [4, 5, 6, 7, 8, 3, 2] rfl)
  · intro H locs ls V hl
    have V : kW D AA s.heap H (List.flatten ([] : List va_W)) locs := V
    by_cases hc : x9.1 = 85
    · replace h := kif_t hc h
      refine W.eq (g2 := F0 m 85 ls []) (by rw [hc]) ?_
      have hl : lv_has ls 25 [(8, .long x9.2.1), (10, .long x9.2.2.1), (12, .long x9.2.2.2.1), (14, .long x9.2.2.2.2.1), (16, .int x9.2.2.2.2.2.1), (17, .long x9.2.2.2.2.2.2.1), (19, .long x9.2.2.2.2.2.2.2.1)] := by have q := hl; rw [hc] at q; exact q
      refine lv_lload X.1 X.2.1 dX3_compare_85 (lv_at hl 5 rfl) ?_
      refine lv_lload X.1 X.2.1 dX3_compare_87 (lv_at hl 6 rfl) ?_
      refine W.lcmp X.1 X.2.1 dX3_compare_89 ?_
      refine lv_if_ge (tgt := 97) X.1 X.2.1 dX3_compare_90 (by decide) (fun hc => ?_) (fun hc => ?_)
      · replace h := kif_t hc h
        refine lv_iconst (v := (1 : Int32)) X.1 X.2.1 dX3_compare_97 (by decide) ?_
        obtain rfl := Option.some.inj h
        rw [hAA] at V
        rw [hQQ]
        exact k_iret X V rfl dX3_compare_98
      · replace h := kif_f hc h
        refine lv_iconst (v := (-1 : Int32)) X.1 X.2.1 dX3_compare_93 (by decide) ?_
        refine lv_goto (tgt := 98) X.1 X.2.1 dX3_compare_94 (by decide) ?_
        obtain rfl := Option.some.inj h
        rw [hAA] at V
        rw [hQQ]
        exact k_iret X V rfl dX3_compare_98
    · replace h := kif_f hc h
      by_cases hc : x9.1 = 113
      · replace h := kif_t hc h
        refine W.eq (g2 := F0 m 113 ls []) (by rw [hc]) ?_
        have hl : lv_has ls 25 [(8, .long x9.2.1), (10, .long x9.2.2.1), (12, .long x9.2.2.2.1), (14, .long x9.2.2.2.2.1), (16, .int x9.2.2.2.2.2.1), (21, .long x9.2.2.2.2.2.2.2.2.1), (23, .long x9.2.2.2.2.2.2.2.2.2)] := by have q := hl; rw [hc] at q; exact q
        exact J113 x9.2.2.2.2.2.2.2.2.1 x9.2.2.2.2.2.2.2.2.2 _ _ _ h V (lv_sub hl [5, 6] rfl)
      · replace h := kif_f hc h
        obtain ⟨hc, h⟩ := kg_of h
        refine W.eq (g2 := F0 m 143 ls []) (by rw [hc]) ?_
        have hl : lv_has ls 25 [(8, .long x9.2.1), (10, .long x9.2.2.1), (12, .long x9.2.2.2.1), (14, .long x9.2.2.2.2.1), (16, .int x9.2.2.2.2.2.1)] := by have q := hl; rw [hc] at q; exact q
        refine lv_iconst (v := (0 : Int32)) X.1 X.2.1 dX3_compare_143 (by decide) ?_
        obtain rfl := Option.some.inj h
        rw [hAA] at V
        rw [hQQ]
        exact k_iret X V rfl dX3_compare_144

def p_X3_part (zT : tX3) (v1 : Int32) : Option (Int64) :=
  kif (v1 = 0) (some zT.1) (some zT.2)
set_option maxHeartbeats 4000000 in
set_option maxRecDepth 100000 in
theorem c_X3_part (l : Launch) (D : va_G) (g : kG) (aT : Nat → Nat) (zT : tX3) (v1 : Int32) (r : Int64) (h : p_X3_part zT v1 = some r) : kMl l yX3_part cX3_part 2 (some .long) (kR 0 0) D (kty g) [.ref (aT 0), .int v1] (List.flatten [gX3 g aT zT]) r (List.flatten [gX3 g aT zT]) := by
  intro sz
  refine k_enter (lv := [(0, .ref (aT 0)), (1, .int v1)]) RX3 (by decide +kernel) rfl rfl (Nat.le_of_ble_eq_true rfl) ?_
  intro p en s m args below meth c ls hsz X V hl
  obtain ⟨QQ, hQQ⟩ : ∃ q, q = MQ below (va_Ql (fun r' (_ : Unit) => r' = r) (fun _ => kE D (List.flatten [gX3 g aT zT])) (va_A (List.flatten [gX3 g aT zT]) sz)) args s 0 0 (va_A (List.flatten [gX3 g aT zT]) sz) := ⟨_, rfl⟩
  rw [← hQQ]
  obtain ⟨AA, hAA⟩ : ∃ q, q = va_A (List.flatten [gX3 g aT zT]) sz := ⟨_, rfl⟩
  rw [← hAA] at V
  unfold p_X3_part at h
  refine lv_iload_n X.1 X.2.1 dX3_part_0 rfl (lv_at hl 1 rfl) ?_
  refine lv_if_ne (tgt := 11) X.1 X.2.1 dX3_part_1 (by decide) (fun hc => ?_) (fun hc => ?_)
  · replace h := kif_f hc h
    refine lv_aload_n X.1 X.2.1 dX3_part_11 rfl (lv_at hl 0 rfl) ?_
    refine gf_X3_7 (i := 0) X V rfl dX3_part_12 ?_
    obtain rfl := Option.some.inj h
    rw [hAA] at V
    rw [hQQ]
    exact k_lret X V rfl dX3_part_15
  · replace h := kif_t hc h
    refine lv_aload_n X.1 X.2.1 dX3_part_4 rfl (lv_at hl 0 rfl) ?_
    refine gf_X3_17 (i := 0) X V rfl dX3_part_5 ?_
    refine lv_goto (tgt := 15) X.1 X.2.1 dX3_part_8 (by decide) ?_
    obtain rfl := Option.some.inj h
    rw [hAA] at V
    rw [hQQ]
    exact k_lret X V rfl dX3_part_15

def p_X3_against (zT : tX3) (v1 : Int64) (v3 : Int64) : Option (Int32) :=
  kb (p_X3_compare zT.1 zT.2 v1 v3) (fun x1 => some x1)
set_option maxHeartbeats 4000000 in
set_option maxRecDepth 100000 in
theorem c_X3_against (l : Launch) (D : va_G) (g : kG) (aT : Nat → Nat) (zT : tX3) (v1 : Int64) (v3 : Int64) (r : Int32) (h : p_X3_against zT v1 v3 = some r) : kMi l yX3_against cX3_against 5 (some .int) (kR 2 69) D (kty g) [.ref (aT 0), .long v1, .long v3] (List.flatten [gX3 g aT zT]) r (List.flatten [gX3 g aT zT]) := by
  intro sz
  refine k_enter (lv := [(0, .ref (aT 0)), (1, .long v1), (3, .long v3)]) RX3 (by decide +kernel) rfl rfl (Nat.le_of_ble_eq_true rfl) ?_
  intro p en s m args below meth c ls hsz X V hl
  obtain ⟨QQ, hQQ⟩ : ∃ q, q = MQ below (va_Qi (fun r' (_ : Unit) => r' = r) (fun _ => kE D (List.flatten [gX3 g aT zT])) (va_A (List.flatten [gX3 g aT zT]) sz)) args s 0 0 (va_A (List.flatten [gX3 g aT zT]) sz) := ⟨_, rfl⟩
  rw [← hQQ]
  obtain ⟨AA, hAA⟩ : ∃ q, q = va_A (List.flatten [gX3 g aT zT]) sz := ⟨_, rfl⟩
  rw [← hAA] at V
  unfold p_X3_against at h
  refine lv_aload_n X.1 X.2.1 dX3_against_0 rfl (lv_at hl 0 rfl) ?_
  refine gf_X3_17 (i := 0) X V rfl dX3_against_1 ?_
  refine lv_aload_n X.1 X.2.1 dX3_against_4 rfl (lv_at hl 0 rfl) ?_
  refine gf_X3_7 (i := 0) X V rfl dX3_against_5 ?_
  refine lv_lload_n X.1 X.2.1 dX3_against_8 rfl (lv_at hl 1 rfl) ?_
  refine lv_lload_n X.1 X.2.1 dX3_against_9 rfl (lv_at hl 2 rfl) ?_
  obtain ⟨x2, hx2, h⟩ := kb_of h
  refine s_callSi (segs' := [gX3 g aT zT]) X V (c_X3_compare l D g zT.1 zT.2 v1 v3 x2 hx2) w_X3_20 ⟨Nat.le_of_ble_eq_true rfl, Nat.le_of_ble_eq_true rfl⟩ ⟨Nat.zero_le _, Nat.zero_le _⟩ rfl [] rfl rfl (kFst_refl _) rfl rfl hl.1 (Nat.le_of_ble_eq_true rfl) dX3_against_10 (fun H locs V => ?_)
  obtain rfl := Option.some.inj h
  rw [hAA] at V
  rw [hQQ]
  exact k_iret X V rfl dX3_against_13
