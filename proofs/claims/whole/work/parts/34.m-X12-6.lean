def p_X12_fewer_L96 (v1 : Int32) (v2 : Int32) (v3 : Int32) (v4 : Int32) (v5 : Int32) (s : Int32 × tX12) : Option (Nat × (Int32 × tX12)) :=
  kif (v5 ≤ s.1) (some (127, (s.1, s.2))) (kb (p_X12_isTriple s.2 v4 v5 s.1) (fun x9 => kif ((kz x9.1) = 0) (kl (s.1 + (1 : Int32)) (fun y10 => some (96, (y10, x9.2)))) (kb (p_X12_tryFew x9.2 v2) (fun x11 => kl (s.1 + (1 : Int32)) (fun y12 => some (96, (y12, x11)))))))
def p_X12_fewer_L73 (v1 : Int32) (v2 : Int32) (v3 : Int32) (v4 : Int32) (s : Int32 × tX12) : Option (Nat × (Int32 × tX12)) :=
  kif (v4 ≤ s.1) (some (133, (s.1, s.2))) (kb (p_X12_pair s.2 v4 s.1) (fun x7 => kb (p_X12_tryFew x7 v2) (fun x8 => kb (kitr 96 (fun q => p_X12_fewer_L96 v1 v2 v3 v4 s.1 q) kF ((0 : Int32), x8)) (fun x13 => kg (x13.1 = 127) (kl (s.1 + (1 : Int32)) (fun y14 => some (73, (y14, x13.2.2))))))))
def p_X12_fewer_L50 (v1 : Int32) (v2 : Int32) (v3 : Int32) (s : Int32 × tX12) : Option (Nat × (Int32 × tX12)) :=
  kif ((s.2.1 15) ≤ s.1) (some (139, (s.1, s.2))) (kb (p_X12_one s.2 s.1) (fun x5 => kb (p_X12_tryFew x5 v2) (fun x6 => kb (kitr 73 (fun q => p_X12_fewer_L73 v1 v2 v3 s.1 q) kF ((0 : Int32), x6)) (fun x15 => kg (x15.1 = 133) (kl (s.1 + (1 : Int32)) (fun y16 => some (50, (y16, x15.2.2))))))))
def p_X12_fewer (zT : tX12) (v1 : Int32) (v2 : Int32) (v3 : Int32) : Option (Int64 × tX12) :=
  kb (p_X12_isIn v3 (0 : Int32) (2 : Int32)) (fun x1 => kif ((kz x1) = 0) (some ((-1 : Int64), zT)) (kb (p_X12_isLaid zT v1) (fun x2 => kif ((kz x2.1) = 0) (some ((-1 : Int64), x2.2)) (kif ((12 : Int32) < (x2.2.1 15)) (some ((-1 : Int64), x2.2)) (kb (p_X12_isIn v2 (1 : Int32) (x2.2.1 15)) (fun x3 => kif ((kz x3) = 0) (some ((-1 : Int64), x2.2)) (kl (va_up x2.2.1 50 (0 : Int32), x2.2.2) (fun z4 => kb (kitr 50 (fun q => p_X12_fewer_L50 v1 v2 v3 q) kF ((0 : Int32), z4)) (fun x17 => kg (x17.1 = 139) (kif (v3 = 0) (some ((x17.2.2.2.1 48), x17.2.2)) (kif (v3 = (1 : Int32)) (some ((x17.2.2.2.1 49), x17.2.2)) (some (((x17.2.2.1 50)).toInt64, x17.2.2)))))))))))))
set_option maxHeartbeats 4000000 in
set_option maxRecDepth 100000 in
theorem c_X12_fewer (l : Launch) (D : va_G) (g : kG) (aT : Nat → Nat) (zT : tX12) (v1 : Int32) (v2 : Int32) (v3 : Int32) (r : Int64 × tX12) (h : p_X12_fewer zT v1 v2 v3 = some r) : kMl l yX12_fewer cX12_fewer 7 (some .long) (kR 3 95) D (kty g) [.ref (aT 0), .int v1, .int v2, .int v3] (List.flatten [gX12 g aT zT]) r.1 (List.flatten [gX12 g aT r.2]) := by
  intro sz
  refine k_enter (lv := [(0, .ref (aT 0)), (1, .int v1), (2, .int v2), (3, .int v3)]) RX12 (by decide +kernel) rfl rfl (Nat.le_of_ble_eq_true rfl) ?_
  intro p en s m args below meth c ls hsz X V hl
  obtain ⟨QQ, hQQ⟩ : ∃ q, q = MQ below (va_Ql (fun r' (_ : Unit) => r' = r.1) (fun _ => kE D (List.flatten [gX12 g aT r.2])) (va_A (List.flatten [gX12 g aT zT]) sz)) args s 0 0 (va_A (List.flatten [gX12 g aT zT]) sz) := ⟨_, rfl⟩
  rw [← hQQ]
  obtain ⟨AA, hAA⟩ : ∃ q, q = va_A (List.flatten [gX12 g aT zT]) sz := ⟨_, rfl⟩
  rw [← hAA] at V
  unfold p_X12_fewer at h
  refine lv_iload_n X.1 X.2.1 dX12_fewer_0 rfl (lv_at hl 3 rfl) ?_
  refine lv_iconst (v := (0 : Int32)) X.1 X.2.1 dX12_fewer_1 (by decide) ?_
  refine lv_iconst (v := (2 : Int32)) X.1 X.2.1 dX12_fewer_2 (by decide) ?_
  obtain ⟨x18, hx18, h⟩ := kb_of h
  refine s_callSi (segs' := [gX12 g aT zT]) X V (c_X12_isIn l D g v3 (0 : Int32) (2 : Int32) x18 hx18) w_X12_76 ⟨Nat.le_of_ble_eq_true rfl, Nat.le_of_ble_eq_true rfl⟩ ⟨Nat.zero_le _, Nat.zero_le _⟩ rfl [] rfl rfl (kFst_refl _) rfl rfl hl.1 (Nat.le_of_ble_eq_true rfl) dX12_fewer_3 (fun H locs V => ?_)
  refine lv_if_eq (tgt := 38) X.1 X.2.1 dX12_fewer_6 (by decide) (fun hc => ?_) (fun hc => ?_)
  · replace h := kif_t hc h
    refine lv_ldc2 (v := (-1 : Int64)) X.1 X.2.1 X.2.2.2.1 (X.2.2.2.2.1 _ kc_X12_220) dX12_fewer_38 ?_
    obtain rfl := Option.some.inj h
    rw [hAA] at V
    rw [hQQ]
    exact k_lret X V rfl dX12_fewer_41
  · replace h := kif_f hc h
    refine lv_aload_n X.1 X.2.1 dX12_fewer_9 rfl (lv_at hl 0 rfl) ?_
    refine lv_iload_n X.1 X.2.1 dX12_fewer_10 rfl (lv_at hl 1 rfl) ?_
    obtain ⟨x19, hx19, h⟩ := kb_of h
    refine s_callVi (segs' := [gX12 g aT x19.2]) (ci := 12) (i0 := 0) X V (c_X12_isLaid l D g aT zT v1 x19 hx19) w_X12_173 ⟨Nat.le_of_ble_eq_true rfl, Nat.le_of_ble_eq_true rfl⟩ ⟨Nat.zero_le _, Nat.zero_le _⟩ rfl rfl rfl rfl [0] rfl rfl ⟨gX12_fst, trivial⟩ rfl rfl hl.1 (Nat.le_of_ble_eq_true rfl) dX12_fewer_11 (fun H locs V => ?_)
    refine lv_if_eq (tgt := 38) X.1 X.2.1 dX12_fewer_14 (by decide) (fun hc => ?_) (fun hc => ?_)
    · replace h := kif_t hc h
      refine lv_ldc2 (v := (-1 : Int64)) X.1 X.2.1 X.2.2.2.1 (X.2.2.2.2.1 _ kc_X12_220) dX12_fewer_38 ?_
      obtain rfl := Option.some.inj h
      rw [hAA] at V
      rw [hQQ]
      exact k_lret X V rfl dX12_fewer_41
    · replace h := kif_f hc h
      refine lv_aload_n X.1 X.2.1 dX12_fewer_17 rfl (lv_at hl 0 rfl) ?_
      refine gf_X12_157 (i := 0) X V rfl dX12_fewer_18 ?_
      refine lv_bipush (v := (12 : Int32)) X.1 X.2.1 dX12_fewer_21 (by decide) ?_
      refine lv_icmp_gt (tgt := 38) X.1 X.2.1 dX12_fewer_23 (by decide) (fun hc => ?_) (fun hc => ?_)
      · replace h := kif_t hc h
        refine lv_ldc2 (v := (-1 : Int64)) X.1 X.2.1 X.2.2.2.1 (X.2.2.2.2.1 _ kc_X12_220) dX12_fewer_38 ?_
        obtain rfl := Option.some.inj h
        rw [hAA] at V
        rw [hQQ]
        exact k_lret X V rfl dX12_fewer_41
      · replace h := kif_f hc h
        refine lv_iload_n X.1 X.2.1 dX12_fewer_26 rfl (lv_at hl 2 rfl) ?_
        refine lv_iconst (v := (1 : Int32)) X.1 X.2.1 dX12_fewer_27 (by decide) ?_
        refine lv_aload_n X.1 X.2.1 dX12_fewer_28 rfl (lv_at hl 0 rfl) ?_
        refine gf_X12_157 (i := 0) X V rfl dX12_fewer_29 ?_
        obtain ⟨x20, hx20, h⟩ := kb_of h
        refine s_callSi (segs' := [gX12 g aT x19.2]) X V (c_X12_isIn l D g v2 (1 : Int32) (x19.2.1 15) x20 hx20) w_X12_76 ⟨Nat.le_of_ble_eq_true rfl, Nat.le_of_ble_eq_true rfl⟩ ⟨Nat.zero_le _, Nat.zero_le _⟩ rfl [] rfl rfl (kFst_refl _) rfl rfl hl.1 (Nat.le_of_ble_eq_true rfl) dX12_fewer_32 (fun H locs V => ?_)
        refine lv_if_ne (tgt := 42) X.1 X.2.1 dX12_fewer_35 (by decide) (fun hc => ?_) (fun hc => ?_)
        · replace h := kif_f hc h
          refine lv_aload_n X.1 X.2.1 dX12_fewer_42 rfl (lv_at hl 0 rfl) ?_
          refine lv_iconst (v := (0 : Int32)) X.1 X.2.1 dX12_fewer_43 (by decide) ?_
          refine pf_X12_391 (i := 0) X V rfl dX12_fewer_44 (fun H locs V => ?_)
          obtain ⟨z21, ez21⟩ : ∃ y, y = (va_up x19.2.1 50 (0 : Int32), x19.2.2) := ⟨_, rfl⟩
          replace h := kl_of ez21 h
          have V : kW D AA s.heap H (List.flatten [gX12 g aT z21]) locs := by rw [ez21]; exact V
          refine lv_iconst (v := (0 : Int32)) X.1 X.2.1 dX12_fewer_47 (by decide) ?_
          refine lv_istore (lv' := [(4, .int (0 : Int32)), (0, .ref (aT 0)), (1, .int v1), (2, .int v2), (3, .int v3)]) X.1 X.2.1 dX12_fewer_48 hl (by decide) rfl (fun ls hl => ?_)
          obtain ⟨x22, hx22, h⟩ := kb_of h
          refine (kitr_go (hd := 50) (body := fun q => p_X12_fewer_L50 v1 v2 v3 q) (G := (fun e => ∀ (H : Heap) (locs : List Loc) (ls : Array Slot), kW D AA s.heap H (List.flatten [gX12 g aT e.2.2]) locs → lv_has ls 7 [(0, .ref (aT 0)), (2, .int v2), (3, .int v3), (4, .int e.2.1)] → W p l en (kR 3 95) s m args below meth c H locs 0 0 QQ (F0 m e.1 ls []))) (fun s23 e24 hb25 hG26 => ?_) kF _ x22 hx22 ?_) _ _ _ V (lv_sub hl [1, 3, 4, 0] rfl)
          · intro H locs ls V hl
            show W p l en (kR 3 95) s m args below meth c H locs 0 0 QQ (F0 m 50 ls [])
            have h : p_X12_fewer_L50 v1 v2 v3 s23 = some e24 := hb25
            unfold p_X12_fewer_L50 at h
            have V : kW D AA s.heap H (List.flatten [gX12 g aT s23.2]) locs := V
            have hl : lv_has ls 7 [(0, .ref (aT 0)), (2, .int v2), (3, .int v3), (4, .int s23.1)] := hl
            refine lv_iload X.1 X.2.1 dX12_fewer_50 (lv_at hl 3 rfl) ?_
            refine lv_aload_n X.1 X.2.1 dX12_fewer_52 rfl (lv_at hl 0 rfl) ?_
            refine gf_X12_157 (i := 0) X V rfl dX12_fewer_53 ?_
            refine lv_icmp_ge (tgt := 139) X.1 X.2.1 dX12_fewer_56 (by decide) (fun hc => ?_) (fun hc => ?_)
            · replace h := kif_t hc h
              obtain rfl := Option.some.inj h
              exact hG26 _ _ _ V (lv_sub hl [0, 1, 2, 3] rfl)
            · replace h := kif_f hc h
              refine lv_aload_n X.1 X.2.1 dX12_fewer_59 rfl (lv_at hl 0 rfl) ?_
              refine lv_iload X.1 X.2.1 dX12_fewer_60 (lv_at hl 3 rfl) ?_
              obtain ⟨x27, hx27, h⟩ := kb_of h
              refine s_callVv (segs' := [gX12 g aT x27]) (ci := 12) (i0 := 0) X V (c_X12_one l D g aT s23.2 s23.1 x27 hx27) w_X12_253 ⟨Nat.le_of_ble_eq_true rfl, Nat.le_of_ble_eq_true rfl⟩ ⟨Nat.zero_le _, Nat.zero_le _⟩ rfl rfl rfl rfl [0] rfl rfl ⟨gX12_fst, trivial⟩ rfl rfl hl.1 (Nat.le_of_ble_eq_true rfl) dX12_fewer_62 (fun H locs V => ?_)
              refine lv_aload_n X.1 X.2.1 dX12_fewer_65 rfl (lv_at hl 0 rfl) ?_
              refine lv_iload_n X.1 X.2.1 dX12_fewer_66 rfl (lv_at hl 1 rfl) ?_
              obtain ⟨x28, hx28, h⟩ := kb_of h
              refine s_callVv (segs' := [gX12 g aT x28]) (ci := 12) (i0 := 0) X V (c_X12_tryFew l D g aT x27 v2 x28 hx28) w_X12_400 ⟨Nat.le_of_ble_eq_true rfl, Nat.le_of_ble_eq_true rfl⟩ ⟨Nat.zero_le _, Nat.zero_le _⟩ rfl rfl rfl rfl [0] rfl rfl ⟨gX12_fst, trivial⟩ rfl rfl hl.1 (Nat.le_of_ble_eq_true rfl) dX12_fewer_67 (fun H locs V => ?_)
              refine lv_iconst (v := (0 : Int32)) X.1 X.2.1 dX12_fewer_70 (by decide) ?_
              refine lv_istore (lv' := [(5, .int (0 : Int32)), (0, .ref (aT 0)), (2, .int v2), (3, .int v3), (4, .int s23.1)]) X.1 X.2.1 dX12_fewer_71 hl (by decide) rfl (fun ls hl => ?_)
              obtain ⟨x29, hx29, h⟩ := kb_of h
              refine (kitr_go (hd := 73) (body := fun q => p_X12_fewer_L73 v1 v2 v3 s23.1 q) (G := (fun e => ∀ (H : Heap) (locs : List Loc) (ls : Array Slot), kW D AA s.heap H (List.flatten [gX12 g aT e.2.2]) locs → lv_has ls 7 [(0, .ref (aT 0)), (2, .int v2), (3, .int v3), (4, .int s23.1), (5, .int e.2.1)] → W p l en (kR 3 95) s m args below meth c H locs 0 0 QQ (F0 m e.1 ls []))) (fun s30 e31 hb32 hG33 => ?_) kF _ x29 hx29 ?_) _ _ _ V (lv_sub hl [1, 2, 3, 4, 0] rfl)
              · intro H locs ls V hl
                show W p l en (kR 3 95) s m args below meth c H locs 0 0 QQ (F0 m 73 ls [])
                have h : p_X12_fewer_L73 v1 v2 v3 s23.1 s30 = some e31 := hb32
                unfold p_X12_fewer_L73 at h
                have V : kW D AA s.heap H (List.flatten [gX12 g aT s30.2]) locs := V
                have hl : lv_has ls 7 [(0, .ref (aT 0)), (2, .int v2), (3, .int v3), (4, .int s23.1), (5, .int s30.1)] := hl
                refine lv_iload X.1 X.2.1 dX12_fewer_73 (lv_at hl 4 rfl) ?_
                refine lv_iload X.1 X.2.1 dX12_fewer_75 (lv_at hl 3 rfl) ?_
                refine lv_icmp_ge (tgt := 133) X.1 X.2.1 dX12_fewer_77 (by decide) (fun hc => ?_) (fun hc => ?_)
                · replace h := kif_t hc h
                  obtain rfl := Option.some.inj h
                  exact hG33 _ _ _ V (lv_sub hl [0, 1, 2, 3, 4] rfl)
                · replace h := kif_f hc h
                  refine lv_aload_n X.1 X.2.1 dX12_fewer_80 rfl (lv_at hl 0 rfl) ?_
                  refine lv_iload X.1 X.2.1 dX12_fewer_81 (lv_at hl 3 rfl) ?_
                  refine lv_iload X.1 X.2.1 dX12_fewer_83 (lv_at hl 4 rfl) ?_
                  obtain ⟨x34, hx34, h⟩ := kb_of h
                  refine s_callVv (segs' := [gX12 g aT x34]) (ci := 12) (i0 := 0) X V (c_X12_pair l D g aT s30.2 s23.1 s30.1 x34 hx34) w_X12_256 ⟨Nat.le_of_ble_eq_true rfl, Nat.le_of_ble_eq_true rfl⟩ ⟨Nat.zero_le _, Nat.zero_le _⟩ rfl rfl rfl rfl [0] rfl rfl ⟨gX12_fst, trivial⟩ rfl rfl hl.1 (Nat.le_of_ble_eq_true rfl) dX12_fewer_85 (fun H locs V => ?_)
                  refine lv_aload_n X.1 X.2.1 dX12_fewer_88 rfl (lv_at hl 0 rfl) ?_
                  refine lv_iload_n X.1 X.2.1 dX12_fewer_89 rfl (lv_at hl 1 rfl) ?_
                  obtain ⟨x35, hx35, h⟩ := kb_of h
                  refine s_callVv (segs' := [gX12 g aT x35]) (ci := 12) (i0 := 0) X V (c_X12_tryFew l D g aT x34 v2 x35 hx35) w_X12_400 ⟨Nat.le_of_ble_eq_true rfl, Nat.le_of_ble_eq_true rfl⟩ ⟨Nat.zero_le _, Nat.zero_le _⟩ rfl rfl rfl rfl [0] rfl rfl ⟨gX12_fst, trivial⟩ rfl rfl hl.1 (Nat.le_of_ble_eq_true rfl) dX12_fewer_90 (fun H locs V => ?_)
                  refine lv_iconst (v := (0 : Int32)) X.1 X.2.1 dX12_fewer_93 (by decide) ?_
                  refine lv_istore (lv' := [(6, .int (0 : Int32)), (0, .ref (aT 0)), (2, .int v2), (3, .int v3), (4, .int s23.1), (5, .int s30.1)]) X.1 X.2.1 dX12_fewer_94 hl (by decide) rfl (fun ls hl => ?_)
                  obtain ⟨x36, hx36, h⟩ := kb_of h
                  refine (kitr_go (hd := 96) (body := fun q => p_X12_fewer_L96 v1 v2 v3 s23.1 s30.1 q) (G := (fun e => ∀ (H : Heap) (locs : List Loc) (ls : Array Slot), kW D AA s.heap H (List.flatten [gX12 g aT e.2.2]) locs → lv_has ls 7 [(0, .ref (aT 0)), (2, .int v2), (3, .int v3), (4, .int s23.1), (5, .int s30.1), (6, .int e.2.1)] → W p l en (kR 3 95) s m args below meth c H locs 0 0 QQ (F0 m e.1 ls []))) (fun s37 e38 hb39 hG40 => ?_) kF _ x36 hx36 ?_) _ _ _ V (lv_sub hl [1, 2, 3, 4, 5, 0] rfl)
                  · intro H locs ls V hl
                    show W p l en (kR 3 95) s m args below meth c H locs 0 0 QQ (F0 m 96 ls [])
                    have h : p_X12_fewer_L96 v1 v2 v3 s23.1 s30.1 s37 = some e38 := hb39
                    unfold p_X12_fewer_L96 at h
                    have V : kW D AA s.heap H (List.flatten [gX12 g aT s37.2]) locs := V
                    have hl : lv_has ls 7 [(0, .ref (aT 0)), (2, .int v2), (3, .int v3), (4, .int s23.1), (5, .int s30.1), (6, .int s37.1)] := hl
                    refine lv_iload X.1 X.2.1 dX12_fewer_96 (lv_at hl 5 rfl) ?_
                    refine lv_iload X.1 X.2.1 dX12_fewer_98 (lv_at hl 4 rfl) ?_
                    refine lv_icmp_ge (tgt := 127) X.1 X.2.1 dX12_fewer_100 (by decide) (fun hc => ?_) (fun hc => ?_)
                    · replace h := kif_t hc h
                      obtain rfl := Option.some.inj h
                      exact hG40 _ _ _ V (lv_sub hl [0, 1, 2, 3, 4, 5] rfl)
                    · replace h := kif_f hc h
                      refine lv_aload_n X.1 X.2.1 dX12_fewer_103 rfl (lv_at hl 0 rfl) ?_
                      refine lv_iload X.1 X.2.1 dX12_fewer_104 (lv_at hl 3 rfl) ?_
                      refine lv_iload X.1 X.2.1 dX12_fewer_106 (lv_at hl 4 rfl) ?_
                      refine lv_iload X.1 X.2.1 dX12_fewer_108 (lv_at hl 5 rfl) ?_
                      obtain ⟨x41, hx41, h⟩ := kb_of h
                      refine s_callVi (segs' := [gX12 g aT x41.2]) (ci := 12) (i0 := 0) X V (c_X12_isTriple l D g aT s37.2 s23.1 s30.1 s37.1 x41 hx41) w_X12_268 ⟨Nat.le_of_ble_eq_true rfl, Nat.le_of_ble_eq_true rfl⟩ ⟨Nat.zero_le _, Nat.zero_le _⟩ rfl rfl rfl rfl [0] rfl rfl ⟨gX12_fst, trivial⟩ rfl rfl hl.1 (Nat.le_of_ble_eq_true rfl) dX12_fewer_110 (fun H locs V => ?_)
                      refine lv_if_eq (tgt := 121) X.1 X.2.1 dX12_fewer_113 (by decide) (fun hc => ?_) (fun hc => ?_)
                      · replace h := kif_t hc h
                        obtain ⟨y42, ey42⟩ : ∃ y : Int32, y = (s37.1 + (1 : Int32)) := ⟨_, rfl⟩
                        replace h := kl_of ey42 h
                        refine lv_iinc (v := y42) (lv' := [(6, .int y42), (0, .ref (aT 0)), (2, .int v2), (3, .int v3), (4, .int s23.1), (5, .int s30.1)]) X.1 X.2.1 dX12_fewer_121 hl (k := 5) rfl (by rw [ey42]; rfl) (by decide) rfl (fun ls hl => ?_)
                        refine lv_goto (tgt := 96) X.1 X.2.1 dX12_fewer_124 (by decide) ?_
                        obtain rfl := Option.some.inj h
                        exact hG40 _ _ _ V (lv_sub hl [1, 2, 3, 4, 5, 0] rfl)
                      · replace h := kif_f hc h
                        refine lv_aload_n X.1 X.2.1 dX12_fewer_116 rfl (lv_at hl 0 rfl) ?_
                        refine lv_iload_n X.1 X.2.1 dX12_fewer_117 rfl (lv_at hl 1 rfl) ?_
                        obtain ⟨x43, hx43, h⟩ := kb_of h
                        refine s_callVv (segs' := [gX12 g aT x43]) (ci := 12) (i0 := 0) X V (c_X12_tryFew l D g aT x41.2 v2 x43 hx43) w_X12_400 ⟨Nat.le_of_ble_eq_true rfl, Nat.le_of_ble_eq_true rfl⟩ ⟨Nat.zero_le _, Nat.zero_le _⟩ rfl rfl rfl rfl [0] rfl rfl ⟨gX12_fst, trivial⟩ rfl rfl hl.1 (Nat.le_of_ble_eq_true rfl) dX12_fewer_118 (fun H locs V => ?_)
                        obtain ⟨y44, ey44⟩ : ∃ y : Int32, y = (s37.1 + (1 : Int32)) := ⟨_, rfl⟩
                        replace h := kl_of ey44 h
                        refine lv_iinc (v := y44) (lv' := [(6, .int y44), (0, .ref (aT 0)), (2, .int v2), (3, .int v3), (4, .int s23.1), (5, .int s30.1)]) X.1 X.2.1 dX12_fewer_121 hl (k := 5) rfl (by rw [ey44]; rfl) (by decide) rfl (fun ls hl => ?_)
                        refine lv_goto (tgt := 96) X.1 X.2.1 dX12_fewer_124 (by decide) ?_
                        obtain rfl := Option.some.inj h
                        exact hG40 _ _ _ V (lv_sub hl [1, 2, 3, 4, 5, 0] rfl)
                  · intro H locs ls V hl
                    have V : kW D AA s.heap H (List.flatten [gX12 g aT x36.2.2]) locs := V
                    have hl : lv_has ls 7 [(0, .ref (aT 0)), (2, .int v2), (3, .int v3), (4, .int s23.1), (5, .int s30.1), (6, .int x36.2.1)] := hl
                    obtain ⟨hc, h⟩ := kg_of h
                    refine W.eq (g2 := F0 m 127 ls []) (by rw [hc]) ?_
                    obtain ⟨y45, ey45⟩ : ∃ y : Int32, y = (s30.1 + (1 : Int32)) := ⟨_, rfl⟩
                    replace h := kl_of ey45 h
                    refine lv_iinc (v := y45) (lv' := [(5, .int y45), (0, .ref (aT 0)), (2, .int v2), (3, .int v3), (4, .int s23.1), (6, .int x36.2.1)]) X.1 X.2.1 dX12_fewer_127 hl (k := 4) rfl (by rw [ey45]; rfl) (by decide) rfl (fun ls hl => ?_)
                    refine lv_goto (tgt := 73) X.1 X.2.1 dX12_fewer_130 (by decide) ?_
                    obtain rfl := Option.some.inj h
                    exact hG33 _ _ _ V (lv_sub hl [1, 2, 3, 4, 0] rfl)
              · intro H locs ls V hl
                have V : kW D AA s.heap H (List.flatten [gX12 g aT x29.2.2]) locs := V
                have hl : lv_has ls 7 [(0, .ref (aT 0)), (2, .int v2), (3, .int v3), (4, .int s23.1), (5, .int x29.2.1)] := hl
                obtain ⟨hc, h⟩ := kg_of h
                refine W.eq (g2 := F0 m 133 ls []) (by rw [hc]) ?_
                obtain ⟨y46, ey46⟩ : ∃ y : Int32, y = (s23.1 + (1 : Int32)) := ⟨_, rfl⟩
                replace h := kl_of ey46 h
                refine lv_iinc (v := y46) (lv' := [(4, .int y46), (0, .ref (aT 0)), (2, .int v2), (3, .int v3), (5, .int x29.2.1)]) X.1 X.2.1 dX12_fewer_133 hl (k := 3) rfl (by rw [ey46]; rfl) (by decide) rfl (fun ls hl => ?_)
                refine lv_goto (tgt := 50) X.1 X.2.1 dX12_fewer_136 (by decide) ?_
                obtain rfl := Option.some.inj h
                exact hG26 _ _ _ V (lv_sub hl [1, 2, 3, 0] rfl)
          · intro H locs ls V hl
            have V : kW D AA s.heap H (List.flatten [gX12 g aT x22.2.2]) locs := V
            have hl : lv_has ls 7 [(0, .ref (aT 0)), (2, .int v2), (3, .int v3), (4, .int x22.2.1)] := hl
            obtain ⟨hc, h⟩ := kg_of h
            refine W.eq (g2 := F0 m 139 ls []) (by rw [hc]) ?_
            refine lv_iload_n X.1 X.2.1 dX12_fewer_139 rfl (lv_at hl 2 rfl) ?_
            refine lv_if_ne (tgt := 150) X.1 X.2.1 dX12_fewer_140 (by decide) (fun hc => ?_) (fun hc => ?_)
            · replace h := kif_f hc h
              refine lv_iload_n X.1 X.2.1 dX12_fewer_150 rfl (lv_at hl 2 rfl) ?_
              refine lv_iconst (v := (1 : Int32)) X.1 X.2.1 dX12_fewer_151 (by decide) ?_
              refine lv_icmp_ne (tgt := 162) X.1 X.2.1 dX12_fewer_152 (by decide) (fun hc => ?_) (fun hc => ?_)
              · replace h := kif_f hc h
                refine lv_aload_n X.1 X.2.1 dX12_fewer_162 rfl (lv_at hl 0 rfl) ?_
                refine gf_X12_391 (i := 0) X V rfl dX12_fewer_163 ?_
                refine lv_i2l X.1 X.2.1 dX12_fewer_166 rfl ?_
                obtain rfl := Option.some.inj h
                rw [hAA] at V
                rw [hQQ]
                exact k_lret X V rfl dX12_fewer_167
              · replace h := kif_t hc h
                refine lv_aload_n X.1 X.2.1 dX12_fewer_155 rfl (lv_at hl 0 rfl) ?_
                refine gf_X12_397 (i := 0) X V rfl dX12_fewer_156 ?_
                refine lv_goto (tgt := 167) X.1 X.2.1 dX12_fewer_159 (by decide) ?_
                obtain rfl := Option.some.inj h
                rw [hAA] at V
                rw [hQQ]
                exact k_lret X V rfl dX12_fewer_167
            · replace h := kif_t hc h
              refine lv_aload_n X.1 X.2.1 dX12_fewer_143 rfl (lv_at hl 0 rfl) ?_
              refine gf_X12_394 (i := 0) X V rfl dX12_fewer_144 ?_
              refine lv_goto (tgt := 167) X.1 X.2.1 dX12_fewer_147 (by decide) ?_
              obtain rfl := Option.some.inj h
              rw [hAA] at V
              rw [hQQ]
              exact k_lret X V rfl dX12_fewer_167
        · replace h := kif_t hc h
          refine lv_ldc2 (v := (-1 : Int64)) X.1 X.2.1 X.2.2.2.1 (X.2.2.2.2.1 _ kc_X12_220) dX12_fewer_38 ?_
          obtain rfl := Option.some.inj h
          rw [hAA] at V
          rw [hQQ]
          exact k_lret X V rfl dX12_fewer_41

def p_X12_turnOf (v0 : Int64) (v2 : Int64) (v4 : Int64) (v6 : Int64) (v8 : Int64) (v10 : Int64) : Option (Int64) :=
  some ((((v4 - v0) * (v10 - v2)) - ((v6 - v2) * (v8 - v0))))
set_option maxHeartbeats 4000000 in
set_option maxRecDepth 100000 in
theorem c_X12_turnOf (l : Launch) (D : va_G) (g : kG)  (v0 : Int64) (v2 : Int64) (v4 : Int64) (v6 : Int64) (v8 : Int64) (v10 : Int64) (r : Int64) (h : p_X12_turnOf v0 v2 v4 v6 v8 v10 = some r) : kMl l yX12_turnOf cX12_turnOf 12 (some .long) (kR 0 0) D (kty g) [.long v0, .long v2, .long v4, .long v6, .long v8, .long v10] (List.flatten ([] : List va_W)) r (List.flatten ([] : List va_W)) := by
  intro sz
  refine k_enter (lv := [(0, .long v0), (2, .long v2), (4, .long v4), (6, .long v6), (8, .long v8), (10, .long v10)]) RX12 (by decide +kernel) rfl rfl (Nat.le_of_ble_eq_true rfl) ?_
  intro p en s m args below meth c ls hsz X V hl
  obtain ⟨QQ, hQQ⟩ : ∃ q, q = MQ below (va_Ql (fun r' (_ : Unit) => r' = r) (fun _ => kE D (List.flatten ([] : List va_W))) (va_A (List.flatten ([] : List va_W)) sz)) args s 0 0 (va_A (List.flatten ([] : List va_W)) sz) := ⟨_, rfl⟩
  rw [← hQQ]
  obtain ⟨AA, hAA⟩ : ∃ q, q = va_A (List.flatten ([] : List va_W)) sz := ⟨_, rfl⟩
  rw [← hAA] at V
  unfold p_X12_turnOf at h
  refine lv_lload X.1 X.2.1 dX12_turnOf_0 (lv_at hl 2 rfl) ?_
  refine lv_lload_n X.1 X.2.1 dX12_turnOf_2 rfl (lv_at hl 0 rfl) ?_
  refine lv_lsub X.1 X.2.1 dX12_turnOf_3 ?_
  refine lv_lload X.1 X.2.1 dX12_turnOf_4 (lv_at hl 5 rfl) ?_
  refine lv_lload_n X.1 X.2.1 dX12_turnOf_6 rfl (lv_at hl 1 rfl) ?_
  refine lv_lsub X.1 X.2.1 dX12_turnOf_7 ?_
  refine lv_lmul X.1 X.2.1 dX12_turnOf_8 ?_
  refine lv_lload X.1 X.2.1 dX12_turnOf_9 (lv_at hl 3 rfl) ?_
  refine lv_lload_n X.1 X.2.1 dX12_turnOf_11 rfl (lv_at hl 1 rfl) ?_
  refine lv_lsub X.1 X.2.1 dX12_turnOf_12 ?_
  refine lv_lload X.1 X.2.1 dX12_turnOf_13 (lv_at hl 4 rfl) ?_
  refine lv_lload_n X.1 X.2.1 dX12_turnOf_15 rfl (lv_at hl 0 rfl) ?_
  refine lv_lsub X.1 X.2.1 dX12_turnOf_16 ?_
  refine lv_lmul X.1 X.2.1 dX12_turnOf_17 ?_
  refine lv_lsub X.1 X.2.1 dX12_turnOf_18 ?_
  obtain rfl := Option.some.inj h
  rw [hAA] at V
  rw [hQQ]
  exact k_lret X V rfl dX12_turnOf_19

def p_X12_isBetween (v0 : Int64) (v2 : Int64) (v4 : Int64) : Option (Bool) :=
  kif (0 < (lg_cmp v0 v2)) (kif ((lg_cmp v4 v2) < 0) (some false) (kif (0 < (lg_cmp v4 v0)) (some false) (some true))) (kif ((lg_cmp v4 v0) < 0) (some false) (kif (0 < (lg_cmp v4 v2)) (some false) (some true)))
set_option maxHeartbeats 4000000 in
set_option maxRecDepth 100000 in
theorem c_X12_isBetween (l : Launch) (D : va_G) (g : kG)  (v0 : Int64) (v2 : Int64) (v4 : Int64) (r : Bool) (h : p_X12_isBetween v0 v2 v4 = some r) : kMi l yX12_isBetween cX12_isBetween 6 (some .boolean) (kR 0 0) D (kty g) [.long v0, .long v2, .long v4] (List.flatten ([] : List va_W)) (kz r) (List.flatten ([] : List va_W)) := by
  intro sz
  refine k_enter (lv := [(0, .long v0), (2, .long v2), (4, .long v4)]) RX12 (by decide +kernel) rfl rfl (Nat.le_of_ble_eq_true rfl) ?_
  intro p en s m args below meth c ls hsz X V hl
  obtain ⟨QQ, hQQ⟩ : ∃ q, q = MQ below (va_Qi (fun r' (_ : Unit) => r' = kz r) (fun _ => kE D (List.flatten ([] : List va_W))) (va_A (List.flatten ([] : List va_W)) sz)) args s 0 0 (va_A (List.flatten ([] : List va_W)) sz) := ⟨_, rfl⟩
  rw [← hQQ]
  obtain ⟨AA, hAA⟩ : ∃ q, q = va_A (List.flatten ([] : List va_W)) sz := ⟨_, rfl⟩
  rw [← hAA] at V
  unfold p_X12_isBetween at h
  refine lv_lload_n X.1 X.2.1 dX12_isBetween_0 rfl (lv_at hl 0 rfl) ?_
  refine lv_lload_n X.1 X.2.1 dX12_isBetween_1 rfl (lv_at hl 1 rfl) ?_
  refine W.lcmp X.1 X.2.1 dX12_isBetween_2 ?_
  refine lv_if_gt (tgt := 28) X.1 X.2.1 dX12_isBetween_3 (by decide) (fun hc => ?_) (fun hc => ?_)
  · replace h := kif_t hc h
    refine lv_lload X.1 X.2.1 dX12_isBetween_28 (lv_at hl 2 rfl) ?_
    refine lv_lload_n X.1 X.2.1 dX12_isBetween_30 rfl (lv_at hl 1 rfl) ?_
    refine W.lcmp X.1 X.2.1 dX12_isBetween_31 ?_
    refine lv_if_lt (tgt := 46) X.1 X.2.1 dX12_isBetween_32 (by decide) (fun hc => ?_) (fun hc => ?_)
    · replace h := kif_t hc h
      refine lv_iconst (v := (0 : Int32)) X.1 X.2.1 dX12_isBetween_46 (by decide) ?_
      obtain rfl := Option.some.inj h
      rw [hAA] at V
      rw [hQQ]
      exact k_zret X V (b := false) rfl rfl dX12_isBetween_47
    · replace h := kif_f hc h
      refine lv_lload X.1 X.2.1 dX12_isBetween_35 (lv_at hl 2 rfl) ?_
      refine lv_lload_n X.1 X.2.1 dX12_isBetween_37 rfl (lv_at hl 0 rfl) ?_
      refine W.lcmp X.1 X.2.1 dX12_isBetween_38 ?_
      refine lv_if_gt (tgt := 46) X.1 X.2.1 dX12_isBetween_39 (by decide) (fun hc => ?_) (fun hc => ?_)
      · replace h := kif_t hc h
        refine lv_iconst (v := (0 : Int32)) X.1 X.2.1 dX12_isBetween_46 (by decide) ?_
        obtain rfl := Option.some.inj h
        rw [hAA] at V
        rw [hQQ]
        exact k_zret X V (b := false) rfl rfl dX12_isBetween_47
      · replace h := kif_f hc h
        refine lv_iconst (v := (1 : Int32)) X.1 X.2.1 dX12_isBetween_42 (by decide) ?_
        refine lv_goto (tgt := 47) X.1 X.2.1 dX12_isBetween_43 (by decide) ?_
        obtain rfl := Option.some.inj h
        rw [hAA] at V
        rw [hQQ]
        exact k_zret X V (b := true) rfl rfl dX12_isBetween_47
  · replace h := kif_f hc h
    refine lv_lload X.1 X.2.1 dX12_isBetween_6 (lv_at hl 2 rfl) ?_
    refine lv_lload_n X.1 X.2.1 dX12_isBetween_8 rfl (lv_at hl 0 rfl) ?_
    refine W.lcmp X.1 X.2.1 dX12_isBetween_9 ?_
    refine lv_if_lt (tgt := 24) X.1 X.2.1 dX12_isBetween_10 (by decide) (fun hc => ?_) (fun hc => ?_)
    · replace h := kif_t hc h
      refine lv_iconst (v := (0 : Int32)) X.1 X.2.1 dX12_isBetween_24 (by decide) ?_
      refine lv_goto (tgt := 47) X.1 X.2.1 dX12_isBetween_25 (by decide) ?_
      obtain rfl := Option.some.inj h
      rw [hAA] at V
      rw [hQQ]
      exact k_zret X V (b := false) rfl rfl dX12_isBetween_47
    · replace h := kif_f hc h
      refine lv_lload X.1 X.2.1 dX12_isBetween_13 (lv_at hl 2 rfl) ?_
      refine lv_lload_n X.1 X.2.1 dX12_isBetween_15 rfl (lv_at hl 1 rfl) ?_
      refine W.lcmp X.1 X.2.1 dX12_isBetween_16 ?_
      refine lv_if_gt (tgt := 24) X.1 X.2.1 dX12_isBetween_17 (by decide) (fun hc => ?_) (fun hc => ?_)
      · replace h := kif_t hc h
        refine lv_iconst (v := (0 : Int32)) X.1 X.2.1 dX12_isBetween_24 (by decide) ?_
        refine lv_goto (tgt := 47) X.1 X.2.1 dX12_isBetween_25 (by decide) ?_
        obtain rfl := Option.some.inj h
        rw [hAA] at V
        rw [hQQ]
        exact k_zret X V (b := false) rfl rfl dX12_isBetween_47
      · replace h := kif_f hc h
        refine lv_iconst (v := (1 : Int32)) X.1 X.2.1 dX12_isBetween_20 (by decide) ?_
        refine lv_goto (tgt := 47) X.1 X.2.1 dX12_isBetween_21 (by decide) ?_
        obtain rfl := Option.some.inj h
        rw [hAA] at V
        rw [hQQ]
        exact k_zret X V (b := true) rfl rfl dX12_isBetween_47

def p_X12_isOn (v0 : Int64) (v2 : Int64) (v4 : Int64) (v6 : Int64) (v8 : Int64) (v10 : Int64) : Option (Bool) :=
  kb (p_X12_turnOf v0 v2 v4 v6 v8 v10) (fun x1 => kif ((lg_cmp x1 (0 : Int64)) = 0) (kb (p_X12_isBetween v0 v4 v8) (fun x2 => kif ((kz x2) = 0) (some false) (kb (p_X12_isBetween v2 v6 v10) (fun x3 => kif ((kz x3) = 0) (some false) (some true))))) (some false))
set_option maxHeartbeats 4000000 in
set_option maxRecDepth 100000 in
theorem c_X12_isOn (l : Launch) (D : va_G) (g : kG)  (v0 : Int64) (v2 : Int64) (v4 : Int64) (v6 : Int64) (v8 : Int64) (v10 : Int64) (r : Bool) (h : p_X12_isOn v0 v2 v4 v6 v8 v10 = some r) : kMi l yX12_isOn cX12_isOn 12 (some .boolean) (kR 1 31) D (kty g) [.long v0, .long v2, .long v4, .long v6, .long v8, .long v10] (List.flatten ([] : List va_W)) (kz r) (List.flatten ([] : List va_W)) := by
  intro sz
  refine k_enter (lv := [(0, .long v0), (2, .long v2), (4, .long v4), (6, .long v6), (8, .long v8), (10, .long v10)]) RX12 (by decide +kernel) rfl rfl (Nat.le_of_ble_eq_true rfl) ?_
  intro p en s m args below meth c ls hsz X V hl
  obtain ⟨QQ, hQQ⟩ : ∃ q, q = MQ below (va_Qi (fun r' (_ : Unit) => r' = kz r) (fun _ => kE D (List.flatten ([] : List va_W))) (va_A (List.flatten ([] : List va_W)) sz)) args s 0 0 (va_A (List.flatten ([] : List va_W)) sz) := ⟨_, rfl⟩
  rw [← hQQ]
  obtain ⟨AA, hAA⟩ : ∃ q, q = va_A (List.flatten ([] : List va_W)) sz := ⟨_, rfl⟩
  rw [← hAA] at V
  unfold p_X12_isOn at h
  refine lv_lload_n X.1 X.2.1 dX12_isOn_0 rfl (lv_at hl 0 rfl) ?_
  refine lv_lload_n X.1 X.2.1 dX12_isOn_1 rfl (lv_at hl 1 rfl) ?_
  refine lv_lload X.1 X.2.1 dX12_isOn_2 (lv_at hl 2 rfl) ?_
  refine lv_lload X.1 X.2.1 dX12_isOn_4 (lv_at hl 3 rfl) ?_
  refine lv_lload X.1 X.2.1 dX12_isOn_6 (lv_at hl 4 rfl) ?_
  refine lv_lload X.1 X.2.1 dX12_isOn_8 (lv_at hl 5 rfl) ?_
  obtain ⟨x4, hx4, h⟩ := kb_of h
  refine s_callSl (segs' := ([] : List va_W)) X V (c_X12_turnOf l D g v0 v2 v4 v6 v8 v10 x4 hx4) w_X12_403 ⟨Nat.le_of_ble_eq_true rfl, Nat.le_of_ble_eq_true rfl⟩ ⟨Nat.zero_le _, Nat.zero_le _⟩ rfl [] rfl rfl (kFst_refl _) rfl rfl hl.1 (Nat.le_of_ble_eq_true rfl) dX12_isOn_10 (fun H locs V => ?_)
  refine lv_lconst (v := (0 : Int64)) X.1 X.2.1 dX12_isOn_13 (by decide) ?_
  refine W.lcmp X.1 X.2.1 dX12_isOn_14 ?_
  refine lv_if_ne (tgt := 44) X.1 X.2.1 dX12_isOn_15 (by decide) (fun hc => ?_) (fun hc => ?_)
  · replace h := kif_f hc h
    refine lv_iconst (v := (0 : Int32)) X.1 X.2.1 dX12_isOn_44 (by decide) ?_
    obtain rfl := Option.some.inj h
    rw [hAA] at V
    rw [hQQ]
    exact k_zret X V (b := false) rfl rfl dX12_isOn_45
  · replace h := kif_t hc h
    refine lv_lload_n X.1 X.2.1 dX12_isOn_18 rfl (lv_at hl 0 rfl) ?_
    refine lv_lload X.1 X.2.1 dX12_isOn_19 (lv_at hl 2 rfl) ?_
    refine lv_lload X.1 X.2.1 dX12_isOn_21 (lv_at hl 4 rfl) ?_
    obtain ⟨x5, hx5, h⟩ := kb_of h
    refine s_callSi (segs' := ([] : List va_W)) X V (c_X12_isBetween l D g v0 v4 v8 x5 hx5) w_X12_407 ⟨Nat.le_of_ble_eq_true rfl, Nat.le_of_ble_eq_true rfl⟩ ⟨Nat.zero_le _, Nat.zero_le _⟩ rfl [] rfl rfl (kFst_refl _) rfl rfl hl.1 (Nat.le_of_ble_eq_true rfl) dX12_isOn_23 (fun H locs V => ?_)
    refine lv_if_eq (tgt := 44) X.1 X.2.1 dX12_isOn_26 (by decide) (fun hc => ?_) (fun hc => ?_)
    · replace h := kif_t hc h
      refine lv_iconst (v := (0 : Int32)) X.1 X.2.1 dX12_isOn_44 (by decide) ?_
      obtain rfl := Option.some.inj h
      rw [hAA] at V
      rw [hQQ]
      exact k_zret X V (b := false) rfl rfl dX12_isOn_45
    · replace h := kif_f hc h
      refine lv_lload_n X.1 X.2.1 dX12_isOn_29 rfl (lv_at hl 1 rfl) ?_
      refine lv_lload X.1 X.2.1 dX12_isOn_30 (lv_at hl 3 rfl) ?_
      refine lv_lload X.1 X.2.1 dX12_isOn_32 (lv_at hl 5 rfl) ?_
      obtain ⟨x6, hx6, h⟩ := kb_of h
      refine s_callSi (segs' := ([] : List va_W)) X V (c_X12_isBetween l D g v2 v6 v10 x6 hx6) w_X12_407 ⟨Nat.le_of_ble_eq_true rfl, Nat.le_of_ble_eq_true rfl⟩ ⟨Nat.zero_le _, Nat.zero_le _⟩ rfl [] rfl rfl (kFst_refl _) rfl rfl hl.1 (Nat.le_of_ble_eq_true rfl) dX12_isOn_34 (fun H locs V => ?_)
      refine lv_if_eq (tgt := 44) X.1 X.2.1 dX12_isOn_37 (by decide) (fun hc => ?_) (fun hc => ?_)
      · replace h := kif_t hc h
        refine lv_iconst (v := (0 : Int32)) X.1 X.2.1 dX12_isOn_44 (by decide) ?_
        obtain rfl := Option.some.inj h
        rw [hAA] at V
        rw [hQQ]
        exact k_zret X V (b := false) rfl rfl dX12_isOn_45
      · replace h := kif_f hc h
        refine lv_iconst (v := (1 : Int32)) X.1 X.2.1 dX12_isOn_40 (by decide) ?_
        refine lv_goto (tgt := 45) X.1 X.2.1 dX12_isOn_41 (by decide) ?_
        obtain rfl := Option.some.inj h
        rw [hAA] at V
        rw [hQQ]
        exact k_zret X V (b := true) rfl rfl dX12_isOn_45

def p_X12_doCross_J120 (v0 : Int64) (v2 : Int64) (v4 : Int64) (v6 : Int64) (v8 : Int64) (v10 : Int64) (v12 : Int64) (v14 : Int64) : Option (Bool) :=
  kb (p_X12_isOn v0 v2 v4 v6 v8 v10) (fun x5 => kif ((kz x5) = 0) (kb (p_X12_isOn v0 v2 v4 v6 v12 v14) (fun x6 => kif ((kz x6) = 0) (kb (p_X12_isOn v8 v10 v12 v14 v0 v2) (fun x7 => kif ((kz x7) = 0) (kb (p_X12_isOn v8 v10 v12 v14 v4 v6) (fun x8 => kif ((kz x8) = 0) (some false) (some true))) (some true))) (some true))) (some true))
def p_X12_doCross_J104 (v0 : Int64) (v2 : Int64) (v4 : Int64) (v6 : Int64) (v8 : Int64) (v10 : Int64) (v12 : Int64) (v14 : Int64) (v20 : Int64) (v22 : Int64) : Option (Bool) :=
  kif ((lg_cmp v20 (0 : Int64)) ≤ 0) (p_X12_doCross_J120 v0 v2 v4 v6 v8 v10 v12 v14) (kif (0 ≤ (lg_cmp v22 (0 : Int64))) (p_X12_doCross_J120 v0 v2 v4 v6 v8 v10 v12 v14) (some true))
def p_X12_doCross_J90 (v0 : Int64) (v2 : Int64) (v4 : Int64) (v6 : Int64) (v8 : Int64) (v10 : Int64) (v12 : Int64) (v14 : Int64) (v20 : Int64) (v22 : Int64) : Option (Bool) :=
  kif (0 ≤ (lg_cmp v20 (0 : Int64))) (p_X12_doCross_J104 v0 v2 v4 v6 v8 v10 v12 v14 v20 v22) (kif (0 < (lg_cmp v22 (0 : Int64))) (some true) (p_X12_doCross_J104 v0 v2 v4 v6 v8 v10 v12 v14 v20 v22))
def p_X12_doCross_J76 (v0 : Int64) (v2 : Int64) (v4 : Int64) (v6 : Int64) (v8 : Int64) (v10 : Int64) (v12 : Int64) (v14 : Int64) (v16 : Int64) (v18 : Int64) (v20 : Int64) (v22 : Int64) : Option (Bool) :=
  kif ((lg_cmp v16 (0 : Int64)) ≤ 0) (p_X12_doCross_J120 v0 v2 v4 v6 v8 v10 v12 v14) (kif (0 ≤ (lg_cmp v18 (0 : Int64))) (p_X12_doCross_J120 v0 v2 v4 v6 v8 v10 v12 v14) (p_X12_doCross_J90 v0 v2 v4 v6 v8 v10 v12 v14 v20 v22))
def p_X12_doCross (v0 : Int64) (v2 : Int64) (v4 : Int64) (v6 : Int64) (v8 : Int64) (v10 : Int64) (v12 : Int64) (v14 : Int64) : Option (Bool) :=
  kb (p_X12_turnOf v0 v2 v4 v6 v8 v10) (fun x1 => kb (p_X12_turnOf v0 v2 v4 v6 v12 v14) (fun x2 => kb (p_X12_turnOf v8 v10 v12 v14 v0 v2) (fun x3 => kb (p_X12_turnOf v8 v10 v12 v14 v4 v6) (fun x4 => kif (0 ≤ (lg_cmp x1 (0 : Int64))) (p_X12_doCross_J76 v0 v2 v4 v6 v8 v10 v12 v14 x1 x2 x3 x4) (kif (0 < (lg_cmp x2 (0 : Int64))) (p_X12_doCross_J90 v0 v2 v4 v6 v8 v10 v12 v14 x3 x4) (p_X12_doCross_J76 v0 v2 v4 v6 v8 v10 v12 v14 x1 x2 x3 x4))))))
set_option maxHeartbeats 4000000 in
set_option maxRecDepth 100000 in
theorem c_X12_doCross (l : Launch) (D : va_G) (g : kG)  (v0 : Int64) (v2 : Int64) (v4 : Int64) (v6 : Int64) (v8 : Int64) (v10 : Int64) (v12 : Int64) (v14 : Int64) (r : Bool) (h : p_X12_doCross v0 v2 v4 v6 v8 v10 v12 v14 = some r) : kMi l yX12_doCross cX12_doCross 24 (some .boolean) (kR 2 62) D (kty g) [.long v0, .long v2, .long v4, .long v6, .long v8, .long v10, .long v12, .long v14] (List.flatten ([] : List va_W)) (kz r) (List.flatten ([] : List va_W)) := by
  intro sz
  refine k_enter (lv := [(0, .long v0), (2, .long v2), (4, .long v4), (6, .long v6), (8, .long v8), (10, .long v10), (12, .long v12), (14, .long v14)]) RX12 (by decide +kernel) rfl rfl (Nat.le_of_ble_eq_true rfl) ?_
  intro p en s m args below meth c ls hsz X V hl
  obtain ⟨QQ, hQQ⟩ : ∃ q, q = MQ below (va_Qi (fun r' (_ : Unit) => r' = kz r) (fun _ => kE D (List.flatten ([] : List va_W))) (va_A (List.flatten ([] : List va_W)) sz)) args s 0 0 (va_A (List.flatten ([] : List va_W)) sz) := ⟨_, rfl⟩
  rw [← hQQ]
  obtain ⟨AA, hAA⟩ : ∃ q, q = va_A (List.flatten ([] : List va_W)) sz := ⟨_, rfl⟩
  rw [← hAA] at V
  have J120 : ∀  (H : Heap) (locs : List Loc) (ls : Array Slot), p_X12_doCross_J120 v0 v2 v4 v6 v8 v10 v12 v14 = some r → kW D AA s.heap H (List.flatten ([] : List va_W)) locs → lv_has ls 24 [(0, .long v0), (2, .long v2), (4, .long v4), (6, .long v6), (8, .long v8), (10, .long v10), (12, .long v12), (14, .long v14)] → W p l en (kR 2 62) s m args below meth c H locs 0 0 QQ (F0 m 120 ls []) := by
    intro  H locs ls h V hl
    unfold p_X12_doCross_J120 at h
    refine lv_lload_n X.1 X.2.1 dX12_doCross_120 rfl (lv_at hl 0 rfl) ?_
    refine lv_lload_n X.1 X.2.1 dX12_doCross_121 rfl (lv_at hl 1 rfl) ?_
    refine lv_lload X.1 X.2.1 dX12_doCross_122 (lv_at hl 2 rfl) ?_
    refine lv_lload X.1 X.2.1 dX12_doCross_124 (lv_at hl 3 rfl) ?_
    refine lv_lload X.1 X.2.1 dX12_doCross_126 (lv_at hl 4 rfl) ?_
    refine lv_lload X.1 X.2.1 dX12_doCross_128 (lv_at hl 5 rfl) ?_
    obtain ⟨x9, hx9, h⟩ := kb_of h
    refine s_callSi (segs' := ([] : List va_W)) X V (c_X12_isOn l D g v0 v2 v4 v6 v8 v10 x9 hx9) w_X12_411 ⟨Nat.le_of_ble_eq_true rfl, Nat.le_of_ble_eq_true rfl⟩ ⟨Nat.zero_le _, Nat.zero_le _⟩ rfl [] rfl rfl (kFst_refl _) rfl rfl hl.1 (Nat.le_of_ble_eq_true rfl) dX12_doCross_130 (fun H locs V => ?_)
    refine lv_if_ne (tgt := 186) X.1 X.2.1 dX12_doCross_133 (by decide) (fun hc => ?_) (fun hc => ?_)
    · replace h := kif_f hc h
      refine lv_iconst (v := (1 : Int32)) X.1 X.2.1 dX12_doCross_186 (by decide) ?_
      refine lv_goto (tgt := 191) X.1 X.2.1 dX12_doCross_187 (by decide) ?_
      obtain rfl := Option.some.inj h
      rw [hAA] at V
      rw [hQQ]
      exact k_zret X V (b := true) rfl rfl dX12_doCross_191
    · replace h := kif_t hc h
      refine lv_lload_n X.1 X.2.1 dX12_doCross_136 rfl (lv_at hl 0 rfl) ?_
      refine lv_lload_n X.1 X.2.1 dX12_doCross_137 rfl (lv_at hl 1 rfl) ?_
      refine lv_lload X.1 X.2.1 dX12_doCross_138 (lv_at hl 2 rfl) ?_
      refine lv_lload X.1 X.2.1 dX12_doCross_140 (lv_at hl 3 rfl) ?_
      refine lv_lload X.1 X.2.1 dX12_doCross_142 (lv_at hl 6 rfl) ?_
      refine lv_lload X.1 X.2.1 dX12_doCross_144 (lv_at hl 7 rfl) ?_
      obtain ⟨x10, hx10, h⟩ := kb_of h
      refine s_callSi (segs' := ([] : List va_W)) X V (c_X12_isOn l D g v0 v2 v4 v6 v12 v14 x10 hx10) w_X12_411 ⟨Nat.le_of_ble_eq_true rfl, Nat.le_of_ble_eq_true rfl⟩ ⟨Nat.zero_le _, Nat.zero_le _⟩ rfl [] rfl rfl (kFst_refl _) rfl rfl hl.1 (Nat.le_of_ble_eq_true rfl) dX12_doCross_146 (fun H locs V => ?_)
      refine lv_if_ne (tgt := 186) X.1 X.2.1 dX12_doCross_149 (by decide) (fun hc => ?_) (fun hc => ?_)
      · replace h := kif_f hc h
        refine lv_iconst (v := (1 : Int32)) X.1 X.2.1 dX12_doCross_186 (by decide) ?_
        refine lv_goto (tgt := 191) X.1 X.2.1 dX12_doCross_187 (by decide) ?_
        obtain rfl := Option.some.inj h
        rw [hAA] at V
        rw [hQQ]
        exact k_zret X V (b := true) rfl rfl dX12_doCross_191
      · replace h := kif_t hc h
        refine lv_lload X.1 X.2.1 dX12_doCross_152 (lv_at hl 4 rfl) ?_
        refine lv_lload X.1 X.2.1 dX12_doCross_154 (lv_at hl 5 rfl) ?_
        refine lv_lload X.1 X.2.1 dX12_doCross_156 (lv_at hl 6 rfl) ?_
        refine lv_lload X.1 X.2.1 dX12_doCross_158 (lv_at hl 7 rfl) ?_
        refine lv_lload_n X.1 X.2.1 dX12_doCross_160 rfl (lv_at hl 0 rfl) ?_
        refine lv_lload_n X.1 X.2.1 dX12_doCross_161 rfl (lv_at hl 1 rfl) ?_
        obtain ⟨x11, hx11, h⟩ := kb_of h
        refine s_callSi (segs' := ([] : List va_W)) X V (c_X12_isOn l D g v8 v10 v12 v14 v0 v2 x11 hx11) w_X12_411 ⟨Nat.le_of_ble_eq_true rfl, Nat.le_of_ble_eq_true rfl⟩ ⟨Nat.zero_le _, Nat.zero_le _⟩ rfl [] rfl rfl (kFst_refl _) rfl rfl hl.1 (Nat.le_of_ble_eq_true rfl) dX12_doCross_162 (fun H locs V => ?_)
        refine lv_if_ne (tgt := 186) X.1 X.2.1 dX12_doCross_165 (by decide) (fun hc => ?_) (fun hc => ?_)
        · replace h := kif_f hc h
          refine lv_iconst (v := (1 : Int32)) X.1 X.2.1 dX12_doCross_186 (by decide) ?_
          refine lv_goto (tgt := 191) X.1 X.2.1 dX12_doCross_187 (by decide) ?_
          obtain rfl := Option.some.inj h
          rw [hAA] at V
          rw [hQQ]
          exact k_zret X V (b := true) rfl rfl dX12_doCross_191
        · replace h := kif_t hc h
          refine lv_lload X.1 X.2.1 dX12_doCross_168 (lv_at hl 4 rfl) ?_
          refine lv_lload X.1 X.2.1 dX12_doCross_170 (lv_at hl 5 rfl) ?_
          refine lv_lload X.1 X.2.1 dX12_doCross_172 (lv_at hl 6 rfl) ?_
          refine lv_lload X.1 X.2.1 dX12_doCross_174 (lv_at hl 7 rfl) ?_
          refine lv_lload X.1 X.2.1 dX12_doCross_176 (lv_at hl 2 rfl) ?_
          refine lv_lload X.1 X.2.1 dX12_doCross_178 (lv_at hl 3 rfl) ?_
          obtain ⟨x12, hx12, h⟩ := kb_of h
          refine s_callSi (segs' := ([] : List va_W)) X V (c_X12_isOn l D g v8 v10 v12 v14 v4 v6 x12 hx12) w_X12_411 ⟨Nat.le_of_ble_eq_true rfl, Nat.le_of_ble_eq_true rfl⟩ ⟨Nat.zero_le _, Nat.zero_le _⟩ rfl [] rfl rfl (kFst_refl _) rfl rfl hl.1 (Nat.le_of_ble_eq_true rfl) dX12_doCross_180 (fun H locs V => ?_)
          refine lv_if_eq (tgt := 190) X.1 X.2.1 dX12_doCross_183 (by decide) (fun hc => ?_) (fun hc => ?_)
          · replace h := kif_t hc h
            refine lv_iconst (v := (0 : Int32)) X.1 X.2.1 dX12_doCross_190 (by decide) ?_
            obtain rfl := Option.some.inj h
            rw [hAA] at V
            rw [hQQ]
            exact k_zret X V (b := false) rfl rfl dX12_doCross_191
          · replace h := kif_f hc h
            refine lv_iconst (v := (1 : Int32)) X.1 X.2.1 dX12_doCross_186 (by decide) ?_
            refine lv_goto (tgt := 191) X.1 X.2.1 dX12_doCross_187 (by decide) ?_
            obtain rfl := Option.some.inj h
            rw [hAA] at V
            rw [hQQ]
            exact k_zret X V (b := true) rfl rfl dX12_doCross_191
  have J104 : ∀ (v20 : Int64) (v22 : Int64) (H : Heap) (locs : List Loc) (ls : Array Slot), p_X12_doCross_J104 v0 v2 v4 v6 v8 v10 v12 v14 v20 v22 = some r → kW D AA s.heap H (List.flatten ([] : List va_W)) locs → lv_has ls 24 [(0, .long v0), (2, .long v2), (4, .long v4), (6, .long v6), (8, .long v8), (10, .long v10), (12, .long v12), (14, .long v14), (20, .long v20), (22, .long v22)] → W p l en (kR 2 62) s m args below meth c H locs 0 0 QQ (F0 m 104 ls []) := by
    intro v20 v22 H locs ls h V hl
    unfold p_X12_doCross_J104 at h
    refine lv_lload X.1 X.2.1 dX12_doCross_104 (lv_at hl 8 rfl) ?_
    refine lv_lconst (v := (0 : Int64)) X.1 X.2.1 dX12_doCross_106 (by decide) ?_
    refine W.lcmp X.1 X.2.1 dX12_doCross_107 ?_
    refine lv_if_le (tgt := 120) X.1 X.2.1 dX12_doCross_108 (by decide) (fun hc => ?_) (fun hc => ?_)
    · replace h := kif_t hc h
      exact J120  _ _ _ h V (lv_sub hl [0, 1, 2, 3, 4, 5, 6, 7] rfl)
    · replace h := kif_f hc h
      refine lv_lload X.1 X.2.1 dX12_doCross_111 (lv_at hl 9 rfl) ?_
      refine lv_lconst (v := (0 : Int64)) X.1 X.2.1 dX12_doCross_113 (by decide) ?_
      refine W.lcmp X.1 X.2.1 dX12_doCross_114 ?_
      refine lv_if_ge (tgt := 120) X.1 X.2.1 dX12_doCross_115 (by decide) (fun hc => ?_) (fun hc => ?_)
      · replace h := kif_t hc h
        exact J120  _ _ _ h V (lv_sub hl [0, 1, 2, 3, 4, 5, 6, 7] rfl)
      · replace h := kif_f hc h
        refine lv_iconst (v := (1 : Int32)) X.1 X.2.1 dX12_doCross_118 (by decide) ?_
        obtain rfl := Option.some.inj h
        rw [hAA] at V
        rw [hQQ]
        exact k_zret X V (b := true) rfl rfl dX12_doCross_119
  have J90 : ∀ (v20 : Int64) (v22 : Int64) (H : Heap) (locs : List Loc) (ls : Array Slot), p_X12_doCross_J90 v0 v2 v4 v6 v8 v10 v12 v14 v20 v22 = some r → kW D AA s.heap H (List.flatten ([] : List va_W)) locs → lv_has ls 24 [(0, .long v0), (2, .long v2), (4, .long v4), (6, .long v6), (8, .long v8), (10, .long v10), (12, .long v12), (14, .long v14), (20, .long v20), (22, .long v22)] → W p l en (kR 2 62) s m args below meth c H locs 0 0 QQ (F0 m 90 ls []) := by
    intro v20 v22 H locs ls h V hl
    unfold p_X12_doCross_J90 at h
    refine lv_lload X.1 X.2.1 dX12_doCross_90 (lv_at hl 8 rfl) ?_
    refine lv_lconst (v := (0 : Int64)) X.1 X.2.1 dX12_doCross_92 (by decide) ?_
    refine W.lcmp X.1 X.2.1 dX12_doCross_93 ?_
    refine lv_if_ge (tgt := 104) X.1 X.2.1 dX12_doCross_94 (by decide) (fun hc => ?_) (fun hc => ?_)
    · replace h := kif_t hc h
      exact J104 v20 v22 _ _ _ h V (lv_sub hl [0, 1, 2, 3, 4, 5, 6, 7, 8, 9] rfl)
    · replace h := kif_f hc h
      refine lv_lload X.1 X.2.1 dX12_doCross_97 (lv_at hl 9 rfl) ?_
      refine lv_lconst (v := (0 : Int64)) X.1 X.2.1 dX12_doCross_99 (by decide) ?_
      refine W.lcmp X.1 X.2.1 dX12_doCross_100 ?_
      refine lv_if_gt (tgt := 118) X.1 X.2.1 dX12_doCross_101 (by decide) (fun hc => ?_) (fun hc => ?_)
      · replace h := kif_t hc h
        refine lv_iconst (v := (1 : Int32)) X.1 X.2.1 dX12_doCross_118 (by decide) ?_
        obtain rfl := Option.some.inj h
        rw [hAA] at V
        rw [hQQ]
        exact k_zret X V (b := true) rfl rfl dX12_doCross_119
      · replace h := kif_f hc h
        exact J104 v20 v22 _ _ _ h V (lv_sub hl [0, 1, 2, 3, 4, 5, 6, 7, 8, 9] rfl)
  have J76 : ∀ (v16 : Int64) (v18 : Int64) (v20 : Int64) (v22 : Int64) (H : Heap) (locs : List Loc) (ls : Array Slot), p_X12_doCross_J76 v0 v2 v4 v6 v8 v10 v12 v14 v16 v18 v20 v22 = some r → kW D AA s.heap H (List.flatten ([] : List va_W)) locs → lv_has ls 24 [(0, .long v0), (2, .long v2), (4, .long v4), (6, .long v6), (8, .long v8), (10, .long v10), (12, .long v12), (14, .long v14), (16, .long v16), (18, .long v18), (20, .long v20), (22, .long v22)] → W p l en (kR 2 62) s m args below meth c H locs 0 0 QQ (F0 m 76 ls []) := by
    intro v16 v18 v20 v22 H locs ls h V hl
    unfold p_X12_doCross_J76 at h
    refine lv_lload X.1 X.2.1 dX12_doCross_76 (lv_at hl 8 rfl) ?_
    refine lv_lconst (v := (0 : Int64)) X.1 X.2.1 dX12_doCross_78 (by decide) ?_
    refine W.lcmp X.1 X.2.1 dX12_doCross_79 ?_
    refine lv_if_le (tgt := 120) X.1 X.2.1 dX12_doCross_80 (by decide) (fun hc => ?_) (fun hc => ?_)
    · replace h := kif_t hc h
      exact J120  _ _ _ h V (lv_sub hl [0, 1, 2, 3, 4, 5, 6, 7] rfl)
    · replace h := kif_f hc h
      refine lv_lload X.1 X.2.1 dX12_doCross_83 (lv_at hl 9 rfl) ?_
      refine lv_lconst (v := (0 : Int64)) X.1 X.2.1 dX12_doCross_85 (by decide) ?_
      refine W.lcmp X.1 X.2.1 dX12_doCross_86 ?_
      refine lv_if_ge (tgt := 120) X.1 X.2.1 dX12_doCross_87 (by decide) (fun hc => ?_) (fun hc => ?_)
      · replace h := kif_t hc h
        exact J120  _ _ _ h V (lv_sub hl [0, 1, 2, 3, 4, 5, 6, 7] rfl)
      · replace h := kif_f hc h
        exact J90 v20 v22 _ _ _ h V (lv_sub hl [0, 1, 2, 3, 4, 5, 6, 7, 10, 11] rfl)
  unfold p_X12_doCross at h
  refine lv_lload_n X.1 X.2.1 dX12_doCross_0 rfl (lv_at hl 0 rfl) ?_
  refine lv_lload_n X.1 X.2.1 dX12_doCross_1 rfl (lv_at hl 1 rfl) ?_
  refine lv_lload X.1 X.2.1 dX12_doCross_2 (lv_at hl 2 rfl) ?_
  refine lv_lload X.1 X.2.1 dX12_doCross_4 (lv_at hl 3 rfl) ?_
  refine lv_lload X.1 X.2.1 dX12_doCross_6 (lv_at hl 4 rfl) ?_
  refine lv_lload X.1 X.2.1 dX12_doCross_8 (lv_at hl 5 rfl) ?_
  obtain ⟨x13, hx13, h⟩ := kb_of h
  refine s_callSl (segs' := ([] : List va_W)) X V (c_X12_turnOf l D g v0 v2 v4 v6 v8 v10 x13 hx13) w_X12_403 ⟨Nat.le_of_ble_eq_true rfl, Nat.le_of_ble_eq_true rfl⟩ ⟨Nat.zero_le _, Nat.zero_le _⟩ rfl [] rfl rfl (kFst_refl _) rfl rfl hl.1 (Nat.le_of_ble_eq_true rfl) dX12_doCross_10 (fun H locs V => ?_)
  refine lv_lstore (lv' := [(16, .long x13), (0, .long v0), (2, .long v2), (4, .long v4), (6, .long v6), (8, .long v8), (10, .long v10), (12, .long v12), (14, .long v14)]) X.1 X.2.1 dX12_doCross_13 hl (by decide) rfl (fun ls hl => ?_)
  refine lv_lload_n X.1 X.2.1 dX12_doCross_15 rfl (lv_at hl 1 rfl) ?_
  refine lv_lload_n X.1 X.2.1 dX12_doCross_16 rfl (lv_at hl 2 rfl) ?_
  refine lv_lload X.1 X.2.1 dX12_doCross_17 (lv_at hl 3 rfl) ?_
  refine lv_lload X.1 X.2.1 dX12_doCross_19 (lv_at hl 4 rfl) ?_
  refine lv_lload X.1 X.2.1 dX12_doCross_21 (lv_at hl 7 rfl) ?_
  refine lv_lload X.1 X.2.1 dX12_doCross_23 (lv_at hl 8 rfl) ?_
  obtain ⟨x14, hx14, h⟩ := kb_of h
  refine s_callSl (segs' := ([] : List va_W)) X V (c_X12_turnOf l D g v0 v2 v4 v6 v12 v14 x14 hx14) w_X12_403 ⟨Nat.le_of_ble_eq_true rfl, Nat.le_of_ble_eq_true rfl⟩ ⟨Nat.zero_le _, Nat.zero_le _⟩ rfl [] rfl rfl (kFst_refl _) rfl rfl hl.1 (Nat.le_of_ble_eq_true rfl) dX12_doCross_25 (fun H locs V => ?_)
  refine lv_lstore (lv' := [(18, .long x14), (16, .long x13), (0, .long v0), (2, .long v2), (4, .long v4), (6, .long v6), (8, .long v8), (10, .long v10), (12, .long v12), (14, .long v14)]) X.1 X.2.1 dX12_doCross_28 hl (by decide) rfl (fun ls hl => ?_)
  refine lv_lload X.1 X.2.1 dX12_doCross_30 (lv_at hl 6 rfl) ?_
  refine lv_lload X.1 X.2.1 dX12_doCross_32 (lv_at hl 7 rfl) ?_
  refine lv_lload X.1 X.2.1 dX12_doCross_34 (lv_at hl 8 rfl) ?_
  refine lv_lload X.1 X.2.1 dX12_doCross_36 (lv_at hl 9 rfl) ?_
  refine lv_lload_n X.1 X.2.1 dX12_doCross_38 rfl (lv_at hl 2 rfl) ?_
  refine lv_lload_n X.1 X.2.1 dX12_doCross_39 rfl (lv_at hl 3 rfl) ?_
  obtain ⟨x15, hx15, h⟩ := kb_of h
  refine s_callSl (segs' := ([] : List va_W)) X V (c_X12_turnOf l D g v8 v10 v12 v14 v0 v2 x15 hx15) w_X12_403 ⟨Nat.le_of_ble_eq_true rfl, Nat.le_of_ble_eq_true rfl⟩ ⟨Nat.zero_le _, Nat.zero_le _⟩ rfl [] rfl rfl (kFst_refl _) rfl rfl hl.1 (Nat.le_of_ble_eq_true rfl) dX12_doCross_40 (fun H locs V => ?_)
  refine lv_lstore (lv' := [(20, .long x15), (18, .long x14), (16, .long x13), (0, .long v0), (2, .long v2), (4, .long v4), (6, .long v6), (8, .long v8), (10, .long v10), (12, .long v12), (14, .long v14)]) X.1 X.2.1 dX12_doCross_43 hl (by decide) rfl (fun ls hl => ?_)
  refine lv_lload X.1 X.2.1 dX12_doCross_45 (lv_at hl 7 rfl) ?_
  refine lv_lload X.1 X.2.1 dX12_doCross_47 (lv_at hl 8 rfl) ?_
  refine lv_lload X.1 X.2.1 dX12_doCross_49 (lv_at hl 9 rfl) ?_
  refine lv_lload X.1 X.2.1 dX12_doCross_51 (lv_at hl 10 rfl) ?_
  refine lv_lload X.1 X.2.1 dX12_doCross_53 (lv_at hl 5 rfl) ?_
  refine lv_lload X.1 X.2.1 dX12_doCross_55 (lv_at hl 6 rfl) ?_
  obtain ⟨x16, hx16, h⟩ := kb_of h
  refine s_callSl (segs' := ([] : List va_W)) X V (c_X12_turnOf l D g v8 v10 v12 v14 v4 v6 x16 hx16) w_X12_403 ⟨Nat.le_of_ble_eq_true rfl, Nat.le_of_ble_eq_true rfl⟩ ⟨Nat.zero_le _, Nat.zero_le _⟩ rfl [] rfl rfl (kFst_refl _) rfl rfl hl.1 (Nat.le_of_ble_eq_true rfl) dX12_doCross_57 (fun H locs V => ?_)
  refine lv_lstore (lv' := [(22, .long x16), (20, .long x15), (18, .long x14), (16, .long x13), (0, .long v0), (2, .long v2), (4, .long v4), (6, .long v6), (8, .long v8), (10, .long v10), (12, .long v12), (14, .long v14)]) X.1 X.2.1 dX12_doCross_60 hl (by decide) rfl (fun ls hl => ?_)
  refine lv_lload X.1 X.2.1 dX12_doCross_62 (lv_at hl 3 rfl) ?_
  refine lv_lconst (v := (0 : Int64)) X.1 X.2.1 dX12_doCross_64 (by decide) ?_
  refine W.lcmp X.1 X.2.1 dX12_doCross_65 ?_
  refine lv_if_ge (tgt := 76) X.1 X.2.1 dX12_doCross_66 (by decide) (fun hc => ?_) (fun hc => ?_)
  · replace h := kif_t hc h
    exact J76 x13 x14 x15 x16 _ _ _ h V (lv_sub hl [4, 5, 6, 7, 8, 9, 10, 11, 3, 2, 1, 0] rfl)
  · replace h := kif_f hc h
    refine lv_lload X.1 X.2.1 dX12_doCross_69 (lv_at hl 2 rfl) ?_
    refine lv_lconst (v := (0 : Int64)) X.1 X.2.1 dX12_doCross_71 (by decide) ?_
    refine W.lcmp X.1 X.2.1 dX12_doCross_72 ?_
    refine lv_if_gt (tgt := 90) X.1 X.2.1 dX12_doCross_73 (by decide) (fun hc => ?_) (fun hc => ?_)
    · replace h := kif_t hc h
      exact J90 x15 x16 _ _ _ h V (lv_sub hl [4, 5, 6, 7, 8, 9, 10, 11, 1, 0] rfl)
    · replace h := kif_f hc h
      exact J76 x13 x14 x15 x16 _ _ _ h V (lv_sub hl [4, 5, 6, 7, 8, 9, 10, 11, 3, 2, 1, 0] rfl)

def p_X12_isWithin_L3 (zT : tX12) (v1 : Int64) (v3 : Int64) (s : Int32) : Option (Nat × (Int32)) :=
  kif ((zT.1 37) ≤ s) (some (98, s)) (kif ((zT.1 37) ≤ (2 : Int32)) (some (98, s)) (kg (kii s 42) (kg (kii ((zT.2.2.1 35) s.toNatClampNeg) 41) (kg (kii s 42) (kg (kii ((zT.2.2.1 35) s.toNatClampNeg) 41) (kb (p_X12_after zT s) (fun x1 => kg (kii x1 42) (kg (kii ((zT.2.2.1 35) x1.toNatClampNeg) 41) (kb (p_X12_after zT s) (fun x2 => kg (kii x2 42) (kg (kii ((zT.2.2.1 35) x2.toNatClampNeg) 41) (kb (p_X12_turnOf (((zT.2.2.1 12) (((zT.2.2.1 35) s.toNatClampNeg)).toNatClampNeg)).toInt64 (((zT.2.2.1 13) (((zT.2.2.1 35) s.toNatClampNeg)).toNatClampNeg)).toInt64 (((zT.2.2.1 12) (((zT.2.2.1 35) x1.toNatClampNeg)).toNatClampNeg)).toInt64 (((zT.2.2.1 13) (((zT.2.2.1 35) x2.toNatClampNeg)).toNatClampNeg)).toInt64 v1 v3) (fun x3 => kif (0 ≤ (lg_cmp x3 (0 : Int64))) (kl (s + (1 : Int32)) (fun y4 => some (3, y4))) (some (90, s)))))))))))))))
def p_X12_isWithin_J98 (zT : tX12) (v1 : Int64) (v3 : Int64) : Option (Bool) :=
  kif ((zT.1 37) ≤ (2 : Int32)) (some false) (some true)
def p_X12_isWithin (zT : tX12) (v1 : Int64) (v3 : Int64) : Option (Bool) :=
  kb (kitr 3 (fun q => p_X12_isWithin_L3 zT v1 v3 q) kF (0 : Int32)) (fun x5 => kif (x5.1 = 90) (some false) (kg (x5.1 = 98) (p_X12_isWithin_J98 zT v1 v3)))
set_option maxHeartbeats 4000000 in
set_option maxRecDepth 100000 in
theorem c_X12_isWithin (l : Launch) (D : va_G) (g : kG) (aT : Nat → Nat) (zT : tX12) (v1 : Int64) (v3 : Int64) (r : Bool) (h : p_X12_isWithin zT v1 v3 = some r) : kMi l yX12_isWithin cX12_isWithin 6 (some .boolean) (kR 1 31) D (kty g) [.ref (aT 0), .long v1, .long v3] (List.flatten [gX12 g aT zT]) (kz r) (List.flatten [gX12 g aT zT]) := by
  intro sz
  refine k_enter (lv := [(0, .ref (aT 0)), (1, .long v1), (3, .long v3)]) RX12 (by decide +kernel) rfl rfl (Nat.le_of_ble_eq_true rfl) ?_
  intro p en s m args below meth c ls hsz X V hl
  obtain ⟨QQ, hQQ⟩ : ∃ q, q = MQ below (va_Qi (fun r' (_ : Unit) => r' = kz r) (fun _ => kE D (List.flatten [gX12 g aT zT])) (va_A (List.flatten [gX12 g aT zT]) sz)) args s 0 0 (va_A (List.flatten [gX12 g aT zT]) sz) := ⟨_, rfl⟩
  rw [← hQQ]
  obtain ⟨AA, hAA⟩ : ∃ q, q = va_A (List.flatten [gX12 g aT zT]) sz := ⟨_, rfl⟩
  rw [← hAA] at V
  have J98 : ∀  (H : Heap) (locs : List Loc) (ls : Array Slot), p_X12_isWithin_J98 zT v1 v3 = some r → kW D AA s.heap H (List.flatten [gX12 g aT zT]) locs → lv_has ls 6 [(0, .ref (aT 0))] → W p l en (kR 1 31) s m args below meth c H locs 0 0 QQ (F0 m 98 ls []) := by
    intro  H locs ls h V hl
    unfold p_X12_isWithin_J98 at h
    refine lv_aload_n X.1 X.2.1 dX12_isWithin_98 rfl (lv_at hl 0 rfl) ?_
    refine gf_X12_320 (i := 0) X V rfl dX12_isWithin_99 ?_
    refine lv_iconst (v := (2 : Int32)) X.1 X.2.1 dX12_isWithin_102 (by decide) ?_
    refine lv_icmp_le (tgt := 110) X.1 X.2.1 dX12_isWithin_103 (by decide) (fun hc => ?_) (fun hc => ?_)
    · replace h := kif_t hc h
      refine lv_iconst (v := (0 : Int32)) X.1 X.2.1 dX12_isWithin_110 (by decide) ?_
      obtain rfl := Option.some.inj h
      rw [hAA] at V
      rw [hQQ]
      exact k_zret X V (b := false) rfl rfl dX12_isWithin_111
    · replace h := kif_f hc h
      refine lv_iconst (v := (1 : Int32)) X.1 X.2.1 dX12_isWithin_106 (by decide) ?_
      refine lv_goto (tgt := 111) X.1 X.2.1 dX12_isWithin_107 (by decide) ?_
      obtain rfl := Option.some.inj h
      rw [hAA] at V
      rw [hQQ]
      exact k_zret X V (b := true) rfl rfl dX12_isWithin_111
  unfold p_X12_isWithin at h
  refine lv_iconst (v := (0 : Int32)) X.1 X.2.1 dX12_isWithin_0 (by decide) ?_
  refine lv_istore (lv' := [(5, .int (0 : Int32)), (0, .ref (aT 0)), (1, .long v1), (3, .long v3)]) X.1 X.2.1 dX12_isWithin_1 hl (by decide) rfl (fun ls hl => ?_)
  obtain ⟨x6, hx6, h⟩ := kb_of h
  refine (kitr_go (hd := 3) (body := fun q => p_X12_isWithin_L3 zT v1 v3 q) (G := (fun e => ∀ (H : Heap) (locs : List Loc) (ls : Array Slot), kW D AA s.heap H (List.flatten [gX12 g aT zT]) locs → lv_has ls 6 [(0, .ref (aT 0)), (1, .long v1), (3, .long v3), (5, .int e.2)] → W p l en (kR 1 31) s m args below meth c H locs 0 0 QQ (F0 m e.1 ls []))) (fun s7 e8 hb9 hG10 => ?_) kF _ x6 hx6 ?_) _ _ _ V (lv_sub hl [1, 2, 3, 0] rfl)
  · intro H locs ls V hl
    show W p l en (kR 1 31) s m args below meth c H locs 0 0 QQ (F0 m 3 ls [])
    have h : p_X12_isWithin_L3 zT v1 v3 s7 = some e8 := hb9
    unfold p_X12_isWithin_L3 at h
    have V : kW D AA s.heap H (List.flatten [gX12 g aT zT]) locs := V
    have hl : lv_has ls 6 [(0, .ref (aT 0)), (1, .long v1), (3, .long v3), (5, .int s7)] := hl
    refine lv_iload X.1 X.2.1 dX12_isWithin_3 (lv_at hl 3 rfl) ?_
    refine lv_aload_n X.1 X.2.1 dX12_isWithin_5 rfl (lv_at hl 0 rfl) ?_
    refine gf_X12_320 (i := 0) X V rfl dX12_isWithin_6 ?_
    refine lv_icmp_ge (tgt := 98) X.1 X.2.1 dX12_isWithin_9 (by decide) (fun hc => ?_) (fun hc => ?_)
    · replace h := kif_t hc h
      obtain rfl := Option.some.inj h
      exact hG10 _ _ _ V (lv_sub hl [0, 1, 2, 3] rfl)
    · replace h := kif_f hc h
      refine lv_aload_n X.1 X.2.1 dX12_isWithin_12 rfl (lv_at hl 0 rfl) ?_
      refine gf_X12_320 (i := 0) X V rfl dX12_isWithin_13 ?_
      refine lv_iconst (v := (2 : Int32)) X.1 X.2.1 dX12_isWithin_16 (by decide) ?_
      refine lv_icmp_le (tgt := 98) X.1 X.2.1 dX12_isWithin_17 (by decide) (fun hc => ?_) (fun hc => ?_)
      · replace h := kif_t hc h
        obtain rfl := Option.some.inj h
        exact hG10 _ _ _ V (lv_sub hl [0, 1, 2, 3] rfl)
      · replace h := kif_f hc h
        refine lv_aload_n X.1 X.2.1 dX12_isWithin_20 rfl (lv_at hl 0 rfl) ?_
        refine gf_X12_33 (i := 0) X V rfl dX12_isWithin_21 ?_
        refine lv_aload_n X.1 X.2.1 dX12_isWithin_24 rfl (lv_at hl 0 rfl) ?_
        refine gf_X12_54 (i := 0) X V rfl dX12_isWithin_25 ?_
        refine lv_iload X.1 X.2.1 dX12_isWithin_28 (lv_at hl 3 rfl) ?_
        obtain ⟨hc, h⟩ := kg_of h
        refine al_X12_35 (i := 0) X V rfl hc dX12_isWithin_30 ?_
        obtain ⟨hc, h⟩ := kg_of h
        refine al_X12_12 (i := 0) X V rfl hc dX12_isWithin_31 ?_
        refine lv_i2l X.1 X.2.1 dX12_isWithin_32 rfl ?_
        refine lv_aload_n X.1 X.2.1 dX12_isWithin_33 rfl (lv_at hl 0 rfl) ?_
        refine gf_X12_36 (i := 0) X V rfl dX12_isWithin_34 ?_
        refine lv_aload_n X.1 X.2.1 dX12_isWithin_37 rfl (lv_at hl 0 rfl) ?_
        refine gf_X12_54 (i := 0) X V rfl dX12_isWithin_38 ?_
        refine lv_iload X.1 X.2.1 dX12_isWithin_41 (lv_at hl 3 rfl) ?_
        obtain ⟨hc, h⟩ := kg_of h
        refine al_X12_35 (i := 0) X V rfl hc dX12_isWithin_43 ?_
        obtain ⟨hc, h⟩ := kg_of h
        refine al_X12_13 (i := 0) X V rfl hc dX12_isWithin_44 ?_
        refine lv_i2l X.1 X.2.1 dX12_isWithin_45 rfl ?_
        refine lv_aload_n X.1 X.2.1 dX12_isWithin_46 rfl (lv_at hl 0 rfl) ?_
        refine gf_X12_33 (i := 0) X V rfl dX12_isWithin_47 ?_
        refine lv_aload_n X.1 X.2.1 dX12_isWithin_50 rfl (lv_at hl 0 rfl) ?_
        refine gf_X12_54 (i := 0) X V rfl dX12_isWithin_51 ?_
        refine lv_aload_n X.1 X.2.1 dX12_isWithin_54 rfl (lv_at hl 0 rfl) ?_
        refine lv_iload X.1 X.2.1 dX12_isWithin_55 (lv_at hl 3 rfl) ?_
        obtain ⟨x11, hx11, h⟩ := kb_of h
        refine s_callVi (segs' := [gX12 g aT zT]) (ci := 12) (i0 := 0) X V (c_X12_after l D g aT zT s7 x11 hx11) w_X12_332 ⟨Nat.le_of_ble_eq_true rfl, Nat.le_of_ble_eq_true rfl⟩ ⟨Nat.zero_le _, Nat.zero_le _⟩ rfl rfl rfl rfl [0] rfl rfl (kFst_refl _) rfl rfl hl.1 (Nat.le_of_ble_eq_true rfl) dX12_isWithin_57 (fun H locs V => ?_)
        obtain ⟨hc, h⟩ := kg_of h
        refine al_X12_35 (i := 0) X V rfl hc dX12_isWithin_60 ?_
        obtain ⟨hc, h⟩ := kg_of h
        refine al_X12_12 (i := 0) X V rfl hc dX12_isWithin_61 ?_
        refine lv_i2l X.1 X.2.1 dX12_isWithin_62 rfl ?_
        refine lv_aload_n X.1 X.2.1 dX12_isWithin_63 rfl (lv_at hl 0 rfl) ?_
        refine gf_X12_36 (i := 0) X V rfl dX12_isWithin_64 ?_
        refine lv_aload_n X.1 X.2.1 dX12_isWithin_67 rfl (lv_at hl 0 rfl) ?_
        refine gf_X12_54 (i := 0) X V rfl dX12_isWithin_68 ?_
        refine lv_aload_n X.1 X.2.1 dX12_isWithin_71 rfl (lv_at hl 0 rfl) ?_
        refine lv_iload X.1 X.2.1 dX12_isWithin_72 (lv_at hl 3 rfl) ?_
        obtain ⟨x12, hx12, h⟩ := kb_of h
        refine s_callVi (segs' := [gX12 g aT zT]) (ci := 12) (i0 := 0) X V (c_X12_after l D g aT zT s7 x12 hx12) w_X12_332 ⟨Nat.le_of_ble_eq_true rfl, Nat.le_of_ble_eq_true rfl⟩ ⟨Nat.zero_le _, Nat.zero_le _⟩ rfl rfl rfl rfl [0] rfl rfl (kFst_refl _) rfl rfl hl.1 (Nat.le_of_ble_eq_true rfl) dX12_isWithin_74 (fun H locs V => ?_)
        obtain ⟨hc, h⟩ := kg_of h
        refine al_X12_35 (i := 0) X V rfl hc dX12_isWithin_77 ?_
        obtain ⟨hc, h⟩ := kg_of h
        refine al_X12_13 (i := 0) X V rfl hc dX12_isWithin_78 ?_
        refine lv_i2l X.1 X.2.1 dX12_isWithin_79 rfl ?_
        refine lv_lload_n X.1 X.2.1 dX12_isWithin_80 rfl (lv_at hl 1 rfl) ?_
        refine lv_lload_n X.1 X.2.1 dX12_isWithin_81 rfl (lv_at hl 2 rfl) ?_
        obtain ⟨x13, hx13, h⟩ := kb_of h
        refine s_callSl (segs' := [gX12 g aT zT]) X V (c_X12_turnOf l D g (((zT.2.2.1 12) (((zT.2.2.1 35) s7.toNatClampNeg)).toNatClampNeg)).toInt64 (((zT.2.2.1 13) (((zT.2.2.1 35) s7.toNatClampNeg)).toNatClampNeg)).toInt64 (((zT.2.2.1 12) (((zT.2.2.1 35) x11.toNatClampNeg)).toNatClampNeg)).toInt64 (((zT.2.2.1 13) (((zT.2.2.1 35) x12.toNatClampNeg)).toNatClampNeg)).toInt64 v1 v3 x13 hx13) w_X12_403 ⟨Nat.le_of_ble_eq_true rfl, Nat.le_of_ble_eq_true rfl⟩ ⟨Nat.zero_le _, Nat.zero_le _⟩ rfl [] rfl rfl (kFst_refl _) rfl rfl hl.1 (Nat.le_of_ble_eq_true rfl) dX12_isWithin_82 (fun H locs V => ?_)
        refine lv_lconst (v := (0 : Int64)) X.1 X.2.1 dX12_isWithin_85 (by decide) ?_
        refine W.lcmp X.1 X.2.1 dX12_isWithin_86 ?_
        refine lv_if_ge (tgt := 92) X.1 X.2.1 dX12_isWithin_87 (by decide) (fun hc => ?_) (fun hc => ?_)
        · replace h := kif_t hc h
          obtain ⟨y14, ey14⟩ : ∃ y : Int32, y = (s7 + (1 : Int32)) := ⟨_, rfl⟩
          replace h := kl_of ey14 h
          refine lv_iinc (v := y14) (lv' := [(5, .int y14), (0, .ref (aT 0)), (1, .long v1), (3, .long v3)]) X.1 X.2.1 dX12_isWithin_92 hl (k := 3) rfl (by rw [ey14]; rfl) (by decide) rfl (fun ls hl => ?_)
          refine lv_goto (tgt := 3) X.1 X.2.1 dX12_isWithin_95 (by decide) ?_
          obtain rfl := Option.some.inj h
          exact hG10 _ _ _ V (lv_sub hl [1, 2, 3, 0] rfl)
        · replace h := kif_f hc h
          obtain rfl := Option.some.inj h
          exact hG10 _ _ _ V (lv_sub hl [0, 1, 2, 3] rfl)
  · intro H locs ls V hl
    have V : kW D AA s.heap H (List.flatten [gX12 g aT zT]) locs := V
    have hl : lv_has ls 6 [(0, .ref (aT 0)), (1, .long v1), (3, .long v3), (5, .int x6.2)] := hl
    by_cases hc : x6.1 = 90
    · replace h := kif_t hc h
      refine W.eq (g2 := F0 m 90 ls []) (by rw [hc]) ?_
      refine lv_iconst (v := (0 : Int32)) X.1 X.2.1 dX12_isWithin_90 (by decide) ?_
      obtain rfl := Option.some.inj h
      rw [hAA] at V
      rw [hQQ]
      exact k_zret X V (b := false) rfl rfl dX12_isWithin_91
    · replace h := kif_f hc h
      obtain ⟨hc, h⟩ := kg_of h
      refine W.eq (g2 := F0 m 98 ls []) (by rw [hc]) ?_
      exact J98  _ _ _ h V (lv_sub hl [0] rfl)

def p_X12_isInOther_J39_3 (zT : tX12) (v1 : Int64) (v3 : Int64) (v5 : Int32) (k39_0 : Int32) : Option (Nat × (Int32)) :=
  kg (kii v5 42) (kg (kii v5 42) (kg (kii k39_0 42) (kg (kii k39_0 42) (kb (p_X12_turnOf (((zT.2.2.1 51) v5.toNatClampNeg)).toInt64 (((zT.2.2.1 52) v5.toNatClampNeg)).toInt64 (((zT.2.2.1 51) k39_0.toNatClampNeg)).toInt64 (((zT.2.2.1 52) k39_0.toNatClampNeg)).toInt64 v1 v3) (fun x1 => kif (0 ≤ (lg_cmp x1 (0 : Int64))) (kl (v5 + (1 : Int32)) (fun y2 => some (3, y2))) (some (83, v5)))))))
def p_X12_isInOther_L3 (zT : tX12) (v1 : Int64) (v3 : Int64) (s : Int32) : Option (Nat × (Int32)) :=
  kif ((zT.1 53) ≤ s) (some (91, s)) (kif ((zT.1 53) ≤ (2 : Int32)) (some (91, s)) (kif ((zT.1 53) ≤ (s + (1 : Int32))) (p_X12_isInOther_J39_3 zT v1 v3 s (0 : Int32)) (p_X12_isInOther_J39_3 zT v1 v3 s (s + (1 : Int32)))))
def p_X12_isInOther_J91 (zT : tX12) (v1 : Int64) (v3 : Int64) : Option (Bool) :=
  kif ((zT.1 53) ≤ (2 : Int32)) (some false) (some true)
def p_X12_isInOther (zT : tX12) (v1 : Int64) (v3 : Int64) : Option (Bool) :=
  kb (kitr 3 (fun q => p_X12_isInOther_L3 zT v1 v3 q) kF (0 : Int32)) (fun x3 => kif (x3.1 = 83) (some false) (kg (x3.1 = 91) (p_X12_isInOther_J91 zT v1 v3)))
set_option maxHeartbeats 4000000 in
set_option maxRecDepth 100000 in
theorem c_X12_isInOther (l : Launch) (D : va_G) (g : kG) (aT : Nat → Nat) (zT : tX12) (v1 : Int64) (v3 : Int64) (r : Bool) (h : p_X12_isInOther zT v1 v3 = some r) : kMi l yX12_isInOther cX12_isInOther 7 (some .boolean) (kR 1 31) D (kty g) [.ref (aT 0), .long v1, .long v3] (List.flatten [gX12 g aT zT]) (kz r) (List.flatten [gX12 g aT zT]) := by
  intro sz
  refine k_enter (lv := [(0, .ref (aT 0)), (1, .long v1), (3, .long v3)]) RX12 (by decide +kernel) rfl rfl (Nat.le_of_ble_eq_true rfl) ?_
  intro p en s m args below meth c ls hsz X V hl
  obtain ⟨QQ, hQQ⟩ : ∃ q, q = MQ below (va_Qi (fun r' (_ : Unit) => r' = kz r) (fun _ => kE D (List.flatten [gX12 g aT zT])) (va_A (List.flatten [gX12 g aT zT]) sz)) args s 0 0 (va_A (List.flatten [gX12 g aT zT]) sz) := ⟨_, rfl⟩
  rw [← hQQ]
  obtain ⟨AA, hAA⟩ : ∃ q, q = va_A (List.flatten [gX12 g aT zT]) sz := ⟨_, rfl⟩
  rw [← hAA] at V
  have J91 : ∀  (H : Heap) (locs : List Loc) (ls : Array Slot), p_X12_isInOther_J91 zT v1 v3 = some r → kW D AA s.heap H (List.flatten [gX12 g aT zT]) locs → lv_has ls 7 [(0, .ref (aT 0))] → W p l en (kR 1 31) s m args below meth c H locs 0 0 QQ (F0 m 91 ls []) := by
    intro  H locs ls h V hl
    unfold p_X12_isInOther_J91 at h
    refine lv_aload_n X.1 X.2.1 dX12_isInOther_91 rfl (lv_at hl 0 rfl) ?_
    refine gf_X12_415 (i := 0) X V rfl dX12_isInOther_92 ?_
    refine lv_iconst (v := (2 : Int32)) X.1 X.2.1 dX12_isInOther_95 (by decide) ?_
    refine lv_icmp_le (tgt := 103) X.1 X.2.1 dX12_isInOther_96 (by decide) (fun hc => ?_) (fun hc => ?_)
    · replace h := kif_t hc h
      refine lv_iconst (v := (0 : Int32)) X.1 X.2.1 dX12_isInOther_103 (by decide) ?_
      obtain rfl := Option.some.inj h
      rw [hAA] at V
      rw [hQQ]
      exact k_zret X V (b := false) rfl rfl dX12_isInOther_104
    · replace h := kif_f hc h
      refine lv_iconst (v := (1 : Int32)) X.1 X.2.1 dX12_isInOther_99 (by decide) ?_
      refine lv_goto (tgt := 104) X.1 X.2.1 dX12_isInOther_100 (by decide) ?_
      obtain rfl := Option.some.inj h
      rw [hAA] at V
      rw [hQQ]
      exact k_zret X V (b := true) rfl rfl dX12_isInOther_104
  unfold p_X12_isInOther at h
  refine lv_iconst (v := (0 : Int32)) X.1 X.2.1 dX12_isInOther_0 (by decide) ?_
  refine lv_istore (lv' := [(5, .int (0 : Int32)), (0, .ref (aT 0)), (1, .long v1), (3, .long v3)]) X.1 X.2.1 dX12_isInOther_1 hl (by decide) rfl (fun ls hl => ?_)
  obtain ⟨x4, hx4, h⟩ := kb_of h
  refine (kitr_go (hd := 3) (body := fun q => p_X12_isInOther_L3 zT v1 v3 q) (G := (fun e => ∀ (H : Heap) (locs : List Loc) (ls : Array Slot), kW D AA s.heap H (List.flatten [gX12 g aT zT]) locs → lv_has ls 7 [(0, .ref (aT 0)), (1, .long v1), (3, .long v3), (5, .int e.2)] → W p l en (kR 1 31) s m args below meth c H locs 0 0 QQ (F0 m e.1 ls []))) (fun s5 e6 hb7 hG8 => ?_) kF _ x4 hx4 ?_) _ _ _ V (lv_sub hl [1, 2, 3, 0] rfl)
  · intro H locs ls V hl
    show W p l en (kR 1 31) s m args below meth c H locs 0 0 QQ (F0 m 3 ls [])
    have h : p_X12_isInOther_L3 zT v1 v3 s5 = some e6 := hb7
    unfold p_X12_isInOther_L3 at h
    have V : kW D AA s.heap H (List.flatten [gX12 g aT zT]) locs := V
    have hl : lv_has ls 7 [(0, .ref (aT 0)), (1, .long v1), (3, .long v3), (5, .int s5)] := hl
    have J39 : ∀ (v5 : Int32) (k39_0 : Int32) (H : Heap) (locs : List Loc) (ls : Array Slot), p_X12_isInOther_J39_3 zT v1 v3 v5 k39_0 = some e6 → kW D AA s.heap H (List.flatten [gX12 g aT zT]) locs → lv_has ls 7 [(0, .ref (aT 0)), (1, .long v1), (3, .long v3), (5, .int v5)] → W p l en (kR 1 31) s m args below meth c H locs 0 0 QQ (F0 m 39 ls [.int k39_0]) := by
      intro v5 k39_0 H locs ls h V hl
      unfold p_X12_isInOther_J39_3 at h
      refine lv_istore (lv' := [(6, .int k39_0), (0, .ref (aT 0)), (1, .long v1), (3, .long v3), (5, .int v5)]) X.1 X.2.1 dX12_isInOther_39 hl (by decide) rfl (fun ls hl => ?_)
      refine lv_aload_n X.1 X.2.1 dX12_isInOther_41 rfl (lv_at hl 1 rfl) ?_
      refine gf_X12_64 (i := 0) X V rfl dX12_isInOther_42 ?_
      refine lv_iload X.1 X.2.1 dX12_isInOther_45 (lv_at hl 4 rfl) ?_
      obtain ⟨hc, h⟩ := kg_of h
      refine al_X12_51 (i := 0) X V rfl hc dX12_isInOther_47 ?_
      refine lv_i2l X.1 X.2.1 dX12_isInOther_48 rfl ?_
      refine lv_aload_n X.1 X.2.1 dX12_isInOther_49 rfl (lv_at hl 1 rfl) ?_
      refine gf_X12_67 (i := 0) X V rfl dX12_isInOther_50 ?_
      refine lv_iload X.1 X.2.1 dX12_isInOther_53 (lv_at hl 4 rfl) ?_
      obtain ⟨hc, h⟩ := kg_of h
      refine al_X12_52 (i := 0) X V rfl hc dX12_isInOther_55 ?_
      refine lv_i2l X.1 X.2.1 dX12_isInOther_56 rfl ?_
      refine lv_aload_n X.1 X.2.1 dX12_isInOther_57 rfl (lv_at hl 1 rfl) ?_
      refine gf_X12_64 (i := 0) X V rfl dX12_isInOther_58 ?_
      refine lv_iload X.1 X.2.1 dX12_isInOther_61 (lv_at hl 0 rfl) ?_
      obtain ⟨hc, h⟩ := kg_of h
      refine al_X12_51 (i := 0) X V rfl hc dX12_isInOther_63 ?_
      refine lv_i2l X.1 X.2.1 dX12_isInOther_64 rfl ?_
      refine lv_aload_n X.1 X.2.1 dX12_isInOther_65 rfl (lv_at hl 1 rfl) ?_
      refine gf_X12_67 (i := 0) X V rfl dX12_isInOther_66 ?_
      refine lv_iload X.1 X.2.1 dX12_isInOther_69 (lv_at hl 0 rfl) ?_
      obtain ⟨hc, h⟩ := kg_of h
      refine al_X12_52 (i := 0) X V rfl hc dX12_isInOther_71 ?_
      refine lv_i2l X.1 X.2.1 dX12_isInOther_72 rfl ?_
      refine lv_lload_n X.1 X.2.1 dX12_isInOther_73 rfl (lv_at hl 2 rfl) ?_
      refine lv_lload_n X.1 X.2.1 dX12_isInOther_74 rfl (lv_at hl 3 rfl) ?_
      obtain ⟨x9, hx9, h⟩ := kb_of h
      refine s_callSl (segs' := [gX12 g aT zT]) X V (c_X12_turnOf l D g (((zT.2.2.1 51) v5.toNatClampNeg)).toInt64 (((zT.2.2.1 52) v5.toNatClampNeg)).toInt64 (((zT.2.2.1 51) k39_0.toNatClampNeg)).toInt64 (((zT.2.2.1 52) k39_0.toNatClampNeg)).toInt64 v1 v3 x9 hx9) w_X12_403 ⟨Nat.le_of_ble_eq_true rfl, Nat.le_of_ble_eq_true rfl⟩ ⟨Nat.zero_le _, Nat.zero_le _⟩ rfl [] rfl rfl (kFst_refl _) rfl rfl hl.1 (Nat.le_of_ble_eq_true rfl) dX12_isInOther_75 (fun H locs V => ?_)
      refine lv_lconst (v := (0 : Int64)) X.1 X.2.1 dX12_isInOther_78 (by decide) ?_
      refine W.lcmp X.1 X.2.1 dX12_isInOther_79 ?_
      refine lv_if_ge (tgt := 85) X.1 X.2.1 dX12_isInOther_80 (by decide) (fun hc => ?_) (fun hc => ?_)
      · replace h := kif_t hc h
        obtain ⟨y10, ey10⟩ : ∃ y : Int32, y = (v5 + (1 : Int32)) := ⟨_, rfl⟩
        replace h := kl_of ey10 h
        refine lv_iinc (v := y10) (lv' := [(5, .int y10), (6, .int k39_0), (0, .ref (aT 0)), (1, .long v1), (3, .long v3)]) X.1 X.2.1 dX12_isInOther_85 hl (k := 4) rfl (by rw [ey10]; rfl) (by decide) rfl (fun ls hl => ?_)
        refine lv_goto (tgt := 3) X.1 X.2.1 dX12_isInOther_88 (by decide) ?_
        obtain rfl := Option.some.inj h
        exact hG8 _ _ _ V (lv_sub hl [2, 3, 4, 0] rfl)
      · replace h := kif_f hc h
        obtain rfl := Option.some.inj h
        exact hG8 _ _ _ V (lv_sub hl [1, 2, 3, 4] rfl)
    refine lv_iload X.1 X.2.1 dX12_isInOther_3 (lv_at hl 3 rfl) ?_
    refine lv_aload_n X.1 X.2.1 dX12_isInOther_5 rfl (lv_at hl 0 rfl) ?_
    refine gf_X12_415 (i := 0) X V rfl dX12_isInOther_6 ?_
    refine lv_icmp_ge (tgt := 91) X.1 X.2.1 dX12_isInOther_9 (by decide) (fun hc => ?_) (fun hc => ?_)
    · replace h := kif_t hc h
      obtain rfl := Option.some.inj h
      exact hG8 _ _ _ V (lv_sub hl [0, 1, 2, 3] rfl)
    · replace h := kif_f hc h
      refine lv_aload_n X.1 X.2.1 dX12_isInOther_12 rfl (lv_at hl 0 rfl) ?_
      refine gf_X12_415 (i := 0) X V rfl dX12_isInOther_13 ?_
      refine lv_iconst (v := (2 : Int32)) X.1 X.2.1 dX12_isInOther_16 (by decide) ?_
      refine lv_icmp_le (tgt := 91) X.1 X.2.1 dX12_isInOther_17 (by decide) (fun hc => ?_) (fun hc => ?_)
      · replace h := kif_t hc h
        obtain rfl := Option.some.inj h
        exact hG8 _ _ _ V (lv_sub hl [0, 1, 2, 3] rfl)
      · replace h := kif_f hc h
        refine lv_iload X.1 X.2.1 dX12_isInOther_20 (lv_at hl 3 rfl) ?_
        refine lv_iconst (v := (1 : Int32)) X.1 X.2.1 dX12_isInOther_22 (by decide) ?_
        refine lv_iadd X.1 X.2.1 dX12_isInOther_23 ?_
        refine lv_aload_n X.1 X.2.1 dX12_isInOther_24 rfl (lv_at hl 0 rfl) ?_
        refine gf_X12_415 (i := 0) X V rfl dX12_isInOther_25 ?_
        refine lv_icmp_ge (tgt := 38) X.1 X.2.1 dX12_isInOther_28 (by decide) (fun hc => ?_) (fun hc => ?_)
        · replace h := kif_t hc h
          refine lv_iconst (v := (0 : Int32)) X.1 X.2.1 dX12_isInOther_38 (by decide) ?_
          exact J39 s5 (0 : Int32) _ _ _ h V (lv_sub hl [0, 1, 2, 3] rfl)
        · replace h := kif_f hc h
          refine lv_iload X.1 X.2.1 dX12_isInOther_31 (lv_at hl 3 rfl) ?_
          refine lv_iconst (v := (1 : Int32)) X.1 X.2.1 dX12_isInOther_33 (by decide) ?_
          refine lv_iadd X.1 X.2.1 dX12_isInOther_34 ?_
          refine lv_goto (tgt := 39) X.1 X.2.1 dX12_isInOther_35 (by decide) ?_
          exact J39 s5 (s5 + (1 : Int32)) _ _ _ h V (lv_sub hl [0, 1, 2, 3] rfl)
  · intro H locs ls V hl
    have V : kW D AA s.heap H (List.flatten [gX12 g aT zT]) locs := V
    have hl : lv_has ls 7 [(0, .ref (aT 0)), (1, .long v1), (3, .long v3), (5, .int x4.2)] := hl
    by_cases hc : x4.1 = 83
    · replace h := kif_t hc h
      refine W.eq (g2 := F0 m 83 ls []) (by rw [hc]) ?_
      refine lv_iconst (v := (0 : Int32)) X.1 X.2.1 dX12_isInOther_83 (by decide) ?_
      obtain rfl := Option.some.inj h
      rw [hAA] at V
      rw [hQQ]
      exact k_zret X V (b := false) rfl rfl dX12_isInOther_84
    · replace h := kif_f hc h
      obtain ⟨hc, h⟩ := kg_of h
      refine W.eq (g2 := F0 m 91 ls []) (by rw [hc]) ?_
      exact J91  _ _ _ h V (lv_sub hl [0] rfl)

def p_X12_meets_L20 (v1 : Int32) (v2 : Int32) (s : Int32 × tX12) : Option (Nat × (Int32 × tX12)) :=
  kif ((s.2.1 37) ≤ s.1) (some (68, (s.1, s.2))) (kg (kii s.1 42) (kg (kii ((s.2.2.2.1 35) s.1.toNatClampNeg) 41) (kg (kii s.1 42) (kl (s.2.1, s.2.2.1, va_up s.2.2.2.1 51 (upd (s.2.2.2.1 51) (s.1).toNatClampNeg ((s.2.2.2.1 12) (((s.2.2.2.1 35) s.1.toNatClampNeg)).toNatClampNeg)), s.2.2.2.2) (fun z3 => kg (kii s.1 42) (kg (kii ((z3.2.2.1 35) s.1.toNatClampNeg) 41) (kg (kii s.1 42) (kl (z3.1, z3.2.1, va_up z3.2.2.1 52 (upd (z3.2.2.1 52) (s.1).toNatClampNeg ((z3.2.2.1 13) (((z3.2.2.1 35) s.1.toNatClampNeg)).toNatClampNeg)), z3.2.2.2) (fun z4 => kl (s.1 + (1 : Int32)) (fun y5 => some (20, (y5, z4))))))))))))
def p_X12_meets_L164 (v1 : Int32) (v2 : Int32) (zT : tX12) (v3 : Int32) (v4 : Int32) (s : Int32) : Option (Nat × (Int32)) :=
  kif ((zT.1 37) ≤ s) (some (271, s)) (kg (kii s 42) (kl ((zT.2.2.1 35) s.toNatClampNeg) (fun y10 => kb (p_X12_after zT s) (fun x11 => kg (kii x11 42) (kl ((zT.2.2.1 35) x11.toNatClampNeg) (fun y12 => kg (kii v3 42) (kg (kii v3 42) (kg (kii v4 42) (kg (kii v4 42) (kg (kii y10 41) (kg (kii y10 41) (kg (kii y12 41) (kg (kii y12 41) (kb (p_X12_doCross (((zT.2.2.1 51) v3.toNatClampNeg)).toInt64 (((zT.2.2.1 52) v3.toNatClampNeg)).toInt64 (((zT.2.2.1 51) v4.toNatClampNeg)).toInt64 (((zT.2.2.1 52) v4.toNatClampNeg)).toInt64 (((zT.2.2.1 12) y10.toNatClampNeg)).toInt64 (((zT.2.2.1 13) y10.toNatClampNeg)).toInt64 (((zT.2.2.1 12) y12.toNatClampNeg)).toInt64 (((zT.2.2.1 13) y12.toNatClampNeg)).toInt64) (fun x13 => kif ((kz x13) = 0) (kl (s + (1 : Int32)) (fun y14 => some (164, y14))) (some (263, s)))))))))))))))))
def p_X12_meets_J159_134 (v1 : Int32) (v2 : Int32) (zT : tX12) (v3 : Int32) (k159_0 : Int32) : Option (Nat × (Int32)) :=
  kb (kitr 164 (fun q => p_X12_meets_L164 v1 v2 zT v3 k159_0 q) kF (0 : Int32)) (fun x15 => kif (x15.1 = 263) (some (263, v3)) (kg (x15.1 = 271) (kl (v3 + (1 : Int32)) (fun y16 => some (134, y16)))))
def p_X12_meets_L134 (v1 : Int32) (v2 : Int32) (zT : tX12) (s : Int32) : Option (Nat × (Int32)) :=
  kif ((zT.1 53) ≤ s) (some (277, s)) (kif ((zT.1 53) ≤ (s + (1 : Int32))) (p_X12_meets_J159_134 v1 v2 zT s (0 : Int32)) (p_X12_meets_J159_134 v1 v2 zT s (s + (1 : Int32))))
def p_X12_meets (zT : tX12) (v1 : Int32) (v2 : Int32) : Option (Int32 × tX12) :=
  kb (p_X12_hasHull zT v1) (fun x1 => kif ((kz x1.1) = 0) (some ((-1 : Int32), x1.2)) (kl (va_up x1.2.1 53 (x1.2.1 37), x1.2.2) (fun z2 => kb (kitr 20 (fun q => p_X12_meets_L20 v1 v2 q) kF ((0 : Int32), z2)) (fun x6 => kg (x6.1 = 68) (kb (p_X12_hasHull x6.2.2 v2) (fun x7 => kif ((kz x7.1) = 0) (some ((-1 : Int32), x7.2)) (kg (kii (0 : Int32) 42) (kg (kii (0 : Int32) 42) (kb (p_X12_isWithin x7.2 (((x7.2.2.2.1 51) (0 : Int32).toNatClampNeg)).toInt64 (((x7.2.2.2.1 52) (0 : Int32).toNatClampNeg)).toInt64) (fun x8 => kif ((kz x8) = 0) (kg (kii (0 : Int32) 42) (kg (kii ((x7.2.2.2.1 35) (0 : Int32).toNatClampNeg) 41) (kg (kii (0 : Int32) 42) (kg (kii ((x7.2.2.2.1 35) (0 : Int32).toNatClampNeg) 41) (kb (p_X12_isInOther x7.2 (((x7.2.2.2.1 12) (((x7.2.2.2.1 35) (0 : Int32).toNatClampNeg)).toNatClampNeg)).toInt64 (((x7.2.2.2.1 13) (((x7.2.2.2.1 35) (0 : Int32).toNatClampNeg)).toNatClampNeg)).toInt64) (fun x9 => kif ((kz x9) = 0) (kb (kitr 134 (fun q => p_X12_meets_L134 v1 v2 x7.2 q) kF (0 : Int32)) (fun x17 => kif (x17.1 = 263) (some ((1 : Int32), x7.2)) (kg (x17.1 = 277) (some ((0 : Int32), x7.2))))) (some ((1 : Int32), x7.2)))))))) (some ((1 : Int32), x7.2))))))))))))
set_option maxHeartbeats 4000000 in
set_option maxRecDepth 100000 in
theorem c_X12_meets (l : Launch) (D : va_G) (g : kG) (aT : Nat → Nat) (zT : tX12) (v1 : Int32) (v2 : Int32) (r : Int32 × tX12) (h : p_X12_meets zT v1 v2 = some r) : kMi l yX12_meets cX12_meets 8 (some .int) (kR 4 105) D (kty g) [.ref (aT 0), .int v1, .int v2] (List.flatten [gX12 g aT zT]) r.1 (List.flatten [gX12 g aT r.2]) := by
  intro sz
  refine k_enter (lv := [(0, .ref (aT 0)), (1, .int v1), (2, .int v2)]) RX12 (by decide +kernel) rfl rfl (Nat.le_of_ble_eq_true rfl) ?_
  intro p en s m args below meth c ls hsz X V hl
  obtain ⟨QQ, hQQ⟩ : ∃ q, q = MQ below (va_Qi (fun r' (_ : Unit) => r' = r.1) (fun _ => kE D (List.flatten [gX12 g aT r.2])) (va_A (List.flatten [gX12 g aT zT]) sz)) args s 0 0 (va_A (List.flatten [gX12 g aT zT]) sz) := ⟨_, rfl⟩
  rw [← hQQ]
  obtain ⟨AA, hAA⟩ : ∃ q, q = va_A (List.flatten [gX12 g aT zT]) sz := ⟨_, rfl⟩
  rw [← hAA] at V
  unfold p_X12_meets at h
  refine lv_aload_n X.1 X.2.1 dX12_meets_0 rfl (lv_at hl 0 rfl) ?_
  refine lv_iload_n X.1 X.2.1 dX12_meets_1 rfl (lv_at hl 1 rfl) ?_
  obtain ⟨x18, hx18, h⟩ := kb_of h
  refine s_callVi (segs' := [gX12 g aT x18.2]) (ci := 12) (i0 := 0) X V (c_X12_hasHull l D g aT zT v1 x18 hx18) w_X12_326 ⟨Nat.le_of_ble_eq_true rfl, Nat.le_of_ble_eq_true rfl⟩ ⟨Nat.zero_le _, Nat.zero_le _⟩ rfl rfl rfl rfl [0] rfl rfl ⟨gX12_fst, trivial⟩ rfl rfl hl.1 (Nat.le_of_ble_eq_true rfl) dX12_meets_2 (fun H locs V => ?_)
  refine lv_if_ne (tgt := 10) X.1 X.2.1 dX12_meets_5 (by decide) (fun hc => ?_) (fun hc => ?_)
  · replace h := kif_f hc h
    refine lv_aload_n X.1 X.2.1 dX12_meets_10 rfl (lv_at hl 0 rfl) ?_
    refine lv_aload_n X.1 X.2.1 dX12_meets_11 rfl (lv_at hl 0 rfl) ?_
    refine gf_X12_320 (i := 0) X V rfl dX12_meets_12 ?_
    refine pf_X12_415 (i := 0) X V rfl dX12_meets_15 (fun H locs V => ?_)
    obtain ⟨z19, ez19⟩ : ∃ y, y = (va_up x18.2.1 53 (x18.2.1 37), x18.2.2) := ⟨_, rfl⟩
    replace h := kl_of ez19 h
    have V : kW D AA s.heap H (List.flatten [gX12 g aT z19]) locs := by rw [ez19]; exact V
    refine lv_iconst (v := (0 : Int32)) X.1 X.2.1 dX12_meets_18 (by decide) ?_
    refine lv_istore_n (lv' := [(3, .int (0 : Int32)), (0, .ref (aT 0)), (1, .int v1), (2, .int v2)]) X.1 X.2.1 dX12_meets_19 rfl hl (by decide) rfl (fun ls hl => ?_)
    obtain ⟨x20, hx20, h⟩ := kb_of h
    refine (kitr_go (hd := 20) (body := fun q => p_X12_meets_L20 v1 v2 q) (G := (fun e => ∀ (H : Heap) (locs : List Loc) (ls : Array Slot), kW D AA s.heap H (List.flatten [gX12 g aT e.2.2]) locs → lv_has ls 8 [(0, .ref (aT 0)), (2, .int v2), (3, .int e.2.1)] → W p l en (kR 4 105) s m args below meth c H locs 0 0 QQ (F0 m e.1 ls []))) (fun s21 e22 hb23 hG24 => ?_) kF _ x20 hx20 ?_) _ _ _ V (lv_sub hl [1, 3, 0] rfl)
    · intro H locs ls V hl
      show W p l en (kR 4 105) s m args below meth c H locs 0 0 QQ (F0 m 20 ls [])
      have h : p_X12_meets_L20 v1 v2 s21 = some e22 := hb23
      unfold p_X12_meets_L20 at h
      have V : kW D AA s.heap H (List.flatten [gX12 g aT s21.2]) locs := V
      have hl : lv_has ls 8 [(0, .ref (aT 0)), (2, .int v2), (3, .int s21.1)] := hl
      refine lv_iload_n X.1 X.2.1 dX12_meets_20 rfl (lv_at hl 2 rfl) ?_
      refine lv_aload_n X.1 X.2.1 dX12_meets_21 rfl (lv_at hl 0 rfl) ?_
      refine gf_X12_320 (i := 0) X V rfl dX12_meets_22 ?_
      refine lv_icmp_ge (tgt := 68) X.1 X.2.1 dX12_meets_25 (by decide) (fun hc => ?_) (fun hc => ?_)
      · replace h := kif_t hc h
        obtain rfl := Option.some.inj h
        exact hG24 _ _ _ V (lv_sub hl [0, 1, 2] rfl)
      · replace h := kif_f hc h
        refine lv_aload_n X.1 X.2.1 dX12_meets_28 rfl (lv_at hl 0 rfl) ?_
        refine gf_X12_64 (i := 0) X V rfl dX12_meets_29 ?_
        refine lv_iload_n X.1 X.2.1 dX12_meets_32 rfl (lv_at hl 2 rfl) ?_
        refine lv_aload_n X.1 X.2.1 dX12_meets_33 rfl (lv_at hl 0 rfl) ?_
        refine gf_X12_33 (i := 0) X V rfl dX12_meets_34 ?_
        refine lv_aload_n X.1 X.2.1 dX12_meets_37 rfl (lv_at hl 0 rfl) ?_
        refine gf_X12_54 (i := 0) X V rfl dX12_meets_38 ?_
        refine lv_iload_n X.1 X.2.1 dX12_meets_41 rfl (lv_at hl 2 rfl) ?_
        obtain ⟨hc, h⟩ := kg_of h
        refine al_X12_35 (i := 0) X V rfl hc dX12_meets_42 ?_
        obtain ⟨hc, h⟩ := kg_of h
        refine al_X12_12 (i := 0) X V rfl hc dX12_meets_43 ?_
        obtain ⟨hc, h⟩ := kg_of h
        refine as_X12_51 (i := 0) X V rfl hc dX12_meets_44 (fun H locs V => ?_)
        obtain ⟨z25, ez25⟩ : ∃ y, y = (s21.2.1, s21.2.2.1, va_up s21.2.2.2.1 51 (upd (s21.2.2.2.1 51) (s21.1).toNatClampNeg ((s21.2.2.2.1 12) (((s21.2.2.2.1 35) s21.1.toNatClampNeg)).toNatClampNeg)), s21.2.2.2.2) := ⟨_, rfl⟩
        replace h := kl_of ez25 h
        have V : kW D AA s.heap H (List.flatten [gX12 g aT z25]) locs := by rw [ez25]; exact V
        refine lv_aload_n X.1 X.2.1 dX12_meets_45 rfl (lv_at hl 0 rfl) ?_
        refine gf_X12_67 (i := 0) X V rfl dX12_meets_46 ?_
        refine lv_iload_n X.1 X.2.1 dX12_meets_49 rfl (lv_at hl 2 rfl) ?_
        refine lv_aload_n X.1 X.2.1 dX12_meets_50 rfl (lv_at hl 0 rfl) ?_
        refine gf_X12_36 (i := 0) X V rfl dX12_meets_51 ?_
        refine lv_aload_n X.1 X.2.1 dX12_meets_54 rfl (lv_at hl 0 rfl) ?_
        refine gf_X12_54 (i := 0) X V rfl dX12_meets_55 ?_
        refine lv_iload_n X.1 X.2.1 dX12_meets_58 rfl (lv_at hl 2 rfl) ?_
        obtain ⟨hc, h⟩ := kg_of h
        refine al_X12_35 (i := 0) X V rfl hc dX12_meets_59 ?_
        obtain ⟨hc, h⟩ := kg_of h
        refine al_X12_13 (i := 0) X V rfl hc dX12_meets_60 ?_
        obtain ⟨hc, h⟩ := kg_of h
        refine as_X12_52 (i := 0) X V rfl hc dX12_meets_61 (fun H locs V => ?_)
        obtain ⟨z26, ez26⟩ : ∃ y, y = (z25.1, z25.2.1, va_up z25.2.2.1 52 (upd (z25.2.2.1 52) (s21.1).toNatClampNeg ((z25.2.2.1 13) (((z25.2.2.1 35) s21.1.toNatClampNeg)).toNatClampNeg)), z25.2.2.2) := ⟨_, rfl⟩
        replace h := kl_of ez26 h
        have V : kW D AA s.heap H (List.flatten [gX12 g aT z26]) locs := by rw [ez26]; exact V
        obtain ⟨y27, ey27⟩ : ∃ y : Int32, y = (s21.1 + (1 : Int32)) := ⟨_, rfl⟩
        replace h := kl_of ey27 h
        refine lv_iinc (v := y27) (lv' := [(3, .int y27), (0, .ref (aT 0)), (2, .int v2)]) X.1 X.2.1 dX12_meets_62 hl (k := 2) rfl (by rw [ey27]; rfl) (by decide) rfl (fun ls hl => ?_)
        refine lv_goto (tgt := 20) X.1 X.2.1 dX12_meets_65 (by decide) ?_
        obtain rfl := Option.some.inj h
        exact hG24 _ _ _ V (lv_sub hl [1, 2, 0] rfl)
    · intro H locs ls V hl
      have V : kW D AA s.heap H (List.flatten [gX12 g aT x20.2.2]) locs := V
      have hl : lv_has ls 8 [(0, .ref (aT 0)), (2, .int v2), (3, .int x20.2.1)] := hl
      obtain ⟨hc, h⟩ := kg_of h
      refine W.eq (g2 := F0 m 68 ls []) (by rw [hc]) ?_
      refine lv_aload_n X.1 X.2.1 dX12_meets_68 rfl (lv_at hl 0 rfl) ?_
      refine lv_iload_n X.1 X.2.1 dX12_meets_69 rfl (lv_at hl 1 rfl) ?_
      obtain ⟨x28, hx28, h⟩ := kb_of h
      refine s_callVi (segs' := [gX12 g aT x28.2]) (ci := 12) (i0 := 0) X V (c_X12_hasHull l D g aT x20.2.2 v2 x28 hx28) w_X12_326 ⟨Nat.le_of_ble_eq_true rfl, Nat.le_of_ble_eq_true rfl⟩ ⟨Nat.zero_le _, Nat.zero_le _⟩ rfl rfl rfl rfl [0] rfl rfl ⟨gX12_fst, trivial⟩ rfl rfl hl.1 (Nat.le_of_ble_eq_true rfl) dX12_meets_70 (fun H locs V => ?_)
      refine lv_if_ne (tgt := 78) X.1 X.2.1 dX12_meets_73 (by decide) (fun hc => ?_) (fun hc => ?_)
      · replace h := kif_f hc h
        refine lv_aload_n X.1 X.2.1 dX12_meets_78 rfl (lv_at hl 0 rfl) ?_
        refine lv_aload_n X.1 X.2.1 dX12_meets_79 rfl (lv_at hl 0 rfl) ?_
        refine gf_X12_64 (i := 0) X V rfl dX12_meets_80 ?_
        refine lv_iconst (v := (0 : Int32)) X.1 X.2.1 dX12_meets_83 (by decide) ?_
        obtain ⟨hc, h⟩ := kg_of h
        refine al_X12_51 (i := 0) X V rfl hc dX12_meets_84 ?_
        refine lv_i2l X.1 X.2.1 dX12_meets_85 rfl ?_
        refine lv_aload_n X.1 X.2.1 dX12_meets_86 rfl (lv_at hl 0 rfl) ?_
        refine gf_X12_67 (i := 0) X V rfl dX12_meets_87 ?_
        refine lv_iconst (v := (0 : Int32)) X.1 X.2.1 dX12_meets_90 (by decide) ?_
        obtain ⟨hc, h⟩ := kg_of h
        refine al_X12_52 (i := 0) X V rfl hc dX12_meets_91 ?_
        refine lv_i2l X.1 X.2.1 dX12_meets_92 rfl ?_
        obtain ⟨x29, hx29, h⟩ := kb_of h
        refine s_callVi (segs' := [gX12 g aT x28.2]) (ci := 12) (i0 := 0) X V (c_X12_isWithin l D g aT x28.2 (((x28.2.2.2.1 51) (0 : Int32).toNatClampNeg)).toInt64 (((x28.2.2.2.1 52) (0 : Int32).toNatClampNeg)).toInt64 x29 hx29) w_X12_418 ⟨Nat.le_of_ble_eq_true rfl, Nat.le_of_ble_eq_true rfl⟩ ⟨Nat.zero_le _, Nat.zero_le _⟩ rfl rfl rfl rfl [0] rfl rfl (kFst_refl _) rfl rfl hl.1 (Nat.le_of_ble_eq_true rfl) dX12_meets_93 (fun H locs V => ?_)
        refine lv_if_ne (tgt := 130) X.1 X.2.1 dX12_meets_96 (by decide) (fun hc => ?_) (fun hc => ?_)
        · replace h := kif_f hc h
          refine lv_iconst (v := (1 : Int32)) X.1 X.2.1 dX12_meets_130 (by decide) ?_
          obtain rfl := Option.some.inj h
          rw [hAA] at V
          rw [hQQ]
          exact k_iret X V rfl dX12_meets_131
        · replace h := kif_t hc h
          refine lv_aload_n X.1 X.2.1 dX12_meets_99 rfl (lv_at hl 0 rfl) ?_
          refine lv_aload_n X.1 X.2.1 dX12_meets_100 rfl (lv_at hl 0 rfl) ?_
          refine gf_X12_33 (i := 0) X V rfl dX12_meets_101 ?_
          refine lv_aload_n X.1 X.2.1 dX12_meets_104 rfl (lv_at hl 0 rfl) ?_
          refine gf_X12_54 (i := 0) X V rfl dX12_meets_105 ?_
          refine lv_iconst (v := (0 : Int32)) X.1 X.2.1 dX12_meets_108 (by decide) ?_
          obtain ⟨hc, h⟩ := kg_of h
          refine al_X12_35 (i := 0) X V rfl hc dX12_meets_109 ?_
          obtain ⟨hc, h⟩ := kg_of h
          refine al_X12_12 (i := 0) X V rfl hc dX12_meets_110 ?_
          refine lv_i2l X.1 X.2.1 dX12_meets_111 rfl ?_
          refine lv_aload_n X.1 X.2.1 dX12_meets_112 rfl (lv_at hl 0 rfl) ?_
          refine gf_X12_36 (i := 0) X V rfl dX12_meets_113 ?_
          refine lv_aload_n X.1 X.2.1 dX12_meets_116 rfl (lv_at hl 0 rfl) ?_
          refine gf_X12_54 (i := 0) X V rfl dX12_meets_117 ?_
          refine lv_iconst (v := (0 : Int32)) X.1 X.2.1 dX12_meets_120 (by decide) ?_
          obtain ⟨hc, h⟩ := kg_of h
          refine al_X12_35 (i := 0) X V rfl hc dX12_meets_121 ?_
          obtain ⟨hc, h⟩ := kg_of h
          refine al_X12_13 (i := 0) X V rfl hc dX12_meets_122 ?_
          refine lv_i2l X.1 X.2.1 dX12_meets_123 rfl ?_
          obtain ⟨x30, hx30, h⟩ := kb_of h
          refine s_callVi (segs' := [gX12 g aT x28.2]) (ci := 12) (i0 := 0) X V (c_X12_isInOther l D g aT x28.2 (((x28.2.2.2.1 12) (((x28.2.2.2.1 35) (0 : Int32).toNatClampNeg)).toNatClampNeg)).toInt64 (((x28.2.2.2.1 13) (((x28.2.2.2.1 35) (0 : Int32).toNatClampNeg)).toNatClampNeg)).toInt64 x30 hx30) w_X12_422 ⟨Nat.le_of_ble_eq_true rfl, Nat.le_of_ble_eq_true rfl⟩ ⟨Nat.zero_le _, Nat.zero_le _⟩ rfl rfl rfl rfl [0] rfl rfl (kFst_refl _) rfl rfl hl.1 (Nat.le_of_ble_eq_true rfl) dX12_meets_124 (fun H locs V => ?_)
          refine lv_if_eq (tgt := 132) X.1 X.2.1 dX12_meets_127 (by decide) (fun hc => ?_) (fun hc => ?_)
          · replace h := kif_t hc h
            refine lv_iconst (v := (0 : Int32)) X.1 X.2.1 dX12_meets_132 (by decide) ?_
            refine lv_istore_n (lv' := [(3, .int (0 : Int32)), (0, .ref (aT 0)), (2, .int v2)]) X.1 X.2.1 dX12_meets_133 rfl hl (by decide) rfl (fun ls hl => ?_)
            obtain ⟨x31, hx31, h⟩ := kb_of h
            refine (kitr_go (hd := 134) (body := fun q => p_X12_meets_L134 v1 v2 x28.2 q) (G := (fun e => ∀ (H : Heap) (locs : List Loc) (ls : Array Slot), kW D AA s.heap H (List.flatten [gX12 g aT x28.2]) locs → lv_has ls 8 [(0, .ref (aT 0)), (3, .int e.2)] → W p l en (kR 4 105) s m args below meth c H locs 0 0 QQ (F0 m e.1 ls []))) (fun s32 e33 hb34 hG35 => ?_) kF _ x31 hx31 ?_) _ _ _ V (lv_sub hl [1, 0] rfl)
            · intro H locs ls V hl
              show W p l en (kR 4 105) s m args below meth c H locs 0 0 QQ (F0 m 134 ls [])
              have h : p_X12_meets_L134 v1 v2 x28.2 s32 = some e33 := hb34
              unfold p_X12_meets_L134 at h
              have V : kW D AA s.heap H (List.flatten [gX12 g aT x28.2]) locs := V
              have hl : lv_has ls 8 [(0, .ref (aT 0)), (3, .int s32)] := hl
              have J159 : ∀ (v3 : Int32) (k159_0 : Int32) (H : Heap) (locs : List Loc) (ls : Array Slot), p_X12_meets_J159_134 v1 v2 x28.2 v3 k159_0 = some e33 → kW D AA s.heap H (List.flatten [gX12 g aT x28.2]) locs → lv_has ls 8 [(0, .ref (aT 0)), (3, .int v3)] → W p l en (kR 4 105) s m args below meth c H locs 0 0 QQ (F0 m 159 ls [.int k159_0]) := by
                intro v3 k159_0 H locs ls h V hl
                unfold p_X12_meets_J159_134 at h
                refine lv_istore (lv' := [(4, .int k159_0), (0, .ref (aT 0)), (3, .int v3)]) X.1 X.2.1 dX12_meets_159 hl (by decide) rfl (fun ls hl => ?_)
                refine lv_iconst (v := (0 : Int32)) X.1 X.2.1 dX12_meets_161 (by decide) ?_
                refine lv_istore (lv' := [(5, .int (0 : Int32)), (4, .int k159_0), (0, .ref (aT 0)), (3, .int v3)]) X.1 X.2.1 dX12_meets_162 hl (by decide) rfl (fun ls hl => ?_)
                obtain ⟨x36, hx36, h⟩ := kb_of h
                refine (kitr_go (hd := 164) (body := fun q => p_X12_meets_L164 v1 v2 x28.2 v3 k159_0 q) (G := (fun e => ∀ (H : Heap) (locs : List Loc) (ls : Array Slot), kW D AA s.heap H (List.flatten [gX12 g aT x28.2]) locs → lv_has ls 8 [(0, .ref (aT 0)), (3, .int v3), (4, .int k159_0), (5, .int e.2)] → W p l en (kR 4 105) s m args below meth c H locs 0 0 QQ (F0 m e.1 ls []))) (fun s37 e38 hb39 hG40 => ?_) kF _ x36 hx36 ?_) _ _ _ V (lv_sub hl [2, 3, 1, 0] rfl)
                · intro H locs ls V hl
                  show W p l en (kR 4 105) s m args below meth c H locs 0 0 QQ (F0 m 164 ls [])
                  have h : p_X12_meets_L164 v1 v2 x28.2 v3 k159_0 s37 = some e38 := hb39
                  unfold p_X12_meets_L164 at h
                  have V : kW D AA s.heap H (List.flatten [gX12 g aT x28.2]) locs := V
                  have hl : lv_has ls 8 [(0, .ref (aT 0)), (3, .int v3), (4, .int k159_0), (5, .int s37)] := hl
                  refine lv_iload X.1 X.2.1 dX12_meets_164 (lv_at hl 3 rfl) ?_
                  refine lv_aload_n X.1 X.2.1 dX12_meets_166 rfl (lv_at hl 0 rfl) ?_
                  refine gf_X12_320 (i := 0) X V rfl dX12_meets_167 ?_
                  refine lv_icmp_ge (tgt := 271) X.1 X.2.1 dX12_meets_170 (by decide) (fun hc => ?_) (fun hc => ?_)
                  · replace h := kif_t hc h
                    obtain rfl := Option.some.inj h
                    exact hG40 _ _ _ V (lv_sub hl [0, 1, 2, 3] rfl)
                  · replace h := kif_f hc h
                    refine lv_aload_n X.1 X.2.1 dX12_meets_173 rfl (lv_at hl 0 rfl) ?_
                    refine gf_X12_54 (i := 0) X V rfl dX12_meets_174 ?_
                    refine lv_iload X.1 X.2.1 dX12_meets_177 (lv_at hl 3 rfl) ?_
                    obtain ⟨hc, h⟩ := kg_of h
                    refine al_X12_35 (i := 0) X V rfl hc dX12_meets_179 ?_
                    refine lv_topi (fun y41 ey41 => ?_)
                    replace h := kl_of ey41 h
                    refine lv_istore (lv' := [(6, .int y41), (0, .ref (aT 0)), (3, .int v3), (4, .int k159_0), (5, .int s37)]) X.1 X.2.1 dX12_meets_180 hl (by decide) rfl (fun ls hl => ?_)
                    refine lv_aload_n X.1 X.2.1 dX12_meets_182 rfl (lv_at hl 1 rfl) ?_
                    refine gf_X12_54 (i := 0) X V rfl dX12_meets_183 ?_
                    refine lv_aload_n X.1 X.2.1 dX12_meets_186 rfl (lv_at hl 1 rfl) ?_
                    refine lv_iload X.1 X.2.1 dX12_meets_187 (lv_at hl 4 rfl) ?_
                    obtain ⟨x42, hx42, h⟩ := kb_of h
                    refine s_callVi (segs' := [gX12 g aT x28.2]) (ci := 12) (i0 := 0) X V (c_X12_after l D g aT x28.2 s37 x42 hx42) w_X12_332 ⟨Nat.le_of_ble_eq_true rfl, Nat.le_of_ble_eq_true rfl⟩ ⟨Nat.zero_le _, Nat.zero_le _⟩ rfl rfl rfl rfl [0] rfl rfl (kFst_refl _) rfl rfl hl.1 (Nat.le_of_ble_eq_true rfl) dX12_meets_189 (fun H locs V => ?_)
                    obtain ⟨hc, h⟩ := kg_of h
                    refine al_X12_35 (i := 0) X V rfl hc dX12_meets_192 ?_
                    refine lv_topi (fun y43 ey43 => ?_)
                    replace h := kl_of ey43 h
                    refine lv_istore (lv' := [(7, .int y43), (6, .int y41), (0, .ref (aT 0)), (3, .int v3), (4, .int k159_0), (5, .int s37)]) X.1 X.2.1 dX12_meets_193 hl (by decide) rfl (fun ls hl => ?_)
                    refine lv_aload_n X.1 X.2.1 dX12_meets_195 rfl (lv_at hl 2 rfl) ?_
                    refine gf_X12_64 (i := 0) X V rfl dX12_meets_196 ?_
                    refine lv_iload_n X.1 X.2.1 dX12_meets_199 rfl (lv_at hl 3 rfl) ?_
                    obtain ⟨hc, h⟩ := kg_of h
                    refine al_X12_51 (i := 0) X V rfl hc dX12_meets_200 ?_
                    refine lv_i2l X.1 X.2.1 dX12_meets_201 rfl ?_
                    refine lv_aload_n X.1 X.2.1 dX12_meets_202 rfl (lv_at hl 2 rfl) ?_
                    refine gf_X12_67 (i := 0) X V rfl dX12_meets_203 ?_
                    refine lv_iload_n X.1 X.2.1 dX12_meets_206 rfl (lv_at hl 3 rfl) ?_
                    obtain ⟨hc, h⟩ := kg_of h
                    refine al_X12_52 (i := 0) X V rfl hc dX12_meets_207 ?_
                    refine lv_i2l X.1 X.2.1 dX12_meets_208 rfl ?_
                    refine lv_aload_n X.1 X.2.1 dX12_meets_209 rfl (lv_at hl 2 rfl) ?_
                    refine gf_X12_64 (i := 0) X V rfl dX12_meets_210 ?_
                    refine lv_iload X.1 X.2.1 dX12_meets_213 (lv_at hl 4 rfl) ?_
                    obtain ⟨hc, h⟩ := kg_of h
                    refine al_X12_51 (i := 0) X V rfl hc dX12_meets_215 ?_
                    refine lv_i2l X.1 X.2.1 dX12_meets_216 rfl ?_
                    refine lv_aload_n X.1 X.2.1 dX12_meets_217 rfl (lv_at hl 2 rfl) ?_
                    refine gf_X12_67 (i := 0) X V rfl dX12_meets_218 ?_
                    refine lv_iload X.1 X.2.1 dX12_meets_221 (lv_at hl 4 rfl) ?_
                    obtain ⟨hc, h⟩ := kg_of h
                    refine al_X12_52 (i := 0) X V rfl hc dX12_meets_223 ?_
                    refine lv_i2l X.1 X.2.1 dX12_meets_224 rfl ?_
                    refine lv_aload_n X.1 X.2.1 dX12_meets_225 rfl (lv_at hl 2 rfl) ?_
                    refine gf_X12_33 (i := 0) X V rfl dX12_meets_226 ?_
                    refine lv_iload X.1 X.2.1 dX12_meets_229 (lv_at hl 1 rfl) ?_
                    obtain ⟨hc, h⟩ := kg_of h
                    refine al_X12_12 (i := 0) X V rfl hc dX12_meets_231 ?_
                    refine lv_i2l X.1 X.2.1 dX12_meets_232 rfl ?_
                    refine lv_aload_n X.1 X.2.1 dX12_meets_233 rfl (lv_at hl 2 rfl) ?_
                    refine gf_X12_36 (i := 0) X V rfl dX12_meets_234 ?_
                    refine lv_iload X.1 X.2.1 dX12_meets_237 (lv_at hl 1 rfl) ?_
                    obtain ⟨hc, h⟩ := kg_of h
                    refine al_X12_13 (i := 0) X V rfl hc dX12_meets_239 ?_
                    refine lv_i2l X.1 X.2.1 dX12_meets_240 rfl ?_
                    refine lv_aload_n X.1 X.2.1 dX12_meets_241 rfl (lv_at hl 2 rfl) ?_
                    refine gf_X12_33 (i := 0) X V rfl dX12_meets_242 ?_
                    refine lv_iload X.1 X.2.1 dX12_meets_245 (lv_at hl 0 rfl) ?_
                    obtain ⟨hc, h⟩ := kg_of h
                    refine al_X12_12 (i := 0) X V rfl hc dX12_meets_247 ?_
                    refine lv_i2l X.1 X.2.1 dX12_meets_248 rfl ?_
                    refine lv_aload_n X.1 X.2.1 dX12_meets_249 rfl (lv_at hl 2 rfl) ?_
                    refine gf_X12_36 (i := 0) X V rfl dX12_meets_250 ?_
                    refine lv_iload X.1 X.2.1 dX12_meets_253 (lv_at hl 0 rfl) ?_
                    obtain ⟨hc, h⟩ := kg_of h
                    refine al_X12_13 (i := 0) X V rfl hc dX12_meets_255 ?_
                    refine lv_i2l X.1 X.2.1 dX12_meets_256 rfl ?_
                    obtain ⟨x44, hx44, h⟩ := kb_of h
                    refine s_callSi (segs' := [gX12 g aT x28.2]) X V (c_X12_doCross l D g (((x28.2.2.2.1 51) v3.toNatClampNeg)).toInt64 (((x28.2.2.2.1 52) v3.toNatClampNeg)).toInt64 (((x28.2.2.2.1 51) k159_0.toNatClampNeg)).toInt64 (((x28.2.2.2.1 52) k159_0.toNatClampNeg)).toInt64 (((x28.2.2.2.1 12) y41.toNatClampNeg)).toInt64 (((x28.2.2.2.1 13) y41.toNatClampNeg)).toInt64 (((x28.2.2.2.1 12) y43.toNatClampNeg)).toInt64 (((x28.2.2.2.1 13) y43.toNatClampNeg)).toInt64 x44 hx44) w_X12_425 ⟨Nat.le_of_ble_eq_true rfl, Nat.le_of_ble_eq_true rfl⟩ ⟨Nat.zero_le _, Nat.zero_le _⟩ rfl [] rfl rfl (kFst_refl _) rfl rfl hl.1 (Nat.le_of_ble_eq_true rfl) dX12_meets_257 (fun H locs V => ?_)
                    refine lv_if_eq (tgt := 265) X.1 X.2.1 dX12_meets_260 (by decide) (fun hc => ?_) (fun hc => ?_)
                    · replace h := kif_t hc h
                      obtain ⟨y45, ey45⟩ : ∃ y : Int32, y = (s37 + (1 : Int32)) := ⟨_, rfl⟩
                      replace h := kl_of ey45 h
                      refine lv_iinc (v := y45) (lv' := [(5, .int y45), (7, .int y43), (6, .int y41), (0, .ref (aT 0)), (3, .int v3), (4, .int k159_0)]) X.1 X.2.1 dX12_meets_265 hl (k := 5) rfl (by rw [ey45]; rfl) (by decide) rfl (fun ls hl => ?_)
                      refine lv_goto (tgt := 164) X.1 X.2.1 dX12_meets_268 (by decide) ?_
                      obtain rfl := Option.some.inj h
                      exact hG40 _ _ _ V (lv_sub hl [3, 4, 5, 0] rfl)
                    · replace h := kif_f hc h
                      obtain rfl := Option.some.inj h
                      exact hG40 _ _ _ V (lv_sub hl [2, 3, 4, 5] rfl)
                · intro H locs ls V hl
                  have V : kW D AA s.heap H (List.flatten [gX12 g aT x28.2]) locs := V
                  have hl : lv_has ls 8 [(0, .ref (aT 0)), (3, .int v3), (4, .int k159_0), (5, .int x36.2)] := hl
                  by_cases hc : x36.1 = 263
                  · replace h := kif_t hc h
                    refine W.eq (g2 := F0 m 263 ls []) (by rw [hc]) ?_
                    obtain rfl := Option.some.inj h
                    exact hG35 _ _ _ V (lv_sub hl [0, 1] rfl)
                  · replace h := kif_f hc h
                    obtain ⟨hc, h⟩ := kg_of h
                    refine W.eq (g2 := F0 m 271 ls []) (by rw [hc]) ?_
                    obtain ⟨y46, ey46⟩ : ∃ y : Int32, y = (v3 + (1 : Int32)) := ⟨_, rfl⟩
                    replace h := kl_of ey46 h
                    refine lv_iinc (v := y46) (lv' := [(3, .int y46), (0, .ref (aT 0)), (4, .int k159_0), (5, .int x36.2)]) X.1 X.2.1 dX12_meets_271 hl (k := 1) rfl (by rw [ey46]; rfl) (by decide) rfl (fun ls hl => ?_)
                    refine lv_goto (tgt := 134) X.1 X.2.1 dX12_meets_274 (by decide) ?_
                    obtain rfl := Option.some.inj h
                    exact hG35 _ _ _ V (lv_sub hl [1, 0] rfl)
              refine lv_iload_n X.1 X.2.1 dX12_meets_134 rfl (lv_at hl 1 rfl) ?_
              refine lv_aload_n X.1 X.2.1 dX12_meets_135 rfl (lv_at hl 0 rfl) ?_
              refine gf_X12_415 (i := 0) X V rfl dX12_meets_136 ?_
              refine lv_icmp_ge (tgt := 277) X.1 X.2.1 dX12_meets_139 (by decide) (fun hc => ?_) (fun hc => ?_)
              · replace h := kif_t hc h
                obtain rfl := Option.some.inj h
                exact hG35 _ _ _ V (lv_sub hl [0, 1] rfl)
              · replace h := kif_f hc h
                refine lv_iload_n X.1 X.2.1 dX12_meets_142 rfl (lv_at hl 1 rfl) ?_
                refine lv_iconst (v := (1 : Int32)) X.1 X.2.1 dX12_meets_143 (by decide) ?_
                refine lv_iadd X.1 X.2.1 dX12_meets_144 ?_
                refine lv_aload_n X.1 X.2.1 dX12_meets_145 rfl (lv_at hl 0 rfl) ?_
                refine gf_X12_415 (i := 0) X V rfl dX12_meets_146 ?_
                refine lv_icmp_ge (tgt := 158) X.1 X.2.1 dX12_meets_149 (by decide) (fun hc => ?_) (fun hc => ?_)
                · replace h := kif_t hc h
                  refine lv_iconst (v := (0 : Int32)) X.1 X.2.1 dX12_meets_158 (by decide) ?_
                  exact J159 s32 (0 : Int32) _ _ _ h V (lv_sub hl [0, 1] rfl)
                · replace h := kif_f hc h
                  refine lv_iload_n X.1 X.2.1 dX12_meets_152 rfl (lv_at hl 1 rfl) ?_
                  refine lv_iconst (v := (1 : Int32)) X.1 X.2.1 dX12_meets_153 (by decide) ?_
                  refine lv_iadd X.1 X.2.1 dX12_meets_154 ?_
                  refine lv_goto (tgt := 159) X.1 X.2.1 dX12_meets_155 (by decide) ?_
                  exact J159 s32 (s32 + (1 : Int32)) _ _ _ h V (lv_sub hl [0, 1] rfl)
            · intro H locs ls V hl
              have V : kW D AA s.heap H (List.flatten [gX12 g aT x28.2]) locs := V
              have hl : lv_has ls 8 [(0, .ref (aT 0)), (3, .int x31.2)] := hl
              by_cases hc : x31.1 = 263
              · replace h := kif_t hc h
                refine W.eq (g2 := F0 m 263 ls []) (by rw [hc]) ?_
                refine lv_iconst (v := (1 : Int32)) X.1 X.2.1 dX12_meets_263 (by decide) ?_
                obtain rfl := Option.some.inj h
                rw [hAA] at V
                rw [hQQ]
                exact k_iret X V rfl dX12_meets_264
              · replace h := kif_f hc h
                obtain ⟨hc, h⟩ := kg_of h
                refine W.eq (g2 := F0 m 277 ls []) (by rw [hc]) ?_
                refine lv_iconst (v := (0 : Int32)) X.1 X.2.1 dX12_meets_277 (by decide) ?_
                obtain rfl := Option.some.inj h
                rw [hAA] at V
                rw [hQQ]
                exact k_iret X V rfl dX12_meets_278
          · replace h := kif_f hc h
            refine lv_iconst (v := (1 : Int32)) X.1 X.2.1 dX12_meets_130 (by decide) ?_
            obtain rfl := Option.some.inj h
            rw [hAA] at V
            rw [hQQ]
            exact k_iret X V rfl dX12_meets_131
      · replace h := kif_t hc h
        refine lv_iconst (v := (-1 : Int32)) X.1 X.2.1 dX12_meets_76 (by decide) ?_
        obtain rfl := Option.some.inj h
        rw [hAA] at V
        rw [hQQ]
        exact k_iret X V rfl dX12_meets_77
  · replace h := kif_t hc h
    refine lv_iconst (v := (-1 : Int32)) X.1 X.2.1 dX12_meets_8 (by decide) ?_
    obtain rfl := Option.some.inj h
    rw [hAA] at V
    rw [hQQ]
    exact k_iret X V rfl dX12_meets_9

def p_X12_reach_J125_60 (v1 : Int32) (v2 : Int32) (v3 : Int32) (v4 : Int32) (zT : tX12) (v5 : Int32) (v6 : Int64) (v8 : Int64) (v10 : Int32) (v11 : Int64) : Option (Nat × (Int32 × Int64 × Int64 × Int32)) :=
  kif (v10 = 0) (kl (v10 + (1 : Int32)) (fun y6 => some (60, (v5, v6, v11, y6)))) (kif (0 ≤ (lg_cmp v11 v8)) (kl (v10 + (1 : Int32)) (fun y7 => some (60, (v5, v6, v8, y7)))) (kl (v10 + (1 : Int32)) (fun y8 => some (60, (v5, v6, v11, y8)))))
def p_X12_reach_J117_60 (v1 : Int32) (v2 : Int32) (v3 : Int32) (v4 : Int32) (zT : tX12) (v8 : Int64) (v10 : Int32) (v11 : Int64) : Option (Nat × (Int32 × Int64 × Int64 × Int32)) :=
  p_X12_reach_J125_60 v1 v2 v3 v4 zT v10 v11 v8 v10 v11
def p_X12_reach_L60 (v1 : Int32) (v2 : Int32) (v3 : Int32) (v4 : Int32) (zT : tX12) (s : Int32 × Int64 × Int64 × Int32) : Option (Nat × (Int32 × Int64 × Int64 × Int32)) :=
  kif ((zT.1 37) ≤ s.2.2.2) (some (153, (s.1, s.2.1, s.2.2.1, s.2.2.2))) (kg (kii s.2.2.2 42) (kg (kii ((zT.2.2.1 35) s.2.2.2.toNatClampNeg) 41) (kg (kii s.2.2.2 42) (kg (kii ((zT.2.2.1 35) s.2.2.2.toNatClampNeg) 41) (kl ((v2.toInt64 * (((zT.2.2.1 12) (((zT.2.2.1 35) s.2.2.2.toNatClampNeg)).toNatClampNeg)).toInt64) + (v3.toInt64 * (((zT.2.2.1 13) (((zT.2.2.1 35) s.2.2.2.toNatClampNeg)).toNatClampNeg)).toInt64)) (fun y5 => kif (s.2.2.2 = 0) (p_X12_reach_J117_60 v1 v2 v3 v4 zT s.2.2.1 s.2.2.2 y5) (kif ((lg_cmp y5 s.2.1) ≤ 0) (p_X12_reach_J125_60 v1 v2 v3 v4 zT s.1 s.2.1 s.2.2.1 s.2.2.2 y5) (p_X12_reach_J117_60 v1 v2 v3 v4 zT s.2.2.1 s.2.2.2 y5))))))))
def p_X12_reach_J26 (v1 : Int32) (v2 : Int32) (v3 : Int32) (v4 : Int32) (zT : tX12) : Option (Int64 × tX12) :=
  kb (p_X12_isIn v4 (0 : Int32) (3 : Int32)) (fun x3 => kif ((kz x3) = 0) (some ((-1000 : Int64), zT)) (kb (p_X12_hasHull zT v1) (fun x4 => kif ((kz x4.1) = 0) (some ((-1000 : Int64), x4.2)) (kb (kitr 60 (fun q => p_X12_reach_L60 v1 v2 v3 v4 x4.2 q) kF ((0 : Int32), (0 : Int64), (0 : Int64), (0 : Int32))) (fun x9 => kg (x9.1 = 153) (kl ((x9.2.2.1 - x9.2.2.2.1) * (x9.2.2.1 - x9.2.2.2.1)) (fun y10 => kl ((v2.toInt64 * v2.toInt64) + (v3.toInt64 * v3.toInt64)) (fun y11 => kif (v4 = 0) (kg (kii x9.2.1 42) (kg (kii ((x4.2.2.2.1 35) x9.2.1.toNatClampNeg) 41) (some ((((x4.2.2.2.1 14) (((x4.2.2.2.1 35) x9.2.1.toNatClampNeg)).toNatClampNeg)).toInt64, x4.2)))) (kif (v4 = (1 : Int32)) (some (x9.2.2.1, x4.2)) (kif (v4 = (2 : Int32)) (kb (p_X12_above y10 y11) (fun x12 => some (x12, x4.2))) (kb (p_X12_below y10 y11) (fun x13 => some (x13, x4.2)))))))))))))
def p_X12_reach (zT : tX12) (v1 : Int32) (v2 : Int32) (v3 : Int32) (v4 : Int32) : Option (Int64 × tX12) :=
  kb (p_X12_isFar v2 (100 : Int32)) (fun x1 => kif ((kz x1) = 0) (some ((-1000 : Int64), zT)) (kb (p_X12_isFar v3 (100 : Int32)) (fun x2 => kif ((kz x2) = 0) (some ((-1000 : Int64), zT)) (kif (v2 = 0) (kif (v3 = 0) (some ((-1000 : Int64), zT)) (p_X12_reach_J26 v1 v2 v3 v4 zT)) (p_X12_reach_J26 v1 v2 v3 v4 zT)))))
set_option maxHeartbeats 4000000 in
set_option maxRecDepth 100000 in
theorem c_X12_reach (l : Launch) (D : va_G) (g : kG) (aT : Nat → Nat) (zT : tX12) (v1 : Int32) (v2 : Int32) (v3 : Int32) (v4 : Int32) (r : Int64 × tX12) (h : p_X12_reach zT v1 v2 v3 v4 = some r) : kMl l yX12_reach cX12_reach 14 (some .long) (kR 4 90) D (kty g) [.ref (aT 0), .int v1, .int v2, .int v3, .int v4] (List.flatten [gX12 g aT zT]) r.1 (List.flatten [gX12 g aT r.2]) := by
  intro sz
  refine k_enter (lv := [(0, .ref (aT 0)), (1, .int v1), (2, .int v2), (3, .int v3), (4, .int v4)]) RX12 (by decide +kernel) rfl rfl (Nat.le_of_ble_eq_true rfl) ?_
  intro p en s m args below meth c ls hsz X V hl
  obtain ⟨QQ, hQQ⟩ : ∃ q, q = MQ below (va_Ql (fun r' (_ : Unit) => r' = r.1) (fun _ => kE D (List.flatten [gX12 g aT r.2])) (va_A (List.flatten [gX12 g aT zT]) sz)) args s 0 0 (va_A (List.flatten [gX12 g aT zT]) sz) := ⟨_, rfl⟩
  rw [← hQQ]
  obtain ⟨AA, hAA⟩ : ∃ q, q = va_A (List.flatten [gX12 g aT zT]) sz := ⟨_, rfl⟩
  rw [← hAA] at V
  have J26 : ∀ (zT : tX12) (H : Heap) (locs : List Loc) (ls : Array Slot), p_X12_reach_J26 v1 v2 v3 v4 zT = some r → kW D AA s.heap H (List.flatten [gX12 g aT zT]) locs → lv_has ls 14 [(0, .ref (aT 0)), (1, .int v1), (2, .int v2), (3, .int v3), (4, .int v4)] → W p l en (kR 4 90) s m args below meth c H locs 0 0 QQ (F0 m 26 ls []) := by
    intro zT H locs ls h V hl
    unfold p_X12_reach_J26 at h
    refine lv_iload X.1 X.2.1 dX12_reach_26 (lv_at hl 4 rfl) ?_
    refine lv_iconst (v := (0 : Int32)) X.1 X.2.1 dX12_reach_28 (by decide) ?_
    refine lv_iconst (v := (3 : Int32)) X.1 X.2.1 dX12_reach_29 (by decide) ?_
    obtain ⟨x14, hx14, h⟩ := kb_of h
    refine s_callSi (segs' := [gX12 g aT zT]) X V (c_X12_isIn l D g v4 (0 : Int32) (3 : Int32) x14 hx14) w_X12_76 ⟨Nat.le_of_ble_eq_true rfl, Nat.le_of_ble_eq_true rfl⟩ ⟨Nat.zero_le _, Nat.zero_le _⟩ rfl [] rfl rfl (kFst_refl _) rfl rfl hl.1 (Nat.le_of_ble_eq_true rfl) dX12_reach_30 (fun H locs V => ?_)
    refine lv_if_eq (tgt := 44) X.1 X.2.1 dX12_reach_33 (by decide) (fun hc => ?_) (fun hc => ?_)
    · replace h := kif_t hc h
      refine lv_ldc2 (v := (-1000 : Int64)) X.1 X.2.1 X.2.2.2.1 (X.2.2.2.2.1 _ kc_X12_291) dX12_reach_44 ?_
      obtain rfl := Option.some.inj h
      rw [hAA] at V
      rw [hQQ]
      exact k_lret X V rfl dX12_reach_47
    · replace h := kif_f hc h
      refine lv_aload_n X.1 X.2.1 dX12_reach_36 rfl (lv_at hl 0 rfl) ?_
      refine lv_iload_n X.1 X.2.1 dX12_reach_37 rfl (lv_at hl 1 rfl) ?_
      obtain ⟨x15, hx15, h⟩ := kb_of h
      refine s_callVi (segs' := [gX12 g aT x15.2]) (ci := 12) (i0 := 0) X V (c_X12_hasHull l D g aT zT v1 x15 hx15) w_X12_326 ⟨Nat.le_of_ble_eq_true rfl, Nat.le_of_ble_eq_true rfl⟩ ⟨Nat.zero_le _, Nat.zero_le _⟩ rfl rfl rfl rfl [0] rfl rfl ⟨gX12_fst, trivial⟩ rfl rfl hl.1 (Nat.le_of_ble_eq_true rfl) dX12_reach_38 (fun H locs V => ?_)
      refine lv_if_ne (tgt := 48) X.1 X.2.1 dX12_reach_41 (by decide) (fun hc => ?_) (fun hc => ?_)
      · replace h := kif_f hc h
        refine lv_iconst (v := (0 : Int32)) X.1 X.2.1 dX12_reach_48 (by decide) ?_
        refine lv_istore (lv' := [(5, .int (0 : Int32)), (0, .ref (aT 0)), (1, .int v1), (2, .int v2), (3, .int v3), (4, .int v4)]) X.1 X.2.1 dX12_reach_49 hl (by decide) rfl (fun ls hl => ?_)
        refine lv_lconst (v := (0 : Int64)) X.1 X.2.1 dX12_reach_51 (by decide) ?_
        refine lv_lstore (lv' := [(6, .long (0 : Int64)), (5, .int (0 : Int32)), (0, .ref (aT 0)), (1, .int v1), (2, .int v2), (3, .int v3), (4, .int v4)]) X.1 X.2.1 dX12_reach_52 hl (by decide) rfl (fun ls hl => ?_)
        refine lv_lconst (v := (0 : Int64)) X.1 X.2.1 dX12_reach_54 (by decide) ?_
        refine lv_lstore (lv' := [(8, .long (0 : Int64)), (6, .long (0 : Int64)), (5, .int (0 : Int32)), (0, .ref (aT 0)), (1, .int v1), (2, .int v2), (3, .int v3), (4, .int v4)]) X.1 X.2.1 dX12_reach_55 hl (by decide) rfl (fun ls hl => ?_)
        refine lv_iconst (v := (0 : Int32)) X.1 X.2.1 dX12_reach_57 (by decide) ?_
        refine lv_istore (lv' := [(10, .int (0 : Int32)), (8, .long (0 : Int64)), (6, .long (0 : Int64)), (5, .int (0 : Int32)), (0, .ref (aT 0)), (1, .int v1), (2, .int v2), (3, .int v3), (4, .int v4)]) X.1 X.2.1 dX12_reach_58 hl (by decide) rfl (fun ls hl => ?_)
        obtain ⟨x16, hx16, h⟩ := kb_of h
        refine (kitr_go (hd := 60) (body := fun q => p_X12_reach_L60 v1 v2 v3 v4 x15.2 q) (G := (fun e => ∀ (H : Heap) (locs : List Loc) (ls : Array Slot), kW D AA s.heap H (List.flatten [gX12 g aT x15.2]) locs → lv_has ls 14 [(0, .ref (aT 0)), (2, .int v2), (3, .int v3), (4, .int v4), (5, .int e.2.1), (6, .long e.2.2.1), (8, .long e.2.2.2.1), (10, .int e.2.2.2.2)] → W p l en (kR 4 90) s m args below meth c H locs 0 0 QQ (F0 m e.1 ls []))) (fun s17 e18 hb19 hG20 => ?_) kF _ x16 hx16 ?_) _ _ _ V (lv_sub hl [4, 6, 7, 8, 3, 2, 1, 0] rfl)
        · intro H locs ls V hl
          show W p l en (kR 4 90) s m args below meth c H locs 0 0 QQ (F0 m 60 ls [])
          have h : p_X12_reach_L60 v1 v2 v3 v4 x15.2 s17 = some e18 := hb19
          unfold p_X12_reach_L60 at h
          have V : kW D AA s.heap H (List.flatten [gX12 g aT x15.2]) locs := V
          have hl : lv_has ls 14 [(0, .ref (aT 0)), (2, .int v2), (3, .int v3), (4, .int v4), (5, .int s17.1), (6, .long s17.2.1), (8, .long s17.2.2.1), (10, .int s17.2.2.2)] := hl
          have J125 : ∀ (v5 : Int32) (v6 : Int64) (v8 : Int64) (v10 : Int32) (v11 : Int64) (H : Heap) (locs : List Loc) (ls : Array Slot), p_X12_reach_J125_60 v1 v2 v3 v4 x15.2 v5 v6 v8 v10 v11 = some e18 → kW D AA s.heap H (List.flatten [gX12 g aT x15.2]) locs → lv_has ls 14 [(0, .ref (aT 0)), (2, .int v2), (3, .int v3), (4, .int v4), (5, .int v5), (6, .long v6), (8, .long v8), (10, .int v10), (11, .long v11)] → W p l en (kR 4 90) s m args below meth c H locs 0 0 QQ (F0 m 125 ls []) := by
            intro v5 v6 v8 v10 v11 H locs ls h V hl
            unfold p_X12_reach_J125_60 at h
            refine lv_iload X.1 X.2.1 dX12_reach_125 (lv_at hl 7 rfl) ?_
            refine lv_if_eq (tgt := 138) X.1 X.2.1 dX12_reach_127 (by decide) (fun hc => ?_) (fun hc => ?_)
            · replace h := kif_t hc h
              refine lv_lload X.1 X.2.1 dX12_reach_138 (lv_at hl 8 rfl) ?_
              refine lv_goto (tgt := 145) X.1 X.2.1 dX12_reach_140 (by decide) ?_
              refine lv_lstore (lv' := [(8, .long v11), (0, .ref (aT 0)), (2, .int v2), (3, .int v3), (4, .int v4), (5, .int v5), (6, .long v6), (10, .int v10), (11, .long v11)]) X.1 X.2.1 dX12_reach_145 hl (by decide) rfl (fun ls hl => ?_)
              obtain ⟨y21, ey21⟩ : ∃ y : Int32, y = (v10 + (1 : Int32)) := ⟨_, rfl⟩
              replace h := kl_of ey21 h
              refine lv_iinc (v := y21) (lv' := [(10, .int y21), (8, .long v11), (0, .ref (aT 0)), (2, .int v2), (3, .int v3), (4, .int v4), (5, .int v5), (6, .long v6), (11, .long v11)]) X.1 X.2.1 dX12_reach_147 hl (k := 7) rfl (by rw [ey21]; rfl) (by decide) rfl (fun ls hl => ?_)
              refine lv_goto (tgt := 60) X.1 X.2.1 dX12_reach_150 (by decide) ?_
              obtain rfl := Option.some.inj h
              exact hG20 _ _ _ V (lv_sub hl [2, 3, 4, 5, 6, 7, 1, 0] rfl)
            · replace h := kif_f hc h
              refine lv_lload X.1 X.2.1 dX12_reach_130 (lv_at hl 8 rfl) ?_
              refine lv_lload X.1 X.2.1 dX12_reach_132 (lv_at hl 6 rfl) ?_
              refine W.lcmp X.1 X.2.1 dX12_reach_134 ?_
              refine lv_if_ge (tgt := 143) X.1 X.2.1 dX12_reach_135 (by decide) (fun hc => ?_) (fun hc => ?_)
              · replace h := kif_t hc h
                refine lv_lload X.1 X.2.1 dX12_reach_143 (lv_at hl 6 rfl) ?_
                refine lv_lstore (lv' := [(8, .long v8), (0, .ref (aT 0)), (2, .int v2), (3, .int v3), (4, .int v4), (5, .int v5), (6, .long v6), (10, .int v10), (11, .long v11)]) X.1 X.2.1 dX12_reach_145 hl (by decide) rfl (fun ls hl => ?_)
                obtain ⟨y22, ey22⟩ : ∃ y : Int32, y = (v10 + (1 : Int32)) := ⟨_, rfl⟩
                replace h := kl_of ey22 h
                refine lv_iinc (v := y22) (lv' := [(10, .int y22), (8, .long v8), (0, .ref (aT 0)), (2, .int v2), (3, .int v3), (4, .int v4), (5, .int v5), (6, .long v6), (11, .long v11)]) X.1 X.2.1 dX12_reach_147 hl (k := 7) rfl (by rw [ey22]; rfl) (by decide) rfl (fun ls hl => ?_)
                refine lv_goto (tgt := 60) X.1 X.2.1 dX12_reach_150 (by decide) ?_
                obtain rfl := Option.some.inj h
                exact hG20 _ _ _ V (lv_sub hl [2, 3, 4, 5, 6, 7, 1, 0] rfl)
              · replace h := kif_f hc h
                refine lv_lload X.1 X.2.1 dX12_reach_138 (lv_at hl 8 rfl) ?_
                refine lv_goto (tgt := 145) X.1 X.2.1 dX12_reach_140 (by decide) ?_
                refine lv_lstore (lv' := [(8, .long v11), (0, .ref (aT 0)), (2, .int v2), (3, .int v3), (4, .int v4), (5, .int v5), (6, .long v6), (10, .int v10), (11, .long v11)]) X.1 X.2.1 dX12_reach_145 hl (by decide) rfl (fun ls hl => ?_)
                obtain ⟨y23, ey23⟩ : ∃ y : Int32, y = (v10 + (1 : Int32)) := ⟨_, rfl⟩
                replace h := kl_of ey23 h
                refine lv_iinc (v := y23) (lv' := [(10, .int y23), (8, .long v11), (0, .ref (aT 0)), (2, .int v2), (3, .int v3), (4, .int v4), (5, .int v5), (6, .long v6), (11, .long v11)]) X.1 X.2.1 dX12_reach_147 hl (k := 7) rfl (by rw [ey23]; rfl) (by decide) rfl (fun ls hl => ?_)
                refine lv_goto (tgt := 60) X.1 X.2.1 dX12_reach_150 (by decide) ?_
                obtain rfl := Option.some.inj h
                exact hG20 _ _ _ V (lv_sub hl [2, 3, 4, 5, 6, 7, 1, 0] rfl)
          have J117 : ∀ (v8 : Int64) (v10 : Int32) (v11 : Int64) (H : Heap) (locs : List Loc) (ls : Array Slot), p_X12_reach_J117_60 v1 v2 v3 v4 x15.2 v8 v10 v11 = some e18 → kW D AA s.heap H (List.flatten [gX12 g aT x15.2]) locs → lv_has ls 14 [(0, .ref (aT 0)), (2, .int v2), (3, .int v3), (4, .int v4), (8, .long v8), (10, .int v10), (11, .long v11)] → W p l en (kR 4 90) s m args below meth c H locs 0 0 QQ (F0 m 117 ls []) := by
            intro v8 v10 v11 H locs ls h V hl
            unfold p_X12_reach_J117_60 at h
            refine lv_iload X.1 X.2.1 dX12_reach_117 (lv_at hl 5 rfl) ?_
            refine lv_istore (lv' := [(5, .int v10), (0, .ref (aT 0)), (2, .int v2), (3, .int v3), (4, .int v4), (8, .long v8), (10, .int v10), (11, .long v11)]) X.1 X.2.1 dX12_reach_119 hl (by decide) rfl (fun ls hl => ?_)
            refine lv_lload X.1 X.2.1 dX12_reach_121 (lv_at hl 7 rfl) ?_
            refine lv_lstore (lv' := [(6, .long v11), (5, .int v10), (0, .ref (aT 0)), (2, .int v2), (3, .int v3), (4, .int v4), (8, .long v8), (10, .int v10), (11, .long v11)]) X.1 X.2.1 dX12_reach_123 hl (by decide) rfl (fun ls hl => ?_)
            exact J125 v10 v11 v8 v10 v11 _ _ _ h V (lv_sub hl [2, 3, 4, 5, 1, 0, 6, 7, 8] rfl)
          refine lv_iload X.1 X.2.1 dX12_reach_60 (lv_at hl 7 rfl) ?_
          refine lv_aload_n X.1 X.2.1 dX12_reach_62 rfl (lv_at hl 0 rfl) ?_
          refine gf_X12_320 (i := 0) X V rfl dX12_reach_63 ?_
          refine lv_icmp_ge (tgt := 153) X.1 X.2.1 dX12_reach_66 (by decide) (fun hc => ?_) (fun hc => ?_)
          · replace h := kif_t hc h
            obtain rfl := Option.some.inj h
            exact hG20 _ _ _ V (lv_sub hl [0, 1, 2, 3, 4, 5, 6, 7] rfl)
          · replace h := kif_f hc h
            refine lv_iload_n X.1 X.2.1 dX12_reach_69 rfl (lv_at hl 1 rfl) ?_
            refine lv_i2l X.1 X.2.1 dX12_reach_70 rfl ?_
            refine lv_aload_n X.1 X.2.1 dX12_reach_71 rfl (lv_at hl 0 rfl) ?_
            refine gf_X12_33 (i := 0) X V rfl dX12_reach_72 ?_
            refine lv_aload_n X.1 X.2.1 dX12_reach_75 rfl (lv_at hl 0 rfl) ?_
            refine gf_X12_54 (i := 0) X V rfl dX12_reach_76 ?_
            refine lv_iload X.1 X.2.1 dX12_reach_79 (lv_at hl 7 rfl) ?_
            obtain ⟨hc, h⟩ := kg_of h
            refine al_X12_35 (i := 0) X V rfl hc dX12_reach_81 ?_
            obtain ⟨hc, h⟩ := kg_of h
            refine al_X12_12 (i := 0) X V rfl hc dX12_reach_82 ?_
            refine lv_i2l X.1 X.2.1 dX12_reach_83 rfl ?_
            refine lv_lmul X.1 X.2.1 dX12_reach_84 ?_
            refine lv_iload_n X.1 X.2.1 dX12_reach_85 rfl (lv_at hl 2 rfl) ?_
            refine lv_i2l X.1 X.2.1 dX12_reach_86 rfl ?_
            refine lv_aload_n X.1 X.2.1 dX12_reach_87 rfl (lv_at hl 0 rfl) ?_
            refine gf_X12_36 (i := 0) X V rfl dX12_reach_88 ?_
            refine lv_aload_n X.1 X.2.1 dX12_reach_91 rfl (lv_at hl 0 rfl) ?_
            refine gf_X12_54 (i := 0) X V rfl dX12_reach_92 ?_
            refine lv_iload X.1 X.2.1 dX12_reach_95 (lv_at hl 7 rfl) ?_
            obtain ⟨hc, h⟩ := kg_of h
            refine al_X12_35 (i := 0) X V rfl hc dX12_reach_97 ?_
            obtain ⟨hc, h⟩ := kg_of h
            refine al_X12_13 (i := 0) X V rfl hc dX12_reach_98 ?_
            refine lv_i2l X.1 X.2.1 dX12_reach_99 rfl ?_
            refine lv_lmul X.1 X.2.1 dX12_reach_100 ?_
            refine lv_ladd X.1 X.2.1 dX12_reach_101 ?_
            refine lv_topl (fun y24 ey24 => ?_)
            replace h := kl_of ey24 h
            refine lv_lstore (lv' := [(11, .long y24), (0, .ref (aT 0)), (2, .int v2), (3, .int v3), (4, .int v4), (5, .int s17.1), (6, .long s17.2.1), (8, .long s17.2.2.1), (10, .int s17.2.2.2)]) X.1 X.2.1 dX12_reach_102 hl (by decide) rfl (fun ls hl => ?_)
            refine lv_iload X.1 X.2.1 dX12_reach_104 (lv_at hl 8 rfl) ?_
            refine lv_if_eq (tgt := 117) X.1 X.2.1 dX12_reach_106 (by decide) (fun hc => ?_) (fun hc => ?_)
            · replace h := kif_t hc h
              exact J117 s17.2.2.1 s17.2.2.2 y24 _ _ _ h V (lv_sub hl [1, 2, 3, 4, 7, 8, 0] rfl)
            · replace h := kif_f hc h
              refine lv_lload X.1 X.2.1 dX12_reach_109 (lv_at hl 0 rfl) ?_
              refine lv_lload X.1 X.2.1 dX12_reach_111 (lv_at hl 6 rfl) ?_
              refine W.lcmp X.1 X.2.1 dX12_reach_113 ?_
              refine lv_if_le (tgt := 125) X.1 X.2.1 dX12_reach_114 (by decide) (fun hc => ?_) (fun hc => ?_)
              · replace h := kif_t hc h
                exact J125 s17.1 s17.2.1 s17.2.2.1 s17.2.2.2 y24 _ _ _ h V (lv_sub hl [1, 2, 3, 4, 5, 6, 7, 8, 0] rfl)
              · replace h := kif_f hc h
                exact J117 s17.2.2.1 s17.2.2.2 y24 _ _ _ h V (lv_sub hl [1, 2, 3, 4, 7, 8, 0] rfl)
        · intro H locs ls V hl
          have V : kW D AA s.heap H (List.flatten [gX12 g aT x15.2]) locs := V
          have hl : lv_has ls 14 [(0, .ref (aT 0)), (2, .int v2), (3, .int v3), (4, .int v4), (5, .int x16.2.1), (6, .long x16.2.2.1), (8, .long x16.2.2.2.1), (10, .int x16.2.2.2.2)] := hl
          obtain ⟨hc, h⟩ := kg_of h
          refine W.eq (g2 := F0 m 153 ls []) (by rw [hc]) ?_
          refine lv_lload X.1 X.2.1 dX12_reach_153 (lv_at hl 5 rfl) ?_
          refine lv_lload X.1 X.2.1 dX12_reach_155 (lv_at hl 6 rfl) ?_
          refine lv_lsub X.1 X.2.1 dX12_reach_157 ?_
          refine lv_lload X.1 X.2.1 dX12_reach_158 (lv_at hl 5 rfl) ?_
          refine lv_lload X.1 X.2.1 dX12_reach_160 (lv_at hl 6 rfl) ?_
          refine lv_lsub X.1 X.2.1 dX12_reach_162 ?_
          refine lv_lmul X.1 X.2.1 dX12_reach_163 ?_
          refine lv_topl (fun y25 ey25 => ?_)
          replace h := kl_of ey25 h
          refine lv_lstore (lv' := [(10, .long y25), (0, .ref (aT 0)), (2, .int v2), (3, .int v3), (4, .int v4), (5, .int x16.2.1), (6, .long x16.2.2.1), (8, .long x16.2.2.2.1)]) X.1 X.2.1 dX12_reach_164 hl (by decide) rfl (fun ls hl => ?_)
          refine lv_iload_n X.1 X.2.1 dX12_reach_166 rfl (lv_at hl 2 rfl) ?_
          refine lv_i2l X.1 X.2.1 dX12_reach_167 rfl ?_
          refine lv_iload_n X.1 X.2.1 dX12_reach_168 rfl (lv_at hl 2 rfl) ?_
          refine lv_i2l X.1 X.2.1 dX12_reach_169 rfl ?_
          refine lv_lmul X.1 X.2.1 dX12_reach_170 ?_
          refine lv_iload_n X.1 X.2.1 dX12_reach_171 rfl (lv_at hl 3 rfl) ?_
          refine lv_i2l X.1 X.2.1 dX12_reach_172 rfl ?_
          refine lv_iload_n X.1 X.2.1 dX12_reach_173 rfl (lv_at hl 3 rfl) ?_
          refine lv_i2l X.1 X.2.1 dX12_reach_174 rfl ?_
          refine lv_lmul X.1 X.2.1 dX12_reach_175 ?_
          refine lv_ladd X.1 X.2.1 dX12_reach_176 ?_
          refine lv_topl (fun y26 ey26 => ?_)
          replace h := kl_of ey26 h
          refine lv_lstore (lv' := [(12, .long y26), (10, .long y25), (0, .ref (aT 0)), (2, .int v2), (3, .int v3), (4, .int v4), (5, .int x16.2.1), (6, .long x16.2.2.1), (8, .long x16.2.2.2.1)]) X.1 X.2.1 dX12_reach_177 hl (by decide) rfl (fun ls hl => ?_)
          refine lv_iload X.1 X.2.1 dX12_reach_179 (lv_at hl 5 rfl) ?_
          refine lv_if_ne (tgt := 200) X.1 X.2.1 dX12_reach_181 (by decide) (fun hc => ?_) (fun hc => ?_)
          · replace h := kif_f hc h
            refine lv_iload X.1 X.2.1 dX12_reach_200 (lv_at hl 5 rfl) ?_
            refine lv_iconst (v := (1 : Int32)) X.1 X.2.1 dX12_reach_202 (by decide) ?_
            refine lv_icmp_ne (tgt := 211) X.1 X.2.1 dX12_reach_203 (by decide) (fun hc => ?_) (fun hc => ?_)
            · replace h := kif_f hc h
              refine lv_iload X.1 X.2.1 dX12_reach_211 (lv_at hl 5 rfl) ?_
              refine lv_iconst (v := (2 : Int32)) X.1 X.2.1 dX12_reach_213 (by decide) ?_
              refine lv_icmp_ne (tgt := 227) X.1 X.2.1 dX12_reach_214 (by decide) (fun hc => ?_) (fun hc => ?_)
              · replace h := kif_f hc h
                refine lv_lload X.1 X.2.1 dX12_reach_227 (lv_at hl 1 rfl) ?_
                refine lv_lload X.1 X.2.1 dX12_reach_229 (lv_at hl 0 rfl) ?_
                obtain ⟨x27, hx27, h⟩ := kb_of h
                refine s_callSl (segs' := [gX12 g aT x15.2]) X V (c_X12_below l D g y25 y26 x27 hx27) w_X12_213 ⟨Nat.le_of_ble_eq_true rfl, Nat.le_of_ble_eq_true rfl⟩ ⟨Nat.zero_le _, Nat.zero_le _⟩ rfl [] rfl rfl (kFst_refl _) rfl rfl hl.1 (Nat.le_of_ble_eq_true rfl) dX12_reach_231 (fun H locs V => ?_)
                obtain rfl := Option.some.inj h
                rw [hAA] at V
                rw [hQQ]
                exact k_lret X V rfl dX12_reach_234
              · replace h := kif_t hc h
                refine lv_lload X.1 X.2.1 dX12_reach_217 (lv_at hl 1 rfl) ?_
                refine lv_lload X.1 X.2.1 dX12_reach_219 (lv_at hl 0 rfl) ?_
                obtain ⟨x28, hx28, h⟩ := kb_of h
                refine s_callSl (segs' := [gX12 g aT x15.2]) X V (c_X12_above l D g y25 y26 x28 hx28) w_X12_210 ⟨Nat.le_of_ble_eq_true rfl, Nat.le_of_ble_eq_true rfl⟩ ⟨Nat.zero_le _, Nat.zero_le _⟩ rfl [] rfl rfl (kFst_refl _) rfl rfl hl.1 (Nat.le_of_ble_eq_true rfl) dX12_reach_221 (fun H locs V => ?_)
                refine lv_goto (tgt := 234) X.1 X.2.1 dX12_reach_224 (by decide) ?_
                obtain rfl := Option.some.inj h
                rw [hAA] at V
                rw [hQQ]
                exact k_lret X V rfl dX12_reach_234
            · replace h := kif_t hc h
              refine lv_lload X.1 X.2.1 dX12_reach_206 (lv_at hl 7 rfl) ?_
              refine lv_goto (tgt := 234) X.1 X.2.1 dX12_reach_208 (by decide) ?_
              obtain rfl := Option.some.inj h
              rw [hAA] at V
              rw [hQQ]
              exact k_lret X V rfl dX12_reach_234
          · replace h := kif_t hc h
            refine lv_aload_n X.1 X.2.1 dX12_reach_184 rfl (lv_at hl 2 rfl) ?_
            refine gf_X12_39 (i := 0) X V rfl dX12_reach_185 ?_
            refine lv_aload_n X.1 X.2.1 dX12_reach_188 rfl (lv_at hl 2 rfl) ?_
            refine gf_X12_54 (i := 0) X V rfl dX12_reach_189 ?_
            refine lv_iload X.1 X.2.1 dX12_reach_192 (lv_at hl 6 rfl) ?_
            obtain ⟨hc, h⟩ := kg_of h
            refine al_X12_35 (i := 0) X V rfl hc dX12_reach_194 ?_
            obtain ⟨hc, h⟩ := kg_of h
            refine al_X12_14 (i := 0) X V rfl hc dX12_reach_195 ?_
            refine lv_i2l X.1 X.2.1 dX12_reach_196 rfl ?_
            refine lv_goto (tgt := 234) X.1 X.2.1 dX12_reach_197 (by decide) ?_
            obtain rfl := Option.some.inj h
            rw [hAA] at V
            rw [hQQ]
            exact k_lret X V rfl dX12_reach_234
      · replace h := kif_t hc h
        refine lv_ldc2 (v := (-1000 : Int64)) X.1 X.2.1 X.2.2.2.1 (X.2.2.2.2.1 _ kc_X12_291) dX12_reach_44 ?_
        obtain rfl := Option.some.inj h
        rw [hAA] at V
        rw [hQQ]
        exact k_lret X V rfl dX12_reach_47
  unfold p_X12_reach at h
  refine lv_iload_n X.1 X.2.1 dX12_reach_0 rfl (lv_at hl 2 rfl) ?_
  refine lv_bipush (v := (100 : Int32)) X.1 X.2.1 dX12_reach_1 (by decide) ?_
  obtain ⟨x29, hx29, h⟩ := kb_of h
  refine s_callSi (segs' := [gX12 g aT zT]) X V (c_X12_isFar l D g v2 (100 : Int32) x29 hx29) w_X12_293 ⟨Nat.le_of_ble_eq_true rfl, Nat.le_of_ble_eq_true rfl⟩ ⟨Nat.zero_le _, Nat.zero_le _⟩ rfl [] rfl rfl (kFst_refl _) rfl rfl hl.1 (Nat.le_of_ble_eq_true rfl) dX12_reach_3 (fun H locs V => ?_)
  refine lv_if_eq (tgt := 44) X.1 X.2.1 dX12_reach_6 (by decide) (fun hc => ?_) (fun hc => ?_)
  · replace h := kif_t hc h
    refine lv_ldc2 (v := (-1000 : Int64)) X.1 X.2.1 X.2.2.2.1 (X.2.2.2.2.1 _ kc_X12_291) dX12_reach_44 ?_
    obtain rfl := Option.some.inj h
    rw [hAA] at V
    rw [hQQ]
    exact k_lret X V rfl dX12_reach_47
  · replace h := kif_f hc h
    refine lv_iload_n X.1 X.2.1 dX12_reach_9 rfl (lv_at hl 3 rfl) ?_
    refine lv_bipush (v := (100 : Int32)) X.1 X.2.1 dX12_reach_10 (by decide) ?_
    obtain ⟨x30, hx30, h⟩ := kb_of h
    refine s_callSi (segs' := [gX12 g aT zT]) X V (c_X12_isFar l D g v3 (100 : Int32) x30 hx30) w_X12_293 ⟨Nat.le_of_ble_eq_true rfl, Nat.le_of_ble_eq_true rfl⟩ ⟨Nat.zero_le _, Nat.zero_le _⟩ rfl [] rfl rfl (kFst_refl _) rfl rfl hl.1 (Nat.le_of_ble_eq_true rfl) dX12_reach_12 (fun H locs V => ?_)
    refine lv_if_eq (tgt := 44) X.1 X.2.1 dX12_reach_15 (by decide) (fun hc => ?_) (fun hc => ?_)
    · replace h := kif_t hc h
      refine lv_ldc2 (v := (-1000 : Int64)) X.1 X.2.1 X.2.2.2.1 (X.2.2.2.2.1 _ kc_X12_291) dX12_reach_44 ?_
      obtain rfl := Option.some.inj h
      rw [hAA] at V
      rw [hQQ]
      exact k_lret X V rfl dX12_reach_47
    · replace h := kif_f hc h
      refine lv_iload_n X.1 X.2.1 dX12_reach_18 rfl (lv_at hl 2 rfl) ?_
      refine lv_if_ne (tgt := 26) X.1 X.2.1 dX12_reach_19 (by decide) (fun hc => ?_) (fun hc => ?_)
      · replace h := kif_f hc h
        exact J26 zT _ _ _ h V (lv_sub hl [0, 1, 2, 3, 4] rfl)
      · replace h := kif_t hc h
        refine lv_iload_n X.1 X.2.1 dX12_reach_22 rfl (lv_at hl 3 rfl) ?_
        refine lv_if_eq (tgt := 44) X.1 X.2.1 dX12_reach_23 (by decide) (fun hc => ?_) (fun hc => ?_)
        · replace h := kif_t hc h
          refine lv_ldc2 (v := (-1000 : Int64)) X.1 X.2.1 X.2.2.2.1 (X.2.2.2.2.1 _ kc_X12_291) dX12_reach_44 ?_
          obtain rfl := Option.some.inj h
          rw [hAA] at V
          rw [hQQ]
          exact k_lret X V rfl dX12_reach_47
        · replace h := kif_f hc h
          exact J26 zT _ _ _ h V (lv_sub hl [0, 1, 2, 3, 4] rfl)

def p_X12_whole_L42 (v1 : Int32) (v2 : Int32) (zT : tX12) (s : Int32 × Int32) : Option (Nat × (Int32 × Int32)) :=
  kif ((zT.1 37) ≤ s.2) (some (118, (s.1, s.2))) (kg (kii s.2 42) (kl ((zT.2.2.1 35) s.2.toNatClampNeg) (fun y3 => kb (p_X12_after zT s.2) (fun x4 => kg (kii x4 42) (kl ((zT.2.2.1 35) x4.toNatClampNeg) (fun y5 => kg (kii y5 41) (kg (kii y3 41) (kg (kii y5 41) (kg (kii y3 41) (kb (p_X12_common ((((zT.2.2.1 12) y5.toNatClampNeg) - ((zT.2.2.1 12) y3.toNatClampNeg))).toInt64 ((((zT.2.2.1 13) y5.toNatClampNeg) - ((zT.2.2.1 13) y3.toNatClampNeg))).toInt64) (fun x6 => kl (s.1 + x6.toInt32) (fun y7 => kl (s.2 + (1 : Int32)) (fun y8 => some (42, (y7, y8)))))))))))))))
def p_X12_whole (zT : tX12) (v1 : Int32) (v2 : Int32) : Option (Int32 × tX12) :=
  kb (p_X12_isIn v2 (0 : Int32) (1 : Int32)) (fun x1 => kif ((kz x1) = 0) (some ((-1 : Int32), zT)) (kb (p_X12_hasHull zT v1) (fun x2 => kif ((kz x2.1) = 0) (some ((-1 : Int32), x2.2)) (kif ((x2.2.1 37) = (1 : Int32)) (kif (v2 = 0) (some ((1 : Int32), x2.2)) (some ((0 : Int32), x2.2))) (kb (kitr 42 (fun q => p_X12_whole_L42 v1 v2 x2.2 q) kF ((0 : Int32), (0 : Int32))) (fun x9 => kg (x9.1 = 118) (kif ((x2.2.1 37) = (2 : Int32)) (kif (v2 = 0) (some (((x9.2.1 / (2 : Int32)) + (1 : Int32)), x2.2)) (some ((0 : Int32), x2.2))) (kif (v2 = 0) (some (x9.2.1, x2.2)) (kb (p_X12_areaNow x2.2) (fun x10 => some ((((x10 - x9.2.1) + (2 : Int32)) / (2 : Int32)), x2.2)))))))))))
set_option maxHeartbeats 4000000 in
set_option maxRecDepth 100000 in
theorem c_X12_whole (l : Launch) (D : va_G) (g : kG) (aT : Nat → Nat) (zT : tX12) (v1 : Int32) (v2 : Int32) (r : Int32 × tX12) (h : p_X12_whole zT v1 v2 = some r) : kMi l yX12_whole cX12_whole 7 (some .int) (kR 4 90) D (kty g) [.ref (aT 0), .int v1, .int v2] (List.flatten [gX12 g aT zT]) r.1 (List.flatten [gX12 g aT r.2]) := by
  intro sz
  refine k_enter (lv := [(0, .ref (aT 0)), (1, .int v1), (2, .int v2)]) RX12 (by decide +kernel) rfl rfl (Nat.le_of_ble_eq_true rfl) ?_
  intro p en s m args below meth c ls hsz X V hl
  obtain ⟨QQ, hQQ⟩ : ∃ q, q = MQ below (va_Qi (fun r' (_ : Unit) => r' = r.1) (fun _ => kE D (List.flatten [gX12 g aT r.2])) (va_A (List.flatten [gX12 g aT zT]) sz)) args s 0 0 (va_A (List.flatten [gX12 g aT zT]) sz) := ⟨_, rfl⟩
  rw [← hQQ]
  obtain ⟨AA, hAA⟩ : ∃ q, q = va_A (List.flatten [gX12 g aT zT]) sz := ⟨_, rfl⟩
  rw [← hAA] at V
  unfold p_X12_whole at h
  refine lv_iload_n X.1 X.2.1 dX12_whole_0 rfl (lv_at hl 2 rfl) ?_
  refine lv_iconst (v := (0 : Int32)) X.1 X.2.1 dX12_whole_1 (by decide) ?_
  refine lv_iconst (v := (1 : Int32)) X.1 X.2.1 dX12_whole_2 (by decide) ?_
  obtain ⟨x11, hx11, h⟩ := kb_of h
  refine s_callSi (segs' := [gX12 g aT zT]) X V (c_X12_isIn l D g v2 (0 : Int32) (1 : Int32) x11 hx11) w_X12_76 ⟨Nat.le_of_ble_eq_true rfl, Nat.le_of_ble_eq_true rfl⟩ ⟨Nat.zero_le _, Nat.zero_le _⟩ rfl [] rfl rfl (kFst_refl _) rfl rfl hl.1 (Nat.le_of_ble_eq_true rfl) dX12_whole_3 (fun H locs V => ?_)
  refine lv_if_eq (tgt := 17) X.1 X.2.1 dX12_whole_6 (by decide) (fun hc => ?_) (fun hc => ?_)
  · replace h := kif_t hc h
    refine lv_iconst (v := (-1 : Int32)) X.1 X.2.1 dX12_whole_17 (by decide) ?_
    obtain rfl := Option.some.inj h
    rw [hAA] at V
    rw [hQQ]
    exact k_iret X V rfl dX12_whole_18
  · replace h := kif_f hc h
    refine lv_aload_n X.1 X.2.1 dX12_whole_9 rfl (lv_at hl 0 rfl) ?_
    refine lv_iload_n X.1 X.2.1 dX12_whole_10 rfl (lv_at hl 1 rfl) ?_
    obtain ⟨x12, hx12, h⟩ := kb_of h
    refine s_callVi (segs' := [gX12 g aT x12.2]) (ci := 12) (i0 := 0) X V (c_X12_hasHull l D g aT zT v1 x12 hx12) w_X12_326 ⟨Nat.le_of_ble_eq_true rfl, Nat.le_of_ble_eq_true rfl⟩ ⟨Nat.zero_le _, Nat.zero_le _⟩ rfl rfl rfl rfl [0] rfl rfl ⟨gX12_fst, trivial⟩ rfl rfl hl.1 (Nat.le_of_ble_eq_true rfl) dX12_whole_11 (fun H locs V => ?_)
    refine lv_if_ne (tgt := 19) X.1 X.2.1 dX12_whole_14 (by decide) (fun hc => ?_) (fun hc => ?_)
    · replace h := kif_f hc h
      refine lv_aload_n X.1 X.2.1 dX12_whole_19 rfl (lv_at hl 0 rfl) ?_
      refine gf_X12_320 (i := 0) X V rfl dX12_whole_20 ?_
      refine lv_iconst (v := (1 : Int32)) X.1 X.2.1 dX12_whole_23 (by decide) ?_
      refine lv_icmp_ne (tgt := 37) X.1 X.2.1 dX12_whole_24 (by decide) (fun hc => ?_) (fun hc => ?_)
      · replace h := kif_f hc h
        refine lv_iconst (v := (0 : Int32)) X.1 X.2.1 dX12_whole_37 (by decide) ?_
        refine lv_istore_n (lv' := [(3, .int (0 : Int32)), (0, .ref (aT 0)), (1, .int v1), (2, .int v2)]) X.1 X.2.1 dX12_whole_38 rfl hl (by decide) rfl (fun ls hl => ?_)
        refine lv_iconst (v := (0 : Int32)) X.1 X.2.1 dX12_whole_39 (by decide) ?_
        refine lv_istore (lv' := [(4, .int (0 : Int32)), (3, .int (0 : Int32)), (0, .ref (aT 0)), (1, .int v1), (2, .int v2)]) X.1 X.2.1 dX12_whole_40 hl (by decide) rfl (fun ls hl => ?_)
        obtain ⟨x13, hx13, h⟩ := kb_of h
        refine (kitr_go (hd := 42) (body := fun q => p_X12_whole_L42 v1 v2 x12.2 q) (G := (fun e => ∀ (H : Heap) (locs : List Loc) (ls : Array Slot), kW D AA s.heap H (List.flatten [gX12 g aT x12.2]) locs → lv_has ls 7 [(0, .ref (aT 0)), (2, .int v2), (3, .int e.2.1), (4, .int e.2.2)] → W p l en (kR 4 90) s m args below meth c H locs 0 0 QQ (F0 m e.1 ls []))) (fun s14 e15 hb16 hG17 => ?_) kF _ x13 hx13 ?_) _ _ _ V (lv_sub hl [2, 4, 1, 0] rfl)
        · intro H locs ls V hl
          show W p l en (kR 4 90) s m args below meth c H locs 0 0 QQ (F0 m 42 ls [])
          have h : p_X12_whole_L42 v1 v2 x12.2 s14 = some e15 := hb16
          unfold p_X12_whole_L42 at h
          have V : kW D AA s.heap H (List.flatten [gX12 g aT x12.2]) locs := V
          have hl : lv_has ls 7 [(0, .ref (aT 0)), (2, .int v2), (3, .int s14.1), (4, .int s14.2)] := hl
          refine lv_iload X.1 X.2.1 dX12_whole_42 (lv_at hl 3 rfl) ?_
          refine lv_aload_n X.1 X.2.1 dX12_whole_44 rfl (lv_at hl 0 rfl) ?_
          refine gf_X12_320 (i := 0) X V rfl dX12_whole_45 ?_
          refine lv_icmp_ge (tgt := 118) X.1 X.2.1 dX12_whole_48 (by decide) (fun hc => ?_) (fun hc => ?_)
          · replace h := kif_t hc h
            obtain rfl := Option.some.inj h
            exact hG17 _ _ _ V (lv_sub hl [0, 1, 2, 3] rfl)
          · replace h := kif_f hc h
            refine lv_aload_n X.1 X.2.1 dX12_whole_51 rfl (lv_at hl 0 rfl) ?_
            refine gf_X12_54 (i := 0) X V rfl dX12_whole_52 ?_
            refine lv_iload X.1 X.2.1 dX12_whole_55 (lv_at hl 3 rfl) ?_
            obtain ⟨hc, h⟩ := kg_of h
            refine al_X12_35 (i := 0) X V rfl hc dX12_whole_57 ?_
            refine lv_topi (fun y18 ey18 => ?_)
            replace h := kl_of ey18 h
            refine lv_istore (lv' := [(5, .int y18), (0, .ref (aT 0)), (2, .int v2), (3, .int s14.1), (4, .int s14.2)]) X.1 X.2.1 dX12_whole_58 hl (by decide) rfl (fun ls hl => ?_)
            refine lv_aload_n X.1 X.2.1 dX12_whole_60 rfl (lv_at hl 1 rfl) ?_
            refine gf_X12_54 (i := 0) X V rfl dX12_whole_61 ?_
            refine lv_aload_n X.1 X.2.1 dX12_whole_64 rfl (lv_at hl 1 rfl) ?_
            refine lv_iload X.1 X.2.1 dX12_whole_65 (lv_at hl 4 rfl) ?_
            obtain ⟨x19, hx19, h⟩ := kb_of h
            refine s_callVi (segs' := [gX12 g aT x12.2]) (ci := 12) (i0 := 0) X V (c_X12_after l D g aT x12.2 s14.2 x19 hx19) w_X12_332 ⟨Nat.le_of_ble_eq_true rfl, Nat.le_of_ble_eq_true rfl⟩ ⟨Nat.zero_le _, Nat.zero_le _⟩ rfl rfl rfl rfl [0] rfl rfl (kFst_refl _) rfl rfl hl.1 (Nat.le_of_ble_eq_true rfl) dX12_whole_67 (fun H locs V => ?_)
            obtain ⟨hc, h⟩ := kg_of h
            refine al_X12_35 (i := 0) X V rfl hc dX12_whole_70 ?_
            refine lv_topi (fun y20 ey20 => ?_)
            replace h := kl_of ey20 h
            refine lv_istore (lv' := [(6, .int y20), (5, .int y18), (0, .ref (aT 0)), (2, .int v2), (3, .int s14.1), (4, .int s14.2)]) X.1 X.2.1 dX12_whole_71 hl (by decide) rfl (fun ls hl => ?_)
            refine lv_iload_n X.1 X.2.1 dX12_whole_73 rfl (lv_at hl 4 rfl) ?_
            refine lv_aload_n X.1 X.2.1 dX12_whole_74 rfl (lv_at hl 2 rfl) ?_
            refine gf_X12_33 (i := 0) X V rfl dX12_whole_75 ?_
            refine lv_iload X.1 X.2.1 dX12_whole_78 (lv_at hl 0 rfl) ?_
            obtain ⟨hc, h⟩ := kg_of h
            refine al_X12_12 (i := 0) X V rfl hc dX12_whole_80 ?_
            refine lv_aload_n X.1 X.2.1 dX12_whole_81 rfl (lv_at hl 2 rfl) ?_
            refine gf_X12_33 (i := 0) X V rfl dX12_whole_82 ?_
            refine lv_iload X.1 X.2.1 dX12_whole_85 (lv_at hl 1 rfl) ?_
            obtain ⟨hc, h⟩ := kg_of h
            refine al_X12_12 (i := 0) X V rfl hc dX12_whole_87 ?_
            refine lv_isub X.1 X.2.1 dX12_whole_88 ?_
            refine lv_i2l X.1 X.2.1 dX12_whole_89 rfl ?_
            refine lv_aload_n X.1 X.2.1 dX12_whole_90 rfl (lv_at hl 2 rfl) ?_
            refine gf_X12_36 (i := 0) X V rfl dX12_whole_91 ?_
            refine lv_iload X.1 X.2.1 dX12_whole_94 (lv_at hl 0 rfl) ?_
            obtain ⟨hc, h⟩ := kg_of h
            refine al_X12_13 (i := 0) X V rfl hc dX12_whole_96 ?_
            refine lv_aload_n X.1 X.2.1 dX12_whole_97 rfl (lv_at hl 2 rfl) ?_
            refine gf_X12_36 (i := 0) X V rfl dX12_whole_98 ?_
            refine lv_iload X.1 X.2.1 dX12_whole_101 (lv_at hl 1 rfl) ?_
            obtain ⟨hc, h⟩ := kg_of h
            refine al_X12_13 (i := 0) X V rfl hc dX12_whole_103 ?_
            refine lv_isub X.1 X.2.1 dX12_whole_104 ?_
            refine lv_i2l X.1 X.2.1 dX12_whole_105 rfl ?_
            obtain ⟨x21, hx21, h⟩ := kb_of h
            refine s_callSl (segs' := [gX12 g aT x12.2]) X V (c_X12_common l D g ((((x12.2.2.2.1 12) y20.toNatClampNeg) - ((x12.2.2.2.1 12) y18.toNatClampNeg))).toInt64 ((((x12.2.2.2.1 13) y20.toNatClampNeg) - ((x12.2.2.2.1 13) y18.toNatClampNeg))).toInt64 x21 hx21) w_X12_176 ⟨Nat.le_of_ble_eq_true rfl, Nat.le_of_ble_eq_true rfl⟩ ⟨Nat.zero_le _, Nat.zero_le _⟩ rfl [] rfl rfl (kFst_refl _) rfl rfl hl.1 (Nat.le_of_ble_eq_true rfl) dX12_whole_106 (fun H locs V => ?_)
            refine lv_l2i X.1 X.2.1 dX12_whole_109 rfl ?_
            refine lv_iadd X.1 X.2.1 dX12_whole_110 ?_
            refine lv_topi (fun y22 ey22 => ?_)
            replace h := kl_of ey22 h
            refine lv_istore_n (lv' := [(3, .int y22), (6, .int y20), (5, .int y18), (0, .ref (aT 0)), (2, .int v2), (4, .int s14.2)]) X.1 X.2.1 dX12_whole_111 rfl hl (by decide) rfl (fun ls hl => ?_)
            obtain ⟨y23, ey23⟩ : ∃ y : Int32, y = (s14.2 + (1 : Int32)) := ⟨_, rfl⟩
            replace h := kl_of ey23 h
            refine lv_iinc (v := y23) (lv' := [(4, .int y23), (3, .int y22), (6, .int y20), (5, .int y18), (0, .ref (aT 0)), (2, .int v2)]) X.1 X.2.1 dX12_whole_112 hl (k := 5) rfl (by rw [ey23]; rfl) (by decide) rfl (fun ls hl => ?_)
            refine lv_goto (tgt := 42) X.1 X.2.1 dX12_whole_115 (by decide) ?_
            obtain rfl := Option.some.inj h
            exact hG17 _ _ _ V (lv_sub hl [4, 5, 1, 0] rfl)
        · intro H locs ls V hl
          have V : kW D AA s.heap H (List.flatten [gX12 g aT x12.2]) locs := V
          have hl : lv_has ls 7 [(0, .ref (aT 0)), (2, .int v2), (3, .int x13.2.1), (4, .int x13.2.2)] := hl
          obtain ⟨hc, h⟩ := kg_of h
          refine W.eq (g2 := F0 m 118 ls []) (by rw [hc]) ?_
          refine lv_aload_n X.1 X.2.1 dX12_whole_118 rfl (lv_at hl 0 rfl) ?_
          refine gf_X12_320 (i := 0) X V rfl dX12_whole_119 ?_
          refine lv_iconst (v := (2 : Int32)) X.1 X.2.1 dX12_whole_122 (by decide) ?_
          refine lv_icmp_ne (tgt := 140) X.1 X.2.1 dX12_whole_123 (by decide) (fun hc => ?_) (fun hc => ?_)
          · replace h := kif_f hc h
            refine lv_iload_n X.1 X.2.1 dX12_whole_140 rfl (lv_at hl 1 rfl) ?_
            refine lv_if_ne (tgt := 148) X.1 X.2.1 dX12_whole_141 (by decide) (fun hc => ?_) (fun hc => ?_)
            · replace h := kif_f hc h
              refine lv_aload_n X.1 X.2.1 dX12_whole_148 rfl (lv_at hl 0 rfl) ?_
              obtain ⟨x24, hx24, h⟩ := kb_of h
              refine s_callVi (segs' := [gX12 g aT x12.2]) (ci := 12) (i0 := 0) X V (c_X12_areaNow l D g aT x12.2 x24 hx24) w_X12_329 ⟨Nat.le_of_ble_eq_true rfl, Nat.le_of_ble_eq_true rfl⟩ ⟨Nat.zero_le _, Nat.zero_le _⟩ rfl rfl rfl rfl [0] rfl rfl (kFst_refl _) rfl rfl hl.1 (Nat.le_of_ble_eq_true rfl) dX12_whole_149 (fun H locs V => ?_)
              refine lv_iload_n X.1 X.2.1 dX12_whole_152 rfl (lv_at hl 2 rfl) ?_
              refine lv_isub X.1 X.2.1 dX12_whole_153 ?_
              refine lv_iconst (v := (2 : Int32)) X.1 X.2.1 dX12_whole_154 (by decide) ?_
              refine lv_iadd X.1 X.2.1 dX12_whole_155 ?_
              refine lv_iconst (v := (2 : Int32)) X.1 X.2.1 dX12_whole_156 (by decide) ?_
              refine lv_idiv X.1 X.2.1 dX12_whole_157 (by decide) ?_
              obtain rfl := Option.some.inj h
              rw [hAA] at V
              rw [hQQ]
              exact k_iret X V rfl dX12_whole_158
            · replace h := kif_t hc h
              refine lv_iload_n X.1 X.2.1 dX12_whole_144 rfl (lv_at hl 2 rfl) ?_
              refine lv_goto (tgt := 158) X.1 X.2.1 dX12_whole_145 (by decide) ?_
              obtain rfl := Option.some.inj h
              rw [hAA] at V
              rw [hQQ]
              exact k_iret X V rfl dX12_whole_158
          · replace h := kif_t hc h
            refine lv_iload_n X.1 X.2.1 dX12_whole_126 rfl (lv_at hl 1 rfl) ?_
            refine lv_if_ne (tgt := 138) X.1 X.2.1 dX12_whole_127 (by decide) (fun hc => ?_) (fun hc => ?_)
            · replace h := kif_f hc h
              refine lv_iconst (v := (0 : Int32)) X.1 X.2.1 dX12_whole_138 (by decide) ?_
              obtain rfl := Option.some.inj h
              rw [hAA] at V
              rw [hQQ]
              exact k_iret X V rfl dX12_whole_139
            · replace h := kif_t hc h
              refine lv_iload_n X.1 X.2.1 dX12_whole_130 rfl (lv_at hl 2 rfl) ?_
              refine lv_iconst (v := (2 : Int32)) X.1 X.2.1 dX12_whole_131 (by decide) ?_
              refine lv_idiv X.1 X.2.1 dX12_whole_132 (by decide) ?_
              refine lv_iconst (v := (1 : Int32)) X.1 X.2.1 dX12_whole_133 (by decide) ?_
              refine lv_iadd X.1 X.2.1 dX12_whole_134 ?_
              refine lv_goto (tgt := 139) X.1 X.2.1 dX12_whole_135 (by decide) ?_
              obtain rfl := Option.some.inj h
              rw [hAA] at V
              rw [hQQ]
              exact k_iret X V rfl dX12_whole_139
      · replace h := kif_t hc h
        refine lv_iload_n X.1 X.2.1 dX12_whole_27 rfl (lv_at hl 2 rfl) ?_
        refine lv_if_ne (tgt := 35) X.1 X.2.1 dX12_whole_28 (by decide) (fun hc => ?_) (fun hc => ?_)
        · replace h := kif_f hc h
          refine lv_iconst (v := (0 : Int32)) X.1 X.2.1 dX12_whole_35 (by decide) ?_
          obtain rfl := Option.some.inj h
          rw [hAA] at V
          rw [hQQ]
          exact k_iret X V rfl dX12_whole_36
        · replace h := kif_t hc h
          refine lv_iconst (v := (1 : Int32)) X.1 X.2.1 dX12_whole_31 (by decide) ?_
          refine lv_goto (tgt := 36) X.1 X.2.1 dX12_whole_32 (by decide) ?_
          obtain rfl := Option.some.inj h
          rw [hAA] at V
          rw [hQQ]
          exact k_iret X V rfl dX12_whole_36
    · replace h := kif_t hc h
      refine lv_iconst (v := (-1 : Int32)) X.1 X.2.1 dX12_whole_17 (by decide) ?_
      obtain rfl := Option.some.inj h
      rw [hAA] at V
      rw [hQQ]
      exact k_iret X V rfl dX12_whole_18

def p_X12_isSeen (zT : tX12) (v1 : Int32) (v2 : Int32) (v3 : Int32) : Option (Bool) :=
  kg (kii v1 42) (kg (kii ((zT.2.2.1 35) v1.toNatClampNeg) 41) (kg (kii v1 42) (kg (kii ((zT.2.2.1 35) v1.toNatClampNeg) 41) (kb (p_X12_after zT v1) (fun x1 => kg (kii x1 42) (kg (kii ((zT.2.2.1 35) x1.toNatClampNeg) 41) (kb (p_X12_after zT v1) (fun x2 => kg (kii x2 42) (kg (kii ((zT.2.2.1 35) x2.toNatClampNeg) 41) (kb (p_X12_turnOf (((zT.2.2.1 12) (((zT.2.2.1 35) v1.toNatClampNeg)).toNatClampNeg)).toInt64 (((zT.2.2.1 13) (((zT.2.2.1 35) v1.toNatClampNeg)).toNatClampNeg)).toInt64 (((zT.2.2.1 12) (((zT.2.2.1 35) x1.toNatClampNeg)).toNatClampNeg)).toInt64 (((zT.2.2.1 13) (((zT.2.2.1 35) x2.toNatClampNeg)).toNatClampNeg)).toInt64 v2.toInt64 v3.toInt64) (fun x3 => kif (0 ≤ (lg_cmp x3 (0 : Int64))) (some false) (some true))))))))))))
set_option maxHeartbeats 4000000 in
set_option maxRecDepth 100000 in
theorem c_X12_isSeen (l : Launch) (D : va_G) (g : kG) (aT : Nat → Nat) (zT : tX12) (v1 : Int32) (v2 : Int32) (v3 : Int32) (r : Bool) (h : p_X12_isSeen zT v1 v2 v3 = some r) : kMi l yX12_isSeen cX12_isSeen 4 (some .boolean) (kR 1 31) D (kty g) [.ref (aT 0), .int v1, .int v2, .int v3] (List.flatten [gX12 g aT zT]) (kz r) (List.flatten [gX12 g aT zT]) := by
  intro sz
  refine k_enter (lv := [(0, .ref (aT 0)), (1, .int v1), (2, .int v2), (3, .int v3)]) RX12 (by decide +kernel) rfl rfl (Nat.le_of_ble_eq_true rfl) ?_
  intro p en s m args below meth c ls hsz X V hl
  obtain ⟨QQ, hQQ⟩ : ∃ q, q = MQ below (va_Qi (fun r' (_ : Unit) => r' = kz r) (fun _ => kE D (List.flatten [gX12 g aT zT])) (va_A (List.flatten [gX12 g aT zT]) sz)) args s 0 0 (va_A (List.flatten [gX12 g aT zT]) sz) := ⟨_, rfl⟩
  rw [← hQQ]
  obtain ⟨AA, hAA⟩ : ∃ q, q = va_A (List.flatten [gX12 g aT zT]) sz := ⟨_, rfl⟩
  rw [← hAA] at V
  unfold p_X12_isSeen at h
  refine lv_aload_n X.1 X.2.1 dX12_isSeen_0 rfl (lv_at hl 0 rfl) ?_
  refine gf_X12_33 (i := 0) X V rfl dX12_isSeen_1 ?_
  refine lv_aload_n X.1 X.2.1 dX12_isSeen_4 rfl (lv_at hl 0 rfl) ?_
  refine gf_X12_54 (i := 0) X V rfl dX12_isSeen_5 ?_
  refine lv_iload_n X.1 X.2.1 dX12_isSeen_8 rfl (lv_at hl 1 rfl) ?_
  obtain ⟨hc, h⟩ := kg_of h
  refine al_X12_35 (i := 0) X V rfl hc dX12_isSeen_9 ?_
  obtain ⟨hc, h⟩ := kg_of h
  refine al_X12_12 (i := 0) X V rfl hc dX12_isSeen_10 ?_
  refine lv_i2l X.1 X.2.1 dX12_isSeen_11 rfl ?_
  refine lv_aload_n X.1 X.2.1 dX12_isSeen_12 rfl (lv_at hl 0 rfl) ?_
  refine gf_X12_36 (i := 0) X V rfl dX12_isSeen_13 ?_
  refine lv_aload_n X.1 X.2.1 dX12_isSeen_16 rfl (lv_at hl 0 rfl) ?_
  refine gf_X12_54 (i := 0) X V rfl dX12_isSeen_17 ?_
  refine lv_iload_n X.1 X.2.1 dX12_isSeen_20 rfl (lv_at hl 1 rfl) ?_
  obtain ⟨hc, h⟩ := kg_of h
  refine al_X12_35 (i := 0) X V rfl hc dX12_isSeen_21 ?_
  obtain ⟨hc, h⟩ := kg_of h
  refine al_X12_13 (i := 0) X V rfl hc dX12_isSeen_22 ?_
  refine lv_i2l X.1 X.2.1 dX12_isSeen_23 rfl ?_
  refine lv_aload_n X.1 X.2.1 dX12_isSeen_24 rfl (lv_at hl 0 rfl) ?_
  refine gf_X12_33 (i := 0) X V rfl dX12_isSeen_25 ?_
  refine lv_aload_n X.1 X.2.1 dX12_isSeen_28 rfl (lv_at hl 0 rfl) ?_
  refine gf_X12_54 (i := 0) X V rfl dX12_isSeen_29 ?_
  refine lv_aload_n X.1 X.2.1 dX12_isSeen_32 rfl (lv_at hl 0 rfl) ?_
  refine lv_iload_n X.1 X.2.1 dX12_isSeen_33 rfl (lv_at hl 1 rfl) ?_
  obtain ⟨x4, hx4, h⟩ := kb_of h
  refine s_callVi (segs' := [gX12 g aT zT]) (ci := 12) (i0 := 0) X V (c_X12_after l D g aT zT v1 x4 hx4) w_X12_332 ⟨Nat.le_of_ble_eq_true rfl, Nat.le_of_ble_eq_true rfl⟩ ⟨Nat.zero_le _, Nat.zero_le _⟩ rfl rfl rfl rfl [0] rfl rfl (kFst_refl _) rfl rfl hl.1 (Nat.le_of_ble_eq_true rfl) dX12_isSeen_34 (fun H locs V => ?_)
  obtain ⟨hc, h⟩ := kg_of h
  refine al_X12_35 (i := 0) X V rfl hc dX12_isSeen_37 ?_
  obtain ⟨hc, h⟩ := kg_of h
  refine al_X12_12 (i := 0) X V rfl hc dX12_isSeen_38 ?_
  refine lv_i2l X.1 X.2.1 dX12_isSeen_39 rfl ?_
  refine lv_aload_n X.1 X.2.1 dX12_isSeen_40 rfl (lv_at hl 0 rfl) ?_
  refine gf_X12_36 (i := 0) X V rfl dX12_isSeen_41 ?_
  refine lv_aload_n X.1 X.2.1 dX12_isSeen_44 rfl (lv_at hl 0 rfl) ?_
  refine gf_X12_54 (i := 0) X V rfl dX12_isSeen_45 ?_
  refine lv_aload_n X.1 X.2.1 dX12_isSeen_48 rfl (lv_at hl 0 rfl) ?_
  refine lv_iload_n X.1 X.2.1 dX12_isSeen_49 rfl (lv_at hl 1 rfl) ?_
  obtain ⟨x5, hx5, h⟩ := kb_of h
  refine s_callVi (segs' := [gX12 g aT zT]) (ci := 12) (i0 := 0) X V (c_X12_after l D g aT zT v1 x5 hx5) w_X12_332 ⟨Nat.le_of_ble_eq_true rfl, Nat.le_of_ble_eq_true rfl⟩ ⟨Nat.zero_le _, Nat.zero_le _⟩ rfl rfl rfl rfl [0] rfl rfl (kFst_refl _) rfl rfl hl.1 (Nat.le_of_ble_eq_true rfl) dX12_isSeen_50 (fun H locs V => ?_)
  obtain ⟨hc, h⟩ := kg_of h
  refine al_X12_35 (i := 0) X V rfl hc dX12_isSeen_53 ?_
  obtain ⟨hc, h⟩ := kg_of h
  refine al_X12_13 (i := 0) X V rfl hc dX12_isSeen_54 ?_
  refine lv_i2l X.1 X.2.1 dX12_isSeen_55 rfl ?_
  refine lv_iload_n X.1 X.2.1 dX12_isSeen_56 rfl (lv_at hl 2 rfl) ?_
  refine lv_i2l X.1 X.2.1 dX12_isSeen_57 rfl ?_
  refine lv_iload_n X.1 X.2.1 dX12_isSeen_58 rfl (lv_at hl 3 rfl) ?_
  refine lv_i2l X.1 X.2.1 dX12_isSeen_59 rfl ?_
  obtain ⟨x6, hx6, h⟩ := kb_of h
  refine s_callSl (segs' := [gX12 g aT zT]) X V (c_X12_turnOf l D g (((zT.2.2.1 12) (((zT.2.2.1 35) v1.toNatClampNeg)).toNatClampNeg)).toInt64 (((zT.2.2.1 13) (((zT.2.2.1 35) v1.toNatClampNeg)).toNatClampNeg)).toInt64 (((zT.2.2.1 12) (((zT.2.2.1 35) x4.toNatClampNeg)).toNatClampNeg)).toInt64 (((zT.2.2.1 13) (((zT.2.2.1 35) x5.toNatClampNeg)).toNatClampNeg)).toInt64 v2.toInt64 v3.toInt64 x6 hx6) w_X12_403 ⟨Nat.le_of_ble_eq_true rfl, Nat.le_of_ble_eq_true rfl⟩ ⟨Nat.zero_le _, Nat.zero_le _⟩ rfl [] rfl rfl (kFst_refl _) rfl rfl hl.1 (Nat.le_of_ble_eq_true rfl) dX12_isSeen_60 (fun H locs V => ?_)
  refine lv_lconst (v := (0 : Int64)) X.1 X.2.1 dX12_isSeen_63 (by decide) ?_
  refine W.lcmp X.1 X.2.1 dX12_isSeen_64 ?_
  refine lv_if_ge (tgt := 72) X.1 X.2.1 dX12_isSeen_65 (by decide) (fun hc => ?_) (fun hc => ?_)
  · replace h := kif_t hc h
    refine lv_iconst (v := (0 : Int32)) X.1 X.2.1 dX12_isSeen_72 (by decide) ?_
    obtain rfl := Option.some.inj h
    rw [hAA] at V
    rw [hQQ]
    exact k_zret X V (b := false) rfl rfl dX12_isSeen_73
  · replace h := kif_f hc h
    refine lv_iconst (v := (1 : Int32)) X.1 X.2.1 dX12_isSeen_68 (by decide) ?_
    refine lv_goto (tgt := 73) X.1 X.2.1 dX12_isSeen_69 (by decide) ?_
    obtain rfl := Option.some.inj h
    rw [hAA] at V
    rw [hQQ]
    exact k_zret X V (b := true) rfl rfl dX12_isSeen_73

def p_X12_sees_J123_52 (v1 : Int32) (v2 : Int32) (v3 : Int32) (v4 : Int32) (zT : tX12) (v5 : Int32) (v6 : Int32) (v7 : Int32) (v8 : Int32) : Option (Nat × (Int32 × Int32 × Int32 × Int32)) :=
  kb (p_X12_after zT v8) (fun x10 => kb (p_X12_isSeen zT x10 v2 v3) (fun x11 => kif ((kz x11) = 0) (kb (p_X12_after zT v8) (fun x12 => kg (kii x12 42) (kg (kii ((zT.2.2.1 35) x12.toNatClampNeg) 41) (kl ((zT.2.2.1 14) (((zT.2.2.1 35) x12.toNatClampNeg)).toNatClampNeg) (fun y13 => kl (v8 + (1 : Int32)) (fun y14 => some (52, (v5, v6, y13, y14)))))))) (kl (v8 + (1 : Int32)) (fun y15 => some (52, (v5, v6, v7, y15))))))
def p_X12_sees_J96_52 (v1 : Int32) (v2 : Int32) (v3 : Int32) (v4 : Int32) (zT : tX12) (v5 : Int32) (v6 : Int32) (v7 : Int32) (v8 : Int32) (k96_0 : Int32) : Option (Nat × (Int32 × Int32 × Int32 × Int32)) :=
  kb (p_X12_isSeen zT k96_0 v2 v3) (fun x8 => kif ((kz x8) = 0) (kg (kii v8 42) (kg (kii ((zT.2.2.1 35) v8.toNatClampNeg) 41) (kl ((zT.2.2.1 14) (((zT.2.2.1 35) v8.toNatClampNeg)).toNatClampNeg) (fun y9 => p_X12_sees_J123_52 v1 v2 v3 v4 zT v5 y9 v7 v8)))) (p_X12_sees_J123_52 v1 v2 v3 v4 zT v5 v6 v7 v8))
def p_X12_sees_L52 (v1 : Int32) (v2 : Int32) (v3 : Int32) (v4 : Int32) (zT : tX12) (s : Int32 × Int32 × Int32 × Int32) : Option (Nat × (Int32 × Int32 × Int32 × Int32)) :=
  kif ((zT.1 37) ≤ s.2.2.2) (some (162, (s.1, s.2.1, s.2.2.1, s.2.2.2))) (kb (p_X12_isSeen zT s.2.2.2 v2 v3) (fun x5 => kif ((kz x5) = 0) (kl (s.2.2.2 + (1 : Int32)) (fun y6 => some (52, (s.1, s.2.1, s.2.2.1, y6)))) (kl (s.1 + (1 : Int32)) (fun y7 => kif (s.2.2.2 = 0) (p_X12_sees_J96_52 v1 v2 v3 v4 zT y7 s.2.1 s.2.2.1 s.2.2.2 ((zT.1 37) - (1 : Int32))) (p_X12_sees_J96_52 v1 v2 v3 v4 zT y7 s.2.1 s.2.2.1 s.2.2.2 (s.2.2.2 - (1 : Int32)))))))
def p_X12_sees (zT : tX12) (v1 : Int32) (v2 : Int32) (v3 : Int32) (v4 : Int32) : Option (Int32 × tX12) :=
  kb (p_X12_isFar v2 (300 : Int32)) (fun x1 => kif ((kz x1) = 0) (some ((-1 : Int32), zT)) (kb (p_X12_isFar v3 (300 : Int32)) (fun x2 => kif ((kz x2) = 0) (some ((-1 : Int32), zT)) (kb (p_X12_isIn v4 (0 : Int32) (2 : Int32)) (fun x3 => kif ((kz x3) = 0) (some ((-1 : Int32), zT)) (kb (p_X12_isWide zT v1) (fun x4 => kif ((kz x4.1) = 0) (some ((-1 : Int32), x4.2)) (kb (kitr 52 (fun q => p_X12_sees_L52 v1 v2 v3 v4 x4.2 q) kF ((0 : Int32), (-1 : Int32), (-1 : Int32), (0 : Int32))) (fun x16 => kg (x16.1 = 162) (kif (v4 = 0) (some (x16.2.1, x4.2)) (kif (v4 = (1 : Int32)) (some (x16.2.2.1, x4.2)) (some (x16.2.2.2.1, x4.2)))))))))))))
set_option maxHeartbeats 4000000 in
set_option maxRecDepth 100000 in
theorem c_X12_sees (l : Launch) (D : va_G) (g : kG) (aT : Nat → Nat) (zT : tX12) (v1 : Int32) (v2 : Int32) (v3 : Int32) (v4 : Int32) (r : Int32 × tX12) (h : p_X12_sees zT v1 v2 v3 v4 = some r) : kMi l yX12_sees cX12_sees 10 (some .int) (kR 5 111) D (kty g) [.ref (aT 0), .int v1, .int v2, .int v3, .int v4] (List.flatten [gX12 g aT zT]) r.1 (List.flatten [gX12 g aT r.2]) := by
  intro sz
  refine k_enter (lv := [(0, .ref (aT 0)), (1, .int v1), (2, .int v2), (3, .int v3), (4, .int v4)]) RX12 (by decide +kernel) rfl rfl (Nat.le_of_ble_eq_true rfl) ?_
  intro p en s m args below meth c ls hsz X V hl
  obtain ⟨QQ, hQQ⟩ : ∃ q, q = MQ below (va_Qi (fun r' (_ : Unit) => r' = r.1) (fun _ => kE D (List.flatten [gX12 g aT r.2])) (va_A (List.flatten [gX12 g aT zT]) sz)) args s 0 0 (va_A (List.flatten [gX12 g aT zT]) sz) := ⟨_, rfl⟩
  rw [← hQQ]
  obtain ⟨AA, hAA⟩ : ∃ q, q = va_A (List.flatten [gX12 g aT zT]) sz := ⟨_, rfl⟩
  rw [← hAA] at V
  unfold p_X12_sees at h
  refine lv_iload_n X.1 X.2.1 dX12_sees_0 rfl (lv_at hl 2 rfl) ?_
  refine lv_sipush (v := (300 : Int32)) X.1 X.2.1 dX12_sees_1 (by decide) ?_
  obtain ⟨x17, hx17, h⟩ := kb_of h
  refine s_callSi (segs' := [gX12 g aT zT]) X V (c_X12_isFar l D g v2 (300 : Int32) x17 hx17) w_X12_293 ⟨Nat.le_of_ble_eq_true rfl, Nat.le_of_ble_eq_true rfl⟩ ⟨Nat.zero_le _, Nat.zero_le _⟩ rfl [] rfl rfl (kFst_refl _) rfl rfl hl.1 (Nat.le_of_ble_eq_true rfl) dX12_sees_4 (fun H locs V => ?_)
  refine lv_if_eq (tgt := 38) X.1 X.2.1 dX12_sees_7 (by decide) (fun hc => ?_) (fun hc => ?_)
  · replace h := kif_t hc h
    refine lv_iconst (v := (-1 : Int32)) X.1 X.2.1 dX12_sees_38 (by decide) ?_
    obtain rfl := Option.some.inj h
    rw [hAA] at V
    rw [hQQ]
    exact k_iret X V rfl dX12_sees_39
  · replace h := kif_f hc h
    refine lv_iload_n X.1 X.2.1 dX12_sees_10 rfl (lv_at hl 3 rfl) ?_
    refine lv_sipush (v := (300 : Int32)) X.1 X.2.1 dX12_sees_11 (by decide) ?_
    obtain ⟨x18, hx18, h⟩ := kb_of h
    refine s_callSi (segs' := [gX12 g aT zT]) X V (c_X12_isFar l D g v3 (300 : Int32) x18 hx18) w_X12_293 ⟨Nat.le_of_ble_eq_true rfl, Nat.le_of_ble_eq_true rfl⟩ ⟨Nat.zero_le _, Nat.zero_le _⟩ rfl [] rfl rfl (kFst_refl _) rfl rfl hl.1 (Nat.le_of_ble_eq_true rfl) dX12_sees_14 (fun H locs V => ?_)
    refine lv_if_eq (tgt := 38) X.1 X.2.1 dX12_sees_17 (by decide) (fun hc => ?_) (fun hc => ?_)
    · replace h := kif_t hc h
      refine lv_iconst (v := (-1 : Int32)) X.1 X.2.1 dX12_sees_38 (by decide) ?_
      obtain rfl := Option.some.inj h
      rw [hAA] at V
      rw [hQQ]
      exact k_iret X V rfl dX12_sees_39
    · replace h := kif_f hc h
      refine lv_iload X.1 X.2.1 dX12_sees_20 (lv_at hl 4 rfl) ?_
      refine lv_iconst (v := (0 : Int32)) X.1 X.2.1 dX12_sees_22 (by decide) ?_
      refine lv_iconst (v := (2 : Int32)) X.1 X.2.1 dX12_sees_23 (by decide) ?_
      obtain ⟨x19, hx19, h⟩ := kb_of h
      refine s_callSi (segs' := [gX12 g aT zT]) X V (c_X12_isIn l D g v4 (0 : Int32) (2 : Int32) x19 hx19) w_X12_76 ⟨Nat.le_of_ble_eq_true rfl, Nat.le_of_ble_eq_true rfl⟩ ⟨Nat.zero_le _, Nat.zero_le _⟩ rfl [] rfl rfl (kFst_refl _) rfl rfl hl.1 (Nat.le_of_ble_eq_true rfl) dX12_sees_24 (fun H locs V => ?_)
      refine lv_if_eq (tgt := 38) X.1 X.2.1 dX12_sees_27 (by decide) (fun hc => ?_) (fun hc => ?_)
      · replace h := kif_t hc h
        refine lv_iconst (v := (-1 : Int32)) X.1 X.2.1 dX12_sees_38 (by decide) ?_
        obtain rfl := Option.some.inj h
        rw [hAA] at V
        rw [hQQ]
        exact k_iret X V rfl dX12_sees_39
      · replace h := kif_f hc h
        refine lv_aload_n X.1 X.2.1 dX12_sees_30 rfl (lv_at hl 0 rfl) ?_
        refine lv_iload_n X.1 X.2.1 dX12_sees_31 rfl (lv_at hl 1 rfl) ?_
        obtain ⟨x20, hx20, h⟩ := kb_of h
        refine s_callVi (segs' := [gX12 g aT x20.2]) (ci := 12) (i0 := 0) X V (c_X12_isWide l D g aT zT v1 x20 hx20) w_X12_344 ⟨Nat.le_of_ble_eq_true rfl, Nat.le_of_ble_eq_true rfl⟩ ⟨Nat.zero_le _, Nat.zero_le _⟩ rfl rfl rfl rfl [0] rfl rfl ⟨gX12_fst, trivial⟩ rfl rfl hl.1 (Nat.le_of_ble_eq_true rfl) dX12_sees_32 (fun H locs V => ?_)
        refine lv_if_ne (tgt := 40) X.1 X.2.1 dX12_sees_35 (by decide) (fun hc => ?_) (fun hc => ?_)
        · replace h := kif_f hc h
          refine lv_iconst (v := (0 : Int32)) X.1 X.2.1 dX12_sees_40 (by decide) ?_
          refine lv_istore (lv' := [(5, .int (0 : Int32)), (0, .ref (aT 0)), (1, .int v1), (2, .int v2), (3, .int v3), (4, .int v4)]) X.1 X.2.1 dX12_sees_41 hl (by decide) rfl (fun ls hl => ?_)
          refine lv_iconst (v := (-1 : Int32)) X.1 X.2.1 dX12_sees_43 (by decide) ?_
          refine lv_istore (lv' := [(6, .int (-1 : Int32)), (5, .int (0 : Int32)), (0, .ref (aT 0)), (1, .int v1), (2, .int v2), (3, .int v3), (4, .int v4)]) X.1 X.2.1 dX12_sees_44 hl (by decide) rfl (fun ls hl => ?_)
          refine lv_iconst (v := (-1 : Int32)) X.1 X.2.1 dX12_sees_46 (by decide) ?_
          refine lv_istore (lv' := [(7, .int (-1 : Int32)), (6, .int (-1 : Int32)), (5, .int (0 : Int32)), (0, .ref (aT 0)), (1, .int v1), (2, .int v2), (3, .int v3), (4, .int v4)]) X.1 X.2.1 dX12_sees_47 hl (by decide) rfl (fun ls hl => ?_)
          refine lv_iconst (v := (0 : Int32)) X.1 X.2.1 dX12_sees_49 (by decide) ?_
          refine lv_istore (lv' := [(8, .int (0 : Int32)), (7, .int (-1 : Int32)), (6, .int (-1 : Int32)), (5, .int (0 : Int32)), (0, .ref (aT 0)), (1, .int v1), (2, .int v2), (3, .int v3), (4, .int v4)]) X.1 X.2.1 dX12_sees_50 hl (by decide) rfl (fun ls hl => ?_)
          obtain ⟨x21, hx21, h⟩ := kb_of h
          refine (kitr_go (hd := 52) (body := fun q => p_X12_sees_L52 v1 v2 v3 v4 x20.2 q) (G := (fun e => ∀ (H : Heap) (locs : List Loc) (ls : Array Slot), kW D AA s.heap H (List.flatten [gX12 g aT x20.2]) locs → lv_has ls 10 [(0, .ref (aT 0)), (2, .int v2), (3, .int v3), (4, .int v4), (5, .int e.2.1), (6, .int e.2.2.1), (7, .int e.2.2.2.1), (8, .int e.2.2.2.2)] → W p l en (kR 5 111) s m args below meth c H locs 0 0 QQ (F0 m e.1 ls []))) (fun s22 e23 hb24 hG25 => ?_) kF _ x21 hx21 ?_) _ _ _ V (lv_sub hl [4, 6, 7, 8, 3, 2, 1, 0] rfl)
          · intro H locs ls V hl
            show W p l en (kR 5 111) s m args below meth c H locs 0 0 QQ (F0 m 52 ls [])
            have h : p_X12_sees_L52 v1 v2 v3 v4 x20.2 s22 = some e23 := hb24
            unfold p_X12_sees_L52 at h
            have V : kW D AA s.heap H (List.flatten [gX12 g aT x20.2]) locs := V
            have hl : lv_has ls 10 [(0, .ref (aT 0)), (2, .int v2), (3, .int v3), (4, .int v4), (5, .int s22.1), (6, .int s22.2.1), (7, .int s22.2.2.1), (8, .int s22.2.2.2)] := hl
            have J123 : ∀ (v5 : Int32) (v6 : Int32) (v7 : Int32) (v8 : Int32) (H : Heap) (locs : List Loc) (ls : Array Slot), p_X12_sees_J123_52 v1 v2 v3 v4 x20.2 v5 v6 v7 v8 = some e23 → kW D AA s.heap H (List.flatten [gX12 g aT x20.2]) locs → lv_has ls 10 [(0, .ref (aT 0)), (2, .int v2), (3, .int v3), (4, .int v4), (5, .int v5), (6, .int v6), (7, .int v7), (8, .int v8)] → W p l en (kR 5 111) s m args below meth c H locs 0 0 QQ (F0 m 123 ls []) := by
              intro v5 v6 v7 v8 H locs ls h V hl
              unfold p_X12_sees_J123_52 at h
              refine lv_aload_n X.1 X.2.1 dX12_sees_123 rfl (lv_at hl 0 rfl) ?_
              refine lv_aload_n X.1 X.2.1 dX12_sees_124 rfl (lv_at hl 0 rfl) ?_
              refine lv_iload X.1 X.2.1 dX12_sees_125 (lv_at hl 7 rfl) ?_
              obtain ⟨x26, hx26, h⟩ := kb_of h
              refine s_callVi (segs' := [gX12 g aT x20.2]) (ci := 12) (i0 := 0) X V (c_X12_after l D g aT x20.2 v8 x26 hx26) w_X12_332 ⟨Nat.le_of_ble_eq_true rfl, Nat.le_of_ble_eq_true rfl⟩ ⟨Nat.zero_le _, Nat.zero_le _⟩ rfl rfl rfl rfl [0] rfl rfl (kFst_refl _) rfl rfl hl.1 (Nat.le_of_ble_eq_true rfl) dX12_sees_127 (fun H locs V => ?_)
              refine lv_iload_n X.1 X.2.1 dX12_sees_130 rfl (lv_at hl 1 rfl) ?_
              refine lv_iload_n X.1 X.2.1 dX12_sees_131 rfl (lv_at hl 2 rfl) ?_
              obtain ⟨x27, hx27, h⟩ := kb_of h
              refine s_callVi (segs' := [gX12 g aT x20.2]) (ci := 12) (i0 := 0) X V (c_X12_isSeen l D g aT x20.2 x26 v2 v3 x27 hx27) w_X12_429 ⟨Nat.le_of_ble_eq_true rfl, Nat.le_of_ble_eq_true rfl⟩ ⟨Nat.zero_le _, Nat.zero_le _⟩ rfl rfl rfl rfl [0] rfl rfl (kFst_refl _) rfl rfl hl.1 (Nat.le_of_ble_eq_true rfl) dX12_sees_132 (fun H locs V => ?_)
              refine lv_if_ne (tgt := 156) X.1 X.2.1 dX12_sees_135 (by decide) (fun hc => ?_) (fun hc => ?_)
              · replace h := kif_f hc h
                obtain ⟨y28, ey28⟩ : ∃ y : Int32, y = (v8 + (1 : Int32)) := ⟨_, rfl⟩
                replace h := kl_of ey28 h
                refine lv_iinc (v := y28) (lv' := [(8, .int y28), (0, .ref (aT 0)), (2, .int v2), (3, .int v3), (4, .int v4), (5, .int v5), (6, .int v6), (7, .int v7)]) X.1 X.2.1 dX12_sees_156 hl (k := 7) rfl (by rw [ey28]; rfl) (by decide) rfl (fun ls hl => ?_)
                refine lv_goto (tgt := 52) X.1 X.2.1 dX12_sees_159 (by decide) ?_
                obtain rfl := Option.some.inj h
                exact hG25 _ _ _ V (lv_sub hl [1, 2, 3, 4, 5, 6, 7, 0] rfl)
              · replace h := kif_t hc h
                refine lv_aload_n X.1 X.2.1 dX12_sees_138 rfl (lv_at hl 0 rfl) ?_
                refine gf_X12_39 (i := 0) X V rfl dX12_sees_139 ?_
                refine lv_aload_n X.1 X.2.1 dX12_sees_142 rfl (lv_at hl 0 rfl) ?_
                refine gf_X12_54 (i := 0) X V rfl dX12_sees_143 ?_
                refine lv_aload_n X.1 X.2.1 dX12_sees_146 rfl (lv_at hl 0 rfl) ?_
                refine lv_iload X.1 X.2.1 dX12_sees_147 (lv_at hl 7 rfl) ?_
                obtain ⟨x29, hx29, h⟩ := kb_of h
                refine s_callVi (segs' := [gX12 g aT x20.2]) (ci := 12) (i0 := 0) X V (c_X12_after l D g aT x20.2 v8 x29 hx29) w_X12_332 ⟨Nat.le_of_ble_eq_true rfl, Nat.le_of_ble_eq_true rfl⟩ ⟨Nat.zero_le _, Nat.zero_le _⟩ rfl rfl rfl rfl [0] rfl rfl (kFst_refl _) rfl rfl hl.1 (Nat.le_of_ble_eq_true rfl) dX12_sees_149 (fun H locs V => ?_)
                obtain ⟨hc, h⟩ := kg_of h
                refine al_X12_35 (i := 0) X V rfl hc dX12_sees_152 ?_
                obtain ⟨hc, h⟩ := kg_of h
                refine al_X12_14 (i := 0) X V rfl hc dX12_sees_153 ?_
                refine lv_topi (fun y30 ey30 => ?_)
                replace h := kl_of ey30 h
                refine lv_istore (lv' := [(7, .int y30), (0, .ref (aT 0)), (2, .int v2), (3, .int v3), (4, .int v4), (5, .int v5), (6, .int v6), (8, .int v8)]) X.1 X.2.1 dX12_sees_154 hl (by decide) rfl (fun ls hl => ?_)
                obtain ⟨y31, ey31⟩ : ∃ y : Int32, y = (v8 + (1 : Int32)) := ⟨_, rfl⟩
                replace h := kl_of ey31 h
                refine lv_iinc (v := y31) (lv' := [(8, .int y31), (7, .int y30), (0, .ref (aT 0)), (2, .int v2), (3, .int v3), (4, .int v4), (5, .int v5), (6, .int v6)]) X.1 X.2.1 dX12_sees_156 hl (k := 7) rfl (by rw [ey31]; rfl) (by decide) rfl (fun ls hl => ?_)
                refine lv_goto (tgt := 52) X.1 X.2.1 dX12_sees_159 (by decide) ?_
                obtain rfl := Option.some.inj h
                exact hG25 _ _ _ V (lv_sub hl [2, 3, 4, 5, 6, 7, 1, 0] rfl)
            have J96 : ∀ (v5 : Int32) (v6 : Int32) (v7 : Int32) (v8 : Int32) (k96_0 : Int32) (H : Heap) (locs : List Loc) (ls : Array Slot), p_X12_sees_J96_52 v1 v2 v3 v4 x20.2 v5 v6 v7 v8 k96_0 = some e23 → kW D AA s.heap H (List.flatten [gX12 g aT x20.2]) locs → lv_has ls 10 [(0, .ref (aT 0)), (2, .int v2), (3, .int v3), (4, .int v4), (5, .int v5), (6, .int v6), (7, .int v7), (8, .int v8)] → W p l en (kR 5 111) s m args below meth c H locs 0 0 QQ (F0 m 96 ls [.int k96_0]) := by
              intro v5 v6 v7 v8 k96_0 H locs ls h V hl
              unfold p_X12_sees_J96_52 at h
              refine lv_istore (lv' := [(9, .int k96_0), (0, .ref (aT 0)), (2, .int v2), (3, .int v3), (4, .int v4), (5, .int v5), (6, .int v6), (7, .int v7), (8, .int v8)]) X.1 X.2.1 dX12_sees_96 hl (by decide) rfl (fun ls hl => ?_)
              refine lv_aload_n X.1 X.2.1 dX12_sees_98 rfl (lv_at hl 1 rfl) ?_
              refine lv_iload X.1 X.2.1 dX12_sees_99 (lv_at hl 0 rfl) ?_
              refine lv_iload_n X.1 X.2.1 dX12_sees_101 rfl (lv_at hl 2 rfl) ?_
              refine lv_iload_n X.1 X.2.1 dX12_sees_102 rfl (lv_at hl 3 rfl) ?_
              obtain ⟨x32, hx32, h⟩ := kb_of h
              refine s_callVi (segs' := [gX12 g aT x20.2]) (ci := 12) (i0 := 0) X V (c_X12_isSeen l D g aT x20.2 k96_0 v2 v3 x32 hx32) w_X12_429 ⟨Nat.le_of_ble_eq_true rfl, Nat.le_of_ble_eq_true rfl⟩ ⟨Nat.zero_le _, Nat.zero_le _⟩ rfl rfl rfl rfl [0] rfl rfl (kFst_refl _) rfl rfl hl.1 (Nat.le_of_ble_eq_true rfl) dX12_sees_103 (fun H locs V => ?_)
              refine lv_if_ne (tgt := 123) X.1 X.2.1 dX12_sees_106 (by decide) (fun hc => ?_) (fun hc => ?_)
              · replace h := kif_f hc h
                exact J123 v5 v6 v7 v8 _ _ _ h V (lv_sub hl [1, 2, 3, 4, 5, 6, 7, 8] rfl)
              · replace h := kif_t hc h
                refine lv_aload_n X.1 X.2.1 dX12_sees_109 rfl (lv_at hl 1 rfl) ?_
                refine gf_X12_39 (i := 0) X V rfl dX12_sees_110 ?_
                refine lv_aload_n X.1 X.2.1 dX12_sees_113 rfl (lv_at hl 1 rfl) ?_
                refine gf_X12_54 (i := 0) X V rfl dX12_sees_114 ?_
                refine lv_iload X.1 X.2.1 dX12_sees_117 (lv_at hl 8 rfl) ?_
                obtain ⟨hc, h⟩ := kg_of h
                refine al_X12_35 (i := 0) X V rfl hc dX12_sees_119 ?_
                obtain ⟨hc, h⟩ := kg_of h
                refine al_X12_14 (i := 0) X V rfl hc dX12_sees_120 ?_
                refine lv_topi (fun y33 ey33 => ?_)
                replace h := kl_of ey33 h
                refine lv_istore (lv' := [(6, .int y33), (9, .int k96_0), (0, .ref (aT 0)), (2, .int v2), (3, .int v3), (4, .int v4), (5, .int v5), (7, .int v7), (8, .int v8)]) X.1 X.2.1 dX12_sees_121 hl (by decide) rfl (fun ls hl => ?_)
                exact J123 v5 y33 v7 v8 _ _ _ h V (lv_sub hl [2, 3, 4, 5, 6, 0, 7, 8] rfl)
            refine lv_iload X.1 X.2.1 dX12_sees_52 (lv_at hl 7 rfl) ?_
            refine lv_aload_n X.1 X.2.1 dX12_sees_54 rfl (lv_at hl 0 rfl) ?_
            refine gf_X12_320 (i := 0) X V rfl dX12_sees_55 ?_
            refine lv_icmp_ge (tgt := 162) X.1 X.2.1 dX12_sees_58 (by decide) (fun hc => ?_) (fun hc => ?_)
            · replace h := kif_t hc h
              obtain rfl := Option.some.inj h
              exact hG25 _ _ _ V (lv_sub hl [0, 1, 2, 3, 4, 5, 6, 7] rfl)
            · replace h := kif_f hc h
              refine lv_aload_n X.1 X.2.1 dX12_sees_61 rfl (lv_at hl 0 rfl) ?_
              refine lv_iload X.1 X.2.1 dX12_sees_62 (lv_at hl 7 rfl) ?_
              refine lv_iload_n X.1 X.2.1 dX12_sees_64 rfl (lv_at hl 1 rfl) ?_
              refine lv_iload_n X.1 X.2.1 dX12_sees_65 rfl (lv_at hl 2 rfl) ?_
              obtain ⟨x34, hx34, h⟩ := kb_of h
              refine s_callVi (segs' := [gX12 g aT x20.2]) (ci := 12) (i0 := 0) X V (c_X12_isSeen l D g aT x20.2 s22.2.2.2 v2 v3 x34 hx34) w_X12_429 ⟨Nat.le_of_ble_eq_true rfl, Nat.le_of_ble_eq_true rfl⟩ ⟨Nat.zero_le _, Nat.zero_le _⟩ rfl rfl rfl rfl [0] rfl rfl (kFst_refl _) rfl rfl hl.1 (Nat.le_of_ble_eq_true rfl) dX12_sees_66 (fun H locs V => ?_)
              refine lv_if_ne (tgt := 75) X.1 X.2.1 dX12_sees_69 (by decide) (fun hc => ?_) (fun hc => ?_)
              · replace h := kif_f hc h
                obtain ⟨y35, ey35⟩ : ∃ y : Int32, y = (s22.1 + (1 : Int32)) := ⟨_, rfl⟩
                replace h := kl_of ey35 h
                refine lv_iinc (v := y35) (lv' := [(5, .int y35), (0, .ref (aT 0)), (2, .int v2), (3, .int v3), (4, .int v4), (6, .int s22.2.1), (7, .int s22.2.2.1), (8, .int s22.2.2.2)]) X.1 X.2.1 dX12_sees_75 hl (k := 4) rfl (by rw [ey35]; rfl) (by decide) rfl (fun ls hl => ?_)
                refine lv_iload X.1 X.2.1 dX12_sees_78 (lv_at hl 7 rfl) ?_
                refine lv_if_ne (tgt := 92) X.1 X.2.1 dX12_sees_80 (by decide) (fun hc => ?_) (fun hc => ?_)
                · replace h := kif_f hc h
                  refine lv_iload X.1 X.2.1 dX12_sees_92 (lv_at hl 7 rfl) ?_
                  refine lv_iconst (v := (1 : Int32)) X.1 X.2.1 dX12_sees_94 (by decide) ?_
                  refine lv_isub X.1 X.2.1 dX12_sees_95 ?_
                  exact J96 y35 s22.2.1 s22.2.2.1 s22.2.2.2 (s22.2.2.2 - (1 : Int32)) _ _ _ h V (lv_sub hl [1, 2, 3, 4, 0, 5, 6, 7] rfl)
                · replace h := kif_t hc h
                  refine lv_aload_n X.1 X.2.1 dX12_sees_83 rfl (lv_at hl 1 rfl) ?_
                  refine gf_X12_320 (i := 0) X V rfl dX12_sees_84 ?_
                  refine lv_iconst (v := (1 : Int32)) X.1 X.2.1 dX12_sees_87 (by decide) ?_
                  refine lv_isub X.1 X.2.1 dX12_sees_88 ?_
                  refine lv_goto (tgt := 96) X.1 X.2.1 dX12_sees_89 (by decide) ?_
                  exact J96 y35 s22.2.1 s22.2.2.1 s22.2.2.2 ((x20.2.1 37) - (1 : Int32)) _ _ _ h V (lv_sub hl [1, 2, 3, 4, 0, 5, 6, 7] rfl)
              · replace h := kif_t hc h
                refine lv_goto (tgt := 156) X.1 X.2.1 dX12_sees_72 (by decide) ?_
                obtain ⟨y36, ey36⟩ : ∃ y : Int32, y = (s22.2.2.2 + (1 : Int32)) := ⟨_, rfl⟩
                replace h := kl_of ey36 h
                refine lv_iinc (v := y36) (lv' := [(8, .int y36), (0, .ref (aT 0)), (2, .int v2), (3, .int v3), (4, .int v4), (5, .int s22.1), (6, .int s22.2.1), (7, .int s22.2.2.1)]) X.1 X.2.1 dX12_sees_156 hl (k := 7) rfl (by rw [ey36]; rfl) (by decide) rfl (fun ls hl => ?_)
                refine lv_goto (tgt := 52) X.1 X.2.1 dX12_sees_159 (by decide) ?_
                obtain rfl := Option.some.inj h
                exact hG25 _ _ _ V (lv_sub hl [1, 2, 3, 4, 5, 6, 7, 0] rfl)
          · intro H locs ls V hl
            have V : kW D AA s.heap H (List.flatten [gX12 g aT x20.2]) locs := V
            have hl : lv_has ls 10 [(0, .ref (aT 0)), (2, .int v2), (3, .int v3), (4, .int v4), (5, .int x21.2.1), (6, .int x21.2.2.1), (7, .int x21.2.2.2.1), (8, .int x21.2.2.2.2)] := hl
            obtain ⟨hc, h⟩ := kg_of h
            refine W.eq (g2 := F0 m 162 ls []) (by rw [hc]) ?_
            refine lv_iload X.1 X.2.1 dX12_sees_162 (lv_at hl 3 rfl) ?_
            refine lv_if_ne (tgt := 172) X.1 X.2.1 dX12_sees_164 (by decide) (fun hc => ?_) (fun hc => ?_)
            · replace h := kif_f hc h
              refine lv_iload X.1 X.2.1 dX12_sees_172 (lv_at hl 3 rfl) ?_
              refine lv_iconst (v := (1 : Int32)) X.1 X.2.1 dX12_sees_174 (by decide) ?_
              refine lv_icmp_ne (tgt := 183) X.1 X.2.1 dX12_sees_175 (by decide) (fun hc => ?_) (fun hc => ?_)
              · replace h := kif_f hc h
                refine lv_iload X.1 X.2.1 dX12_sees_183 (lv_at hl 6 rfl) ?_
                obtain rfl := Option.some.inj h
                rw [hAA] at V
                rw [hQQ]
                exact k_iret X V rfl dX12_sees_185
              · replace h := kif_t hc h
                refine lv_iload X.1 X.2.1 dX12_sees_178 (lv_at hl 5 rfl) ?_
                refine lv_goto (tgt := 185) X.1 X.2.1 dX12_sees_180 (by decide) ?_
                obtain rfl := Option.some.inj h
                rw [hAA] at V
                rw [hQQ]
                exact k_iret X V rfl dX12_sees_185
            · replace h := kif_t hc h
              refine lv_iload X.1 X.2.1 dX12_sees_167 (lv_at hl 4 rfl) ?_
              refine lv_goto (tgt := 185) X.1 X.2.1 dX12_sees_169 (by decide) ?_
              obtain rfl := Option.some.inj h
              rw [hAA] at V
              rw [hQQ]
              exact k_iret X V rfl dX12_sees_185
        · replace h := kif_t hc h
          refine lv_iconst (v := (-1 : Int32)) X.1 X.2.1 dX12_sees_38 (by decide) ?_
          obtain rfl := Option.some.inj h
          rw [hAA] at V
          rw [hQQ]
          exact k_iret X V rfl dX12_sees_39

def p_X12_deep_J190_121 (v1 : Int32) (v2 : Int32) (v3 : Int32) (zT : tX12) (v4 : Int32) (v5 : Int32) (v6 : Int32) (v7 : Int64) (v9 : Int64) (v11 : Int32) (v13 : Int32) (v14 : Int32) (v15 : Int64) (k190_0 : Int32) (k190_1 : Int32) : Option (Nat × (Int32 × Int32 × Int32 × Int32)) :=
  kl (k190_0 + k190_1) (fun y11 => kif ((lg_cmp v15 (0 : Int64)) = 0) (kg (kii v14 41) (kg (kii v14 41) (kif ((lg_cmp ((v7 * ((((zT.2.2.1 12) v14.toNatClampNeg) - v2)).toInt64) + (v9 * ((((zT.2.2.1 13) v14.toNatClampNeg) - v3)).toInt64)) (0 : Int64)) ≤ 0) (kl (v13 + (0 : Int32)) (fun y12 => kl (v14 + (1 : Int32)) (fun y13 => some (121, (v11, y11, y12, y13))))) (kl (v13 + (1 : Int32)) (fun y14 => kl (v14 + (1 : Int32)) (fun y15 => some (121, (v11, y11, y14, y15)))))))) (kl (v13 + (0 : Int32)) (fun y16 => kl (v14 + (1 : Int32)) (fun y17 => some (121, (v11, y11, y16, y17))))))
def p_X12_deep_J173_121 (v1 : Int32) (v2 : Int32) (v3 : Int32) (zT : tX12) (v4 : Int32) (v5 : Int32) (v6 : Int32) (v7 : Int64) (v9 : Int64) (v12 : Int32) (v13 : Int32) (v14 : Int32) (v15 : Int64) (k173_0 : Int32) (k173_1 : Int32) : Option (Nat × (Int32 × Int32 × Int32 × Int32)) :=
  kl (k173_0 + k173_1) (fun y10 => kif (0 ≤ (lg_cmp v15 (0 : Int64))) (p_X12_deep_J190_121 v1 v2 v3 zT v4 v5 v6 v7 v9 y10 v13 v14 v15 v12 (0 : Int32)) (p_X12_deep_J190_121 v1 v2 v3 zT v4 v5 v6 v7 v9 y10 v13 v14 v15 v12 (1 : Int32)))
def p_X12_deep_L121 (v1 : Int32) (v2 : Int32) (v3 : Int32) (zT : tX12) (v4 : Int32) (v5 : Int32) (v6 : Int32) (v7 : Int64) (v9 : Int64) (s : Int32 × Int32 × Int32 × Int32) : Option (Nat × (Int32 × Int32 × Int32 × Int32)) :=
  kif ((zT.1 15) ≤ s.2.2.2) (some (248, (s.1, s.2.1, s.2.2.1, s.2.2.2))) (kg (kii s.2.2.2 41) (kg (kii s.2.2.2 41) (kl ((v7 * ((((zT.2.2.1 13) s.2.2.2.toNatClampNeg) - v3)).toInt64) - (v9 * ((((zT.2.2.1 12) s.2.2.2.toNatClampNeg) - v2)).toInt64)) (fun y9 => kif ((lg_cmp y9 (0 : Int64)) ≤ 0) (p_X12_deep_J173_121 v1 v2 v3 zT v4 v5 v6 v7 v9 s.2.1 s.2.2.1 s.2.2.2 y9 s.1 (0 : Int32)) (p_X12_deep_J173_121 v1 v2 v3 zT v4 v5 v6 v7 v9 s.2.1 s.2.2.1 s.2.2.2 y9 s.1 (1 : Int32))))))
def p_X12_deep_J294_59 (v1 : Int32) (v2 : Int32) (v3 : Int32) (zT : tX12) (v4 : Int32) (v5 : Int32) (v6 : Int32) (k294_0 : Int32) (k294_1 : Int32) : Option (Nat × (Int32 × Int32)) :=
  kl (k294_0 + k294_1) (fun y20 => kif (v5 ≤ y20) (kl (v6 + (1 : Int32)) (fun y21 => some (59, (v5, y21)))) (kl (v6 + (1 : Int32)) (fun y22 => some (59, (y20, y22)))))
def p_X12_deep_J280_59 (v1 : Int32) (v2 : Int32) (v3 : Int32) (zT : tX12) (v4 : Int32) (v5 : Int32) (v6 : Int32) (v13 : Int32) (v14 : Int32) (k280_0 : Int32) : Option (Nat × (Int32 × Int32)) :=
  kif (v14 ≤ v13) (p_X12_deep_J294_59 v1 v2 v3 zT v4 v5 v6 k280_0 v14) (p_X12_deep_J294_59 v1 v2 v3 zT v4 v5 v6 k280_0 v13)
def p_X12_deep_J109_59 (v1 : Int32) (v2 : Int32) (v3 : Int32) (zT : tX12) (v4 : Int32) (v5 : Int32) (v6 : Int32) (v7 : Int64) (v9 : Int64) : Option (Nat × (Int32 × Int32)) :=
  kb (kitr 121 (fun q => p_X12_deep_L121 v1 v2 v3 zT v4 v5 v6 v7 v9 q) kF ((0 : Int32), (0 : Int32), (0 : Int32), (0 : Int32))) (fun x18 => kg (x18.1 = 248) (kl (((((zT.1 15) - v4) - x18.2.1) - x18.2.2.1) - x18.2.2.2.1) (fun y19 => kif (x18.2.2.1 ≤ x18.2.1) (p_X12_deep_J280_59 v1 v2 v3 zT v4 v5 v6 x18.2.2.2.1 y19 x18.2.2.1) (p_X12_deep_J280_59 v1 v2 v3 zT v4 v5 v6 x18.2.2.2.1 y19 x18.2.1))))
def p_X12_deep_L59 (v1 : Int32) (v2 : Int32) (v3 : Int32) (zT : tX12) (v4 : Int32) (s : Int32 × Int32) : Option (Nat × (Int32 × Int32)) :=
  kif ((zT.1 15) ≤ s.2) (some (319, (s.1, s.2))) (kg (kii s.2 41) (kl ((((zT.2.2.1 12) s.2.toNatClampNeg) - v2)).toInt64 (fun y6 => kg (kii s.2 41) (kl ((((zT.2.2.1 13) s.2.toNatClampNeg) - v3)).toInt64 (fun y7 => kif ((lg_cmp y6 (0 : Int64)) = 0) (kif ((lg_cmp y7 (0 : Int64)) = 0) (kl (s.2 + (1 : Int32)) (fun y8 => some (59, (s.1, y8)))) (p_X12_deep_J109_59 v1 v2 v3 zT v4 s.1 s.2 y6 y7)) (p_X12_deep_J109_59 v1 v2 v3 zT v4 s.1 s.2 y6 y7))))))
def p_X12_deep_J45 (v1 : Int32) (v2 : Int32) (v3 : Int32) (zT : tX12) (k45_0 : Int32) : Option (Int32 × tX12) :=
  kl ((zT.1 15) - k45_0) (fun y5 => kb (kitr 59 (fun q => p_X12_deep_L59 v1 v2 v3 zT k45_0 q) kF (y5, (0 : Int32))) (fun x23 => kg (x23.1 = 319) (some ((x23.2.1 + k45_0), zT))))
def p_X12_deep (zT : tX12) (v1 : Int32) (v2 : Int32) (v3 : Int32) : Option (Int32 × tX12) :=
  kb (p_X12_isFar v2 (300 : Int32)) (fun x1 => kif ((kz x1) = 0) (some ((-1 : Int32), zT)) (kb (p_X12_isFar v3 (300 : Int32)) (fun x2 => kif ((kz x2) = 0) (some ((-1 : Int32), zT)) (kb (p_X12_isLaid zT v1) (fun x3 => kif ((kz x3.1) = 0) (some ((-1 : Int32), x3.2)) (kb (p_X12_spotAt x3.2 v2 v3) (fun x4 => kif (x4 = (-1 : Int32)) (p_X12_deep_J45 v1 v2 v3 x3.2 (0 : Int32)) (p_X12_deep_J45 v1 v2 v3 x3.2 (1 : Int32)))))))))
set_option maxHeartbeats 4000000 in
set_option maxRecDepth 100000 in
theorem c_X12_deep (l : Launch) (D : va_G) (g : kG) (aT : Nat → Nat) (zT : tX12) (v1 : Int32) (v2 : Int32) (v3 : Int32) (r : Int32 × tX12) (h : p_X12_deep zT v1 v2 v3 = some r) : kMi l yX12_deep cX12_deep 17 (some .int) (kR 3 69) D (kty g) [.ref (aT 0), .int v1, .int v2, .int v3] (List.flatten [gX12 g aT zT]) r.1 (List.flatten [gX12 g aT r.2]) := by
  intro sz
  refine k_enter (lv := [(0, .ref (aT 0)), (1, .int v1), (2, .int v2), (3, .int v3)]) RX12 (by decide +kernel) rfl rfl (Nat.le_of_ble_eq_true rfl) ?_
  intro p en s m args below meth c ls hsz X V hl
  obtain ⟨QQ, hQQ⟩ : ∃ q, q = MQ below (va_Qi (fun r' (_ : Unit) => r' = r.1) (fun _ => kE D (List.flatten [gX12 g aT r.2])) (va_A (List.flatten [gX12 g aT zT]) sz)) args s 0 0 (va_A (List.flatten [gX12 g aT zT]) sz) := ⟨_, rfl⟩
  rw [← hQQ]
  obtain ⟨AA, hAA⟩ : ∃ q, q = va_A (List.flatten [gX12 g aT zT]) sz := ⟨_, rfl⟩
  rw [← hAA] at V
  have J45 : ∀ (zT : tX12) (k45_0 : Int32) (H : Heap) (locs : List Loc) (ls : Array Slot), p_X12_deep_J45 v1 v2 v3 zT k45_0 = some r → kW D AA s.heap H (List.flatten [gX12 g aT zT]) locs → lv_has ls 17 [(0, .ref (aT 0)), (2, .int v2), (3, .int v3)] → W p l en (kR 3 69) s m args below meth c H locs 0 0 QQ (F0 m 45 ls [.int k45_0]) := by
    intro zT k45_0 H locs ls h V hl
    unfold p_X12_deep_J45 at h
    refine lv_istore (lv' := [(4, .int k45_0), (0, .ref (aT 0)), (2, .int v2), (3, .int v3)]) X.1 X.2.1 dX12_deep_45 hl (by decide) rfl (fun ls hl => ?_)
    refine lv_aload_n X.1 X.2.1 dX12_deep_47 rfl (lv_at hl 1 rfl) ?_
    refine gf_X12_157 (i := 0) X V rfl dX12_deep_48 ?_
    refine lv_iload X.1 X.2.1 dX12_deep_51 (lv_at hl 0 rfl) ?_
    refine lv_isub X.1 X.2.1 dX12_deep_53 ?_
    refine lv_topi (fun y24 ey24 => ?_)
    replace h := kl_of ey24 h
    refine lv_istore (lv' := [(5, .int y24), (4, .int k45_0), (0, .ref (aT 0)), (2, .int v2), (3, .int v3)]) X.1 X.2.1 dX12_deep_54 hl (by decide) rfl (fun ls hl => ?_)
    refine lv_iconst (v := (0 : Int32)) X.1 X.2.1 dX12_deep_56 (by decide) ?_
    refine lv_istore (lv' := [(6, .int (0 : Int32)), (5, .int y24), (4, .int k45_0), (0, .ref (aT 0)), (2, .int v2), (3, .int v3)]) X.1 X.2.1 dX12_deep_57 hl (by decide) rfl (fun ls hl => ?_)
    obtain ⟨x25, hx25, h⟩ := kb_of h
    refine (kitr_go (hd := 59) (body := fun q => p_X12_deep_L59 v1 v2 v3 zT k45_0 q) (G := (fun e => ∀ (H : Heap) (locs : List Loc) (ls : Array Slot), kW D AA s.heap H (List.flatten [gX12 g aT zT]) locs → lv_has ls 17 [(0, .ref (aT 0)), (2, .int v2), (3, .int v3), (4, .int k45_0), (5, .int e.2.1), (6, .int e.2.2)] → W p l en (kR 3 69) s m args below meth c H locs 0 0 QQ (F0 m e.1 ls []))) (fun s26 e27 hb28 hG29 => ?_) kF _ x25 hx25 ?_) _ _ _ V (lv_sub hl [3, 4, 5, 2, 1, 0] rfl)
    · intro H locs ls V hl
      show W p l en (kR 3 69) s m args below meth c H locs 0 0 QQ (F0 m 59 ls [])
      have h : p_X12_deep_L59 v1 v2 v3 zT k45_0 s26 = some e27 := hb28
      unfold p_X12_deep_L59 at h
      have V : kW D AA s.heap H (List.flatten [gX12 g aT zT]) locs := V
      have hl : lv_has ls 17 [(0, .ref (aT 0)), (2, .int v2), (3, .int v3), (4, .int k45_0), (5, .int s26.1), (6, .int s26.2)] := hl
      have J294 : ∀ (v5 : Int32) (v6 : Int32) (k294_0 : Int32) (k294_1 : Int32) (H : Heap) (locs : List Loc) (ls : Array Slot), p_X12_deep_J294_59 v1 v2 v3 zT k45_0 v5 v6 k294_0 k294_1 = some e27 → kW D AA s.heap H (List.flatten [gX12 g aT zT]) locs → lv_has ls 17 [(0, .ref (aT 0)), (2, .int v2), (3, .int v3), (4, .int k45_0), (5, .int v5), (6, .int v6)] → W p l en (kR 3 69) s m args below meth c H locs 0 0 QQ (F0 m 294 ls [.int k294_1, .int k294_0]) := by
        intro v5 v6 k294_0 k294_1 H locs ls h V hl
        unfold p_X12_deep_J294_59 at h
        refine lv_iadd X.1 X.2.1 dX12_deep_294 ?_
        refine lv_topi (fun y30 ey30 => ?_)
        replace h := kl_of ey30 h
        refine lv_istore (lv' := [(15, .int y30), (0, .ref (aT 0)), (2, .int v2), (3, .int v3), (4, .int k45_0), (5, .int v5), (6, .int v6)]) X.1 X.2.1 dX12_deep_295 hl (by decide) rfl (fun ls hl => ?_)
        refine lv_iload X.1 X.2.1 dX12_deep_297 (lv_at hl 0 rfl) ?_
        refine lv_iload X.1 X.2.1 dX12_deep_299 (lv_at hl 5 rfl) ?_
        refine lv_icmp_ge (tgt := 309) X.1 X.2.1 dX12_deep_301 (by decide) (fun hc => ?_) (fun hc => ?_)
        · replace h := kif_t hc h
          refine lv_iload X.1 X.2.1 dX12_deep_309 (lv_at hl 5 rfl) ?_
          refine lv_istore (lv' := [(5, .int v5), (15, .int y30), (0, .ref (aT 0)), (2, .int v2), (3, .int v3), (4, .int k45_0), (6, .int v6)]) X.1 X.2.1 dX12_deep_311 hl (by decide) rfl (fun ls hl => ?_)
          obtain ⟨y31, ey31⟩ : ∃ y : Int32, y = (v6 + (1 : Int32)) := ⟨_, rfl⟩
          replace h := kl_of ey31 h
          refine lv_iinc (v := y31) (lv' := [(6, .int y31), (5, .int v5), (15, .int y30), (0, .ref (aT 0)), (2, .int v2), (3, .int v3), (4, .int k45_0)]) X.1 X.2.1 dX12_deep_313 hl (k := 6) rfl (by rw [ey31]; rfl) (by decide) rfl (fun ls hl => ?_)
          refine lv_goto (tgt := 59) X.1 X.2.1 dX12_deep_316 (by decide) ?_
          obtain rfl := Option.some.inj h
          exact hG29 _ _ _ V (lv_sub hl [3, 4, 5, 6, 1, 0] rfl)
        · replace h := kif_f hc h
          refine lv_iload X.1 X.2.1 dX12_deep_304 (lv_at hl 0 rfl) ?_
          refine lv_goto (tgt := 311) X.1 X.2.1 dX12_deep_306 (by decide) ?_
          refine lv_istore (lv' := [(5, .int y30), (15, .int y30), (0, .ref (aT 0)), (2, .int v2), (3, .int v3), (4, .int k45_0), (6, .int v6)]) X.1 X.2.1 dX12_deep_311 hl (by decide) rfl (fun ls hl => ?_)
          obtain ⟨y32, ey32⟩ : ∃ y : Int32, y = (v6 + (1 : Int32)) := ⟨_, rfl⟩
          replace h := kl_of ey32 h
          refine lv_iinc (v := y32) (lv' := [(6, .int y32), (5, .int y30), (15, .int y30), (0, .ref (aT 0)), (2, .int v2), (3, .int v3), (4, .int k45_0)]) X.1 X.2.1 dX12_deep_313 hl (k := 6) rfl (by rw [ey32]; rfl) (by decide) rfl (fun ls hl => ?_)
          refine lv_goto (tgt := 59) X.1 X.2.1 dX12_deep_316 (by decide) ?_
          obtain rfl := Option.some.inj h
          exact hG29 _ _ _ V (lv_sub hl [3, 4, 5, 6, 1, 0] rfl)
      have J280 : ∀ (v5 : Int32) (v6 : Int32) (v13 : Int32) (v14 : Int32) (k280_0 : Int32) (H : Heap) (locs : List Loc) (ls : Array Slot), p_X12_deep_J280_59 v1 v2 v3 zT k45_0 v5 v6 v13 v14 k280_0 = some e27 → kW D AA s.heap H (List.flatten [gX12 g aT zT]) locs → lv_has ls 17 [(0, .ref (aT 0)), (2, .int v2), (3, .int v3), (4, .int k45_0), (5, .int v5), (6, .int v6), (13, .int v13), (14, .int v14)] → W p l en (kR 3 69) s m args below meth c H locs 0 0 QQ (F0 m 280 ls [.int k280_0]) := by
        intro v5 v6 v13 v14 k280_0 H locs ls h V hl
        unfold p_X12_deep_J280_59 at h
        refine lv_iload X.1 X.2.1 dX12_deep_280 (lv_at hl 6 rfl) ?_
        refine lv_iload X.1 X.2.1 dX12_deep_282 (lv_at hl 7 rfl) ?_
        refine lv_icmp_ge (tgt := 292) X.1 X.2.1 dX12_deep_284 (by decide) (fun hc => ?_) (fun hc => ?_)
        · replace h := kif_t hc h
          refine lv_iload X.1 X.2.1 dX12_deep_292 (lv_at hl 7 rfl) ?_
          exact J294 v5 v6 k280_0 v14 _ _ _ h V (lv_sub hl [0, 1, 2, 3, 4, 5] rfl)
        · replace h := kif_f hc h
          refine lv_iload X.1 X.2.1 dX12_deep_287 (lv_at hl 6 rfl) ?_
          refine lv_goto (tgt := 294) X.1 X.2.1 dX12_deep_289 (by decide) ?_
          exact J294 v5 v6 k280_0 v13 _ _ _ h V (lv_sub hl [0, 1, 2, 3, 4, 5] rfl)
      have J109 : ∀ (v5 : Int32) (v6 : Int32) (v7 : Int64) (v9 : Int64) (H : Heap) (locs : List Loc) (ls : Array Slot), p_X12_deep_J109_59 v1 v2 v3 zT k45_0 v5 v6 v7 v9 = some e27 → kW D AA s.heap H (List.flatten [gX12 g aT zT]) locs → lv_has ls 17 [(0, .ref (aT 0)), (2, .int v2), (3, .int v3), (4, .int k45_0), (5, .int v5), (6, .int v6), (7, .long v7), (9, .long v9)] → W p l en (kR 3 69) s m args below meth c H locs 0 0 QQ (F0 m 109 ls []) := by
        intro v5 v6 v7 v9 H locs ls h V hl
        unfold p_X12_deep_J109_59 at h
        refine lv_iconst (v := (0 : Int32)) X.1 X.2.1 dX12_deep_109 (by decide) ?_
        refine lv_istore (lv' := [(11, .int (0 : Int32)), (0, .ref (aT 0)), (2, .int v2), (3, .int v3), (4, .int k45_0), (5, .int v5), (6, .int v6), (7, .long v7), (9, .long v9)]) X.1 X.2.1 dX12_deep_110 hl (by decide) rfl (fun ls hl => ?_)
        refine lv_iconst (v := (0 : Int32)) X.1 X.2.1 dX12_deep_112 (by decide) ?_
        refine lv_istore (lv' := [(12, .int (0 : Int32)), (11, .int (0 : Int32)), (0, .ref (aT 0)), (2, .int v2), (3, .int v3), (4, .int k45_0), (5, .int v5), (6, .int v6), (7, .long v7), (9, .long v9)]) X.1 X.2.1 dX12_deep_113 hl (by decide) rfl (fun ls hl => ?_)
        refine lv_iconst (v := (0 : Int32)) X.1 X.2.1 dX12_deep_115 (by decide) ?_
        refine lv_istore (lv' := [(13, .int (0 : Int32)), (12, .int (0 : Int32)), (11, .int (0 : Int32)), (0, .ref (aT 0)), (2, .int v2), (3, .int v3), (4, .int k45_0), (5, .int v5), (6, .int v6), (7, .long v7), (9, .long v9)]) X.1 X.2.1 dX12_deep_116 hl (by decide) rfl (fun ls hl => ?_)
        refine lv_iconst (v := (0 : Int32)) X.1 X.2.1 dX12_deep_118 (by decide) ?_
        refine lv_istore (lv' := [(14, .int (0 : Int32)), (13, .int (0 : Int32)), (12, .int (0 : Int32)), (11, .int (0 : Int32)), (0, .ref (aT 0)), (2, .int v2), (3, .int v3), (4, .int k45_0), (5, .int v5), (6, .int v6), (7, .long v7), (9, .long v9)]) X.1 X.2.1 dX12_deep_119 hl (by decide) rfl (fun ls hl => ?_)
        obtain ⟨x33, hx33, h⟩ := kb_of h
        refine (kitr_go (hd := 121) (body := fun q => p_X12_deep_L121 v1 v2 v3 zT k45_0 v5 v6 v7 v9 q) (G := (fun e => ∀ (H : Heap) (locs : List Loc) (ls : Array Slot), kW D AA s.heap H (List.flatten [gX12 g aT zT]) locs → lv_has ls 17 [(0, .ref (aT 0)), (2, .int v2), (3, .int v3), (4, .int k45_0), (5, .int v5), (6, .int v6), (7, .long v7), (9, .long v9), (11, .int e.2.1), (12, .int e.2.2.1), (13, .int e.2.2.2.1), (14, .int e.2.2.2.2)] → W p l en (kR 3 69) s m args below meth c H locs 0 0 QQ (F0 m e.1 ls []))) (fun s34 e35 hb36 hG37 => ?_) kF _ x33 hx33 ?_) _ _ _ V (lv_sub hl [4, 5, 6, 7, 8, 9, 10, 11, 3, 2, 1, 0] rfl)
        · intro H locs ls V hl
          show W p l en (kR 3 69) s m args below meth c H locs 0 0 QQ (F0 m 121 ls [])
          have h : p_X12_deep_L121 v1 v2 v3 zT k45_0 v5 v6 v7 v9 s34 = some e35 := hb36
          unfold p_X12_deep_L121 at h
          have V : kW D AA s.heap H (List.flatten [gX12 g aT zT]) locs := V
          have hl : lv_has ls 17 [(0, .ref (aT 0)), (2, .int v2), (3, .int v3), (4, .int k45_0), (5, .int v5), (6, .int v6), (7, .long v7), (9, .long v9), (11, .int s34.1), (12, .int s34.2.1), (13, .int s34.2.2.1), (14, .int s34.2.2.2)] := hl
          have J190 : ∀ (v11 : Int32) (v13 : Int32) (v14 : Int32) (v15 : Int64) (k190_0 : Int32) (k190_1 : Int32) (H : Heap) (locs : List Loc) (ls : Array Slot), p_X12_deep_J190_121 v1 v2 v3 zT k45_0 v5 v6 v7 v9 v11 v13 v14 v15 k190_0 k190_1 = some e35 → kW D AA s.heap H (List.flatten [gX12 g aT zT]) locs → lv_has ls 17 [(0, .ref (aT 0)), (2, .int v2), (3, .int v3), (4, .int k45_0), (5, .int v5), (6, .int v6), (7, .long v7), (9, .long v9), (11, .int v11), (13, .int v13), (14, .int v14), (15, .long v15)] → W p l en (kR 3 69) s m args below meth c H locs 0 0 QQ (F0 m 190 ls [.int k190_1, .int k190_0]) := by
            intro v11 v13 v14 v15 k190_0 k190_1 H locs ls h V hl
            unfold p_X12_deep_J190_121 at h
            refine lv_iadd X.1 X.2.1 dX12_deep_190 ?_
            refine lv_topi (fun y38 ey38 => ?_)
            replace h := kl_of ey38 h
            refine lv_istore (lv' := [(12, .int y38), (0, .ref (aT 0)), (2, .int v2), (3, .int v3), (4, .int k45_0), (5, .int v5), (6, .int v6), (7, .long v7), (9, .long v9), (11, .int v11), (13, .int v13), (14, .int v14), (15, .long v15)]) X.1 X.2.1 dX12_deep_191 hl (by decide) rfl (fun ls hl => ?_)
            refine lv_iload X.1 X.2.1 dX12_deep_193 (lv_at hl 10 rfl) ?_
            refine lv_lload X.1 X.2.1 dX12_deep_195 (lv_at hl 12 rfl) ?_
            refine lv_lconst (v := (0 : Int64)) X.1 X.2.1 dX12_deep_197 (by decide) ?_
            refine W.lcmp X.1 X.2.1 dX12_deep_198 ?_
            refine lv_if_ne (tgt := 238) X.1 X.2.1 dX12_deep_199 (by decide) (fun hc => ?_) (fun hc => ?_)
            · replace h := kif_f hc h
              refine lv_iconst (v := (0 : Int32)) X.1 X.2.1 dX12_deep_238 (by decide) ?_
              refine lv_iadd X.1 X.2.1 dX12_deep_239 ?_
              refine lv_topi (fun y39 ey39 => ?_)
              replace h := kl_of ey39 h
              refine lv_istore (lv' := [(13, .int y39), (12, .int y38), (0, .ref (aT 0)), (2, .int v2), (3, .int v3), (4, .int k45_0), (5, .int v5), (6, .int v6), (7, .long v7), (9, .long v9), (11, .int v11), (14, .int v14), (15, .long v15)]) X.1 X.2.1 dX12_deep_240 hl (by decide) rfl (fun ls hl => ?_)
              obtain ⟨y40, ey40⟩ : ∃ y : Int32, y = (v14 + (1 : Int32)) := ⟨_, rfl⟩
              replace h := kl_of ey40 h
              refine lv_iinc (v := y40) (lv' := [(14, .int y40), (13, .int y39), (12, .int y38), (0, .ref (aT 0)), (2, .int v2), (3, .int v3), (4, .int k45_0), (5, .int v5), (6, .int v6), (7, .long v7), (9, .long v9), (11, .int v11), (15, .long v15)]) X.1 X.2.1 dX12_deep_242 hl (k := 11) rfl (by rw [ey40]; rfl) (by decide) rfl (fun ls hl => ?_)
              refine lv_goto (tgt := 121) X.1 X.2.1 dX12_deep_245 (by decide) ?_
              obtain rfl := Option.some.inj h
              exact hG37 _ _ _ V (lv_sub hl [3, 4, 5, 6, 7, 8, 9, 10, 11, 2, 1, 0] rfl)
            · replace h := kif_t hc h
              refine lv_lload X.1 X.2.1 dX12_deep_202 (lv_at hl 7 rfl) ?_
              refine lv_aload_n X.1 X.2.1 dX12_deep_204 rfl (lv_at hl 1 rfl) ?_
              refine gf_X12_33 (i := 0) X V rfl dX12_deep_205 ?_
              refine lv_iload X.1 X.2.1 dX12_deep_208 (lv_at hl 11 rfl) ?_
              obtain ⟨hc, h⟩ := kg_of h
              refine al_X12_12 (i := 0) X V rfl hc dX12_deep_210 ?_
              refine lv_iload_n X.1 X.2.1 dX12_deep_211 rfl (lv_at hl 2 rfl) ?_
              refine lv_isub X.1 X.2.1 dX12_deep_212 ?_
              refine lv_i2l X.1 X.2.1 dX12_deep_213 rfl ?_
              refine lv_lmul X.1 X.2.1 dX12_deep_214 ?_
              refine lv_lload X.1 X.2.1 dX12_deep_215 (lv_at hl 8 rfl) ?_
              refine lv_aload_n X.1 X.2.1 dX12_deep_217 rfl (lv_at hl 1 rfl) ?_
              refine gf_X12_36 (i := 0) X V rfl dX12_deep_218 ?_
              refine lv_iload X.1 X.2.1 dX12_deep_221 (lv_at hl 11 rfl) ?_
              obtain ⟨hc, h⟩ := kg_of h
              refine al_X12_13 (i := 0) X V rfl hc dX12_deep_223 ?_
              refine lv_iload_n X.1 X.2.1 dX12_deep_224 rfl (lv_at hl 3 rfl) ?_
              refine lv_isub X.1 X.2.1 dX12_deep_225 ?_
              refine lv_i2l X.1 X.2.1 dX12_deep_226 rfl ?_
              refine lv_lmul X.1 X.2.1 dX12_deep_227 ?_
              refine lv_ladd X.1 X.2.1 dX12_deep_228 ?_
              refine lv_lconst (v := (0 : Int64)) X.1 X.2.1 dX12_deep_229 (by decide) ?_
              refine W.lcmp X.1 X.2.1 dX12_deep_230 ?_
              refine lv_if_le (tgt := 238) X.1 X.2.1 dX12_deep_231 (by decide) (fun hc => ?_) (fun hc => ?_)
              · replace h := kif_t hc h
                refine lv_iconst (v := (0 : Int32)) X.1 X.2.1 dX12_deep_238 (by decide) ?_
                refine lv_iadd X.1 X.2.1 dX12_deep_239 ?_
                refine lv_topi (fun y41 ey41 => ?_)
                replace h := kl_of ey41 h
                refine lv_istore (lv' := [(13, .int y41), (12, .int y38), (0, .ref (aT 0)), (2, .int v2), (3, .int v3), (4, .int k45_0), (5, .int v5), (6, .int v6), (7, .long v7), (9, .long v9), (11, .int v11), (14, .int v14), (15, .long v15)]) X.1 X.2.1 dX12_deep_240 hl (by decide) rfl (fun ls hl => ?_)
                obtain ⟨y42, ey42⟩ : ∃ y : Int32, y = (v14 + (1 : Int32)) := ⟨_, rfl⟩
                replace h := kl_of ey42 h
                refine lv_iinc (v := y42) (lv' := [(14, .int y42), (13, .int y41), (12, .int y38), (0, .ref (aT 0)), (2, .int v2), (3, .int v3), (4, .int k45_0), (5, .int v5), (6, .int v6), (7, .long v7), (9, .long v9), (11, .int v11), (15, .long v15)]) X.1 X.2.1 dX12_deep_242 hl (k := 11) rfl (by rw [ey42]; rfl) (by decide) rfl (fun ls hl => ?_)
                refine lv_goto (tgt := 121) X.1 X.2.1 dX12_deep_245 (by decide) ?_
                obtain rfl := Option.some.inj h
                exact hG37 _ _ _ V (lv_sub hl [3, 4, 5, 6, 7, 8, 9, 10, 11, 2, 1, 0] rfl)
              · replace h := kif_f hc h
                refine lv_iconst (v := (1 : Int32)) X.1 X.2.1 dX12_deep_234 (by decide) ?_
                refine lv_goto (tgt := 239) X.1 X.2.1 dX12_deep_235 (by decide) ?_
                refine lv_iadd X.1 X.2.1 dX12_deep_239 ?_
                refine lv_topi (fun y43 ey43 => ?_)
                replace h := kl_of ey43 h
                refine lv_istore (lv' := [(13, .int y43), (12, .int y38), (0, .ref (aT 0)), (2, .int v2), (3, .int v3), (4, .int k45_0), (5, .int v5), (6, .int v6), (7, .long v7), (9, .long v9), (11, .int v11), (14, .int v14), (15, .long v15)]) X.1 X.2.1 dX12_deep_240 hl (by decide) rfl (fun ls hl => ?_)
                obtain ⟨y44, ey44⟩ : ∃ y : Int32, y = (v14 + (1 : Int32)) := ⟨_, rfl⟩
                replace h := kl_of ey44 h
                refine lv_iinc (v := y44) (lv' := [(14, .int y44), (13, .int y43), (12, .int y38), (0, .ref (aT 0)), (2, .int v2), (3, .int v3), (4, .int k45_0), (5, .int v5), (6, .int v6), (7, .long v7), (9, .long v9), (11, .int v11), (15, .long v15)]) X.1 X.2.1 dX12_deep_242 hl (k := 11) rfl (by rw [ey44]; rfl) (by decide) rfl (fun ls hl => ?_)
                refine lv_goto (tgt := 121) X.1 X.2.1 dX12_deep_245 (by decide) ?_
                obtain rfl := Option.some.inj h
                exact hG37 _ _ _ V (lv_sub hl [3, 4, 5, 6, 7, 8, 9, 10, 11, 2, 1, 0] rfl)
          have J173 : ∀ (v12 : Int32) (v13 : Int32) (v14 : Int32) (v15 : Int64) (k173_0 : Int32) (k173_1 : Int32) (H : Heap) (locs : List Loc) (ls : Array Slot), p_X12_deep_J173_121 v1 v2 v3 zT k45_0 v5 v6 v7 v9 v12 v13 v14 v15 k173_0 k173_1 = some e35 → kW D AA s.heap H (List.flatten [gX12 g aT zT]) locs → lv_has ls 17 [(0, .ref (aT 0)), (2, .int v2), (3, .int v3), (4, .int k45_0), (5, .int v5), (6, .int v6), (7, .long v7), (9, .long v9), (12, .int v12), (13, .int v13), (14, .int v14), (15, .long v15)] → W p l en (kR 3 69) s m args below meth c H locs 0 0 QQ (F0 m 173 ls [.int k173_1, .int k173_0]) := by
            intro v12 v13 v14 v15 k173_0 k173_1 H locs ls h V hl
            unfold p_X12_deep_J173_121 at h
            refine lv_iadd X.1 X.2.1 dX12_deep_173 ?_
            refine lv_topi (fun y45 ey45 => ?_)
            replace h := kl_of ey45 h
            refine lv_istore (lv' := [(11, .int y45), (0, .ref (aT 0)), (2, .int v2), (3, .int v3), (4, .int k45_0), (5, .int v5), (6, .int v6), (7, .long v7), (9, .long v9), (12, .int v12), (13, .int v13), (14, .int v14), (15, .long v15)]) X.1 X.2.1 dX12_deep_174 hl (by decide) rfl (fun ls hl => ?_)
            refine lv_iload X.1 X.2.1 dX12_deep_176 (lv_at hl 9 rfl) ?_
            refine lv_lload X.1 X.2.1 dX12_deep_178 (lv_at hl 12 rfl) ?_
            refine lv_lconst (v := (0 : Int64)) X.1 X.2.1 dX12_deep_180 (by decide) ?_
            refine W.lcmp X.1 X.2.1 dX12_deep_181 ?_
            refine lv_if_ge (tgt := 189) X.1 X.2.1 dX12_deep_182 (by decide) (fun hc => ?_) (fun hc => ?_)
            · replace h := kif_t hc h
              refine lv_iconst (v := (0 : Int32)) X.1 X.2.1 dX12_deep_189 (by decide) ?_
              exact J190 y45 v13 v14 v15 v12 (0 : Int32) _ _ _ h V (lv_sub hl [1, 2, 3, 4, 5, 6, 7, 8, 0, 10, 11, 12] rfl)
            · replace h := kif_f hc h
              refine lv_iconst (v := (1 : Int32)) X.1 X.2.1 dX12_deep_185 (by decide) ?_
              refine lv_goto (tgt := 190) X.1 X.2.1 dX12_deep_186 (by decide) ?_
              exact J190 y45 v13 v14 v15 v12 (1 : Int32) _ _ _ h V (lv_sub hl [1, 2, 3, 4, 5, 6, 7, 8, 0, 10, 11, 12] rfl)
          refine lv_iload X.1 X.2.1 dX12_deep_121 (lv_at hl 11 rfl) ?_
          refine lv_aload_n X.1 X.2.1 dX12_deep_123 rfl (lv_at hl 0 rfl) ?_
          refine gf_X12_157 (i := 0) X V rfl dX12_deep_124 ?_
          refine lv_icmp_ge (tgt := 248) X.1 X.2.1 dX12_deep_127 (by decide) (fun hc => ?_) (fun hc => ?_)
          · replace h := kif_t hc h
            obtain rfl := Option.some.inj h
            exact hG37 _ _ _ V (lv_sub hl [0, 1, 2, 3, 4, 5, 6, 7, 8, 9, 10, 11] rfl)
          · replace h := kif_f hc h
            refine lv_lload X.1 X.2.1 dX12_deep_130 (lv_at hl 6 rfl) ?_
            refine lv_aload_n X.1 X.2.1 dX12_deep_132 rfl (lv_at hl 0 rfl) ?_
            refine gf_X12_36 (i := 0) X V rfl dX12_deep_133 ?_
            refine lv_iload X.1 X.2.1 dX12_deep_136 (lv_at hl 11 rfl) ?_
            obtain ⟨hc, h⟩ := kg_of h
            refine al_X12_13 (i := 0) X V rfl hc dX12_deep_138 ?_
            refine lv_iload_n X.1 X.2.1 dX12_deep_139 rfl (lv_at hl 2 rfl) ?_
            refine lv_isub X.1 X.2.1 dX12_deep_140 ?_
            refine lv_i2l X.1 X.2.1 dX12_deep_141 rfl ?_
            refine lv_lmul X.1 X.2.1 dX12_deep_142 ?_
            refine lv_lload X.1 X.2.1 dX12_deep_143 (lv_at hl 7 rfl) ?_
            refine lv_aload_n X.1 X.2.1 dX12_deep_145 rfl (lv_at hl 0 rfl) ?_
            refine gf_X12_33 (i := 0) X V rfl dX12_deep_146 ?_
            refine lv_iload X.1 X.2.1 dX12_deep_149 (lv_at hl 11 rfl) ?_
            obtain ⟨hc, h⟩ := kg_of h
            refine al_X12_12 (i := 0) X V rfl hc dX12_deep_151 ?_
            refine lv_iload_n X.1 X.2.1 dX12_deep_152 rfl (lv_at hl 1 rfl) ?_
            refine lv_isub X.1 X.2.1 dX12_deep_153 ?_
            refine lv_i2l X.1 X.2.1 dX12_deep_154 rfl ?_
            refine lv_lmul X.1 X.2.1 dX12_deep_155 ?_
            refine lv_lsub X.1 X.2.1 dX12_deep_156 ?_
            refine lv_topl (fun y46 ey46 => ?_)
            replace h := kl_of ey46 h
            refine lv_lstore (lv' := [(15, .long y46), (0, .ref (aT 0)), (2, .int v2), (3, .int v3), (4, .int k45_0), (5, .int v5), (6, .int v6), (7, .long v7), (9, .long v9), (11, .int s34.1), (12, .int s34.2.1), (13, .int s34.2.2.1), (14, .int s34.2.2.2)]) X.1 X.2.1 dX12_deep_157 hl (by decide) rfl (fun ls hl => ?_)
            refine lv_iload X.1 X.2.1 dX12_deep_159 (lv_at hl 9 rfl) ?_
            refine lv_lload X.1 X.2.1 dX12_deep_161 (lv_at hl 0 rfl) ?_
            refine lv_lconst (v := (0 : Int64)) X.1 X.2.1 dX12_deep_163 (by decide) ?_
            refine W.lcmp X.1 X.2.1 dX12_deep_164 ?_
            refine lv_if_le (tgt := 172) X.1 X.2.1 dX12_deep_165 (by decide) (fun hc => ?_) (fun hc => ?_)
            · replace h := kif_t hc h
              refine lv_iconst (v := (0 : Int32)) X.1 X.2.1 dX12_deep_172 (by decide) ?_
              exact J173 s34.2.1 s34.2.2.1 s34.2.2.2 y46 s34.1 (0 : Int32) _ _ _ h V (lv_sub hl [1, 2, 3, 4, 5, 6, 7, 8, 10, 11, 12, 0] rfl)
            · replace h := kif_f hc h
              refine lv_iconst (v := (1 : Int32)) X.1 X.2.1 dX12_deep_168 (by decide) ?_
              refine lv_goto (tgt := 173) X.1 X.2.1 dX12_deep_169 (by decide) ?_
              exact J173 s34.2.1 s34.2.2.1 s34.2.2.2 y46 s34.1 (1 : Int32) _ _ _ h V (lv_sub hl [1, 2, 3, 4, 5, 6, 7, 8, 10, 11, 12, 0] rfl)
        · intro H locs ls V hl
          have V : kW D AA s.heap H (List.flatten [gX12 g aT zT]) locs := V
          have hl : lv_has ls 17 [(0, .ref (aT 0)), (2, .int v2), (3, .int v3), (4, .int k45_0), (5, .int v5), (6, .int v6), (7, .long v7), (9, .long v9), (11, .int x33.2.1), (12, .int x33.2.2.1), (13, .int x33.2.2.2.1), (14, .int x33.2.2.2.2)] := hl
          obtain ⟨hc, h⟩ := kg_of h
          refine W.eq (g2 := F0 m 248 ls []) (by rw [hc]) ?_
          refine lv_aload_n X.1 X.2.1 dX12_deep_248 rfl (lv_at hl 0 rfl) ?_
          refine gf_X12_157 (i := 0) X V rfl dX12_deep_249 ?_
          refine lv_iload X.1 X.2.1 dX12_deep_252 (lv_at hl 3 rfl) ?_
          refine lv_isub X.1 X.2.1 dX12_deep_254 ?_
          refine lv_iload X.1 X.2.1 dX12_deep_255 (lv_at hl 8 rfl) ?_
          refine lv_isub X.1 X.2.1 dX12_deep_257 ?_
          refine lv_iload X.1 X.2.1 dX12_deep_258 (lv_at hl 9 rfl) ?_
          refine lv_isub X.1 X.2.1 dX12_deep_260 ?_
          refine lv_iload X.1 X.2.1 dX12_deep_261 (lv_at hl 10 rfl) ?_
          refine lv_isub X.1 X.2.1 dX12_deep_263 ?_
          refine lv_topi (fun y47 ey47 => ?_)
          replace h := kl_of ey47 h
          refine lv_istore (lv' := [(14, .int y47), (0, .ref (aT 0)), (2, .int v2), (3, .int v3), (4, .int k45_0), (5, .int v5), (6, .int v6), (7, .long v7), (9, .long v9), (11, .int x33.2.1), (12, .int x33.2.2.1), (13, .int x33.2.2.2.1)]) X.1 X.2.1 dX12_deep_264 hl (by decide) rfl (fun ls hl => ?_)
          refine lv_iload X.1 X.2.1 dX12_deep_266 (lv_at hl 9 rfl) ?_
          refine lv_iload X.1 X.2.1 dX12_deep_268 (lv_at hl 10 rfl) ?_
          refine lv_icmp_ge (tgt := 278) X.1 X.2.1 dX12_deep_270 (by decide) (fun hc => ?_) (fun hc => ?_)
          · replace h := kif_t hc h
            refine lv_iload X.1 X.2.1 dX12_deep_278 (lv_at hl 10 rfl) ?_
            exact J280 v5 v6 x33.2.2.2.1 y47 x33.2.2.1 _ _ _ h V (lv_sub hl [1, 2, 3, 4, 5, 6, 11, 0] rfl)
          · replace h := kif_f hc h
            refine lv_iload X.1 X.2.1 dX12_deep_273 (lv_at hl 9 rfl) ?_
            refine lv_goto (tgt := 280) X.1 X.2.1 dX12_deep_275 (by decide) ?_
            exact J280 v5 v6 x33.2.2.2.1 y47 x33.2.1 _ _ _ h V (lv_sub hl [1, 2, 3, 4, 5, 6, 11, 0] rfl)
      refine lv_iload X.1 X.2.1 dX12_deep_59 (lv_at hl 5 rfl) ?_
      refine lv_aload_n X.1 X.2.1 dX12_deep_61 rfl (lv_at hl 0 rfl) ?_
      refine gf_X12_157 (i := 0) X V rfl dX12_deep_62 ?_
      refine lv_icmp_ge (tgt := 319) X.1 X.2.1 dX12_deep_65 (by decide) (fun hc => ?_) (fun hc => ?_)
      · replace h := kif_t hc h
        obtain rfl := Option.some.inj h
        exact hG29 _ _ _ V (lv_sub hl [0, 1, 2, 3, 4, 5] rfl)
      · replace h := kif_f hc h
        refine lv_aload_n X.1 X.2.1 dX12_deep_68 rfl (lv_at hl 0 rfl) ?_
        refine gf_X12_33 (i := 0) X V rfl dX12_deep_69 ?_
        refine lv_iload X.1 X.2.1 dX12_deep_72 (lv_at hl 5 rfl) ?_
        obtain ⟨hc, h⟩ := kg_of h
        refine al_X12_12 (i := 0) X V rfl hc dX12_deep_74 ?_
        refine lv_iload_n X.1 X.2.1 dX12_deep_75 rfl (lv_at hl 1 rfl) ?_
        refine lv_isub X.1 X.2.1 dX12_deep_76 ?_
        refine lv_i2l X.1 X.2.1 dX12_deep_77 rfl ?_
        refine lv_topl (fun y48 ey48 => ?_)
        replace h := kl_of ey48 h
        refine lv_lstore (lv' := [(7, .long y48), (0, .ref (aT 0)), (2, .int v2), (3, .int v3), (4, .int k45_0), (5, .int s26.1), (6, .int s26.2)]) X.1 X.2.1 dX12_deep_78 hl (by decide) rfl (fun ls hl => ?_)
        refine lv_aload_n X.1 X.2.1 dX12_deep_80 rfl (lv_at hl 1 rfl) ?_
        refine gf_X12_36 (i := 0) X V rfl dX12_deep_81 ?_
        refine lv_iload X.1 X.2.1 dX12_deep_84 (lv_at hl 6 rfl) ?_
        obtain ⟨hc, h⟩ := kg_of h
        refine al_X12_13 (i := 0) X V rfl hc dX12_deep_86 ?_
        refine lv_iload_n X.1 X.2.1 dX12_deep_87 rfl (lv_at hl 3 rfl) ?_
        refine lv_isub X.1 X.2.1 dX12_deep_88 ?_
        refine lv_i2l X.1 X.2.1 dX12_deep_89 rfl ?_
        refine lv_topl (fun y49 ey49 => ?_)
        replace h := kl_of ey49 h
        refine lv_lstore (lv' := [(9, .long y49), (7, .long y48), (0, .ref (aT 0)), (2, .int v2), (3, .int v3), (4, .int k45_0), (5, .int s26.1), (6, .int s26.2)]) X.1 X.2.1 dX12_deep_90 hl (by decide) rfl (fun ls hl => ?_)
        refine lv_lload X.1 X.2.1 dX12_deep_92 (lv_at hl 1 rfl) ?_
        refine lv_lconst (v := (0 : Int64)) X.1 X.2.1 dX12_deep_94 (by decide) ?_
        refine W.lcmp X.1 X.2.1 dX12_deep_95 ?_
        refine lv_if_ne (tgt := 109) X.1 X.2.1 dX12_deep_96 (by decide) (fun hc => ?_) (fun hc => ?_)
        · replace h := kif_f hc h
          exact J109 s26.1 s26.2 y48 y49 _ _ _ h V (lv_sub hl [2, 3, 4, 5, 6, 7, 1, 0] rfl)
        · replace h := kif_t hc h
          refine lv_lload X.1 X.2.1 dX12_deep_99 (lv_at hl 0 rfl) ?_
          refine lv_lconst (v := (0 : Int64)) X.1 X.2.1 dX12_deep_101 (by decide) ?_
          refine W.lcmp X.1 X.2.1 dX12_deep_102 ?_
          refine lv_if_ne (tgt := 109) X.1 X.2.1 dX12_deep_103 (by decide) (fun hc => ?_) (fun hc => ?_)
          · replace h := kif_f hc h
            exact J109 s26.1 s26.2 y48 y49 _ _ _ h V (lv_sub hl [2, 3, 4, 5, 6, 7, 1, 0] rfl)
          · replace h := kif_t hc h
            refine lv_goto (tgt := 313) X.1 X.2.1 dX12_deep_106 (by decide) ?_
            obtain ⟨y50, ey50⟩ : ∃ y : Int32, y = (s26.2 + (1 : Int32)) := ⟨_, rfl⟩
            replace h := kl_of ey50 h
            refine lv_iinc (v := y50) (lv' := [(6, .int y50), (9, .long y49), (7, .long y48), (0, .ref (aT 0)), (2, .int v2), (3, .int v3), (4, .int k45_0), (5, .int s26.1)]) X.1 X.2.1 dX12_deep_313 hl (k := 7) rfl (by rw [ey50]; rfl) (by decide) rfl (fun ls hl => ?_)
            refine lv_goto (tgt := 59) X.1 X.2.1 dX12_deep_316 (by decide) ?_
            obtain rfl := Option.some.inj h
            exact hG29 _ _ _ V (lv_sub hl [3, 4, 5, 6, 7, 0] rfl)
    · intro H locs ls V hl
      have V : kW D AA s.heap H (List.flatten [gX12 g aT zT]) locs := V
      have hl : lv_has ls 17 [(0, .ref (aT 0)), (2, .int v2), (3, .int v3), (4, .int k45_0), (5, .int x25.2.1), (6, .int x25.2.2)] := hl
      obtain ⟨hc, h⟩ := kg_of h
      refine W.eq (g2 := F0 m 319 ls []) (by rw [hc]) ?_
      refine lv_iload X.1 X.2.1 dX12_deep_319 (lv_at hl 4 rfl) ?_
      refine lv_iload X.1 X.2.1 dX12_deep_321 (lv_at hl 3 rfl) ?_
      refine lv_iadd X.1 X.2.1 dX12_deep_323 ?_
      obtain rfl := Option.some.inj h
      rw [hAA] at V
      rw [hQQ]
      exact k_iret X V rfl dX12_deep_324
  unfold p_X12_deep at h
  refine lv_iload_n X.1 X.2.1 dX12_deep_0 rfl (lv_at hl 2 rfl) ?_
  refine lv_sipush (v := (300 : Int32)) X.1 X.2.1 dX12_deep_1 (by decide) ?_
  obtain ⟨x51, hx51, h⟩ := kb_of h
  refine s_callSi (segs' := [gX12 g aT zT]) X V (c_X12_isFar l D g v2 (300 : Int32) x51 hx51) w_X12_293 ⟨Nat.le_of_ble_eq_true rfl, Nat.le_of_ble_eq_true rfl⟩ ⟨Nat.zero_le _, Nat.zero_le _⟩ rfl [] rfl rfl (kFst_refl _) rfl rfl hl.1 (Nat.le_of_ble_eq_true rfl) dX12_deep_4 (fun H locs V => ?_)
  refine lv_if_eq (tgt := 28) X.1 X.2.1 dX12_deep_7 (by decide) (fun hc => ?_) (fun hc => ?_)
  · replace h := kif_t hc h
    refine lv_iconst (v := (-1 : Int32)) X.1 X.2.1 dX12_deep_28 (by decide) ?_
    obtain rfl := Option.some.inj h
    rw [hAA] at V
    rw [hQQ]
    exact k_iret X V rfl dX12_deep_29
  · replace h := kif_f hc h
    refine lv_iload_n X.1 X.2.1 dX12_deep_10 rfl (lv_at hl 3 rfl) ?_
    refine lv_sipush (v := (300 : Int32)) X.1 X.2.1 dX12_deep_11 (by decide) ?_
    obtain ⟨x52, hx52, h⟩ := kb_of h
    refine s_callSi (segs' := [gX12 g aT zT]) X V (c_X12_isFar l D g v3 (300 : Int32) x52 hx52) w_X12_293 ⟨Nat.le_of_ble_eq_true rfl, Nat.le_of_ble_eq_true rfl⟩ ⟨Nat.zero_le _, Nat.zero_le _⟩ rfl [] rfl rfl (kFst_refl _) rfl rfl hl.1 (Nat.le_of_ble_eq_true rfl) dX12_deep_14 (fun H locs V => ?_)
    refine lv_if_eq (tgt := 28) X.1 X.2.1 dX12_deep_17 (by decide) (fun hc => ?_) (fun hc => ?_)
    · replace h := kif_t hc h
      refine lv_iconst (v := (-1 : Int32)) X.1 X.2.1 dX12_deep_28 (by decide) ?_
      obtain rfl := Option.some.inj h
      rw [hAA] at V
      rw [hQQ]
      exact k_iret X V rfl dX12_deep_29
    · replace h := kif_f hc h
      refine lv_aload_n X.1 X.2.1 dX12_deep_20 rfl (lv_at hl 0 rfl) ?_
      refine lv_iload_n X.1 X.2.1 dX12_deep_21 rfl (lv_at hl 1 rfl) ?_
      obtain ⟨x53, hx53, h⟩ := kb_of h
      refine s_callVi (segs' := [gX12 g aT x53.2]) (ci := 12) (i0 := 0) X V (c_X12_isLaid l D g aT zT v1 x53 hx53) w_X12_173 ⟨Nat.le_of_ble_eq_true rfl, Nat.le_of_ble_eq_true rfl⟩ ⟨Nat.zero_le _, Nat.zero_le _⟩ rfl rfl rfl rfl [0] rfl rfl ⟨gX12_fst, trivial⟩ rfl rfl hl.1 (Nat.le_of_ble_eq_true rfl) dX12_deep_22 (fun H locs V => ?_)
      refine lv_if_ne (tgt := 30) X.1 X.2.1 dX12_deep_25 (by decide) (fun hc => ?_) (fun hc => ?_)
      · replace h := kif_f hc h
        refine lv_aload_n X.1 X.2.1 dX12_deep_30 rfl (lv_at hl 0 rfl) ?_
        refine lv_iload_n X.1 X.2.1 dX12_deep_31 rfl (lv_at hl 2 rfl) ?_
        refine lv_iload_n X.1 X.2.1 dX12_deep_32 rfl (lv_at hl 3 rfl) ?_
        obtain ⟨x54, hx54, h⟩ := kb_of h
        refine s_callVi (segs' := [gX12 g aT x53.2]) (ci := 12) (i0 := 0) X V (c_X12_spotAt l D g aT x53.2 v2 v3 x54 hx54) w_X12_314 ⟨Nat.le_of_ble_eq_true rfl, Nat.le_of_ble_eq_true rfl⟩ ⟨Nat.zero_le _, Nat.zero_le _⟩ rfl rfl rfl rfl [0] rfl rfl (kFst_refl _) rfl rfl hl.1 (Nat.le_of_ble_eq_true rfl) dX12_deep_33 (fun H locs V => ?_)
        refine lv_iconst (v := (-1 : Int32)) X.1 X.2.1 dX12_deep_36 (by decide) ?_
        refine lv_icmp_ne (tgt := 44) X.1 X.2.1 dX12_deep_37 (by decide) (fun hc => ?_) (fun hc => ?_)
        · replace h := kif_f hc h
          refine lv_iconst (v := (1 : Int32)) X.1 X.2.1 dX12_deep_44 (by decide) ?_
          exact J45 x53.2 (1 : Int32) _ _ _ h V (lv_sub hl [0, 2, 3] rfl)
        · replace h := kif_t hc h
          refine lv_iconst (v := (0 : Int32)) X.1 X.2.1 dX12_deep_40 (by decide) ?_
          refine lv_goto (tgt := 45) X.1 X.2.1 dX12_deep_41 (by decide) ?_
          exact J45 x53.2 (0 : Int32) _ _ _ h V (lv_sub hl [0, 2, 3] rfl)
      · replace h := kif_t hc h
        refine lv_iconst (v := (-1 : Int32)) X.1 X.2.1 dX12_deep_28 (by decide) ?_
        obtain rfl := Option.some.inj h
        rw [hAA] at V
        rw [hQQ]
        exact k_iret X V rfl dX12_deep_29

def p_X12_meetsAt_L15 (v1 : Int32) (v2 : Int32) (v3 : Int32) (s : Int32 × Int32 × tX12) : Option (Nat × (Int32 × Int32 × tX12)) :=
  kif ((20 : Int32) < s.2.1) (some (58, (s.1, s.2.1, s.2.2))) (kif (s.1 = (-1 : Int32)) (kg (kii (168 : Int32) 170) (kl (s.2.2.1, s.2.2.2.1, va_up s.2.2.2.2.1 0 (upd (s.2.2.2.2.1 0) ((168 : Int32)).toNatClampNeg s.2.1), s.2.2.2.2.2) (fun z2 => kb (p_X12_meets z2 v1 v2) (fun x3 => kif (x3.1 = (1 : Int32)) (kl (s.2.1 + (1 : Int32)) (fun y4 => some (15, (s.2.1, y4, x3.2)))) (kl (s.2.1 + (1 : Int32)) (fun y5 => some (15, (s.1, y5, x3.2)))))))) (some (58, (s.1, s.2.1, s.2.2))))
def p_X12_meetsAt (zT : tX12) (v1 : Int32) (v2 : Int32) : Option (Int32 × tX12) :=
  kg (kii (168 : Int32) 170) (kl ((zT.2.2.1 0) (168 : Int32).toNatClampNeg) (fun y1 => kb (kitr 15 (fun q => p_X12_meetsAt_L15 v1 v2 y1 q) kF ((-1 : Int32), (0 : Int32), zT)) (fun x6 => kg (x6.1 = 58) (kg (kii (168 : Int32) 170) (kl (x6.2.2.2.1, x6.2.2.2.2.1, va_up x6.2.2.2.2.2.1 0 (upd (x6.2.2.2.2.2.1 0) ((168 : Int32)).toNatClampNeg y1), x6.2.2.2.2.2.2) (fun z7 => some (x6.2.1, z7)))))))
set_option maxHeartbeats 4000000 in
set_option maxRecDepth 100000 in
theorem c_X12_meetsAt (l : Launch) (D : va_G) (g : kG) (aT : Nat → Nat) (zT : tX12) (v1 : Int32) (v2 : Int32) (r : Int32 × tX12) (h : p_X12_meetsAt zT v1 v2 = some r) : kMi l yX12_meetsAt cX12_meetsAt 6 (some .int) (kR 5 132) D (kty g) [.ref (aT 0), .int v1, .int v2] (List.flatten [gX12 g aT zT]) r.1 (List.flatten [gX12 g aT r.2]) := by
  intro sz
  refine k_enter (lv := [(0, .ref (aT 0)), (1, .int v1), (2, .int v2)]) RX12 (by decide +kernel) rfl rfl (Nat.le_of_ble_eq_true rfl) ?_
  intro p en s m args below meth c ls hsz X V hl
  obtain ⟨QQ, hQQ⟩ : ∃ q, q = MQ below (va_Qi (fun r' (_ : Unit) => r' = r.1) (fun _ => kE D (List.flatten [gX12 g aT r.2])) (va_A (List.flatten [gX12 g aT zT]) sz)) args s 0 0 (va_A (List.flatten [gX12 g aT zT]) sz) := ⟨_, rfl⟩
  rw [← hQQ]
  obtain ⟨AA, hAA⟩ : ∃ q, q = va_A (List.flatten [gX12 g aT zT]) sz := ⟨_, rfl⟩
  rw [← hAA] at V
  unfold p_X12_meetsAt at h
  refine lv_aload_n X.1 X.2.1 dX12_meetsAt_0 rfl (lv_at hl 0 rfl) ?_
  refine gf_X12_7 (i := 0) X V rfl dX12_meetsAt_1 ?_
  refine lv_sipush (v := (168 : Int32)) X.1 X.2.1 dX12_meetsAt_4 (by decide) ?_
  obtain ⟨hc, h⟩ := kg_of h
  refine al_X12_0 (i := 0) X V rfl hc dX12_meetsAt_7 ?_
  refine lv_topi (fun y8 ey8 => ?_)
  replace h := kl_of ey8 h
  refine lv_istore_n (lv' := [(3, .int y8), (0, .ref (aT 0)), (1, .int v1), (2, .int v2)]) X.1 X.2.1 dX12_meetsAt_8 rfl hl (by decide) rfl (fun ls hl => ?_)
  refine lv_iconst (v := (-1 : Int32)) X.1 X.2.1 dX12_meetsAt_9 (by decide) ?_
  refine lv_istore (lv' := [(4, .int (-1 : Int32)), (3, .int y8), (0, .ref (aT 0)), (1, .int v1), (2, .int v2)]) X.1 X.2.1 dX12_meetsAt_10 hl (by decide) rfl (fun ls hl => ?_)
  refine lv_iconst (v := (0 : Int32)) X.1 X.2.1 dX12_meetsAt_12 (by decide) ?_
  refine lv_istore (lv' := [(5, .int (0 : Int32)), (4, .int (-1 : Int32)), (3, .int y8), (0, .ref (aT 0)), (1, .int v1), (2, .int v2)]) X.1 X.2.1 dX12_meetsAt_13 hl (by decide) rfl (fun ls hl => ?_)
  obtain ⟨x9, hx9, h⟩ := kb_of h
  refine (kitr_go (hd := 15) (body := fun q => p_X12_meetsAt_L15 v1 v2 y8 q) (G := (fun e => ∀ (H : Heap) (locs : List Loc) (ls : Array Slot), kW D AA s.heap H (List.flatten [gX12 g aT e.2.2.2]) locs → lv_has ls 6 [(0, .ref (aT 0)), (1, .int v1), (2, .int v2), (3, .int y8), (4, .int e.2.1), (5, .int e.2.2.1)] → W p l en (kR 5 132) s m args below meth c H locs 0 0 QQ (F0 m e.1 ls []))) (fun s10 e11 hb12 hG13 => ?_) kF _ x9 hx9 ?_) _ _ _ V (lv_sub hl [3, 4, 5, 2, 1, 0] rfl)
  · intro H locs ls V hl
    show W p l en (kR 5 132) s m args below meth c H locs 0 0 QQ (F0 m 15 ls [])
    have h : p_X12_meetsAt_L15 v1 v2 y8 s10 = some e11 := hb12
    unfold p_X12_meetsAt_L15 at h
    have V : kW D AA s.heap H (List.flatten [gX12 g aT s10.2.2]) locs := V
    have hl : lv_has ls 6 [(0, .ref (aT 0)), (1, .int v1), (2, .int v2), (3, .int y8), (4, .int s10.1), (5, .int s10.2.1)] := hl
    refine lv_iload X.1 X.2.1 dX12_meetsAt_15 (lv_at hl 5 rfl) ?_
    refine lv_bipush (v := (20 : Int32)) X.1 X.2.1 dX12_meetsAt_17 (by decide) ?_
    refine lv_icmp_gt (tgt := 58) X.1 X.2.1 dX12_meetsAt_19 (by decide) (fun hc => ?_) (fun hc => ?_)
    · replace h := kif_t hc h
      obtain rfl := Option.some.inj h
      exact hG13 _ _ _ V (lv_sub hl [0, 1, 2, 3, 4, 5] rfl)
    · replace h := kif_f hc h
      refine lv_iload X.1 X.2.1 dX12_meetsAt_22 (lv_at hl 4 rfl) ?_
      refine lv_iconst (v := (-1 : Int32)) X.1 X.2.1 dX12_meetsAt_24 (by decide) ?_
      refine lv_icmp_ne (tgt := 58) X.1 X.2.1 dX12_meetsAt_25 (by decide) (fun hc => ?_) (fun hc => ?_)
      · replace h := kif_f hc h
        obtain rfl := Option.some.inj h
        exact hG13 _ _ _ V (lv_sub hl [0, 1, 2, 3, 4, 5] rfl)
      · replace h := kif_t hc h
        refine lv_aload_n X.1 X.2.1 dX12_meetsAt_28 rfl (lv_at hl 0 rfl) ?_
        refine gf_X12_7 (i := 0) X V rfl dX12_meetsAt_29 ?_
        refine lv_sipush (v := (168 : Int32)) X.1 X.2.1 dX12_meetsAt_32 (by decide) ?_
        refine lv_iload X.1 X.2.1 dX12_meetsAt_35 (lv_at hl 5 rfl) ?_
        obtain ⟨hc, h⟩ := kg_of h
        refine as_X12_0 (i := 0) X V rfl hc dX12_meetsAt_37 (fun H locs V => ?_)
        obtain ⟨z14, ez14⟩ : ∃ y, y = (s10.2.2.1, s10.2.2.2.1, va_up s10.2.2.2.2.1 0 (upd (s10.2.2.2.2.1 0) ((168 : Int32)).toNatClampNeg s10.2.1), s10.2.2.2.2.2) := ⟨_, rfl⟩
        replace h := kl_of ez14 h
        have V : kW D AA s.heap H (List.flatten [gX12 g aT z14]) locs := by rw [ez14]; exact V
        refine lv_aload_n X.1 X.2.1 dX12_meetsAt_38 rfl (lv_at hl 0 rfl) ?_
        refine lv_iload_n X.1 X.2.1 dX12_meetsAt_39 rfl (lv_at hl 1 rfl) ?_
        refine lv_iload_n X.1 X.2.1 dX12_meetsAt_40 rfl (lv_at hl 2 rfl) ?_
        obtain ⟨x15, hx15, h⟩ := kb_of h
        refine s_callVi (segs' := [gX12 g aT x15.2]) (ci := 12) (i0 := 0) X V (c_X12_meets l D g aT z14 v1 v2 x15 hx15) w_X12_432 ⟨Nat.le_of_ble_eq_true rfl, Nat.le_of_ble_eq_true rfl⟩ ⟨Nat.zero_le _, Nat.zero_le _⟩ rfl rfl rfl rfl [0] rfl rfl ⟨gX12_fst, trivial⟩ rfl rfl hl.1 (Nat.le_of_ble_eq_true rfl) dX12_meetsAt_41 (fun H locs V => ?_)
        refine lv_iconst (v := (1 : Int32)) X.1 X.2.1 dX12_meetsAt_44 (by decide) ?_
        refine lv_icmp_ne (tgt := 52) X.1 X.2.1 dX12_meetsAt_45 (by decide) (fun hc => ?_) (fun hc => ?_)
        · replace h := kif_f hc h
          obtain ⟨y16, ey16⟩ : ∃ y : Int32, y = (s10.2.1 + (1 : Int32)) := ⟨_, rfl⟩
          replace h := kl_of ey16 h
          refine lv_iinc (v := y16) (lv' := [(5, .int y16), (0, .ref (aT 0)), (1, .int v1), (2, .int v2), (3, .int y8), (4, .int s10.1)]) X.1 X.2.1 dX12_meetsAt_52 hl (k := 5) rfl (by rw [ey16]; rfl) (by decide) rfl (fun ls hl => ?_)
          refine lv_goto (tgt := 15) X.1 X.2.1 dX12_meetsAt_55 (by decide) ?_
          obtain rfl := Option.some.inj h
          exact hG13 _ _ _ V (lv_sub hl [1, 2, 3, 4, 5, 0] rfl)
        · replace h := kif_t hc h
          refine lv_iload X.1 X.2.1 dX12_meetsAt_48 (lv_at hl 5 rfl) ?_
          refine lv_istore (lv' := [(4, .int s10.2.1), (0, .ref (aT 0)), (1, .int v1), (2, .int v2), (3, .int y8), (5, .int s10.2.1)]) X.1 X.2.1 dX12_meetsAt_50 hl (by decide) rfl (fun ls hl => ?_)
          obtain ⟨y17, ey17⟩ : ∃ y : Int32, y = (s10.2.1 + (1 : Int32)) := ⟨_, rfl⟩
          replace h := kl_of ey17 h
          refine lv_iinc (v := y17) (lv' := [(5, .int y17), (4, .int s10.2.1), (0, .ref (aT 0)), (1, .int v1), (2, .int v2), (3, .int y8)]) X.1 X.2.1 dX12_meetsAt_52 hl (k := 5) rfl (by rw [ey17]; rfl) (by decide) rfl (fun ls hl => ?_)
          refine lv_goto (tgt := 15) X.1 X.2.1 dX12_meetsAt_55 (by decide) ?_
          obtain rfl := Option.some.inj h
          exact hG13 _ _ _ V (lv_sub hl [2, 3, 4, 5, 1, 0] rfl)
  · intro H locs ls V hl
    have V : kW D AA s.heap H (List.flatten [gX12 g aT x9.2.2.2]) locs := V
    have hl : lv_has ls 6 [(0, .ref (aT 0)), (1, .int v1), (2, .int v2), (3, .int y8), (4, .int x9.2.1), (5, .int x9.2.2.1)] := hl
    obtain ⟨hc, h⟩ := kg_of h
    refine W.eq (g2 := F0 m 58 ls []) (by rw [hc]) ?_
    refine lv_aload_n X.1 X.2.1 dX12_meetsAt_58 rfl (lv_at hl 0 rfl) ?_
    refine gf_X12_7 (i := 0) X V rfl dX12_meetsAt_59 ?_
    refine lv_sipush (v := (168 : Int32)) X.1 X.2.1 dX12_meetsAt_62 (by decide) ?_
    refine lv_iload_n X.1 X.2.1 dX12_meetsAt_65 rfl (lv_at hl 3 rfl) ?_
    obtain ⟨hc, h⟩ := kg_of h
    refine as_X12_0 (i := 0) X V rfl hc dX12_meetsAt_66 (fun H locs V => ?_)
    obtain ⟨z18, ez18⟩ : ∃ y, y = (x9.2.2.2.1, x9.2.2.2.2.1, va_up x9.2.2.2.2.2.1 0 (upd (x9.2.2.2.2.2.1 0) ((168 : Int32)).toNatClampNeg y8), x9.2.2.2.2.2.2) := ⟨_, rfl⟩
    replace h := kl_of ez18 h
    have V : kW D AA s.heap H (List.flatten [gX12 g aT z18]) locs := by rw [ez18]; exact V
    refine lv_iload X.1 X.2.1 dX12_meetsAt_67 (lv_at hl 4 rfl) ?_
    obtain rfl := Option.some.inj h
    rw [hAA] at V
    rw [hQQ]
    exact k_iret X V rfl dX12_meetsAt_69

def p_X12_tightNow_L15 (v1 : Int32) (zT : tX12) (s : Int64 × Int32) : Option (Nat × (Int64 × Int32)) :=
  kif ((zT.1 32) ≤ s.2) (some (47, (s.1, s.2))) (kg (kii s.2 3) (kg (kii ((zT.2.2.1 31) s.2.toNatClampNeg) 41) (kl (s.1 ||| ((1 : Int64) <<< (((zT.2.2.1 14) (((zT.2.2.1 31) s.2.toNatClampNeg)).toNatClampNeg).toInt64 &&& 63))) (fun y4 => kl (s.2 + (1 : Int32)) (fun y5 => some (15, (y4, y5)))))))
def p_X12_tightNow (zT : tX12) (v1 : Int32) : Option (Int64 × tX12) :=
  kb (p_X12_hasCircle zT v1) (fun x1 => kl (kz x1.1) (fun y2 => kb (p_X12_layTight x1.2) (fun x3 => kb (kitr 15 (fun q => p_X12_tightNow_L15 v1 x3 q) kF ((0 : Int64), (0 : Int32))) (fun x6 => kg (x6.1 = 47) (some (x6.2.1, x3))))))
set_option maxHeartbeats 4000000 in
set_option maxRecDepth 100000 in
theorem c_X12_tightNow (l : Launch) (D : va_G) (g : kG) (aT : Nat → Nat) (zT : tX12) (v1 : Int32) (r : Int64 × tX12) (h : p_X12_tightNow zT v1 = some r) : kMl l yX12_tightNow cX12_tightNow 6 (some .long) (kR 6 170) D (kty g) [.ref (aT 0), .int v1] (List.flatten [gX12 g aT zT]) r.1 (List.flatten [gX12 g aT r.2]) := by
  intro sz
  refine k_enter (lv := [(0, .ref (aT 0)), (1, .int v1)]) RX12 (by decide +kernel) rfl rfl (Nat.le_of_ble_eq_true rfl) ?_
  intro p en s m args below meth c ls hsz X V hl
  obtain ⟨QQ, hQQ⟩ : ∃ q, q = MQ below (va_Ql (fun r' (_ : Unit) => r' = r.1) (fun _ => kE D (List.flatten [gX12 g aT r.2])) (va_A (List.flatten [gX12 g aT zT]) sz)) args s 0 0 (va_A (List.flatten [gX12 g aT zT]) sz) := ⟨_, rfl⟩
  rw [← hQQ]
  obtain ⟨AA, hAA⟩ : ∃ q, q = va_A (List.flatten [gX12 g aT zT]) sz := ⟨_, rfl⟩
  rw [← hAA] at V
  unfold p_X12_tightNow at h
  refine lv_aload_n X.1 X.2.1 dX12_tightNow_0 rfl (lv_at hl 0 rfl) ?_
  refine lv_iload_n X.1 X.2.1 dX12_tightNow_1 rfl (lv_at hl 1 rfl) ?_
  obtain ⟨x7, hx7, h⟩ := kb_of h
  refine s_callVi (segs' := [gX12 g aT x7.2]) (ci := 12) (i0 := 0) X V (c_X12_hasCircle l D g aT zT v1 x7 hx7) w_X12_288 ⟨Nat.le_of_ble_eq_true rfl, Nat.le_of_ble_eq_true rfl⟩ ⟨Nat.zero_le _, Nat.zero_le _⟩ rfl rfl rfl rfl [0] rfl rfl ⟨gX12_fst, trivial⟩ rfl rfl hl.1 (Nat.le_of_ble_eq_true rfl) dX12_tightNow_2 (fun H locs V => ?_)
  refine lv_topi (fun y8 ey8 => ?_)
  replace h := kl_of ey8 h
  refine lv_istore_n (lv' := [(2, .int y8), (0, .ref (aT 0)), (1, .int v1)]) X.1 X.2.1 dX12_tightNow_5 rfl hl (by decide) rfl (fun ls hl => ?_)
  refine lv_aload_n X.1 X.2.1 dX12_tightNow_6 rfl (lv_at hl 1 rfl) ?_
  obtain ⟨x9, hx9, h⟩ := kb_of h
  refine s_callVv (segs' := [gX12 g aT x9]) (ci := 12) (i0 := 0) X V (c_X12_layTight l D g aT x7.2 x9 hx9) w_X12_308 ⟨Nat.le_of_ble_eq_true rfl, Nat.le_of_ble_eq_true rfl⟩ ⟨Nat.zero_le _, Nat.zero_le _⟩ rfl rfl rfl rfl [0] rfl rfl ⟨gX12_fst, trivial⟩ rfl rfl hl.1 (Nat.le_of_ble_eq_true rfl) dX12_tightNow_7 (fun H locs V => ?_)
  refine lv_lconst (v := (0 : Int64)) X.1 X.2.1 dX12_tightNow_10 (by decide) ?_
  refine lv_lstore_n (lv' := [(3, .long (0 : Int64)), (2, .int y8), (0, .ref (aT 0)), (1, .int v1)]) X.1 X.2.1 dX12_tightNow_11 rfl hl (by decide) rfl (fun ls hl => ?_)
  refine lv_iconst (v := (0 : Int32)) X.1 X.2.1 dX12_tightNow_12 (by decide) ?_
  refine lv_istore (lv' := [(5, .int (0 : Int32)), (3, .long (0 : Int64)), (2, .int y8), (0, .ref (aT 0)), (1, .int v1)]) X.1 X.2.1 dX12_tightNow_13 hl (by decide) rfl (fun ls hl => ?_)
  obtain ⟨x10, hx10, h⟩ := kb_of h
  refine (kitr_go (hd := 15) (body := fun q => p_X12_tightNow_L15 v1 x9 q) (G := (fun e => ∀ (H : Heap) (locs : List Loc) (ls : Array Slot), kW D AA s.heap H (List.flatten [gX12 g aT x9]) locs → lv_has ls 6 [(0, .ref (aT 0)), (3, .long e.2.1), (5, .int e.2.2)] → W p l en (kR 6 170) s m args below meth c H locs 0 0 QQ (F0 m e.1 ls []))) (fun s11 e12 hb13 hG14 => ?_) kF _ x10 hx10 ?_) _ _ _ V (lv_sub hl [3, 1, 0] rfl)
  · intro H locs ls V hl
    show W p l en (kR 6 170) s m args below meth c H locs 0 0 QQ (F0 m 15 ls [])
    have h : p_X12_tightNow_L15 v1 x9 s11 = some e12 := hb13
    unfold p_X12_tightNow_L15 at h
    have V : kW D AA s.heap H (List.flatten [gX12 g aT x9]) locs := V
    have hl : lv_has ls 6 [(0, .ref (aT 0)), (3, .long s11.1), (5, .int s11.2)] := hl
    refine lv_iload X.1 X.2.1 dX12_tightNow_15 (lv_at hl 2 rfl) ?_
    refine lv_aload_n X.1 X.2.1 dX12_tightNow_17 rfl (lv_at hl 0 rfl) ?_
    refine gf_X12_299 (i := 0) X V rfl dX12_tightNow_18 ?_
    refine lv_icmp_ge (tgt := 47) X.1 X.2.1 dX12_tightNow_21 (by decide) (fun hc => ?_) (fun hc => ?_)
    · replace h := kif_t hc h
      obtain rfl := Option.some.inj h
      exact hG14 _ _ _ V (lv_sub hl [0, 1, 2] rfl)
    · replace h := kif_f hc h
      refine lv_lload_n X.1 X.2.1 dX12_tightNow_24 rfl (lv_at hl 1 rfl) ?_
      refine lv_lconst (v := (1 : Int64)) X.1 X.2.1 dX12_tightNow_25 (by decide) ?_
      refine lv_aload_n X.1 X.2.1 dX12_tightNow_26 rfl (lv_at hl 0 rfl) ?_
      refine gf_X12_39 (i := 0) X V rfl dX12_tightNow_27 ?_
      refine lv_aload_n X.1 X.2.1 dX12_tightNow_30 rfl (lv_at hl 0 rfl) ?_
      refine gf_X12_45 (i := 0) X V rfl dX12_tightNow_31 ?_
      refine lv_iload X.1 X.2.1 dX12_tightNow_34 (lv_at hl 2 rfl) ?_
      obtain ⟨hc, h⟩ := kg_of h
      refine al_X12_31 (i := 0) X V rfl hc dX12_tightNow_36 ?_
      obtain ⟨hc, h⟩ := kg_of h
      refine al_X12_14 (i := 0) X V rfl hc dX12_tightNow_37 ?_
      refine lv_lshl X.1 X.2.1 dX12_tightNow_38 rfl ?_
      refine lv_lor X.1 X.2.1 dX12_tightNow_39 ?_
      refine lv_topl (fun y15 ey15 => ?_)
      replace h := kl_of ey15 h
      refine lv_lstore_n (lv' := [(3, .long y15), (0, .ref (aT 0)), (5, .int s11.2)]) X.1 X.2.1 dX12_tightNow_40 rfl hl (by decide) rfl (fun ls hl => ?_)
      obtain ⟨y16, ey16⟩ : ∃ y : Int32, y = (s11.2 + (1 : Int32)) := ⟨_, rfl⟩
      replace h := kl_of ey16 h
      refine lv_iinc (v := y16) (lv' := [(5, .int y16), (3, .long y15), (0, .ref (aT 0))]) X.1 X.2.1 dX12_tightNow_41 hl (k := 2) rfl (by rw [ey16]; rfl) (by decide) rfl (fun ls hl => ?_)
      refine lv_goto (tgt := 15) X.1 X.2.1 dX12_tightNow_44 (by decide) ?_
      obtain rfl := Option.some.inj h
      exact hG14 _ _ _ V (lv_sub hl [2, 1, 0] rfl)
  · intro H locs ls V hl
    have V : kW D AA s.heap H (List.flatten [gX12 g aT x9]) locs := V
    have hl : lv_has ls 6 [(0, .ref (aT 0)), (3, .long x10.2.1), (5, .int x10.2.2)] := hl
    obtain ⟨hc, h⟩ := kg_of h
    refine W.eq (g2 := F0 m 47 ls []) (by rw [hc]) ?_
    refine lv_lload_n X.1 X.2.1 dX12_tightNow_47 rfl (lv_at hl 1 rfl) ?_
    obtain rfl := Option.some.inj h
    rw [hAA] at V
    rw [hQQ]
    exact k_lret X V rfl dX12_tightNow_48

def p_X12_changes_L27 (v1 : Int32) (v2 : Int32) (s : Int32 × Int64 × Int32 × tX12) : Option (Nat × (Int32 × Int64 × Int32 × tX12)) :=
  kif ((20 : Int32) < s.2.2.1) (some (82, (s.1, s.2.1, s.2.2.1, s.2.2.2))) (kg (kii (168 : Int32) 170) (kl (s.2.2.2.1, s.2.2.2.2.1, va_up s.2.2.2.2.2.1 0 (upd (s.2.2.2.2.2.1 0) ((168 : Int32)).toNatClampNeg s.2.2.1), s.2.2.2.2.2.2) (fun z3 => kb (p_X12_tightNow z3 v1) (fun x4 => kif (s.2.2.1 ≤ 0) (kl (s.1 + (0 : Int32)) (fun y5 => kl (s.2.2.1 + (1 : Int32)) (fun y6 => some (27, (y5, x4.1, y6, x4.2))))) (kif ((lg_cmp x4.1 s.2.1) = 0) (kl (s.1 + (0 : Int32)) (fun y7 => kl (s.2.2.1 + (1 : Int32)) (fun y8 => some (27, (y7, x4.1, y8, x4.2))))) (kl (s.1 + (1 : Int32)) (fun y9 => kl (s.2.2.1 + (1 : Int32)) (fun y10 => some (27, (y9, x4.1, y10, x4.2))))))))))
def p_X12_changes (zT : tX12) (v1 : Int32) : Option (Int32 × tX12) :=
  kb (p_X12_isLaid zT v1) (fun x1 => kif ((kz x1.1) = 0) (some ((-1 : Int32), x1.2)) (kg (kii (168 : Int32) 170) (kl ((x1.2.2.2.1 0) (168 : Int32).toNatClampNeg) (fun y2 => kb (kitr 27 (fun q => p_X12_changes_L27 v1 y2 q) kF ((0 : Int32), (0 : Int64), (0 : Int32), x1.2)) (fun x11 => kg (x11.1 = 82) (kg (kii (168 : Int32) 170) (kl (x11.2.2.2.2.1, x11.2.2.2.2.2.1, va_up x11.2.2.2.2.2.2.1 0 (upd (x11.2.2.2.2.2.2.1 0) ((168 : Int32)).toNatClampNeg y2), x11.2.2.2.2.2.2.2) (fun z12 => some (x11.2.1, z12)))))))))
set_option maxHeartbeats 4000000 in
set_option maxRecDepth 100000 in
theorem c_X12_changes (l : Launch) (D : va_G) (g : kG) (aT : Nat → Nat) (zT : tX12) (v1 : Int32) (r : Int32 × tX12) (h : p_X12_changes zT v1 = some r) : kMi l yX12_changes cX12_changes 9 (some .int) (kR 7 195) D (kty g) [.ref (aT 0), .int v1] (List.flatten [gX12 g aT zT]) r.1 (List.flatten [gX12 g aT r.2]) := by
  intro sz
  refine k_enter (lv := [(0, .ref (aT 0)), (1, .int v1)]) RX12 (by decide +kernel) rfl rfl (Nat.le_of_ble_eq_true rfl) ?_
  intro p en s m args below meth c ls hsz X V hl
  obtain ⟨QQ, hQQ⟩ : ∃ q, q = MQ below (va_Qi (fun r' (_ : Unit) => r' = r.1) (fun _ => kE D (List.flatten [gX12 g aT r.2])) (va_A (List.flatten [gX12 g aT zT]) sz)) args s 0 0 (va_A (List.flatten [gX12 g aT zT]) sz) := ⟨_, rfl⟩
  rw [← hQQ]
  obtain ⟨AA, hAA⟩ : ∃ q, q = va_A (List.flatten [gX12 g aT zT]) sz := ⟨_, rfl⟩
  rw [← hAA] at V
  unfold p_X12_changes at h
  refine lv_aload_n X.1 X.2.1 dX12_changes_0 rfl (lv_at hl 0 rfl) ?_
  refine lv_iload_n X.1 X.2.1 dX12_changes_1 rfl (lv_at hl 1 rfl) ?_
  obtain ⟨x13, hx13, h⟩ := kb_of h
  refine s_callVi (segs' := [gX12 g aT x13.2]) (ci := 12) (i0 := 0) X V (c_X12_isLaid l D g aT zT v1 x13 hx13) w_X12_173 ⟨Nat.le_of_ble_eq_true rfl, Nat.le_of_ble_eq_true rfl⟩ ⟨Nat.zero_le _, Nat.zero_le _⟩ rfl rfl rfl rfl [0] rfl rfl ⟨gX12_fst, trivial⟩ rfl rfl hl.1 (Nat.le_of_ble_eq_true rfl) dX12_changes_2 (fun H locs V => ?_)
  refine lv_if_ne (tgt := 10) X.1 X.2.1 dX12_changes_5 (by decide) (fun hc => ?_) (fun hc => ?_)
  · replace h := kif_f hc h
    refine lv_aload_n X.1 X.2.1 dX12_changes_10 rfl (lv_at hl 0 rfl) ?_
    refine gf_X12_7 (i := 0) X V rfl dX12_changes_11 ?_
    refine lv_sipush (v := (168 : Int32)) X.1 X.2.1 dX12_changes_14 (by decide) ?_
    obtain ⟨hc, h⟩ := kg_of h
    refine al_X12_0 (i := 0) X V rfl hc dX12_changes_17 ?_
    refine lv_topi (fun y14 ey14 => ?_)
    replace h := kl_of ey14 h
    refine lv_istore_n (lv' := [(2, .int y14), (0, .ref (aT 0)), (1, .int v1)]) X.1 X.2.1 dX12_changes_18 rfl hl (by decide) rfl (fun ls hl => ?_)
    refine lv_iconst (v := (0 : Int32)) X.1 X.2.1 dX12_changes_19 (by decide) ?_
    refine lv_istore_n (lv' := [(3, .int (0 : Int32)), (2, .int y14), (0, .ref (aT 0)), (1, .int v1)]) X.1 X.2.1 dX12_changes_20 rfl hl (by decide) rfl (fun ls hl => ?_)
    refine lv_lconst (v := (0 : Int64)) X.1 X.2.1 dX12_changes_21 (by decide) ?_
    refine lv_lstore (lv' := [(4, .long (0 : Int64)), (3, .int (0 : Int32)), (2, .int y14), (0, .ref (aT 0)), (1, .int v1)]) X.1 X.2.1 dX12_changes_22 hl (by decide) rfl (fun ls hl => ?_)
    refine lv_iconst (v := (0 : Int32)) X.1 X.2.1 dX12_changes_24 (by decide) ?_
    refine lv_istore (lv' := [(6, .int (0 : Int32)), (4, .long (0 : Int64)), (3, .int (0 : Int32)), (2, .int y14), (0, .ref (aT 0)), (1, .int v1)]) X.1 X.2.1 dX12_changes_25 hl (by decide) rfl (fun ls hl => ?_)
    obtain ⟨x15, hx15, h⟩ := kb_of h
    refine (kitr_go (hd := 27) (body := fun q => p_X12_changes_L27 v1 y14 q) (G := (fun e => ∀ (H : Heap) (locs : List Loc) (ls : Array Slot), kW D AA s.heap H (List.flatten [gX12 g aT e.2.2.2.2]) locs → lv_has ls 9 [(0, .ref (aT 0)), (1, .int v1), (2, .int y14), (3, .int e.2.1), (4, .long e.2.2.1), (6, .int e.2.2.2.1)] → W p l en (kR 7 195) s m args below meth c H locs 0 0 QQ (F0 m e.1 ls []))) (fun s16 e17 hb18 hG19 => ?_) kF _ x15 hx15 ?_) _ _ _ V (lv_sub hl [4, 5, 3, 2, 1, 0] rfl)
    · intro H locs ls V hl
      show W p l en (kR 7 195) s m args below meth c H locs 0 0 QQ (F0 m 27 ls [])
      have h : p_X12_changes_L27 v1 y14 s16 = some e17 := hb18
      unfold p_X12_changes_L27 at h
      have V : kW D AA s.heap H (List.flatten [gX12 g aT s16.2.2.2]) locs := V
      have hl : lv_has ls 9 [(0, .ref (aT 0)), (1, .int v1), (2, .int y14), (3, .int s16.1), (4, .long s16.2.1), (6, .int s16.2.2.1)] := hl
      refine lv_iload X.1 X.2.1 dX12_changes_27 (lv_at hl 5 rfl) ?_
      refine lv_bipush (v := (20 : Int32)) X.1 X.2.1 dX12_changes_29 (by decide) ?_
      refine lv_icmp_gt (tgt := 82) X.1 X.2.1 dX12_changes_31 (by decide) (fun hc => ?_) (fun hc => ?_)
      · replace h := kif_t hc h
        obtain rfl := Option.some.inj h
        exact hG19 _ _ _ V (lv_sub hl [0, 1, 2, 3, 4, 5] rfl)
      · replace h := kif_f hc h
        refine lv_aload_n X.1 X.2.1 dX12_changes_34 rfl (lv_at hl 0 rfl) ?_
        refine gf_X12_7 (i := 0) X V rfl dX12_changes_35 ?_
        refine lv_sipush (v := (168 : Int32)) X.1 X.2.1 dX12_changes_38 (by decide) ?_
        refine lv_iload X.1 X.2.1 dX12_changes_41 (lv_at hl 5 rfl) ?_
        obtain ⟨hc, h⟩ := kg_of h
        refine as_X12_0 (i := 0) X V rfl hc dX12_changes_43 (fun H locs V => ?_)
        obtain ⟨z20, ez20⟩ : ∃ y, y = (s16.2.2.2.1, s16.2.2.2.2.1, va_up s16.2.2.2.2.2.1 0 (upd (s16.2.2.2.2.2.1 0) ((168 : Int32)).toNatClampNeg s16.2.2.1), s16.2.2.2.2.2.2) := ⟨_, rfl⟩
        replace h := kl_of ez20 h
        have V : kW D AA s.heap H (List.flatten [gX12 g aT z20]) locs := by rw [ez20]; exact V
        refine lv_aload_n X.1 X.2.1 dX12_changes_44 rfl (lv_at hl 0 rfl) ?_
        refine lv_iload_n X.1 X.2.1 dX12_changes_45 rfl (lv_at hl 1 rfl) ?_
        obtain ⟨x21, hx21, h⟩ := kb_of h
        refine s_callVl (segs' := [gX12 g aT x21.2]) (ci := 12) (i0 := 0) X V (c_X12_tightNow l D g aT z20 v1 x21 hx21) w_X12_435 ⟨Nat.le_of_ble_eq_true rfl, Nat.le_of_ble_eq_true rfl⟩ ⟨Nat.zero_le _, Nat.zero_le _⟩ rfl rfl rfl rfl [0] rfl rfl ⟨gX12_fst, trivial⟩ rfl rfl hl.1 (Nat.le_of_ble_eq_true rfl) dX12_changes_46 (fun H locs V => ?_)
        refine lv_lstore (lv' := [(7, .long x21.1), (0, .ref (aT 0)), (1, .int v1), (2, .int y14), (3, .int s16.1), (4, .long s16.2.1), (6, .int s16.2.2.1)]) X.1 X.2.1 dX12_changes_49 hl (by decide) rfl (fun ls hl => ?_)
        refine lv_iload_n X.1 X.2.1 dX12_changes_51 rfl (lv_at hl 4 rfl) ?_
        refine lv_iload X.1 X.2.1 dX12_changes_52 (lv_at hl 6 rfl) ?_
        refine lv_if_le (tgt := 69) X.1 X.2.1 dX12_changes_54 (by decide) (fun hc => ?_) (fun hc => ?_)
        · replace h := kif_t hc h
          refine lv_iconst (v := (0 : Int32)) X.1 X.2.1 dX12_changes_69 (by decide) ?_
          refine lv_iadd X.1 X.2.1 dX12_changes_70 ?_
          refine lv_topi (fun y22 ey22 => ?_)
          replace h := kl_of ey22 h
          refine lv_istore_n (lv' := [(3, .int y22), (7, .long x21.1), (0, .ref (aT 0)), (1, .int v1), (2, .int y14), (4, .long s16.2.1), (6, .int s16.2.2.1)]) X.1 X.2.1 dX12_changes_71 rfl hl (by decide) rfl (fun ls hl => ?_)
          refine lv_lload X.1 X.2.1 dX12_changes_72 (lv_at hl 1 rfl) ?_
          refine lv_lstore (lv' := [(4, .long x21.1), (3, .int y22), (7, .long x21.1), (0, .ref (aT 0)), (1, .int v1), (2, .int y14), (6, .int s16.2.2.1)]) X.1 X.2.1 dX12_changes_74 hl (by decide) rfl (fun ls hl => ?_)
          obtain ⟨y23, ey23⟩ : ∃ y : Int32, y = (s16.2.2.1 + (1 : Int32)) := ⟨_, rfl⟩
          replace h := kl_of ey23 h
          refine lv_iinc (v := y23) (lv' := [(6, .int y23), (4, .long x21.1), (3, .int y22), (7, .long x21.1), (0, .ref (aT 0)), (1, .int v1), (2, .int y14)]) X.1 X.2.1 dX12_changes_76 hl (k := 6) rfl (by rw [ey23]; rfl) (by decide) rfl (fun ls hl => ?_)
          refine lv_goto (tgt := 27) X.1 X.2.1 dX12_changes_79 (by decide) ?_
          obtain rfl := Option.some.inj h
          exact hG19 _ _ _ V (lv_sub hl [4, 5, 6, 2, 1, 0] rfl)
        · replace h := kif_f hc h
          refine lv_lload X.1 X.2.1 dX12_changes_57 (lv_at hl 0 rfl) ?_
          refine lv_lload X.1 X.2.1 dX12_changes_59 (lv_at hl 5 rfl) ?_
          refine W.lcmp X.1 X.2.1 dX12_changes_61 ?_
          refine lv_if_eq (tgt := 69) X.1 X.2.1 dX12_changes_62 (by decide) (fun hc => ?_) (fun hc => ?_)
          · replace h := kif_t hc h
            refine lv_iconst (v := (0 : Int32)) X.1 X.2.1 dX12_changes_69 (by decide) ?_
            refine lv_iadd X.1 X.2.1 dX12_changes_70 ?_
            refine lv_topi (fun y24 ey24 => ?_)
            replace h := kl_of ey24 h
            refine lv_istore_n (lv' := [(3, .int y24), (7, .long x21.1), (0, .ref (aT 0)), (1, .int v1), (2, .int y14), (4, .long s16.2.1), (6, .int s16.2.2.1)]) X.1 X.2.1 dX12_changes_71 rfl hl (by decide) rfl (fun ls hl => ?_)
            refine lv_lload X.1 X.2.1 dX12_changes_72 (lv_at hl 1 rfl) ?_
            refine lv_lstore (lv' := [(4, .long x21.1), (3, .int y24), (7, .long x21.1), (0, .ref (aT 0)), (1, .int v1), (2, .int y14), (6, .int s16.2.2.1)]) X.1 X.2.1 dX12_changes_74 hl (by decide) rfl (fun ls hl => ?_)
            obtain ⟨y25, ey25⟩ : ∃ y : Int32, y = (s16.2.2.1 + (1 : Int32)) := ⟨_, rfl⟩
            replace h := kl_of ey25 h
            refine lv_iinc (v := y25) (lv' := [(6, .int y25), (4, .long x21.1), (3, .int y24), (7, .long x21.1), (0, .ref (aT 0)), (1, .int v1), (2, .int y14)]) X.1 X.2.1 dX12_changes_76 hl (k := 6) rfl (by rw [ey25]; rfl) (by decide) rfl (fun ls hl => ?_)
            refine lv_goto (tgt := 27) X.1 X.2.1 dX12_changes_79 (by decide) ?_
            obtain rfl := Option.some.inj h
            exact hG19 _ _ _ V (lv_sub hl [4, 5, 6, 2, 1, 0] rfl)
          · replace h := kif_f hc h
            refine lv_iconst (v := (1 : Int32)) X.1 X.2.1 dX12_changes_65 (by decide) ?_
            refine lv_goto (tgt := 70) X.1 X.2.1 dX12_changes_66 (by decide) ?_
            refine lv_iadd X.1 X.2.1 dX12_changes_70 ?_
            refine lv_topi (fun y26 ey26 => ?_)
            replace h := kl_of ey26 h
            refine lv_istore_n (lv' := [(3, .int y26), (7, .long x21.1), (0, .ref (aT 0)), (1, .int v1), (2, .int y14), (4, .long s16.2.1), (6, .int s16.2.2.1)]) X.1 X.2.1 dX12_changes_71 rfl hl (by decide) rfl (fun ls hl => ?_)
            refine lv_lload X.1 X.2.1 dX12_changes_72 (lv_at hl 1 rfl) ?_
            refine lv_lstore (lv' := [(4, .long x21.1), (3, .int y26), (7, .long x21.1), (0, .ref (aT 0)), (1, .int v1), (2, .int y14), (6, .int s16.2.2.1)]) X.1 X.2.1 dX12_changes_74 hl (by decide) rfl (fun ls hl => ?_)
            obtain ⟨y27, ey27⟩ : ∃ y : Int32, y = (s16.2.2.1 + (1 : Int32)) := ⟨_, rfl⟩
            replace h := kl_of ey27 h
            refine lv_iinc (v := y27) (lv' := [(6, .int y27), (4, .long x21.1), (3, .int y26), (7, .long x21.1), (0, .ref (aT 0)), (1, .int v1), (2, .int y14)]) X.1 X.2.1 dX12_changes_76 hl (k := 6) rfl (by rw [ey27]; rfl) (by decide) rfl (fun ls hl => ?_)
            refine lv_goto (tgt := 27) X.1 X.2.1 dX12_changes_79 (by decide) ?_
            obtain rfl := Option.some.inj h
            exact hG19 _ _ _ V (lv_sub hl [4, 5, 6, 2, 1, 0] rfl)
    · intro H locs ls V hl
      have V : kW D AA s.heap H (List.flatten [gX12 g aT x15.2.2.2.2]) locs := V
      have hl : lv_has ls 9 [(0, .ref (aT 0)), (1, .int v1), (2, .int y14), (3, .int x15.2.1), (4, .long x15.2.2.1), (6, .int x15.2.2.2.1)] := hl
      obtain ⟨hc, h⟩ := kg_of h
      refine W.eq (g2 := F0 m 82 ls []) (by rw [hc]) ?_
      refine lv_aload_n X.1 X.2.1 dX12_changes_82 rfl (lv_at hl 0 rfl) ?_
      refine gf_X12_7 (i := 0) X V rfl dX12_changes_83 ?_
      refine lv_sipush (v := (168 : Int32)) X.1 X.2.1 dX12_changes_86 (by decide) ?_
      refine lv_iload_n X.1 X.2.1 dX12_changes_89 rfl (lv_at hl 2 rfl) ?_
      obtain ⟨hc, h⟩ := kg_of h
      refine as_X12_0 (i := 0) X V rfl hc dX12_changes_90 (fun H locs V => ?_)
      obtain ⟨z28, ez28⟩ : ∃ y, y = (x15.2.2.2.2.1, x15.2.2.2.2.2.1, va_up x15.2.2.2.2.2.2.1 0 (upd (x15.2.2.2.2.2.2.1 0) ((168 : Int32)).toNatClampNeg y14), x15.2.2.2.2.2.2.2) := ⟨_, rfl⟩
      replace h := kl_of ez28 h
      have V : kW D AA s.heap H (List.flatten [gX12 g aT z28]) locs := by rw [ez28]; exact V
      refine lv_iload_n X.1 X.2.1 dX12_changes_91 rfl (lv_at hl 3 rfl) ?_
      obtain rfl := Option.some.inj h
      rw [hAA] at V
      rw [hQQ]
      exact k_iret X V rfl dX12_changes_92
  · replace h := kif_t hc h
    refine lv_iconst (v := (-1 : Int32)) X.1 X.2.1 dX12_changes_8 (by decide) ?_
    obtain rfl := Option.some.inj h
    rw [hAA] at V
    rw [hQQ]
    exact k_iret X V rfl dX12_changes_9
