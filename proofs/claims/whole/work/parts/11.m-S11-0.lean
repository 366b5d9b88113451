def p_X11_isHeap (v0 : Int32) : Option (Bool) :=
  kif (v0 < 0) (some false) (kif ((4 : Int32) ≤ v0) (some false) (some true))
set_option maxHeartbeats 4000000 in
set_option maxRecDepth 100000 in
theorem c_X11_isHeap (l : Launch) (D : va_G) (g : kG)  (v0 : Int32) (r : Bool) (h : p_X11_isHeap v0 = some r) : kMi l yX11_isHeap cX11_isHeap 1 (some .boolean) (kR 0 0) D (kty g) [.int v0] (List.flatten ([] : List va_W)) (kz r) (List.flatten ([] : List va_W)) := by
  intro sz
  refine k_enter (lv := [(0, .int v0)]) RX11 (by decide +kernel) rfl rfl (Nat.le_of_ble_eq_true rfl) ?_
  intro p en s m args below meth c ls hsz X V hl
  obtain ⟨QQ, hQQ⟩ : ∃ q, q = MQ below (va_Qi (fun r' (_ : Unit) => r' = kz r) (fun _ => kE D (List.flatten ([] : List va_W))) (va_A (List.flatten ([] : List va_W)) sz)) args s 0 0 (va_A (List.flatten ([] : List va_W)) sz) := ⟨_, rfl⟩
  rw [← hQQ]
  obtain ⟨AA, hAA⟩ : ∃ q, q = va_A (List.flatten ([] : List va_W)) sz := ⟨_, rfl⟩
  rw [← hAA] at V
  unfold p_X11_isHeap at h
  refine lv_iload_n X.1 X.2.1 dX11_isHeap_0 rfl (lv_at hl 0 rfl) ?_
  refine lv_if_lt (tgt := 13) X.1 X.2.1 dX11_isHeap_1 (by decide) (fun hc => ?_) (fun hc => ?_)
  · replace h := kif_t hc h
    refine lv_iconst (v := (0 : Int32)) X.1 X.2.1 dX11_isHeap_13 (by decide) ?_
    obtain rfl := Option.some.inj h
    rw [hAA] at V
    rw [hQQ]
    exact k_zret X V (b := false) rfl rfl dX11_isHeap_14
  · replace h := kif_f hc h
    refine lv_iload_n X.1 X.2.1 dX11_isHeap_4 rfl (lv_at hl 0 rfl) ?_
    refine lv_iconst (v := (4 : Int32)) X.1 X.2.1 dX11_isHeap_5 (by decide) ?_
    refine lv_icmp_ge (tgt := 13) X.1 X.2.1 dX11_isHeap_6 (by decide) (fun hc => ?_) (fun hc => ?_)
    · replace h := kif_t hc h
      refine lv_iconst (v := (0 : Int32)) X.1 X.2.1 dX11_isHeap_13 (by decide) ?_
      obtain rfl := Option.some.inj h
      rw [hAA] at V
      rw [hQQ]
      exact k_zret X V (b := false) rfl rfl dX11_isHeap_14
    · replace h := kif_f hc h
      refine lv_iconst (v := (1 : Int32)) X.1 X.2.1 dX11_isHeap_9 (by decide) ?_
      refine lv_goto (tgt := 14) X.1 X.2.1 dX11_isHeap_10 (by decide) ?_
      obtain rfl := Option.some.inj h
      rw [hAA] at V
      rw [hQQ]
      exact k_zret X V (b := true) rfl rfl dX11_isHeap_14

def p_X11_isNear (v0 : Int32) (v1 : Int32) (v2 : Int32) : Option (Bool) :=
  kif (v0 < (-v2)) (some false) (kif (v2 < v0) (some false) (kif (v1 < (-v2)) (some false) (kif (v2 < v1) (some false) (some true))))
set_option maxHeartbeats 4000000 in
set_option maxRecDepth 100000 in
theorem c_X11_isNear (l : Launch) (D : va_G) (g : kG)  (v0 : Int32) (v1 : Int32) (v2 : Int32) (r : Bool) (h : p_X11_isNear v0 v1 v2 = some r) : kMi l yX11_isNear cX11_isNear 3 (some .boolean) (kR 0 0) D (kty g) [.int v0, .int v1, .int v2] (List.flatten ([] : List va_W)) (kz r) (List.flatten ([] : List va_W)) := by
  intro sz
  refine k_enter (lv := [(0, .int v0), (1, .int v1), (2, .int v2)]) RX11 (by decide +kernel) rfl rfl (Nat.le_of_ble_eq_true rfl) ?_
  intro p en s m args below meth c ls hsz X V hl
  obtain ⟨QQ, hQQ⟩ : ∃ q, q = MQ below (va_Qi (fun r' (_ : Unit) => r' = kz r) (fun _ => kE D (List.flatten ([] : List va_W))) (va_A (List.flatten ([] : List va_W)) sz)) args s 0 0 (va_A (List.flatten ([] : List va_W)) sz) := ⟨_, rfl⟩
  rw [← hQQ]
  obtain ⟨AA, hAA⟩ : ∃ q, q = va_A (List.flatten ([] : List va_W)) sz := ⟨_, rfl⟩
  rw [← hAA] at V
  unfold p_X11_isNear at h
  refine lv_iload_n X.1 X.2.1 dX11_isNear_0 rfl (lv_at hl 0 rfl) ?_
  refine lv_iload_n X.1 X.2.1 dX11_isNear_1 rfl (lv_at hl 2 rfl) ?_
  refine lv_ineg X.1 X.2.1 dX11_isNear_2 ?_
  refine lv_icmp_lt (tgt := 26) X.1 X.2.1 dX11_isNear_3 (by decide) (fun hc => ?_) (fun hc => ?_)
  · replace h := kif_t hc h
    refine lv_iconst (v := (0 : Int32)) X.1 X.2.1 dX11_isNear_26 (by decide) ?_
    obtain rfl := Option.some.inj h
    rw [hAA] at V
    rw [hQQ]
    exact k_zret X V (b := false) rfl rfl dX11_isNear_27
  · replace h := kif_f hc h
    refine lv_iload_n X.1 X.2.1 dX11_isNear_6 rfl (lv_at hl 0 rfl) ?_
    refine lv_iload_n X.1 X.2.1 dX11_isNear_7 rfl (lv_at hl 2 rfl) ?_
    refine lv_icmp_gt (tgt := 26) X.1 X.2.1 dX11_isNear_8 (by decide) (fun hc => ?_) (fun hc => ?_)
    · replace h := kif_t hc h
      refine lv_iconst (v := (0 : Int32)) X.1 X.2.1 dX11_isNear_26 (by decide) ?_
      obtain rfl := Option.some.inj h
      rw [hAA] at V
      rw [hQQ]
      exact k_zret X V (b := false) rfl rfl dX11_isNear_27
    · replace h := kif_f hc h
      refine lv_iload_n X.1 X.2.1 dX11_isNear_11 rfl (lv_at hl 1 rfl) ?_
      refine lv_iload_n X.1 X.2.1 dX11_isNear_12 rfl (lv_at hl 2 rfl) ?_
      refine lv_ineg X.1 X.2.1 dX11_isNear_13 ?_
      refine lv_icmp_lt (tgt := 26) X.1 X.2.1 dX11_isNear_14 (by decide) (fun hc => ?_) (fun hc => ?_)
      · replace h := kif_t hc h
        refine lv_iconst (v := (0 : Int32)) X.1 X.2.1 dX11_isNear_26 (by decide) ?_
        obtain rfl := Option.some.inj h
        rw [hAA] at V
        rw [hQQ]
        exact k_zret X V (b := false) rfl rfl dX11_isNear_27
      · replace h := kif_f hc h
        refine lv_iload_n X.1 X.2.1 dX11_isNear_17 rfl (lv_at hl 1 rfl) ?_
        refine lv_iload_n X.1 X.2.1 dX11_isNear_18 rfl (lv_at hl 2 rfl) ?_
        refine lv_icmp_gt (tgt := 26) X.1 X.2.1 dX11_isNear_19 (by decide) (fun hc => ?_) (fun hc => ?_)
        · replace h := kif_t hc h
          refine lv_iconst (v := (0 : Int32)) X.1 X.2.1 dX11_isNear_26 (by decide) ?_
          obtain rfl := Option.some.inj h
          rw [hAA] at V
          rw [hQQ]
          exact k_zret X V (b := false) rfl rfl dX11_isNear_27
        · replace h := kif_f hc h
          refine lv_iconst (v := (1 : Int32)) X.1 X.2.1 dX11_isNear_22 (by decide) ?_
          refine lv_goto (tgt := 27) X.1 X.2.1 dX11_isNear_23 (by decide) ?_
          obtain rfl := Option.some.inj h
          rw [hAA] at V
          rw [hQQ]
          exact k_zret X V (b := true) rfl rfl dX11_isNear_27

def p_X11_isSet (v0 : Int32) : Option (Bool) :=
  kif (v0 < (1 : Int32)) (some false) (kif ((15 : Int32) < v0) (some false) (some true))
set_option maxHeartbeats 4000000 in
set_option maxRecDepth 100000 in
theorem c_X11_isSet (l : Launch) (D : va_G) (g : kG)  (v0 : Int32) (r : Bool) (h : p_X11_isSet v0 = some r) : kMi l yX11_isSet cX11_isSet 1 (some .boolean) (kR 0 0) D (kty g) [.int v0] (List.flatten ([] : List va_W)) (kz r) (List.flatten ([] : List va_W)) := by
  intro sz
  refine k_enter (lv := [(0, .int v0)]) RX11 (by decide +kernel) rfl rfl (Nat.le_of_ble_eq_true rfl) ?_
  intro p en s m args below meth c ls hsz X V hl
  obtain ⟨QQ, hQQ⟩ : ∃ q, q = MQ below (va_Qi (fun r' (_ : Unit) => r' = kz r) (fun _ => kE D (List.flatten ([] : List va_W))) (va_A (List.flatten ([] : List va_W)) sz)) args s 0 0 (va_A (List.flatten ([] : List va_W)) sz) := ⟨_, rfl⟩
  rw [← hQQ]
  obtain ⟨AA, hAA⟩ : ∃ q, q = va_A (List.flatten ([] : List va_W)) sz := ⟨_, rfl⟩
  rw [← hAA] at V
  unfold p_X11_isSet at h
  refine lv_iload_n X.1 X.2.1 dX11_isSet_0 rfl (lv_at hl 0 rfl) ?_
  refine lv_iconst (v := (1 : Int32)) X.1 X.2.1 dX11_isSet_1 (by decide) ?_
  refine lv_icmp_lt (tgt := 15) X.1 X.2.1 dX11_isSet_2 (by decide) (fun hc => ?_) (fun hc => ?_)
  · replace h := kif_t hc h
    refine lv_iconst (v := (0 : Int32)) X.1 X.2.1 dX11_isSet_15 (by decide) ?_
    obtain rfl := Option.some.inj h
    rw [hAA] at V
    rw [hQQ]
    exact k_zret X V (b := false) rfl rfl dX11_isSet_16
  · replace h := kif_f hc h
    refine lv_iload_n X.1 X.2.1 dX11_isSet_5 rfl (lv_at hl 0 rfl) ?_
    refine lv_bipush (v := (15 : Int32)) X.1 X.2.1 dX11_isSet_6 (by decide) ?_
    refine lv_icmp_gt (tgt := 15) X.1 X.2.1 dX11_isSet_8 (by decide) (fun hc => ?_) (fun hc => ?_)
    · replace h := kif_t hc h
      refine lv_iconst (v := (0 : Int32)) X.1 X.2.1 dX11_isSet_15 (by decide) ?_
      obtain rfl := Option.some.inj h
      rw [hAA] at V
      rw [hQQ]
      exact k_zret X V (b := false) rfl rfl dX11_isSet_16
    · replace h := kif_f hc h
      refine lv_iconst (v := (1 : Int32)) X.1 X.2.1 dX11_isSet_11 (by decide) ?_
      refine lv_goto (tgt := 16) X.1 X.2.1 dX11_isSet_12 (by decide) ?_
      obtain rfl := Option.some.inj h
      rw [hAA] at V
      rw [hQQ]
      exact k_zret X V (b := true) rfl rfl dX11_isSet_16
