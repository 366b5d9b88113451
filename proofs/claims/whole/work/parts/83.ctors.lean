theorem kci_X11_9 : kCI RX11 9 yX4_init cX4_init 2 := ⟨lw_tg_in (List.mem_of_getElem? (i := 138) (by decide +kernel)) rfl, lw_tg_in (List.mem_of_getElem? (i := 110) (by decide +kernel)) rfl, Or.inl (lw_tg_in (List.mem_of_getElem? (i := 136) (by decide +kernel)) rfl), lw_tg_in (List.mem_of_getElem? (i := 137) (by decide +kernel)) rfl, rfl, by decide +kernel, by decide +kernel, by decide +kernel⟩
theorem kci_X11_18 : kCI RX11 18 yX9_init cX9_init 1 := ⟨lw_tg_in (List.mem_of_getElem? (i := 163) (by decide +kernel)) rfl, lw_tg_in (List.mem_of_getElem? (i := 111) (by decide +kernel)) rfl, Or.inr (Or.inr (by unfold kNest; decide +kernel)), lw_tg_in (List.mem_of_getElem? (i := 162) (by decide +kernel)) rfl, rfl, by decide +kernel, by decide +kernel, by decide +kernel⟩
theorem kci_X11_25 : kCI RX11 25 yX8_init cX8_init 1 := ⟨lw_tg_in (List.mem_of_getElem? (i := 182) (by decide +kernel)) rfl, lw_tg_in (List.mem_of_getElem? (i := 112) (by decide +kernel)) rfl, Or.inr (Or.inr (by unfold kNest; decide +kernel)), lw_tg_in (List.mem_of_getElem? (i := 181) (by decide +kernel)) rfl, rfl, by decide +kernel, by decide +kernel, by decide +kernel⟩
theorem kci_X11_35 : kCI RX11 35 yX0_init cX0_init 1 := ⟨lw_tg_in (List.mem_of_getElem? (i := 201) (by decide +kernel)) rfl, lw_tg_in (List.mem_of_getElem? (i := 113) (by decide +kernel)) rfl, Or.inr (Or.inr (by unfold kNest; decide +kernel)), lw_tg_in (List.mem_of_getElem? (i := 200) (by decide +kernel)) rfl, rfl, by decide +kernel, by decide +kernel, by decide +kernel⟩
theorem kci_X11_45 : kCI RX11 45 yX5_init cX5_init 1 := ⟨lw_tg_in (List.mem_of_getElem? (i := 235) (by decide +kernel)) rfl, lw_tg_in (List.mem_of_getElem? (i := 114) (by decide +kernel)) rfl, Or.inr (Or.inr (by unfold kNest; decide +kernel)), lw_tg_in (List.mem_of_getElem? (i := 234) (by decide +kernel)) rfl, rfl, by decide +kernel, by decide +kernel, by decide +kernel⟩
theorem kci_X11_55 : kCI RX11 55 yX6_init cX6_init 1 := ⟨lw_tg_in (List.mem_of_getElem? (i := 254) (by decide +kernel)) rfl, lw_tg_in (List.mem_of_getElem? (i := 115) (by decide +kernel)) rfl, Or.inr (Or.inr (by unfold kNest; decide +kernel)), lw_tg_in (List.mem_of_getElem? (i := 253) (by decide +kernel)) rfl, rfl, by decide +kernel, by decide +kernel, by decide +kernel⟩
theorem kci_X11_62 : kCI RX11 62 yX1_init cX1_init 1 := ⟨lw_tg_in (List.mem_of_getElem? (i := 274) (by decide +kernel)) rfl, lw_tg_in (List.mem_of_getElem? (i := 116) (by decide +kernel)) rfl, Or.inr (Or.inr (by unfold kNest; decide +kernel)), lw_tg_in (List.mem_of_getElem? (i := 273) (by decide +kernel)) rfl, rfl, by decide +kernel, by decide +kernel, by decide +kernel⟩
theorem kci_X11_69 : kCI RX11 69 yX7_init cX7_init 1 := ⟨lw_tg_in (List.mem_of_getElem? (i := 287) (by decide +kernel)) rfl, lw_tg_in (List.mem_of_getElem? (i := 117) (by decide +kernel)) rfl, Or.inr (Or.inr (by unfold kNest; decide +kernel)), lw_tg_in (List.mem_of_getElem? (i := 286) (by decide +kernel)) rfl, rfl, by decide +kernel, by decide +kernel, by decide +kernel⟩
theorem kci_X11_76 : kCI RX11 76 yX2_init cX2_init 1 := ⟨lw_tg_in (List.mem_of_getElem? (i := 324) (by decide +kernel)) rfl, lw_tg_in (List.mem_of_getElem? (i := 118) (by decide +kernel)) rfl, Or.inr (Or.inr (by unfold kNest; decide +kernel)), lw_tg_in (List.mem_of_getElem? (i := 323) (by decide +kernel)) rfl, rfl, by decide +kernel, by decide +kernel, by decide +kernel⟩
theorem kci_X11_83 : kCI RX11 83 yX10_init cX10_init 1 := ⟨lw_tg_in (List.mem_of_getElem? (i := 355) (by decide +kernel)) rfl, lw_tg_in (List.mem_of_getElem? (i := 119) (by decide +kernel)) rfl, Or.inr (Or.inr (by unfold kNest; decide +kernel)), lw_tg_in (List.mem_of_getElem? (i := 354) (by decide +kernel)) rfl, rfl, by decide +kernel, by decide +kernel, by decide +kernel⟩
theorem kci_X11_90 : kCI RX11 90 yX3_init cX3_init 1 := ⟨lw_tg_in (List.mem_of_getElem? (i := 368) (by decide +kernel)) rfl, lw_tg_in (List.mem_of_getElem? (i := 120) (by decide +kernel)) rfl, Or.inr (Or.inr (by unfold kNest; decide +kernel)), lw_tg_in (List.mem_of_getElem? (i := 367) (by decide +kernel)) rfl, rfl, by decide +kernel, by decide +kernel, by decide +kernel⟩
theorem kci_X2_11 : kCI RX2 11 yX0_init cX0_init 1 := ⟨lw_tg_in (List.mem_of_getElem? (i := 201) (by decide +kernel)) rfl, lw_tg_in (List.mem_of_getElem? (i := 113) (by decide +kernel)) rfl, Or.inr (Or.inr (by unfold kNest; decide +kernel)), lw_tg_in (List.mem_of_getElem? (i := 200) (by decide +kernel)) rfl, rfl, by decide +kernel, by decide +kernel, by decide +kernel⟩
theorem kci_X6_11 : kCI RX6 11 yX8_init cX8_init 1 := ⟨lw_tg_in (List.mem_of_getElem? (i := 182) (by decide +kernel)) rfl, lw_tg_in (List.mem_of_getElem? (i := 112) (by decide +kernel)) rfl, Or.inr (Or.inr (by unfold kNest; decide +kernel)), lw_tg_in (List.mem_of_getElem? (i := 181) (by decide +kernel)) rfl, rfl, by decide +kernel, by decide +kernel, by decide +kernel⟩
theorem kci_X6_20 : kCI RX6 20 yX5_init cX5_init 1 := ⟨lw_tg_in (List.mem_of_getElem? (i := 235) (by decide +kernel)) rfl, lw_tg_in (List.mem_of_getElem? (i := 114) (by decide +kernel)) rfl, Or.inr (Or.inr (by unfold kNest; decide +kernel)), lw_tg_in (List.mem_of_getElem? (i := 234) (by decide +kernel)) rfl, rfl, by decide +kernel, by decide +kernel, by decide +kernel⟩
theorem kci_L_9 : kCI RL 9 yX11_init cX11_init 1 := ⟨lw_tg_in (List.mem_of_getElem? (i := 130) (by decide +kernel)) rfl, lw_tg_in (List.mem_of_getElem? (i := 109) (by decide +kernel)) rfl, Or.inl (lw_tg_in (List.mem_of_getElem? (i := 128) (by decide +kernel)) rfl), lw_tg_in (List.mem_of_getElem? (i := 129) (by decide +kernel)) rfl, rfl, by decide +kernel, by decide +kernel, by decide +kernel⟩
theorem kci_L_12 : kCI RL 12 yX12_init cX12_init 1 := ⟨lw_tg_in (List.mem_of_getElem? (i := 1287) (by decide +kernel)) rfl, lw_tg_in (List.mem_of_getElem? (i := 121) (by decide +kernel)) rfl, Or.inl (lw_tg_in (List.mem_of_getElem? (i := 1285) (by decide +kernel)) rfl), lw_tg_in (List.mem_of_getElem? (i := 1286) (by decide +kernel)) rfl, rfl, by decide +kernel, by decide +kernel, by decide +kernel⟩
def i_X3 : tX3 := (0, (1))
set_option maxHeartbeats 4000000 in
set_option maxRecDepth 100000 in
theorem n_X3_init (l : Launch) (D : va_G) (g : kG) (a0 : Nat) : kMn l yX3_init cX3_init 1 1 0 0 12 D (kty g) a0 [(a0, .inr (3, [.long 0, .long 0]))] (fun u => ∃ a : Nat → Nat, a 0 = a0 ∧ u = gX3 g a i_X3) := by
  intro sz
  refine n_enter RX3 (by decide +kernel) rfl rfl (Nat.le_of_ble_eq_true rfl) ?_
  intro p en s m args below meth c ls hsz X hAO hnam V hl
  obtain ⟨AA, hAA⟩ : ∃ q, q = va_A [(a0, .inr (3, [.long 0, .long 0]))] sz := ⟨_, rfl⟩
  rw [← hAA] at V ⊢
  refine lv_aload_n X.1 X.2.1 dX3_init_0 rfl (lv_at hl 0 rfl) ?_
  refine n_obj X hl.1 (lw_tg_in (List.mem_of_getElem? (i := 369) (by decide +kernel)) rfl) n_oi n_oc (Nat.le_of_ble_eq_true rfl) (Nat.le_of_ble_eq_true rfl) dX3_init_1 ?_
  refine lv_aload_n X.1 X.2.1 dX3_init_4 rfl (lv_at hl 0 rfl) ?_
  refine lv_lconst (v := (1 : Int64)) X.1 X.2.1 dX3_init_5 (by decide) ?_
  refine n_put (C := RX3) (T := TX3) (N := 2) (ft := .long) 1 tyX3 X V inX3 tyX3_ok nmX3 rfl (by decide) rfl (lw_tg_in (List.mem_of_getElem? (i := 371) (by decide +kernel)) rfl) rfl rfl (Nat.le_of_ble_eq_true rfl) rfl rfl dX3_init_6 (fun H locs V => ?_)
  replace V : kW D AA s.heap H ((a0, .inr (3, [.long 0, .long 1])) :: []) _ := V
  exact n_vret2 X V ⟨fun n => ([a0] : List Nat).getD n 0, rfl, rfl⟩ dX3_init_9

def i_X10 : tX10 := ((fun _ => 0), 0)
set_option maxHeartbeats 4000000 in
set_option maxRecDepth 100000 in
theorem n_X10_init (l : Launch) (D : va_G) (g : kG) (a0 : Nat) : kMn l yX10_init cX10_init 1 1 1 400 12 D (kty g) a0 [(a0, .inr (10, [.null, .int 0]))] (fun u => ∃ a : Nat → Nat, a 0 = a0 ∧ u = gX10 g a i_X10) := by
  intro sz
  refine n_enter RX10 (by decide +kernel) rfl rfl (Nat.le_of_ble_eq_true rfl) ?_
  intro p en s m args below meth c ls hsz X hAO hnam V hl
  obtain ⟨AA, hAA⟩ : ∃ q, q = va_A [(a0, .inr (10, [.null, .int 0]))] sz := ⟨_, rfl⟩
  rw [← hAA] at V ⊢
  refine lv_aload_n X.1 X.2.1 dX10_init_0 rfl (lv_at hl 0 rfl) ?_
  refine n_obj X hl.1 (lw_tg_in (List.mem_of_getElem? (i := 356) (by decide +kernel)) rfl) n_oi n_oc (Nat.le_of_ble_eq_true rfl) (Nat.le_of_ble_eq_true rfl) dX10_init_1 ?_
  refine lv_aload_n X.1 X.2.1 dX10_init_4 rfl (lv_at hl 0 rfl) ?_
  refine lv_sipush (v := (400 : Int32)) X.1 X.2.1 dX10_init_5 (by decide) ?_
  refine n_newI (N := 400) X V (by decide +kernel) (by decide +kernel) (Nat.le_of_ble_eq_true rfl) (Nat.le_of_ble_eq_true rfl) (Nat.le_of_ble_eq_true rfl) dX10_init_8 (fun q1 H V => ?_)
  replace V : kW D AA s.heap H ((a0, .inr (10, [.null, .int 0])) :: ([] ++ [(q1, .inl (g.1, 400, .inl (fun _ => 0)))])) _ := V
  refine n_putF (C := RX10) (T := TX10) (N := 2) 0 tyX10 X V inX10 tyX10_ok nmX10 rfl (by decide) rfl rfl (lw_tg_in (List.mem_of_getElem? (i := 357) (by decide +kernel)) rfl) rfl hnam rfl (Nat.le_of_ble_eq_true rfl) rfl rfl dX10_init_10 (fun H locs V => ?_)
  replace V : kW D AA s.heap H ((a0, .inr (10, [.ref q1, .int 0])) :: ([] ++ [(q1, .inl (g.1, 400, .inl (fun _ => 0)))])) _ := V
  exact n_vret2 X V ⟨fun n => ([a0, q1] : List Nat).getD n 0, rfl, rfl⟩ dX10_init_13

def i_X1 : tX1 := ((fun _ => 0), 0)
set_option maxHeartbeats 4000000 in
set_option maxRecDepth 100000 in
theorem n_X1_init (l : Launch) (D : va_G) (g : kG) (a0 : Nat) : kMn l yX1_init cX1_init 1 1 1 780 12 D (kty g) a0 [(a0, .inr (1, [.null, .int 0]))] (fun u => ∃ a : Nat → Nat, a 0 = a0 ∧ u = gX1 g a i_X1) := by
  intro sz
  refine n_enter RX1 (by decide +kernel) rfl rfl (Nat.le_of_ble_eq_true rfl) ?_
  intro p en s m args below meth c ls hsz X hAO hnam V hl
  obtain ⟨AA, hAA⟩ : ∃ q, q = va_A [(a0, .inr (1, [.null, .int 0]))] sz := ⟨_, rfl⟩
  rw [← hAA] at V ⊢
  refine lv_aload_n X.1 X.2.1 dX1_init_0 rfl (lv_at hl 0 rfl) ?_
  refine n_obj X hl.1 (lw_tg_in (List.mem_of_getElem? (i := 275) (by decide +kernel)) rfl) n_oi n_oc (Nat.le_of_ble_eq_true rfl) (Nat.le_of_ble_eq_true rfl) dX1_init_1 ?_
  refine lv_aload_n X.1 X.2.1 dX1_init_4 rfl (lv_at hl 0 rfl) ?_
  refine lv_sipush (v := (780 : Int32)) X.1 X.2.1 dX1_init_5 (by decide) ?_
  refine n_newI (N := 780) X V (by decide +kernel) (by decide +kernel) (Nat.le_of_ble_eq_true rfl) (Nat.le_of_ble_eq_true rfl) (Nat.le_of_ble_eq_true rfl) dX1_init_8 (fun q1 H V => ?_)
  replace V : kW D AA s.heap H ((a0, .inr (1, [.null, .int 0])) :: ([] ++ [(q1, .inl (g.1, 780, .inl (fun _ => 0)))])) _ := V
  refine n_putF (C := RX1) (T := TX1) (N := 2) 0 tyX1 X V inX1 tyX1_ok nmX1 rfl (by decide) rfl rfl (lw_tg_in (List.mem_of_getElem? (i := 276) (by decide +kernel)) rfl) rfl hnam rfl (Nat.le_of_ble_eq_true rfl) rfl rfl dX1_init_10 (fun H locs V => ?_)
  replace V : kW D AA s.heap H ((a0, .inr (1, [.ref q1, .int 0])) :: ([] ++ [(q1, .inl (g.1, 780, .inl (fun _ => 0)))])) _ := V
  exact n_vret2 X V ⟨fun n => ([a0, q1] : List Nat).getD n 0, rfl, rfl⟩ dX1_init_13

def i_X8 : tX8 := ((fun _ => 0), (fun _ => 0), (fun _ => 0), 0)
set_option maxHeartbeats 4000000 in
set_option maxRecDepth 100000 in
theorem n_X8_init (l : Launch) (D : va_G) (g : kG) (a0 : Nat) : kMn l yX8_init cX8_init 1 1 3 123 12 D (kty g) a0 [(a0, .inr (8, [.null, .null, .null, .int 0]))] (fun u => ∃ a : Nat → Nat, a 0 = a0 ∧ u = gX8 g a i_X8) := by
  intro sz
  refine n_enter RX8 (by decide +kernel) rfl rfl (Nat.le_of_ble_eq_true rfl) ?_
  intro p en s m args below meth c ls hsz X hAO hnam V hl
  obtain ⟨AA, hAA⟩ : ∃ q, q = va_A [(a0, .inr (8, [.null, .null, .null, .int 0]))] sz := ⟨_, rfl⟩
  rw [← hAA] at V ⊢
  refine lv_aload_n X.1 X.2.1 dX8_init_0 rfl (lv_at hl 0 rfl) ?_
  refine n_obj X hl.1 (lw_tg_in (List.mem_of_getElem? (i := 183) (by decide +kernel)) rfl) n_oi n_oc (Nat.le_of_ble_eq_true rfl) (Nat.le_of_ble_eq_true rfl) dX8_init_1 ?_
  refine lv_aload_n X.1 X.2.1 dX8_init_4 rfl (lv_at hl 0 rfl) ?_
  refine lv_bipush (v := (41 : Int32)) X.1 X.2.1 dX8_init_5 (by decide) ?_
  refine n_newI (N := 41) X V (by decide +kernel) (by decide +kernel) (Nat.le_of_ble_eq_true rfl) (Nat.le_of_ble_eq_true rfl) (Nat.le_of_ble_eq_true rfl) dX8_init_7 (fun q1 H V => ?_)
  replace V : kW D AA s.heap H ((a0, .inr (8, [.null, .null, .null, .int 0])) :: ([] ++ [(q1, .inl (g.1, 41, .inl (fun _ => 0)))])) _ := V
  refine n_putF (C := RX8) (T := TX8) (N := 4) 0 tyX8 X V inX8 tyX8_ok nmX8 rfl (by decide) rfl rfl (lw_tg_in (List.mem_of_getElem? (i := 184) (by decide +kernel)) rfl) rfl hnam rfl (Nat.le_of_ble_eq_true rfl) rfl rfl dX8_init_9 (fun H locs V => ?_)
  replace V : kW D AA s.heap H ((a0, .inr (8, [.ref q1, .null, .null, .int 0])) :: ([] ++ [(q1, .inl (g.1, 41, .inl (fun _ => 0)))])) _ := V
  refine lv_aload_n X.1 X.2.1 dX8_init_12 rfl (lv_at hl 0 rfl) ?_
  refine lv_bipush (v := (41 : Int32)) X.1 X.2.1 dX8_init_13 (by decide) ?_
  refine n_newI (N := 41) X V (by decide +kernel) (by decide +kernel) (Nat.le_of_ble_eq_true rfl) (Nat.le_of_ble_eq_true rfl) (Nat.le_of_ble_eq_true rfl) dX8_init_15 (fun q2 H V => ?_)
  replace V : kW D AA s.heap H ((a0, .inr (8, [.ref q1, .null, .null, .int 0])) :: (([] ++ [(q1, .inl (g.1, 41, .inl (fun _ => 0)))]) ++ [(q2, .inl (g.1, 41, .inl (fun _ => 0)))])) _ := V
  refine n_putF (C := RX8) (T := TX8) (N := 4) 1 tyX8 X V inX8 tyX8_ok nmX8 rfl (by decide) rfl rfl (lw_tg_in (List.mem_of_getElem? (i := 185) (by decide +kernel)) rfl) rfl hnam rfl (Nat.le_of_ble_eq_true rfl) rfl rfl dX8_init_17 (fun H locs V => ?_)
  replace V : kW D AA s.heap H ((a0, .inr (8, [.ref q1, .ref q2, .null, .int 0])) :: (([] ++ [(q1, .inl (g.1, 41, .inl (fun _ => 0)))]) ++ [(q2, .inl (g.1, 41, .inl (fun _ => 0)))])) _ := V
  refine lv_aload_n X.1 X.2.1 dX8_init_20 rfl (lv_at hl 0 rfl) ?_
  refine lv_bipush (v := (41 : Int32)) X.1 X.2.1 dX8_init_21 (by decide) ?_
  refine n_newI (N := 41) X V (by decide +kernel) (by decide +kernel) (Nat.le_of_ble_eq_true rfl) (Nat.le_of_ble_eq_true rfl) (Nat.le_of_ble_eq_true rfl) dX8_init_23 (fun q3 H V => ?_)
  replace V : kW D AA s.heap H ((a0, .inr (8, [.ref q1, .ref q2, .null, .int 0])) :: ((([] ++ [(q1, .inl (g.1, 41, .inl (fun _ => 0)))]) ++ [(q2, .inl (g.1, 41, .inl (fun _ => 0)))]) ++ [(q3, .inl (g.1, 41, .inl (fun _ => 0)))])) _ := V
  refine n_putF (C := RX8) (T := TX8) (N := 4) 2 tyX8 X V inX8 tyX8_ok nmX8 rfl (by decide) rfl rfl (lw_tg_in (List.mem_of_getElem? (i := 186) (by decide +kernel)) rfl) rfl hnam rfl (Nat.le_of_ble_eq_true rfl) rfl rfl dX8_init_25 (fun H locs V => ?_)
  replace V : kW D AA s.heap H ((a0, .inr (8, [.ref q1, .ref q2, .ref q3, .int 0])) :: ((([] ++ [(q1, .inl (g.1, 41, .inl (fun _ => 0)))]) ++ [(q2, .inl (g.1, 41, .inl (fun _ => 0)))]) ++ [(q3, .inl (g.1, 41, .inl (fun _ => 0)))])) _ := V
  exact n_vret2 X V ⟨fun n => ([a0, q1, q2, q3] : List Nat).getD n 0, rfl, rfl⟩ dX8_init_28

def i_X0 : tX0 := (0, 0, (1), 0, 0, (fun _ => 0), 0, (fun _ => 0), 0)
set_option maxHeartbeats 4000000 in
set_option maxRecDepth 100000 in
theorem n_X0_init (l : Launch) (D : va_G) (g : kG) (a0 : Nat) : kMn l yX0_init cX0_init 1 1 2 44 12 D (kty g) a0 [(a0, .inr (0, [.int 0, .int 0, .long 0, .long 0, .long 0, .null, .int 0, .null, .int 0]))] (fun u => ∃ a : Nat → Nat, a 0 = a0 ∧ u = gX0 g a i_X0) := by
  intro sz
  refine n_enter RX0 (by decide +kernel) rfl rfl (Nat.le_of_ble_eq_true rfl) ?_
  intro p en s m args below meth c ls hsz X hAO hnam V hl
  obtain ⟨AA, hAA⟩ : ∃ q, q = va_A [(a0, .inr (0, [.int 0, .int 0, .long 0, .long 0, .long 0, .null, .int 0, .null, .int 0]))] sz := ⟨_, rfl⟩
  rw [← hAA] at V ⊢
  refine lv_aload_n X.1 X.2.1 dX0_init_0 rfl (lv_at hl 0 rfl) ?_
  refine n_obj X hl.1 (lw_tg_in (List.mem_of_getElem? (i := 202) (by decide +kernel)) rfl) n_oi n_oc (Nat.le_of_ble_eq_true rfl) (Nat.le_of_ble_eq_true rfl) dX0_init_1 ?_
  refine lv_aload_n X.1 X.2.1 dX0_init_4 rfl (lv_at hl 0 rfl) ?_
  refine lv_lconst (v := (1 : Int64)) X.1 X.2.1 dX0_init_5 (by decide) ?_
  refine n_put (C := RX0) (T := TX0) (N := 9) (ft := .long) 2 tyX0 X V inX0 tyX0_ok nmX0 rfl (by decide) rfl (lw_tg_in (List.mem_of_getElem? (i := 205) (by decide +kernel)) rfl) rfl rfl (Nat.le_of_ble_eq_true rfl) rfl rfl dX0_init_6 (fun H locs V => ?_)
  replace V : kW D AA s.heap H ((a0, .inr (0, [.int 0, .int 0, .long 1, .long 0, .long 0, .null, .int 0, .null, .int 0])) :: []) _ := V
  refine lv_aload_n X.1 X.2.1 dX0_init_9 rfl (lv_at hl 0 rfl) ?_
  refine lv_bipush (v := (41 : Int32)) X.1 X.2.1 dX0_init_10 (by decide) ?_
  refine n_newI (N := 41) X V (by decide +kernel) (by decide +kernel) (Nat.le_of_ble_eq_true rfl) (Nat.le_of_ble_eq_true rfl) (Nat.le_of_ble_eq_true rfl) dX0_init_12 (fun q1 H V => ?_)
  replace V : kW D AA s.heap H ((a0, .inr (0, [.int 0, .int 0, .long 1, .long 0, .long 0, .null, .int 0, .null, .int 0])) :: ([] ++ [(q1, .inl (g.1, 41, .inl (fun _ => 0)))])) _ := V
  refine n_putF (C := RX0) (T := TX0) (N := 9) 5 tyX0 X V inX0 tyX0_ok nmX0 rfl (by decide) rfl rfl (lw_tg_in (List.mem_of_getElem? (i := 208) (by decide +kernel)) rfl) rfl hnam rfl (Nat.le_of_ble_eq_true rfl) rfl rfl dX0_init_14 (fun H locs V => ?_)
  replace V : kW D AA s.heap H ((a0, .inr (0, [.int 0, .int 0, .long 1, .long 0, .long 0, .ref q1, .int 0, .null, .int 0])) :: ([] ++ [(q1, .inl (g.1, 41, .inl (fun _ => 0)))])) _ := V
  refine lv_aload_n X.1 X.2.1 dX0_init_17 rfl (lv_at hl 0 rfl) ?_
  refine lv_iconst (v := (3 : Int32)) X.1 X.2.1 dX0_init_18 (by decide) ?_
  refine n_newI (N := 3) X V (by decide +kernel) (by decide +kernel) (Nat.le_of_ble_eq_true rfl) (Nat.le_of_ble_eq_true rfl) (Nat.le_of_ble_eq_true rfl) dX0_init_19 (fun q2 H V => ?_)
  replace V : kW D AA s.heap H ((a0, .inr (0, [.int 0, .int 0, .long 1, .long 0, .long 0, .ref q1, .int 0, .null, .int 0])) :: (([] ++ [(q1, .inl (g.1, 41, .inl (fun _ => 0)))]) ++ [(q2, .inl (g.1, 3, .inl (fun _ => 0)))])) _ := V
  refine n_putF (C := RX0) (T := TX0) (N := 9) 7 tyX0 X V inX0 tyX0_ok nmX0 rfl (by decide) rfl rfl (lw_tg_in (List.mem_of_getElem? (i := 210) (by decide +kernel)) rfl) rfl hnam rfl (Nat.le_of_ble_eq_true rfl) rfl rfl dX0_init_21 (fun H locs V => ?_)
  replace V : kW D AA s.heap H ((a0, .inr (0, [.int 0, .int 0, .long 1, .long 0, .long 0, .ref q1, .int 0, .ref q2, .int 0])) :: (([] ++ [(q1, .inl (g.1, 41, .inl (fun _ => 0)))]) ++ [(q2, .inl (g.1, 3, .inl (fun _ => 0)))])) _ := V
  exact n_vret2 X V ⟨fun n => ([a0, q1, q2] : List Nat).getD n 0, rfl, rfl⟩ dX0_init_24

def i_X5 : tX5 := ((fun _ => 0), (fun _ => 0), (fun _ => 0), 0)
set_option maxHeartbeats 4000000 in
set_option maxRecDepth 100000 in
theorem n_X5_init (l : Launch) (D : va_G) (g : kG) (a0 : Nat) : kMn l yX5_init cX5_init 1 1 3 246 12 D (kty g) a0 [(a0, .inr (5, [.null, .null, .null, .int 0]))] (fun u => ∃ a : Nat → Nat, a 0 = a0 ∧ u = gX5 g a i_X5) := by
  intro sz
  refine n_enter RX5 (by decide +kernel) rfl rfl (Nat.le_of_ble_eq_true rfl) ?_
  intro p en s m args below meth c ls hsz X hAO hnam V hl
  obtain ⟨AA, hAA⟩ : ∃ q, q = va_A [(a0, .inr (5, [.null, .null, .null, .int 0]))] sz := ⟨_, rfl⟩
  rw [← hAA] at V ⊢
  refine lv_aload_n X.1 X.2.1 dX5_init_0 rfl (lv_at hl 0 rfl) ?_
  refine n_obj X hl.1 (lw_tg_in (List.mem_of_getElem? (i := 236) (by decide +kernel)) rfl) n_oi n_oc (Nat.le_of_ble_eq_true rfl) (Nat.le_of_ble_eq_true rfl) dX5_init_1 ?_
  refine lv_aload_n X.1 X.2.1 dX5_init_4 rfl (lv_at hl 0 rfl) ?_
  refine lv_bipush (v := (82 : Int32)) X.1 X.2.1 dX5_init_5 (by decide) ?_
  refine n_newI (N := 82) X V (by decide +kernel) (by decide +kernel) (Nat.le_of_ble_eq_true rfl) (Nat.le_of_ble_eq_true rfl) (Nat.le_of_ble_eq_true rfl) dX5_init_7 (fun q1 H V => ?_)
  replace V : kW D AA s.heap H ((a0, .inr (5, [.null, .null, .null, .int 0])) :: ([] ++ [(q1, .inl (g.1, 82, .inl (fun _ => 0)))])) _ := V
  refine n_putF (C := RX5) (T := TX5) (N := 4) 0 tyX5 X V inX5 tyX5_ok nmX5 rfl (by decide) rfl rfl (lw_tg_in (List.mem_of_getElem? (i := 237) (by decide +kernel)) rfl) rfl hnam rfl (Nat.le_of_ble_eq_true rfl) rfl rfl dX5_init_9 (fun H locs V => ?_)
  replace V : kW D AA s.heap H ((a0, .inr (5, [.ref q1, .null, .null, .int 0])) :: ([] ++ [(q1, .inl (g.1, 82, .inl (fun _ => 0)))])) _ := V
  refine lv_aload_n X.1 X.2.1 dX5_init_12 rfl (lv_at hl 0 rfl) ?_
  refine lv_bipush (v := (82 : Int32)) X.1 X.2.1 dX5_init_13 (by decide) ?_
  refine n_newI (N := 82) X V (by decide +kernel) (by decide +kernel) (Nat.le_of_ble_eq_true rfl) (Nat.le_of_ble_eq_true rfl) (Nat.le_of_ble_eq_true rfl) dX5_init_15 (fun q2 H V => ?_)
  replace V : kW D AA s.heap H ((a0, .inr (5, [.ref q1, .null, .null, .int 0])) :: (([] ++ [(q1, .inl (g.1, 82, .inl (fun _ => 0)))]) ++ [(q2, .inl (g.1, 82, .inl (fun _ => 0)))])) _ := V
  refine n_putF (C := RX5) (T := TX5) (N := 4) 1 tyX5 X V inX5 tyX5_ok nmX5 rfl (by decide) rfl rfl (lw_tg_in (List.mem_of_getElem? (i := 238) (by decide +kernel)) rfl) rfl hnam rfl (Nat.le_of_ble_eq_true rfl) rfl rfl dX5_init_17 (fun H locs V => ?_)
  replace V : kW D AA s.heap H ((a0, .inr (5, [.ref q1, .ref q2, .null, .int 0])) :: (([] ++ [(q1, .inl (g.1, 82, .inl (fun _ => 0)))]) ++ [(q2, .inl (g.1, 82, .inl (fun _ => 0)))])) _ := V
  refine lv_aload_n X.1 X.2.1 dX5_init_20 rfl (lv_at hl 0 rfl) ?_
  refine lv_bipush (v := (82 : Int32)) X.1 X.2.1 dX5_init_21 (by decide) ?_
  refine n_newI (N := 82) X V (by decide +kernel) (by decide +kernel) (Nat.le_of_ble_eq_true rfl) (Nat.le_of_ble_eq_true rfl) (Nat.le_of_ble_eq_true rfl) dX5_init_23 (fun q3 H V => ?_)
  replace V : kW D AA s.heap H ((a0, .inr (5, [.ref q1, .ref q2, .null, .int 0])) :: ((([] ++ [(q1, .inl (g.1, 82, .inl (fun _ => 0)))]) ++ [(q2, .inl (g.1, 82, .inl (fun _ => 0)))]) ++ [(q3, .inl (g.1, 82, .inl (fun _ => 0)))])) _ := V
  refine n_putF (C := RX5) (T := TX5) (N := 4) 2 tyX5 X V inX5 tyX5_ok nmX5 rfl (by decide) rfl rfl (lw_tg_in (List.mem_of_getElem? (i := 239) (by decide +kernel)) rfl) rfl hnam rfl (Nat.le_of_ble_eq_true rfl) rfl rfl dX5_init_25 (fun H locs V => ?_)
  replace V : kW D AA s.heap H ((a0, .inr (5, [.ref q1, .ref q2, .ref q3, .int 0])) :: ((([] ++ [(q1, .inl (g.1, 82, .inl (fun _ => 0)))]) ++ [(q2, .inl (g.1, 82, .inl (fun _ => 0)))]) ++ [(q3, .inl (g.1, 82, .inl (fun _ => 0)))])) _ := V
  exact n_vret2 X V ⟨fun n => ([a0, q1, q2, q3] : List Nat).getD n 0, rfl, rfl⟩ dX5_init_28

def i_X7 : tX7 := (0, 0, 0, 0, 0, 0, 0, 0, 0, 0)
set_option maxHeartbeats 4000000 in
set_option maxRecDepth 100000 in
theorem n_X7_init (l : Launch) (D : va_G) (g : kG) (a0 : Nat) : kMn l yX7_init cX7_init 1 1 0 0 12 D (kty g) a0 [(a0, .inr (7, [.long 0, .long 0, .long 0, .long 0, .long 0, .long 0, .long 0, .long 0, .long 0, .long 0]))] (fun u => ∃ a : Nat → Nat, a 0 = a0 ∧ u = gX7 g a i_X7) := by
  intro sz
  refine n_enter RX7 (by decide +kernel) rfl rfl (Nat.le_of_ble_eq_true rfl) ?_
  intro p en s m args below meth c ls hsz X hAO hnam V hl
  obtain ⟨AA, hAA⟩ : ∃ q, q = va_A [(a0, .inr (7, [.long 0, .long 0, .long 0, .long 0, .long 0, .long 0, .long 0, .long 0, .long 0, .long 0]))] sz := ⟨_, rfl⟩
  rw [← hAA] at V ⊢
  refine lv_aload_n X.1 X.2.1 dX7_init_0 rfl (lv_at hl 0 rfl) ?_
  refine n_obj X hl.1 (lw_tg_in (List.mem_of_getElem? (i := 288) (by decide +kernel)) rfl) n_oi n_oc (Nat.le_of_ble_eq_true rfl) (Nat.le_of_ble_eq_true rfl) dX7_init_1 ?_
  exact n_vret2 X V ⟨fun n => ([a0] : List Nat).getD n 0, rfl, rfl⟩ dX7_init_4

def i_X9 : tX9 := ((fun _ => 0), 0, 0, (-1))
set_option maxHeartbeats 4000000 in
set_option maxRecDepth 100000 in
theorem n_X9_init (l : Launch) (D : va_G) (g : kG) (a0 : Nat) : kMn l yX9_init cX9_init 1 1 1 400 12 D (kty g) a0 [(a0, .inr (9, [.null, .int 0, .int 0, .int 0]))] (fun u => ∃ a : Nat → Nat, a 0 = a0 ∧ u = gX9 g a i_X9) := by
  intro sz
  refine n_enter RX9 (by decide +kernel) rfl rfl (Nat.le_of_ble_eq_true rfl) ?_
  intro p en s m args below meth c ls hsz X hAO hnam V hl
  obtain ⟨AA, hAA⟩ : ∃ q, q = va_A [(a0, .inr (9, [.null, .int 0, .int 0, .int 0]))] sz := ⟨_, rfl⟩
  rw [← hAA] at V ⊢
  refine lv_aload_n X.1 X.2.1 dX9_init_0 rfl (lv_at hl 0 rfl) ?_
  refine n_obj X hl.1 (lw_tg_in (List.mem_of_getElem? (i := 164) (by decide +kernel)) rfl) n_oi n_oc (Nat.le_of_ble_eq_true rfl) (Nat.le_of_ble_eq_true rfl) dX9_init_1 ?_
  refine lv_aload_n X.1 X.2.1 dX9_init_4 rfl (lv_at hl 0 rfl) ?_
  refine lv_sipush (v := (400 : Int32)) X.1 X.2.1 dX9_init_5 (by decide) ?_
  refine n_newI (N := 400) X V (by decide +kernel) (by decide +kernel) (Nat.le_of_ble_eq_true rfl) (Nat.le_of_ble_eq_true rfl) (Nat.le_of_ble_eq_true rfl) dX9_init_8 (fun q1 H V => ?_)
  replace V : kW D AA s.heap H ((a0, .inr (9, [.null, .int 0, .int 0, .int 0])) :: ([] ++ [(q1, .inl (g.1, 400, .inl (fun _ => 0)))])) _ := V
  refine n_putF (C := RX9) (T := TX9) (N := 4) 0 tyX9 X V inX9 tyX9_ok nmX9 rfl (by decide) rfl rfl (lw_tg_in (List.mem_of_getElem? (i := 165) (by decide +kernel)) rfl) rfl hnam rfl (Nat.le_of_ble_eq_true rfl) rfl rfl dX9_init_10 (fun H locs V => ?_)
  replace V : kW D AA s.heap H ((a0, .inr (9, [.ref q1, .int 0, .int 0, .int 0])) :: ([] ++ [(q1, .inl (g.1, 400, .inl (fun _ => 0)))])) _ := V
  refine lv_aload_n X.1 X.2.1 dX9_init_13 rfl (lv_at hl 0 rfl) ?_
  refine lv_iconst (v := (-1 : Int32)) X.1 X.2.1 dX9_init_14 (by decide) ?_
  refine n_put (C := RX9) (T := TX9) (N := 4) (ft := .int) 3 tyX9 X V inX9 tyX9_ok nmX9 rfl (by decide) rfl (lw_tg_in (List.mem_of_getElem? (i := 168) (by decide +kernel)) rfl) rfl rfl (Nat.le_of_ble_eq_true rfl) rfl rfl dX9_init_15 (fun H locs V => ?_)
  replace V : kW D AA s.heap H ((a0, .inr (9, [.ref q1, .int 0, .int 0, .int (-1)])) :: ([] ++ [(q1, .inl (g.1, 400, .inl (fun _ => 0)))])) _ := V
  exact n_vret2 X V ⟨fun n => ([a0, q1] : List Nat).getD n 0, rfl, rfl⟩ dX9_init_18
