def i_X6 : tX6 := (fun _ => 0)
set_option maxHeartbeats 4000000 in
set_option maxRecDepth 100000 in
theorem n_X6_init (l : Launch) (D : va_G) (g : kG) (a0 : Nat) : kMn l yX6_init cX6_init 1 2 9 417 32 D (kty g) a0 [(a0, .inr (6, [.null, .null, .null]))] (fun u => ∃ (a : Nat → Nat) (b : Nat → Nat → Nat), a 0 = a0 ∧ u = List.flatten [gX6 g a b i_X6, gX8 g (b 0) i_X8, gX5 g (b 1) i_X5]) := by
  intro sz
  refine n_enter RX6 (by decide +kernel) rfl rfl (Nat.le_of_ble_eq_true rfl) ?_
  intro p en s m args below meth c ls hsz X hAO hnam V hl
  obtain ⟨AA, hAA⟩ : ∃ q, q = va_A [(a0, .inr (6, [.null, .null, .null]))] sz := ⟨_, rfl⟩
  rw [← hAA] at V ⊢
  refine lv_aload_n X.1 X.2.1 dX6_init_0 rfl (lv_at hl 0 rfl) ?_
  refine n_obj X hl.1 (lw_tg_in (List.mem_of_getElem? (i := 255) (by decide +kernel)) rfl) n_oi n_oc (Nat.le_of_ble_eq_true rfl) (Nat.le_of_ble_eq_true rfl) dX6_init_1 ?_
  refine lv_aload_n X.1 X.2.1 dX6_init_4 rfl (lv_at hl 0 rfl) ?_
  refine n_new (C := RX8) (T := TX8) (N := 4) (ci := 8) (fs := [.null, .null, .null, .int 0]) tyX8 X V inX8 tyX8_ok (lw_tg_in (List.mem_of_getElem? (i := 256) (by decide +kernel)) rfl) (lw_tg_in (List.mem_of_getElem? (i := 179) (by decide +kernel)) rfl) (lw_tg_in (List.mem_of_getElem? (i := 112) (by decide +kernel)) rfl) rfl (by decide +kernel) (Nat.le_of_ble_eq_true rfl) (Nat.le_of_ble_eq_true rfl) dX6_init_5 (fun q1 H V => ?_)
  refine lv_dup X.1 X.2.1 dX6_init_8 rfl ?_
  refine n_init (ws := (a0, .inr (6, [.null, .null, .null])) :: []) X hAO V (n_X8_init l D g q1) kci_X6_11 ⟨(Nat.le_of_ble_eq_true rfl), (Nat.le_of_ble_eq_true rfl)⟩ ⟨(Nat.le_of_ble_eq_true rfl), (Nat.le_of_ble_eq_true rfl)⟩ hl.1 (Nat.le_of_ble_eq_true rfl) dX6_init_9 (fun u1 H locs hu V2 => ?_)
  clear V
  obtain ⟨s1, hs1, rfl⟩ := hu
  subst hs1
  have V := V2
  clear V2
  replace V : kW D AA s.heap H ((a0, .inr (6, [.null, .null, .null])) :: ([] ++ (gX8 g s1 i_X8))) _ := V
  refine n_putF (C := RX6) (T := TX6) (N := 3) 0 tyX6 X V inX6 tyX6_ok nmX6 rfl (by decide) rfl rfl (lw_tg_in (List.mem_of_getElem? (i := 260) (by decide +kernel)) rfl) rfl hnam rfl (Nat.le_of_ble_eq_true rfl) rfl rfl dX6_init_12 (fun H locs V => ?_)
  replace V : kW D AA s.heap H ((a0, .inr (6, [.ref (s1 0), .null, .null])) :: ([] ++ (gX8 g s1 i_X8))) _ := V
  refine lv_aload_n X.1 X.2.1 dX6_init_15 rfl (lv_at hl 0 rfl) ?_
  refine n_new (C := RX5) (T := TX5) (N := 4) (ci := 5) (fs := [.null, .null, .null, .int 0]) tyX5 X V inX5 tyX5_ok (lw_tg_in (List.mem_of_getElem? (i := 258) (by decide +kernel)) rfl) (lw_tg_in (List.mem_of_getElem? (i := 232) (by decide +kernel)) rfl) (lw_tg_in (List.mem_of_getElem? (i := 114) (by decide +kernel)) rfl) rfl (by decide +kernel) (Nat.le_of_ble_eq_true rfl) (Nat.le_of_ble_eq_true rfl) dX6_init_16 (fun q2 H V => ?_)
  refine lv_dup X.1 X.2.1 dX6_init_19 rfl ?_
  refine n_init (ws := (a0, .inr (6, [.ref (s1 0), .null, .null])) :: ([] ++ (gX8 g s1 i_X8))) X hAO V (n_X5_init l D g q2) kci_X6_20 ⟨(Nat.le_of_ble_eq_true rfl), (Nat.le_of_ble_eq_true rfl)⟩ ⟨(Nat.le_of_ble_eq_true rfl), (Nat.le_of_ble_eq_true rfl)⟩ hl.1 (Nat.le_of_ble_eq_true rfl) dX6_init_20 (fun u2 H locs hu V2 => ?_)
  clear V
  obtain ⟨s2, hs2, rfl⟩ := hu
  subst hs2
  have V := V2
  clear V2
  replace V : kW D AA s.heap H ((a0, .inr (6, [.ref (s1 0), .null, .null])) :: (([] ++ (gX8 g s1 i_X8)) ++ (gX5 g s2 i_X5))) _ := V
  refine n_putF (C := RX6) (T := TX6) (N := 3) 1 tyX6 X V inX6 tyX6_ok nmX6 rfl (by decide) rfl rfl (lw_tg_in (List.mem_of_getElem? (i := 261) (by decide +kernel)) rfl) rfl hnam rfl (Nat.le_of_ble_eq_true rfl) rfl rfl dX6_init_23 (fun H locs V => ?_)
  replace V : kW D AA s.heap H ((a0, .inr (6, [.ref (s1 0), .ref (s2 0), .null])) :: (([] ++ (gX8 g s1 i_X8)) ++ (gX5 g s2 i_X5))) _ := V
  refine lv_aload_n X.1 X.2.1 dX6_init_26 rfl (lv_at hl 0 rfl) ?_
  refine lv_bipush (v := (40 : Int32)) X.1 X.2.1 dX6_init_27 (by decide) ?_
  refine n_newI (N := 40) X V (by decide +kernel) (by decide +kernel) (Nat.le_of_ble_eq_true rfl) (Nat.le_of_ble_eq_true rfl) (Nat.le_of_ble_eq_true rfl) dX6_init_29 (fun q3 H V => ?_)
  replace V : kW D AA s.heap H ((a0, .inr (6, [.ref (s1 0), .ref (s2 0), .null])) :: ((([] ++ (gX8 g s1 i_X8)) ++ (gX5 g s2 i_X5)) ++ [(q3, .inl (g.1, 40, .inl (fun _ => 0)))])) _ := V
  refine n_putF (C := RX6) (T := TX6) (N := 3) 2 tyX6 X V inX6 tyX6_ok nmX6 rfl (by decide) rfl rfl (lw_tg_in (List.mem_of_getElem? (i := 262) (by decide +kernel)) rfl) rfl hnam rfl (Nat.le_of_ble_eq_true rfl) rfl rfl dX6_init_31 (fun H locs V => ?_)
  replace V : kW D AA s.heap H ((a0, .inr (6, [.ref (s1 0), .ref (s2 0), .ref q3])) :: ((([] ++ (gX8 g s1 i_X8)) ++ (gX5 g s2 i_X5)) ++ [(q3, .inl (g.1, 40, .inl (fun _ => 0)))])) _ := V
  have V : kW D AA s.heap H (([(a0, .inr (6, [.ref (s1 0), .ref (s2 0), .ref q3]))] ++ (([] ++ (gX8 g s1 i_X8)) ++ (gX5 g s2 i_X5))) ++ [(q3, .inl (g.1, 40, .inl (fun _ => 0)))]) locs := by simpa only [List.cons_append, List.nil_append, List.append_assoc, List.append_nil] using V
  have V := kW_swap V
  refine n_vret2 X V ⟨(fun n => ([a0, q3] : List Nat).getD n 0), (fun n => ([s1, s2] : List (Nat → Nat)).getD n (fun _ => 0)),  rfl, ?_⟩ dX6_init_34
  simp [gX6, i_X6, List.flatten]
  try rfl

def i_X2 : tX2 := ((fun _ => 0), (fun _ => 0), (fun _ => 0), (fun _ => 0), 0, 0)
set_option maxHeartbeats 4000000 in
set_option maxRecDepth 100000 in
theorem n_X2_init (l : Launch) (D : va_G) (g : kG) (a0 : Nat) : kMn l yX2_init cX2_init 1 2 7 1245 32 D (kty g) a0 [(a0, .inr (2, [.null, .null, .null, .null, .null, .int 0, .int 0]))] (fun u => ∃ (a : Nat → Nat) (b : Nat → Nat → Nat), a 0 = a0 ∧ u = List.flatten [gX2 g a b i_X2, gX0 g (b 0) i_X0]) := by
  intro sz
  refine n_enter RX2 (by decide +kernel) rfl rfl (Nat.le_of_ble_eq_true rfl) ?_
  intro p en s m args below meth c ls hsz X hAO hnam V hl
  obtain ⟨AA, hAA⟩ : ∃ q, q = va_A [(a0, .inr (2, [.null, .null, .null, .null, .null, .int 0, .int 0]))] sz := ⟨_, rfl⟩
  rw [← hAA] at V ⊢
  refine lv_aload_n X.1 X.2.1 dX2_init_0 rfl (lv_at hl 0 rfl) ?_
  refine n_obj X hl.1 (lw_tg_in (List.mem_of_getElem? (i := 325) (by decide +kernel)) rfl) n_oi n_oc (Nat.le_of_ble_eq_true rfl) (Nat.le_of_ble_eq_true rfl) dX2_init_1 ?_
  refine lv_aload_n X.1 X.2.1 dX2_init_4 rfl (lv_at hl 0 rfl) ?_
  refine n_new (C := RX0) (T := TX0) (N := 9) (ci := 0) (fs := [.int 0, .int 0, .long 0, .long 0, .long 0, .null, .int 0, .null, .int 0]) tyX0 X V inX0 tyX0_ok (lw_tg_in (List.mem_of_getElem? (i := 326) (by decide +kernel)) rfl) (lw_tg_in (List.mem_of_getElem? (i := 198) (by decide +kernel)) rfl) (lw_tg_in (List.mem_of_getElem? (i := 113) (by decide +kernel)) rfl) rfl (by decide +kernel) (Nat.le_of_ble_eq_true rfl) (Nat.le_of_ble_eq_true rfl) dX2_init_5 (fun q1 H V => ?_)
  refine lv_dup X.1 X.2.1 dX2_init_8 rfl ?_
  refine n_init (ws := (a0, .inr (2, [.null, .null, .null, .null, .null, .int 0, .int 0])) :: []) X hAO V (n_X0_init l D g q1) kci_X2_11 ⟨(Nat.le_of_ble_eq_true rfl), (Nat.le_of_ble_eq_true rfl)⟩ ⟨(Nat.le_of_ble_eq_true rfl), (Nat.le_of_ble_eq_true rfl)⟩ hl.1 (Nat.le_of_ble_eq_true rfl) dX2_init_9 (fun u1 H locs hu V2 => ?_)
  clear V
  obtain ⟨s1, hs1, rfl⟩ := hu
  subst hs1
  have V := V2
  clear V2
  replace V : kW D AA s.heap H ((a0, .inr (2, [.null, .null, .null, .null, .null, .int 0, .int 0])) :: ([] ++ (gX0 g s1 i_X0))) _ := V
  refine n_putF (C := RX2) (T := TX2) (N := 7) 0 tyX2 X V inX2 tyX2_ok nmX2 rfl (by decide) rfl rfl (lw_tg_in (List.mem_of_getElem? (i := 328) (by decide +kernel)) rfl) rfl hnam rfl (Nat.le_of_ble_eq_true rfl) rfl rfl dX2_init_12 (fun H locs V => ?_)
  replace V : kW D AA s.heap H ((a0, .inr (2, [.ref (s1 0), .null, .null, .null, .null, .int 0, .int 0])) :: ([] ++ (gX0 g s1 i_X0))) _ := V
  refine lv_aload_n X.1 X.2.1 dX2_init_15 rfl (lv_at hl 0 rfl) ?_
  refine lv_sipush (v := (298 : Int32)) X.1 X.2.1 dX2_init_16 (by decide) ?_
  refine n_newJ (N := 298) X V (by decide +kernel) (by decide +kernel) (Nat.le_of_ble_eq_true rfl) (Nat.le_of_ble_eq_true rfl) (Nat.le_of_ble_eq_true rfl) dX2_init_19 (fun q2 H V => ?_)
  replace V : kW D AA s.heap H ((a0, .inr (2, [.ref (s1 0), .null, .null, .null, .null, .int 0, .int 0])) :: (([] ++ (gX0 g s1 i_X0)) ++ [(q2, .inl (g.2.1, 298, .inr (.inl (fun _ => 0))))])) _ := V
  refine n_putF (C := RX2) (T := TX2) (N := 7) 1 tyX2 X V inX2 tyX2_ok nmX2 rfl (by decide) rfl rfl (lw_tg_in (List.mem_of_getElem? (i := 329) (by decide +kernel)) rfl) rfl hnam rfl (Nat.le_of_ble_eq_true rfl) rfl rfl dX2_init_21 (fun H locs V => ?_)
  replace V : kW D AA s.heap H ((a0, .inr (2, [.ref (s1 0), .ref q2, .null, .null, .null, .int 0, .int 0])) :: (([] ++ (gX0 g s1 i_X0)) ++ [(q2, .inl (g.2.1, 298, .inr (.inl (fun _ => 0))))])) _ := V
  refine lv_aload_n X.1 X.2.1 dX2_init_24 rfl (lv_at hl 0 rfl) ?_
  refine lv_sipush (v := (298 : Int32)) X.1 X.2.1 dX2_init_25 (by decide) ?_
  refine n_newJ (N := 298) X V (by decide +kernel) (by decide +kernel) (Nat.le_of_ble_eq_true rfl) (Nat.le_of_ble_eq_true rfl) (Nat.le_of_ble_eq_true rfl) dX2_init_28 (fun q3 H V => ?_)
  replace V : kW D AA s.heap H ((a0, .inr (2, [.ref (s1 0), .ref q2, .null, .null, .null, .int 0, .int 0])) :: ((([] ++ (gX0 g s1 i_X0)) ++ [(q2, .inl (g.2.1, 298, .inr (.inl (fun _ => 0))))]) ++ [(q3, .inl (g.2.1, 298, .inr (.inl (fun _ => 0))))])) _ := V
  refine n_putF (C := RX2) (T := TX2) (N := 7) 2 tyX2 X V inX2 tyX2_ok nmX2 rfl (by decide) rfl rfl (lw_tg_in (List.mem_of_getElem? (i := 330) (by decide +kernel)) rfl) rfl hnam rfl (Nat.le_of_ble_eq_true rfl) rfl rfl dX2_init_30 (fun H locs V => ?_)
  replace V : kW D AA s.heap H ((a0, .inr (2, [.ref (s1 0), .ref q2, .ref q3, .null, .null, .int 0, .int 0])) :: ((([] ++ (gX0 g s1 i_X0)) ++ [(q2, .inl (g.2.1, 298, .inr (.inl (fun _ => 0))))]) ++ [(q3, .inl (g.2.1, 298, .inr (.inl (fun _ => 0))))])) _ := V
  refine lv_aload_n X.1 X.2.1 dX2_init_33 rfl (lv_at hl 0 rfl) ?_
  refine lv_sipush (v := (298 : Int32)) X.1 X.2.1 dX2_init_34 (by decide) ?_
  refine n_newI (N := 298) X V (by decide +kernel) (by decide +kernel) (Nat.le_of_ble_eq_true rfl) (Nat.le_of_ble_eq_true rfl) (Nat.le_of_ble_eq_true rfl) dX2_init_37 (fun q4 H V => ?_)
  replace V : kW D AA s.heap H ((a0, .inr (2, [.ref (s1 0), .ref q2, .ref q3, .null, .null, .int 0, .int 0])) :: (((([] ++ (gX0 g s1 i_X0)) ++ [(q2, .inl (g.2.1, 298, .inr (.inl (fun _ => 0))))]) ++ [(q3, .inl (g.2.1, 298, .inr (.inl (fun _ => 0))))]) ++ [(q4, .inl (g.1, 298, .inl (fun _ => 0)))])) _ := V
  refine n_putF (C := RX2) (T := TX2) (N := 7) 3 tyX2 X V inX2 tyX2_ok nmX2 rfl (by decide) rfl rfl (lw_tg_in (List.mem_of_getElem? (i := 331) (by decide +kernel)) rfl) rfl hnam rfl (Nat.le_of_ble_eq_true rfl) rfl rfl dX2_init_39 (fun H locs V => ?_)
  replace V : kW D AA s.heap H ((a0, .inr (2, [.ref (s1 0), .ref q2, .ref q3, .ref q4, .null, .int 0, .int 0])) :: (((([] ++ (gX0 g s1 i_X0)) ++ [(q2, .inl (g.2.1, 298, .inr (.inl (fun _ => 0))))]) ++ [(q3, .inl (g.2.1, 298, .inr (.inl (fun _ => 0))))]) ++ [(q4, .inl (g.1, 298, .inl (fun _ => 0)))])) _ := V
  refine lv_aload_n X.1 X.2.1 dX2_init_42 rfl (lv_at hl 0 rfl) ?_
  refine lv_sipush (v := (298 : Int32)) X.1 X.2.1 dX2_init_43 (by decide) ?_
  refine n_newI (N := 298) X V (by decide +kernel) (by decide +kernel) (Nat.le_of_ble_eq_true rfl) (Nat.le_of_ble_eq_true rfl) (Nat.le_of_ble_eq_true rfl) dX2_init_46 (fun q5 H V => ?_)
  replace V : kW D AA s.heap H ((a0, .inr (2, [.ref (s1 0), .ref q2, .ref q3, .ref q4, .null, .int 0, .int 0])) :: ((((([] ++ (gX0 g s1 i_X0)) ++ [(q2, .inl (g.2.1, 298, .inr (.inl (fun _ => 0))))]) ++ [(q3, .inl (g.2.1, 298, .inr (.inl (fun _ => 0))))]) ++ [(q4, .inl (g.1, 298, .inl (fun _ => 0)))]) ++ [(q5, .inl (g.1, 298, .inl (fun _ => 0)))])) _ := V
  refine n_putF (C := RX2) (T := TX2) (N := 7) 4 tyX2 X V inX2 tyX2_ok nmX2 rfl (by decide) rfl rfl (lw_tg_in (List.mem_of_getElem? (i := 332) (by decide +kernel)) rfl) rfl hnam rfl (Nat.le_of_ble_eq_true rfl) rfl rfl dX2_init_48 (fun H locs V => ?_)
  replace V : kW D AA s.heap H ((a0, .inr (2, [.ref (s1 0), .ref q2, .ref q3, .ref q4, .ref q5, .int 0, .int 0])) :: ((((([] ++ (gX0 g s1 i_X0)) ++ [(q2, .inl (g.2.1, 298, .inr (.inl (fun _ => 0))))]) ++ [(q3, .inl (g.2.1, 298, .inr (.inl (fun _ => 0))))]) ++ [(q4, .inl (g.1, 298, .inl (fun _ => 0)))]) ++ [(q5, .inl (g.1, 298, .inl (fun _ => 0)))])) _ := V
  have V : kW D AA s.heap H (([(a0, .inr (2, [.ref (s1 0), .ref q2, .ref q3, .ref q4, .ref q5, .int 0, .int 0]))] ++ ([] ++ (gX0 g s1 i_X0))) ++ [(q2, .inl (g.2.1, 298, .inr (.inl (fun _ => 0)))), (q3, .inl (g.2.1, 298, .inr (.inl (fun _ => 0)))), (q4, .inl (g.1, 298, .inl (fun _ => 0))), (q5, .inl (g.1, 298, .inl (fun _ => 0)))]) locs := by simpa only [List.cons_append, List.nil_append, List.append_assoc, List.append_nil] using V
  have V := kW_swap V
  refine n_vret2 X V ⟨(fun n => ([a0, q2, q3, q4, q5] : List Nat).getD n 0), (fun n => ([s1] : List (Nat → Nat)).getD n (fun _ => 0)),  rfl, ?_⟩ dX2_init_51
  simp [gX2, i_X2, List.flatten]
  try rfl
