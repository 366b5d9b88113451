def i_X11 : tX11 := (fun _ => 0)
set_option maxHeartbeats 4000000 in
set_option maxRecDepth 100000 in
theorem n_X11_init (l : Launch) (D : va_G) (g : kG) (a0 : Nat) : kMn l yX11_init cX11_init 1 3 74 7000 52 D (kty g) a0 [(a0, .inr (11, [.null, .null, .null, .null, .null, .null, .null, .null, .null, .null, .null, .null, .null, .null, .null, .null]))] (fun u => ∃ (a : Nat → Nat) (b : Nat → Nat → Nat) (t8 : Nat → Nat → Nat) (t11 : Nat → Nat → Nat), a 0 = a0 ∧ u = List.flatten [gX11 g a b i_X11, gX4 g (b 0) i_X4, gX9 g (b 1) i_X9, gX8 g (b 2) i_X8, gX8 g (b 3) i_X8, gX0 g (b 4) i_X0, gX0 g (b 5) i_X0, gX5 g (b 6) i_X5, gX5 g (b 7) i_X5, gX6 g (b 8) t8 i_X6, gX8 g (t8 0) i_X8, gX5 g (t8 1) i_X5, gX1 g (b 9) i_X1, gX7 g (b 10) i_X7, gX2 g (b 11) t11 i_X2, gX0 g (t11 0) i_X0, gX10 g (b 12) i_X10, gX3 g (b 13) i_X3, gX3 g (b 14) i_X3]) := by
  intro sz
  refine n_enter RX11 (by decide +kernel) rfl rfl (Nat.le_of_ble_eq_true rfl) ?_
  intro p en s m args below meth c ls hsz X hAO hnam V hl
  obtain ⟨AA, hAA⟩ : ∃ q, q = va_A [(a0, .inr (11, [.null, .null, .null, .null, .null, .null, .null, .null, .null, .null, .null, .null, .null, .null, .null, .null]))] sz := ⟨_, rfl⟩
  rw [← hAA] at V ⊢
  refine lv_aload_n X.1 X.2.1 dX11_init_0 rfl (lv_at hl 0 rfl) ?_
  refine n_obj X hl.1 (lw_tg_in (List.mem_of_getElem? (i := 131) (by decide +kernel)) rfl) n_oi n_oc (Nat.le_of_ble_eq_true rfl) (Nat.le_of_ble_eq_true rfl) dX11_init_1 ?_
  refine lv_aload_n X.1 X.2.1 dX11_init_4 rfl (lv_at hl 0 rfl) ?_
  refine n_new (C := RX4) (T := TX4) (N := 5) (ci := 4) (fs := [.null, .null, .null, .int 0, .int 0]) tyX4 X V inX4 tyX4_ok (lw_tg_in (List.mem_of_getElem? (i := 134) (by decide +kernel)) rfl) (lw_tg_in (List.mem_of_getElem? (i := 135) (by decide +kernel)) rfl) (lw_tg_in (List.mem_of_getElem? (i := 110) (by decide +kernel)) rfl) rfl (by decide +kernel) (Nat.le_of_ble_eq_true rfl) (Nat.le_of_ble_eq_true rfl) dX11_init_5 (fun q1 H V => ?_)
  refine lv_dup X.1 X.2.1 dX11_init_8 rfl ?_
  refine n_init (ws := (a0, .inr (11, [.null, .null, .null, .null, .null, .null, .null, .null, .null, .null, .null, .null, .null, .null, .null, .null])) :: []) X hAO V (n_X4_init l D g q1) kci_X11_9 ⟨(Nat.le_of_ble_eq_true rfl), (Nat.le_of_ble_eq_true rfl)⟩ ⟨(Nat.le_of_ble_eq_true rfl), (Nat.le_of_ble_eq_true rfl)⟩ hl.1 (Nat.le_of_ble_eq_true rfl) dX11_init_9 (fun u1 H locs hu V2 => ?_)
  clear V
  obtain ⟨s1, hs1, rfl⟩ := hu
  subst hs1
  have V := V2
  clear V2
  replace V : kW D AA s.heap H ((a0, .inr (11, [.null, .null, .null, .null, .null, .null, .null, .null, .null, .null, .null, .null, .null, .null, .null, .null])) :: ([] ++ (gX4 g s1 i_X4))) _ := V
  refine n_putF (C := RX11) (T := TX11) (N := 16) 0 tyX11 X V inX11 tyX11_ok nmX11 rfl (by decide) rfl rfl (lw_tg_in (List.mem_of_getElem? (i := 377) (by decide +kernel)) rfl) rfl hnam rfl (Nat.le_of_ble_eq_true rfl) rfl rfl dX11_init_12 (fun H locs V => ?_)
  replace V : kW D AA s.heap H ((a0, .inr (11, [.ref (s1 0), .null, .null, .null, .null, .null, .null, .null, .null, .null, .null, .null, .null, .null, .null, .null])) :: ([] ++ (gX4 g s1 i_X4))) _ := V
  refine lv_aload_n X.1 X.2.1 dX11_init_15 rfl (lv_at hl 0 rfl) ?_
  refine n_new (C := RX9) (T := TX9) (N := 4) (ci := 9) (fs := [.null, .int 0, .int 0, .int 0]) tyX9 X V inX9 tyX9_ok (lw_tg_in (List.mem_of_getElem? (i := 159) (by decide +kernel)) rfl) (lw_tg_in (List.mem_of_getElem? (i := 160) (by decide +kernel)) rfl) (lw_tg_in (List.mem_of_getElem? (i := 111) (by decide +kernel)) rfl) rfl (by decide +kernel) (Nat.le_of_ble_eq_true rfl) (Nat.le_of_ble_eq_true rfl) dX11_init_16 (fun q2 H V => ?_)
  refine lv_dup X.1 X.2.1 dX11_init_19 rfl ?_
  refine n_init (ws := (a0, .inr (11, [.ref (s1 0), .null, .null, .null, .null, .null, .null, .null, .null, .null, .null, .null, .null, .null, .null, .null])) :: ([] ++ (gX4 g s1 i_X4))) X hAO V (n_X9_init l D g q2) kci_X11_18 ⟨(Nat.le_of_ble_eq_true rfl), (Nat.le_of_ble_eq_true rfl)⟩ ⟨(Nat.le_of_ble_eq_true rfl), (Nat.le_of_ble_eq_true rfl)⟩ hl.1 (Nat.le_of_ble_eq_true rfl) dX11_init_20 (fun u2 H locs hu V2 => ?_)
  clear V
  obtain ⟨s2, hs2, rfl⟩ := hu
  subst hs2
  have V := V2
  clear V2
  replace V : kW D AA s.heap H ((a0, .inr (11, [.ref (s1 0), .null, .null, .null, .null, .null, .null, .null, .null, .null, .null, .null, .null, .null, .null, .null])) :: (([] ++ (gX4 g s1 i_X4)) ++ (gX9 g s2 i_X9))) _ := V
  refine n_putF (C := RX11) (T := TX11) (N := 16) 1 tyX11 X V inX11 tyX11_ok nmX11 rfl (by decide) rfl rfl (lw_tg_in (List.mem_of_getElem? (i := 378) (by decide +kernel)) rfl) rfl hnam rfl (Nat.le_of_ble_eq_true rfl) rfl rfl dX11_init_23 (fun H locs V => ?_)
  replace V : kW D AA s.heap H ((a0, .inr (11, [.ref (s1 0), .ref (s2 0), .null, .null, .null, .null, .null, .null, .null, .null, .null, .null, .null, .null, .null, .null])) :: (([] ++ (gX4 g s1 i_X4)) ++ (gX9 g s2 i_X9))) _ := V
  refine lv_aload_n X.1 X.2.1 dX11_init_26 rfl (lv_at hl 0 rfl) ?_
  refine n_new (C := RX8) (T := TX8) (N := 4) (ci := 8) (fs := [.null, .null, .null, .int 0]) tyX8 X V inX8 tyX8_ok (lw_tg_in (List.mem_of_getElem? (i := 178) (by decide +kernel)) rfl) (lw_tg_in (List.mem_of_getElem? (i := 179) (by decide +kernel)) rfl) (lw_tg_in (List.mem_of_getElem? (i := 112) (by decide +kernel)) rfl) rfl (by decide +kernel) (Nat.le_of_ble_eq_true rfl) (Nat.le_of_ble_eq_true rfl) dX11_init_27 (fun q3 H V => ?_)
  refine lv_dup X.1 X.2.1 dX11_init_30 rfl ?_
  refine n_init (ws := (a0, .inr (11, [.ref (s1 0), .ref (s2 0), .null, .null, .null, .null, .null, .null, .null, .null, .null, .null, .null, .null, .null, .null])) :: (([] ++ (gX4 g s1 i_X4)) ++ (gX9 g s2 i_X9))) X hAO V (n_X8_init l D g q3) kci_X11_25 ⟨(Nat.le_of_ble_eq_true rfl), (Nat.le_of_ble_eq_true rfl)⟩ ⟨(Nat.le_of_ble_eq_true rfl), (Nat.le_of_ble_eq_true rfl)⟩ hl.1 (Nat.le_of_ble_eq_true rfl) dX11_init_31 (fun u3 H locs hu V2 => ?_)
  clear V
  obtain ⟨s3, hs3, rfl⟩ := hu
  subst hs3
  have V := V2
  clear V2
  replace V : kW D AA s.heap H ((a0, .inr (11, [.ref (s1 0), .ref (s2 0), .null, .null, .null, .null, .null, .null, .null, .null, .null, .null, .null, .null, .null, .null])) :: ((([] ++ (gX4 g s1 i_X4)) ++ (gX9 g s2 i_X9)) ++ (gX8 g s3 i_X8))) _ := V
  refine n_putF (C := RX11) (T := TX11) (N := 16) 2 tyX11 X V inX11 tyX11_ok nmX11 rfl (by decide) rfl rfl (lw_tg_in (List.mem_of_getElem? (i := 379) (by decide +kernel)) rfl) rfl hnam rfl (Nat.le_of_ble_eq_true rfl) rfl rfl dX11_init_34 (fun H locs V => ?_)
  replace V : kW D AA s.heap H ((a0, .inr (11, [.ref (s1 0), .ref (s2 0), .ref (s3 0), .null, .null, .null, .null, .null, .null, .null, .null, .null, .null, .null, .null, .null])) :: ((([] ++ (gX4 g s1 i_X4)) ++ (gX9 g s2 i_X9)) ++ (gX8 g s3 i_X8))) _ := V
  refine lv_aload_n X.1 X.2.1 dX11_init_37 rfl (lv_at hl 0 rfl) ?_
  refine n_new (C := RX8) (T := TX8) (N := 4) (ci := 8) (fs := [.null, .null, .null, .int 0]) tyX8 X V inX8 tyX8_ok (lw_tg_in (List.mem_of_getElem? (i := 178) (by decide +kernel)) rfl) (lw_tg_in (List.mem_of_getElem? (i := 179) (by decide +kernel)) rfl) (lw_tg_in (List.mem_of_getElem? (i := 112) (by decide +kernel)) rfl) rfl (by decide +kernel) (Nat.le_of_ble_eq_true rfl) (Nat.le_of_ble_eq_true rfl) dX11_init_38 (fun q4 H V => ?_)
  refine lv_dup X.1 X.2.1 dX11_init_41 rfl ?_
  refine n_init (ws := (a0, .inr (11, [.ref (s1 0), .ref (s2 0), .ref (s3 0), .null, .null, .null, .null, .null, .null, .null, .null, .null, .null, .null, .null, .null])) :: ((([] ++ (gX4 g s1 i_X4)) ++ (gX9 g s2 i_X9)) ++ (gX8 g s3 i_X8))) X hAO V (n_X8_init l D g q4) kci_X11_25 ⟨(Nat.le_of_ble_eq_true rfl), (Nat.le_of_ble_eq_true rfl)⟩ ⟨(Nat.le_of_ble_eq_true rfl), (Nat.le_of_ble_eq_true rfl)⟩ hl.1 (Nat.le_of_ble_eq_true rfl) dX11_init_42 (fun u4 H locs hu V2 => ?_)
  clear V
  obtain ⟨s4, hs4, rfl⟩ := hu
  subst hs4
  have V := V2
  clear V2
  replace V : kW D AA s.heap H ((a0, .inr (11, [.ref (s1 0), .ref (s2 0), .ref (s3 0), .null, .null, .null, .null, .null, .null, .null, .null, .null, .null, .null, .null, .null])) :: (((([] ++ (gX4 g s1 i_X4)) ++ (gX9 g s2 i_X9)) ++ (gX8 g s3 i_X8)) ++ (gX8 g s4 i_X8))) _ := V
  refine n_putF (C := RX11) (T := TX11) (N := 16) 3 tyX11 X V inX11 tyX11_ok nmX11 rfl (by decide) rfl rfl (lw_tg_in (List.mem_of_getElem? (i := 380) (by decide +kernel)) rfl) rfl hnam rfl (Nat.le_of_ble_eq_true rfl) rfl rfl dX11_init_45 (fun H locs V => ?_)
  replace V : kW D AA s.heap H ((a0, .inr (11, [.ref (s1 0), .ref (s2 0), .ref (s3 0), .ref (s4 0), .null, .null, .null, .null, .null, .null, .null, .null, .null, .null, .null, .null])) :: (((([] ++ (gX4 g s1 i_X4)) ++ (gX9 g s2 i_X9)) ++ (gX8 g s3 i_X8)) ++ (gX8 g s4 i_X8))) _ := V
  refine lv_aload_n X.1 X.2.1 dX11_init_48 rfl (lv_at hl 0 rfl) ?_
  refine n_new (C := RX0) (T := TX0) (N := 9) (ci := 0) (fs := [.int 0, .int 0, .long 0, .long 0, .long 0, .null, .int 0, .null, .int 0]) tyX0 X V inX0 tyX0_ok (lw_tg_in (List.mem_of_getElem? (i := 197) (by decide +kernel)) rfl) (lw_tg_in (List.mem_of_getElem? (i := 198) (by decide +kernel)) rfl) (lw_tg_in (List.mem_of_getElem? (i := 113) (by decide +kernel)) rfl) rfl (by decide +kernel) (Nat.le_of_ble_eq_true rfl) (Nat.le_of_ble_eq_true rfl) dX11_init_49 (fun q5 H V => ?_)
  refine lv_dup X.1 X.2.1 dX11_init_52 rfl ?_
  refine n_init (ws := (a0, .inr (11, [.ref (s1 0), .ref (s2 0), .ref (s3 0), .ref (s4 0), .null, .null, .null, .null, .null, .null, .null, .null, .null, .null, .null, .null])) :: (((([] ++ (gX4 g s1 i_X4)) ++ (gX9 g s2 i_X9)) ++ (gX8 g s3 i_X8)) ++ (gX8 g s4 i_X8))) X hAO V (n_X0_init l D g q5) kci_X11_35 ⟨(Nat.le_of_ble_eq_true rfl), (Nat.le_of_ble_eq_true rfl)⟩ ⟨(Nat.le_of_ble_eq_true rfl), (Nat.le_of_ble_eq_true rfl)⟩ hl.1 (Nat.le_of_ble_eq_true rfl) dX11_init_53 (fun u5 H locs hu V2 => ?_)
  clear V
  obtain ⟨s5, hs5, rfl⟩ := hu
  subst hs5
  have V := V2
  clear V2
  replace V : kW D AA s.heap H ((a0, .inr (11, [.ref (s1 0), .ref (s2 0), .ref (s3 0), .ref (s4 0), .null, .null, .null, .null, .null, .null, .null, .null, .null, .null, .null, .null])) :: ((((([] ++ (gX4 g s1 i_X4)) ++ (gX9 g s2 i_X9)) ++ (gX8 g s3 i_X8)) ++ (gX8 g s4 i_X8)) ++ (gX0 g s5 i_X0))) _ := V
  refine n_putF (C := RX11) (T := TX11) (N := 16) 4 tyX11 X V inX11 tyX11_ok nmX11 rfl (by decide) rfl rfl (lw_tg_in (List.mem_of_getElem? (i := 381) (by decide +kernel)) rfl) rfl hnam rfl (Nat.le_of_ble_eq_true rfl) rfl rfl dX11_init_56 (fun H locs V => ?_)
  replace V : kW D AA s.heap H ((a0, .inr (11, [.ref (s1 0), .ref (s2 0), .ref (s3 0), .ref (s4 0), .ref (s5 0), .null, .null, .null, .null, .null, .null, .null, .null, .null, .null, .null])) :: ((((([] ++ (gX4 g s1 i_X4)) ++ (gX9 g s2 i_X9)) ++ (gX8 g s3 i_X8)) ++ (gX8 g s4 i_X8)) ++ (gX0 g s5 i_X0))) _ := V
  refine lv_aload_n X.1 X.2.1 dX11_init_59 rfl (lv_at hl 0 rfl) ?_
  refine n_new (C := RX0) (T := TX0) (N := 9) (ci := 0) (fs := [.int 0, .int 0, .long 0, .long 0, .long 0, .null, .int 0, .null, .int 0]) tyX0 X V inX0 tyX0_ok (lw_tg_in (List.mem_of_getElem? (i := 197) (by decide +kernel)) rfl) (lw_tg_in (List.mem_of_getElem? (i := 198) (by decide +kernel)) rfl) (lw_tg_in (List.mem_of_getElem? (i := 113) (by decide +kernel)) rfl) rfl (by decide +kernel) (Nat.le_of_ble_eq_true rfl) (Nat.le_of_ble_eq_true rfl) dX11_init_60 (fun q6 H V => ?_)
  refine lv_dup X.1 X.2.1 dX11_init_63 rfl ?_
  refine n_init (ws := (a0, .inr (11, [.ref (s1 0), .ref (s2 0), .ref (s3 0), .ref (s4 0), .ref (s5 0), .null, .null, .null, .null, .null, .null, .null, .null, .null, .null, .null])) :: ((((([] ++ (gX4 g s1 i_X4)) ++ (gX9 g s2 i_X9)) ++ (gX8 g s3 i_X8)) ++ (gX8 g s4 i_X8)) ++ (gX0 g s5 i_X0))) X hAO V (n_X0_init l D g q6) kci_X11_35 ⟨(Nat.le_of_ble_eq_true rfl), (Nat.le_of_ble_eq_true rfl)⟩ ⟨(Nat.le_of_ble_eq_true rfl), (Nat.le_of_ble_eq_true rfl)⟩ hl.1 (Nat.le_of_ble_eq_true rfl) dX11_init_64 (fun u6 H locs hu V2 => ?_)
  clear V
  obtain ⟨s6, hs6, rfl⟩ := hu
  subst hs6
  have V := V2
  clear V2
  replace V : kW D AA s.heap H ((a0, .inr (11, [.ref (s1 0), .ref (s2 0), .ref (s3 0), .ref (s4 0), .ref (s5 0), .null, .null, .null, .null, .null, .null, .null, .null, .null, .null, .null])) :: (((((([] ++ (gX4 g s1 i_X4)) ++ (gX9 g s2 i_X9)) ++ (gX8 g s3 i_X8)) ++ (gX8 g s4 i_X8)) ++ (gX0 g s5 i_X0)) ++ (gX0 g s6 i_X0))) _ := V
  refine n_putF (C := RX11) (T := TX11) (N := 16) 5 tyX11 X V inX11 tyX11_ok nmX11 rfl (by decide) rfl rfl (lw_tg_in (List.mem_of_getElem? (i := 382) (by decide +kernel)) rfl) rfl hnam rfl (Nat.le_of_ble_eq_true rfl) rfl rfl dX11_init_67 (fun H locs V => ?_)
  replace V : kW D AA s.heap H ((a0, .inr (11, [.ref (s1 0), .ref (s2 0), .ref (s3 0), .ref (s4 0), .ref (s5 0), .ref (s6 0), .null, .null, .null, .null, .null, .null, .null, .null, .null, .null])) :: (((((([] ++ (gX4 g s1 i_X4)) ++ (gX9 g s2 i_X9)) ++ (gX8 g s3 i_X8)) ++ (gX8 g s4 i_X8)) ++ (gX0 g s5 i_X0)) ++ (gX0 g s6 i_X0))) _ := V
  refine lv_aload_n X.1 X.2.1 dX11_init_70 rfl (lv_at hl 0 rfl) ?_
  refine n_new (C := RX5) (T := TX5) (N := 4) (ci := 5) (fs := [.null, .null, .null, .int 0]) tyX5 X V inX5 tyX5_ok (lw_tg_in (List.mem_of_getElem? (i := 231) (by decide +kernel)) rfl) (lw_tg_in (List.mem_of_getElem? (i := 232) (by decide +kernel)) rfl) (lw_tg_in (List.mem_of_getElem? (i := 114) (by decide +kernel)) rfl) rfl (by decide +kernel) (Nat.le_of_ble_eq_true rfl) (Nat.le_of_ble_eq_true rfl) dX11_init_71 (fun q7 H V => ?_)
  refine lv_dup X.1 X.2.1 dX11_init_74 rfl ?_
  refine n_init (ws := (a0, .inr (11, [.ref (s1 0), .ref (s2 0), .ref (s3 0), .ref (s4 0), .ref (s5 0), .ref (s6 0), .null, .null, .null, .null, .null, .null, .null, .null, .null, .null])) :: (((((([] ++ (gX4 g s1 i_X4)) ++ (gX9 g s2 i_X9)) ++ (gX8 g s3 i_X8)) ++ (gX8 g s4 i_X8)) ++ (gX0 g s5 i_X0)) ++ (gX0 g s6 i_X0))) X hAO V (n_X5_init l D g q7) kci_X11_45 ⟨(Nat.le_of_ble_eq_true rfl), (Nat.le_of_ble_eq_true rfl)⟩ ⟨(Nat.le_of_ble_eq_true rfl), (Nat.le_of_ble_eq_true rfl)⟩ hl.1 (Nat.le_of_ble_eq_true rfl) dX11_init_75 (fun u7 H locs hu V2 => ?_)
  clear V
  obtain ⟨s7, hs7, rfl⟩ := hu
  subst hs7
  have V := V2
  clear V2
  replace V : kW D AA s.heap H ((a0, .inr (11, [.ref (s1 0), .ref (s2 0), .ref (s3 0), .ref (s4 0), .ref (s5 0), .ref (s6 0), .null, .null, .null, .null, .null, .null, .null, .null, .null, .null])) :: ((((((([] ++ (gX4 g s1 i_X4)) ++ (gX9 g s2 i_X9)) ++ (gX8 g s3 i_X8)) ++ (gX8 g s4 i_X8)) ++ (gX0 g s5 i_X0)) ++ (gX0 g s6 i_X0)) ++ (gX5 g s7 i_X5))) _ := V
  refine n_putF (C := RX11) (T := TX11) (N := 16) 6 tyX11 X V inX11 tyX11_ok nmX11 rfl (by decide) rfl rfl (lw_tg_in (List.mem_of_getElem? (i := 383) (by decide +kernel)) rfl) rfl hnam rfl (Nat.le_of_ble_eq_true rfl) rfl rfl dX11_init_78 (fun H locs V => ?_)
  replace V : kW D AA s.heap H ((a0, .inr (11, [.ref (s1 0), .ref (s2 0), .ref (s3 0), .ref (s4 0), .ref (s5 0), .ref (s6 0), .ref (s7 0), .null, .null, .null, .null, .null, .null, .null, .null, .null])) :: ((((((([] ++ (gX4 g s1 i_X4)) ++ (gX9 g s2 i_X9)) ++ (gX8 g s3 i_X8)) ++ (gX8 g s4 i_X8)) ++ (gX0 g s5 i_X0)) ++ (gX0 g s6 i_X0)) ++ (gX5 g s7 i_X5))) _ := V
  refine lv_aload_n X.1 X.2.1 dX11_init_81 rfl (lv_at hl 0 rfl) ?_
  refine n_new (C := RX5) (T := TX5) (N := 4) (ci := 5) (fs := [.null, .null, .null, .int 0]) tyX5 X V inX5 tyX5_ok (lw_tg_in (List.mem_of_getElem? (i := 231) (by decide +kernel)) rfl) (lw_tg_in (List.mem_of_getElem? (i := 232) (by decide +kernel)) rfl) (lw_tg_in (List.mem_of_getElem? (i := 114) (by decide +kernel)) rfl) rfl (by decide +kernel) (Nat.le_of_ble_eq_true rfl) (Nat.le_of_ble_eq_true rfl) dX11_init_82 (fun q8 H V => ?_)
  refine lv_dup X.1 X.2.1 dX11_init_85 rfl ?_
  refine n_init (ws := (a0, .inr (11, [.ref (s1 0), .ref (s2 0), .ref (s3 0), .ref (s4 0), .ref (s5 0), .ref (s6 0), .ref (s7 0), .null, .null, .null, .null, .null, .null, .null, .null, .null])) :: ((((((([] ++ (gX4 g s1 i_X4)) ++ (gX9 g s2 i_X9)) ++ (gX8 g s3 i_X8)) ++ (gX8 g s4 i_X8)) ++ (gX0 g s5 i_X0)) ++ (gX0 g s6 i_X0)) ++ (gX5 g s7 i_X5))) X hAO V (n_X5_init l D g q8) kci_X11_45 ⟨(Nat.le_of_ble_eq_true rfl), (Nat.le_of_ble_eq_true rfl)⟩ ⟨(Nat.le_of_ble_eq_true rfl), (Nat.le_of_ble_eq_true rfl)⟩ hl.1 (Nat.le_of_ble_eq_true rfl) dX11_init_86 (fun u8 H locs hu V2 => ?_)
  clear V
  obtain ⟨s8, hs8, rfl⟩ := hu
  subst hs8
  have V := V2
  clear V2
  replace V : kW D AA s.heap H ((a0, .inr (11, [.ref (s1 0), .ref (s2 0), .ref (s3 0), .ref (s4 0), .ref (s5 0), .ref (s6 0), .ref (s7 0), .null, .null, .null, .null, .null, .null, .null, .null, .null])) :: (((((((([] ++ (gX4 g s1 i_X4)) ++ (gX9 g s2 i_X9)) ++ (gX8 g s3 i_X8)) ++ (gX8 g s4 i_X8)) ++ (gX0 g s5 i_X0)) ++ (gX0 g s6 i_X0)) ++ (gX5 g s7 i_X5)) ++ (gX5 g s8 i_X5))) _ := V
  refine n_putF (C := RX11) (T := TX11) (N := 16) 7 tyX11 X V inX11 tyX11_ok nmX11 rfl (by decide) rfl rfl (lw_tg_in (List.mem_of_getElem? (i := 384) (by decide +kernel)) rfl) rfl hnam rfl (Nat.le_of_ble_eq_true rfl) rfl rfl dX11_init_89 (fun H locs V => ?_)
  replace V : kW D AA s.heap H ((a0, .inr (11, [.ref (s1 0), .ref (s2 0), .ref (s3 0), .ref (s4 0), .ref (s5 0), .ref (s6 0), .ref (s7 0), .ref (s8 0), .null, .null, .null, .null, .null, .null, .null, .null])) :: (((((((([] ++ (gX4 g s1 i_X4)) ++ (gX9 g s2 i_X9)) ++ (gX8 g s3 i_X8)) ++ (gX8 g s4 i_X8)) ++ (gX0 g s5 i_X0)) ++ (gX0 g s6 i_X0)) ++ (gX5 g s7 i_X5)) ++ (gX5 g s8 i_X5))) _ := V
  refine lv_aload_n X.1 X.2.1 dX11_init_92 rfl (lv_at hl 0 rfl) ?_
  refine n_new (C := RX6) (T := TX6) (N := 3) (ci := 6) (fs := [.null, .null, .null]) tyX6 X V inX6 tyX6_ok (lw_tg_in (List.mem_of_getElem? (i := 250) (by decide +kernel)) rfl) (lw_tg_in (List.mem_of_getElem? (i := 251) (by decide +kernel)) rfl) (lw_tg_in (List.mem_of_getElem? (i := 115) (by decide +kernel)) rfl) rfl (by decide +kernel) (Nat.le_of_ble_eq_true rfl) (Nat.le_of_ble_eq_true rfl) dX11_init_93 (fun q9 H V => ?_)
  refine lv_dup X.1 X.2.1 dX11_init_96 rfl ?_
  refine n_init (ws := (a0, .inr (11, [.ref (s1 0), .ref (s2 0), .ref (s3 0), .ref (s4 0), .ref (s5 0), .ref (s6 0), .ref (s7 0), .ref (s8 0), .null, .null, .null, .null, .null, .null, .null, .null])) :: (((((((([] ++ (gX4 g s1 i_X4)) ++ (gX9 g s2 i_X9)) ++ (gX8 g s3 i_X8)) ++ (gX8 g s4 i_X8)) ++ (gX0 g s5 i_X0)) ++ (gX0 g s6 i_X0)) ++ (gX5 g s7 i_X5)) ++ (gX5 g s8 i_X5))) X hAO V (n_X6_init l D g q9) kci_X11_55 ⟨(Nat.le_of_ble_eq_true rfl), (Nat.le_of_ble_eq_true rfl)⟩ ⟨(Nat.le_of_ble_eq_true rfl), (Nat.le_of_ble_eq_true rfl)⟩ hl.1 (Nat.le_of_ble_eq_true rfl) dX11_init_97 (fun u9 H locs hu V2 => ?_)
  clear V
  obtain ⟨s9, t9, hs9, rfl⟩ := hu
  subst hs9
  have V := V2
  clear V2
  replace V : kW D AA s.heap H ((a0, .inr (11, [.ref (s1 0), .ref (s2 0), .ref (s3 0), .ref (s4 0), .ref (s5 0), .ref (s6 0), .ref (s7 0), .ref (s8 0), .null, .null, .null, .null, .null, .null, .null, .null])) :: ((((((((([] ++ (gX4 g s1 i_X4)) ++ (gX9 g s2 i_X9)) ++ (gX8 g s3 i_X8)) ++ (gX8 g s4 i_X8)) ++ (gX0 g s5 i_X0)) ++ (gX0 g s6 i_X0)) ++ (gX5 g s7 i_X5)) ++ (gX5 g s8 i_X5)) ++ (List.flatten [gX6 g s9 t9 i_X6, gX8 g (t9 0) i_X8, gX5 g (t9 1) i_X5]))) _ := V
  refine n_putF (C := RX11) (T := TX11) (N := 16) 8 tyX11 X V inX11 tyX11_ok nmX11 rfl (by decide) rfl rfl (lw_tg_in (List.mem_of_getElem? (i := 385) (by decide +kernel)) rfl) rfl hnam rfl (Nat.le_of_ble_eq_true rfl) rfl rfl dX11_init_100 (fun H locs V => ?_)
  replace V : kW D AA s.heap H ((a0, .inr (11, [.ref (s1 0), .ref (s2 0), .ref (s3 0), .ref (s4 0), .ref (s5 0), .ref (s6 0), .ref (s7 0), .ref (s8 0), .ref (s9 0), .null, .null, .null, .null, .null, .null, .null])) :: ((((((((([] ++ (gX4 g s1 i_X4)) ++ (gX9 g s2 i_X9)) ++ (gX8 g s3 i_X8)) ++ (gX8 g s4 i_X8)) ++ (gX0 g s5 i_X0)) ++ (gX0 g s6 i_X0)) ++ (gX5 g s7 i_X5)) ++ (gX5 g s8 i_X5)) ++ (List.flatten [gX6 g s9 t9 i_X6, gX8 g (t9 0) i_X8, gX5 g (t9 1) i_X5]))) _ := V
  refine lv_aload_n X.1 X.2.1 dX11_init_103 rfl (lv_at hl 0 rfl) ?_
  refine n_new (C := RX1) (T := TX1) (N := 2) (ci := 1) (fs := [.null, .int 0]) tyX1 X V inX1 tyX1_ok (lw_tg_in (List.mem_of_getElem? (i := 270) (by decide +kernel)) rfl) (lw_tg_in (List.mem_of_getElem? (i := 271) (by decide +kernel)) rfl) (lw_tg_in (List.mem_of_getElem? (i := 116) (by decide +kernel)) rfl) rfl (by decide +kernel) (Nat.le_of_ble_eq_true rfl) (Nat.le_of_ble_eq_true rfl) dX11_init_104 (fun q10 H V => ?_)
  refine lv_dup X.1 X.2.1 dX11_init_107 rfl ?_
  refine n_init (ws := (a0, .inr (11, [.ref (s1 0), .ref (s2 0), .ref (s3 0), .ref (s4 0), .ref (s5 0), .ref (s6 0), .ref (s7 0), .ref (s8 0), .ref (s9 0), .null, .null, .null, .null, .null, .null, .null])) :: ((((((((([] ++ (gX4 g s1 i_X4)) ++ (gX9 g s2 i_X9)) ++ (gX8 g s3 i_X8)) ++ (gX8 g s4 i_X8)) ++ (gX0 g s5 i_X0)) ++ (gX0 g s6 i_X0)) ++ (gX5 g s7 i_X5)) ++ (gX5 g s8 i_X5)) ++ (List.flatten [gX6 g s9 t9 i_X6, gX8 g (t9 0) i_X8, gX5 g (t9 1) i_X5]))) X hAO V (n_X1_init l D g q10) kci_X11_62 ⟨(Nat.le_of_ble_eq_true rfl), (Nat.le_of_ble_eq_true rfl)⟩ ⟨(Nat.le_of_ble_eq_true rfl), (Nat.le_of_ble_eq_true rfl)⟩ hl.1 (Nat.le_of_ble_eq_true rfl) dX11_init_108 (fun u10 H locs hu V2 => ?_)
  clear V
  obtain ⟨s10, hs10, rfl⟩ := hu
  subst hs10
  have V := V2
  clear V2
  replace V : kW D AA s.heap H ((a0, .inr (11, [.ref (s1 0), .ref (s2 0), .ref (s3 0), .ref (s4 0), .ref (s5 0), .ref (s6 0), .ref (s7 0), .ref (s8 0), .ref (s9 0), .null, .null, .null, .null, .null, .null, .null])) :: (((((((((([] ++ (gX4 g s1 i_X4)) ++ (gX9 g s2 i_X9)) ++ (gX8 g s3 i_X8)) ++ (gX8 g s4 i_X8)) ++ (gX0 g s5 i_X0)) ++ (gX0 g s6 i_X0)) ++ (gX5 g s7 i_X5)) ++ (gX5 g s8 i_X5)) ++ (List.flatten [gX6 g s9 t9 i_X6, gX8 g (t9 0) i_X8, gX5 g (t9 1) i_X5])) ++ (gX1 g s10 i_X1))) _ := V
  refine n_putF (C := RX11) (T := TX11) (N := 16) 9 tyX11 X V inX11 tyX11_ok nmX11 rfl (by decide) rfl rfl (lw_tg_in (List.mem_of_getElem? (i := 386) (by decide +kernel)) rfl) rfl hnam rfl (Nat.le_of_ble_eq_true rfl) rfl rfl dX11_init_111 (fun H locs V => ?_)
  replace V : kW D AA s.heap H ((a0, .inr (11, [.ref (s1 0), .ref (s2 0), .ref (s3 0), .ref (s4 0), .ref (s5 0), .ref (s6 0), .ref (s7 0), .ref (s8 0), .ref (s9 0), .ref (s10 0), .null, .null, .null, .null, .null, .null])) :: (((((((((([] ++ (gX4 g s1 i_X4)) ++ (gX9 g s2 i_X9)) ++ (gX8 g s3 i_X8)) ++ (gX8 g s4 i_X8)) ++ (gX0 g s5 i_X0)) ++ (gX0 g s6 i_X0)) ++ (gX5 g s7 i_X5)) ++ (gX5 g s8 i_X5)) ++ (List.flatten [gX6 g s9 t9 i_X6, gX8 g (t9 0) i_X8, gX5 g (t9 1) i_X5])) ++ (gX1 g s10 i_X1))) _ := V
  refine lv_aload_n X.1 X.2.1 dX11_init_114 rfl (lv_at hl 0 rfl) ?_
  refine n_new (C := RX7) (T := TX7) (N := 10) (ci := 7) (fs := [.long 0, .long 0, .long 0, .long 0, .long 0, .long 0, .long 0, .long 0, .long 0, .long 0]) tyX7 X V inX7 tyX7_ok (lw_tg_in (List.mem_of_getElem? (i := 283) (by decide +kernel)) rfl) (lw_tg_in (List.mem_of_getElem? (i := 284) (by decide +kernel)) rfl) (lw_tg_in (List.mem_of_getElem? (i := 117) (by decide +kernel)) rfl) rfl (by decide +kernel) (Nat.le_of_ble_eq_true rfl) (Nat.le_of_ble_eq_true rfl) dX11_init_115 (fun q11 H V => ?_)
  refine lv_dup X.1 X.2.1 dX11_init_118 rfl ?_
  refine n_init (ws := (a0, .inr (11, [.ref (s1 0), .ref (s2 0), .ref (s3 0), .ref (s4 0), .ref (s5 0), .ref (s6 0), .ref (s7 0), .ref (s8 0), .ref (s9 0), .ref (s10 0), .null, .null, .null, .null, .null, .null])) :: (((((((((([] ++ (gX4 g s1 i_X4)) ++ (gX9 g s2 i_X9)) ++ (gX8 g s3 i_X8)) ++ (gX8 g s4 i_X8)) ++ (gX0 g s5 i_X0)) ++ (gX0 g s6 i_X0)) ++ (gX5 g s7 i_X5)) ++ (gX5 g s8 i_X5)) ++ (List.flatten [gX6 g s9 t9 i_X6, gX8 g (t9 0) i_X8, gX5 g (t9 1) i_X5])) ++ (gX1 g s10 i_X1))) X hAO V (n_X7_init l D g q11) kci_X11_69 ⟨(Nat.le_of_ble_eq_true rfl), (Nat.le_of_ble_eq_true rfl)⟩ ⟨(Nat.le_of_ble_eq_true rfl), (Nat.le_of_ble_eq_true rfl)⟩ hl.1 (Nat.le_of_ble_eq_true rfl) dX11_init_119 (fun u11 H locs hu V2 => ?_)
  clear V
  obtain ⟨s11, hs11, rfl⟩ := hu
  subst hs11
  have V := V2
  clear V2
  replace V : kW D AA s.heap H ((a0, .inr (11, [.ref (s1 0), .ref (s2 0), .ref (s3 0), .ref (s4 0), .ref (s5 0), .ref (s6 0), .ref (s7 0), .ref (s8 0), .ref (s9 0), .ref (s10 0), .null, .null, .null, .null, .null, .null])) :: ((((((((((([] ++ (gX4 g s1 i_X4)) ++ (gX9 g s2 i_X9)) ++ (gX8 g s3 i_X8)) ++ (gX8 g s4 i_X8)) ++ (gX0 g s5 i_X0)) ++ (gX0 g s6 i_X0)) ++ (gX5 g s7 i_X5)) ++ (gX5 g s8 i_X5)) ++ (List.flatten [gX6 g s9 t9 i_X6, gX8 g (t9 0) i_X8, gX5 g (t9 1) i_X5])) ++ (gX1 g s10 i_X1)) ++ (gX7 g s11 i_X7))) _ := V
  refine n_putF (C := RX11) (T := TX11) (N := 16) 10 tyX11 X V inX11 tyX11_ok nmX11 rfl (by decide) rfl rfl (lw_tg_in (List.mem_of_getElem? (i := 387) (by decide +kernel)) rfl) rfl hnam rfl (Nat.le_of_ble_eq_true rfl) rfl rfl dX11_init_122 (fun H locs V => ?_)
  replace V : kW D AA s.heap H ((a0, .inr (11, [.ref (s1 0), .ref (s2 0), .ref (s3 0), .ref (s4 0), .ref (s5 0), .ref (s6 0), .ref (s7 0), .ref (s8 0), .ref (s9 0), .ref (s10 0), .ref (s11 0), .null, .null, .null, .null, .null])) :: ((((((((((([] ++ (gX4 g s1 i_X4)) ++ (gX9 g s2 i_X9)) ++ (gX8 g s3 i_X8)) ++ (gX8 g s4 i_X8)) ++ (gX0 g s5 i_X0)) ++ (gX0 g s6 i_X0)) ++ (gX5 g s7 i_X5)) ++ (gX5 g s8 i_X5)) ++ (List.flatten [gX6 g s9 t9 i_X6, gX8 g (t9 0) i_X8, gX5 g (t9 1) i_X5])) ++ (gX1 g s10 i_X1)) ++ (gX7 g s11 i_X7))) _ := V
  refine lv_aload_n X.1 X.2.1 dX11_init_125 rfl (lv_at hl 0 rfl) ?_
  refine n_new (C := RX2) (T := TX2) (N := 7) (ci := 2) (fs := [.null, .null, .null, .null, .null, .int 0, .int 0]) tyX2 X V inX2 tyX2_ok (lw_tg_in (List.mem_of_getElem? (i := 320) (by decide +kernel)) rfl) (lw_tg_in (List.mem_of_getElem? (i := 321) (by decide +kernel)) rfl) (lw_tg_in (List.mem_of_getElem? (i := 118) (by decide +kernel)) rfl) rfl (by decide +kernel) (Nat.le_of_ble_eq_true rfl) (Nat.le_of_ble_eq_true rfl) dX11_init_126 (fun q12 H V => ?_)
  refine lv_dup X.1 X.2.1 dX11_init_129 rfl ?_
  refine n_init (ws := (a0, .inr (11, [.ref (s1 0), .ref (s2 0), .ref (s3 0), .ref (s4 0), .ref (s5 0), .ref (s6 0), .ref (s7 0), .ref (s8 0), .ref (s9 0), .ref (s10 0), .ref (s11 0), .null, .null, .null, .null, .null])) :: ((((((((((([] ++ (gX4 g s1 i_X4)) ++ (gX9 g s2 i_X9)) ++ (gX8 g s3 i_X8)) ++ (gX8 g s4 i_X8)) ++ (gX0 g s5 i_X0)) ++ (gX0 g s6 i_X0)) ++ (gX5 g s7 i_X5)) ++ (gX5 g s8 i_X5)) ++ (List.flatten [gX6 g s9 t9 i_X6, gX8 g (t9 0) i_X8, gX5 g (t9 1) i_X5])) ++ (gX1 g s10 i_X1)) ++ (gX7 g s11 i_X7))) X hAO V (n_X2_init l D g q12) kci_X11_76 ⟨(Nat.le_of_ble_eq_true rfl), (Nat.le_of_ble_eq_true rfl)⟩ ⟨(Nat.le_of_ble_eq_true rfl), (Nat.le_of_ble_eq_true rfl)⟩ hl.1 (Nat.le_of_ble_eq_true rfl) dX11_init_130 (fun u12 H locs hu V2 => ?_)
  clear V
  obtain ⟨s12, t12, hs12, rfl⟩ := hu
  subst hs12
  have V := V2
  clear V2
  replace V : kW D AA s.heap H ((a0, .inr (11, [.ref (s1 0), .ref (s2 0), .ref (s3 0), .ref (s4 0), .ref (s5 0), .ref (s6 0), .ref (s7 0), .ref (s8 0), .ref (s9 0), .ref (s10 0), .ref (s11 0), .null, .null, .null, .null, .null])) :: (((((((((((([] ++ (gX4 g s1 i_X4)) ++ (gX9 g s2 i_X9)) ++ (gX8 g s3 i_X8)) ++ (gX8 g s4 i_X8)) ++ (gX0 g s5 i_X0)) ++ (gX0 g s6 i_X0)) ++ (gX5 g s7 i_X5)) ++ (gX5 g s8 i_X5)) ++ (List.flatten [gX6 g s9 t9 i_X6, gX8 g (t9 0) i_X8, gX5 g (t9 1) i_X5])) ++ (gX1 g s10 i_X1)) ++ (gX7 g s11 i_X7)) ++ (List.flatten [gX2 g s12 t12 i_X2, gX0 g (t12 0) i_X0]))) _ := V
  refine n_putF (C := RX11) (T := TX11) (N := 16) 11 tyX11 X V inX11 tyX11_ok nmX11 rfl (by decide) rfl rfl (lw_tg_in (List.mem_of_getElem? (i := 388) (by decide +kernel)) rfl) rfl hnam rfl (Nat.le_of_ble_eq_true rfl) rfl rfl dX11_init_133 (fun H locs V => ?_)
  replace V : kW D AA s.heap H ((a0, .inr (11, [.ref (s1 0), .ref (s2 0), .ref (s3 0), .ref (s4 0), .ref (s5 0), .ref (s6 0), .ref (s7 0), .ref (s8 0), .ref (s9 0), .ref (s10 0), .ref (s11 0), .ref (s12 0), .null, .null, .null, .null])) :: (((((((((((([] ++ (gX4 g s1 i_X4)) ++ (gX9 g s2 i_X9)) ++ (gX8 g s3 i_X8)) ++ (gX8 g s4 i_X8)) ++ (gX0 g s5 i_X0)) ++ (gX0 g s6 i_X0)) ++ (gX5 g s7 i_X5)) ++ (gX5 g s8 i_X5)) ++ (List.flatten [gX6 g s9 t9 i_X6, gX8 g (t9 0) i_X8, gX5 g (t9 1) i_X5])) ++ (gX1 g s10 i_X1)) ++ (gX7 g s11 i_X7)) ++ (List.flatten [gX2 g s12 t12 i_X2, gX0 g (t12 0) i_X0]))) _ := V
  refine lv_aload_n X.1 X.2.1 dX11_init_136 rfl (lv_at hl 0 rfl) ?_
  refine n_new (C := RX10) (T := TX10) (N := 2) (ci := 10) (fs := [.null, .int 0]) tyX10 X V inX10 tyX10_ok (lw_tg_in (List.mem_of_getElem? (i := 351) (by decide +kernel)) rfl) (lw_tg_in (List.mem_of_getElem? (i := 352) (by decide +kernel)) rfl) (lw_tg_in (List.mem_of_getElem? (i := 119) (by decide +kernel)) rfl) rfl (by decide +kernel) (Nat.le_of_ble_eq_true rfl) (Nat.le_of_ble_eq_true rfl) dX11_init_137 (fun q13 H V => ?_)
  refine lv_dup X.1 X.2.1 dX11_init_140 rfl ?_
  refine n_init (ws := (a0, .inr (11, [.ref (s1 0), .ref (s2 0), .ref (s3 0), .ref (s4 0), .ref (s5 0), .ref (s6 0), .ref (s7 0), .ref (s8 0), .ref (s9 0), .ref (s10 0), .ref (s11 0), .ref (s12 0), .null, .null, .null, .null])) :: (((((((((((([] ++ (gX4 g s1 i_X4)) ++ (gX9 g s2 i_X9)) ++ (gX8 g s3 i_X8)) ++ (gX8 g s4 i_X8)) ++ (gX0 g s5 i_X0)) ++ (gX0 g s6 i_X0)) ++ (gX5 g s7 i_X5)) ++ (gX5 g s8 i_X5)) ++ (List.flatten [gX6 g s9 t9 i_X6, gX8 g (t9 0) i_X8, gX5 g (t9 1) i_X5])) ++ (gX1 g s10 i_X1)) ++ (gX7 g s11 i_X7)) ++ (List.flatten [gX2 g s12 t12 i_X2, gX0 g (t12 0) i_X0]))) X hAO V (n_X10_init l D g q13) kci_X11_83 ⟨(Nat.le_of_ble_eq_true rfl), (Nat.le_of_ble_eq_true rfl)⟩ ⟨(Nat.le_of_ble_eq_true rfl), (Nat.le_of_ble_eq_true rfl)⟩ hl.1 (Nat.le_of_ble_eq_true rfl) dX11_init_141 (fun u13 H locs hu V2 => ?_)
  clear V
  obtain ⟨s13, hs13, rfl⟩ := hu
  subst hs13
  have V := V2
  clear V2
  replace V : kW D AA s.heap H ((a0, .inr (11, [.ref (s1 0), .ref (s2 0), .ref (s3 0), .ref (s4 0), .ref (s5 0), .ref (s6 0), .ref (s7 0), .ref (s8 0), .ref (s9 0), .ref (s10 0), .ref (s11 0), .ref (s12 0), .null, .null, .null, .null])) :: ((((((((((((([] ++ (gX4 g s1 i_X4)) ++ (gX9 g s2 i_X9)) ++ (gX8 g s3 i_X8)) ++ (gX8 g s4 i_X8)) ++ (gX0 g s5 i_X0)) ++ (gX0 g s6 i_X0)) ++ (gX5 g s7 i_X5)) ++ (gX5 g s8 i_X5)) ++ (List.flatten [gX6 g s9 t9 i_X6, gX8 g (t9 0) i_X8, gX5 g (t9 1) i_X5])) ++ (gX1 g s10 i_X1)) ++ (gX7 g s11 i_X7)) ++ (List.flatten [gX2 g s12 t12 i_X2, gX0 g (t12 0) i_X0])) ++ (gX10 g s13 i_X10))) _ := V
  refine n_putF (C := RX11) (T := TX11) (N := 16) 12 tyX11 X V inX11 tyX11_ok nmX11 rfl (by decide) rfl rfl (lw_tg_in (List.mem_of_getElem? (i := 389) (by decide +kernel)) rfl) rfl hnam rfl (Nat.le_of_ble_eq_true rfl) rfl rfl dX11_init_144 (fun H locs V => ?_)
  replace V : kW D AA s.heap H ((a0, .inr (11, [.ref (s1 0), .ref (s2 0), .ref (s3 0), .ref (s4 0), .ref (s5 0), .ref (s6 0), .ref (s7 0), .ref (s8 0), .ref (s9 0), .ref (s10 0), .ref (s11 0), .ref (s12 0), .ref (s13 0), .null, .null, .null])) :: ((((((((((((([] ++ (gX4 g s1 i_X4)) ++ (gX9 g s2 i_X9)) ++ (gX8 g s3 i_X8)) ++ (gX8 g s4 i_X8)) ++ (gX0 g s5 i_X0)) ++ (gX0 g s6 i_X0)) ++ (gX5 g s7 i_X5)) ++ (gX5 g s8 i_X5)) ++ (List.flatten [gX6 g s9 t9 i_X6, gX8 g (t9 0) i_X8, gX5 g (t9 1) i_X5])) ++ (gX1 g s10 i_X1)) ++ (gX7 g s11 i_X7)) ++ (List.flatten [gX2 g s12 t12 i_X2, gX0 g (t12 0) i_X0])) ++ (gX10 g s13 i_X10))) _ := V
  refine lv_aload_n X.1 X.2.1 dX11_init_147 rfl (lv_at hl 0 rfl) ?_
  refine n_new (C := RX3) (T := TX3) (N := 2) (ci := 3) (fs := [.long 0, .long 0]) tyX3 X V inX3 tyX3_ok (lw_tg_in (List.mem_of_getElem? (i := 364) (by decide +kernel)) rfl) (lw_tg_in (List.mem_of_getElem? (i := 365) (by decide +kernel)) rfl) (lw_tg_in (List.mem_of_getElem? (i := 120) (by decide +kernel)) rfl) rfl (by decide +kernel) (Nat.le_of_ble_eq_true rfl) (Nat.le_of_ble_eq_true rfl) dX11_init_148 (fun q14 H V => ?_)
  refine lv_dup X.1 X.2.1 dX11_init_151 rfl ?_
  refine n_init (ws := (a0, .inr (11, [.ref (s1 0), .ref (s2 0), .ref (s3 0), .ref (s4 0), .ref (s5 0), .ref (s6 0), .ref (s7 0), .ref (s8 0), .ref (s9 0), .ref (s10 0), .ref (s11 0), .ref (s12 0), .ref (s13 0), .null, .null, .null])) :: ((((((((((((([] ++ (gX4 g s1 i_X4)) ++ (gX9 g s2 i_X9)) ++ (gX8 g s3 i_X8)) ++ (gX8 g s4 i_X8)) ++ (gX0 g s5 i_X0)) ++ (gX0 g s6 i_X0)) ++ (gX5 g s7 i_X5)) ++ (gX5 g s8 i_X5)) ++ (List.flatten [gX6 g s9 t9 i_X6, gX8 g (t9 0) i_X8, gX5 g (t9 1) i_X5])) ++ (gX1 g s10 i_X1)) ++ (gX7 g s11 i_X7)) ++ (List.flatten [gX2 g s12 t12 i_X2, gX0 g (t12 0) i_X0])) ++ (gX10 g s13 i_X10))) X hAO V (n_X3_init l D g q14) kci_X11_90 ⟨(Nat.le_of_ble_eq_true rfl), (Nat.le_of_ble_eq_true rfl)⟩ ⟨(Nat.le_of_ble_eq_true rfl), (Nat.le_of_ble_eq_true rfl)⟩ hl.1 (Nat.le_of_ble_eq_true rfl) dX11_init_152 (fun u14 H locs hu V2 => ?_)
  clear V
  obtain ⟨s14, hs14, rfl⟩ := hu
  subst hs14
  have V := V2
  clear V2
  replace V : kW D AA s.heap H ((a0, .inr (11, [.ref (s1 0), .ref (s2 0), .ref (s3 0), .ref (s4 0), .ref (s5 0), .ref (s6 0), .ref (s7 0), .ref (s8 0), .ref (s9 0), .ref (s10 0), .ref (s11 0), .ref (s12 0), .ref (s13 0), .null, .null, .null])) :: (((((((((((((([] ++ (gX4 g s1 i_X4)) ++ (gX9 g s2 i_X9)) ++ (gX8 g s3 i_X8)) ++ (gX8 g s4 i_X8)) ++ (gX0 g s5 i_X0)) ++ (gX0 g s6 i_X0)) ++ (gX5 g s7 i_X5)) ++ (gX5 g s8 i_X5)) ++ (List.flatten [gX6 g s9 t9 i_X6, gX8 g (t9 0) i_X8, gX5 g (t9 1) i_X5])) ++ (gX1 g s10 i_X1)) ++ (gX7 g s11 i_X7)) ++ (List.flatten [gX2 g s12 t12 i_X2, gX0 g (t12 0) i_X0])) ++ (gX10 g s13 i_X10)) ++ (gX3 g s14 i_X3))) _ := V
  refine n_putF (C := RX11) (T := TX11) (N := 16) 13 tyX11 X V inX11 tyX11_ok nmX11 rfl (by decide) rfl rfl (lw_tg_in (List.mem_of_getElem? (i := 390) (by decide +kernel)) rfl) rfl hnam rfl (Nat.le_of_ble_eq_true rfl) rfl rfl dX11_init_155 (fun H locs V => ?_)
  replace V : kW D AA s.heap H ((a0, .inr (11, [.ref (s1 0), .ref (s2 0), .ref (s3 0), .ref (s4 0), .ref (s5 0), .ref (s6 0), .ref (s7 0), .ref (s8 0), .ref (s9 0), .ref (s10 0), .ref (s11 0), .ref (s12 0), .ref (s13 0), .ref (s14 0), .null, .null])) :: (((((((((((((([] ++ (gX4 g s1 i_X4)) ++ (gX9 g s2 i_X9)) ++ (gX8 g s3 i_X8)) ++ (gX8 g s4 i_X8)) ++ (gX0 g s5 i_X0)) ++ (gX0 g s6 i_X0)) ++ (gX5 g s7 i_X5)) ++ (gX5 g s8 i_X5)) ++ (List.flatten [gX6 g s9 t9 i_X6, gX8 g (t9 0) i_X8, gX5 g (t9 1) i_X5])) ++ (gX1 g s10 i_X1)) ++ (gX7 g s11 i_X7)) ++ (List.flatten [gX2 g s12 t12 i_X2, gX0 g (t12 0) i_X0])) ++ (gX10 g s13 i_X10)) ++ (gX3 g s14 i_X3))) _ := V
  refine lv_aload_n X.1 X.2.1 dX11_init_158 rfl (lv_at hl 0 rfl) ?_
  refine n_new (C := RX3) (T := TX3) (N := 2) (ci := 3) (fs := [.long 0, .long 0]) tyX3 X V inX3 tyX3_ok (lw_tg_in (List.mem_of_getElem? (i := 364) (by decide +kernel)) rfl) (lw_tg_in (List.mem_of_getElem? (i := 365) (by decide +kernel)) rfl) (lw_tg_in (List.mem_of_getElem? (i := 120) (by decide +kernel)) rfl) rfl (by decide +kernel) (Nat.le_of_ble_eq_true rfl) (Nat.le_of_ble_eq_true rfl) dX11_init_159 (fun q15 H V => ?_)
  refine lv_dup X.1 X.2.1 dX11_init_162 rfl ?_
  refine n_init (ws := (a0, .inr (11, [.ref (s1 0), .ref (s2 0), .ref (s3 0), .ref (s4 0), .ref (s5 0), .ref (s6 0), .ref (s7 0), .ref (s8 0), .ref (s9 0), .ref (s10 0), .ref (s11 0), .ref (s12 0), .ref (s13 0), .ref (s14 0), .null, .null])) :: (((((((((((((([] ++ (gX4 g s1 i_X4)) ++ (gX9 g s2 i_X9)) ++ (gX8 g s3 i_X8)) ++ (gX8 g s4 i_X8)) ++ (gX0 g s5 i_X0)) ++ (gX0 g s6 i_X0)) ++ (gX5 g s7 i_X5)) ++ (gX5 g s8 i_X5)) ++ (List.flatten [gX6 g s9 t9 i_X6, gX8 g (t9 0) i_X8, gX5 g (t9 1) i_X5])) ++ (gX1 g s10 i_X1)) ++ (gX7 g s11 i_X7)) ++ (List.flatten [gX2 g s12 t12 i_X2, gX0 g (t12 0) i_X0])) ++ (gX10 g s13 i_X10)) ++ (gX3 g s14 i_X3))) X hAO V (n_X3_init l D g q15) kci_X11_90 ⟨(Nat.le_of_ble_eq_true rfl), (Nat.le_of_ble_eq_true rfl)⟩ ⟨(Nat.le_of_ble_eq_true rfl), (Nat.le_of_ble_eq_true rfl)⟩ hl.1 (Nat.le_of_ble_eq_true rfl) dX11_init_163 (fun u15 H locs hu V2 => ?_)
  clear V
  obtain ⟨s15, hs15, rfl⟩ := hu
  subst hs15
  have V := V2
  clear V2
  replace V : kW D AA s.heap H ((a0, .inr (11, [.ref (s1 0), .ref (s2 0), .ref (s3 0), .ref (s4 0), .ref (s5 0), .ref (s6 0), .ref (s7 0), .ref (s8 0), .ref (s9 0), .ref (s10 0), .ref (s11 0), .ref (s12 0), .ref (s13 0), .ref (s14 0), .null, .null])) :: ((((((((((((((([] ++ (gX4 g s1 i_X4)) ++ (gX9 g s2 i_X9)) ++ (gX8 g s3 i_X8)) ++ (gX8 g s4 i_X8)) ++ (gX0 g s5 i_X0)) ++ (gX0 g s6 i_X0)) ++ (gX5 g s7 i_X5)) ++ (gX5 g s8 i_X5)) ++ (List.flatten [gX6 g s9 t9 i_X6, gX8 g (t9 0) i_X8, gX5 g (t9 1) i_X5])) ++ (gX1 g s10 i_X1)) ++ (gX7 g s11 i_X7)) ++ (List.flatten [gX2 g s12 t12 i_X2, gX0 g (t12 0) i_X0])) ++ (gX10 g s13 i_X10)) ++ (gX3 g s14 i_X3)) ++ (gX3 g s15 i_X3))) _ := V
  refine n_putF (C := RX11) (T := TX11) (N := 16) 14 tyX11 X V inX11 tyX11_ok nmX11 rfl (by decide) rfl rfl (lw_tg_in (List.mem_of_getElem? (i := 391) (by decide +kernel)) rfl) rfl hnam rfl (Nat.le_of_ble_eq_true rfl) rfl rfl dX11_init_166 (fun H locs V => ?_)
  replace V : kW D AA s.heap H ((a0, .inr (11, [.ref (s1 0), .ref (s2 0), .ref (s3 0), .ref (s4 0), .ref (s5 0), .ref (s6 0), .ref (s7 0), .ref (s8 0), .ref (s9 0), .ref (s10 0), .ref (s11 0), .ref (s12 0), .ref (s13 0), .ref (s14 0), .ref (s15 0), .null])) :: ((((((((((((((([] ++ (gX4 g s1 i_X4)) ++ (gX9 g s2 i_X9)) ++ (gX8 g s3 i_X8)) ++ (gX8 g s4 i_X8)) ++ (gX0 g s5 i_X0)) ++ (gX0 g s6 i_X0)) ++ (gX5 g s7 i_X5)) ++ (gX5 g s8 i_X5)) ++ (List.flatten [gX6 g s9 t9 i_X6, gX8 g (t9 0) i_X8, gX5 g (t9 1) i_X5])) ++ (gX1 g s10 i_X1)) ++ (gX7 g s11 i_X7)) ++ (List.flatten [gX2 g s12 t12 i_X2, gX0 g (t12 0) i_X0])) ++ (gX10 g s13 i_X10)) ++ (gX3 g s14 i_X3)) ++ (gX3 g s15 i_X3))) _ := V
  refine lv_aload_n X.1 X.2.1 dX11_init_169 rfl (lv_at hl 0 rfl) ?_
  refine lv_iconst (v := (3 : Int32)) X.1 X.2.1 dX11_init_170 (by decide) ?_
  refine n_newI (N := 3) X V (by decide +kernel) (by decide +kernel) (Nat.le_of_ble_eq_true rfl) (Nat.le_of_ble_eq_true rfl) (Nat.le_of_ble_eq_true rfl) dX11_init_171 (fun q16 H V => ?_)
  replace V : kW D AA s.heap H ((a0, .inr (11, [.ref (s1 0), .ref (s2 0), .ref (s3 0), .ref (s4 0), .ref (s5 0), .ref (s6 0), .ref (s7 0), .ref (s8 0), .ref (s9 0), .ref (s10 0), .ref (s11 0), .ref (s12 0), .ref (s13 0), .ref (s14 0), .ref (s15 0), .null])) :: (((((((((((((((([] ++ (gX4 g s1 i_X4)) ++ (gX9 g s2 i_X9)) ++ (gX8 g s3 i_X8)) ++ (gX8 g s4 i_X8)) ++ (gX0 g s5 i_X0)) ++ (gX0 g s6 i_X0)) ++ (gX5 g s7 i_X5)) ++ (gX5 g s8 i_X5)) ++ (List.flatten [gX6 g s9 t9 i_X6, gX8 g (t9 0) i_X8, gX5 g (t9 1) i_X5])) ++ (gX1 g s10 i_X1)) ++ (gX7 g s11 i_X7)) ++ (List.flatten [gX2 g s12 t12 i_X2, gX0 g (t12 0) i_X0])) ++ (gX10 g s13 i_X10)) ++ (gX3 g s14 i_X3)) ++ (gX3 g s15 i_X3)) ++ [(q16, .inl (g.1, 3, .inl (fun _ => 0)))])) _ := V
  refine n_putF (C := RX11) (T := TX11) (N := 16) 15 tyX11 X V inX11 tyX11_ok nmX11 rfl (by decide) rfl rfl (lw_tg_in (List.mem_of_getElem? (i := 392) (by decide +kernel)) rfl) rfl hnam rfl (Nat.le_of_ble_eq_true rfl) rfl rfl dX11_init_173 (fun H locs V => ?_)
  replace V : kW D AA s.heap H ((a0, .inr (11, [.ref (s1 0), .ref (s2 0), .ref (s3 0), .ref (s4 0), .ref (s5 0), .ref (s6 0), .ref (s7 0), .ref (s8 0), .ref (s9 0), .ref (s10 0), .ref (s11 0), .ref (s12 0), .ref (s13 0), .ref (s14 0), .ref (s15 0), .ref q16])) :: (((((((((((((((([] ++ (gX4 g s1 i_X4)) ++ (gX9 g s2 i_X9)) ++ (gX8 g s3 i_X8)) ++ (gX8 g s4 i_X8)) ++ (gX0 g s5 i_X0)) ++ (gX0 g s6 i_X0)) ++ (gX5 g s7 i_X5)) ++ (gX5 g s8 i_X5)) ++ (List.flatten [gX6 g s9 t9 i_X6, gX8 g (t9 0) i_X8, gX5 g (t9 1) i_X5])) ++ (gX1 g s10 i_X1)) ++ (gX7 g s11 i_X7)) ++ (List.flatten [gX2 g s12 t12 i_X2, gX0 g (t12 0) i_X0])) ++ (gX10 g s13 i_X10)) ++ (gX3 g s14 i_X3)) ++ (gX3 g s15 i_X3)) ++ [(q16, .inl (g.1, 3, .inl (fun _ => 0)))])) _ := V
  have V : kW D AA s.heap H (([(a0, .inr (11, [.ref (s1 0), .ref (s2 0), .ref (s3 0), .ref (s4 0), .ref (s5 0), .ref (s6 0), .ref (s7 0), .ref (s8 0), .ref (s9 0), .ref (s10 0), .ref (s11 0), .ref (s12 0), .ref (s13 0), .ref (s14 0), .ref (s15 0), .ref q16]))] ++ ((((((((((((((([] ++ (gX4 g s1 i_X4)) ++ (gX9 g s2 i_X9)) ++ (gX8 g s3 i_X8)) ++ (gX8 g s4 i_X8)) ++ (gX0 g s5 i_X0)) ++ (gX0 g s6 i_X0)) ++ (gX5 g s7 i_X5)) ++ (gX5 g s8 i_X5)) ++ (List.flatten [gX6 g s9 t9 i_X6, gX8 g (t9 0) i_X8, gX5 g (t9 1) i_X5])) ++ (gX1 g s10 i_X1)) ++ (gX7 g s11 i_X7)) ++ (List.flatten [gX2 g s12 t12 i_X2, gX0 g (t12 0) i_X0])) ++ (gX10 g s13 i_X10)) ++ (gX3 g s14 i_X3)) ++ (gX3 g s15 i_X3))) ++ [(q16, .inl (g.1, 3, .inl (fun _ => 0)))]) locs := by simpa only [List.cons_append, List.nil_append, List.append_assoc, List.append_nil] using V
  have V := kW_swap V
  refine n_vret2 X V ⟨(fun n => ([a0, q16] : List Nat).getD n 0), (fun n => ([s1, s2, s3, s4, s5, s6, s7, s8, s9, s10, s11, s12, s13, s14, s15] : List (Nat → Nat)).getD n (fun _ => 0)), t9, t12, rfl, ?_⟩ dX11_init_176
  simp [gX11, i_X11, List.flatten]
  try rfl
