theorem kNest_in : ∀ q ∈ kNest, Cond.methodLinkNest q.1 q.2.1 q.2.2.1 q.2.2.2 ∈ lw_tbl := by decide +kernel
theorem n_over : Cond.arrayOver (.array .int) ∈ lw_tbl := List.mem_of_getElem? (i := 141) (by decide +kernel)
set_option maxHeartbeats 4000000 in
set_option maxRecDepth 100000 in
theorem whole_start {p : Program} {e : Env} {s : State} {m : MethodId} {below : List Frame} {meth : Method} {c : Code} (l : Launch) (hflags : l.flags = flags0) {b L : Nat} {xs : Nat → Int32} (hL : L ≤ 3072) (C0 : lw_At p s m meth c b L xs) : W p l e room_1 s m #[Value.ref b] below meth c s.heap [] 0 0 (lw_Z below #[Value.ref b] s) (entryFrame m ([Value.ref b] : List Value).toArray 4) := by
  obtain ⟨hx, hb, hr, hml, hown, hts0, hX, hbl, hlocks, hgv⟩ := id C0
  have hts : ∀ w ∈ lw_tg, w.before #[Value.ref b] s = true := fun w hw => hts0 w (List.mem_filter.mp hw).1
  obtain ⟨c0, s0, k0⟩ := u_known (C := RX0) (T := TX0) (N := 9) (n := 9) hts inX0 (hts (.instantiable RX0 9) (lw_tg_in (List.mem_of_getElem? (i := 198) (by decide +kernel)) rfl))
  obtain ⟨c1, s1, k1⟩ := u_known (C := RX1) (T := TX1) (N := 2) (n := 2) hts inX1 (hts (.instantiable RX1 2) (lw_tg_in (List.mem_of_getElem? (i := 271) (by decide +kernel)) rfl))
  obtain ⟨c2, s2, k2⟩ := u_known (C := RX2) (T := TX2) (N := 7) (n := 7) hts inX2 (hts (.instantiable RX2 7) (lw_tg_in (List.mem_of_getElem? (i := 321) (by decide +kernel)) rfl))
  obtain ⟨c3, s3, k3⟩ := u_known (C := RX3) (T := TX3) (N := 2) (n := 2) hts inX3 (hts (.instantiable RX3 2) (lw_tg_in (List.mem_of_getElem? (i := 365) (by decide +kernel)) rfl))
  obtain ⟨c4, s4, k4⟩ := u_known (C := RX4) (T := TX4) (N := 5) (n := 5) hts inX4 (hts (.instantiable RX4 5) (lw_tg_in (List.mem_of_getElem? (i := 135) (by decide +kernel)) rfl))
  obtain ⟨c5, s5, k5⟩ := u_known (C := RX5) (T := TX5) (N := 4) (n := 4) hts inX5 (hts (.instantiable RX5 4) (lw_tg_in (List.mem_of_getElem? (i := 232) (by decide +kernel)) rfl))
  obtain ⟨c6, s6, k6⟩ := u_known (C := RX6) (T := TX6) (N := 3) (n := 3) hts inX6 (hts (.instantiable RX6 3) (lw_tg_in (List.mem_of_getElem? (i := 251) (by decide +kernel)) rfl))
  obtain ⟨c7, s7, k7⟩ := u_known (C := RX7) (T := TX7) (N := 10) (n := 10) hts inX7 (hts (.instantiable RX7 10) (lw_tg_in (List.mem_of_getElem? (i := 284) (by decide +kernel)) rfl))
  obtain ⟨c8, s8, k8⟩ := u_known (C := RX8) (T := TX8) (N := 4) (n := 4) hts inX8 (hts (.instantiable RX8 4) (lw_tg_in (List.mem_of_getElem? (i := 179) (by decide +kernel)) rfl))
  obtain ⟨c9, s9, k9⟩ := u_known (C := RX9) (T := TX9) (N := 4) (n := 4) hts inX9 (hts (.instantiable RX9 4) (lw_tg_in (List.mem_of_getElem? (i := 160) (by decide +kernel)) rfl))
  obtain ⟨c10, s10, k10⟩ := u_known (C := RX10) (T := TX10) (N := 2) (n := 2) hts inX10 (hts (.instantiable RX10 2) (lw_tg_in (List.mem_of_getElem? (i := 352) (by decide +kernel)) rfl))
  obtain ⟨c11, s11, k11⟩ := u_known (C := RX11) (T := TX11) (N := 16) (n := 16) hts inX11 (hts (.instantiable RX11 16) (lw_tg_in (List.mem_of_getElem? (i := 127) (by decide +kernel)) rfl))
  obtain ⟨c12, s12, k12⟩ := u_known (C := RX12) (T := TX12) (N := 56) (n := 56) hts inX12 (hts (.instantiable RX12 56) (lw_tg_in (List.mem_of_getElem? (i := 1284) (by decide +kernel)) rfl))
  obtain ⟨D, hKc⟩ : ∃ D : va_G, ∀ (k : Nat) (q : vw_C), vwCl[k]? = some q → u_Kn s q.1 q.2.1 q.2.2 (D.1 k) (D.2 k) := by
    refine ⟨(fun k => if k = 0 then c0 else if k = 1 then c1 else if k = 2 then c2 else if k = 3 then c3 else if k = 4 then c4 else if k = 5 then c5 else if k = 6 then c6 else if k = 7 then c7 else if k = 8 then c8 else if k = 9 then c9 else if k = 10 then c10 else if k = 11 then c11 else c12, fun k => if k = 0 then s0 else if k = 1 then s1 else if k = 2 then s2 else if k = 3 then s3 else if k = 4 then s4 else if k = 5 then s5 else if k = 6 then s6 else if k = 7 then s7 else if k = 8 then s8 else if k = 9 then s9 else if k = 10 then s10 else if k = 11 then s11 else s12), ?_⟩
    intro k q hq
    match k, hq with
    | 0, hq => cases hq; exact k0
    | 1, hq => cases hq; exact k1
    | 2, hq => cases hq; exact k2
    | 3, hq => cases hq; exact k3
    | 4, hq => cases hq; exact k4
    | 5, hq => cases hq; exact k5
    | 6, hq => cases hq; exact k6
    | 7, hq => cases hq; exact k7
    | 8, hq => cases hq; exact k8
    | 9, hq => cases hq; exact k9
    | 10, hq => cases hq; exact k10
    | 11, hq => cases hq; exact k11
    | 12, hq => cases hq; exact k12
    | k + 13, hq => simp [vwCl] at hq
  obtain ⟨gI, kI, oI, fI, nI, dI⟩ := Cond.arrayClass_spec (hts (.arrayClass .int) n_arrI)
  obtain ⟨gJ, kJ, oJ, fJ, nJ, dJ⟩ := Cond.arrayClass_spec (hts (.arrayClass .long) n_arrJ)
  obtain ⟨gB, kB', oB, fB, nB, dB⟩ := Cond.arrayClass_spec (hts (.arrayClass .byte) n_arrB)
  have hAO : va_AOA .int s := hts0 _ n_over
  have hAO2 := hAO
  unfold va_AOA Cond.before Cond.holds at hAO2
  simp only [Cond.value, beq_iff_eq, Option.bind_eq_some_iff, Option.map_eq_some_iff] at hAO2
  obtain ⟨oO, fO1, gO, fO2, kO, fO3, fO4⟩ := hAO2
  have hO : ∃ comp, kO.kind = .array comp (.array .int) ∧ s.vm.findClass ("[" ++ (FieldType.array .int).toString) = some gO := by
    cases hk : kO.kind with
    | array comp ty =>
      rw [hk] at fO4
      simp at fO4
      exact ⟨comp, by rw [fO4.1], fO4.2⟩
    | _ => rw [hk] at fO4; simp at fO4
  obtain ⟨compO, hO1, hO2⟩ := hO
  let g : kG := (gI, gJ, gB, gO)
  have hK : va_K D vwCl (kty g) s := ⟨hKc, fun k q hq => by
    match k, hq with
    | 0, hq => cases hq; exact ⟨fun n z => ⟨fun k h => (by cases h), kI, nI, oI, dI⟩, fI⟩
    | 1, hq => cases hq; exact ⟨fun n z => ⟨fun k h => (by cases h), kJ, nJ, oJ, dJ⟩, fJ⟩
    | 2, hq => cases hq; exact ⟨fun n z => ⟨fun k h => (by cases h), kB', nB, oB, dB⟩, fB⟩
    | 3, hq => cases hq; exact ⟨fun n z => ⟨fun k h => (by cases h), kO, fO3, compO, hO1⟩, hO2⟩
    | k + 4, hq => simp at hq⟩
  have X : kX p s m meth c #[Value.ref b] RL code 4 ret D (kty g) := ⟨hx, hb, hml, hown, hts, ⟨hK, fun q hq => va_Nw.of rfl (hts0 _ (kNest_in q hq))⟩, hr, hlocks⟩
  obtain ⟨AA, hAA⟩ : ∃ A : Nat → Prop, A = fun q => s.heap.size ≤ q := ⟨_, rfl⟩
  have hbA : ¬ AA b := by rw [hAA]; exact Nat.not_le.mpr hbl
  have V : kW D AA s.heap s.heap [] [] := ⟨fun k q h => by simp at h, ⟨fun i j p q h => by simp at h, fun k q h => by simp at h⟩, va_S.rf, fun q h => by rw [hAA]; exact h⟩
  have hl := lv_entry ([.ref b]) (n := 4) (Nat.le_of_ble_eq_true rfl)
  rw [lg_entry_eq]
  generalize (lg_sl ([.ref b]) ++ List.replicate (4 - (lg_sl ([.ref b])).length) Slot.unset).toArray = ls at hl ⊢
  have hl : lv_has ls 4 [(0, .ref b)] := hl
  refine n_new (C := RX11) (T := TX11) (N := 16) (ci := 11) (fs := [.null, .null, .null, .null, .null, .null, .null, .null, .null, .null, .null, .null, .null, .null, .null, .null]) tyX11 X V inX11 tyX11_ok (lw_tg_in (List.mem_of_getElem? (i := 126) (by decide +kernel)) rfl) (lw_tg_in (List.mem_of_getElem? (i := 127) (by decide +kernel)) rfl) (lw_tg_in (List.mem_of_getElem? (i := 109) (by decide +kernel)) rfl) rfl (by decide +kernel) (Nat.le_of_ble_eq_true rfl) (Nat.le_of_ble_eq_true rfl) dL_law_0 (fun q1 H V => ?_)
  refine lv_dup X.1 X.2.1 dL_law_3 rfl ?_
  refine n_init (ws := []) X hAO V (n_X11_init l D g q1) kci_L_9 ⟨(Nat.le_of_ble_eq_true rfl), (Nat.le_of_ble_eq_true rfl)⟩ ⟨(Nat.le_of_ble_eq_true rfl), (Nat.le_of_ble_eq_true rfl)⟩ hl.1 (Nat.le_of_ble_eq_true rfl) dL_law_4 (fun u1 H locs hu V2 => ?_)
  clear V
  obtain ⟨aP1, bP1, bP1_8, bP1_11, ha1, rfl⟩ := hu
  subst ha1
  have V := V2
  clear V2
  refine lv_astore_n (lv' := [(1, .ref (aP1 0)), (0, .ref b)]) X.1 X.2.1 dL_law_7 rfl hl (by decide) rfl (fun ls hl => ?_)
  refine n_new (C := RX12) (T := TX12) (N := 56) (ci := 12) (fs := [.null, .null, .int 0, .null, .int 0, .int 0, .int 0, .int 0, .null, .null, .null, .int 0, .null, .null, .null, .int 0, .long 0, .long 0, .long 0, .long 0, .long 0, .long 0, .long 0, .long 0, .long 0, .long 0, .long 0, .long 0, .long 0, .long 0, .null, .null, .int 0, .null, .null, .null, .null, .int 0, .long 0, .long 0, .long 0, .null, .long 0, .long 0, .long 0, .long 0, .long 0, .int 0, .long 0, .long 0, .int 0, .null, .null, .int 0, .null, .int 0]) tyX12 X V inX12 tyX12_ok (lw_tg_in (List.mem_of_getElem? (i := 1283) (by decide +kernel)) rfl) (lw_tg_in (List.mem_of_getElem? (i := 1284) (by decide +kernel)) rfl) (lw_tg_in (List.mem_of_getElem? (i := 121) (by decide +kernel)) rfl) rfl (by decide +kernel) (Nat.le_of_ble_eq_true rfl) (Nat.le_of_ble_eq_true rfl) dL_law_8 (fun q2 H V => ?_)
  refine lv_dup X.1 X.2.1 dL_law_11 rfl ?_
  refine n_init X hAO V (n_X12_init l D g q2) kci_L_12 ⟨(Nat.le_of_ble_eq_true rfl), (Nat.le_of_ble_eq_true rfl)⟩ ⟨(Nat.le_of_ble_eq_true rfl), (Nat.le_of_ble_eq_true rfl)⟩ hl.1 (Nat.le_of_ble_eq_true rfl) dL_law_12 (fun u2 H locs hu V2 => ?_)
  clear V
  obtain ⟨aP2, ha2, rfl⟩ := hu
  subst ha2
  have V := V2
  clear V2
  refine lv_astore_n (lv' := [(2, .ref (aP2 0)), (1, .ref (aP1 0)), (0, .ref b)]) X.1 X.2.1 dL_law_15 rfl hl (by decide) rfl (fun ls hl => ?_)
  refine lv_iconst (v := (0 : Int32)) X.1 X.2.1 dL_law_16 (by decide) ?_
  refine lv_istore_n (lv' := [(3, .int (0 : Int32)), (2, .ref (aP2 0)), (1, .ref (aP1 0)), (0, .ref b)]) X.1 X.2.1 dL_law_17 rfl hl (by decide) rfl (fun ls hl => ?_)
  have V : kW D AA s.heap H (List.flatten [gX11 g aP1 bP1 i_X11, gX4 g (bP1 0) i_X4, gX9 g (bP1 1) i_X9, gX8 g (bP1 2) i_X8, gX8 g (bP1 3) i_X8, gX0 g (bP1 4) i_X0, gX0 g (bP1 5) i_X0, gX5 g (bP1 6) i_X5, gX5 g (bP1 7) i_X5, gX6 g (bP1 8) bP1_8 i_X6, gX8 g (bP1_8 0) i_X8, gX5 g (bP1_8 1) i_X5, gX1 g (bP1 9) i_X1, gX7 g (bP1 10) i_X7, gX2 g (bP1 11) bP1_11 i_X2, gX0 g (bP1_11 0) i_X0, gX10 g (bP1 12) i_X10, gX3 g (bP1 13) i_X3, gX3 g (bP1 14) i_X3, gX12 g aP2 i_X12]) locs := by
    simpa [List.flatten] using V
  exact law_loop l D g b aP1 aP2 bP1 bP1_8 bP1_11 L xs i_X11 i_X4 i_X9 i_X8 i_X8 i_X0 i_X0 i_X5 i_X5 i_X6 i_X8 i_X5 i_X1 i_X7 i_X2 i_X0 i_X10 i_X3 i_X3 i_X12 0 X hX hbl _ _ ⟨(Nat.le_of_ble_eq_true rfl), (Nat.le_of_ble_eq_true rfl)⟩ AA hAA hbA (law_pure L xs hL) H locs ls V hl
