def i_X4 : tX4 := ((fun k => if 80 ≤ k ∧ k < 120 then -1 else 0), (fun _ => 0), (fun _ _ => 0), 19, 0)
/-- the cells of new Heaps -/
def n_a4 (a0 q1 q2 q : Nat) : Nat → Nat := fun n => if n = 0 then a0 else if n = 1 then q1 else if n = 2 then q2 else if n = 3 then q else q + 1 + (n - 4)
theorem n_g4 (g : kG) (a0 q1 q2 q : Nat) : ((a0, .inr (4, [.ref q1, .ref q2, .ref q, .int 0, .int 0])) :: (((([] ++ [(q1, .inl (g.1, 129, .inl (fun _ => 0)))]) ++ [(q2, .inl (g.1, 129, .inl (fun _ => 0)))]) ++ [(q, .inl (g.2.2.2, 20, .inr (.inr (.inr (.inr (fun i => if i < 20 then some (q + 1 + i) else none))))))]) ++ n_rows g q) : va_W) =
    List.flatten [gX4 g (n_a4 a0 q1 q2 q) ((fun _ => 0), (fun _ => 0), (fun _ _ => 0), 0, 0)] := by
  have e : (fun i => if i < 20 then some (n_a4 a0 q1 q2 q (4 + i)) else none) = (fun i => if i < 20 then some (q + 1 + i) else none) := by
    funext i
    have k : n_a4 a0 q1 q2 q (4 + i) = q + 1 + i := by
      unfold n_a4
      rw [if_neg (by omega), if_neg (by omega), if_neg (by omega), if_neg (by omega), show 4 + i - 4 = i by omega]
    rw [k]
  unfold gX4
  rw [e]
  rfl
theorem n_i40 : ∀ i, i < 40 → ((80 : Int32) + Int32.ofNat i).toNatClampNeg = 80 + i ∧ Int32.ofNat (i + 1) = Int32.ofNat i + 1 ∧ ¬ (40 : Int32) ≤ Int32.ofNat i ∧ kin ((80 : Int32) + Int32.ofNat i) 129 := by
  unfold kin
  decide +kernel
set_option maxHeartbeats 4000000 in
set_option maxRecDepth 100000 in
theorem n_X4_init (l : Launch) (D : va_G) (g : kG) (a0 : Nat) : kMn l yX4_init cX4_init 2 1 23 2858 12 D (kty g) a0 [(a0, .inr (4, [.null, .null, .null, .int 0, .int 0]))] (fun u => ∃ a : Nat → Nat, a 0 = a0 ∧ u = gX4 g a i_X4) := by
  intro sz
  refine n_enter RX4 (by decide +kernel) rfl rfl (Nat.le_of_ble_eq_true rfl) ?_
  intro p en s m args below meth c ls hsz X hAO hnam V hl
  obtain ⟨AA, hAA⟩ : ∃ q, q = va_A [(a0, .inr (4, [.null, .null, .null, .int 0, .int 0]))] sz := ⟨_, rfl⟩
  rw [← hAA] at V ⊢
  refine lv_aload_n X.1 X.2.1 dX4_init_0 rfl (lv_at hl 0 rfl) ?_
  refine n_obj X hl.1 (lw_tg_in (List.mem_of_getElem? (i := 139) (by decide +kernel)) rfl) n_oi n_oc (Nat.le_of_ble_eq_true rfl) (Nat.le_of_ble_eq_true rfl) dX4_init_1 ?_
  refine lv_aload_n X.1 X.2.1 dX4_init_4 rfl (lv_at hl 0 rfl) ?_
  refine lv_sipush (v := (129 : Int32)) X.1 X.2.1 dX4_init_5 (by decide) ?_
  refine n_newI (N := 129) X V (by decide +kernel) (by decide +kernel) (Nat.le_of_ble_eq_true rfl) (Nat.le_of_ble_eq_true rfl) (Nat.le_of_ble_eq_true rfl) dX4_init_8 (fun q1 H V => ?_)
  replace V : kW D AA s.heap H ((a0, .inr (4, [.null, .null, .null, .int 0, .int 0])) :: ([] ++ [(q1, .inl (g.1, 129, .inl (fun _ => 0)))])) _ := V
  refine n_putF (C := RX4) (T := TX4) (N := 5) 0 tyX4 X V inX4 tyX4_ok nmX4 rfl (by decide) rfl rfl (lw_tg_in (List.mem_of_getElem? (i := 142) (by decide +kernel)) rfl) rfl hnam rfl (Nat.le_of_ble_eq_true rfl) rfl rfl dX4_init_10 (fun H locs V => ?_)
  replace V : kW D AA s.heap H ((a0, .inr (4, [.ref q1, .null, .null, .int 0, .int 0])) :: ([] ++ [(q1, .inl (g.1, 129, .inl (fun _ => 0)))])) _ := V
  refine lv_aload_n X.1 X.2.1 dX4_init_13 rfl (lv_at hl 0 rfl) ?_
  refine lv_sipush (v := (129 : Int32)) X.1 X.2.1 dX4_init_14 (by decide) ?_
  refine n_newI (N := 129) X V (by decide +kernel) (by decide +kernel) (Nat.le_of_ble_eq_true rfl) (Nat.le_of_ble_eq_true rfl) (Nat.le_of_ble_eq_true rfl) dX4_init_17 (fun q2 H V => ?_)
  replace V : kW D AA s.heap H ((a0, .inr (4, [.ref q1, .null, .null, .int 0, .int 0])) :: (([] ++ [(q1, .inl (g.1, 129, .inl (fun _ => 0)))]) ++ [(q2, .inl (g.1, 129, .inl (fun _ => 0)))])) _ := V
  refine n_putF (C := RX4) (T := TX4) (N := 5) 1 tyX4 X V inX4 tyX4_ok nmX4 rfl (by decide) rfl rfl (lw_tg_in (List.mem_of_getElem? (i := 143) (by decide +kernel)) rfl) rfl hnam rfl (Nat.le_of_ble_eq_true rfl) rfl rfl dX4_init_19 (fun H locs V => ?_)
  replace V : kW D AA s.heap H ((a0, .inr (4, [.ref q1, .ref q2, .null, .int 0, .int 0])) :: (([] ++ [(q1, .inl (g.1, 129, .inl (fun _ => 0)))]) ++ [(q2, .inl (g.1, 129, .inl (fun _ => 0)))])) _ := V
  refine lv_aload_n X.1 X.2.1 dX4_init_22 rfl (lv_at hl 0 rfl) ?_
  refine lv_bipush (v := (20 : Int32)) X.1 X.2.1 dX4_init_23 (by decide) ?_
  refine lv_sipush (v := (129 : Int32)) X.1 X.2.1 dX4_init_25 (by decide) ?_
  refine n_newM X hAO V (lw_tg_in (List.mem_of_getElem? (i := 140) (by decide +kernel)) rfl) (Nat.le_of_ble_eq_true rfl) (Nat.le_of_ble_eq_true rfl) dX4_init_28 (fun q H V => ?_)
  replace V : kW D AA s.heap H ((a0, .inr (4, [.ref q1, .ref q2, .null, .int 0, .int 0])) :: (((([] ++ [(q1, .inl (g.1, 129, .inl (fun _ => 0)))]) ++ [(q2, .inl (g.1, 129, .inl (fun _ => 0)))]) ++ [(q, .inl (g.2.2.2, 20, .inr (.inr (.inr (.inr (fun i => if i < 20 then some (q + 1 + i) else none))))))]) ++ n_rows g q)) _ := V
  refine n_putF (C := RX4) (T := TX4) (N := 5) 2 tyX4 X V inX4 tyX4_ok nmX4 rfl (by decide) rfl rfl (lw_tg_in (List.mem_of_getElem? (i := 144) (by decide +kernel)) rfl) rfl hnam rfl (Nat.le_of_ble_eq_true rfl) rfl rfl dX4_init_32 (fun H locs V => ?_)
  replace V : kW D AA s.heap H (List.flatten [gX4 g (n_a4 a0 q1 q2 q) ((fun _ => 0), (fun _ => 0), (fun _ _ => 0), 0, 0)]) locs := by
    rw [← n_g4]
    exact V
  refine lv_aload_n X.1 X.2.1 dX4_init_35 rfl (lv_at hl 0 rfl) ?_
  refine lv_bipush (v := (19 : Int32)) X.1 X.2.1 dX4_init_36 (by decide) ?_
  refine pf_X4_23 (i := 0) (aq := n_a4 a0 q1 q2 q) X V rfl dX4_init_38 (fun H locs V => ?_)
  refine lv_iconst (v := (0 : Int32)) X.1 X.2.1 dX4_init_41 (by decide) ?_
  refine lv_istore_n (lv' := [(1, .int (0 : Int32)), (0, .ref a0)]) X.1 X.2.1 dX4_init_42 rfl hl (by decide) rfl (fun ls hl => ?_)
  obtain ⟨QQ, hQQ⟩ : ∃ q, q = MQ below (va_Qv (fun u => ∃ a : Nat → Nat, a 0 = a0 ∧ u = gX4 g a i_X4) (fun u t => va_P D vwCl u t.heap ∧ va_D AA u) AA) args s 23 2858 AA := ⟨_, rfl⟩
  rw [← hQQ]
  have loop : ∀ (r i : Nat), i + r = 40 → ∀ (H : Heap) (locs : List Loc) (ls : Array Slot), kW D AA s.heap H (List.flatten [gX4 g (n_a4 a0 q1 q2 q) ((fun k => if 80 ≤ k ∧ k < 80 + i then -1 else 0), (fun _ => 0), (fun _ _ => 0), 19, 0)]) locs → lv_has ls 2 [(1, .int (Int32.ofNat i)), (0, .ref a0)] →
      W p l en (kRn 1 23 2858 12) s m args below meth c H locs 23 2858 QQ (F0 m 43 ls []) := by
    intro r
    induction r with
    | zero =>
      intro i hi H locs ls V hl
      have ei : i = 40 := by omega
      subst ei
      refine lv_iload_n X.1 X.2.1 dX4_init_43 rfl (lv_at hl 0 rfl) ?_
      refine lv_bipush (v := (40 : Int32)) X.1 X.2.1 dX4_init_44 (by decide) ?_
      refine lv_icmp_ge (tgt := 65) X.1 X.2.1 dX4_init_46 (by decide) (fun hc => ?_) (fun hc => absurd (by decide) hc)
      rw [hQQ]
      exact n_vret2 X V ⟨n_a4 a0 q1 q2 q, rfl, by rw [List.flatten_cons, List.flatten_nil, List.append_nil]; rfl⟩ dX4_init_65
    | succ r ih =>
      intro i hi H locs ls V hl
      obtain ⟨t1, t2, t3, t4⟩ := n_i40 i (by omega)
      refine lv_iload_n X.1 X.2.1 dX4_init_43 rfl (lv_at hl 0 rfl) ?_
      refine lv_bipush (v := (40 : Int32)) X.1 X.2.1 dX4_init_44 (by decide) ?_
      refine lv_icmp_ge (tgt := 65) X.1 X.2.1 dX4_init_46 (by decide) (fun hc => absurd hc t3) (fun hc => ?_)
      refine lv_aload_n X.1 X.2.1 dX4_init_49 rfl (lv_at hl 1 rfl) ?_
      refine gf_X4_11 (i := 0) (aq := n_a4 a0 q1 q2 q) X V rfl dX4_init_50 ?_
      refine lv_bipush (v := (80 : Int32)) X.1 X.2.1 dX4_init_53 (by decide) ?_
      refine lv_iload_n X.1 X.2.1 dX4_init_55 rfl (lv_at hl 0 rfl) ?_
      refine lv_iadd X.1 X.2.1 dX4_init_56 ?_
      refine lv_iconst (v := (-1 : Int32)) X.1 X.2.1 dX4_init_57 (by decide) ?_
      refine as_X4_0 (i := 0) (aq := n_a4 a0 q1 q2 q) X V rfl t4 dX4_init_58 (fun H locs V => ?_)
      refine lv_iinc (v := Int32.ofNat (i + 1)) (lv' := [(1, .int (Int32.ofNat (i + 1))), (0, .ref a0)]) X.1 X.2.1 dX4_init_59 hl (k := 0) rfl (by rw [t2]; rfl) (by decide) rfl (fun ls hl => ?_)
      refine lv_goto (tgt := 43) X.1 X.2.1 dX4_init_62 (by decide) ?_
      refine ih (i + 1) (by omega) H locs ls ?_ hl
      have e : upd (fun k => if 80 ≤ k ∧ k < 80 + i then (-1 : Int32) else 0) ((80 : Int32) + Int32.ofNat i).toNatClampNeg (-1) = (fun k => if 80 ≤ k ∧ k < 80 + (i + 1) then (-1 : Int32) else 0) := by
        rw [t1]
        funext k
        unfold upd
        by_cases z : k = 80 + i
        · rw [if_pos z, if_pos ⟨by omega, by omega⟩]
        · rw [if_neg z]
          dsimp only
          by_cases w : 80 ≤ k ∧ k < 80 + i
          · rw [if_pos w, if_pos ⟨by omega, by omega⟩]
          · rw [if_neg w, if_neg (by omega)]
      rw [← e]
      exact V
  refine loop 40 0 rfl H locs ls ?_ hl
  have e : (fun k => if 80 ≤ k ∧ k < 80 + 0 then (-1 : Int32) else 0) = fun _ => 0 := by
    funext k
    rw [if_neg (by omega)]
  rw [e]
  exact V
