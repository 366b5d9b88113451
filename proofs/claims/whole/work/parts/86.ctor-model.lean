/-! ===== the model's constructor: one row for a new array put into a field ===== -/
section KS12
variable {p : Program} {l : Launch} {e : Env} {R : Room} {s : State} {m : MethodId} {args : Array Value} {below : List Frame} {meth : Method} {c : Code} {H : Heap} {locs : List Loc} {Q : State → Prop}
variable {cc : ByteArray} {nL : Nat} {rt : Option FieldType} {D : va_G} {g : kG} {A : Nat → Prop} {H0 : Heap} {pc : Nat} {ls : Array Slot} {a cells slots : Nat}
theorem n_s12I {index N : Nat} {n : Int32} {fs : List Value} {rs : va_W} (k pc3 cells3 slots3 : Nat) (hlen : fs.length = 56) (X : kX p s m meth c args RX12 cc nL rt D (kty g)) (hnam : meth.name = "<init>") (V : kW D A H0 H ((a, .inr (12, fs)) :: rs) locs) (hn : ¬ n < 0) (hN : n.toNatClampNeg = N) (hb : N * 4 ≤ 536870912) (hk : k < 56) (hD : (TX12 k).1 = RX12) (hlink : Cond.fieldLink RX12 index RX12 (TX12 k).2.1 (TX12 k).2.2.1 ∈ lw_tg) (hfin : (TX12 k).2.2.2 = true) (hft : tyX12 k = .array .int) (hcells : cells + 1 ≤ R.cells) (hslots : slots + N ≤ R.slots) (hp : pc + 5 = pc3) (hc3 : cells + 1 = cells3) (hs3 : slots + N = slots3) (hdg : decode cc pc = .ok (.newarray .int, 2)) (hdp : decode cc (pc + 2) = .ok (.putfield index, 3))
    (kk : ∀ (q : Nat) (H1 : Heap) (locs1 : List Loc), kW D A H0 H1 ((a, .inr (12, fs.set k (.ref q))) :: (rs ++ [(q, .inl (g.1, N, .inl (fun _ => 0)))])) locs1 → W p l e R s m args below meth c H1 locs1 cells3 slots3 Q (F0 m pc3 ls [])) : W p l e R s m args below meth c H locs cells slots Q (F0 m pc ls (.int n :: .ref a :: [])) := by
  subst hp hc3 hs3
  refine n_newI X V hn hN hb hcells hslots hdg (fun q H1 V1 => ?_)
  replace V1 : kW D A H0 H1 ((a, .inr (12, fs)) :: (rs ++ [(q, .inl (g.1, N, .inl (fun _ => 0)))])) locs := V1
  exact n_putF (C := RX12) (T := TX12) (N := 56) k tyX12 X V1 inX12 tyX12_ok nmX12 rfl hk hD hD hlink hfin hnam hft (by rw [hlen]; exact hk) rfl rfl hdp (fun H2 locs2 V2 => kk q H2 locs2 V2)
theorem n_s12J {index N : Nat} {n : Int32} {fs : List Value} {rs : va_W} (k pc3 cells3 slots3 : Nat) (hlen : fs.length = 56) (X : kX p s m meth c args RX12 cc nL rt D (kty g)) (hnam : meth.name = "<init>") (V : kW D A H0 H ((a, .inr (12, fs)) :: rs) locs) (hn : ¬ n < 0) (hN : n.toNatClampNeg = N) (hb : N * 8 ≤ 536870912) (hk : k < 56) (hD : (TX12 k).1 = RX12) (hlink : Cond.fieldLink RX12 index RX12 (TX12 k).2.1 (TX12 k).2.2.1 ∈ lw_tg) (hfin : (TX12 k).2.2.2 = true) (hft : tyX12 k = .array .long) (hcells : cells + 1 ≤ R.cells) (hslots : slots + N ≤ R.slots) (hp : pc + 5 = pc3) (hc3 : cells + 1 = cells3) (hs3 : slots + N = slots3) (hdg : decode cc pc = .ok (.newarray .long, 2)) (hdp : decode cc (pc + 2) = .ok (.putfield index, 3))
    (kk : ∀ (q : Nat) (H1 : Heap) (locs1 : List Loc), kW D A H0 H1 ((a, .inr (12, fs.set k (.ref q))) :: (rs ++ [(q, .inl (g.2.1, N, .inr (.inl (fun _ => 0))))])) locs1 → W p l e R s m args below meth c H1 locs1 cells3 slots3 Q (F0 m pc3 ls [])) : W p l e R s m args below meth c H locs cells slots Q (F0 m pc ls (.int n :: .ref a :: [])) := by
  subst hp hc3 hs3
  refine n_newJ X V hn hN hb hcells hslots hdg (fun q H1 V1 => ?_)
  replace V1 : kW D A H0 H1 ((a, .inr (12, fs)) :: (rs ++ [(q, .inl (g.2.1, N, .inr (.inl (fun _ => 0))))])) locs := V1
  exact n_putF (C := RX12) (T := TX12) (N := 56) k tyX12 X V1 inX12 tyX12_ok nmX12 rfl hk hD hD hlink hfin hnam hft (by rw [hlen]; exact hk) rfl rfl hdp (fun H2 locs2 V2 => kk q H2 locs2 V2)
theorem n_s12B {index N : Nat} {n : Int32} {fs : List Value} {rs : va_W} (k pc3 cells3 slots3 : Nat) (hlen : fs.length = 56) (X : kX p s m meth c args RX12 cc nL rt D (kty g)) (hnam : meth.name = "<init>") (V : kW D A H0 H ((a, .inr (12, fs)) :: rs) locs) (hn : ¬ n < 0) (hN : n.toNatClampNeg = N) (hb : N * 1 ≤ 536870912) (hk : k < 56) (hD : (TX12 k).1 = RX12) (hlink : Cond.fieldLink RX12 index RX12 (TX12 k).2.1 (TX12 k).2.2.1 ∈ lw_tg) (hfin : (TX12 k).2.2.2 = true) (hft : tyX12 k = .array .byte) (hcells : cells + 1 ≤ R.cells) (hslots : slots + N ≤ R.slots) (hp : pc + 5 = pc3) (hc3 : cells + 1 = cells3) (hs3 : slots + N = slots3) (hdg : decode cc pc = .ok (.newarray .byte, 2)) (hdp : decode cc (pc + 2) = .ok (.putfield index, 3))
    (kk : ∀ (q : Nat) (H1 : Heap) (locs1 : List Loc), kW D A H0 H1 ((a, .inr (12, fs.set k (.ref q))) :: (rs ++ [(q, .inl (g.2.2.1, N, .inl (fun _ => 0)))])) locs1 → W p l e R s m args below meth c H1 locs1 cells3 slots3 Q (F0 m pc3 ls [])) : W p l e R s m args below meth c H locs cells slots Q (F0 m pc ls (.int n :: .ref a :: [])) := by
  subst hp hc3 hs3
  refine n_newB X V hn hN hb hcells hslots hdg (fun q H1 V1 => ?_)
  replace V1 : kW D A H0 H1 ((a, .inr (12, fs)) :: (rs ++ [(q, .inl (g.2.2.1, N, .inl (fun _ => 0)))])) locs := V1
  exact n_putF (C := RX12) (T := TX12) (N := 56) k tyX12 X V1 inX12 tyX12_ok nmX12 rfl hk hD hD hlink hfin hnam hft (by rw [hlen]; exact hk) rfl rfl hdp (fun H2 locs2 V2 => kk q H2 locs2 V2)
end KS12
def i_X12 : tX12 := ((fun k => if k = 6 then (-1) else 0), (fun _ => 0), (fun _ _ => 0), (fun _ _ => 0))
theorem n_g12 (g : kG) (a0 q1 q2 q3 q4 q5 q6 q7 q8 q9 q10 q11 q12 q13 q14 q15 q16 q17 q18 q19 : Nat) : (((a0, .inr (12, [.ref q1, .ref q2, .int 0, .ref q3, .int 0, .int 0, .int (-1), .int 0, .ref q4, .ref q5, .ref q6, .int 0, .ref q7, .ref q8, .ref q9, .int 0, .long 0, .long 0, .long 0, .long 0, .long 0, .long 0, .long 0, .long 0, .long 0, .long 0, .long 0, .long 0, .long 0, .long 0, .ref q10, .ref q11, .int 0, .ref q12, .ref q13, .ref q14, .ref q15, .int 0, .long 0, .long 0, .long 0, .ref q16, .long 0, .long 0, .long 0, .long 0, .long 0, .int 0, .long 0, .long 0, .int 0, .ref q17, .ref q18, .int 0, .ref q19, .int 0])) :: ((((((((((((((((((([] ++ [(q1, .inl (g.1, 170, .inl (fun _ => 0)))]) ++ [(q2, .inl (g.1, 3400, .inl (fun _ => 0)))]) ++ [(q3, .inl (g.2.2.1, 400, .inl (fun _ => 0)))]) ++ [(q4, .inl (g.1, 100, .inl (fun _ => 0)))]) ++ [(q5, .inl (g.1, 100, .inl (fun _ => 0)))]) ++ [(q6, .inl (g.1, 100, .inl (fun _ => 0)))]) ++ [(q7, .inl (g.1, 41, .inl (fun _ => 0)))]) ++ [(q8, .inl (g.1, 41, .inl (fun _ => 0)))]) ++ [(q9, .inl (g.1, 41, .inl (fun _ => 0)))]) ++ [(q10, .inl (g.1, 41, .inl (fun _ => 0)))]) ++ [(q11, .inl (g.1, 3, .inl (fun _ => 0)))]) ++ [(q12, .inl (g.1, 3, .inl (fun _ => 0)))]) ++ [(q13, .inl (g.1, 3, .inl (fun _ => 0)))]) ++ [(q14, .inl (g.1, 42, .inl (fun _ => 0)))]) ++ [(q15, .inl (g.1, 42, .inl (fun _ => 0)))]) ++ [(q16, .inl (g.2.1, 780, .inr (.inl (fun _ => 0))))]) ++ [(q17, .inl (g.1, 42, .inl (fun _ => 0)))]) ++ [(q18, .inl (g.1, 42, .inl (fun _ => 0)))]) ++ [(q19, .inl (g.2.2.1, 500, .inl (fun _ => 0)))])) : va_W) = gX12 g (fun n => ([a0, q1, q2, q3, q4, q5, q6, q7, q8, q9, q10, q11, q12, q13, q14, q15, q16, q17, q18, q19] : List Nat).getD n 0) i_X12 := by
  have z : ∀ j : Nat, j ≠ 6 → i_X12.1 j = 0 := fun j h => if_neg h
  have z6 : i_X12.1 6 = -1 := rfl
  unfold gX12
  simp only [z 2 (by decide), z 4 (by decide), z 5 (by decide), z6, z 7 (by decide), z 11 (by decide), z 15 (by decide), z 32 (by decide), z 37 (by decide), z 47 (by decide), z 50 (by decide), z 53 (by decide), z 55 (by decide), List.getD_cons_zero, List.getD_cons_succ, List.nil_append, List.cons_append, List.append_assoc]
  rfl
theorem n_f12 (q1 q2 q3 q4 q5 q6 q7 q8 q9 q10 q11 q12 q13 q14 q15 q16 q17 q18 q19 : Nat) : ((((((((((((((((((((([.null, .null, .int 0, .null, .int 0, .int 0, .int 0, .int 0, .null, .null, .null, .int 0, .null, .null, .null, .int 0, .long 0, .long 0, .long 0, .long 0, .long 0, .long 0, .long 0, .long 0, .long 0, .long 0, .long 0, .long 0, .long 0, .long 0, .null, .null, .int 0, .null, .null, .null, .null, .int 0, .long 0, .long 0, .long 0, .null, .long 0, .long 0, .long 0, .long 0, .long 0, .int 0, .long 0, .long 0, .int 0, .null, .null, .int 0, .null, .int 0] : List Value).set 0 (.ref q1)).set 1 (.ref q2)).set 3 (.ref q3)).set 6 (.int (-1))).set 8 (.ref q4)).set 9 (.ref q5)).set 10 (.ref q6)).set 12 (.ref q7)).set 13 (.ref q8)).set 14 (.ref q9)).set 30 (.ref q10)).set 31 (.ref q11)).set 33 (.ref q12)).set 34 (.ref q13)).set 35 (.ref q14)).set 36 (.ref q15)).set 41 (.ref q16)).set 51 (.ref q17)).set 52 (.ref q18)).set 54 (.ref q19)) = [.ref q1, .ref q2, .int 0, .ref q3, .int 0, .int 0, .int (-1), .int 0, .ref q4, .ref q5, .ref q6, .int 0, .ref q7, .ref q8, .ref q9, .int 0, .long 0, .long 0, .long 0, .long 0, .long 0, .long 0, .long 0, .long 0, .long 0, .long 0, .long 0, .long 0, .long 0, .long 0, .ref q10, .ref q11, .int 0, .ref q12, .ref q13, .ref q14, .ref q15, .int 0, .long 0, .long 0, .long 0, .ref q16, .long 0, .long 0, .long 0, .long 0, .long 0, .int 0, .long 0, .long 0, .int 0, .ref q17, .ref q18, .int 0, .ref q19, .int 0] := by
  simp only [List.set_cons_succ, List.set_cons_zero]
/-! ===== the model's constructor ===== -/
set_option maxHeartbeats 4000000 in
set_option maxRecDepth 100000 in
theorem n_X12_init (l : Launch) (D : va_G) (g : kG) (a0 : Nat) : kMn l yX12_init cX12_init 1 1 19 5891 12 D (kty g) a0 [(a0, .inr (12, [.null, .null, .int 0, .null, .int 0, .int 0, .int 0, .int 0, .null, .null, .null, .int 0, .null, .null, .null, .int 0, .long 0, .long 0, .long 0, .long 0, .long 0, .long 0, .long 0, .long 0, .long 0, .long 0, .long 0, .long 0, .long 0, .long 0, .null, .null, .int 0, .null, .null, .null, .null, .int 0, .long 0, .long 0, .long 0, .null, .long 0, .long 0, .long 0, .long 0, .long 0, .int 0, .long 0, .long 0, .int 0, .null, .null, .int 0, .null, .int 0]))] (fun u => ∃ a : Nat → Nat, a 0 = a0 ∧ u = gX12 g a i_X12) := by
  intro sz
  refine n_enter RX12 (by decide +kernel) rfl rfl (Nat.le_of_ble_eq_true rfl) ?_
  intro p en s m args below meth c ls hsz X hAO hnam V hl
  obtain ⟨f0, e0⟩ : ∃ f : List Value, f = [.null, .null, .int 0, .null, .int 0, .int 0, .int 0, .int 0, .null, .null, .null, .int 0, .null, .null, .null, .int 0, .long 0, .long 0, .long 0, .long 0, .long 0, .long 0, .long 0, .long 0, .long 0, .long 0, .long 0, .long 0, .long 0, .long 0, .null, .null, .int 0, .null, .null, .null, .null, .int 0, .long 0, .long 0, .long 0, .null, .long 0, .long 0, .long 0, .long 0, .long 0, .int 0, .long 0, .long 0, .int 0, .null, .null, .int 0, .null, .int 0] := ⟨_, rfl⟩
  have l0 : f0.length = 56 := (congrArg List.length e0).trans rfl
  rw [← e0] at V ⊢
  obtain ⟨AA, hAA⟩ : ∃ q, q = va_A [(a0, .inr (12, f0))] sz := ⟨_, rfl⟩
  rw [← hAA] at V ⊢
  obtain ⟨QQ, hQQ⟩ : ∃ q, q = MQ below (va_Qv (fun u => ∃ a : Nat → Nat, a 0 = a0 ∧ u = gX12 g a i_X12) (fun u t => va_P D vwCl u t.heap ∧ va_D AA u) AA) args s 19 5891 AA := ⟨_, rfl⟩
  rw [← hQQ]
  refine lv_aload_n X.1 X.2.1 dX12_init_0 rfl (lv_at hl 0 rfl) ?_
  refine n_obj X hl.1 (lw_tg_in (List.mem_of_getElem? (i := 1288) (by decide +kernel)) rfl) n_oi n_oc (Nat.le_of_ble_eq_true rfl) (Nat.le_of_ble_eq_true rfl) dX12_init_1 ?_
  refine lv_aload_n X.1 X.2.1 dX12_init_4 rfl (lv_at hl 0 rfl) ?_
  refine lv_sipush (v := (170 : Int32)) X.1 X.2.1 dX12_init_5 (by decide) ?_
  refine n_s12I (N := 170) 0 13 1 170 l0 X hnam V (by decide +kernel) (by decide +kernel) (Nat.le_of_ble_eq_true rfl) (by decide) rfl (lw_tg_in (List.mem_of_getElem? (i := 1289) (by decide +kernel)) rfl) rfl rfl (Nat.le_of_ble_eq_true rfl) (Nat.le_of_ble_eq_true rfl) rfl rfl rfl dX12_init_8 dX12_init_10 (fun q1 H locs V => ?_)
  obtain ⟨f1, e1⟩ : ∃ f : List Value, f = f0.set 0 (.ref q1) := ⟨_, rfl⟩
  have l1 : f1.length = 56 := by rw [e1, List.length_set]; exact l0
  rw [← e1] at V
  refine lv_aload_n X.1 X.2.1 dX12_init_13 rfl (lv_at hl 0 rfl) ?_
  refine lv_sipush (v := (3400 : Int32)) X.1 X.2.1 dX12_init_14 (by decide) ?_
  refine n_s12I (N := 3400) 1 22 2 3570 l1 X hnam V (by decide +kernel) (by decide +kernel) (Nat.le_of_ble_eq_true rfl) (by decide) rfl (lw_tg_in (List.mem_of_getElem? (i := 1290) (by decide +kernel)) rfl) rfl rfl (Nat.le_of_ble_eq_true rfl) (Nat.le_of_ble_eq_true rfl) rfl rfl rfl dX12_init_17 dX12_init_19 (fun q2 H locs V => ?_)
  obtain ⟨f2, e2⟩ : ∃ f : List Value, f = f1.set 1 (.ref q2) := ⟨_, rfl⟩
  have l2 : f2.length = 56 := by rw [e2, List.length_set]; exact l1
  rw [← e2] at V
  refine lv_aload_n X.1 X.2.1 dX12_init_22 rfl (lv_at hl 0 rfl) ?_
  refine lv_sipush (v := (400 : Int32)) X.1 X.2.1 dX12_init_23 (by decide) ?_
  refine n_s12B (N := 400) 3 31 3 3970 l2 X hnam V (by decide +kernel) (by decide +kernel) (Nat.le_of_ble_eq_true rfl) (by decide) rfl (lw_tg_in (List.mem_of_getElem? (i := 1292) (by decide +kernel)) rfl) rfl rfl (Nat.le_of_ble_eq_true rfl) (Nat.le_of_ble_eq_true rfl) rfl rfl rfl dX12_init_26 dX12_init_28 (fun q3 H locs V => ?_)
  obtain ⟨f3, e3⟩ : ∃ f : List Value, f = f2.set 3 (.ref q3) := ⟨_, rfl⟩
  have l3 : f3.length = 56 := by rw [e3, List.length_set]; exact l2
  rw [← e3] at V
  refine lv_aload_n X.1 X.2.1 dX12_init_31 rfl (lv_at hl 0 rfl) ?_
  refine lv_iconst (v := (-1 : Int32)) X.1 X.2.1 dX12_init_32 (by decide) ?_
  refine n_put (C := RX12) (T := TX12) (N := 56) (ft := .int) 6 tyX12 X V inX12 tyX12_ok nmX12 rfl (by decide) rfl (lw_tg_in (List.mem_of_getElem? (i := 1295) (by decide +kernel)) rfl) rfl rfl (by rw [l3]; decide) rfl rfl dX12_init_33 (fun H locs V => ?_)
  obtain ⟨f4, e4⟩ : ∃ f : List Value, f = f3.set 6 (.int (-1)) := ⟨_, rfl⟩
  have l4 : f4.length = 56 := by rw [e4, List.length_set]; exact l3
  rw [← e4] at V
  refine lv_aload_n X.1 X.2.1 dX12_init_36 rfl (lv_at hl 0 rfl) ?_
  refine lv_bipush (v := (100 : Int32)) X.1 X.2.1 dX12_init_37 (by decide) ?_
  refine n_s12I (N := 100) 8 44 4 4070 l4 X hnam V (by decide +kernel) (by decide +kernel) (Nat.le_of_ble_eq_true rfl) (by decide) rfl (lw_tg_in (List.mem_of_getElem? (i := 1297) (by decide +kernel)) rfl) rfl rfl (Nat.le_of_ble_eq_true rfl) (Nat.le_of_ble_eq_true rfl) rfl rfl rfl dX12_init_39 dX12_init_41 (fun q4 H locs V => ?_)
  obtain ⟨f5, e5⟩ : ∃ f : List Value, f = f4.set 8 (.ref q4) := ⟨_, rfl⟩
  have l5 : f5.length = 56 := by rw [e5, List.length_set]; exact l4
  rw [← e5] at V
  refine lv_aload_n X.1 X.2.1 dX12_init_44 rfl (lv_at hl 0 rfl) ?_
  refine lv_bipush (v := (100 : Int32)) X.1 X.2.1 dX12_init_45 (by decide) ?_
  refine n_s12I (N := 100) 9 52 5 4170 l5 X hnam V (by decide +kernel) (by decide +kernel) (Nat.le_of_ble_eq_true rfl) (by decide) rfl (lw_tg_in (List.mem_of_getElem? (i := 1298) (by decide +kernel)) rfl) rfl rfl (Nat.le_of_ble_eq_true rfl) (Nat.le_of_ble_eq_true rfl) rfl rfl rfl dX12_init_47 dX12_init_49 (fun q5 H locs V => ?_)
  obtain ⟨f6, e6⟩ : ∃ f : List Value, f = f5.set 9 (.ref q5) := ⟨_, rfl⟩
  have l6 : f6.length = 56 := by rw [e6, List.length_set]; exact l5
  rw [← e6] at V
  refine lv_aload_n X.1 X.2.1 dX12_init_52 rfl (lv_at hl 0 rfl) ?_
  refine lv_bipush (v := (100 : Int32)) X.1 X.2.1 dX12_init_53 (by decide) ?_
  refine n_s12I (N := 100) 10 60 6 4270 l6 X hnam V (by decide +kernel) (by decide +kernel) (Nat.le_of_ble_eq_true rfl) (by decide) rfl (lw_tg_in (List.mem_of_getElem? (i := 1299) (by decide +kernel)) rfl) rfl rfl (Nat.le_of_ble_eq_true rfl) (Nat.le_of_ble_eq_true rfl) rfl rfl rfl dX12_init_55 dX12_init_57 (fun q6 H locs V => ?_)
  obtain ⟨f7, e7⟩ : ∃ f : List Value, f = f6.set 10 (.ref q6) := ⟨_, rfl⟩
  have l7 : f7.length = 56 := by rw [e7, List.length_set]; exact l6
  rw [← e7] at V
  refine lv_aload_n X.1 X.2.1 dX12_init_60 rfl (lv_at hl 0 rfl) ?_
  refine lv_bipush (v := (41 : Int32)) X.1 X.2.1 dX12_init_61 (by decide) ?_
  refine n_s12I (N := 41) 12 68 7 4311 l7 X hnam V (by decide +kernel) (by decide +kernel) (Nat.le_of_ble_eq_true rfl) (by decide) rfl (lw_tg_in (List.mem_of_getElem? (i := 1301) (by decide +kernel)) rfl) rfl rfl (Nat.le_of_ble_eq_true rfl) (Nat.le_of_ble_eq_true rfl) rfl rfl rfl dX12_init_63 dX12_init_65 (fun q7 H locs V => ?_)
  obtain ⟨f8, e8⟩ : ∃ f : List Value, f = f7.set 12 (.ref q7) := ⟨_, rfl⟩
  have l8 : f8.length = 56 := by rw [e8, List.length_set]; exact l7
  rw [← e8] at V
  refine lv_aload_n X.1 X.2.1 dX12_init_68 rfl (lv_at hl 0 rfl) ?_
  refine lv_bipush (v := (41 : Int32)) X.1 X.2.1 dX12_init_69 (by decide) ?_
  refine n_s12I (N := 41) 13 76 8 4352 l8 X hnam V (by decide +kernel) (by decide +kernel) (Nat.le_of_ble_eq_true rfl) (by decide) rfl (lw_tg_in (List.mem_of_getElem? (i := 1302) (by decide +kernel)) rfl) rfl rfl (Nat.le_of_ble_eq_true rfl) (Nat.le_of_ble_eq_true rfl) rfl rfl rfl dX12_init_71 dX12_init_73 (fun q8 H locs V => ?_)
  obtain ⟨f9, e9⟩ : ∃ f : List Value, f = f8.set 13 (.ref q8) := ⟨_, rfl⟩
  have l9 : f9.length = 56 := by rw [e9, List.length_set]; exact l8
  rw [← e9] at V
  refine lv_aload_n X.1 X.2.1 dX12_init_76 rfl (lv_at hl 0 rfl) ?_
  refine lv_bipush (v := (41 : Int32)) X.1 X.2.1 dX12_init_77 (by decide) ?_
  refine n_s12I (N := 41) 14 84 9 4393 l9 X hnam V (by decide +kernel) (by decide +kernel) (Nat.le_of_ble_eq_true rfl) (by decide) rfl (lw_tg_in (List.mem_of_getElem? (i := 1303) (by decide +kernel)) rfl) rfl rfl (Nat.le_of_ble_eq_true rfl) (Nat.le_of_ble_eq_true rfl) rfl rfl rfl dX12_init_79 dX12_init_81 (fun q9 H locs V => ?_)
  obtain ⟨f10, e10⟩ : ∃ f : List Value, f = f9.set 14 (.ref q9) := ⟨_, rfl⟩
  have l10 : f10.length = 56 := by rw [e10, List.length_set]; exact l9
  rw [← e10] at V
  refine lv_aload_n X.1 X.2.1 dX12_init_84 rfl (lv_at hl 0 rfl) ?_
  refine lv_bipush (v := (41 : Int32)) X.1 X.2.1 dX12_init_85 (by decide) ?_
  refine n_s12I (N := 41) 30 92 10 4434 l10 X hnam V (by decide +kernel) (by decide +kernel) (Nat.le_of_ble_eq_true rfl) (by decide) rfl (lw_tg_in (List.mem_of_getElem? (i := 1319) (by decide +kernel)) rfl) rfl rfl (Nat.le_of_ble_eq_true rfl) (Nat.le_of_ble_eq_true rfl) rfl rfl rfl dX12_init_87 dX12_init_89 (fun q10 H locs V => ?_)
  obtain ⟨f11, e11⟩ : ∃ f : List Value, f = f10.set 30 (.ref q10) := ⟨_, rfl⟩
  have l11 : f11.length = 56 := by rw [e11, List.length_set]; exact l10
  rw [← e11] at V
  refine lv_aload_n X.1 X.2.1 dX12_init_92 rfl (lv_at hl 0 rfl) ?_
  refine lv_iconst (v := (3 : Int32)) X.1 X.2.1 dX12_init_93 (by decide) ?_
  refine n_s12I (N := 3) 31 99 11 4437 l11 X hnam V (by decide +kernel) (by decide +kernel) (Nat.le_of_ble_eq_true rfl) (by decide) rfl (lw_tg_in (List.mem_of_getElem? (i := 1320) (by decide +kernel)) rfl) rfl rfl (Nat.le_of_ble_eq_true rfl) (Nat.le_of_ble_eq_true rfl) rfl rfl rfl dX12_init_94 dX12_init_96 (fun q11 H locs V => ?_)
  obtain ⟨f12, e12⟩ : ∃ f : List Value, f = f11.set 31 (.ref q11) := ⟨_, rfl⟩
  have l12 : f12.length = 56 := by rw [e12, List.length_set]; exact l11
  rw [← e12] at V
  refine lv_aload_n X.1 X.2.1 dX12_init_99 rfl (lv_at hl 0 rfl) ?_
  refine lv_iconst (v := (3 : Int32)) X.1 X.2.1 dX12_init_100 (by decide) ?_
  refine n_s12I (N := 3) 33 106 12 4440 l12 X hnam V (by decide +kernel) (by decide +kernel) (Nat.le_of_ble_eq_true rfl) (by decide) rfl (lw_tg_in (List.mem_of_getElem? (i := 1322) (by decide +kernel)) rfl) rfl rfl (Nat.le_of_ble_eq_true rfl) (Nat.le_of_ble_eq_true rfl) rfl rfl rfl dX12_init_101 dX12_init_103 (fun q12 H locs V => ?_)
  obtain ⟨f13, e13⟩ : ∃ f : List Value, f = f12.set 33 (.ref q12) := ⟨_, rfl⟩
  have l13 : f13.length = 56 := by rw [e13, List.length_set]; exact l12
  rw [← e13] at V
  refine lv_aload_n X.1 X.2.1 dX12_init_106 rfl (lv_at hl 0 rfl) ?_
  refine lv_iconst (v := (3 : Int32)) X.1 X.2.1 dX12_init_107 (by decide) ?_
  refine n_s12I (N := 3) 34 113 13 4443 l13 X hnam V (by decide +kernel) (by decide +kernel) (Nat.le_of_ble_eq_true rfl) (by decide) rfl (lw_tg_in (List.mem_of_getElem? (i := 1323) (by decide +kernel)) rfl) rfl rfl (Nat.le_of_ble_eq_true rfl) (Nat.le_of_ble_eq_true rfl) rfl rfl rfl dX12_init_108 dX12_init_110 (fun q13 H locs V => ?_)
  obtain ⟨f14, e14⟩ : ∃ f : List Value, f = f13.set 34 (.ref q13) := ⟨_, rfl⟩
  have l14 : f14.length = 56 := by rw [e14, List.length_set]; exact l13
  rw [← e14] at V
  refine lv_aload_n X.1 X.2.1 dX12_init_113 rfl (lv_at hl 0 rfl) ?_
  refine lv_bipush (v := (42 : Int32)) X.1 X.2.1 dX12_init_114 (by decide) ?_
  refine n_s12I (N := 42) 35 121 14 4485 l14 X hnam V (by decide +kernel) (by decide +kernel) (Nat.le_of_ble_eq_true rfl) (by decide) rfl (lw_tg_in (List.mem_of_getElem? (i := 1324) (by decide +kernel)) rfl) rfl rfl (Nat.le_of_ble_eq_true rfl) (Nat.le_of_ble_eq_true rfl) rfl rfl rfl dX12_init_116 dX12_init_118 (fun q14 H locs V => ?_)
  obtain ⟨f15, e15⟩ : ∃ f : List Value, f = f14.set 35 (.ref q14) := ⟨_, rfl⟩
  have l15 : f15.length = 56 := by rw [e15, List.length_set]; exact l14
  rw [← e15] at V
  refine lv_aload_n X.1 X.2.1 dX12_init_121 rfl (lv_at hl 0 rfl) ?_
  refine lv_bipush (v := (42 : Int32)) X.1 X.2.1 dX12_init_122 (by decide) ?_
  refine n_s12I (N := 42) 36 129 15 4527 l15 X hnam V (by decide +kernel) (by decide +kernel) (Nat.le_of_ble_eq_true rfl) (by decide) rfl (lw_tg_in (List.mem_of_getElem? (i := 1325) (by decide +kernel)) rfl) rfl rfl (Nat.le_of_ble_eq_true rfl) (Nat.le_of_ble_eq_true rfl) rfl rfl rfl dX12_init_124 dX12_init_126 (fun q15 H locs V => ?_)
  obtain ⟨f16, e16⟩ : ∃ f : List Value, f = f15.set 36 (.ref q15) := ⟨_, rfl⟩
  have l16 : f16.length = 56 := by rw [e16, List.length_set]; exact l15
  rw [← e16] at V
  refine lv_aload_n X.1 X.2.1 dX12_init_129 rfl (lv_at hl 0 rfl) ?_
  refine lv_sipush (v := (780 : Int32)) X.1 X.2.1 dX12_init_130 (by decide) ?_
  refine n_s12J (N := 780) 41 138 16 5307 l16 X hnam V (by decide +kernel) (by decide +kernel) (Nat.le_of_ble_eq_true rfl) (by decide) rfl (lw_tg_in (List.mem_of_getElem? (i := 1330) (by decide +kernel)) rfl) rfl rfl (Nat.le_of_ble_eq_true rfl) (Nat.le_of_ble_eq_true rfl) rfl rfl rfl dX12_init_133 dX12_init_135 (fun q16 H locs V => ?_)
  obtain ⟨f17, e17⟩ : ∃ f : List Value, f = f16.set 41 (.ref q16) := ⟨_, rfl⟩
  have l17 : f17.length = 56 := by rw [e17, List.length_set]; exact l16
  rw [← e17] at V
  refine lv_aload_n X.1 X.2.1 dX12_init_138 rfl (lv_at hl 0 rfl) ?_
  refine lv_bipush (v := (42 : Int32)) X.1 X.2.1 dX12_init_139 (by decide) ?_
  refine n_s12I (N := 42) 51 146 17 5349 l17 X hnam V (by decide +kernel) (by decide +kernel) (Nat.le_of_ble_eq_true rfl) (by decide) rfl (lw_tg_in (List.mem_of_getElem? (i := 1340) (by decide +kernel)) rfl) rfl rfl (Nat.le_of_ble_eq_true rfl) (Nat.le_of_ble_eq_true rfl) rfl rfl rfl dX12_init_141 dX12_init_143 (fun q17 H locs V => ?_)
  obtain ⟨f18, e18⟩ : ∃ f : List Value, f = f17.set 51 (.ref q17) := ⟨_, rfl⟩
  have l18 : f18.length = 56 := by rw [e18, List.length_set]; exact l17
  rw [← e18] at V
  refine lv_aload_n X.1 X.2.1 dX12_init_146 rfl (lv_at hl 0 rfl) ?_
  refine lv_bipush (v := (42 : Int32)) X.1 X.2.1 dX12_init_147 (by decide) ?_
  refine n_s12I (N := 42) 52 154 18 5391 l18 X hnam V (by decide +kernel) (by decide +kernel) (Nat.le_of_ble_eq_true rfl) (by decide) rfl (lw_tg_in (List.mem_of_getElem? (i := 1341) (by decide +kernel)) rfl) rfl rfl (Nat.le_of_ble_eq_true rfl) (Nat.le_of_ble_eq_true rfl) rfl rfl rfl dX12_init_149 dX12_init_151 (fun q18 H locs V => ?_)
  obtain ⟨f19, e19⟩ : ∃ f : List Value, f = f18.set 52 (.ref q18) := ⟨_, rfl⟩
  have l19 : f19.length = 56 := by rw [e19, List.length_set]; exact l18
  rw [← e19] at V
  refine lv_aload_n X.1 X.2.1 dX12_init_154 rfl (lv_at hl 0 rfl) ?_
  refine lv_sipush (v := (500 : Int32)) X.1 X.2.1 dX12_init_155 (by decide) ?_
  refine n_s12B (N := 500) 54 163 19 5891 l19 X hnam V (by decide +kernel) (by decide +kernel) (Nat.le_of_ble_eq_true rfl) (by decide) rfl (lw_tg_in (List.mem_of_getElem? (i := 1343) (by decide +kernel)) rfl) rfl rfl (Nat.le_of_ble_eq_true rfl) (Nat.le_of_ble_eq_true rfl) rfl rfl rfl dX12_init_158 dX12_init_160 (fun q19 H locs V => ?_)
  obtain ⟨f20, e20⟩ : ∃ f : List Value, f = f19.set 54 (.ref q19) := ⟨_, rfl⟩
  have l20 : f20.length = 56 := by rw [e20, List.length_set]; exact l19
  rw [← e20] at V
  have ef : f20 = [.ref q1, .ref q2, .int 0, .ref q3, .int 0, .int 0, .int (-1), .int 0, .ref q4, .ref q5, .ref q6, .int 0, .ref q7, .ref q8, .ref q9, .int 0, .long 0, .long 0, .long 0, .long 0, .long 0, .long 0, .long 0, .long 0, .long 0, .long 0, .long 0, .long 0, .long 0, .long 0, .ref q10, .ref q11, .int 0, .ref q12, .ref q13, .ref q14, .ref q15, .int 0, .long 0, .long 0, .long 0, .ref q16, .long 0, .long 0, .long 0, .long 0, .long 0, .int 0, .long 0, .long 0, .int 0, .ref q17, .ref q18, .int 0, .ref q19, .int 0] := by
    rw [e20, e19, e18, e17, e16, e15, e14, e13, e12, e11, e10, e9, e8, e7, e6, e5, e4, e3, e2, e1, e0]
    exact n_f12 q1 q2 q3 q4 q5 q6 q7 q8 q9 q10 q11 q12 q13 q14 q15 q16 q17 q18 q19
  rw [ef] at V
  rw [hQQ]
  exact n_vret2 X V ⟨fun n => ([a0, q1, q2, q3, q4, q5, q6, q7, q8, q9, q10, q11, q12, q13, q14, q15, q16, q17, q18, q19] : List Nat).getD n 0, rfl, n_g12 g a0 q1 q2 q3 q4 q5 q6 q7 q8 q9 q10 q11 q12 q13 q14 q15 q16 q17 q18 q19⟩ dX12_init_163
