/-! ===== constructors: rows that make cells ===== -/
def kBn (D : va_G) (ty : List (ClassId × FieldType)) (ws : va_W) (sz : Nat) : State → Prop := fun U => kB D ty ws sz U ∧ va_AOA .int U
def kRn (f mc ms lo : Nat) : Room := { frames := f, cells := mc, slots := ms, locals := lo }
def kMn (l : Launch) (y : MethodName) (cc : ByteArray) (nL f mc ms lo : Nat) (D : va_G) (ty : List (ClassId × FieldType)) (a0 : Nat) (ws : va_W) (P1 : va_W → Prop) : Prop :=
  ∀ sz, Met l y (.code y cc nL none :: lw_tg) (kRn f mc ms lo) (va_Pc [.ref a0] (kBn D ty ws sz)) (va_Qv P1 (fun u t => va_P D vwCl u t.heap ∧ va_D (va_A ws sz) u) (va_A ws sz)) mc ms (va_A ws sz)
theorem kBn_blind {D : va_G} {ty : List (ClassId × FieldType)} {ws : va_W} {sz : Nat} {As : List Value} : FrameBlind (va_Pc As (kBn D ty ws sz)) := fun a U g mk q => by
  obtain ⟨q0, q1, q2⟩ := q
  have := kB_blind (D := D) (ty := ty) (ws := ws) (sz := sz) (As := As) a U g mk ⟨q0, q1⟩
  exact ⟨this.1, this.2, va_AOA.moved (u := U) (U := U.calling g mk a) (Vm.Alike.refl U.vm) q2⟩
theorem n_enter {l : Launch} {y : MethodName} {cc : ByteArray} {nL mc ms : Nat} {rm : Room} {D : va_G} {ty : List (ClassId × FieldType)} {a0 : Nat} {ws : va_W} {sz : Nat} {Qc : Array Value → State → Outcome → State → Prop} (own : String)
    (hy : plainFor y = true) (ho : y.cls = own) (hi : y.name = "<init>") (hn : 1 ≤ nL)
    (body : ∀ p e s m args below meth c (ls : Array Slot), s.heap.size = sz → kX p s m meth c args own cc nL none D ty → va_AOA .int s → meth.name = "<init>" → kW D (va_A ws sz) s.heap s.heap ws [] → lv_has ls nL [(0, .ref a0)] →
      W p l e rm s m args below meth c s.heap [] 0 0 (MQ below Qc args s mc ms (va_A ws sz)) (F0 m 0 ls [])) :
    Met l y (.code y cc nL none :: lw_tg) rm (va_Pc [.ref a0] (kBn D ty ws sz)) Qc mc ms (va_A ws sz) := by
  refine k_ofW (cc := cc) (maxL := nL) (ret := none) hy rfl ?_
  intro p e s m args below meth c s₁ B hml hv
  obtain ⟨rfl, ⟨hsz, hP, hK, hD0⟩, hAO⟩ := hv
  have hts := atoms_spec (ws := .code y cc nL none :: lw_tg) B.pre
  have hown : s.vm.findClass y.cls = some m.cls := findClass_of_methodNamed B.named
  have hname : meth.name = "<init>" := (name_of_methodNamed B.named B.method).1.trans hi
  subst ho
  subst hsz
  have hl := lv_entry [.ref a0] (n := nL) hn
  rw [lg_entry_eq]
  exact body p e s m _ below meth c _ rfl ⟨B.exec, B.bytes, hml, hown, fun w hw => hts w (List.mem_cons_of_mem _ hw), hK, B.returns, B.notSynchronized⟩ hAO hname ⟨hP, hD0.self, va_S.rf, fun q h => Or.inr h⟩ hl
section KN
variable {p : Program} {l : Launch} {e : Env} {R : Room} {s : State} {m : MethodId} {args : Array Value} {below : List Frame} {meth : Method} {c : Code} {H : Heap} {locs : List Loc} {Q : State → Prop}
variable {own : String} {cc : ByteArray} {nL : Nat} {rt : Option FieldType} {D : va_G} {g : kG} {A : Nat → Prop} {H0 : Heap} {ws : va_W} {pc : Nat} {ls : Array Slot} {rest : List Value} {a cells slots : Nat}
theorem n_obj {idx : Nat} {ty : List (ClassId × FieldType)} (X : kX p s m meth c args own cc nL rt D ty) (hls : ls.size = nL) (w1 : Cond.methodLink own idx objectInit ∈ lw_tg) (w2 : Cond.instanceMethod objectInit ∈ lw_tg) (w3 : Cond.code objectInit ⟨#[0xb1]⟩ 1 none ∈ lw_tg) (hf : 1 ≤ R.frames) (hlo : 12 ≤ R.locals) (hdg : decode cc pc = .ok (.invokespecial idx, 3))
    (kk : W p l e R s m args below meth c H locs cells slots Q (F0 m (pc + 3) ls [])) : W p l e R s m args below meth c H locs cells slots Q (F0 m pc ls [.ref a]) := by
  refine W.objInit X.1 X.2.1 X.2.2.2.1 (X.2.2.2.2.1 _ w1) (X.2.2.2.2.1 _ w2) (X.2.2.2.2.1 _ w3) rfl (by rw [X.2.2.1]; exact hls) rfl hdg hf (by show 2 * 0 + 0 + 12 ≤ R.locals; omega) ?_
  exact W.eq (g2 := F0 m (pc + 3) ls []) rfl kk
theorem n_putF {C : String} {T : u_T} {N ci index : Nat} {fs : List Value} {v : Value} {ft : FieldType} {Rr : va_W} {ty : List (ClassId × FieldType)} (k : Nat) (tyN : Nat → FieldType) (X : kX p s m meth c args own cc nL rt D ty) (V : kW D A H0 H ((a, .inr (ci, fs)) :: Rr) locs) (hin : ∀ w ∈ u_ws C T N, w ∈ lw_tg) (hty : ∀ k, k < N → parseFieldDescriptor (T k).2.2.1 = some (tyN k)) (hnm : ∀ a, a < N → ∀ b, b < N → a ≠ b → (T a).2.1 ≠ (T b).2.1) (hc : vwCl[ci]? = some (C, T, N)) (hk : k < N) (hD : (T k).1 = C) (hO : (T k).1 = own) (hlink : Cond.fieldLink own index C (T k).2.1 (T k).2.2.1 ∈ lw_tg) (hfin : (T k).2.2.2 = true) (hnam : meth.name = "<init>") (hft : tyN k = ft)
    (hl : k < fs.length) (hn : narrow ft v = v) (hfit : fits ft v = true) (hdg : decode cc pc = .ok (.putfield index, 3))
    (kk : ∀ (H1 : Heap) (locs1 : List Loc), kW D A H0 H1 ((a, .inr (ci, fs.set k v)) :: Rr) locs1 → W p l e R s m args below meth c H1 locs1 cells slots Q (F0 m (pc + 3) ls rest)) : W p l e R s m args below meth c H locs cells slots Q (F0 m pc ls (v :: .ref a :: rest)) :=
  va_putF X.1 X.2.1 X.2.2.2.2.1 hin tyN hty hnm X.2.2.2.1 X.2.2.2.2.2.1.1 V.1 V.2.1 V.2.2.1 0 rfl hc k hk (X.2.2.2.2.1 _ hlink) (fun x h => by rw [hD] at h; exact h) hfin hnam hO (hft ▸ hty k hk) hn hfit hl hdg (fun H1 locs1 h1 h2 h3 => kk H1 locs1 ⟨h1, h2, h3, V.2.2.2⟩)
theorem n_put {C : String} {T : u_T} {N ci index : Nat} {fs : List Value} {v : Value} {ft : FieldType} {Rr : va_W} {ty : List (ClassId × FieldType)} (k : Nat) (tyN : Nat → FieldType) (X : kX p s m meth c args own cc nL rt D ty) (V : kW D A H0 H ((a, .inr (ci, fs)) :: Rr) locs) (hin : ∀ w ∈ u_ws C T N, w ∈ lw_tg) (hty : ∀ k, k < N → parseFieldDescriptor (T k).2.2.1 = some (tyN k)) (hnm : ∀ a, a < N → ∀ b, b < N → a ≠ b → (T a).2.1 ≠ (T b).2.1) (hc : vwCl[ci]? = some (C, T, N)) (hk : k < N) (hD : (T k).1 = C) (hlink : Cond.fieldLink own index C (T k).2.1 (T k).2.2.1 ∈ lw_tg) (hfin : (T k).2.2.2 = false) (hft : tyN k = ft)
    (hl : k < fs.length) (hn : narrow ft v = v) (hfit : fits ft v = true) (hdg : decode cc pc = .ok (.putfield index, 3))
    (kk : ∀ (H1 : Heap) (locs1 : List Loc), kW D A H0 H1 ((a, .inr (ci, fs.set k v)) :: Rr) locs1 → W p l e R s m args below meth c H1 locs1 cells slots Q (F0 m (pc + 3) ls rest)) : W p l e R s m args below meth c H locs cells slots Q (F0 m pc ls (v :: .ref a :: rest)) :=
  k_put k tyN X V hin hty hnm hc hk hD hlink hfin hft (q0 := 0) rfl hl hn hfit hdg (fun H1 locs1 V1 => kk H1 locs1 V1)
theorem n_newI {n : Int32} {N : Nat} (X : kX p s m meth c args own cc nL rt D (kty g)) (V : kW D A H0 H ws locs) (hn : ¬ n < 0) (hN : n.toNatClampNeg = N) (hb : N * 4 ≤ 536870912) (hcells : cells + 1 ≤ R.cells) (hslots : slots + N ≤ R.slots) (hdg : decode cc pc = .ok (.newarray .int, 2))
    (kk : ∀ (q : Nat) (H1 : Heap), kW D A H0 H1 (ws ++ [(q, .inl (g.1, N, .inl (fun _ => 0)))]) locs → W p l e R s m args below meth c H1 locs (cells + 1) (slots + N) Q (F0 m (pc + 2) ls (.ref q :: rest))) : W p l e R s m args below meth c H locs cells slots Q (F0 m pc ls (.int n :: rest)) := by
  refine va_newa X.1 X.2.1 (atype := .int) (X.2.2.2.2.1 _ n_arrI) rfl X.2.2.2.2.2.1.1 V.1 V.2.1 V.2.2.1 V.2.2.2 (a0 := (N, .inl (fun _ => 0))) (fun cA => rfl) hn hN hb hcells hslots hdg (fun q cA H1 hK hP hD hS => ?_)
  have e1 : s.vm.findClass ("[" ++ FieldType.int.toString) = some cA := (hK.2 4 (cA, .int) rfl).2
  have e2 : s.vm.findClass ("[" ++ FieldType.int.toString) = some g.1 := (X.2.2.2.2.2.1.1.2 0 (g.1, .int) rfl).2
  have e : cA = g.1 := Option.some.inj (e1.symm.trans e2)
  subst e
  exact kk q H1 ⟨hP, hD, hS, V.2.2.2⟩
theorem n_newJ {n : Int32} {N : Nat} (X : kX p s m meth c args own cc nL rt D (kty g)) (V : kW D A H0 H ws locs) (hn : ¬ n < 0) (hN : n.toNatClampNeg = N) (hb : N * 8 ≤ 536870912) (hcells : cells + 1 ≤ R.cells) (hslots : slots + N ≤ R.slots) (hdg : decode cc pc = .ok (.newarray .long, 2))
    (kk : ∀ (q : Nat) (H1 : Heap), kW D A H0 H1 (ws ++ [(q, .inl (g.2.1, N, .inr (.inl (fun _ => 0))))]) locs → W p l e R s m args below meth c H1 locs (cells + 1) (slots + N) Q (F0 m (pc + 2) ls (.ref q :: rest))) : W p l e R s m args below meth c H locs cells slots Q (F0 m pc ls (.int n :: rest)) := by
  refine va_newa X.1 X.2.1 (atype := .long) (X.2.2.2.2.1 _ n_arrJ) rfl X.2.2.2.2.2.1.1 V.1 V.2.1 V.2.2.1 V.2.2.2 (a0 := (N, .inr (.inl (fun _ => 0)))) (fun cA => rfl) hn hN hb hcells hslots hdg (fun q cA H1 hK hP hD hS => ?_)
  have e1 : s.vm.findClass ("[" ++ FieldType.long.toString) = some cA := (hK.2 4 (cA, .long) rfl).2
  have e2 : s.vm.findClass ("[" ++ FieldType.long.toString) = some g.2.1 := (X.2.2.2.2.2.1.1.2 1 (g.2.1, .long) rfl).2
  have e : cA = g.2.1 := Option.some.inj (e1.symm.trans e2)
  subst e
  exact kk q H1 ⟨hP, hD, hS, V.2.2.2⟩
theorem n_newB {n : Int32} {N : Nat} (X : kX p s m meth c args own cc nL rt D (kty g)) (V : kW D A H0 H ws locs) (hn : ¬ n < 0) (hN : n.toNatClampNeg = N) (hb : N * 1 ≤ 536870912) (hcells : cells + 1 ≤ R.cells) (hslots : slots + N ≤ R.slots) (hdg : decode cc pc = .ok (.newarray .byte, 2))
    (kk : ∀ (q : Nat) (H1 : Heap), kW D A H0 H1 (ws ++ [(q, .inl (g.2.2.1, N, .inl (fun _ => 0)))]) locs → W p l e R s m args below meth c H1 locs (cells + 1) (slots + N) Q (F0 m (pc + 2) ls (.ref q :: rest))) : W p l e R s m args below meth c H locs cells slots Q (F0 m pc ls (.int n :: rest)) := by
  refine va_newa X.1 X.2.1 (atype := .byte) (X.2.2.2.2.1 _ n_arrB) rfl X.2.2.2.2.2.1.1 V.1 V.2.1 V.2.2.1 V.2.2.2 (a0 := (N, .inl (fun _ => 0))) (fun cA => rfl) hn hN hb hcells hslots hdg (fun q cA H1 hK hP hD hS => ?_)
  have e1 : s.vm.findClass ("[" ++ FieldType.byte.toString) = some cA := (hK.2 4 (cA, .byte) rfl).2
  have e2 : s.vm.findClass ("[" ++ FieldType.byte.toString) = some g.2.2.1 := (X.2.2.2.2.2.1.1.2 2 (g.2.2.1, .byte) rfl).2
  have e : cA = g.2.2.1 := Option.some.inj (e1.symm.trans e2)
  subst e
  exact kk q H1 ⟨hP, hD, hS, V.2.2.2⟩
theorem n_new {C : String} {T : u_T} {N ci idx : Nat} {fs : List Value} {ty : List (ClassId × FieldType)} (tyN : Nat → FieldType) (X : kX p s m meth c args own cc nL rt D ty) (V : kW D A H0 H ws locs) (hin : ∀ w ∈ u_ws C T N, w ∈ lw_tg) (hty : ∀ k, k < N → parseFieldDescriptor (T k).2.2.1 = some (tyN k)) (hcl : Cond.classLink own idx C ∈ lw_tg) (hinst : Cond.instantiable C N ∈ lw_tg) (hini : Cond.initialized C ∈ lw_tg) (hc : vwCl[ci]? = some (C, T, N)) (hfs : (List.range N).all (fun j => decide (defaultValue (tyN j) = vp_V fs j)) = true) (hcells : cells + 1 ≤ R.cells) (hslots : slots + N ≤ R.slots) (hdg : decode cc pc = .ok (.new idx, 3))
    (kk : ∀ (q : Nat) (H1 : Heap), kW D A H0 H1 (ws ++ [(q, .inr (ci, fs))]) locs → W p l e R s m args below meth c H1 locs (cells + 1) (slots + N) Q (F0 m (pc + 3) ls (.ref q :: rest))) : W p l e R s m args below meth c H locs cells slots Q (F0 m pc ls rest) :=
  va_new X.1 X.2.1 X.2.2.2.2.1 hin tyN hty X.2.2.2.1 (X.2.2.2.2.1 _ hcl) (X.2.2.2.2.1 _ hinst) (X.2.2.2.2.1 _ hini) X.2.2.2.2.2.1.1 V.1 V.2.1 V.2.2.1 V.2.2.2 hc (fun j hj => of_decide_eq_true (List.all_eq_true.mp hfs j (List.mem_range.mpr hj))) hcells hslots hdg (fun q H1 hP hD hS => kk q H1 ⟨hP, hD, hS, V.2.2.2⟩)
theorem n_after {x : Nat × va_E} {u : va_W} {H1 : Heap} {locs1 : List Loc} (V : kW D A H0 H (ws ++ [x]) locs) (hk : ∀ q : Nat, q < H.size → ¬ va_A [x] H.size q → H1[q]? = H[q]?) (hP1 : va_P D vwCl u H1) (hD1 : va_D (va_A [x] H.size) u) (hS1 : va_S A H0 H1 locs1) : kW D A H0 H1 (ws ++ u) locs1 := by
  obtain ⟨hP, hD, hS, hA⟩ := V
  have hx : (ws ++ [x])[ws.length]? = some x := by simp
  have hfr : ∀ (k : Nat) (q : Nat × va_E), ws[k]? = some q → (ws ++ [x])[k]? = some q := fun k q h => by
    rw [List.getElem?_append_left (List.getElem?_eq_some_iff.mp h).1]; exact h
  have apart : ∀ (k : Nat) (q : Nat × va_E), ws[k]? = some q → q.1 < H.size ∧ ¬ va_A [x] H.size q.1 := by
    intro k q hq
    have hl := (hP k q (hfr k q hq)).lt
    refine ⟨hl, fun h => ?_⟩
    rcases h with ⟨k2, e, h⟩ | h
    · have h0 : k2 < 1 := (List.getElem?_eq_some_iff.mp h).1
      rw [show k2 = 0 by omega] at h
      have ex : x = (q.1, e) := by simpa using h
      have := hD.1 k ws.length q x (hfr k q hq) hx (by rw [ex])
      have h5 := (List.getElem?_eq_some_iff.mp hq).1
      omega
    · omega
  have hin : ∀ q, va_A [x] H.size q → A q := by
    intro q h
    rcases h with ⟨k2, e, h⟩ | h
    · have h0 : k2 < 1 := (List.getElem?_eq_some_iff.mp h).1
      rw [show k2 = 0 by omega] at h
      have ex : x = (q, e) := by simpa using h
      have := hD.2 ws.length x hx
      rw [ex] at this
      exact this
    · exact hA q (Nat.le_trans hS.1 h)
  refine ⟨va_P.app (fun k q hq => ?_) hP1, va_D.app ⟨fun i j p q hi hj h => hD.1 i j p q (hfr i p hi) (hfr j q hj) h, fun k q hq => hD.2 k q (hfr k q hq)⟩ (hD1.weaken (fun k q _ h => hin q.1 h)) (fun i j x' y hx' hy hxy => ?_), hS1, hA⟩
  · obtain ⟨g1, g2⟩ := apart k q hq
    exact (hP k q (hfr k q hq)).kept (hk q.1 g1 g2)
  · exact (apart i x' hx').2 (by rw [hxy]; exact hD1.2 j y hy)
variable {y : MethodName} {cc2 : ByteArray} {nL2 idx f2 mc2 ms2 lo2 : Nat} {P1 : va_W → Prop} {x : va_E}
def kCI (own : String) (index : Nat) (y : MethodName) (cc : ByteArray) (nL : Nat) : Prop :=
  Cond.code y cc nL none ∈ lw_tg ∧ Cond.initialized y.cls ∈ lw_tg ∧ (Cond.methodLink own index y ∈ lw_tg ∨ (own, index, y, own) ∈ kNest ∨ (own, index, y, "TightRings") ∈ kNest) ∧ Cond.instanceMethod y ∈ lw_tg ∧ y.name = "<init>" ∧ y.cls ≠ "java/lang/invoke/MethodHandle" ∧ y.cls ≠ "java/lang/invoke/VarHandle" ∧ (parseMethodDescriptor y.desc).map (fun d => d.parameters.length) = some 0
theorem n_init (X : kX p s m meth c args own cc nL rt D (kty g)) (hAO : va_AOA .int s) (V : kW D A H0 H (ws ++ [(a, x)]) locs) (hM : kMn l y cc2 nL2 f2 mc2 ms2 lo2 D (kty g) a [(a, x)] P1) (cw : kCI own idx y cc2 nL2)
    (hR : f2 + 1 ≤ R.frames ∧ 8 + (nL2 + 11) + lo2 ≤ R.locals) (hcs : cells + mc2 ≤ R.cells ∧ slots + ms2 ≤ R.slots) (hls : ls.size = nL) (hcat : (rest.map fun v => v.category).sum ≤ 8) (hdg : decode cc pc = .ok (.invokespecial idx, 3))
    (kk : ∀ u H1 locs1, P1 u → kW D A H0 H1 (ws ++ u) locs1 → W p l e R s m args below meth c H1 locs1 (cells + mc2) (slots + ms2) Q (F0 m (pc + 3) ls rest)) : W p l e R s m args below meth c H locs cells slots Q (F0 m pc ls (.ref a :: rest)) := by
  obtain ⟨w1, w2, w3, w4, w5, w6⟩ := cw
  have hx : (ws ++ [(a, x)])[ws.length]? = some (a, x) := by simp
  have hPc : va_P D vwCl [(a, x)] H := fun k q hk => by
    have h0 : k < 1 := (List.getElem?_eq_some_iff.mp hk).1
    rw [show k = 0 by omega] at hk
    have e : (a, x) = q := by simpa using hk
    rw [← e]
    exact V.1 ws.length _ hx
  have hDc : va_D A [(a, x)] := ⟨fun i j p q hi hj _ => by
    have h0 : i < 1 := (List.getElem?_eq_some_iff.mp hi).1
    have h1 : j < 1 := (List.getElem?_eq_some_iff.mp hj).1
    omega, fun k q hk => by
    have h0 : k < 1 := (List.getElem?_eq_some_iff.mp hk).1
    rw [show k = 0 by omega] at hk
    have e : (a, x) = q := by simpa using hk
    rw [← e]
    exact V.2.1.2 ws.length _ hx⟩
  have hin : ∀ q, va_A [(a, x)] H.size q → A q := by
    intro q h
    rcases h with ⟨k2, e, h⟩ | h
    · exact hDc.2 k2 _ h
    · exact V.2.2.2 q (Nat.le_trans V.2.2.1.1 h)
  have hpre : PreS s H (va_Pc [.ref a] (kBn D (kty g) [(a, x)] H.size)) (.ref a :: []) := ⟨kBn_blind, fun U hU hW => ⟨rfl, ⟨by rw [hU], by rw [hU]; exact hPc, ⟨va_K.moved hW.alike X.2.2.2.2.2.1.1, kN_warm hW X.2.2.2.2.2.1.2⟩, hDc.weaken (fun _ _ _ _ => trivial)⟩, va_AOA.moved hW.alike hAO⟩⟩
  have hrun : va_Run p l e R s m args below meth c H locs cells slots mc2 ms2 (F0 m pc ls (.ref a :: rest)) rest (va_Qv P1 (fun u t => va_P D vwCl u t.heap ∧ va_D (va_A [(a, x)] H.size) u) (va_A [(a, x)] H.size) (Value.ref a :: []).toArray) (va_A [(a, x)] H.size) := by
    rcases w3 with w3 | w3 | w3
    · exact va_runI (As := []) ⟨X.1, X.2.1, X.2.2.1, X.2.2.2.1, X.2.2.2.2.1⟩ (hM H.size) ⟨callB_of 0 X.2.2.2.2.1 (tbl_goodIn w1) rfl rfl rfl (X.2.2.2.2.1 _ w2) (X.2.2.2.2.1 _ w3) w6 hR, w5, X.2.2.2.2.1 _ w4⟩ hpre rfl rfl hls rfl (lv_room hcat) hdg hcs
    · exact va_runIN (As := []) ⟨X.1, X.2.1, X.2.2.1, X.2.2.2.1, X.2.2.2.2.1⟩ (hM H.size) ⟨va_cnB 0 X.2.2.2.2.1 (tbl_goodIn w1) rfl rfl rfl (X.2.2.2.2.2.1.2 _ w3) (X.2.2.2.2.1 _ w2) w6 hR, w5, X.2.2.2.2.1 _ w4⟩ hpre rfl rfl hls rfl (lv_room hcat) hdg hcs
    · exact va_runIN (As := []) ⟨X.1, X.2.1, X.2.2.1, X.2.2.2.1, X.2.2.2.2.1⟩ (hM H.size) ⟨va_cnB 0 X.2.2.2.2.1 (tbl_goodIn w1) rfl rfl rfl (X.2.2.2.2.2.1.2 _ w3) (X.2.2.2.2.1 _ w2) w6 hR, w5, X.2.2.2.2.1 _ w4⟩ hpre rfl rfl hls rfl (lv_room hcat) hdg hcs
  exact va_callv hrun V.2.2.1 (fun q _ h => hin q h) hin (fun u t H1 locs1 ht hvm hw hB hz1 hk1 hS => kk u H1 locs1 hw (n_after V hk1 (by rw [← ht]; exact hB.1) hB.2 hS))
theorem n_vret {sz : Nat} {ws0 : va_W} {u : va_W} {ty : List (ClassId × FieldType)} (X : kX p s m meth c args own cc nL none D ty) (V : kW D (va_A ws0 sz) s.heap H u locs) (hu : P1 u) (hdg : decode cc pc = .ok (.return_, 1)) :
    W p l e R s m args below meth c H locs cells slots (MQ below (va_Qv P1 (fun u t => va_P D vwCl u t.heap ∧ va_D (va_A ws0 sz) u) (va_A ws0 sz)) args s cells slots (va_A ws0 sz)) (F0 m pc ls []) :=
  W.vret X.1 X.2.1 X.2.2.2.2.2.2.1 (fun t ht _ => ⟨⟨u, rfl, hu, by rw [ht]; exact V.1, V.2.1⟩, V.2.2.1.F ht⟩) V.2.2.1.2.2 hdg X.2.2.2.2.2.2.2
theorem kW_swap {x y z : va_W} (V : kW D A H0 H ((x ++ y) ++ z) locs) : kW D A H0 H ((x ++ z) ++ y) locs := ⟨va_P.swap V.1, va_D.swap V.2.1, V.2.2⟩
end KN
