/-! ===== calls: the callee's cells are cut out by their places, and put back in place ===== -/
theorem tbl_good : lw_tbl.all goodWord = true := by decide +kernel
def kR (f lo : Nat) : Room := { frames := f, cells := 0, slots := 0, locals := lo }
abbrev kG : Type := ClassId × ClassId × ClassId × ClassId
abbrev kty (g : kG) : List (ClassId × FieldType) := [(g.1, .int), (g.2.1, .long), (g.2.2.1, .byte), (g.2.2.2, .array .int)]
def kCW (own : String) (index : Nat) (y : MethodName) (cc : ByteArray) (nL : Nat) (rt : Option FieldType) (n : Nat) : Prop :=
  Cond.code y cc nL rt ∈ lw_tbl ∧ Cond.initialized y.cls ∈ lw_tbl ∧ Cond.methodLink own index y ∈ lw_tbl ∧ Cond.instanceMethod y ∈ lw_tbl ∧ Cond.selects y.cls y y ∈ lw_tbl ∧ y.cls ≠ "java/lang/invoke/MethodHandle" ∧ y.cls ≠ "java/lang/invoke/VarHandle" ∧ (parseMethodDescriptor y.desc).map (fun d => d.parameters.length) = some n
def kCS (own : String) (index : Nat) (y : MethodName) (cc : ByteArray) (nL : Nat) (rt : Option FieldType) (n : Nat) : Prop :=
  Cond.code y cc nL rt ∈ lw_tbl ∧ Cond.initialized y.cls ∈ lw_tbl ∧ Cond.methodLink own index y ∈ lw_tbl ∧ Cond.static y ∈ lw_tbl ∧ y.cls ≠ "java/lang/invoke/MethodHandle" ∧ y.cls ≠ "java/lang/invoke/VarHandle" ∧ (parseMethodDescriptor y.desc).map (fun d => d.parameters.length) = some n
theorem tbl_goodIn {w : Cond} (h : w ∈ lw_tbl) : GoodIn lw_tbl (w :: lw_tbl) := by
  intro q hq
  have h1 : q ∈ lw_tbl := by
    rcases List.mem_cons.mp hq with rfl | h1
    · exact h
    · exact h1
  exact ⟨h1, good_of_word (List.all_eq_true.mp tbl_good q h1)⟩
section KC
variable {p : Program} {l : Launch} {e : Env} {R : Room} {s : State} {m : MethodId} {args : Array Value} {below : List Frame} {meth : Method} {c : Code} {H : Heap} {locs : List Loc} {Q : State → Prop}
variable {own : String} {cc : ByteArray} {nL : Nat} {rt : Option FieldType} {D : va_G} {ty : List (ClassId × FieldType)} {A : Nat → Prop} {H0 : Heap} {ws ws1 : va_W} {pc : Nat} {ls : Array Slot} {rest : List Value} {a cells slots : Nat}
variable {y : MethodName} {cc2 : ByteArray} {nL2 idx n f2 lo2 : Nat} {rt2 : Option FieldType} {b : Addr} {As : List Value} {wc wc1 ws' : va_W}
theorem k_runV {Qc : Array Value → State → Outcome → State → Prop} {ci i0 : Nat} {fs : List Value} {tq : vw_C} (X : kX p s m meth c args own cc nL rt D ty) (V : kW D A H0 H ws locs) (hM : Met l y (.code y cc2 nL2 rt2 :: lw_tbl) (kR f2 lo2) (va_Pc (.ref b :: As) (kB D ty wc H.size)) Qc 0 0 (va_A wc H.size)) (cw : kCW own idx y cc2 nL2 rt2 n)
    (hR : f2 + 1 ≤ R.frames ∧ 8 + (nL2 + 11) + lo2 ≤ R.locals) (hcs : cells ≤ R.cells ∧ slots ≤ R.slots) (hn : As.length = n) (hrc : vwCl[ci]? = some tq) (htq : tq.1 = y.cls) (hrv : wc[i0]? = some (b, .inr (ci, fs))) (isC : List Nat) (hC : isC.map (fun i => ws[i]?) = wc.map some) (hnd : va_nd isC = true) (hls : ls.size = nL) (hcat : (rest.map fun v => v.category).sum ≤ 8) (hdg : decode cc pc = .ok (.invokevirtual idx, 3)) :
    va_Run p l e R s m args below meth c H locs cells slots 0 0 (F0 m pc ls (As.reverse ++ .ref b :: rest)) rest (Qc (Value.ref b :: As).toArray) (va_A wc H.size) := by
  obtain ⟨w1, w2, w3, w4, w5, w6⟩ := cw
  obtain ⟨hP, hD, hS, hA⟩ := id V
  have hsub : isC.filterMap (fun i => ws[i]?) = wc := by
    have := congrArg (List.filterMap id) hC
    simpa [List.filterMap_map, Function.comp_def] using this
  have hPc := hP.sub (ws' := wc) isC hsub
  have hDc := hD.sub isC hnd hC
  exact va_runV ⟨X.1, X.2.1, X.2.2.1, X.2.2.2.1, X.2.2.2.2.1⟩ hM ⟨callB_of n X.2.2.2.2.1 (tbl_goodIn w1) rfl rfl rfl (X.2.2.2.2.1 _ w2) (X.2.2.2.2.1 _ w3) w6 hR, X.2.2.2.2.1 _ w4, X.2.2.2.2.1 _ w5⟩
    ⟨kB_blind, by rw [← htq]; exact va_recv X.2.2.2.2.2.1 hPc hrc hrv, fun U hU hW => ⟨rfl, by rw [hU], by rw [hU]; exact hPc, va_K.moved hW.alike X.2.2.2.2.2.1, hDc.weaken (fun _ _ _ _ => trivial)⟩⟩ rfl hn hls rfl (lv_room hcat) hdg hcs
theorem k_runS {Qc : Array Value → State → Outcome → State → Prop} (X : kX p s m meth c args own cc nL rt D ty) (V : kW D A H0 H ws locs) (hM : Met l y (.code y cc2 nL2 rt2 :: lw_tbl) (kR f2 lo2) (va_Pc As (kB D ty wc H.size)) Qc 0 0 (va_A wc H.size)) (cw : kCS own idx y cc2 nL2 rt2 n)
    (hR : f2 + 1 ≤ R.frames ∧ 8 + (nL2 + 11) + lo2 ≤ R.locals) (hcs : cells ≤ R.cells ∧ slots ≤ R.slots) (hn : As.length = n) (isC : List Nat) (hC : isC.map (fun i => ws[i]?) = wc.map some) (hnd : va_nd isC = true) (hls : ls.size = nL) (hcat : (rest.map fun v => v.category).sum ≤ 8) (hdg : decode cc pc = .ok (.invokestatic idx, 3)) :
    va_Run p l e R s m args below meth c H locs cells slots 0 0 (F0 m pc ls (As.reverse ++ rest)) rest (Qc As.toArray) (va_A wc H.size) := by
  obtain ⟨w1, w2, w3, w4, w6⟩ := cw
  obtain ⟨hP, hD, hS, hA⟩ := id V
  have hsub : isC.filterMap (fun i => ws[i]?) = wc := by
    have := congrArg (List.filterMap id) hC
    simpa [List.filterMap_map, Function.comp_def] using this
  have hPc := hP.sub (ws' := wc) isC hsub
  have hDc := hD.sub isC hnd hC
  exact va_runS ⟨X.1, X.2.1, X.2.2.1, X.2.2.2.1, X.2.2.2.2.1⟩ hM ⟨callB_of n X.2.2.2.2.1 (tbl_goodIn w1) rfl rfl rfl (X.2.2.2.2.1 _ w2) (X.2.2.2.2.1 _ w3) w6 hR, X.2.2.2.2.1 _ w4⟩
    ⟨kB_blind, fun U hU hW => ⟨rfl, by rw [hU], by rw [hU]; exact hPc, va_K.moved hW.alike X.2.2.2.2.2.1, hDc.weaken (fun _ _ _ _ => trivial)⟩⟩ rfl hn hls rfl (lv_room hcat) hdg hcs
theorem k_callVi {r : Int32} {st : List Value} {ci i0 : Nat} {fs : List Value} {tq : vw_C} (X : kX p s m meth c args own cc nL rt D ty) (V : kW D A H0 H ws locs) (hM : kMi l y cc2 nL2 rt2 (kR f2 lo2) D ty (.ref b :: As) wc r wc1) (cw : kCW own idx y cc2 nL2 rt2 n)
    (hR : f2 + 1 ≤ R.frames ∧ 8 + (nL2 + 11) + lo2 ≤ R.locals) (hcs : cells ≤ R.cells ∧ slots ≤ R.slots) (hn : As.length = n) (hrc : vwCl[ci]? = some tq) (htq : tq.1 = y.cls) (hrv : wc[i0]? = some (b, .inr (ci, fs))) (isC : List Nat) (hC : isC.map (fun i => ws[i]?) = wc.map some) (hnd : va_nd isC = true) (hwf : wc1.map Prod.fst = wc.map Prod.fst) (hw' : kput ws isC wc1 = ws') (hst : As.reverse ++ .ref b :: rest = st) (hls : ls.size = nL) (hcat : (rest.map fun v => v.category).sum ≤ 8) (hdg : decode cc pc = .ok (.invokevirtual idx, 3))
    (kk : ∀ H1 locs1, kW D A H0 H1 ws' locs1 → W p l e R s m args below meth c H1 locs1 cells slots Q (F0 m (pc + 3) ls (.int r :: rest))) : W p l e R s m args below meth c H locs cells slots Q (F0 m pc ls st) := by
  subst hst
  subst hw'
  exact va_calli (k_runV X V (hM H.size) cw hR hcs hn hrc htq hrv isC hC hnd hls hcat hdg) V.2.2.1 (fun q _ h => va_free V.2.1 V.2.2.1 V.2.2.2 isC hC q h) (va_free V.2.1 V.2.2.1 V.2.2.2 isC hC) (fun r1 u t H1 locs1 ht hvm hw hB hz1 hk1 hS => by
    rw [hw]
    exact kk H1 locs1 (k_after V isC hC hwf hk1 (by rw [← ht]; exact hB) hS))
theorem k_callVl {r : Int64} {st : List Value} {ci i0 : Nat} {fs : List Value} {tq : vw_C} (X : kX p s m meth c args own cc nL rt D ty) (V : kW D A H0 H ws locs) (hM : kMl l y cc2 nL2 rt2 (kR f2 lo2) D ty (.ref b :: As) wc r wc1) (cw : kCW own idx y cc2 nL2 rt2 n)
    (hR : f2 + 1 ≤ R.frames ∧ 8 + (nL2 + 11) + lo2 ≤ R.locals) (hcs : cells ≤ R.cells ∧ slots ≤ R.slots) (hn : As.length = n) (hrc : vwCl[ci]? = some tq) (htq : tq.1 = y.cls) (hrv : wc[i0]? = some (b, .inr (ci, fs))) (isC : List Nat) (hC : isC.map (fun i => ws[i]?) = wc.map some) (hnd : va_nd isC = true) (hwf : wc1.map Prod.fst = wc.map Prod.fst) (hw' : kput ws isC wc1 = ws') (hst : As.reverse ++ .ref b :: rest = st) (hls : ls.size = nL) (hcat : (rest.map fun v => v.category).sum ≤ 8) (hdg : decode cc pc = .ok (.invokevirtual idx, 3))
    (kk : ∀ H1 locs1, kW D A H0 H1 ws' locs1 → W p l e R s m args below meth c H1 locs1 cells slots Q (F0 m (pc + 3) ls (.long r :: rest))) : W p l e R s m args below meth c H locs cells slots Q (F0 m pc ls st) := by
  subst hst
  subst hw'
  exact va_calll (k_runV X V (hM H.size) cw hR hcs hn hrc htq hrv isC hC hnd hls hcat hdg) V.2.2.1 (fun q _ h => va_free V.2.1 V.2.2.1 V.2.2.2 isC hC q h) (va_free V.2.1 V.2.2.1 V.2.2.2 isC hC) (fun r1 u t H1 locs1 ht hvm hw hB hz1 hk1 hS => by
    rw [hw]
    exact kk H1 locs1 (k_after V isC hC hwf hk1 (by rw [← ht]; exact hB) hS))
theorem k_callVv {st : List Value} {ci i0 : Nat} {fs : List Value} {tq : vw_C} (X : kX p s m meth c args own cc nL rt D ty) (V : kW D A H0 H ws locs) (hM : kMv l y cc2 nL2 rt2 (kR f2 lo2) D ty (.ref b :: As) wc wc1) (cw : kCW own idx y cc2 nL2 rt2 n)
    (hR : f2 + 1 ≤ R.frames ∧ 8 + (nL2 + 11) + lo2 ≤ R.locals) (hcs : cells ≤ R.cells ∧ slots ≤ R.slots) (hn : As.length = n) (hrc : vwCl[ci]? = some tq) (htq : tq.1 = y.cls) (hrv : wc[i0]? = some (b, .inr (ci, fs))) (isC : List Nat) (hC : isC.map (fun i => ws[i]?) = wc.map some) (hnd : va_nd isC = true) (hwf : wc1.map Prod.fst = wc.map Prod.fst) (hw' : kput ws isC wc1 = ws') (hst : As.reverse ++ .ref b :: rest = st) (hls : ls.size = nL) (hcat : (rest.map fun v => v.category).sum ≤ 8) (hdg : decode cc pc = .ok (.invokevirtual idx, 3))
    (kk : ∀ H1 locs1, kW D A H0 H1 ws' locs1 → W p l e R s m args below meth c H1 locs1 cells slots Q (F0 m (pc + 3) ls rest)) : W p l e R s m args below meth c H locs cells slots Q (F0 m pc ls st) := by
  subst hst
  subst hw'
  exact va_callv (k_runV X V (hM H.size) cw hR hcs hn hrc htq hrv isC hC hnd hls hcat hdg) V.2.2.1 (fun q _ h => va_free V.2.1 V.2.2.1 V.2.2.2 isC hC q h) (va_free V.2.1 V.2.2.1 V.2.2.2 isC hC) (fun u t H1 locs1 ht hvm hw hB hz1 hk1 hS => kk H1 locs1 (k_after V isC hC hwf hk1 (by rw [← ht]; exact hB) hS))
theorem k_callSi {r : Int32} {st : List Value} (X : kX p s m meth c args own cc nL rt D ty) (V : kW D A H0 H ws locs) (hM : kMi l y cc2 nL2 rt2 (kR f2 lo2) D ty As wc r wc1) (cw : kCS own idx y cc2 nL2 rt2 n)
    (hR : f2 + 1 ≤ R.frames ∧ 8 + (nL2 + 11) + lo2 ≤ R.locals) (hcs : cells ≤ R.cells ∧ slots ≤ R.slots) (hn : As.length = n) (isC : List Nat) (hC : isC.map (fun i => ws[i]?) = wc.map some) (hnd : va_nd isC = true) (hwf : wc1.map Prod.fst = wc.map Prod.fst) (hw' : kput ws isC wc1 = ws') (hst : As.reverse ++ rest = st) (hls : ls.size = nL) (hcat : (rest.map fun v => v.category).sum ≤ 8) (hdg : decode cc pc = .ok (.invokestatic idx, 3))
    (kk : ∀ H1 locs1, kW D A H0 H1 ws' locs1 → W p l e R s m args below meth c H1 locs1 cells slots Q (F0 m (pc + 3) ls (.int r :: rest))) : W p l e R s m args below meth c H locs cells slots Q (F0 m pc ls st) := by
  subst hst
  subst hw'
  exact va_calli (k_runS X V (hM H.size) cw hR hcs hn isC hC hnd hls hcat hdg) V.2.2.1 (fun q _ h => va_free V.2.1 V.2.2.1 V.2.2.2 isC hC q h) (va_free V.2.1 V.2.2.1 V.2.2.2 isC hC) (fun r1 u t H1 locs1 ht hvm hw hB hz1 hk1 hS => by
    rw [hw]
    exact kk H1 locs1 (k_after V isC hC hwf hk1 (by rw [← ht]; exact hB) hS))
theorem k_callSl {r : Int64} {st : List Value} (X : kX p s m meth c args own cc nL rt D ty) (V : kW D A H0 H ws locs) (hM : kMl l y cc2 nL2 rt2 (kR f2 lo2) D ty As wc r wc1) (cw : kCS own idx y cc2 nL2 rt2 n)
    (hR : f2 + 1 ≤ R.frames ∧ 8 + (nL2 + 11) + lo2 ≤ R.locals) (hcs : cells ≤ R.cells ∧ slots ≤ R.slots) (hn : As.length = n) (isC : List Nat) (hC : isC.map (fun i => ws[i]?) = wc.map some) (hnd : va_nd isC = true) (hwf : wc1.map Prod.fst = wc.map Prod.fst) (hw' : kput ws isC wc1 = ws') (hst : As.reverse ++ rest = st) (hls : ls.size = nL) (hcat : (rest.map fun v => v.category).sum ≤ 8) (hdg : decode cc pc = .ok (.invokestatic idx, 3))
    (kk : ∀ H1 locs1, kW D A H0 H1 ws' locs1 → W p l e R s m args below meth c H1 locs1 cells slots Q (F0 m (pc + 3) ls (.long r :: rest))) : W p l e R s m args below meth c H locs cells slots Q (F0 m pc ls st) := by
  subst hst
  subst hw'
  exact va_calll (k_runS X V (hM H.size) cw hR hcs hn isC hC hnd hls hcat hdg) V.2.2.1 (fun q _ h => va_free V.2.1 V.2.2.1 V.2.2.2 isC hC q h) (va_free V.2.1 V.2.2.1 V.2.2.2 isC hC) (fun r1 u t H1 locs1 ht hvm hw hB hz1 hk1 hS => by
    rw [hw]
    exact kk H1 locs1 (k_after V isC hC hwf hk1 (by rw [← ht]; exact hB) hS))
end KC
