/-! ===== calls: the callee's cells are cut out by their places, and put back in place ===== -/
theorem tbl_good : lw_tg.all goodWord = true := List.all_eq_true.mpr (fun w h => (List.mem_filter.mp h).2)
def kR (f lo : Nat) : Room := { frames := f, cells := 0, slots := 0, locals := lo }
abbrev kG : Type := ClassId × ClassId × ClassId × ClassId
abbrev kty (g : kG) : List (ClassId × FieldType) := [(g.1, .int), (g.2.1, .long), (g.2.2.1, .byte), (g.2.2.2, .array .int)]
def kCW (own : String) (index : Nat) (y : MethodName) (cc : ByteArray) (nL : Nat) (rt : Option FieldType) (n : Nat) : Prop :=
  Cond.code y cc nL rt ∈ lw_tg ∧ Cond.initialized y.cls ∈ lw_tg ∧ Cond.methodLink own index y ∈ lw_tg ∧ Cond.instanceMethod y ∈ lw_tg ∧ Cond.selects y.cls y y ∈ lw_tg ∧ y.cls ≠ "java/lang/invoke/MethodHandle" ∧ y.cls ≠ "java/lang/invoke/VarHandle" ∧ (parseMethodDescriptor y.desc).map (fun d => d.parameters.length) = some n
def kCS (own : String) (index : Nat) (y : MethodName) (cc : ByteArray) (nL : Nat) (rt : Option FieldType) (n : Nat) : Prop :=
  Cond.code y cc nL rt ∈ lw_tg ∧ Cond.initialized y.cls ∈ lw_tg ∧ Cond.methodLink own index y ∈ lw_tg ∧ Cond.static y ∈ lw_tg ∧ y.cls ≠ "java/lang/invoke/MethodHandle" ∧ y.cls ≠ "java/lang/invoke/VarHandle" ∧ (parseMethodDescriptor y.desc).map (fun d => d.parameters.length) = some n
def kCN (own : String) (index : Nat) (y : MethodName) (host : String) (cc : ByteArray) (nL : Nat) (rt : Option FieldType) (n : Nat) : Prop :=
  Cond.code y cc nL rt ∈ lw_tg ∧ Cond.initialized y.cls ∈ lw_tg ∧ (own, index, y, host) ∈ kNest ∧ Cond.static y ∈ lw_tg ∧ y.cls ≠ "java/lang/invoke/MethodHandle" ∧ y.cls ≠ "java/lang/invoke/VarHandle" ∧ (parseMethodDescriptor y.desc).map (fun d => d.parameters.length) = some n
theorem tbl_goodIn {w : Cond} (h : w ∈ lw_tg) : GoodIn lw_tg (w :: lw_tg) := by
  intro q hq
  have h1 : q ∈ lw_tg := by
    rcases List.mem_cons.mp hq with rfl | h1
    · exact h
    · exact h1
  exact ⟨h1, good_of_word (List.all_eq_true.mp tbl_good q h1)⟩
section KC
variable {p : Program} {l : Launch} {e : Env} {R : Room} {s : State} {m : MethodId} {args : Array Value} {below : List Frame} {meth : Method} {c : Code} {H : Heap} {locs : List Loc} {Q : State → Prop}
variable {own : String} {cc : ByteArray} {nL : Nat} {rt : Option FieldType} {D : va_G} {ty : List (ClassId × FieldType)} {A : Nat → Prop} {H0 : Heap} {ws ws1 : va_W} {pc : Nat} {ls : Array Slot} {rest : List Value} {a cells slots : Nat}
variable {y : MethodName} {cc2 : ByteArray} {nL2 idx n f2 lo2 : Nat} {rt2 : Option FieldType} {b : Addr} {As : List Value} {wc wc1 ws' : va_W}
theorem k_acopy {q0 q1 t0 t1 a0 n0 n1 : Nat} {c0 c1 : ClassId} {f g : Nat → Int32} {sp dp n : Int32} (X : kX p s m meth c args own cc nL rt D ty) (V : kW D A H0 H ws locs) (hls : ls.size = nL) (hlink : Cond.methodLink own idx arraycopyName ∈ lw_tg) (hnat : Cond.native arraycopyName ∈ lw_tg) (hstat : Cond.static arraycopyName ∈ lw_tg) (hini : Cond.initialized "java/lang/System" ∈ lw_tg)
    (ha0 : ws[q0]? = some (a0, .inl (c0, n0, .inl f))) (ha1 : ws[q1]? = some (a, .inl (c1, n1, .inl g))) (ht0 : ty[t0]? = some (c0, .int)) (ht1 : ty[t1]? = some (c1, .int)) (h1 : ¬ sp < 0) (h2 : ¬ dp < 0) (h3 : ¬ n < 0) (h4 : sp.toNatClampNeg + n.toNatClampNeg ≤ n0) (h5 : dp.toNatClampNeg + n.toNatClampNeg ≤ n1)
    (hframes : 1 ≤ R.frames) (hlocals : (rest.map fun v => v.category).sum + (nativeFrameWords "java/lang/System" "arraycopy" 5 + 11) ≤ R.locals) (hdg : decode cc pc = .ok (.invokestatic idx, 3))
    (kk : ∀ (H1 : Heap) (locs1 : List Loc), kW D A H0 H1 (ws.set q1 (a, .inl (c1, n1, .inl (va_cpy f g sp.toNatClampNeg dp.toNatClampNeg n.toNatClampNeg)))) locs1 → W p l e R s m args below meth c H1 locs1 cells slots Q (F0 m (pc + 3) ls rest)) : W p l e R s m args below meth c H locs cells slots Q (F0 m pc ls (.int n :: .int dp :: .ref a :: .int sp :: .ref a0 :: rest)) :=
  va_copyi X.1 X.2.1 (by rw [X.2.2.1]; exact hls.symm) X.2.2.2.1 (X.2.2.2.2.1 _ hlink) (X.2.2.2.2.1 _ hnat) (X.2.2.2.2.1 _ hstat) (X.2.2.2.2.1 _ hini) X.2.2.2.2.2.1.1 V.1 V.2.1 V.2.2.1 q0 q1 t0 t1 ha0 ha1 ht0 ht1 rfl h1 h2 h3 h4 h5 (fun _ _ => rfl) hframes hlocals hdg (fun H1 locs1 g1 g2 g3 => kk H1 locs1 ⟨g1, g2, g3, V.2.2.2⟩)
end KC
