/-! ===== the rows that every walk of this claim uses: a context kX, a world kW, contracts kMi, kMl, kMz, kMv; pure programs in Option ===== -/
/-- the words that go with a call -/
def lw_tg : List Cond := lw_tbl.filter goodWord
theorem lw_tg_in {w : Cond} (h : w ∈ lw_tbl) (g : goodWord w = true) : w ∈ lw_tg := List.mem_filter.mpr ⟨h, g⟩
theorem lw_tg_all {ws : List Cond} (h : ∀ w ∈ ws, w ∈ lw_tbl) (g : ws.all goodWord = true) : ∀ w ∈ ws, w ∈ lw_tg := fun w hw => List.mem_filter.mpr ⟨h w hw, List.all_eq_true.mp g w hw⟩
/-- calls among nest mates: their links, kept along -/
def kNest : List (String × Nat × MethodName × String) := [(RX11, 18, yX9_init, RX11), (RX11, 25, yX8_init, RX11), (RX11, 35, yX0_init, RX11), (RX11, 45, yX5_init, RX11), (RX11, 55, yX6_init, RX11), (RX6, 11, yX8_init, RX11), (RX6, 20, yX5_init, RX11), (RX11, 62, yX1_init, RX11), (RX11, 69, yX7_init, RX11), (RX11, 76, yX2_init, RX11), (RX2, 11, yX0_init, RX11), (RX11, 83, yX10_init, RX11), (RX11, 90, yX3_init, RX11), (RX9, 79, yX11_isHeap, RX11), (RX4, 27, yX11_isHeap, RX11)]
def kN (U : State) : Prop := ∀ q ∈ kNest, va_Nw (.methodLinkNest q.1 q.2.1 q.2.2.1 q.2.2.2) U
theorem kN_warm {s U : State} (hW : s.WarmedH U.vm) (h : kN s) : kN U := fun q hq => va_Nw.warmM hW (h q hq)
theorem k_ofW {l : Launch} {y : MethodName} {ws ws' : List Cond} {rm : Room} {Pc : Array Value → State → Prop} {Qc : Array Value → State → Outcome → State → Prop} {mc ms : Nat} {free : Addr → Prop} {cc : ByteArray} {maxL : Nat} {ret : Option FieldType}
    (hy : plainFor y = true) (hw : ws = Cond.code y cc maxL ret :: ws')
    (body : ∀ p e s m args below meth c s₁, BodyLoose p l y (headSpec ws rm) cc maxL ret e s m args below meth c s₁ → c.maxLocals = maxL → Pc args s →
      W p l e (headSpec ws rm).room s m args below meth c s.heap [] 0 0 (MQ below Qc args s mc ms free) (entryFrame m args maxL)) : Met l y ws rm Pc Qc mc ms free := by
  refine MetFree.of_bodySF (code := cc) (maxLocals := maxL) (ret := ret) hy ?_ ?_
  · intro args s m h hn
    obtain ⟨meth, c, h1, h2, h3, h4, h5, h6, -, -⟩ := Cond.code_spec hn (atoms_spec (ws := ws) h _ (by rw [hw]; exact List.mem_cons_self))
    exact ⟨meth, c, h1, h2, h3, h4, h5, h6⟩
  · intro p e s m args below meth c s₁ B hml hP _
    have hh0 : s₁.heap = s.heap := by rw [B.state]; rfl
    obtain ⟨t, a1, o, b1, b2, b3⟩ := body p e s m args below meth c s₁ B hml hP s₁ hh0 (Stand.of_body B)
    exact ⟨t, o, a1, b1, b2, ⟨b3.1, b3.2⟩⟩
def kz (b : Bool) : Int32 := if b then 1 else 0
def kl {α β : Type} (v : α) (f : α → β) : β := f v
def kb {α β : Type} (o : Option α) (f : α → Option β) : Option β := match o with
  | none => none
  | some x => f x
def kif {β : Type} (c : Prop) [Decidable c] (a b : β) : β := if c then a else b
def kg {β : Type} (c : Prop) [Decidable c] (r : Option β) : Option β := if c then r else none
def kin (i : Int32) (n : Nat) : Prop := ¬ (i < 0 ∨ n ≤ i.toNatClampNeg)
theorem kl_of {α β : Type} {v x : α} {f : α → β} {r : β} (e : x = v) (h : kl v f = r) : f x = r := by subst e; exact h
theorem kb_of {α β : Type} {o : Option α} {f : α → Option β} {r : β} (h : kb o f = some r) : ∃ x, o = some x ∧ f x = some r := by
  cases o with
  | none => cases h
  | some x => exact ⟨x, rfl, h⟩
theorem kif_t {β : Type} {c : Prop} [Decidable c] {a b r : β} (hc : c) (h : kif c a b = r) : a = r := by rw [← h]; exact (if_pos hc).symm
theorem kif_f {β : Type} {c : Prop} [Decidable c] {a b r : β} (hc : ¬ c) (h : kif c a b = r) : b = r := by rw [← h]; exact (if_neg hc).symm
theorem kg_of {β : Type} {c : Prop} [Decidable c] {a : Option β} {r : β} (h : kg c a = some r) : c ∧ a = some r := by
  by_cases hc : c
  · exact ⟨hc, (if_pos hc).symm.trans h⟩
  · have := (if_neg hc (t := a) (e := none)).symm.trans h
    cases this
/-- a loop: its body says at which place of the code it goes on, and with what -/
def kitr {σ : Type} (hd : Nat) (body : σ → Option (Nat × σ)) : Nat → σ → Option (Nat × σ)
  | 0, _ => none
  | n + 1, s => match body s with
    | none => none
    | some e => if e.1 = hd then kitr hd body n e.2 else some e
def kF : Nat := 1000000000000
theorem kitr_go {σ : Type} {hd : Nat} {body : σ → Option (Nat × σ)} {G : Nat × σ → Prop} (hs : ∀ s e, body s = some e → G e → G (hd, s)) : ∀ (n : Nat) (s : σ) (e : Nat × σ), kitr hd body n s = some e → G e → G (hd, s) := by
  intro n
  induction n with
  | zero => intro s e h; cases h
  | succ n ih =>
    intro s e h hG
    unfold kitr at h
    cases hb : body s with
    | none => rw [hb] at h; cases h
    | some e1 =>
      rw [hb] at h
      dsimp only at h
      by_cases he : e1.1 = hd
      · rw [if_pos he] at h
        have := ih e1.2 e h hG
        rw [← he] at this
        exact hs s e1 hb this
      · rw [if_neg he] at h
        cases h
        exact hs s _ hb hG
def kput : va_W → List Nat → va_W → va_W
  | ws, i :: is, x :: xs => kput (ws.set i x) is xs
  | ws, _, _ => ws
theorem kput_get : ∀ (is : List Nat) (xs ws : va_W) (k : Nat) (q : Nat × va_E), is.length = xs.length → (kput ws is xs)[k]? = some q → (∃ j : Nat, is[j]? = some k ∧ xs[j]? = some q) ∨ (k ∉ is ∧ ws[k]? = some q) := by
  intro is
  induction is with
  | nil => intro xs ws k q hl h; cases xs with
    | nil => exact Or.inr ⟨by simp, h⟩
    | cons => simp at hl
  | cons i is ih =>
    intro xs ws k q hl h
    cases xs with
    | nil => simp at hl
    | cons x xs =>
      have h : (kput (ws.set i x) is xs)[k]? = some q := h
      rcases ih xs (ws.set i x) k q (by simpa using hl) h with ⟨j, h1, h2⟩ | ⟨h1, h2⟩
      · exact Or.inl ⟨j + 1, by simpa using h1, by simpa using h2⟩
      · by_cases hk : k = i
        · subst hk
          have hlt : k < ws.length := by
            have := (List.getElem?_eq_some_iff.mp h2).1
            simpa using this
          rw [List.getElem?_set_self hlt] at h2
          exact Or.inl ⟨0, rfl, h2⟩
        · rw [List.getElem?_set_ne (Ne.symm hk)] at h2
          exact Or.inr ⟨by simp [hk, h1], h2⟩
def kX (p : Program) (s : State) (m : MethodId) (meth : Method) (c : Code) (args : Array Value) (own : String) (cc : ByteArray) (nL : Nat) (rt : Option FieldType) (D : va_G) (ty : List (ClassId × FieldType)) : Prop :=
  p.tables.exec = Jvm.exec ∧ c.code = cc ∧ c.maxLocals = nL ∧ s.vm.findClass own = some m.cls ∧ (∀ w ∈ lw_tg, w.before args s = true) ∧ (va_K D vwCl ty s ∧ kN s) ∧ meth.sig.returnType = rt ∧ meth.locks = false
def kW (D : va_G) (A : Nat → Prop) (H0 H : Heap) (ws : va_W) (locs : List Loc) : Prop := va_P D vwCl ws H ∧ va_D A ws ∧ va_S A H0 H locs ∧ ∀ q, H0.size ≤ q → A q
def kB (D : va_G) (ty : List (ClassId × FieldType)) (ws : va_W) (sz : Nat) : State → Prop := fun U => U.heap.size = sz ∧ va_P D vwCl ws U.heap ∧ (va_K D vwCl ty U ∧ kN U) ∧ va_D (fun _ => True) ws
def kE (D : va_G) (ws1 : va_W) : State → Prop := fun t => va_P D vwCl ws1 t.heap
def kMi (l : Launch) (y : MethodName) (cc : ByteArray) (nL : Nat) (rt : Option FieldType) (rm : Room) (D : va_G) (ty : List (ClassId × FieldType)) (As : List Value) (ws : va_W) (r : Int32) (ws1 : va_W) : Prop :=
  ∀ sz, Met l y (.code y cc nL rt :: lw_tg) rm (va_Pc As (kB D ty ws sz)) (va_Qi (fun r' (_ : Unit) => r' = r) (fun _ => kE D ws1) (va_A ws sz)) 0 0 (va_A ws sz)
def kMl (l : Launch) (y : MethodName) (cc : ByteArray) (nL : Nat) (rt : Option FieldType) (rm : Room) (D : va_G) (ty : List (ClassId × FieldType)) (As : List Value) (ws : va_W) (r : Int64) (ws1 : va_W) : Prop :=
  ∀ sz, Met l y (.code y cc nL rt :: lw_tg) rm (va_Pc As (kB D ty ws sz)) (va_Ql (fun r' (_ : Unit) => r' = r) (fun _ => kE D ws1) (va_A ws sz)) 0 0 (va_A ws sz)
def kMv (l : Launch) (y : MethodName) (cc : ByteArray) (nL : Nat) (rt : Option FieldType) (rm : Room) (D : va_G) (ty : List (ClassId × FieldType)) (As : List Value) (ws : va_W) (ws1 : va_W) : Prop :=
  ∀ sz, Met l y (.code y cc nL rt :: lw_tg) rm (va_Pc As (kB D ty ws sz)) (va_Qv (fun (_ : Unit) => True) (fun _ => kE D ws1) (va_A ws sz)) 0 0 (va_A ws sz)
theorem kB_blind {D : va_G} {ty : List (ClassId × FieldType)} {ws : va_W} {sz : Nat} {As : List Value} : FrameBlind (va_Pc As (kB D ty ws sz)) := fun a U g mk q => by
  obtain ⟨q0, q1, qP, qK, qD⟩ := q
  exact ⟨q0, q1, qP, ⟨va_K.moved (u := U) (U := U.calling g mk a) (Vm.Alike.refl U.vm) qK.1, fun q h => va_Nw.same rfl rfl (qK.2 q h)⟩, qD⟩
theorem k_enter {l : Launch} {y : MethodName} {cc : ByteArray} {nL : Nat} {rt : Option FieldType} {rm : Room} {D : va_G} {ty : List (ClassId × FieldType)} {As : List Value} {ws : va_W} {sz : Nat} {Qc : Array Value → State → Outcome → State → Prop} {lv : List (Nat × Value)} (own : String)
    (hy : plainFor y = true) (ho : y.cls = own) (hlv : lv_args 0 As = lv) (hn : (lg_sl As).length ≤ nL)
    (body : ∀ p e s m args below meth c (ls : Array Slot), s.heap.size = sz → kX p s m meth c args own cc nL rt D ty → kW D (va_A ws sz) s.heap s.heap ws [] → lv_has ls nL lv →
      W p l e rm s m args below meth c s.heap [] 0 0 (MQ below Qc args s 0 0 (va_A ws sz)) (F0 m 0 ls [])) :
    Met l y (.code y cc nL rt :: lw_tg) rm (va_Pc As (kB D ty ws sz)) Qc 0 0 (va_A ws sz) := by
  refine k_ofW (cc := cc) (maxL := nL) (ret := rt) hy rfl ?_
  intro p e s m args below meth c s₁ B hml hv
  obtain ⟨rfl, hsz, hP, hK, hD0⟩ := hv
  have hts := atoms_spec (ws := .code y cc nL rt :: lw_tg) B.pre
  have hown : s.vm.findClass y.cls = some m.cls := findClass_of_methodNamed B.named
  subst ho
  subst hsz
  have hl := lv_entry As (n := nL) hn
  rw [lg_entry_eq]
  rw [hlv] at hl
  exact body p e s m _ below meth c _ rfl ⟨B.exec, B.bytes, hml, hown, fun w hw => hts w (List.mem_cons_of_mem _ hw), hK, B.returns, B.notSynchronized⟩ ⟨hP, hD0.self, va_S.rf, fun q h => Or.inr h⟩ hl
section KR
variable {p : Program} {l : Launch} {e : Env} {R : Room} {s : State} {m : MethodId} {args : Array Value} {below : List Frame} {meth : Method} {c : Code} {H : Heap} {locs : List Loc} {Q : State → Prop}
variable {own : String} {cc : ByteArray} {nL : Nat} {rt : Option FieldType} {D : va_G} {ty : List (ClassId × FieldType)} {A : Nat → Prop} {H0 : Heap} {ws ws1 : va_W} {pc : Nat} {ls : Array Slot} {rest : List Value} {a cells slots : Nat}
theorem k_iret {v r : Int32} {sz : Nat} (X : kX p s m meth c args own cc nL (some .int) D ty) (V : kW D (va_A ws sz) s.heap H ws1 locs) (hr : v = r) (hdg : decode cc pc = .ok (.ireturn, 1)) :
    W p l e R s m args below meth c H locs 0 0 (MQ below (va_Qi (fun r' (_ : Unit) => r' = r) (fun _ => kE D ws1) (va_A ws sz)) args s 0 0 (va_A ws sz)) (F0 m pc ls [.int v]) :=
  W.iret (v := v) X.1 X.2.1 X.2.2.2.2.2.2.1 (fun t ht _ => ⟨⟨v, (), rfl, hr, by show va_P _ _ _ _; rw [ht]; exact V.1⟩, V.2.2.1.F ht⟩) V.2.2.1.2.2 hdg X.2.2.2.2.2.2.2
theorem k_zret {b r : Bool} {v : Int32} {sz : Nat} (X : kX p s m meth c args own cc nL (some .boolean) D ty) (V : kW D (va_A ws sz) s.heap H ws1 locs) (hv : v = kz b) (hr : b = r) (hdg : decode cc pc = .ok (.ireturn, 1)) :
    W p l e R s m args below meth c H locs 0 0 (MQ below (va_Qi (fun r' (_ : Unit) => r' = kz r) (fun _ => kE D ws1) (va_A ws sz)) args s 0 0 (va_A ws sz)) (F0 m pc ls [.int v]) := by
  subst hv
  exact W.zret (v := kz b) X.1 X.2.1 X.2.2.2.2.2.2.1 (by cases b <;> rfl) (fun t ht _ => ⟨⟨kz b, (), rfl, by rw [hr], by show va_P _ _ _ _; rw [ht]; exact V.1⟩, V.2.2.1.F ht⟩) V.2.2.1.2.2 hdg X.2.2.2.2.2.2.2
theorem k_lret {v r : Int64} {sz : Nat} (X : kX p s m meth c args own cc nL (some .long) D ty) (V : kW D (va_A ws sz) s.heap H ws1 locs) (hr : v = r) (hdg : decode cc pc = .ok (.lreturn, 1)) :
    W p l e R s m args below meth c H locs 0 0 (MQ below (va_Ql (fun r' (_ : Unit) => r' = r) (fun _ => kE D ws1) (va_A ws sz)) args s 0 0 (va_A ws sz)) (F0 m pc ls [.long v]) :=
  W.lret (v := v) X.1 X.2.1 X.2.2.2.2.2.2.1 (fun t ht _ => ⟨⟨v, (), rfl, hr, by show va_P _ _ _ _; rw [ht]; exact V.1⟩, V.2.2.1.F ht⟩) V.2.2.1.2.2 hdg X.2.2.2.2.2.2.2
theorem k_vret {sz : Nat} (X : kX p s m meth c args own cc nL none D ty) (V : kW D (va_A ws sz) s.heap H ws1 locs) (hdg : decode cc pc = .ok (.return_, 1)) :
    W p l e R s m args below meth c H locs 0 0 (MQ below (va_Qv (fun (_ : Unit) => True) (fun _ => kE D ws1) (va_A ws sz)) args s 0 0 (va_A ws sz)) (F0 m pc ls []) :=
  W.vret X.1 X.2.1 X.2.2.2.2.2.2.1 (fun t ht _ => ⟨⟨(), rfl, trivial, by show va_P _ _ _ _; rw [ht]; exact V.1⟩, V.2.2.1.F ht⟩) V.2.2.1.2.2 hdg X.2.2.2.2.2.2.2
theorem k_iald {q0 n t0 : Nat} {cA : ClassId} {f : Nat → Int32} {i : Int32} (X : kX p s m meth c args own cc nL rt D ty) (V : kW D A H0 H ws locs) (ha : ws[q0]? = some (a, .inl (cA, n, .inl f))) (ht : ty[t0]? = some (cA, .int)) (hin : kin i n) (hdg : decode cc pc = .ok (.iaload, 1))
    (kk : W p l e R s m args below meth c H locs cells slots Q (F0 m (pc + 1) ls (.int (f i.toNatClampNeg) :: rest))) : W p l e R s m args below meth c H locs cells slots Q (F0 m pc ls (.int i :: .ref a :: rest)) :=
  va_iald X.1 X.2.1 X.2.2.2.2.2.1.1 V.1 q0 t0 ha ht hin hdg kk
theorem k_bald {q0 n t0 : Nat} {cA : ClassId} {f : Nat → Int32} {i : Int32} (X : kX p s m meth c args own cc nL rt D ty) (V : kW D A H0 H ws locs) (ha : ws[q0]? = some (a, .inl (cA, n, .inl f))) (ht : ty[t0]? = some (cA, .byte)) (hin : kin i n) (hdg : decode cc pc = .ok (.baload, 1))
    (kk : W p l e R s m args below meth c H locs cells slots Q (F0 m (pc + 1) ls (.int (f i.toNatClampNeg) :: rest))) : W p l e R s m args below meth c H locs cells slots Q (F0 m pc ls (.int i :: .ref a :: rest)) :=
  va_bald X.1 X.2.1 X.2.2.2.2.2.1.1 V.1 q0 t0 ha ht hin hdg kk
theorem k_lald {q0 n t0 : Nat} {cA : ClassId} {f : Nat → Int64} {i : Int32} (X : kX p s m meth c args own cc nL rt D ty) (V : kW D A H0 H ws locs) (ha : ws[q0]? = some (a, .inl (cA, n, .inr (.inl f)))) (ht : ty[t0]? = some (cA, .long)) (hin : kin i n) (hdg : decode cc pc = .ok (.laload, 1))
    (kk : W p l e R s m args below meth c H locs cells slots Q (F0 m (pc + 1) ls (.long (f i.toNatClampNeg) :: rest))) : W p l e R s m args below meth c H locs cells slots Q (F0 m pc ls (.int i :: .ref a :: rest)) :=
  va_lald X.1 X.2.1 X.2.2.2.2.2.1.1 V.1 q0 t0 ha ht hin hdg kk
theorem k_iast {q0 n t0 : Nat} {cA : ClassId} {f : Nat → Int32} {i x : Int32} (X : kX p s m meth c args own cc nL rt D ty) (V : kW D A H0 H ws locs) (ha : ws[q0]? = some (a, .inl (cA, n, .inl f))) (ht : ty[t0]? = some (cA, .int)) (hin : kin i n) (hdg : decode cc pc = .ok (.iastore, 1))
    (kk : ∀ (H1 : Heap) (locs1 : List Loc), kW D A H0 H1 (ws.set q0 (a, .inl (cA, n, .inl (upd f i.toNatClampNeg x)))) locs1 → W p l e R s m args below meth c H1 locs1 cells slots Q (F0 m (pc + 1) ls rest)) : W p l e R s m args below meth c H locs cells slots Q (F0 m pc ls (.int x :: .int i :: .ref a :: rest)) :=
  va_iast X.1 X.2.1 X.2.2.2.2.2.1.1 V.1 V.2.1 V.2.2.1 q0 t0 ha ht hin hdg (fun H1 locs1 h1 h2 h3 => kk H1 locs1 ⟨h1, h2, h3, V.2.2.2⟩)
theorem k_bast {q0 n t0 : Nat} {cA : ClassId} {f : Nat → Int32} {i x : Int32} (X : kX p s m meth c args own cc nL rt D ty) (V : kW D A H0 H ws locs) (ha : ws[q0]? = some (a, .inl (cA, n, .inl f))) (ht : ty[t0]? = some (cA, .byte)) (hin : kin i n) (hdg : decode cc pc = .ok (.bastore, 1))
    (kk : ∀ (H1 : Heap) (locs1 : List Loc), kW D A H0 H1 (ws.set q0 (a, .inl (cA, n, .inl (upd f i.toNatClampNeg (vp_nar .byte x))))) locs1 → W p l e R s m args below meth c H1 locs1 cells slots Q (F0 m (pc + 1) ls rest)) : W p l e R s m args below meth c H locs cells slots Q (F0 m pc ls (.int x :: .int i :: .ref a :: rest)) :=
  va_bast X.1 X.2.1 X.2.2.2.2.2.1.1 V.1 V.2.1 V.2.2.1 q0 t0 ha ht hin hdg (fun H1 locs1 h1 h2 h3 => kk H1 locs1 ⟨h1, h2, h3, V.2.2.2⟩)
theorem k_alen {q0 t0 : Nat} {cA : ClassId} {x : vp_A} {ft : FieldType} {v : Int32} (X : kX p s m meth c args own cc nL rt D ty) (V : kW D A H0 H ws locs) (ha : ws[q0]? = some (a, .inl (cA, x))) (ht : ty[t0]? = some (cA, ft)) (hv : Int32.ofNat x.1 = v) (hdg : decode cc pc = .ok (.arraylength, 1))
    (kk : W p l e R s m args below meth c H locs cells slots Q (F0 m (pc + 1) ls (.int v :: rest))) : W p l e R s m args below meth c H locs cells slots Q (F0 m pc ls (.ref a :: rest)) :=
  va_alen X.1 X.2.1 X.2.2.2.2.2.1.1 V.1 q0 t0 ha ht hv hdg kk
theorem k_get {C : String} {T : u_T} {N ci index q0 : Nat} {fs : List Value} {v : Value} (k : Nat) (X : kX p s m meth c args own cc nL rt D ty) (V : kW D A H0 H ws locs) (hin : ∀ w ∈ u_ws C T N, w ∈ lw_tg) (hc : vwCl[ci]? = some (C, T, N)) (hk : k < N) (hD : (T k).1 = C) (hlink : Cond.fieldLink own index C (T k).2.1 (T k).2.2.1 ∈ lw_tg)
    (he : ws[q0]? = some (a, .inr (ci, fs))) (hv : fs[k]? = some v) (hdg : decode cc pc = .ok (.getfield index, 3))
    (kk : W p l e R s m args below meth c H locs cells slots Q (F0 m (pc + 3) ls (v :: rest))) : W p l e R s m args below meth c H locs cells slots Q (F0 m pc ls (.ref a :: rest)) :=
  va_get X.1 X.2.1 X.2.2.2.2.1 hin X.2.2.2.1 X.2.2.2.2.2.1.1 V.1 q0 he hc k hk (X.2.2.2.2.1 _ hlink) (fun x h => by rw [hD] at h; exact h) hv hdg kk
theorem k_put {C : String} {T : u_T} {N ci index q0 : Nat} {fs : List Value} {v : Value} {ft : FieldType} (k : Nat) (tyN : Nat → FieldType) (X : kX p s m meth c args own cc nL rt D ty) (V : kW D A H0 H ws locs) (hin : ∀ w ∈ u_ws C T N, w ∈ lw_tg) (hty : ∀ k, k < N → parseFieldDescriptor (T k).2.2.1 = some (tyN k)) (hnm : ∀ a, a < N → ∀ b, b < N → a ≠ b → (T a).2.1 ≠ (T b).2.1) (hc : vwCl[ci]? = some (C, T, N)) (hk : k < N) (hD : (T k).1 = C) (hlink : Cond.fieldLink own index C (T k).2.1 (T k).2.2.1 ∈ lw_tg) (hfin : (T k).2.2.2 = false) (hft : tyN k = ft)
    (he : ws[q0]? = some (a, .inr (ci, fs))) (hl : k < fs.length) (hn : narrow ft v = v) (hfit : fits ft v = true) (hdg : decode cc pc = .ok (.putfield index, 3))
    (kk : ∀ (H1 : Heap) (locs1 : List Loc), kW D A H0 H1 (ws.set q0 (a, .inr (ci, fs.set k v))) locs1 → W p l e R s m args below meth c H1 locs1 cells slots Q (F0 m (pc + 3) ls rest)) : W p l e R s m args below meth c H locs cells slots Q (F0 m pc ls (v :: .ref a :: rest)) :=
  va_put X.1 X.2.1 X.2.2.2.2.1 hin tyN hty hnm X.2.2.2.1 X.2.2.2.2.2.1.1 V.1 V.2.1 V.2.2.1 q0 he hc k hk (X.2.2.2.2.1 _ hlink) (fun x h => by rw [hD] at h; exact h) hfin (hft ▸ hty k hk) hn hfit hl hdg (fun H1 locs1 h1 h2 h3 => kk H1 locs1 ⟨h1, h2, h3, V.2.2.2⟩)
/-- a world behind a call: the callee's cells changed in place -/
theorem k_after {wc wc1 : va_W} {H1 : Heap} {locs1 : List Loc} (V : kW D A H0 H ws locs) (isC : List Nat) (hC : isC.map (fun i => ws[i]?) = wc.map some) (hwf : wc1.map Prod.fst = wc.map Prod.fst)
    (hk : ∀ q : Nat, q < H.size → ¬ va_A wc H.size q → H1[q]? = H[q]?) (hP1 : va_P D vwCl wc1 H1) (hS1 : va_S A H0 H1 locs1) : kW D A H0 H1 (kput ws isC wc1) locs1 := by
  obtain ⟨hP, hD, hS, hA⟩ := V
  have hlen : isC.length = wc.length := by have := congrArg List.length hC; simpa using this
  have hlen1 : isC.length = wc1.length := by have := congrArg List.length hwf; simp at this; omega
  have at' : ∀ (j k : Nat) (q : Nat × va_E), isC[j]? = some k → wc[j]? = some q → ws[k]? = some q := by
    intro j k q h1 h2
    have h3 : (isC.map (fun i => ws[i]?))[j]? = some (some q) := by rw [hC, List.getElem?_map, h2]; rfl
    rw [List.getElem?_map, h1] at h3
    exact Option.some.inj h3
  have key : ∀ (k : Nat) (q : Nat × va_E), (kput ws isC wc1)[k]? = some q → ∃ q0, ws[k]? = some q0 ∧ q0.1 = q.1 := by
    intro k q hq
    rcases kput_get isC wc1 ws k q hlen1 hq with ⟨j, h1, h2⟩ | ⟨h1, h2⟩
    · have h3 : (wc1.map Prod.fst)[j]? = some q.1 := by rw [List.getElem?_map, h2]; rfl
      rw [hwf, List.getElem?_map] at h3
      cases h4 : wc[j]? with
      | none => rw [h4] at h3; cases h3
      | some q0 =>
        rw [h4] at h3
        exact ⟨q0, at' j k q0 h1 h4, Option.some.inj h3⟩
    · exact ⟨q, h2, rfl⟩
  refine ⟨fun k q hq => ?_, ⟨fun i j x y hx hy hxy => ?_, fun k q hq => ?_⟩, hS1, hA⟩
  · rcases kput_get isC wc1 ws k q hlen1 hq with ⟨j, h1, h2⟩ | ⟨h1, h2⟩
    · exact hP1 j q h2
    · have hl := (hP k q h2).lt
      refine (hP k q h2).kept (hk q.1 hl (fun h => ?_))
      rcases h with ⟨k2, e, h⟩ | h
      · cases hi : isC[k2]? with
        | none =>
          have := (List.getElem?_eq_none_iff.mp hi)
          have h5 := (List.getElem?_eq_some_iff.mp h).1
          omega
        | some i =>
          have h4 := at' k2 i (q.1, e) hi h
          have hij := hD.1 k i q (q.1, e) h2 h4 rfl
          subst hij
          exact h1 (List.mem_of_getElem? hi)
      · omega
  · obtain ⟨x0, a1, a2⟩ := key i x hx
    obtain ⟨y0, b1, b2⟩ := key j y hy
    exact hD.1 i j x0 y0 a1 b1 (by rw [a2, b2]; exact hxy)
  · obtain ⟨q0, a1, a2⟩ := key k q hq
    rw [← a2]
    exact hD.2 k q0 a1
end KR
