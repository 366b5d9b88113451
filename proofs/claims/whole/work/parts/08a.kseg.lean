/-! ===== a world laid of groups: places, calls ===== -/
abbrev kii (i : Int32) (n : Nat) : Prop := ¬ (i < 0 ∨ n ≤ i.toNatClampNeg)
def soff : List va_W → Nat → Nat
  | [], _ => 0
  | _ :: _, 0 => 0
  | S :: r, i + 1 => S.length + soff r i
theorem seg_at : ∀ {segs : List va_W} {i j : Nat} {G : va_W} {q : Nat × va_E}, segs[i]? = some G → G[j]? = some q → (List.flatten segs)[soff segs i + j]? = some q
  | [], i, j, G, q, h, _ => by simp at h
  | S :: r, 0, j, G, q, h, h2 => by
    have e : S = G := by simpa using h
    subst e
    have hl := (List.getElem?_eq_some_iff.mp h2).1
    show (S ++ List.flatten r)[0 + j]? = some q
    rw [Nat.zero_add, List.getElem?_append_left hl]
    exact h2
  | S :: r, i + 1, j, G, q, h, h2 => by
    have h' : r[i]? = some G := by simpa using h
    have := seg_at h' h2
    show (S ++ List.flatten r)[S.length + soff r i + j]? = some q
    rw [List.getElem?_append_right (by omega)]
    rw [show S.length + soff r i + j - S.length = soff r i + j by omega]
    exact this
theorem seg_set : ∀ {segs : List va_W} {i j : Nat} {G : va_W} {q : Nat × va_E} (q' : Nat × va_E), segs[i]? = some G → G[j]? = some q → (List.flatten segs).set (soff segs i + j) q' = List.flatten (segs.set i (G.set j q'))
  | [], i, j, G, q, q', h, _ => by simp at h
  | S :: r, 0, j, G, q, q', h, h2 => by
    have e : S = G := by simpa using h
    subst e
    have hl := (List.getElem?_eq_some_iff.mp h2).1
    show (S ++ List.flatten r).set (0 + j) q' = (S.set j q') ++ List.flatten r
    rw [Nat.zero_add, List.set_append_left _ _ hl]
  | S :: r, i + 1, j, G, q, q', h, h2 => by
    have h' : r[i]? = some G := by simpa using h
    have := seg_set q' h' h2
    show (S ++ List.flatten r).set (S.length + soff r i + j) q' = S ++ List.flatten (r.set i (G.set j q'))
    rw [List.set_append_right _ _ (by omega), show S.length + soff r i + j - S.length = soff r i + j by omega, this]
theorem seg_inv : ∀ {segs : List va_W} {p : Nat} {q : Nat × va_E}, (List.flatten segs)[p]? = some q → ∃ (i j : Nat) (G : va_W), segs[i]? = some G ∧ G[j]? = some q ∧ p = soff segs i + j
  | [], p, q, h => by simp at h
  | S :: r, p, q, h => by
    have h : (S ++ List.flatten r)[p]? = some q := h
    by_cases hp : p < S.length
    · rw [List.getElem?_append_left hp] at h
      exact ⟨0, p, S, rfl, h, by show p = 0 + p; omega⟩
    · rw [List.getElem?_append_right (by omega)] at h
      obtain ⟨i, j, G, h1, h2, h3⟩ := seg_inv h
      exact ⟨i + 1, j, G, by simpa using h1, h2, by show p = S.length + soff r i + j; omega⟩
theorem seg_inj : ∀ {segs : List va_W} {i j i' j' : Nat} {G G' : va_W} {q q' : Nat × va_E}, segs[i]? = some G → G[j]? = some q → segs[i']? = some G' → G'[j']? = some q' → soff segs i + j = soff segs i' + j' → i = i'
  | [], i, j, i', j', G, G', q, q', h, _, _, _, _ => by simp at h
  | S :: r, 0, j, 0, j', G, G', q, q', _, _, _, _, _ => rfl
  | S :: r, 0, j, i' + 1, j', G, G', q, q', h1, h2, h3, h4, h5 => by
    have e : S = G := by simpa using h1
    subst e
    have hl := (List.getElem?_eq_some_iff.mp h2).1
    have h5 : 0 + j = S.length + soff r i' + j' := h5
    omega
  | S :: r, i + 1, j, 0, j', G, G', q, q', h1, h2, h3, h4, h5 => by
    have e : S = G' := by simpa using h3
    subst e
    have hl := (List.getElem?_eq_some_iff.mp h4).1
    have h5 : S.length + soff r i + j = 0 + j' := h5
    omega
  | S :: r, i + 1, j, i' + 1, j', G, G', q, q', h1, h2, h3, h4, h5 => by
    have h5 : S.length + soff r i + j = S.length + soff r i' + j' := h5
    have := seg_inj (segs := r) (by simpa using h1) h2 (by simpa using h3) h4 (by omega)
    omega
def kputL : List va_W → List Nat → List va_W → List va_W
  | ws, i :: is, x :: xs => kputL (ws.set i x) is xs
  | ws, _, _ => ws
def kFst : List va_W → List va_W → Prop
  | a :: as, b :: bs => a.map Prod.fst = b.map Prod.fst ∧ kFst as bs
  | [], [] => True
  | _, _ => False
theorem kFst_refl : ∀ (a : List va_W), kFst a a
  | [] => trivial
  | _ :: as => ⟨rfl, kFst_refl as⟩
theorem kFst_map : ∀ {a b : List va_W}, kFst a b → a.map (List.map Prod.fst) = b.map (List.map Prod.fst)
  | [], [], _ => rfl
  | a :: as, b :: bs, h => by
    show _ :: _ = _ :: _
    rw [h.1, kFst_map h.2]
  | [], _ :: _, h => by cases h
  | _ :: _, [], h => by cases h
theorem kputL_get : ∀ (is : List Nat) (xs ws : List va_W) (k : Nat) (q : va_W), is.length = xs.length → (kputL ws is xs)[k]? = some q → (∃ j : Nat, is[j]? = some k ∧ xs[j]? = some q) ∨ (k ∉ is ∧ ws[k]? = some q) := by
  intro is
  induction is with
  | nil => intro xs ws k q hl h; cases xs with
    | nil => exact Or.inr ⟨by simp, h⟩
    | cons => simp at hl
  | cons i is ih =>
    intro xs ws k q hl h
    cases xs with
    | nil => simp at hl
    | cons x xs =>
      have h : (kputL (ws.set i x) is xs)[k]? = some q := h
      rcases ih xs (ws.set i x) k q (by simpa using hl) h with ⟨j, h1, h2⟩ | ⟨h1, h2⟩
      · exact Or.inl ⟨j + 1, by simpa using h1, by simpa using h2⟩
      · by_cases hk : k = i
        · subst hk
          have hlt : k < ws.length := by
            have := (List.getElem?_eq_some_iff.mp h2).1
            simpa using this
          rw [List.getElem?_set_self hlt] at h2
          exact Or.inl ⟨0, rfl, h2⟩
        · rw [List.getElem?_set_ne (Ne.symm hk)] at h2
          exact Or.inr ⟨by simp [hk, h1], h2⟩
theorem kputL_fst : ∀ (is : List Nat) (xs ws : List va_W), (∀ (t i : Nat) (x : va_W), is[t]? = some i → xs[t]? = some x → (ws.map (List.map Prod.fst))[i]? = some (x.map Prod.fst)) → (kputL ws is xs).map (List.map Prod.fst) = ws.map (List.map Prod.fst) := by
  intro is
  induction is with
  | nil => intro xs ws h; cases xs <;> rfl
  | cons i is ih =>
    intro xs ws h
    cases xs with
    | nil => rfl
    | cons x xs =>
      have e : (ws.set i x).map (List.map Prod.fst) = ws.map (List.map Prod.fst) := by
        have h0 := h 0 i x rfl rfl
        rw [List.map_set]
        apply List.ext_getElem?
        intro k
        by_cases hk : k = i
        · subst hk
          have hl := (List.getElem?_eq_some_iff.mp h0).1
          rw [List.getElem?_set_self hl, h0]
        · rw [List.getElem?_set_ne (Ne.symm hk)]
      show (kputL (ws.set i x) is xs).map (List.map Prod.fst) = _
      rw [ih xs (ws.set i x) (fun t i' x' h1 h2 => by rw [e]; exact h (t + 1) i' x' (by simpa using h1) (by simpa using h2)), e]
theorem vaD_fst {A : Nat → Prop} {ws ws' : va_W} (e : ws'.map Prod.fst = ws.map Prod.fst) (h : va_D A ws) : va_D A ws' := by
  have key : ∀ (k : Nat) (q : Nat × va_E), ws'[k]? = some q → ∃ q0, ws[k]? = some q0 ∧ q0.1 = q.1 := by
    intro k q hq
    have h3 : (ws'.map Prod.fst)[k]? = some q.1 := by rw [List.getElem?_map, hq]; rfl
    rw [e, List.getElem?_map] at h3
    cases h4 : ws[k]? with
    | none => rw [h4] at h3; cases h3
    | some q0 => rw [h4] at h3; exact ⟨q0, rfl, Option.some.inj h3⟩
  refine ⟨fun i j x y hx hy hxy => ?_, fun k q hq => ?_⟩
  · obtain ⟨x0, a1, a2⟩ := key i x hx
    obtain ⟨y0, b1, b2⟩ := key j y hy
    exact h.1 i j x0 y0 a1 b1 (by rw [a2, b2]; exact hxy)
  · obtain ⟨q0, a1, a2⟩ := key k q hq
    rw [← a2]
    exact h.2 k q0 a1
theorem flat1 (G : va_W) : List.flatten [G] = G := by simp
section KSG
variable {p : Program} {l : Launch} {e : Env} {R : Room} {s : State} {m : MethodId} {args : Array Value} {below : List Frame} {meth : Method} {c : Code} {H : Heap} {locs : List Loc} {Q : State → Prop}
variable {own : String} {cc : ByteArray} {nL : Nat} {rt : Option FieldType} {D : va_G} {ty : List (ClassId × FieldType)} {A : Nat → Prop} {H0 : Heap} {segs : List va_W} {pc : Nat} {ls : Array Slot} {rest : List Value} {a cells slots i : Nat} {G : va_W}
theorem s_iald {j n t0 : Nat} {cA : ClassId} {f : Nat → Int32} {x : Int32} (X : kX p s m meth c args own cc nL rt D ty) (V : kW D A H0 H (List.flatten segs) locs) (hi : segs[i]? = some G) (ha : G[j]? = some (a, .inl (cA, n, .inl f))) (ht : ty[t0]? = some (cA, .int)) (hin : kin x n) (hdg : decode cc pc = .ok (.iaload, 1))
    (kk : W p l e R s m args below meth c H locs cells slots Q (F0 m (pc + 1) ls (.int (f x.toNatClampNeg) :: rest))) : W p l e R s m args below meth c H locs cells slots Q (F0 m pc ls (.int x :: .ref a :: rest)) :=
  k_iald X V (seg_at hi ha) ht hin hdg kk
theorem s_bald {j n t0 : Nat} {cA : ClassId} {f : Nat → Int32} {x : Int32} (X : kX p s m meth c args own cc nL rt D ty) (V : kW D A H0 H (List.flatten segs) locs) (hi : segs[i]? = some G) (ha : G[j]? = some (a, .inl (cA, n, .inl f))) (ht : ty[t0]? = some (cA, .byte)) (hin : kin x n) (hdg : decode cc pc = .ok (.baload, 1))
    (kk : W p l e R s m args below meth c H locs cells slots Q (F0 m (pc + 1) ls (.int (f x.toNatClampNeg) :: rest))) : W p l e R s m args below meth c H locs cells slots Q (F0 m pc ls (.int x :: .ref a :: rest)) :=
  k_bald X V (seg_at hi ha) ht hin hdg kk
theorem s_lald {j n t0 : Nat} {cA : ClassId} {f : Nat → Int64} {x : Int32} (X : kX p s m meth c args own cc nL rt D ty) (V : kW D A H0 H (List.flatten segs) locs) (hi : segs[i]? = some G) (ha : G[j]? = some (a, .inl (cA, n, .inr (.inl f)))) (ht : ty[t0]? = some (cA, .long)) (hin : kin x n) (hdg : decode cc pc = .ok (.laload, 1))
    (kk : W p l e R s m args below meth c H locs cells slots Q (F0 m (pc + 1) ls (.long (f x.toNatClampNeg) :: rest))) : W p l e R s m args below meth c H locs cells slots Q (F0 m pc ls (.int x :: .ref a :: rest)) :=
  k_lald X V (seg_at hi ha) ht hin hdg kk
theorem s_iast {j n t0 : Nat} {cA : ClassId} {f : Nat → Int32} {x v : Int32} {G' : va_W} (X : kX p s m meth c args own cc nL rt D ty) (V : kW D A H0 H (List.flatten segs) locs) (hi : segs[i]? = some G) (ha : G[j]? = some (a, .inl (cA, n, .inl f))) (ht : ty[t0]? = some (cA, .int)) (hG : G.set j (a, .inl (cA, n, .inl (upd f x.toNatClampNeg v))) = G') (hin : kin x n) (hdg : decode cc pc = .ok (.iastore, 1))
    (kk : ∀ (H1 : Heap) (locs1 : List Loc), kW D A H0 H1 (List.flatten (segs.set i G')) locs1 → W p l e R s m args below meth c H1 locs1 cells slots Q (F0 m (pc + 1) ls rest)) : W p l e R s m args below meth c H locs cells slots Q (F0 m pc ls (.int v :: .int x :: .ref a :: rest)) :=
  k_iast X V (seg_at hi ha) ht hin hdg (fun H1 locs1 V1 => kk H1 locs1 (by rw [seg_set _ hi ha, hG] at V1; exact V1))
theorem s_bast {j n t0 : Nat} {cA : ClassId} {f : Nat → Int32} {x v : Int32} {G' : va_W} (X : kX p s m meth c args own cc nL rt D ty) (V : kW D A H0 H (List.flatten segs) locs) (hi : segs[i]? = some G) (ha : G[j]? = some (a, .inl (cA, n, .inl f))) (ht : ty[t0]? = some (cA, .byte)) (hG : G.set j (a, .inl (cA, n, .inl (upd f x.toNatClampNeg (vp_nar .byte v)))) = G') (hin : kin x n) (hdg : decode cc pc = .ok (.bastore, 1))
    (kk : ∀ (H1 : Heap) (locs1 : List Loc), kW D A H0 H1 (List.flatten (segs.set i G')) locs1 → W p l e R s m args below meth c H1 locs1 cells slots Q (F0 m (pc + 1) ls rest)) : W p l e R s m args below meth c H locs cells slots Q (F0 m pc ls (.int v :: .int x :: .ref a :: rest)) :=
  k_bast X V (seg_at hi ha) ht hin hdg (fun H1 locs1 V1 => kk H1 locs1 (by rw [seg_set _ hi ha, hG] at V1; exact V1))
theorem k_last {q0 n t0 : Nat} {ws : va_W} {cA : ClassId} {f : Nat → Int64} {i : Int32} {x : Int64} (X : kX p s m meth c args own cc nL rt D ty) (V : kW D A H0 H ws locs) (ha : ws[q0]? = some (a, .inl (cA, n, .inr (.inl f)))) (ht : ty[t0]? = some (cA, .long)) (hin : kin i n) (hdg : decode cc pc = .ok (.lastore, 1))
    (kk : ∀ (H1 : Heap) (locs1 : List Loc), kW D A H0 H1 (ws.set q0 (a, .inl (cA, n, .inr (.inl (vp_updL f i.toNatClampNeg x))))) locs1 → W p l e R s m args below meth c H1 locs1 cells slots Q (F0 m (pc + 1) ls rest)) : W p l e R s m args below meth c H locs cells slots Q (F0 m pc ls (.long x :: .int i :: .ref a :: rest)) :=
  va_last X.1 X.2.1 X.2.2.2.2.2.1.1 V.1 V.2.1 V.2.2.1 q0 t0 ha ht hin hdg (fun H1 locs1 h1 h2 h3 => kk H1 locs1 ⟨h1, h2, h3, V.2.2.2⟩)
theorem s_last {j n t0 : Nat} {cA : ClassId} {f : Nat → Int64} {x : Int32} {v : Int64} {G' : va_W} (X : kX p s m meth c args own cc nL rt D ty) (V : kW D A H0 H (List.flatten segs) locs) (hi : segs[i]? = some G) (ha : G[j]? = some (a, .inl (cA, n, .inr (.inl f)))) (ht : ty[t0]? = some (cA, .long)) (hG : G.set j (a, .inl (cA, n, .inr (.inl (vp_updL f x.toNatClampNeg v)))) = G') (hin : kin x n) (hdg : decode cc pc = .ok (.lastore, 1))
    (kk : ∀ (H1 : Heap) (locs1 : List Loc), kW D A H0 H1 (List.flatten (segs.set i G')) locs1 → W p l e R s m args below meth c H1 locs1 cells slots Q (F0 m (pc + 1) ls rest)) : W p l e R s m args below meth c H locs cells slots Q (F0 m pc ls (.long v :: .int x :: .ref a :: rest)) :=
  k_last X V (seg_at hi ha) ht hin hdg (fun H1 locs1 V1 => kk H1 locs1 (by rw [seg_set _ hi ha, hG] at V1; exact V1))
theorem s_alen {j t0 : Nat} {cA : ClassId} {x : vp_A} {ft : FieldType} {v : Int32} (X : kX p s m meth c args own cc nL rt D ty) (V : kW D A H0 H (List.flatten segs) locs) (hi : segs[i]? = some G) (ha : G[j]? = some (a, .inl (cA, x))) (ht : ty[t0]? = some (cA, ft)) (hv : Int32.ofNat x.1 = v) (hdg : decode cc pc = .ok (.arraylength, 1))
    (kk : W p l e R s m args below meth c H locs cells slots Q (F0 m (pc + 1) ls (.int v :: rest))) : W p l e R s m args below meth c H locs cells slots Q (F0 m pc ls (.ref a :: rest)) :=
  k_alen X V (seg_at hi ha) ht hv hdg kk
theorem s_get {C : String} {T : u_T} {N ci index : Nat} {fs : List Value} {v : Value} (k : Nat) (X : kX p s m meth c args own cc nL rt D ty) (V : kW D A H0 H (List.flatten segs) locs) (hi : segs[i]? = some G) (hin : ∀ w ∈ u_ws C T N, w ∈ lw_tg) (hc : vwCl[ci]? = some (C, T, N)) (hk : k < N) (hD : (T k).1 = C) (hlink : Cond.fieldLink own index C (T k).2.1 (T k).2.2.1 ∈ lw_tg)
    (he : G[0]? = some (a, .inr (ci, fs))) (hv : fs[k]? = some v) (hdg : decode cc pc = .ok (.getfield index, 3))
    (kk : W p l e R s m args below meth c H locs cells slots Q (F0 m (pc + 3) ls (v :: rest))) : W p l e R s m args below meth c H locs cells slots Q (F0 m pc ls (.ref a :: rest)) :=
  k_get k X V hin hc hk hD hlink (seg_at hi he) hv hdg kk
theorem s_put {C : String} {T : u_T} {N ci index : Nat} {fs : List Value} {v : Value} {ft : FieldType} {G' : va_W} (k : Nat) (tyN : Nat → FieldType) (X : kX p s m meth c args own cc nL rt D ty) (V : kW D A H0 H (List.flatten segs) locs) (hi : segs[i]? = some G) (hin : ∀ w ∈ u_ws C T N, w ∈ lw_tg) (hty : ∀ k, k < N → parseFieldDescriptor (T k).2.2.1 = some (tyN k)) (hnm : ∀ a, a < N → ∀ b, b < N → a ≠ b → (T a).2.1 ≠ (T b).2.1) (hc : vwCl[ci]? = some (C, T, N)) (hk : k < N) (hD : (T k).1 = C) (hlink : Cond.fieldLink own index C (T k).2.1 (T k).2.2.1 ∈ lw_tg) (hfin : (T k).2.2.2 = false) (hft : tyN k = ft)
    (he : G[0]? = some (a, .inr (ci, fs))) (hl : k < fs.length) (hn : narrow ft v = v) (hfit : fits ft v = true) (hG : G.set 0 (a, .inr (ci, fs.set k v)) = G') (hdg : decode cc pc = .ok (.putfield index, 3))
    (kk : ∀ (H1 : Heap) (locs1 : List Loc), kW D A H0 H1 (List.flatten (segs.set i G')) locs1 → W p l e R s m args below meth c H1 locs1 cells slots Q (F0 m (pc + 3) ls rest)) : W p l e R s m args below meth c H locs cells slots Q (F0 m pc ls (v :: .ref a :: rest)) :=
  k_put k tyN X V hin hty hnm hc hk hD hlink hfin hft (seg_at hi he) hl hn hfit hdg (fun H1 locs1 V1 => kk H1 locs1 (by rw [seg_set _ hi he, hG] at V1; exact V1))
variable {y : MethodName} {cc2 : ByteArray} {nL2 idx n f2 lo2 : Nat} {rt2 : Option FieldType} {b : Addr} {As : List Value} {wcs wcs1 segs' : List va_W}
/-- the callee's groups among the caller's -/
theorem seg_cut (is : List Nat) (hC : is.map (fun i => segs[i]?) = wcs.map some) : ∀ (t i : Nat) (S : va_W), is[t]? = some i → wcs[t]? = some S → segs[i]? = some S := by
  intro t i S h1 h2
  have h3 : (is.map (fun i => segs[i]?))[t]? = some (some S) := by rw [hC, List.getElem?_map, h2]; rfl
  rw [List.getElem?_map, h1] at h3
  exact Option.some.inj h3
theorem seg_back (is : List Nat) (hC : is.map (fun i => segs[i]?) = wcs.map some) {k : Nat} {q : Nat × va_E} (h : (List.flatten wcs)[k]? = some q) : ∃ (t i j : Nat) (S : va_W), is[t]? = some i ∧ wcs[t]? = some S ∧ segs[i]? = some S ∧ S[j]? = some q ∧ k = soff wcs t + j := by
  obtain ⟨t, j, S, h1, h2, h3⟩ := seg_inv h
  have hlen : is.length = wcs.length := by have := congrArg List.length hC; simpa using this
  have hlt := (List.getElem?_eq_some_iff.mp h1).1
  have hi : is[t]? = some (is[t]'(by omega)) := List.getElem?_eq_getElem (by omega)
  exact ⟨t, _, j, S, hi, h1, seg_cut is hC t _ S hi h1, h2, h3⟩
theorem seg_P (is : List Nat) (hC : is.map (fun i => segs[i]?) = wcs.map some) (h : va_P D vwCl (List.flatten segs) H) : va_P D vwCl (List.flatten wcs) H := by
  intro k q hk
  obtain ⟨t, i, j, S, -, -, h3, h4, -⟩ := seg_back is hC hk
  exact h _ q (seg_at h3 h4)
theorem nd_inj : ∀ {is : List Nat}, va_nd is = true → ∀ (t t' i : Nat), is[t]? = some i → is[t']? = some i → t = t'
  | [], _, t, t', i, h, _ => by simp at h
  | x :: r, hn, 0, 0, i, _, _ => rfl
  | x :: r, hn, 0, t' + 1, i, h, h' => by
    have e : x = i := by simpa using h
    have h' : r[t']? = some i := by simpa using h'
    have hm := List.mem_of_getElem? h'
    simp [va_nd] at hn
    exact absurd (e ▸ hm) hn.1
  | x :: r, hn, t + 1, 0, i, h, h' => by
    have e : x = i := by simpa using h'
    have h : r[t]? = some i := by simpa using h
    have hm := List.mem_of_getElem? h
    simp [va_nd] at hn
    exact absurd (e ▸ hm) hn.1
  | x :: r, hn, t + 1, t' + 1, i, h, h' => by
    simp [va_nd] at hn
    have := nd_inj (is := r) hn.2 t t' i (by simpa using h) (by simpa using h')
    omega
theorem seg_D (is : List Nat) (hC : is.map (fun i => segs[i]?) = wcs.map some) (hn : va_nd is = true) (h : va_D A (List.flatten segs)) : va_D A (List.flatten wcs) := by
  refine ⟨fun k k' q q' hk hk' hq => ?_, fun k q hk => ?_⟩
  · obtain ⟨t, i, j, S, a1, a2, a3, a4, a5⟩ := seg_back is hC hk
    obtain ⟨t', i', j', S', b1, b2, b3, b4, b5⟩ := seg_back is hC hk'
    have hp := h.1 _ _ q q' (seg_at a3 a4) (seg_at b3 b4) hq
    have hii := seg_inj a3 a4 b3 b4 hp
    subst hii
    have htt := nd_inj hn t t' i a1 b1
    subst htt
    omega
  · obtain ⟨t, i, j, S, -, -, h3, h4, -⟩ := seg_back is hC hk
    exact h.2 _ q (seg_at h3 h4)
theorem seg_free (is : List Nat) (hC : is.map (fun i => segs[i]?) = wcs.map some) (V : kW D A H0 H (List.flatten segs) locs) : ∀ q, va_A (List.flatten wcs) H.size q → A q := by
  intro q h
  rcases h with ⟨k, e, h⟩ | h
  · obtain ⟨t, i, j, S, -, -, h3, h4, -⟩ := seg_back is hC h
    exact V.2.1.2 _ _ (seg_at h3 h4)
  · exact V.2.2.2 q (Nat.le_trans V.2.2.1.1 h)
theorem seg_after {H1 : Heap} {locs1 : List Loc} (V : kW D A H0 H (List.flatten segs) locs) (is : List Nat) (hC : is.map (fun i => segs[i]?) = wcs.map some) (hwf : kFst wcs1 wcs)
    (hk : ∀ q : Nat, q < H.size → ¬ va_A (List.flatten wcs) H.size q → H1[q]? = H[q]?) (hP1 : va_P D vwCl (List.flatten wcs1) H1) (hS1 : va_S A H0 H1 locs1) : kW D A H0 H1 (List.flatten (kputL segs is wcs1)) locs1 := by
  obtain ⟨hP, hD, hS, hA⟩ := V
  have hlen : is.length = wcs.length := by have := congrArg List.length hC; simpa using this
  have hlen1 : is.length = wcs1.length := by have := congrArg List.length (kFst_map hwf); simp at this; omega
  have hf : (kputL segs is wcs1).map (List.map Prod.fst) = segs.map (List.map Prod.fst) := by
    refine kputL_fst is wcs1 segs (fun t i x h1 h2 => ?_)
    have h3 : (wcs1.map (List.map Prod.fst))[t]? = some (x.map Prod.fst) := by rw [List.getElem?_map, h2]; rfl
    rw [kFst_map hwf, List.getElem?_map] at h3
    cases h4 : wcs[t]? with
    | none => rw [h4] at h3; cases h3
    | some S =>
      rw [h4] at h3
      rw [List.getElem?_map, seg_cut is hC t i S h1 h4]
      exact h3
  refine ⟨fun k q hq => ?_, vaD_fst (by rw [List.map_flatten, List.map_flatten, hf]) hD, hS1, hA⟩
  obtain ⟨i, j, S, g1, g2, g3⟩ := seg_inv hq
  rcases kputL_get is wcs1 segs i S hlen1 g1 with ⟨t, h1, h2⟩ | ⟨h1, h2⟩
  · exact hP1 _ q (seg_at h2 g2)
  · have hat := hP _ q (seg_at h2 g2)
    refine hat.kept (hk q.1 hat.lt (fun h => ?_))
    rcases h with ⟨k2, e, h⟩ | h
    · obtain ⟨t, i2, j2, S2, a1, a2, a3, a4, a5⟩ := seg_back is hC h
      have hp := hD.1 _ _ q (q.1, e) (seg_at h2 g2) (seg_at a3 a4) rfl
      have hii := seg_inj h2 g2 a3 a4 hp
      subst hii
      exact h1 (List.mem_of_getElem? a1)
    · exact absurd hat.lt (by omega)
theorem s_runV {Qc : Array Value → State → Outcome → State → Prop} {ci i0 : Nat} {fs : List Value} {tq : vw_C} (X : kX p s m meth c args own cc nL rt D ty) (V : kW D A H0 H (List.flatten segs) locs) (hM : Met l y (.code y cc2 nL2 rt2 :: lw_tg) (kR f2 lo2) (va_Pc (.ref b :: As) (kB D ty (List.flatten wcs) H.size)) Qc 0 0 (va_A (List.flatten wcs) H.size)) (cw : kCW own idx y cc2 nL2 rt2 n)
    (hR : f2 + 1 ≤ R.frames ∧ 8 + (nL2 + 11) + lo2 ≤ R.locals) (hcs : cells ≤ R.cells ∧ slots ≤ R.slots) (hn : As.length = n) (hrc : vwCl[ci]? = some tq) (htq : tq.1 = y.cls) (hrv : (List.flatten wcs)[i0]? = some (b, .inr (ci, fs))) (is : List Nat) (hC : is.map (fun i => segs[i]?) = wcs.map some) (hnd : va_nd is = true) (hls : ls.size = nL) (hcat : (rest.map fun v => v.category).sum ≤ 8) (hdg : decode cc pc = .ok (.invokevirtual idx, 3)) :
    va_Run p l e R s m args below meth c H locs cells slots 0 0 (F0 m pc ls (As.reverse ++ .ref b :: rest)) rest (Qc (Value.ref b :: As).toArray) (va_A (List.flatten wcs) H.size) := by
  obtain ⟨w1, w2, w3, w4, w5, w6⟩ := cw
  have hPc := seg_P is hC V.1
  have hDc := seg_D is hC hnd V.2.1
  exact va_runV ⟨X.1, X.2.1, X.2.2.1, X.2.2.2.1, X.2.2.2.2.1⟩ hM ⟨callB_of n X.2.2.2.2.1 (tbl_goodIn w1) rfl rfl rfl (X.2.2.2.2.1 _ w2) (X.2.2.2.2.1 _ w3) w6 hR, X.2.2.2.2.1 _ w4, X.2.2.2.2.1 _ w5⟩
    ⟨kB_blind, by rw [← htq]; exact va_recv X.2.2.2.2.2.1.1 hPc hrc hrv, fun U hU hW => ⟨rfl, by rw [hU], by rw [hU]; exact hPc, ⟨va_K.moved hW.alike X.2.2.2.2.2.1.1, kN_warm hW X.2.2.2.2.2.1.2⟩, hDc.weaken (fun _ _ _ _ => trivial)⟩⟩ rfl hn hls rfl (lv_room hcat) hdg hcs
theorem s_callVi {r : Int32} {st : List Value} {ci i0 : Nat} {fs : List Value} {tq : vw_C} (X : kX p s m meth c args own cc nL rt D ty) (V : kW D A H0 H (List.flatten segs) locs) (hM : kMi l y cc2 nL2 rt2 (kR f2 lo2) D ty (.ref b :: As) (List.flatten wcs) r (List.flatten wcs1)) (cw : kCW own idx y cc2 nL2 rt2 n)
    (hR : f2 + 1 ≤ R.frames ∧ 8 + (nL2 + 11) + lo2 ≤ R.locals) (hcs : cells ≤ R.cells ∧ slots ≤ R.slots) (hn : As.length = n) (hrc : vwCl[ci]? = some tq) (htq : tq.1 = y.cls) (hrv : (List.flatten wcs)[i0]? = some (b, .inr (ci, fs))) (is : List Nat) (hC : is.map (fun i => segs[i]?) = wcs.map some) (hnd : va_nd is = true) (hwf : kFst wcs1 wcs) (hw' : kputL segs is wcs1 = segs') (hst : As.reverse ++ .ref b :: rest = st) (hls : ls.size = nL) (hcat : (rest.map fun v => v.category).sum ≤ 8) (hdg : decode cc pc = .ok (.invokevirtual idx, 3))
    (kk : ∀ H1 locs1, kW D A H0 H1 (List.flatten segs') locs1 → W p l e R s m args below meth c H1 locs1 cells slots Q (F0 m (pc + 3) ls (.int r :: rest))) : W p l e R s m args below meth c H locs cells slots Q (F0 m pc ls st) := by
  subst hst
  subst hw'
  exact va_calli (s_runV X V (hM H.size) cw hR hcs hn hrc htq hrv is hC hnd hls hcat hdg) V.2.2.1 (fun q _ h => seg_free is hC V q h) (seg_free is hC V) (fun r1 u t H1 locs1 ht hvm hw hB hz1 hk1 hS => by
    rw [hw]
    exact kk H1 locs1 (seg_after V is hC hwf hk1 (by rw [← ht]; exact hB) hS))
theorem s_callVl {r : Int64} {st : List Value} {ci i0 : Nat} {fs : List Value} {tq : vw_C} (X : kX p s m meth c args own cc nL rt D ty) (V : kW D A H0 H (List.flatten segs) locs) (hM : kMl l y cc2 nL2 rt2 (kR f2 lo2) D ty (.ref b :: As) (List.flatten wcs) r (List.flatten wcs1)) (cw : kCW own idx y cc2 nL2 rt2 n)
    (hR : f2 + 1 ≤ R.frames ∧ 8 + (nL2 + 11) + lo2 ≤ R.locals) (hcs : cells ≤ R.cells ∧ slots ≤ R.slots) (hn : As.length = n) (hrc : vwCl[ci]? = some tq) (htq : tq.1 = y.cls) (hrv : (List.flatten wcs)[i0]? = some (b, .inr (ci, fs))) (is : List Nat) (hC : is.map (fun i => segs[i]?) = wcs.map some) (hnd : va_nd is = true) (hwf : kFst wcs1 wcs) (hw' : kputL segs is wcs1 = segs') (hst : As.reverse ++ .ref b :: rest = st) (hls : ls.size = nL) (hcat : (rest.map fun v => v.category).sum ≤ 8) (hdg : decode cc pc = .ok (.invokevirtual idx, 3))
    (kk : ∀ H1 locs1, kW D A H0 H1 (List.flatten segs') locs1 → W p l e R s m args below meth c H1 locs1 cells slots Q (F0 m (pc + 3) ls (.long r :: rest))) : W p l e R s m args below meth c H locs cells slots Q (F0 m pc ls st) := by
  subst hst
  subst hw'
  exact va_calll (s_runV X V (hM H.size) cw hR hcs hn hrc htq hrv is hC hnd hls hcat hdg) V.2.2.1 (fun q _ h => seg_free is hC V q h) (seg_free is hC V) (fun r1 u t H1 locs1 ht hvm hw hB hz1 hk1 hS => by
    rw [hw]
    exact kk H1 locs1 (seg_after V is hC hwf hk1 (by rw [← ht]; exact hB) hS))
theorem s_callVv {st : List Value} {ci i0 : Nat} {fs : List Value} {tq : vw_C} (X : kX p s m meth c args own cc nL rt D ty) (V : kW D A H0 H (List.flatten segs) locs) (hM : kMv l y cc2 nL2 rt2 (kR f2 lo2) D ty (.ref b :: As) (List.flatten wcs) (List.flatten wcs1)) (cw : kCW own idx y cc2 nL2 rt2 n)
    (hR : f2 + 1 ≤ R.frames ∧ 8 + (nL2 + 11) + lo2 ≤ R.locals) (hcs : cells ≤ R.cells ∧ slots ≤ R.slots) (hn : As.length = n) (hrc : vwCl[ci]? = some tq) (htq : tq.1 = y.cls) (hrv : (List.flatten wcs)[i0]? = some (b, .inr (ci, fs))) (is : List Nat) (hC : is.map (fun i => segs[i]?) = wcs.map some) (hnd : va_nd is = true) (hwf : kFst wcs1 wcs) (hw' : kputL segs is wcs1 = segs') (hst : As.reverse ++ .ref b :: rest = st) (hls : ls.size = nL) (hcat : (rest.map fun v => v.category).sum ≤ 8) (hdg : decode cc pc = .ok (.invokevirtual idx, 3))
    (kk : ∀ H1 locs1, kW D A H0 H1 (List.flatten segs') locs1 → W p l e R s m args below meth c H1 locs1 cells slots Q (F0 m (pc + 3) ls rest)) : W p l e R s m args below meth c H locs cells slots Q (F0 m pc ls st) := by
  subst hst
  subst hw'
  exact va_callv (s_runV X V (hM H.size) cw hR hcs hn hrc htq hrv is hC hnd hls hcat hdg) V.2.2.1 (fun q _ h => seg_free is hC V q h) (seg_free is hC V) (fun u t H1 locs1 ht hvm hw hB hz1 hk1 hS => kk H1 locs1 (seg_after V is hC hwf hk1 (by rw [← ht]; exact hB) hS))
theorem s_pre (X : kX p s m meth c args own cc nL rt D ty) (V : kW D A H0 H (List.flatten segs) locs) (is : List Nat) (hC : is.map (fun i => segs[i]?) = wcs.map some) (hnd : va_nd is = true) : PreS s H (va_Pc As (kB D ty (List.flatten wcs) H.size)) As :=
  ⟨kB_blind, fun U hU hW => ⟨rfl, by rw [hU], by rw [hU]; exact seg_P is hC V.1, ⟨va_K.moved hW.alike X.2.2.2.2.2.1.1, kN_warm hW X.2.2.2.2.2.1.2⟩, (seg_D is hC hnd V.2.1).weaken (fun _ _ _ _ => trivial)⟩⟩
theorem s_callSi {r : Int32} {st : List Value} (X : kX p s m meth c args own cc nL rt D ty) (V : kW D A H0 H (List.flatten segs) locs) (hM : kMi l y cc2 nL2 rt2 (kR f2 lo2) D ty As (List.flatten wcs) r (List.flatten wcs1)) (cw : kCS own idx y cc2 nL2 rt2 n)
    (hR : f2 + 1 ≤ R.frames ∧ 8 + (nL2 + 11) + lo2 ≤ R.locals) (hcs : cells ≤ R.cells ∧ slots ≤ R.slots) (hn : As.length = n) (is : List Nat) (hC : is.map (fun i => segs[i]?) = wcs.map some) (hnd : va_nd is = true) (hwf : kFst wcs1 wcs) (hw' : kputL segs is wcs1 = segs') (hst : As.reverse ++ rest = st) (hls : ls.size = nL) (hcat : (rest.map fun v => v.category).sum ≤ 8) (hdg : decode cc pc = .ok (.invokestatic idx, 3))
    (kk : ∀ H1 locs1, kW D A H0 H1 (List.flatten segs') locs1 → W p l e R s m args below meth c H1 locs1 cells slots Q (F0 m (pc + 3) ls (.int r :: rest))) : W p l e R s m args below meth c H locs cells slots Q (F0 m pc ls st) := by
  subst hst
  subst hw'
  obtain ⟨w1, w2, w3, w4, w6⟩ := cw
  exact va_calli (va_runS ⟨X.1, X.2.1, X.2.2.1, X.2.2.2.1, X.2.2.2.2.1⟩ (hM H.size) ⟨callB_of n X.2.2.2.2.1 (tbl_goodIn w1) rfl rfl rfl (X.2.2.2.2.1 _ w2) (X.2.2.2.2.1 _ w3) w6 hR, X.2.2.2.2.1 _ w4⟩ (s_pre X V is hC hnd) rfl hn hls rfl (lv_room hcat) hdg hcs) V.2.2.1 (fun q _ h => seg_free is hC V q h) (seg_free is hC V) (fun r1 u t H1 locs1 ht hvm hw hB hz1 hk1 hS => by
    rw [hw]
    exact kk H1 locs1 (seg_after V is hC hwf hk1 (by rw [← ht]; exact hB) hS))
theorem s_callSl {r : Int64} {st : List Value} (X : kX p s m meth c args own cc nL rt D ty) (V : kW D A H0 H (List.flatten segs) locs) (hM : kMl l y cc2 nL2 rt2 (kR f2 lo2) D ty As (List.flatten wcs) r (List.flatten wcs1)) (cw : kCS own idx y cc2 nL2 rt2 n)
    (hR : f2 + 1 ≤ R.frames ∧ 8 + (nL2 + 11) + lo2 ≤ R.locals) (hcs : cells ≤ R.cells ∧ slots ≤ R.slots) (hn : As.length = n) (is : List Nat) (hC : is.map (fun i => segs[i]?) = wcs.map some) (hnd : va_nd is = true) (hwf : kFst wcs1 wcs) (hw' : kputL segs is wcs1 = segs') (hst : As.reverse ++ rest = st) (hls : ls.size = nL) (hcat : (rest.map fun v => v.category).sum ≤ 8) (hdg : decode cc pc = .ok (.invokestatic idx, 3))
    (kk : ∀ H1 locs1, kW D A H0 H1 (List.flatten segs') locs1 → W p l e R s m args below meth c H1 locs1 cells slots Q (F0 m (pc + 3) ls (.long r :: rest))) : W p l e R s m args below meth c H locs cells slots Q (F0 m pc ls st) := by
  subst hst
  subst hw'
  obtain ⟨w1, w2, w3, w4, w6⟩ := cw
  exact va_calll (va_runS ⟨X.1, X.2.1, X.2.2.1, X.2.2.2.1, X.2.2.2.2.1⟩ (hM H.size) ⟨callB_of n X.2.2.2.2.1 (tbl_goodIn w1) rfl rfl rfl (X.2.2.2.2.1 _ w2) (X.2.2.2.2.1 _ w3) w6 hR, X.2.2.2.2.1 _ w4⟩ (s_pre X V is hC hnd) rfl hn hls rfl (lv_room hcat) hdg hcs) V.2.2.1 (fun q _ h => seg_free is hC V q h) (seg_free is hC V) (fun r1 u t H1 locs1 ht hvm hw hB hz1 hk1 hS => by
    rw [hw]
    exact kk H1 locs1 (seg_after V is hC hwf hk1 (by rw [← ht]; exact hB) hS))
theorem s_callNi {host : String} {r : Int32} {st : List Value} (X : kX p s m meth c args own cc nL rt D ty) (V : kW D A H0 H (List.flatten segs) locs) (hM : kMi l y cc2 nL2 rt2 (kR f2 lo2) D ty As (List.flatten wcs) r (List.flatten wcs1)) (cw : kCN own idx y host cc2 nL2 rt2 n)
    (hR : f2 + 1 ≤ R.frames ∧ 8 + (nL2 + 11) + lo2 ≤ R.locals) (hcs : cells ≤ R.cells ∧ slots ≤ R.slots) (hn : As.length = n) (is : List Nat) (hC : is.map (fun i => segs[i]?) = wcs.map some) (hnd : va_nd is = true) (hwf : kFst wcs1 wcs) (hw' : kputL segs is wcs1 = segs') (hst : As.reverse ++ rest = st) (hls : ls.size = nL) (hcat : (rest.map fun v => v.category).sum ≤ 8) (hdg : decode cc pc = .ok (.invokestatic idx, 3))
    (kk : ∀ H1 locs1, kW D A H0 H1 (List.flatten segs') locs1 → W p l e R s m args below meth c H1 locs1 cells slots Q (F0 m (pc + 3) ls (.int r :: rest))) : W p l e R s m args below meth c H locs cells slots Q (F0 m pc ls st) := by
  subst hst
  subst hw'
  obtain ⟨w1, w2, w3, w4, w6⟩ := cw
  exact va_calli (va_runSN ⟨X.1, X.2.1, X.2.2.1, X.2.2.2.1, X.2.2.2.2.1⟩ (hM H.size) ⟨va_cnB n X.2.2.2.2.1 (tbl_goodIn w1) rfl rfl rfl (X.2.2.2.2.2.1.2 _ w3) (X.2.2.2.2.1 _ w2) w6 hR, X.2.2.2.2.1 _ w4, trivial⟩ (s_pre X V is hC hnd) rfl hn hls rfl (lv_room hcat) hdg hcs) V.2.2.1 (fun q _ h => seg_free is hC V q h) (seg_free is hC V) (fun r1 u t H1 locs1 ht hvm hw hB hz1 hk1 hS => by
    rw [hw]
    exact kk H1 locs1 (seg_after V is hC hwf hk1 (by rw [← ht]; exact hB) hS))
end KSG
