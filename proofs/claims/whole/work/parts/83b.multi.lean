/-! ===== constructors: 'multianewarray' of two dimensions ===== -/
theorem n_outer (c : ClassId) (N h0 : Nat) : ∀ i : Nat, Jvm.Free.Multi.outerC c N h0 i = arrV c N (fun j => va_rf (if j < i then some (h0 + 1 + j) else none)) := by
  intro i
  induction i with
  | zero =>
    have e : (fun j => va_rf (if j < 0 then some (h0 + 1 + j) else none)) = fun _ : Nat => Value.null := by
      funext j
      rw [if_neg (Nat.not_lt_zero _)]
      rfl
    rw [e]
    exact arrV_new c N .null
  | succ i ih =>
    have e : Jvm.Free.Multi.outerC c N h0 (i + 1) = (Jvm.Free.Multi.outerC c N h0 i).setSlot i (.ref (h0 + 1 + i)) := rfl
    rw [e, ih, arrV_store]
    refine congrArg (arrV c N) (funext fun j => ?_)
    unfold updV
    by_cases q : j = i
    · subst q
      rw [if_pos rfl, if_pos (Nat.lt_succ_self _)]
      rfl
    · rw [if_neg q]
      dsimp only
      by_cases w : j < i
      · rw [if_pos w, if_pos (by omega)]
      · rw [if_neg w, if_neg (by omega)]
theorem n_inner (c : ClassId) (N : Nat) : Jvm.Free.Multi.innerC c N (defaultValue .int) = vp_cell c (N, .inl (fun _ => 0)) := arrV_new c N (.int 0)
section KM
variable {p : Program} {l : Launch} {e : Env} {R : Room} {s : State} {m : MethodId} {args : Array Value} {below : List Frame} {meth : Method} {c : Code} {H : Heap} {locs : List Loc} {Q : State → Prop}
variable {own : String} {cc : ByteArray} {nL : Nat} {rt : Option FieldType} {D : va_G} {g : kG} {A : Nat → Prop} {H0 : Heap} {ws : va_W} {pc : Nat} {ls : Array Slot} {rest : List Value} {a cells slots : Nat}
/-- the rows of a new array of arrays -/
def n_rows (g : kG) (q : Nat) : va_W := (List.range 20).map (fun i => (q + 1 + i, .inl (g.1, 129, .inl (fun _ => 0))))
theorem n_rows_at {g : kG} {q k : Nat} {x : Nat × va_E} (h : (n_rows g q)[k]? = some x) : k < 20 ∧ x = (q + 1 + k, .inl (g.1, 129, .inl (fun _ => 0))) := by
  unfold n_rows at h
  rw [List.getElem?_map] at h
  by_cases w : k < 20
  · rw [List.getElem?_range w] at h
    cases h
    exact ⟨w, rfl⟩
  · rw [List.getElem?_eq_none (by rw [List.length_range]; omega)] at h
    cases h
theorem n_newM {idx : Nat} (X : kX p s m meth c args own cc nL rt D (kty g)) (hAO : va_AOA .int s) (V : kW D A H0 H ws locs) (w1 : Cond.classLink own idx ("[" ++ (FieldType.array .int).toString) ∈ lw_tg)
    (hcells : cells + 21 ≤ R.cells) (hslots : slots + 2600 ≤ R.slots) (hdg : decode cc pc = .ok (.multianewarray idx 2, 4))
    (kk : ∀ (q : Nat) (H1 : Heap), kW D A H0 H1 ((ws ++ [(q, .inl (g.2.2.2, 20, .inr (.inr (.inr (.inr (fun i => if i < 20 then some (q + 1 + i) else none))))))]) ++ n_rows g q) locs →
      W p l e R s m args below meth c H1 locs (cells + 1 + 20) (slots + 20 + 20 * 129) Q (F0 m (pc + 4) ls (.ref q :: rest))) : W p l e R s m args below meth c H locs cells slots Q (F0 m pc ls (.int 129 :: .int 20 :: rest)) := by
  intro T hT Xs
  have n20 : (20 : Int32).toNatClampNeg = 20 := by decide +kernel
  have n129 : (129 : Int32).toNatClampNeg = 129 := by decide +kernel
  obtain ⟨vm₁, cA, comp, -, fA, fC, -, -, X', step⟩ := Xs.multianewarray2F (ty := .int) (n := 20) (k := 129) (rest := rest) X.1 X.2.2.2.1 (X.2.2.2.2.1 _ w1) (va_AOA.use hAO) (X.2.2.2.2.1 _ n_arrI) (g := F0 m pc ls (.int 129 :: .int 20 :: rest)) rfl (by rw [X.2.1]; exact hdg) rfl (by decide +kernel) (by decide +kernel) (by rw [n20]; decide) (by rw [n129]; decide) (by rw [n129]; decide) rfl rfl (by rw [n20]; exact hcells) (by rw [n20, n129]; exact hslots)
  rw [n20, n129] at X' step
  have e1 : s.vm.findClass ("[" ++ FieldType.int.toString) = some g.1 := (X.2.2.2.2.2.1.1.2 0 (g.1, .int) rfl).2
  have e2 : s.vm.findClass ("[" ++ (FieldType.array .int).toString) = some g.2.2.2 := (X.2.2.2.2.2.1.1.2 3 (g.2.2.2, .array .int) rfl).2
  have c1 : comp = g.1 := Option.some.inj (fC.symm.trans e1)
  have c2 : cA = g.2.2.2 := Option.some.inj (fA.symm.trans e2)
  subst c1 c2
  obtain ⟨hP, hD, hS, hA⟩ := V
  have hTh : (T.setVm vm₁).heap = H := hT
  obtain ⟨f1, f2, -, -⟩ := Jvm.Free.Multi.fill_facts (T.setVm vm₁) g.2.2.2 g.1 20 129 (defaultValue .int) 20
  have hold : ∀ x : Nat, x < H.size → (Jvm.Free.Multi.fill (T.setVm vm₁) g.2.2.2 g.1 20 129 (defaultValue .int) 20).heap[x]? = H[x]? := fun x hx => by
    have := Jvm.Free.Multi.fill_old (T.setVm vm₁) g.2.2.2 g.1 20 129 (defaultValue .int) (a := x) (by rw [hTh]; exact hx) 20
    rw [hTh] at this
    exact this
  have hrow : ∀ j : Nat, j < 20 → (Jvm.Free.Multi.fill (T.setVm vm₁) g.2.2.2 g.1 20 129 (defaultValue .int) 20).heap[H.size + 1 + j]? = some (Jvm.Free.Multi.innerC g.1 129 (defaultValue .int)) := fun j hj => by
    have := Jvm.Free.Multi.fill_inner (T.setVm vm₁) g.2.2.2 g.1 20 129 (defaultValue .int) 20 j hj
    rw [hTh] at this
    exact this
  rw [hTh] at f1 f2
  generalize Jvm.Free.Multi.fill (T.setVm vm₁) g.2.2.2 g.1 20 129 (defaultValue .int) 20 = F at *
  have hin : Jvm.Free.Multi.innerC g.1 129 (defaultValue .int) = vp_cell g.1 (129, .inl (fun _ => 0)) := n_inner g.1 129
  have hout : Jvm.Free.Multi.outerC g.2.2.2 20 H.size 20 = vp_cell g.2.2.2 (20, .inr (.inr (.inr (.inr (fun i => if i < 20 then some (H.size + 1 + i) else none))))) := by
    rw [vp_cell_q]
    exact n_outer g.2.2.2 20 H.size 20
  rw [hout] at f2
  have hP0 : va_P D vwCl ws F.heap := fun k x hx => (hP k x hx).kept (hold x.1 ((hP k x hx).lt))
  have hP1 : va_P D vwCl (ws ++ [(H.size, .inl (g.2.2.2, 20, .inr (.inr (.inr (.inr (fun i => if i < 20 then some (H.size + 1 + i) else none))))))]) F.heap := hP0.app (fun k x hx => by
    have h0 : k < 1 := (List.getElem?_eq_some_iff.mp hx).1
    rw [show k = 0 by omega] at hx
    cases hx
    exact f2)
  have hP2 := hP1.app (w2 := n_rows g H.size) (fun k x hx => by
    obtain ⟨h1, rfl⟩ := n_rows_at hx
    exact (hrow k h1).trans (congrArg some hin))
  have hD1 := hD.push (e := .inl (g.2.2.2, 20, .inr (.inr (.inr (.inr (fun i => if i < 20 then some (H.size + 1 + i) else none)))))) hP rfl (hA _ hS.1)
  have hle : ∀ (k : Nat) (x : Nat × va_E), (ws ++ [((H.size, .inl (g.2.2.2, 20, .inr (.inr (.inr (.inr (fun i => if i < 20 then some (H.size + 1 + i) else none)))))) : Nat × va_E)])[k]? = some x → x.1 ≤ H.size := fun k x hx => by
    by_cases hl : k < ws.length
    · rw [List.getElem?_append_left hl] at hx
      exact Nat.le_of_lt ((hP k x hx).lt)
    · rw [List.getElem?_append_right (by omega)] at hx
      have h0 : k - ws.length < 1 := (List.getElem?_eq_some_iff.mp hx).1
      rw [show k - ws.length = 0 by omega] at hx
      cases hx
      exact Nat.le_refl _
  have hD2 := hD1.app (w2 := n_rows g H.size) ⟨fun i j x y hi hj hxy => by
    have a := n_rows_at hi
    have b := n_rows_at hj
    rw [a.2, b.2] at hxy
    have : H.size + 1 + i = H.size + 1 + j := hxy
    omega, fun k x hx => by
    have a := n_rows_at hx
    rw [a.2]
    exact hA _ (by have := hS.1; show H0.size ≤ H.size + 1 + k; omega)⟩ (fun i j x y hi hj hxy => by
    have a := hle i x hi
    have b := n_rows_at hj
    rw [b.2] at hxy
    have : x.1 = H.size + 1 + j := hxy
    omega)
  obtain ⟨t, a1, b1⟩ := kk H.size F.heap ⟨hP2, hD2, ⟨by rw [f1]; have := hS.1; omega, fun x h1 h2 => (hold x (Nat.lt_of_lt_of_le h1 hS.1)).trans (hS.2.1 x h1 h2), hS.2.2⟩, hA⟩ F rfl X'
  refine ⟨t, step t ?_, b1⟩
  have e : T.heap.size = H.size := by rw [hT]
  rw [e]
  exact a1
end KM
