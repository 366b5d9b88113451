def va_AOA (ft : FieldType) (U : State) : Prop := (Cond.arrayOver (.array ft)).before #[] U = true
theorem va_AOA.use {ft : FieldType} {A : Array Value} {U : State} (h : va_AOA ft U) : (Cond.arrayOver (.array ft)).before A U = true := h
theorem va_AOA.moved {ft : FieldType} {u U : State} (hvm : u.vm.Alike U.vm) (h : va_AOA ft u) : va_AOA ft U := by
  unfold va_AOA Cond.before Cond.holds at h ⊢
  simp only [Cond.value, beq_iff_eq, Option.bind_eq_some_iff, Option.map_eq_some_iff] at h ⊢
  obtain ⟨comp, h1, c, h2, k, h3, h4⟩ := h
  obtain ⟨k', hk', he⟩ := hvm.2.2 _ _ h3
  refine ⟨comp, by rw [hvm.findClass]; exact h1, c, ?_, k', hk', ?_⟩
  · have e := va_idx_bare U.vm comp
    have e2 := va_idx_bare u.vm comp
    have b : u.vm.bare = U.vm.bare := by first | exact hvm.bare_eq | exact hvm.bare_eq.symm
    rw [← b] at e
    exact (e.symm.trans e2).trans h2
  · have hkind : k'.kind = k.kind := by rw [he]
    rw [hkind, hvm.findClass]
    exact h4
