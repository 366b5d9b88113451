/-! ===== the simple methods ===== -/
def ANS (z9 : tZ9) (z10 : tZ10) (o : Option (Int × tZ4)) (o' : Option (Int × tZ12)) : Prop := kwp o (fun r => kwp o' (fun r' => r.1 = r'.1 ∧ k32 r.1 ∧ REL r.2 z9 z10 r'.2))
def ANB (z9 : tZ9) (z10 : tZ10) (o : Option (Bool × tZ4)) (o' : Option (Bool × tZ12)) : Prop := kwp o (fun r => kwp o' (fun r' => r.1 = r'.1 ∧ REL r.2 z9 z10 r'.2))
theorem T_put {z11 : tZ11} {z4 : tZ4} {z9 : tZ9} {z10 : tZ10} {m : tZ12} (H : REL z4 z9 z10 m) {x y h : Int} (hx : k32 x) (hy : k32 y) (hh : k32 h) : ANS z9 z10 (q_X11_put z11 z4 x y h) (q_X12_put m x y h) := by
  have hH := H.1.1
  unfold ANS q_X11_put q_X12_put
  refine w_kb (q_free hH.1) (fun k fk => ?_)
  obtain ⟨k', e', fk'⟩ := qm_free hH
  have ek := free_only fk fk'
  subst ek
  rw [e']
  simp only [kwp_kg, kwp_kif, kwp_some, kwp_kb]
  rw [qm_isPlace hx hy, qm_isHeap hh]
  have hk32 := free_k fk
  refine ⟨hk32, fun hk => ?_, fun hk => ?_⟩
  · simp only [kwp_some, kz_0, kwp_kif, kwp_kb, kwp_kg]
    refine ⟨fun _ => ⟨by trivial, by decide, H⟩, fun _ => ⟨fun _ => ⟨by trivial, by decide, H⟩, fun _ => ⟨hk32, fun _ => ⟨by trivial, by decide, H⟩, fun q => absurd hk q⟩⟩⟩
  · rw [q_isNear hx hy (by decide), q_isHeap hh]
    simp only [kwp_some, kz_0, kwp_kif, kwp_kb, kwp_kg]
    refine ⟨fun q => ⟨fun _ => ⟨by trivial, by decide, H⟩, fun q2 => absurd q q2⟩, fun q => ⟨fun q2 => ⟨fun q3 => absurd q3 q, fun _ => ⟨fun _ => ⟨by trivial, by decide, H⟩, fun q4 => ?_⟩⟩, fun q2 => ?_⟩⟩
    · exfalso
      simp only [decide_eq_false_iff_not, decide_eq_true_eq, Bool.not_eq_false] at *
      omega
    · simp only [decide_eq_false_iff_not, decide_eq_true_eq, Bool.not_eq_false] at *
      rcases fk with ⟨n, n1, rfl, n3, n4⟩ | ⟨n1, _⟩
      · refine w_of (q_mark z4) (w_of (q_place n1 ⟨by omega, by omega⟩) ?_)
        have hD := deed (m := m) (z9 := z9) (z10 := z10) (r' := putR z4.1 n x y h) H (mo := fun n' => q_X12_lay n' (n : Int) x y h) (HR_put hH n1 (x := x) (y := y) (h := h) ⟨by omega, by omega⟩ ⟨by omega, by omega⟩ ⟨by omega, by omega⟩) (fun n' hn' => w_mono (qm_lay n1) (fun m' ⟨a1, a2, a3, a4, a5⟩ => ⟨a1, by rw [a4, hn'], a5⟩))
        refine w_mono hD (fun z' hz' => ?_)
        simp only [kwp_some, kwp_kb, kwp_kif, kwp_kg] at hz' ⊢
        refine ⟨fun q3 => by omega, fun _ => ⟨fun q3 => by omega, fun _ => ⟨hk32, fun q3 => absurd q3 hk, fun _ => ?_⟩⟩⟩
        exact w_mono hz' (fun n' h1 => w_mono h1 (fun n2 h2 => ⟨by trivial, hk32, h2⟩))
      · exact absurd n1 hk
theorem T_gone {z11 : tZ11} {z4 : tZ4} {z9 : tZ9} {z10 : tZ10} {m : tZ12} (H : REL z4 z9 z10 m) {k : Int} (hk : k32 k) : ANB z9 z10 (q_X11_gone z11 z4 k) (q_X12_gone m k) := by
  have hH := H.1.1
  unfold ANB q_X11_gone q_X12_gone
  rw [q_has hk hH.1, qm_isPoint hH hk]
  by_cases c : 0 ≤ k ∧ k < 40 ∧ z4.1 (80 + k.toNat) ≠ -1
  · rw [decide_eq_true c]
    simp only [kwp_some, kz_0, kwp_kif, kwp_kb, kwp_kg]
    refine ⟨fun q => (by cases q), fun _ => ?_⟩
    obtain ⟨n, rfl⟩ := nat_of c.1
    have hn : n < 40 := by omega
    rw [Int.toNat_natCast] at c
    refine w_of (q_mark z4) ?_
    have hr : q_X4_remove (z4.1, va_cpy z4.1 z4.2.1 0 0 129, z4.2.2) (n : Int) = some (va_up z4.1 (80 + n) (-1), va_cpy z4.1 z4.2.1 0 0 129, z4.2.2) := by
      refine w_eq ?_
      unfold q_X4_remove
      refine w_kbe (q_has hk hH.1) ?_
      rw [Int.toNat_natCast, decide_eq_true c]
      simp only [kwp_some, kz_0, kwp_kif, kwp_kb, kwp_kg, kwp_kl, tn80]
      exact ⟨fun q => (by cases q), fun _ => ⟨⟨by omega, by omega⟩, by trivial⟩⟩
    refine w_of hr ?_
    have hD := deed (m := m) (z9 := z9) (z10 := z10) (r' := va_up z4.1 (80 + n) (-1)) H (mo := fun x2 => kg (0 ≤ ((0 : Int) + (n : Int)) ∧ ((0 : Int) + (n : Int)) < 170) (some (x2.1, x2.2.1, (va_up x2.2.2.1 0 (va_up (x2.2.2.1 0) (((0 : Int) + (n : Int)).toNat) (0 : Int))), x2.2.2.2))) (HR_gone hH hn) (fun n' hn' => by
      simp only [kwp_kg, kwp_some, tn0, va_same]
      exact ⟨⟨by omega, by omega⟩, by trivial, by rw [hn'], fun j hj => va_ne _ _ hj⟩)
    refine w_mono hD (fun z' hz' => ?_)
    simp only [kwp_some, kwp_kb, kwp_kif, kwp_kg, kwp_kl, kz_0] at hz' ⊢
    refine ⟨fun q => (by cases q), fun _ => w_mono hz' (fun n' h1 => ⟨h1.1, by trivial, h1.2⟩)⟩
  · rw [decide_eq_false c]
    simp only [kwp_some, kz_0, kwp_kif, kwp_kb, kwp_kg]
    exact ⟨fun _ => ⟨fun _ => ⟨by trivial, H⟩, fun q => (q (by trivial)).elim⟩, fun q => (q (by trivial)).elim⟩
theorem T_moved {z11 : tZ11} {z4 : tZ4} {z9 : tZ9} {z10 : tZ10} {m : tZ12} (H : REL z4 z9 z10 m) {k x y : Int} (hk : k32 k) (hx : k32 x) (hy : k32 y) : ANB z9 z10 (q_X11_moved z11 z4 k x y) (q_X12_moved m k x y) := by
  have hH := H.1.1
  unfold ANB q_X11_moved q_X12_moved
  rw [q_has hk hH.1, qm_isPoint hH hk]
  by_cases c : 0 ≤ k ∧ k < 40 ∧ z4.1 (80 + k.toNat) ≠ -1
  · rw [decide_eq_true c]
    simp only [kwp_some, kz_0, kwp_kif, kwp_kb, kwp_kg]
    refine ⟨fun q => (by cases q), fun _ => ?_⟩
    obtain ⟨n, rfl⟩ := nat_of c.1
    have hn : n < 40 := by omega
    rw [Int.toNat_natCast] at c
    rw [q_isNear hx hy (by decide), qm_isPlace hx hy]
    simp only [kwp_some, kz_0, kwp_kif, kwp_kb, kwp_kg, decide_eq_false_iff_not]
    refine ⟨fun q => ⟨fun q2 => (by cases q2), fun _ => ⟨fun _ => ⟨by trivial, H⟩, fun q2 => absurd q q2⟩⟩, fun q => ?_⟩
    have q := Decidable.not_not.mp q
    refine w_of (q_mark z4) ?_
    refine w_of (q_heapOf (z := (z4.1, va_cpy z4.1 z4.2.1 0 0 129, z4.2.2)) hH.1 hn c.2.2) ?_
    obtain ⟨h, h1, h2, _⟩ := VR_live hH.1 hn c.2.2
    dsimp only
    have hh : 0 ≤ z4.1 (80 + n) ∧ z4.1 (80 + n) < 4 := by omega
    refine w_of (q_place hn hh) ?_
    have ha : m.2.2.1 0 (120 + n) = z4.1 (80 + n) := by
      rcases hH.2.1 n hn with e | e
      · exact absurd e.1 c.2.2
      · exact e.2.2.2.2
    have hD := deed (m := m) (z9 := z9) (z10 := z10) (r' := putR z4.1 n x y (z4.1 (80 + n))) H (mo := fun x3 => kg (0 ≤ ((120 : Int) + (n : Int)) ∧ ((120 : Int) + (n : Int)) < 170) (q_X12_lay x3 (n : Int) x y ((x3.2.2.1 0) (((120 : Int) + (n : Int)).toNat)))) (HR_put hH hn (x := x) (y := y) ⟨by omega, by omega⟩ ⟨by omega, by omega⟩ hh) (fun n' hn' => by
      simp only [kwp_kg, tn120]
      refine ⟨⟨by omega, by omega⟩, w_mono (qm_lay hn) (fun m' ⟨a1, a2, a3, a4, a5⟩ => ⟨a1, by rw [a4, hn', ha], a5⟩)⟩)
    refine w_mono hD (fun z' hz' => ?_)
    simp only [kwp_some, kwp_kb, kwp_kif, kwp_kg, kwp_kl, kz_0] at hz' ⊢
    exact ⟨fun q => (by cases q), fun _ => ⟨fun q2 => absurd q q2, fun _ => w_mono hz' (fun n' h1 => ⟨h1.1, w_mono h1.2 (fun n2 h2 => ⟨by trivial, h2⟩)⟩)⟩⟩
  · rw [decide_eq_false c]
    simp only [kwp_some, kz_0, kwp_kif, kwp_kb, kwp_kg]
    exact ⟨fun _ => ⟨fun _ => ⟨by trivial, H⟩, fun q => (q (by trivial)).elim⟩, fun q => (q (by trivial)).elim⟩
theorem T_pace {z11 : tZ11} {z4 : tZ4} {z9 : tZ9} {z10 : tZ10} {m : tZ12} (H : REL z4 z9 z10 m) {k x y : Int} (hk : k32 k) (hx : k32 x) (hy : k32 y) : ANB z9 z10 (q_X11_pace z11 z4 k x y) (q_X12_pace m k x y) := by
  have hH := H.1.1
  unfold ANB q_X11_pace q_X12_pace
  rw [q_isHeap hk, qm_isHeap hk]
  simp only [kwp_some, kz_0, kwp_kif, kwp_kb, kwp_kg, decide_eq_false_iff_not]
  rw [q_isNear hx hy (by decide), qm_isPace hx, qm_isPace hy]
  simp only [kwp_some, kz_0, kwp_kif, kwp_kb, kwp_kg, decide_eq_false_iff_not]
  refine ⟨fun q => ⟨fun _ => ⟨by trivial, H⟩, fun q2 => by omega⟩, fun q => ⟨fun q1 => ⟨fun q2 => by omega, fun _ => ⟨fun _ => ⟨by trivial, H⟩, fun q3 => ⟨fun _ => ⟨by trivial, H⟩, fun q4 => by omega⟩⟩⟩, fun q1 => ?_⟩⟩
  obtain ⟨n, rfl⟩ := nat_of (show 0 ≤ k by omega)
  have hn : n < 4 := by omega
  refine w_of (q_mark z4) (w_of (q_setPace hn) ?_)
  have hD := deed (m := m) (z9 := z9) (z10 := z10) (r' := va_up (va_up z4.1 (120 + n) x) (124 + n) y) H (mo := fun n' => q_X12_layPace n' (n : Int) x y) (HR_pace hH hn (x := x) (y := y) ⟨by omega, by omega⟩ ⟨by omega, by omega⟩) (fun n' hn' => by
    unfold q_X12_layPace
    simp only [kwp_kg, kwp_kl, kwp_some, tn160, tn161, va_same]
    refine ⟨⟨by omega, by omega⟩, ⟨by omega, by omega⟩, by trivial, by rw [hn'], fun j hj => by simp only [va_ne _ _ hj]⟩)
  refine w_mono hD (fun z' hz' => ?_)
  simp only [kwp_some, kwp_kb, kwp_kif, kwp_kg, kwp_kl, kz_0] at hz' ⊢
  exact ⟨fun q => by omega, fun _ => ⟨fun q => by omega, fun _ => ⟨fun q => by omega, fun _ => w_mono hz' (fun n' h1 => w_mono h1 (fun n2 h2 => ⟨by trivial, h2⟩))⟩⟩⟩
theorem T_tick {z11 : tZ11} {z4 : tZ4} {z9 : tZ9} {z10 : tZ10} {m : tZ12} (H : REL z4 z9 z10 m) {t : Int} (ht : k32 t) : ANS z9 z10 (q_X11_tick z11 z4 t) (q_X12_tick m t) := by
  have hH := H.1.1
  unfold ANS q_X11_tick q_X12_tick
  rw [qm_isIn ht (by decide) (by decide)]
  simp only [kwp_some, kz_0, kwp_kif, kwp_kb, kwp_kg, decide_eq_false_iff_not, kwp_kl, tn168]
  refine ⟨ht, fun q => ⟨fun _ => ⟨by trivial, by decide, H⟩, fun q2 => by omega⟩, fun q => ⟨fun q1 => ?_, fun q1 => ⟨fun _ => ⟨by trivial, by decide, H⟩, fun q2 => by omega⟩⟩⟩
  refine w_of (q_now z4) (w_of (q_mark z4) (w_of (q_setNow _ t) ?_))
  have hD := deed (m := m) (z9 := z9) (z10 := z10) (r' := va_up z4.1 128 t) H (mo := fun x3 => some (x3.1, x3.2.1, (va_up x3.2.2.1 0 (va_up (x3.2.2.1 0) 168 t)), x3.2.2.2)) (HR_tick hH ⟨by omega, by omega⟩) (fun n' hn' => by
    simp only [kwp_some, va_same]
    exact ⟨by trivial, by rw [hn'], fun j hj => va_ne _ _ hj⟩)
  refine w_mono hD (fun z' hz' => ?_)
  simp only [kwp_some, kwp_kb, kwp_kif, kwp_kg, kwp_kl, kz_0] at hz' ⊢
  have h1 := hH.2.2.2
  have h2 := hH.1.2.2
  exact ⟨fun q => by omega, fun _ => ⟨by decide, w_mono hz' (fun n' h => ⟨by rw [h1], ⟨by omega, by omega⟩, h⟩)⟩⟩
theorem q_takeBack {z : tZ4} (hn : 0 ≤ z.2.2.2.1 ∧ z.2.2.2.1 < 20) (hd : 0 < z.2.2.2.2 ∧ z.2.2.2.2 ≤ 20) : q_X4_takeBack z = some (z.2.2.2.2 - 1, va_cpy (z.2.2.1 z.2.2.2.1.toNat) z.1 0 0 129, z.2.1, z.2.2.1, (z.2.2.2.1 + 20 - 1) % 20, z.2.2.2.2 - 1) := by
  refine w_eq ?_
  unfold q_X4_takeBack
  simp only [kwp_kg, kwp_kl, kwp_kif, kwp_some, mod20 (show 0 ≤ z.2.2.2.1 + 20 - 1 by omega)]
  refine ⟨⟨by omega, by omega⟩, fun q => by omega, fun _ => ⟨⟨by omega, by omega⟩, fun q => by omega, fun _ => ⟨fun _ => ⟨⟨by omega, by omega⟩, ⟨by omega, by omega⟩, by trivial⟩, fun q => by omega⟩⟩⟩
theorem T_back {z11 : tZ11} {z4 : tZ4} {z9 : tZ9} {z10 : tZ10} {m : tZ12} (H : REL z4 z9 z10 m) : ANS z9 z10 (q_X11_back z11 z4) (q_X12_back m) := by
  obtain ⟨⟨hH, k1, k2, k3, k4, k5, k6⟩, hT, hW⟩ := H
  unfold ANS q_X11_back q_X12_back
  simp only [kwp_some, kwp_kif, kwp_kb, kwp_kg, kwp_kl]
  by_cases h0 : z4.2.2.2.2 = 0
  · have e : q_X4_takeBack z4 = some (-1, z4) := by
      refine w_eq ?_
      unfold q_X4_takeBack
      simp only [kwp_kg, kwp_kl, kwp_kif, kwp_some]
      exact ⟨⟨by omega, by omega⟩, fun _ => by trivial, fun q => by omega⟩
    refine w_of e ⟨⟨by omega, by omega⟩, fun _ => ⟨by trivial, (by decide : k32 (-1)), ⟨hH, k1, k2, k3, k4, k5, k6⟩, hT, hW⟩, fun q => by omega⟩
  · refine w_of (q_takeBack ⟨k4, k5⟩ ⟨by omega, by omega⟩) ⟨⟨by omega, by omega⟩, fun q => by omega, fun _ => ?_⟩
    obtain ⟨d, hd⟩ : ∃ d : Nat, z4.2.2.2.2 = (d : Int) + 1 := ⟨z4.2.2.2.2.toNat - 1, by omega⟩
    refine w_mono (w_for (ex := 55) (by decide) (fun i (s : Int × tZ12) => s.1 = (i : Int) ∧ (s.2.1 2 = (d : Int) ∧ ∀ j, j ≠ 2 → s.2.1 j = m.1 j) ∧ (∀ j, j ≠ 0 → s.2.2.2.1 j = m.2.2.1 j) ∧ ∀ j, j < i → s.2.2.2.1 0 j = m.2.2.1 1 (170 * d + j)) 170 ?_ ?_ (Nat.zero_le _) (by decide) ⟨rfl, ⟨by dsimp only; rw [va_same]; omega, fun j hj => va_ne _ _ hj⟩, fun _ _ => rfl, fun j hj => absurd hj (Nat.not_lt_zero _)⟩) ?_
    · rintro i ⟨k, s⟩ hi ⟨h1, ⟨h2, h2'⟩, h3, h4⟩
      dsimp only at *
      subst h1
      unfold q_X12_back_L21
      simp only [kwp_kg, kwp_kif, kwp_kl, kwp_some]
      rw [h2]
      refine ⟨⟨by omega, by omega⟩, fun q => by omega, fun _ => ⟨⟨by omega, by omega⟩, ⟨by omega, by omega⟩, by trivial, by omega, ⟨by trivial, h2'⟩, fun j hj => ?_, fun j hj => ?_⟩⟩
      · rw [va_ne _ _ hj]
        exact h3 j hj
      · rw [va_same, show ((170 : Int) * (d : Int) + (i : Int)).toNat = 170 * d + i by omega, Int.toNat_natCast]
        by_cases e : j = i
        · subst e
          rw [va_same, h3 1 (by decide)]
        · rw [va_ne _ _ e]
          exact h4 j (by omega)
    · rintro ⟨k, s⟩ ⟨h1, h⟩
      dsimp only at *
      subst h1
      unfold q_X12_back_L21
      simp only [kwp_kg, kwp_kif, kwp_kl, kwp_some]
      exact ⟨⟨by omega, by omega⟩, fun _ => ⟨by trivial, by trivial, h⟩, fun q => by omega⟩
    · rintro ⟨l, k, s⟩ ⟨h0', h1, ⟨h2, h2'⟩, h3, h4⟩
      dsimp only at *
      refine ⟨h0', by omega, ⟨by omega, by omega⟩, ⟨?_, ?_⟩, ?_, ?_⟩
      · refine HR_congr (fun k hk => ?_) (fun k hk => ?_) (k6 0 (by omega))
        · show va_cpy _ _ 0 0 129 k = _
          unfold va_cpy
          rw [if_pos ⟨by omega, by omega⟩, show 0 + (k - 0) = k by omega]
          exact congrFun (congrArg z4.2.2.1 (by omega)) k
        · rw [h4 k hk]
          exact congrArg (m.2.2.1 1) (by omega)
      · refine ⟨by dsimp only; omega, by dsimp only; omega, by dsimp only; omega, by dsimp only; omega, by dsimp only; omega, fun i hi => ?_⟩
        dsimp only at hi ⊢
        rw [h3 1 (by decide)]
        refine HR_congr (fun k hk => ?_) (fun k hk => ?_) (k6 (i + 1) (by omega))
        · exact congrFun (congrArg z4.2.2.1 (by omega)) k
        · exact congrArg (m.2.2.1 1) (by omega)
      · unfold TR at *
        rw [h2' 4 (by decide), h2' 6 (by decide), h3 3 (by decide)]
        exact hT
      · unfold WR at *
        rw [h2' 55 (by decide), h3 54 (by decide)]
        exact hW
theorem T_point {z11 : tZ11} {z4 : tZ4} {z9 : tZ9} {z10 : tZ10} {m : tZ12} (H : REL z4 z9 z10 m) {k w : Int} (hk : k32 k) (hw : k32 w) : ∃ v, q_X11_point z11 z4 k w = some v ∧ q_X12_point m k w = some v ∧ k32 v := by
  have hH := H.1.1
  unfold q_X11_point q_X12_point
  rw [q_has hk hH.1, qm_isPoint hH hk]
  by_cases c : 0 ≤ k ∧ k < 40 ∧ z4.1 (80 + k.toNat) ≠ -1
  · rw [decide_eq_true c]
    obtain ⟨n, rfl⟩ := nat_of c.1
    have hn : n < 40 := by omega
    rw [Int.toNat_natCast] at c
    obtain ⟨h, h1, h2, h3⟩ := VR_live hH.1 hn c.2.2
    have hs := st_bd hH.1 hn c.2.2 hH.1.2.2
    have ha : m.2.2.1 0 (40 + n) = z4.1 n ∧ m.2.2.1 0 (80 + n) = z4.1 (40 + n) ∧ m.2.2.1 0 (120 + n) = z4.1 (80 + n) := by
      rcases hH.2.1 n hn with e | e
      · exact absurd e.1 c.2.2
      · exact e.2.2
    refine ⟨if w = 0 then z4.1 n else if w = 1 then z4.1 (40 + n) else if w = 2 then z4.1 (80 + n) else if w = 3 then stX z4.1 n (z4.1 128) else if w = 4 then stY z4.1 n (z4.1 128) else -1000, w_eq ?_, w_eq ?_, ?_⟩
    · simp only [kwp_some, kz_0, kwp_kif, kwp_kb, kwp_kg]
      simp only [q_x hH.1 hn c.2.2, q_y hH.1 hn c.2.2, q_heapOf hH.1 hn c.2.2, q_now, kwp_some, q_standX hH.1 hn c.2.2, q_standY hH.1 hn c.2.2]
      refine ⟨fun q => (by cases q), fun _ => ⟨hw, fun e => ?_, fun e0 => ⟨fun e => ?_, fun e1 => ⟨fun e => ?_, fun e2 => ⟨fun e => ?_, fun e3 => ⟨fun e => ?_, fun e4 => ?_⟩⟩⟩⟩⟩⟩
      · rw [if_pos e]
      · rw [if_neg e0, if_pos e]
      · rw [if_neg e0, if_neg e1, if_pos e]
      · rw [if_neg e0, if_neg e1, if_neg e2, if_pos e]
      · rw [if_neg e0, if_neg e1, if_neg e2, if_neg e3, if_pos e]
      · rw [if_neg e0, if_neg e1, if_neg e2, if_neg e3, if_neg e4]
    · simp only [kwp_some, kz_0, kwp_kif, kwp_kb, kwp_kg, tn40, tn80, tn120]
      rw [qm_standsX hH hn c.2.2, qm_standsY hH hn c.2.2, ha.1, ha.2.1, ha.2.2]
      simp only [kwp_some]
      refine ⟨fun q => (by cases q), fun _ => ⟨hw, fun e => ⟨⟨by omega, by omega⟩, ?_⟩, fun e0 => ⟨fun e => ⟨⟨by omega, by omega⟩, ?_⟩, fun e1 => ⟨fun e => ⟨⟨by omega, by omega⟩, ?_⟩, fun e2 => ⟨fun e => ?_, fun e3 => ⟨fun e => ?_, fun e4 => ?_⟩⟩⟩⟩⟩⟩
      · rw [if_pos e]
      · rw [if_neg e0, if_pos e]
      · rw [if_neg e0, if_neg e1, if_pos e]
      · rw [if_neg e0, if_neg e1, if_neg e2, if_pos e]
      · rw [if_neg e0, if_neg e1, if_neg e2, if_neg e3, if_pos e]
      · rw [if_neg e0, if_neg e1, if_neg e2, if_neg e3, if_neg e4]
    · split
      · exact ⟨by omega, by omega⟩
      · split
        · exact ⟨by omega, by omega⟩
        · split
          · exact ⟨by omega, by omega⟩
          · split
            · exact ⟨by omega, by omega⟩
            · split
              · exact ⟨by omega, by omega⟩
              · decide
  · rw [decide_eq_false c]
    exact ⟨-1000, rfl, rfl, by decide⟩
