/-! ===== DEEDS ===== -/
def KR (kept : Nat → Nat → Int) (nw dd : Int) (mk : Nat → Int) (md : Int) : Prop :=
  md = dd ∧ 0 ≤ dd ∧ dd ≤ 20 ∧ 0 ≤ nw ∧ nw < 20 ∧ ∀ i : Nat, (i : Int) < dd → HR (kept ((nw + 20 - (i : Int)) % 20).toNat) (fun k => mk (170 * (dd.toNat - 1 - i) + k))
theorem mod20 {a : Int} (h : 0 ≤ a) : a - a.tdiv 20 * 20 = a % 20 := by
  rw [Int.tdiv_eq_ediv_of_nonneg h]
  omega
def keptN (z : tZ4) : Nat → Nat → Int := va_up z.2.2.1 ((z.2.2.2.1 + 1) % 20).toNat (va_cpy z.2.1 (z.2.2.1 ((z.2.2.2.1 + 1) % 20).toNat) 0 0 129)
theorem q_mark (z : tZ4) : q_X4_mark z = some (z.1, va_cpy z.1 z.2.1 0 0 129, z.2.2) := rfl
theorem q_keep {z : tZ4} (hn : 0 ≤ z.2.2.2.1 ∧ z.2.2.2.1 < 20) (hd : 0 ≤ z.2.2.2.2 ∧ z.2.2.2.2 ≤ 20) : q_X4_keep z = some (z.1, z.2.1, keptN z, (z.2.2.2.1 + 1) % 20, min (z.2.2.2.2 + 1) 20) := by
  refine w_eq ?_
  unfold q_X4_keep
  simp only [kwp_kg, kwp_kl, mod20 (show 0 ≤ z.2.2.2.1 + 1 by omega)]
  refine ⟨⟨by omega, by omega⟩, ⟨by omega, by omega⟩, ?_⟩
  simp only [kwp_kg, kwp_kif, kwp_kl, kwp_some, kwp_kb]
  refine ⟨fun q => by omega, fun _ => ⟨fun _ => ⟨⟨by omega, by omega⟩, ?_⟩, fun q => by omega⟩⟩
  rw [q_min32 ⟨by omega, by omega⟩ (by decide), kwp_some]
  rfl
def mkN (d : Int) : Nat := if d = 20 then 1 else 0
theorem qm_keep {m : tZ12} (hd : 0 ≤ m.1 2 ∧ m.1 2 ≤ 20) : kwp (q_X12_keep m) (fun m' => m'.1 2 = min (m.1 2 + 1) 20 ∧ (∀ j, j ≠ 2 → m'.1 j = m.1 j) ∧ m'.2.1 = m.2.1 ∧ m'.2.2.2 = m.2.2.2 ∧ (∀ j, j ≠ 1 → m'.2.2.1 j = m.2.2.1 j) ∧
    (∀ i k : Nat, (i : Int) + 1 < m'.1 2 → k < 170 → m'.2.2.1 1 (170 * i + k) = m.2.2.1 1 (170 * (i + mkN (m.1 2)) + k)) ∧ ∀ k : Nat, k < 170 → m'.2.2.1 1 (170 * ((m'.1 2).toNat - 1) + k) = m.2.2.1 0 k) := by
  have key : ∀ (n : tZ12) (d : Nat), n.1 2 = (d : Int) → d < 20 → kwp (q_X12_keep_J50 n) (fun m' => m'.1 2 = (d : Int) + 1 ∧ (∀ j, j ≠ 2 → m'.1 j = n.1 j) ∧ m'.2.1 = n.2.1 ∧ m'.2.2.2 = n.2.2.2 ∧ (∀ j, j ≠ 1 → m'.2.2.1 j = n.2.2.1 j) ∧
      ∀ j, m'.2.2.1 1 j = if 170 * d ≤ j ∧ j < 170 * d + 170 then n.2.2.1 0 (j - 170 * d) else n.2.2.1 1 j) := by
    intro n d hd hd2
    unfold q_X12_keep_J50
    refine w_kb (w_for (ex := 86) (by decide) (fun i (s : Int × tZ12) => s.1 = (i : Int) ∧ s.2.1 = n.1 ∧ s.2.2.1 = n.2.1 ∧ s.2.2.2.2 = n.2.2.2 ∧ (∀ j, j ≠ 1 → s.2.2.2.1 j = n.2.2.1 j) ∧ ∀ j, s.2.2.2.1 1 j = if 170 * d ≤ j ∧ j < 170 * d + i then n.2.2.1 0 (j - 170 * d) else n.2.2.1 1 j) 170 ?_ ?_ (Nat.zero_le _) (by decide) ⟨rfl, rfl, rfl, rfl, fun _ _ => rfl, fun j => by rw [if_neg (by omega)]⟩) ?_
    · rintro i ⟨k, s⟩ hi ⟨h1, h2, h3, h4, h5, h6⟩
      dsimp only at *
      subst h1
      unfold q_X12_keep_L52
      simp only [kwp_kg, kwp_kif, kwp_kl, kwp_some]
      rw [h2, hd]
      refine ⟨⟨by omega, by omega⟩, fun q => by omega, fun _ => ⟨⟨by omega, by omega⟩, ⟨by omega, by omega⟩, by trivial, by omega, by trivial, h3, h4, fun j hj => ?_, fun j => ?_⟩⟩
      · rw [va_ne _ _ hj]
        exact h5 j hj
      · rw [va_same, show ((170 : Int) * (d : Int) + (i : Int)).toNat = 170 * d + i by omega, Int.toNat_natCast]
        by_cases e : j = 170 * d + i
        · subst e
          rw [va_same, if_pos ⟨by omega, by omega⟩, h5 0 (by decide)]
          exact congrArg (n.2.2.1 0) (by omega)
        · rw [va_ne _ _ e, h6]
          by_cases e2 : 170 * d ≤ j ∧ j < 170 * d + i
          · rw [if_pos e2, if_pos ⟨by omega, by omega⟩]
          · rw [if_neg e2, if_neg (by omega)]
    · rintro ⟨k, s⟩ ⟨h1, h⟩
      dsimp only at *
      subst h1
      unfold q_X12_keep_L52
      simp only [kwp_kg, kwp_kif, kwp_kl, kwp_some]
      exact ⟨⟨by omega, by omega⟩, fun _ => ⟨by trivial, by trivial, h⟩, fun q => by omega⟩
    · rintro ⟨l, k, s⟩ ⟨h0, h1, h2, h3, h4, h5, h6⟩
      dsimp only at *
      simp only [kwp_kg, kwp_kl, kwp_some]
      refine ⟨h0, ?_, fun j hj => ?_, h3, h4, h5, h6⟩
      · rw [va_same, h2, hd]
      · rw [va_ne _ _ hj, h2]
  unfold q_X12_keep
  simp only [kwp_kg, kwp_kif]
  refine ⟨⟨by omega, by omega⟩, fun h20 => ?_, fun h20 => ?_⟩
  · refine w_kb (w_for (ex := 40) (by decide) (fun i (s : Int × tZ12) => s.1 = (i : Int) ∧ s.2.1 = m.1 ∧ s.2.2.1 = m.2.1 ∧ s.2.2.2.2 = m.2.2.2 ∧ (∀ j, j ≠ 1 → s.2.2.2.1 j = m.2.2.1 j) ∧ ∀ j, s.2.2.2.1 1 j = if j < i then m.2.2.1 1 (j + 170) else m.2.2.1 1 j) 3230 ?_ ?_ (Nat.zero_le _) (by decide) ⟨rfl, rfl, rfl, rfl, fun _ _ => rfl, fun j => by rw [if_neg (by omega)]⟩) ?_
    · rintro i ⟨k, s⟩ hi ⟨h1, h2, h3, h4, h5, h6⟩
      dsimp only at *
      subst h1
      unfold q_X12_keep_L11
      simp only [kwp_kg, kwp_kif, kwp_kl, kwp_some]
      refine ⟨⟨by omega, by omega⟩, fun q => by omega, fun _ => ⟨⟨by omega, by omega⟩, ⟨by omega, by omega⟩, by trivial, by omega, h2, h3, h4, fun j hj => ?_, fun j => ?_⟩⟩
      · rw [va_ne _ _ hj]
        exact h5 j hj
      · rw [va_same, show ((i : Int) + (170 : Int)).toNat = i + 170 by omega, Int.toNat_natCast]
        by_cases e : j = i
        · subst e
          rw [va_same, if_pos (by omega), h6, if_neg (by omega)]
        · rw [va_ne _ _ e, h6]
          by_cases e2 : j < i
          · rw [if_pos e2, if_pos (by omega)]
          · rw [if_neg e2, if_neg (by omega)]
    · rintro ⟨k, s⟩ ⟨h1, h⟩
      dsimp only at *
      subst h1
      unfold q_X12_keep_L11
      simp only [kwp_kg, kwp_kif, kwp_kl, kwp_some]
      exact ⟨⟨by omega, by omega⟩, fun _ => ⟨by trivial, by trivial, h⟩, fun q => by omega⟩
    · rintro ⟨l, k, s⟩ ⟨h0, h1, h2, h3, h4, h5, h6⟩
      dsimp only at *
      simp only [kwp_kg, kwp_kl]
      refine ⟨h0, ?_⟩
      refine w_mono (key _ 19 (by dsimp only; rw [va_same, h2, h20]; rfl) (by decide)) (fun m' h => ?_)
      dsimp only at h
      obtain ⟨g1, g2, g3, g4, g5, g6⟩ := h
      have hk : mkN (m.1 2) = 1 := if_pos h20
      refine ⟨by rw [g1]; omega, fun j hj => ?_, by rw [g3, h3], by rw [g4, h4], fun j hj => by rw [g5 j hj, h5 j hj], fun i k hi hk' => ?_, fun k hk' => ?_⟩
      · rw [g2 j hj, va_ne _ _ hj, h2]
      · rw [g1] at hi
        rw [g6, if_neg (by omega), h6, if_pos (by omega), hk]
        exact congrArg (m.2.2.1 1) (by omega)
      · rw [g1, g6, if_pos ⟨by omega, by omega⟩, h5 0 (by decide)]
        exact congrArg (m.2.2.1 0) (by omega)
  · refine w_mono (key m (m.1 2).toNat (by omega) (by omega)) (fun m' ⟨g1, g2, g3, g4, g5, g6⟩ => ?_)
    have hk : mkN (m.1 2) = 0 := if_neg h20
    refine ⟨by rw [g1]; omega, g2, g3, g4, g5, fun i k hi hk' => ?_, fun k hk' => ?_⟩
    · rw [g6, if_neg (by omega), hk]
      rfl
    · rw [g6, if_pos ⟨by omega, by omega⟩]
      exact congrArg (m.2.2.1 0) (by omega)
/-- what keeping a DEED does to both -/
theorem KR_keep {z : tZ4} {r0 : Nat → Int} {m m' : tZ12} (hK : KR z.2.2.1 z.2.2.2.1 z.2.2.2.2 (m.2.2.1 1) (m.1 2)) (hm : ∀ k, k < 129 → z.2.1 k = r0 k) (hH : HR r0 (m.2.2.1 0))
    (h1 : m'.1 2 = min (m.1 2 + 1) 20) (h6 : ∀ i k : Nat, (i : Int) + 1 < m'.1 2 → k < 170 → m'.2.2.1 1 (170 * i + k) = m.2.2.1 1 (170 * (i + mkN (m.1 2)) + k)) (h7 : ∀ k : Nat, k < 170 → m'.2.2.1 1 (170 * ((m'.1 2).toNat - 1) + k) = m.2.2.1 0 k) :
    KR (keptN z) ((z.2.2.2.1 + 1) % 20) (min (z.2.2.2.2 + 1) 20) (m'.2.2.1 1) (m'.1 2) := by
  obtain ⟨k1, k2, k3, k4, k5, k6⟩ := hK
  have hd : m'.1 2 = min (z.2.2.2.2 + 1) 20 := by rw [h1, k1]
  refine ⟨hd, by omega, by omega, by omega, by omega, fun i hi => ?_⟩
  rw [← hd] at hi ⊢
  by_cases e : i = 0
  · subst e
    refine HR_congr (r := r0) (a := m.2.2.1 0) (fun k hk => ?_) (fun k hk => h7 k hk) hH
    unfold keptN
    rw [show (((z.2.2.2.1 + 1) % 20 + 20 - ((0 : Nat) : Int)) % 20).toNat = ((z.2.2.2.1 + 1) % 20).toNat by omega, va_same]
    unfold va_cpy
    rw [if_pos ⟨by omega, by omega⟩]
    rw [show 0 + (k - 0) = k by omega]
    exact hm k hk
  · have hi1 : ((i - 1 : Nat) : Int) < z.2.2.2.2 := by omega
    refine HR_congr (fun k hk => ?_) (fun k hk => ?_) (k6 (i - 1) hi1)
    · unfold keptN
      rw [va_ne _ _ (by omega)]
      exact congrFun (congrArg z.2.2.1 (by omega)) k
    · rw [h6 _ k (by omega) hk]
      refine congrArg (m.2.2.1 1) ?_
      unfold mkN
      split <;> omega
def TR (z9 : tZ9) (m : tZ12) : Prop := z9.2.1 = m.1 4 ∧ 0 ≤ m.1 4 ∧ m.1 4 ≤ 400 ∧ (∀ i : Nat, (i : Int) < m.1 4 → z9.1 i = zand32 (m.2.2.1 3 i) 255 ∧ 0 ≤ z9.1 i ∧ z9.1 i ≤ 255) ∧ z9.2.2.2 = m.1 6 ∧ k32 (m.1 6)
def WR (z10 : tZ10) (m : tZ12) : Prop := z10.2 = m.1 55 ∧ 0 ≤ m.1 55 ∧ m.1 55 ≤ 400 ∧ ∀ i : Nat, (i : Int) < m.1 55 → z10.1 i = m.2.2.1 54 i ∧ k32 (z10.1 i)
def DR (z4 : tZ4) (m : tZ12) : Prop := HR z4.1 (m.2.2.1 0) ∧ KR z4.2.2.1 z4.2.2.2.1 z4.2.2.2.2 (m.2.2.1 1) (m.1 2)
def REL (z4 : tZ4) (z9 : tZ9) (z10 : tZ10) (m : tZ12) : Prop := DR z4 m ∧ TR z9 m ∧ WR z10 m
/-- what the class's state is tied to is as it was -/
def FRM (m m' : tZ12) : Prop := m'.2.2.1 0 = m.2.2.1 0 ∧ m'.2.2.1 1 = m.2.2.1 1 ∧ m'.2.2.1 3 = m.2.2.1 3 ∧ m'.2.2.1 54 = m.2.2.1 54 ∧ m'.1 2 = m.1 2 ∧ m'.1 4 = m.1 4 ∧ m'.1 6 = m.1 6 ∧ m'.1 55 = m.1 55
theorem FRM_rfl (m : tZ12) : FRM m m := ⟨rfl, rfl, rfl, rfl, rfl, rfl, rfl, rfl⟩
theorem FRM_trans {a b c : tZ12} (h : FRM a b) (g : FRM b c) : FRM a c :=
  ⟨g.1.trans h.1, g.2.1.trans h.2.1, g.2.2.1.trans h.2.2.1, g.2.2.2.1.trans h.2.2.2.1, g.2.2.2.2.1.trans h.2.2.2.2.1, g.2.2.2.2.2.1.trans h.2.2.2.2.2.1, g.2.2.2.2.2.2.1.trans h.2.2.2.2.2.2.1, g.2.2.2.2.2.2.2.trans h.2.2.2.2.2.2.2⟩
theorem DR_frm {z4 : tZ4} {m m' : tZ12} (h : FRM m m') (H : DR z4 m) : DR z4 m' := by
  obtain ⟨a, b, c, d, e, f, g, i⟩ := h
  unfold DR at *
  rw [a, b, e]
  exact H
theorem TR_frm {z9 : tZ9} {m m' : tZ12} (h : FRM m m') (H : TR z9 m) : TR z9 m' := by
  obtain ⟨a, b, c, d, e, f, g, i⟩ := h
  unfold TR at *
  rw [c, f, g]
  exact H
theorem WR_frm {z : tZ10} {m m' : tZ12} (h : FRM m m') (H : WR z m) : WR z m' := by
  obtain ⟨a, b, c, d, e, f, g, i⟩ := h
  unfold WR at *
  rw [d, i]
  exact H
theorem REL_frm {z4 : tZ4} {z9 : tZ9} {z10 : tZ10} {m m' : tZ12} (h : FRM m m') (H : REL z4 z9 z10 m) : REL z4 z9 z10 m' := ⟨DR_frm h H.1, TR_frm h H.2.1, WR_frm h H.2.2⟩
/-- a DEED: the class's marked row, the model's kept row; then both rows change alike -/
theorem deed {z4 : tZ4} {m : tZ12} {z9 : tZ9} {z10 : tZ10} {r' : Nat → Int} (H : REL z4 z9 z10 m) {mo : tZ12 → Option tZ12} {a' : Nat → Int} (hH : HR r' a')
    (ho : ∀ n : tZ12, n.2.2.1 0 = m.2.2.1 0 → kwp (mo n) (fun n' => n'.1 = n.1 ∧ n'.2.2.1 0 = a' ∧ ∀ j, j ≠ 0 → n'.2.2.1 j = n.2.2.1 j)) :
    kwp (q_X4_keep (r', va_cpy z4.1 z4.2.1 0 0 129, z4.2.2)) (fun z' => kwp (kb (q_X12_keep m) mo) (fun m' => REL z' z9 z10 m')) := by
  obtain ⟨⟨h1, h2⟩, h3, h4⟩ := H
  have hk := h2
  obtain ⟨k1, k2, k3, k4, k5, k6⟩ := h2
  refine w_of (q_keep ⟨k4, k5⟩ ⟨k2, k3⟩) ?_
  refine w_kb (qm_keep (m := m) ⟨by omega, by omega⟩) (fun n ⟨g1, g2, g3, g4, g5, g6, g7⟩ => ?_)
  refine w_mono (ho n (g5 0 (by decide))) (fun n' ⟨f1, f2, f3⟩ => ?_)
  have hKR := KR_keep (z := (r', va_cpy z4.1 z4.2.1 0 0 129, z4.2.2)) (r0 := z4.1) (m := m) (m' := n) hk (fun k hk => by
    show va_cpy z4.1 z4.2.1 0 0 129 k = z4.1 k
    unfold va_cpy
    rw [if_pos ⟨by omega, by omega⟩, show 0 + (k - 0) = k by omega]) h1 g1 g6 g7
  refine ⟨⟨?_, ?_⟩, ?_, ?_⟩
  · show HR r' (n'.2.2.1 0)
    rw [f2]
    exact hH
  · show KR _ _ _ (n'.2.2.1 1) (n'.1 2)
    rw [f1, f3 1 (by decide)]
    exact hKR
  · unfold TR at *
    rw [f1, g2 4 (by decide), g2 6 (by decide), f3 3 (by decide), g5 3 (by decide)]
    exact h3
  · unfold WR at *
    rw [f1, g2 55 (by decide), f3 54 (by decide), g5 54 (by decide)]
    exact h4
