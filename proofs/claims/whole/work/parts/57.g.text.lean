/-! ===== THE TEXT: both ===== -/
theorem qm_count {m : tZ12} {r : Nat → Int} (H : HR r (m.2.2.1 0)) : q_X12_countPoints m (-1) = some (cnt r : Int) := by
  refine w_eq ?_
  unfold q_X12_countPoints
  refine w_kb (w_for (ex := 54) (by decide) (fun i (s : Int × Int) => s.1 = (cntU (lv r) i : Int) ∧ s.2 = (i : Int)) 40 ?_ ?_ (Nat.zero_le _) (by decide) ⟨rfl, rfl⟩) ?_
  · rintro i ⟨c, j⟩ hi ⟨h1, h2⟩
    dsimp only at *
    subst h1
    subst h2
    unfold q_X12_countPoints_L4
    simp only [kwp_kg, kwp_kif, kwp_some, kwp_kl, tn0]
    have e : cntU (lv r) (i + 1) = cntU (lv r) i + if lv r i = true then 1 else 0 := rfl
    rcases H.2.1 i hi with q | q
    · have : lv r i = false := lv_f.mpr q.1
      rw [q.2]
      refine ⟨⟨by omega, by omega⟩, fun w => by omega, fun _ => ⟨⟨by omega, by omega⟩, by decide, fun w => absurd w (by decide), fun _ => ⟨by trivial, ?_, by omega⟩⟩⟩
      rw [e, this]
      simp
    · have : lv r i = true := lv_t.mpr q.1
      rw [q.2.1]
      refine ⟨⟨by omega, by omega⟩, fun w => by omega, fun _ => ⟨⟨by omega, by omega⟩, by decide, fun _ => ⟨by decide, fun _ => ⟨by trivial, ?_, by omega⟩, fun w => (w (by trivial)).elim⟩, fun w => (w (by trivial)).elim⟩⟩
      rw [e, this]
      simp
  · rintro ⟨c, j⟩ ⟨h1, h2⟩
    dsimp only at *
    subst h2
    unfold q_X12_countPoints_L4
    simp only [kwp_kg, kwp_kif, kwp_some, kwp_kl]
    exact ⟨⟨by omega, by omega⟩, fun _ => ⟨by trivial, h1, by trivial⟩, fun w => by omega⟩
  · rintro ⟨l, c, j⟩ ⟨h0, h1, h2⟩
    simp only [kwp_kg, kwp_some]
    exact ⟨h0, h1⟩
def itsAt (m : tZ12) (its : List Itm) : Prop := ∀ j, j < its.length → ∃ it, its[j]? = some it ∧ m.2.2.1 8 j = it.1 ∧ m.2.2.1 9 j = it.2.1 ∧ m.2.2.1 10 j = it.2.2
theorem qm_readText {b : Nat → Int} {n : Int} {m : tZ12} {r0 : Nat → Int} (hb : ∀ i : Nat, (i : Int) < n → 0 ≤ b i ∧ b i ≤ 255) (hT : TB b n m) (hn : n ≤ 400) (hn0 : 0 ≤ n) (H : HR r0 (m.2.2.1 0)) :
    kwp (q_X12_readText m) (fun x => ∃ R, R = runS (NX b n) n 401 0 r0 [] ∧ FI m x.2 ∧ ((R.1 = -1 ∧ x.1 = true ∧ x.2.1 6 = -1 ∧ x.2.1 11 = (R.2.1.length : Int) ∧ R.2.1.length ≤ 80 ∧ itsAt x.2 R.2.1) ∨ (R.1 ≠ -1 ∧ x.1 = false ∧ x.2.1 6 = R.1))) := by
  obtain ⟨R, hR⟩ : ∃ R, R = runS (NX b n) n 401 0 r0 [] := ⟨_, rfl⟩
  unfold q_X12_readText
  simp only [kwp_kl]
  obtain ⟨m1, hm1⟩ : ∃ m1 : tZ12, m1 = (va_up (va_up (va_up m.1 5 0) 6 (-1)) 11 0, m.2) := ⟨_, rfl⟩
  rw [← hm1]
  have f1 : FI m m1 := by
    rw [hm1]
    exact ⟨rfl, rfl, fun j h5 h6 _ h11 => by dsimp only; rw [va_ne _ _ h11, va_ne _ _ h6, va_ne _ _ h5], fun _ _ _ _ => rfl⟩
  have H1 : HR r0 (m1.2.2.1 0) := by rw [hm1]; exact H
  refine w_kbe (qm_count H1) ?_
  simp only [kwp_kl]
  have hc := cntU_le (lv r0) 40
  refine w_kb (P := fun e => FI m e.2.2 ∧ ((e.1 = 71 ∧ R.1 = -1 ∧ e.2.2.1 6 = -1 ∧ e.2.2.1 11 = (R.2.1.length : Int) ∧ R.2.1.length ≤ 80 ∧ itsAt e.2.2 R.2.1) ∨ (e.1 = 48 ∧ R.1 ≠ -1 ∧ e.2.2.1 6 = R.1))) ?_ ?_
  · refine w_loop (fun k s => FI m s.2 ∧ ∃ (p : Nat) (r : Nat → Int) (its : List Itm), p ≤ 400 ∧ s.2.1 5 = (p : Int) ∧ s.2.1 6 = -1 ∧ s.2.1 11 = (its.length : Int) ∧ s.1 = 40 - (cnt r : Int) ∧ 5 * its.length ≤ p ∧ k + its.length = 401 ∧ itsAt s.2 its ∧ runS (NX b n) n k p r its = R ∧ VR r) ?_ kF 401 _ (by decide)
      ⟨f1, 0, r0, [], by omega, by rw [hm1]; rfl, by rw [hm1]; rfl, by rw [hm1]; rfl, rfl, by simp, rfl, fun j h => absurd h (Nat.not_lt_zero _), hR.symm, H.1⟩
    rintro k ⟨left, s⟩ ⟨f0, p, r, its, p1, s5, s6, s11, hleft, p2, p3, p6, p4, p5⟩
    dsimp only at *
    subst hleft
    have hcr := cntU_le (lv r) 40
    have hcr : cnt r ≤ 40 := hcr
    unfold q_X12_readText_L24
    have hT1 := TB_fi hT f0
    simp only [kwp_kg, kwp_kif, kwp_kb, kwp_kl, kwp_some]
    rw [hT1.1, s5, s11]
    cases k with
    | zero => omega
    | succ k =>
      unfold runS at p4
      refine ⟨⟨⟨by omega, by omega⟩, ⟨by omega, by omega⟩⟩, fun q => ?_, fun q => ?_⟩
      · rw [if_pos q] at p4
        subst p4
        exact Or.inr ⟨by decide, f0, Or.inl ⟨by trivial, by trivial, s6, rfl, by show its.length ≤ 80; omega, p6⟩⟩
      · rw [if_neg q] at p4
        obtain ⟨kk, hk⟩ := free_ex r
        rw [freI_eq hk] at p4
        have hcf := cnt_full r hk
        refine w_mono (qm_readItem (k := kk) (i := its.length) hb hT1 s5 hn hn0 (by omega) s11 (by omega) (by omega) ⟨by omega, by omega⟩) ?_
        rintro ⟨ok, s'⟩ ⟨g0, g⟩
        dsimp only at g0 g ⊢
        simp only [kz_0]
        have hi := i_bd (NX b n) p
        rcases g with ⟨gF, rfl, g5, g6, g11, g8, g9, g10⟩ | ⟨gF, rfl, g6⟩
        · rw [if_pos gF] at p4
          have il := item_len gF
          have ok := app_ok p5 hk gF
          refine ⟨fun w => (by cases w), fun _ => ?_⟩
          rw [g8, Int.toNat_natCast, va_same]
          have hits : itsAt s' (its ++ [itm (NX b n) p]) := by
            intro j hj
            rw [List.length_append] at hj
            by_cases e : j = its.length
            · subst e
              refine ⟨itm (NX b n) p, by simp, ?_, ?_, ?_⟩
              · rw [g8, va_same]
              · rw [g9, va_same]
              · rw [g10, va_same]
            · have hj' : j < its.length := by simp at hj; omega
              obtain ⟨it, i1, i2, i3, i4⟩ := p6 j hj'
              refine ⟨it, by rw [List.getElem?_append_left hj']; exact i1, ?_, ?_, ?_⟩
              · rw [g8, va_ne _ _ e, i2]
              · rw [g9, va_ne _ _ e, i3]
              · rw [g10, va_ne _ _ e, i4]
          have hlen : (its ++ [itm (NX b n) p]).length = its.length + 1 := by simp
          have nx : ∀ left', left' = 40 - (cnt (appI r kk (NX b n) p) : Int) → FI m s' ∧ ∃ (p_1 : Nat) (r_1 : Nat → Int) (its_1 : List Itm), p_1 ≤ 400 ∧ s'.1 5 = (p_1 : Int) ∧ s'.1 6 = -1 ∧ s'.1 11 = (its_1.length : Int) ∧ left' = 40 - (cnt r_1 : Int) ∧ 5 * its_1.length ≤ p_1 ∧ k + its_1.length = 401 ∧ itsAt s' its_1 ∧ runS (NX b n) n k p_1 r_1 its_1 = R ∧ VR r_1 :=
            fun left' hl => ⟨FI_trans f0 g0, iQ2 (NX b n) p + 1, appI r kk (NX b n) p, its ++ [itm (NX b n) p], by omega, g5, g6.trans s6, by rw [g11, hlen], hl, by rw [hlen]; omega, by rw [hlen]; omega, hits, p4, ok.1⟩
          have hk' : k32 (itm (NX b n) p).1 := by
            unfold itm
            dsimp only
            split
            · have := (ok.2.1 (by assumption)).1
              exact ⟨by omega, by omega⟩
            · have := (ok.2.2 (by assumption)).1
              exact ⟨by omega, by omega⟩
          refine ⟨⟨by omega, by omega⟩, hk', fun q4 => Or.inl ⟨by trivial, k, by omega, nx _ ?_⟩, fun q4 => Or.inl ⟨by trivial, k, by omega, nx _ ?_⟩⟩
          · have hp : NX b n p = 112 := by
              by_cases hp : NX b n p = 112
              · exact hp
              · have := (ok.2.2 hp).1
                unfold itm at q4
                dsimp only at q4
                rw [if_neg hp] at q4
                omega
            rw [(ok.2.1 hp).2.2.2]
            omega
          · have hp : ¬ NX b n p = 112 := fun hp => by
              have := (ok.2.1 hp).1
              unfold itm at q4
              dsimp only at q4
              rw [if_pos hp] at q4
              omega
            rw [(ok.2.2 hp).2.2.2.2]
            omega
        · rw [if_neg gF] at p4
          subst p4
          exact ⟨fun _ => Or.inr ⟨by decide, FI_trans f0 g0, Or.inr ⟨by trivial, gF, g6⟩⟩, fun w => (w (by trivial)).elim⟩
  · rintro ⟨l, c, s⟩ ⟨f0, h⟩
    dsimp only at *
    simp only [kwp_kg, kwp_kif, kwp_some]
    rcases h with ⟨rfl, h1, h2, h3, h4, h5⟩ | ⟨rfl, h1, h2⟩
    · exact ⟨fun q => absurd q (by decide), fun _ => ⟨by trivial, R, hR, f0, Or.inl ⟨h1, by trivial, h2, h3, h4, h5⟩⟩⟩
    · exact ⟨fun _ => ⟨R, hR, f0, Or.inr ⟨h1, by trivial, h2⟩⟩, fun w => (w (by trivial)).elim⟩
/-- a DEED whose row is told by HR alone -/
theorem deed2 {z4 : tZ4} {m : tZ12} {z9 : tZ9} {z10 : tZ10} {r' : Nat → Int} (H : REL z4 z9 z10 m) {mo : tZ12 → Option tZ12}
    (ho : ∀ n : tZ12, (∀ j, j ≠ 1 → n.2.2.1 j = m.2.2.1 j) → (∀ j, j ≠ 2 → n.1 j = m.1 j) → kwp (mo n) (fun n' => n'.1 = n.1 ∧ HR r' (n'.2.2.1 0) ∧ ∀ j, j ≠ 0 → n'.2.2.1 j = n.2.2.1 j)) :
    kwp (q_X4_keep (r', va_cpy z4.1 z4.2.1 0 0 129, z4.2.2)) (fun z' => kwp (kb (q_X12_keep m) mo) (fun m' => REL z' z9 z10 m' ∧ ∀ j, j ≠ 2 → m'.1 j = m.1 j)) := by
  obtain ⟨⟨h1, h2⟩, h3, h4⟩ := H
  have hk := h2
  obtain ⟨k1, k2, k3, k4, k5, k6⟩ := h2
  refine w_of (q_keep ⟨k4, k5⟩ ⟨k2, k3⟩) ?_
  refine w_kb (qm_keep (m := m) ⟨by omega, by omega⟩) (fun n ⟨g1, g2, g3, g4, g5, g6, g7⟩ => ?_)
  refine w_mono (ho n g5 g2) (fun n' ⟨f1, f2, f3⟩ => ?_)
  have hKR := KR_keep (z := (r', va_cpy z4.1 z4.2.1 0 0 129, z4.2.2)) (r0 := z4.1) (m := m) (m' := n) hk (fun k hk => by
    show va_cpy z4.1 z4.2.1 0 0 129 k = z4.1 k
    unfold va_cpy
    rw [if_pos ⟨by omega, by omega⟩, show 0 + (k - 0) = k by omega]) h1 g1 g6 g7
  refine ⟨⟨⟨f2, ?_⟩, ?_, ?_⟩, fun j hj => by rw [f1]; exact g2 j hj⟩
  · show KR _ _ _ (n'.2.2.1 1) (n'.1 2)
    rw [f1, f3 1 (by decide)]
    exact hKR
  · unfold TR at *
    rw [f1, g2 4 (by decide), g2 6 (by decide), f3 3 (by decide), g5 3 (by decide)]
    exact h3
  · unfold WR at *
    rw [f1, g2 55 (by decide), f3 54 (by decide), g5 54 (by decide)]
    exact h4
theorem T_text {z11 : tZ11} {z4 : tZ4} {z9 : tZ9} {z10 : tZ10} {m : tZ12} (H : REL z4 z9 z10 m) : kwp (q_X11_text z11 z4 z9) (fun r => kwp (q_X12_text m) (fun r' => r.1 = r'.1 ∧ k32 r.1 ∧ REL r.2.1 r.2.2 z10 r'.2)) := by
  obtain ⟨⟨hH, hK⟩, hT, hW⟩ := H
  have hK0 := hK
  obtain ⟨k1, k2, k3, k4, k5, k6⟩ := hK
  obtain ⟨b, n, at0, f0⟩ := z9
  have hT0 := hT
  obtain ⟨t1, t2, t3, t4, t5, t6⟩ := hT
  dsimp only at t1 t4 t5
  have hb : ∀ i : Nat, (i : Int) < n → 0 ≤ b i ∧ b i ≤ 255 := fun i hi => (t4 i (by omega)).2
  unfold q_X11_text q_X12_text
  refine w_kb (q_read (z4 := z4) hb (by omega) (by omega) hH.1 ⟨k4, k5⟩ ⟨k2, k3⟩) ?_
  rintro ⟨ans, ⟨b', n', at', f'⟩, z4'⟩ ⟨R, hR, c1, c2, c3, c4, c5, c6⟩
  dsimp only at c1 c2 c3 c6
  subst c1
  subst c2
  subst c3
  simp only [kwp_some]
  refine w_kb (qm_readText (b := b') (n := n) (r0 := z4.1) hb ⟨t1.symm, fun i hi => (t4 i (by omega)).1⟩ (by omega) (by omega) hH) ?_
  rintro ⟨ok, m1⟩ ⟨R', hR', g0, g⟩
  have eR : R' = R := hR'.trans hR.symm
  subst eR
  dsimp only at g0 g ⊢
  simp only [kwp_kl, kwp_kg, kwp_kif, kwp_some]
  obtain ⟨m2, hm2⟩ : ∃ m2 : tZ12, m2 = (va_up m1.1 4 0, m1.2) := ⟨_, rfl⟩
  rw [← hm2]
  have h2 : m2.1 4 = 0 := by rw [hm2]; dsimp only; rw [va_same]
  have h2' : ∀ j, j ≠ 4 → m2.1 j = m1.1 j := fun j hj => by rw [hm2]; dsimp only; rw [va_ne _ _ hj]
  have h2a : m2.2 = m1.2 := by rw [hm2]
  have hTW : TR (b', 0, at', R'.1) m2 ∧ WR z10 m2 := by
    constructor
    · refine ⟨h2.symm, by omega, by omega, fun i hi => by omega, ?_, ?_⟩
      · rw [h2' 6 (by decide)]
        rcases g with ⟨e1, _, e2, _⟩ | ⟨_, _, e2⟩
        · rw [e2]; exact e1
        · exact e2.symm
      · rw [h2' 6 (by decide)]
        rcases g with ⟨e1, _, e2, _⟩ | ⟨_, _, e2⟩
        · rw [e2]; decide
        · rw [e2]; exact ⟨by omega, by omega⟩
    · unfold WR at *
      rw [h2' 55 (by decide), h2a, g0.2.2.1 55 (by decide) (by decide) (by decide) (by decide), g0.2.2.2 54 (by decide) (by decide) (by decide)]
      exact hW
  have hDR : ∀ z : tZ4, (∀ k, k < 129 → z.1 k = z4.1 k) → z.2.2 = z4.2.2 → DR z m2 := fun z hz hz2 => by
    refine ⟨?_, ?_⟩
    · rw [h2a, g0.2.2.2 0 (by decide) (by decide) (by decide)]
      exact HR_congr hz (fun _ _ => rfl) hH
    · rw [hz2, h2a, h2' 2 (by decide), g0.2.2.2 1 (by decide) (by decide) (by decide), g0.2.2.1 2 (by decide) (by decide) (by decide) (by decide)]
      exact hK0
  rcases c6 with ⟨e1, e2, e3, e4⟩ | ⟨e1, e2, e3, e4⟩
  · rcases g with ⟨_, rfl, g6, g11, g12, g13⟩ | ⟨g1, _⟩
    · have hRel : REL z4 (b', 0, at', R'.1) z10 m2 := ⟨hDR z4 (fun _ _ => rfl) rfl, hTW⟩
      have hc := run_chain 401 0 z4.1 [] hH.1 (x := NX b' n) (n := n)
      rw [← hR'] at hc
      obtain ⟨new, n1, n2⟩ := hc
      rw [List.nil_append] at n1
      rw [← n1] at n2
      have hk := deed2 (r' := R'.2.2) hRel (mo := fun x4 => kb (kitr 22 (fun q => q_X12_text_L22 q) kF ((0 : Int), x4)) (fun x10 : (Nat × Int × tZ12) => kg (x10.1 = 99) (some x10.2.2))) (fun w w1 w2 => by
        rw [kwp_kb]
        have w11 : w.1 11 = (R'.2.1.length : Int) := by rw [w2 11 (by decide), h2' 11 (by decide)]; exact g11
        have wits : itsAt w R'.2.1 := fun j hj => by
          obtain ⟨it, i1, i2, i3, i4⟩ := g13 j hj
          exact ⟨it, i1, by rw [w1 8 (by decide), h2a]; exact i2, by rw [w1 9 (by decide), h2a]; exact i3, by rw [w1 10 (by decide), h2a]; exact i4⟩
        refine w_mono (w_for (ex := 99) (by decide) (fun i (s : Int × tZ12) => s.1 = (i : Int) ∧ s.2.1 = w.1 ∧ (∀ j, j ≠ 0 → s.2.2.2.1 j = w.2.2.1 j) ∧ ∃ r, HR r (s.2.2.2.1 0) ∧ chain R'.2.2 r (R'.2.1.drop i)) R'.2.1.length ?_ ?_ (Nat.zero_le _) (Nat.lt_of_le_of_lt (Nat.sub_le _ _) (Nat.lt_of_le_of_lt g12 (by decide)))
          ⟨rfl, rfl, fun _ _ => rfl, z4.1, by rw [w1 0 (by decide)]; exact hRel.1.1, n2⟩) ?_
        · rintro i ⟨c, s⟩ hi ⟨s1, s2, s3, r, s4, s5⟩
          dsimp only at *
          subst s1
          obtain ⟨it, i1, i2, i3, i4⟩ := wits i hi
          have hdrop : R'.2.1.drop i = it :: R'.2.1.drop (i + 1) := by
            rw [List.drop_eq_getElem_cons hi]
            congr 1
            rw [List.getElem?_eq_getElem hi] at i1
            exact Option.some.inj i1
          rw [hdrop] at s5
          obtain ⟨ok, s5⟩ := s5
          unfold q_X12_text_L22
          simp only [kwp_kg, kwp_kif, kwp_kl, kwp_some, kwp_kb, Int.toNat_natCast]
          rw [s2, w11, s3 8 (by decide), s3 9 (by decide), s3 10 (by decide), i2, i3, i4]
          have hk8 : k32 it.1 := by rcases ok with q | q <;> exact ⟨by omega, by omega⟩
          refine ⟨⟨⟨by omega, by omega⟩, ⟨by omega, by omega⟩⟩, fun q => by omega, fun _ => ⟨⟨by omega, by omega⟩, hk8, fun q => ?_, fun q => ?_⟩⟩
          · rcases ok with ok | ok
            · obtain ⟨h, hh⟩ := nat_of (show 0 ≤ it.1 - 4 by omega)
              rw [hh]
              unfold q_X12_layPace
              simp only [kwp_kg, kwp_kl, kwp_some, tn160, tn161, va_same]
              refine ⟨⟨by omega, by omega⟩, ⟨by omega, by omega⟩, by trivial, by omega, s2, fun j hj => ?_, appItm r it, ?_, s5⟩
              · rw [va_ne _ _ hj, va_ne _ _ hj]
                exact s3 j hj
              · unfold appItm
                rw [if_pos q, show (it.1 - 4).toNat = h by omega]
                exact HR_pace s4 (by omega) ok.2.2.1 ok.2.2.2
            · omega
          · rcases ok with ok | ok
            · omega
            · obtain ⟨j, j1, j2⟩ := ok.2.2.2.2
              obtain ⟨k', q1, q2⟩ := qm_free s4
              have ek := free_only q2 j2
              subst ek
              rw [q1, kwp_some]
              refine w_mono (qm_lay j1) (fun s' ⟨l1, l2, l3, l4, l5⟩ => ⟨by trivial, by omega, l1.trans s2, fun j hj => (l5 j hj).trans (s3 j hj), appItm r it, ?_, s5⟩)
              rw [l4]
              unfold appItm
              rw [if_neg q, freI_eq j2, Int.toNat_natCast]
              exact HR_put s4 j1 ok.2.2.1 ok.2.2.2.1 ⟨ok.1, ok.2.1⟩
        · rintro ⟨c, s⟩ ⟨s1, s2, s3⟩
          dsimp only at *
          subst s1
          unfold q_X12_text_L22
          simp only [kwp_kg, kwp_kif, kwp_kl, kwp_some, kwp_kb]
          rw [s2, w11]
          exact ⟨⟨⟨by omega, by omega⟩, ⟨by omega, by omega⟩⟩, fun _ => ⟨by trivial, by trivial, by trivial, s3⟩, fun q => by omega⟩
        · rintro ⟨l, c, s⟩ ⟨h0, s1, s2, s3, r, s4, s5⟩
          dsimp only at *
          simp only [kwp_kg, kwp_some]
          rw [List.drop_length] at s5
          have s5 : R'.2.2 = r := s5
          refine ⟨h0, s2, by rw [s5]; exact s4, s3⟩)
      obtain ⟨z', hz1, hz2⟩ := hk
      rw [← e4] at hz1
      cases hz1
      refine ⟨by decide, fun q => absurd q (by decide), fun _ => ?_⟩
      rw [kwp_kb] at hz2
      simp only [kwp_kb] at hz2 ⊢
      refine w_mono hz2 (fun x h => w_mono h (fun e h => ?_))
      simp only [kwp_kg, kwp_some] at h ⊢
      refine ⟨h.1, ?_, ⟨by omega, by omega⟩, h.2.1⟩
      rw [h.2.2 11 (by decide), h2' 11 (by decide), g11]
      exact e2
    · exact absurd e1 g1
  · rcases g with ⟨g1, _⟩ | ⟨_, rfl, g6⟩
    · exact absurd g1 e1
    · refine ⟨by decide, fun _ => ⟨e2, by rw [e2]; decide, hDR z4' e3 e4, hTW⟩, fun q => (q (by trivial)).elim⟩
