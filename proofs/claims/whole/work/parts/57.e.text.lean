theorem numE_ok {x : Nat → Int} {p : Nat} {far : Int} (h : numF x p far = -1) : p + 1 ≤ numE x p := by
  have hB : p ≤ nB x p := by unfold nB; split <;> omega
  have hD : nD x (nB x p) ≠ 0 := fun e => by
    unfold numF at h
    rw [if_pos (Or.inl e)] at h
    omega
  unfold numE
  omega
theorem item_len {b : Nat → Int} {n k : Int} {p : Nat} (h : iF (NX b n) k p = -1) : p + 4 ≤ iQ2 (NX b n) p ∧ (iQ2 (NX b n) p : Int) < n := by
  have ok := iF_ok h
  have e1 := numE_ok ok.2.2.1
  have e2 := numE_ok ok.2.2.2.2.1
  have hi := i_bd (NX b n) p
  refine ⟨by unfold iQ2; unfold iQ1 at *; omega, ?_⟩
  have e3 := ok.2.2.2.2.2
  by_cases w : (iQ2 (NX b n) p : Int) < n
  · exact w
  · have : NX b n (iQ2 (NX b n) p) = -1 := if_neg w
    omega
theorem q_read {b : Nat → Int} {n at0 f0 : Int} {z4 : tZ4} (hb : ∀ i : Nat, (i : Int) < n → 0 ≤ b i ∧ b i ≤ 255) (hn : n ≤ 400) (hn0 : 0 ≤ n) (hV : VR z4.1) (hw : 0 ≤ z4.2.2.2.1 ∧ z4.2.2.2.1 < 20) (hd : 0 ≤ z4.2.2.2.2 ∧ z4.2.2.2.2 ≤ 20) :
    kwp (q_X9_read (b, n, at0, f0) z4) (fun r => ∃ R, R = runS (NX b n) n 401 0 z4.1 [] ∧ r.2.1.1 = b ∧ r.2.1.2.1 = 0 ∧ r.2.1.2.2.2 = R.1 ∧ -1 ≤ R.1 ∧ R.1 < 1000 ∧
      ((R.1 = -1 ∧ r.1 = (R.2.1.length : Int) ∧ R.2.1.length ≤ 80 ∧ some r.2.2 = q_X4_keep (R.2.2, va_cpy z4.1 z4.2.1 0 0 129, z4.2.2)) ∨ (R.1 ≠ -1 ∧ r.1 = -1 ∧ (∀ k, k < 129 → r.2.2.1 k = z4.1 k) ∧ r.2.2.2.2 = z4.2.2))) := by
  unfold q_X9_read
  simp only [kwp_kl]
  refine w_kbe (q_mark z4) ?_
  obtain ⟨R, hR⟩ : ∃ R, R = runS (NX b n) n 401 0 z4.1 [] := ⟨_, rfl⟩
  refine w_kb (P := fun e => e.1 = 57 ∧ -1 ≤ R.1 ∧ R.1 < 1000 ∧ (∃ at', e.2.2.2.1 = (b, n, at', R.1)) ∧ e.2.2.2.2.2 = (va_cpy z4.1 z4.2.1 0 0 129, z4.2.2) ∧ (R.1 = -1 → e.2.1 = (R.2.1.length : Int) ∧ R.2.1.length ≤ 80 ∧ e.2.2.2.2.1 = R.2.2)) ?_ ?_
  · refine w_loop (fun k s => s.2.2.2.2 = (va_cpy z4.1 z4.2.1 0 0 129, z4.2.2) ∧ ((∃ (p : Nat) (its : List Itm), p ≤ 400 ∧ s.2.2.1 = (b, n, (p : Int), -1) ∧ s.1 = (its.length : Int) ∧ s.2.1 = 400 - (its.length : Int) ∧ 5 * its.length ≤ p ∧ k + its.length = 401 ∧ runS (NX b n) n k p s.2.2.2.1 its = R ∧ VR s.2.2.2.1) ∨
      (k = 0 ∧ ∃ at', s.2.2.1 = (b, n, at', R.1) ∧ 0 ≤ R.1 ∧ R.1 < 1000 ∧ k32 at' ∧ 0 ≤ s.2.1 ∧ s.2.1 < 1000))) ?_ kF 401 _ (by decide) ⟨rfl, Or.inl ⟨0, [], by omega, rfl, rfl, rfl, by simp, rfl, hR.symm, hV⟩⟩
    rintro k ⟨items, left, z9, r, rest⟩ ⟨hrest, h⟩
    dsimp only at *
    subst hrest
    rcases h with ⟨p, its, p1, rfl, rfl, rfl, p2, p3, p4, p5⟩ | ⟨rfl, at', rfl, f1, f2, f3, f4, f5⟩
    · unfold q_X9_read_L20
      simp only [kwp_kg, kwp_kif, kwp_kb, kwp_kl, kwp_some]
      cases k with
      | zero =>
        exfalso
        unfold runS at p4
        omega
      | succ k =>
        unfold runS at p4
        refine ⟨⟨by omega, by omega⟩, fun q => by omega, fun _ => ⟨⟨⟨by omega, by omega⟩, ⟨by omega, by omega⟩⟩, fun q => ?_, fun q => ⟨by decide, fun _ => ?_, fun q => (q (by trivial)).elim⟩⟩⟩
        · rw [if_pos q] at p4
          subst p4
          exact Or.inr ⟨by decide, by trivial, by show (-1 : Int) ≤ -1; omega, by show (-1 : Int) < 1000; omega, ⟨(p : Int), rfl⟩, by trivial, fun _ => ⟨by trivial, by show its.length ≤ 80; omega, by trivial⟩⟩
        · rw [if_neg q] at p4
          refine w_mono (q_readItem (z4 := (r, va_cpy z4.1 z4.2.1 0 0 129, z4.2.2)) hb hn hn0 (by omega) p5) ?_
          rintro ⟨y9, yr, yrest⟩ ⟨kk, g1, g2, g3, g4⟩
          dsimp only at g2 g3 g4 ⊢
          subst g2
          subst g3
          have ek := freI_eq g1
          rw [ek] at p4
          have hi := i_bd (NX b n) p
          have hB := iF_bd (NX b n) kk p
          by_cases hF : iF (NX b n) kk p = -1
          · rw [if_pos hF] at p4
            have il := item_len hF
            refine Or.inl ⟨by trivial, k, by omega, rfl, Or.inl ⟨iQ2 (NX b n) p + 1, its ++ [itm (NX b n) p], by omega, by rw [hF], by simp, by simp; omega, ?_, ?_, by rw [g4 hF]; exact p4, by rw [g4 hF]; exact (app_ok p5 g1 hF).1⟩⟩
            · simp only [List.length_append, List.length_cons, List.length_nil]
              omega
            · simp only [List.length_append, List.length_cons, List.length_nil]
              omega
          · rw [if_neg hF] at p4
            subst p4
            refine Or.inl ⟨by trivial, 0, by omega, rfl, Or.inr ⟨rfl, _, rfl, by dsimp only; omega, by dsimp only; omega, ⟨by omega, by omega⟩, by omega, by omega⟩⟩
    · unfold q_X9_read_L20
      simp only [kwp_kg, kwp_kif, kwp_kb, kwp_kl, kwp_some]
      refine ⟨⟨by omega, by omega⟩, fun q => Or.inr ?_, fun _ => ⟨⟨⟨by omega, by omega⟩, f3⟩, fun q => Or.inr ?_, fun q => ⟨⟨by omega, by omega⟩, fun q => by omega, fun _ => Or.inr ?_⟩⟩⟩
      all_goals exact ⟨by decide, by trivial, by omega, by omega, ⟨at', by trivial⟩, by trivial, fun q => by omega⟩
  · rintro ⟨l, items, left, z9, r', rest⟩ ⟨h0, h1, h2, ⟨at', h3⟩, h4, h5⟩
    dsimp only at *
    subst h3
    subst h4
    simp only [kwp_kg]
    refine ⟨h0, ?_⟩
    unfold q_X9_read_J57
    simp only [kwp_kg, kwp_kif, kwp_kb, kwp_kl, kwp_some]
    refine ⟨⟨by omega, by omega⟩, fun q => ?_, fun q => ?_⟩
    · obtain ⟨g1, g2, g3⟩ := h5 q
      subst g1
      subst g3
      refine w_of (q_keep (z := (R.2.2, va_cpy z4.1 z4.2.1 0 0 129, z4.2.2)) hw hd) ?_
      refine ⟨R, hR, ?_, ?_, ?_, h1, h2, Or.inl ⟨q, ?_, g2, (q_keep (z := (R.2.2, va_cpy z4.1 z4.2.1 0 0 129, z4.2.2)) hw hd).symm⟩⟩
      all_goals first | exact trivial | rfl
    · unfold q_X4_returnToMark
      simp only [kwp_kl, kwp_some]
      refine ⟨R, hR, by trivial, by trivial, by trivial, h1, h2, Or.inr ⟨q, by trivial, fun k hk => ?_, by trivial⟩⟩
      unfold va_cpy
      rw [if_pos ⟨by omega, by omega⟩, if_pos ⟨by omega, by omega⟩]
      exact congrArg z4.1 (by omega)
/-- the ITEMS, one by one, as they change the row -/
noncomputable def appItm (r : Nat → Int) (it : Itm) : Nat → Int :=
  if 4 ≤ it.1 then va_up (va_up r (120 + (it.1 - 4).toNat) it.2.1) (124 + (it.1 - 4).toNat) it.2.2 else putR r (freI r).toNat it.2.1 it.2.2 it.1
def okI (r : Nat → Int) (it : Itm) : Prop := (4 ≤ it.1 ∧ it.1 < 8 ∧ (-3 ≤ it.2.1 ∧ it.2.1 ≤ 3) ∧ -3 ≤ it.2.2 ∧ it.2.2 ≤ 3) ∨ (0 ≤ it.1 ∧ it.1 < 4 ∧ (-100 ≤ it.2.1 ∧ it.2.1 ≤ 100) ∧ (-100 ≤ it.2.2 ∧ it.2.2 ≤ 100) ∧ ∃ j : Nat, j < 40 ∧ FreeOf r (j : Int))
noncomputable def chain (r' : Nat → Int) : (Nat → Int) → List Itm → Prop
  | r, [] => r' = r
  | r, it :: t => okI r it ∧ chain r' (appItm r it) t
theorem app_itm {r : Nat → Int} {k : Int} {x : Nat → Int} {p : Nat} (H : VR r) (hk : FreeOf r k) (h : iF x k p = -1) : okI r (itm x p) ∧ appI r k x p = appItm r (itm x p) := by
  have a := app_ok H hk h
  have ek := freI_eq hk
  unfold okI itm appItm appI
  by_cases hp : x p = 112
  · have b := a.2.1 hp
    rw [if_pos hp, if_pos hp]
    dsimp only
    rw [if_pos (by omega), show (4 + iH x p - 4).toNat = (iH x p).toNat by omega]
    exact ⟨Or.inl ⟨by omega, by omega, b.2.1, b.2.2.1⟩, rfl⟩
  · have b := a.2.2 hp
    rw [if_neg hp, if_neg hp]
    dsimp only
    rw [if_neg (by omega), ek]
    obtain ⟨j, j1, j2⟩ := b.2.2.2.1
    exact ⟨Or.inr ⟨b.1.1, b.1.2, b.2.1, b.2.2.1, j, j1, j2 ▸ hk⟩, rfl⟩
theorem free_ex (r : Nat → Int) : ∃ k, FreeOf r k := by
  have key : ∀ n, (∃ k : Nat, k < n ∧ r (80 + k) = -1 ∧ ∀ j, j < k → r (80 + j) ≠ -1) ∨ ∀ j, j < n → r (80 + j) ≠ -1 := by
    intro n
    induction n with
    | zero => exact Or.inr (fun j h => absurd h (Nat.not_lt_zero _))
    | succ n ih =>
      rcases ih with ⟨k, h1, h2⟩ | h
      · exact Or.inl ⟨k, by omega, h2⟩
      · by_cases e : r (80 + n) = -1
        · exact Or.inl ⟨n, by omega, e, h⟩
        · refine Or.inr (fun j hj => ?_)
          by_cases e2 : j = n
          · rw [e2]; exact e
          · exact h j (by omega)
  rcases key 40 with ⟨k, h1, h2⟩ | h
  · exact ⟨(k : Int), Or.inl ⟨k, h1, rfl, h2⟩⟩
  · exact ⟨-1, Or.inr ⟨rfl, h⟩⟩
theorem run_chain {x : Nat → Int} {n : Int} : ∀ (f p : Nat) (r : Nat → Int) (its : List Itm), VR r → ∃ new, (runS x n f p r its).2.1 = its ++ new ∧ chain (runS x n f p r its).2.2 r new := by
  intro f
  induction f with
  | zero => intro p r its _; exact ⟨[], (List.append_nil _).symm, rfl⟩
  | succ f ih =>
    intro p r its H
    unfold runS
    by_cases h1 : n ≤ (p : Int)
    · rw [if_pos h1]
      exact ⟨[], (List.append_nil _).symm, rfl⟩
    · rw [if_neg h1]
      by_cases h2 : iF x (freI r) p = -1
      · rw [if_pos h2]
        obtain ⟨k, hk⟩ := free_ex r
        have ek := freI_eq hk
        rw [ek] at h2 ⊢
        have a := app_itm H hk h2
        obtain ⟨new, g1, g2⟩ := ih (iQ2 x p + 1) (appI r k x p) (its ++ [itm x p]) (app_ok H hk h2).1
        refine ⟨itm x p :: new, by rw [g1]; simp, a.1, ?_⟩
        rw [← a.2]
        exact g2
      · rw [if_neg h2]
        exact ⟨[], (List.append_nil _).symm, rfl⟩
