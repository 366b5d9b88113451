/-! ===== the model's least circle: its loops ===== -/
theorem qm_far {m : tZ12} {l : List Spt} (H : SPm m l) (hb : bdL l) (set : Int) : kwp (kitr 13 (fun q => q_X12_layCircle_L13 set m q) kF ((-1 : Int), (-1 : Int), (-1 : Int), (0 : Int))) (fun e => e.1 = 99 ∧ far3 (lX l) (lY l) (Sout (tbM set) l.length) e.2.1 e.2.2.1 e.2.2.2.1) := by
  have hl := H.2.1
  refine w_mono (w_for (ex := 99) (by decide) (fun i (s : Int × Int × Int × Int) => s.2.2.2 = (i : Int) ∧ far3 (lX l) (lY l) (Sout (tbM set) i) s.1 s.2.1 s.2.2.1) l.length ?_ ?_ (Nat.zero_le _) (by have := kF_eq; omega) ⟨rfl, Or.inl ⟨rfl, fun p q h => absurd h.1 (Nat.not_lt_zero _)⟩⟩) (fun e h => ⟨h.1, h.2.2⟩)
  · rintro i ⟨a, b, f, c⟩ hi ⟨rfl, h⟩
    dsimp only at h
    have hfk := far3_k hb h (fun p q w => ⟨by have := w.1; omega, by have := w.1; have := w.2.1; omega⟩)
    unfold q_X12_layCircle_L13
    simp only [kwp_kg, kwp_kif, kwp_some, kwp_kb, kwp_kl]
    rw [H.1, qm_has (by omega), kwp_some, kz_0]
    refine ⟨⟨⟨by omega, by omega⟩, ⟨by omega, by omega⟩⟩, fun q => by omega, fun _ => ⟨fun q => ⟨by trivial, by omega, far3_same h (fun p q' => ?_)⟩, fun q => ?_⟩⟩
    · unfold Sout tbM
      constructor
      · rintro ⟨w1, w2, w3, w4⟩
        refine ⟨?_, w2, w3, w4⟩
        by_cases e : p = i
        · rw [e] at w3
          rw [w3] at q
          cases q
        · omega
      · rintro ⟨w1, w2, w3, w4⟩
        exact ⟨by omega, w2, w3, w4⟩
    · have hM : tb set i = true := by simpa using q
      refine w_mono (w_for (hd := 37) (ex := 93) (by decide) (fun j (s : Int × Int × Int × Int) => s.2.2.2 = (j : Int) ∧ far3 (lX l) (lY l) (Sin (tbM set) i j) s.1 s.2.1 s.2.2.1) (i + 1) ?_ ?_ (Nat.zero_le _) (by have := kF_eq; omega) ⟨rfl, far3_same h (fun p q' => ⟨fun w => w.elim id (fun w => absurd w.2.1 (Nat.not_lt_zero _)), fun w => Or.inl w⟩)⟩) ?_
      · rintro j ⟨a', b', f', c'⟩ hj ⟨rfl, h'⟩
        dsimp only at h'
        have hfk' := far3_k hb h' (fun p q w => by
          rcases w with w | w
          · exact ⟨by have := w.1; omega, by have := w.1; have := w.2.1; omega⟩
          · exact ⟨by omega, by omega⟩)
        have hd := ds_bd hb hi (show j < l.length by omega)
        unfold q_X12_layCircle_L37
        simp only [kwp_kg, kwp_kif, kwp_some, kwp_kb, kwp_kl]
        rw [qm_has (by omega), kwp_some, kz_0, qm_apart H hb hi (by omega)]
        simp only [kwp_some]
        have cover : ∀ p q, Sin (tbM set) i (j + 1) p q → Sin (tbM set) i j p q ∨ (p = i ∧ q = j) := by
          rintro p q (w | ⟨w1, w2, w3⟩)
          · exact Or.inl (Or.inl w)
          · by_cases e : q = j
            · exact Or.inr ⟨w1, e⟩
            · exact Or.inl (Or.inr ⟨w1, by omega, w3⟩)
        have grow : ∀ p q, Sin (tbM set) i j p q → Sin (tbM set) i (j + 1) p q := by
          rintro p q (w | ⟨w1, w2, w3⟩)
          · exact Or.inl w
          · exact Or.inr ⟨w1, by omega, w3⟩
        refine ⟨⟨⟨by omega, by omega⟩, ⟨by omega, by omega⟩⟩, fun w => by omega, fun _ => ⟨fun w => ⟨by trivial, by omega, far3_same h' (fun p q' => ⟨fun v => ?_, grow p q'⟩)⟩, fun w => ⟨⟨⟨by omega, by omega⟩, ⟨by omega, by omega⟩⟩, fun v => ⟨by trivial, by omega, far3_take h' cover (Or.inr ⟨rfl, by omega, ?_⟩) v⟩, fun v => ⟨by trivial, by omega, far3_stay h' cover grow (by omega) hd.1⟩⟩⟩⟩
        · rcases v with v | ⟨v1, v2, v3⟩
          · exact Or.inl v
          · by_cases e : q' = j
            · rw [e] at v3
              have v3 : tb set j = true := v3
              rw [v3] at w
              cases w
            · exact Or.inr ⟨v1, by omega, v3⟩
        · show tb set j = true
          simpa using w
      · rintro ⟨a', b', f', c'⟩ ⟨rfl, h'⟩
        dsimp only at h'
        unfold q_X12_layCircle_L37
        simp only [kwp_kg, kwp_kif, kwp_some, kwp_kb, kwp_kl]
        exact ⟨⟨⟨by omega, by omega⟩, ⟨by omega, by omega⟩⟩, fun _ => ⟨by trivial, by trivial, h'⟩, fun w => by omega⟩
      · rintro ⟨lb, a', b', f', c'⟩ ⟨h0, _, h'⟩
        dsimp only at h0 h'
        simp only [kwp_kg, kwp_some]
        refine ⟨h0, by trivial, by omega, far3_same h' (fun p q' => ?_)⟩
        unfold Sin Sout
        constructor
        · rintro ⟨w1, w2, w3, w4⟩
          by_cases e : p = i
          · exact Or.inr ⟨e, by omega, w4⟩
          · exact Or.inl ⟨by omega, w2, w3, w4⟩
        · rintro (⟨w1, w2, w3, w4⟩ | ⟨w1, w2, w3⟩)
          · exact ⟨by omega, w2, w3, w4⟩
          · exact ⟨by omega, by omega, by rw [w1]; exact hM, w3⟩
  · rintro ⟨a, b, f, c⟩ ⟨rfl, h⟩
    dsimp only at h
    unfold q_X12_layCircle_L13
    simp only [kwp_kg, kwp_kif, kwp_some, kwp_kb, kwp_kl]
    rw [H.1]
    exact ⟨⟨⟨by omega, by omega⟩, ⟨by omega, by omega⟩⟩, fun _ => ⟨by trivial, by trivial, h⟩, fun w => by omega⟩
theorem qm_keepBest (m : tZ12) : kwp (q_X12_keepBest m) (fun m' => FC m m' ∧ ∀ C, MCs m.2.1 16 C → MCs m'.2.1 23 C) := by
  unfold q_X12_keepBest
  simp only [kwp_kl, kwp_some]
  refine ⟨⟨rfl, rfl⟩, fun C h => ?_⟩
  unfold MCs at *
  simp (disch := decide) only [va_same, va_ne]
  exact h
theorem qm_takeBest (m : tZ12) : kwp (q_X12_takeBest m) (fun m' => FC m m' ∧ ∀ C, MCs m.2.1 23 C → MCs m'.2.1 16 C) := by
  unfold q_X12_takeBest
  simp only [kwp_kl, kwp_some]
  refine ⟨⟨rfl, rfl⟩, fun C h => ?_⟩
  unfold MCs at *
  simp (disch := decide) only [va_same, va_ne]
  exact h
theorem S3_s {M : Nat → Prop} {i j k p q r : Nat} : S3 M i j (k + 1) p q r → S3 M i j k p q r ∨ (p = i ∧ q = j ∧ r = k ∧ M k) := by
  rintro ⟨h1, h2, h3, h4, h5, h6⟩
  by_cases e : p = i ∧ q = j ∧ r = k
  · exact Or.inr ⟨e.1, e.2.1, e.2.2, e.2.2 ▸ h3⟩
  · exact Or.inl ⟨h1, h2, h3, h4, h5, by omega⟩
theorem S3_up {M : Nat → Prop} {i j k p q r : Nat} (h : S3 M i j k p q r) : S3 M i j (k + 1) p q r := ⟨h.1, h.2.1, h.2.2.1, h.2.2.2.1, h.2.2.2.2.1, by have := h.2.2.2.2.2; omega⟩
theorem qm_triples {m : tZ12} {l : List Spt} (H : SPm m l) (hb : bdL l) (set : Int) :
    kwp (q_X12_layTriples m set) (fun m' => FC m m' ∧ ((∃ i j k, S3 (tbM set) l.length 0 0 i j k ∧ ok3 (lX l) (lY l) (fun q => q < l.length ∧ tbM set q) i j k) → ∃ i j k, S3 (tbM set) l.length 0 0 i j k ∧ ok3 (lX l) (lY l) (fun q => q < l.length ∧ tbM set q) i j k ∧ MCs m'.2.1 16 (c3 (lX l) (lY l) i j k) ∧
      ∀ p q r, S3 (tbM set) l.length 0 0 p q r → ok3 (lX l) (lY l) (fun q => q < l.length ∧ tbM set q) p q r → rN (c3 (lX l) (lY l) i j k) * ((c3 (lX l) (lY l) p q r).2.2.2 * (c3 (lX l) (lY l) p q r).2.2.2) ≤ rN (c3 (lX l) (lY l) p q r) * ((c3 (lX l) (lY l) i j k).2.2.2 * (c3 (lX l) (lY l) i j k).2.2.2))) := by
  have hl := H.2.1
  obtain ⟨X, hX⟩ : ∃ X, X = lX l := ⟨_, rfl⟩
  obtain ⟨Y, hY⟩ : ∃ Y, Y = lY l := ⟨_, rfl⟩
  obtain ⟨A, hA⟩ : ∃ A : Nat → Prop, A = fun q => q < l.length ∧ tbM set q := ⟨_, rfl⟩
  rw [← hX, ← hY, ← hA]
  unfold q_X12_layTriples
  refine w_kb (w_for (ex := 135) (by decide) (fun i (s : Int × Int × tZ12) => s.2.1 = (i : Int) ∧ FC m s.2.2 ∧ bst X Y A (S3 (tbM set) i 0 0) s.1 s.2.2.2.1) l.length ?_ ?_ (Nat.zero_le _) (by have := kF_eq; omega) ⟨rfl, FC_rfl m, Or.inl ⟨rfl, fun p q r h => by have := h.2.2.2.2.2; omega⟩⟩) ?_
  · rintro i ⟨any, c, s⟩ hi ⟨rfl, f0, h⟩
    dsimp only at f0 h
    unfold q_X12_layTriples_L5
    simp only [kwp_kg, kwp_kif, kwp_some, kwp_kb, kwp_kl]
    have hs15 : s.1 15 = (l.length : Int) := by rw [f0.1]; exact H.1
    rw [hs15]
    refine ⟨⟨⟨by omega, by omega⟩, ⟨by omega, by omega⟩⟩, fun q => by omega, fun _ => ?_⟩
    -- one more i
    have fin : ∀ e : Nat × Int × Int × tZ12, e.1 = 129 → FC m e.2.2.2 → bst X Y A (S3 (tbM set) (i + 1) 0 0) e.2.1 e.2.2.2.2.1 → e.1 = 129 ∧ True ∧ ((i : Int) + 1 = ((i + 1 : Nat) : Int)) ∧ FC m e.2.2.2 ∧ bst X Y A (S3 (tbM set) (i + 1) 0 0) e.2.1 e.2.2.2.2.1 := fun e h1 h2 h3 => ⟨h1, trivial, by omega, h2, h3⟩
    by_cases hMi : tb set i = true
    · refine w_mono (w_for (hd := 17) (ex := 129) (by decide) (fun j (s : Int × Int × tZ12) => s.2.1 = (j : Int) ∧ FC m s.2.2 ∧ bst X Y A (S3 (tbM set) i j 0) s.1 s.2.2.2.1) i ?_ ?_ (Nat.zero_le _) (by have := kF_eq; omega) ⟨rfl, f0, h⟩) ?_
      · rintro j ⟨any', c', s'⟩ hj ⟨rfl, f1, h1⟩
        dsimp only at f1 h1
        unfold q_X12_layTriples_L17
        simp only [kwp_kg, kwp_kif, kwp_some, kwp_kb, kwp_kl]
        rw [qm_has (by omega), kwp_some, kz_0, hMi]
        refine ⟨⟨⟨by omega, by omega⟩, ⟨by omega, by omega⟩⟩, fun q => by omega, fun _ => ⟨fun q => (by cases q), fun _ => ?_⟩⟩
        by_cases hMj : tb set j = true
        · refine w_mono (w_for (hd := 36) (ex := 123) (by decide) (fun k (s : Int × Int × tZ12) => s.2.1 = (k : Int) ∧ FC m s.2.2 ∧ bst X Y A (S3 (tbM set) i j k) s.1 s.2.2.2.1) j ?_ ?_ (Nat.zero_le _) (by have := kF_eq; omega) ⟨rfl, f1, h1⟩) ?_
          · rintro k ⟨any2, c2', s2⟩ hk ⟨rfl, f2, h2⟩
            dsimp only at f2 h2
            have Hs := SPm_fc f2 H
            unfold q_X12_layTriples_L36
            simp only [kwp_kg, kwp_kif, kwp_some, kwp_kb, kwp_kl]
            rw [qm_has (by omega), kwp_some, kz_0, hMj, qm_has (by omega), kwp_some, kz_0]
            refine ⟨⟨⟨by omega, by omega⟩, ⟨by omega, by omega⟩⟩, fun q => by omega, fun _ => ⟨fun q => (by cases q), fun _ => ⟨fun q => ⟨by trivial, by omega, f2, bst_same h2 (fun _ _ _ => S3_up) (fun p q' r w => ?_) (fun _ _ _ => rfl)⟩, fun q => ?_⟩⟩⟩
            · rcases S3_s w with w | ⟨_, _, _, w⟩
              · exact Or.inl w
              · have w : tb set k = true := w
                rw [w] at q
                cases q
            · have hMk : tb set k = true := by simpa using q
              refine w_mono (qm_triple Hs hb hi (by omega) (by omega)) ?_
              rw [← hX, ← hY]
              rintro ⟨ok, s3⟩ hr
              dsimp only at hr ⊢
              simp only [kz_0]
              rcases hr with ⟨ht, he⟩ | ⟨ht, rfl, g0, g1, g2⟩
              · cases he
                refine ⟨fun _ => ⟨by trivial, by omega, f2, bst_same h2 (fun _ _ _ => S3_up) (fun p q' r w => ?_) (fun _ _ _ => rfl)⟩, fun w => (w (by trivial)).elim⟩
                rcases S3_s w with w | ⟨rfl, rfl, rfl, _⟩
                · exact Or.inl w
                · exact Or.inr (fun o => o.1 ht)
              · have f3 := FC_trans f2 g0
                have Hs3 := SPm_fc f3 H
                have keepJ : ∀ j, 23 ≤ j → j < 30 → s3.2.1 j = s2.2.1 j := fun j h1 h2 => g1 j (by omega)
                have no : ¬ ok3 X Y A i j k → bst X Y A (S3 (tbM set) i j (k + 1)) any2 s3.2.1 := fun n => bst_same h2 (fun _ _ _ => S3_up) (fun p q' r w => by
                  rcases S3_s w with w | ⟨rfl, rfl, rfl, _⟩
                  · exact Or.inl w
                  · exact Or.inr n) keepJ
                have bC := MCs_bd g2
                -- to the end of the round
                have J : (∀ i' j' k', any2 = 1 → MCs s2.2.1 23 (c3 X Y i' j' k') → (∀ p q r, S3 (tbM set) i j k p q r → ok3 X Y A p q r → rN (c3 X Y i' j' k') * ((c3 X Y p q r).2.2.2 * (c3 X Y p q r).2.2.2) ≤ rN (c3 X Y p q r) * ((c3 X Y i' j' k').2.2.2 * (c3 X Y i' j' k').2.2.2)) → rN (c3 X Y i j k) * ((c3 X Y i' j' k').2.2.2 * (c3 X Y i' j' k').2.2.2) ≤ rN (c3 X Y i' j' k') * ((c3 X Y i j k).2.2.2 * (c3 X Y i j k).2.2.2)) →
                    kwp (q_X12_layTriples_J100_36 set s3 any2 (i : Int) (j : Int) (k : Int)) (fun e => e.1 = 36 ∧ e.2.2.1 = ((k + 1 : Nat) : Int) ∧ FC m e.2.2.2 ∧ bst X Y A (S3 (tbM set) i j (k + 1)) e.2.1 e.2.2.2.2.1) := by
                  intro less
                  unfold q_X12_layTriples_J100_36
                  have hh := qm_holdsAll Hs3 hb g2 set
                  rw [← hX, ← hY, ← hA] at hh
                  refine w_kb hh (fun ok he => ?_)
                  simp only [kwp_kif, kz_0, kwp_kl, kwp_some, kwp_kb]
                  refine ⟨fun w => ⟨by trivial, by omega, f3, no (fun o => ?_)⟩, fun w => ?_⟩
                  · rw [w] at he
                    exact absurd (he.mpr o.2) (by decide)
                  · have hin : cIn X Y A (c3 X Y i j k) := he.mp (by simpa using w)
                    refine w_mono (qm_keepBest s3) (fun s4 ⟨k1, k2⟩ => ⟨by trivial, by omega, FC_trans f3 k1, Or.inr ⟨rfl, i, j, k, ⟨hMi, hMj, hMk, hj, hk, by omega⟩, ⟨ht, hin⟩, k2 _ g2, fun p q' r w ho => ?_⟩⟩)
                    rcases S3_s w with w | ⟨rfl, rfl, rfl, _⟩
                    · rcases h2 with ⟨_, z⟩ | ⟨z1, i', j', k', z2, z3', z4, z5⟩
                      · exact absurd ho (z p q' r w)
                      · have b1 := MCs_bd z4
                        have b2 := z5 p q' r w ho
                        have b3 := c3_pos ho.1
                        exact fr_trans bC.2.2.2.1 b1.2.2.2.1 (Int.mul_pos b3 b3) (less i' j' k' z1 z4 z5) b2
                    · exact Int.le_refl _
                have hany : k32 any2 := by
                  rcases h2 with ⟨z, _⟩ | ⟨z, _⟩ <;> rw [z] <;> decide
                refine ⟨fun w => (by cases w), fun _ => ⟨hany, fun w => ?_, fun w => ?_⟩⟩
                · refine w_mono (J (fun _ _ _ e _ _ => by omega)) (fun e he => he)
                · rcases h2 with ⟨z, _⟩ | ⟨z1, i', j', k', z2, z3', z4, z5⟩
                  · exact absurd z w
                  · have b1 := MCs_bd z4
                    have o5 := g2.2.1
                    have o6 := g2.2.2.1
                    have p5 := z4.2.1
                    have p6 := z4.2.2.1
                    have e5 : s3.2.1 28 = s2.2.1 (23 + 5) := keepJ 28 (by decide) (by decide)
                    have e6 : s3.2.1 29 = s2.2.1 (23 + 6) := keepJ 29 (by decide) (by decide)
                    rw [show s3.2.1 21 = s3.2.1 (16 + 5) from rfl, show s3.2.1 22 = s3.2.1 (16 + 6) from rfl, e5, e6, o5, o6, p5, p6]
                    have q1 := fN_k bC.2.2.2.1 bC.2.2.1
                    have q2 := fD_k (a := rN (c3 X Y i j k)) bC.2.2.2.1 bC.2.2.2.2
                    have q3 := fN_k b1.2.2.2.1 b1.2.2.1
                    have q4 := fD_k (a := rN (c3 X Y i' j' k')) b1.2.2.2.1 b1.2.2.2.2
                    refine w_of (qm_against (fN_nn bC.2.2.2.1 bC.2.1) (k64_63 q1) (fD_pos bC.2.2.2.1) (k64_63 q2) (fN_nn b1.2.2.2.1 b1.2.1) (k64_63 q3) (fD_pos b1.2.2.2.1) (k64_63 q4)) ?_
                    rw [sgc_f bC.2.2.2.1, sgc_f2 b1.2.2.2.1]
                    refine ⟨sgc_k _ _ _ _, fun v => ⟨by trivial, by omega, f3, Or.inr ⟨z1, i', j', k', S3_up z2, z3', ?_, fun p q' r w ho => ?_⟩⟩, fun v => ?_⟩
                    · unfold MCs at *
                      rw [keepJ 23 (by decide) (by decide), keepJ (23 + 1) (by decide) (by decide), keepJ (23 + 2) (by decide) (by decide), keepJ (23 + 3) (by decide) (by decide), keepJ (23 + 4) (by decide) (by decide), keepJ (23 + 5) (by decide) (by decide), keepJ (23 + 6) (by decide) (by decide)]
                      exact z4
                    · rcases S3_s w with w | ⟨rfl, rfl, rfl, _⟩
                      · exact z5 p q' r w ho
                      · exact sgc_le v
                    · refine w_mono (J (fun i2 j2 k2 _ y1 y2 => ?_)) (fun e he => he)
                      have v' := sgc_lt (by omega : sgc (rN (c3 X Y i j k)) ((c3 X Y i j k).2.2.2 * (c3 X Y i j k).2.2.2) (rN (c3 X Y i' j' k')) ((c3 X Y i' j' k').2.2.2 * (c3 X Y i' j' k').2.2.2) < 0)
                      have y3 := MCs_bd y1
                      have c1' : s2.2.1 (23 + 5) = _ := y1.2.1
                      have c2'' : s2.2.1 (23 + 6) = _ := y1.2.2.1
                      have k1 := f_cross (a := rN (c3 X Y i2 j2 k2)) (b := (c3 X Y i2 j2 k2).2.2.2 * (c3 X Y i2 j2 k2).2.2.2)
                      rw [← c1', ← c2'', p5, p6] at k1
                      have k2' := f_cross (a := rN (c3 X Y i' j' k')) (b := (c3 X Y i' j' k').2.2.2 * (c3 X Y i' j' k').2.2.2)
                      have k3 := fD_pos (a := rN (c3 X Y i' j' k')) b1.2.2.2.1
                      refine fr_trans bC.2.2.2.1 b1.2.2.2.1 y3.2.2.2.1 (Int.le_of_lt v') ?_
                      -- the two best ones are of one size
                      refine fr_trans b1.2.2.2.1 k3 y3.2.2.2.1 (Int.le_of_eq k2'.symm) (Int.le_of_eq k1)
          · rintro ⟨any2, c2', s2⟩ ⟨rfl, h2⟩
            dsimp only at h2
            unfold q_X12_layTriples_L36
            simp only [kwp_kg, kwp_kif, kwp_some, kwp_kb, kwp_kl]
            exact ⟨⟨⟨by omega, by omega⟩, ⟨by omega, by omega⟩⟩, fun _ => ⟨by trivial, by trivial, h2⟩, fun w => by omega⟩
          · rintro ⟨lb, any2, c2', s2⟩ ⟨h0, _, f2, h2⟩
            dsimp only at h0 f2 h2
            refine ⟨h0, by trivial, by omega, f2, bst_same h2 (fun p q r w => ⟨w.1, w.2.1, w.2.2.1, w.2.2.2.1, w.2.2.2.2.1, by have := w.2.2.2.2.2; omega⟩) (fun p q r w => Or.inl ⟨w.1, w.2.1, w.2.2.1, w.2.2.2.1, w.2.2.2.2.1, by have := w.2.2.2.2.2; have := w.2.2.2.2.1; omega⟩) (fun _ _ _ => rfl)⟩
        · have e : q_X12_layTriples_L36 set (i : Int) (j : Int) (any', 0, s') = some (123, any', 0, s') ∨ True := Or.inr trivial
          refine w_mono (w_loop (fun n s => n = 0 ∧ s = (any', (0 : Int), s')) (Q := fun e => e = (123, any', (0 : Int), s')) ?_ kF 0 _ (by decide) ⟨rfl, rfl⟩) ?_
          · rintro n s ⟨rfl, rfl⟩
            unfold q_X12_layTriples_L36
            simp only [kwp_kg, kwp_kif, kwp_some, kwp_kb, kwp_kl]
            rw [qm_has (by omega), kwp_some, kz_0]
            refine ⟨⟨⟨by omega, by omega⟩, by decide⟩, fun q => Or.inr ⟨by decide, (by first | exact trivial | rfl)⟩, fun _ => ⟨fun q => Or.inr ⟨by decide, (by first | exact trivial | rfl)⟩, fun q => absurd (by simpa using q) hMj⟩⟩
          · rintro _ rfl
            refine ⟨by trivial, by trivial, by omega, f1, bst_same h1 (fun p q r w => ⟨w.1, w.2.1, w.2.2.1, w.2.2.2.1, w.2.2.2.2.1, by have := w.2.2.2.2.2; omega⟩) (fun p q r w => Or.inl ⟨w.1, w.2.1, w.2.2.1, w.2.2.2.1, w.2.2.2.2.1, ?_⟩) (fun _ _ _ => rfl)⟩
            have w6 := w.2.2.2.2.2
            have hq : q ≠ j := fun e => hMj (e ▸ w.2.1)
            omega
      · rintro ⟨any', c', s'⟩ ⟨rfl, h1⟩
        dsimp only at h1
        unfold q_X12_layTriples_L17
        simp only [kwp_kg, kwp_kif, kwp_some, kwp_kb, kwp_kl]
        exact ⟨⟨⟨by omega, by omega⟩, ⟨by omega, by omega⟩⟩, fun _ => ⟨by trivial, by trivial, h1⟩, fun w => by omega⟩
      · rintro ⟨lb, any', c', s'⟩ ⟨h0, _, f1, h1⟩
        dsimp only at h0 f1 h1
        refine ⟨h0, by trivial, by omega, f1, bst_same h1 (fun p q r w => ⟨w.1, w.2.1, w.2.2.1, w.2.2.2.1, w.2.2.2.2.1, by have := w.2.2.2.2.2; omega⟩) (fun p q r w => Or.inl ⟨w.1, w.2.1, w.2.2.1, w.2.2.2.1, w.2.2.2.2.1, by have := w.2.2.2.2.2; have := w.2.2.2.1; omega⟩) (fun _ _ _ => rfl)⟩
    · refine w_mono (w_loop (fun n s' => n = 0 ∧ s' = (any, (0 : Int), s)) (Q := fun e => e = (129, any, (0 : Int), s)) ?_ kF 0 _ (by decide) ⟨rfl, rfl⟩) ?_
      · rintro n s' ⟨rfl, rfl⟩
        unfold q_X12_layTriples_L17
        simp only [kwp_kg, kwp_kif, kwp_some, kwp_kb, kwp_kl]
        rw [qm_has (by omega), kwp_some, kz_0]
        refine ⟨⟨⟨by omega, by omega⟩, by decide⟩, fun q => Or.inr ⟨by decide, (by first | exact trivial | rfl)⟩, fun _ => ⟨fun q => Or.inr ⟨by decide, (by first | exact trivial | rfl)⟩, fun q => absurd (by simpa using q) hMi⟩⟩
      · rintro _ rfl
        refine ⟨by trivial, by trivial, by omega, f0, bst_same h (fun p q r w => ⟨w.1, w.2.1, w.2.2.1, w.2.2.2.1, w.2.2.2.2.1, by have := w.2.2.2.2.2; omega⟩) (fun p q r w => Or.inl ⟨w.1, w.2.1, w.2.2.1, w.2.2.2.1, w.2.2.2.2.1, ?_⟩) (fun _ _ _ => rfl)⟩
        have w6 := w.2.2.2.2.2
        have hp : p ≠ i := fun e => hMi (e ▸ w.1)
        omega
  · rintro ⟨any, c, s⟩ ⟨rfl, f0, h⟩
    dsimp only at f0 h
    unfold q_X12_layTriples_L5
    simp only [kwp_kg, kwp_kif, kwp_some, kwp_kb, kwp_kl]
    have hs15 : s.1 15 = (l.length : Int) := by rw [f0.1]; exact H.1
    rw [hs15]
    exact ⟨⟨⟨by omega, by omega⟩, ⟨by omega, by omega⟩⟩, fun _ => ⟨by trivial, by trivial, f0, h⟩, fun w => by omega⟩
  · rintro ⟨lb, any, c, s⟩ ⟨h0, _, f0, h⟩
    dsimp only at h0 f0 h
    simp only [kwp_kg]
    refine ⟨h0, w_kb (qm_takeBest s) (fun s' ⟨k1, k2⟩ => ?_)⟩
    rw [kwp_some]
    refine ⟨FC_trans f0 k1, fun ⟨i, j, k, w1, w2⟩ => ?_⟩
    rcases h with ⟨_, z⟩ | ⟨_, i', j', k', z2, z3', z4, z5⟩
    · exact absurd w2 (z i j k w1)
    · exact ⟨i', j', k', z2, z3', k2 _ z4, z5⟩
