/-! ===== layers, the class ===== -/
theorem FL_bd {l : List Spt} (hb : bdL l) (P : Nat → Bool) : bdL (FL l P) := fun a ha => by
  obtain ⟨t, ht, e⟩ := mem_g8 ha
  have em := (FL_em l P).1 t ht
  rw [← e, em.2.2]
  exact hb _ (g8_mem em.1)
theorem FL_len (l : List Spt) (P : Nat → Bool) : (FL l P).length ≤ l.length := by
  unfold FL
  rw [List.length_map]
  have := List.length_filter_le P (List.range l.length)
  rw [List.length_range] at this
  exact this
theorem q_copy {z0 z : tZ8} {l : List Spt} (H : SPc z l) : kwp (q_X8_copy z0 z) (fun z' => SPc z' l) := by
  have hl := H.2.1
  unfold q_X8_copy
  simp only [kwp_kl, kwp_kb]
  refine w_mono (w_for (ex := 73) (by decide) (fun i (s : Int × tZ8) => s.1 = (i : Int) ∧ s.2.2.2.2 = (i : Int) ∧ ∀ j, j < i → s.2.1 j = (g8 l j).1 ∧ s.2.2.1 j = (g8 l j).2.1 ∧ s.2.2.2.1 j = (g8 l j).2.2) l.length ?_ ?_ (Nat.zero_le _) (by have := kF_eq; omega) ⟨rfl, rfl, fun j hj => absurd hj (Nat.not_lt_zero _)⟩) ?_
  · rintro i ⟨t, x1, x2, x3, x4⟩ hi ⟨g1, g2, g3⟩
    dsimp only at g1 g2 g3
    subst g1 g2
    have a := H.2.2 i hi
    unfold q_X8_copy_L7
    dsimp only
    rw [H.1]
    simp only [kwp_kb, kwp_some, kwp_kg, kwp_kif, kwp_kl]
    rw [Int.toNat_natCast]
    refine ⟨⟨⟨by omega, by omega⟩, ⟨by omega, by omega⟩⟩, fun q => by omega, fun _ => ⟨fun q => by omega, fun _ => ⟨⟨by omega, by omega⟩, by trivial, by omega, by omega, fun j hj => ?_⟩⟩⟩
    by_cases e : j = i
    · rw [e, va_same, va_same, va_same]
      exact a
    · rw [va_ne _ _ e, va_ne _ _ e, va_ne _ _ e]
      exact g3 j (by omega)
  · rintro ⟨t, x1, x2, x3, x4⟩ ⟨g1, g2, g3⟩
    dsimp only at g1 g2 g3
    subst g1 g2
    unfold q_X8_copy_L7
    dsimp only
    rw [H.1]
    simp only [kwp_kb, kwp_some, kwp_kg, kwp_kif, kwp_kl]
    exact ⟨⟨⟨by omega, by omega⟩, ⟨by omega, by omega⟩⟩, fun _ => ⟨by trivial, by trivial, by trivial, g3⟩, fun q => by omega⟩
  · rintro ⟨lb, t, w⟩ ⟨g0, g1, g2, g3⟩
    dsimp only at g0 g1 g2 g3 ⊢
    simp only [kwp_kg, kwp_some]
    exact ⟨g0, g2, hl, g3⟩
def ndS (v : Int) (a : Spt) : Bool := decide (a.2.2 ≠ v)
theorem g8_app {l m : List Spt} {i : Nat} (h : i < l.length) : g8 (l ++ m) i = g8 l i := by
  unfold g8
  rw [List.getD_eq_getElem?_getD, List.getD_eq_getElem?_getD, List.getElem?_append_left h]
theorem g8_top (l : List Spt) (a : Spt) : g8 (l ++ [a]) l.length = a := by
  unfold g8
  rw [List.getD_eq_getElem?_getD, List.getElem?_append_right (Nat.le_refl _), Nat.sub_self]
  rfl
theorem take_s {l : List Spt} {i : Nat} (h : i < l.length) : l.take (i + 1) = l.take i ++ [g8 l i] := by
  rw [List.take_add_one]
  unfold g8
  rw [List.getD_eq_getElem?_getD, List.getElem?_eq_getElem h]
  rfl
theorem q_drop {z : tZ8} {l : List Spt} (H : SPc z l) (hb : bdL l) {v : Int} (hv : k32 v) : kwp (q_X8_drop z v) (fun z' => SPc z' (l.filter (ndS v))) := by
  have hl := H.2.1
  unfold q_X8_drop
  simp only [kwp_kl, kwp_kb]
  refine w_mono (w_for (ex := 40) (by decide) (fun i (s : Int × Int × tZ8) => s.2.1 = (i : Int) ∧ s.1 = (((l.take i).filter (ndS v)).length : Int) ∧ s.2.2.2.2.2 = (l.length : Int) ∧ (∀ j, j < ((l.take i).filter (ndS v)).length → s.2.2.1 j = (g8 ((l.take i).filter (ndS v)) j).1 ∧ s.2.2.2.1 j = (g8 ((l.take i).filter (ndS v)) j).2.1 ∧ s.2.2.2.2.1 j = (g8 ((l.take i).filter (ndS v)) j).2.2) ∧
    ∀ j, i ≤ j → j < l.length → s.2.2.1 j = (g8 l j).1 ∧ s.2.2.2.1 j = (g8 l j).2.1 ∧ s.2.2.2.2.1 j = (g8 l j).2.2) l.length ?_ ?_ (Nat.zero_le _) (by have := kF_eq; omega) ⟨rfl, rfl, H.1, fun j hj => absurd hj (Nat.not_lt_zero _), fun j _ hj => H.2.2 j hj⟩) ?_
  · rintro i ⟨st, t, x1, x2, x3, x4⟩ hi ⟨g1, g2, g3, g4, g5⟩
    dsimp only at g1 g2 g3 g4 g5
    subst g1 g2 g3
    have a := g5 i (Nat.le_refl _) hi
    have bp := bd_g8 hb hi
    have fl : ((l.take i).filter (ndS v)).length ≤ i := by
      have h1 := List.length_filter_le (ndS v) (l.take i)
      have h2 : (l.take i).length ≤ i := List.length_take_le ..
      omega
    unfold q_X8_drop_L4
    dsimp only
    simp only [kwp_kb, kwp_some, kwp_kg, kwp_kif, kwp_kl]
    rw [Int.toNat_natCast, a.2.2, take_s hi, List.filter_append]
    refine ⟨⟨⟨by omega, by omega⟩, ⟨by omega, by omega⟩⟩, fun q => by omega, fun _ => ⟨⟨by omega, by omega⟩, ⟨⟨by omega, by omega⟩, hv⟩, fun q => ?_, fun q => ?_⟩⟩
    · have e : List.filter (ndS v) [g8 l i] = [] := List.filter_cons_of_neg (by unfold ndS; rw [q]; simp)
      rw [e, List.append_nil]
      exact ⟨by trivial, by omega, by trivial, by trivial, g4, fun j h1 h2 => g5 j (by omega) h2⟩
    · have e : List.filter (ndS v) [g8 l i] = [g8 l i] := List.filter_cons_of_pos (by unfold ndS; exact decide_eq_true q)
      rw [e, q_move (by omega) (by omega)]
      simp only [kwp_some]
      (try dsimp only)
      rw [List.length_append, a.1, a.2.1, a.2.2]
      refine ⟨by trivial, by omega, by simp, by trivial, fun j hj => ?_, fun j h1 h2 => ?_⟩
      · by_cases z : j = ((l.take i).filter (ndS v)).length
        · rw [z, va_same, va_same, va_same, g8_top]
          exact ⟨rfl, rfl, rfl⟩
        · have hj2 : j < ((l.take i).filter (ndS v)).length := by
            have : [g8 l i].length = 1 := rfl
            omega
          rw [va_ne _ _ z, va_ne _ _ z, va_ne _ _ z, g8_app hj2]
          exact g4 j hj2
      · rw [va_ne _ _ (by omega), va_ne _ _ (by omega), va_ne _ _ (by omega)]
        exact g5 j (by omega) h2
  · rintro ⟨st, t, x1, x2, x3, x4⟩ ⟨g1, g2, g3, g4, g5⟩
    dsimp only at g1 g2 g3 g4 g5
    subst g1 g3
    unfold q_X8_drop_L4
    dsimp only
    simp only [kwp_kb, kwp_some, kwp_kg, kwp_kif, kwp_kl]
    exact ⟨⟨⟨by omega, by omega⟩, ⟨by omega, by omega⟩⟩, fun _ => ⟨by trivial, by trivial, g2, by trivial, g4, g5⟩, fun q => by omega⟩
  · rintro ⟨lb, st, t, w⟩ ⟨g0, g1, g2, g3, g4, g5⟩
    dsimp only at g0 g1 g2 g3 g4 g5 ⊢
    rw [List.take_length] at g2 g4
    have fl := List.length_filter_le (ndS v) l
    simp only [kwp_kg, kwp_kl, kwp_some]
    exact ⟨g0, g2, by omega, g4⟩
theorem q_takeAway {arr : tZ6} {z : tZ8} {l : List Spt} (H : SPc z l) (hb : bdL l) {v r : Int} (hv : 0 ≤ v ∧ v < 40) : kwp (q_X6_takeAway arr z v r) (fun x => x.1 = va_up arr v.toNat r ∧ SPc x.2 (l.filter (ndS v))) := by
  unfold q_X6_takeAway q_X6_takeAway_J17
  simp only [kwp_kb, kwp_some, kwp_kg, kwp_kif, kwp_kl]
  refine ⟨⟨by omega, by omega⟩, fun q => by omega, fun _ => ⟨fun q => by omega, fun _ => ⟨⟨by omega, by omega⟩, w_mono (q_drop H hb ⟨by omega, by omega⟩) (fun z' h => ⟨(by first | exact trivial | rfl), h⟩)⟩⟩⟩
/-- LAYERS as noted: for the rounds ahead of r -/
def LAY (l : List Spt) (arr : Nat → Int) (r : Nat) : Prop := ∀ s, s < r → ∀ k, inR l s k → arr (lP l k).toNat = (s : Int)
theorem FL_rm {l : List Spt} (hs : sorL l) (hn : NU l) {P : Nat → Bool} (h : neP l P) {i : Nat} (hi : i < coN l P) : (FL l (rmP l P i)).filter (ndS (lP l (coI l P i))) = FL l (rmP l P (i + 1)) := by
  show (FL l (rmP l P i)).filter (fun a => decide (a.2.2 ≠ lP l (coI l P i))) = _
  rw [FL_flt]
  have co := (co_ok hs h).1 i hi
  refine FL_congr (fun k hk => ?_)
  rw [rmP_s]
  congr 1
  rw [decide_eq_decide]
  constructor
  · intro a e
    rw [e] at a
    exact a rfl
  · intro a e
    exact a (hn.2 k _ hk co.1 e)
theorem q_peelL {z8 : tZ8} {l : List Spt} (hs : sorL l) (hb : bdL l) (hn : NU l) {r : Nat} (hr : r < 41) (h : neP l (PL l r)) {z5 : tZ5} (ho : OU z5 (FL l (PL l r)) (hJ (FL l (PL l r))) (hC (FL l (PL l r)))) {arr : tZ6} {z : tZ8} (H : SPc z (FL l (PL l r))) (hy : LAY l arr r) :
    kwp (kitr 39 (fun q => q_X6_peel_L39 z8 z5 (r : Int) q) kF ((0 : Int), arr, z)) (fun e => e.1 = 69 ∧ SPc e.2.2.2 (FL l (PL l (r + 1))) ∧ LAY l e.2.2.1 (r + 1)) := by
  have co := co_ok hs h
  have ce := co_em h
  refine w_mono (w_for (ex := 69) (by decide) (fun i (s : Int × tZ6 × tZ8) => s.1 = (i : Int) ∧ SPc s.2.2 (FL l (rmP l (PL l r) i)) ∧ LAY l s.2.1 r ∧ ∀ j, j < i → s.2.1 (lP l (coI l (PL l r) j)).toNat = (r : Int)) (coN l (PL l r)) ?_ ?_ (Nat.zero_le _) (by have := kF_eq; have := co.2.2.1; have := H.2.1; have := ho.2.1; omega) ⟨rfl, by rw [FL_congr (fun k _ => rmP_0 l (PL l r) k)]; exact H, hy, fun j hj => absurd hj (Nat.not_lt_zero _)⟩) ?_
  · rintro i ⟨t, ar, w⟩ hi ⟨g1, g2, g3, g4⟩
    dsimp only at g1 g2 g3 g4
    subst g1
    have cr := co.1 i hi
    have nb := hn.1 _ cr.1
    have hi2 : i < hC (FL l (PL l r)) := by
      rw [← ce.1]
      exact hi
    have a := ho.2.2 i hi2
    have hc := ho.2.1
    have en : z5.2.2.1 i = lP l (coI l (PL l r) i) := by
      rw [a.2.2.2, ce.2 i hi2]
      unfold lP
      rw [((FL_em l (PL l r)).1 _ a.1).2.2]
    unfold q_X6_peel_L39 q_X5_count
    dsimp only
    rw [ho.1]
    simp only [kwp_kb, kwp_some, kwp_kg, kwp_kif, kwp_kl]
    rw [q_on (by rw [ho.1]; omega) (by rw [ho.1]; omega), en]
    simp only [kwp_some]
    refine ⟨⟨⟨by omega, by omega⟩, ⟨by omega, by omega⟩⟩, fun q => by omega, fun _ => w_mono (q_takeAway g2 (FL_bd hb _) nb) (fun x hx => ⟨by trivial, by omega, ?_, ?_, ?_⟩)⟩
    · have := hx.2
      rw [FL_rm hs hn h hi] at this
      exact this
    · rw [hx.1]
      intro s hsr k hk
      have kl := PL_le hk.1
      have ne : k ≠ coI l (PL l r) i := fun e => by
        rw [e] at hk
        exact (PL_s.mp (PL_mono (r := s + 1) (by omega) cr.2)).2 hk.2
      have n1 := hn.1 k kl
      have n2 : lP l k ≠ lP l (coI l (PL l r) i) := fun e => ne (hn.2 k _ kl cr.1 e)
      rw [va_ne _ _ (by omega)]
      exact g3 s hsr k hk
    · rw [hx.1]
      intro j hj
      by_cases e : j = i
      · rw [e]
        exact va_same _ _ _
      · have cj := co.1 j (by omega)
        have n1 := hn.1 _ cj.1
        have n2 : lP l (coI l (PL l r) j) ≠ lP l (coI l (PL l r) i) := fun q => e (co.2.1 j i (by omega) hi (hn.2 _ _ cj.1 cr.1 q))
        rw [va_ne _ _ (by omega)]
        exact g4 j (by omega)
  · rintro ⟨t, ar, w⟩ ⟨g1, g2, g3, g4⟩
    dsimp only at g1 g2 g3 g4
    subst g1
    have hc := ho.2.1
    have cl := co.2.2.1
    have c1 := ce.1
    unfold q_X6_peel_L39 q_X5_count
    dsimp only
    rw [ho.1]
    simp only [kwp_kb, kwp_some, kwp_kg, kwp_kif, kwp_kl]
    exact ⟨⟨⟨by omega, by omega⟩, ⟨by omega, by omega⟩⟩, fun _ => ⟨by trivial, by trivial, g2, g3, g4⟩, fun q => by omega⟩
  · rintro ⟨lb, t, ar, w⟩ ⟨g0, g1, g2, g3, g4⟩
    dsimp only at g0 g1 g2 g3 g4 ⊢
    refine ⟨g0, g2, fun s hsr k hk => ?_⟩
    by_cases e : s = r
    · obtain ⟨i, hi, ei⟩ := hk.2
      rw [e] at hi ei
      rw [e, ← ei]
      exact g4 i hi
    · exact g3 s (by omega) k hk
theorem q_peel {z8 zl : tZ8} {z5 : tZ5} {arr : tZ6} {l : List Spt} (H : SPc z8 l) (hs : sorL l) (hb : bdL l) (hl : l.length ≤ 40) (hn : NU l) :
    kwp (q_X6_peel arr zl z5 z8) (fun x => ∃ R : Nat, x.1 = (R : Int) ∧ R ≤ 40 ∧ RndOf l R ∧ LAY l x.2.1 R) := by
  unfold q_X6_peel
  simp only [kwp_kb]
  refine w_mono (q_copy H) (fun z1 h1 => ?_)
  refine w_mono (w_loop (fun n (s : Int × tZ6 × tZ8 × tZ5) => ∃ r : Nat, n = 40 - r ∧ r ≤ 40 ∧ s.1 = (r : Int) ∧ SPc s.2.2.1 (FL l (PL l r)) ∧ r + cntU (PL l r) l.length ≤ l.length ∧ LAY l s.2.1 r ∧ ∀ s, s < r → neP l (PL l s)) (Q := fun e => e.1 = 75 ∧ ∃ R : Nat, e.2.1 = (R : Int) ∧ R ≤ 40 ∧ RndOf l R ∧ LAY l e.2.2.1 R) ?_ kF 40 _ (by have := kF_eq; omega) ⟨0, rfl, by omega, rfl, ?_, ?_, fun s hs0 => absurd hs0 (Nat.not_lt_zero _), fun s hs0 => absurd hs0 (Nat.not_lt_zero _)⟩) ?_
  · rintro n ⟨t, ar, w, y⟩ ⟨r, rfl, g1, g2, g3, g4, g5, g6⟩
    dsimp only at g2 g3 g5
    subst g2
    unfold q_X6_peel_L10
    dsimp only
    rw [q_sc g3]
    simp only [kwp_kb, kwp_some, kwp_kg, kwp_kif, kwp_kl]
    have fl := FL_len l (PL l r)
    refine ⟨⟨by omega, by omega⟩, fun q => Or.inr ⟨by decide, by trivial, r, by trivial, g1, ⟨g6, fun ⟨k, hk, hp⟩ => ?_⟩, g5⟩, fun q => ⟨⟨by omega, by omega⟩, fun q1 => Or.inr ⟨by decide, by trivial, r, by trivial, g1, ⟨g6, fun w => ?_⟩, g5⟩, fun q1 => ?_⟩⟩
    · have := cntU_0 (P := PL l r) l.length (by omega) k hk
      rw [hp] at this
      exact absurd this (by decide)
    · have := FL_pos.mpr w
      omega
    · have ne : neP l (PL l r) := FL_pos.mp (by omega)
      have hc := PL_cnt hs ne
      refine w_mono (q_outline g3 (FL_bd hb _) (by omega) (by omega)) (fun y2 ho => w_mono (q_peelL hs hb hn (by omega) ne ho g3 g5) ?_)
      rintro ⟨lb, t2, ar2, w2⟩ ⟨f0, f1, f2⟩
      dsimp only at f0 f1 f2 ⊢
      refine ⟨f0, Or.inl ⟨by trivial, 40 - (r + 1), by omega, r + 1, rfl, by omega, by omega, f1, by omega, f2, fun s hsr => ?_⟩⟩
      by_cases e : s = r
      · rw [e]
        exact ne
      · exact g6 s (by omega)
  · have e : FL l (PL l 0) = l := FL_all (fun k hk => decide_eq_true hk)
    show SPc z1 (FL l (PL l 0))
    rw [e]
    exact h1
  · have := cntU_le (PL l 0) l.length
    omega
  · rintro ⟨lb, t, ar, w, y⟩ ⟨g0, R, g1, g2, g3, g4⟩
    dsimp only at g0 g1 g3 g4 ⊢
    simp only [kwp_kg, kwp_some]
    exact ⟨g0, R, g1, g2, g3, g4⟩
