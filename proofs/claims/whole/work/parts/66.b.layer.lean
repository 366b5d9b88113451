/-! ===== layers ===== -/
theorem ins_num {x y p : Int} : ∀ {l : List Spt}, (∀ a, a ∈ l → a.2.2 ≠ p) → l.Pairwise (fun a b => a.2.2 ≠ b.2.2) → (insL x y p l).Pairwise (fun a b => a.2.2 ≠ b.2.2)
  | [], _, _ => by
    unfold insL
    exact List.pairwise_singleton ..
  | a :: l, h, g => by
    have g' := List.pairwise_cons.mp g
    unfold insL
    split
    · refine List.pairwise_cons.mpr ⟨fun b hb => ?_, ins_num (fun c hc => h c (List.mem_cons_of_mem _ hc)) g'.2⟩
      rcases ins_mem hb with e | e
      · rw [e]
        exact h a (List.mem_cons_self ..)
      · exact g'.1 b e
    · split
      · exact g
      · refine List.pairwise_cons.mpr ⟨fun b hb => ?_, g⟩
        exact fun e => h b hb e.symm
theorem gth_num {f : Nat → Option (Int × Int)} : ∀ n, (∀ a, a ∈ gth f n → 0 ≤ a.2.2 ∧ a.2.2 < (n : Int)) ∧ (gth f n).Pairwise (fun a b => a.2.2 ≠ b.2.2)
  | 0 => ⟨fun a ha => absurd ha (List.not_mem_nil), List.Pairwise.nil⟩
  | n + 1 => by
    have ih := gth_num (f := f) n
    have e : gth f (n + 1) = match f n with | none => gth f n | some v => insL v.1 v.2 (n : Int) (gth f n) := rfl
    rw [e]
    cases f n with
    | none => exact ⟨fun a ha => by have := ih.1 a ha; omega, ih.2⟩
    | some v =>
      dsimp only
      refine ⟨fun a ha => ?_, ins_num (fun a ha => by have := ih.1 a ha; omega) ih.2⟩
      rcases ins_mem ha with q | q
      · rw [q]
        dsimp only
        omega
      · have := ih.1 a q
        omega
def NU (l : List Spt) : Prop := (∀ i, i < l.length → 0 ≤ lP l i ∧ lP l i < 40) ∧ ∀ i j, i < l.length → j < l.length → lP l i = lP l j → i = j
theorem NU_of {l : List Spt} (h1 : ∀ a, a ∈ l → 0 ≤ a.2.2 ∧ a.2.2 < 40) (h2 : l.Pairwise (fun a b => a.2.2 ≠ b.2.2)) : NU l := by
  have g : ∀ i (h : i < l.length), lP l i = l[i].2.2 := fun i h => by
    unfold lP g8
    rw [List.getD_eq_getElem?_getD, List.getElem?_eq_getElem h]
    rfl
  refine ⟨fun i hi => by rw [g i hi]; exact h1 _ (List.getElem_mem hi), fun i j hi hj e => ?_⟩
  rw [g i hi, g j hj] at e
  have pw := List.pairwise_iff_getElem.mp h2
  by_cases a : i < j
  · exact absurd e (pw i j hi hj a)
  · by_cases b : j < i
    · exact absurd e.symm (pw j i hj hi b)
    · omega
theorem FL_flt (l : List Spt) (P : Nat → Bool) (v : Int) : (FL l P).filter (fun a => decide (a.2.2 ≠ v)) = FL l (fun k => decide (lP l k ≠ v) && P k) := by
  unfold FL
  rw [List.filter_map, List.filter_filter]
  rfl
theorem FL_congr {l : List Spt} {P Q : Nat → Bool} (h : ∀ k, k < l.length → P k = Q k) : FL l P = FL l Q := by
  unfold FL
  congr 1
  refine List.filter_congr (fun x hx => ?_)
  exact h x (List.mem_range.mp hx)
theorem FL_all {l : List Spt} {P : Nat → Bool} (h : ∀ k, k < l.length → P k = true) : FL l P = l := by
  rw [FL_congr (Q := fun _ => true) h]
  unfold FL
  rw [List.filter_eq_self.mpr (fun _ _ => rfl)]
  refine List.ext_getElem (by rw [List.length_map, List.length_range]) (fun i h1 h2 => ?_)
  rw [List.getElem_map, List.getElem_range]
  unfold g8
  rw [List.getD_eq_getElem?_getD, List.getElem?_eq_getElem h2]
  rfl
def lastP (P : Nat → Bool) : Nat → Nat
  | 0 => 0
  | n + 1 => if P n = true then n else lastP P n
def neP (l : List Spt) (P : Nat → Bool) : Prop := ∃ k, k < l.length ∧ P k = true
theorem last_ok {P : Nat → Bool} : ∀ n, (∃ k, k < n ∧ P k = true) → lastP P n < n ∧ P (lastP P n) = true ∧ ∀ k, lastP P n < k → k < n → P k = false
  | 0, h => by
    obtain ⟨k, hk, _⟩ := h
    omega
  | n + 1, h => by
    by_cases q : P n = true
    · have e : lastP P (n + 1) = n := if_pos q
      rw [e]
      exact ⟨by omega, q, fun k h1 h2 => by omega⟩
    · have e : lastP P (n + 1) = lastP P n := if_neg q
      have qf : P n = false := by
        cases z : P n with
        | true => exact absurd z q
        | false => rfl
      obtain ⟨k, hk, hp⟩ := h
      have ih := last_ok n ⟨k, by
        by_cases z : k = n
        · rw [z] at hp
          exact absurd hp q
        · omega, hp⟩
      rw [e]
      refine ⟨by omega, ih.2.1, fun j h1 h2 => ?_⟩
      by_cases z : j = n
      · rw [z]
        exact qf
      · exact ih.2.2 j h1 (by omega)
theorem FL_pos {l : List Spt} {P : Nat → Bool} : 0 < (FL l P).length ↔ neP l P := by
  have em := FL_em l P
  constructor
  · intro h
    have := em.1 0 h
    exact ⟨_, this.1, this.2.1⟩
  · rintro ⟨k, hk, hp⟩
    obtain ⟨t, ht, _⟩ := em.2.2 k hk hp
    omega
theorem FL_last {l : List Spt} {P : Nat → Bool} (h : neP l P) : lastP P l.length = ixF l P ((FL l P).length - 1) := by
  have em := FL_em l P
  have lo := last_ok l.length h
  have p := FL_pos.mpr h
  have a := em.1 ((FL l P).length - 1) (by omega)
  obtain ⟨t, ht, e⟩ := em.2.2 _ lo.1 lo.2.1
  by_cases q : t = (FL l P).length - 1
  · rw [← q]
    exact e.symm
  · have b := em.2.1 t ((FL l P).length - 1) (by omega) (by omega)
    have c := lo.2.2 (ixF l P ((FL l P).length - 1)) (by omega) a.1
    rw [a.2.1] at c
    exact absurd c (by decide)
def coN (l : List Spt) (P : Nat → Bool) : Nat := hN l P l.length (lastP P l.length)
def coI (l : List Spt) (P : Nat → Bool) (i : Nat) : Nat := hI2 l P l.length (lastP P l.length) i
theorem co_em {l : List Spt} {P : Nat → Bool} (h : neP l P) : coN l P = hC (FL l P) ∧ ∀ i, i < hC (FL l P) → coI l P i = ixF l P (hJ (FL l P) i) := hull_em (FL_em l P) (FL_pos.mpr h) (FL_last h)
theorem co_ok {l : List Spt} (hs : sorL l) {P : Nat → Bool} (h : neP l P) : (∀ i, i < coN l P → coI l P i < l.length ∧ P (coI l P i) = true) ∧ (∀ i j, i < coN l P → j < coN l P → coI l P i = coI l P j → i = j) ∧ coN l P ≤ l.length ∧ 0 < coN l P := by
  have lo := last_ok l.length h
  have inj := hI2_inj hs lo.1 lo.2.1 lo.2.2
  have le := hN_le hs lo.1 lo.2.1 lo.2.2
  refine ⟨fun i hi => ⟨by have := (inj.1 i hi).1; unfold coI; omega, (inj.1 i hi).2⟩, inj.2, by unfold coN; omega, ?_⟩
  rw [(co_em h).1]
  exact hC_pos (FL_pos.mpr h)
def rmP (l : List Spt) (P : Nat → Bool) (i k : Nat) : Bool := P k && !((List.range i).any (fun j => coI l P j == k))
theorem any_t {n k : Nat} {f : Nat → Nat} : (List.range n).any (fun j => f j == k) = true ↔ ∃ j, j < n ∧ f j = k := by
  rw [List.any_eq_true]
  constructor
  · rintro ⟨j, hj, e⟩
    exact ⟨j, List.mem_range.mp hj, by simpa using e⟩
  · rintro ⟨j, hj, e⟩
    exact ⟨j, List.mem_range.mpr hj, by simpa using e⟩
theorem rmP_t {l : List Spt} {P : Nat → Bool} {i k : Nat} : rmP l P i k = true ↔ P k = true ∧ ∀ j, j < i → coI l P j ≠ k := by
  unfold rmP
  rw [Bool.and_eq_true]
  constructor
  · rintro ⟨a, b⟩
    refine ⟨a, fun j hj e => ?_⟩
    rw [any_t.mpr ⟨j, hj, e⟩] at b
    exact absurd b (by decide)
  · rintro ⟨a, b⟩
    refine ⟨a, ?_⟩
    cases z : (List.range i).any (fun j => coI l P j == k) with
    | false => rfl
    | true =>
      obtain ⟨j, hj, e⟩ := any_t.mp z
      exact absurd e (b j hj)
theorem rmP_0 (l : List Spt) (P : Nat → Bool) (k : Nat) : rmP l P 0 k = P k := by
  unfold rmP
  simp
theorem rmP_s {l : List Spt} {P : Nat → Bool} {i k : Nat} : rmP l P (i + 1) k = (decide (k ≠ coI l P i) && rmP l P i k) := by
  rw [Bool.eq_iff_iff, rmP_t, Bool.and_eq_true, decide_eq_true_iff, rmP_t]
  constructor
  · rintro ⟨a, b⟩
    exact ⟨fun e => b i (by omega) e.symm, a, fun j hj => b j (by omega)⟩
  · rintro ⟨a, b, c⟩
    refine ⟨b, fun j hj => ?_⟩
    by_cases z : j = i
    · rw [z]
      exact fun e => a e.symm
    · exact c j (by omega)
/-- what is left after r rounds -/
def PL (l : List Spt) : Nat → Nat → Bool
  | 0 => fun k => decide (k < l.length)
  | r + 1 => rmP l (PL l r) (coN l (PL l r))
def coP (l : List Spt) (r k : Nat) : Prop := ∃ i, i < coN l (PL l r) ∧ coI l (PL l r) i = k
theorem PL_s {l : List Spt} {r k : Nat} : PL l (r + 1) k = true ↔ PL l r k = true ∧ ¬ coP l r k := by
  have e : PL l (r + 1) k = rmP l (PL l r) (coN l (PL l r)) k := rfl
  rw [e, rmP_t]
  exact ⟨fun h => ⟨h.1, fun ⟨i, hi, q⟩ => h.2 i hi q⟩, fun h => ⟨h.1, fun j hj q => h.2 ⟨j, hj, q⟩⟩⟩
theorem PL_le {l : List Spt} : ∀ {r k : Nat}, PL l r k = true → k < l.length
  | 0, _, h => of_decide_eq_true h
  | _ + 1, _, h => PL_le (PL_s.mp h).1
theorem PL_mono {l : List Spt} {r k : Nat} : ∀ {s : Nat}, r ≤ s → PL l s k = true → PL l r k = true
  | 0, h, g => by
    rw [show r = 0 by omega]
    exact g
  | s + 1, h, g => by
    by_cases e : r = s + 1
    · rw [e]
      exact g
    · exact PL_mono (s := s) (by omega) (PL_s.mp g).1
/-- the round in which one is a corner -/
def inR (l : List Spt) (r k : Nat) : Prop := PL l r k = true ∧ coP l r k
theorem inR_only {l : List Spt} {r s k : Nat} (h : inR l r k) (g : inR l s k) : r = s := by
  by_cases a : r < s
  · exact absurd h.2 (PL_s.mp (PL_mono (r := r + 1) a g.1)).2
  · by_cases b : s < r
    · exact absurd g.2 (PL_s.mp (PL_mono (r := s + 1) b h.1)).2
    · omega
theorem cntU_lt {P Q : Nat → Bool} : ∀ n, (∀ k, k < n → Q k = true → P k = true) → cntU Q n ≤ cntU P n ∧ ((∃ k, k < n ∧ P k = true ∧ Q k = false) → cntU Q n < cntU P n)
  | 0, _ => ⟨Nat.le_refl _, fun ⟨k, hk, _⟩ => by omega⟩
  | n + 1, h => by
    have ih := cntU_lt n (fun k hk => h k (by omega))
    have e1 : cntU P (n + 1) = cntU P n + if P n = true then 1 else 0 := rfl
    have e2 : cntU Q (n + 1) = cntU Q n + if Q n = true then 1 else 0 := rfl
    rw [e1, e2]
    refine ⟨?_, fun ⟨k, hk, hp, hq⟩ => ?_⟩
    · by_cases q : Q n = true
      · rw [if_pos q, if_pos (h n (by omega) q)]
        omega
      · rw [if_neg q]
        omega
    · by_cases e : k = n
      · subst e
        rw [if_pos hp, hq, if_neg (by decide)]
        omega
      · have := ih.2 ⟨k, by omega, hp, hq⟩
        by_cases q : Q n = true
        · rw [if_pos q, if_pos (h n (by omega) q)]
          omega
        · rw [if_neg q]
          omega
theorem PL_cnt {l : List Spt} (hs : sorL l) {r : Nat} (h : neP l (PL l r)) : cntU (PL l (r + 1)) l.length < cntU (PL l r) l.length := by
  have co := co_ok hs h
  refine (cntU_lt l.length (fun k _ hq => (PL_s.mp hq).1)).2 ⟨coI l (PL l r) 0, (co.1 0 co.2.2.2).1, (co.1 0 co.2.2.2).2, ?_⟩
  cases z : PL l (r + 1) (coI l (PL l r) 0) with
  | false => rfl
  | true => exact absurd ⟨0, co.2.2.2, rfl⟩ (PL_s.mp z).2
theorem cntU_0 {P : Nat → Bool} : ∀ n, cntU P n = 0 → ∀ k, k < n → P k = false
  | 0, _, _, hk => absurd hk (Nat.not_lt_zero _)
  | n + 1, h, k, hk => by
    have e1 : cntU P (n + 1) = cntU P n + if P n = true then 1 else 0 := rfl
    by_cases q : P n = true
    · rw [if_pos q] at e1
      omega
    · rw [if_neg q] at e1
      by_cases z : k = n
      · rw [z]
        cases w : P n with
        | true => exact absurd w q
        | false => rfl
      · exact cntU_0 n (by omega) k (by omega)
def RndOf (l : List Spt) (R : Nat) : Prop := (∀ r, r < R → neP l (PL l r)) ∧ ¬ neP l (PL l R)
theorem Rnd_only {l : List Spt} {R S : Nat} (h : RndOf l R) (g : RndOf l S) : R = S := by
  by_cases a : R < S
  · exact absurd (g.1 R a) h.2
  · by_cases b : S < R
    · exact absurd (h.1 S b) g.2
    · omega
