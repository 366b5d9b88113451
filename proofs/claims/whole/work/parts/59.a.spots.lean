/-! ===== SPOTS: a list by x, then by y ===== -/
abbrev Spt : Type := Int × Int × Int
def ltS (a : Spt) (x y : Int) : Prop := a.1 < x ∨ (a.1 = x ∧ a.2.1 < y)
def gtS (a : Spt) (x y : Int) : Prop := x < a.1 ∨ (a.1 = x ∧ y < a.2.1)
def eqS (a : Spt) (x y : Int) : Prop := a.1 = x ∧ a.2.1 = y
noncomputable def insL (x y p : Int) : List Spt → List Spt
  | [] => [(x, y, p)]
  | a :: l => if a.1 < x ∨ (a.1 = x ∧ a.2.1 < y) then a :: insL x y p l else if a.1 = x ∧ a.2.1 = y then a :: l else (x, y, p) :: a :: l
def sorL : List Spt → Prop
  | [] => True
  | a :: l => (∀ b, b ∈ l → ltS a b.1 b.2.1) ∧ sorL l
def g8 (l : List Spt) (i : Nat) : Spt := l.getD i (0, 0, 0)
theorem g8_0 (a : Spt) (l : List Spt) : g8 (a :: l) 0 = a := rfl
theorem g8_s (a : Spt) (l : List Spt) (i : Nat) : g8 (a :: l) (i + 1) = g8 l i := by
  unfold g8
  simp
theorem g8_mem {l : List Spt} {i : Nat} (h : i < l.length) : g8 l i ∈ l := by
  unfold g8
  rw [List.getD_eq_getElem?_getD, List.getElem?_eq_getElem h]
  exact List.getElem_mem h
theorem mem_g8 {l : List Spt} {a : Spt} (h : a ∈ l) : ∃ i, i < l.length ∧ g8 l i = a := by
  obtain ⟨i, hi, e⟩ := List.getElem_of_mem h
  refine ⟨i, hi, ?_⟩
  unfold g8
  rw [List.getD_eq_getElem?_getD, List.getElem?_eq_getElem hi]
  exact e
theorem sor_lt : ∀ {l : List Spt} {i j : Nat}, sorL l → i < j → j < l.length → ltS (g8 l i) (g8 l j).1 (g8 l j).2.1 := by
  intro l
  induction l with
  | nil => intro i j _ _ h; exact absurd h (Nat.not_lt_zero _)
  | cons a l ih =>
    intro i j hs hij hj
    cases j with
    | zero => omega
    | succ j =>
      have hj : j < l.length := Nat.lt_of_succ_lt_succ hj
      rw [g8_s]
      cases i with
      | zero => exact hs.1 _ (g8_mem hj)
      | succ i =>
        rw [g8_s]
        exact ih hs.2 (by omega) hj
theorem ins_mem {x y p : Int} : ∀ {l : List Spt} {b : Spt}, b ∈ insL x y p l → b = (x, y, p) ∨ b ∈ l := by
  intro l
  induction l with
  | nil =>
    intro b h
    unfold insL at h
    exact Or.inl (List.mem_singleton.mp h)
  | cons a l ih =>
    intro b h
    unfold insL at h
    by_cases h1 : a.1 < x ∨ (a.1 = x ∧ a.2.1 < y)
    · rw [if_pos h1] at h
      rcases List.mem_cons.mp h with h | h
      · exact Or.inr (by rw [h]; exact List.mem_cons_self)
      · rcases ih h with h | h
        · exact Or.inl h
        · exact Or.inr (List.mem_cons_of_mem _ h)
    · rw [if_neg h1] at h
      by_cases h2 : a.1 = x ∧ a.2.1 = y
      · rw [if_pos h2] at h
        exact Or.inr h
      · rw [if_neg h2] at h
        exact List.mem_cons.mp h
theorem ins_sor {x y p : Int} : ∀ {l : List Spt}, sorL l → sorL (insL x y p l) := by
  intro l
  induction l with
  | nil =>
    intro _
    unfold insL
    exact ⟨fun b h => absurd h (List.not_mem_nil), trivial⟩
  | cons a l ih =>
    intro hs
    unfold insL
    by_cases h1 : a.1 < x ∨ (a.1 = x ∧ a.2.1 < y)
    · rw [if_pos h1]
      refine ⟨fun b hb => ?_, ih hs.2⟩
      rcases ins_mem hb with h | h
      · rw [h]; exact h1
      · exact hs.1 b h
    · rw [if_neg h1]
      by_cases h2 : a.1 = x ∧ a.2.1 = y
      · rw [if_pos h2]
        exact hs
      · rw [if_neg h2]
        refine ⟨fun b hb => ?_, hs⟩
        unfold ltS
        dsimp only
        rcases List.mem_cons.mp hb with h | h
        · rw [h]
          omega
        · have := hs.1 b h
          unfold ltS at this
          omega
/-- where one comes in -/
theorem ins_spec (x y pt : Int) : ∀ {l : List Spt}, sorL l → ∃ p, p ≤ l.length ∧ (∀ i, i < p → ltS (g8 l i) x y) ∧ (∀ i, p ≤ i → i < l.length → gtS (g8 l i) x y ∨ (i = p ∧ eqS (g8 l i) x y)) ∧
    ((p < l.length ∧ eqS (g8 l p) x y ∧ insL x y pt l = l) ∨ ((p < l.length → ¬ eqS (g8 l p) x y) ∧ (insL x y pt l).length = l.length + 1 ∧ (∀ i, i < p → g8 (insL x y pt l) i = g8 l i) ∧ g8 (insL x y pt l) p = (x, y, pt) ∧ ∀ i, p ≤ i → i < l.length → g8 (insL x y pt l) (i + 1) = g8 l i)) := by
  intro l
  induction l with
  | nil =>
    intro _
    unfold insL
    exact ⟨0, Nat.le_refl _, fun i h => absurd h (Nat.not_lt_zero _), fun i _ h => absurd h (Nat.not_lt_zero _), Or.inr ⟨fun h => absurd h (Nat.not_lt_zero _), rfl, fun i h => absurd h (Nat.not_lt_zero _), rfl, fun i _ h => absurd h (Nat.not_lt_zero _)⟩⟩
  | cons a l ih =>
    intro hs
    by_cases h1 : a.1 < x ∨ (a.1 = x ∧ a.2.1 < y)
    · obtain ⟨p, p1, p2, p3, p4⟩ := ih hs.2
      have e : insL x y pt (a :: l) = a :: insL x y pt l := by
        show (if a.1 < x ∨ (a.1 = x ∧ a.2.1 < y) then a :: insL x y pt l else _) = _
        rw [if_pos h1]
      rw [e]
      refine ⟨p + 1, Nat.succ_le_succ p1, fun i hi => ?_, fun i hi hi2 => ?_, ?_⟩
      · cases i with
        | zero => exact h1
        | succ i => rw [g8_s]; exact p2 i (by omega)
      · cases i with
        | zero => omega
        | succ i =>
          rw [g8_s]
          rcases p3 i (by omega) (Nat.lt_of_succ_lt_succ hi2) with h | h
          · exact Or.inl h
          · exact Or.inr ⟨by omega, h.2⟩
      · rcases p4 with ⟨q1, q2, q3⟩ | ⟨q1, q2, q3, q4, q5⟩
        · exact Or.inl ⟨Nat.succ_lt_succ q1, by rw [g8_s]; exact q2, by rw [q3]⟩
        · refine Or.inr ⟨fun h => by rw [g8_s]; exact q1 (Nat.lt_of_succ_lt_succ h), by rw [List.length_cons, q2, List.length_cons], fun i hi => ?_, by rw [g8_s]; exact q4, fun i hi hi2 => ?_⟩
          · cases i with
            | zero => rfl
            | succ i => rw [g8_s, g8_s]; exact q3 i (by omega)
          · cases i with
            | zero => omega
            | succ i => rw [g8_s, g8_s]; exact q5 i (by omega) (Nat.lt_of_succ_lt_succ hi2)
    · by_cases h2 : a.1 = x ∧ a.2.1 = y
      · have e : insL x y pt (a :: l) = a :: l := by
          show (if a.1 < x ∨ (a.1 = x ∧ a.2.1 < y) then a :: insL x y pt l else if a.1 = x ∧ a.2.1 = y then a :: l else _) = _
          rw [if_neg h1, if_pos h2]
        rw [e]
        refine ⟨0, Nat.zero_le _, fun i h => absurd h (Nat.not_lt_zero _), fun i _ hi2 => ?_, Or.inl ⟨Nat.zero_lt_succ _, h2, rfl⟩⟩
        cases i with
        | zero => exact Or.inr ⟨rfl, h2⟩
        | succ i =>
          rw [g8_s]
          have := hs.1 _ (g8_mem (Nat.lt_of_succ_lt_succ hi2))
          unfold ltS at this
          unfold gtS
          omega
      · have e : insL x y pt (a :: l) = (x, y, pt) :: a :: l := by
          show (if a.1 < x ∨ (a.1 = x ∧ a.2.1 < y) then a :: insL x y pt l else if a.1 = x ∧ a.2.1 = y then a :: l else (x, y, pt) :: a :: l) = _
          rw [if_neg h1, if_neg h2]
        rw [e]
        refine ⟨0, Nat.zero_le _, fun i h => absurd h (Nat.not_lt_zero _), fun i _ hi2 => Or.inl ?_, Or.inr ⟨fun _ => h2, rfl, fun i h => absurd h (Nat.not_lt_zero _), rfl, fun i _ _ => g8_s _ _ _⟩⟩
        cases i with
        | zero =>
          show x < a.1 ∨ (a.1 = x ∧ y < a.2.1)
          omega
        | succ i =>
          rw [g8_s]
          have := hs.1 _ (g8_mem (Nat.lt_of_succ_lt_succ hi2))
          unfold ltS at this
          unfold gtS
          omega
/-- a row from which one place on all stand one further on -/
def shf (f : Nat → Int) (p c : Nat) : Nat → Int := fun k => if p < k ∧ k ≤ c then f (k - 1) else f k
theorem shf_top (f : Nat → Int) (c : Nat) : shf f c c = f := by
  funext k
  unfold shf
  rw [if_neg (by omega)]
theorem shf_step (f : Nat → Int) {i c : Nat} (h : i + 1 ≤ c) : va_up (shf f (i + 1) c) (i + 1) (shf f (i + 1) c i) = shf f i c := by
  funext k
  unfold va_up shf
  by_cases e : k = i + 1
  · subst e
    rw [if_pos rfl, if_neg (by omega), if_pos ⟨by omega, by omega⟩]
    rfl
  · rw [if_neg e]
    by_cases e2 : i + 1 < k ∧ k ≤ c
    · rw [if_pos e2, if_pos ⟨by omega, by omega⟩]
    · rw [if_neg e2, if_neg (by omega)]
def SPc (z : tZ8) (l : List Spt) : Prop := z.2.2.2 = (l.length : Int) ∧ l.length ≤ 41 ∧ ∀ i, i < l.length → z.1 i = (g8 l i).1 ∧ z.2.1 i = (g8 l i).2.1 ∧ z.2.2.1 i = (g8 l i).2.2
def SPm (m : tZ12) (l : List Spt) : Prop := m.1 15 = (l.length : Int) ∧ l.length ≤ 41 ∧ ∀ i, i < l.length → m.2.2.1 12 i = (g8 l i).1 ∧ m.2.2.1 13 i = (g8 l i).2.1 ∧ m.2.2.1 14 i = (g8 l i).2.2
def bdL (l : List Spt) : Prop := ∀ a, a ∈ l → -160 ≤ a.1 ∧ a.1 ≤ 160 ∧ -160 ≤ a.2.1 ∧ a.2.1 ≤ 160 ∧ 0 ≤ a.2.2 ∧ a.2.2 ≤ 40
theorem bd_g8 {l : List Spt} (h : bdL l) {i : Nat} (hi : i < l.length) : -160 ≤ (g8 l i).1 ∧ (g8 l i).1 ≤ 160 ∧ -160 ≤ (g8 l i).2.1 ∧ (g8 l i).2.1 ≤ 160 ∧ 0 ≤ (g8 l i).2.2 ∧ (g8 l i).2.2 ≤ 40 := h _ (g8_mem hi)
theorem q_move {z : tZ8} {i j : Nat} (hi : i < 41) (hj : j < 41) : q_X8_move z (i : Int) (j : Int) = some (va_up z.1 j (z.1 i), va_up z.2.1 j (z.2.1 i), va_up z.2.2.1 j (z.2.2.1 i), z.2.2.2) := by
  refine w_eq ?_
  unfold q_X8_move
  simp only [kwp_kg, kwp_kif, kwp_some, kwp_kl, Int.toNat_natCast]
  refine ⟨⟨by omega, by omega⟩, fun q => by omega, fun _ => ⟨fun q => by omega, fun _ => ⟨⟨by omega, by omega⟩, fun q => by omega, fun _ => ⟨fun _ => ⟨⟨by omega, by omega⟩, ⟨by omega, by omega⟩, by trivial⟩, fun q => by omega⟩⟩⟩⟩
theorem put_rep {l l' : List Spt} {f : Nat → Int} {c : Spt → Int} {p : Nat} {v : Spt} (hp : p ≤ l.length) (hl : l'.length = l.length + 1) (hf : ∀ i, i < l.length → f i = c (g8 l i)) (h1 : ∀ i, i < p → g8 l' i = g8 l i) (h2 : g8 l' p = v) (h3 : ∀ i, p ≤ i → i < l.length → g8 l' (i + 1) = g8 l i) :
    ∀ i, i < l'.length → va_up (shf f p l.length) p (c v) i = c (g8 l' i) := by
  intro i hi
  by_cases e : i = p
  · subst e
    rw [va_same, h2]
  · rw [va_ne _ _ e]
    unfold shf
    by_cases e2 : p < i ∧ i ≤ l.length
    · rw [if_pos e2, hf _ (by omega), ← h3 (i - 1) (by omega) (by omega), show i - 1 + 1 = i by omega]
    · rw [if_neg e2, hf _ (by omega), h1 i (by omega)]
theorem q_add {z : tZ8} {l : List Spt} (H : SPc z l) (hs : sorL l) (hb : bdL l) (hl : l.length < 41) {x y p : Int} (hx : k32 x) (hy : k32 y) : kwp (q_X8_add z x y p) (fun z' => SPc z' (insL x y p l)) := by
  obtain ⟨h1, h2, h3⟩ := H
  obtain ⟨at', a1, a2, a3, a4⟩ := ins_spec x y p hs
  have kk : ∀ i, i < l.length → k32 (z.1 i) ∧ k32 (z.2.1 i) := fun i hi => by
    have := bd_g8 hb hi
    rw [(h3 i hi).1, (h3 i hi).2.1]
    exact ⟨⟨by omega, by omega⟩, ⟨by omega, by omega⟩⟩
  have k97 : (insL x y p l).length = l.length + 1 → (∀ i, i < at' → g8 (insL x y p l) i = g8 l i) → g8 (insL x y p l) at' = (x, y, p) → (∀ i, at' ≤ i → i < l.length → g8 (insL x y p l) (i + 1) = g8 l i) →
      kwp (q_X8_add_J97 x y p z (at' : Int)) (fun z' => SPc z' (insL x y p l)) := by
    intro q2 q3 q4 q5
    unfold q_X8_add_J97
    refine w_kb (P := fun e => e.1 = 126 ∧ e.2.2 = (shf z.1 at' l.length, shf z.2.1 at' l.length, shf z.2.2.1 at' l.length, z.2.2.2)) ?_ ?_
    · refine w_loop (fun k s => ∃ i, at' ≤ i ∧ i ≤ l.length ∧ k = i - at' ∧ s.1 = (i : Int) ∧ s.2 = (shf z.1 i l.length, shf z.2.1 i l.length, shf z.2.2.1 i l.length, z.2.2.2)) ?_ kF (l.length - at') _ (Nat.lt_of_le_of_lt (Nat.sub_le _ _) (Nat.lt_of_le_of_lt h2 (by decide))) ?_
      · rintro k ⟨c, s⟩ ⟨i, i1, i2, rfl, rfl, rfl⟩
        unfold q_X8_add_L103
        simp only [kwp_kg, kwp_kif, kwp_some, kwp_kl, kwp_kb]
        refine ⟨⟨⟨by omega, by omega⟩, ⟨by omega, by omega⟩⟩, fun q => Or.inr ⟨by decide, by trivial, ?_⟩, fun q => ?_⟩
        · have : i = at' := by omega
          rw [this]
        · obtain ⟨j, rfl⟩ : ∃ j, i = j + 1 := ⟨i - 1, by omega⟩
          rw [show ((j + 1 : Nat) : Int) - 1 = (j : Int) by omega, q_move (by omega) (by omega), kwp_some]
          refine Or.inl ⟨by trivial, j - at', by omega, j, by omega, by omega, rfl, by omega, ?_⟩
          dsimp only
          rw [shf_step _ i2, shf_step _ i2, shf_step _ i2]
      · exact ⟨l.length, a1, Nat.le_refl _, rfl, h1, by rw [shf_top, shf_top, shf_top]⟩
    · rintro ⟨lb, c, s⟩ ⟨h0, e⟩
      dsimp only at e h0
      subst e
      simp only [kwp_kg, kwp_some, kwp_kl, Int.toNat_natCast]
      refine ⟨h0, ⟨by omega, by omega⟩, ?_, by omega, fun i hi => ⟨?_, ?_, ?_⟩⟩
      · rw [h1, q2]
        rfl
      · exact put_rep (c := fun a => a.1) a1 q2 (fun i hi => (h3 i hi).1) q3 q4 q5 i hi
      · exact put_rep (c := fun a => a.2.1) a1 q2 (fun i hi => (h3 i hi).2.1) q3 q4 q5 i hi
      · exact put_rep (c := fun a => a.2.2) a1 q2 (fun i hi => (h3 i hi).2.2) q3 q4 q5 i hi
  unfold q_X8_add
  refine w_kb (P := fun e => e.1 = 56 ∧ ∃ i : Nat, e.2 = (i : Int) ∧ i ≤ l.length ∧ at' ≤ i ∧ (0 < i → ¬ gtS (g8 l (i - 1)) x y) ∧ (∀ j, i ≤ j → j < l.length → gtS (g8 l j) x y)) ?_ ?_
  · refine w_loop (fun k s => ∃ i : Nat, k = i ∧ s = (i : Int) ∧ i ≤ l.length ∧ at' ≤ i ∧ (∀ j, i ≤ j → j < l.length → gtS (g8 l j) x y)) ?_ kF l.length _ (Nat.lt_of_le_of_lt h2 (by decide)) ⟨l.length, rfl, h1, Nat.le_refl _, a1, fun j hj hj2 => by omega⟩
    rintro k s ⟨i, hk, rfl, i1, i2, i3⟩
    unfold q_X8_add_L6
    simp only [kwp_kg, kwp_kif, kwp_some, kwp_kl]
    refine ⟨⟨by omega, by omega⟩, fun q => Or.inr ⟨by decide, by trivial, i, rfl, i1, i2, fun w => by omega, i3⟩, fun q => ?_⟩
    obtain ⟨j, rfl⟩ : ∃ j, i = j + 1 := ⟨i - 1, by omega⟩
    have hj : j < l.length := by omega
    rw [show (((j + 1 : Nat) : Int) - 1).toNat = j by omega]
    obtain ⟨c1, c2, _⟩ := h3 j hj
    have kj := kk j hj
    have ng : at' ≤ j → gtS (g8 l j) x y ∨ eqS (g8 l j) x y := fun w => by
      rcases a3 j w hj with h | h
      · exact Or.inl h
      · exact Or.inr h.2
    have lts : j < at' → ltS (g8 l j) x y := a2 j
    rw [c1, c2] at *
    unfold gtS eqS ltS at *
    have nx : (x < (g8 l j).1 ∨ (g8 l j).1 = x ∧ y < (g8 l j).2.1) → ∃ m, m < k ∧ ∃ i : Nat, m = i ∧ ((j + 1 : Nat) : Int) + -1 = (i : Int) ∧ i ≤ l.length ∧ at' ≤ i ∧ ∀ (t : Nat), i ≤ t → t < l.length → x < (g8 l t).1 ∨ (g8 l t).1 = x ∧ y < (g8 l t).2.1 := fun w =>
      ⟨j, by omega, j, rfl, by omega, by omega, by omega, fun t ht ht2 => by
        by_cases e : t = j
        · rw [e]; exact w
        · exact i3 t (by omega) ht2⟩
    have ex : ¬ (x < (g8 l j).1 ∨ (g8 l j).1 = x ∧ y < (g8 l j).2.1) → ∃ i : Nat, ((j + 1 : Nat) : Int) = (i : Int) ∧ i ≤ l.length ∧ at' ≤ i ∧ (0 < i → ¬ (x < (g8 l (i - 1)).1 ∨ (g8 l (i - 1)).1 = x ∧ y < (g8 l (i - 1)).2.1)) ∧ ∀ (t : Nat), i ≤ t → t < l.length → x < (g8 l t).1 ∨ (g8 l t).1 = x ∧ y < (g8 l t).2.1 := fun w =>
      ⟨j + 1, rfl, i1, i2, fun _ => w, i3⟩
    refine ⟨⟨by omega, by omega⟩, ⟨hx, kj.1⟩, fun q1 => Or.inl ⟨by trivial, nx (Or.inl q1)⟩, fun q1 => ⟨fun q2 => ⟨⟨kj.2, hy⟩, fun q3 => Or.inr ⟨by decide, by trivial, ex (by omega)⟩, fun q3 => Or.inl ⟨by trivial, nx (Or.inr ⟨q2, by omega⟩)⟩⟩, fun q2 => Or.inr ⟨by decide, by trivial, ex (by omega)⟩⟩⟩
  · rintro ⟨lb, c⟩ ⟨h0, i, rfl, i1, i2, i3, i4⟩
    dsimp only at h0
    simp only [kwp_kg]
    refine ⟨h0, ?_⟩
    unfold q_X8_add_J56
    simp only [kwp_kg, kwp_kif, kwp_some]
    rw [h1]
    refine ⟨⟨by omega, by omega⟩, fun q => by omega, fun _ => ⟨⟨by omega, by omega⟩, fun q => ?_, fun q => ?_⟩⟩
    · have e0 : i = at' := by omega
      subst e0
      rcases a4 with ⟨q1, q2, q3⟩ | ⟨q1, q2, q3, q4, q5⟩
      · have := i4 i (Nat.le_refl _) q1
        unfold gtS eqS at *
        omega
      · exact k97 q2 q3 q4 q5
    · obtain ⟨j, rfl⟩ : ∃ j, i = j + 1 := ⟨i - 1, by omega⟩
      have hj : j < l.length := by omega
      rw [show (((j + 1 : Nat) : Int) - 1).toNat = j by omega]
      obtain ⟨c1, c2, _⟩ := h3 j hj
      have kj := kk j hj
      have i3 := i3 (by omega)
      rw [show j + 1 - 1 = j by omega] at i3
      have same : eqS (g8 l j) x y → SPc z (insL x y p l) := fun w => by
        have e0 : j = at' := by
          by_cases e : j < at'
          · have := a2 j e
            unfold ltS eqS at *
            omega
          · rcases a3 j (by omega) hj with h | h
            · exact absurd h i3
            · exact h.1
        subst e0
        rcases a4 with ⟨q1, q2, q3⟩ | ⟨q1, _⟩
        · rw [q3]; exact ⟨h1, h2, h3⟩
        · exact absurd w (q1 hj)
      have other : ¬ eqS (g8 l j) x y → kwp (q_X8_add_J97 x y p z ((j + 1 : Nat) : Int)) (fun z' => SPc z' (insL x y p l)) := fun w => by
        have e0 : j + 1 = at' := by
          by_cases e : j < at'
          · omega
          · rcases a3 j (by omega) hj with h | h
            · exact absurd h i3
            · exact absurd h.2 w
        rcases a4 with ⟨q1, q2, q3⟩ | ⟨q1, q2, q3, q4, q5⟩
        · have := i4 at' (by omega) q1
          unfold gtS eqS at *
          omega
        · rw [e0]
          exact k97 q2 q3 q4 q5
      rw [c1, c2] at *
      unfold eqS at same other
      refine ⟨⟨by omega, by omega⟩, ⟨kj.1, hx⟩, fun q1 => ⟨⟨kj.2, hy⟩, fun q2 => same ⟨q1, q2⟩, fun q2 => other (fun w => q2 w.2)⟩, fun q1 => other (fun w => q1 w.1)⟩
