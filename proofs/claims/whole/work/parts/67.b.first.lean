/-! ===== the first by numbers ===== -/
def OS (l : List Spt) (S : Nat → Prop) (o : Nat → Nat) (N : Nat) : Prop :=
  (∀ a, a < N → o a < l.length ∧ S (o a)) ∧ (∀ a b, a < b → b < N → lP l (o a) < lP l (o b)) ∧ ∀ p, p < l.length → S p → ∃ a, a < N ∧ o a = p
def FP (N : Nat) (T : Nat → Nat → Prop) (a b : Nat) : Prop := a < b ∧ b < N ∧ T a b ∧ ∀ c d, c < d → d < N → T c d → a < c ∨ (c = a ∧ b ≤ d)
def NP (N : Nat) (T : Nat → Nat → Prop) : Prop := ∀ c d, c < d → d < N → ¬ T c d
def FTr (N : Nat) (T : Nat → Nat → Nat → Prop) (a b c : Nat) : Prop := a < b ∧ b < c ∧ c < N ∧ T a b c ∧ ∀ d e f, d < e → e < f → f < N → T d e f → a < d ∨ (d = a ∧ (b < e ∨ (e = b ∧ c ≤ f)))
def NT (N : Nat) (T : Nat → Nat → Nat → Prop) : Prop := ∀ d e f, d < e → e < f → f < N → ¬ T d e f
theorem OS_lt {l : List Spt} {S : Nat → Prop} {o : Nat → Nat} {N : Nat} (h : OS l S o N) {a b : Nat} (ha : a < N) (hb : b < N) (g : lP l (o a) < lP l (o b)) : a < b := by
  by_cases q : a < b
  · exact q
  · exfalso
    by_cases z : a = b
    · rw [z] at g
      omega
    · have := h.2.1 b a (by omega) ha
      omega
theorem P2_of {l : List Spt} {C : Cir} {S : Nat → Prop} {o : Nat → Nat} {N a b : Nat} (h : OS l S o N) (hS : ∀ p q, p < l.length → q < l.length → T2 l C p q → S p ∧ S q) (g : FP N (fun a b => T2 l C (o a) (o b)) a b) : P2 l C (o a) (o b) := by
  obtain ⟨g1, g2, g3, g4⟩ := g
  refine ⟨(h.1 a (by omega)).1, (h.1 b g2).1, h.2.1 a b g1 g2, g3, fun p q hp hq hpq ht => ?_⟩
  have s := hS p q hp hq ht
  obtain ⟨c, hc, rfl⟩ := h.2.2 p hp s.1
  obtain ⟨d, hd, rfl⟩ := h.2.2 q hq s.2
  rcases g4 c d (OS_lt h hc hd hpq) hd ht with w | ⟨w1, w2⟩
  · exact Or.inl (h.2.1 a c w hc)
  · refine Or.inr ⟨by rw [w1], ?_⟩
    by_cases z : b = d
    · rw [z]
      exact Int.le_refl _
    · have := h.2.1 b d (by omega) hd
      omega
theorem N2_of {l : List Spt} {C : Cir} {S : Nat → Prop} {o : Nat → Nat} {N : Nat} (h : OS l S o N) (hS : ∀ p q, p < l.length → q < l.length → T2 l C p q → S p ∧ S q) (g : NP N (fun a b => T2 l C (o a) (o b))) : N2 l C := by
  intro p q hp hq hpq ht
  have s := hS p q hp hq ht
  obtain ⟨c, hc, rfl⟩ := h.2.2 p hp s.1
  obtain ⟨d, hd, rfl⟩ := h.2.2 q hq s.2
  exact g c d (OS_lt h hc hd hpq) hd ht
theorem P3_of {l : List Spt} {C : Cir} {S : Nat → Prop} {o : Nat → Nat} {N a b c : Nat} (h : OS l S o N) (hS : ∀ p, p < l.length → RM l C p → S p) (g : FTr N (fun a b c => T3 l C (o a) (o b) (o c)) a b c) : P3 l C (o a) (o b) (o c) := by
  obtain ⟨g1, g2, g3, g4, g5⟩ := g
  refine ⟨(h.1 a (by omega)).1, (h.1 b (by omega)).1, (h.1 c g3).1, h.2.1 a b g1 (by omega), h.2.1 b c g2 g3, g4, fun p q r hp hq hr hpq hqr ht => ?_⟩
  obtain ⟨d, hd, rfl⟩ := h.2.2 p hp (hS p hp ht.1)
  obtain ⟨e, he, rfl⟩ := h.2.2 q hq (hS q hq ht.2.1)
  obtain ⟨f, hf, rfl⟩ := h.2.2 r hr (hS r hr ht.2.2.1)
  rcases g5 d e f (OS_lt h hd he hpq) (OS_lt h he hf hqr) hf ht with w | ⟨w1, w | ⟨w2, w3⟩⟩
  · exact Or.inl (h.2.1 a d w hd)
  · exact Or.inr ⟨by rw [w1], Or.inl (h.2.1 b e w he)⟩
  · refine Or.inr ⟨by rw [w1], Or.inr ⟨by rw [w2], ?_⟩⟩
    by_cases z : c = f
    · rw [z]
      exact Int.le_refl _
    · have := h.2.1 c f (by omega) hf
      omega
theorem T3_perm {l : List Spt} {C : Cir} {p q r : Nat} (h : T3 l C p q r) : T3 l C q p r ∧ T3 l C q r p := by
  have s := SH_sym h.2.2.2
  exact ⟨⟨h.2.1, h.1, h.2.2.1, s.1⟩, ⟨h.2.1, h.2.2.1, h.1, s.2⟩⟩
theorem trip_sorted {l : List Spt} {C : Cir} (hn : ∀ i j, i < l.length → j < l.length → lP l i = lP l j → i = j) {p q r : Nat} (hp : p < l.length) (hq : q < l.length) (hr : r < l.length) (h1 : p ≠ q) (h2 : q ≠ r) (h3 : p ≠ r) (h : T3 l C p q r) :
    ∃ a b c, a < l.length ∧ b < l.length ∧ c < l.length ∧ lP l a < lP l b ∧ lP l b < lP l c ∧ T3 l C a b c := by
  have n1 : lP l p ≠ lP l q := fun e => h1 (hn _ _ hp hq e)
  have n2 : lP l q ≠ lP l r := fun e => h2 (hn _ _ hq hr e)
  have n3 : lP l p ≠ lP l r := fun e => h3 (hn _ _ hp hr e)
  have s1 := (T3_perm h).1
  have s2 := (T3_perm h).2
  have s3 := (T3_perm s1).2
  have s4 := (T3_perm s2).2
  have s5 := (T3_perm s3).2
  by_cases a1 : lP l p < lP l q
  · by_cases a2 : lP l q < lP l r
    · exact ⟨p, q, r, hp, hq, hr, a1, a2, h⟩
    · by_cases a3 : lP l p < lP l r
      · exact ⟨p, r, q, hp, hr, hq, a3, by omega, s3⟩
      · exact ⟨r, p, q, hr, hp, hq, by omega, a1, s4⟩
  · by_cases a2 : lP l p < lP l r
    · exact ⟨q, p, r, hq, hp, hr, by omega, a2, s1⟩
    · by_cases a3 : lP l q < lP l r
      · exact ⟨q, r, p, hq, hr, hp, a3, by omega, s2⟩
      · exact ⟨r, q, p, hr, hq, hp, by omega, by omega, s5⟩
theorem no_trip {l : List Spt} {C : Cir} {S : Nat → Prop} {o : Nat → Nat} {N : Nat} (hn : ∀ i j, i < l.length → j < l.length → lP l i = lP l j → i = j) (hs : sorL l) (h2 : 2 ≤ l.length) (hC : in0 (lX l) (lY l) aM l.length C) (h : OS l S o N) (hS : ∀ p, p < l.length → RM l C p → S p) (g2 : N2 l C) (g : NT N (fun a b c => T3 l C (o a) (o b) (o c))) : False := by
  rcases tight_ex hs h2 hC with ⟨p, q, hp, hq, hpq, ht⟩ | ⟨p, q, r, hp, hq, hr, h1, h3, h4, ht⟩
  · by_cases a : lP l p < lP l q
    · exact g2 p q hp hq a ht
    · have : lP l p ≠ lP l q := fun e => hpq (hn _ _ hp hq e)
      exact g2 q p hq hp (by omega) ((T2_sym l C p q).mp ht)
  · obtain ⟨a, b, c, ha, hb, hc, l1, l2, t⟩ := trip_sorted hn hp hq hr h1 h3 h4 ht
    obtain ⟨d, hd, rfl⟩ := h.2.2 a ha (hS a ha t.1)
    obtain ⟨e, he, rfl⟩ := h.2.2 b hb (hS b hb t.2.1)
    obtain ⟨f, hf, rfl⟩ := h.2.2 c hc (hS c hc t.2.2.1)
    exact g d e f (OS_lt h hd he l1) (OS_lt h he hf l2) hf t
theorem PM_ex {n : Nat} {f g : Nat → Int} (h : PM n f g) {P : Int → Prop} (e : ∃ t, t < n ∧ P (g t)) : ∃ t, t < n ∧ P (f t) := by
  obtain ⟨s, t, h1, h2⟩ := h
  obtain ⟨u, hu, p⟩ := e
  have a := h1 u hu
  exact ⟨t u, a.2.1, by rw [h2 _ a.2.1, a.2.2.2]; exact p⟩
theorem PM_inj {n : Nat} {f g : Nat → Int} (h : PM n f g) (hg : ∀ i j, i < n → j < n → g i = g j → i = j) : ∀ i j, i < n → j < n → f i = f j → i = j := by
  obtain ⟨s, t, h1, h2⟩ := h
  intro i j hi hj e
  have a := h1 i hi
  have b := h1 j hj
  rw [h2 i hi, h2 j hj] at e
  have := hg _ _ a.1 b.1 e
  rw [← a.2.2.1, ← b.2.2.1, this]
/-- a row of SPOTS by their numbers -/
def KF (l : List Spt) (f : Nat → Int) (a : Nat) : Int := lP l (f a).toNat
theorem KF_up (l : List Spt) (f : Nat → Int) (k : Nat) (v : Int) : KF l (va_up f k v) = va_up (KF l f) k (lP l v.toNat) := by
  funext a
  unfold KF
  by_cases e : a = k
  · rw [e, va_same, va_same]
  · rw [va_ne _ _ e, va_ne _ _ e]
theorem OS_of {l : List Spt} {S : Nat → Prop} {f b : Nat → Int} {N : Nat} (hn : ∀ i j, i < l.length → j < l.length → lP l i = lP l j → i = j) (pm : PM N f b) (so : SO (KF l f) N)
    (b1 : ∀ t, t < N → ∃ p : Nat, b t = (p : Int) ∧ p < l.length ∧ S p) (b2 : ∀ t u, t < N → u < N → b t = b u → t = u) (b3 : ∀ p, p < l.length → S p → ∃ t, t < N ∧ b t = (p : Int)) : OS l S (fun a => (f a).toNat) N := by
  have f1 := PM_all (P := fun v => ∃ p : Nat, v = (p : Int) ∧ p < l.length ∧ S p) pm b1
  have f2 := PM_inj pm b2
  refine ⟨fun a ha => ?_, fun a c hac hc => ?_, fun p hp hs => ?_⟩
  · obtain ⟨p, e, h1, h2⟩ := f1 a ha
    dsimp only
    rw [e, Int.toNat_natCast]
    exact ⟨h1, h2⟩
  · obtain ⟨p, e, h1, h2⟩ := f1 a (by omega)
    obtain ⟨q, e2, h3, h4⟩ := f1 c hc
    have le := so a c hac hc
    unfold KF at le
    dsimp only
    rw [e, e2, Int.toNat_natCast, Int.toNat_natCast] at le
    rw [e, e2, Int.toNat_natCast, Int.toNat_natCast]
    by_cases z : lP l p = lP l q
    · have := hn p q h1 h3 z
      subst this
      have := f2 a c (by omega) hc (by rw [e, e2])
      omega
    · omega
  · obtain ⟨t, ht, e⟩ := PM_ex (P := fun v => v = (p : Int)) pm (b3 p hp hs)
    exact ⟨t, ht, by dsimp only; rw [e, Int.toNat_natCast]⟩
