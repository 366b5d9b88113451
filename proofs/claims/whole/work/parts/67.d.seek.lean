/-! ===== the class seeks them, 2 ===== -/
theorem FP_of {N : Nat} {T : Nat → Nat → Prop} {a b : Nat} (hab : a < b) (hb : b < N) (h : T a b) (h1 : ∀ c d, c < a → c < d → d < N → ¬ T c d) (h2 : ∀ d, a < d → d < b → ¬ T a d) : FP N T a b :=
  ⟨hab, hb, h, fun c d hcd hd ht => by
    by_cases x : c < a
    · exact absurd ht (h1 c d x hcd hd)
    · by_cases y : a < c
      · exact Or.inl y
      · have e : c = a := by omega
        subst e
        by_cases w : d < b
        · exact absurd ht (h2 d hcd w)
        · exact Or.inr ⟨rfl, by omega⟩⟩
theorem FTr_of {N : Nat} {T : Nat → Nat → Nat → Prop} {a b c : Nat} (hab : a < b) (hbc : b < c) (hc : c < N) (h : T a b c) (h1 : ∀ d e f, d < a → d < e → e < f → f < N → ¬ T d e f) (h2 : ∀ e f, a < e → e < b → e < f → f < N → ¬ T a e f) (h3 : ∀ f, b < f → f < c → ¬ T a b f) : FTr N T a b c :=
  ⟨hab, hbc, hc, h, fun d e f hde hef hf ht => by
    by_cases x : d < a
    · exact absurd ht (h1 d e f x hde hef hf)
    · by_cases y : a < d
      · exact Or.inl y
      · have e1 : d = a := by omega
        subst e1
        refine Or.inr ⟨rfl, ?_⟩
        by_cases w : e < b
        · exact absurd ht (h2 e f hde w hef hf)
        · by_cases w2 : b < e
          · exact Or.inl w2
          · have e2 : e = b := by omega
            subst e2
            by_cases w3 : f < c
            · exact absurd ht (h3 f hef w3)
            · exact Or.inr ⟨rfl, by omega⟩⟩
theorem q_twoL {z8 : tZ8} {z : tZ0} {l : List Spt} (H : SPc z8 l) (hb : bdL l) (hB : BC z) {o : Nat → Nat} {N : Nat} (hR : RZ z o N) (hO : OS l (RM l (CZ z)) o N) :
    kwp (kitr 2 (fun q => q_X0_seekTwo_L2 z8 z q) kF ((0 : Int), (0 : Int))) (fun e => (e.1 = 40 ∧ ∃ a b : Nat, e.2.1 = (a : Int) ∧ e.2.2 = (b : Int) ∧ FP N (fun a b => T2 l (CZ z) (o a) (o b)) a b) ∨ (e.1 = 63 ∧ NP N (fun a b => T2 l (CZ z) (o a) (o b)))) := by
  have hN := hR.2.1
  refine w_loop (fun n (s : Int × Int) => ∃ a : Nat, n = N - a ∧ a ≤ N ∧ s = ((a : Int), (0 : Int)) ∧ ∀ c d, c < a → c < d → d < N → ¬ T2 l (CZ z) (o c) (o d)) (Q := fun e => (e.1 = 40 ∧ ∃ a b : Nat, e.2.1 = (a : Int) ∧ e.2.2 = (b : Int) ∧ FP N (fun a b => T2 l (CZ z) (o a) (o b)) a b) ∨ (e.1 = 63 ∧ NP N (fun a b => T2 l (CZ z) (o a) (o b)))) ?_ kF N _ (by have := kF_eq; omega) ⟨0, rfl, Nat.zero_le _, rfl, fun c d hc => absurd hc (Nat.not_lt_zero _)⟩
  rintro n s ⟨a, rfl, ha, rfl, no⟩
  unfold q_X0_seekTwo_L2
  (try dsimp only)
  rw [hR.1]
  simp only [kwp_kb, kwp_some, kwp_kg, kwp_kif, kwp_kl]
  refine ⟨⟨⟨by omega, by omega⟩, ⟨by omega, by omega⟩⟩, fun q => Or.inr ⟨by decide, Or.inr ⟨by trivial, fun c d hcd hd => no c d (by omega) hcd hd⟩⟩, fun q => ?_⟩
  have ha2 : a < N := by omega
  refine w_mono (w_loop (fun n (s : Int) => ∃ b : Nat, n = N - b ∧ a < b ∧ b ≤ N ∧ s = (b : Int) ∧ ∀ d, a < d → d < b → ¬ T2 l (CZ z) (o a) (o d)) (Q := fun e => (e.1 = 40 ∧ ∃ b : Nat, e.2 = (b : Int) ∧ a < b ∧ b < N ∧ T2 l (CZ z) (o a) (o b) ∧ ∀ d, a < d → d < b → ¬ T2 l (CZ z) (o a) (o d)) ∨ (e.1 = 57 ∧ ∀ d, a < d → d < N → ¬ T2 l (CZ z) (o a) (o d))) ?_ kF (N - (a + 1)) _ (by have := kF_eq; omega) ⟨a + 1, rfl, by omega, by omega, by omega, fun d h1 h2 => by omega⟩) ?_
  · rintro n s ⟨b, rfl, h1, h2, rfl, no2⟩
    unfold q_X0_seekTwo_L14
    (try dsimp only)
    rw [hR.1]
    simp only [kwp_kb, kwp_some, kwp_kg, kwp_kif, kwp_kl]
    refine ⟨⟨⟨by omega, by omega⟩, ⟨by omega, by omega⟩⟩, fun q => Or.inr ⟨by decide, Or.inr ⟨by trivial, fun d h3 h4 => no2 d h3 (by omega)⟩⟩, fun q => ?_⟩
    have hb2 : b < N := by omega
    have oa := hO.1 a ha2
    have ob := hO.1 b hb2
    rw [q_rimSpot hR ha2, kwp_some, q_rimSpot hR hb2, kwp_some]
    refine w_mono (q_opposite hB H hb oa.1 ob.1 oa.2 ob.2) (fun x hx => ⟨fun q1 => Or.inl ⟨by trivial, N - (b + 1), by omega, b + 1, rfl, by omega, by omega, by omega, fun d h3 h4 => ?_⟩, fun q1 => Or.inr ⟨by decide, Or.inl ⟨by trivial, b, by trivial, h1, hb2, ?_, no2⟩⟩⟩)
    · by_cases e : d = b
      · rw [e]
        exact fun w => by rw [hx.mpr w] at q1; exact kz_t q1
      · exact no2 d h3 (by omega)
    · exact hx.mp (by
        cases e : x with
        | true => rfl
        | false => rw [e] at q1; exact absurd rfl q1)
  · rintro ⟨lb, s⟩ h
    dsimp only at h ⊢
    rcases h with ⟨rfl, b, rfl, h1, h2, h3, h4⟩ | ⟨rfl, h⟩
    · exact ⟨fun _ => Or.inr ⟨by decide, Or.inl ⟨by trivial, a, b, by trivial, by trivial, FP_of h1 h2 h3 no h4⟩⟩, fun q => (q (by trivial)).elim⟩
    · refine ⟨fun q => absurd q (by decide), fun _ => ⟨by trivial, Or.inl ⟨by trivial, N - (a + 1), by omega, a + 1, rfl, by omega, by simp, fun c d hc hcd hd => ?_⟩⟩⟩
      by_cases e : c = a
      · rw [e]
        exact h d (by omega) hd
      · exact no c d (by omega) hcd hd
theorem q_threeL {z8 : tZ8} {z : tZ0} {l : List Spt} (H : SPc z8 l) (hb : bdL l) {o : Nat → Nat} {N : Nat} (hR : RZ z o N) (hO : OS l (RM l (CZ z)) o N) :
    kwp (kitr 2 (fun q => q_X0_seekThree_L2 z8 z q) kF ((0 : Int), (0 : Int), (0 : Int))) (fun e => (e.1 = 59 ∧ ∃ a b c : Nat, e.2.1 = (a : Int) ∧ e.2.2.1 = (b : Int) ∧ e.2.2.2 = (c : Int) ∧ FTr N (fun a b c => T3 l (CZ z) (o a) (o b) (o c)) a b c) ∨ (e.1 = 88 ∧ NT N (fun a b c => T3 l (CZ z) (o a) (o b) (o c)))) := by
  have hN := hR.2.1
  refine w_loop (fun n (s : Int × Int × Int) => ∃ a : Nat, n = N - a ∧ a ≤ N ∧ s = ((a : Int), (0 : Int), (0 : Int)) ∧ ∀ d e f, d < a → d < e → e < f → f < N → ¬ T3 l (CZ z) (o d) (o e) (o f)) (Q := fun e => (e.1 = 59 ∧ ∃ a b c : Nat, e.2.1 = (a : Int) ∧ e.2.2.1 = (b : Int) ∧ e.2.2.2 = (c : Int) ∧ FTr N (fun a b c => T3 l (CZ z) (o a) (o b) (o c)) a b c) ∨ (e.1 = 88 ∧ NT N (fun a b c => T3 l (CZ z) (o a) (o b) (o c)))) ?_ kF N _ (by have := kF_eq; omega) ⟨0, rfl, Nat.zero_le _, rfl, fun d e f hd => absurd hd (Nat.not_lt_zero _)⟩
  rintro n s ⟨a, rfl, ha, rfl, no⟩
  unfold q_X0_seekThree_L2
  (try dsimp only)
  rw [hR.1]
  simp only [kwp_kb, kwp_some, kwp_kg, kwp_kif, kwp_kl]
  refine ⟨⟨⟨by omega, by omega⟩, ⟨by omega, by omega⟩⟩, fun q => Or.inr ⟨by decide, Or.inr ⟨by trivial, fun d e f h1 h2 h3 => no d e f (by omega) h1 h2 h3⟩⟩, fun q => ?_⟩
  have ha2 : a < N := by omega
  refine w_mono (w_loop (fun n (s : Int × Int) => ∃ b : Nat, n = N - b ∧ a < b ∧ b ≤ N ∧ s = ((b : Int), (0 : Int)) ∧ ∀ e f, a < e → e < b → e < f → f < N → ¬ T3 l (CZ z) (o a) (o e) (o f))
    (Q := fun e => (e.1 = 59 ∧ ∃ b c : Nat, e.2.1 = (b : Int) ∧ e.2.2 = (c : Int) ∧ a < b ∧ b < c ∧ c < N ∧ T3 l (CZ z) (o a) (o b) (o c) ∧ (∀ e f, a < e → e < b → e < f → f < N → ¬ T3 l (CZ z) (o a) (o e) (o f)) ∧ ∀ f, b < f → f < c → ¬ T3 l (CZ z) (o a) (o b) (o f)) ∨ (e.1 = 82 ∧ ∀ e f, a < e → e < f → f < N → ¬ T3 l (CZ z) (o a) (o e) (o f))) ?_ kF (N - (a + 1)) _ (by have := kF_eq; omega) ⟨a + 1, rfl, by omega, by omega, by simp, fun e f h1 h2 => by omega⟩) ?_
  · rintro n s ⟨b, rfl, h1, h2, rfl, no2⟩
    unfold q_X0_seekThree_L14
    (try dsimp only)
    rw [hR.1]
    simp only [kwp_kb, kwp_some, kwp_kg, kwp_kif, kwp_kl]
    refine ⟨⟨⟨by omega, by omega⟩, ⟨by omega, by omega⟩⟩, fun q => Or.inr ⟨by decide, Or.inr ⟨by trivial, fun e f h3 h4 h5 => no2 e f h3 (by omega) h4 h5⟩⟩, fun q => ?_⟩
    have hb2 : b < N := by omega
    refine w_mono (w_loop (fun n (s : Int) => ∃ c : Nat, n = N - c ∧ b < c ∧ c ≤ N ∧ s = (c : Int) ∧ ∀ f, b < f → f < c → ¬ T3 l (CZ z) (o a) (o b) (o f)) (Q := fun e => (e.1 = 59 ∧ ∃ c : Nat, e.2 = (c : Int) ∧ b < c ∧ c < N ∧ T3 l (CZ z) (o a) (o b) (o c) ∧ ∀ f, b < f → f < c → ¬ T3 l (CZ z) (o a) (o b) (o f)) ∨ (e.1 = 76 ∧ ∀ f, b < f → f < N → ¬ T3 l (CZ z) (o a) (o b) (o f))) ?_ kF (N - (b + 1)) _ (by have := kF_eq; omega) ⟨b + 1, rfl, by omega, by omega, by omega, fun f h3 h4 => by omega⟩) ?_
    · rintro n s ⟨c, rfl, h3, h4, rfl, no3⟩
      unfold q_X0_seekThree_L27
      (try dsimp only)
      rw [hR.1]
      simp only [kwp_kb, kwp_some, kwp_kg, kwp_kif, kwp_kl]
      refine ⟨⟨⟨by omega, by omega⟩, ⟨by omega, by omega⟩⟩, fun q => Or.inr ⟨by decide, Or.inr ⟨by trivial, fun f h5 h6 => no3 f h5 (by omega)⟩⟩, fun q => ?_⟩
      have hc2 : c < N := by omega
      have oa := hO.1 a ha2
      have ob := hO.1 b hb2
      have oc := hO.1 c hc2
      rw [q_rimSpot hR ha2, kwp_some, q_rimSpot hR hb2, kwp_some, q_rimSpot hR hc2, kwp_some]
      refine w_mono (q_sharp H hb oa.1 ob.1 oc.1) (fun x hx => ⟨fun q1 => Or.inl ⟨by trivial, N - (c + 1), by omega, c + 1, rfl, by omega, by omega, by omega, fun f h5 h6 => ?_⟩, fun q1 => Or.inr ⟨by decide, Or.inl ⟨by trivial, c, by trivial, h3, hc2, ?_, no3⟩⟩⟩)
      · by_cases e : f = c
        · rw [e]
          exact fun w => by rw [hx.mpr w.2.2.2] at q1; exact kz_t q1
        · exact no3 f h5 (by omega)
      · exact ⟨oa.2, ob.2, oc.2, hx.mp (by
          cases e : x with
          | true => rfl
          | false => rw [e] at q1; exact absurd rfl q1)⟩
    · rintro ⟨lb, s⟩ h
      dsimp only at h ⊢
      rcases h with ⟨rfl, c, rfl, h3, h4, h5, h6⟩ | ⟨rfl, h⟩
      · exact ⟨fun _ => Or.inr ⟨by decide, Or.inl ⟨by trivial, b, c, by trivial, by trivial, h1, h3, h4, h5, no2, h6⟩⟩, fun q => (q (by trivial)).elim⟩
      · refine ⟨fun q => absurd q (by decide), fun _ => ⟨by trivial, Or.inl ⟨by trivial, N - (b + 1), by omega, b + 1, rfl, by omega, by omega, by simp, fun e f h3 h4 h5 h6 => ?_⟩⟩⟩
        by_cases z : e = b
        · rw [z]
          exact h f (by omega) h6
        · exact no2 e f h3 (by omega) h5 h6
  · rintro ⟨lb, s⟩ h
    dsimp only at h ⊢
    rcases h with ⟨rfl, b, c, e1, e2, h1, h2, h3, h4, h5, h6⟩ | ⟨rfl, h⟩
    · exact ⟨fun _ => Or.inr ⟨by decide, Or.inl ⟨by trivial, a, b, c, by trivial, e1, e2, FTr_of h1 h2 h3 h4 no h5 h6⟩⟩, fun q => (q (by trivial)).elim⟩
    · refine ⟨fun q => absurd q (by decide), fun _ => ⟨by trivial, Or.inl ⟨by trivial, N - (a + 1), by omega, a + 1, rfl, by omega, by simp, fun d e f h1 h2 h3 h4 => ?_⟩⟩⟩
      by_cases z : d = a
      · rw [z]
        exact h e f (by omega) h3 h4
      · exact no d e f (by omega) h2 h3 h4
