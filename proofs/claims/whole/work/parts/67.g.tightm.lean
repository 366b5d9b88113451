/-! ===== the model's few that force the circle, 2 ===== -/
theorem qm_twoL {z : tZ12} {l : List Spt} {C : Cir} (HS : SPm z l) (hb : bdL l) (hM : MCs z.2.1 16 C) {o : Nat → Nat} (hR : OM z o l.length) (ol : ∀ a, a < l.length → o a < l.length) :
    kwp (kitr 37 (fun q => q_X12_layTight_L37 z q) kF ((0 : Int), (0 : Int))) (fun e => (e.1 = 79 ∧ ∃ a b : Nat, e.2.1 = (a : Int) ∧ e.2.2 = (b : Int) ∧ FP l.length (fun a b => T2 l C (o a) (o b)) a b) ∨ (e.1 = 116 ∧ NP l.length (fun a b => T2 l C (o a) (o b)))) := by
  have hN := hR.2.1
  refine w_loop (fun n (s : Int × Int) => ∃ a : Nat, n = l.length - a ∧ a ≤ l.length ∧ s = ((a : Int), (0 : Int)) ∧ ∀ c d, c < a → c < d → d < l.length → ¬ T2 l C (o c) (o d)) (Q := fun e => (e.1 = 79 ∧ ∃ a b : Nat, e.2.1 = (a : Int) ∧ e.2.2 = (b : Int) ∧ FP l.length (fun a b => T2 l C (o a) (o b)) a b) ∨ (e.1 = 116 ∧ NP l.length (fun a b => T2 l C (o a) (o b)))) ?_ kF l.length _ (by have := kF_eq; omega) ⟨0, rfl, Nat.zero_le _, rfl, fun c d hc => absurd hc (Nat.not_lt_zero _)⟩
  rintro n s ⟨a, rfl, ha, rfl, no⟩
  unfold q_X12_layTight_L37
  (try dsimp only)
  rw [hR.1]
  simp only [kwp_kb, kwp_some, kwp_kg, kwp_kif, kwp_kl]
  refine ⟨⟨⟨by omega, by omega⟩, ⟨by omega, by omega⟩⟩, fun q => Or.inr ⟨by decide, Or.inr ⟨by trivial, fun c d hcd hd => no c d (by omega) hcd hd⟩⟩, fun q => ?_⟩
  have ha2 : a < l.length := by omega
  refine w_mono (w_loop (fun n (s : Int) => ∃ b : Nat, n = l.length - b ∧ a < b ∧ b ≤ l.length ∧ s = (b : Int) ∧ ∀ d, a < d → d < b → ¬ T2 l C (o a) (o d)) (Q := fun e => (e.1 = 79 ∧ ∃ b : Nat, e.2 = (b : Int) ∧ a < b ∧ b < l.length ∧ T2 l C (o a) (o b) ∧ ∀ d, a < d → d < b → ¬ T2 l C (o a) (o d)) ∨ (e.1 = 110 ∧ ∀ d, a < d → d < l.length → ¬ T2 l C (o a) (o d))) ?_ kF (l.length - (a + 1)) _ (by have := kF_eq; omega) ⟨a + 1, rfl, by omega, by omega, by omega, fun d h1 h2 => by omega⟩) ?_
  · rintro n s ⟨b, rfl, h1, h2, rfl, no2⟩
    unfold q_X12_layTight_L49
    (try dsimp only)
    rw [hR.1]
    simp only [kwp_kb, kwp_some, kwp_kg, kwp_kif, kwp_kl]
    refine ⟨⟨⟨by omega, by omega⟩, ⟨by omega, by omega⟩⟩, fun q => Or.inr ⟨by decide, Or.inr ⟨by trivial, fun d h3 h4 => no2 d h3 (by omega)⟩⟩, fun q => ?_⟩
    have hb2 : b < l.length := by omega
    rw [Int.toNat_natCast, Int.toNat_natCast, hR.2.2 a ha2, hR.2.2 b hb2]
    refine ⟨⟨by omega, by omega⟩, ⟨by omega, by omega⟩, w_mono (qm_tightPair HS hb hM (ol a ha2) (ol b hb2)) (fun x hx => ⟨fun q1 => Or.inl ⟨by trivial, l.length - (b + 1), by omega, b + 1, rfl, by omega, by omega, by omega, fun d h3 h4 => ?_⟩, fun q1 => Or.inr ⟨by decide, Or.inl ⟨by trivial, b, by trivial, h1, hb2, ?_, no2⟩⟩⟩)⟩
    · by_cases e : d = b
      · rw [e]
        exact fun w => by rw [hx.mpr w] at q1; exact kz_t q1
      · exact no2 d h3 (by omega)
    · exact hx.mp (by
        cases e : x with
        | true => rfl
        | false => rw [e] at q1; exact absurd rfl q1)
  · rintro ⟨lb, s⟩ h
    dsimp only at h ⊢
    rcases h with ⟨rfl, b, rfl, h1, h2, h3, h4⟩ | ⟨rfl, h⟩
    · exact ⟨fun _ => Or.inr ⟨by decide, Or.inl ⟨by trivial, a, b, by trivial, by trivial, FP_of h1 h2 h3 no h4⟩⟩, fun q => (q (by trivial)).elim⟩
    · refine ⟨fun q => absurd q (by decide), fun _ => ⟨by trivial, Or.inl ⟨by trivial, l.length - (a + 1), by omega, a + 1, rfl, by omega, by simp, fun c d hc hcd hd => ?_⟩⟩⟩
      by_cases e : c = a
      · rw [e]
        exact h d (by omega) hd
      · exact no c d (by omega) hcd hd
theorem qm_threeL {z : tZ12} {l : List Spt} {C : Cir} (HS : SPm z l) (hb : bdL l) (hM : MCs z.2.1 16 C) {o : Nat → Nat} (hR : OM z o l.length) (ol : ∀ a, a < l.length → o a < l.length) :
    kwp (kitr 123 (fun q => q_X12_layTight_L123 z q) kF ((0 : Int), (0 : Int), (0 : Int))) (fun e => (e.1 = 183 ∧ ∃ a b c : Nat, e.2.1 = (a : Int) ∧ e.2.2.1 = (b : Int) ∧ e.2.2.2 = (c : Int) ∧ FTr l.length (fun a b c => T3 l C (o a) (o b) (o c)) a b c) ∨ (e.1 = 238 ∧ NT l.length (fun a b c => T3 l C (o a) (o b) (o c)))) := by
  have hN := hR.2.1
  refine w_loop (fun n (s : Int × Int × Int) => ∃ a : Nat, n = l.length - a ∧ a ≤ l.length ∧ s = ((a : Int), (0 : Int), (0 : Int)) ∧ ∀ d e f, d < a → d < e → e < f → f < l.length → ¬ T3 l C (o d) (o e) (o f)) (Q := fun e => (e.1 = 183 ∧ ∃ a b c : Nat, e.2.1 = (a : Int) ∧ e.2.2.1 = (b : Int) ∧ e.2.2.2 = (c : Int) ∧ FTr l.length (fun a b c => T3 l C (o a) (o b) (o c)) a b c) ∨ (e.1 = 238 ∧ NT l.length (fun a b c => T3 l C (o a) (o b) (o c)))) ?_ kF l.length _ (by have := kF_eq; omega) ⟨0, rfl, Nat.zero_le _, rfl, fun d e f hd => absurd hd (Nat.not_lt_zero _)⟩
  rintro n s ⟨a, rfl, ha, rfl, no⟩
  unfold q_X12_layTight_L123
  (try dsimp only)
  rw [hR.1]
  simp only [kwp_kb, kwp_some, kwp_kg, kwp_kif, kwp_kl]
  refine ⟨⟨⟨by omega, by omega⟩, ⟨by omega, by omega⟩⟩, fun q => Or.inr ⟨by decide, Or.inr ⟨by trivial, fun d e f h1 h2 h3 => no d e f (by omega) h1 h2 h3⟩⟩, fun q => ?_⟩
  have ha2 : a < l.length := by omega
  refine w_mono (w_loop (fun n (s : Int × Int) => ∃ b : Nat, n = l.length - b ∧ a < b ∧ b ≤ l.length ∧ s = ((b : Int), (0 : Int)) ∧ ∀ e f, a < e → e < b → e < f → f < l.length → ¬ T3 l C (o a) (o e) (o f))
    (Q := fun e => (e.1 = 183 ∧ ∃ b c : Nat, e.2.1 = (b : Int) ∧ e.2.2 = (c : Int) ∧ a < b ∧ b < c ∧ c < l.length ∧ T3 l C (o a) (o b) (o c) ∧ (∀ e f, a < e → e < b → e < f → f < l.length → ¬ T3 l C (o a) (o e) (o f)) ∧ ∀ f, b < f → f < c → ¬ T3 l C (o a) (o b) (o f)) ∨ (e.1 = 232 ∧ ∀ e f, a < e → e < f → f < l.length → ¬ T3 l C (o a) (o e) (o f))) ?_ kF (l.length - (a + 1)) _ (by have := kF_eq; omega) ⟨a + 1, rfl, by omega, by omega, by simp, fun e f h1 h2 => by omega⟩) ?_
  · rintro n s ⟨b, rfl, h1, h2, rfl, no2⟩
    unfold q_X12_layTight_L135
    (try dsimp only)
    rw [hR.1]
    simp only [kwp_kb, kwp_some, kwp_kg, kwp_kif, kwp_kl]
    refine ⟨⟨⟨by omega, by omega⟩, ⟨by omega, by omega⟩⟩, fun q => Or.inr ⟨by decide, Or.inr ⟨by trivial, fun e f h3 h4 h5 => no2 e f h3 (by omega) h4 h5⟩⟩, fun q => ?_⟩
    have hb2 : b < l.length := by omega
    refine w_mono (w_loop (fun n (s : Int) => ∃ c : Nat, n = l.length - c ∧ b < c ∧ c ≤ l.length ∧ s = (c : Int) ∧ ∀ f, b < f → f < c → ¬ T3 l C (o a) (o b) (o f)) (Q := fun e => (e.1 = 183 ∧ ∃ c : Nat, e.2 = (c : Int) ∧ b < c ∧ c < l.length ∧ T3 l C (o a) (o b) (o c) ∧ ∀ f, b < f → f < c → ¬ T3 l C (o a) (o b) (o f)) ∨ (e.1 = 226 ∧ ∀ f, b < f → f < l.length → ¬ T3 l C (o a) (o b) (o f))) ?_ kF (l.length - (b + 1)) _ (by have := kF_eq; omega) ⟨b + 1, rfl, by omega, by omega, by omega, fun f h3 h4 => by omega⟩) ?_
    · rintro n s ⟨c, rfl, h3, h4, rfl, no3⟩
      unfold q_X12_layTight_L147
      (try dsimp only)
      rw [hR.1]
      simp only [kwp_kb, kwp_some, kwp_kg, kwp_kif, kwp_kl]
      refine ⟨⟨⟨by omega, by omega⟩, ⟨by omega, by omega⟩⟩, fun q => Or.inr ⟨by decide, Or.inr ⟨by trivial, fun f h5 h6 => no3 f h5 (by omega)⟩⟩, fun q => ?_⟩
      have hc2 : c < l.length := by omega
      rw [Int.toNat_natCast, Int.toNat_natCast, Int.toNat_natCast, hR.2.2 a ha2, hR.2.2 b hb2, hR.2.2 c hc2]
      refine ⟨⟨by omega, by omega⟩, ⟨by omega, by omega⟩, ⟨by omega, by omega⟩, w_mono (qm_tightTriple HS hb hM (ol a ha2) (ol b hb2) (ol c hc2)) (fun x hx => ⟨fun q1 => Or.inl ⟨by trivial, l.length - (c + 1), by omega, c + 1, rfl, by omega, by omega, by omega, fun f h5 h6 => ?_⟩, fun q1 => Or.inr ⟨by decide, Or.inl ⟨by trivial, c, by trivial, h3, hc2, ?_, no3⟩⟩⟩)⟩
      · by_cases e : f = c
        · rw [e]
          exact fun w => by rw [hx.mpr w] at q1; exact kz_t q1
        · exact no3 f h5 (by omega)
      · exact hx.mp (by
          cases e : x with
          | true => rfl
          | false => rw [e] at q1; exact absurd rfl q1)
    · rintro ⟨lb, s⟩ h
      dsimp only at h ⊢
      rcases h with ⟨rfl, c, rfl, h3, h4, h5, h6⟩ | ⟨rfl, h⟩
      · exact ⟨fun _ => Or.inr ⟨by decide, Or.inl ⟨by trivial, b, c, by trivial, by trivial, h1, h3, h4, h5, no2, h6⟩⟩, fun q => (q (by trivial)).elim⟩
      · refine ⟨fun q => absurd q (by decide), fun _ => ⟨by trivial, Or.inl ⟨by trivial, l.length - (b + 1), by omega, b + 1, rfl, by omega, by omega, by simp, fun e f h3 h4 h5 h6 => ?_⟩⟩⟩
        by_cases z : e = b
        · rw [z]
          exact h f (by omega) h6
        · exact no2 e f h3 (by omega) h5 h6
  · rintro ⟨lb, s⟩ h
    dsimp only at h ⊢
    rcases h with ⟨rfl, b, c, e1, e2, h1, h2, h3, h4, h5, h6⟩ | ⟨rfl, h⟩
    · exact ⟨fun _ => Or.inr ⟨by decide, Or.inl ⟨by trivial, a, b, c, by trivial, e1, e2, FTr_of h1 h2 h3 h4 no h5 h6⟩⟩, fun q => (q (by trivial)).elim⟩
    · refine ⟨fun q => absurd q (by decide), fun _ => ⟨by trivial, Or.inl ⟨by trivial, l.length - (a + 1), by omega, a + 1, rfl, by omega, by simp, fun d e f h1 h2 h3 h4 => ?_⟩⟩⟩
      by_cases z : d = a
      · rw [z]
        exact h e f (by omega) h3 h4
      · exact no d e f (by omega) h2 h3 h4
def TMm (m : tZ12) (l : List Spt) (C : Cir) : Prop := ∃ (n : Nat) (t : Nat → Nat), TS l C n t ∧ m.1 32 = (n : Int) ∧ 1 ≤ n ∧ n ≤ 3 ∧ ∀ i, i < n → t i < l.length ∧ m.2.2.1 31 i = (t i : Int)
theorem qm_layTight {m : tZ12} {l : List Spt} {C : Cir} (HS : SPm m l) (hs : sorL l) (hb : bdL l) (hn : NU l) (h0 : 0 < l.length) (hM : MCs m.2.1 16 C) (hC : mecOf (lX l) (lY l) aM l.length C) :
    kwp (q_X12_layTight m) (fun m' => FO m m' ∧ TMm m' l C) := by
  have sl := HS.2.1
  obtain ⟨D, hD⟩ := mec_ex (M := aM) (dif_sor hs) l.length (Nat.le_refl _) ⟨0, h0, trivial⟩
  have hD' := mecOf_in0 hD
  have cp := mecOf_only hC hD'
  unfold q_X12_layTight
  simp only [kwp_kb, kwp_some, kwp_kg, kwp_kif, kwp_kl]
  refine w_mono (qm_layOrder HS hb hn) ?_
  rintro m1 ⟨f1, o, hR, hO⟩
  have ol : ∀ a, a < l.length → o a < l.length := fun a ha => (hO.1 a ha).1
  have e15 : va_up m1.1 32 1 15 = (l.length : Int) := (va_ne _ _ (by decide)).trans hR.1
  have fo1 := FO_31 (FO_32 f1 1) 0 ((m1.2.2.1 30) 0)
  refine ⟨by decide, by decide, by rw [e15]; exact ⟨by omega, by omega⟩, fun q => ?_, fun q => ?_⟩
  · rw [e15] at q
    refine ⟨fo1, 1, fun _ => 0, Or.inl ⟨by omega, rfl, rfl⟩, va_same m1.1 32 1, by omega, by omega, fun i hi => ⟨h0, ?_⟩⟩
    have z : i = 0 := by omega
    subst z
    show va_up m1.2.2.1 31 (va_up (m1.2.2.1 31) 0 (m1.2.2.1 30 0)) 31 0 = _
    have := ol 0 h0
    have e : o 0 = 0 := by omega
    rw [va_same, va_same, hR.2.2 0 h0, e]
  · rw [e15] at q
    have l2 : 2 ≤ l.length := by omega
    have fo2 := FO_32 fo1 2
    have HS2 := SPm_fo fo2 HS
    have hM2 : MCs m1.2.1 16 C := by rw [f1.2.1]; exact hM
    have tp := T2_S hC.1 hC.2.1
    have hR2 : ∀ v w, OM (va_up (va_up m1.1 32 1) 32 v, m1.2.1, va_up m1.2.2.1 31 w, m1.2.2.2) o l.length := fun v w =>
      ⟨(va_ne (k := 32) (j := 15) _ v (by decide)).trans e15, hR.2.1, fun a ha => by
        show va_up m1.2.2.1 31 w 30 a = _
        rw [va_ne _ _ (by decide)]
        exact hR.2.2 a ha⟩
    refine w_mono (qm_twoL HS2 hb hM2 (hR2 2 _) ol) ?_
    rintro ⟨lb2, a', b'⟩ h
    dsimp only at h ⊢
    rcases h with ⟨rfl, a, b, rfl, rfl, fp⟩ | ⟨rfl, np⟩
    · have p2 := P2_of (C := C) hO (fun p q _ _ _ => ⟨trivial, trivial⟩) fp
      have hb2 := fp.2.1
      have hab := fp.1
      rw [Int.toNat_natCast, Int.toNat_natCast]
      refine ⟨fun _ => ⟨⟨by omega, by omega⟩, ⟨by omega, by omega⟩, by decide, FO_31 (FO_31 fo2 _ _) _ _, 2, fun i => if i = 0 then o a else o b, Or.inr (Or.inl ⟨l2, rfl, p2⟩), va_same (va_up m1.1 32 1) 32 2, by omega, by omega, fun i hi => ?_⟩, fun q => (q (by trivial)).elim⟩
      dsimp only
      rw [va_same, va_same, va_same, va_ne _ _ (show (30 : Nat) ≠ 31 by decide), va_ne _ _ (show (30 : Nat) ≠ 31 by decide)]
      by_cases z : i = 0
      · subst z
        rw [va_ne _ _ (by decide), if_pos rfl]
        exact ⟨ol a (by omega), (va_same _ _ _).trans (hR.2.2 a (by omega))⟩
      · have z1 : i = 1 := by omega
        subst z1
        rw [if_neg (by decide)]
        exact ⟨ol b hb2, (va_same _ _ _).trans (hR.2.2 b hb2)⟩
    · have n2 : N2 l C := N2_of hO (fun p q _ _ _ => ⟨trivial, trivial⟩) np
      have fo3 := FO_32 fo2 3
      have HS3 := SPm_fo fo3 HS
      have hR3 : ∀ v w u, OM (va_up (va_up (va_up m1.1 32 1) 32 u) 32 v, m1.2.1, va_up m1.2.2.1 31 w, m1.2.2.2) o l.length := fun v w u =>
        ⟨(va_ne (k := 32) (j := 15) _ v (by decide)).trans ((va_ne (k := 32) (j := 15) _ u (by decide)).trans e15), hR.2.1, fun a ha => by
          show va_up m1.2.2.1 31 w 30 a = _
          rw [va_ne _ _ (by decide)]
          exact hR.2.2 a ha⟩
      refine ⟨fun q => absurd q (by decide), fun _ => ⟨by trivial, w_mono (qm_threeL HS3 hb hM2 (hR3 3 _ 2) ol) ?_⟩⟩
      rintro ⟨lb3, a', b', c'⟩ h
      dsimp only at h ⊢
      rcases h with ⟨rfl, a, b, c, rfl, rfl, rfl, ft⟩ | ⟨rfl, nt⟩
      · have p3 := P3_of (C := C) hO (fun p _ _ => trivial) ft
        have hc2 := ft.2.2.1
        have hab := ft.1
        have hbc := ft.2.1
        rw [Int.toNat_natCast, Int.toNat_natCast, Int.toNat_natCast]
        refine ⟨fun _ => ⟨⟨by omega, by omega⟩, ⟨by omega, by omega⟩, by decide, ⟨by omega, by omega⟩, by decide, FO_31 (FO_31 (FO_31 fo3 _ _) _ _) _ _, 3, fun i => if i = 0 then o a else if i = 1 then o b else o c, Or.inr (Or.inr ⟨l2, n2, rfl, p3⟩), va_same (va_up (va_up m1.1 32 1) 32 2) 32 3, by omega, by omega, fun i hi => ?_⟩, fun q => (q (by trivial)).elim⟩
        dsimp only
        rw [va_same, va_same, va_same, va_same, va_ne _ _ (show (30 : Nat) ≠ 31 by decide), va_ne _ _ (show (30 : Nat) ≠ 31 by decide), va_ne _ _ (show (30 : Nat) ≠ 31 by decide)]
        by_cases z : i = 0
        · subst z
          rw [va_ne _ _ (by decide), va_ne _ _ (by decide), if_pos rfl]
          exact ⟨ol a (by omega), (va_same _ _ _).trans (hR.2.2 a (by omega))⟩
        · by_cases z1 : i = 1
          · subst z1
            rw [va_ne _ _ (by decide), if_neg (by decide), if_pos rfl]
            exact ⟨ol b (by omega), (va_same _ _ _).trans (hR.2.2 b (by omega))⟩
          · have z2 : i = 2 := by omega
            subst z2
            rw [if_neg (by decide), if_neg (by decide)]
            exact ⟨ol c hc2, (va_same _ _ _).trans (hR.2.2 c hc2)⟩
      · exfalso
        refine no_trip hn.2 hs l2 hD hO (fun p _ _ => trivial) (fun p q hp hq hpq ht => n2 p q hp hq hpq ((T2_P hC.1 hD'.1 cp p q).mpr ht)) (fun d e f h1 h2 h3 ht => nt d e f h1 h2 h3 ((T3_P hC.1 hD'.1 cp _ _ _).mpr ht))
