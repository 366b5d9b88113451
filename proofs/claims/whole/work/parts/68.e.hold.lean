/-! ===== fewer, the class ===== -/
def inN (l : List Spt) (C : Cir) : Nat := inF l C l.length
def okC (l : List Spt) (least : Int) (C : Cir) : Prop := least ≤ (pcN (inN l C) : Int)
def nb (l : List Spt) (D C : Cir) : Prop := ¬ leR D C ∨ (leR C D ∧ leR D C ∧ (pcN (inN l D) < pcN (inN l C) ∨ (pcN (inN l D) = pcN (inN l C) ∧ inN l C ≤ inN l D)))
def FWc (l : List Spt) (least : Int) (s : (Nat → Cir) × Nat) (C : Cir) : Prop := oc s C ∧ okC l least C ∧ ∀ D, oc s D → okC l least D → nb l D C
theorem inN_lt {l : List Spt} (hl : l.length ≤ 12) (C : Cir) : inN l C < 4096 := by
  have a := inF_lt l C l.length
  have b : 2 ^ l.length ≤ 2 ^ 12 := Nat.pow_le_pow_right (by decide) hl
  unfold inN
  omega
theorem sz_leR {C D : Cir} (hC : 0 < C.2.2.2) (hD : 0 < D.2.2.2) (h1 : leR C D) (h2 : leR D C) : szN C = szN D ∧ szD C = szD D := by
  unfold szN szD
  exact f_eq (Int.mul_pos hC hC) (Int.mul_pos hD hD) (by omega)
theorem FWc_only {l : List Spt} {least : Int} {s : (Nat → Cir) × Nat} {C D : Cir} (hC : 0 < C.2.2.2) (hD : 0 < D.2.2.2) (h : FWc l least s C) (g : FWc l least s D) : szN C = szN D ∧ szD C = szD D ∧ inN l C = inN l D := by
  have a := h.2.2 D g.1 g.2.1
  have b := g.2.2 C h.1 h.2.1
  unfold nb at a b
  rcases a with a | ⟨a1, a2, a3⟩
  · rcases b with b | ⟨b1, b2, b3⟩
    · rcases leR_tot C D with q | q
      · exact absurd q b
      · exact absurd q a
    · exact absurd b1 a
  · have e := sz_leR hC hD a1 a2
    rcases b with b | ⟨b1, b2, b3⟩
    · exact absurd a1 b
    · exact ⟨e.1, e.2, by omega⟩
theorem nb_self (l : List Spt) (C : Cir) : nb l C C := Or.inr ⟨Int.le_refl _, Int.le_refl _, Or.inr ⟨rfl, Nat.le_refl _⟩⟩
theorem oc_dC {l : List Spt} {C : Cir} : oc (d1F l l.length) C ↔ ∃ t, t < dN l ∧ dC l t = C := Iff.rfl
theorem cntU_mono (P : Nat → Bool) : ∀ n m, n ≤ m → cntU P n ≤ cntU P m
  | n, 0, h => by
    rw [show n = 0 by omega]
    exact Nat.le_refl _
  | n, m + 1, h => by
    by_cases e : n = m + 1
    · rw [e]
      exact Nat.le_refl _
    · have ih := cntU_mono P n m (by omega)
      have c : cntU P (m + 1) = cntU P m + if P m = true then 1 else 0 := rfl
      omega
theorem pcN_full {x n : Nat} (hn : n ≤ 12) (h : ∀ k, k < n → x.testBit k = true) : n ≤ pcN x := by
  have a := (cntU_full (fun k => x.testBit k) n).mpr h
  have b := cntU_mono (fun k => x.testBit k) n 12 hn
  unfold pcN
  omega
/-- one with all of them there is -/
theorem ok_ex {l : List Spt} (hs : sorL l) (hl : l.length ≤ 12) (h0 : 0 < l.length) {least : Int} (hle : least ≤ (l.length : Int)) : ∃ C, oc (d1F l l.length) C ∧ okC l least C := by
  obtain ⟨C, hC⟩ := mec_ex (M := aM) (dif_sor hs) l.length (Nat.le_refl _) ⟨0, h0, trivial⟩
  refine ⟨C, (oc_d1 l.length).mpr (in0_isD hC), ?_⟩
  have := pcN_full (x := inN l C) hl (fun k hk => (inF_bit l C l.length k).mpr ⟨hk, hC.2.1 k ⟨hk, trivial⟩⟩)
  unfold okC
  omega
theorem q_fuller {a b : Nat} (ha : a < 4096) (hb : b < 4096) : q_X2_isFuller (a : Int) (b : Int) = some (decide (pcN b < pcN a ∨ (pcN b = pcN a ∧ a < b))) := by
  refine w_eq ?_
  have la := pcN_le a
  have lb := pcN_le b
  unfold q_X2_isFuller
  rw [q_pc ha, q_pc hb]
  simp only [kwp_kb, kwp_some, kwp_kg, kwp_kif, kwp_kl]
  refine ⟨⟨by omega, by omega⟩, fun q => ?_, fun q => ⟨fun q1 => ⟨⟨⟨by omega, by omega⟩, ⟨by omega, by omega⟩⟩, fun q2 => ?_, fun q2 => ?_⟩, fun q1 => ?_⟩⟩
  · exact (decide_eq_true (by omega)).symm
  · exact (decide_eq_false (by omega)).symm
  · exact (decide_eq_true (by omega)).symm
  · exact (decide_eq_false (by omega)).symm
theorem DQ_at {z : tZ2} {l : List Spt} (h : DQ z l) {p : Nat} (hp : p < dN l) : ∃ t : Nat, z.2.2.2.1 p = (t : Int) ∧ t < dN l := PM_all (P := fun v => ∃ p : Nat, v = (p : Int) ∧ p < dN l) h.2.1 (fun t ht => ⟨t, rfl, ht⟩) p hp
theorem DQ_so {z : tZ2} {l : List Spt} (hb : bdL l) (h : DQ z l) {p q t u : Nat} (hpq : p ≤ q) (hq : q < dN l) (ht : z.2.2.2.1 p = (t : Int)) (hu : z.2.2.2.1 q = (u : Int)) (ht2 : t < dN l) (hu2 : u < dN l) : leR (dC l t) (dC l u) := by
  by_cases e : p = q
  · subst e
    rw [ht] at hu
    rw [show t = u by omega]
    exact Int.le_refl _
  · have so := h.2.2.1 p q (by omega) hq
    unfold RK at so
    rw [ht, hu, Int.toNat_natCast, Int.toNat_natCast] at so
    exact (sgR_le _ _).mp ((rk_leD hb ht2 hu2).mp so)
def HFi (l : List Spt) (least : Int) (f : Nat → Int) (p : Nat) (found : Int) : Prop :=
  (found = -1 ∧ ∀ q, q < p → ∀ u : Nat, f q = (u : Int) → ¬ okC l least (dC l u)) ∨
  (∃ t q0 : Nat, found = (t : Int) ∧ q0 < p ∧ f q0 = (t : Int) ∧ okC l least (dC l t) ∧ ∀ q, q < p → ∀ u : Nat, f q = (u : Int) → okC l least (dC l u) → nb l (dC l u) (dC l t))
theorem q_holdL {z : tZ2} {l : List Spt} (h : DQ z l) (hb : bdL l) (hl : l.length ≤ 12) {least : Int} (hk : k32 least) {f0 : tZ3} :
    kwp (kitr 5 (fun q => q_X2_holding_L5 z least f0 q) kF ((-1 : Int), (0 : Int))) (fun e => (e.1 = 53 ∨ e.1 = 87) ∧ HFi l least z.2.2.2.1 (dN l) e.2.1) := by
  have dn := dN_le hl
  refine w_loop (fun n (s : Int × Int) => ∃ p : Nat, n = dN l - p ∧ p ≤ dN l ∧ s.2 = (p : Int) ∧ HFi l least z.2.2.2.1 p s.1) (Q := fun e => (e.1 = 53 ∨ e.1 = 87) ∧ HFi l least z.2.2.2.1 (dN l) e.2.1) ?_ kF (dN l) _ (by have := kF_eq; omega) ⟨0, rfl, Nat.zero_le _, rfl, Or.inl ⟨rfl, fun q hq => absurd hq (Nat.not_lt_zero _)⟩⟩
  rintro n ⟨fd, x⟩ ⟨p, rfl, hp, g1, g2⟩
  dsimp only at g1 g2
  subst g1
  unfold q_X2_holding_L5
  dsimp only
  rw [h.1.1]
  simp only [kwp_kb, kwp_some, kwp_kg, kwp_kif, kwp_kl]
  refine ⟨⟨⟨by omega, by omega⟩, ⟨by omega, by omega⟩⟩, fun q => Or.inr ⟨by decide, Or.inr (by trivial), ?_⟩, fun q => ?_⟩
  · rw [show dN l = p by omega]
    exact g2
  · have hp2 : p < dN l := by omega
    obtain ⟨a, ea, ha⟩ := DQ_at h hp2
    have il := inN_lt hl (dC l a)
    have pl := pcN_le (inN l (dC l a))
    rw [q_discAt h.1 hl hp2, kwp_some, ea, q_bitsOfD h.1 hl ha, kwp_some, show inF l (dC l a) l.length = inN l (dC l a) from rfl, q_pc il, kwp_some]
    refine ⟨⟨hk, ⟨by omega, by omega⟩⟩, fun q1 => ?_, fun q1 => Or.inl ⟨by trivial, dN l - (p + 1), by omega, p + 1, rfl, by omega, by omega, ?_⟩⟩
    · have oka : okC l least (dC l a) := q1
      have stp : ∀ t : Nat, t < dN l → (t = a ∨ ∃ q0, q0 < p ∧ z.2.2.2.1 q0 = (t : Int)) → okC l least (dC l t) → nb l (dC l a) (dC l t) → (∀ q, q < p → ∀ u : Nat, z.2.2.2.1 q = (u : Int) → okC l least (dC l u) → nb l (dC l u) (dC l t)) → HFi l least z.2.2.2.1 (p + 1) (t : Int) := fun t ht hq ok1 n1 n2 => by
        refine Or.inr ?_
        obtain ⟨q0, h1, h2⟩ : ∃ q0, q0 < p + 1 ∧ z.2.2.2.1 q0 = (t : Int) := by
          rcases hq with e | ⟨q0, h1, h2⟩
          · exact ⟨p, by omega, by rw [e]; exact ea⟩
          · exact ⟨q0, by omega, h2⟩
        refine ⟨t, q0, rfl, h1, h2, ok1, fun q hq u hu oku => ?_⟩
        by_cases e : q = p
        · rw [e, ea] at hu
          rw [show u = a by omega]
          exact n1
        · exact n2 q (by omega) u hu oku
      rcases g2 with ⟨e0, no⟩ | ⟨t, q0, e0, h1, h2, h3, h4⟩
      · subst e0
        refine ⟨by decide, fun _ => ?_, fun q2 => (q2 (by trivial)).elim⟩
        unfold q_X2_holding_J56_5
        simp only [kwp_kb, kwp_some, kwp_kg, kwp_kif, kwp_kl]
        exact ⟨by decide, fun _ => Or.inl ⟨by trivial, dN l - (p + 1), by omega, p + 1, rfl, by omega, by omega, stp a ha (Or.inl rfl) oka (nb_self _ _) (fun q hq u hu oku => absurd oku (no q hq u hu))⟩, fun q2 => (q2 (by trivial)).elim⟩
      · subst e0
        obtain ⟨t', et, ht⟩ := DQ_at h (show q0 < dN l by omega)
        have tt : t' = t := by
          rw [h2] at et
          omega
        subst tt
        have le := DQ_so hb h (show q0 ≤ p by omega) hp2 h2 ea ht ha
        refine ⟨⟨by omega, by omega⟩, fun q2 => by omega, fun _ => ?_⟩
        rw [q_sizeOrd h.1 hb hl ha ht, kwp_some]
        refine ⟨sgR_k _ _, fun q3 => ?_, fun q3 => Or.inr ⟨by decide, Or.inl (by trivial), ?_⟩⟩
        · have le2 : leR (dC l a) (dC l t') := (sgR_le _ _).mp q3
          have il2 := inN_lt hl (dC l t')
          unfold q_X2_holding_J56_5
          simp only [kwp_kb, kwp_some, kwp_kg, kwp_kif, kwp_kl]
          refine ⟨⟨by omega, by omega⟩, fun q4 => by omega, fun _ => ?_⟩
          rw [q_bitsOfD h.1 hl ha, kwp_some, q_bitsOfD h.1 hl ht, kwp_some, show inF l (dC l a) l.length = inN l (dC l a) from rfl, show inF l (dC l t') l.length = inN l (dC l t') from rfl, q_fuller il il2, kwp_some]
          refine ⟨fun q4 => Or.inl ⟨by trivial, dN l - (p + 1), by omega, p + 1, rfl, by omega, by omega, ?_⟩, fun q4 => Or.inl ⟨by trivial, dN l - (p + 1), by omega, p + 1, rfl, by omega, by omega, ?_⟩⟩
          · have nf := of_decide_eq_false ((kz_0 _).mp q4)
            refine stp t' ht (Or.inr ⟨q0, h1, h2⟩) h3 (Or.inr ⟨le, le2, by omega⟩) h4
          · have yf : pcN (inN l (dC l t')) < pcN (inN l (dC l a)) ∨ (pcN (inN l (dC l t')) = pcN (inN l (dC l a)) ∧ inN l (dC l a) < inN l (dC l t')) := by
              by_cases w : pcN (inN l (dC l t')) < pcN (inN l (dC l a)) ∨ (pcN (inN l (dC l t')) = pcN (inN l (dC l a)) ∧ inN l (dC l a) < inN l (dC l t'))
              · exact w
              · exact absurd ((kz_0 _).mpr (decide_eq_false w)) q4
            refine stp a ha (Or.inl rfl) oka (nb_self _ _) (fun q hq u hu oku => ?_)
            obtain ⟨u', eu, hu2⟩ := DQ_at h (show q < dN l by omega)
            have uu : u' = u := by
              rw [hu] at eu
              omega
            subst uu
            have lu := DQ_so hb h (show q ≤ p by omega) hp2 hu ea hu2 ha
            rcases h4 q hq u' hu oku with w | ⟨w1, w2, w3⟩
            · exact absurd (leR_tr (bdC_k (dC_bd hb hu2)).1 (bdC_k (dC_bd hb ha)).1 (bdC_k (dC_bd hb ht)).1 lu le2) w
            · refine Or.inr ⟨leR_tr (bdC_k (dC_bd hb ha)).1 (bdC_k (dC_bd hb ht)).1 (bdC_k (dC_bd hb hu2)).1 le2 w1, lu, by omega⟩
        · refine Or.inr ⟨t', q0, rfl, by omega, h2, h3, fun q hq u hu oku => ?_⟩
          by_cases w : q < p
          · exact h4 q w u hu oku
          · obtain ⟨u', eu, hu2⟩ := DQ_at h hq
            have uu : u' = u := by
              rw [hu] at eu
              omega
            subst uu
            have lu := DQ_so hb h (show p ≤ q by omega) hq ea hu ha hu2
            refine Or.inl (fun w2 => q3 ((sgR_le _ _).mpr (leR_tr (bdC_k (dC_bd hb ha)).1 (bdC_k (dC_bd hb hu2)).1 (bdC_k (dC_bd hb ht)).1 lu w2)))
    · have nok : ¬ okC l least (dC l a) := q1
      rcases g2 with ⟨e0, no⟩ | ⟨t, q0, e0, h1, h2, h3, h4⟩
      · refine Or.inl ⟨e0, fun q hq u hu => ?_⟩
        by_cases e : q = p
        · rw [e, ea] at hu
          rw [show u = a by omega]
          exact nok
        · exact no q (by omega) u hu
      · refine Or.inr ⟨t, q0, e0, by omega, h2, h3, fun q hq u hu oku => ?_⟩
        by_cases e : q = p
        · rw [e, ea] at hu
          rw [show u = a by omega] at oku
          exact absurd oku nok
        · exact h4 q (by omega) u hu oku
theorem q_holding {z : tZ2} {l : List Spt} (h : DQ z l) (hs : sorL l) (hb : bdL l) (hl : l.length ≤ 12) (h0 : 0 < l.length) {least : Int} (hk : k32 least) (hle : least ≤ (l.length : Int)) (f0 : tZ3) :
    kwp (q_X2_holding z f0 least) (fun r => ∃ C, bdC C ∧ FWc l least (d1F l l.length) C ∧ r.1 = (inN l C : Int) ∧ r.2 = (szN C, szD C)) := by
  unfold q_X2_holding
  simp only [kwp_kb]
  refine w_mono (q_holdL h hb hl hk) ?_
  rintro ⟨lb, fd, x⟩ ⟨hlb, hf⟩
  dsimp only at hlb hf ⊢
  have J : kwp (q_X2_holding_J87 z least f0 fd) (fun r => ∃ C, bdC C ∧ FWc l least (d1F l l.length) C ∧ r.1 = (inN l C : Int) ∧ r.2 = (szN C, szD C)) := by
    rcases hf with ⟨e0, no⟩ | ⟨t, q0, e0, h1, h2, h3, h4⟩
    · exfalso
      obtain ⟨C, ⟨t, ht, e⟩, okc⟩ := ok_ex hs hl h0 hle
      obtain ⟨q, hq, eq⟩ := PM_ex (P := fun v => v = (t : Int)) h.2.1 ⟨t, ht, rfl⟩
      refine no q hq t eq ?_
      rw [show dC l t = C from e]
      exact okc
    · subst e0
      obtain ⟨t', et, ht⟩ := DQ_at h h1
      have tt : t' = t := by
        rw [h2] at et
        omega
      subst tt
      unfold q_X2_holding_J87
      simp only [kwp_kb]
      rw [q_tellD h.1 hb hl ht, kwp_some, q_bitsOfD h.1 hl ht, kwp_some, kwp_some]
      refine ⟨dC l t', dC_bd hb ht, ⟨⟨t', ht, rfl⟩, h3, fun D hD okD => ?_⟩, rfl, rfl⟩
      obtain ⟨u, hu, e⟩ := hD
      obtain ⟨q, hq, eq⟩ := PM_ex (P := fun v => v = (u : Int)) h.2.1 ⟨u, hu, rfl⟩
      have e' : dC l u = D := e
      rw [← e'] at okD ⊢
      exact h4 q hq u eq okD
  simp only [kwp_kif, kwp_kg]
  exact ⟨fun _ => J, fun q => ⟨by omega, J⟩⟩
