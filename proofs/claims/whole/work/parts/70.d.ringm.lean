/-! ===== ring, the model ===== -/
def FR (m m' : tZ12) : Prop := (∀ j, j ≠ 47 → m'.1 j = m.1 j) ∧ m'.2.2 = m.2.2
theorem FR_rfl (m : tZ12) : FR m m := ⟨fun _ _ => rfl, rfl⟩
theorem FR_q {m m' : tZ12} (h : FR m m') : FQ m m' := ⟨fun j hj => h.1 j (by omega), h.1 55 (by decide), fun j _ => by rw [h.2], by rw [h.2]⟩
theorem SPm_fr {m m' : tZ12} {l : List Spt} (h : FR m m') (H : SPm m l) : SPm m' l := by
  unfold SPm at *
  rw [h.1 15 (by decide), h.2]
  exact H
def RM7 (l : List Spt) (V : Ctr → Prop) (m : tZ12) : Prop := (m.1 47 = 0 ∧ ∀ C, ¬ V C) ∨ (m.1 47 = 1 ∧ ∃ C, bdR C ∧ BRv l V C ∧ m.2.1 42 = 2 * C.2.1 ∧ m.2.1 43 = 2 * C.2.2 ∧ m.2.1 44 = 2 * C.1 ∧ m.2.1 45 = loC l C ∧ m.2.1 46 = gpC l C)
theorem RM_same {l : List Spt} {V W : Ctr → Prop} {m : tZ12} (h : RM7 l V m) (hW : ∀ D, W D ↔ V D) : RM7 l W m := by
  rcases h with ⟨h1, h2⟩ | ⟨h0, C, h1, h2, h3⟩
  · exact Or.inl ⟨h1, fun D w => h2 D ((hW D).mp w)⟩
  · exact Or.inr ⟨h0, C, h1, ⟨(hW C).mpr h2.1, fun D w => h2.2 D ((hW D).mp w)⟩, h3⟩
theorem pow_bd {l : List Spt} (hb : bdL l) {C : Ctr} (hC : bdR C) {i : Nat} (hi : i < l.length) : (powC l C i).natAbs ≤ 100000000000 := by
  have b := bX hb hi
  have s := sq_bdP hb hi
  have m1 := ab_mul (a := sqP l i) (b := 2 * C.1) (A := 51200) (B := 819200) (by omega) (by have := hC.1; have := hC.2.1; omega)
  have m2 := ab_mul (a := 2 * C.2.1) (b := lX l i) (A := 65536000) (B := 160) (by have := hC.2.2.1; omega) b.1
  have m3 := ab_mul (a := 2 * C.2.2) (b := lY l i) (A := 65536000) (B := 160) (by have := hC.2.2.2; omega) b.2
  unfold powC
  clear b s
  omega
theorem lg_bd {l : List Spt} (hb : bdL l) (h0 : 0 < l.length) {C : Ctr} (hC : bdR C) : (loC l C).natAbs ≤ 100000000000 ∧ 0 ≤ gpC l C ∧ gpC l C ≤ 200000000000 := by
  have a := mnF_in (powC l C) (P := fun v => v.natAbs ≤ 100000000000) (l.length - 1) (fun i hi => pow_bd hb hC (by omega))
  have b := mxF_ge (powC l C) (l.length - 1) 0 (Nat.zero_le _)
  have c := mnF_le (powC l C) (l.length - 1) 0 (Nat.zero_le _)
  unfold loC gpC
  omega
theorem qm_sizeOf {m : tZ12} {l : List Spt} (H : SPm m l) (hb : bdL l) {i : Nat} (hi : i < l.length) : q_X12_sizeOf m (i : Int) = some (sqP l i) := by
  refine w_eq ?_
  have sl := H.2.1
  have b := bX hb hi
  have sp := SPm_at H hi
  unfold q_X12_sizeOf
  simp only [kwp_kg, kwp_some]
  rw [Int.toNat_natCast, sp.1, sp.2.1]
  exact ⟨⟨by omega, by omega⟩, ⟨⟨by omega, by omega⟩, ⟨by omega, by omega⟩⟩, rfl⟩
theorem qm_ring194 {m : tZ12} {l : List Spt} (H : SPm m l) (hb : bdL l) (h0 : 0 < l.length) {C : Ctr} (hC : bdR C) {v1 v2 v3 v4 : Int} :
    kwp (kitr 194 (fun q => q_X12_tryRing_L194 v1 v2 v3 v4 m (2 * C.2.1) (2 * C.2.2) (2 * C.1) q) kF ((0 : Int), (0 : Int), (0 : Int))) (fun e => e.1 = 292 ∧ e.2.1 = loC l C ∧ e.2.2.1 = mxF (powC l C) (l.length - 1)) := by
  have sl := H.2.1
  have kf : ∀ i, i < l.length → k64 (powC l C i) := fun i hi => k64_nat (pow_bd hb hC hi) (by decide)
  have km : ∀ n, n < l.length → k64 (mnF (powC l C) n) ∧ k64 (mxF (powC l C) n) := fun n hn => mnF_in (powC l C) (P := k64) n (fun i hi => kf i (by omega))
  refine w_mono (w_for (ex := 292) (by decide) (fun i (s : Int × Int × Int) => s.2.2 = (i : Int) ∧ (0 < i → s.1 = mnF (powC l C) (i - 1) ∧ s.2.1 = mxF (powC l C) (i - 1))) l.length ?_ ?_ (Nat.zero_le _) (by have := kF_eq; omega) ⟨rfl, fun q => absurd q (Nat.lt_irrefl _)⟩) (fun e g => ⟨g.1, g.2.2 h0⟩)
  · rintro i ⟨p, q, x⟩ hi ⟨g1, g2⟩
    dsimp only at g1 g2
    subst g1
    have b := bX hb hi
    have sp := SPm_at H hi
    have e : sqP l i * (2 * C.1) - 2 * ((2 * C.2.1) * lX l i + (2 * C.2.2) * lY l i) = powC l C i := rfl
    unfold q_X12_tryRing_L194
    dsimp only
    rw [H.1, qm_sizeOf H hb hi]
    simp only [kwp_kb, kwp_some, kwp_kg, kwp_kif, kwp_kl]
    rw [Int.toNat_natCast, sp.1, sp.2.1, e]
    have J : ∀ lo, lo = mnF (powC l C) i → kwp (q_X12_tryRing_J262_194 v1 v2 v3 v4 m (2 * C.2.1) (2 * C.2.2) (2 * C.1) q (i : Int) (powC l C i) lo) (fun e => e.1 = 194 ∧ e.2.2.2 = ((i + 1 : Nat) : Int) ∧ (0 < i + 1 → e.2.1 = mnF (powC l C) (i + 1 - 1) ∧ e.2.2.1 = mxF (powC l C) (i + 1 - 1))) := fun lo hlo => by
      subst hlo
      unfold q_X12_tryRing_J262_194
      simp only [kwp_kb, kwp_some, kwp_kg, kwp_kif, kwp_kl]
      rw [show i + 1 - 1 = i by omega]
      refine ⟨⟨by omega, by omega⟩, fun z => ⟨by trivial, by omega, fun _ => ⟨rfl, ?_⟩⟩, fun z => ?_⟩
      · rw [show i = 0 by omega]
        rfl
      · obtain ⟨u, rfl⟩ : ∃ u, i = u + 1 := ⟨i - 1, by omega⟩
        have c2 := (g2 (by omega)).2
        rw [show u + 1 - 1 = u by omega] at c2
        have e4 : mxF (powC l C) (u + 1) = max (mxF (powC l C) u) (powC l C (u + 1)) := rfl
        rw [c2]
        exact ⟨⟨kf _ hi, (km u (by omega)).2⟩, fun w => ⟨by trivial, by omega, fun _ => ⟨rfl, by omega⟩⟩, fun w => ⟨by trivial, by omega, fun _ => ⟨rfl, by omega⟩⟩⟩
    refine ⟨⟨⟨by omega, by omega⟩, ⟨by omega, by omega⟩⟩, fun q => by omega, fun _ => ⟨⟨by omega, by omega⟩, ⟨⟨by omega, by omega⟩, ⟨by omega, by omega⟩⟩, fun z => ?_, fun z => ?_⟩⟩
    · unfold q_X12_tryRing_J255_194
      refine J _ ?_
      rw [show i = 0 by omega]
      rfl
    · obtain ⟨u, hu⟩ : ∃ u, i = u + 1 := ⟨i - 1, by omega⟩
      have c1 := (g2 (by omega)).1
      rw [show i - 1 = u by omega] at c1
      have e4 : mnF (powC l C) i = min (mnF (powC l C) u) (powC l C i) := by rw [hu]; rfl
      rw [c1]
      refine ⟨⟨kf _ hi, (km u (by omega)).1⟩, fun w => J _ (by omega), fun w => ?_⟩
      unfold q_X12_tryRing_J255_194
      exact J _ (by omega)
  · rintro ⟨p, q, x⟩ ⟨g1, g2⟩
    dsimp only at g1 g2
    subst g1
    unfold q_X12_tryRing_L194
    dsimp only
    rw [H.1]
    simp only [kwp_kb, kwp_some, kwp_kg, kwp_kif, kwp_kl]
    exact ⟨⟨⟨by omega, by omega⟩, ⟨by omega, by omega⟩⟩, fun _ => ⟨by trivial, by trivial, g2⟩, fun q => by omega⟩
theorem sgc_two {a b c d : Int} : sgc a (2 * b) c (2 * d) = sgc a b c d := by
  unfold sgc
  have e1 : a * (2 * d) = 2 * (a * d) := by grind
  have e2 : c * (2 * b) = 2 * (c * b) := by grind
  rw [e1, e2]
  by_cases q1 : a * d < c * b
  · rw [if_pos (by omega), if_pos q1]
  · by_cases q2 : a * d = c * b
    · rw [if_neg (by omega), if_pos (by omega), if_neg q1, if_pos q2]
    · rw [if_neg (by omega), if_neg (by omega), if_neg q1, if_neg q2]
theorem k64_nat2 {a : Int} {B : Nat} (h : a.natAbs ≤ B) (hB : B ≤ 1000000000000000000) : k64 a := ⟨by omega, by omega⟩
theorem qm_betterR {m : tZ12} {l : List Spt} (hb : bdL l) (h0 : 0 < l.length) {B C : Ctr} (hB : bdR B) (hC : bdR C) (h : m.2.1 42 = 2 * B.2.1 ∧ m.2.1 43 = 2 * B.2.2 ∧ m.2.1 44 = 2 * B.1 ∧ m.2.1 46 = gpC l B) :
    kwp (q_X12_isBetter m (gpC l C) (2 * C.2.1) (2 * C.2.2) (2 * C.1)) (fun b => b = true ↔ LTc l C B) := by
  have gB := lg_bd hb h0 hB
  have gC := lg_bd hb h0 hC
  have b1 := hB.1
  have b2 := hB.2.1
  have c1 := hC.1
  have c2 := hC.2.1
  have x1 := k64_nat2 (ab_mul (a := 2 * C.2.1) (b := 2 * B.1) (A := 65536000) (B := 819200) (by have := hC.2.2.1; omega) (by omega)) (by decide)
  have x2 := k64_nat2 (ab_mul (a := 2 * B.2.1) (b := 2 * C.1) (A := 65536000) (B := 819200) (by have := hB.2.2.1; omega) (by omega)) (by decide)
  have y1 := k64_nat2 (ab_mul (a := 2 * C.2.2) (b := 2 * B.1) (A := 65536000) (B := 819200) (by have := hC.2.2.2; omega) (by omega)) (by decide)
  have y2 := k64_nat2 (ab_mul (a := 2 * B.2.2) (b := 2 * C.1) (A := 65536000) (B := 819200) (by have := hB.2.2.2; omega) (by omega)) (by decide)
  have f : ∀ p q : Int, (2 * p) * (2 * q) = 4 * (p * q) := fun p q => by grind
  unfold q_X12_isBetter
  rw [h.1, h.2.1, h.2.2.1, h.2.2.2, qm_against gC.2.1 ⟨by omega, by omega⟩ (by omega) ⟨by omega, by omega⟩ gB.2.1 ⟨by omega, by omega⟩ (by omega) ⟨by omega, by omega⟩, sgc_two]
  simp only [kwp_kb, kwp_some, kwp_kg, kwp_kif, kwp_kl]
  have s3 := sgc_lt0 (gpC l C) C.1 (gpC l B) B.1
  have s4 := sgc_eq0 (gpC l C) C.1 (gpC l B) B.1
  have f1 := f C.2.1 B.1
  have f2 := f B.2.1 C.1
  have f3 := f C.2.2 B.1
  have f4 := f B.2.2 C.1
  unfold LTc ltF eqF
  clear gB gC b1 b2 c1 c2
  refine ⟨sgc_k _ _ _ _, fun q => ⟨⟨x1, x2⟩, fun q1 => ⟨⟨y1, y2⟩, fun q2 => ⟨fun w => absurd w (by decide), fun w => by omega⟩, fun q2 => ⟨fun _ => Or.inr ⟨s4.mp q, Or.inr ⟨by omega, by omega⟩⟩, fun _ => (by first | exact trivial | rfl)⟩⟩, fun q1 => ⟨fun q2 => ⟨fun w => absurd w (by decide), fun w => by omega⟩, fun q2 => ⟨fun _ => Or.inr ⟨s4.mp q, Or.inl (by omega)⟩, fun _ => (by first | exact trivial | rfl)⟩⟩⟩, fun q => ⟨fun q1 => ⟨fun w => absurd w (by decide), fun w => by omega⟩, fun q1 => ⟨fun _ => Or.inl (s3.mp (by omega)), fun _ => (by first | exact trivial | rfl)⟩⟩⟩
