/-! ===== ring, the model, 2 ===== -/
theorem RM_take {l : List Spt} {W : Ctr → Prop} {m m2 : tZ12} {C : Ctr} (bc : bdR C) (br : BRv l W C) (h : m2 = (va_up m.1 47 1, va_up (va_up (va_up (va_up (va_up m.2.1 42 (2 * C.2.1)) 43 (2 * C.2.2)) 44 (2 * C.1)) 45 (loC l C)) 46 (gpC l C), m.2.2)) : RM7 l W m2 := by
  subst h
  refine Or.inr ⟨va_same m.1 47 1, C, bc, br, ?_, ?_, ?_, ?_, ?_⟩
  · dsimp only
    rw [va_ne _ _ (show (42 : Nat) ≠ 46 by decide), va_ne _ _ (show (42 : Nat) ≠ 45 by decide), va_ne _ _ (show (42 : Nat) ≠ 44 by decide), va_ne _ _ (show (42 : Nat) ≠ 43 by decide), va_same]
  · dsimp only
    rw [va_ne _ _ (show (43 : Nat) ≠ 46 by decide), va_ne _ _ (show (43 : Nat) ≠ 45 by decide), va_ne _ _ (show (43 : Nat) ≠ 44 by decide), va_same]
  · dsimp only
    rw [va_ne _ _ (show (44 : Nat) ≠ 46 by decide), va_ne _ _ (show (44 : Nat) ≠ 45 by decide), va_same]
  · dsimp only
    rw [va_ne _ _ (show (45 : Nat) ≠ 46 by decide), va_same]
  · dsimp only
    rw [va_same]
theorem qm_tryRing {m0 m : tZ12} {l : List Spt} (hf : FR m0 m) (HS : SPm m0 l) (hb : bdL l) (h0 : 0 < l.length) {a b c d : Nat} (ha : a < l.length) (hb2 : b < l.length) (hc : c < l.length) (hd : d < l.length) {V W : Ctr → Prop} (h : RM7 l V m) (hW : ∀ D, W D ↔ V D ∨ (crs l a b c d ≠ 0 ∧ D = ctr l a b c d)) (hp : ∀ D, W D → 0 < D.1) :
    kwp (q_X12_tryRing m (a : Int) (b : Int) (c : Int) (d : Int)) (fun m' => FR m0 m' ∧ RM7 l W m') := by
  have H := SPm_fr hf HS
  have sl := H.2.1
  have ba := bX hb ha
  have bb := bX hb hb2
  have bc := bX hb hc
  have bd := bX hb hd
  have sa := SPm_at H ha
  have sb := SPm_at H hb2
  have sc := SPm_at H hc
  have sd := SPm_at H hd
  have cb := crs_bd hb ha hb2 hc hd
  have e5 : (2 * (lX l b - lX l a)) * (2 * (lY l d - lY l c)) - (2 * (lX l d - lX l c)) * (2 * (lY l b - lY l a)) = 4 * crs l a b c d := by
    unfold crs
    grind
  have kd1 := kdif bb.1 ba.1
  have kd2 := kdif bb.2 ba.2
  have kd3 := kdif bd.1 bc.1
  have kd4 := kdif bd.2 bc.2
  unfold q_X12_tryRing
  simp only [kwp_kb, kwp_some, kwp_kg, kwp_kif, kwp_kl]
  rw [Int.toNat_natCast, Int.toNat_natCast, Int.toNat_natCast, Int.toNat_natCast, sa.1, sa.2.1, sb.1, sb.2.1, sc.1, sc.2.1, sd.1, sd.2.1, e5]
  clear ba bb bc bd sa sb sc sd
  refine ⟨⟨by omega, by omega⟩, ⟨by omega, by omega⟩, kd1, kd2, ⟨by omega, by omega⟩, ⟨by omega, by omega⟩, kd3, kd4, ⟨by omega, by omega⟩, fun q => ⟨hf, RM_same h (fun D => ?_)⟩, fun q => ?_⟩
  · rw [hW D]
    exact ⟨fun w => w.elim id (fun x => absurd (show crs l a b c d = 0 by omega) x.1), Or.inl⟩
  · have nz : crs l a b c d ≠ 0 := by omega
    have bdc := ctr_bd hb ha hb2 hc hd nz
    have W2 : ∀ D, W D ↔ V D ∨ D = ctr l a b c d := fun D => by
      rw [hW D]
      exact ⟨fun w => w.elim Or.inl (fun x => Or.inr x.2), fun w => w.elim Or.inl (fun x => Or.inr ⟨nz, x⟩)⟩
    rw [qm_sizeOf H hb hb2, kwp_some, qm_sizeOf H hb ha, kwp_some, qm_sizeOf H hb hd, kwp_some, qm_sizeOf H hb hc, kwp_some]
    have K : ∀ s : Int, s = sg (crs l a b c d) → kwp (q_X12_tryRing_J144 (a : Int) (b : Int) (c : Int) (d : Int) m (2 * (lX l b - lX l a)) (2 * (lY l b - lY l a)) (2 * (lX l d - lX l c)) (2 * (lY l d - lY l c)) (4 * crs l a b c d) (sqP l b - sqP l a) (sqP l d - sqP l c) s) (fun m' => FR m0 m' ∧ RM7 l W m') := fun s hs => by
      have f1 : s * ((sqP l b - sqP l a) * (2 * (lY l d - lY l c)) - (sqP l d - sqP l c) * (2 * (lY l b - lY l a))) = 2 * (ctr l a b c d).2.1 := by
        rw [hs]
        show _ = 2 * ((sg (crs l a b c d) * (sqP l b - sqP l a)) * (lY l d - lY l c) - (sg (crs l a b c d) * (sqP l d - sqP l c)) * (lY l b - lY l a))
        grind
      have f2 : s * ((2 * (lX l b - lX l a)) * (sqP l d - sqP l c) - (2 * (lX l d - lX l c)) * (sqP l b - sqP l a)) = 2 * (ctr l a b c d).2.2 := by
        rw [hs]
        show _ = 2 * ((lX l b - lX l a) * (sg (crs l a b c d) * (sqP l d - sqP l c)) - (lX l d - lX l c) * (sg (crs l a b c d) * (sqP l b - sqP l a)))
        grind
      have f3 : s * (4 * crs l a b c d) = 2 * (ctr l a b c d).1 := by
        rw [hs]
        show _ = 2 * (2 * sg (crs l a b c d) * crs l a b c d)
        grind
      unfold q_X12_tryRing_J144
      simp only [kwp_kb, kwp_some, kwp_kg, kwp_kif, kwp_kl]
      rw [f1, f2, f3]
      refine w_mono (qm_ring194 H hb h0 bdc) ?_
      rintro ⟨lb, lo, tp, x⟩ ⟨g0, g1, g2⟩
      dsimp only at g0 g1 g2 ⊢
      subst g1 g2
      rw [show mxF (powC l (ctr l a b c d)) (l.length - 1) - loC l (ctr l a b c d) = gpC l (ctr l a b c d) from rfl]
      have fr : FR m0 (va_up m.1 47 1, va_up (va_up (va_up (va_up (va_up m.2.1 42 (2 * (ctr l a b c d).2.1)) 43 (2 * (ctr l a b c d).2.2)) 44 (2 * (ctr l a b c d).1)) 45 (loC l (ctr l a b c d))) 46 (gpC l (ctr l a b c d)), m.2.2) := ⟨fun j w => (va_ne _ _ w).trans (hf.1 j w), hf.2⟩
      have P : BRv l W (ctr l a b c d) → kwp (q_X12_tryRing_J318 (a : Int) (b : Int) (c : Int) (d : Int) m (2 * (ctr l a b c d).2.1) (2 * (ctr l a b c d).2.2) (2 * (ctr l a b c d).1) (loC l (ctr l a b c d)) (mxF (powC l (ctr l a b c d)) (l.length - 1))) (fun m' => FR m0 m' ∧ RM7 l W m') := fun br => by
        unfold q_X12_tryRing_J318
        simp only [kwp_kl, kwp_some]
        exact ⟨fr, RM_take (m := m) bdc br rfl⟩
      rcases h with ⟨e0, no⟩ | ⟨e0, B, bB, br, r1, r2, r3, r4, r5⟩
      · rw [e0]
        exact ⟨g0, by decide, fun _ => P (BRv_first no W2), fun q => (q (by trivial)).elim⟩
      · rw [e0]
        refine ⟨g0, by decide, fun q => absurd q (by decide), fun _ => w_mono (qm_betterR hb h0 bB bdc ⟨r1, r2, r3, r5⟩) (fun x hx => ⟨fun q1 => ⟨hf, Or.inr ⟨e0, B, bB, BRv_keep br W2 (fun w => ?_), r1, r2, r3, r4, r5⟩⟩, fun q1 => P (BRv_take hp br W2 (hx.mp ?_))⟩)⟩
        · rw [hx.mpr w] at q1
          exact kz_t q1
        · cases e : x with
          | true => rfl
          | false => rw [e] at q1; exact absurd rfl q1
    refine ⟨fun q1 => K 1 ?_, fun q1 => K (-1) ?_⟩
    · exact (if_neg (show ¬ crs l a b c d < 0 by omega)).symm
    · exact (if_pos (show crs l a b c d < 0 by omega)).symm
def qd (l : List Spt) (i j k m : Nat) (C : Ctr) : Prop := i < j ∧ j < l.length ∧ i ≤ k ∧ k < m ∧ m < l.length ∧ crs l i j k m ≠ 0 ∧ C = ctr l i j k m
/-- those that are through: ahead of a, b, c, d in order -/
def VM (l : List Spt) (a b c d : Nat) (C : Ctr) : Prop := ∃ i j k m, qd l i j k m C ∧ (i < a ∨ (i = a ∧ (j < b ∨ (j = b ∧ (k < c ∨ (k = c ∧ m < d))))))
theorem VM_pos {l : List Spt} {a b c d : Nat} {C : Ctr} (h : VM l a b c d C) : 0 < C.1 := by
  obtain ⟨i, j, k, m, ⟨_, _, _, _, _, h6, e⟩, _⟩ := h
  rw [e]
  exact ctr_pos h6
theorem VM_iff {l : List Spt} {a b c d a' b' c' d' : Nat} (h : ∀ i j k m, i < j → j < l.length → i ≤ k → k < m → m < l.length → ((i < a ∨ (i = a ∧ (j < b ∨ (j = b ∧ (k < c ∨ (k = c ∧ m < d)))))) ↔ (i < a' ∨ (i = a' ∧ (j < b' ∨ (j = b' ∧ (k < c' ∨ (k = c' ∧ m < d')))))))) (C : Ctr) : VM l a b c d C ↔ VM l a' b' c' d' C := by
  constructor
  · rintro ⟨i, j, k, m, g, w⟩
    exact ⟨i, j, k, m, g, (h i j k m g.1 g.2.1 g.2.2.1 g.2.2.2.1 g.2.2.2.2.1).mp w⟩
  · rintro ⟨i, j, k, m, g, w⟩
    exact ⟨i, j, k, m, g, (h i j k m g.1 g.2.1 g.2.2.1 g.2.2.2.1 g.2.2.2.2.1).mpr w⟩
theorem qm_ring42 {m0 : tZ12} {l : List Spt} (HS : SPm m0 l) (hb : bdL l) (h0 : 0 < l.length) {a b c : Nat} (hab : a < b) (hbl : b < l.length) (hac : a ≤ c) (hcl : c < l.length) {m : tZ12} (hf : FR m0 m) (h : RM7 l (VM l a b c (c + 1)) m) :
    kwp (kitr 42 (fun q => q_X12_layRing_L42 (a : Int) (b : Int) (c : Int) q) kF ((c : Int) + 1, m)) (fun e => e.1 = 66 ∧ FR m0 e.2.2 ∧ RM7 l (VM l a b (c + 1) 0) e.2.2) := by
  have sl := HS.2.1
  refine w_mono (w_for (ex := 66) (by decide) (fun d (s : Int × tZ12) => s.1 = (d : Int) ∧ c < d ∧ FR m0 s.2 ∧ RM7 l (VM l a b c d) s.2) l.length ?_ ?_ (show c + 1 ≤ l.length by omega) (by have := kF_eq; omega) ⟨by dsimp only; omega, by omega, hf, h⟩) (fun e g => ⟨g.1, g.2.2.2.1, RM_same g.2.2.2.2 (VM_iff (fun i j k m _ _ _ _ _ => by omega))⟩)
  · rintro d ⟨x, w⟩ hd ⟨g1, g2, g3, g4⟩
    dsimp only at g1 g3 g4
    subst g1
    unfold q_X12_layRing_L42
    dsimp only
    rw [(SPm_fr g3 HS).1]
    simp only [kwp_kb, kwp_some, kwp_kg, kwp_kif, kwp_kl]
    refine ⟨⟨⟨by omega, by omega⟩, ⟨by omega, by omega⟩⟩, fun q => by omega, fun _ => w_mono (qm_tryRing g3 HS hb h0 (show a < l.length by omega) hbl hcl hd g4 (W := VM l a b c (d + 1)) (fun D => ?_) (fun D hD => VM_pos hD)) (fun m' hm => ⟨by trivial, by omega, by omega, hm.1, hm.2⟩)⟩
    constructor
    · rintro ⟨i, j, k, m, g, w⟩
      by_cases e : i = a ∧ j = b ∧ k = c ∧ m = d
      · obtain ⟨rfl, rfl, rfl, rfl⟩ := e
        exact Or.inr ⟨g.2.2.2.2.2.1, g.2.2.2.2.2.2⟩
      · exact Or.inl ⟨i, j, k, m, g, by omega⟩
    · rintro (⟨i, j, k, m, g, w⟩ | ⟨w1, w2⟩)
      · exact ⟨i, j, k, m, g, by omega⟩
      · exact ⟨a, b, c, d, ⟨hab, hbl, hac, g2, hd, w1, w2⟩, by omega⟩
  · rintro ⟨x, w⟩ ⟨g1, g2, g3, g4⟩
    dsimp only at g1 g3 g4
    subst g1
    unfold q_X12_layRing_L42
    dsimp only
    rw [(SPm_fr g3 HS).1]
    simp only [kwp_kb, kwp_some, kwp_kg, kwp_kif, kwp_kl]
    exact ⟨⟨⟨by omega, by omega⟩, ⟨by omega, by omega⟩⟩, fun _ => ⟨by trivial, by trivial, g2, g3, g4⟩, fun q => by omega⟩
theorem qm_ring29 {m0 : tZ12} {l : List Spt} (HS : SPm m0 l) (hb : bdL l) (h0 : 0 < l.length) {a b : Nat} (hab : a < b) (hbl : b < l.length) {m : tZ12} (hf : FR m0 m) (h : RM7 l (VM l a b a 0) m) :
    kwp (kitr 29 (fun q => q_X12_layRing_L29 (a : Int) (b : Int) q) kF ((a : Int), m)) (fun e => e.1 = 72 ∧ FR m0 e.2.2 ∧ RM7 l (VM l a (b + 1) 0 0) e.2.2) := by
  have sl := HS.2.1
  refine w_mono (w_for (ex := 72) (by decide) (fun c (s : Int × tZ12) => s.1 = (c : Int) ∧ a ≤ c ∧ FR m0 s.2 ∧ RM7 l (VM l a b c 0) s.2) l.length ?_ ?_ (show a ≤ l.length by omega) (by have := kF_eq; omega) ⟨rfl, Nat.le_refl _, hf, h⟩) (fun e g => ⟨g.1, g.2.2.2.1, RM_same g.2.2.2.2 (VM_iff (fun i j k m _ _ _ _ _ => by omega))⟩)
  · rintro c ⟨x, w⟩ hc ⟨g1, g2, g3, g4⟩
    dsimp only at g1 g3 g4
    subst g1
    unfold q_X12_layRing_L29
    dsimp only
    rw [(SPm_fr g3 HS).1]
    simp only [kwp_kb, kwp_some, kwp_kg, kwp_kif, kwp_kl]
    refine ⟨⟨⟨by omega, by omega⟩, ⟨by omega, by omega⟩⟩, fun q => by omega, fun _ => w_mono (qm_ring42 HS hb h0 hab hbl g2 hc g3 (RM_same g4 (VM_iff (fun i j k m _ _ _ _ _ => by omega)))) ?_⟩
    rintro ⟨lb, y, w2⟩ ⟨f0, f1, f2⟩
    dsimp only at f0 f1 f2 ⊢
    exact ⟨f0, by trivial, by omega, by omega, f1, f2⟩
  · rintro ⟨x, w⟩ ⟨g1, g2, g3, g4⟩
    dsimp only at g1 g3 g4
    subst g1
    unfold q_X12_layRing_L29
    dsimp only
    rw [(SPm_fr g3 HS).1]
    simp only [kwp_kb, kwp_some, kwp_kg, kwp_kif, kwp_kl]
    exact ⟨⟨⟨by omega, by omega⟩, ⟨by omega, by omega⟩⟩, fun _ => ⟨by trivial, by trivial, g2, g3, g4⟩, fun q => by omega⟩
theorem qm_ring19 {m0 : tZ12} {l : List Spt} (HS : SPm m0 l) (hb : bdL l) (h0 : 0 < l.length) {a : Nat} (hal : a < l.length) {m : tZ12} (hf : FR m0 m) (h : RM7 l (VM l a 0 0 0) m) :
    kwp (kitr 19 (fun q => q_X12_layRing_L19 (a : Int) q) kF ((a : Int) + 1, m)) (fun e => e.1 = 78 ∧ FR m0 e.2.2 ∧ RM7 l (VM l (a + 1) 0 0 0) e.2.2) := by
  have sl := HS.2.1
  refine w_mono (w_for (ex := 78) (by decide) (fun b (s : Int × tZ12) => s.1 = (b : Int) ∧ a < b ∧ FR m0 s.2 ∧ RM7 l (VM l a b 0 0) s.2) l.length ?_ ?_ (show a + 1 ≤ l.length by omega) (by have := kF_eq; omega) ⟨by dsimp only; omega, by omega, hf, RM_same h (VM_iff (fun i j k m _ _ _ _ _ => by omega))⟩) (fun e g => ⟨g.1, g.2.2.2.1, RM_same g.2.2.2.2 (VM_iff (fun i j k m _ _ _ _ _ => by omega))⟩)
  · rintro b ⟨x, w⟩ hb2 ⟨g1, g2, g3, g4⟩
    dsimp only at g1 g3 g4
    subst g1
    unfold q_X12_layRing_L19
    dsimp only
    rw [(SPm_fr g3 HS).1]
    simp only [kwp_kb, kwp_some, kwp_kg, kwp_kif, kwp_kl]
    refine ⟨⟨⟨by omega, by omega⟩, ⟨by omega, by omega⟩⟩, fun q => by omega, fun _ => w_mono (qm_ring29 HS hb h0 g2 hb2 g3 (RM_same g4 (VM_iff (fun i j k m _ _ _ _ _ => by omega)))) ?_⟩
    rintro ⟨lb, y, w2⟩ ⟨f0, f1, f2⟩
    dsimp only at f0 f1 f2 ⊢
    exact ⟨f0, by trivial, by omega, by omega, f1, f2⟩
  · rintro ⟨x, w⟩ ⟨g1, g2, g3, g4⟩
    dsimp only at g1 g3 g4
    subst g1
    unfold q_X12_layRing_L19
    dsimp only
    rw [(SPm_fr g3 HS).1]
    simp only [kwp_kb, kwp_some, kwp_kg, kwp_kif, kwp_kl]
    exact ⟨⟨⟨by omega, by omega⟩, ⟨by omega, by omega⟩⟩, fun _ => ⟨by trivial, by trivial, g2, g3, g4⟩, fun q => by omega⟩
theorem qm_layRing {m : tZ12} {l : List Spt} (HS : SPm m l) (hb : bdL l) (h0 : 0 < l.length) : kwp (q_X12_layRing m) (fun m' => FR m m' ∧ RM7 l (cand l) m') := by
  have sl := HS.2.1
  unfold q_X12_layRing
  simp only [kwp_kb, kwp_some, kwp_kg, kwp_kif, kwp_kl]
  refine w_mono (w_for (ex := 84) (by decide) (fun a (s : Int × tZ12) => s.1 = (a : Int) ∧ FR m s.2 ∧ RM7 l (VM l a 0 0 0) s.2) l.length ?_ ?_ (Nat.zero_le _) (by have := kF_eq; omega) ⟨rfl, ⟨fun j q => va_ne _ _ q, rfl⟩, Or.inl ⟨va_same m.1 47 0, fun C ⟨i, j, k, n, g, w⟩ => by omega⟩⟩) (fun e g => ⟨g.1, g.2.2.1, RM_same g.2.2.2 (fun C => ?_)⟩)
  · rintro a ⟨x, w⟩ ha ⟨g1, g2, g3⟩
    dsimp only at g1 g2 g3
    subst g1
    unfold q_X12_layRing_L7
    dsimp only
    rw [(SPm_fr g2 HS).1]
    simp only [kwp_kb, kwp_some, kwp_kg, kwp_kif, kwp_kl]
    refine ⟨⟨⟨by omega, by omega⟩, ⟨by omega, by omega⟩⟩, fun q => by omega, fun _ => w_mono (qm_ring19 HS hb h0 ha g2 g3) ?_⟩
    rintro ⟨lb, y, w2⟩ ⟨f0, f1, f2⟩
    dsimp only at f0 f1 f2 ⊢
    exact ⟨f0, by trivial, by omega, f1, f2⟩
  · rintro ⟨x, w⟩ ⟨g1, g2, g3⟩
    dsimp only at g1 g2 g3
    subst g1
    unfold q_X12_layRing_L7
    dsimp only
    rw [(SPm_fr g2 HS).1]
    simp only [kwp_kb, kwp_some, kwp_kg, kwp_kif, kwp_kl]
    exact ⟨⟨⟨by omega, by omega⟩, ⟨by omega, by omega⟩⟩, fun _ => ⟨by trivial, by trivial, g2, g3⟩, fun q => by omega⟩
  · constructor
    · rintro ⟨i, j, k, n, h1, h2, h3, h4, h5, h6⟩
      by_cases q : i ≤ k
      · exact ⟨i, j, k, n, ⟨h1, h2, q, h3, h4, h5, h6⟩, by omega⟩
      · exact ⟨k, n, i, j, ⟨h3, h4, by omega, h1, h2, by rw [crs_sw]; omega, by rw [ctr_sw h5]; exact h6⟩, by omega⟩
    · rintro ⟨i, j, k, n, ⟨h1, h2, h3, h4, h5, h6, h7⟩, _⟩
      exact ⟨i, j, k, n, h1, h2, h4, h5, h6, h7⟩
