/-! ===== two, the class ===== -/
theorem q_partB {z : tZ2} {l : List Spt} (hl : l.length ≤ 12) (h : DQ z l) {a b : Nat} (ha : a < 4096) (hb : b < 4096) : q_X2_partBetween z (a : Int) (b : Int) = some (pbN (alN l) a b : Int) := by
  refine w_eq ?_
  have hA := alN_lt hl
  have hy := yN_lt (b := b) hA
  have e2 : zor32 (zand32 ((2 ^ l.length - 1 : Nat) : Int) (zxor32 (b : Int) (-1))) 1 = (yN (alN l) b : Int) := by
    rw [show ((2 ^ l.length - 1 : Nat) : Int) = (alN l : Int) from rfl, zandn_N hA, show (1 : Int) = ((1 : Nat) : Int) from rfl, zor_N (anN_lt hA) (by decide)]
    rfl
  unfold q_X2_partBetween
  rw [h.2.2.2, e2]
  simp only [kwp_kb, kwp_some, kwp_kg, kwp_kif, kwp_kl]
  rw [zandn_N hy]
  unfold pbN
  refine ⟨fun q => ⟨⟨⟨by omega, by omega⟩, ⟨by unfold alN at hA; omega, by unfold alN at hA; omega⟩⟩, fun q1 => ?_, fun q1 => ?_⟩, fun q => ?_⟩
  · rw [if_neg (fun w => w.2 (by have e : alN l = 2 ^ l.length - 1 := rfl; omega))]
    rfl
  · rw [if_pos ⟨by omega, fun w => q1 (by rw [w]; rfl)⟩]
  · rw [if_neg (fun w => q (by omega))]
    rfl
theorem q_lesserN {p q : Nat} (hp : p < 4096) (hq : q < 4096) : q_X2_lesser (p : Int) (q : Int) = some (lsN p q : Int) := by
  refine w_eq ?_
  unfold q_X2_lesser lsN
  simp only [kwp_kb, kwp_some, kwp_kg, kwp_kif, kwp_kl]
  refine ⟨⟨by omega, by omega⟩, fun q1 => ?_, fun q1 => ⟨⟨by omega, by omega⟩, fun q2 => ?_, fun q2 => ?_⟩⟩
  · rw [if_pos (by omega), show p = 0 by omega, zor_N (by decide) hq, Nat.zero_or]
  · rw [if_neg (by omega), if_pos (by omega), show q = 0 by omega, zor_N hp (by decide), Nat.or_zero]
  · rw [if_neg (by omega), if_neg (by omega), q_min32 ⟨by omega, by omega⟩ ⟨by omega, by omega⟩, kwp_some]
    omega
theorem lsN_lt {p q : Nat} (hp : p < 4096) (hq : q < 4096) : lsN p q < 4096 := by
  unfold lsN
  split
  · exact hq
  · split <;> omega
theorem pbN_lt {A a b : Nat} (hA : A < 4096) : pbN A a b < 4096 := by
  unfold pbN
  split
  · exact yN_lt hA
  · decide
theorem q_partL53 {z : tZ2} {l : List Spt} (hb : bdL l) (hl : l.length ≤ 12) (h : DQ z l) {p : Nat} (hp : p < dN l) {part : Nat} (hpt : part < 4096) (hm : MinV (WV z l p) part) {f0 : tZ3} {v2 v5 : Int} :
    kwp (kitr 53 (fun q => q_X2_parting_L53 z f0 v2 (p : Int) v5 (sIn z l p : Int) q) kF ((part : Int), (0 : Int))) (fun e => e.1 = 119 ∧ ∃ part' : Nat, e.2.1 = (part' : Int) ∧ part' < 4096 ∧ MinV (WV z l (p + 1)) part') := by
  have hA := alN_lt hl
  have dn := dN_le hl
  have sp : sIn z l p < 4096 := inN_lt hl _
  have sA : ∀ q k, (sIn z l q).testBit k = true → (alN l).testBit k = true := fun q k hk => by
    rw [alN_bit]
    exact decide_eq_true ((inN_bit l _ k).mp hk).1
  refine w_mono (w_for (ex := 119) (by decide) (fun r (s : Int × Int) => s.2 = (r : Int) ∧ ∃ pt : Nat, s.1 = (pt : Int) ∧ pt < 4096 ∧ MinV (fun Q => WV z l p Q ∨ ∃ r', r' < r ∧ vld z l p r' Q) pt) p ?_ ?_ (Nat.zero_le _) (by have := kF_eq; omega) ⟨rfl, part, rfl, hpt, MinV_same hm (fun Q => ⟨fun w => w.elim id (fun ⟨r', hr, _⟩ => absurd hr (Nat.not_lt_zero _)), Or.inl⟩)⟩) ?_
  · rintro r ⟨x, t⟩ hr ⟨g1, pt, g2, g3, g4⟩
    dsimp only at g1 g2
    subst g1 g2
    have ar := bs_at h (show r < dN l by omega)
    have sr : sIn z l r < 4096 := inN_lt hl _
    have hy1 := pbN_lt (a := sIn z l p) (b := sIn z l r) hA
    have hy2 := pbN_lt (a := sIn z l r) (b := sIn z l p) hA
    unfold q_X2_parting_L53
    dsimp only
    simp only [kwp_kb, kwp_some, kwp_kg, kwp_kif, kwp_kl]
    rw [q_discAt h.1 hl (show r < dN l by omega), kwp_some, ar.1, q_bitsOfD h.1 hl ar.2, kwp_some, show inF l (dC l (bs z r)) l.length = sIn z l r from rfl, h.2.2.2, zor_N sp sr]
    refine ⟨⟨⟨by omega, by omega⟩, ⟨by omega, by omega⟩⟩, fun q => by omega, fun _ => ⟨⟨by unfold alN at hA; omega, by unfold alN at hA; omega⟩, fun q => ?_, fun q => ?_⟩⟩
    · rw [q_partB hl h sp sr, kwp_some, q_lesserN g3 hy1, kwp_some, q_partB hl h sr sp, kwp_some, q_lesserN (lsN_lt g3 hy1) hy2, kwp_some]
      refine ⟨by trivial, by omega, _, by trivial, lsN_lt (lsN_lt g3 hy1) hy2, ?_⟩
      have m1 := MinV_add (W := fun Q => (WV z l p Q ∨ ∃ r', r' < r ∧ vld z l p r' Q) ∨ (Q = pbN (alN l) (sIn z l p) (sIn z l r) ∧ Q ≠ 0)) g4 (fun Q => Iff.rfl)
      refine MinV_add m1 (fun Q => ?_)
      constructor
      · rintro (w | ⟨r', hr', w⟩)
        · exact Or.inl (Or.inl (Or.inl w))
        · by_cases e : r' = r
          · rw [e] at w
            rcases w.2 with w2 | w2
            · exact Or.inl (Or.inr ⟨w2, w.1⟩)
            · exact Or.inr ⟨w2, w.1⟩
          · exact Or.inl (Or.inl (Or.inr ⟨r', by omega, w⟩))
      · rintro (((w | ⟨r', hr', w⟩) | ⟨w, w2⟩) | ⟨w, w2⟩)
        · exact Or.inl w
        · exact Or.inr ⟨r', by omega, w⟩
        · exact Or.inr ⟨r, by omega, w2, Or.inl w⟩
        · exact Or.inr ⟨r, by omega, w2, Or.inr w⟩
    · refine ⟨by trivial, by omega, pt, by trivial, g3, MinV_same g4 (fun Q => ?_)⟩
      have nA : sIn z l p ||| sIn z l r ≠ alN l := fun w => q (by rw [w]; rfl)
      constructor
      · rintro (w | ⟨r', hr', w⟩)
        · exact Or.inl w
        · by_cases e : r' = r
          · exfalso
            rw [e] at w
            rcases w.2 with w2 | w2
            · exact nA (pbN_all hA sp sr (sA p) (sA r) (by rw [← w2]; exact w.1))
            · refine nA ?_
              rw [Nat.or_comm]
              exact pbN_all hA sr sp (sA r) (sA p) (by rw [← w2]; exact w.1)
          · exact Or.inr ⟨r', by omega, w⟩
      · rintro (w | ⟨r', hr', w⟩)
        · exact Or.inl w
        · exact Or.inr ⟨r', by omega, w⟩
  · rintro ⟨x, t⟩ ⟨g1, pt, g2, g3, g4⟩
    dsimp only at g1 g2
    subst g1 g2
    unfold q_X2_parting_L53
    dsimp only
    simp only [kwp_kb, kwp_some, kwp_kg, kwp_kif, kwp_kl]
    exact ⟨⟨⟨by omega, by omega⟩, ⟨by omega, by omega⟩⟩, fun _ => ⟨by trivial, by trivial, pt, by trivial, g3, g4⟩, fun q => by omega⟩
  · rintro ⟨lb, x, t⟩ ⟨g0, _, pt, g2, g3, g4⟩
    dsimp only at g0 g2 ⊢
    refine ⟨g0, pt, g2, g3, MinV_same g4 (fun Q => ?_)⟩
    constructor
    · rintro ⟨q, r, h1, h2, h3⟩
      by_cases e : q = p
      · rw [e] at h1 h3
        exact Or.inr ⟨r, h1, h3⟩
      · exact Or.inl ⟨q, r, h1, by omega, h3⟩
    · rintro (⟨q, r, h1, h2, h3⟩ | ⟨r, h1, h2⟩)
      · exact ⟨q, r, h1, by omega, h3⟩
      · exact ⟨p, r, h1, by omega, h2⟩
/-- what is known when p places are through -/
def PI (z : tZ2) (l : List Spt) (p : Nat) (g : Int) (part : Nat) : Prop :=
  part < 4096 ∧ MinV (WV z l p) part ∧ ((g = -1 ∧ part = 0) ∨ ∃ g0, g0 < p ∧ g = (bs z g0 : Int) ∧ part ≠ 0 ∧ (∀ Q, ¬ WV z l g0 Q) ∧ ∀ q, g0 ≤ q → q < p → leR (dC l (bs z q)) (dC l (bs z g0)))
def PE (z : tZ2) (l : List Spt) (pe : Nat) (g : Int) (part : Nat) : Prop :=
  pe ≤ dN l ∧ PI z l pe g part ∧ (pe = dN l ∨ (g ≠ -1 ∧ ∀ g0, g0 < pe → g = (bs z g0 : Int) → ∀ q, pe ≤ q → q < dN l → ¬ leR (dC l (bs z q)) (dC l (bs z g0))))
theorem q_partJ {z : tZ2} {l : List Spt} (hb : bdL l) (hl : l.length ≤ 12) (h : DQ z l) {p : Nat} (hp : p < dN l) {g : Int} {part : Nat} (hi : PI z l p g part) (hg : g = -1 ∨ ∀ g0, g0 < p → g = (bs z g0 : Int) → leR (dC l (bs z p)) (dC l (bs z g0))) {f0 : tZ3} :
    kwp (q_X2_parting_J42_7 z f0 g (part : Int) (p : Int) (bs z p : Int)) (fun e => e.1 = 7 ∧ e.2.2.2 = ((p + 1 : Nat) : Int) ∧ ∃ part' : Nat, e.2.2.1 = (part' : Int) ∧ PI z l (p + 1) e.2.1 part') := by
  have ap := bs_at h hp
  have dn := dN_le hl
  unfold q_X2_parting_J42_7
  rw [q_bitsOfD h.1 hl ap.2]
  simp only [kwp_kb, kwp_some]
  rw [show inF l (dC l (bs z p)) l.length = sIn z l p from rfl]
  refine w_mono (q_partL53 hb hl h hp hi.1 hi.2.1) ?_
  rintro ⟨lb, x, t⟩ ⟨g0, part', e1, e2, e3⟩
  dsimp only at g0 e1 ⊢
  subst e1
  simp only [kwp_kb, kwp_some, kwp_kg, kwp_kif, kwp_kl]
  have old : part ≠ 0 → part' ≠ 0 := fun w e => by
    have v := (hi.2.1.resolve_left (fun q => w q.1)).2.1
    rcases e3 with ⟨_, no⟩ | ⟨w2, _⟩
    · obtain ⟨q, r, h1, h2, h3⟩ := v
      exact no _ ⟨q, r, h1, by omega, h3⟩
    · exact w2 e
  refine ⟨g0, ⟨by omega, by omega⟩, fun q => ⟨by trivial, by omega, part', by trivial, e2, e3, ?_⟩, fun q => ?_⟩
  · rcases hi.2.2 with ⟨w1, w2⟩ | ⟨g1, h1, h2, h3, h4, h5⟩
    · exact Or.inl ⟨w1, by omega⟩
    · have := old h3
      omega
  · rcases hi.2.2 with ⟨w1, w2⟩ | ⟨g1, h1, h2, h3, h4, h5⟩
    · subst w1
      refine ⟨by decide, fun _ => ⟨by trivial, by omega, part', by trivial, e2, e3, Or.inr ⟨p, by omega, by trivial, by omega, fun Q hQ => ?_, fun q' h6 h7 => ?_⟩⟩, fun q => (q (by trivial)).elim⟩
      · rcases hi.2.1 with ⟨_, no⟩ | ⟨w3, _⟩
        · exact no Q hQ
        · exact w3 w2
      · rw [show q' = p by omega]
        exact Int.le_refl _
    · have hg2 : leR (dC l (bs z p)) (dC l (bs z g1)) := by
        rcases hg with w | w
        · omega
        · exact w g1 h1 h2
      refine ⟨by rw [h2]; have := (bs_at h (show g1 < dN l by omega)).2; exact ⟨by omega, by omega⟩, fun q => by omega, fun _ => ⟨by trivial, by omega, part', by trivial, e2, e3, Or.inr ⟨g1, by omega, h2, old h3, h4, fun q' h6 h7 => ?_⟩⟩⟩
      by_cases e : q' = p
      · rw [e]
        exact hg2
      · exact h5 q' h6 (by omega)
theorem q_partL7 {z : tZ2} {l : List Spt} (hb : bdL l) (hl : l.length ≤ 12) (h : DQ z l) {f0 : tZ3} :
    kwp (kitr 7 (fun q => q_X2_parting_L7 z f0 q) kF ((-1 : Int), (0 : Int), (0 : Int))) (fun e => (e.1 = 39 ∨ e.1 = 137) ∧ ∃ pe part : Nat, e.2.2.1 = (part : Int) ∧ PE z l pe e.2.1 part) := by
  have dn := dN_le hl
  refine w_loop (fun n (s : Int × Int × Int) => ∃ p : Nat, n = dN l - p ∧ p ≤ dN l ∧ s.2.2 = (p : Int) ∧ ∃ part : Nat, s.2.1 = (part : Int) ∧ PI z l p s.1 part) (Q := fun e => (e.1 = 39 ∨ e.1 = 137) ∧ ∃ pe part : Nat, e.2.2.1 = (part : Int) ∧ PE z l pe e.2.1 part) ?_ kF (dN l) _ (by have := kF_eq; omega) ⟨0, rfl, Nat.zero_le _, rfl, 0, rfl, by decide, Or.inl ⟨rfl, fun Q ⟨q, r, _, h2, _⟩ => absurd h2 (Nat.not_lt_zero _)⟩, Or.inl ⟨rfl, rfl⟩⟩
  rintro n ⟨g, x, t⟩ ⟨p, rfl, hp, g1, part, g2, g3⟩
  dsimp only at g1 g2 g3
  subst g1 g2
  unfold q_X2_parting_L7
  dsimp only
  rw [h.1.1]
  simp only [kwp_kb, kwp_some, kwp_kg, kwp_kif, kwp_kl]
  refine ⟨⟨⟨by omega, by omega⟩, ⟨by omega, by omega⟩⟩, fun q => Or.inr ⟨by decide, Or.inr (by trivial), p, part, by trivial, hp, g3, Or.inl (by omega)⟩, fun q => ?_⟩
  · have hp2 : p < dN l := by omega
    have ap := bs_at h hp2
    have nxt : ∀ e : Nat × Int × Int × Int, (e.1 = 7 ∧ e.2.2.2 = ((p + 1 : Nat) : Int) ∧ ∃ part' : Nat, e.2.2.1 = (part' : Int) ∧ PI z l (p + 1) e.2.1 part') → (e.1 = 7 ∧ ∃ m, m < dN l - p ∧ ∃ p' : Nat, m = dN l - p' ∧ p' ≤ dN l ∧ e.2.2.2 = (p' : Int) ∧ ∃ part : Nat, e.2.2.1 = (part : Int) ∧ PI z l p' e.2.1 part) := fun e he =>
      ⟨he.1, dN l - (p + 1), by omega, p + 1, rfl, by omega, he.2.1, he.2.2⟩
    rw [q_discAt h.1 hl hp2, kwp_some, ap.1]
    rcases g3.2.2 with ⟨w1, w2⟩ | ⟨g0, h1, h2, h3, h4, h5⟩
    · subst w1
      refine ⟨by decide, fun _ => w_mono (q_partJ hb hl h hp2 g3 (Or.inl rfl)) (fun e he => Or.inl (nxt e he)), fun q => (q (by trivial)).elim⟩
    · have a0 := bs_at h (show g0 < dN l by omega)
      have same : ∀ g1, g1 < p → g = (bs z g1 : Int) → bs z g1 = bs z g0 := fun g1 _ w => by omega
      rw [h2]
      refine ⟨⟨by omega, by omega⟩, fun q => by omega, fun _ => ?_⟩
      rw [q_sizeOrd h.1 hb hl ap.2 a0.2, kwp_some]
      refine ⟨sgR_k _ _, fun q1 => ?_, fun q1 => Or.inr ⟨by decide, Or.inl (by trivial), p, part, by trivial, hp, by rw [← h2]; exact g3, Or.inr ⟨by (try dsimp only); omega, fun g1 k1 k2 q' h6 h7 w => ?_⟩⟩⟩
      · rw [← h2]
        refine w_mono (q_partJ hb hl h hp2 g3 (Or.inr (fun g1 k1 k2 => ?_))) (fun e he => Or.inl (nxt e he))
        rw [same g1 k1 k2]
        exact (sgR_le _ _).mp q1
      · have e : bs z g1 = bs z g0 := by omega
        rw [e] at w
        have aq := bs_at h h7
        exact q1 ((sgR_le _ _).mpr (leR_tr (dC_pos hb ap.2) (dC_pos hb aq.2) (dC_pos hb a0.2) (bs_le hb h h6 h7) w))
theorem q_parting {z : tZ2} {l : List Spt} (hs : sorL l) (hb : bdL l) (hl : l.length ≤ 12) (h2 : 2 ≤ l.length) (h : DQ z l) (f0 : tZ3) :
    kwp (q_X2_parting z f0) (fun r => ∃ P C, P < 4096 ∧ TW l P ∧ bdC C ∧ (∀ D, MX l P D → leR D C ∧ leR C D) ∧ r.1 = (P : Int) ∧ r.2 = (szN C, szD C)) := by
  unfold q_X2_parting
  simp only [kwp_kb]
  refine w_mono (q_partL7 hb hl h) ?_
  rintro ⟨lb, g, x, t⟩ ⟨hlb, pe, part, e1, e2, e3, e4⟩
  dsimp only at hlb e1 e3 e4 ⊢
  subst e1
  have J : kwp (q_X2_parting_J137 z f0 g (part : Int)) (fun r => ∃ P C, P < 4096 ∧ TW l P ∧ bdC C ∧ (∀ D, MX l P D → leR D C ∧ leR C D) ∧ r.1 = (P : Int) ∧ r.2 = (szN C, szD C)) := by
    rcases e3.2.2 with ⟨w1, w2⟩ | ⟨g0, k1, k2, k3, k4, k5⟩
    · exfalso
      have o1 : odP l 1 := by
        have : 2 ^ 2 ≤ 2 ^ l.length := Nat.pow_le_pow_right (by decide) h2
        exact ⟨by decide, by unfold alN; omega⟩
      obtain ⟨M, hM⟩ := MX_ex hs hl o1
      obtain ⟨q, r, Q, a1, a2, a3, _, _⟩ := part_A hs hb hl h2 h o1 hM
      have pe2 : pe = dN l := by
        rcases e4 with w | w
        · exact w
        · exact absurd w1 w.1
      rcases e3.2.1 with ⟨_, no⟩ | ⟨w3, _⟩
      · exact no Q ⟨q, r, a1, by omega, a3⟩
      · exact w3 w2
    · have a0 := bs_at h (show g0 < dN l by omega)
      have out : ∀ q, pe ≤ q → q < dN l → ¬ leR (dC l (bs z q)) (dC l (bs z g0)) := by
        rcases e4 with w | w
        · exact fun q _ _ => by omega
        · exact w.2 g0 k1 k2
      have win := part_win hs hb hl h2 h k1 e2 k3 e3.2.1 k4 k5 out
      unfold q_X2_parting_J137
      simp only [kwp_kb]
      rw [k2, q_tellD h.1 hb hl a0.2, kwp_some, kwp_some]
      exact ⟨part, dC l (bs z g0), e3.1, win.1, dC_bd hb a0.2, win.2, rfl, rfl⟩
  simp only [kwp_kif, kwp_kg]
  exact ⟨fun _ => J, fun q => ⟨by omega, J⟩⟩
