theorem ins_place {x0 y0 p x y : Int} : ∀ {l : List Spt}, (∃ a, a ∈ insL x0 y0 p l ∧ a.1 = x ∧ a.2.1 = y) ↔ ((x0 = x ∧ y0 = y) ∨ ∃ a, a ∈ l ∧ a.1 = x ∧ a.2.1 = y) := by
  intro l
  induction l with
  | nil =>
    unfold insL
    constructor
    · rintro ⟨a, h, h1, h2⟩
      rw [List.mem_singleton.mp h] at h1 h2
      exact Or.inl ⟨h1, h2⟩
    · rintro (⟨h1, h2⟩ | ⟨a, h, _⟩)
      · exact ⟨_, List.mem_singleton.mpr rfl, h1, h2⟩
      · exact absurd h List.not_mem_nil
  | cons b l ih =>
    unfold insL
    by_cases h1 : b.1 < x0 ∨ (b.1 = x0 ∧ b.2.1 < y0)
    · rw [if_pos h1]
      constructor
      · rintro ⟨a, h, e⟩
        rcases List.mem_cons.mp h with h | h
        · exact Or.inr ⟨a, by rw [h]; exact List.mem_cons_self, e⟩
        · rcases ih.mp ⟨a, h, e⟩ with w | ⟨c, w, e2⟩
          · exact Or.inl w
          · exact Or.inr ⟨c, List.mem_cons_of_mem _ w, e2⟩
      · rintro (w | ⟨a, h, e⟩)
        · obtain ⟨c, w1, w2⟩ := ih.mpr (Or.inl w)
          exact ⟨c, List.mem_cons_of_mem _ w1, w2⟩
        · rcases List.mem_cons.mp h with h | h
          · exact ⟨a, by rw [h]; exact List.mem_cons_self, e⟩
          · obtain ⟨c, w1, w2⟩ := ih.mpr (Or.inr ⟨a, h, e⟩)
            exact ⟨c, List.mem_cons_of_mem _ w1, w2⟩
    · rw [if_neg h1]
      by_cases h2 : b.1 = x0 ∧ b.2.1 = y0
      · rw [if_pos h2]
        constructor
        · exact fun w => Or.inr w
        · rintro (w | w)
          · exact ⟨b, List.mem_cons_self, by rw [h2.1]; exact w.1, by rw [h2.2]; exact w.2⟩
          · exact w
      · rw [if_neg h2]
        constructor
        · rintro ⟨a, h, e⟩
          rcases List.mem_cons.mp h with h | h
          · rw [h] at e
            exact Or.inl e
          · exact Or.inr ⟨a, h, e⟩
        · rintro (w | ⟨a, h, e⟩)
          · exact ⟨_, List.mem_cons_self, w⟩
          · exact ⟨a, List.mem_cons_of_mem _ h, e⟩
theorem gth_place {f : Nat → Option (Int × Int)} {x y : Int} : ∀ n, (∃ a, a ∈ gth f n ∧ a.1 = x ∧ a.2.1 = y) ↔ ∃ k, k < n ∧ f k = some (x, y) := by
  intro n
  induction n with
  | zero => exact ⟨fun ⟨a, h, _⟩ => absurd h List.not_mem_nil, fun ⟨k, h, _⟩ => absurd h (Nat.not_lt_zero _)⟩
  | succ n ih =>
    unfold gth
    cases e : f n with
    | none =>
      dsimp only
      rw [ih]
      constructor
      · rintro ⟨k, h1, h2⟩
        exact ⟨k, by omega, h2⟩
      · rintro ⟨k, h1, h2⟩
        by_cases w : k = n
        · rw [w, e] at h2
          cases h2
        · exact ⟨k, by omega, h2⟩
    | some v =>
      dsimp only
      rw [ins_place, ih]
      constructor
      · rintro (⟨h1, h2⟩ | ⟨k, h1, h2⟩)
        · exact ⟨n, by omega, by rw [e, ← h1, ← h2]⟩
        · exact ⟨k, by omega, h2⟩
      · rintro ⟨k, h1, h2⟩
        by_cases w : k = n
        · rw [w, e] at h2
          cases h2
          exact Or.inl ⟨rfl, rfl⟩
        · exact Or.inr ⟨k, by omega, h2⟩
/-- by places -/
theorem l_place {l : List Spt} {x y : Int} : (∃ a, a ∈ l ∧ a.1 = x ∧ a.2.1 = y) ↔ ∃ i, i < l.length ∧ lX l i = x ∧ lY l i = y := by
  constructor
  · rintro ⟨a, h, e1, e2⟩
    obtain ⟨i, hi, e⟩ := mem_g8 h
    exact ⟨i, hi, by unfold lX; rw [e]; exact e1, by unfold lY; rw [e]; exact e2⟩
  · rintro ⟨i, hi, e1, e2⟩
    exact ⟨g8 l i, g8_mem hi, e1, e2⟩
theorem mecOf_places {X Y X' Y' : Nat → Int} {M M' : Nat → Prop} {n n' : Nat} {C : Cir} (h : ∀ x y, (∃ i, i < n ∧ M i ∧ X i = x ∧ Y i = y) ↔ ∃ j, j < n' ∧ M' j ∧ X' j = x ∧ Y' j = y) (hm : mecOf X Y M n C) : mecOf X' Y' M' n' C := by
  obtain ⟨h1, h2, h3⟩ := hm
  refine ⟨h1, fun j hj => ?_, fun D d1 d2 d3 => h3 D d1 (fun i hi => ?_) (fun _ w => w.elim)⟩
  · obtain ⟨i, i1, i2, i3, i4⟩ := (h _ _).mpr ⟨j, hj.1, hj.2, rfl, rfl⟩
    rw [← i3, ← i4]
    exact h2 i ⟨i1, i2⟩
  · obtain ⟨j, i1, i2, i3, i4⟩ := (h _ _).mp ⟨i, hi.1, hi.2, rfl, rfl⟩
    rw [← i3, ← i4]
    exact d2 j ⟨i1, i2⟩
theorem shr40 {v : Int} : zshr64 v (zand64 40 63) = 0 ↔ ∀ k, 40 ≤ k → k < 64 → tb v k = false := by
  rw [zero64 (k64_shr _ _)]
  have e : ∀ k, k < 64 → tb (zshr64 v (zand64 40 63)) k = if k + 40 < 64 then tb v (40 + k) else tb v 63 := by
    intro k hk
    by_cases h : k + 40 < 64
    · rw [if_pos h]
      exact tb_shr (i := 40) (by decide) k h
    · rw [if_neg h]
      unfold tb zshr64
      rw [z64, show (40 : Int) = ((40 : Nat) : Int) from rfl, and63 40 (by decide)]
      show (BitVec.sshiftRight (Int64.ofInt v).toBitVec ((Int64.ofInt ((40 : Nat) : Int)).toBitVec.smod 64).toNat).getLsbD k = _
      rw [smod64 40 (by decide), BitVec.getLsbD_sshiftRight]
      have h1 : ¬ 64 ≤ k := by omega
      have h2 : ¬ 40 + k < 64 := by omega
      simp only [h1, h2, decide_false, Bool.not_false, Bool.true_and, if_false]
      rw [BitVec.msb_eq_getLsbD_last]
  constructor
  · intro h k h1 h2
    have := h (k - 40)
    rw [e _ (by omega), if_pos (by omega), show 40 + (k - 40) = k by omega] at this
    exact this
  · intro h k
    by_cases hk : k < 64
    · rw [e k hk]
      split
      · exact h _ (by omega) (by omega)
      · exact h 63 (by omega) (by omega)
    · exact tb_big (by omega)
theorem sgC_0 {C D : Cir} (hC : bdC C) (hD : bdC D) : sgC C D = 0 ↔ szN C = szN D ∧ szD C = szD D := by
  obtain ⟨k1, k2, k3, k4, k5, _⟩ := bdC_k hC
  obtain ⟨j1, j2, j3, j4, j5, _⟩ := bdC_k hD
  constructor
  · intro h
    unfold sgC szN szD at h
    rw [sgc_f k4, sgc_f2 j4] at h
    unfold sgc at h
    split at h
    · omega
    · split at h
      · rename_i e
        exact f_eq k4 j4 e
      · omega
  · rintro ⟨h1, h2⟩
    unfold sgC
    rw [h1, h2]
    unfold sgc
    rw [if_neg (Int.lt_irrefl _), if_pos rfl]
theorem qm_spotAt {m : tZ12} {l : List Spt} (H : SPm m l) (hb : bdL l) {x y : Int} (hx : k32 x) (hy : k32 y) : kwp (q_X12_spotAt m x y) (fun v => (∃ i : Nat, i < l.length ∧ v = (i : Int) ∧ lX l i = x ∧ lY l i = y) ∨ (v = -1 ∧ ∀ i, i < l.length → ¬ (lX l i = x ∧ lY l i = y))) := by
  have hl := H.2.1
  unfold q_X12_spotAt
  refine w_kb (P := fun e => (e.1 = 30 ∧ ∃ i : Nat, i < l.length ∧ e.2 = (i : Int) ∧ lX l i = x ∧ lY l i = y) ∨ (e.1 = 38 ∧ ∀ i, i < l.length → ¬ (lX l i = x ∧ lY l i = y))) ?_ ?_
  · refine w_loop (fun n s => ∃ i : Nat, n = l.length - i ∧ i ≤ l.length ∧ s = (i : Int) ∧ ∀ j, j < i → ¬ (lX l j = x ∧ lY l j = y)) ?_ kF l.length _ (by have := kF_eq; omega) ⟨0, rfl, Nat.zero_le _, rfl, fun j hj => absurd hj (Nat.not_lt_zero _)⟩
    rintro n s ⟨i, hn, hi, rfl, hj⟩
    unfold q_X12_spotAt_L2
    simp only [kwp_kg, kwp_kif, kwp_some, kwp_kl, Int.toNat_natCast]
    rw [H.1]
    refine ⟨⟨⟨by omega, by omega⟩, ⟨by omega, by omega⟩⟩, fun q => Or.inr ⟨by decide, Or.inr ⟨by trivial, fun j h => hj j (by omega)⟩⟩, fun q => ⟨⟨by omega, by omega⟩, ?_⟩⟩
    have hi' : i < l.length := by omega
    have h3 := H.2.2 i hi'
    have bx := bX hb hi'
    have e1 : (g8 l i).1 = lX l i := rfl
    have e2 : (g8 l i).2.1 = lY l i := rfl
    rw [h3.1, h3.2.1, e1, e2]
    have nx : ¬ (lX l i = x ∧ lY l i = y) → ∃ m, m < n ∧ ∃ i_1 : Nat, m = l.length - i_1 ∧ i_1 ≤ l.length ∧ (i : Int) + 1 = (i_1 : Int) ∧ ∀ j, j < i_1 → ¬ (lX l j = x ∧ lY l j = y) := fun w => ⟨l.length - (i + 1), by omega, i + 1, rfl, hi', by omega, fun j hj' => by
      by_cases e : j = i
      · rw [e]; exact w
      · exact hj j (by omega)⟩
    refine ⟨⟨⟨by omega, by omega⟩, hx⟩, fun q1 => ⟨⟨⟨by omega, by omega⟩, hy⟩, fun q2 => Or.inr ⟨by decide, Or.inl ⟨by trivial, i, hi', rfl, q1, q2⟩⟩, fun q2 => Or.inl ⟨by trivial, nx (fun w => q2 w.2)⟩⟩, fun q1 => Or.inl ⟨by trivial, nx (fun w => q1 w.1)⟩⟩
  · rintro ⟨lb, s⟩ h
    dsimp only at h
    simp only [kwp_kg, kwp_kif, kwp_some]
    rcases h with ⟨rfl, h⟩ | ⟨rfl, h⟩
    · exact ⟨fun _ => Or.inl h, fun q => (q (by trivial)).elim⟩
    · exact ⟨fun q => absurd q (by decide), fun _ => ⟨by trivial, Or.inr ⟨(by first | exact trivial | rfl), h⟩⟩⟩
theorem T_proof {z11 : tZ11} {z4 : tZ4} {z9 : tZ9} {z10 : tZ10} {z8 z8' : tZ8} {z0 z0' : tZ0} {m : tZ12} (H : REL z4 z9 z10 m) {set pts : Int} (hs : k32 set) (hp : k64 pts) : QRI m (q_X11_proof z11 z4 z8 z8' z0 z0' set pts) (q_X12_proof m set pts) := by
  have hH := H.1.1
  have hg := q_gather (z11 := z11) (z8 := z8) hH.1 hs
  by_cases hc : pts ≠ 0 ∧ 1 ≤ set ∧ set < 16 ∧ ∀ k, k < 64 → tb pts k = true → k < 40 ∧ inS z4.1 set k = true
  · obtain ⟨c1', c2', c3', c4'⟩ := hc
    obtain ⟨k0, hk0⟩ : ∃ k, tb pts k = true := Classical.byContradiction (fun w => c1' ((zero64 hp).mpr (fun k => by
      cases e : tb pts k with
      | false => rfl
      | true => exact absurd ⟨k, e⟩ w)))
    have hk64 : k0 < 64 := by
      by_cases w : k0 < 64
      · exact w
      · rw [tb_big (by omega)] at hk0
        cases hk0
    have h0 := c4' k0 hk64 hk0
    have hyes : 1 ≤ set ∧ set < 16 ∧ 0 < (GL z4.1 set (z4.1 128)).length := ⟨c2', c3', GL_pos h0.1 h0.2⟩
    have ok := GL_ok (set := set) hH.1 hH.1.2.2
    obtain ⟨⟨b, m1⟩, em, f1, hcase⟩ := qm_hasCircle hH hs
    dsimp only at f1 hcase
    rcases hcase with ⟨hno, _⟩ | ⟨_, rfl, hS, C, hC, hmec⟩
    · exact absurd hyes hno
    have H1 := HR_fq f1 hH
    obtain ⟨l, hl⟩ : ∃ l, l = GL z4.1 set (z4.1 128) := ⟨_, rfl⟩
    rw [← hl] at ok hS hmec hyes hg
    obtain ⟨P, hP⟩ : ∃ P : Nat → Bool, P = fun j => (decide (j < 40) && tb pts j) := ⟨_, rfl⟩
    have hP2 : ∀ j, P j = true → j < 40 ∧ z4.1 (80 + j) ≠ -1 := fun j h => by
      rw [hP, Bool.and_eq_true, decide_eq_true_iff] at h
      exact ⟨h.1, (inS_t.mp (c4' j (by omega) h.2).2).1⟩
    have ok2 := gth_ok (fB_ok hH.1 hP2 hH.1.2.2) 40 (Nat.le_refl _)
    obtain ⟨l2, hl2⟩ : ∃ l2, l2 = gth (fB z4.1 P (z4.1 128)) 40 := ⟨_, rfl⟩
    rw [← hl2] at ok2
    have hpos : 0 < l2.length := by
      rw [hl2]
      refine gth_pos (k := k0) ?_ 40 h0.1
      rw [fB_some (by rw [hP]; dsimp only; rw [decide_eq_true h0.1, hk0]; rfl)]
      exact fun e => by cases e
    -- where such a POINT stands
    have place : ∀ k, k < 40 → tb pts k = true → ∃ i, i < l.length ∧ lX l i = stX z4.1 k (z4.1 128) ∧ lY l i = stY z4.1 k (z4.1 128) := fun k hk hb => by
      have hin := (c4' k (by omega) hb).2
      rw [← l_place, hl]
      unfold GL
      rw [gth_place]
      exact ⟨k, hk, fB_some (by rw [decide_eq_true hk, hin]; rfl)⟩
    obtain ⟨D0, hD0⟩ := mec_ex (M := aM) (dif_sor ok2.2.1) l2.length (Nat.le_refl _) ⟨0, hpos, trivial⟩
    have hD0 := mecOf_in0 hD0
    have same : ∀ D, mecOf (lX l2) (lY l2) aM l2.length D → sgC D C = sgC D0 C := fun D hD => sgC_P hD.1 hD0.1 hmec.1 hmec.1 (mecOf_only hD hD0) ⟨rfl, rfl, rfl⟩
    refine qri_of (if sgC D0 C = 0 then 1 else 0) ?_ ?_ (by split <;> decide)
    · unfold q_X11_proof
      simp only [kwp_kif, kwp_some, kwp_kb, kwp_kg]
      refine ⟨hp, fun q => absurd q c1', fun _ => w_mono hg ?_⟩
      rintro ⟨b', z'⟩ h
      rcases h with ⟨h, _⟩ | ⟨_, rfl, hSc⟩
      · exact absurd hyes h
      · dsimp only at hSc ⊢
        refine ⟨fun q => absurd q kz_t, fun _ => w_mono (q_bits hH.1 set) (fun bb ⟨_, hbb⟩ => ?_)⟩
        have hin : zand64 pts (zxor64 bb (-1)) = 0 := by
          rw [and_zero]
          intro k
          rw [tb_not]
          by_cases hk : k < 64
          · cases e : tb pts k with
            | false => rfl
            | true =>
              have := c4' k hk e
              rw [hbb k, decide_eq_true this.1, this.2, decide_eq_true hk]
              rfl
          · rw [tb_big (by omega)]
            rfl
        rw [hin]
        rw [hl] at hSc hyes
        refine ⟨fun _ => w_mono (q_mec hH.1 hH.1.2.2 hSc hyes.2.2) (fun z'' ⟨g1, g2, g3, _⟩ => ?_), fun q => (q (by trivial)).elim⟩
        rw [← hl] at g1
        refine w_of (q_now z4) (w_mono (q_collect (P := P) hH.1 (fun j hj => by rw [hP]; dsimp only; rw [decide_eq_true hj, Bool.true_and]) hP2 hH.1.2.2) (fun zz hzz => ?_))
        rw [← hl2] at hzz
        refine w_mono (q_about hzz ok2.2.1 ok2.2.2 hpos) (fun zc ⟨d1, d2, _⟩ => ?_)
        have hD := mecOf_in0 d1
        rw [q_sizeAgainst d2 g2, kwp_some, sgC_P hD.1 hD0.1 g1.1 hmec.1 (mecOf_only hD hD0) (mecOf_only g1 hmec)]
        exact ⟨sgc_k _ _ _ _, fun w => by rw [if_pos w], fun w => by rw [if_neg w]⟩
    · unfold q_X12_proof
      simp only [kwp_kif, kwp_some, kwp_kb, kwp_kg]
      refine ⟨hp, fun q => absurd q c1', fun _ => ⟨fun _ => ?_, fun q => absurd (shr40.mpr (fun k h1 h2 => ?_)) q⟩⟩
      · refine w_mono (w_for (ex := 54) (by decide) (fun i (s : Int) => s = (i : Int)) 40 ?_ ?_ (Nat.zero_le _) (by decide) rfl) ?_
        · rintro i s hi rfl
          unfold q_X12_proof_L20
          simp only [kwp_kif, kwp_some, kwp_kb, kwp_kg, kwp_kl]
          rw [qm_has (by omega), kwp_some, kz_0, qm_isOfSet hH hs ⟨by omega, by omega⟩, kwp_some, kz_0, decide_eq_false_iff_not, Int.toNat_natCast]
          refine ⟨⟨by omega, by omega⟩, fun q => by omega, fun _ => ⟨fun q => ⟨by trivial, by omega⟩, fun q => ⟨fun w => absurd ⟨c2', c3', by omega, by omega, (c4' i (by omega) (by simpa using q)).2⟩ w, fun _ => ⟨by trivial, by omega⟩⟩⟩⟩
        · rintro s rfl
          unfold q_X12_proof_L20
          simp only [kwp_kif, kwp_some, kwp_kb, kwp_kg, kwp_kl]
          exact ⟨⟨by omega, by omega⟩, fun _ => ⟨by trivial, by trivial⟩, fun q => by omega⟩
        · rintro ⟨lb, s⟩ ⟨h0', _⟩
          dsimp only at h0' ⊢
          subst h0'
          refine ⟨fun q => absurd q (by decide), fun _ => ⟨by trivial, w_of em ⟨fun q => absurd q kz_t, fun _ => ?_⟩⟩⟩
          simp only [kwp_kl]
          rw [kwp_kb]
          refine w_mono (w_for (ex := 127) (by decide) (fun i (s : Int × Int) => s.2 = (i : Int) ∧ k64 s.1 ∧ ∀ j, tb s.1 j = true ↔ (j < l.length ∧ ∃ k, k < i ∧ tb pts k = true ∧ lX l j = stX z4.1 k (z4.1 128) ∧ lY l j = stY z4.1 k (z4.1 128))) 40 ?_ ?_ (Nat.zero_le _) (by decide) ⟨rfl, (by decide : k64 0), fun j => by rw [tb_zero]; exact ⟨fun w => (by cases w), fun ⟨_, k, w, _⟩ => absurd w (Nat.not_lt_zero _)⟩⟩) ?_
          · rintro i ⟨own, s⟩ hi ⟨rfl, o1, o2⟩
            dsimp only at o1 o2
            unfold q_X12_proof_L82
            simp only [kwp_kif, kwp_some, kwp_kb, kwp_kg, kwp_kl]
            rw [qm_has (by omega), kwp_some, kz_0]
            refine ⟨⟨by omega, by omega⟩, fun q => by omega, fun _ => ⟨fun q => ⟨by trivial, by omega, o1, fun j => ?_⟩, fun q => ?_⟩⟩
            · rw [o2 j]
              constructor
              · rintro ⟨w1, k, w2, w3⟩
                exact ⟨w1, k, by omega, w3⟩
              · rintro ⟨w1, k, w2, w3⟩
                by_cases e : k = i
                · rw [e, q] at w3
                  exact absurd w3.1 (by decide)
                · exact ⟨w1, k, by omega, w3⟩
            · have hbi : tb pts i = true := by simpa using q
              have hl1 := (inS_t.mp (c4' i (by omega) hbi).2).1
              have hst := st_bd hH.1 hi hl1 hH.1.2.2
              rw [qm_standsX H1 hi hl1, kwp_some, qm_standsY H1 hi hl1, kwp_some]
              refine w_mono (qm_spotAt hS ok.2.2 ⟨by omega, by omega⟩ ⟨by omega, by omega⟩) (fun v hv => ?_)
              obtain ⟨pi, p1, p2, p3⟩ := place i hi hbi
              rcases hv with ⟨t, t1, rfl, t2, t3⟩ | ⟨_, t2⟩
              · have hll := hS.2.1
                refine ⟨⟨by omega, by omega⟩, by trivial, by omega, k64_or _ _, fun j => ?_⟩
                rw [tb_or, tb_shl (by omega), Bool.or_eq_true, o2 j, decide_eq_true_iff]
                constructor
                · rintro (⟨w1, k, w2, w3⟩ | rfl)
                  · exact ⟨w1, k, by omega, w3⟩
                  · exact ⟨t1, i, by omega, hbi, t2, t3⟩
                · rintro ⟨w1, k, w2, w3⟩
                  by_cases e : k = i
                  · right
                    rw [e] at w3
                    by_cases e2 : j = t
                    · exact e2
                    · have := dif_sor ok.2.1 j t w1 t1 e2
                      omega
                  · exact Or.inl ⟨w1, k, by omega, w3⟩
              · exact absurd ⟨p2, p3⟩ (t2 pi p1)
          · rintro ⟨own, s⟩ ⟨rfl, h⟩
            dsimp only at h
            unfold q_X12_proof_L82
            simp only [kwp_kif, kwp_some, kwp_kb, kwp_kg, kwp_kl]
            exact ⟨⟨by omega, by omega⟩, fun _ => ⟨by trivial, by trivial, h⟩, fun q => by omega⟩
          · rintro ⟨lb, own, s⟩ ⟨h0', _, o1, o2⟩
            dsimp only at h0' o1 o2
            simp only [kwp_kif, kwp_some, kwp_kb, kwp_kg]
            refine ⟨h0', ?_⟩
            obtain ⟨pi, p1, p2, p3⟩ := place k0 h0.1 hk0
            refine w_mono (qm_layCircle hS ok.2.1 ok.2.2 (set := own) ⟨pi, p1, (o2 pi).mpr ⟨p1, k0, h0.1, hk0, p2, p3⟩⟩) (fun m3 ⟨g0, D, g1, g2⟩ => ?_)
            have hD : mecOf (lX l2) (lY l2) aM l2.length D := by
              refine mecOf_places (fun x y => ?_) g2
              have e1 := gth_place (f := fB z4.1 P (z4.1 128)) (x := x) (y := y) 40
              rw [← hl2, l_place] at e1
              constructor
              · rintro ⟨i, i1, i2, i3, i4⟩
                obtain ⟨_, k, k1, k2, k3, k4⟩ := (o2 i).mp i2
                obtain ⟨j, j1, j2, j3⟩ := e1.mpr ⟨k, k1, by rw [fB_some (by rw [hP]; dsimp only; rw [decide_eq_true k1, k2]; rfl), ← k3, ← k4, i3, i4]⟩
                exact ⟨j, j1, trivial, j2, j3⟩
              · rintro ⟨j, j1, _, j2, j3⟩
                obtain ⟨k, k1, k2⟩ := e1.mp ⟨j, j1, j2, j3⟩
                unfold fB at k2
                by_cases w : P k = true
                · rw [if_pos w] at k2
                  cases k2
                  rw [hP, Bool.and_eq_true] at w
                  obtain ⟨i, i1, i2, i3⟩ := place k k1 w.2
                  exact ⟨i, i1, (o2 i).mpr ⟨i1, k, k1, w.2, i2, i3⟩, i2, i3⟩
                · rw [if_neg w] at k2
                  cases k2
            have s1 := MCs_sz g1
            have s2 := MCs_sz hC
            rw [s1.1, s1.2, s2.1, s2.2]
            have z1 := sz_k (bdC_m g1)
            have z2 := sz_k (bdC_m hC)
            have ff := FQ_frm (FQ_trans f1 (FC_q g0))
            have iff0 := sgC_0 (bdC_m g1) (bdC_m hC)
            rw [same D hD] at iff0
            refine ⟨⟨k64_63 z1.2.1, k64_63 z2.2.1⟩, fun q1 => ⟨⟨k64_63 z1.2.2.2, k64_63 z2.2.2.2⟩, fun q2 => ⟨by rw [if_pos (iff0.mpr ⟨q1, q2⟩)], ff⟩, fun q2 => ⟨by rw [if_neg (fun w => q2 (iff0.mp w).2)], ff⟩⟩, fun q1 => ⟨by rw [if_neg (fun w => q1 (iff0.mp w).1)], ff⟩⟩
      · cases e : tb pts k with
        | false => rfl
        | true => have := (c4' k h2 e).1; omega
  · refine qri_of (-1) ?_ ?_ (by decide)
    · unfold q_X11_proof
      simp only [kwp_kif, kwp_some, kwp_kb, kwp_kg]
      refine ⟨hp, fun _ => (by first | exact trivial | rfl), fun c1' => w_mono hg ?_⟩
      rintro ⟨b', z'⟩ h
      rcases h with ⟨_, rfl⟩ | ⟨hy, rfl, hSc⟩
      · exact ⟨fun _ => (by first | exact trivial | rfl), fun q => (q (by trivial)).elim⟩
      · refine ⟨fun q => absurd q kz_t, fun _ => w_mono (q_bits hH.1 set) (fun bb ⟨_, hbb⟩ => ⟨fun q => ?_, fun _ => (by first | exact trivial | rfl)⟩)⟩
        exfalso
        refine hc ⟨c1', hy.1, hy.2.1, fun k hk hb => ?_⟩
        rw [and_zero] at q
        have := q k
        rw [hb, tb_not, decide_eq_true hk, hbb k, Bool.true_and, Bool.true_and, Bool.not_eq_false', Bool.and_eq_true, decide_eq_true_iff] at this
        exact this
    · unfold q_X12_proof
      simp only [kwp_kif, kwp_some, kwp_kb, kwp_kg]
      refine ⟨hp, fun _ => ⟨(by first | exact trivial | rfl), FRM_rfl m⟩, fun c1' => ⟨fun hsh => ?_, fun _ => ⟨(by first | exact trivial | rfl), FRM_rfl m⟩⟩⟩
      rw [shr40] at hsh
      refine w_mono (P := fun e => e.1 = 46 ∨ (e.1 = 54 ∧ ∀ k, k < 40 → tb pts k = true → 1 ≤ set ∧ set < 16 ∧ inS z4.1 set k = true)) ?_ ?_
      · refine w_loop (fun n s => ∃ i : Nat, n = 40 - i ∧ i ≤ 40 ∧ s = (i : Int) ∧ ∀ k, k < i → tb pts k = true → 1 ≤ set ∧ set < 16 ∧ inS z4.1 set k = true) ?_ kF 40 _ (by decide) ⟨0, rfl, by omega, rfl, fun k h => absurd h (Nat.not_lt_zero _)⟩
        rintro n s ⟨i, hn, hi, rfl, hj⟩
        unfold q_X12_proof_L20
        simp only [kwp_kif, kwp_some, kwp_kb, kwp_kg, kwp_kl]
        refine ⟨⟨by omega, by omega⟩, fun q => Or.inr ⟨by decide, Or.inr ⟨by trivial, fun k h => hj k (by omega)⟩⟩, fun q => ?_⟩
        rw [qm_has (by omega), kwp_some, kz_0, qm_isOfSet hH hs ⟨by omega, by omega⟩, kwp_some, kz_0, decide_eq_false_iff_not, Int.toNat_natCast]
        refine ⟨fun q => Or.inl ⟨by trivial, 40 - (i + 1), by omega, i + 1, rfl, by omega, by omega, fun k h1 h2 => ?_⟩, fun q => ⟨fun w => Or.inr ⟨by decide, Or.inl (by trivial)⟩, fun w => Or.inl ⟨by trivial, 40 - (i + 1), by omega, i + 1, rfl, by omega, by omega, fun k h1 h2 => ?_⟩⟩⟩
        · by_cases e : k = i
          · rw [e, q] at h2
            cases h2
          · exact hj k (by omega) h2
        · by_cases e : k = i
          · have w := Decidable.not_not.mp w
            rw [e]
            exact ⟨w.1, w.2.1, w.2.2.2.2⟩
          · exact hj k (by omega) h2
      · rintro ⟨lb, s⟩ h
        dsimp only at h ⊢
        rcases h with rfl | ⟨rfl, h⟩
        · exact ⟨fun _ => ⟨(by first | exact trivial | rfl), FRM_rfl m⟩, fun q => (q (by trivial)).elim⟩
        · exfalso
          obtain ⟨k0, hk0⟩ : ∃ k, tb pts k = true := Classical.byContradiction (fun w => c1' ((zero64 hp).mpr (fun k => by
            cases e : tb pts k with
            | false => rfl
            | true => exact absurd ⟨k, e⟩ w)))
          have lt : ∀ k, tb pts k = true → k < 40 := fun k hk => by
            by_cases w : k < 40
            · exact w
            · by_cases w2 : k < 64
              · rw [hsh k (by omega) w2] at hk
                cases hk
              · rw [tb_big (by omega)] at hk
                cases hk
          have h0 := h k0 (lt k0 hk0) hk0
          exact hc ⟨c1', h0.1, h0.2.1, fun k hk hb => ⟨lt k hb, (h k (lt k hb) hb).2.2⟩⟩
