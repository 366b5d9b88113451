/-! ===== needed, proof ===== -/
theorem ins_ge (x y p : Int) : ∀ l : List Spt, l.length ≤ (insL x y p l).length ∧ 0 < (insL x y p l).length := by
  intro l
  induction l with
  | nil => unfold insL; exact ⟨Nat.zero_le _, Nat.zero_lt_one⟩
  | cons a l ih =>
    unfold insL
    split
    · simp only [List.length_cons]; omega
    · split
      · simp only [List.length_cons]; omega
      · simp only [List.length_cons]; omega
theorem gth_pos {f : Nat → Option (Int × Int)} {k : Nat} (h : f k ≠ none) : ∀ n, k < n → 0 < (gth f n).length := by
  intro n
  induction n with
  | zero => intro h; omega
  | succ n ih =>
    intro hk
    unfold gth
    cases e : f n with
    | none =>
      have : k ≠ n := fun w => h (w ▸ e)
      exact ih (by omega)
    | some v => exact (ins_ge _ _ _ _).2
theorem gth_none {f : Nat → Option (Int × Int)} : ∀ n, (∀ k, k < n → f k = none) → gth f n = [] := by
  intro n
  induction n with
  | zero => intro _; rfl
  | succ n ih =>
    intro h
    unfold gth
    rw [h n (by omega)]
    exact ih (fun k hk => h k (by omega))
theorem fB_some {r : Nat → Int} {P : Nat → Bool} {t : Int} {k : Nat} (h : P k = true) : fB r P t k = some (stX r k t, stY r k t) := if_pos h
theorem GL_pos {r : Nat → Int} {set t : Int} {k : Nat} (hk : k < 40) (h : inS r set k = true) : 0 < (GL r set t).length := by
  refine gth_pos (k := k) ?_ 40 hk
  rw [fB_some (by rw [decide_eq_true hk, h]; rfl)]
  exact fun e => by cases e
/-- the class's mask without one */
 -/
theorem mask_but {b : Int} {k : Nat} (hk : k < 40) (j : Nat) : tb (zand64 b (zxor64 (zshl64 1 (zand64 (k : Int) 63)) (-1))) j = (tb b j && decide (j ≠ k)) := by
  rw [tb_and, tb_not, tb_shl (by omega)]
  by_cases h : j < 64
  · rw [decide_eq_true h, Bool.true_and]
    by_cases e : j = k
    · rw [decide_eq_true e, decide_eq_false (fun w => w e)]
      rfl
    · rw [decide_eq_false e, decide_eq_true e]
      rfl
  · rw [tb_big (by omega)]
    rfl
theorem mask_bit {b : Int} {k : Nat} (hk : k < 40) : zand64 b (zshl64 1 (zand64 (k : Int) 63)) = 0 ↔ tb b k = false := by
  rw [and_zero]
  constructor
  · intro h
    have := h k
    rw [tb_shl (by omega), decide_eq_true rfl, Bool.and_true] at this
    exact this
  · intro h j
    rw [tb_shl (by omega)]
    by_cases e : j = k
    · rw [e, h]
      rfl
    · rw [decide_eq_false e, Bool.and_false]
theorem qm_isOfSet {m : tZ12} {r : Nat → Int} (H : HR r (m.2.2.1 0)) {set k : Int} (hs : k32 set) (hk : k32 k) : q_X12_isOfSet m set k = some (decide (1 ≤ set ∧ set < 16 ∧ 0 ≤ k ∧ k < 40 ∧ inS r set k.toNat = true)) := by
  refine w_eq ?_
  unfold q_X12_isOfSet
  rw [qm_isSet hs, qm_isPoint H hk]
  simp only [kwp_kb, kwp_some, kwp_kif, kz_0, decide_eq_false_iff_not]
  refine ⟨fun q => (decide_eq_false (fun w => q ⟨w.1, by omega⟩)).symm, fun q => ⟨fun q2 => (decide_eq_false (fun w => q2 ⟨w.2.2.1, w.2.2.2.1, (inS_t.mp w.2.2.2.2).1⟩)).symm, fun q2 => ?_⟩⟩
  have q2 := Decidable.not_not.mp q2
  obtain ⟨n, rfl⟩ := nat_of q2.1
  rw [Int.toNat_natCast] at q2 ⊢
  rw [qm_isOf H set (by omega), kwp_some]
  refine ⟨fun w => (decide_eq_false (fun v => by rw [v.2.2.2.2] at w; cases w)).symm, fun w => (decide_eq_true ⟨by omega, by omega, q2.1, q2.2.1, by simpa using w⟩).symm⟩
theorem qm_mecOf {m : tZ12} {l : List Spt} (H : SPm m l) (hs : sorL l) (hb : bdL l) (h0 : 0 < l.length) : kwp (kb (q_X12_allSpots m) (fun x => q_X12_layCircle m x)) (fun m' => FC m m' ∧ ∃ C, MCs m'.2.1 16 C ∧ mecOf (lX l) (lY l) aM l.length C) := by
  rw [kwp_kb, qm_all H, kwp_some]
  exact qm_layAll H hs hb h0
theorem MCs_sz {J : Nat → Int} {C : Cir} (h : MCs J 16 C) : J 21 = szN C ∧ J 22 = szD C := ⟨h.2.1, h.2.2.1⟩
theorem qm_agC {C D : Cir} (hC : bdC C) (hD : bdC D) : q_X12_against (szN C) (szD C) (szN D) (szD D) = some (sgC C D) := by
  have a := sz_k hC
  have b := sz_k hD
  exact qm_against a.1 (k64_63 a.2.1) a.2.2.1 (k64_63 a.2.2.2) b.1 (k64_63 b.2.1) b.2.2.1 (k64_63 b.2.2.2)
theorem T_needed {z11 : tZ11} {z4 : tZ4} {z9 : tZ9} {z10 : tZ10} {z8 z8' : tZ8} {z0 z0' : tZ0} {m : tZ12} (H : REL z4 z9 z10 m) {set k : Int} (hs : k32 set) (hk : k32 k) : QRI m (q_X11_needed z11 z4 z8 z8' z0 z0' set k) (q_X12_needed m set k) := by
  have hH := H.1.1
  have hg := q_gather (z11 := z11) (z8 := z8) hH.1 hs
  by_cases hc : 1 ≤ set ∧ set < 16 ∧ 0 ≤ k ∧ k < 40 ∧ inS z4.1 set k.toNat = true
  · obtain ⟨n, rfl⟩ := nat_of hc.2.2.1
    rw [Int.toNat_natCast] at hc
    have hn : n < 40 := by omega
    have hl := inS_t.mp hc.2.2.2.2
    have hyes : 1 ≤ set ∧ set < 16 ∧ 0 < (GL z4.1 set (z4.1 128)).length := ⟨hc.1, hc.2.1, GL_pos hn hc.2.2.2.2⟩
    obtain ⟨⟨b, m1⟩, em, f1, hcase⟩ := qm_hasCircle hH hs
    dsimp only at f1 hcase
    rcases hcase with ⟨hno, _⟩ | ⟨_, rfl, hS, C, hC, hmec⟩
    · exact absurd hyes hno
    have H1 := HR_fq f1 hH
    -- the others of the SET
    obtain ⟨P, hP⟩ : ∃ P : Nat → Bool, P = fun j => (decide (j < 40) && inS z4.1 set j && decide (j ≠ n)) := ⟨_, rfl⟩
    have hP2 : ∀ j, P j = true → j < 40 ∧ z4.1 (80 + j) ≠ -1 := fun j h => by
      rw [hP, Bool.and_eq_true] at h
      exact PS_ok j h.1
    have hPm : ∀ j, j < 40 → P j = (decide ((j : Int) ≠ (n : Int)) && inS z4.1 set j) := fun j hj => by
      rw [hP]
      dsimp only
      rw [decide_eq_true hj, Bool.true_and, Bool.and_comm]
      congr 1
      by_cases e : j = n
      · rw [decide_eq_false (fun w => w e), decide_eq_false (fun w => w (by rw [e]))]
      · rw [decide_eq_true e, decide_eq_true (by omega)]
    have ok2 := gth_ok (fB_ok hH.1 hP2 hH.1.2.2) 40 (Nat.le_refl _)
    obtain ⟨⟨x5, m2⟩, em2, e5, hS2, f2⟩ := qm_layBut H1 set hk hPm hP2
    dsimp only at e5 hS2 f2
    subst e5
    obtain ⟨l2, hl2⟩ : ∃ l2, l2 = gth (fB z4.1 P (z4.1 128)) 40 := ⟨_, rfl⟩
    rw [← hl2] at ok2 hS2 em2
    -- the class's start
    have hcl : ∀ v : Int, (l2.length = 0 → v = 1) → (0 < l2.length → ∀ D, mecOf (lX l2) (lY l2) aM l2.length D → bdC D → v = if sgC D C < 0 then 1 else 0) → kwp (q_X11_needed z11 z4 z8 z8' z0 z0' set (n : Int)) (fun r => r.1 = v) := fun v a1 a2 => by
      unfold q_X11_needed
      rw [kwp_kb]
      refine w_mono hg ?_
      rintro ⟨b', z'⟩ h
      rcases h with ⟨h, _⟩ | ⟨_, rfl, hSc⟩
      · exact absurd hyes h
      · dsimp only at hSc ⊢
        rw [q_has hk hH.1, Int.toNat_natCast, decide_eq_true ⟨by omega, by omega, hl.1⟩]
        simp only [kwp_kif, kwp_some, kwp_kb, kwp_kg]
        refine ⟨fun q => absurd q kz_t, fun _ => ⟨fun q => absurd q kz_t, fun _ => w_mono (q_bits hH.1 set) (fun bb ⟨_, hbb⟩ => ?_)⟩⟩
        rw [mask_bit hn, hbb n, decide_eq_true hn, hc.2.2.2.2]
        refine ⟨hk, fun q => (by cases q), fun _ => w_mono (q_mec hH.1 hH.1.2.2 hSc hyes.2.2) (fun z'' ⟨g1, g2, g3, _⟩ => ?_)⟩
        refine w_of (q_now z4) (w_mono (q_collect (P := P) hH.1 (fun j hj => by rw [mask_but hn, hbb j, hP]) hP2 hH.1.2.2) (fun zz hzz => ?_))
        rw [← hl2] at hzz
        rw [q_sc hzz]
        simp only [kwp_kif, kwp_some, kwp_kb, kwp_kg]
        refine ⟨⟨by omega, by omega⟩, fun q => (a1 (by omega)).symm, fun q => w_mono (q_about hzz ok2.2.1 ok2.2.2 (by omega)) (fun zc ⟨c1', c2', _⟩ => ?_)⟩
        have hD := mecOf_in0 c1'
        rw [q_sizeAgainst c2' g2, kwp_some, sgC_P hD.1 hD.1 g1.1 hmec.1 ⟨rfl, rfl, rfl⟩ (mecOf_only g1 hmec)]
        refine ⟨sgc_k _ _ _ _, fun w => ?_, fun w => ?_⟩
        · rw [a2 (by omega) _ hD (bdC_z c2'), if_neg (by omega)]
        · rw [a2 (by omega) _ hD (bdC_z c2'), if_pos (by omega)]
    have hm : ∀ v : Int, (l2.length = 0 → v = 1) → (0 < l2.length → ∀ D, mecOf (lX l2) (lY l2) aM l2.length D → bdC D → v = if sgC D C < 0 then 1 else 0) → kwp (q_X12_needed m set (n : Int)) (fun r => r.1 = v ∧ FRM m r.2) := fun v a1 a2 => by
      unfold q_X12_needed
      rw [qm_isOfSet hH hs hk, Int.toNat_natCast, decide_eq_true hc]
      simp only [kwp_kif, kwp_some, kwp_kb, kwp_kl]
      refine ⟨fun q => absurd q kz_t, fun _ => w_of em ⟨fun q => absurd q kz_t, fun _ => w_of em2 ?_⟩⟩
      have f12 := FQ_trans f1 f2
      simp only [kwp_kif, kwp_some, kwp_kb, kwp_kg]
      refine ⟨⟨by omega, by omega⟩, fun q => ⟨(a1 (by omega)).symm, FQ_frm f12⟩, fun q => ?_⟩
      have hh := qm_mecOf hS2 ok2.2.1 ok2.2.2 (by omega)
      rw [kwp_kb] at hh
      refine w_mono hh (fun x hx => w_mono hx (fun m3 ⟨g0, D, g1, g2⟩ => ?_))
      have s1 := MCs_sz g1
      have s2 := MCs_sz hC
      rw [s1.1, s1.2, s2.1, s2.2, qm_agC (bdC_m g1) (bdC_m hC)]
      simp only [kwp_some, kwp_kif, kwp_kg]
      have ff := FQ_frm (FQ_trans f12 (FC_q g0))
      refine ⟨sgc_k _ _ _ _, fun w => ⟨?_, ff⟩, fun w => ⟨?_, ff⟩⟩
      · rw [a2 (by omega) _ g2 (bdC_m g1), if_neg (by omega)]
      · rw [a2 (by omega) _ g2 (bdC_m g1), if_pos (by omega)]
    by_cases h0 : l2.length = 0
    · exact qri_of 1 (hcl 1 (fun _ => rfl) (fun w => by omega)) (hm 1 (fun _ => rfl) (fun w => by omega)) (by decide)
    · obtain ⟨D0, hD0⟩ := mec_ex (M := aM) (dif_sor ok2.2.1) l2.length (Nat.le_refl _) ⟨0, by omega, trivial⟩
      have hD0 := mecOf_in0 hD0
      have same : ∀ D, mecOf (lX l2) (lY l2) aM l2.length D → sgC D C = sgC D0 C := fun D hD => sgC_P hD.1 hD0.1 hmec.1 hmec.1 (mecOf_only hD hD0) ⟨rfl, rfl, rfl⟩
      refine qri_of (if sgC D0 C < 0 then 1 else 0) (hcl _ (fun w => by omega) (fun _ D hD _ => by rw [same D hD])) (hm _ (fun w => by omega) (fun _ D hD _ => by rw [same D hD])) ?_
      split <;> decide
  · refine qri_of (-1) ?_ ?_ (by decide)
    · unfold q_X11_needed
      rw [kwp_kb]
      refine w_mono hg ?_
      rintro ⟨b', z'⟩ h
      simp only [kwp_kif, kwp_some, kwp_kb, kwp_kg]
      rcases h with ⟨_, rfl⟩ | ⟨hy, rfl, hSc⟩
      · exact ⟨fun _ => (by first | exact trivial | rfl), fun q => (q (by trivial)).elim⟩
      · refine ⟨fun q => absurd q kz_t, fun _ => ?_⟩
        rw [q_has hk hH.1, kwp_some, kz_0, decide_eq_false_iff_not]
        refine ⟨fun _ => (by first | exact trivial | rfl), fun q => ?_⟩
        have q := Decidable.not_not.mp q
        obtain ⟨n, rfl⟩ := nat_of q.1
        have hn : n < 40 := by omega
        refine w_mono (q_bits hH.1 set) (fun bb ⟨_, hbb⟩ => ?_)
        have hf : inS z4.1 set n = false := by
          cases e : inS z4.1 set n with
          | false => rfl
          | true => exact absurd ⟨hy.1, hy.2.1, by omega, by omega, by rw [Int.toNat_natCast]; exact e⟩ hc
        rw [mask_bit hn, hbb n, hf, Bool.and_false]
        exact ⟨hk, fun _ => (by first | exact trivial | rfl), fun w => (w (by trivial)).elim⟩
    · unfold q_X12_needed
      rw [qm_isOfSet hH hs hk, decide_eq_false hc]
      simp only [kwp_kif, kwp_some, kwp_kb]
      exact ⟨fun _ => ⟨(by first | exact trivial | rfl), FRM_rfl m⟩, fun q => (q (by trivial)).elim⟩
