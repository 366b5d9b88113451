/-! ===== SPOTS of a SET ===== -/
theorem gth_congr {f g : Nat → Option (Int × Int)} : ∀ n, (∀ k, k < n → f k = g k) → gth f n = gth g n := by
  intro n
  induction n with
  | zero => intro _; rfl
  | succ n ih =>
    intro h
    unfold gth
    rw [h n (by omega), ih (fun k hk => h k (by omega))]
def inS (r : Nat → Int) (set : Int) (k : Nat) : Bool := lv r k && decide (sb set (r (80 + k)) = 1)
theorem inS_t {r : Nat → Int} {set : Int} {k : Nat} : inS r set k = true ↔ r (80 + k) ≠ -1 ∧ sb set (r (80 + k)) = 1 := by
  unfold inS
  rw [Bool.and_eq_true, lv_t, decide_eq_true_iff]
def fB (r : Nat → Int) (P : Nat → Bool) (t : Int) (k : Nat) : Option (Int × Int) := if P k = true then some (stX r k t, stY r k t) else none
theorem fB_ok {r : Nat → Int} {P : Nat → Bool} {t : Int} (H : VR r) (hP : ∀ k, P k = true → k < 40 ∧ r (80 + k) ≠ -1) (ht : 0 ≤ t ∧ t ≤ 20) : ∀ k v, fB r P t k = some v → -160 ≤ v.1 ∧ v.1 ≤ 160 ∧ -160 ≤ v.2 ∧ v.2 ≤ 160 := by
  intro k v h
  unfold fB at h
  by_cases e : P k = true
  · rw [if_pos e] at h
    cases h
    have := hP k e
    exact st_bd H this.1 this.2 ht
  · rw [if_neg e] at h
    cases h
theorem q_bits {z : tZ4} (H : VR z.1) (set : Int) : kwp (q_X4_bits z set) (fun b => k64 b ∧ ∀ k, tb b k = (decide (k < 40) && inS z.1 set k)) := by
  unfold q_X4_bits
  refine w_kb (w_for (ex := 54) (by decide) (fun i (s : Int × Int) => s.2 = (i : Int) ∧ k64 s.1 ∧ ∀ k, tb s.1 k = (decide (k < i) && inS z.1 set k)) 40 ?_ ?_ (Nat.zero_le _) (by decide) ⟨rfl, (by decide : k64 0), fun k => by rw [tb_zero, decide_eq_false (Nat.not_lt_zero k)]; rfl⟩) ?_
  · rintro i ⟨c, s⟩ hi ⟨rfl, s2, s3⟩
    dsimp only at s2 s3
    unfold q_X4_bits_L5
    simp only [kwp_kg, kwp_kif, kwp_some, kwp_kl, kwp_kb, tn80]
    rw [q_isHeap (VR_k H hi), kwp_some, kz_0]
    have skip : inS z.1 set i = false → ∀ k, tb c k = (decide (k < i + 1) && inS z.1 set k) := fun w k => by
      rw [s3 k]
      by_cases e : k = i
      · subst e
        rw [w, Bool.and_false, Bool.and_false]
      · by_cases e2 : k < i
        · rw [decide_eq_true e2, decide_eq_true (by omega)]
        · rw [decide_eq_false e2, decide_eq_false (by omega)]
    have sbe : zand32 (zshr32 set (zand32 (z.1 (80 + i)) 31)) 1 = sb set (z.1 (80 + i)) := rfl
    rw [sbe]
    have s01 := sb_01 set (z.1 (80 + i))
    refine ⟨⟨by omega, by omega⟩, fun q => by omega, fun _ => ⟨⟨by omega, by omega⟩, fun q => ⟨by trivial, by omega, s2, skip ?_⟩, fun q => ⟨fun q2 => ⟨by trivial, by omega, s2, skip ?_⟩, fun q2 => ⟨by trivial, by omega, k64_or _ _, fun k => ?_⟩⟩⟩⟩
    · cases h : inS z.1 set i with
      | false => rfl
      | true =>
        have h := inS_t.mp h
        have q := of_decide_eq_false q
        rcases H.1 i hi with e | e
        · exact absurd e h.1
        · omega
    · cases h : inS z.1 set i with
      | false => rfl
      | true =>
        have h := inS_t.mp h
        omega
    · have hin : inS z.1 set i = true := inS_t.mpr ⟨fun e => by rw [e] at q; exact q (by decide), by omega⟩
      rw [tb_or, tb_shl (by omega), s3 k]
      by_cases e : k = i
      · subst e
        rw [hin]
        simp
      · by_cases e2 : k < i
        · rw [decide_eq_true e2, decide_eq_true (show k < i + 1 by omega), decide_eq_false e, Bool.or_false]
        · rw [decide_eq_false e2, decide_eq_false (show ¬ k < i + 1 by omega), decide_eq_false e, Bool.or_false]
  · rintro ⟨c, s⟩ ⟨rfl, h⟩
    dsimp only at h
    unfold q_X4_bits_L5
    simp only [kwp_kg, kwp_kif, kwp_some, kwp_kl, kwp_kb]
    exact ⟨⟨by omega, by omega⟩, fun _ => ⟨by trivial, by trivial, h⟩, fun q => by omega⟩
  · rintro ⟨lb, c, s⟩ ⟨h0, _, s2, s3⟩
    dsimp only at *
    simp only [kwp_kg, kwp_some]
    exact ⟨h0, s2, s3⟩
theorem q_collect {z8 : tZ8} {z4 : tZ4} {b t : Int} {P : Nat → Bool} (H : VR z4.1) (hb : ∀ k, k < 40 → tb b k = P k) (hP : ∀ k, P k = true → k < 40 ∧ z4.1 (80 + k) ≠ -1) (ht : 0 ≤ t ∧ t ≤ 20) :
    kwp (q_X8_collect z8 z4 b t) (fun z' => SPc z' (gth (fB z4.1 P t) 40)) := by
  have ok := gth_ok (fB_ok H hP ht)
  unfold q_X8_collect
  simp only [kwp_kl]
  refine w_kb (w_for (ex := 54) (by decide) (fun i (s : Int × tZ8) => s.1 = (i : Int) ∧ SPc s.2 (gth (fB z4.1 P t) i)) 40 ?_ ?_ (Nat.zero_le _) (by decide) ⟨rfl, rfl, by show 0 ≤ 41; omega, fun i h => absurd h (Nat.not_lt_zero _)⟩) ?_
  · rintro i ⟨c, s⟩ hi ⟨rfl, s2⟩
    dsimp only at s2
    unfold q_X8_collect_L8
    simp only [kwp_kg, kwp_kif, kwp_some, kwp_kl, kwp_kb]
    rw [bit_at (by omega), hb i hi]
    have eg : gth (fB z4.1 P t) (i + 1) = match fB z4.1 P t i with
      | none => gth (fB z4.1 P t) i
      | some v => insL v.1 v.2 (i : Int) (gth (fB z4.1 P t) i) := rfl
    obtain ⟨o1, o2, o3⟩ := ok i (by omega)
    refine ⟨⟨by omega, by omega⟩, fun q => by omega, fun _ => ⟨fun q => ⟨by trivial, by omega, ?_⟩, fun q => ?_⟩⟩
    · have e : ¬ P i = true := fun w => by rw [if_pos w] at q; omega
      rw [eg]
      unfold fB
      rw [if_neg e]
      exact s2
    · have e : P i = true := by
        by_cases w : P i = true
        · exact w
        · rw [if_neg w] at q; omega
      have hl := (hP i e).2
      have hst := st_bd H hi hl ht
      rw [q_standX H hi hl, kwp_some, q_standY H hi hl, kwp_some]
      refine w_mono (q_add s2 o2 o3 (by omega) ⟨by omega, by omega⟩ ⟨by omega, by omega⟩) (fun z' hz => ⟨by trivial, by omega, ?_⟩)
      rw [eg]
      unfold fB
      rw [if_pos e]
      exact hz
  · rintro ⟨c, s⟩ ⟨rfl, h⟩
    dsimp only at h
    unfold q_X8_collect_L8
    simp only [kwp_kg, kwp_kif, kwp_some, kwp_kl, kwp_kb]
    exact ⟨⟨by omega, by omega⟩, fun _ => ⟨by trivial, by trivial, h⟩, fun q => by omega⟩
  · rintro ⟨lb, c, s⟩ ⟨h0, _, s2⟩
    dsimp only at *
    simp only [kwp_kg, kwp_some]
    exact ⟨h0, s2⟩
/-- the SPOTS of a SET at a TICK -/
noncomputable def GL (r : Nat → Int) (set t : Int) : List Spt := gth (fB r (fun k => decide (k < 40) && inS r set k) t) 40
theorem PS_ok {r : Nat → Int} {set : Int} : ∀ k, (decide (k < 40) && inS r set k) = true → k < 40 ∧ r (80 + k) ≠ -1 := by
  intro k h
  rw [Bool.and_eq_true, decide_eq_true_iff, inS_t] at h
  exact ⟨h.1, h.2.1⟩
theorem GL_ok {r : Nat → Int} {set t : Int} (H : VR r) (ht : 0 ≤ t ∧ t ≤ 20) : (GL r set t).length ≤ 40 ∧ sorL (GL r set t) ∧ bdL (GL r set t) := gth_ok (fB_ok H PS_ok ht) 40 (Nat.le_refl _)
theorem q_gatherAt {z11 : tZ11} {z4 : tZ4} {z8 : tZ8} {set t : Int} (H : VR z4.1) (hs : k32 set) (ht : 0 ≤ t ∧ t ≤ 20) :
    kwp (q_X11_gatherAt z11 z4 z8 set t) (fun x => (¬ (1 ≤ set ∧ set < 16) ∧ x.1 = false) ∨ ((1 ≤ set ∧ set < 16) ∧ SPc x.2 (GL z4.1 set t) ∧ x.1 = decide (0 < (GL z4.1 set t).length))) := by
  unfold q_X11_gatherAt
  rw [q_isSet hs]
  simp only [kwp_kb, kwp_some, kwp_kif, kz_0, decide_eq_false_iff_not]
  refine ⟨fun q => Or.inl ⟨q, by trivial⟩, fun q => ?_⟩
  have q := Decidable.not_not.mp q
  refine w_mono (q_bits H set) (fun b ⟨_, hb⟩ => ?_)
  refine w_mono (q_collect (t := t) H (fun k _ => hb k) PS_ok ht) (fun z' hz => ?_)
  have hz1 : SPc z' (GL z4.1 set t) := hz
  obtain ⟨c1, c2, c3⟩ := hz1
  have hz1 : SPc z' (GL z4.1 set t) := hz
  unfold q_X8_count
  simp only [kwp_some, kwp_kif, kwp_kg]
  rw [c1]
  exact ⟨⟨by omega, by omega⟩, fun w => Or.inr ⟨q, hz1, (decide_eq_false (by omega)).symm⟩, fun w => Or.inr ⟨q, hz1, (decide_eq_true (by omega)).symm⟩⟩
theorem qm_isOf {m : tZ12} {r : Nat → Int} (H : HR r (m.2.2.1 0)) (set : Int) {k : Nat} (hk : k < 40) : q_X12_isOf m set (k : Int) = some (inS r set k) := by
  refine w_eq ?_
  unfold q_X12_isOf
  simp only [kwp_kg, kwp_kif, kwp_some, tn0, tn120]
  rcases H.2.1 k hk with q | q
  · rw [q.2]
    refine ⟨⟨by omega, by omega⟩, by decide, fun w => absurd w (by decide), fun _ => ?_⟩
    cases h : inS r set k with
    | false => rfl
    | true => exact absurd q.1 (inS_t.mp h).1
  · rw [q.2.1, q.2.2.2.2]
    have sbe : zand32 (zshr32 set (zand32 (r (80 + k)) 31)) 1 = sb set (r (80 + k)) := rfl
    rw [sbe]
    refine ⟨⟨by omega, by omega⟩, by decide, fun _ => ⟨⟨by omega, by omega⟩, fun w => (inS_t.mpr ⟨q.1, w⟩).symm, fun w => ?_⟩, fun w => (w (by trivial)).elim⟩
    cases h : inS r set k with
    | false => rfl
    | true => exact absurd (inS_t.mp h).2 w
theorem qm_layBut {m : tZ12} {r : Nat → Int} (H : HR r (m.2.2.1 0)) (set : Int) {but : Int} (hb : k32 but) {P : Nat → Bool} (hP : ∀ k, k < 40 → P k = (decide ((k : Int) ≠ but) && inS r set k)) (hP2 : ∀ k, P k = true → k < 40 ∧ r (80 + k) ≠ -1) :
    kwp (q_X12_layBut m set but) (fun x => x.1 = ((gth (fB r P (r 128)) 40).length : Int) ∧ SPm x.2 (gth (fB r P (r 128)) 40) ∧ FQ m x.2) := by
  have ok := gth_ok (fB_ok H.1 hP2 H.1.2.2)
  unfold q_X12_layBut
  simp only [kwp_kl]
  refine w_kb (w_for (ex := 48) (by decide) (fun i (s : Int × tZ12) => s.1 = (i : Int) ∧ SPm s.2 (gth (fB r P (r 128)) i) ∧ FQ m s.2) 40 ?_ ?_ (Nat.zero_le _) (by decide) ⟨rfl, ⟨by dsimp only; rw [va_same]; rfl, by show 0 ≤ 41; omega, fun i h => absurd h (Nat.not_lt_zero _)⟩, ⟨fun j hj => by dsimp only; rw [va_ne _ _ (by omega)], by dsimp only; rw [va_ne _ _ (by decide)], fun _ _ => rfl, rfl⟩⟩) ?_
  · rintro i ⟨c, s⟩ hi ⟨rfl, s2, s3⟩
    dsimp only at s2 s3
    have Hs := HR_fq s3 H
    unfold q_X12_layBut_L7
    simp only [kwp_kg, kwp_kif, kwp_some, kwp_kl, kwp_kb]
    rw [qm_isOf Hs set hi, kwp_some, kz_0]
    have eg : gth (fB r P (r 128)) (i + 1) = match fB r P (r 128) i with
      | none => gth (fB r P (r 128)) i
      | some v => insL v.1 v.2 (i : Int) (gth (fB r P (r 128)) i) := rfl
    obtain ⟨o1, o2, o3⟩ := ok i (by omega)
    have skip : P i = false → SPm s (gth (fB r P (r 128)) (i + 1)) := fun w => by
      rw [eg]
      unfold fB
      rw [if_neg (by rw [w]; decide)]
      exact s2
    refine ⟨⟨by omega, by omega⟩, fun q => by omega, fun _ => ⟨hb, fun q => ⟨by trivial, by omega, skip ?_, s3⟩, fun q => ⟨fun q2 => ⟨by trivial, by omega, skip ?_, s3⟩, fun q2 => ?_⟩⟩⟩
    · rw [hP i hi, decide_eq_false (fun w => w q), Bool.false_and]
    · rw [hP i hi, q2, Bool.and_false]
    · have e : P i = true := by
        rw [hP i hi, decide_eq_true q, Bool.true_and]
        simpa using q2
      have hl := (hP2 i e).2
      have hst := st_bd H.1 hi hl H.1.2.2
      rw [qm_standsX Hs hi hl, kwp_some, qm_standsY Hs hi hl, kwp_some]
      refine w_mono (qm_add s2 o2 o3 (by omega) ⟨by omega, by omega⟩ ⟨by omega, by omega⟩) (fun m' hm => ⟨by trivial, by omega, ?_, FQ_trans s3 hm.2.1⟩)
      rw [eg]
      unfold fB
      rw [if_pos e]
      exact hm.1
  · rintro ⟨c, s⟩ ⟨rfl, h⟩
    dsimp only at h
    unfold q_X12_layBut_L7
    simp only [kwp_kg, kwp_kif, kwp_some, kwp_kl, kwp_kb]
    exact ⟨⟨by omega, by omega⟩, fun _ => ⟨by trivial, by trivial, h⟩, fun q => by omega⟩
  · rintro ⟨lb, c, s⟩ ⟨h0, _, s2, s3⟩
    dsimp only at *
    simp only [kwp_kg, kwp_some]
    exact ⟨h0, s2.1, s2, s3⟩
theorem qm_laySet {m : tZ12} {r : Nat → Int} (H : HR r (m.2.2.1 0)) (set : Int) : kwp (q_X12_layBut m set (-1)) (fun x => x.1 = ((GL r set (r 128)).length : Int) ∧ SPm x.2 (GL r set (r 128)) ∧ FQ m x.2) :=
  qm_layBut H set (by decide) (fun k hk => by rw [decide_eq_true hk, decide_eq_true (show ((k : Nat) : Int) ≠ -1 by omega)]) PS_ok
theorem qm_isLaid {m : tZ12} {r : Nat → Int} (H : HR r (m.2.2.1 0)) {set : Int} (hs : k32 set) :
    kwp (q_X12_isLaid m set) (fun x => FQ m x.2 ∧ ((¬ (1 ≤ set ∧ set < 16) ∧ x.1 = false) ∨ ((1 ≤ set ∧ set < 16) ∧ SPm x.2 (GL r set (r 128)) ∧ x.1 = decide (0 < (GL r set (r 128)).length)))) := by
  have ok := GL_ok (set := set) H.1 H.1.2.2
  unfold q_X12_isLaid
  rw [qm_isSet hs]
  simp only [kwp_kb, kwp_some, kwp_kif, kz_0, decide_eq_false_iff_not]
  refine ⟨fun q => ⟨FQ_rfl m, Or.inl ⟨by omega, by trivial⟩⟩, fun q => ?_⟩
  refine w_mono (qm_laySet H set) (fun x ⟨h1, h2, h3⟩ => ?_)
  simp only [kwp_some, kwp_kif, kwp_kg]
  rw [h1]
  exact ⟨⟨by omega, by omega⟩, fun w => ⟨h3, Or.inr ⟨by omega, h2, (decide_eq_false (by omega)).symm⟩⟩, fun w => ⟨h3, Or.inr ⟨by omega, h2, (decide_eq_true (by omega)).symm⟩⟩⟩
