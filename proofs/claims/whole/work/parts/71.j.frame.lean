/-! ===== meets: what laying the other hull leaves ===== -/
def FS (m m' : tZ12) : Prop := m'.1 53 = m.1 53 ∧ m'.2.2.1 51 = m.2.2.1 51 ∧ m'.2.2.1 52 = m.2.2.1 52
theorem FS_tr {a b c : tZ12} (h : FS a b) (g : FS b c) : FS a c := ⟨g.1.trans h.1, g.2.1.trans h.2.1, g.2.2.trans h.2.2⟩
theorem w_and {α : Type} {o : Option α} {P Q : α → Prop} (h : kwp o P) (g : kwp o Q) : kwp o (fun x => P x ∧ Q x) := by
  obtain ⟨x, e, p⟩ := h
  obtain ⟨y, e', q⟩ := g
  rw [e] at e'
  cases e'
  exact ⟨x, e, p, q⟩
theorem qm_layButS {m : tZ12} {r : Nat → Int} (H : HR r (m.2.2.1 0)) (set : Int) {but : Int} (hb : k32 but) {P : Nat → Bool} (hP : ∀ k, k < 40 → P k = (decide ((k : Int) ≠ but) && inS r set k)) (hP2 : ∀ k, P k = true → k < 40 ∧ r (80 + k) ≠ -1) :
    kwp (q_X12_layBut m set but) (fun x => x.1 = ((gth (fB r P (r 128)) 40).length : Int) ∧ SPm x.2 (gth (fB r P (r 128)) 40) ∧ FQ m x.2 ∧ FS m x.2) := by
  have ok := gth_ok (fB_ok H.1 hP2 H.1.2.2)
  unfold q_X12_layBut
  simp only [kwp_kl]
  refine w_kb (w_for (ex := 48) (by decide) (fun i (s : Int × tZ12) => s.1 = (i : Int) ∧ SPm s.2 (gth (fB r P (r 128)) i) ∧ FQ m s.2 ∧ FS m s.2) 40 ?_ ?_ (Nat.zero_le _) (by decide) ⟨rfl, ⟨by dsimp only; rw [va_same]; rfl, by show 0 ≤ 41; omega, fun i h => absurd h (Nat.not_lt_zero _)⟩, ⟨fun j hj => by dsimp only; rw [va_ne _ _ (by omega)], by dsimp only; rw [va_ne _ _ (by decide)], fun _ _ => rfl, rfl⟩, by dsimp only; rw [va_ne _ _ (by decide)], rfl, rfl⟩) ?_
  · rintro i ⟨c, s⟩ hi ⟨rfl, s2, s3⟩
    dsimp only at s2 s3
    have Hs := HR_fq s3.1 H
    unfold q_X12_layBut_L7
    simp only [kwp_kg, kwp_kif, kwp_some, kwp_kl, kwp_kb]
    rw [qm_isOf Hs set hi, kwp_some, kz_0]
    have eg : gth (fB r P (r 128)) (i + 1) = match fB r P (r 128) i with
      | none => gth (fB r P (r 128)) i
      | some v => insL v.1 v.2 (i : Int) (gth (fB r P (r 128)) i) := rfl
    obtain ⟨o1, o2, o3⟩ := ok i (by omega)
    have skip : P i = false → SPm s (gth (fB r P (r 128)) (i + 1)) := fun w => by
      rw [eg]
      unfold fB
      rw [if_neg (by rw [w]; decide)]
      exact s2
    refine ⟨⟨by omega, by omega⟩, fun q => by omega, fun _ => ⟨hb, fun q => ⟨by trivial, by omega, skip ?_, s3⟩, fun q => ⟨fun q2 => ⟨by trivial, by omega, skip ?_, s3⟩, fun q2 => ?_⟩⟩⟩
    · rw [hP i hi, decide_eq_false (fun w => w q), Bool.false_and]
    · rw [hP i hi, q2, Bool.and_false]
    · have e : P i = true := by
        rw [hP i hi, decide_eq_true q, Bool.true_and]
        simpa using q2
      have hl := (hP2 i e).2
      have hst := st_bd H.1 hi hl H.1.2.2
      rw [qm_standsX Hs hi hl, kwp_some, qm_standsY Hs hi hl, kwp_some]
      refine w_mono (qm_add s2 o2 o3 (by omega) ⟨by omega, by omega⟩ ⟨by omega, by omega⟩) (fun m' hm => ⟨by trivial, by omega, ?_, ⟨FQ_trans s3.1 hm.2.1, FS_tr s3.2 ⟨hm.2.2.2.1 53 (by decide), hm.2.2.2.2.2 51 (by decide) (by decide) (by decide), hm.2.2.2.2.2 52 (by decide) (by decide) (by decide)⟩⟩⟩)
      rw [eg]
      unfold fB
      rw [if_pos e]
      exact hm.1
  · rintro ⟨c, s⟩ ⟨rfl, h⟩
    dsimp only at h
    unfold q_X12_layBut_L7
    simp only [kwp_kg, kwp_kif, kwp_some, kwp_kl, kwp_kb]
    exact ⟨⟨by omega, by omega⟩, fun _ => ⟨by trivial, by trivial, h⟩, fun q => by omega⟩
  · rintro ⟨lb, c, s⟩ ⟨h0, _, s2, s3⟩
    dsimp only at *
    simp only [kwp_kg, kwp_some]
    exact ⟨h0, s2.1, s2, s3⟩
theorem qm_hasHullS {m : tZ12} {r : Nat → Int} (H : HR r (m.2.2.1 0)) {set : Int} (hs : k32 set) : kwp (q_X12_hasHull m set) (fun x => FS m x.2) := by
  have ok := GL_ok (set := set) H.1 H.1.2.2
  have lay : kwp (q_X12_layBut m set (-1)) (fun x => x.1 = ((GL r set (r 128)).length : Int) ∧ SPm x.2 (GL r set (r 128)) ∧ FQ m x.2 ∧ FS m x.2) :=
    qm_layButS H set (by decide) (fun k hk => by rw [decide_eq_true hk, decide_eq_true (show ((k : Nat) : Int) ≠ -1 by omega)]) PS_ok
  unfold q_X12_hasHull
  refine w_kb (P := fun x => FS m x.2 ∧ (x.1 = true → SPm x.2 (GL r set (r 128)) ∧ 0 < (GL r set (r 128)).length)) ?_ ?_
  · unfold q_X12_isLaid
    rw [qm_isSet hs]
    simp only [kwp_kb, kwp_some, kwp_kif, kz_0, decide_eq_false_iff_not]
    refine ⟨fun q => ⟨⟨rfl, rfl, rfl⟩, fun w => (Bool.noConfusion w : False).elim⟩, fun q => ?_⟩
    refine w_mono lay (fun x ⟨h1, h2, h3, h4⟩ => ?_)
    simp only [kwp_some, kwp_kif, kwp_kg]
    rw [h1]
    exact ⟨⟨by omega, by omega⟩, fun w => ⟨h4, fun w => (Bool.noConfusion w : False).elim⟩, fun w => ⟨h4, fun _ => ⟨h2, by omega⟩⟩⟩
  · rintro ⟨b, m1⟩ ⟨f0, h⟩
    dsimp only at f0 h ⊢
    simp only [kwp_kif, kz_0, kwp_some, kwp_kb]
    refine ⟨fun _ => f0, fun w => ?_⟩
    have hb : b = true := by
      cases b
      · exact absurd rfl w
      · rfl
    obtain ⟨h2, h0⟩ := h hb
    have hle := hC_le ok.2.1 h0
    rw [qm_all h2, kwp_some]
    refine w_mono (qm_layHull (P := aP) (last := (GL r set (r 128)).length - 1) h2 ok.2.2 ok.1 (fun k hk => ?_) (by omega) rfl (fun k a b => by omega) (show hC _ ≤ 41 by omega)) (fun m2 ⟨g0, g1, g2⟩ => FS_tr f0 ⟨g0.1 53 (by decide), g0.2.2.1 51 (by decide) (by decide), g0.2.2.1 52 (by decide) (by decide)⟩)
    rw [tb_all h2.2.1, decide_eq_true hk]
    rfl
