/-! ===== meets ===== -/
def MM (l l' : List Spt) : Prop := MTM (hX l (hJ l)) (hY l (hJ l)) (hC l) (hX l' (hJ l')) (hY l' (hJ l')) (hC l')
def gdR (r : Nat → Int) (set t : Int) : Prop := 1 ≤ set ∧ set < 16 ∧ 0 < (GL r set t).length
theorem MH_53 {m : tZ12} {l : List Spt} (H : MH m l) (v : Int) : MH (va_up m.1 53 v, m.2) l :=
  ⟨⟨by dsimp only; rw [va_ne _ _ (by decide)]; exact H.1.1, H.1.2.1, H.1.2.2⟩, by dsimp only; rw [va_ne _ _ (by decide)]; exact H.2.1, H.2.2⟩
theorem FQ_53 {m m' : tZ12} (h : FQ m m') (v : Int) : FQ m (va_up m'.1 53 v, m'.2) :=
  ⟨fun j hj => by dsimp only; rw [va_ne _ _ (by omega)]; exact h.1 j hj, by dsimp only; rw [va_ne _ _ (by decide)]; exact h.2.1, h.2.2.1, h.2.2.2⟩
theorem qm_meets {m : tZ12} {r : Nat → Int} (H : HR r (m.2.2.1 0)) {v1 v2 : Int} (hs1 : k32 v1) (hs2 : k32 v2) :
    kwp (q_X12_meets m v1 v2) (fun x => FQ m x.2 ∧ ((¬ (gdR r v1 (r 128) ∧ gdR r v2 (r 128)) ∧ x.1 = -1) ∨ ((gdR r v1 (r 128) ∧ gdR r v2 (r 128)) ∧ ((MM (GL r v1 (r 128)) (GL r v2 (r 128)) ∧ x.1 = 1) ∨ (¬ MM (GL r v1 (r 128)) (GL r v2 (r 128)) ∧ x.1 = 0))))) := by
  have ok1 := GL_ok (set := v1) H.1 H.1.2.2
  have ok2 := GL_ok (set := v2) H.1 H.1.2.2
  unfold q_X12_meets
  simp only [kwp_kb, kwp_kg, kwp_kif, kwp_some, kwp_kl]
  refine w_mono (qm_hasHull H hs1) ?_
  rintro ⟨b1, m1⟩ ⟨f1, h⟩
  dsimp only at f1 h ⊢
  rcases h with ⟨h, rfl⟩ | ⟨h, rfl, hS, h37, h35⟩
  · exact ⟨fun _ => ⟨f1, Or.inl ⟨fun q => h q.1, by trivial⟩⟩, fun q => (q (by trivial)).elim⟩
  refine ⟨fun q => absurd q kz_t, fun _ => ?_⟩
  have M1 : MH m1 (GL r v1 (r 128)) := ⟨hS, h37, h35⟩
  generalize hl1 : GL r v1 (r 128) = l1 at *
  have hle1 := hC_le ok1.2.1 h.2.2
  rw [h37]
  refine w_mono (qm_keepH ok1.2.1 h.2.2 ok1.1 (FQ_53 f1 (hC l1 : Int)) (MH_53 M1 (hC l1 : Int)) (by dsimp only; rw [va_same])) ?_
  rintro ⟨lb, t, m2⟩ ⟨e, f2, S⟩
  dsimp only at e f2 S ⊢
  refine ⟨e, ?_⟩
  have H2 : HR r (m2.2.2.1 0) := HR_fq f2 H
  refine w_mono (w_and (qm_hasHull H2 hs2) (qm_hasHullS H2 hs2)) ?_
  rintro ⟨b3, m3⟩ ⟨⟨f3, h'⟩, fS⟩
  dsimp only at f3 h' fS ⊢
  rcases h' with ⟨h', rfl⟩ | ⟨h', rfl, hS', h37', h35'⟩
  · exact ⟨fun _ => ⟨FQ_trans f2 f3, Or.inl ⟨fun q => h' q.2, by trivial⟩⟩, fun q => (q (by trivial)).elim⟩
  refine ⟨fun q => absurd q kz_t, fun _ => ?_⟩
  have M3 : MH m3 (GL r v2 (r 128)) := ⟨hS', h37', h35'⟩
  have gg : gdR r v1 (r 128) ∧ gdR r v2 (r 128) := ⟨⟨h.1, h.2.1, by rw [hl1]; exact h.2.2⟩, h'⟩
  generalize hl2 : GL r v2 (r 128) = l2 at *
  have hle2 := hC_le ok2.2.1 h'.2.2
  have S3 : SVm m3 (hX l1 (hJ l1)) (hY l1 (hJ l1)) (hC l1) := ⟨fS.1.trans S.1, fun i hi => by rw [fS.2.1, fS.2.2]; exact S.2 i hi⟩
  have f4 := FQ_trans f2 f3
  have p1 := hC_pos h.2.2
  have p2 := hC_pos h'.2.2
  have c1 := mhB ok1.2.1 ok1.2.2 h.2.2 p1
  have c2 := mhB ok2.2.1 ok2.2.2 h'.2.2 p2
  have a := MH_at ok2.2.1 h'.2.2 M3 p2
  have z0 : ((0 : Int).toNat) = 0 := rfl
  simp only [z0, (S3.2 0 p1).1, (S3.2 0 p1).2, a.1, a.2.2.1, a.2.2.2, Int.toNat_natCast]
  refine ⟨by decide, ⟨⟨by omega, by omega⟩, ⟨by omega, by omega⟩⟩, w_mono (qm_isWithin ok2.2.1 ok2.2.2 h'.2.2 ok2.1 M3 c1.1 c1.2) (fun b4 e4 => ⟨fun w4 => ?_, fun w4 => ⟨f4, Or.inr ⟨gg, Or.inl ⟨Or.inl (e4.1 (bt w4)), by trivial⟩⟩⟩⟩)⟩
  refine ⟨⟨by omega, by omega⟩, ⟨⟨by omega, by omega⟩, ⟨by omega, by omega⟩⟩, w_mono (qm_inOther (by omega) (fun i hi => mhB ok1.2.1 ok1.2.2 h.2.2 hi) S3 c2.1 c2.2) (fun b5 e5 => ⟨fun w5 => ?_, fun w5 => ⟨f4, Or.inr ⟨gg, Or.inl ⟨Or.inr (Or.inl (e5.1 (bt w5))), by trivial⟩⟩⟩⟩)⟩
  refine w_mono (qm_crosses ok2.2.1 ok2.2.2 h'.2.2 ok2.1 M3 (by omega) (fun i hi => mhB ok1.2.1 ok1.2.2 h.2.2 hi) S3) ?_
  rintro ⟨lb', t'⟩ g
  dsimp only at g ⊢
  rcases g with ⟨e', g⟩ | ⟨e', g⟩
  · exact ⟨fun _ => ⟨f4, Or.inr ⟨gg, Or.inl ⟨Or.inr (Or.inr g), by trivial⟩⟩⟩, fun q => absurd e' q⟩
  · refine ⟨fun q => by omega, fun _ => ⟨e', f4, Or.inr ⟨gg, Or.inr ⟨?_, by trivial⟩⟩⟩⟩
    rintro (q | q | ⟨i, j, hi, hj, q⟩)
    · exact bn e4 w4 q
    · exact bn e5 w5 q
    · exact g i hi j hj q
theorem q_meetAt {z11 : tZ11} {z4 : tZ4} {z8 z8' : tZ8} {z5 z5' : tZ5} {v1 v2 t : Int} (H : VR z4.1) (hs1 : k32 v1) (hs2 : k32 v2) (ht : 0 ≤ t ∧ t ≤ 20) :
    kwp (q_X11_meetAt z11 z4 z8 z8' z5 z5' v1 v2 t) (fun x => (¬ (gdR z4.1 v1 t ∧ gdR z4.1 v2 t) ∧ x.1 = -1) ∨ ((gdR z4.1 v1 t ∧ gdR z4.1 v2 t) ∧ ((MM (GL z4.1 v1 t) (GL z4.1 v2 t) ∧ x.1 = 1) ∨ (¬ MM (GL z4.1 v1 t) (GL z4.1 v2 t) ∧ x.1 = 0)))) := by
  have ok1 := GL_ok (set := v1) H ht
  have ok2 := GL_ok (set := v2) H ht
  unfold q_X11_meetAt
  simp only [kwp_kb, kwp_kg, kwp_kif, kwp_some, kwp_kl]
  refine w_mono (q_gatherAt H hs1 ht) ?_
  rintro ⟨b1, s1⟩ h
  dsimp only at h ⊢
  refine ⟨fun q => Or.inl ⟨fun g => ?_, by trivial⟩, fun q => ?_⟩
  · rcases h with ⟨h, _⟩ | ⟨_, _, e⟩
    · exact h ⟨g.1.1, g.1.2.1⟩
    · rw [e, decide_eq_true g.1.2.2] at q
      exact kz_t q
  have q := bt q
  rcases h with ⟨_, e⟩ | ⟨h, hS, e⟩
  · rw [q] at e
    cases e
  rw [q] at e
  have h0 := of_decide_eq_true e.symm
  refine w_mono (q_gatherAt H hs2 ht) ?_
  rintro ⟨b2, s2⟩ h'
  dsimp only at h' ⊢
  refine ⟨fun q => Or.inl ⟨fun g => ?_, by trivial⟩, fun q' => ?_⟩
  · rcases h' with ⟨h', _⟩ | ⟨_, _, e⟩
    · exact h' ⟨g.2.1, g.2.2.1⟩
    · rw [e, decide_eq_true g.2.2.2] at q
      exact kz_t q
  have q' := bt q'
  rcases h' with ⟨_, e'⟩ | ⟨h', hS', e'⟩
  · rw [q'] at e'
    cases e'
  rw [q'] at e'
  have h0' := of_decide_eq_true e'.symm
  have gg : gdR z4.1 v1 t ∧ gdR z4.1 v2 t := ⟨⟨h.1, h.2, h0⟩, ⟨h'.1, h'.2, h0'⟩⟩
  generalize GL z4.1 v1 t = l1 at *
  generalize GL z4.1 v2 t = l2 at *
  refine w_mono (q_outline (z := z5) hS ok1.2.2 ok1.1 h0) (fun o1 O1 => ?_)
  refine w_mono (q_outline (z := z5') hS' ok2.2.2 ok2.1 h0') (fun o2 O2 => ?_)
  have O1 : OU o1 l1 (hJ l1) (hC l1) := O1
  have O2 : OU o2 l2 (hJ l2) (hC l2) := O2
  have mi := meet_iff (PG_hull ok1.2.1 h0) (PG_hull ok2.2.1 h0')
  refine w_mono (q_touches ok1.2.2 ok2.2.2 O1 O2 (hC_pos h0) (hC_pos h0')) (fun b e => ⟨fun w => Or.inr ⟨gg, Or.inr ⟨fun q => bn e w (mi.1 q), by trivial⟩⟩, fun w => Or.inr ⟨gg, Or.inl ⟨mi.2 (e.1 (bt w)), by trivial⟩⟩⟩)
theorem LG_def (z4 : tZ4) (set : Int) : LG z4 set = GL z4.1 set (z4.1 128) := rfl
theorem T_meets {z11 : tZ11} {z4 : tZ4} {z9 : tZ9} {z10 : tZ10} {z8 z8' : tZ8} {z5 z5' : tZ5} {m : tZ12} (H : REL z4 z9 z10 m) {v1 v2 : Int} (hs1 : k32 v1) (hs2 : k32 v2) : QRI m (q_X11_meets z11 z4 z8 z8' z5 z5' v1 v2) (q_X12_meets m v1 v2) := by
  have hH := H.1.1
  have hc : kwp (q_X11_meets z11 z4 z8 z8' z5 z5' v1 v2) (fun x => (¬ (gdR z4.1 v1 (z4.1 128) ∧ gdR z4.1 v2 (z4.1 128)) ∧ x.1 = -1) ∨ ((gdR z4.1 v1 (z4.1 128) ∧ gdR z4.1 v2 (z4.1 128)) ∧ ((MM (GL z4.1 v1 (z4.1 128)) (GL z4.1 v2 (z4.1 128)) ∧ x.1 = 1) ∨ (¬ MM (GL z4.1 v1 (z4.1 128)) (GL z4.1 v2 (z4.1 128)) ∧ x.1 = 0)))) := by
    unfold q_X11_meets
    simp only [kwp_kb, kwp_some]
    exact w_of (q_now z4) (q_meetAt hH.1 hs1 hs2 hH.1.2.2)
  obtain ⟨x, ex, hx⟩ := hc
  obtain ⟨y, ey, fy, hy⟩ := qm_meets hH hs1 hs2
  refine ⟨x, ex, y, ey, ?_, ?_, FQ_frm fy⟩
  · rcases hx with ⟨n, e⟩ | ⟨g, ⟨p, e⟩ | ⟨p, e⟩⟩ <;> rcases hy with ⟨n', e'⟩ | ⟨g', ⟨p', e'⟩ | ⟨p', e'⟩⟩
    · rw [e, e']
    · exact absurd g' n
    · exact absurd g' n
    · exact absurd g n'
    · rw [e, e']
    · exact absurd p p'
    · exact absurd g n'
    · exact absurd p' p
    · rw [e, e']
  · rcases hx with ⟨n, e⟩ | ⟨g, ⟨p, e⟩ | ⟨p, e⟩⟩ <;> rw [e] <;> decide
