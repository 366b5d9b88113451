/-! ===== area, as an int ===== -/
theorem T_areaI {z11 : tZ11} {z4 : tZ4} {z9 : tZ9} {z10 : tZ10} {z8 : tZ8} {z5 : tZ5} {m : tZ12} (H : REL z4 z9 z10 m) {set : Int} (hs : k32 set) : QRI m (q_X11_area z11 z4 z8 z5 set) (q_X12_area m set) := by
  have hH := H.1.1
  have ok := GL_ok (set := set) hH.1 hH.1.2.2
  have hm := qm_hasHull hH hs
  have hc := q_gather (z11 := z11) (z8 := z8) hH.1 hs
  obtain ⟨l, hl⟩ : ∃ l, l = GL z4.1 set (z4.1 128) := ⟨_, rfl⟩
  rw [← hl] at hm hc ok
  by_cases hg : 1 ≤ set ∧ set < 16 ∧ 0 < l.length
  · have hle := hC_le ok.2.1 hg.2.2
    have hp := hC_pos hg.2.2
    have hj : ∀ i, i < hC l → hJ l i < l.length := fun i hi => hJ_lt ok.2.1 hg.2.2 hi
    have bd := sumA_bd ok.2.2 hj (hC l) (Nat.le_refl _)
    refine qri_of (sumA l (hJ l) (hC l) (hC l)) ?_ ?_ ⟨by omega, by omega⟩
    · unfold q_X11_area
      simp only [kwp_kg, kwp_kif, kwp_kb, kwp_some]
      refine w_mono hc ?_
      rintro ⟨b', z'⟩ h
      rcases h with ⟨h, _⟩ | ⟨_, rfl, hS⟩
      · exact absurd hg h
      · exact ⟨fun q => absurd q kz_t, fun _ => w_mono (q_hasOutline (set := set) hH.1 hl hg.2.2 hS) (fun z2 ho => w_of (q_area ok.2.2 ho hp) rfl)⟩
    · unfold q_X12_area
      simp only [kwp_kg, kwp_kif, kwp_kb, kwp_some]
      refine w_mono hm ?_
      rintro ⟨b', m2⟩ ⟨f2, h⟩
      rcases h with ⟨h, _⟩ | ⟨_, rfl, hS, h37, h35⟩
      · exact absurd hg h
      · exact ⟨fun q => absurd q kz_t, fun _ => w_of (qm_area hS ok.2.2 h37 h35 hj hp (by omega)) ⟨rfl, FQ_frm f2⟩⟩
  · refine qri_of (-1) ?_ ?_ (by decide)
    · unfold q_X11_area
      simp only [kwp_kg, kwp_kif, kwp_kb, kwp_some]
      refine w_mono hc ?_
      rintro ⟨b', z'⟩ h
      rcases h with ⟨_, rfl⟩ | ⟨h, _⟩
      · exact ⟨fun _ => (by first | exact trivial | rfl), fun q => (q (by trivial)).elim⟩
      · exact absurd h hg
    · unfold q_X12_area
      simp only [kwp_kg, kwp_kif, kwp_kb, kwp_some]
      refine w_mono hm ?_
      rintro ⟨b', m2⟩ ⟨f2, h⟩
      rcases h with ⟨_, rfl⟩ | ⟨h, _⟩
      · exact ⟨fun _ => ⟨(by first | exact trivial | rfl), FQ_frm f2⟩, fun q => (q (by trivial)).elim⟩
      · exact absurd h hg
/-! ===== the law's loop, pure ===== -/
abbrev LwS : Type := Int × tZ11 × tZ4 × tZ9 × tZ8 × tZ8 × tZ0 × tZ0 × tZ5 × tZ5 × tZ6 × tZ8 × tZ5 × tZ1 × tZ7 × tZ2 × tZ0 × tZ10 × tZ3 × tZ3 × tZ12
def LwI (L n : Nat) (s : LwS) : Prop := 0 ≤ s.1 ∧ s.1 ≤ (L : Int) ∧ n = ((L : Int) - s.1).toNat ∧ REL s.2.2.1 s.2.2.2.1 s.2.2.2.2.2.2.2.2.2.2.2.2.2.2.2.2.2.1 s.2.2.2.2.2.2.2.2.2.2.2.2.2.2.2.2.2.2.2.2
def LwQ (L n : Nat) (e : Nat × LwS) : Prop := (e.1 = 18 ∧ ∃ m, m < n ∧ LwI L m e.2) ∨ (e.1 ≠ 18 ∧ e.1 = 1647)
theorem l_go {L n : Nat} {i : Int} {r : tZ11 × tZ4 × tZ9 × tZ8 × tZ8 × tZ0 × tZ0 × tZ5 × tZ5 × tZ6 × tZ8 × tZ5 × tZ1 × tZ7 × tZ2 × tZ0 × tZ10 × tZ3 × tZ3 × tZ12} (h0 : 0 ≤ i) (h1 : i ≤ (L : Int) - 6) (hn : n = ((L : Int) - i).toNat)
    (H : REL r.2.1 r.2.2.1 r.2.2.2.2.2.2.2.2.2.2.2.2.2.2.2.2.1 r.2.2.2.2.2.2.2.2.2.2.2.2.2.2.2.2.2.2.2) : LwQ L n (18, (i + 6, r)) :=
  Or.inl ⟨rfl, ((L : Int) - (i + 6)).toNat, by omega, by show 0 ≤ i + 6; omega, by show i + 6 ≤ (L : Int); omega, rfl, H⟩

theorem law_body {L : Nat} (hL : L ≤ 3072) {xs : Nat → Int} (kx : ∀ k, k32 (xs k)) {n : Nat} {s : LwS} (I : LwI L n s) : kwp (q_L_law_L18 L xs s) (LwQ L n) := by
  obtain ⟨h0, hle, hn, H⟩ := I
  unfold q_L_law_L18
  refine kwp_kg.2 ⟨⟨⟨by omega, by omega⟩, ⟨by omega, by omega⟩⟩, kwp_kif.2 ⟨fun _ => kwp_some.2 (Or.inr ⟨fun q => absurd (show (1647 : Nat) = 18 from q) (by decide), rfl⟩), fun w => ?_⟩⟩
  have h1' : s.1 ≤ (L : Int) - 6 := by omega
  have G0 : 0 ≤ s.1 ∧ s.1 < (L : Int) ∧ L ≤ 4096 := ⟨by omega, by omega, by omega⟩
  have G1 : 0 ≤ s.1 + (1 : Int) ∧ s.1 + (1 : Int) < (L : Int) ∧ L ≤ 4096 := ⟨by omega, by omega, by omega⟩
  have G2 : 0 ≤ s.1 + (2 : Int) ∧ s.1 + (2 : Int) < (L : Int) ∧ L ≤ 4096 := ⟨by omega, by omega, by omega⟩
  have G3 : 0 ≤ s.1 + (3 : Int) ∧ s.1 + (3 : Int) < (L : Int) ∧ L ≤ 4096 := ⟨by omega, by omega, by omega⟩
  have G4 : 0 ≤ s.1 + (4 : Int) ∧ s.1 + (4 : Int) < (L : Int) ∧ L ≤ 4096 := ⟨by omega, by omega, by omega⟩
  have G5 : 0 ≤ s.1 + (5 : Int) ∧ s.1 + (5 : Int) < (L : Int) ∧ L ≤ 4096 := ⟨by omega, by omega, by omega⟩
  refine kwp_kg.2 ⟨G0, ?_⟩
  refine kwp_kif.2 ⟨fun _ => kwp_kg.2 ⟨G1, kwp_kg.2 ⟨G2, kwp_kg.2 ⟨G3, kwp_kg.2 ⟨G4, kwp_kg.2 ⟨G5, kwp_kb.2 (w_mono (T_feed H _ _ _ _ _) (fun x1 h1 => kwp_kb.2 (w_mono h1 (fun x2 h2 => kwp_kg.2 ⟨⟨h2.2.1, by rw [← h2.1]; exact h2.2.1⟩, kwp_kif.2 ⟨fun _ => kwp_kl.2 (kwp_some.2 (l_go h0 h1' hn (h2.2.2))), fun ne => absurd h2.1 ne⟩⟩))))⟩⟩⟩⟩⟩, fun _ => ?_⟩
  refine kwp_kif.2 ⟨fun _ => kwp_kg.2 ⟨G1, kwp_kb.2 (w_mono (T_end H (kx _)) (fun x1 h1 => kwp_kb.2 (w_mono h1 (fun x2 h2 => kwp_kg.2 ⟨⟨h2.2.1, by rw [← h2.1]; exact h2.2.1⟩, kwp_kif.2 ⟨fun _ => kwp_kl.2 (kwp_some.2 (l_go h0 h1' hn (h2.2.2))), fun ne => absurd h2.1 ne⟩⟩))))⟩, fun _ => ?_⟩
  refine kwp_kif.2 ⟨fun _ => kwp_kb.2 (w_mono (T_text H ) (fun x1 h1 => kwp_kb.2 (w_mono h1 (fun x2 h2 => kwp_kg.2 ⟨⟨h2.2.1, by rw [← h2.1]; exact h2.2.1⟩, kwp_kif.2 ⟨fun _ => kwp_kl.2 (kwp_some.2 (l_go h0 h1' hn (h2.2.2))), fun ne => absurd h2.1 ne⟩⟩)))), fun _ => ?_⟩
  refine kwp_kif.2 ⟨fun _ => (by
      obtain ⟨v, e1, e2, kv⟩ := T_fault H 
      exact kwp_kb.2 (w_of e1 (kwp_kb.2 (w_of e2 (kwp_kg.2 ⟨⟨kv, kv⟩, kwp_kif.2 ⟨fun _ => kwp_kl.2 (kwp_some.2 (l_go h0 h1' hn H)), fun ne => absurd rfl ne⟩⟩))))), fun _ => ?_⟩
  refine kwp_kif.2 ⟨fun _ => kwp_kg.2 ⟨G1, kwp_kg.2 ⟨G2, kwp_kg.2 ⟨G3, kwp_kb.2 (w_mono (T_put H (kx _) (kx _) (kx _)) (fun x1 h1 => kwp_kb.2 (w_mono h1 (fun x2 h2 => kwp_kg.2 ⟨⟨h2.2.1, by rw [← h2.1]; exact h2.2.1⟩, kwp_kif.2 ⟨fun _ => kwp_kl.2 (kwp_some.2 (l_go h0 h1' hn (h2.2.2))), fun ne => absurd h2.1 ne⟩⟩))))⟩⟩⟩, fun _ => ?_⟩
  refine kwp_kif.2 ⟨fun _ => kwp_kg.2 ⟨G1, kwp_kb.2 (w_mono (T_gone H (kx _)) (fun x1 h1 => kwp_kb.2 (w_mono h1 (fun x2 h2 => kwp_kif.2 ⟨fun _ => kwp_kl.2 (kwp_some.2 (l_go h0 h1' hn h2.2)), fun ne => absurd (congrArg kz h2.1) ne⟩))))⟩, fun _ => ?_⟩
  refine kwp_kif.2 ⟨fun _ => kwp_kg.2 ⟨G1, kwp_kg.2 ⟨G2, kwp_kg.2 ⟨G3, kwp_kb.2 (w_mono (T_moved H (kx _) (kx _) (kx _)) (fun x1 h1 => kwp_kb.2 (w_mono h1 (fun x2 h2 => kwp_kif.2 ⟨fun _ => kwp_kl.2 (kwp_some.2 (l_go h0 h1' hn h2.2)), fun ne => absurd (congrArg kz h2.1) ne⟩))))⟩⟩⟩, fun _ => ?_⟩
  refine kwp_kif.2 ⟨fun _ => kwp_kg.2 ⟨G1, kwp_kg.2 ⟨G2, kwp_kg.2 ⟨G3, kwp_kb.2 (w_mono (T_pace H (kx _) (kx _) (kx _)) (fun x1 h1 => kwp_kb.2 (w_mono h1 (fun x2 h2 => kwp_kif.2 ⟨fun _ => kwp_kl.2 (kwp_some.2 (l_go h0 h1' hn h2.2)), fun ne => absurd (congrArg kz h2.1) ne⟩))))⟩⟩⟩, fun _ => ?_⟩
  refine kwp_kif.2 ⟨fun _ => kwp_kg.2 ⟨G1, kwp_kb.2 (w_mono (T_tick H (kx _)) (fun x1 h1 => kwp_kb.2 (w_mono h1 (fun x2 h2 => kwp_kg.2 ⟨⟨h2.2.1, by rw [← h2.1]; exact h2.2.1⟩, kwp_kif.2 ⟨fun _ => kwp_kl.2 (kwp_some.2 (l_go h0 h1' hn (h2.2.2))), fun ne => absurd h2.1 ne⟩⟩))))⟩, fun _ => ?_⟩
  refine kwp_kif.2 ⟨fun _ => kwp_kb.2 (w_mono (T_back H ) (fun x1 h1 => kwp_kb.2 (w_mono h1 (fun x2 h2 => kwp_kg.2 ⟨⟨h2.2.1, by rw [← h2.1]; exact h2.2.1⟩, kwp_kif.2 ⟨fun _ => kwp_kl.2 (kwp_some.2 (l_go h0 h1' hn (h2.2.2))), fun ne => absurd h2.1 ne⟩⟩)))), fun _ => ?_⟩
  refine kwp_kif.2 ⟨fun _ => kwp_kg.2 ⟨G1, kwp_kb.2 (w_mono (T_is H (kx _)) (fun x1 h1 => kwp_kb.2 (w_mono h1 (fun x2 h2 => kwp_kg.2 ⟨⟨h2.2, by rw [← h2.1]; exact h2.2⟩, kwp_kif.2 ⟨fun _ => kwp_kl.2 (kwp_some.2 (l_go h0 h1' hn (H))), fun ne => absurd h2.1 ne⟩⟩))))⟩, fun _ => ?_⟩
  refine kwp_kif.2 ⟨fun _ => kwp_kg.2 ⟨G1, kwp_kg.2 ⟨G2, (by
      obtain ⟨v, e1, e2, kv⟩ := T_point H (kx _) (kx _)
      exact kwp_kb.2 (w_of e1 (kwp_kb.2 (w_of e2 (kwp_kg.2 ⟨⟨kv, kv⟩, kwp_kif.2 ⟨fun _ => kwp_kl.2 (kwp_some.2 (l_go h0 h1' hn H)), fun ne => absurd rfl ne⟩⟩)))))⟩⟩, fun _ => ?_⟩
  refine kwp_kif.2 ⟨fun _ => kwp_kg.2 ⟨G1, kwp_kb.2 (w_mono (T_spots H (kx _)) (fun x1 h1 => kwp_kb.2 (w_mono h1 (fun x2 h2 => kwp_kg.2 ⟨⟨h2.2.1, by rw [← h2.1]; exact h2.2.1⟩, kwp_kif.2 ⟨fun _ => kwp_kl.2 (kwp_some.2 (l_go h0 h1' hn (REL_frm h2.2.2 H))), fun ne => absurd h2.1 ne⟩⟩))))⟩, fun _ => ?_⟩
  refine kwp_kif.2 ⟨fun _ => kwp_kg.2 ⟨G1, kwp_kg.2 ⟨G2, kwp_kg.2 ⟨G3, kwp_kb.2 (w_mono (T_spot H (kx _) (kx _) (kx _)) (fun x1 h1 => kwp_kb.2 (w_mono h1 (fun x2 h2 => kwp_kg.2 ⟨⟨h2.2.1, by rw [← h2.1]; exact h2.2.1⟩, kwp_kif.2 ⟨fun _ => kwp_kl.2 (kwp_some.2 (l_go h0 h1' hn (REL_frm h2.2.2 H))), fun ne => absurd h2.1 ne⟩⟩))))⟩⟩⟩, fun _ => ?_⟩
  refine kwp_kif.2 ⟨fun _ => kwp_kg.2 ⟨G1, kwp_kg.2 ⟨G2, kwp_kb.2 (w_mono (T_circle H (kx _) (kx _)) (fun x1 h1 => kwp_kb.2 (w_mono h1 (fun x2 h2 => kwp_kg.2 ⟨⟨h2.2.1, by rw [← h2.1]; exact h2.2.1⟩, kwp_kif.2 ⟨fun _ => kwp_kl.2 (kwp_some.2 (l_go h0 h1' hn (REL_frm h2.2.2 H))), fun ne => absurd h2.1 ne⟩⟩))))⟩⟩, fun _ => ?_⟩
  refine kwp_kif.2 ⟨fun _ => kwp_kg.2 ⟨G1, kwp_kg.2 ⟨G2, kwp_kb.2 (w_mono (T_tight H (kx _) (kx _)) (fun x1 h1 => kwp_kb.2 (w_mono h1 (fun x2 h2 => kwp_kg.2 ⟨⟨h2.2.1, by rw [← h2.1]; exact h2.2.1⟩, kwp_kif.2 ⟨fun _ => kwp_kl.2 (kwp_some.2 (l_go h0 h1' hn (REL_frm h2.2.2 H))), fun ne => absurd h2.1 ne⟩⟩))))⟩⟩, fun _ => ?_⟩
  refine kwp_kif.2 ⟨fun _ => kwp_kg.2 ⟨G1, kwp_kb.2 (w_mono (T_rim H (kx _)) (fun x1 h1 => kwp_kb.2 (w_mono h1 (fun x2 h2 => kwp_kg.2 ⟨⟨h2.2.1, by rw [← h2.1]; exact h2.2.1⟩, kwp_kif.2 ⟨fun _ => kwp_kl.2 (kwp_some.2 (l_go h0 h1' hn (REL_frm h2.2.2 H))), fun ne => absurd h2.1 ne⟩⟩))))⟩, fun _ => ?_⟩
  refine kwp_kif.2 ⟨fun _ => kwp_kg.2 ⟨G1, kwp_kg.2 ⟨G2, kwp_kg.2 ⟨G3, kwp_kb.2 (w_mono (T_inside H (kx _) (kx _) (kx _)) (fun x1 h1 => kwp_kb.2 (w_mono h1 (fun x2 h2 => kwp_kg.2 ⟨⟨h2.2.1, by rw [← h2.1]; exact h2.2.1⟩, kwp_kif.2 ⟨fun _ => kwp_kl.2 (kwp_some.2 (l_go h0 h1' hn (REL_frm h2.2.2 H))), fun ne => absurd h2.1 ne⟩⟩))))⟩⟩⟩, fun _ => ?_⟩
  refine kwp_kif.2 ⟨fun _ => kwp_kg.2 ⟨G1, kwp_kg.2 ⟨G2, kwp_kb.2 (w_mono (T_needed H (kx _) (kx _)) (fun x1 h1 => kwp_kb.2 (w_mono h1 (fun x2 h2 => kwp_kg.2 ⟨⟨h2.2.1, by rw [← h2.1]; exact h2.2.1⟩, kwp_kif.2 ⟨fun _ => kwp_kl.2 (kwp_some.2 (l_go h0 h1' hn (REL_frm h2.2.2 H))), fun ne => absurd h2.1 ne⟩⟩))))⟩⟩, fun _ => ?_⟩
  refine kwp_kif.2 ⟨fun _ => kwp_kg.2 ⟨G1, kwp_kg.2 ⟨G2, kwp_kg.2 ⟨G3, kwp_kg.2 ⟨⟨kx _, kx _⟩, kwp_kb.2 (w_mono (T_proof H (kx _) (k64_or _ _)) (fun x1 h1 => kwp_kb.2 (w_mono h1 (fun x2 h2 => kwp_kg.2 ⟨⟨h2.2.1, by rw [← h2.1]; exact h2.2.1⟩, kwp_kif.2 ⟨fun _ => kwp_kl.2 (kwp_some.2 (l_go h0 h1' hn (REL_frm h2.2.2 H))), fun ne => absurd h2.1 ne⟩⟩))))⟩⟩⟩⟩, fun _ => ?_⟩
  refine kwp_kif.2 ⟨fun _ => kwp_kg.2 ⟨G1, kwp_kg.2 ⟨G2, kwp_kb.2 (w_mono (T_when H (kx _) (kx _)) (fun x1 h1 => kwp_kb.2 (w_mono h1 (fun x2 h2 => kwp_kg.2 ⟨⟨h2.2.1, by rw [← h2.1]; exact h2.2.1⟩, kwp_kif.2 ⟨fun _ => kwp_kl.2 (kwp_some.2 (l_go h0 h1' hn (REL_frm h2.2.2 H))), fun ne => absurd h2.1 ne⟩⟩))))⟩⟩, fun _ => ?_⟩
  refine kwp_kif.2 ⟨fun _ => kwp_kg.2 ⟨G1, kwp_kg.2 ⟨G2, kwp_kb.2 (w_mono (T_hull H (kx _) (kx _)) (fun x1 h1 => kwp_kb.2 (w_mono h1 (fun x2 h2 => kwp_kg.2 ⟨⟨h2.2.1, by rw [← h2.1]; exact h2.2.1⟩, kwp_kif.2 ⟨fun _ => kwp_kl.2 (kwp_some.2 (l_go h0 h1' hn (REL_frm h2.2.2 H))), fun ne => absurd h2.1 ne⟩⟩))))⟩⟩, fun _ => ?_⟩
  refine kwp_kif.2 ⟨fun _ => kwp_kg.2 ⟨G1, kwp_kb.2 (w_mono (T_areaI H (kx _)) (fun x1 h1 => kwp_kb.2 (w_mono h1 (fun x2 h2 => kwp_kg.2 ⟨⟨h2.2.1, by rw [← h2.1]; exact h2.2.1⟩, kwp_kif.2 ⟨fun _ => kwp_kl.2 (kwp_some.2 (l_go h0 h1' hn (REL_frm h2.2.2 H))), fun ne => absurd h2.1 ne⟩⟩))))⟩, fun _ => ?_⟩
  refine kwp_kif.2 ⟨fun _ => kwp_kg.2 ⟨G1, kwp_kg.2 ⟨G2, kwp_kb.2 (w_mono (T_layer H (kx _) (kx _)) (fun x1 h1 => kwp_kb.2 (w_mono h1 (fun x2 h2 => kwp_kg.2 ⟨⟨h2.2.1, by rw [← h2.1]; exact h2.2.1⟩, kwp_kif.2 ⟨fun _ => kwp_kl.2 (kwp_some.2 (l_go h0 h1' hn (REL_frm h2.2.2 H))), fun ne => absurd h2.1 ne⟩⟩))))⟩⟩, fun _ => ?_⟩
  refine kwp_kif.2 ⟨fun _ => kwp_kg.2 ⟨G1, kwp_kg.2 ⟨G2, kwp_kb.2 (w_mono (T_strip H (kx _) (kx _)) (fun x1 h1 => kwp_kb.2 (w_mono h1 (fun x2 h2 => kwp_kg.2 ⟨⟨h2.2.1, by rw [← h2.1]; exact h2.2.1⟩, kwp_kif.2 ⟨fun _ => kwp_kl.2 (kwp_some.2 (l_go h0 h1' hn (REL_frm h2.2.2 H))), fun ne => absurd h2.1 ne⟩⟩))))⟩⟩, fun _ => ?_⟩
  refine kwp_kif.2 ⟨fun _ => kwp_kg.2 ⟨G1, kwp_kg.2 ⟨G2, kwp_kg.2 ⟨G3, kwp_kb.2 (w_mono (T_couple H (kx _) (kx _) (kx _)) (fun x1 h1 => kwp_kb.2 (w_mono h1 (fun x2 h2 => kwp_kg.2 ⟨⟨h2.2.1, by rw [← h2.1]; exact h2.2.1⟩, kwp_kif.2 ⟨fun _ => kwp_kl.2 (kwp_some.2 (l_go h0 h1' hn (REL_frm h2.2.2 H))), fun ne => absurd h2.1 ne⟩⟩))))⟩⟩⟩, fun _ => ?_⟩
  refine kwp_kif.2 ⟨fun _ => kwp_kg.2 ⟨G1, kwp_kg.2 ⟨G2, kwp_kb.2 (w_mono (T_ring H (kx _) (kx _)) (fun x1 h1 => kwp_kb.2 (w_mono h1 (fun x2 h2 => kwp_kg.2 ⟨⟨h2.2.1, by rw [← h2.1]; exact h2.2.1⟩, kwp_kif.2 ⟨fun _ => kwp_kl.2 (kwp_some.2 (l_go h0 h1' hn (REL_frm h2.2.2 H))), fun ne => absurd h2.1 ne⟩⟩))))⟩⟩, fun _ => ?_⟩
  refine kwp_kif.2 ⟨fun _ => kwp_kg.2 ⟨G1, kwp_kg.2 ⟨G2, kwp_kb.2 (w_mono (T_two H (kx _) (kx _)) (fun x1 h1 => kwp_kb.2 (w_mono h1 (fun x2 h2 => kwp_kg.2 ⟨⟨h2.2.1, by rw [← h2.1]; exact h2.2.1⟩, kwp_kif.2 ⟨fun _ => kwp_kl.2 (kwp_some.2 (l_go h0 h1' hn (REL_frm h2.2.2 H))), fun ne => absurd h2.1 ne⟩⟩))))⟩⟩, fun _ => ?_⟩
  refine kwp_kif.2 ⟨fun _ => kwp_kg.2 ⟨G1, kwp_kg.2 ⟨G2, kwp_kb.2 (w_mono (T_box H (kx _) (kx _)) (fun x1 h1 => kwp_kb.2 (w_mono h1 (fun x2 h2 => kwp_kg.2 ⟨⟨h2.2.1, by rw [← h2.1]; exact h2.2.1⟩, kwp_kif.2 ⟨fun _ => kwp_kl.2 (kwp_some.2 (l_go h0 h1' hn (REL_frm h2.2.2 H))), fun ne => absurd h2.1 ne⟩⟩))))⟩⟩, fun _ => ?_⟩
  refine kwp_kif.2 ⟨fun _ => kwp_kg.2 ⟨G1, kwp_kg.2 ⟨G2, kwp_kb.2 (w_mono (T_meets H (kx _) (kx _)) (fun x1 h1 => kwp_kb.2 (w_mono h1 (fun x2 h2 => kwp_kg.2 ⟨⟨h2.2.1, by rw [← h2.1]; exact h2.2.1⟩, kwp_kif.2 ⟨fun _ => kwp_kl.2 (kwp_some.2 (l_go h0 h1' hn (REL_frm h2.2.2 H))), fun ne => absurd h2.1 ne⟩⟩))))⟩⟩, fun _ => ?_⟩
  refine kwp_kif.2 ⟨fun _ => kwp_kg.2 ⟨G1, kwp_kg.2 ⟨G2, kwp_kg.2 ⟨G3, kwp_kb.2 (w_mono (T_fewer H (kx _) (kx _) (kx _)) (fun x1 h1 => kwp_kb.2 (w_mono h1 (fun x2 h2 => kwp_kg.2 ⟨⟨h2.2.1, by rw [← h2.1]; exact h2.2.1⟩, kwp_kif.2 ⟨fun _ => kwp_kl.2 (kwp_some.2 (l_go h0 h1' hn (REL_frm h2.2.2 H))), fun ne => absurd h2.1 ne⟩⟩))))⟩⟩⟩, fun _ => ?_⟩
  refine kwp_kif.2 ⟨fun _ => kwp_kg.2 ⟨G1, kwp_kg.2 ⟨G2, kwp_kg.2 ⟨G3, kwp_kg.2 ⟨G4, kwp_kb.2 (w_mono (T_worse H (kx _) (kx _) (kx _) (kx _)) (fun x1 h1 => kwp_kb.2 (w_mono h1 (fun x2 h2 => kwp_kg.2 ⟨⟨h2.2.1, by rw [← h2.1]; exact h2.2.1⟩, kwp_kif.2 ⟨fun _ => kwp_kl.2 (kwp_some.2 (l_go h0 h1' hn (REL_frm h2.2.2 H))), fun ne => absurd h2.1 ne⟩⟩))))⟩⟩⟩⟩, fun _ => ?_⟩
  refine kwp_kif.2 ⟨fun _ => kwp_kg.2 ⟨G1, kwp_kg.2 ⟨G2, kwp_kb.2 (w_mono (T_calm H (kx _) (kx _)) (fun x1 h1 => kwp_kb.2 (w_mono h1 (fun x2 h2 => kwp_kg.2 ⟨⟨h2.2.1, by rw [← h2.1]; exact h2.2.1⟩, kwp_kif.2 ⟨fun _ => kwp_kl.2 (kwp_some.2 (l_go h0 h1' hn (REL_frm h2.2.2 H))), fun ne => absurd h2.1 ne⟩⟩))))⟩⟩, fun _ => ?_⟩
  refine kwp_kif.2 ⟨fun _ => kwp_kg.2 ⟨G1, kwp_kg.2 ⟨G2, kwp_kg.2 ⟨G3, kwp_kg.2 ⟨G4, kwp_kb.2 (w_mono (T_reach H (kx _) (kx _) (kx _) (kx _)) (fun x1 h1 => kwp_kb.2 (w_mono h1 (fun x2 h2 => kwp_kg.2 ⟨⟨h2.2.1, by rw [← h2.1]; exact h2.2.1⟩, kwp_kif.2 ⟨fun _ => kwp_kl.2 (kwp_some.2 (l_go h0 h1' hn (REL_frm h2.2.2 H))), fun ne => absurd h2.1 ne⟩⟩))))⟩⟩⟩⟩, fun _ => ?_⟩
  refine kwp_kif.2 ⟨fun _ => kwp_kg.2 ⟨G1, kwp_kg.2 ⟨G2, kwp_kb.2 (w_mono (T_whole H (kx _) (kx _)) (fun x1 h1 => kwp_kb.2 (w_mono h1 (fun x2 h2 => kwp_kg.2 ⟨⟨h2.2.1, by rw [← h2.1]; exact h2.2.1⟩, kwp_kif.2 ⟨fun _ => kwp_kl.2 (kwp_some.2 (l_go h0 h1' hn (REL_frm h2.2.2 H))), fun ne => absurd h2.1 ne⟩⟩))))⟩⟩, fun _ => ?_⟩
  refine kwp_kif.2 ⟨fun _ => kwp_kg.2 ⟨G1, kwp_kg.2 ⟨G2, kwp_kg.2 ⟨G3, kwp_kg.2 ⟨G4, kwp_kb.2 (w_mono (T_sees H (kx _) (kx _) (kx _) (kx _)) (fun x1 h1 => kwp_kb.2 (w_mono h1 (fun x2 h2 => kwp_kg.2 ⟨⟨h2.2.1, by rw [← h2.1]; exact h2.2.1⟩, kwp_kif.2 ⟨fun _ => kwp_kl.2 (kwp_some.2 (l_go h0 h1' hn (REL_frm h2.2.2 H))), fun ne => absurd h2.1 ne⟩⟩))))⟩⟩⟩⟩, fun _ => ?_⟩
  refine kwp_kif.2 ⟨fun _ => kwp_kg.2 ⟨G1, kwp_kb.2 (w_mono (T_heaviest H (kx _)) (fun x1 h1 => kwp_kb.2 (w_mono h1 (fun x2 h2 => kwp_kg.2 ⟨⟨h2.2.1, by rw [← h2.1]; exact h2.2.1⟩, kwp_kif.2 ⟨fun _ => kwp_kl.2 (kwp_some.2 (l_go h0 h1' hn (REL_frm h2.2.2 H))), fun ne => absurd h2.1 ne⟩⟩))))⟩, fun _ => ?_⟩
  refine kwp_kif.2 ⟨fun _ => kwp_kg.2 ⟨G1, kwp_kg.2 ⟨G2, kwp_kg.2 ⟨G3, kwp_kb.2 (w_mono (T_deep H (kx _) (kx _) (kx _)) (fun x1 h1 => kwp_kb.2 (w_mono h1 (fun x2 h2 => kwp_kg.2 ⟨⟨h2.2.1, by rw [← h2.1]; exact h2.2.1⟩, kwp_kif.2 ⟨fun _ => kwp_kl.2 (kwp_some.2 (l_go h0 h1' hn (REL_frm h2.2.2 H))), fun ne => absurd h2.1 ne⟩⟩))))⟩⟩⟩, fun _ => ?_⟩
  refine kwp_kif.2 ⟨fun _ => kwp_kg.2 ⟨G1, kwp_kg.2 ⟨G2, kwp_kb.2 (w_mono (T_meetsAt H (kx _) (kx _)) (fun x1 h1 => kwp_kb.2 (w_mono h1 (fun x2 h2 => kwp_kg.2 ⟨⟨h2.2.1, by rw [← h2.1]; exact h2.2.1⟩, kwp_kif.2 ⟨fun _ => kwp_kl.2 (kwp_some.2 (l_go h0 h1' hn (REL_frm h2.2.2 H))), fun ne => absurd h2.1 ne⟩⟩))))⟩⟩, fun _ => ?_⟩
  refine kwp_kif.2 ⟨fun _ => kwp_kg.2 ⟨G1, kwp_kb.2 (w_mono (T_changes H (kx _)) (fun x1 h1 => kwp_kb.2 (w_mono h1 (fun x2 h2 => kwp_kg.2 ⟨⟨h2.2.1, by rw [← h2.1]; exact h2.2.1⟩, kwp_kif.2 ⟨fun _ => kwp_kl.2 (kwp_some.2 (l_go h0 h1' hn (REL_frm h2.2.2 H))), fun ne => absurd h2.1 ne⟩⟩))))⟩, fun _ => ?_⟩
  refine kwp_kif.2 ⟨fun _ => kwp_kg.2 ⟨G1, kwp_kb.2 (w_mono (T_write H (kx _)) (fun x1 h1 => kwp_kb.2 (w_mono h1 (fun x2 h2 => kwp_kg.2 ⟨⟨h2.2.1, by rw [← h2.1]; exact h2.2.1⟩, kwp_kif.2 ⟨fun _ => kwp_kl.2 (kwp_some.2 (l_go h0 h1' hn (h2.2.2))), fun ne => absurd h2.1 ne⟩⟩))))⟩, fun _ => ?_⟩
  refine kwp_kif.2 ⟨fun _ => kwp_kg.2 ⟨G1, (by
      obtain ⟨v, e1, e2, kv⟩ := T_octet H (kx _)
      exact kwp_kb.2 (w_of e1 (kwp_kb.2 (w_of e2 (kwp_kg.2 ⟨⟨kv, kv⟩, kwp_kif.2 ⟨fun _ => kwp_kl.2 (kwp_some.2 (l_go h0 h1' hn H)), fun ne => absurd rfl ne⟩⟩)))))⟩, fun _ => ?_⟩
  exact kwp_kl.2 (kwp_some.2 (l_go h0 h1' hn H))
theorem law_q {L : Nat} (hL : L ≤ 3072) {xs : Nat → Int} (kx : ∀ k, k32 (xs k)) {zP1 : tZ11} {zP1_0 : tZ4} {zP1_1 : tZ9} {zP1_2 : tZ8} {zP1_3 : tZ8} {zP1_4 : tZ0} {zP1_5 : tZ0} {zP1_6 : tZ5} {zP1_7 : tZ5} {zP1_8 : tZ6} {zP1_8_0 : tZ8} {zP1_8_1 : tZ5} {zP1_9 : tZ1} {zP1_10 : tZ7} {zP1_11 : tZ2} {zP1_11_0 : tZ0} {zP1_12 : tZ10} {zP1_13 : tZ3} {zP1_14 : tZ3} {zP2 : tZ12}
    (H : REL zP1_0 zP1_1 zP1_12 zP2) : q_L_law L xs zP1 zP1_0 zP1_1 zP1_2 zP1_3 zP1_4 zP1_5 zP1_6 zP1_7 zP1_8 zP1_8_0 zP1_8_1 zP1_9 zP1_10 zP1_11 zP1_11_0 zP1_12 zP1_13 zP1_14 zP2 0 = some () := by
  refine w_eq ?_
  unfold q_L_law
  refine w_kb (w_loop (LwI L) (Q := fun e => e.1 = 1647) (fun n s I => law_body hL kx I) kF L _ (by have := kF_eq; omega) ⟨Int.le_refl _, by show (0 : Int) ≤ (L : Int); omega, by show L = ((L : Int) - 0).toNat; omega, H⟩) ?_
  rintro ⟨lb, s⟩ e
  dsimp only at e
  subst e
  dsimp only
  repeat (refine kwp_kif.2 ⟨fun q => absurd q (by decide), fun _ => ?_⟩)
  exact kwp_kg.2 ⟨rfl, kwp_some.2 rfl⟩
