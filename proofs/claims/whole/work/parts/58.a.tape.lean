/-! ===== the tape ===== -/
theorem byte_bit (a : Int32) (k : Nat) (hk : k < 8) : (a.toInt8.toInt32).toBitVec.getLsbD k = a.toBitVec.getLsbD k := by
  show (BitVec.signExtend 32 (BitVec.signExtend 8 a.toBitVec)).getLsbD k = _
  rw [BitVec.getLsbD_signExtend, BitVec.getLsbD_signExtend]
  have h1 : k < 32 := by omega
  simp [hk, h1]
theorem b255 : (Int32.ofInt 255).toBitVec = 255#32 := by decide +kernel
theorem bit255 : ∀ k, k < 32 → (255#32).getLsbD k = decide (k < 8) := by decide +kernel
theorem and255 (x y : Int) (h : ∀ k, k < 8 → tc x k = tc y k) : zand32 x 255 = zand32 y 255 := by
  refine ext32 (k32_and _ _) (k32_and _ _) (fun k hk => ?_)
  rw [tc_and, tc_and]
  have e : tc 255 k = decide (k < 8) := by unfold tc; rw [b255, bit255 k hk]
  rw [e]
  by_cases h8 : k < 8
  · rw [h k h8]
  · rw [decide_eq_false h8, Bool.and_false, Bool.and_false]
theorem nar_byte (x : Int) : zand32 (znar (zbyte x)) 255 = zand32 x 255 := by
  refine and255 _ _ (fun k hk => ?_)
  unfold tc znar
  rw [z32]
  show ((Int32.ofInt (zbyte x)).toInt8.toInt32).toBitVec.getLsbD k = _
  rw [byte_bit _ k hk]
  unfold zbyte
  rw [z32, byte_bit _ k hk]
theorem and255_bd (x : Int) : 0 ≤ zand32 x 255 ∧ zand32 x 255 ≤ 255 := by
  unfold zand32
  have e : (Int32.ofInt x &&& Int32.ofInt 255).toBitVec.toNat ≤ 255 := by
    show ((Int32.ofInt x).toBitVec &&& (Int32.ofInt 255).toBitVec).toNat ≤ 255
    rw [b255, BitVec.toNat_and]
    exact Nat.and_le_right
  have e2 : (Int32.ofInt x &&& Int32.ofInt 255).toInt = ((Int32.ofInt x &&& Int32.ofInt 255).toBitVec.toNat : Int) := by
    show (Int32.ofInt x &&& Int32.ofInt 255).toBitVec.toInt = _
    rw [BitVec.toInt_eq_toNat_of_lt (by omega)]
  rw [e2]
  omega
def byt (v : Int) (i : Nat) : Int := zshr32 v (zand32 (24 - 8 * (i : Int)) 31)
theorem q_hasRoom {z : tZ9} {k : Int} (h : k32 (z.2.1 + k)) : q_X9_hasRoom z k = some (decide (z.2.1 + k ≤ 400)) := by
  refine w_eq ?_
  unfold q_X9_hasRoom
  simp only [kwp_kg, kwp_kif, kwp_some]
  exact ⟨h, fun q => (decide_eq_false (by omega)).symm, fun q => (decide_eq_true (by omega)).symm⟩
def FT (m m' : tZ12) : Prop := m'.2.1 = m.2.1 ∧ m'.2.2.2 = m.2.2.2 ∧ (∀ j, j ≠ 4 → m'.1 j = m.1 j) ∧ ∀ j, j ≠ 3 → m'.2.2.1 j = m.2.2.1 j
theorem FT_rfl (m : tZ12) : FT m m := ⟨rfl, rfl, fun _ _ => rfl, fun _ _ => rfl⟩
theorem FT_trans {a b c : tZ12} (h : FT a b) (g : FT b c) : FT a c := ⟨g.1.trans h.1, g.2.1.trans h.2.1, fun j hj => (g.2.2.1 j hj).trans (h.2.2.1 j hj), fun j hj => (g.2.2.2 j hj).trans (h.2.2.2 j hj)⟩
theorem take4 {z9 : tZ9} {m : tZ12} (H : TR z9 m) (hr : m.1 4 + 4 ≤ 400) (v : Int) : kwp (q_X9_take z9 v) (fun z' => kwp (q_X12_four m v) (fun m' => TR z' m' ∧ FT m m' ∧ m'.1 4 = m.1 4 + 4)) := by
  obtain ⟨b, n, at0, f0⟩ := z9
  obtain ⟨t1, t2, t3, t4, t5, t6⟩ := H
  dsimp only at t1 t4 t5

  obtain ⟨n, rfl⟩ : ∃ k : Nat, n = (k : Int) := ⟨n.toNat, by omega⟩
  have hc : kwp (q_X9_take (b, (n : Int), at0, f0) v) (fun z' => ∃ b', z' = (b', ((n + 4 : Nat) : Int), at0, f0) ∧ (∀ j, j < n → b' j = b j) ∧ ∀ j, j < 4 → b' (n + j) = zand32 (byt v j) 255) := by
    unfold q_X9_take
    refine w_kb (w_for (ex := 48) (by decide) (fun i (s : Int × tZ9) => s.1 = 24 - 8 * (i : Int) ∧ ∃ b', s.2 = (b', ((n + i : Nat) : Int), at0, f0) ∧ (∀ j, j < n → b' j = b j) ∧ ∀ j, j < i → b' (n + j) = zand32 (byt v j) 255) 4 ?_ ?_ (Nat.zero_le _) (by decide) ⟨rfl, b, rfl, fun _ _ => rfl, fun j hj => absurd hj (Nat.not_lt_zero _)⟩) ?_
    · rintro i ⟨c, s⟩ hi ⟨s1, b', s2, s3, s4⟩
      dsimp only at *
      subst s1
      subst s2
      unfold q_X9_take_L3
      simp only [kwp_kg, kwp_kif, kwp_kl, kwp_some, kwp_kb]
      rw [q_hasRoom ⟨by dsimp only; omega, by dsimp only; omega⟩, kwp_some, kz_0, Int.toNat_natCast]
      refine ⟨⟨by omega, by omega⟩, fun q => by omega, fun _ => ⟨fun q => ?_, fun _ => ⟨⟨by omega, by omega⟩, by trivial, by omega, va_up b' (n + i) (zand32 (byt v i) 255), ?_, fun j hj => ?_, fun j hj => ?_⟩⟩⟩
      · have := of_decide_eq_false q
        dsimp only at this
        omega
      · rfl
      · rw [va_ne _ _ (by omega)]
        exact s3 j hj
      · by_cases e : j = i
        · subst e
          rw [va_same]
        · rw [va_ne _ _ (by omega)]
          exact s4 j (by omega)
    · rintro ⟨c, s⟩ ⟨s1, h⟩
      dsimp only at *
      subst s1
      unfold q_X9_take_L3
      simp only [kwp_kg, kwp_kif, kwp_kl, kwp_some, kwp_kb]
      exact ⟨⟨by omega, by omega⟩, fun _ => ⟨by trivial, by trivial, h⟩, fun q => by omega⟩
    · rintro ⟨l, c, s⟩ ⟨h0, s1, b', s2, s3, s4⟩
      dsimp only at *
      subst h0
      simp only [kwp_kg, kwp_kif, kwp_some]
      exact ⟨fun q => absurd q (by decide), fun _ => ⟨by trivial, b', s2, s3, s4⟩⟩
  refine w_mono hc (fun z' ⟨b', hz, c3, c4⟩ => ?_)
  subst hz
  unfold q_X12_four
  refine w_kb (w_for (ex := 36) (by decide) (fun i (s : Int × tZ12) => s.1 = 24 - 8 * (i : Int) ∧ s.2.1 4 = ((n + i : Nat) : Int) ∧ FT m s.2 ∧ (∀ j, j < n → s.2.2.2.1 3 j = m.2.2.1 3 j) ∧ ∀ j, j < i → s.2.2.2.1 3 (n + j) = znar (zbyte (byt v j))) 4 ?_ ?_ (Nat.zero_le _) (by decide) ⟨rfl, by rw [← t1]; rfl, FT_rfl m, fun _ _ => rfl, fun j hj => absurd hj (Nat.not_lt_zero _)⟩) ?_
  · rintro i ⟨c, s⟩ hi ⟨s1, s2, s3, s4, s5⟩
    dsimp only at *
    subst s1
    unfold q_X12_four_L3
    simp only [kwp_kg, kwp_kif, kwp_kl, kwp_some, kwp_kb]
    rw [s2, Int.toNat_natCast]
    refine ⟨⟨by omega, by omega⟩, fun q => by omega, fun _ => ⟨⟨by omega, by omega⟩, by trivial, by omega, by rw [va_same]; omega, FT_trans s3 ⟨rfl, rfl, fun j hj => va_ne _ _ hj, fun j hj => va_ne _ _ hj⟩, fun j hj => ?_, fun j hj => ?_⟩⟩
    · rw [va_same, va_ne _ _ (by omega)]
      exact s4 j hj
    · rw [va_same]
      by_cases e : j = i
      · subst e
        rw [va_same]
        rfl
      · rw [va_ne _ _ (by omega)]
        exact s5 j (by omega)
  · rintro ⟨c, s⟩ ⟨s1, h⟩
    dsimp only at *
    subst s1
    unfold q_X12_four_L3
    simp only [kwp_kg, kwp_kif, kwp_kl, kwp_some, kwp_kb]
    exact ⟨⟨by omega, by omega⟩, fun _ => ⟨by trivial, by trivial, h⟩, fun q => by omega⟩
  · rintro ⟨l, c, s⟩ ⟨h0, s1, s2, s3, s4, s5⟩
    dsimp only at *
    subst h0
    simp only [kwp_kg, kwp_some]
    refine ⟨by trivial, ⟨s2.symm, by omega, by omega, fun i hi => ?_, ?_, ?_⟩, s3, by omega⟩
    · have hi4 : i < n + 4 := by omega
      by_cases e : i < n
      · dsimp only
        rw [c3 i e, s4 i e]
        exact t4 i (by omega)
      · obtain ⟨j, rfl⟩ : ∃ j, i = n + j := ⟨i - n, by omega⟩
        dsimp only
        rw [c4 j (by omega), s5 j (by omega), nar_byte]
        exact ⟨rfl, and255_bd _⟩
    · rw [s3.2.2.1 6 (by decide)]
      exact t5
    · rw [s3.2.2.1 6 (by decide)]
      exact t6
theorem DR_ft {z4 : tZ4} {m m' : tZ12} (h : FT m m') (H : DR z4 m) : DR z4 m' := by
  unfold DR at *
  rw [h.2.2.2 0 (by decide), h.2.2.2 1 (by decide), h.2.2.1 2 (by decide)]
  exact H
theorem WR_ft {z : tZ10} {m m' : tZ12} (h : FT m m') (H : WR z m) : WR z m' := by
  unfold WR at *
  rw [h.2.2.2 54 (by decide), h.2.2.1 55 (by decide)]
  exact H
theorem T_feed {z11 : tZ11} {z4 : tZ4} {z9 : tZ9} {z10 : tZ10} {m : tZ12} (H : REL z4 z9 z10 m) (a b c d e : Int) : kwp (q_X11_feed z11 z9 a b c d e) (fun r => kwp (q_X12_feed m a b c d e) (fun r' => r.1 = r'.1 ∧ k32 r.1 ∧ REL z4 r.2 z10 r'.2)) := by
  obtain ⟨hD, hT, hW⟩ := H
  have hT0 := hT
  obtain ⟨t1, t2, t3, t4, t5, t6⟩ := hT
  unfold q_X11_feed q_X12_feed
  rw [q_hasRoom ⟨by omega, by omega⟩]
  simp only [kwp_kb, kwp_some, kwp_kif, kwp_kg, kz_0, decide_eq_false_iff_not]
  rw [t1]
  refine ⟨fun q => ⟨⟨by omega, by omega⟩, fun w => absurd w q, fun _ => ⟨by trivial, by decide, hD, hT0, hW⟩⟩, fun q => ?_⟩
  have q := Decidable.not_not.mp q
  obtain ⟨z1, y1, m1, x1, g1, f1, n1⟩ := take4 hT0 (by omega) a
  obtain ⟨z2, y2, m2, x2, g2, f2, n2⟩ := take4 g1 (by omega) b
  obtain ⟨z3, y3, m3, x3, g3, f3, n3⟩ := take4 g2 (by omega) c
  obtain ⟨z4', y4, m4, x4, g4, f4, n4⟩ := take4 g3 (by omega) d
  obtain ⟨z5, y5, m5, x5, g5, f5, n5⟩ := take4 g4 (by omega) e
  refine w_of y1 (w_of y2 (w_of y3 (w_of y4 (w_of y5 ?_))))
  refine w_of (v := z5.2.1) rfl ⟨⟨by omega, by omega⟩, fun _ => w_of x1 (w_of x2 (w_of x3 (w_of x4 (w_of x5 ?_)))), fun w => absurd q w⟩
  have ft := FT_trans (FT_trans (FT_trans (FT_trans f1 f2) f3) f4) f5
  have e5 : z5.2.1 = m5.1 4 := g5.1
  exact ⟨e5, by show k32 z5.2.1; rw [e5]; exact ⟨by omega, by omega⟩, DR_ft ft hD, g5, WR_ft ft hW⟩
theorem T_end {z11 : tZ11} {z4 : tZ4} {z9 : tZ9} {z10 : tZ10} {m : tZ12} (H : REL z4 z9 z10 m) {v : Int} (hv : k32 v) : kwp (q_X11_end z11 z9 v) (fun r => kwp (q_X12_end m v) (fun r' => r.1 = r'.1 ∧ k32 r.1 ∧ REL z4 r.2 z10 r'.2)) := by
  obtain ⟨hD, hT, hW⟩ := H
  have hT0 := hT
  obtain ⟨t1, t2, t3, t4, t5, t6⟩ := hT
  unfold q_X11_end q_X12_end
  rw [qm_isIn hv (by decide) ⟨by omega, by omega⟩]
  unfold q_X9_cut
  simp only [kwp_kb, kwp_some, kwp_kif, kwp_kg, kwp_kl, kz_0, decide_eq_false_iff_not]
  rw [t1]
  have no : v < 0 ∨ m.1 4 < v → (¬ (0 ≤ v ∧ v ≤ m.1 4)) := by omega
  refine ⟨hv, fun q => ⟨fun _ => ⟨fun _ => ⟨by trivial, by decide, hD, hT0, hW⟩, fun w => absurd (no (Or.inl q)) w⟩, fun w => (w (by trivial)).elim⟩, fun q => ⟨⟨by omega, by omega⟩, fun q2 => ⟨fun w => (by cases w), fun _ => ⟨fun w => absurd ⟨by omega, q2⟩ w, fun _ => ⟨by trivial, hv, ?_, ?_, ?_⟩⟩⟩, fun q2 => ⟨fun _ => ⟨fun _ => ⟨by trivial, by decide, hD, hT0, hW⟩, fun w => absurd (no (Or.inr (by omega))) w⟩, fun w => (w (by trivial)).elim⟩⟩⟩
  · exact DR_ft (m := m) ⟨rfl, rfl, fun j hj => va_ne _ _ hj, fun _ _ => rfl⟩ hD
  · refine ⟨by dsimp only; rw [va_same], by dsimp only; rw [va_same]; omega, by dsimp only; rw [va_same]; omega, fun i hi => ?_, ?_, ?_⟩
    · dsimp only at hi ⊢
      rw [va_same] at hi
      exact t4 i (by omega)
    · dsimp only
      rw [va_ne _ _ (by decide)]
      exact t5
    · dsimp only
      rw [va_ne _ _ (by decide)]
      exact t6
  · exact WR_ft (m := m) ⟨rfl, rfl, fun j hj => va_ne _ _ hj, fun _ _ => rfl⟩ hW
theorem T_fault {z11 : tZ11} {z4 : tZ4} {z9 : tZ9} {z10 : tZ10} {m : tZ12} (H : REL z4 z9 z10 m) : ∃ v, q_X11_fault z11 z9 = some v ∧ q_X12_fault m = some v ∧ k32 v :=
  ⟨m.1 6, by unfold q_X11_fault q_X9_faultPlace; rw [H.2.1.2.2.2.2.1]; rfl, rfl, H.2.1.2.2.2.2.2⟩
theorem T_octet {z11 : tZ11} {z4 : tZ4} {z9 : tZ9} {z10 : tZ10} {m : tZ12} (H : REL z4 z9 z10 m) {v : Int} (hv : k32 v) : ∃ w, q_X11_octet z11 z10 v = some w ∧ q_X12_octet m v = some w ∧ k32 w := by
  obtain ⟨w1, w2, w3, w4⟩ := H.2.2
  by_cases h : 0 ≤ v ∧ v < m.1 55
  · obtain ⟨k, rfl⟩ := nat_of h.1
    have := w4 k h.2
    refine ⟨z10.1 k, w_eq ?_, w_eq ?_, this.2⟩
    · unfold q_X11_octet q_X10_at
      simp only [kwp_kb, kwp_some, kwp_kif, kwp_kg, Int.toNat_natCast]
      rw [w1]
      refine ⟨hv, fun q => by omega, fun _ => ⟨⟨by omega, by omega⟩, fun q => by omega, fun _ => ⟨⟨by omega, by omega⟩, by trivial⟩⟩⟩
    · unfold q_X12_octet
      rw [qm_isIn hv (by decide) ⟨by omega, by omega⟩]
      simp only [kwp_kb, kwp_some, kwp_kif, kwp_kg, Int.toNat_natCast, kz_0, decide_eq_false_iff_not]
      exact ⟨fun q => by omega, fun _ => ⟨⟨by omega, by omega⟩, this.1.symm⟩⟩
  · refine ⟨-1, w_eq ?_, w_eq ?_, by decide⟩
    · unfold q_X11_octet q_X10_at
      simp only [kwp_kb, kwp_some, kwp_kif, kwp_kg]
      rw [w1]
      refine ⟨hv, fun q => by trivial, fun _ => ⟨⟨by omega, by omega⟩, fun q => by trivial, fun _ => by omega⟩⟩
    · unfold q_X12_octet
      rw [qm_isIn hv (by decide) ⟨by omega, by omega⟩]
      simp only [kwp_kb, kwp_some, kwp_kif, kwp_kg, kz_0, decide_eq_false_iff_not]
      exact ⟨fun q => by trivial, fun _ => by omega⟩
