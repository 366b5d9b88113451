/-! ===== meets: the model's loops ===== -/
theorem qm_cross {m : tZ12} {X Y : Nat → Int} {c : Nat} {l : List Spt} (hs : sorL l) (hb : bdL l) (h0 : 0 < l.length) (h40 : l.length ≤ 40) (H : MH m l) (hc : c ≤ 41) (hbX : ∀ i, i < c → (X i).natAbs ≤ 160 ∧ (Y i).natAbs ≤ 160) (S : SVm m X Y c) {v1 v2 : Int} {i : Nat} (hi : i < c) :
    kwp (kitr 164 (fun q => q_X12_meets_L164 v1 v2 m (i : Int) (nx c i : Int) q) kF (0 : Int)) (fun e => (e.1 = 263 ∧ ∃ j, j < hC l ∧ DC (X i) (Y i) (X (nx c i)) (Y (nx c i)) (hX l (hJ l) j) (hY l (hJ l) j) (hX l (hJ l) (nx (hC l) j)) (hY l (hJ l) (nx (hC l) j))) ∨
      (e.1 = 271 ∧ ∀ j, j < hC l → ¬ DC (X i) (Y i) (X (nx c i)) (Y (nx c i)) (hX l (hJ l) j) (hY l (hJ l) j) (hX l (hJ l) (nx (hC l) j)) (hY l (hJ l) (nx (hC l) j)))) := by
  have hle := hC_le hs h0
  have h37 := H.2.1
  have ni := nx_lt hi
  have sa := S.2 i hi
  have sb' := S.2 _ ni
  have xa := hbX i hi
  have xb := hbX _ ni
  refine w_loop (fun n s => ∃ j : Nat, n = hC l - j ∧ j ≤ hC l ∧ s = (j : Int) ∧ ∀ k, k < j → ¬ DC (X i) (Y i) (X (nx c i)) (Y (nx c i)) (hX l (hJ l) k) (hY l (hJ l) k) (hX l (hJ l) (nx (hC l) k)) (hY l (hJ l) (nx (hC l) k))) ?_ kF (hC l) 0 (by have := kF_eq; omega) ⟨0, rfl, by omega, rfl, fun j hj => absurd hj (Nat.not_lt_zero _)⟩
  rintro n s ⟨j, rfl, hj, rfl, g⟩
  unfold q_X12_meets_L164
  rw [h37]
  simp only [kwp_kb, kwp_kg, kwp_kif, kwp_some, kwp_kl]
  refine ⟨⟨⟨by omega, by omega⟩, ⟨by omega, by omega⟩⟩, fun q => Or.inr ⟨by decide, Or.inr ⟨by trivial, fun k hk => g k (by omega)⟩⟩, fun q => ?_⟩
  have hj' : j < hC l := by omega
  have nl := nx_lt hj'
  have a := MH_at hs h0 H hj'
  have b := MH_at hs h0 H nl
  have b1 := mhB hs hb h0 hj'
  have b2 := mhB hs hb h0 nl
  simp only [qm_after h37 (by omega) hj', kwp_some, Int.toNat_natCast, a.1, b.1, a.2.2.1, a.2.2.2, b.2.2.1, b.2.2.2, sa.1, sa.2, sb'.1, sb'.2]
  refine ⟨⟨by omega, by omega⟩, ⟨by omega, by omega⟩, ⟨by omega, by omega⟩, ⟨by omega, by omega⟩, ⟨by omega, by omega⟩, ⟨by omega, by omega⟩, ⟨⟨by omega, by omega⟩, ⟨by omega, by omega⟩, ⟨by omega, by omega⟩, ⟨by omega, by omega⟩, ⟨by omega, by omega⟩, ⟨by omega, by omega⟩, ⟨by omega, by omega⟩, ⟨by omega, by omega⟩⟩, w_mono (qm_doCross xa.1 xa.2 xb.1 xb.2 b1.1 b1.2 b2.1 b2.2) (fun r e => ⟨fun w => Or.inl ⟨by trivial, hC l - (j + 1), by omega, j + 1, rfl, by omega, by omega, fun k hk => ?_⟩, fun w => Or.inr ⟨by decide, Or.inl ⟨by trivial, j, hj', e.1 (bt w)⟩⟩⟩)⟩
  by_cases z : k = j
  · rw [z]
    exact bn e w
  · exact g k (by omega)
theorem qm_crosses {m : tZ12} {X Y : Nat → Int} {c : Nat} {l : List Spt} (hs : sorL l) (hb : bdL l) (h0 : 0 < l.length) (h40 : l.length ≤ 40) (H : MH m l) (hc : c ≤ 41) (hbX : ∀ i, i < c → (X i).natAbs ≤ 160 ∧ (Y i).natAbs ≤ 160) (S : SVm m X Y c) {v1 v2 : Int} :
    kwp (kitr 134 (fun q => q_X12_meets_L134 v1 v2 m q) kF (0 : Int)) (fun e => (e.1 = 263 ∧ ∃ i j, i < c ∧ j < hC l ∧ DC (X i) (Y i) (X (nx c i)) (Y (nx c i)) (hX l (hJ l) j) (hY l (hJ l) j) (hX l (hJ l) (nx (hC l) j)) (hY l (hJ l) (nx (hC l) j))) ∨
      (e.1 = 277 ∧ ∀ i, i < c → ∀ j, j < hC l → ¬ DC (X i) (Y i) (X (nx c i)) (Y (nx c i)) (hX l (hJ l) j) (hY l (hJ l) j) (hX l (hJ l) (nx (hC l) j)) (hY l (hJ l) (nx (hC l) j)))) := by
  have h53 := S.1
  refine w_loop (fun n s => ∃ i : Nat, n = c - i ∧ i ≤ c ∧ s = (i : Int) ∧ ∀ k, k < i → ∀ j, j < hC l → ¬ DC (X k) (Y k) (X (nx c k)) (Y (nx c k)) (hX l (hJ l) j) (hY l (hJ l) j) (hX l (hJ l) (nx (hC l) j)) (hY l (hJ l) (nx (hC l) j))) ?_ kF c 0 (by have := kF_eq; omega) ⟨0, rfl, by omega, rfl, fun j hj => absurd hj (Nat.not_lt_zero _)⟩
  rintro n s ⟨i, rfl, hi, rfl, g⟩
  have J : i < c → kwp (q_X12_meets_J159_134 v1 v2 m (i : Int) (nx c i : Int)) (fun e => (e.1 = 134 ∧ ∃ m, m < c - i ∧ ∃ i : Nat, m = c - i ∧ i ≤ c ∧ e.2 = (i : Int) ∧ ∀ k, k < i → ∀ j, j < hC l → ¬ DC (X k) (Y k) (X (nx c k)) (Y (nx c k)) (hX l (hJ l) j) (hY l (hJ l) j) (hX l (hJ l) (nx (hC l) j)) (hY l (hJ l) (nx (hC l) j))) ∨
      (e.1 ≠ 134 ∧ ((e.1 = 263 ∧ ∃ i j, i < c ∧ j < hC l ∧ DC (X i) (Y i) (X (nx c i)) (Y (nx c i)) (hX l (hJ l) j) (hY l (hJ l) j) (hX l (hJ l) (nx (hC l) j)) (hY l (hJ l) (nx (hC l) j))) ∨
      (e.1 = 277 ∧ ∀ i, i < c → ∀ j, j < hC l → ¬ DC (X i) (Y i) (X (nx c i)) (Y (nx c i)) (hX l (hJ l) j) (hY l (hJ l) j) (hX l (hJ l) (nx (hC l) j)) (hY l (hJ l) (nx (hC l) j)))))) := fun hi' => by
    unfold q_X12_meets_J159_134
    refine w_kb (qm_cross hs hb h0 h40 H hc hbX S hi') ?_
    rintro ⟨lb, s⟩ h
    dsimp only at h
    simp only [kwp_kb, kwp_kg, kwp_kif, kwp_some, kwp_kl]
    rcases h with ⟨e, j, hj, d⟩ | ⟨e, h⟩
    · exact ⟨fun _ => Or.inr ⟨by decide, Or.inl ⟨by trivial, i, j, hi', hj, d⟩⟩, fun q => absurd e q⟩
    · refine ⟨fun q => by omega, fun _ => ⟨e, Or.inl ⟨by trivial, c - (i + 1), by omega, i + 1, rfl, by omega, by omega, fun k hk => ?_⟩⟩⟩
      by_cases z : k = i
      · rw [z]
        exact h
      · exact g k (by omega)
  unfold q_X12_meets_L134
  rw [h53]
  simp only [kwp_kb, kwp_kg, kwp_kif, kwp_some, kwp_kl]
  refine ⟨⟨⟨by omega, by omega⟩, ⟨by omega, by omega⟩⟩, fun q => Or.inr ⟨by decide, Or.inr ⟨by trivial, fun k hk => g k (by omega)⟩⟩, fun q => ⟨⟨by omega, by omega⟩, fun q3 => ?_, fun q3 => ?_⟩⟩
  · have e : (nx c i : Int) = 0 := by
      unfold nx
      rw [if_pos (by omega)]
      rfl
    have j := J (by omega)
    rw [e] at j
    exact j
  · have e : (nx c i : Int) = (i : Int) + 1 := by
      unfold nx
      rw [if_neg (by omega)]
      omega
    rw [← e]
    exact J (by omega)
/-- the first hull is kept -/
theorem qm_keepH {m0 m : tZ12} {l : List Spt} (hs : sorL l) (h0 : 0 < l.length) (h40 : l.length ≤ 40) (f : FQ m0 m) (H : MH m l) (h53 : m.1 53 = (hC l : Int)) {v1 v2 : Int} :
    kwp (kitr 20 (fun q => q_X12_meets_L20 v1 v2 q) kF ((0 : Int), m)) (fun e => e.1 = 68 ∧ FQ m0 e.2.2 ∧ SVm e.2.2 (hX l (hJ l)) (hY l (hJ l)) (hC l)) := by
  have hle := hC_le hs h0
  refine w_mono (w_for (ex := 68) (by decide) (fun i (s : Int × tZ12) => s.1 = (i : Int) ∧ FQ m0 s.2 ∧ MH s.2 l ∧ s.2.1 53 = (hC l : Int) ∧ ∀ j, j < i → s.2.2.2.1 51 j = hX l (hJ l) j ∧ s.2.2.2.1 52 j = hY l (hJ l) j) (hC l) ?_ ?_ (Nat.zero_le _) (by have := kF_eq; omega) ⟨rfl, f, H, h53, fun j hj => absurd hj (Nat.not_lt_zero _)⟩) (fun e g => ⟨g.1, g.2.2.1, g.2.2.2.2.1, g.2.2.2.2.2⟩)
  · rintro i ⟨t, s⟩ hi ⟨rfl, fs, Hs, s53, g⟩
    dsimp only at fs Hs s53 g
    have a := MH_at hs h0 Hs hi
    unfold q_X12_meets_L20
    rw [Hs.2.1]
    simp only [kwp_kb, kwp_kg, kwp_kif, kwp_some, kwp_kl]
    simp (disch := decide) only [va_same, va_ne]
    rw [Int.toNat_natCast, a.1, Int.toNat_natCast, a.2.2.1, a.2.2.2]
    refine ⟨⟨⟨by omega, by omega⟩, ⟨by omega, by omega⟩⟩, fun q => by omega, fun _ => ⟨⟨by omega, by omega⟩, ⟨by omega, by omega⟩, ⟨by omega, by omega⟩, by trivial, by omega, ⟨fs.1, fs.2.1, fun j hj => ?_, ?_⟩, ⟨⟨Hs.1.1, Hs.1.2.1, fun k hk => ?_⟩, Hs.2.1, fun k hk => ?_⟩, s53, fun j hj => ?_⟩⟩
    · try dsimp only
      rw [va_ne _ _ (by omega), va_ne _ _ (by omega)]
      exact fs.2.2.1 j hj
    · try dsimp only
      rw [va_ne _ _ (by decide), va_ne _ _ (by decide)]
      exact fs.2.2.2
    · try dsimp only
      rw [va_ne _ _ (by decide), va_ne _ _ (by decide), va_ne _ _ (by decide), va_ne _ _ (by decide), va_ne _ _ (by decide), va_ne _ _ (by decide)]
      exact Hs.1.2.2 k hk
    · try dsimp only
      rw [va_ne _ _ (by decide), va_ne _ _ (by decide)]
      exact Hs.2.2 k hk
    · try dsimp only
      try simp (disch := decide) only [va_same, va_ne]
      by_cases z : j = i
      · subst z
        exact ⟨va_same _ _ _, va_same _ _ _⟩
      · rw [va_ne _ _ z, va_ne _ _ z]
        exact g j (by omega)
  · rintro ⟨t, s⟩ ⟨rfl, fs, Hs, s53, g⟩
    dsimp only at fs Hs s53 g
    unfold q_X12_meets_L20
    rw [Hs.2.1]
    simp only [kwp_kb, kwp_kg, kwp_kif, kwp_some, kwp_kl]
    exact ⟨⟨⟨by omega, by omega⟩, ⟨by omega, by omega⟩⟩, fun _ => ⟨by trivial, by trivial, fs, Hs, s53, g⟩, fun q => by omega⟩
