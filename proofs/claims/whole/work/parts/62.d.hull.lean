/-! ===== the hull of the model, 2 ===== -/
theorem stp_36 {A : Nat → Int} {l : List Spt} {s : (Nat → Nat) × Nat} {k : Nat} (h : ∀ j, j < s.2 → A j = (s.1 j : Int)) : ∀ j, j < (stpF l s k).2 → va_up A (popF l k s.1 s.2) (k : Int) j = ((stpF l s k).1 j : Int) := by
  intro j hj
  have pl := popF_le l k s.1 s.2
  unfold stpF at hj ⊢
  dsimp only at hj ⊢
  by_cases e : j = popF l k s.1 s.2
  · rw [e, va_same, va_same]
  · rw [va_ne _ _ e, va_ne _ _ e]
    exact h j (by omega)
theorem qm_layHull {m : tZ12} {l : List Spt} (H : SPm m l) (hb : bdL l) (hl40 : l.length ≤ 40) {set : Int} {P : Nat → Bool} {last : Nat} (hP : ∀ k, k < l.length → tb set k = P k) (hl : last < l.length) (hPl : P last = true) (hPa : ∀ k, last < k → k < l.length → P k = false) (hc : hN l P l.length last ≤ 41) :
    kwp (q_X12_layHull m set) (fun m' => FH m m' ∧ m'.1 37 = (hN l P l.length last : Int) ∧ ∀ i, i < hN l P l.length last → m'.2.2.1 35 i = (hI2 l P l.length last i : Int)) := by
  have li := lo_inv l P l.length
  have lc := lo_cut (l := l) (P := P) (last := last) l.length hl hPa
  have lt := lo_top (l := l) (P := P) (n := last) hPl
  rw [← lc] at lt
  have ui := up_inv l P last hPl last (Nat.le_refl _)
  unfold q_X12_layHull
  refine w_kb (w_for (ex := 81) (by decide) (fun i (s : Int × Int × tZ12) => s.2.1 = (i : Int) ∧ s.1 = ((loF l P i).2 : Int) ∧ FH m s.2.2 ∧ ∀ j, j < (loF l P i).2 → s.2.2.2.2.1 36 j = ((loF l P i).1 j : Int)) l.length ?_ ?_ (Nat.zero_le _) (by have := kF_eq; omega) ⟨rfl, rfl, FH_rfl m, fun j hj => absurd hj (Nat.not_lt_zero _)⟩) ?_
  · rintro i ⟨t, c, s⟩ hi ⟨rfl, rfl, hF, h⟩
    dsimp only at hF h
    have HS := SPm_fh hF H
    have vi := lo_inv l P i
    unfold q_X12_layHull_L5
    dsimp only
    rw [HS.1, qm_has (show i < 64 by omega), hP i hi]
    simp only [kwp_kb, kwp_some, kwp_kg, kwp_kif, kwp_kl, kz_0]
    refine ⟨⟨⟨by omega, by omega⟩, ⟨by omega, by omega⟩⟩, fun q => by omega, fun _ => ⟨fun q => ⟨by trivial, by omega, ?_, hF, ?_⟩, fun q => ?_⟩⟩
    · have e : loF l P (i + 1) = loF l P i := if_neg (by rw [q]; decide)
      rw [e]
    · have e : loF l P (i + 1) = loF l P i := if_neg (by rw [q]; decide)
      rw [e]
      exact h
    · have q' : P i = true := by
        cases e : P i with
        | true => rfl
        | false => exact absurd e q
      have e : loF l P (i + 1) = stpF l (loF l P i) i := if_pos q'
      have pl := popF_le l i (loF l P i).1 (loF l P i).2
      refine w_mono (qm_pop26 (set := set) HS hb (f := (loF l P i).1) (T := (loF l P i).2) (by omega) (fun j hj => ⟨h j hj, by have := (vi.2 j hj).1; omega⟩) hi) ?_
      rintro ⟨lb, t'⟩ ⟨h0, h1⟩
      dsimp only at h0 h1
      subst h1
      refine ⟨h0, ⟨by omega, by omega⟩, by trivial, by omega, ?_, FH_36 hF _ _, ?_⟩
      · rw [e]
        unfold stpF
        (try dsimp only)
        omega
      · rw [e, Int.toNat_natCast]
        (try dsimp only)
        rw [va_same]
        exact stp_36 h
  · rintro ⟨t, c, s⟩ ⟨rfl, h⟩
    dsimp only at h
    have HS := SPm_fh h.2.1 H
    unfold q_X12_layHull_L5
    dsimp only
    rw [HS.1]
    simp only [kwp_kb, kwp_some, kwp_kg, kwp_kif, kwp_kl]
    exact ⟨⟨⟨by omega, by omega⟩, ⟨by omega, by omega⟩⟩, fun _ => ⟨by trivial, by trivial, h⟩, fun q => by omega⟩
  · rintro ⟨lb, t, c, s⟩ ⟨g0, _, gt, hF, h⟩
    dsimp only at g0 gt hF h ⊢
    subst gt
    simp only [kwp_kg, kwp_kl, kwp_kb]
    refine ⟨g0, ?_⟩
    refine w_mono (w_for (ex := 115) (by decide) (fun i (s : Int × tZ12) => s.1 = (i : Int) ∧ FH m s.2 ∧ s.2.1 37 = ((loF l P l.length).2 : Int) ∧ (∀ j, j < (loF l P l.length).2 → s.2.2.2.1 36 j = ((loF l P l.length).1 j : Int)) ∧ ∀ j, j < i → s.2.2.2.1 35 j = ((loF l P l.length).1 j : Int)) (loF l P l.length).2 ?_ ?_ (Nat.zero_le _) (by have := kF_eq; omega) ⟨rfl, FH_37 hF _, by dsimp only; exact va_same _ _ _, h, fun j hj => absurd hj (Nat.not_lt_zero _)⟩) ?_
    · rintro i ⟨c, s⟩ hi ⟨rfl, hF, h37, h36, h35⟩
      dsimp only at hF h37 h36 h35
      unfold q_X12_layHull_L89
      simp only [kwp_kb, kwp_some, kwp_kg, kwp_kif, kwp_kl]
      rw [Int.toNat_natCast]
      refine ⟨⟨⟨by omega, by omega⟩, ⟨by omega, by omega⟩⟩, fun q => by omega, fun _ => ⟨⟨by omega, by omega⟩, by trivial, by omega, FH_35 hF _ _, h37, ?_, fun j hj => ?_⟩⟩
      · rw [va_ne _ _ (by decide)]
        exact h36
      · rw [va_same]
        by_cases e : j = i
        · rw [e, va_same]
          exact h36 i hi
        · rw [va_ne _ _ e]
          exact h35 j (by omega)
    · rintro ⟨c, s⟩ ⟨rfl, h⟩
      dsimp only at h
      unfold q_X12_layHull_L89
      simp only [kwp_kb, kwp_some, kwp_kg, kwp_kif, kwp_kl]
      exact ⟨⟨⟨by omega, by omega⟩, ⟨by omega, by omega⟩⟩, fun _ => ⟨by trivial, by trivial, h⟩, fun q => by omega⟩
    · rintro ⟨lb2, c2, s2⟩ ⟨g1, _, hF2, h37, h36, h35⟩
      dsimp only at g1 hF2 h37 h36 h35 ⊢
      simp only [kwp_kg, kwp_kif, kwp_some, kwp_kl, kwp_kb]
      refine ⟨g1, ⟨by omega, by omega⟩, fun q => ⟨⟨by omega, by omega⟩, by decide, ?_⟩, fun q => ?_⟩
      · have t2 : 2 ≤ (loF l P l.length).2 := by omega
        have u2 : 2 ≤ (upF l P last last).2 := by
          refine up_two hPl last (Nat.le_refl _) ?_
          have vi := lo_inv l P last
          by_cases e : 1 ≤ (loF l P last).2
          · have := vi.2 0 (by omega)
            exact ⟨_, by omega, this.1, this.2⟩
          · have e1 : loF l P (last + 1) = stpF l (loF l P last) last := if_pos hPl
            have pl := popF_le l last (loF l P last).1 (loF l P last).2
            rw [lc, e1] at t2
            unfold stpF at t2
            dsimp only at t2
            omega
        rw [show (((loF l P l.length).2 : Int) - 1).toNat = (loF l P l.length).2 - 1 by omega, h36 _ (by omega), lt.2]
        refine w_mono (w_for (ex := 219) (by decide) (fun i (s : Int × Int × tZ12) => s.2.1 = (last : Int) - 1 - (i : Int) ∧ s.1 = ((upF l P last i).2 : Int) ∧ FH m s.2.2 ∧ s.2.2.1 37 = ((loF l P l.length).2 : Int) ∧ (∀ j, j < (loF l P l.length).2 → s.2.2.2.2.1 35 j = ((loF l P l.length).1 j : Int)) ∧ ∀ j, j < (upF l P last i).2 → s.2.2.2.2.1 36 j = ((upF l P last i).1 j : Int)) last ?_ ?_ (Nat.zero_le _) (by have := kF_eq; omega) ⟨by dsimp only; omega, rfl, FH_36 hF2 _ _, h37, by dsimp only; rw [va_ne _ _ (by decide)]; exact h35, fun j hj => ?_⟩) ?_
        · rintro i ⟨t, c, s⟩ hi ⟨rfl, rfl, hF, k37, k35, k36⟩
          dsimp only at hF k37 k35 k36
          have HS := SPm_fh hF H
          have vi := up_inv l P last hPl i (by omega)
          have ek : (last : Int) - 1 - (i : Int) = ((last - 1 - i : Nat) : Int) := by omega
          unfold q_X12_layHull_L147
          dsimp only
          rw [ek, qm_has (show last - 1 - i < 64 by omega), hP _ (by omega)]
          simp only [kwp_kb, kwp_some, kwp_kg, kwp_kif, kwp_kl, kz_0]
          refine ⟨⟨by omega, by omega⟩, fun q => by omega, fun _ => ⟨fun q => ⟨by trivial, by omega, ?_, hF, k37, k35, ?_⟩, fun q => ?_⟩⟩
          · have e : upF l P last (i + 1) = upF l P last i := if_neg (by rw [q]; decide)
            rw [e]
          · have e : upF l P last (i + 1) = upF l P last i := if_neg (by rw [q]; decide)
            rw [e]
            exact k36
          · have q' : P (last - 1 - i) = true := by
              cases e : P (last - 1 - i) with
              | true => rfl
              | false => exact absurd e q
            have e : upF l P last (i + 1) = stpF l (upF l P last i) (last - 1 - i) := if_pos q'
            have pl := popF_le l (last - 1 - i) (upF l P last i).1 (upF l P last i).2
            refine w_mono (qm_pop164 (set := set) HS hb (f := (upF l P last i).1) (T := (upF l P last i).2) (by omega) (fun j hj => ⟨k36 j hj, by have := (vi.2.2.2 j hj).1; omega⟩) (show last - 1 - i < l.length by omega)) ?_
            rintro ⟨lb, t'⟩ ⟨h0, h1⟩
            dsimp only at h0 h1
            subst h1
            refine ⟨h0, ⟨by omega, by omega⟩, by trivial, by omega, ?_, FH_36 hF _ _, k37, ?_, ?_⟩
            · rw [e]
              unfold stpF
              (try dsimp only)
              omega
            · dsimp only
              rw [va_ne _ _ (by decide)]
              exact k35
            · rw [e, Int.toNat_natCast]
              (try dsimp only)
              rw [va_same]
              exact stp_36 k36
        · rintro ⟨t, c, s⟩ ⟨rfl, h⟩
          dsimp only at h
          unfold q_X12_layHull_L147
          simp only [kwp_kb, kwp_some, kwp_kg, kwp_kif, kwp_kl]
          exact ⟨⟨by omega, by omega⟩, fun _ => ⟨by trivial, by trivial, h⟩, fun q => by omega⟩
        · have j0 : j = 0 := by
            have : j < 1 := hj
            omega
          subst j0
          dsimp only
          rw [va_same]
          show va_up _ 0 _ 0 = _
          rw [va_same]
          rfl
        · rintro ⟨lb3, t3, c3, s3⟩ ⟨g3, _, gt3, hF3, k37, k35, k36⟩
          dsimp only at g3 gt3 hF3 k37 k35 k36 ⊢
          subst gt3
          refine ⟨g3, ?_⟩
          have hN' : hN l P l.length last = (loF l P l.length).2 + (upF l P last last).2 - 2 := if_neg (by omega)
          refine w_mono (w_for (ex := 262) (by decide) (fun i (s : Int × tZ12) => s.1 = (i : Int) + 1 ∧ FH m s.2 ∧ s.2.1 37 = (((loF l P l.length).2 + i : Nat) : Int) ∧ (∀ j, j < (upF l P last last).2 → s.2.2.2.1 36 j = ((upF l P last last).1 j : Int)) ∧ ∀ j, j < (loF l P l.length).2 + i → s.2.2.2.1 35 j = (hI2 l P l.length last j : Int)) ((upF l P last last).2 - 2) ?_ ?_ (Nat.zero_le _) (by have := kF_eq; omega) ⟨rfl, hF3, k37, k36, fun j hj => ?_⟩) ?_
          · rintro i ⟨c, s⟩ hi ⟨rfl, hF, p37, p36, p35⟩
            dsimp only at hF p37 p36 p35
            have llen := li.1
            rw [hN'] at hc
            unfold q_X12_layHull_L222
            simp only [kwp_kb, kwp_some, kwp_kg, kwp_kif, kwp_kl]
            rw [show ((i : Int) + 1).toNat = i + 1 by omega, p37, Int.toNat_natCast]
            refine ⟨⟨⟨by omega, by omega⟩, ⟨by omega, by omega⟩⟩, fun q => by omega, fun _ => ⟨⟨by omega, by omega⟩, ⟨by omega, by omega⟩, by trivial, by omega, FH_37 (FH_35 hF _ _) _, ?_, ?_, fun j hj => ?_⟩⟩
            · rw [va_same]
              omega
            · rw [va_ne _ _ (by decide)]
              exact p36
            · rw [va_same]
              by_cases e : j = (loF l P l.length).2 + i
              · rw [e, va_same, p36 _ (by omega)]
                unfold hI2
                rw [if_neg (by omega), show (loF l P l.length).2 + i + 1 - (loF l P l.length).2 = i + 1 by omega]
              · rw [va_ne _ _ e]
                exact p35 j (by omega)
          · rintro ⟨c, s⟩ ⟨rfl, h⟩
            dsimp only at h
            unfold q_X12_layHull_L222
            simp only [kwp_kb, kwp_some, kwp_kg, kwp_kif, kwp_kl]
            exact ⟨⟨⟨by omega, by omega⟩, ⟨by omega, by omega⟩⟩, fun _ => ⟨by trivial, by trivial, h⟩, fun q => by omega⟩
          · unfold hI2
            rw [if_pos (by omega)]
            exact k35 j (by omega)
          · rintro ⟨lb4, c4, s4⟩ ⟨g4, _, hF4, p37, _, p35⟩
            dsimp only at g4 hF4 p37 p35 ⊢
            refine ⟨g4, hF4, ?_, fun i hi => p35 i (by omega)⟩
            rw [p37, hN']
            omega
      · have t1 : (loF l P l.length).2 ≤ 1 := by omega
        have hN' : hN l P l.length last = (loF l P l.length).2 := if_pos t1
        refine ⟨hF2, by rw [h37, hN'], fun i hi => ?_⟩
        rw [hN'] at hi
        rw [h35 i hi]
        unfold hI2
        rw [if_pos hi]
