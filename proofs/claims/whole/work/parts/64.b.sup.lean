theorem lo_last {l : List Spt} {P : Nat → Bool} : ∀ n k, k < n → P k = true → k ≤ (loF l P n).1 ((loF l P n).2 - 1)
  | 0, _, h, _ => absurd h (Nat.not_lt_zero _)
  | n + 1, k, h, hp => by
    by_cases q : P n = true
    · rw [(lo_top q).2]
      omega
    · have e : loF l P (n + 1) = loF l P n := by
        show (if P n = true then _ else _) = _
        rw [if_neg q]
      rw [e]
      by_cases z : k = n
      · rw [z] at hp
        exact absurd hp q
      · exact lo_last n k (by omega) hp
theorem SU_mono {l : List Spt} {A B : Nat → Prop} {s : (Nat → Nat) × Nat} (h : SU l A s) (g : ∀ p, B p → A p) : SU l B s := fun t ht p hp => h t ht p (g p hp)
theorem SU_lo {l : List Spt} (hs : sorL l) (P : Nat → Bool) : ∀ n, n ≤ l.length → SU l (fun p => p < n ∧ P p = true) (loF l P n)
  | 0, _ => fun t ht => absurd ht (Nat.not_lt_zero _)
  | n + 1, hn => by
    have ih := SU_lo hs P n (by omega)
    have li := lo_inv l P n
    by_cases q : P n = true
    · have e : loF l P (n + 1) = stpF l (loF l P n) n := by
        show (if P n = true then _ else _) = _
        rw [if_pos q]
      rw [e]
      refine SU_mono (SU_stp hs (o := true) (fun i hi => by have := (li.2 i hi).1; omega) (CV_lo hs P n (by omega)) ih (by omega) (fun p hp => by omega) (fun p hp => ?_) (fun i hi => li.2 i hi) (fun p hp => ?_) (fun p hp => ?_)) (fun p hp => ?_)
      · exact hp.1
      · have lf := lo_first (l := l) n p hp.1 hp.2
        refine ⟨lf.1, ?_⟩
        have := lf.2
        show _ ∨ (loF l P n).1 0 < p
        omega
      · have := lo_last (l := l) n p hp.1 hp.2
        show ¬ (loF l P n).1 ((loF l P n).2 - 1) < p
        omega
      · by_cases z : p = n
        · exact Or.inr z
        · exact Or.inl ⟨by omega, hp.2⟩
    · have e : loF l P (n + 1) = loF l P n := by
        show (if P n = true then _ else _) = _
        rw [if_neg q]
      rw [e]
      refine SU_mono ih (fun p hp => ⟨?_, hp.2⟩)
      by_cases z : p = n
      · rw [z] at hp
        exact absurd hp.2 q
      · omega
theorem SU_up {l : List Spt} (hs : sorL l) {P : Nat → Bool} {last : Nat} (hl : P last = true) (hn : last < l.length) : ∀ c, c ≤ last → SU l (fun p => last - c ≤ p ∧ p ≤ last ∧ P p = true) (upF l P last c)
  | 0, _ => fun t ht => by
    have : t + 1 < 1 := ht
    omega
  | c + 1, hc => by
    have ih := SU_up hs hl hn c (by omega)
    have ui := up_inv l P last hl c (by omega)
    have ul := up_lo (l := l) hl c (by omega)
    by_cases q : P (last - 1 - c) = true
    · have e : upF l P last (c + 1) = stpF l (upF l P last c) (last - 1 - c) := by
        show (if P (last - 1 - c) = true then _ else _) = _
        rw [if_pos q]
      rw [e]
      refine SU_mono (SU_stp hs (o := false) (fun i hi => by have := (ui.2.2.2 i hi).1; omega) (CV_up hs hl hn c (by omega)) ih (by omega) (fun p hp => by omega) (fun p hp => ?_) (fun i hi => ⟨ul i hi, (ui.2.2.2 i hi).1, (ui.2.2.2 i hi).2⟩) (fun p hp => ?_) (fun p hp => ?_)) (fun p hp => ?_)
      · show last - 1 - c < p
        omega
      · refine ⟨ui.1, ?_⟩
        rw [ui.2.2.1]
        show _ ∨ p < last
        omega
      · show ¬ p < (upF l P last c).1 ((upF l P last c).2 - 1)
        by_cases z : p = last
        · have := (ui.2.2.2 ((upF l P last c).2 - 1) (by omega)).1
          omega
        · have := up_last (l := l) hl c (by omega) p hp.1 (by omega) hp.2.2
          omega
      · by_cases z : p = last - 1 - c
        · exact Or.inr z
        · exact Or.inl ⟨by omega, hp.2⟩
    · have e : upF l P last (c + 1) = upF l P last c := by
        show (if P (last - 1 - c) = true then _ else _) = _
        rw [if_neg q]
      rw [e]
      refine SU_mono ih (fun p hp => ⟨?_, hp.2⟩)
      by_cases z : p = last - 1 - c
      · rw [z] at hp
        exact absurd hp.2.2 q
      · omega
