/-! ===== some of the SPOTS ===== -/
def FL (l : List Spt) (P : Nat → Bool) : List Spt := ((List.range l.length).filter P).map (g8 l)
def EM (l : List Spt) (P : Nat → Bool) (l' : List Spt) (e : Nat → Nat) : Prop :=
  (∀ t, t < l'.length → e t < l.length ∧ P (e t) = true ∧ g8 l' t = g8 l (e t)) ∧ (∀ t u, t < u → u < l'.length → e t < e u) ∧ ∀ k, k < l.length → P k = true → ∃ t, t < l'.length ∧ e t = k
def ixF (l : List Spt) (P : Nat → Bool) (t : Nat) : Nat := ((List.range l.length).filter P).getD t 0
theorem FL_em (l : List Spt) (P : Nat → Bool) : EM l P (FL l P) (ixF l P) := by
  have hlen : (FL l P).length = ((List.range l.length).filter P).length := List.length_map ..
  have get : ∀ t, (h : t < ((List.range l.length).filter P).length) → ixF l P t = ((List.range l.length).filter P)[t] := fun t h => by
    unfold ixF
    rw [List.getD_eq_getElem?_getD, List.getElem?_eq_getElem h]
    rfl
  refine ⟨fun t ht => ?_, fun t u htu hu => ?_, fun k hk hp => ?_⟩
  · rw [hlen] at ht
    have m : ((List.range l.length).filter P)[t] ∈ (List.range l.length).filter P := List.getElem_mem ht
    rw [List.mem_filter, List.mem_range] at m
    rw [get t ht]
    refine ⟨m.1, m.2, ?_⟩
    show (((List.range l.length).filter P).map (g8 l)).getD t (0, 0, 0) = _
    rw [List.getD_eq_getElem?_getD, List.getElem?_map, List.getElem?_eq_getElem ht]
    rfl
  · rw [hlen] at hu
    rw [get t (by omega), get u hu]
    have pw : ((List.range l.length).filter P).Pairwise (· < ·) := List.Pairwise.filter _ List.pairwise_lt_range
    exact List.pairwise_iff_getElem.mp pw t u (by omega) hu htu
  · have m : k ∈ (List.range l.length).filter P := by
      rw [List.mem_filter, List.mem_range]
      exact ⟨hk, hp⟩
    obtain ⟨t, ht, e⟩ := List.getElem_of_mem m
    exact ⟨t, by rw [hlen]; exact ht, by rw [get t ht]; exact e⟩
theorem EM_tn {l : List Spt} {P : Nat → Bool} {l' : List Spt} {e : Nat → Nat} (h : EM l P l' e) {a b c : Nat} (ha : a < l'.length) (hb : b < l'.length) (hc : c < l'.length) : tn (lX l') (lY l') a b c = tn (lX l) (lY l) (e a) (e b) (e c) := by
  unfold tn lX lY
  rw [(h.1 a ha).2.2, (h.1 b hb).2.2, (h.1 c hc).2.2]
def SE (e : Nat → Nat) (s s' : (Nat → Nat) × Nat) : Prop := s.2 = s'.2 ∧ ∀ i, i < s'.2 → s.1 i = e (s'.1 i)
theorem pop_em {l : List Spt} {P : Nat → Bool} {l' : List Spt} {e : Nat → Nat} (h : EM l P l' e) {f f' : Nat → Nat} {k : Nat} (hk : k < l'.length) : ∀ T, (∀ i, i < T → f i = e (f' i) ∧ f' i < l'.length) → popF l (e k) f T = popF l' k f' T
  | 0, _ => rfl
  | 1, _ => rfl
  | T + 2, hf => by
    have e1 : popF l (e k) f (T + 2) = if 0 < tn (lX l) (lY l) (f T) (f (T + 1)) (e k) then T + 2 else popF l (e k) f (T + 1) := rfl
    have e2 : popF l' k f' (T + 2) = if 0 < tn (lX l') (lY l') (f' T) (f' (T + 1)) k then T + 2 else popF l' k f' (T + 1) := rfl
    have a := hf T (by omega)
    have b := hf (T + 1) (by omega)
    rw [e1, e2, EM_tn h a.2 b.2 hk, a.1, b.1, pop_em h hk (T + 1) (fun i hi => hf i (by omega))]
theorem stp_em {l : List Spt} {P : Nat → Bool} {l' : List Spt} {e : Nat → Nat} (h : EM l P l' e) {s s' : (Nat → Nat) × Nat} {k : Nat} (hk : k < l'.length) (hs : SE e s s') (ok : okJ l' s') : SE e (stpF l s (e k)) (stpF l' s' k) := by
  have pe : popF l (e k) s.1 s.2 = popF l' k s'.1 s'.2 := by
    rw [hs.1]
    exact pop_em h hk s'.2 (fun i hi => ⟨hs.2 i hi, ok i hi⟩)
  have pl := popF_le l' k s'.1 s'.2
  unfold stpF
  rw [pe]
  refine ⟨rfl, fun i hi => ?_⟩
  dsimp only at hi ⊢
  by_cases q : i = popF l' k s'.1 s'.2
  · rw [q, va_same, va_same]
  · rw [va_ne _ _ q, va_ne _ _ q]
    exact hs.2 i (by omega)
theorem lo_em {l : List Spt} {P : Nat → Bool} {l' : List Spt} {e : Nat → Nat} (h : EM l P l' e) : ∀ n, n ≤ l.length → ∃ t, t ≤ l'.length ∧ (∀ u, u < t → e u < n) ∧ (∀ u, t ≤ u → u < l'.length → n ≤ e u) ∧ SE e (loF l P n) (loF l' aP t)
  | 0, _ => ⟨0, Nat.zero_le _, fun u hu => absurd hu (Nat.not_lt_zero _), fun u _ _ => Nat.zero_le _, rfl, fun i hi => absurd hi (Nat.not_lt_zero _)⟩
  | n + 1, hn => by
    obtain ⟨t, ht, h1, h2, h3⟩ := lo_em h n (by omega)
    by_cases q : P n = true
    · obtain ⟨u, hu, eu⟩ := h.2.2 n (by omega) q
      have ut : u = t := by
        by_cases a : u < t
        · have := h1 u a
          omega
        · by_cases b : t < u
          · have x := h.2.1 t u b hu
            have y := h2 t (Nat.le_refl _) (by omega)
            omega
          · omega
      subst ut
      have e1 : loF l P (n + 1) = stpF l (loF l P n) n := by
        show (if P n = true then _ else _) = _
        rw [if_pos q]
      have e2 : loF l' aP (u + 1) = stpF l' (loF l' aP u) u := rfl
      have li := lo_inv l' aP u
      refine ⟨u + 1, by omega, fun v hv => ?_, fun v hv hv2 => ?_, ?_⟩
      · by_cases a : v = u
        · rw [a, eu]
          omega
        · have := h1 v (by omega)
          omega
      · have := h.2.1 u v (by omega) hv2
        omega
      · rw [e1, e2]
        have := stp_em h hu h3 (fun i hi => by have := (li.2 i hi).1; omega)
        rw [eu] at this
        exact this
    · have e1 : loF l P (n + 1) = loF l P n := by
        show (if P n = true then _ else _) = _
        rw [if_neg q]
      refine ⟨t, ht, fun u hu => by have := h1 u hu; omega, fun u hu hu2 => ?_, by rw [e1]; exact h3⟩
      have a := h2 u hu hu2
      have b := (h.1 u hu2).2.1
      by_cases c : e u = n
      · rw [c] at b
        exact absurd b q
      · omega
theorem up_em {l : List Spt} {P : Nat → Bool} {l' : List Spt} {e : Nat → Nat} (h : EM l P l' e) (h0 : 0 < l'.length) {last : Nat} (hl : last = e (l'.length - 1)) :
    ∀ c, c ≤ last → ∃ d, d ≤ l'.length - 1 ∧ (∀ u, l'.length - 1 - d ≤ u → u < l'.length → last - c ≤ e u) ∧ (∀ u, u < l'.length - 1 - d → e u < last - c) ∧ SE e (upF l P last c) (upF l' aP (l'.length - 1) d)
  | 0, _ => by
    refine ⟨0, Nat.zero_le _, fun u hu hu2 => ?_, fun u hu => ?_, rfl, fun i hi => ?_⟩
    · rw [show u = l'.length - 1 by omega, hl]
      omega
    · have := h.2.1 u (l'.length - 1) (by omega) (by omega)
      omega
    · show last = e (l'.length - 1)
      exact hl
  | c + 1, hc => by
    obtain ⟨d, hd, h1, h2, h3⟩ := up_em h h0 hl c (by omega)
    have llt := (h.1 (l'.length - 1) (by omega)).1
    by_cases q : P (last - 1 - c) = true
    · obtain ⟨u, hu, eu⟩ := h.2.2 (last - 1 - c) (by omega) q
      have ud : u + 1 = l'.length - 1 - d := by
        by_cases a : l'.length - 1 - d ≤ u
        · have := h1 u a hu
          omega
        · by_cases b : u + 1 < l'.length - 1 - d
          · have x := h2 (u + 1) b
            have y := h.2.1 u (u + 1) (by omega) (by omega)
            omega
          · omega
      have e1 : upF l P last (c + 1) = stpF l (upF l P last c) (last - 1 - c) := by
        show (if P (last - 1 - c) = true then _ else _) = _
        rw [if_pos q]
      have e2 : upF l' aP (l'.length - 1) (d + 1) = stpF l' (upF l' aP (l'.length - 1) d) (l'.length - 1 - 1 - d) := rfl
      have ui := up_inv l' aP (l'.length - 1) rfl d hd
      refine ⟨d + 1, by omega, fun v hv hv2 => ?_, fun v hv => ?_, ?_⟩
      · by_cases a : v = u
        · rw [a, eu]
          omega
        · have := h1 v (by omega) hv2
          omega
      · have := h.2.1 v u (by omega) hu
        omega
      · rw [e1, e2, show l'.length - 1 - 1 - d = u by omega]
        have := stp_em h hu h3 (fun i hi => by have := (ui.2.2.2 i hi).1; omega)
        rw [eu] at this
        exact this
    · have e1 : upF l P last (c + 1) = upF l P last c := by
        show (if P (last - 1 - c) = true then _ else _) = _
        rw [if_neg q]
      refine ⟨d, hd, fun u hu hu2 => ?_, fun u hu => ?_, by rw [e1]; exact h3⟩
      · have := h1 u hu hu2
        omega
      · have a := h2 u hu
        have b := (h.1 u (by omega)).2.1
        by_cases z : e u = last - 1 - c
        · rw [z] at b
          exact absurd b q
        · omega
/-- the hull of some of them, by the mask and by the list -/
theorem hull_em {l : List Spt} {P : Nat → Bool} {l' : List Spt} {e : Nat → Nat} (h : EM l P l' e) (h0 : 0 < l'.length) {last : Nat} (hl : last = e (l'.length - 1)) :
    hN l P l.length last = hC l' ∧ ∀ i, i < hC l' → hI2 l P l.length last i = e (hJ l' i) := by
  obtain ⟨t, ht, h1, h2, h3⟩ := lo_em h l.length (Nat.le_refl _)
  have tt : t = l'.length := by
    by_cases q : t < l'.length
    · have a := h2 t (Nat.le_refl _) q
      have b := (h.1 t q).1
      omega
    · omega
  subst tt
  obtain ⟨d, hd, h4, h5, h6⟩ := up_em h h0 hl last (Nat.le_refl _)
  have dd : d = l'.length - 1 := by
    by_cases q : 0 < l'.length - 1 - d
    · have := h5 0 q
      omega
    · omega
  subst dd
  have u1 := (up_inv l' aP (l'.length - 1) rfl (l'.length - 1) (Nat.le_refl _)).1
  have c1 : hN l P l.length last = hC l' := by
    unfold hC hN
    rw [h3.1, h6.1]
  refine ⟨c1, fun i hi => ?_⟩
  unfold hC hN at hi
  unfold hJ hI2
  rw [h3.1]
  by_cases q : i < (loF l' aP l'.length).2
  · rw [if_pos q, if_pos q]
    exact h3.2 i q
  · rw [if_neg q, if_neg q]
    refine h6.2 _ ?_
    split at hi
    · omega
    · omega
