/-! ===== THE TEXT: a number at a place ===== -/
def NX (b : Nat → Int) (n : Int) (p : Nat) : Int := if (p : Int) < n then b p else -1
def dgt (c : Int) : Bool := decide (48 ≤ c ∧ c ≤ 57)
def nB (x : Nat → Int) (p : Nat) : Nat := if x p = 45 then p + 1 else p
def nD (x : Nat → Int) (q : Nat) : Nat := if dgt (x q) = true then (if dgt (x (q + 1)) = true then (if dgt (x (q + 2)) = true then 3 else 2) else 1) else 0
def nV (x : Nat → Int) (q : Nat) : Nat → Int
  | 0 => 0
  | d + 1 => 10 * nV x q d + x (q + d) - 48
def numE (x : Nat → Int) (p : Nat) : Nat := nB x p + nD x (nB x p)
def numA (x : Nat → Int) (p : Nat) : Int := nV x (nB x p) (nD x (nB x p))
def numV (x : Nat → Int) (p : Nat) : Int := if x p = 45 then -numA x p else numA x p
def numF (x : Nat → Int) (p : Nat) (far : Int) : Int := if nD x (nB x p) = 0 ∨ dgt (x (numE x p)) = true then (numE x p : Int) else if far < numA x p then (p : Int) else -1
theorem nD_le (x : Nat → Int) (q : Nat) : nD x q ≤ 3 := by
  unfold nD
  split
  · split
    · split <;> omega
    · omega
  · omega
theorem nD_of {x : Nat → Int} {q d : Nat} (h : ∀ j, j < d → dgt (x (q + j)) = true) (hd : d = 3 ∨ (d < 3 ∧ dgt (x (q + d)) = false)) : nD x q = d := by
  unfold nD
  match d, hd with
  | 0, hd =>
    have : dgt (x (q + 0)) = false := by rcases hd with h | h; omega; exact h.2
    rw [Nat.add_zero] at this
    rw [this]
    rfl
  | 1, hd =>
    have h0 := h 0 (by omega)
    rw [Nat.add_zero] at h0
    have : dgt (x (q + 1)) = false := by rcases hd with h | h; omega; exact h.2
    rw [h0, this]
    rfl
  | 2, hd =>
    have h0 := h 0 (by omega)
    have h1 := h 1 (by omega)
    rw [Nat.add_zero] at h0
    have : dgt (x (q + 2)) = false := by rcases hd with h | h; omega; exact h.2
    rw [h0, h1, this]
    rfl
  | 3, hd =>
    have h0 := h 0 (by omega)
    have h1 := h 1 (by omega)
    have h2 := h 2 (by omega)
    rw [Nat.add_zero] at h0
    rw [h0, h1, h2]
    rfl
  | d + 4, hd => omega
theorem nV_bd {x : Nat → Int} {q : Nat} : ∀ {d : Nat}, d ≤ 3 → (∀ j, j < d → dgt (x (q + j)) = true) → 0 ≤ nV x q d ∧ nV x q d < 1000 := by
  have st : ∀ {d : Nat} {B : Int}, 0 ≤ nV x q d → nV x q d ≤ B → dgt (x (q + d)) = true → 0 ≤ nV x q (d + 1) ∧ nV x q (d + 1) ≤ 10 * B + 9 := by
    intro d B h1 h2 h3
    have h3 := of_decide_eq_true h3
    show 0 ≤ 10 * nV x q d + x (q + d) - 48 ∧ 10 * nV x q d + x (q + d) - 48 ≤ _
    omega
  intro d hd h
  have a0 : 0 ≤ nV x q 0 ∧ nV x q 0 ≤ 0 := by unfold nV; omega
  match d with
  | 0 => omega
  | 1 =>
    have := st a0.1 a0.2 (h 0 (by omega))
    show 0 ≤ nV x q (0 + 1) ∧ nV x q (0 + 1) < 1000
    omega
  | 2 =>
    have b := st a0.1 a0.2 (h 0 (by omega))
    have := st b.1 b.2 (h 1 (by omega))
    show 0 ≤ nV x q (0 + 1 + 1) ∧ nV x q (0 + 1 + 1) < 1000
    omega
  | 3 =>
    have b := st a0.1 a0.2 (h 0 (by omega))
    have c := st b.1 b.2 (h 1 (by omega))
    have := st c.1 c.2 (h 2 (by omega))
    show 0 ≤ nV x q (0 + 1 + 1 + 1) ∧ nV x q (0 + 1 + 1 + 1) < 1000
    omega
  | d + 4 => omega
theorem nD_dg {x : Nat → Int} {q : Nat} : ∀ j, j < nD x q → dgt (x (q + j)) = true := by
  intro j hj
  unfold nD at hj
  split at hj
  · rename_i h0
    split at hj
    · rename_i h1
      split at hj
      · rename_i h2
        match j with
        | 0 => exact h0
        | 1 => exact h1
        | 2 => exact h2
        | j + 3 => omega
      · match j with
        | 0 => exact h0
        | 1 => exact h1
        | j + 2 => omega
    · match j with
      | 0 => exact h0
      | j + 1 => omega
  · omega
theorem numA_bd (x : Nat → Int) (p : Nat) : 0 ≤ numA x p ∧ numA x p < 1000 := nV_bd (nD_le _ _) nD_dg
theorem numE_bd (x : Nat → Int) (p : Nat) : p ≤ numE x p ∧ numE x p ≤ p + 4 := by
  unfold numE
  have hB : p ≤ nB x p ∧ nB x p ≤ p + 1 := by unfold nB; split <;> omega
  have := nD_le x (nB x p)
  omega
theorem NX_bd {b : Nat → Int} {n : Int} (hb : ∀ i : Nat, (i : Int) < n → 0 ≤ b i ∧ b i ≤ 255) (p : Nat) : -1 ≤ NX b n p ∧ NX b n p ≤ 255 := by
  unfold NX
  split
  · have := hb p (by assumption)
    omega
  · omega
theorem q_next {b : Nat → Int} {n f : Int} {p : Nat} (hn : n ≤ 400) (hn0 : 0 ≤ n) (hp : p < 100000) : q_X9_next (b, n, (p : Int), f) = some (NX b n p) := by
  refine w_eq ?_
  unfold q_X9_next NX
  simp only [kwp_kg, kwp_kif, kwp_some, Int.toNat_natCast]
  refine ⟨⟨by omega, by omega⟩, fun q => by omega, fun _ => ⟨⟨by omega, by omega⟩, fun q => ?_, fun q => ⟨⟨by omega, by omega⟩, ?_⟩⟩⟩
  · rw [if_neg (by omega)]
  · rw [if_pos (by omega)]
theorem q_dig {b : Nat → Int} {n f : Int} {p : Nat} (hb : ∀ i : Nat, (i : Int) < n → 0 ≤ b i ∧ b i ≤ 255) (hn : n ≤ 400) (hn0 : 0 ≤ n) (hp : p < 100000) : q_X9_nextIsDigit (b, n, (p : Int), f) = some (dgt (NX b n p)) := by
  refine w_eq ?_
  unfold q_X9_nextIsDigit
  rw [q_next hn hn0 hp]
  have := NX_bd hb p
  simp only [kwp_kg, kwp_kif, kwp_some, kwp_kb, dgt]
  refine ⟨⟨by omega, by omega⟩, fun q => (decide_eq_false (by omega)).symm, fun q => ⟨⟨by omega, by omega⟩, fun q => (decide_eq_false (by omega)).symm, fun q => (decide_eq_true (by omega)).symm⟩⟩
def fst (f v : Int) : Int := if f = -1 then v else f
theorem q_fail {b : Nat → Int} {n f p v : Int} (hf : k32 f) : q_X9_fail (b, n, p, f) v = some (b, n, p, fst f v) := by
  refine w_eq ?_
  unfold q_X9_fail fst
  simp only [kwp_kg, kwp_kif, kwp_some, kwp_kl]
  refine ⟨hf, fun q => ?_, fun q => ?_⟩
  · rw [if_pos q]
  · rw [if_neg q]
theorem fst_m1 (f : Int) : fst f (-1) = f := by
  unfold fst
  split
  · rename_i h; exact h.symm
  · rfl
theorem fst_fst (f v w : Int) : fst (fst f v) w = fst f (fst v w) := by
  unfold fst
  by_cases h : f = -1
  · rw [if_pos h, if_pos h]
  · rw [if_neg h, if_neg h, if_neg h]
theorem fst_k {f v : Int} (hf : k32 f) (hv : k32 v) : k32 (fst f v) := by
  unfold fst
  split
  · exact hv
  · exact hf
theorem q_num {b : Nat → Int} {n f far : Int} {p : Nat} (hb : ∀ i : Nat, (i : Int) < n → 0 ≤ b i ∧ b i ≤ 255) (hn : n ≤ 400) (hn0 : 0 ≤ n) (hp : p < 50000) (hf : k32 f) (hfar : 0 ≤ far ∧ far < 1000) :
    q_X9_readNumber (b, n, (p : Int), f) far = some (numV (NX b n) p, b, n, (numE (NX b n) p : Int), fst f (numF (NX b n) p far)) := by
  have hx := fun p => NX_bd hb p
  generalize hX : NX b n = x at *
  have qn : ∀ {g : Int} {p : Nat}, p < 100000 → q_X9_next (b, n, (p : Int), g) = some (x p) := fun h => by rw [q_next hn hn0 h, hX]
  have qd : ∀ {g : Int} {p : Nat}, p < 100000 → q_X9_nextIsDigit (b, n, (p : Int), g) = some (dgt (x p)) := fun h => by rw [q_dig hb hn hn0 h, hX]
  have hA := numA_bd x p
  have hE := numE_bd x p
  obtain ⟨mi, hmi⟩ : ∃ mi : Int, mi = if x p = 45 then 1 else 0 := ⟨_, rfl⟩
  have k115 : ∀ (g : Int), kwp (q_X9_readNumber_J115 far (b, n, (numE x p : Int), g) mi (numA x p)) (fun r => r = (numV x p, b, n, (numE x p : Int), g)) := fun g => by
    unfold q_X9_readNumber_J115 numV
    by_cases h : x p = 45
    · rw [if_pos h] at hmi
      rw [if_pos h, hmi]
      simp only [kwp_kg, kwp_kif, kwp_some]
      exact ⟨by decide, fun q => absurd q (by decide), fun _ => by trivial⟩
    · rw [if_neg h] at hmi
      rw [if_neg h, hmi]
      simp only [kwp_kg, kwp_kif, kwp_some]
      exact ⟨by decide, fun _ => by trivial, fun q => (q (by trivial)).elim⟩
  have k104 : ∀ (g : Int), k32 g → kwp (q_X9_readNumber_J104 far (b, n, (numE x p : Int), g) (p : Int) mi (numA x p)) (fun r => r = (numV x p, b, n, (numE x p : Int), fst g (if far < numA x p then (p : Int) else -1))) := fun g hg => by
    unfold q_X9_readNumber_J104
    simp only [kwp_kg, kwp_kif]
    refine ⟨⟨⟨by omega, by omega⟩, ⟨by omega, by omega⟩⟩, fun q => ?_, fun q => ?_⟩
    · rw [if_neg (by omega), fst_m1]
      exact k115 g
    · rw [if_pos (by omega)]
      exact w_kbe (q_fail hg) (k115 _)
  have k84 : kwp (q_X9_readNumber_J84 far (b, n, (numE x p : Int), f) (p : Int) mi (numA x p) (nD x (nB x p) : Int)) (fun r => r = (numV x p, b, n, (numE x p : Int), fst f (numF x p far))) := by
    have hD := nD_le x (nB x p)
    have k96 : (nD x (nB x p) = 0 ∨ dgt (x (numE x p)) = true) → kwp (q_X9_readNumber_J96 far (b, n, (numE x p : Int), f) (p : Int) mi (numA x p)) (fun r => r = (numV x p, b, n, (numE x p : Int), fst f (numF x p far))) := fun hq => by
      unfold q_X9_readNumber_J96
      refine w_kbe (q_fail hf) ?_
      refine w_mono (k104 _ (fst_k hf ⟨by dsimp only; omega, by dsimp only; omega⟩)) (fun r h => ?_)
      rw [h, fst_fst]
      unfold numF
      rw [if_pos hq]
      unfold fst
      rw [if_neg (show ¬ ((numE x p : Int) = -1) by omega)]
    unfold q_X9_readNumber_J84
    simp only [kwp_kg, kwp_kif, kwp_kb]
    refine ⟨⟨by omega, by omega⟩, fun q => k96 (Or.inl (by omega)), fun q => ?_⟩
    rw [qd (by omega), kwp_some, kz_0]
    refine ⟨fun h => ?_, fun h => k96 (Or.inr (by simpa using h))⟩
    have e : numF x p far = if far < numA x p then (p : Int) else -1 := by
      unfold numF
      rw [if_neg]
      rintro (h1 | h1)
      · omega
      · rw [h] at h1; cases h1
    rw [e]
    exact k104 f hf
  have k40 : kwp (q_X9_readNumber_J40 far (b, n, (nB x p : Int), f) (p : Int) mi 0 0) (fun r => r = (numV x p, b, n, (numE x p : Int), fst f (numF x p far))) := by
    have hB : nB x p ≤ p + 1 := by unfold nB; split <;> omega
    unfold q_X9_readNumber_J40
    refine w_kb (P := fun e => e.1 = 84 ∧ e.2 = (numA x p, (nD x (nB x p) : Int), b, n, (numE x p : Int), f)) ?_ (fun e h => ?_)
    · refine w_loop (fun k s => ∃ d : Nat, d ≤ 3 ∧ k = 3 - d ∧ (∀ j, j < d → dgt (x (nB x p + j)) = true) ∧ s = (nV x (nB x p) d, (d : Int), b, n, ((nB x p + d : Nat) : Int), f)) ?_ kF 3 _ (by decide) ⟨0, by omega, rfl, fun j h => absurd h (Nat.not_lt_zero _), rfl⟩
      rintro k s ⟨d, hd, rfl, hj, rfl⟩
      unfold q_X9_readNumber_L40
      simp only [kwp_kg, kwp_kif, kwp_kb, kwp_kl]
      rw [qd (by omega), kwp_some, qn (by omega), kwp_some]
      simp only [kwp_some, kz_0]
      refine ⟨⟨by omega, by omega⟩, fun q => Or.inr ⟨by decide, by trivial, ?_⟩, fun q => ⟨fun q2 => Or.inr ⟨by decide, by trivial, ?_⟩, fun q2 => Or.inl ⟨by trivial, 3 - (d + 1), by omega, d + 1, by omega, rfl, fun j hj' => ?_, ?_⟩⟩⟩
      · have e := nD_of hj (Or.inl (by omega))
        unfold numA numE
        rw [e]
      · have e := nD_of hj (Or.inr ⟨by omega, q2⟩)
        unfold numA numE
        rw [e]
      · by_cases e : j = d
        · rw [e]; simpa using q2
        · exact hj j (by omega)
      · show (10 * nV x (nB x p) d + x (nB x p + d) - 48, (d : Int) + 1, b, n, ((nB x p + d : Nat) : Int) + 1, f) = _
        rfl
    · obtain ⟨h1, h2⟩ := h
      obtain ⟨l, a, bb, c⟩ := e
      dsimp only at *
      cases h2
      simp only [kwp_kg]
      exact ⟨h1, k84⟩
  refine w_eq ?_
  unfold q_X9_readNumber
  refine w_kbe (qn (by omega)) ?_
  simp only [kwp_kg, kwp_kif]
  have := hx p
  refine ⟨⟨by omega, by omega⟩, fun h => ?_, fun h => ?_⟩
  · unfold q_X9_readNumber_J19
    simp only [kwp_kg, kwp_kif, kwp_kl]
    rw [hmi, if_pos h] at k40
    refine ⟨by decide, fun q => absurd q (by decide), fun _ => ?_⟩
    have e : nB x p = p + 1 := if_pos h
    rw [e] at k40
    exact k40
  · unfold q_X9_readNumber_J19
    simp only [kwp_kg, kwp_kif, kwp_kl]
    rw [hmi, if_neg h] at k40
    refine ⟨by decide, fun _ => ?_, fun q => (q (by trivial)).elim⟩
    have e : nB x p = p := if_neg h
    rw [e] at k40
    exact k40
