/-! ===== what a program over Int answers ===== -/
def kwp {α : Type} (o : Option α) (Q : α → Prop) : Prop := ∃ x, o = some x ∧ Q x
theorem kwp_some {α : Type} {x : α} {Q : α → Prop} : kwp (some x) Q ↔ Q x := ⟨fun ⟨_, h, q⟩ => by cases h; exact q, fun q => ⟨x, rfl, q⟩⟩
theorem kwp_kl {α β : Type} {v : α} {f : α → Option β} {Q : β → Prop} : kwp (kl v f) Q ↔ kwp (f v) Q := Iff.rfl
theorem kwp_kb {α β : Type} {o : Option α} {f : α → Option β} {Q : β → Prop} : kwp (kb o f) Q ↔ kwp o (fun x => kwp (f x) Q) := by
  cases o with
  | none => exact ⟨fun ⟨_, h, _⟩ => (by cases h), fun ⟨_, h, _⟩ => (by cases h)⟩
  | some x => exact ⟨fun h => ⟨x, rfl, h⟩, fun ⟨_, h, q⟩ => by cases h; exact q⟩
theorem kwp_kif {α : Type} {c : Prop} [Decidable c] {a b : Option α} {Q : α → Prop} : kwp (kif c a b) Q ↔ (c → kwp a Q) ∧ (¬ c → kwp b Q) := by
  unfold kif
  by_cases h : c
  · rw [if_pos h]; exact ⟨fun q => ⟨fun _ => q, fun n => absurd h n⟩, fun q => q.1 h⟩
  · rw [if_neg h]; exact ⟨fun q => ⟨fun n => absurd n h, fun _ => q⟩, fun q => q.2 h⟩
theorem kwp_kg {α : Type} {c : Prop} [Decidable c] {a : Option α} {Q : α → Prop} : kwp (kg c a) Q ↔ c ∧ kwp a Q := by
  unfold kg
  by_cases h : c
  · rw [if_pos h]; exact ⟨fun q => ⟨h, q⟩, fun q => q.2⟩
  · rw [if_neg h]; exact ⟨fun ⟨_, e, _⟩ => (by cases e), fun q => absurd q.1 h⟩
theorem w_kif {α : Type} {c : Prop} [Decidable c] {a b : Option α} {Q : α → Prop} (h1 : c → kwp a Q) (h2 : ¬ c → kwp b Q) : kwp (kif c a b) Q := kwp_kif.mpr ⟨h1, h2⟩
theorem w_kg {α : Type} {c : Prop} [Decidable c] {a : Option α} {Q : α → Prop} (h1 : c) (h2 : kwp a Q) : kwp (kg c a) Q := kwp_kg.mpr ⟨h1, h2⟩
theorem w_kb {α β : Type} {o : Option α} {f : α → Option β} {P : α → Prop} {Q : β → Prop} (h1 : kwp o P) (h2 : ∀ x, P x → kwp (f x) Q) : kwp (kb o f) Q := by
  obtain ⟨x, e, p⟩ := h1
  rw [e]
  exact h2 x p
theorem w_kbe {α β : Type} {o : Option α} {f : α → Option β} {v : α} {Q : β → Prop} (h1 : o = some v) (h2 : kwp (f v) Q) : kwp (kb o f) Q := by
  rw [h1]
  exact h2
theorem w_kl {α β : Type} {v : α} {f : α → Option β} {Q : β → Prop} (h : kwp (f v) Q) : kwp (kl v f) Q := h
theorem w_some {α : Type} {x : α} {Q : α → Prop} (h : Q x) : kwp (some x) Q := ⟨x, rfl, h⟩
theorem w_mono {α : Type} {o : Option α} {P Q : α → Prop} (h : kwp o P) (k : ∀ x, P x → Q x) : kwp o Q := by
  obtain ⟨x, e, p⟩ := h
  exact ⟨x, e, k x p⟩
theorem w_eq {α : Type} {o : Option α} {v : α} (h : kwp o (fun x => x = v)) : o = some v := by
  obtain ⟨x, e, p⟩ := h
  rw [e, p]
theorem w_of {α : Type} {o : Option α} {v : α} {Q : α → Prop} (h : o = some v) (q : Q v) : kwp o Q := ⟨v, h, q⟩
theorem w_get {α : Type} {o : Option α} {v : α} {Q : α → Prop} (h : kwp o Q) (e : o = some v) : Q v := by
  obtain ⟨x, e', p⟩ := h
  rw [e] at e'
  cases e'
  exact p
/-- a loop: n bounds the rounds that are left -/
theorem w_loop {σ : Type} {hd : Nat} {body : σ → Option (Nat × σ)} (I : Nat → σ → Prop) {Q : Nat × σ → Prop}
    (hb : ∀ n s, I n s → kwp (body s) (fun e => (e.1 = hd ∧ ∃ m, m < n ∧ I m e.2) ∨ (e.1 ≠ hd ∧ Q e))) :
    ∀ (f n : Nat) (s : σ), n < f → I n s → kwp (kitr hd body f s) Q := by
  intro f
  induction f with
  | zero => intro n s h; omega
  | succ f ih =>
    intro n s hn hI
    obtain ⟨e, h1, h2⟩ := hb n s hI
    unfold kitr
    rw [h1]
    dsimp only
    rcases h2 with ⟨h3, m, h4, h5⟩ | ⟨h3, h4⟩
    · rw [if_pos h3]
      exact ih m e.2 (by omega) h5
    · rw [if_neg h3]
      exact ⟨e, rfl, h4⟩
/-- a loop whose state is told by its number of rounds: it counts from i up to n -/
theorem w_for {σ : Type} {hd ex : Nat} {body : σ → Option (Nat × σ)} (hx : ex ≠ hd) (I : Nat → σ → Prop) (N : Nat)
    (hb : ∀ i s, i < N → I i s → kwp (body s) (fun e => e.1 = hd ∧ I (i + 1) e.2)) (he : ∀ s, I N s → kwp (body s) (fun e => e.1 = ex ∧ I N e.2))
    {f i : Nat} {s : σ} (hi : i ≤ N) (hf : N - i < f) (h0 : I i s) : kwp (kitr hd body f s) (fun e => e.1 = ex ∧ I N e.2) := by
  refine w_loop (fun n s => ∃ i, i ≤ N ∧ n = N - i ∧ I i s) (fun n s ⟨i, h1, h2, h3⟩ => ?_) f (N - i) s hf ⟨i, hi, rfl, h0⟩
  by_cases h : i = N
  · subst h
    exact w_mono (he s h3) (fun e h => Or.inr ⟨by rw [h.1]; exact hx, h⟩)
  · exact w_mono (hb i s (by omega) h3) (fun e h => Or.inl ⟨h.1, N - (i + 1), by omega, i + 1, by omega, rfl, h.2⟩)
theorem kF_eq : kF = 1000000000000 := rfl
theorem xor_sign (x y : Int64) : 0 ≤ (x ^^^ y).toInt ↔ (0 ≤ x.toInt ↔ 0 ≤ y.toInt) := by
  have h : ∀ z : Int64, (0 ≤ z.toInt) ↔ z.toBitVec.msb = false := fun z => by
    rw [BitVec.msb_eq_toInt, decide_eq_false_iff_not, Int.not_lt]
    exact Iff.rfl
  rw [h, h, h, show (x ^^^ y).toBitVec = x.toBitVec ^^^ y.toBitVec from rfl, BitVec.msb_xor]
  cases x.toBitVec.msb <;> cases y.toBitVec.msb <;> simp
theorem q_abs64 {v : Int} (h : k64 v) : q_J9_abs_067f4 v = some (v.natAbs : Int) := by
  refine w_eq ?_
  unfold q_J9_abs_067f4
  simp only [kwp_kg, kwp_kif, kwp_some]
  refine ⟨h, fun _ => by omega, fun _ => by omega⟩
theorem q_abs32 {v : Int} (h : k32 v) : q_J9_abs_0f7a4 v = some (v.natAbs : Int) := by
  refine w_eq ?_
  unfold q_J9_abs_0f7a4
  simp only [kwp_kg, kwp_kif, kwp_some]
  refine ⟨h, fun _ => by omega, fun _ => by omega⟩
theorem q_min32 {a b : Int} (ha : k32 a) (hb : k32 b) : q_J9_min_7cf53 a b = some (min a b) := by
  refine w_eq ?_
  unfold q_J9_min_7cf53
  simp only [kwp_kg, kwp_kif, kwp_some]
  refine ⟨⟨hb, ha⟩, fun _ => by omega, fun _ => by omega⟩
theorem q_max64 {a b : Int} (ha : k64 a) (hb : k64 b) : q_J9_max_f86c9 a b = some (max a b) := by
  refine w_eq ?_
  unfold q_J9_max_f86c9
  simp only [kwp_kg, kwp_kif, kwp_some]
  refine ⟨⟨ha, hb⟩, fun _ => by omega, fun _ => by omega⟩
theorem q_min64 {a b : Int} (ha : k64 a) (hb : k64 b) : q_J9_min_f86c9 a b = some (min a b) := by
  refine w_eq ?_
  unfold q_J9_min_f86c9
  simp only [kwp_kg, kwp_kif, kwp_some]
  refine ⟨⟨ha, hb⟩, fun _ => by omega, fun _ => by omega⟩
theorem q_cmp64 {a b : Int} (ha : k64 a) (hb : k64 b) : q_J13_compare_74951 a b = some (if a < b then -1 else if a = b then 0 else 1) := by
  refine w_eq ?_
  unfold q_J13_compare_74951
  simp only [kwp_kg, kwp_kif, kwp_some]
  refine ⟨⟨ha, hb⟩, fun h1 => ⟨fun h2 => ?_, fun h2 => ?_⟩, fun h1 => ?_⟩
  · rw [if_neg (by omega), if_pos h2]
  · rw [if_neg (by omega), if_neg h2]
  · rw [if_pos (by omega)]
theorem tdiv_pos {a b : Int} (hb : 0 < b) : a.tdiv b = if 0 ≤ a ∨ a % b = 0 then a / b else a / b + 1 := by
  rw [Int.tdiv_eq_ediv]
  by_cases h : 0 ≤ a ∨ b ∣ a
  · rw [if_pos h, if_pos (by rcases h with h | h; exact Or.inl h; exact Or.inr (Int.emod_eq_zero_of_dvd h))]
    omega
  · rw [if_neg h, if_neg (by intro q; exact h (by rcases q with q | q; exact Or.inl q; exact Or.inr (Int.dvd_of_emod_eq_zero q))), Int.sign_eq_one_of_pos hb]
theorem q_floorDiv {a b : Int} (ha : k64 a) (hb : 0 < b) (hb2 : k64 b) : q_J9_floorDiv_f86c9 a b = some (a / b) := by
  refine w_eq ?_
  unfold q_J9_floorDiv_f86c9
  simp only [kwp_kg, kwp_kif, kwp_some, kwp_kl]
  have hd := tdiv_pos (a := a) hb
  have hm := Int.emod_add_mul_ediv a b
  have hm0 := Int.emod_nonneg a (show b ≠ 0 by omega)
  have hm1 := Int.emod_lt_of_pos a hb
  have hx : (0 ≤ zxor64 a b) ↔ 0 ≤ a := by
    have := xor_sign (Int64.ofInt a) (Int64.ofInt b)
    rw [t64 ha, t64 hb2] at this
    unfold zxor64
    rw [this]
    constructor
    · intro h; exact h.mpr (by omega)
    · intro h; exact ⟨fun _ => by omega, fun _ => h⟩
  rw [hx]
  refine ⟨hb2, by omega, ha, fun h => ?_, fun h => ?_⟩
  · rw [hd, if_pos (Or.inl h)]
  · by_cases h0 : a % b = 0
    · rw [hd, if_pos (Or.inr h0)]
      have e : a / b * b = a := by rw [Int.mul_comm]; omega
      rw [e]
      exact ⟨ha, fun _ => rfl, fun q => absurd rfl q⟩
    · rw [hd, if_neg (by omega)]
      have e : (a / b + 1) * b = a - a % b + b := by rw [Int.add_mul, Int.mul_comm]; omega
      rw [e]
      refine ⟨⟨by have := ha.1; omega, by omega⟩, fun q => by omega, fun _ => by omega⟩
