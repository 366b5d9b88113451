/-! ===== THE TEXT: an ITEM at a place ===== -/
def iP (x : Nat → Int) (p : Nat) : Nat := if x p = 112 then p + 1 else p
def iH (x : Nat → Int) (p : Nat) : Int := x (iP x p) - 97
def iFar (x : Nat → Int) (p : Nat) : Int := if x p = 112 then 3 else 100
def iQ1 (x : Nat → Int) (p : Nat) : Nat := numE x (iP x p + 1)
def iQ2 (x : Nat → Int) (p : Nat) : Nat := numE x (iQ1 x p + 1)
def iV1 (x : Nat → Int) (p : Nat) : Int := numV x (iP x p + 1)
def iV2 (x : Nat → Int) (p : Nat) : Int := numV x (iQ1 x p + 1)
def iF0 (x : Nat → Int) (p : Nat) : Int := if 0 ≤ iH x p ∧ iH x p < 4 then -1 else (iP x p : Int)
def iF1 (x : Nat → Int) (k : Int) (p : Nat) : Int := fst (iF0 x p) (if ¬ x p = 112 ∧ k = -1 then (p : Int) else -1)
def iF2 (x : Nat → Int) (k : Int) (p : Nat) : Int := fst (iF1 x k p) (numF x (iP x p + 1) (iFar x p))
def iF3 (x : Nat → Int) (k : Int) (p : Nat) : Int := fst (iF2 x k p) (if x (iQ1 x p) = 44 then -1 else (iQ1 x p : Int))
def iF4 (x : Nat → Int) (k : Int) (p : Nat) : Int := fst (iF3 x k p) (numF x (iQ1 x p + 1) (iFar x p))
/-- the FAULT of the ITEM that begins at p (-1: none); k: the number that is free -/
def iF (x : Nat → Int) (k : Int) (p : Nat) : Int := fst (iF4 x k p) (if x (iQ2 x p) = 59 then -1 else (iQ2 x p : Int))
theorem i_bd (x : Nat → Int) (p : Nat) : p ≤ iP x p ∧ iP x p ≤ p + 1 ∧ iP x p + 1 ≤ iQ1 x p ∧ iQ1 x p ≤ p + 6 ∧ iQ1 x p + 1 ≤ iQ2 x p ∧ iQ2 x p ≤ p + 11 := by
  have h1 : p ≤ iP x p ∧ iP x p ≤ p + 1 := by unfold iP; split <;> omega
  have h2 := numE_bd x (iP x p + 1)
  have h3 := numE_bd x (iQ1 x p + 1)
  unfold iQ2
  unfold iQ1 at *
  omega
theorem numF_bd (x : Nat → Int) (p : Nat) (far : Int) : -1 ≤ numF x p far ∧ numF x p far ≤ p + 4 := by
  have := numE_bd x p
  unfold numF
  split
  · omega
  · split <;> omega
theorem fst_bd {f v B : Int} (hf : -1 ≤ f ∧ f ≤ B) (hv : -1 ≤ v ∧ v ≤ B) : -1 ≤ fst f v ∧ fst f v ≤ B := by
  unfold fst
  split <;> assumption
theorem iF_bd (x : Nat → Int) (k : Int) (p : Nat) : (-1 ≤ iF0 x p ∧ iF0 x p ≤ p + 20) ∧ (-1 ≤ iF1 x k p ∧ iF1 x k p ≤ p + 20) ∧ (-1 ≤ iF2 x k p ∧ iF2 x k p ≤ p + 20) ∧ (-1 ≤ iF3 x k p ∧ iF3 x k p ≤ p + 20) ∧ (-1 ≤ iF4 x k p ∧ iF4 x k p ≤ p + 20) ∧ -1 ≤ iF x k p ∧ iF x k p ≤ p + 20 := by
  have hb := i_bd x p
  have a0 : -1 ≤ iF0 x p ∧ iF0 x p ≤ p + 20 := by unfold iF0; split <;> omega
  have a1 : -1 ≤ iF1 x k p ∧ iF1 x k p ≤ p + 20 := fst_bd a0 (by split <;> omega)
  have a2 : -1 ≤ iF2 x k p ∧ iF2 x k p ≤ p + 20 := fst_bd a1 (by have := numF_bd x (iP x p + 1) (iFar x p); omega)
  have a3 : -1 ≤ iF3 x k p ∧ iF3 x k p ≤ p + 20 := fst_bd a2 (by split <;> omega)
  have a4 : -1 ≤ iF4 x k p ∧ iF4 x k p ≤ p + 20 := fst_bd a3 (by have := numF_bd x (iQ1 x p + 1) (iFar x p); omega)
  exact ⟨a0, a1, a2, a3, a4, fst_bd a4 (by split <;> omega)⟩
theorem numV_ok {x : Nat → Int} {p : Nat} {far : Int} (h : numF x p far = -1) : -far ≤ numV x p ∧ numV x p ≤ far := by
  have hA := numA_bd x p
  unfold numF at h
  split at h
  · omega
  · split at h
    · omega
    · unfold numV
      split <;> omega
theorem fst_ok {f v : Int} (h : fst f v = -1) : f = -1 ∧ v = -1 := by
  unfold fst at h
  split at h
  · exact ⟨by assumption, h⟩
  · exact absurd h (by assumption)
theorem iF_ok {x : Nat → Int} {k : Int} {p : Nat} (h : iF x k p = -1) : (0 ≤ iH x p ∧ iH x p < 4) ∧ (¬ x p = 112 → k ≠ -1) ∧ numF x (iP x p + 1) (iFar x p) = -1 ∧ x (iQ1 x p) = 44 ∧ numF x (iQ1 x p + 1) (iFar x p) = -1 ∧ x (iQ2 x p) = 59 := by
  obtain ⟨h5, g5⟩ := fst_ok h
  obtain ⟨h4, g4⟩ := fst_ok h5
  obtain ⟨h3, g3⟩ := fst_ok h4
  obtain ⟨h2, g2⟩ := fst_ok h3
  obtain ⟨h1, g1⟩ := fst_ok h2
  unfold iF0 at h1
  refine ⟨?_, ?_, g2, ?_, g4, ?_⟩
  · split at h1
    · assumption
    · omega
  · intro q e
    rw [if_pos ⟨q, e⟩] at g1
    omega
  · split at g3
    · assumption
    · omega
  · split at g5
    · assumption
    · omega
theorem q_expect {b : Nat → Int} {n f v : Int} {p : Nat} (hb : ∀ i : Nat, (i : Int) < n → 0 ≤ b i ∧ b i ≤ 255) (hn : n ≤ 400) (hn0 : 0 ≤ n) (hp : p < 100000) (hf : k32 f) (hv : k32 v) : q_X9_expect (b, n, (p : Int), f) v = some (b, n, ((p + 1 : Nat) : Int), fst f (if NX b n p = v then -1 else (p : Int))) := by
  refine w_eq ?_
  unfold q_X9_expect
  rw [q_next hn hn0 hp, q_fail hf]
  have := NX_bd hb p
  simp only [kwp_kg, kwp_kif, kwp_some, kwp_kb, kwp_kl]
  refine ⟨⟨⟨by omega, by omega⟩, hv⟩, fun q => ?_, fun q => ?_⟩
  · rw [if_pos q, fst_m1]
    rfl
  · rw [if_neg q]
    rfl
theorem q_readHeap {b : Nat → Int} {n f : Int} {p : Nat} (hb : ∀ i : Nat, (i : Int) < n → 0 ≤ b i ∧ b i ≤ 255) (hn : n ≤ 400) (hn0 : 0 ≤ n) (hp : p < 100000) (hf : k32 f) : q_X9_readHeap (b, n, (p : Int), f) = some (NX b n p - 97, b, n, ((p + 1 : Nat) : Int), fst f (if 0 ≤ NX b n p - 97 ∧ NX b n p - 97 < 4 then -1 else (p : Int))) := by
  refine w_eq ?_
  unfold q_X9_readHeap
  have := NX_bd hb p
  rw [q_next hn hn0 hp, q_fail hf]
  simp only [kwp_kg, kwp_kif, kwp_some, kwp_kb, kwp_kl]
  rw [q_isHeap ⟨by omega, by omega⟩]
  simp only [kwp_some, kz_0, decide_eq_false_iff_not]
  refine ⟨fun q => ?_, fun q => ?_⟩
  · rw [if_neg q]
    rfl
  · rw [if_pos (Decidable.not_not.mp q), fst_m1]
    rfl
def appI (r : Nat → Int) (k : Int) (x : Nat → Int) (p : Nat) : Nat → Int :=
  if x p = 112 then va_up (va_up r (120 + (iH x p).toNat) (iV1 x p)) (124 + (iH x p).toNat) (iV2 x p) else putR r k.toNat (iV1 x p) (iV2 x p) (iH x p)
theorem q_readItem {b : Nat → Int} {n : Int} {p : Nat} {z4 : tZ4} (hb : ∀ i : Nat, (i : Int) < n → 0 ≤ b i ∧ b i ≤ 255) (hn : n ≤ 400) (hn0 : 0 ≤ n) (hp : p < 10000) (hV : VR z4.1) :
    kwp (q_X9_readItem (b, n, (p : Int), -1) z4) (fun r => ∃ k, FreeOf z4.1 k ∧ r.1 = (b, n, ((iQ2 (NX b n) p + 1 : Nat) : Int), iF (NX b n) k p) ∧ r.2.2 = z4.2 ∧ (iF (NX b n) k p = -1 → r.2.1 = appI z4.1 k (NX b n) p)) := by
  have hx := fun p => NX_bd hb p
  have hi := i_bd (NX b n) p
  have hv1 := numA_bd (NX b n) (iP (NX b n) p + 1)
  have hv2 := numA_bd (NX b n) (iQ1 (NX b n) p + 1)
  unfold q_X9_readItem
  rw [q_next hn hn0 (by omega)]
  simp only [kwp_kg, kwp_kif, kwp_kb, kwp_kl, kwp_some]
  have := hx p
  refine ⟨⟨by omega, by omega⟩, fun hpp => ?_, fun hpp => ?_⟩
  · obtain ⟨k, _, fk⟩ := q_free hV
    have eP : iP (NX b n) p = p + 1 := if_pos hpp
    have eF : iFar (NX b n) p = 3 := if_pos hpp
    have hB := iF_bd (NX b n) k p
    have e1 : iF1 (NX b n) k p = iF0 (NX b n) p := by
      unfold iF1
      rw [if_neg (fun q => q.1 hpp), fst_m1]
    unfold q_X9_readPace
    have s1 : q_X9_readHeap (b, n, (p : Int) + 1, -1) = some (iH (NX b n) p, b, n, ((iP (NX b n) p + 1 : Nat) : Int), iF1 (NX b n) k p) := by
      have := q_readHeap (f := -1) (p := p + 1) hb hn hn0 (by omega) (by decide)
      rw [e1, eP]
      unfold iF0 iH
      rw [eP]
      exact this
    rw [s1, kwp_kb, kwp_some]
    rw [q_num hb hn hn0 (by omega) ⟨by omega, by omega⟩ (by decide), kwp_kb, kwp_some]
    rw [show fst (iF1 (NX b n) k p) (numF (NX b n) (iP (NX b n) p + 1) 3) = iF2 (NX b n) k p by unfold iF2; rw [eF], show numE (NX b n) (iP (NX b n) p + 1) = iQ1 (NX b n) p from rfl]
    rw [q_expect hb hn hn0 (by omega) ⟨by omega, by omega⟩ (by decide), kwp_kb, kwp_some]
    rw [show fst (iF2 (NX b n) k p) (if NX b n (iQ1 (NX b n) p) = 44 then -1 else (iQ1 (NX b n) p : Int)) = iF3 (NX b n) k p from rfl]
    rw [q_num hb hn hn0 (by omega) ⟨by omega, by omega⟩ (by decide), kwp_kb, kwp_some]
    rw [show fst (iF3 (NX b n) k p) (numF (NX b n) (iQ1 (NX b n) p + 1) 3) = iF4 (NX b n) k p by unfold iF4; rw [eF], show numE (NX b n) (iQ1 (NX b n) p + 1) = iQ2 (NX b n) p from rfl]
    rw [q_expect hb hn hn0 (by omega) ⟨by omega, by omega⟩ (by decide), kwp_kb, kwp_some]
    rw [show fst (iF4 (NX b n) k p) (if NX b n (iQ2 (NX b n) p) = 59 then -1 else (iQ2 (NX b n) p : Int)) = iF (NX b n) k p from rfl]
    simp only [kwp_kg, kwp_kif, kwp_kb, kwp_some]
    refine ⟨⟨by omega, by omega⟩, fun h => ?_, fun h => ⟨k, fk, rfl, trivial, fun q => absurd q h⟩⟩
    have ok := iF_ok h
    obtain ⟨hh, eh⟩ := nat_of ok.1.1
    rw [eh, q_setPace (by omega), kwp_some]
    refine ⟨k, fk, rfl, rfl, fun _ => ?_⟩
    unfold appI
    rw [if_pos hpp, eh]
    rfl
  · unfold q_X9_readPoint
    rw [kwp_kb]
    refine w_mono (q_free hV) (fun k fk => ?_)
    have hk := free_k fk
    have eP : iP (NX b n) p = p := if_neg hpp
    have eF : iFar (NX b n) p = 100 := if_neg hpp
    have hB := iF_bd (NX b n) k p
    have s1 : q_X9_readHeap (b, n, (p : Int), -1) = some (iH (NX b n) p, b, n, ((iP (NX b n) p + 1 : Nat) : Int), iF0 (NX b n) p) := by
      have := q_readHeap (f := -1) (p := p) hb hn hn0 (by omega) (by decide)
      unfold iF0 iH
      rw [eP]
      exact this
    have k26 : kwp (q_X9_readPoint_J26 (b, n, ((iP (NX b n) p + 1 : Nat) : Int), iF1 (NX b n) k p) z4 k (iH (NX b n) p)) (fun r => ∃ k, FreeOf z4.1 k ∧ r.1 = (b, n, ((iQ2 (NX b n) p + 1 : Nat) : Int), iF (NX b n) k p) ∧ r.2.2 = z4.2 ∧ (iF (NX b n) k p = -1 → r.2.1 = appI z4.1 k (NX b n) p)) := by
      unfold q_X9_readPoint_J26
      rw [q_num hb hn hn0 (by omega) ⟨by omega, by omega⟩ (by decide), kwp_kb, kwp_some]
      rw [show fst (iF1 (NX b n) k p) (numF (NX b n) (iP (NX b n) p + 1) 100) = iF2 (NX b n) k p by unfold iF2; rw [eF], show numE (NX b n) (iP (NX b n) p + 1) = iQ1 (NX b n) p from rfl]
      rw [q_expect hb hn hn0 (by omega) ⟨by omega, by omega⟩ (by decide), kwp_kb, kwp_some]
      rw [show fst (iF2 (NX b n) k p) (if NX b n (iQ1 (NX b n) p) = 44 then -1 else (iQ1 (NX b n) p : Int)) = iF3 (NX b n) k p from rfl]
      rw [q_num hb hn hn0 (by omega) ⟨by omega, by omega⟩ (by decide), kwp_kb, kwp_some]
      rw [show fst (iF3 (NX b n) k p) (numF (NX b n) (iQ1 (NX b n) p + 1) 100) = iF4 (NX b n) k p by unfold iF4; rw [eF], show numE (NX b n) (iQ1 (NX b n) p + 1) = iQ2 (NX b n) p from rfl]
      rw [q_expect hb hn hn0 (by omega) ⟨by omega, by omega⟩ (by decide), kwp_kb, kwp_some]
      rw [show fst (iF4 (NX b n) k p) (if NX b n (iQ2 (NX b n) p) = 59 then -1 else (iQ2 (NX b n) p : Int)) = iF (NX b n) k p from rfl]
      simp only [kwp_kg, kwp_kif, kwp_kb, kwp_some]
      refine ⟨⟨by omega, by omega⟩, fun h => ?_, fun h => ⟨k, fk, rfl, trivial, fun q => absurd q h⟩⟩
      have ok := iF_ok h
      rcases fk with ⟨j, j1, rfl, j2⟩ | ⟨j1, _⟩
      · rw [q_place j1 ok.1, kwp_some]
        refine ⟨(j : Int), Or.inl ⟨j, j1, rfl, j2⟩, rfl, rfl, fun _ => ?_⟩
        unfold appI
        rw [if_neg hpp]
        rfl
      · exact absurd j1 (ok.2.1 hpp)
    rw [s1, kwp_kb, kwp_some]
    simp only [kwp_kg, kwp_kif, kwp_kb, kwp_some]
    refine ⟨hk, fun e => ?_, fun e => ?_⟩
    · rw [q_fail ⟨by omega, by omega⟩, kwp_some]
      rw [show fst (iF0 (NX b n) p) (p : Int) = iF1 (NX b n) k p by unfold iF1; rw [if_pos ⟨hpp, e⟩]]
      exact k26
    · rw [show iF0 (NX b n) p = iF1 (NX b n) k p by unfold iF1; rw [if_neg (fun q => e q.2), fst_m1]]
      exact k26
