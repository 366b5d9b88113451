/-! ===== the class's couples, in order ===== -/
theorem PM_all {n : Nat} {f g : Nat → Int} {P : Int → Prop} (h : PM n f g) (hg : ∀ i, i < n → P (g i)) : ∀ i, i < n → P (f i) := by
  obtain ⟨s, t, h1, h2⟩ := h
  intro i hi
  rw [h2 i hi]
  exact hg _ (h1 i hi).1
def ky (l : List Spt) (i j : Nat) : Int := (kyN (ds (lX l) (lY l) i j).toNat i j : Int)
def prF (l : List Spt) (i : Nat) (s : (Nat → Int) × Nat) : Nat → (Nat → Int) × Nat
  | 0 => s
  | k + 1 => (va_up (prF l i s k).1 (prF l i s k).2 (ky l i (i + 1 + k)), (prF l i s k).2 + 1)
def paF (l : List Spt) : Nat → (Nat → Int) × Nat
  | 0 => (fun _ => 0, 0)
  | i + 1 => prF l i (paF l i) (l.length - (i + 1))
def cpN (n : Nat) : Nat → Nat
  | 0 => 0
  | i + 1 => cpN n i + (n - (i + 1))
theorem prF_n (l : List Spt) (i : Nat) (s : (Nat → Int) × Nat) : ∀ k, (prF l i s k).2 = s.2 + k
  | 0 => rfl
  | k + 1 => by
    have ih := prF_n l i s k
    have e : (prF l i s (k + 1)).2 = (prF l i s k).2 + 1 := rfl
    omega
theorem paF_n (l : List Spt) : ∀ i, (paF l i).2 = cpN l.length i
  | 0 => rfl
  | i + 1 => by
    have ih := paF_n l i
    have e : (paF l (i + 1)).2 = (prF l i (paF l i) (l.length - (i + 1))).2 := rfl
    have c : cpN l.length (i + 1) = cpN l.length i + (l.length - (i + 1)) := rfl
    rw [e, prF_n, ih, c]
theorem cpN_mono (n : Nat) : ∀ i j, i ≤ j → cpN n i ≤ cpN n j
  | i, 0, h => by
    rw [show i = 0 by omega]
    exact Nat.le_refl _
  | i, j + 1, h => by
    by_cases e : i = j + 1
    · rw [e]
      exact Nat.le_refl _
    · have ih := cpN_mono n i j (by omega)
      have c : cpN n (j + 1) = cpN n j + (n - (j + 1)) := rfl
      omega
theorem cpN_all : ∀ n : Fin 41, 2 * cpN n.val n.val = n.val * (n.val - 1) ∧ cpN n.val n.val ≤ 780 := by decide +kernel
theorem ky_bd {l : List Spt} (hb : bdL l) {i j : Nat} (hi : i < l.length) (hj : j < l.length) (hl : l.length ≤ 40) : 0 ≤ ky l i j ∧ ky l i j < 2147483648 := by
  have d := ds_bd hb hi hj
  have e : ky l i j = ((((ds (lX l) (lY l) i j).toNat * 64 + i) * 64 + j : Nat) : Int) := rfl
  omega
def PKz (z : tZ1) (s : (Nat → Int) × Nat) : Prop := z.2 = (s.2 : Int) ∧ ∀ t, t < s.2 → z.1 t = s.1 t
theorem q_distanceZ {z : tZ8} {l : List Spt} (H : SPc z l) {i j : Nat} (hi : i < l.length) (hj : j < l.length) : q_X8_distance z (i : Int) (j : Int) = some (ds (lX l) (lY l) i j) := by
  unfold q_X8_distance
  rw [q_sx H hj, q_sx H hi, q_sy H hj, q_sy H hi]
  rfl
theorem q_pack {z : tZ1} {s : (Nat → Int) × Nat} (h : PKz z s) (hs : s.2 < 780) {d : Int} {i j : Nat} (hd : 0 ≤ d ∧ d ≤ 300000) (hi : i < 64) (hj : j < 64) :
    kwp (q_X1_pack z d (i : Int) (j : Int)) (fun z' => PKz z' (va_up s.1 s.2 (kyN d.toNat i j : Int), s.2 + 1)) := by
  unfold q_X1_pack
  have e := ky_pack (d := d.toNat) (by omega) hi hj
  rw [show ((d.toNat : Nat) : Int) = d by omega] at e
  rw [e, h.1]
  simp only [kwp_kg, kwp_kif, kwp_kl, kwp_some]
  rw [Int.toNat_natCast]
  refine ⟨⟨by omega, by omega⟩, fun _ => ⟨⟨by omega, by omega⟩, ?_, fun t ht => ?_⟩, fun q => by omega⟩
  · show (s.2 : Int) + 1 = _
    dsimp only
    omega
  · dsimp only at ht ⊢
    by_cases q : t = s.2
    · rw [q, va_same, va_same]
    · rw [va_ne _ _ q, va_ne _ _ q]
      exact h.2 t (by omega)
theorem q_packL {z : tZ1} {z8 : tZ8} {l : List Spt} (H : SPc z8 l) (hb : bdL l) (hl : l.length ≤ 40) (hz : z.2 = 0) :
    kwp (kitr 7 (fun q => q_X1_order_L7 z8 q) kF ((0 : Int), z)) (fun e => e.1 = 51 ∧ PKz e.2.2 (paF l l.length)) := by
  have call := (cpN_all ⟨l.length, by omega⟩).2
  dsimp only at call
  refine w_mono (w_for (ex := 51) (by decide) (fun i (s : Int × tZ1) => s.1 = (i : Int) ∧ PKz s.2 (paF l i)) l.length ?_ ?_ (Nat.zero_le _) (by have := kF_eq; omega) ⟨rfl, hz, fun t ht => absurd ht (Nat.not_lt_zero _)⟩) (fun e g => ⟨g.1, g.2.2⟩)
  · rintro i ⟨t, w⟩ hi ⟨g1, g2⟩
    dsimp only at g1 g2
    subst g1
    unfold q_X1_order_L7
    rw [q_sc H]
    dsimp only
    simp only [kwp_kb, kwp_some, kwp_kg, kwp_kif, kwp_kl]
    refine ⟨⟨⟨by omega, by omega⟩, ⟨by omega, by omega⟩⟩, fun q => by omega, fun _ => w_mono (w_for (ex := 45) (by decide) (fun k (s : Int × tZ1) => s.1 = (i : Int) + 1 + (k : Int) ∧ PKz s.2 (prF l i (paF l i) k)) (l.length - (i + 1)) ?_ ?_ (Nat.zero_le _) (by have := kF_eq; omega) ⟨by omega, g2⟩) ?_⟩
    · rintro k ⟨t, w⟩ hk ⟨g3, g4⟩
      dsimp only at g3 g4
      subst g3
      have d := ds_bd hb (i := i) (j := i + 1 + k) hi (by omega)
      have n1 := prF_n l i (paF l i) k
      have n2 := paF_n l i
      have n3 := cpN_mono l.length (i + 1) l.length (by omega)
      have n4 : cpN l.length (i + 1) = cpN l.length i + (l.length - (i + 1)) := rfl
      unfold q_X1_order_L19
      rw [q_sc H]
      dsimp only
      rw [show (i : Int) + 1 + (k : Int) = ((i + 1 + k : Nat) : Int) by omega]
      simp only [kwp_kb, kwp_some, kwp_kg, kwp_kif, kwp_kl]
      rw [q_distanceZ H hi (show i + 1 + k < l.length by omega)]
      simp only [kwp_some]
      exact ⟨⟨⟨by omega, by omega⟩, ⟨by omega, by omega⟩⟩, fun q => by omega, fun _ => w_mono (q_pack g4 (by omega) (by omega) (by omega) (by omega)) (fun z' h' => ⟨by trivial, by omega, h'⟩)⟩
    · rintro ⟨t, w⟩ ⟨g3, g4⟩
      dsimp only at g3 g4
      subst g3
      unfold q_X1_order_L19
      rw [q_sc H]
      dsimp only
      simp only [kwp_kb, kwp_some, kwp_kg, kwp_kif, kwp_kl]
      exact ⟨⟨⟨by omega, by omega⟩, ⟨by omega, by omega⟩⟩, fun _ => ⟨by trivial, by trivial, g4⟩, fun q => by omega⟩
    · rintro ⟨lb, t, w⟩ ⟨g0, g3, g4⟩
      dsimp only at g0 g3 g4 ⊢
      exact ⟨g0, by trivial, by omega, g4⟩
  · rintro ⟨t, w⟩ ⟨g1, g2⟩
    dsimp only at g1 g2
    subst g1
    unfold q_X1_order_L7
    rw [q_sc H]
    dsimp only
    simp only [kwp_kb, kwp_some, kwp_kg, kwp_kif, kwp_kl]
    exact ⟨⟨⟨by omega, by omega⟩, ⟨by omega, by omega⟩⟩, fun _ => ⟨by trivial, by trivial, g2⟩, fun q => by omega⟩
theorem q_pkAt {z : tZ1} {n i : Nat} (h : z.2 = (n : Int)) (hn : n ≤ 780) (hi : i < n) : q_X1_packedAt z (i : Int) = some (z.1 i) := by
  refine w_eq ?_
  unfold q_X1_packedAt
  rw [h]
  simp only [kwp_kg, kwp_kif, kwp_some]
  rw [Int.toNat_natCast]
  exact ⟨⟨by omega, by omega⟩, fun q => by omega, fun _ => ⟨⟨by omega, by omega⟩, fun q => by omega, fun _ => ⟨⟨by omega, by omega⟩, rfl⟩⟩⟩
theorem q_sink1 {z : tZ1} {n from_ gap : Nat} (h : z.2 = (n : Int)) (hn : n ≤ 780) (hk : ∀ i, i < n → k32 (z.1 i)) (hg : 1 ≤ gap) (hf : gap ≤ from_) (hfn : from_ < n) :
    kwp (q_X1_sink z (from_ : Int) (gap : Int)) (fun z' => z'.2 = (n : Int) ∧ PM n z'.1 z.1 ∧ (gap = 1 → SO z.1 from_ → SO z'.1 (from_ + 1))) := by
  unfold q_X1_sink
  simp only [kwp_kb, kwp_some, kwp_kg, kwp_kif, kwp_kl]
  rw [h, q_pkAt h hn hfn]
  simp only [kwp_some]
  have kv := hk from_ hfn
  refine ⟨⟨by omega, by omega⟩, fun q => by omega, fun _ => ⟨⟨by omega, by omega⟩, fun q => by omega, fun _ => ⟨⟨by omega, by omega⟩, fun _ => ?_, fun q => by omega⟩⟩⟩
  refine w_mono (w_loop (fun m (s : Int × tZ1) => ∃ a : Nat, a = m ∧ s.1 = (a : Int) ∧ a ≤ from_ ∧ s.2.2 = (n : Int) ∧ PM n (va_up s.2.1 a (z.1 from_)) z.1 ∧ (gap = 1 → SO z.1 from_ → InsI s.2.1 (z.1 from_) a from_))
    (Q := fun e => e.1 = 71 ∧ ∃ a : Nat, e.2.1 = (a : Int) ∧ a ≤ from_ ∧ e.2.2.2 = (n : Int) ∧ PM n (va_up e.2.2.1 a (z.1 from_)) z.1 ∧ (gap = 1 → SO z.1 from_ → SO (va_up e.2.2.1 a (z.1 from_)) (from_ + 1))) ?_ kF from_ ((from_ : Int), z) (by have := kF_eq; omega) ⟨from_, rfl, rfl, Nat.le_refl _, h, PM_same (fun i _ => ?_), fun _ so => Ins_start so⟩) ?_
  · rintro m ⟨t, w⟩ ⟨a, rfl, g1, g2, g3, g4, g5⟩
    dsimp only at g1 g2 g3 g4 g5
    subst g1
    unfold q_X1_sink_L28
    dsimp only
    simp only [kwp_kb, kwp_some, kwp_kg, kwp_kif, kwp_kl]
    refine ⟨⟨⟨by omega, by omega⟩, ⟨by omega, by omega⟩⟩, fun q => Or.inr ⟨by decide, by trivial, a, by trivial, g2, g3, g4, fun e so => Ins_end (g5 e so) (Or.inl (by omega))⟩, fun q => ?_⟩
    obtain ⟨b, hb⟩ : ∃ b : Nat, a = b + gap := ⟨a - gap, by omega⟩
    subst hb
    rw [show ((b + gap : Nat) : Int) - (gap : Int) = (b : Int) by omega, q_pkAt g3 hn (show b < n by omega), Int.toNat_natCast, Int.toNat_natCast]
    simp only [kwp_some]
    have kb := PM_all (P := k32) g4 hk b (by omega)
    rw [va_ne _ _ (by omega)] at kb
    refine ⟨⟨kb, kv⟩, fun q1 => Or.inr ⟨by decide, by trivial, b + gap, by trivial, g2, g3, g4, fun e so => Ins_end (g5 e so) (Or.inr ?_)⟩, fun q1 => ⟨⟨by omega, by omega⟩, ⟨by omega, by omega⟩, Or.inl ⟨by trivial, b, by omega, b, rfl, by trivial, by omega, g3, PM_trans (PM_hole (by omega) (by omega) (by omega)) g4, fun e so => ?_⟩⟩⟩
    · rw [show b + gap - 1 = b by omega]
      exact q1
    · subst e
      exact Ins_step (g5 rfl so) g2 (by omega)
  · by_cases e : i = from_
    · rw [e, va_same]
    · exact va_ne _ _ e
  · rintro ⟨lb, t, w⟩ ⟨g0, a, g1, g2, g3, g4, g5⟩
    dsimp only at g0 g1 g3 g4 g5 ⊢
    subst g1
    rw [Int.toNat_natCast]
    exact ⟨g0, ⟨by omega, by omega⟩, g3, g4, g5⟩
theorem q_sortL {z : tZ1} {z8 : tZ8} {n : Nat} (h : z.2 = (n : Int)) (hn : n ≤ 780) (hk : ∀ i, i < n → k32 (z.1 i)) :
    kwp (kitr 58 (fun q => q_X1_order_L58 z8 q) kF (((n / 2 : Nat) : Int), z)) (fun e => e.1 = 91 ∧ e.2.2.2 = (n : Int) ∧ PM n e.2.2.1 z.1 ∧ SO e.2.2.1 n) := by
  refine w_loop (fun m (s : Int × tZ1) => ∃ g : Nat, g = m ∧ s.1 = (g : Int) ∧ 2 * g ≤ n ∧ s.2.2 = (n : Int) ∧ PM n s.2.1 z.1 ∧ (g = 0 → SO s.2.1 n)) (Q := fun e => e.1 = 91 ∧ e.2.2.2 = (n : Int) ∧ PM n e.2.2.1 z.1 ∧ SO e.2.2.1 n) ?_ kF (n / 2) _ (by have := kF_eq; omega) ⟨n / 2, rfl, rfl, by omega, h, PM_same (fun _ _ => rfl), fun q i j hij hj => by omega⟩
  rintro m ⟨t, w⟩ ⟨g, rfl, g1, g2, g3, g4, g5⟩
  dsimp only at g1 g2 g3 g4 g5
  subst g1
  unfold q_X1_order_L58
  dsimp only
  simp only [kwp_kb, kwp_some, kwp_kg, kwp_kif, kwp_kl]
  refine ⟨⟨by omega, by omega⟩, fun q => Or.inr ⟨by decide, by trivial, g3, g4, g5 (by omega)⟩, fun q => w_mono (w_for (ex := 84) (by decide) (fun k (s : Int × tZ1) => s.1 = (k : Int) ∧ s.2.2 = (n : Int) ∧ PM n s.2.1 z.1 ∧ g ≤ k ∧ (g = 1 → SO s.2.1 k)) n ?_ ?_ (show g ≤ n by omega) (by have := kF_eq; omega) ⟨rfl, g3, g4, Nat.le_refl _, fun e i j hij hj => by omega⟩) ?_⟩
  · rintro k ⟨t, y⟩ hk2 ⟨f1, f2, f3, f4, f5⟩
    dsimp only at f1 f2 f3 f4 f5
    subst f1
    unfold q_X1_order_L64
    dsimp only
    rw [f2]
    simp only [kwp_kb, kwp_some, kwp_kg, kwp_kif, kwp_kl]
    exact ⟨⟨⟨by omega, by omega⟩, ⟨by omega, by omega⟩⟩, fun q => by omega, fun _ => w_mono (q_sink1 f2 hn (PM_all (P := k32) f3 hk) (by omega) f4 hk2) (fun z' h' => ⟨by trivial, by omega, h'.1, PM_trans h'.2.1 f3, by omega, fun e => h'.2.2 e (f5 e)⟩)⟩
  · rintro ⟨t, y⟩ ⟨f1, f2, f3, f4, f5⟩
    dsimp only at f1 f2 f3 f4 f5
    subst f1
    unfold q_X1_order_L64
    dsimp only
    rw [f2]
    simp only [kwp_kb, kwp_some, kwp_kg, kwp_kif, kwp_kl]
    exact ⟨⟨⟨by omega, by omega⟩, ⟨by omega, by omega⟩⟩, fun _ => ⟨by trivial, by trivial, by trivial, f3, f4, f5⟩, fun q => by omega⟩
  · rintro ⟨lb, t, y⟩ ⟨f0, f1, f2, f3, f4, f5⟩
    dsimp only at f0 f1 f2 f3 f4 f5 ⊢
    rw [Int.tdiv_eq_ediv_of_nonneg (by omega)]
    refine ⟨f0, Or.inl ⟨by trivial, g / 2, by omega, g / 2, rfl, by omega, by omega, f2, f3, fun e => f5 (by omega)⟩⟩
theorem q_orderC {z : tZ1} {z8 : tZ8} {l : List Spt} (H : SPc z8 l) (hb : bdL l) (hl : l.length ≤ 40) (hk : ∀ t, t < (paF l l.length).2 → k32 ((paF l l.length).1 t)) :
    kwp (q_X1_order z z8) (fun z' => z'.2 = ((paF l l.length).2 : Int) ∧ PM (paF l l.length).2 z'.1 (paF l l.length).1 ∧ SO z'.1 (paF l l.length).2) := by
  have call := (cpN_all ⟨l.length, by omega⟩).2
  dsimp only at call
  have n2 := paF_n l l.length
  unfold q_X1_order
  simp only [kwp_kb, kwp_some, kwp_kg, kwp_kif, kwp_kl]
  refine w_mono (q_packL H hb hl rfl) ?_
  rintro ⟨lb, t, w⟩ ⟨g0, g1, g2⟩
  dsimp only at g0 g1 g2 ⊢
  rw [g1, Int.tdiv_eq_ediv_of_nonneg (by omega), show ((paF l l.length).2 : Int) / 2 = (((paF l l.length).2 / 2 : Nat) : Int) by omega]
  refine ⟨g0, ⟨by omega, by omega⟩, w_mono (q_sortL g1 (by omega) (fun i hi => by rw [g2 i hi]; exact hk i hi)) ?_⟩
  rintro ⟨lb2, t2, w2⟩ ⟨f0, f1, f2, f3⟩
  dsimp only at f0 f1 f2 f3 ⊢
  exact ⟨f0, f1, PM_trans f2 (PM_same g2), f3⟩
