/-! ===== couple, the model ===== -/
theorem laid_t {z4 : tZ4} {m : tZ12} (H : HR z4.1 (m.2.2.1 0)) {set : Int} (hs : k32 set) (hg : gdS z4 set) : kwp (q_X12_isLaid m set) (fun x => x.1 = true ∧ FQ m x.2 ∧ SPm x.2 (LG z4 set)) :=
  w_mono (qm_isLaid H hs) (fun x h => by
    rcases h with ⟨f, ⟨h, _⟩ | ⟨h1, h2, h3⟩⟩
    · exact absurd ⟨hg.1, hg.2.1⟩ h
    · exact ⟨by rw [h3]; exact decide_eq_true hg.2.2, f, h2⟩)
theorem laid_f {z4 : tZ4} {m : tZ12} (H : HR z4.1 (m.2.2.1 0)) {set : Int} (hs : k32 set) (hg : ¬ gdS z4 set) : kwp (q_X12_isLaid m set) (fun x => x.1 = false ∧ FQ m x.2) :=
  w_mono (qm_isLaid H hs) (fun x h => by
    rcases h with ⟨f, ⟨_, h⟩ | ⟨h1, h2, h3⟩⟩
    · exact ⟨h, f⟩
    · exact ⟨by rw [h3]; exact decide_eq_false (fun q => hg ⟨h1.1, h1.2, q⟩), f⟩)
def PR (l : List Spt) (B : Nat) (s : (Nat → Int) × Nat) : Prop :=
  (∀ t, t < s.2 → ∃ i j, i < j ∧ j < l.length ∧ s.1 t = ky l i j ∧ i * 64 + j < B) ∧ ∀ t u, t < u → u < s.2 → s.1 t % 4096 < s.1 u % 4096
theorem ky_mod {l : List Spt} {i j : Nat} (hi : i < 64) (hj : j < 64) : ky l i j % 4096 = ((i * 64 + j : Nat) : Int) ∧ ky l i j / 4096 = ((ds (lX l) (lY l) i j).toNat : Int) ∧ ky l i j / 64 % 64 = (i : Int) ∧ ky l i j % 64 = (j : Int) := by
  have e : ky l i j = ((((ds (lX l) (lY l) i j).toNat * 64 + i) * 64 + j : Nat) : Int) := rfl
  omega
theorem PR_up {l : List Spt} {B i j : Nat} {s : (Nat → Int) × Nat} (hl : l.length ≤ 40) (h : PR l B s) (hij : i < j) (hj : j < l.length) (hB : B ≤ i * 64 + j) : PR l (i * 64 + j + 1) (va_up s.1 s.2 (ky l i j), s.2 + 1) := by
  refine ⟨fun t ht => ?_, fun t u htu hu => ?_⟩
  · dsimp only at ht ⊢
    by_cases e : t = s.2
    · exact ⟨i, j, hij, hj, by rw [e, va_same], by omega⟩
    · obtain ⟨a, b, h1, h2, h3, h4⟩ := h.1 t (by omega)
      exact ⟨a, b, h1, h2, by rw [va_ne _ _ e]; exact h3, by omega⟩
  · dsimp only at hu ⊢
    by_cases e : u = s.2
    · obtain ⟨a, b, h1, h2, h3, h4⟩ := h.1 t (by omega)
      have m1 := (ky_mod (l := l) (i := i) (j := j) (by omega) (by omega)).1
      have m2 := (ky_mod (l := l) (i := a) (j := b) (by omega) (by omega)).1
      rw [e, va_same, va_ne _ _ (by omega), h3, m1, m2]
      omega
    · rw [va_ne _ _ (by omega), va_ne _ _ e]
      exact h.2 t u htu (by omega)
theorem PR_mono {l : List Spt} {B C : Nat} {s : (Nat → Int) × Nat} (h : PR l B s) (hBC : B ≤ C) : PR l C s :=
  ⟨fun t ht => by
    obtain ⟨a, b, h1, h2, h3, h4⟩ := h.1 t ht
    exact ⟨a, b, h1, h2, h3, by omega⟩, h.2⟩
theorem prF_PR {l : List Spt} (hl : l.length ≤ 40) {i : Nat} {s : (Nat → Int) × Nat} (h : PR l (i * 64) s) : ∀ k, i + k < l.length → PR l (i * 64 + (i + 1 + k)) (prF l i s k)
  | 0, _ => PR_mono h (by omega)
  | k + 1, hk => by
    have ih := prF_PR hl h k (by omega)
    have := PR_up (i := i) (j := i + 1 + k) hl ih (by omega) (by omega) (Nat.le_refl _)
    exact PR_mono this (by omega)
theorem paF_PR {l : List Spt} (hl : l.length ≤ 40) : ∀ i, i ≤ l.length → PR l (i * 64) (paF l i)
  | 0, _ => ⟨fun t ht => absurd ht (Nat.not_lt_zero _), fun t u _ hu => absurd hu (Nat.not_lt_zero _)⟩
  | i + 1, hi => by
    have ih := paF_PR hl i (by omega)
    have := prF_PR hl ih (l.length - (i + 1)) (by omega)
    exact PR_mono this (by omega)
theorem PR_inj {l : List Spt} {B : Nat} {s : (Nat → Int) × Nat} (h : PR l B s) : ∀ t u, t < s.2 → u < s.2 → s.1 t = s.1 u → t = u := by
  intro t u ht hu e
  by_cases q : t < u
  · have := h.2 t u q hu
    rw [e] at this
    omega
  · by_cases q2 : u < t
    · have := h.2 u t q2 ht
      rw [e] at this
      omega
    · omega
theorem PR_k {l : List Spt} (hb : bdL l) (hl : l.length ≤ 40) {B : Nat} {s : (Nat → Int) × Nat} (h : PR l B s) : ∀ t, t < s.2 → 0 ≤ s.1 t ∧ s.1 t < 2147483648 := fun t ht => by
  obtain ⟨a, b, h1, h2, h3, h4⟩ := h.1 t ht
  rw [h3]
  exact ky_bd hb (by omega) h2 hl
def FK (m m' : tZ12) : Prop := m'.1 = m.1 ∧ m'.2.1 = m.2.1 ∧ m'.2.2.1 = m.2.2.1 ∧ ∀ j, j ≠ 41 → m'.2.2.2 j = m.2.2.2 j
theorem FK_rfl (m : tZ12) : FK m m := ⟨rfl, rfl, rfl, fun _ _ => rfl⟩
theorem FK_q {m m' : tZ12} (h : FK m m') : FQ m m' := ⟨fun j _ => by rw [h.1], by rw [h.1], fun j _ => by rw [h.2.2.1], by rw [h.2.2.1]⟩
theorem FK_41 {m s : tZ12} (h : FK m s) (k : Nat) (v : Int) : FK m (s.1, s.2.1, s.2.2.1, va_up s.2.2.2 41 (va_up (s.2.2.2 41) k v)) :=
  ⟨h.1, h.2.1, h.2.2.1, fun j q => (va_ne _ _ q).trans (h.2.2.2 j q)⟩
theorem SPm_fk {m m' : tZ12} {l : List Spt} (h : FK m m') (H : SPm m l) : SPm m' l := by
  unfold SPm at *
  rw [h.1, h.2.2.1]
  exact H
theorem PM_set {n : Nat} {f g : Nat → Int} (h : PM n f g) (v : Int) : PM (n + 1) (va_up f n v) (va_up g n v) :=
  PM_more (PM_congr h (fun i hi => va_ne _ _ (by omega))) (fun i hi => va_ne _ _ (by omega)) (by rw [va_same, va_same])
theorem qm_insL {m : tZ12} {n : Nat} {b : Nat → Int} (hn : n < 780) {v v1 v2 v3 v5 w : Int} (kb : ∀ i, i < n → k64 (b i)) (kv : k64 v) (hp : PM n (m.2.2.2 41) b) (so : SO (m.2.2.2 41) n) :
    kwp (kitr 102 (fun q => q_X12_couple_L102 v1 v2 v3 (n : Int) v5 w v q) kF ((n : Int), m)) (fun e => e.1 = 144 ∧ ∃ a : Nat, e.2.1 = (a : Int) ∧ a ≤ n ∧ FK m e.2.2 ∧ PM (n + 1) (va_up (e.2.2.2.2.2 41) a v) (va_up b n v) ∧ SO (va_up (e.2.2.2.2.2 41) a v) (n + 1)) := by
  have kk : ∀ i, i < n + 1 → k64 (va_up b n v i) := fun i hi => by
    by_cases e : i = n
    · rw [e, va_same]
      exact kv
    · rw [va_ne _ _ e]
      exact kb i (by omega)
  refine w_loop (fun k (s : Int × tZ12) => ∃ a : Nat, a = k ∧ s.1 = (a : Int) ∧ a ≤ n ∧ FK m s.2 ∧ PM (n + 1) (va_up (s.2.2.2.2 41) a v) (va_up b n v) ∧ InsI (s.2.2.2.2 41) v a n) (Q := fun e => e.1 = 144 ∧ ∃ a : Nat, e.2.1 = (a : Int) ∧ a ≤ n ∧ FK m e.2.2 ∧ PM (n + 1) (va_up (e.2.2.2.2.2 41) a v) (va_up b n v) ∧ SO (va_up (e.2.2.2.2.2 41) a v) (n + 1)) ?_ kF n _ (by have := kF_eq; omega) ⟨n, rfl, rfl, Nat.le_refl _, FK_rfl m, PM_set hp v, Ins_start so⟩
  rintro k ⟨t, mm⟩ ⟨a, rfl, g1, g2, g3, g4, g5⟩
  dsimp only at g1 g2 g3 g4 g5
  subst g1
  unfold q_X12_couple_L102
  dsimp only
  simp only [kwp_kb, kwp_some, kwp_kg, kwp_kif, kwp_kl]
  refine ⟨⟨by omega, by omega⟩, fun q => Or.inr ⟨by decide, by trivial, a, by trivial, g2, g3, g4, Ins_end g5 (Or.inl (by omega))⟩, fun q => ?_⟩
  obtain ⟨c, hc⟩ : ∃ c : Nat, a = c + 1 := ⟨a - 1, by omega⟩
  subst hc
  have ka := PM_all (P := k64) g4 kk c (by omega)
  rw [va_ne _ _ (by omega)] at ka
  rw [show ((c + 1 : Nat) : Int) - 1 = (c : Int) by omega, Int.toNat_natCast, Int.toNat_natCast]
  refine ⟨⟨by omega, by omega⟩, ⟨ka, kv⟩, fun q1 => Or.inr ⟨by decide, by trivial, c + 1, by trivial, g2, g3, g4, Ins_end g5 (Or.inr q1)⟩, fun q1 => ⟨⟨by omega, by omega⟩, Or.inl ⟨by trivial, c, by omega, c, rfl, by omega, by omega, FK_41 g3 _ _, ?_, ?_⟩⟩⟩
  · rw [va_same]
    exact PM_trans (PM_hole (by omega) (by omega) (by omega)) g4
  · rw [va_same]
    exact Ins_step g5 g2 (by omega)
def MC (m0 m : tZ12) (s : (Nat → Int) × Nat) (n : Int) : Prop := FK m0 m ∧ n = (s.2 : Int) ∧ PM s.2 (m.2.2.2 41) s.1 ∧ SO (m.2.2.2 41) s.2
theorem qm_coupleL {m : tZ12} {l : List Spt} (HS : SPm m l) (hb : bdL l) (hl : l.length ≤ 40) {v1 v2 v3 : Int} :
    kwp (kitr 48 (fun q => q_X12_couple_L48 v1 v2 v3 q) kF ((0 : Int), (0 : Int), m)) (fun e => e.1 = 168 ∧ MC m e.2.2.2 (paF l l.length) e.2.1) := by
  have call := (cpN_all ⟨l.length, by omega⟩).2
  dsimp only at call
  refine w_mono (w_for (ex := 168) (by decide) (fun i (s : Int × Int × tZ12) => s.2.1 = (i : Int) ∧ MC m s.2.2 (paF l i) s.1) l.length ?_ ?_ (Nat.zero_le _) (by have := kF_eq; omega) ⟨rfl, FK_rfl m, rfl, PM_same (fun i hi => absurd hi (Nat.not_lt_zero _)), fun i j _ hj => absurd hj (Nat.not_lt_zero _)⟩) (fun e g => ⟨g.1, g.2.2⟩)
  · rintro i ⟨n, t, w⟩ hi ⟨g1, g2⟩
    dsimp only at g1 g2
    subst g1
    have w15 : w.1 15 = (l.length : Int) := by rw [g2.1.1]; exact HS.1
    unfold q_X12_couple_L48
    dsimp only
    rw [w15]
    simp only [kwp_kb, kwp_some, kwp_kg, kwp_kif, kwp_kl]
    refine ⟨⟨⟨by omega, by omega⟩, ⟨by omega, by omega⟩⟩, fun q => by omega, fun _ => w_mono (w_for (ex := 162) (by decide) (fun k (s : Int × Int × tZ12) => s.2.1 = (i : Int) + 1 + (k : Int) ∧ MC m s.2.2 (prF l i (paF l i) k) s.1) (l.length - (i + 1)) ?_ ?_ (Nat.zero_le _) (by have := kF_eq; omega) ⟨by dsimp only; omega, g2⟩) ?_⟩
    · rintro k ⟨n, t, w⟩ hk ⟨g3, g4, g5, g6, g7⟩
      dsimp only at g3 g4 g5 g6 g7
      subst g3 g5
      have d := ds_bd hb (i := i) (j := i + 1 + k) hi (by omega)
      have n1 := prF_n l i (paF l i) k
      have n2 := paF_n l i
      have n3 := cpN_mono l.length (i + 1) l.length (by omega)
      have n4 : cpN l.length (i + 1) = cpN l.length i + (l.length - (i + 1)) := rfl
      have w15 : w.1 15 = (l.length : Int) := by rw [g4.1]; exact HS.1
      have pr := prF_PR hl (paF_PR hl i (by omega)) k (by omega)
      have kb : ∀ t, t < (prF l i (paF l i) k).2 → k64 ((prF l i (paF l i) k).1 t) := fun t ht => by
        have := PR_k hb hl pr t ht
        exact ⟨by omega, by omega⟩
      have kv := ky_bd hb (i := i) (j := i + 1 + k) hi (by omega) hl
      have ke : (ds (lX l) (lY l) i (i + 1 + k) * 64 + (i : Int)) * 64 + ((i + 1 + k : Nat) : Int) = ky l i (i + 1 + k) := by
        have e : ky l i (i + 1 + k) = ((((ds (lX l) (lY l) i (i + 1 + k)).toNat * 64 + i) * 64 + (i + 1 + k) : Nat) : Int) := rfl
        omega
      unfold q_X12_couple_L63
      dsimp only
      rw [w15, show (i : Int) + 1 + (k : Int) = ((i + 1 + k : Nat) : Int) by omega]
      simp only [kwp_kb, kwp_some, kwp_kg, kwp_kif, kwp_kl]
      rw [qm_apart (SPm_fk g4 HS) hb hi (show i + 1 + k < l.length by omega)]
      simp only [kwp_some]
      rw [ke]
      refine ⟨⟨⟨by omega, by omega⟩, ⟨by omega, by omega⟩⟩, fun q => by omega, fun _ => ⟨⟨by omega, by omega⟩, w_mono (qm_insL (n := (prF l i (paF l i) k).2) (by omega) kb (show k64 (ky l i (i + 1 + k)) from ⟨by omega, by omega⟩) g6 g7) ?_⟩⟩
      rintro ⟨lb, t, w2⟩ ⟨f0, a, f1, f2, f3, f4, f5⟩
      dsimp only at f0 f1 f3 f4 f5 ⊢
      subst f1
      rw [Int.toNat_natCast]
      refine ⟨f0, ⟨by omega, by omega⟩, by trivial, by omega, FK_41 ⟨f3.1.trans g4.1, f3.2.1.trans g4.2.1, f3.2.2.1.trans g4.2.2.1, fun j q => (f3.2.2.2 j q).trans (g4.2.2.2 j q)⟩ _ _, ?_, ?_, ?_⟩
      · show ((prF l i (paF l i) k).2 : Int) + 1 = (((prF l i (paF l i) k).2 + 1 : Nat) : Int)
        omega
      · show PM ((prF l i (paF l i) k).2 + 1) (va_up w2.2.2.2 41 (va_up (w2.2.2.2 41) a (ky l i (i + 1 + k))) 41) _
        rw [va_same]
        exact f4
      · show SO (va_up w2.2.2.2 41 (va_up (w2.2.2.2 41) a (ky l i (i + 1 + k))) 41) _
        rw [va_same]
        exact f5
    · rintro ⟨n, t, w⟩ ⟨g3, g4⟩
      dsimp only at g3 g4
      subst g3
      have w15 : w.1 15 = (l.length : Int) := by rw [g4.1.1]; exact HS.1
      unfold q_X12_couple_L63
      dsimp only
      rw [w15]
      simp only [kwp_kb, kwp_some, kwp_kg, kwp_kif, kwp_kl]
      exact ⟨⟨⟨by omega, by omega⟩, ⟨by omega, by omega⟩⟩, fun _ => ⟨by trivial, by trivial, g4⟩, fun q => by omega⟩
    · rintro ⟨lb, n, t, w⟩ ⟨g0, g3, g4⟩
      dsimp only at g0 g3 g4 ⊢
      exact ⟨g0, by trivial, by omega, g4⟩
  · rintro ⟨n, t, w⟩ ⟨g1, g2⟩
    dsimp only at g1 g2
    subst g1
    have w15 : w.1 15 = (l.length : Int) := by rw [g2.1.1]; exact HS.1
    unfold q_X12_couple_L48
    dsimp only
    rw [w15]
    simp only [kwp_kb, kwp_some, kwp_kg, kwp_kif, kwp_kl]
    exact ⟨⟨⟨by omega, by omega⟩, ⟨by omega, by omega⟩⟩, fun _ => ⟨by trivial, by trivial, g2⟩, fun q => by omega⟩
