/-! ===== deep ===== -/
def dT (l : List Spt) (x y dx dy : Int) (i : Nat) : Int := dx * (lY l i - y) - dy * (lX l i - x)
def dA (l : List Spt) (x y dx dy : Int) (i : Nat) : Int := dx * (lX l i - x) + dy * (lY l i - y)
def dcL (l : List Spt) (x y dx dy : Int) (n : Nat) : Nat := cntU (fun i => decide (0 < dT l x y dx dy i)) n
def dcR (l : List Spt) (x y dx dy : Int) (n : Nat) : Nat := cntU (fun i => decide (dT l x y dx dy i < 0)) n
def dcA (l : List Spt) (x y dx dy : Int) (n : Nat) : Nat := cntU (fun i => decide (dT l x y dx dy i = 0 ∧ 0 < dA l x y dx dy i)) n
def dcB (l : List Spt) (x y dx dy : Int) (n : Nat) : Nat := cntU (fun i => decide (dT l x y dx dy i = 0 ∧ dA l x y dx dy i < 0)) n
def dcO (l : List Spt) (x y : Int) (n : Nat) : Nat := cntU (fun i => decide (lX l i = x ∧ lY l i = y)) n
theorem cntU_s (P : Nat → Prop) [DecidablePred P] (n : Nat) : cntU (fun i => decide (P i)) (n + 1) = cntU (fun i => decide (P i)) n + if P n then 1 else 0 := by
  show _ + (if decide (P n) = true then 1 else 0) = _
  simp only [decide_eq_true_iff]
theorem dL_s (l : List Spt) (x y dx dy : Int) (n : Nat) : dcL l x y dx dy (n + 1) = dcL l x y dx dy n + if 0 < dT l x y dx dy n then 1 else 0 := cntU_s (fun i => 0 < dT l x y dx dy i) n
theorem dR_s (l : List Spt) (x y dx dy : Int) (n : Nat) : dcR l x y dx dy (n + 1) = dcR l x y dx dy n + if dT l x y dx dy n < 0 then 1 else 0 := cntU_s (fun i => dT l x y dx dy i < 0) n
theorem dA_s (l : List Spt) (x y dx dy : Int) (n : Nat) : dcA l x y dx dy (n + 1) = dcA l x y dx dy n + if dT l x y dx dy n = 0 ∧ 0 < dA l x y dx dy n then 1 else 0 := cntU_s (fun i => dT l x y dx dy i = 0 ∧ 0 < dA l x y dx dy i) n
theorem dB_s (l : List Spt) (x y dx dy : Int) (n : Nat) : dcB l x y dx dy (n + 1) = dcB l x y dx dy n + if dT l x y dx dy n = 0 ∧ dA l x y dx dy n < 0 then 1 else 0 := cntU_s (fun i => dT l x y dx dy i = 0 ∧ dA l x y dx dy i < 0) n
theorem dO_s (l : List Spt) (x y : Int) (n : Nat) : dcO l x y (n + 1) = dcO l x y n + if lX l n = x ∧ lY l n = y then 1 else 0 := cntU_s (fun i => lX l i = x ∧ lY l i = y) n
theorem sq_pos2 {a : Int} (h : a ≠ 0) : 0 < a * a := by
  rcases Int.lt_or_gt_of_ne h with h | h
  · exact Int.mul_pos_of_neg_of_neg h h
  · exact Int.mul_pos h h
theorem sq_nn2 (a : Int) : 0 ≤ a * a := by
  by_cases h : a = 0
  · rw [h]; decide
  · exact Int.le_of_lt (sq_pos2 h)
theorem dO_iff {l : List Spt} {x y dx dy : Int} (hd : ¬ (dx = 0 ∧ dy = 0)) (i : Nat) : (dT l x y dx dy i = 0 ∧ dA l x y dx dy i = 0) ↔ (lX l i = x ∧ lY l i = y) := by
  unfold dT dA
  generalize hu : lX l i - x = u
  generalize hv : lY l i - y = v
  have hp : 0 < dx * dx + dy * dy := by
    have a := sq_nn2 dx
    have b := sq_nn2 dy
    by_cases h : dx = 0
    · have := sq_pos2 (a := dy) (fun w => hd ⟨h, w⟩)
      omega
    · have := sq_pos2 h
      omega
  constructor
  · rintro ⟨h1, h2⟩
    have e1 : u * (dx * dx + dy * dy) = 0 := by
      have : u * (dx * dx + dy * dy) = dx * (dx * u + dy * v) - dy * (dx * v - dy * u) := by grind
      rw [this, h1, h2]
      omega
    have e2 : v * (dx * dx + dy * dy) = 0 := by
      have : v * (dx * dx + dy * dy) = dy * (dx * u + dy * v) + dx * (dx * v - dy * u) := by grind
      rw [this, h1, h2]
      omega
    rcases Int.mul_eq_zero.mp e1 with e1 | e1
    · rcases Int.mul_eq_zero.mp e2 with e2 | e2
      · omega
      · omega
    · omega
  · rintro ⟨h1, h2⟩
    have e1 : u = 0 := by omega
    have e2 : v = 0 := by omega
    rw [e1, e2]
    exact ⟨by omega, by omega⟩
theorem d_sum {l : List Spt} {x y dx dy : Int} (hd : ¬ (dx = 0 ∧ dy = 0)) : ∀ n, dcL l x y dx dy n + dcR l x y dx dy n + dcA l x y dx dy n + dcB l x y dx dy n + dcO l x y n = n := by
  intro n
  induction n with
  | zero => rfl
  | succ n ih =>
    have o := dO_iff (l := l) (x := x) (y := y) hd n
    rw [dL_s, dR_s, dA_s, dB_s, dO_s]
    generalize dT l x y dx dy n = t at *
    generalize dA l x y dx dy n = a at *
    by_cases c : lX l n = x ∧ lY l n = y
    · have := o.mpr c
      rw [if_pos c, if_neg (by omega), if_neg (by omega), if_neg (by omega), if_neg (by omega)]
      omega
    · rw [if_neg c]
      by_cases t1 : 0 < t
      · rw [if_pos t1, if_neg (by omega), if_neg (by omega), if_neg (by omega)]
        omega
      · by_cases t2 : t < 0
        · rw [if_neg t1, if_pos t2, if_neg (by omega), if_neg (by omega)]
          omega
        · have t0 : t = 0 := by omega
          by_cases a1 : 0 < a
          · rw [if_neg t1, if_neg t2, if_pos ⟨t0, a1⟩, if_neg (by omega)]
            omega
          · have a2 : a < 0 := by
              by_cases e : a = 0
              · exact absurd (o.mp ⟨t0, e⟩) c
              · omega
            rw [if_neg t1, if_neg t2, if_neg (by omega), if_pos ⟨t0, a2⟩]
            omega
theorem dO_zero {l : List Spt} {x y : Int} : ∀ n, (∀ i, i < n → ¬ (lX l i = x ∧ lY l i = y)) → dcO l x y n = 0 := by
  intro n
  induction n with
  | zero => intro _; rfl
  | succ n ih =>
    intro h
    rw [dO_s, ih (fun i hi => h i (by omega)), if_neg (h n (by omega))]
theorem dO_one {l : List Spt} {x y : Int} (hD : Dif (lX l) (lY l) l.length) {k : Nat} (hk : lX l k = x ∧ lY l k = y) : ∀ n, n ≤ l.length → k < n → dcO l x y n = 1 := by
  intro n
  induction n with
  | zero => intro _ h; omega
  | succ n ih =>
    intro hn h
    rw [dO_s]
    by_cases e : k = n
    · subst e
      rw [if_pos hk, dO_zero k (fun i hi w => by
        have := hD i k (by omega) (by omega) (by omega)
        rw [w.1, w.2, hk.1, hk.2] at this
        rcases this with q | q <;> exact q rfl)]
    · rw [ih (by omega) (by omega), if_neg (fun w => by
        have := hD k n (by omega) (by omega) e
        rw [w.1, w.2, hk.1, hk.2] at this
        rcases this with q | q <;> exact q rfl)]
def dcM (l : List Spt) (x y : Int) (i : Nat) : Int :=
  min (dcL l x y (lX l i - x) (lY l i - y) l.length : Int) (dcR l x y (lX l i - x) (lY l i - y) l.length : Int) + min (dcA l x y (lX l i - x) (lY l i - y) l.length : Int) (dcB l x y (lX l i - x) (lY l i - y) l.length : Int)
def dMn (l : List Spt) (x y : Int) : Nat → Int
  | 0 => (l.length : Int) - (dcO l x y l.length : Int)
  | n + 1 => if lX l n = x ∧ lY l n = y then dMn l x y n else min (dMn l x y n) (dcM l x y n)
theorem dc_le (l : List Spt) (x y dx dy : Int) (n : Nat) : dcL l x y dx dy n ≤ n ∧ dcR l x y dx dy n ≤ n ∧ dcA l x y dx dy n ≤ n ∧ dcB l x y dx dy n ≤ n := ⟨cntU_le _ _, cntU_le _ _, cntU_le _ _, cntU_le _ _⟩
theorem dMn_bd (l : List Spt) (x y : Int) : ∀ n, 0 ≤ dMn l x y n ∧ dMn l x y n + (dcO l x y l.length : Int) ≤ (l.length : Int) := by
  have o : dcO l x y l.length ≤ l.length := cntU_le _ _
  intro n
  induction n with
  | zero => unfold dMn; omega
  | succ n ih =>
    unfold dMn
    split
    · exact ih
    · unfold dcM
      omega
theorem d_bd {a b c d : Int} (ha : a.natAbs ≤ 460) (hb : b.natAbs ≤ 460) (hc : c.natAbs ≤ 460) (hd : d.natAbs ≤ 460) : k32 (a * b - c * d) ∧ k32 (a * b + c * d) := by
  have h1 := ab_mul ha hb
  have h2 := ab_mul hc hd
  exact ⟨⟨by omega, by omega⟩, ⟨by omega, by omega⟩⟩
theorem q_depthBeside {z : tZ8} {l : List Spt} (H : SPc z l) (hb : bdL l) {x y dx dy : Int} (hx : x.natAbs ≤ 300) (hy : y.natAbs ≤ 300) (h1 : dx.natAbs ≤ 460) (h2 : dy.natAbs ≤ 460) (hd : ¬ (dx = 0 ∧ dy = 0)) :
    q_X8_depthBeside z x y dx dy = some ((dcO l x y l.length : Int) + (min (dcL l x y dx dy l.length : Int) (dcR l x y dx dy l.length : Int) + min (dcA l x y dx dy l.length : Int) (dcB l x y dx dy l.length : Int))) := by
  refine w_eq ?_
  have hl := H.2.1
  unfold q_X8_depthBeside
  rw [H.1]
  refine w_kb (w_for (ex := 123) (by decide) (fun i (s : Int × Int × Int × Int × Int) => s.2.2.2.2 = (i : Int) ∧ s.1 = (dcL l x y dx dy i : Int) ∧ s.2.1 = (dcR l x y dx dy i : Int) ∧ s.2.2.1 = (dcA l x y dx dy i : Int) ∧ s.2.2.2.1 = (dcB l x y dx dy i : Int)) l.length ?_ ?_ (Nat.zero_le _) (by have := kF_eq; omega) ⟨rfl, rfl, rfl, rfl, rfl⟩) ?_
  · rintro i ⟨s1, s2, s3, s4, s⟩ hi ⟨rfl, rfl, rfl, rfl, rfl⟩
    have b := bX hb hi
    have e := H.2.2 i hi
    have kt : k32 (dT l x y dx dy i) := (d_bd h1 (by omega) h2 (by omega)).1
    have ka : k32 (dA l x y dx dy i) := (d_bd h1 (by omega) h2 (by omega)).2
    unfold q_X8_depthBeside_L15
    rw [H.1]
    simp only [kwp_kb, kwp_some, kwp_kg, kwp_kif, kwp_kl]
    rw [Int.toNat_natCast, show z.1 i = lX l i from e.1, show z.2.1 i = lY l i from e.2.1]
    rw [show dx * (lY l i - y) - dy * (lX l i - x) = dT l x y dx dy i from rfl, show dx * (lX l i - x) + dy * (lY l i - y) = dA l x y dx dy i from rfl]
    rw [dL_s, dR_s, dA_s, dB_s]
    generalize dT l x y dx dy i = t at *
    generalize dA l x y dx dy i = a at *
    refine ⟨⟨⟨by omega, by omega⟩, ⟨by omega, by omega⟩⟩, fun q => by omega, fun _ => ⟨⟨by omega, by omega⟩, kt, fun q1 => ⟨fun q2 => ⟨ka, fun q3 => ⟨fun q4 => ?_, fun q4 => ?_⟩, fun q3 => ?_⟩, fun q2 => ?_⟩, fun q1 => ?_⟩⟩
    · rw [if_neg (by omega), if_neg (by omega), if_neg (by omega), if_neg (by omega)]
      exact ⟨by trivial, by omega, by omega, by omega, by omega, by omega⟩
    · rw [if_neg (by omega), if_neg (by omega), if_neg (by omega), if_pos (by omega)]
      exact ⟨by trivial, by omega, by omega, by omega, by omega, by omega⟩
    · rw [if_neg (by omega), if_neg (by omega), if_pos (by omega), if_neg (by omega)]
      exact ⟨by trivial, by omega, by omega, by omega, by omega, by omega⟩
    · rw [if_neg (by omega), if_pos (by omega), if_neg (by omega), if_neg (by omega)]
      exact ⟨by trivial, by omega, by omega, by omega, by omega, by omega⟩
    · rw [if_pos (by omega), if_neg (by omega), if_neg (by omega), if_neg (by omega)]
      exact ⟨by trivial, by omega, by omega, by omega, by omega, by omega⟩
  · rintro ⟨s1, s2, s3, s4, s⟩ ⟨rfl, h⟩
    dsimp only at h
    unfold q_X8_depthBeside_L15
    rw [H.1]
    simp only [kwp_kb, kwp_some, kwp_kg, kwp_kif, kwp_kl]
    exact ⟨⟨⟨by omega, by omega⟩, ⟨by omega, by omega⟩⟩, fun _ => ⟨by trivial, by trivial, h⟩, fun q => by omega⟩
  · rintro ⟨lb, s1, s2, s3, s4, s⟩ ⟨h0, _, g1, g2, g3, g4⟩
    dsimp only at *
    simp only [kwp_kg, kwp_some, kwp_kl, kwp_kb]
    have c := dc_le l x y dx dy l.length
    have sm := d_sum (l := l) (x := x) (y := y) hd l.length
    rw [g1, g2, g3, g4, q_min32 ⟨by omega, by omega⟩ ⟨by omega, by omega⟩, kwp_some, q_min32 ⟨by omega, by omega⟩ ⟨by omega, by omega⟩, kwp_some]
    exact ⟨h0, by omega⟩
theorem q_depth {z : tZ8} {l : List Spt} (H : SPc z l) (hb : bdL l) {x y : Int} (hx : x.natAbs ≤ 300) (hy : y.natAbs ≤ 300) : q_X8_depth z x y = some (dMn l x y l.length + (dcO l x y l.length : Int)) := by
  refine w_eq ?_
  have hl := H.2.1
  unfold q_X8_depth
  rw [H.1]
  refine w_kb (w_for (ex := 74) (by decide) (fun i (s : Int × Int) => s.2 = (i : Int) ∧ s.1 = dMn l x y i + (dcO l x y l.length : Int)) l.length ?_ ?_ (Nat.zero_le _) (by have := kF_eq; omega) ⟨rfl, show (l.length : Int) = ((l.length : Int) - (dcO l x y l.length : Int)) + _ by omega⟩) ?_
  · rintro i ⟨c, s⟩ hi ⟨rfl, rfl⟩
    have b := bX hb hi
    have e := H.2.2 i hi
    have mb := dMn_bd l x y i
    have es : dMn l x y (i + 1) = if lX l i = x ∧ lY l i = y then dMn l x y i else min (dMn l x y i) (dcM l x y i) := rfl
    have J : ¬ (lX l i = x ∧ lY l i = y) → kwp (q_X8_depth_J39_8 z x y (dMn l x y i + (dcO l x y l.length : Int)) (i : Int)) (fun e => e.1 = 8 ∧ e.2.2 = ((i + 1 : Nat) : Int) ∧ e.2.1 = dMn l x y (i + 1) + (dcO l x y l.length : Int)) := fun hn => by
      unfold q_X8_depth_J39_8
      simp only [kwp_kb, kwp_some, kwp_kg, kwp_kif, kwp_kl]
      rw [Int.toNat_natCast, show z.1 i = lX l i from e.1, show z.2.1 i = lY l i from e.2.1]
      have c := dc_le l x y (lX l i - x) (lY l i - y) l.length
      have co : dcO l x y l.length ≤ l.length := cntU_le _ _
      rw [q_depthBeside H hb hx hy (by omega) (by omega) (by omega), kwp_some, show min (dcL l x y (lX l i - x) (lY l i - y) l.length : Int) (dcR l x y (lX l i - x) (lY l i - y) l.length : Int) + min (dcA l x y (lX l i - x) (lY l i - y) l.length : Int) (dcB l x y (lX l i - x) (lY l i - y) l.length : Int) = dcM l x y i from rfl]
      have mm : 0 ≤ dcM l x y i ∧ dcM l x y i ≤ 100 := by unfold dcM; omega
      rw [q_min32 ⟨by omega, by omega⟩ ⟨by omega, by omega⟩, kwp_some]
      refine ⟨⟨by omega, by omega⟩, by trivial, by omega, ?_⟩
      rw [es, if_neg hn]
      omega
    unfold q_X8_depth_L8
    rw [H.1]
    simp only [kwp_kb, kwp_some, kwp_kg, kwp_kif, kwp_kl]
    rw [Int.toNat_natCast, show z.1 i = lX l i from e.1, show z.2.1 i = lY l i from e.2.1]
    refine ⟨⟨⟨by omega, by omega⟩, ⟨by omega, by omega⟩⟩, fun q => by omega, fun _ => ⟨⟨by omega, by omega⟩, ⟨⟨by omega, by omega⟩, ⟨by omega, by omega⟩⟩, fun q => ⟨⟨⟨by omega, by omega⟩, ⟨by omega, by omega⟩⟩, fun q2 => ⟨by trivial, by omega, by rw [es, if_pos ⟨q, q2⟩]⟩, fun q2 => J (fun w => q2 w.2)⟩, fun q => J (fun w => q w.1)⟩⟩
  · rintro ⟨c, s⟩ ⟨rfl, h⟩
    dsimp only at h
    unfold q_X8_depth_L8
    rw [H.1]
    simp only [kwp_kb, kwp_some, kwp_kg, kwp_kif, kwp_kl]
    exact ⟨⟨⟨by omega, by omega⟩, ⟨by omega, by omega⟩⟩, fun _ => ⟨by trivial, by trivial, h⟩, fun q => by omega⟩
  · rintro ⟨lb, c, s⟩ ⟨h0, _, h⟩
    dsimp only at *
    simp only [kwp_kg, kwp_some]
    exact ⟨h0, h⟩
