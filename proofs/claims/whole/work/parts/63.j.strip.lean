/-! ===== strip, box: what is measured along a side ===== -/
def hgF (l : List Spt) (h : Nat → Nat) (c i : Nat) : Nat → Int
  | 0 => 0
  | n + 1 => max (hgF l h c i n) (tn (lX l) (lY l) (h i) (h (nx c i)) (h n))
theorem hgF_bd {l : List Spt} (hb : bdL l) {h : Nat → Nat} {c i : Nat} (hl : ∀ i, i < c → h i < l.length) (hi : i < c) : ∀ n, n ≤ c → 0 ≤ hgF l h c i n ∧ hgF l h c i n ≤ 300000
  | 0, _ => ⟨Int.le_refl _, by show (0 : Int) ≤ 300000; decide⟩
  | n + 1, hn => by
    have ih := hgF_bd hb hl hi n (by omega)
    have g := tn_bd hb (hl i hi) (hl _ (nx_lt hi)) (hl n (by omega))
    have e : hgF l h c i (n + 1) = max (hgF l h c i n) (tn (lX l) (lY l) (h i) (h (nx c i)) (h n)) := rfl
    omega
theorem q_height {z : tZ5} {l : List Spt} {h : Nat → Nat} {c : Nat} (hb : bdL l) (H : OU z l h c) {i : Nat} (hi : i < c) : q_X5_height z (i : Int) = some (hgF l h c i c) := by
  refine w_eq ?_
  have hc := H.2.1
  have hl : ∀ i, i < c → h i < l.length := fun i hi => (H.2.2 i hi).1
  unfold q_X5_height
  refine w_kb (w_for (ex := 44) (by decide) (fun j (s : Int × Int) => s.2 = (j : Int) ∧ s.1 = hgF l h c i j) c ?_ ?_ (Nat.zero_le _) (by have := kF_eq; omega) ⟨rfl, rfl⟩) ?_
  · rintro j ⟨t, s⟩ hj ⟨rfl, rfl⟩
    have a := H.2.2 j hj
    have b := bX hb a.1
    have m1 := hgF_bd hb hl hi j (by omega)
    have m2 := tn_bd hb (hl i hi) (hl _ (nx_lt hi)) (hl j hj)
    unfold q_X5_height_L5
    rw [H.1]
    simp only [kwp_kb, kwp_some, kwp_kg, kwp_kif, kwp_kl]
    rw [Int.toNat_natCast, a.2.1, a.2.2.1]
    refine ⟨⟨⟨by omega, by omega⟩, ⟨by omega, by omega⟩⟩, fun q => by omega, fun _ => ⟨⟨by omega, by omega⟩, w_of (q_oturnH hb H hi (by omega) (by omega)) (w_of (q_max64 (a := hgF l h c i j) (b := tn (lX l) (lY l) (h i) (h (nx c i)) (h j)) ⟨by omega, by omega⟩ ⟨by omega, by omega⟩) ⟨by trivial, by omega, rfl⟩)⟩⟩
  · rintro ⟨t, s⟩ ⟨rfl, g⟩
    dsimp only at g
    unfold q_X5_height_L5
    rw [H.1]
    simp only [kwp_kb, kwp_some, kwp_kg, kwp_kif, kwp_kl]
    exact ⟨⟨⟨by omega, by omega⟩, ⟨by omega, by omega⟩⟩, fun _ => ⟨by trivial, by trivial, g⟩, fun q => by omega⟩
  · rintro ⟨lb, t, s⟩ ⟨g0, _, g⟩
    dsimp only at *
    simp only [kwp_kg, kwp_some]
    exact ⟨g0, g⟩
def sqF (l : List Spt) (h : Nat → Nat) (c i : Nat) : Int :=
  (lX l (h (nx c i)) - lX l (h i)) * (lX l (h (nx c i)) - lX l (h i)) + (lY l (h (nx c i)) - lY l (h i)) * (lY l (h (nx c i)) - lY l (h i))
theorem q_sideSq {z : tZ5} {l : List Spt} {h : Nat → Nat} {c : Nat} (hb : bdL l) (H : OU z l h c) {i : Nat} (hi : i < c) : q_X5_sideSquared z (i : Int) = some (sqF l h c i) := by
  unfold q_X5_sideSquared
  rw [(q_osideH hb H hi).1, (q_osideH hb H hi).2]
  rfl
theorem sqF_bd {l : List Spt} (hb : bdL l) {h : Nat → Nat} {c i : Nat} (hl : ∀ i, i < c → h i < l.length) (hi : i < c) : 0 ≤ sqF l h c i ∧ sqF l h c i ≤ 204800 := by
  have b1 := bX hb (hl i hi)
  have b2 := bX hb (hl _ (nx_lt hi))
  have p1 := sq_nn2 (lX l (h (nx c i)) - lX l (h i))
  have p2 := sq_nn2 (lY l (h (nx c i)) - lY l (h i))
  have q1 := ab_mul (a := lX l (h (nx c i)) - lX l (h i)) (b := lX l (h (nx c i)) - lX l (h i)) (A := 320) (B := 320) (by omega) (by omega)
  have q2 := ab_mul (a := lY l (h (nx c i)) - lY l (h i)) (b := lY l (h (nx c i)) - lY l (h i)) (A := 320) (B := 320) (by omega) (by omega)
  unfold sqF
  omega
theorem sqF_pos {l : List Spt} (hs : sorL l) (h0 : 0 < l.length) (h2 : 2 ≤ hC l) {i : Nat} (hi : i < hC l) : 0 < sqF l (hJ l) (hC l) i := by
  have d := hJ_dif hs h0 (nx_lt hi) hi (nx_ne h2 hi)
  have p1 := sq_nn2 (lX l (hJ l (nx (hC l) i)) - lX l (hJ l i))
  have p2 := sq_nn2 (lY l (hJ l (nx (hC l) i)) - lY l (hJ l i))
  unfold sqF
  rcases d with d | d
  · have := sq_pos2 (a := lX l (hJ l (nx (hC l) i)) - lX l (hJ l i)) (by omega)
    omega
  · have := sq_pos2 (a := lY l (hJ l (nx (hC l) i)) - lY l (hJ l i)) (by omega)
    omega
def dwX (l : List Spt) (h : Nat → Nat) (c i : Nat) : Int := lX l (h (nx c i)) - lX l (h i)
def dwY (l : List Spt) (h : Nat → Nat) (c i : Nat) : Int := lY l (h (nx c i)) - lY l (h i)
def wyF (l : List Spt) (h : Nat → Nat) (c i : Nat) : Nat → Int := alF l h (dwX l h c i) (dwY l h c i)
def lgF (l : List Spt) (h : Nat → Nat) (c i : Nat) : Int := mxF (wyF l h c i) (c - 1) - mnF (wyF l h c i) (c - 1)
theorem dw_bd {l : List Spt} (hb : bdL l) {h : Nat → Nat} {c i : Nat} (hl : ∀ i, i < c → h i < l.length) (hi : i < c) : (dwX l h c i).natAbs ≤ 320 ∧ (dwY l h c i).natAbs ≤ 320 := by
  have b1 := bX hb (hl i hi)
  have b2 := bX hb (hl _ (nx_lt hi))
  unfold dwX dwY
  omega
theorem lgF_bd {l : List Spt} (hb : bdL l) {h : Nat → Nat} {c i : Nat} (hl : ∀ i, i < c → h i < l.length) (hi : i < c) : 0 ≤ lgF l h c i ∧ lgF l h c i ≤ 640000 := by
  have d := dw_bd hb hl hi
  have mb := mxF_bd (f := wyF l h c i) (B := 320000) (c - 1) (fun j hj2 => alF_bd hb (by omega) (by omega) (hl j (by omega)))
  have a := mxF_ge (wyF l h c i) (c - 1) 0 (by omega)
  have b := mnF_le (wyF l h c i) (c - 1) 0 (by omega)
  unfold lgF
  omega
/-- the least of fractions, the first of them -/
def nwF (u : Nat → Int × Int) : Nat → Nat
  | 0 => 0
  | n + 1 => if sgc (u (n + 1)).1 (u (n + 1)).2 (u (nwF u n)).1 (u (nwF u n)).2 < 0 then n + 1 else nwF u n
theorem nwF_le (u : Nat → Int × Int) : ∀ n, nwF u n ≤ n
  | 0 => Nat.le_refl _
  | n + 1 => by
    have ih := nwF_le u n
    have e : nwF u (n + 1) = if sgc (u (n + 1)).1 (u (n + 1)).2 (u (nwF u n)).1 (u (nwF u n)).2 < 0 then n + 1 else nwF u n := rfl
    rw [e]
    split <;> omega
def stU (l : List Spt) (h : Nat → Nat) (c : Nat) (bx : Bool) (i : Nat) : Int × Int :=
  (if bx = true then hgF l h c i c * lgF l h c i else hgF l h c i c * hgF l h c i c, sqF l h c i)
def uS (l : List Spt) (bx : Bool) (i : Nat) : Int × Int := stU l (hJ l) (hC l) bx i
theorem stU_bd {l : List Spt} (hs : sorL l) (hb : bdL l) (h0 : 0 < l.length) (h2 : 2 ≤ hC l) (bx : Bool) {i : Nat} (hi : i < hC l) :
    0 ≤ (uS l bx i).1 ∧ (uS l bx i).1 ≤ 300000000000 ∧ 0 < (uS l bx i).2 ∧ (uS l bx i).2 ≤ 204800 := by
  have hl : ∀ i, i < hC l → hJ l i < l.length := fun i hi => hJ_lt hs h0 hi
  have a := hgF_bd hb hl hi (hC l) (Nat.le_refl _)
  have b := lgF_bd hb hl hi
  have p := sqF_pos hs h0 h2 hi
  have q := sqF_bd hb hl hi
  have m1 := Int.mul_nonneg a.1 a.1
  have m2 := Int.mul_nonneg a.1 b.1
  have m3 := ab_mul (a := hgF l (hJ l) (hC l) i (hC l)) (b := hgF l (hJ l) (hC l) i (hC l)) (A := 300000) (B := 300000) (by omega) (by omega)
  have m4 := ab_mul (a := hgF l (hJ l) (hC l) i (hC l)) (b := lgF l (hJ l) (hC l) i) (A := 300000) (B := 640000) (by omega) (by omega)
  unfold uS stU
  dsimp only
  cases bx with
  | true => rw [if_pos rfl]; exact ⟨m2, by omega, p, q.2⟩
  | false => rw [if_neg (by decide)]; exact ⟨m1, by omega, p, q.2⟩
def nS (l : List Spt) (bx : Bool) (n : Nat) : Nat := nwF (uS l bx) n
def fU (l : List Spt) (bx : Bool) (i : Nat) : tZ3 := (fN (uS l bx i).1 (uS l bx i).2, fD (uS l bx i).1 (uS l bx i).2)
def stP (l : List Spt) (bx : Bool) (i : Nat) (ah : Int) (f : tZ3) : Prop := 0 < i → ah = (nS l bx (i - 1) : Int) ∧ f = fU l bx (nS l bx (i - 1))
theorem nS_s (l : List Spt) (bx : Bool) (n : Nat) : nS l bx (n + 1) = if sgc (uS l bx (n + 1)).1 (uS l bx (n + 1)).2 (uS l bx (nS l bx n)).1 (uS l bx (nS l bx n)).2 < 0 then n + 1 else nS l bx n := rfl
theorem nS_le (l : List Spt) (bx : Bool) (n : Nat) : nS l bx n ≤ n := nwF_le _ n
theorem stP_take {l : List Spt} {bx : Bool} {i : Nat} (h : i = 0 ∨ sgc (uS l bx i).1 (uS l bx i).2 (uS l bx (nS l bx (i - 1))).1 (uS l bx (nS l bx (i - 1))).2 < 0) : nS l bx i = i := by
  cases i with
  | zero => rfl
  | succ n =>
    rcases h with h | h
    · omega
    · rw [show n + 1 - 1 = n by omega] at h
      rw [nS_s, if_pos h]
theorem stP_keep {l : List Spt} {bx : Bool} {i : Nat} (h0 : 0 < i) (h : ¬ sgc (uS l bx i).1 (uS l bx i).2 (uS l bx (nS l bx (i - 1))).1 (uS l bx (nS l bx (i - 1))).2 < 0) : nS l bx i = nS l bx (i - 1) := by
  cases i with
  | zero => omega
  | succ n =>
    rw [show n + 1 - 1 = n by omega] at h ⊢
    rw [nS_s, if_neg h]
theorem uS_k {l : List Spt} (hs : sorL l) (hb : bdL l) (h0 : 0 < l.length) (h2 : 2 ≤ hC l) (bx : Bool) {i : Nat} (hi : i < hC l) :
    0 ≤ (uS l bx i).1 ∧ k63 (uS l bx i).1 ∧ 0 < (uS l bx i).2 ∧ k63 (uS l bx i).2 := by
  have b := stU_bd hs hb h0 h2 bx hi
  exact ⟨b.1, ⟨by omega, by omega⟩, b.2.2.1, ⟨by omega, by omega⟩⟩
theorem sgc_3 (a b c d : Int) : -1 ≤ sgc a b c d ∧ sgc a b c d ≤ 1 := by
  unfold sgc
  split
  · decide
  · split <;> decide
theorem stJ {l : List Spt} (hs : sorL l) (hb : bdL l) (h0 : 0 < l.length) (h2 : 2 ≤ hC l) {bx : Bool} {i : Nat} (hi : i < hC l) {ah : Int} {f : tZ3} (h : stP l bx i ah f) (hz : 0 < i) :
    q_X3_against f (uS l bx i).1 (uS l bx i).2 = some (-sgc (uS l bx i).1 (uS l bx i).2 (uS l bx (nS l bx (i - 1))).1 (uS l bx (nS l bx (i - 1))).2) := by
  obtain ⟨_, e⟩ := h hz
  have ni := nS_le l bx (i - 1)
  have k1 := uS_k hs hb h0 h2 bx hi
  have k2 := uS_k hs hb h0 h2 bx (i := nS l bx (i - 1)) (by omega)
  rw [e, q_against (k64_63 (fN_k k2.2.2.1 k2.2.1)) (fD_pos k2.2.2.1) (k64_63 (fD_k k2.2.2.1 k2.2.2.2)) (k64_63 k1.2.1) k1.2.2.1 (k64_63 k1.2.2.2)]
  unfold fU
  dsimp only
  rw [sgc_f k2.2.2.1, sgc_swap]
/-- the class's strip -/
theorem q_narrowest {z : tZ5} {l : List Spt} (hs : sorL l) (hb : bdL l) (h0 : 0 < l.length) (h2 : 2 ≤ hC l) (H : OU z l (hJ l) (hC l)) (f0 : tZ3) :
    kwp (q_X5_narrowest z f0) (fun r => r.1 = lP l (hJ l (nS l false (hC l - 1))) ∧ r.2 = fU l false (nS l false (hC l - 1))) := by
  have hc := H.2.1
  have hl : ∀ i, i < hC l → hJ l i < l.length := fun i hi => hJ_lt hs h0 hi
  unfold q_X5_narrowest
  refine w_kb (w_for (ex := 62) (by decide) (fun i (s : Int × Int × tZ3) => s.2.1 = (i : Int) ∧ stP l false i s.1 s.2.2) (hC l) ?_ ?_ (Nat.zero_le _) (by have := kF_eq; omega) ⟨rfl, fun q => by omega⟩) ?_
  · rintro i ⟨ah, t, f⟩ hi ⟨e, g⟩
    dsimp only at e g
    subst e
    have k1 := uS_k hs hb h0 h2 false hi
    have J : nS l false i = i → kwp (q_X5_narrowest_J43_4 z f (i : Int) (uS l false i).1) (fun e => e.1 = 4 ∧ e.2.2.1 = ((i + 1 : Nat) : Int) ∧ stP l false (i + 1) e.2.1 e.2.2.2) := fun q => by
      unfold q_X5_narrowest_J43_4
      rw [q_sideSq hb H hi, show sqF l (hJ l) (hC l) i = (uS l false i).2 from rfl]
      simp only [kwp_kb, kwp_some, kwp_kg, kwp_kif, kwp_kl]
      refine w_of (q_set k1.2.1 k1.2.2.1 k1.2.2.2) ⟨by trivial, by omega, fun _ => ?_⟩
      rw [show i + 1 - 1 = i by omega, q]
      exact ⟨rfl, rfl⟩
    unfold q_X5_narrowest_L4
    rw [H.1, q_height hb H hi]
    simp only [kwp_kb, kwp_some, kwp_kg, kwp_kif, kwp_kl]
    refine ⟨⟨⟨by omega, by omega⟩, ⟨by omega, by omega⟩⟩, fun q => by omega, fun _ => ⟨fun q => J (stP_take (Or.inl (by omega))), fun q => ?_⟩⟩
    rw [q_sideSq hb H hi]
    simp only [kwp_some]
    have sj := stJ hs hb h0 h2 hi g (by omega)
    have sb := sgc_3 (uS l false i).1 (uS l false i).2 (uS l false (nS l false (i - 1))).1 (uS l false (nS l false (i - 1))).2
    refine w_of sj ⟨⟨by omega, by omega⟩, fun q1 => ⟨by trivial, by omega, fun _ => ?_⟩, fun q1 => J (stP_take (Or.inr (by omega)))⟩
    rw [show i + 1 - 1 = i by omega, stP_keep (by omega) (by omega)]
    exact g (by omega)
  · rintro ⟨ah, t, f⟩ ⟨e, g⟩
    dsimp only at e g
    subst e
    unfold q_X5_narrowest_L4
    rw [H.1]
    simp only [kwp_kb, kwp_some, kwp_kg, kwp_kif, kwp_kl]
    exact ⟨⟨⟨by omega, by omega⟩, ⟨by omega, by omega⟩⟩, fun _ => ⟨by trivial, by trivial, g⟩, fun q => by omega⟩
  · rintro ⟨lb, ah, t, f⟩ ⟨g0, _, g⟩
    dsimp only at *
    obtain ⟨g1, g2⟩ := g (by omega)
    have ni := nS_le l false (hC l - 1)
    have a := H.2.2 (nS l false (hC l - 1)) (by omega)
    simp only [kwp_kg, kwp_some, kwp_kb]
    rw [g1, q_on (by rw [H.1]; omega) (by rw [H.1]; omega)]
    simp only [kwp_some]
    exact ⟨g0, a.2.2.2, g2⟩
theorem q_leastBox {z : tZ5} {l : List Spt} (hs : sorL l) (hb : bdL l) (h0 : 0 < l.length) (h2 : 2 ≤ hC l) (H : OU z l (hJ l) (hC l)) (f0 : tZ3) :
    kwp (q_X5_leastBox z f0) (fun r => r.1 = lP l (hJ l (nS l true (hC l - 1))) ∧ r.2 = fU l true (nS l true (hC l - 1))) := by
  have hc := H.2.1
  have hl : ∀ i, i < hC l → hJ l i < l.length := fun i hi => hJ_lt hs h0 hi
  unfold q_X5_leastBox
  refine w_kb (w_for (ex := 86) (by decide) (fun i (s : Int × Int × tZ3) => s.2.1 = (i : Int) ∧ stP l true i s.1 s.2.2) (hC l) ?_ ?_ (Nat.zero_le _) (by have := kF_eq; omega) ⟨rfl, fun q => by omega⟩) ?_
  · rintro i ⟨ah, t, f⟩ hi ⟨e, g⟩
    dsimp only at e g
    subst e
    have k1 := uS_k hs hb h0 h2 true hi
    have dw := dw_bd hb hl hi
    have J : nS l true i = i → kwp (q_X5_leastBox_J67_4 z f (i : Int) (uS l true i).1) (fun e => e.1 = 4 ∧ e.2.2.1 = ((i + 1 : Nat) : Int) ∧ stP l true (i + 1) e.2.1 e.2.2.2) := fun q => by
      unfold q_X5_leastBox_J67_4
      rw [q_sideSq hb H hi, show sqF l (hJ l) (hC l) i = (uS l true i).2 from rfl]
      simp only [kwp_kb, kwp_some, kwp_kg, kwp_kif, kwp_kl]
      refine w_of (q_set k1.2.1 k1.2.2.1 k1.2.2.2) ⟨by trivial, by omega, fun _ => ?_⟩
      rw [show i + 1 - 1 = i by omega, q]
      exact ⟨rfl, rfl⟩
    unfold q_X5_leastBox_L4
    rw [H.1, q_height hb H hi, (q_osideH hb H hi).1, (q_osideH hb H hi).2]
    simp only [kwp_kb, kwp_some, kwp_kg, kwp_kif, kwp_kl]
    refine ⟨⟨⟨by omega, by omega⟩, ⟨by omega, by omega⟩⟩, fun q => by omega, fun _ => w_of (q_most hb H (by omega) (show (dwX l (hJ l) (hC l) i).natAbs ≤ 1000 by omega) (show (dwY l (hJ l) (hC l) i).natAbs ≤ 1000 by omega)) (w_of (q_least hb H (by omega) (show (dwX l (hJ l) (hC l) i).natAbs ≤ 1000 by omega) (show (dwY l (hJ l) (hC l) i).natAbs ≤ 1000 by omega)) ⟨fun q => J (stP_take (Or.inl (by omega))), fun q => ?_⟩)⟩
    rw [q_sideSq hb H hi]
    simp only [kwp_some]
    have sj := stJ hs hb h0 h2 hi g (by omega)
    have sb := sgc_3 (uS l true i).1 (uS l true i).2 (uS l true (nS l true (i - 1))).1 (uS l true (nS l true (i - 1))).2
    refine w_of sj ⟨⟨by omega, by omega⟩, fun q1 => ⟨by trivial, by omega, fun _ => ?_⟩, fun q1 => J (stP_take (Or.inr (by omega)))⟩
    rw [show i + 1 - 1 = i by omega, stP_keep (by omega) (by omega)]
    exact g (by omega)
  · rintro ⟨ah, t, f⟩ ⟨e, g⟩
    dsimp only at e g
    subst e
    unfold q_X5_leastBox_L4
    rw [H.1]
    simp only [kwp_kb, kwp_some, kwp_kg, kwp_kif, kwp_kl]
    exact ⟨⟨⟨by omega, by omega⟩, ⟨by omega, by omega⟩⟩, fun _ => ⟨by trivial, by trivial, g⟩, fun q => by omega⟩
  · rintro ⟨lb, ah, t, f⟩ ⟨g0, _, g⟩
    dsimp only at *
    obtain ⟨g1, g2⟩ := g (by omega)
    have ni := nS_le l true (hC l - 1)
    have a := H.2.2 (nS l true (hC l - 1)) (by omega)
    simp only [kwp_kg, kwp_some, kwp_kb]
    rw [g1, q_on (by rw [H.1]; omega) (by rw [H.1]; omega)]
    simp only [kwp_some]
    exact ⟨g0, a.2.2.2, g2⟩
