/-! ===== ring, the class ===== -/
def ocI (s : (Nat → Int) × Nat) (v : Int) : Prop := ∃ t, t < s.2 ∧ s.1 t = v
theorem pr_cov (l : List Spt) (i : Nat) (s : (Nat → Int) × Nat) : ∀ k, (∀ v, ocI s v → ocI (prF l i s k) v) ∧ ∀ q, q < k → ocI (prF l i s k) (ky l i (i + 1 + q))
  | 0 => ⟨fun _ h => h, fun q hq => absurd hq (Nat.not_lt_zero _)⟩
  | k + 1 => by
    have ih := pr_cov l i s k
    have up : ∀ v, ocI (prF l i s k) v → ocI (prF l i s (k + 1)) v := fun v ⟨t, ht, e⟩ => ⟨t, by show t < (prF l i s k).2 + 1; omega, by show va_up (prF l i s k).1 (prF l i s k).2 _ t = v; rw [va_ne _ _ (by omega)]; exact e⟩
    refine ⟨fun v h => up v (ih.1 v h), fun q hq => ?_⟩
    by_cases e : q = k
    · rw [e]
      exact ⟨(prF l i s k).2, by show (prF l i s k).2 < (prF l i s k).2 + 1; omega, va_same _ _ _⟩
    · exact up _ (ih.2 q (by omega))
theorem pa_cov (l : List Spt) : ∀ n i j, i < n → i < j → j < l.length → ocI (paF l n) (ky l i j)
  | 0, _, _, h, _, _ => absurd h (Nat.not_lt_zero _)
  | n + 1, i, j, hi, hij, hj => by
    have pc := pr_cov l n (paF l n) (l.length - (n + 1))
    have e : paF l (n + 1) = prF l n (paF l n) (l.length - (n + 1)) := rfl
    rw [e]
    by_cases q : i = n
    · subst q
      have := pc.2 (j - (i + 1)) (by omega)
      rw [show i + 1 + (j - (i + 1)) = j by omega] at this
      exact this
    · exact pc.1 _ (pa_cov l n i j (by omega) hij hj)
theorem sq_bdP {l : List Spt} (hb : bdL l) {i : Nat} (hi : i < l.length) : 0 ≤ sqP l i ∧ sqP l i ≤ 51200 := by
  have b := bX hb hi
  have m1 := ab_mul (a := lX l i) (b := lX l i) (A := 160) (B := 160) b.1 b.1
  have m2 := ab_mul (a := lY l i) (b := lY l i) (A := 160) (B := 160) b.2 b.2
  have p1 := sq_nn2 (lX l i)
  have p2 := sq_nn2 (lY l i)
  unfold sqP
  omega
theorem df_bd {a b : Int} (ha : a.natAbs ≤ 160) (hb : b.natAbs ≤ 160) : (a - b).natAbs ≤ 320 := by omega
theorem crs_bd {l : List Spt} (hb : bdL l) {i j k m : Nat} (hi : i < l.length) (hj : j < l.length) (hk : k < l.length) (hm : m < l.length) : (crs l i j k m).natAbs ≤ 204800 := by
  have bi := bX hb hi
  have bj := bX hb hj
  have bk := bX hb hk
  have bm := bX hb hm
  have m1 := ab_mul (df_bd bj.1 bi.1) (df_bd bm.2 bk.2)
  have m2 := ab_mul (df_bd bj.2 bi.2) (df_bd bm.1 bk.1)
  unfold crs
  clear bi bj bk bm
  omega
def bdR (C : Ctr) : Prop := 0 < C.1 ∧ C.1 ≤ 409600 ∧ C.2.1.natAbs ≤ 32768000 ∧ C.2.2.natAbs ≤ 32768000
theorem wy_bd {a b c d g : Int} (ha : a.natAbs ≤ 51200) (hb : b.natAbs ≤ 320) (hc : c.natAbs ≤ 51200) (hd : d.natAbs ≤ 320) (hg : g.natAbs ≤ 1) : ((g * a) * b - (g * c) * d).natAbs ≤ 32768000 ∧ (d * (g * c) - b * (g * a)).natAbs ≤ 32768000 := by
  have g1 := ab_mul hg ha
  have g2 := ab_mul hg hc
  have m1 := ab_mul g1 hb
  have m2 := ab_mul g2 hd
  have m3 := ab_mul hd g2
  have m4 := ab_mul hb g1
  clear ha hb hc hd hg g1 g2
  omega
theorem ctr_bd {l : List Spt} (hb : bdL l) {i j k m : Nat} (hi : i < l.length) (hj : j < l.length) (hk : k < l.length) (hm : m < l.length) (h : crs l i j k m ≠ 0) : bdR (ctr l i j k m) := by
  have bi := bX hb hi
  have bj := bX hb hj
  have bk := bX hb hk
  have bm := bX hb hm
  have si := sq_bdP hb hi
  have sj := sq_bdP hb hj
  have sk := sq_bdP hb hk
  have sm := sq_bdP hb hm
  have cb := crs_bd hb hi hj hk hm
  have sg1 := sg_bd (crs l i j k m)
  have d1 : (sqP l j - sqP l i).natAbs ≤ 51200 := by omega
  have d2 : (sqP l m - sqP l k).natAbs ≤ 51200 := by omega
  have w1 := wy_bd d1 (df_bd bm.2 bk.2) d2 (df_bd bj.2 bi.2) sg1
  have w2 := wy_bd d1 (df_bd bm.1 bk.1) d2 (df_bd bj.1 bi.1) sg1
  refine ⟨ctr_pos h, ?_, w1.1, w2.2⟩
  have m1 := ab_mul sg1 cb
  show 2 * sg (crs l i j k m) * crs l i j k m ≤ 409600
  rw [Int.mul_assoc]
  clear bi bj bk bm si sj sk sm d1 d2 w1 w2 sg1 cb
  omega
theorem ax_bd {x s t : Int} (hx : x.natAbs ≤ 160) (hs : 0 < s ∧ s ≤ 409600) (ht : t.natAbs ≤ 32768000) : (x * s - t).natAbs ≤ 98304000 := by
  have m := ab_mul (a := x) (b := s) (A := 160) (B := 409600) hx (by omega)
  omega
theorem far_bd {l : List Spt} (hb : bdL l) {C : Ctr} (hC : bdR C) {i : Nat} (hi : i < l.length) : 0 ≤ farC l C i ∧ farC l C i ≤ 20000000000000000 := by
  have b := bX hb hi
  have a1 := ax_bd b.1 ⟨hC.1, hC.2.1⟩ hC.2.2.1
  have a2 := ax_bd b.2 ⟨hC.1, hC.2.1⟩ hC.2.2.2
  have m1 := ab_mul a1 a1
  have m2 := ab_mul a2 a2
  have p1 := sq_nn2 (lX l i * C.1 - C.2.1)
  have p2 := sq_nn2 (lY l i * C.1 - C.2.2)
  unfold farC
  clear b a1 a2
  omega
theorem mnF_in (f : Nat → Int) {P : Int → Prop} : ∀ n, (∀ i, i ≤ n → P (f i)) → P (mnF f n) ∧ P (mxF f n)
  | 0, h => ⟨h 0 (Nat.le_refl _), h 0 (Nat.le_refl _)⟩
  | n + 1, h => by
    have ih := mnF_in f n (fun i hi => h i (by omega))
    have a := h (n + 1) (Nat.le_refl _)
    have e1 : mnF f (n + 1) = min (mnF f n) (f (n + 1)) := rfl
    have e2 : mxF f (n + 1) = max (mxF f n) (f (n + 1)) := rfl
    rw [e1, e2]
    constructor
    · by_cases q : mnF f n ≤ f (n + 1)
      · rw [show min (mnF f n) (f (n + 1)) = mnF f n by omega]
        exact ih.1
      · rw [show min (mnF f n) (f (n + 1)) = f (n + 1) by omega]
        exact a
    · by_cases q : mxF f n ≤ f (n + 1)
      · rw [show max (mxF f n) (f (n + 1)) = f (n + 1) by omega]
        exact a
      · rw [show max (mxF f n) (f (n + 1)) = mxF f n by omega]
        exact ih.2
theorem io_bd {l : List Spt} (hb : bdL l) (h0 : 0 < l.length) {C : Ctr} (hC : bdR C) : 0 ≤ inC l C ∧ inC l C ≤ 20000000000000000 ∧ 0 ≤ ouC l C ∧ ouC l C ≤ 20000000000000000 ∧ inC l C ≤ ouC l C := by
  have a := mnF_in (farC l C) (P := fun v => 0 ≤ v ∧ v ≤ 20000000000000000) (l.length - 1) (fun i hi => far_bd hb hC (by omega))
  have b := mxF_ge (farC l C) (l.length - 1) 0 (Nat.zero_le _)
  have c := mnF_le (farC l C) (l.length - 1) 0 (Nat.zero_le _)
  unfold inC ouC
  omega
theorem bdR_k {C : Ctr} (hC : bdR C) : k63 C.1 ∧ k63 (C.1 * C.1) ∧ 0 < C.1 * C.1 ∧ k63 C.2.1 ∧ k63 C.2.2 := by
  have m := ab_mul (a := C.1) (b := C.1) (A := 409600) (B := 409600) (by have := hC.1; have := hC.2.1; omega) (by have := hC.1; have := hC.2.1; omega)
  have p := Int.mul_pos hC.1 hC.1
  have h1 := hC.1
  have h2 := hC.2.1
  have h3 := hC.2.2.1
  have h4 := hC.2.2.2
  exact ⟨⟨by omega, by omega⟩, ⟨by omega, by omega⟩, p, ⟨by omega, by omega⟩, ⟨by omega, by omega⟩⟩
theorem sg_gap {l : List Spt} {C D : Ctr} (hC : 0 < C.1) (hD : 0 < D.1) : sgc (ouC l C - inC l C) (C.1 * C.1) (ouC l D - inC l D) (D.1 * D.1) = sgc (gpC l C) C.1 (gpC l D) D.1 := by
  have a := (in_lo l hC).2
  have b := (in_lo l hD).2
  have p := Int.mul_pos hC hD
  generalize ouC l C - inC l C = x at *
  generalize ouC l D - inC l D = y at *
  generalize gpC l C = g at *
  generalize gpC l D = h at *
  have e1 : 2 * (x * (D.1 * D.1)) = (C.1 * D.1) * (g * D.1) := by grind
  have e2 : 2 * (y * (C.1 * C.1)) = (C.1 * D.1) * (h * C.1) := by grind
  unfold sgc
  by_cases q1 : g * D.1 < h * C.1
  · have := Int.mul_lt_mul_of_pos_left q1 p
    rw [if_pos (by omega), if_pos q1]
  · by_cases q2 : g * D.1 = h * C.1
    · rw [q2] at e1
      rw [if_neg (by omega), if_pos (by omega), if_neg q1, if_pos q2]
    · have := Int.mul_lt_mul_of_pos_left (show h * C.1 < g * D.1 by omega) p
      rw [if_neg (by omega), if_neg (by omega), if_neg q1, if_neg q2]
def TR7 (z : tZ7) (C : Ctr) : tZ7 := (z.1, z.2.1, z.2.2.1, z.2.2.2.1, z.2.2.2.2.1, C.1, C.2.1, C.2.2, z.2.2.2.2.2.2.2.2.1, z.2.2.2.2.2.2.2.2.2)
def MS7 (z : tZ7) (l : List Spt) (C : Ctr) : tZ7 := (z.1, z.2.1, z.2.2.1, z.2.2.2.1, z.2.2.2.2.1, C.1, C.2.1, C.2.2, inC l C, ouC l C)
def KP7 (l : List Spt) (C : Ctr) : tZ7 := (C.1, C.2.1, C.2.2, inC l C, ouC l C, C.1, C.2.1, C.2.2, inC l C, ouC l C)
theorem q_cross {z : tZ7} {z8 : tZ8} {z1 : tZ1} {l : List Spt} (H : SPc z8 l) (hb : bdL l) (hl : l.length ≤ 40) {a b : Int} {i j k m : Nat} (hi : i < l.length) (hj : j < l.length) (hk : k < l.length) (hm : m < l.length) (ha : q_X1_packedAt z1 a = some (ky l i j)) (hb2 : q_X1_packedAt z1 b = some (ky l k m)) :
    q_X7_cross z z8 z1 a b = some (if crs l i j k m = 0 then (false, z) else (true, TR7 z (ctr l i j k m))) := by
  refine w_eq ?_
  have bi := bX hb hi
  have bj := bX hb hj
  have bk := bX hb hk
  have bm := bX hb hm
  have u1 := ky_un (d := (ds (lX l) (lY l) i j).toNat) (i := i) (j := j) (by have := ds_bd hb hi hj; omega) (by omega) (by omega)
  have u2 := ky_un (d := (ds (lX l) (lY l) k m).toNat) (i := k) (j := m) (by have := ds_bd hb hk hm; omega) (by omega) (by omega)
  have cb := crs_bd hb hi hj hk hm
  have kd : ∀ {x y : Int}, x.natAbs ≤ 160 → y.natAbs ≤ 160 → k32 (x - y) := fun h1 h2 => kdif h1 h2
  have ksq : ∀ p, p < l.length → q_X7_square z8 (p : Int) = some (sqP l p) := fun p hp => by
    refine w_eq ?_
    have s := sq_bdP hb hp
    have e : sqP l p = lX l p * lX l p + lY l p * lY l p := rfl
    unfold q_X7_square
    rw [q_sx H hp, q_sy H hp]
    simp only [kwp_kb, kwp_some, kwp_kg, kwp_kif, kwp_kl]
    rw [← e]
    exact ⟨⟨by omega, by omega⟩, (by first | exact trivial | rfl)⟩
  unfold q_X7_cross q_X1_first q_X1_second
  rw [ha, hb2]
  simp only [kwp_kb, kwp_some, kwp_kg, kwp_kif, kwp_kl]
  rw [show ky l i j = (kyN (ds (lX l) (lY l) i j).toNat i j : Int) from rfl, show ky l k m = (kyN (ds (lX l) (lY l) k m).toNat k m : Int) from rfl, u1.2.1, u1.2.2, u2.2.1, u2.2.2, q_sx H hj, kwp_some, q_sx H hi, kwp_some]
  refine ⟨kd bj.1 bi.1, ?_⟩
  rw [q_sy H hj, kwp_some, q_sy H hi, kwp_some]
  refine ⟨kd bj.2 bi.2, ?_⟩
  rw [q_sx H hm, kwp_some, q_sx H hk, kwp_some]
  refine ⟨kd bm.1 bk.1, ?_⟩
  rw [q_sy H hm, kwp_some, q_sy H hk, kwp_some]
  refine ⟨kd bm.2 bk.2, ?_⟩
  have ec : (lX l j - lX l i) * (lY l m - lY l k) - (lY l j - lY l i) * (lX l m - lX l k) = crs l i j k m := rfl
  rw [ec]
  refine ⟨k64_nat cb (by decide), fun q => ?_, fun q => ⟨fun q1 => ?_, fun q1 => ?_⟩⟩
  · rw [if_pos q]
  · unfold q_X7_cross_J130
    rw [ksq j hj, ksq i hi, ksq m hm, ksq k hk]
    simp only [kwp_kb, kwp_some, kwp_kg, kwp_kif, kwp_kl]
    rw [if_neg q]
    unfold TR7 ctr
    rw [show sg (crs l i j k m) = 1 from if_neg (by omega)]
  · unfold q_X7_cross_J130
    rw [ksq j hj, ksq i hi, ksq m hm, ksq k hk]
    simp only [kwp_kb, kwp_some, kwp_kg, kwp_kif, kwp_kl]
    rw [if_neg q]
    unfold TR7 ctr
    rw [show sg (crs l i j k m) = -1 from if_pos (by omega)]
theorem q_measureR {z : tZ7} {z8 : tZ8} {l : List Spt} (H : SPc z8 l) (hb : bdL l) (h0 : 0 < l.length) {C : Ctr} (hC : bdR C) : q_X7_measure (TR7 z C) z8 = some (MS7 z l C) := by
  refine w_eq ?_
  have hl := H.2.1
  have kf : ∀ i, i < l.length → k64 (farC l C i) := fun i hi => by
    have := far_bd hb hC hi
    exact ⟨by omega, by omega⟩
  have km : ∀ n, n < l.length → k64 (mnF (farC l C) n) ∧ k64 (mxF (farC l C) n) := fun n hn => mnF_in (farC l C) (P := k64) n (fun i hi => kf i (by omega))
  unfold q_X7_measure
  simp only [kwp_kb]
  refine w_mono (w_for (ex := 106) (by decide) (fun i (s : Int × tZ7) => s.1 = (i : Int) ∧ ∃ p q, s.2 = (z.1, z.2.1, z.2.2.1, z.2.2.2.1, z.2.2.2.2.1, C.1, C.2.1, C.2.2, p, q) ∧ (0 < i → p = mnF (farC l C) (i - 1) ∧ q = mxF (farC l C) (i - 1))) l.length ?_ ?_ (Nat.zero_le _) (by have := kF_eq; omega) ⟨rfl, _, _, rfl, fun q => absurd q (Nat.lt_irrefl _)⟩) ?_
  · rintro i ⟨x, w⟩ hi ⟨g1, p, q, g2, g3⟩
    dsimp only at g1 g2
    subst g1 g2
    have b := bX hb hi
    have e : (lX l i * C.1 - C.2.1) * (lX l i * C.1 - C.2.1) + (lY l i * C.1 - C.2.2) * (lY l i * C.1 - C.2.2) = farC l C i := rfl
    unfold q_X7_measure_L2
    dsimp only
    rw [q_sc H]
    simp only [kwp_kb, kwp_some, kwp_kg, kwp_kif, kwp_kl]
    rw [q_sx H hi, kwp_some, q_sy H hi, kwp_some, e]
    refine ⟨⟨⟨by omega, by omega⟩, ⟨by omega, by omega⟩⟩, fun q => by omega, fun _ => ⟨⟨by omega, by omega⟩, ⟨by omega, by omega⟩, fun z0 => ?_, fun z0 => ?_⟩⟩
    · have zi : i = 0 := by omega
      subst zi
      unfold q_X7_measure_J75_2
      simp only [kwp_kb, kwp_some, kwp_kg, kwp_kif, kwp_kl]
      exact ⟨by decide, fun _ => ⟨by trivial, by omega, _, _, by trivial, fun _ => ⟨rfl, rfl⟩⟩, fun w => absurd rfl w⟩
    · obtain ⟨c1, c2⟩ := g3 (by omega)
      obtain ⟨u, rfl⟩ : ∃ u, i = u + 1 := ⟨i - 1, by omega⟩
      rw [show u + 1 - 1 = u by omega] at c1 c2
      have k1 := km u (by omega)
      rw [c1, q_min64 k1.1 (kf _ hi), kwp_some]
      unfold q_X7_measure_J75_2
      simp only [kwp_kb, kwp_some, kwp_kg, kwp_kif, kwp_kl]
      refine ⟨⟨by omega, by omega⟩, fun w => by omega, fun _ => ?_⟩
      rw [c2, q_max64 k1.2 (kf _ hi), kwp_some]
      exact ⟨by trivial, by omega, _, _, by trivial, fun _ => ⟨rfl, rfl⟩⟩
  · rintro ⟨x, w⟩ ⟨g1, p, q, g2, g3⟩
    dsimp only at g1 g2
    subst g1 g2
    unfold q_X7_measure_L2
    dsimp only
    rw [q_sc H]
    simp only [kwp_kb, kwp_some, kwp_kg, kwp_kif, kwp_kl]
    exact ⟨⟨⟨by omega, by omega⟩, ⟨by omega, by omega⟩⟩, fun _ => ⟨by trivial, by trivial, p, q, by trivial, g3⟩, fun q => by omega⟩
  · rintro ⟨lb, x, w⟩ ⟨g0, _, p, q, g2, g3⟩
    dsimp only at g0 g2 ⊢
    subst g2
    obtain ⟨c1, c2⟩ := g3 h0
    simp only [kwp_kg, kwp_some]
    refine ⟨g0, ?_⟩
    rw [c1, c2]
    rfl
