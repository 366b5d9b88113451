/-! ===== the class's discs by their size ===== -/
def dN (l : List Spt) : Nat := (d1F l l.length).2
def dC (l : List Spt) : Nat → Cir := (d1F l l.length).1
theorem isD_bd {l : List Spt} (hb : bdL l) {n : Nat} (hn : n ≤ l.length) {C : Cir} (h : isD l n C) : bdC C := by
  obtain ⟨i, hi, e | ⟨p, hp, e | ⟨q, hq, ht, e⟩⟩⟩ := h
  · have := bdC_z (BC_1 hb (show i < l.length by omega) (fun _ => 0, 0, fun _ => 0, 0))
    rw [e]
    exact this
  · have := bdC_z (BC_2 hb (show i < l.length by omega) (show p < l.length by omega) (fun _ => 0, 0, fun _ => 0, 0))
    rw [e]
    exact this
  · have := bdC_z (BC_3 hb (show i < l.length by omega) (show p < l.length by omega) (show q < l.length by omega) ht (fun _ => 0, 0, fun _ => 0, 0))
    rw [e]
    exact this
theorem dC_D {l : List Spt} {t : Nat} (ht : t < dN l) : isD l l.length (dC l t) := (oc_d1 l.length).mp ⟨t, ht, rfl⟩
theorem dC_bd {l : List Spt} (hb : bdL l) {t : Nat} (ht : t < dN l) : bdC (dC l t) := isD_bd hb (Nat.le_refl _) (dC_D ht)
theorem dN_le {l : List Spt} (hl : l.length ≤ 12) : dN l ≤ 298 := by
  have a := d1_n l l.length
  have b := (b_all ⟨l.length, by omega⟩).1
  dsimp only at b
  unfold dN
  omega
def sgR (C D : Cir) : Int := sgc (rN C) (C.2.2.2 * C.2.2.2) (rN D) (D.2.2.2 * D.2.2.2)
theorem sgR_le (C D : Cir) : sgR C D ≤ 0 ↔ leR C D := by
  unfold sgR sgc
  split
  · omega
  · split <;> omega
theorem sgR_0 (C D : Cir) : sgR C D = 0 ↔ leR C D ∧ leR D C := by
  unfold sgR sgc
  split
  · omega
  · split <;> omega
theorem sgR_k (C D : Cir) : k32 (sgR C D) := sgc_k _ _ _ _
theorem sgR_C {C D : Cir} (hC : 0 < C.2.2.2) (hD : 0 < D.2.2.2) : sgC C D = sgR C D := by
  unfold sgC szN szD sgR
  rw [sgc_f (Int.mul_pos hC hC), sgc_f2 (Int.mul_pos hD hD)]
def DZ (z : tZ2) (l : List Spt) : Prop := z.2.2.2.2.1 = (dN l : Int) ∧ ∀ t, t < dN l → z.1 t = rN (dC l t) ∧ z.2.1 t = (dC l t).2.2.2 * (dC l t).2.2.2 ∧ z.2.2.1 t = (inF l (dC l t) l.length : Int)
theorem q_discAt {z : tZ2} {l : List Spt} (h : DZ z l) (hl : l.length ≤ 12) {p : Nat} (hp : p < dN l) : q_X2_discAt z (p : Int) = some (z.2.2.2.1 p) := by
  refine w_eq ?_
  have := dN_le hl
  unfold q_X2_discAt
  rw [h.1]
  simp only [kwp_kg, kwp_kif, kwp_some]
  rw [Int.toNat_natCast]
  exact ⟨⟨by omega, by omega⟩, fun q => by omega, fun _ => ⟨⟨by omega, by omega⟩, fun q => by omega, fun _ => ⟨⟨by omega, by omega⟩, rfl⟩⟩⟩
theorem q_bitsOfD {z : tZ2} {l : List Spt} (h : DZ z l) (hl : l.length ≤ 12) {p : Nat} (hp : p < dN l) : q_X2_bitsOf z (p : Int) = some (inF l (dC l p) l.length : Int) := by
  refine w_eq ?_
  have := dN_le hl
  unfold q_X2_bitsOf
  rw [h.1]
  simp only [kwp_kg, kwp_kif, kwp_some]
  rw [Int.toNat_natCast]
  exact ⟨⟨by omega, by omega⟩, fun q => by omega, fun _ => ⟨⟨by omega, by omega⟩, fun q => by omega, fun _ => ⟨⟨by omega, by omega⟩, (h.2 p hp).2.2⟩⟩⟩
theorem q_sizeOrd {z : tZ2} {l : List Spt} (h : DZ z l) (hb : bdL l) (hl : l.length ≤ 12) {p q : Nat} (hp : p < dN l) (hq : q < dN l) : q_X2_sizeOrder z (p : Int) (q : Int) = some (sgR (dC l p) (dC l q)) := by
  refine w_eq ?_
  have := dN_le hl
  have a := bdC_k (dC_bd hb hp)
  have b := bdC_k (dC_bd hb hq)
  unfold q_X2_sizeOrder
  simp only [kwp_kg, kwp_kif, kwp_some, kwp_kb]
  rw [Int.toNat_natCast, Int.toNat_natCast, (h.2 p hp).1, (h.2 p hp).2.1, (h.2 q hq).1, (h.2 q hq).2.1]
  exact ⟨⟨by omega, by omega⟩, fun q => by omega, fun _ => ⟨fun q => by omega, fun _ => ⟨⟨by omega, by omega⟩, fun q => by omega, fun _ => ⟨fun _ => ⟨⟨by omega, by omega⟩, ⟨by omega, by omega⟩, w_of (q_compare (k64_63 a.2.2.1) a.2.2.2.1 (k64_63 a.2.2.2.2.1) (k64_63 b.2.2.1) b.2.2.2.1 (k64_63 b.2.2.2.2.1)) rfl⟩, fun q => by omega⟩⟩⟩⟩
theorem q_tellD {z : tZ2} {l : List Spt} (h : DZ z l) (hb : bdL l) (hl : l.length ≤ 12) {p : Nat} (hp : p < dN l) (f : tZ3) : q_X2_tellSize z f (p : Int) = some (szN (dC l p), szD (dC l p)) := by
  refine w_eq ?_
  have := dN_le hl
  have a := bdC_k (dC_bd hb hp)
  unfold q_X2_tellSize
  rw [h.1]
  simp only [kwp_kg, kwp_kif, kwp_some, kwp_kb]
  rw [Int.toNat_natCast, (h.2 p hp).1, (h.2 p hp).2.1]
  exact ⟨⟨by omega, by omega⟩, fun q => by omega, fun _ => ⟨⟨by omega, by omega⟩, fun q => by omega, fun _ => ⟨⟨by omega, by omega⟩, w_of (q_set a.2.2.1 a.2.2.2.1 a.2.2.2.2.1) rfl⟩⟩⟩
def RK (l : List Spt) (f : Nat → Int) (p : Nat) : Int := (rkF (dC l) (dN l) (f p).toNat : Int)
theorem RK_up (l : List Spt) (f : Nat → Int) (k : Nat) (v : Int) : RK l (va_up f k v) = va_up (RK l f) k (rkF (dC l) (dN l) v.toNat : Int) := by
  funext a
  unfold RK
  by_cases e : a = k
  · rw [e, va_same, va_same]
  · rw [va_ne _ _ e, va_ne _ _ e]
theorem rk_leD {l : List Spt} (hb : bdL l) {a b : Nat} (ha : a < dN l) (hb2 : b < dN l) : (rkF (dC l) (dN l) a : Int) ≤ (rkF (dC l) (dN l) b : Int) ↔ sgR (dC l a) (dC l b) ≤ 0 := by
  rw [sgR_le, ← rk_le (fun u hu => (bdC_k (dC_bd hb hu)).1) ha hb2]
  omega
theorem q_sinkD {ab be wi f : Nat → Int} {n al : Int} {l : List Spt} (h : DZ (ab, be, wi, f, n, al) l) (hb : bdL l) (hl : l.length ≤ 12) (hf : PM (dN l) f idF) {from_ gap : Nat} (hg : 1 ≤ gap) (hgf : gap ≤ from_) (hfn : from_ < dN l) :
    kwp (q_X2_sink (ab, be, wi, f, n, al) (from_ : Int) (gap : Int)) (fun z' => ∃ f', z' = (ab, be, wi, f', n, al) ∧ PM (dN l) f' f ∧ (gap = 1 → SO (RK l f) from_ → SO (RK l f') (from_ + 1))) := by
  have dn := dN_le hl
  have hn : n = (dN l : Int) := h.1
  have DZ' : ∀ g, DZ (ab, be, wi, g, n, al) l := fun g => ⟨h.1, h.2⟩
  have kf := PM_all (P := fun v => ∃ p : Nat, v = (p : Int) ∧ p < dN l) hf (fun t ht => ⟨t, rfl, ht⟩)
  obtain ⟨v, ev, hv⟩ := kf from_ hfn
  unfold q_X2_sink
  simp only [kwp_kb, kwp_some, kwp_kg, kwp_kif, kwp_kl]
  rw [q_discAt (DZ' f) hl hfn]
  simp only [kwp_some]
  rw [ev, hn]
  refine ⟨⟨by omega, by omega⟩, fun q => by omega, fun _ => ⟨⟨by omega, by omega⟩, fun q => by omega, fun _ => ⟨⟨by omega, by omega⟩, fun _ => ?_, fun q => by omega⟩⟩⟩
  rw [← hn]
  refine w_mono (w_loop (fun m (s : Int × tZ2) => ∃ a : Nat, a = m ∧ s.1 = (a : Int) ∧ a ≤ from_ ∧ ∃ g, s.2 = (ab, be, wi, g, n, al) ∧ PM (dN l) (va_up g a (v : Int)) f ∧ (gap = 1 → SO (RK l f) from_ → InsI (RK l g) (rkF (dC l) (dN l) v : Int) a from_))
    (Q := fun e => e.1 = 75 ∧ ∃ a : Nat, e.2.1 = (a : Int) ∧ a ≤ from_ ∧ ∃ g, e.2.2 = (ab, be, wi, g, n, al) ∧ PM (dN l) (va_up g a (v : Int)) f ∧ (gap = 1 → SO (RK l f) from_ → SO (RK l (va_up g a (v : Int))) (from_ + 1))) ?_ kF from_ _ (by have := kF_eq; omega) ⟨from_, rfl, rfl, Nat.le_refl _, f, rfl, PM_same (fun i _ => ?_), fun _ so => Ins_start so⟩) ?_
  · rintro m ⟨t, w⟩ ⟨a, rfl, g1, g2, g, g3, g4, g5⟩
    dsimp only at g1 g3
    subst g1 g3
    unfold q_X2_sink_L28
    dsimp only
    simp only [kwp_kb, kwp_some, kwp_kg, kwp_kif, kwp_kl]
    refine ⟨⟨⟨by omega, by omega⟩, ⟨by omega, by omega⟩⟩, fun q => Or.inr ⟨by decide, by trivial, a, by trivial, g2, g, by trivial, g4, fun e so => ?_⟩, fun q => ?_⟩
    · rw [RK_up, Int.toNat_natCast]
      exact Ins_end (g5 e so) (Or.inl (by omega))
    · obtain ⟨b, hb2⟩ : ∃ b : Nat, a = b + gap := ⟨a - gap, by omega⟩
      subst hb2
      obtain ⟨p, ep, hp⟩ := PM_all (P := fun v => ∃ p : Nat, v = (p : Int) ∧ p < dN l) g4 kf b (by omega)
      rw [va_ne _ _ (by omega)] at ep
      have rb : RK l g b = (rkF (dC l) (dN l) p : Int) := by
        unfold RK
        rw [ep, Int.toNat_natCast]
      have rl := rk_leD hb hp hv
      rw [show ((b + gap : Nat) : Int) - (gap : Int) = (b : Int) by omega, q_discAt (DZ' g) hl (show b < dN l by omega), kwp_some, Int.toNat_natCast, Int.toNat_natCast]
      dsimp only
      rw [ep, q_sizeOrd (DZ' g) hb hl hp hv, kwp_some]
      refine ⟨sgR_k _ _, fun q1 => Or.inr ⟨by decide, by trivial, b + gap, by trivial, g2, g, by trivial, g4, fun e so => ?_⟩, fun q1 => ⟨⟨by omega, by omega⟩, ⟨by omega, by omega⟩, Or.inl ⟨by trivial, b, by omega, b, rfl, by trivial, by omega, va_up g (b + gap) (g b), by rw [ep], PM_trans (PM_hole (by omega) (by omega) (by omega)) g4, fun e so => ?_⟩⟩⟩
      · rw [RK_up, Int.toNat_natCast]
        refine Ins_end (g5 e so) (Or.inr ?_)
        rw [show b + gap - 1 = b by omega, rb]
        exact rl.mpr q1
      · subst e
        rw [RK_up]
        have := g5 rfl so
        have st := Ins_step this g2 (by
          rw [rb]
          have : ¬ (rkF (dC l) (dN l) p : Int) ≤ (rkF (dC l) (dN l) v : Int) := fun w => q1 (rl.mp w)
          omega)
        exact st
  · by_cases e : i = from_
    · rw [e, va_same, ev]
    · exact va_ne _ _ e
  · rintro ⟨lb, t, w⟩ ⟨g0, a, g1, g2, g, g3, g4, g5⟩
    dsimp only at g0 g1 g3 ⊢
    subst g1 g3
    dsimp only
    rw [Int.toNat_natCast]
    exact ⟨g0, ⟨by omega, by omega⟩, va_up g a (v : Int), by trivial, g4, g5⟩
theorem q_sortD {ab be wi f : Nat → Int} {n al : Int} {l : List Spt} (h : DZ (ab, be, wi, f, n, al) l) (hb : bdL l) (hl : l.length ≤ 12) (hf : PM (dN l) f idF) {z8 : tZ8} {z0 : tZ0} :
    kwp (kitr 122 (fun q => q_X2_about_L122 z8 z0 q) kF (((dN l / 2 : Nat) : Int), (ab, be, wi, f, n, al))) (fun e => e.1 = 155 ∧ ∃ f', e.2.2 = (ab, be, wi, f', n, al) ∧ PM (dN l) f' idF ∧ SO (RK l f') (dN l)) := by
  have dn := dN_le hl
  have hn : n = (dN l : Int) := h.1
  have DZ' : ∀ g, DZ (ab, be, wi, g, n, al) l := fun g => ⟨h.1, h.2⟩
  refine w_loop (fun m (s : Int × tZ2) => ∃ g : Nat, g = m ∧ s.1 = (g : Int) ∧ 2 * g ≤ dN l ∧ ∃ f', s.2 = (ab, be, wi, f', n, al) ∧ PM (dN l) f' idF ∧ (g = 0 → SO (RK l f') (dN l))) (Q := fun e => e.1 = 155 ∧ ∃ f', e.2.2 = (ab, be, wi, f', n, al) ∧ PM (dN l) f' idF ∧ SO (RK l f') (dN l)) ?_ kF (dN l / 2) _ (by have := kF_eq; omega) ⟨dN l / 2, rfl, rfl, by omega, f, rfl, hf, fun q i j hij hj => by omega⟩
  rintro m ⟨t, w⟩ ⟨g, rfl, g1, g2, f1, g3, g4, g5⟩
  dsimp only at g1 g3
  subst g1 g3
  unfold q_X2_about_L122
  dsimp only
  simp only [kwp_kb, kwp_some, kwp_kg, kwp_kif, kwp_kl]
  refine ⟨⟨by omega, by omega⟩, fun q => Or.inr ⟨by decide, by trivial, f1, by trivial, g4, g5 (by omega)⟩, fun q => w_mono (w_for (ex := 148) (by decide) (fun k (s : Int × tZ2) => s.1 = (k : Int) ∧ g ≤ k ∧ ∃ f', s.2 = (ab, be, wi, f', n, al) ∧ PM (dN l) f' idF ∧ (g = 1 → SO (RK l f') k)) (dN l) ?_ ?_ (show g ≤ dN l by omega) (by have := kF_eq; omega) ⟨rfl, Nat.le_refl _, f1, rfl, g4, fun e i j hij hj => by omega⟩) ?_⟩
  · rintro k ⟨t, y⟩ hk2 ⟨p1, p2, f2, p3, p4, p5⟩
    dsimp only at p1 p3
    subst p1 p3
    unfold q_X2_about_L128
    dsimp only
    rw [hn]
    simp only [kwp_kb, kwp_some, kwp_kg, kwp_kif, kwp_kl]
    rw [← hn]
    exact ⟨⟨⟨by omega, by omega⟩, ⟨by omega, by omega⟩⟩, fun q => by omega, fun _ => w_mono (q_sinkD (DZ' f2) hb hl p4 (by omega) p2 hk2) (fun z' h' => by
      obtain ⟨f3, e1, e2, e3⟩ := h'
      exact ⟨by trivial, by omega, by omega, f3, e1, PM_trans e2 p4, fun e => e3 e (p5 e)⟩)⟩
  · rintro ⟨t, y⟩ ⟨p1, p2, f2, p3, p4, p5⟩
    dsimp only at p1 p3
    subst p1 p3
    unfold q_X2_about_L128
    dsimp only
    rw [hn]
    simp only [kwp_kb, kwp_some, kwp_kg, kwp_kif, kwp_kl]
    exact ⟨⟨⟨by omega, by omega⟩, ⟨by omega, by omega⟩⟩, fun _ => ⟨by trivial, by trivial, p2, f2, by trivial, p4, p5⟩, fun q => by omega⟩
  · rintro ⟨lb, t, y⟩ ⟨p0, _, p2, f2, p3, p4, p5⟩
    dsimp only at p0 p3 ⊢
    subst p3
    rw [Int.tdiv_eq_ediv_of_nonneg (by omega)]
    exact ⟨p0, Or.inl ⟨by trivial, g / 2, by omega, g / 2, rfl, by omega, by omega, f2, by trivial, p4, fun e => p5 (by omega)⟩⟩
/-- the discs laid and sorted -/
def DQ (z : tZ2) (l : List Spt) : Prop := DZ z l ∧ PM (dN l) z.2.2.2.1 idF ∧ SO (RK l z.2.2.2.1) (dN l) ∧ z.2.2.2.2.2 = ((2 ^ l.length - 1 : Nat) : Int)
theorem all_T : ∀ n : Fin 13, zshl32 1 (zand32 (n.val : Int) 31) - 1 = ((2 ^ n.val - 1 : Nat) : Int) := by decide +kernel
theorem q_aboutD {z : tZ2} {z0 : tZ0} {z8 : tZ8} {l : List Spt} (H : SPc z8 l) (hb : bdL l) (hl : l.length ≤ 12) : kwp (q_X2_about z z0 z8) (fun r => DQ r.1 l) := by
  have dn := dN_le hl
  unfold q_X2_about
  rw [q_sc H]
  simp only [kwp_kb, kwp_some, kwp_kg, kwp_kif, kwp_kl]
  rw [q_min32 ⟨by omega, by omega⟩ (by decide), kwp_some, show min (l.length : Int) 12 = (l.length : Int) by omega]
  have al := all_T ⟨l.length, by omega⟩
  dsimp only at al
  rw [al]
  refine w_mono (q_disc24 H hb hl (z := (z.1, z.2.1, z.2.2.1, z.2.2.2.1, 0, ((2 ^ l.length - 1 : Nat) : Int))) rfl) ?_
  rintro ⟨lb, t, w, y⟩ ⟨g0, g1, g2⟩
  obtain ⟨ab, be, wi, f, n, al2⟩ := w
  dsimp only at g0 g1 g2 ⊢
  have hz : DZ (ab, be, wi, f, n, al2) l := ⟨g1.1, fun t ht => ⟨(g1.2 t ht).1, (g1.2 t ht).2.1, (g1.2 t ht).2.2.1⟩⟩
  have hn : n = (dN l : Int) := g1.1
  have e2 : n.tdiv 2 = ((dN l / 2 : Nat) : Int) := by
    rw [Int.tdiv_eq_ediv_of_nonneg (by omega)]
    omega
  rw [e2]
  refine ⟨g0, ⟨by omega, by omega⟩, w_mono (q_sortD hz hb hl (PM_same (fun t ht => (g1.2 t ht).2.2.2))) ?_⟩
  rintro ⟨lb2, t2, w2⟩ ⟨f0, f', f1, f2, f3⟩
  dsimp only at f0 f1 ⊢
  subst f1
  exact ⟨f0, ⟨hz.1, hz.2⟩, f2, f3, g2⟩
