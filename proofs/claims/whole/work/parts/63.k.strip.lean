/-! ===== strip, box: the model ===== -/
def tpF (f : Nat → Int) (b : Int) : Nat → Int
  | 0 => 0
  | n + 1 => max (tpF f b n) (f n - b)
def btF (f : Nat → Int) (b : Int) : Nat → Int
  | 0 => 0
  | n + 1 => min (btF f b n) (f n - b)
theorem tp_mx (f : Nat → Int) (b : Int) : ∀ n, tpF f b (n + 1) = max 0 (mxF f n - b) ∧ btF f b (n + 1) = min 0 (mnF f n - b)
  | 0 => ⟨rfl, rfl⟩
  | n + 1 => by
    have ih := tp_mx f b n
    have e1 : tpF f b (n + 1 + 1) = max (tpF f b (n + 1)) (f (n + 1) - b) := rfl
    have e2 : btF f b (n + 1 + 1) = min (btF f b (n + 1)) (f (n + 1) - b) := rfl
    have e3 : mxF f (n + 1) = max (mxF f n) (f (n + 1)) := rfl
    have e4 : mnF f (n + 1) = min (mnF f n) (f (n + 1)) := rfl
    rw [e1, e2, e3, e4, ih.1, ih.2]
    omega
theorem tp_lg {l : List Spt} {h : Nat → Nat} {c i : Nat} (hi : i < c) : tpF (wyF l h c i) (wyF l h c i i) c - btF (wyF l h c i) (wyF l h c i i) c = lgF l h c i := by
  have t := tp_mx (wyF l h c i) (wyF l h c i i) (c - 1)
  have a := mxF_ge (wyF l h c i) (c - 1) i (by omega)
  have b := mnF_le (wyF l h c i) (c - 1) i (by omega)
  rw [show c - 1 + 1 = c by omega] at t
  rw [t.1, t.2]
  unfold lgF
  omega
theorem tp_bd {f : Nat → Int} {b : Int} {B : Nat} (hb : b.natAbs ≤ B) : ∀ n, (∀ j, j < n → (f j).natAbs ≤ B) → 0 ≤ tpF f b n ∧ tpF f b n ≤ 2 * B ∧ btF f b n ≤ 0 ∧ -(2 * B : Int) ≤ btF f b n
  | 0, _ => ⟨Int.le_refl _, by show (0 : Int) ≤ _; omega, Int.le_refl _, by show _ ≤ (0 : Int); omega⟩
  | n + 1, h => by
    have ih := tp_bd hb n (fun j hj => h j (by omega))
    have g := h n (by omega)
    have e1 : tpF f b (n + 1) = max (tpF f b n) (f n - b) := rfl
    have e2 : btF f b (n + 1) = min (btF f b n) (f n - b) := rfl
    omega
theorem SPm_at {m : tZ12} {l : List Spt} (H : SPm m l) {i : Nat} (hi : i < l.length) : m.2.2.1 12 i = lX l i ∧ m.2.2.1 13 i = lY l i ∧ m.2.2.1 14 i = lP l i := H.2.2 i hi
theorem kdif {a b : Int} (ha : a.natAbs ≤ 160) (hb : b.natAbs ≤ 160) : k32 (a - b) := ⟨by omega, by omega⟩
theorem k64_nat {a : Int} {B : Nat} (h : a.natAbs ≤ B) (hB : B ≤ 1000000000000) : k64 a := ⟨by omega, by omega⟩
theorem k64_pos {a : Int} {B : Nat} (h : 0 ≤ a) (h2 : a ≤ (B : Int)) (hB : B ≤ 1000000000000) : k64 a := ⟨by omega, by omega⟩
theorem qm_meaJ {mm : tZ12} {v1 v2 v3 v4 v6 lo tp k w v : Int} (hlo : k64 lo) (htp : k64 tp) (hw : k64 w) :
    q_X12_measure_J151_64 v1 mm v2 v3 v4 v6 lo tp k w v = some (64, min lo w, max tp w, k + 1, (mm.1, va_up mm.2.1 38 v, mm.2.2)) := by
  refine w_eq ?_
  unfold q_X12_measure_J151_64
  simp only [kwp_kb, kwp_some, kwp_kg, kwp_kif, kwp_kl]
  unfold q_X12_measure_J169_64
  simp only [kwp_kb, kwp_some, kwp_kg, kwp_kif, kwp_kl]
  refine ⟨⟨hw, hlo⟩, fun q1 => ⟨⟨hw, htp⟩, fun q2 => ?_, fun q2 => ?_⟩, fun q1 => ⟨⟨hw, htp⟩, fun q2 => ?_, fun q2 => ?_⟩⟩
  · rw [show min lo w = lo by omega, show max tp w = tp by omega]
  · rw [show min lo w = lo by omega, show max tp w = w by omega]
  · rw [show min lo w = w by omega, show max tp w = tp by omega]
  · rw [show min lo w = w by omega, show max tp w = w by omega]
theorem wy_dif (l : List Spt) (h : Nat → Nat) (c i k : Nat) : (lX l (h (nx c i)) - lX l (h i)) * (lX l (h k) - lX l (h i)) + (lY l (h (nx c i)) - lY l (h i)) * (lY l (h k) - lY l (h i)) = wyF l h c i k - wyF l h c i i := by
  unfold wyF alF dwX dwY
  rw [Int.mul_sub, Int.mul_sub]
  omega
theorem qm_measure {m : tZ12} {l : List Spt} {h : Nat → Nat} {c : Nat} (HS : SPm m l) (hb : bdL l) (h37 : m.1 37 = (c : Int)) (h35 : ∀ i, i < c → m.2.2.1 35 i = (h i : Int)) (hl : ∀ i, i < c → h i < l.length) (hc : c ≤ 41) {i : Nat} (hi : i < c) :
    kwp (q_X12_measure m (i : Int)) (fun m' => FC m m' ∧ m'.2.1 38 = hgF l h c i c ∧ m'.2.1 39 = lgF l h c i ∧ m'.2.1 40 = sqF l h c i) := by
  have sl := HS.2.1
  have nl := nx_lt hi
  have l1 := hl i hi
  have l2 := hl _ nl
  have b1 := bX hb l1
  have b2 := bX hb l2
  have e1 := SPm_at HS l1
  have e2 := SPm_at HS l2
  have dw := dw_bd hb hl hi
  have wb : ∀ j, j < c → (wyF l h c i j).natAbs ≤ 320000 := fun j hj => alF_bd hb (by omega) (by omega) (hl j hj)
  unfold q_X12_measure
  simp only [kwp_kb, kwp_some, kwp_kg, kwp_kif, kwp_kl]
  rw [qm_after h37 hc hi, kwp_some, Int.toNat_natCast, Int.toNat_natCast, h35 i hi, h35 _ nl, Int.toNat_natCast, Int.toNat_natCast, e1.1, e1.2.1, e2.1, e2.2.1]
  refine ⟨⟨by omega, by omega⟩, ⟨by omega, by omega⟩, ⟨by omega, by omega⟩, ⟨by omega, by omega⟩, ⟨by omega, by omega⟩, ⟨by omega, by omega⟩, ?_⟩
  refine w_mono (w_for (ex := 194) (by decide) (fun k (s : Int × Int × Int × tZ12) => s.2.2.1 = (k : Int) ∧ s.1 = btF (wyF l h c i) (wyF l h c i i) k ∧ s.2.1 = tpF (wyF l h c i) (wyF l h c i i) k ∧ FC m s.2.2.2 ∧ s.2.2.2.2.1 38 = hgF l h c i k) c ?_ ?_ (Nat.zero_le _) (by have := kF_eq; omega) ⟨rfl, rfl, rfl, ⟨rfl, rfl⟩, by show va_up m.2.1 38 0 38 = _; rw [va_same]; rfl⟩) ?_
  · rintro k ⟨lo, tp, kk, mm⟩ hk ⟨g1, g2, g3, g4, g5⟩
    dsimp only at g1 g2 g3 g4 g5
    subst g1
    subst g2
    subst g3
    have HS' := SPm_fc g4 HS
    have l3 := hl k hk
    have b3 := bX hb l3
    have f1 := SPm_at HS' l1
    have f3 := SPm_at HS' l3
    have m37 : mm.1 37 = (c : Int) := by rw [g4.1]; exact h37
    have m35 : mm.2.2.1 35 k = (h k : Int) := by rw [g4.2]; exact h35 k hk
    have tb := tp_bd (wb i hi) k (fun j hj => wb j (by omega))
    have hg := hgF_bd hb hl hi k (by omega)
    have tt := tn_bd hb l1 l2 l3
    have wk := wb k hk
    have wi := wb i hi
    unfold q_X12_measure_L64
    dsimp only
    rw [m37]
    simp only [kwp_kb, kwp_some, kwp_kg, kwp_kif, kwp_kl]
    rw [Int.toNat_natCast, m35, qm_turn HS' hb l1 l2 l3, kwp_some, Int.toNat_natCast, Int.toNat_natCast, f1.1, f1.2.1, f3.1, f3.2.1, g5]
    have we : (lX l (h (nx c i)) - lX l (h i)) * (lX l (h k) - lX l (h i)) + (lY l (h (nx c i)) - lY l (h i)) * (lY l (h k) - lY l (h i)) = wyF l h c i k - wyF l h c i i := wy_dif l h c i k
    rw [we]
    have kd : k32 (lX l (h k) - lX l (h i)) ∧ k32 (lY l (h k) - lY l (h i)) := ⟨kdif b3.1 b1.1, kdif b3.2 b1.2⟩
    have kt : k64 (tn (lX l) (lY l) (h i) (h (nx c i)) (h k)) ∧ k64 (hgF l h c i k) := ⟨k64_nat tt (by decide), k64_pos hg.1 hg.2 (B := 300000) (by decide)⟩
    have kw : k64 (wyF l h c i k - wyF l h c i i) := by
      clear kd kt tt hg tb b1 b2 b3 we
      exact ⟨by omega, by omega⟩
    have klo : k64 (btF (wyF l h c i) (wyF l h c i i) k) ∧ k64 (tpF (wyF l h c i) (wyF l h c i i) k) := by
      clear kd kt tt hg b1 b2 b3 we wi wk
      exact ⟨⟨by omega, by omega⟩, ⟨by omega, by omega⟩⟩
    have e3 : hgF l h c i (k + 1) = max (hgF l h c i k) (tn (lX l) (lY l) (h i) (h (nx c i)) (h k)) := rfl
    clear b1 b2 b3 we wi wk tb hg tt wb dw e1 e2 f1 f3
    refine ⟨⟨⟨by omega, by omega⟩, ⟨by omega, by omega⟩⟩, fun q => by omega, fun _ => ⟨⟨by omega, by omega⟩, ⟨by omega, by omega⟩, ⟨by omega, by omega⟩, kd, kt, fun q => w_of (qm_meaJ klo.1 klo.2 kw) ⟨by trivial, (by show (k : Int) + 1 = _; omega), rfl, rfl, ⟨g4.1, g4.2⟩, ?_⟩, fun q => w_of (qm_meaJ klo.1 klo.2 kw) ⟨by trivial, (by show (k : Int) + 1 = _; omega), rfl, rfl, ⟨g4.1, g4.2⟩, ?_⟩⟩⟩
    · have e4 : hgF l h c i (k + 1) = hgF l h c i k := by omega
      rw [e4]
      exact va_same mm.2.1 38 (hgF l h c i k)
    · have e4 : hgF l h c i (k + 1) = tn (lX l) (lY l) (h i) (h (nx c i)) (h k) := by omega
      rw [e4]
      exact va_same mm.2.1 38 (tn (lX l) (lY l) (h i) (h (nx c i)) (h k))
  · rintro ⟨lo, tp, kk, mm⟩ ⟨g1, g2, g3, g4, g5⟩
    dsimp only at g1 g2 g3 g4 g5
    subst g1
    have m37 : mm.1 37 = (c : Int) := by rw [g4.1]; exact h37
    unfold q_X12_measure_L64
    dsimp only
    rw [m37]
    simp only [kwp_kb, kwp_some, kwp_kg, kwp_kif, kwp_kl]
    exact ⟨⟨⟨by omega, by omega⟩, ⟨by omega, by omega⟩⟩, fun _ => ⟨by trivial, by trivial, g2, g3, g4, g5⟩, fun q => by omega⟩
  · rintro ⟨lb, lo, tp, kk, mm⟩ ⟨g0, g1, g2, g3, g4, g5⟩
    dsimp only at *
    refine ⟨g0, ⟨g4.1, g4.2⟩, ?_, ?_, ?_⟩
    · rw [va_ne _ _ (by decide), va_ne _ _ (by decide)]
      exact g5
    · rw [va_ne _ _ (by decide), va_same, g2, g3]
      exact tp_lg hi
    · rw [va_same]
      rfl
def nrV (l : List Spt) (bx : Bool) (w : Int) : Int :=
  if w = 0 then (fU l bx (nS l bx (hC l - 1))).1 else if w = 1 then (fU l bx (nS l bx (hC l - 1))).2 else lP l (hJ l (nS l bx (hC l - 1)))
theorem qm_narL {m : tZ12} {l : List Spt} (hs : sorL l) (hb : bdL l) (hl40 : l.length ≤ 40) (h0 : 0 < l.length) (h2 : 2 ≤ hC l) (HM : MH m l) {v1 v2 v3 : Int} {bx : Bool} (h3 : v3 = if bx = true then 1 else 0) :
    kwp (kitr 33 (fun q => q_X12_narrowest_L33 v1 v2 v3 q) kF ((-1 : Int), (0 : Int), (1 : Int), (0 : Int), m)) (fun e => e.1 = 120 ∧ e.2.1 = (nS l bx (hC l - 1) : Int) ∧ e.2.2.1 = (uS l bx (nS l bx (hC l - 1))).1 ∧ e.2.2.2.1 = (uS l bx (nS l bx (hC l - 1))).2 ∧ FC m e.2.2.2.2.2) := by
  have hl : ∀ i, i < hC l → hJ l i < l.length := fun i hi => hJ_lt hs h0 hi
  have hle := hC_le hs h0
  have h3k : k32 v3 ∧ (v3 = 0 → bx = false) ∧ (¬ v3 = 0 → bx = true) := by
    cases bx with
    | true => rw [h3]; exact ⟨by decide, fun q => absurd q (by decide), fun _ => rfl⟩
    | false => rw [h3]; exact ⟨by decide, fun _ => rfl, fun q => absurd rfl q⟩
  refine w_mono (w_for (ex := 120) (by decide) (fun i (s : Int × Int × Int × Int × tZ12) => s.2.2.2.1 = (i : Int) ∧ (i = 0 → s.1 = -1) ∧ (0 < i → s.1 = (nS l bx (i - 1) : Int) ∧ s.2.1 = (uS l bx (nS l bx (i - 1))).1 ∧ s.2.2.1 = (uS l bx (nS l bx (i - 1))).2) ∧ FC m s.2.2.2.2) (hC l) ?_ ?_ (Nat.zero_le _) (by have := kF_eq; omega) ⟨rfl, fun _ => rfl, fun q => by omega, ⟨rfl, rfl⟩⟩) ?_
  · rintro i ⟨bs, a, b, ii, mm⟩ hi ⟨g1, g2, g3, g4⟩
    dsimp only at g1 g2 g3 g4
    subst g1
    have m37 : mm.1 37 = (hC l : Int) := by rw [g4.1]; exact HM.2.1
    unfold q_X12_narrowest_L33
    dsimp only
    rw [m37]
    simp only [kwp_kb, kwp_some, kwp_kg, kwp_kif, kwp_kl]
    refine ⟨⟨⟨by omega, by omega⟩, ⟨by omega, by omega⟩⟩, fun q => by omega, fun _ => w_mono (qm_measure (SPm_fc g4 HM.1) hb m37 (fun j hj => by rw [g4.2]; exact HM.2.2 j hj) hl (by omega) hi) ?_⟩
    rintro m3 ⟨f, s38, s39, s40⟩
    have g5 := FC_trans g4 f
    have k1 := uS_k hs hb h0 h2 bx hi
    have J : ∀ v, v = (uS l bx i).1 → kwp (q_X12_narrowest_J73_33 v1 v2 v3 m3 bs a b (i : Int) v) (fun e => e.1 = 33 ∧ e.2.2.2.2.1 = ((i + 1 : Nat) : Int) ∧ (i + 1 = 0 → e.2.1 = -1) ∧ (0 < i + 1 → e.2.1 = (nS l bx (i + 1 - 1) : Int) ∧ e.2.2.1 = (uS l bx (nS l bx (i + 1 - 1))).1 ∧ e.2.2.2.1 = (uS l bx (nS l bx (i + 1 - 1))).2) ∧ FC m e.2.2.2.2.2) := fun v hv => by
      subst hv
      unfold q_X12_narrowest_J73_33
      rw [s40, show sqF l (hJ l) (hC l) i = (uS l bx i).2 from rfl, show i + 1 - 1 = i by omega]
      simp only [kwp_kb, kwp_some, kwp_kg, kwp_kif, kwp_kl]
      by_cases hz : i = 0
      · have b0 := g2 hz
        have st := stP_take (l := l) (bx := bx) (i := i) (Or.inl hz)
        exact ⟨⟨by omega, by omega⟩, fun _ => ⟨by trivial, by omega, fun q => by omega, fun _ => by rw [st]; exact ⟨rfl, rfl, rfl⟩, g5⟩, fun q => absurd b0 q⟩
      · obtain ⟨c1, c2, c3⟩ := g3 (by omega)
        have ni := nS_le l bx (i - 1)
        have k2 := uS_k hs hb h0 h2 bx (i := nS l bx (i - 1)) (by omega)
        have sb := sgc_3 (uS l bx i).1 (uS l bx i).2 (uS l bx (nS l bx (i - 1))).1 (uS l bx (nS l bx (i - 1))).2
        refine ⟨⟨by omega, by omega⟩, fun q => by omega, fun _ => ?_⟩
        rw [c2, c3]
        refine w_of (qm_against k1.1 (k64_63 k1.2.1) k1.2.2.1 (k64_63 k1.2.2.2) k2.1 (k64_63 k2.2.1) k2.2.2.1 (k64_63 k2.2.2.2)) ⟨⟨by omega, by omega⟩, fun q => ⟨by trivial, by omega, fun q => by omega, fun _ => ?_, g5⟩, fun q => ⟨by trivial, by omega, fun q => by omega, fun _ => ?_, g5⟩⟩
        · rw [stP_take (Or.inr q)]
          exact ⟨rfl, rfl, rfl⟩
        · rw [stP_keep (by omega) q]
          exact ⟨c1, rfl, rfl⟩
    refine ⟨h3k.1, fun q => J _ ?_, fun q => J _ ?_⟩
    · rw [s38, h3k.2.1 q]
      rfl
    · rw [s38, s39, h3k.2.2 q]
      rfl
  · rintro ⟨bs, a, b, ii, mm⟩ ⟨g1, g2, g3, g4⟩
    dsimp only at g1 g2 g3 g4
    subst g1
    have m37 : mm.1 37 = (hC l : Int) := by rw [g4.1]; exact HM.2.1
    unfold q_X12_narrowest_L33
    dsimp only
    rw [m37]
    simp only [kwp_kb, kwp_some, kwp_kg, kwp_kif, kwp_kl]
    exact ⟨⟨⟨by omega, by omega⟩, ⟨by omega, by omega⟩⟩, fun _ => ⟨by trivial, by trivial, g2, g3, g4⟩, fun q => by omega⟩
  · rintro ⟨lb, bs, a, b, ii, mm⟩ ⟨g0, g1, g2, g3, g4⟩
    dsimp only at *
    obtain ⟨c1, c2, c3⟩ := g3 (by omega)
    exact ⟨g0, c1, c2, c3, g4⟩
theorem qm_narrowest {z4 : tZ4} {m : tZ12} (H : HR z4.1 (m.2.2.1 0)) {set w v3 : Int} (hs : k32 set) (hw : k32 w) {bx : Bool} (h3 : v3 = if bx = true then 1 else 0) :
    kwp (q_X12_narrowest m set w v3) (fun r => FRM m r.2 ∧ (((0 ≤ w ∧ w ≤ 2) ∧ wdS z4 set → r.1 = nrV (LG z4 set) bx w) ∧ (¬ ((0 ≤ w ∧ w ≤ 2) ∧ wdS z4 set) → r.1 = -1))) := by
  have ok := LG_ok H.1 set
  unfold q_X12_narrowest
  rw [qm_isIn hw (by decide) (by decide)]
  by_cases hw2 : 0 ≤ w ∧ w ≤ 2
  · rw [decide_eq_true hw2]
    simp only [kwp_kb, kwp_some, kwp_kg, kwp_kif, kwp_kl]
    refine ⟨fun q => absurd q kz_t, fun _ => ?_⟩
    by_cases hg : wdS z4 set
    · have fc := hull_fc H.1 hg.1
      have h2 : 2 ≤ hC (LG z4 set) := by have := hg.2; omega
      refine w_mono (widm_t H hs hg) ?_
      rintro ⟨b', m2⟩ ⟨e, f2, HM⟩
      dsimp only at e f2 HM ⊢
      subst e
      refine ⟨fun q => absurd q kz_t, fun _ => w_mono (qm_narL ok.2.1 ok.2.2 ok.1 hg.1.2.2 h2 HM h3) ?_⟩
      rintro ⟨lb, s1, s2, s3, s4, m3⟩ ⟨g0, g1, g2, g3, g4⟩
      dsimp only at g0 g1 g2 g3 g4 ⊢
      have fm := FQ_frm (FQ_trans f2 (FC_q g4))
      have ni := nS_le (LG z4 set) bx (hC (LG z4 set) - 1)
      have hj := fc.2.2 (nS (LG z4 set) bx (hC (LG z4 set) - 1)) (by omega)
      have k2 := uS_k ok.2.1 ok.2.2 hg.1.2.2 h2 bx (i := nS (LG z4 set) bx (hC (LG z4 set) - 1)) (by omega)
      have sp := SPm_at (SPm_fc g4 HM.1) hj
      have m35 : m3.2.2.1 35 (nS (LG z4 set) bx (hC (LG z4 set) - 1)) = (hJ (LG z4 set) (nS (LG z4 set) bx (hC (LG z4 set) - 1)) : Int) := by rw [g4.2]; exact HM.2.2 _ (by omega)
      have bp := bP ok.2.2 hj
      rw [g1, g2, g3, Int.toNat_natCast, m35, Int.toNat_natCast, sp.2.2]
      refine ⟨g0, hw, fun q => w_of (qm_above k2.2.1 k2.2.2.1 k2.2.2.2) ⟨fm, fun _ => ?_, fun q => absurd ⟨hw2, hg⟩ q⟩, fun q => ⟨fun q1 => w_of (qm_below k2.2.1 k2.2.2.1 k2.2.2.2) ⟨fm, fun _ => ?_, fun q => absurd ⟨hw2, hg⟩ q⟩, fun q1 => ⟨⟨by omega, by omega⟩, ⟨by omega, by omega⟩, ⟨by omega, by omega⟩, fm, fun _ => ?_, fun q => absurd ⟨hw2, hg⟩ q⟩⟩⟩
      · unfold nrV
        rw [if_pos q]
        rfl
      · unfold nrV
        rw [if_neg q, if_pos q1]
        rfl
      · unfold nrV
        rw [if_neg q, if_neg q1]
    · refine w_mono (widm_f H hs hg) ?_
      rintro ⟨b', m2⟩ ⟨e, f2⟩
      dsimp only at e f2 ⊢
      subst e
      exact ⟨fun _ => ⟨FQ_frm f2, fun q => absurd q.2 hg, fun _ => (by first | exact trivial | rfl)⟩, fun q => (q (by trivial)).elim⟩
  · rw [decide_eq_false hw2]
    simp only [kwp_kb, kwp_some, kwp_kg, kwp_kif, kwp_kl]
    exact ⟨fun _ => ⟨FRM_rfl m, fun q => absurd q.1 hw2, fun _ => (by first | exact trivial | rfl)⟩, fun q => (q (by trivial)).elim⟩
