/-! ===== layer, the model; both ===== -/
theorem LG_NU {z4 : tZ4} (set : Int) : NU (LG z4 set) := by
  have g := gth_num (f := fB z4.1 (fun k => decide (k < 40) && inS z4.1 set k) (z4.1 128)) 40
  exact NU_of (fun a ha => by have := g.1 a ha; omega) g.2
theorem qm_layL73 {m : tZ12} {l : List Spt} (hs : sorL l) (hl : l.length ≤ 40) {r : Nat} (h : neP l (PL l r)) (h37 : m.1 37 = (coN l (PL l r) : Int)) (h35 : ∀ i, i < coN l (PL l r) → m.2.2.1 35 i = (coI l (PL l r) i : Int)) {v1 v2 v3 v6 left : Int} (hv : k32 v3) (kl : k64 left) (hb : ∀ k, tb left k = PL l r k) :
    kwp (kitr 73 (fun q => q_X12_layer_L73 v1 v2 m v3 v6 q) kF (left, (0 : Int))) (fun e => (e.1 = 93 ∧ ∃ i, i < coN l (PL l r) ∧ (coI l (PL l r) i : Int) = v3) ∨
      (e.1 = 120 ∧ k64 e.2.1 ∧ (∀ k, tb e.2.1 k = PL l (r + 1) k) ∧ ∀ i, i < coN l (PL l r) → (coI l (PL l r) i : Int) ≠ v3)) := by
  have co := co_ok hs h
  refine w_loop (fun n (s : Int × Int) => ∃ i : Nat, n = coN l (PL l r) - i ∧ i ≤ coN l (PL l r) ∧ s.2 = (i : Int) ∧ k64 s.1 ∧ (∀ k, tb s.1 k = rmP l (PL l r) i k) ∧ ∀ j, j < i → (coI l (PL l r) j : Int) ≠ v3) (Q := fun e => (e.1 = 93 ∧ ∃ i, i < coN l (PL l r) ∧ (coI l (PL l r) i : Int) = v3) ∨
      (e.1 = 120 ∧ k64 e.2.1 ∧ (∀ k, tb e.2.1 k = PL l (r + 1) k) ∧ ∀ i, i < coN l (PL l r) → (coI l (PL l r) i : Int) ≠ v3)) ?_ kF (coN l (PL l r)) _ (by have := kF_eq; omega) ⟨0, rfl, Nat.zero_le _, rfl, kl, fun k => by rw [rmP_0]; exact hb k, fun j hj => absurd hj (Nat.not_lt_zero _)⟩
  rintro n ⟨lf, t⟩ ⟨i, rfl, g1, g2, g3, g4, g5⟩
  dsimp only at g2 g3 g4
  subst g2
  unfold q_X12_layer_L73
  dsimp only
  rw [h37]
  simp only [kwp_kb, kwp_some, kwp_kg, kwp_kif, kwp_kl]
  refine ⟨⟨⟨by omega, by omega⟩, ⟨by omega, by omega⟩⟩, fun q => Or.inr ⟨by decide, Or.inr ⟨by trivial, g3, fun k => ?_, fun j hj => g5 j (by omega)⟩⟩, fun q => ?_⟩
  · have e : i = coN l (PL l r) := by omega
    rw [e] at g4
    exact g4 k
  · have hi : i < coN l (PL l r) := by omega
    have ci := (co.1 i hi).1
    rw [Int.toNat_natCast, h35 i hi]
    refine ⟨⟨by omega, by omega⟩, ⟨⟨by omega, by omega⟩, hv⟩, fun q1 => Or.inr ⟨by (try dsimp only); omega, Or.inl ⟨by trivial, i, hi, q1⟩⟩, fun q1 => Or.inl ⟨by trivial, coN l (PL l r) - (i + 1), by omega, i + 1, rfl, by omega, by omega, k64_and _ _, fun k => ?_, fun j hj => ?_⟩⟩
    · rw [mask_but (by omega), g4 k, rmP_s, Bool.and_comm]
    · by_cases e : j = i
      · rw [e]
        exact q1
      · exact g5 j (by omega)
theorem qm_layL57 {m : tZ12} {l : List Spt} (HS : SPm m l) (hs : sorL l) (hb : bdL l) (hl : l.length ≤ 40) {v1 v2 v3 left : Int} (hv : k32 v3) (kl : k64 left) (hbt : ∀ k, tb left k = PL l 0 k) :
    kwp (kitr 57 (fun q => q_X12_layer_L57 v1 v2 v3 q) kF (left, (0 : Int), m)) (fun e => FQ m e.2.2.2 ∧ ((e.1 = 93 ∧ ∃ r : Nat, e.2.2.1 = (r : Int) ∧ r ≤ 40 ∧ ∃ k, inR l r k ∧ (k : Int) = v3) ∨
      (e.1 = 126 ∧ ∃ R : Nat, e.2.2.1 = (R : Int) ∧ R ≤ 40 ∧ RndOf l R ∧ ∀ s, s < R → ∀ k, inR l s k → (k : Int) ≠ v3))) := by
  refine w_loop (fun n (s : Int × Int × tZ12) => ∃ r : Nat, n = cntU (PL l r) l.length ∧ s.2.1 = (r : Int) ∧ r + cntU (PL l r) l.length ≤ l.length ∧ k64 s.1 ∧ (∀ k, tb s.1 k = PL l r k) ∧ FQ m s.2.2 ∧ SPm s.2.2 l ∧ (∀ s, s < r → neP l (PL l s)) ∧ ∀ s, s < r → ∀ k, inR l s k → (k : Int) ≠ v3)
    (Q := fun e => FQ m e.2.2.2 ∧ ((e.1 = 93 ∧ ∃ r : Nat, e.2.2.1 = (r : Int) ∧ r ≤ 40 ∧ ∃ k, inR l r k ∧ (k : Int) = v3) ∨
      (e.1 = 126 ∧ ∃ R : Nat, e.2.2.1 = (R : Int) ∧ R ≤ 40 ∧ RndOf l R ∧ ∀ s, s < R → ∀ k, inR l s k → (k : Int) ≠ v3))) ?_ kF (cntU (PL l 0) l.length) _ (by have := kF_eq; have := cntU_le (PL l 0) l.length; omega) ⟨0, rfl, rfl, by have := cntU_le (PL l 0) l.length; omega, kl, hbt, FQ_rfl m, HS, fun s h => absurd h (Nat.not_lt_zero _), fun s h => absurd h (Nat.not_lt_zero _)⟩
  rintro n ⟨lf, t, mm⟩ ⟨r, rfl, g1, g2, g3, g4, g5, g6, g7, g8⟩
  dsimp only at g1 g3 g4 g5 g6
  subst g1
  unfold q_X12_layer_L57
  dsimp only
  simp only [kwp_kb, kwp_some, kwp_kg, kwp_kif, kwp_kl]
  refine ⟨g3, fun q => Or.inr ⟨by decide, g5, Or.inr ⟨by trivial, r, by trivial, by omega, ⟨g7, fun ⟨k, hk, hp⟩ => ?_⟩, g8⟩⟩, fun q => ?_⟩
  · have z := (zero64 g3).mp q k
    rw [g4 k, hp] at z
    exact absurd z (by decide)
  · have ne : neP l (PL l r) := Classical.byContradiction (fun w => q ((zero64 g3).mpr (fun k => by
      rw [g4 k]
      cases e : PL l r k with
      | false => rfl
      | true => exact absurd ⟨k, PL_le e, e⟩ w)))
    have co := co_ok hs ne
    have lo := last_ok l.length ne
    have hc := PL_cnt hs ne
    refine w_mono (qm_layHull g6 hb hl (P := PL l r) (last := lastP (PL l r) l.length) (fun k _ => g4 k) lo.1 lo.2.1 lo.2.2 (by have := co.2.2.1; unfold coN at this; omega)) ?_
    rintro m3 ⟨fh, f37, f35⟩
    have fq := FQ_trans g5 (FH_q fh)
    refine w_mono (qm_layL73 hs hl ne f37 f35 hv g3 g4) ?_
    rintro ⟨lb, lf2, t2⟩ h
    dsimp only at h ⊢
    rcases h with ⟨rfl, i, hi, ei⟩ | ⟨rfl, f1, f2, f3⟩
    · refine ⟨fun _ => Or.inr ⟨by decide, fq, Or.inl ⟨by trivial, r, by trivial, by omega, coI l (PL l r) i, ⟨(co.1 i hi).2, i, hi, rfl⟩, ei⟩⟩, fun q => (q (by trivial)).elim⟩
    · refine ⟨fun q => absurd q (by decide), fun _ => ⟨by trivial, Or.inl ⟨by trivial, cntU (PL l (r + 1)) l.length, hc, r + 1, rfl, by omega, by omega, f1, f2, fq, SPm_fh fh g6, fun s hsr => ?_, fun s hsr k hk => ?_⟩⟩⟩
      · by_cases e : s = r
        · rw [e]
          exact ne
        · exact g7 s (by omega)
      · by_cases e : s = r
        · rw [e] at hk
          obtain ⟨i, hi, ei⟩ := hk.2
          rw [← ei]
          exact f3 i hi
        · exact g8 s (by omega) k hk
theorem all_k : ∀ n : Fin 41, 0 ≤ zshl64 1 (zand64 (n.val : Int) 63) := by decide +kernel
theorem qm_layJ47 {m : tZ12} {l : List Spt} (HS : SPm m l) (hs : sorL l) (hb : bdL l) (hl : l.length ≤ 40) {v1 v2 v3 : Int} (hv : k32 v3) :
    kwp (q_X12_layer_J47 v1 v2 m v3) (fun x => FQ m x.2 ∧ ((∃ r : Nat, x.1 = (r : Int) ∧ r ≤ 40 ∧ ∃ k, inR l r k ∧ (k : Int) = v3) ∨ (∃ R : Nat, x.1 = (R : Int) ∧ R ≤ 40 ∧ RndOf l R ∧ ∀ s, s < R → ∀ k, inR l s k → (k : Int) ≠ v3))) := by
  unfold q_X12_layer_J47
  rw [qm_all HS]
  simp only [kwp_kb, kwp_some, kwp_kg, kwp_kif, kwp_kl]
  have ak := all_k ⟨l.length, by omega⟩
  have sk := k64_shl 1 (zand64 (l.length : Int) 63)
  dsimp only at ak
  refine w_mono (qm_layL57 HS hs hb hl hv ⟨by omega, by omega⟩ (fun k => tb_all (by omega) k)) ?_
  rintro ⟨lb, lf, t, mm⟩ ⟨f, h⟩
  dsimp only at f h ⊢
  rcases h with ⟨rfl, h⟩ | ⟨rfl, h⟩
  · exact ⟨fun _ => ⟨f, Or.inl h⟩, fun q => (q (by trivial)).elim⟩
  · exact ⟨fun q => absurd q (by decide), fun _ => ⟨by trivial, f, Or.inr h⟩⟩
theorem inR_ex {l : List Spt} {k : Nat} (hk : k < l.length) : ∀ R, ¬ (PL l R k = true) → ∃ r, r < R ∧ inR l r k
  | 0, h => absurd (decide_eq_true hk) h
  | R + 1, h => by
    by_cases q : PL l R k = true
    · exact ⟨R, by omega, q, Classical.byContradiction (fun w => h (PL_s.mpr ⟨q, w⟩))⟩
    · obtain ⟨r, hr, g⟩ := inR_ex hk R q
      exact ⟨r, by omega, g⟩
theorem q_indexOf {z : tZ8} {l : List Spt} (H : SPc z l) (hb : bdL l) {x y : Int} (hx : k32 x) (hy : k32 y) : kwp (q_X8_indexOf z x y) (fun v => (∃ i : Nat, i < l.length ∧ v = (i : Int) ∧ lX l i = x ∧ lY l i = y) ∨ (v = -1 ∧ ∀ i, i < l.length → ¬ (lX l i = x ∧ lY l i = y))) := by
  have hl := H.2.1
  unfold q_X8_indexOf
  refine w_kb (w_loop (fun n s => ∃ i : Nat, n = l.length - i ∧ i ≤ l.length ∧ s = (i : Int) ∧ ∀ j, j < i → ¬ (lX l j = x ∧ lY l j = y)) (Q := fun e => (e.1 = 30 ∧ ∃ i : Nat, i < l.length ∧ e.2 = (i : Int) ∧ lX l i = x ∧ lY l i = y) ∨ (e.1 = 38 ∧ ∀ j, j < l.length → ¬ (lX l j = x ∧ lY l j = y))) ?_ kF l.length 0 (by have := kF_eq; omega) ⟨0, rfl, by omega, rfl, fun j hj => absurd hj (Nat.not_lt_zero _)⟩) ?_
  · rintro n s ⟨i, rfl, hi, rfl, no⟩
    unfold q_X8_indexOf_L2
    rw [H.1]
    simp only [kwp_kb, kwp_some, kwp_kg, kwp_kif, kwp_kl]
    refine ⟨⟨⟨by omega, by omega⟩, ⟨by omega, by omega⟩⟩, fun q => Or.inr ⟨by decide, Or.inr ⟨by trivial, fun j hj => no j (by omega)⟩⟩, fun q => ?_⟩
    have hi2 : i < l.length := by omega
    have a := H.2.2 i hi2
    have b := bX hb hi2
    rw [Int.toNat_natCast, show z.1 i = lX l i from a.1, show z.2.1 i = lY l i from a.2.1]
    have nx2 : (¬ (lX l i = x ∧ lY l i = y)) → ∀ j, j < i + 1 → ¬ (lX l j = x ∧ lY l j = y) := fun w j hj => by
      by_cases e : j = i
      · rw [e]
        exact w
      · exact no j (by omega)
    exact ⟨⟨by omega, by omega⟩, ⟨⟨by omega, by omega⟩, hx⟩, fun q1 => ⟨⟨⟨by omega, by omega⟩, hy⟩, fun q2 => Or.inr ⟨by (try dsimp only); omega, Or.inl ⟨by trivial, i, hi2, by trivial, q1, q2⟩⟩, fun q2 => Or.inl ⟨by trivial, l.length - (i + 1), by omega, i + 1, rfl, by omega, by omega, nx2 (fun w => q2 w.2)⟩⟩, fun q1 => Or.inl ⟨by trivial, l.length - (i + 1), by omega, i + 1, rfl, by omega, by omega, nx2 (fun w => q1 w.1)⟩⟩
  · rintro ⟨lb, s⟩ h
    dsimp only at h
    simp only [kwp_kif, kwp_kb, kwp_some, kwp_kg]
    rcases h with ⟨rfl, h⟩ | ⟨rfl, h⟩
    · exact ⟨fun _ => Or.inl (by obtain ⟨i, h1, h2, h3⟩ := h; exact ⟨i, h1, h2, h3⟩), fun q => (q (by trivial)).elim⟩
    · exact ⟨fun q => absurd q (by decide), fun _ => ⟨by trivial, Or.inr ⟨(by first | exact trivial | rfl), h⟩⟩⟩
theorem LG_place {z4 : tZ4} {set : Int} {k : Nat} (hk : k < 40) (hin : inS z4.1 set k = true) : ∃ i, i < (LG z4 set).length ∧ lX (LG z4 set) i = stX z4.1 k (z4.1 128) ∧ lY (LG z4 set) i = stY z4.1 k (z4.1 128) := by
  rw [← l_place]
  unfold LG GL
  rw [gth_place]
  exact ⟨k, hk, fB_some (by rw [decide_eq_true hk, hin]; rfl)⟩
theorem T_layer {z11 : tZ11} {z4 : tZ4} {z9 : tZ9} {z10 : tZ10} {z8 zl : tZ8} {z6 : tZ6} {z5 : tZ5} {m : tZ12} (H : REL z4 z9 z10 m) {set k : Int} (hs : k32 set) (hk : k32 k) : QRI m (q_X11_layer z11 z4 z8 z6 zl z5 set k) (q_X12_layer m set k) := by
  have hH := H.1.1
  have ok := LG_ok hH.1 set
  have nu := LG_NU (z4 := z4) set
  by_cases hg : gdS z4 set
  · by_cases k1 : k = -1
    · subst k1
      unfold QRI q_X11_layer
      simp only [kwp_kg, kwp_kif, kwp_kb, kwp_some]
      refine w_mono (gath_t hH.1 hs hg) ?_
      rintro ⟨b', z'⟩ ⟨e, hS⟩
      dsimp only at e hS ⊢
      subst e
      refine ⟨fun q => absurd q kz_t, fun _ => ⟨hk, fun _ => w_mono (q_peel hS ok.2.1 ok.2.2 ok.1 nu) ?_, fun q => (q (by trivial)).elim⟩⟩
      rintro ⟨x1, x2⟩ ⟨R, e1, e2, e3, e4⟩
      dsimp only at e1 e4 ⊢
      subst e1
      unfold q_X12_layer q_X12_layer_J14
      simp only [kwp_kg, kwp_kif, kwp_kb, kwp_some]
      refine ⟨hk, fun _ => w_mono (laid_t hH hs hg) ?_, fun q => (q (by trivial)).elim⟩
      rintro ⟨b', m2⟩ ⟨e, f2, HS⟩
      dsimp only at e f2 HS ⊢
      subst e
      refine ⟨fun q => absurd q kz_t, fun _ => ⟨hk, fun _ => w_mono (qm_layJ47 HS ok.2.1 ok.2.2 ok.1 hk) ?_, fun q => (q (by trivial)).elim⟩⟩
      rintro ⟨y1, m3⟩ ⟨f3, h⟩
      dsimp only at f3 h ⊢
      rcases h with ⟨r, _, _, kk, _, h⟩ | ⟨R', h1, h2, h3, _⟩
      · omega
      · rw [h1, Rnd_only e3 h3]
        exact ⟨by trivial, ⟨by omega, by omega⟩, FQ_frm (FQ_trans f2 f3)⟩
    · by_cases hin : 0 ≤ k ∧ k < 40 ∧ inS z4.1 set k.toNat = true
      · obtain ⟨k2, k3, k4⟩ := hin
        obtain ⟨n, hn⟩ : ∃ n : Nat, k = (n : Int) := ⟨k.toNat, by omega⟩
        subst hn
        rw [Int.toNat_natCast] at k4
        have n40 : n < 40 := by omega
        have live := (inS_t.mp k4).1
        have st := st_bd hH.1 n40 live hH.1.2.2
        obtain ⟨o, o1, o2, o3⟩ := LG_place n40 k4
        have nb := nu.1 o o1
        have only : ∀ i, i < (LG z4 set).length → lX (LG z4 set) i = stX z4.1 n (z4.1 128) → lY (LG z4 set) i = stY z4.1 n (z4.1 128) → i = o := fun i hi a b => by
          by_cases e : i = o
          · exact e
          · have := dif_sor ok.2.1 i o hi o1 e
            rw [a, b, o2, o3] at this
            omega
        unfold QRI q_X11_layer
        simp only [kwp_kg, kwp_kif, kwp_kb, kwp_some]
        refine w_mono (gath_t hH.1 hs hg) ?_
        rintro ⟨b', z'⟩ ⟨e, hS⟩
        dsimp only at e hS ⊢
        subst e
        refine ⟨fun q => absurd q kz_t, fun _ => ⟨hk, fun q => absurd q k1, fun _ => ?_⟩⟩
        rw [q_has hk hH.1, decide_eq_true (show 0 ≤ (n : Int) ∧ (n : Int) < 40 ∧ z4.1 (80 + (n : Int).toNat) ≠ -1 from ⟨by omega, by omega, by rw [Int.toNat_natCast]; exact live⟩)]
        simp only [kwp_some]
        refine ⟨fun q => absurd q kz_t, fun _ => w_mono (q_bits hH.1 set) (fun bb hbb => ⟨fun q => ?_, fun q => w_mono (q_peel hS ok.2.1 ok.2.2 ok.1 nu) ?_⟩)⟩
        · rw [mask_bit n40, hbb.2 n, decide_eq_true n40, k4] at q
          exact absurd q (by decide)
        · rintro ⟨x1, x2⟩ ⟨R, e1, e2, e3, e4⟩
          dsimp only at e1 e4 ⊢
          rw [q_now, kwp_some, q_standX hH.1 n40 live, kwp_some, kwp_some, q_standY hH.1 n40 live, kwp_some]
          refine w_mono (q_indexOf hS ok.2.2 ⟨by omega, by omega⟩ ⟨by omega, by omega⟩) (fun v hv => ?_)
          rcases hv with ⟨i, i1, rfl, i2, i3⟩ | ⟨_, no⟩
          · have io := only i i1 i2 i3
            subst io
            rw [q_sn hS i1, kwp_some]
            have rem : ¬ (PL (LG z4 set) R i = true) := fun w => e3.2 ⟨i, i1, w⟩
            obtain ⟨r, r1, r2⟩ := inR_ex i1 R rem
            have ar := e4 r r1 i r2
            unfold q_X6_layerOf
            simp only [kwp_kg, kwp_kif, kwp_kb, kwp_some]
            refine ⟨⟨by omega, by omega⟩, fun q => by omega, fun _ => ⟨fun q => by omega, fun _ => ⟨⟨by omega, by omega⟩, ?_⟩⟩⟩
            rw [ar]
            unfold q_X12_layer q_X12_layer_J14
            rw [qm_isOfSet hH hs hk, decide_eq_true (show 1 ≤ set ∧ set < 16 ∧ 0 ≤ (n : Int) ∧ (n : Int) < 40 ∧ inS z4.1 set (n : Int).toNat = true from ⟨hg.1, hg.2.1, by omega, by omega, by rw [Int.toNat_natCast]; exact k4⟩)]
            simp only [kwp_kg, kwp_kif, kwp_kb, kwp_some]
            refine ⟨hk, fun q => absurd q k1, fun _ => ⟨fun q => absurd q kz_t, fun _ => w_mono (laid_t hH hs hg) ?_⟩⟩
            rintro ⟨b', m2⟩ ⟨e, f2, HS⟩
            dsimp only at e f2 HS ⊢
            subst e
            have H1 := HR_fq f2 hH
            refine ⟨fun q => absurd q kz_t, fun _ => ⟨hk, fun q => absurd q k1, fun _ => ?_⟩⟩
            rw [qm_standsX H1 n40 live, kwp_some, qm_standsY H1 n40 live, kwp_some]
            refine w_mono (qm_spotAt HS ok.2.2 ⟨by omega, by omega⟩ ⟨by omega, by omega⟩) (fun v hv => ?_)
            rcases hv with ⟨j, j1, rfl, j2, j3⟩ | ⟨_, no⟩
            · have jo := only j j1 j2 j3
              subst jo
              refine w_mono (qm_layJ47 HS ok.2.1 ok.2.2 ok.1 ⟨by omega, by omega⟩) ?_
              rintro ⟨y1, m3⟩ ⟨f3, h⟩
              dsimp only at f3 h ⊢
              rcases h with ⟨r', h1, h2, kk, h3, h4⟩ | ⟨R', h1, h2, h3, h4⟩
              · have : kk = j := by omega
                subst this
                rw [h1, inR_only r2 h3]
                exact ⟨by trivial, ⟨by omega, by omega⟩, FQ_frm (FQ_trans f2 f3)⟩
              · rw [Rnd_only h3 e3] at h4
                exact absurd rfl (h4 r r1 j r2)
            · exact absurd ⟨o2, o3⟩ (no _ o1)
          · exact absurd ⟨o2, o3⟩ (no o o1)
      · refine qri_of (-1) ?_ ?_ (by decide)
        · unfold q_X11_layer
          simp only [kwp_kg, kwp_kif, kwp_kb, kwp_some]
          refine w_mono (gath_t hH.1 hs hg) ?_
          rintro ⟨b', z'⟩ ⟨e, hS⟩
          dsimp only at e hS ⊢
          subst e
          refine ⟨fun q => absurd q kz_t, fun _ => ⟨hk, fun q => absurd q k1, fun _ => ?_⟩⟩
          rw [q_has hk hH.1]
          simp only [kwp_some]
          refine ⟨fun _ => (by first | exact trivial | rfl), fun q => ?_⟩
          have hh : 0 ≤ k ∧ k < 40 ∧ z4.1 (80 + k.toNat) ≠ -1 := by
            by_cases w : 0 ≤ k ∧ k < 40 ∧ z4.1 (80 + k.toNat) ≠ -1
            · exact w
            · exact absurd ((kz_0 _).mpr (decide_eq_false w)) q
          obtain ⟨n, hn⟩ : ∃ n : Nat, k = (n : Int) := ⟨k.toNat, by omega⟩
          subst hn
          have n40 : n < 40 := by omega
          rw [Int.toNat_natCast] at hin
          have nin : inS z4.1 set n = false := by
            cases e : inS z4.1 set n with
            | false => rfl
            | true => exact absurd ⟨by omega, by omega, e⟩ hin
          refine w_mono (q_bits hH.1 set) (fun bb hbb => ⟨fun _ => (by first | exact trivial | rfl), fun q => absurd ?_ q⟩)
          rw [mask_bit n40, hbb.2 n, nin, Bool.and_false]
        · unfold q_X12_layer
          rw [qm_isOfSet hH hs hk, decide_eq_false (fun w => hin ⟨w.2.2.1, w.2.2.2.1, w.2.2.2.2⟩)]
          simp only [kwp_kg, kwp_kif, kwp_kb, kwp_some]
          exact ⟨hk, fun q => absurd q k1, fun _ => ⟨fun _ => ⟨(by first | exact trivial | rfl), FRM_rfl m⟩, fun q => (q (by trivial)).elim⟩⟩
  · refine qri_of (-1) ?_ ?_ (by decide)
    · unfold q_X11_layer
      simp only [kwp_kg, kwp_kif, kwp_kb, kwp_some]
      refine w_mono (gath_f hH.1 hs hg) ?_
      rintro ⟨b', z'⟩ e
      dsimp only at e ⊢
      subst e
      exact ⟨fun _ => (by first | exact trivial | rfl), fun q => (q (by trivial)).elim⟩
    · have J : kwp (q_X12_layer_J14 set k m) (fun r => r.1 = -1 ∧ FRM m r.2) := by
        unfold q_X12_layer_J14
        simp only [kwp_kg, kwp_kif, kwp_kb, kwp_some]
        refine w_mono (laid_f hH hs hg) ?_
        rintro ⟨b', m2⟩ ⟨e, f2⟩
        dsimp only at e f2 ⊢
        subst e
        exact ⟨fun _ => ⟨(by first | exact trivial | rfl), FQ_frm f2⟩, fun q => (q (by trivial)).elim⟩
      unfold q_X12_layer
      rw [qm_isOfSet hH hs hk]
      simp only [kwp_kg, kwp_kif, kwp_kb, kwp_some]
      exact ⟨hk, fun _ => J, fun _ => ⟨fun _ => ⟨(by first | exact trivial | rfl), FRM_rfl m⟩, fun _ => J⟩⟩
