/-! ===== two, the model; both ===== -/
theorem tb_nat {n k : Nat} (hk : k < 64) : tb (n : Int) k = n.testBit k := by
  unfold tb
  show (BitVec.ofInt 64 (n : Int)).getLsbD k = _
  rw [BitVec.ofInt_natCast, BitVec.getLsbD_ofNat]
  simp [hk]
theorem mecOf_iff {X Y : Nat → Int} {M M' : Nat → Prop} {n : Nat} {C : Cir} (h : ∀ q, q < n → (M q ↔ M' q)) (hm : mecOf X Y M n C) : mecOf X Y M' n C :=
  ⟨hm.1, fun q hq => hm.2.1 q ⟨hq.1, (h q hq.1).mpr hq.2⟩, cMin_mono hm.2.2 (fun q hq => ⟨hq.1, (h q hq.1).mp hq.2⟩) (fun q hq => hq)⟩
theorem all64 : ∀ n : Fin 13, zshl64 1 (zand64 (n.val : Int) 63) - 1 = ((2 ^ n.val - 1 : Nat) : Int) := by decide +kernel
theorem xor_T : ∀ h : Fin 64, ∀ t : Fin 64, zxor32 ((64 * h.val + t.val : Nat) : Int) (-1) = zxor64 ((64 * h.val + t.val : Nat) : Int) (-1) := by decide +kernel
theorem xor_same {P : Nat} (h : P < 4096) : zxor32 (P : Int) (-1) = zxor64 (P : Int) (-1) := by
  have := xor_T ⟨P / 64, by omega⟩ ⟨P % 64, by omega⟩
  dsimp only at this
  rw [show 64 * (P / 64) + P % 64 = P by omega] at this
  exact this
theorem qm_layP {m : tZ12} {l : List Spt} (H : SPm m l) (hs : sorL l) (hb : bdL l) (hl : l.length ≤ 12) {P : Nat} (hP : odP l P) : kwp (q_X12_layCircle m (P : Int)) (fun m' => FC m m' ∧ ∃ C, MCs m'.2.1 16 C ∧ mP l P C) := by
  have h0 := odP_sub hP 0 hP.1
  refine w_mono (qm_layCircle H hs hb (set := (P : Int)) ⟨0, h0, by unfold tbM; rw [tb_nat (by decide)]; exact hP.1⟩) (fun m' hm => ?_)
  obtain ⟨f, C, h1, h2⟩ := hm
  exact ⟨f, C, h1, mecOf_iff (fun q hq => by unfold tbM; rw [tb_nat (by omega)]) h2⟩
theorem qm_layR {m : tZ12} {l : List Spt} (H : SPm m l) (hs : sorL l) (hb : bdL l) (hl : l.length ≤ 12) {P : Nat} (hP : odP l P) : kwp (q_X12_layCircle m (zand64 (alN l : Int) (zxor64 (P : Int) (-1)))) (fun m' => FC m m' ∧ ∃ C, MCs m'.2.1 16 C ∧ mP l (anN (alN l) P) C) := by
  obtain ⟨x, hx, hx2⟩ := odP_rest hl hP
  have bit : ∀ q, q < l.length → tb (zand64 (alN l : Int) (zxor64 (P : Int) (-1))) q = (anN (alN l) P).testBit q := fun q hq => by
    rw [tb_and, tb_not, tb_nat (by omega), tb_nat (by omega), anN_bit (alN_lt hl), decide_eq_true (show q < 64 by omega), Bool.true_and]
  refine w_mono (qm_layCircle H hs hb (set := zand64 (alN l : Int) (zxor64 (P : Int) (-1))) ⟨x, hx, by unfold tbM; rw [bit x hx]; exact (rest_bit hl x).mpr ⟨hx, hx2⟩⟩) (fun m' hm => ?_)
  obtain ⟨f, C, h1, h2⟩ := hm
  exact ⟨f, C, h1, mecOf_iff (fun q hq => by unfold tbM; rw [bit q hq]) h2⟩
def MBi (l : List Spt) (P : Nat) (best a b : Int) : Prop :=
  (best = -1 ∧ ∀ Q, odP l Q → ¬ Q < P) ∨ ∃ (B : Nat) (M : Cir), best = (B : Int) ∧ odP l B ∧ B < P ∧ MX l B M ∧ bdC M ∧ a = szN M ∧ b = szD M ∧ ∀ Q, odP l Q → Q < P → ∀ D, MX l Q D → leR M D ∧ (leR D M → B ≤ Q)
theorem odP_odd {l : List Spt} {Q : Nat} (h : odP l Q) : Q % 2 = 1 := by
  have := h.1
  rw [Nat.testBit_zero] at this
  exact of_decide_eq_true this
theorem MBi_take {l : List Spt} {P : Nat} {best a b : Int} (h : MBi l P best a b) (hP : odP l P) {D : Cir} (hD : MX l P D) (hbd : bdC D) (g : best = -1 ∨ ∀ (B : Nat) (M : Cir), best = (B : Int) → MX l B M → a = szN M → b = szD M → bdC M → leR D M ∧ ¬ leR M D) : MBi l (P + 2) (P : Int) (szN D) (szD D) := by
  refine Or.inr ⟨P, D, rfl, hP, by omega, hD, hbd, rfl, rfl, fun Q hQ hq E hE => ?_⟩
  by_cases e : Q = P
  · subst e
    have o := MX_only hD hE
    exact ⟨o.1, fun _ => Nat.le_refl _⟩
  · have q1 := odP_odd hQ
    have q2 := odP_odd hP
    have lt : Q < P := by omega
    rcases h with ⟨_, no⟩ | ⟨B, M, e1, e2, e3, e4, e5, e6, e7, e8⟩
    · exact absurd lt (no Q hQ)
    · have w : leR D M ∧ ¬ leR M D := by
        rcases g with g | g
        · omega
        · exact g B M e1 e4 e6 e7 e5
      have x := (e8 Q hQ lt E hE).1
      refine ⟨leR_tr (MX_pos hD) (MX_pos e4) (MX_pos hE) w.1 x, fun y => ?_⟩
      exact absurd (leR_tr (MX_pos e4) (MX_pos hE) (MX_pos hD) x y) w.2
theorem MBi_keep {l : List Spt} {P : Nat} {best a b : Int} (h : MBi l P best a b) (hP : odP l P) (g : ∀ (B : Nat) (M : Cir), best = (B : Int) → MX l B M → a = szN M → b = szD M → bdC M → ∀ D, MX l P D → leR M D) (hn : best ≠ -1) : MBi l (P + 2) best a b := by
  rcases h with ⟨e, _⟩ | ⟨B, M, e1, e2, e3, e4, e5, e6, e7, e8⟩
  · exact absurd e hn
  · refine Or.inr ⟨B, M, e1, e2, by omega, e4, e5, e6, e7, fun Q hQ hq E hE => ?_⟩
    by_cases e : Q = P
    · subst e
      exact ⟨g B M e1 e4 e6 e7 e5 E hE, fun _ => by omega⟩
    · have q1 := odP_odd hQ
      have q2 := odP_odd hP
      exact e8 Q hQ (by omega) E hE
theorem MBi_k {l : List Spt} (hl : l.length ≤ 12) {P : Nat} {best a b : Int} (h : MBi l P best a b) : k32 best ∧ -1 ≤ best := by
  rcases h with ⟨e, _⟩ | ⟨B, M, e1, e2, _⟩
  · exact ⟨⟨by omega, by omega⟩, by omega⟩
  · have := e2.2
    have := alN_lt hl
    exact ⟨⟨by omega, by omega⟩, by omega⟩
theorem qm_twoBody {m0 m : tZ12} {l : List Spt} (hf : FC m0 m) (HS : SPm m0 l) (hs : sorL l) (hb : bdL l) (hl : l.length ≤ 12) {P : Nat} (hP : odP l P) {best a b : Int} (h : MBi l P best a b) {v1 v2 : Int} :
    kwp (q_X12_two_L51 v1 v2 (alN l : Int) (best, a, b, (P : Int), m)) (fun e => e.1 = 51 ∧ e.2.2.2.2.1 = ((P + 2 : Nat) : Int) ∧ FC m0 e.2.2.2.2.2 ∧ MBi l (P + 2) e.2.1 e.2.2.1 e.2.2.2.1) := by
  have hA := alN_lt hl
  have hPA := hP.2
  have kb := MBi_k hl h
  unfold q_X12_two_L51
  dsimp only
  simp only [kwp_kb, kwp_some, kwp_kg, kwp_kif, kwp_kl]
  refine ⟨⟨⟨by omega, by omega⟩, ⟨by omega, by omega⟩⟩, fun q => by omega, fun _ => w_mono (qm_layP (SPm_fc hf HS) hs hb hl hP) (fun m1 hm1 => ?_)⟩
  obtain ⟨f1, C1, hM1, hC1⟩ := hm1
  have f01 := FC_trans hf f1
  have b1 := bdC_m hM1
  have z1 := MCs_sz hM1
  have J : (best = -1 ∨ ∀ (B : Nat) (M : Cir), best = (B : Int) → MX l B M → a = szN M → b = szD M → bdC M → True) → kwp (q_X12_two_J93_51 v1 v2 m1 best a b (alN l : Int) (P : Int)) (fun e => e.1 = 51 ∧ e.2.2.2.2.1 = ((P + 2 : Nat) : Int) ∧ FC m0 e.2.2.2.2.2 ∧ MBi l (P + 2) e.2.1 e.2.2.1 e.2.2.2.1) := fun _ => by
    unfold q_X12_two_J93_51
    simp only [kwp_kb, kwp_some, kwp_kg, kwp_kif, kwp_kl]
    rw [z1.1, z1.2]
    have hR := qm_layR (SPm_fc f01 HS) hs hb hl hP
    rw [xor_same (show P < 4096 by omega)]
    refine w_mono hR (fun m2 hm2 => ?_)
    obtain ⟨f2, C2, hM2, hC2⟩ := hm2
    have f02 := FC_trans f01 f2
    have b2 := bdC_m hM2
    have z2 := MCs_sz hM2
    rw [z2.1, z2.2, qm_agC b2 b1, kwp_some, sgR_C hC2.1 hC1.1]
    have K : ∀ D, MX l P D → bdC D → kwp (q_X12_two_J147_51 v1 v2 m2 best a b (alN l : Int) (P : Int) (szN D) (szD D)) (fun e => e.1 = 51 ∧ e.2.2.2.2.1 = ((P + 2 : Nat) : Int) ∧ FC m0 e.2.2.2.2.2 ∧ MBi l (P + 2) e.2.1 e.2.2.1 e.2.2.2.1) := fun D hD bD => by
      unfold q_X12_two_J147_51
      simp only [kwp_kb, kwp_some, kwp_kg, kwp_kif, kwp_kl]
      refine ⟨kb.1, fun q => ⟨by trivial, by omega, f02, MBi_take h hP hD bD (Or.inl q)⟩, fun q => ?_⟩
      obtain ⟨B, M, e1, e2, e3, e4, e5, e6, e7, e8⟩ := h.resolve_left (fun w => q w.1)
      rw [e6, e7, qm_agC bD e5, kwp_some, sgR_C (MX_pos hD) (MX_pos e4)]
      refine ⟨sgR_k _ _, fun q1 => ⟨by trivial, by omega, f02, MBi_take h hP hD bD (Or.inr (fun B' M' w1 w2 w3 w4 w5 => ?_))⟩, fun q1 => ⟨by trivial, by omega, f02, ?_⟩⟩
      · have bb : B' = B := by omega
        subst bb
        have o := MX_only e4 w2
        have le : leR D M := (sgR_le _ _).mp (by omega)
        have nle : ¬ leR M D := fun w => by
          have := (sgR_0 D M).mpr ⟨le, w⟩
          omega
        exact ⟨leR_tr (MX_pos hD) (MX_pos e4) (MX_pos w2) le o.1, fun w => nle (leR_tr (MX_pos e4) (MX_pos w2) (MX_pos hD) o.1 w)⟩
      · rw [← e6, ← e7]
        refine MBi_keep h hP (fun B' M' w1 w2 w3 w4 w5 E hE => ?_) q
        have bb : B' = B := by omega
        subst bb
        have o := MX_only e4 w2
        have o2 := MX_only hD hE
        have le : leR M D := by
          rcases leR_tot M D with y | y
          · exact y
          · have z := (sgR_le D M).mpr y
            exact ((sgR_0 D M).mp (by omega)).2
        exact leR_tr (MX_pos w2) (MX_pos e4) (MX_pos hE) o.2 (leR_tr (MX_pos e4) (MX_pos hD) (MX_pos hE) le o2.1)
    refine ⟨sgR_k _ _, fun q => K C1 ⟨C1, C2, hC1, hC2, Or.inl rfl, Int.le_refl _, (sgR_le _ _).mp q⟩ b1, fun q => K C2 ⟨C1, C2, hC1, hC2, Or.inr rfl, ?_, Int.le_refl _⟩ b2⟩
    exact (leR_tot C1 C2).resolve_right (fun w => q ((sgR_le _ _).mpr w))
  refine ⟨kb.1, fun q => J (Or.inl q), fun q => ?_⟩
  obtain ⟨B, M, e1, e2, e3, e4, e5, e6, e7, e8⟩ := h.resolve_left (fun w => q w.1)
  rw [z1.1, z1.2, e6, e7, qm_agC b1 e5, kwp_some, sgR_C hC1.1 (MX_pos e4), ← e6, ← e7]
  refine ⟨sgR_k _ _, fun q1 => J (Or.inr (fun _ _ _ _ _ _ _ => trivial)), fun q1 => ⟨by trivial, by omega, f01, MBi_keep h hP (fun B' M' w1 w2 w3 w4 w5 E hE => ?_) q⟩⟩
  have bb : B' = B := by omega
  subst bb
  have o := MX_only e4 w2
  have le : leR M C1 := by
    rcases leR_tot M C1 with y | y
    · exact y
    · have z := (sgR_le C1 M).mpr y
      exact ((sgR_0 C1 M).mp (by omega)).2
  obtain ⟨D1, D2, g1, g2, g3, g4, g5⟩ := hE
  have pE := MX_pos ⟨D1, D2, g1, g2, g3, g4, g5⟩
  have p1 := leR_P (mecOf_only hC1 g1)
  exact leR_tr (MX_pos w2) (MX_pos e4) pE o.2 (leR_tr (MX_pos e4) hC1.1 pE le (leR_tr hC1.1 g1.1 pE p1.1 g4))
theorem qm_partsL {m0 : tZ12} {l : List Spt} (HS : SPm m0 l) (hs : sorL l) (hb : bdL l) (hl : l.length ≤ 12) (h2 : 2 ≤ l.length) {v1 v2 : Int} :
    kwp (kitr 51 (fun q => q_X12_two_L51 v1 v2 (alN l : Int) q) kF ((-1 : Int), (0 : Int), (1 : Int), (1 : Int), m0)) (fun e => e.1 = 186 ∧ FC m0 e.2.2.2.2.2 ∧ ∃ (B : Nat) (M : Cir), e.2.1 = (B : Int) ∧ B < 4096 ∧ TW l B ∧ MX l B M ∧ bdC M ∧ e.2.2.1 = szN M ∧ e.2.2.2.1 = szD M) := by
  have hA := alN_lt hl
  have pw2 : 2 ^ l.length = 2 * 2 ^ (l.length - 1) := by
    rw [← Nat.pow_succ']
    congr 1
    omega
  have pw1 : 2 ≤ 2 ^ (l.length - 1) := by
    have : 2 ^ 1 ≤ 2 ^ (l.length - 1) := Nat.pow_le_pow_right (by decide) (by omega)
    omega
  have hAo : alN l % 2 = 1 ∧ 3 ≤ alN l := by
    unfold alN
    omega
  refine w_loop (fun n (s : Int × Int × Int × Int × tZ12) => ∃ P : Nat, n = alN l - P ∧ P % 2 = 1 ∧ P ≤ alN l ∧ s.2.2.2.1 = (P : Int) ∧ FC m0 s.2.2.2.2 ∧ MBi l P s.1 s.2.1 s.2.2.1) (Q := fun e => e.1 = 186 ∧ FC m0 e.2.2.2.2.2 ∧ ∃ (B : Nat) (M : Cir), e.2.1 = (B : Int) ∧ B < 4096 ∧ TW l B ∧ MX l B M ∧ bdC M ∧ e.2.2.1 = szN M ∧ e.2.2.2.1 = szD M) ?_ kF (alN l - 1) _ (by have := kF_eq; omega) ⟨1, rfl, by decide, by omega, rfl, ⟨rfl, rfl⟩, Or.inl ⟨rfl, fun Q hQ => ?_⟩⟩
  · rintro n ⟨best, a, b, x, m⟩ ⟨P, rfl, p1, p2, g1, g2, g3⟩
    dsimp only at g1 g2 g3
    subst g1
    by_cases q : P = alN l
    · have kb := MBi_k hl g3
      unfold q_X12_two_L51
      dsimp only
      simp only [kwp_kb, kwp_some, kwp_kg, kwp_kif, kwp_kl]
      refine ⟨⟨⟨by omega, by omega⟩, ⟨by omega, by omega⟩⟩, fun _ => Or.inr ⟨by decide, by trivial, g2, ?_⟩, fun q1 => by omega⟩
      rcases g3 with ⟨_, no⟩ | ⟨B, M, e1, e2, e3, e4, e5, e6, e7, e8⟩
      · exact absurd (show 1 < P by omega) (no 1 ⟨by decide, by omega⟩)
      · have := e2.2
        refine ⟨B, M, e1, by omega, ⟨e2, fun C hC Q hQ D hD => ?_⟩, e4, e5, e6, e7⟩
        have o := MX_only e4 hC
        have x := e8 Q hQ (by have := hQ.2; omega) D hD
        exact ⟨leR_tr (MX_pos hC) (MX_pos e4) (MX_pos hD) o.2 x.1, fun y => x.2 (leR_tr (MX_pos hD) (MX_pos hC) (MX_pos e4) y o.2)⟩
    · have hP : odP l P := ⟨by rw [Nat.testBit_zero]; exact decide_eq_true p1, by omega⟩
      refine w_mono (qm_twoBody g2 HS hs hb hl hP g3) (fun e he => Or.inl ⟨he.1, alN l - (P + 2), by omega, P + 2, rfl, by omega, by omega, he.2.1, he.2.2.1, he.2.2.2⟩)
  · have := odP_odd hQ
    omega
theorem T_two {z11 : tZ11} {z4 : tZ4} {z9 : tZ9} {z10 : tZ10} {z8 : tZ8} {z2 : tZ2} {z0 : tZ0} {z3 : tZ3} {m : tZ12} (H : REL z4 z9 z10 m) {set w : Int} (hs : k32 set) (hw : k32 w) : QRY m (q_X11_two z11 z4 z8 z2 z0 z3 set w) (q_X12_two m set w) := by
  have hH := H.1.1
  have ok := LG_ok hH.1 set
  by_cases hg : (0 ≤ w ∧ w ≤ 2) ∧ gdS z4 set ∧ 2 ≤ (LG z4 set).length ∧ (LG z4 set).length ≤ 12
  · obtain ⟨hw2, hg, h2, hl⟩ := hg
    have hm : kwp (q_X12_two m set w) (fun r' => FRM m r'.2 ∧ ∃ (B : Nat) (M : Cir), B < 4096 ∧ TW (LG z4 set) B ∧ MX (LG z4 set) B M ∧ bdC M ∧ r'.1 = if w = 0 then szN M else if w = 1 then szD M else (B : Int)) := by
      unfold q_X12_two
      rw [qm_isIn hw (by decide) (by decide), decide_eq_true hw2]
      simp only [kwp_kg, kwp_kif, kwp_kb, kwp_some, kwp_kl]
      refine ⟨fun q => absurd q kz_t, fun _ => w_mono (laid_t hH hs hg) ?_⟩
      rintro ⟨b', m2⟩ ⟨e, f2, HS⟩
      dsimp only at e f2 HS ⊢
      subst e
      have al := all64 ⟨(LG z4 set).length, by omega⟩
      dsimp only at al
      rw [HS.1, qm_isIn ⟨by omega, by omega⟩ (by decide) (by decide), decide_eq_true (show 2 ≤ ((LG z4 set).length : Int) ∧ ((LG z4 set).length : Int) ≤ 12 by omega), qm_all HS, al]
      simp only [kwp_some]
      refine ⟨fun q => absurd q kz_t, fun _ => ⟨fun q => absurd q kz_t, fun _ => w_mono (qm_partsL HS ok.2.1 ok.2.2 hl h2) ?_⟩⟩
      rintro ⟨lb, s1, s2, s3, s4, m3⟩ ⟨g0, g1, B, M, e1, e2, e3, e4, e5, e6, e7⟩
      dsimp only at g0 g1 e1 e6 e7 ⊢
      have fm := FQ_frm (FQ_trans f2 (FC_q g1))
      rw [e1, e6, e7]
      exact ⟨g0, hw, fun q => ⟨fm, B, M, e2, e3, e4, e5, by rw [if_pos q]⟩, fun q => ⟨fun q1 => ⟨fm, B, M, e2, e3, e4, e5, by rw [if_neg q, if_pos q1]⟩, fun q1 => ⟨⟨by omega, by omega⟩, fm, B, M, e2, e3, e4, e5, by rw [if_neg q, if_neg q1]⟩⟩⟩
    unfold QRY q_X11_two
    simp only [kwp_kg, kwp_kif, kwp_kb, kwp_some]
    refine ⟨hw, fun q => by omega, fun _ => ⟨fun q => by omega, fun _ => w_mono (gath_t hH.1 hs hg) ?_⟩⟩
    rintro ⟨b', z'⟩ ⟨e, hS⟩
    dsimp only at e hS ⊢
    subst e
    rw [q_sc hS]
    simp only [kwp_some]
    refine ⟨fun q => absurd q kz_t, fun _ => ⟨⟨by omega, by omega⟩, fun q => by omega, fun _ => ⟨⟨by omega, by omega⟩, fun _ => w_mono (q_aboutD hS ok.2.2 hl) (fun r hr => w_mono (q_parting ok.2.1 ok.2.2 hl h2 hr z3) ?_), fun q => by omega⟩⟩⟩
    rintro ⟨x, f⟩ ⟨P, C, c1, c2, c3, c4, c5, c6⟩
    dsimp only at c5 c6 ⊢
    subst c5 c6
    have sk := sz_k c3
    have kC := bdC_k c3
    have same : ∀ (B : Nat) (M : Cir), TW (LG z4 set) B → MX (LG z4 set) B M → P = B ∧ szN C = szN M ∧ szD C = szD M := fun B M t1 t2 => by
      have e := TW_only ok.2.1 hl c2 t1
      subst e
      have o := c4 M t2
      have s := sz_leR kC.1 (MX_pos t2) o.2 o.1
      exact ⟨rfl, s.1, s.2⟩
    refine ⟨fun q => ⟨⟨by omega, by omega⟩, w_mono hm (fun r' h => ?_)⟩, fun q => ?_⟩
    · obtain ⟨fm, B, M, d1, d2, d3, d4, d5⟩ := h
      have o := same B M d2 d3
      rw [d5, if_neg (by omega), if_neg (by omega), o.1]
      exact ⟨rfl, ⟨by omega, by omega⟩, fm⟩
    · rw [q_part hw, kwp_some]
      refine w_mono hm (fun r' h => ?_)
      obtain ⟨fm, B, M, d1, d2, d3, d4, d5⟩ := h
      have o := same B M d2 d3
      rw [d5]
      by_cases q1 : w = 0
      · rw [if_pos q1, if_pos q1, ← o.2.1]
        exact ⟨rfl, k64_63 sk.2.1, fm⟩
      · rw [if_neg q1, if_neg q1, if_pos (by omega), ← o.2.2]
        exact ⟨rfl, k64_63 sk.2.2.2, fm⟩
  · refine qry_of (-1) ?_ ?_ (by decide)
    · unfold q_X11_two
      simp only [kwp_kg, kwp_kif, kwp_kb, kwp_some]
      refine ⟨hw, fun _ => (by first | exact trivial | rfl), fun q0 => ⟨fun _ => (by first | exact trivial | rfl), fun q1 => ?_⟩⟩
      by_cases hgd : gdS z4 set
      · refine w_mono (gath_t hH.1 hs hgd) ?_
        rintro ⟨b', z'⟩ ⟨e, hS⟩
        dsimp only at e hS ⊢
        subst e
        rw [q_sc hS]
        simp only [kwp_some]
        exact ⟨fun q => absurd q kz_t, fun _ => ⟨⟨by omega, by omega⟩, fun _ => (by first | exact trivial | rfl), fun q3 => ⟨⟨by omega, by omega⟩, fun q4 => absurd ⟨⟨by omega, by omega⟩, hgd, by omega, by omega⟩ hg, fun _ => (by first | exact trivial | rfl)⟩⟩⟩
      · refine w_mono (gath_f hH.1 hs hgd) ?_
        rintro ⟨b', z'⟩ e
        dsimp only at e ⊢
        subst e
        exact ⟨fun _ => (by first | exact trivial | rfl), fun q => (q (by trivial)).elim⟩
    · unfold q_X12_two
      rw [qm_isIn hw (by decide) (by decide)]
      simp only [kwp_kg, kwp_kif, kwp_kb, kwp_some, kwp_kl]
      refine ⟨fun _ => ⟨(by first | exact trivial | rfl), FRM_rfl m⟩, fun q0 => ?_⟩
      have b3 : 0 ≤ w ∧ w ≤ 2 := by
        cases e : decide (0 ≤ w ∧ w ≤ 2) with
        | true => exact of_decide_eq_true e
        | false => rw [e] at q0; exact absurd rfl q0
      by_cases hgd : gdS z4 set
      · refine w_mono (laid_t hH hs hgd) ?_
        rintro ⟨b', m2⟩ ⟨e, f2, HS⟩
        dsimp only at e f2 HS ⊢
        subst e
        have sl := HS.2.1
        rw [HS.1, qm_isIn ⟨by omega, by omega⟩ (by decide) (by decide), decide_eq_false (show ¬ (2 ≤ ((LG z4 set).length : Int) ∧ ((LG z4 set).length : Int) ≤ 12) from fun q => hg ⟨b3, hgd, by omega, by omega⟩)]
        simp only [kwp_some]
        exact ⟨fun q => absurd q kz_t, fun _ => ⟨fun _ => ⟨(by first | exact trivial | rfl), FQ_frm f2⟩, fun q => (q (by trivial)).elim⟩⟩
      · refine w_mono (laid_f hH hs hgd) ?_
        rintro ⟨b', m2⟩ ⟨e, f2⟩
        dsimp only at e f2 ⊢
        subst e
        exact ⟨fun _ => ⟨(by first | exact trivial | rfl), FQ_frm f2⟩, fun q => (q (by trivial)).elim⟩
