/-! ===== area ===== -/
def sumA (l : List Spt) (h : Nat → Nat) (c : Nat) : Nat → Int
  | 0 => 0
  | n + 1 => sumA l h c n + tn (lX l) (lY l) (h n) (h (nx c n)) (h 0)
theorem nx_lt {c i : Nat} (h : i < c) : nx c i < c := by unfold nx; split <;> omega
theorem OU_bd {z : tZ5} {l : List Spt} {h : Nat → Nat} {c : Nat} (hb : bdL l) (H : OU z l h c) : ∀ j, j < c → (z.1 j).natAbs ≤ 400 ∧ (z.2.1 j).natAbs ≤ 400 := fun j hj => by
  have a := H.2.2 j hj
  have b := bX hb a.1
  rw [a.2.1, a.2.2.1]
  omega
theorem q_oturnH {z : tZ5} {l : List Spt} {h : Nat → Nat} {c : Nat} (hb : bdL l) (H : OU z l h c) {i : Nat} (hi : i < c) {x y : Int} (hx : x.natAbs ≤ 400) (hy : y.natAbs ≤ 400) :
    q_X5_turn z (i : Int) x y = some ((lX l (h (nx c i)) - lX l (h i)) * (y - lY l (h i)) - (lY l (h (nx c i)) - lY l (h i)) * (x - lX l (h i))) := by
  have a := H.2.2 i hi
  have b := H.2.2 _ (nx_lt hi)
  have hc := H.2.1
  rw [q_oturn H.1 (by omega) hi (OU_bd hb H) hx hy, a.2.1, a.2.2.1, b.2.1, b.2.2.1]
theorem tn_bd {l : List Spt} (hb : bdL l) {i j k : Nat} (hi : i < l.length) (hj : j < l.length) (hk : k < l.length) : (tn (lX l) (lY l) i j k).natAbs ≤ 300000 := by
  have b1 := bX hb hi
  have b2 := bX hb hj
  have b3 := bX hb hk
  have m1 := ab_mul (a := lX l j - lX l i) (b := lY l k - lY l i) (A := 320) (B := 320) (by omega) (by omega)
  have m2 := ab_mul (a := lY l j - lY l i) (b := lX l k - lX l i) (A := 320) (B := 320) (by omega) (by omega)
  unfold tn
  omega
theorem sumA_bd {l : List Spt} (hb : bdL l) {h : Nat → Nat} {c : Nat} (hl : ∀ i, i < c → h i < l.length) : ∀ n, n ≤ c → (sumA l h c n).natAbs ≤ n * 300000 := by
  intro n
  induction n with
  | zero => intro _; exact Nat.le_refl _
  | succ n ih =>
    intro hn
    have a := ih (by omega)
    have b := tn_bd hb (hl n (by omega)) (hl _ (nx_lt (show n < c by omega))) (hl 0 (by omega))
    unfold sumA
    omega
theorem tn_aa (X Y : Nat → Int) (a b : Nat) : tn X Y a b a = 0 ∧ tn X Y a b b = 0 := by
  unfold tn
  constructor <;> grind
theorem tn_cyc (X Y : Nat → Int) (a b c : Nat) : tn X Y a b c = tn X Y c a b := by
  unfold tn
  grind
theorem sumA_end (l : List Spt) (h : Nat → Nat) {c : Nat} (h0 : 0 < c) : sumA l h c (c - 2 + 1) = sumA l h c c := by
  by_cases e : c = 1
  · rw [e]
  · obtain ⟨d, rfl⟩ : ∃ d, c = d + 2 := ⟨c - 2, by omega⟩
    rw [Nat.add_sub_cancel]
    show _ = sumA l h (d + 2) (d + 1) + _
    have en : nx (d + 2) (d + 1) = 0 := by unfold nx; rw [if_pos (by omega)]
    rw [en, (tn_aa _ _ _ _).2]
    omega
theorem sumA_1 (l : List Spt) (h : Nat → Nat) (c : Nat) : sumA l h c 1 = 0 := by
  show 0 + tn (lX l) (lY l) (h 0) (h (nx c 0)) (h 0) = 0
  rw [(tn_aa _ _ _ _).1]
  rfl
theorem q_area {z : tZ5} {l : List Spt} {h : Nat → Nat} {c : Nat} (hb : bdL l) (H : OU z l h c) (h0 : 0 < c) : q_X5_twiceArea z = some (sumA l h c c) := by
  refine w_eq ?_
  have hc := H.2.1
  have a0 := H.2.2 0 h0
  have b0 := bX hb a0.1
  unfold q_X5_twiceArea
  refine w_kb (w_for (ex := 36) (by decide) (fun i (s : Int × Int) => s.2 = (i : Int) ∧ s.1 = sumA l h c i) c ?_ ?_ (Nat.zero_le _) (by have := kF_eq; omega) ⟨rfl, rfl⟩) ?_
  · rintro i ⟨t, s⟩ hi ⟨rfl, rfl⟩
    unfold q_X5_twiceArea_L4
    rw [H.1]
    simp only [kwp_kb, kwp_some, kwp_kg, kwp_kif, kwp_kl]
    refine ⟨⟨⟨by omega, by omega⟩, ⟨by omega, by omega⟩⟩, fun q => by omega, fun _ => ?_⟩
    refine w_of (q_ox (z := z) (i := 0) (by rw [H.1]; omega) (by rw [H.1]; omega)) (w_of (q_oy (z := z) (i := 0) (by rw [H.1]; omega) (by rw [H.1]; omega)) (w_of (q_oturnH hb H hi (by rw [a0.2.1]; omega) (by rw [a0.2.2.1]; omega)) ⟨by trivial, by omega, ?_⟩))
    rw [a0.2.1, a0.2.2.1]
    show sumA l h c i + _ = sumA l h c i + tn _ _ _ _ _
    unfold tn
    rfl
  · rintro ⟨t, s⟩ ⟨rfl, h⟩
    dsimp only at h
    unfold q_X5_twiceArea_L4
    rw [H.1]
    simp only [kwp_kb, kwp_some, kwp_kg, kwp_kif, kwp_kl]
    exact ⟨⟨⟨by omega, by omega⟩, ⟨by omega, by omega⟩⟩, fun _ => ⟨by trivial, by trivial, h⟩, fun q => by omega⟩
  · rintro ⟨lb, t, s⟩ ⟨g0, _, g⟩
    dsimp only at *
    simp only [kwp_kg, kwp_some]
    exact ⟨g0, g⟩
theorem qm_area {m : tZ12} {l : List Spt} {h : Nat → Nat} {c : Nat} (HS : SPm m l) (hb : bdL l) (h37 : m.1 37 = (c : Int)) (h35 : ∀ i, i < c → m.2.2.1 35 i = (h i : Int)) (hl : ∀ i, i < c → h i < l.length) (h0 : 0 < c) (hc : c ≤ 41) : q_X12_areaNow m = some (sumA l h c c) := by
  refine w_eq ?_
  unfold q_X12_areaNow
  refine w_kb (w_for (ex := 47) (by decide) (fun i (s : Int × Int) => s.2 = (i : Int) + 1 ∧ s.1 = sumA l h c (i + 1)) (c - 2) ?_ ?_ (Nat.zero_le _) (by have := kF_eq; omega) ⟨rfl, (sumA_1 l h c).symm⟩) ?_
  · rintro i ⟨t, s⟩ hi ⟨rfl, rfl⟩
    unfold q_X12_areaNow_L4
    rw [h37]
    simp only [kwp_kb, kwp_some, kwp_kg, kwp_kif, kwp_kl]
    rw [show ((i : Int) + 1).toNat = i + 1 by omega, show ((i : Int) + 1 + 1).toNat = i + 2 by omega, show ((0 : Int)).toNat = 0 from rfl, h35 0 h0, h35 (i + 1) (by omega), h35 (i + 2) (by omega)]
    refine ⟨⟨⟨by omega, by omega⟩, ⟨by omega, by omega⟩⟩, fun q => by omega, fun _ => ⟨by decide, ⟨by omega, by omega⟩, ⟨by omega, by omega⟩, w_of (qm_turn HS hb (hl 0 h0) (hl (i + 1) (by omega)) (hl (i + 2) (by omega))) ⟨by trivial, by omega, ?_⟩⟩⟩
    show _ = sumA l h c (i + 1) + tn (lX l) (lY l) (h (i + 1)) (h (nx c (i + 1))) (h 0)
    have en : nx c (i + 1) = i + 2 := by unfold nx; rw [if_neg (by omega)]
    rw [en, tn_cyc _ _ (h (i + 1))]
  · rintro ⟨t, s⟩ ⟨rfl, h⟩
    dsimp only at h
    unfold q_X12_areaNow_L4
    rw [h37]
    simp only [kwp_kb, kwp_some, kwp_kg, kwp_kif, kwp_kl]
    exact ⟨⟨⟨by omega, by omega⟩, ⟨by omega, by omega⟩⟩, fun _ => ⟨by trivial, by trivial, h⟩, fun q => by omega⟩
  · rintro ⟨lb, t, s⟩ ⟨g0, _, g⟩
    dsimp only at *
    simp only [kwp_kg, kwp_some]
    exact ⟨g0, by rw [g, sumA_end l h h0]⟩
theorem hC_pos {l : List Spt} (h0 : 0 < l.length) : 0 < hC l := by
  have lf := lo_first (l := l) (P := aP) l.length 0 h0 rfl
  have ui := up_inv l aP (l.length - 1) rfl (l.length - 1) (Nat.le_refl _)
  unfold hC hN
  split
  · omega
  · omega
theorem T_area {z11 : tZ11} {z4 : tZ4} {z9 : tZ9} {z10 : tZ10} {z8 : tZ8} {z5 : tZ5} {m : tZ12} (H : REL z4 z9 z10 m) {set : Int} (hs : k32 set) : QRY m (q_X11_area z11 z4 z8 z5 set) (q_X12_area m set) := by
  have hH := H.1.1
  have ok := GL_ok (set := set) hH.1 hH.1.2.2
  have hm := qm_hasHull hH hs
  have hc := q_gather (z11 := z11) (z8 := z8) hH.1 hs
  obtain ⟨l, hl⟩ : ∃ l, l = GL z4.1 set (z4.1 128) := ⟨_, rfl⟩
  rw [← hl] at hm hc ok
  by_cases hg : 1 ≤ set ∧ set < 16 ∧ 0 < l.length
  · have hle := hC_le ok.2.1 hg.2.2
    have hp := hC_pos hg.2.2
    have hj : ∀ i, i < hC l → hJ l i < l.length := fun i hi => hJ_lt ok.2.1 hg.2.2 hi
    have bd := sumA_bd ok.2.2 hj (hC l) (Nat.le_refl _)
    refine qry_of (sumA l (hJ l) (hC l) (hC l)) ?_ ?_ ⟨by omega, by omega⟩
    · unfold q_X11_area
      simp only [kwp_kg, kwp_kif, kwp_kb, kwp_some]
      refine w_mono hc ?_
      rintro ⟨b', z'⟩ h
      rcases h with ⟨h, _⟩ | ⟨_, rfl, hS⟩
      · exact absurd hg h
      · exact ⟨fun q => absurd q kz_t, fun _ => w_mono (q_hasOutline (set := set) hH.1 hl hg.2.2 hS) (fun z2 ho => w_of (q_area ok.2.2 ho hp) rfl)⟩
    · unfold q_X12_area
      simp only [kwp_kg, kwp_kif, kwp_kb, kwp_some]
      refine w_mono hm ?_
      rintro ⟨b', m2⟩ ⟨f2, h⟩
      rcases h with ⟨h, _⟩ | ⟨_, rfl, hS, h37, h35⟩
      · exact absurd hg h
      · exact ⟨fun q => absurd q kz_t, fun _ => w_of (qm_area hS ok.2.2 h37 h35 hj hp (by omega)) ⟨rfl, FQ_frm f2⟩⟩
  · refine qry_of (-1) ?_ ?_ (by decide)
    · unfold q_X11_area
      simp only [kwp_kg, kwp_kif, kwp_kb, kwp_some]
      refine w_mono hc ?_
      rintro ⟨b', z'⟩ h
      rcases h with ⟨_, rfl⟩ | ⟨h, _⟩
      · exact ⟨fun _ => (by first | exact trivial | rfl), fun q => (q (by trivial)).elim⟩
      · exact absurd h hg
    · unfold q_X12_area
      simp only [kwp_kg, kwp_kif, kwp_kb, kwp_some]
      refine w_mono hm ?_
      rintro ⟨b', m2⟩ ⟨f2, h⟩
      rcases h with ⟨_, rfl⟩ | ⟨h, _⟩
      · exact ⟨fun _ => ⟨(by first | exact trivial | rfl), FQ_frm f2⟩, fun q => (q (by trivial)).elim⟩
      · exact absurd h hg
