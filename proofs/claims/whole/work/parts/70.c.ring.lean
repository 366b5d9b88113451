/-! ===== ring, the class, 2 ===== -/
theorem sgc_lt0 (a b c d : Int) : sgc a b c d < 0 ↔ a * d < c * b := by
  unfold sgc
  split
  · omega
  · split <;> omega
theorem sgc_eq0 (a b c d : Int) : sgc a b c d = 0 ↔ a * d = c * b := by
  unfold sgc
  split
  · omega
  · split <;> omega
theorem q_betterR {l : List Spt} (hb : bdL l) (h0 : 0 < l.length) {B C : Ctr} (hB : bdR B) (hC : bdR C) : kwp (q_X7_isBetter (B.1, B.2.1, B.2.2, inC l B, ouC l B, C.1, C.2.1, C.2.2, inC l C, ouC l C)) (fun b => b = true ↔ LTc l C B) := by
  have iB := io_bd hb h0 hB
  have iC := io_bd hb h0 hC
  have kB := bdR_k hB
  have kC := bdR_k hC
  have J : ∀ v : Int, k32 v → kwp (q_X7_isBetter_J88 (B.1, B.2.1, B.2.2, inC l B, ouC l B, C.1, C.2.1, C.2.2, inC l C, ouC l C) v) (fun b => b = true ↔ v < 0) := fun v hv => by
    unfold q_X7_isBetter_J88
    simp only [kwp_kg, kwp_kif, kwp_some]
    exact ⟨hv, fun q => ⟨fun w => absurd w (by decide), fun w => by omega⟩, fun q => ⟨fun _ => by omega, fun _ => (by first | exact trivial | rfl)⟩⟩
  have J2 : ∀ v : Int, k32 v → kwp (q_X7_isBetter_J64 (B.1, B.2.1, B.2.2, inC l B, ouC l B, C.1, C.2.1, C.2.2, inC l C, ouC l C) v) (fun b => b = true ↔ (v < 0 ∨ (v = 0 ∧ sgc C.2.2 C.1 B.2.2 B.1 < 0))) := fun v hv => by
    unfold q_X7_isBetter_J64
    simp only [kwp_kg, kwp_kif, kwp_kb]
    refine ⟨hv, fun q => ?_, fun q => w_mono (J v hv) (fun b hb2 => ?_)⟩
    · rw [q_compare (k64_63 kC.2.2.2.2) hC.1 (k64_63 kC.1) (k64_63 kB.2.2.2.2) hB.1 (k64_63 kB.1), kwp_some]
      refine w_mono (J _ (sgc_k _ _ _ _)) (fun b hb2 => ?_)
      rw [hb2]
      exact ⟨fun w => Or.inr ⟨q, w⟩, fun w => w.elim (fun x => by omega) (fun x => x.2)⟩
    · rw [hb2]
      exact ⟨Or.inl, fun w => w.elim id (fun x => absurd x.1 q)⟩
  unfold q_X7_isBetter
  simp only [kwp_kb]
  rw [q_compare (a := ouC l C - inC l C) (c := ouC l B - inC l B) ⟨by omega, by omega⟩ kC.2.2.1 (k64_63 kC.2.1) ⟨by omega, by omega⟩ kB.2.2.1 (k64_63 kB.2.1), kwp_some, sg_gap hC.1 hB.1]
  simp only [kwp_kg, kwp_kif, kwp_kb]
  have s3 := sgc_lt0 (gpC l C) C.1 (gpC l B) B.1
  have s4 := sgc_eq0 (gpC l C) C.1 (gpC l B) B.1
  have t3 := sgc_lt0 C.2.1 C.1 B.2.1 B.1
  have t4 := sgc_eq0 C.2.1 C.1 B.2.1 B.1
  have u3 := sgc_lt0 C.2.2 C.1 B.2.2 B.1
  refine ⟨sgc_k _ _ _ _, fun q => ?_, fun q => w_mono (J2 _ (sgc_k _ _ _ _)) (fun b hb2 => ?_)⟩
  · rw [q_compare (k64_63 kC.2.2.2.1) hC.1 (k64_63 kC.1) (k64_63 kB.2.2.2.1) hB.1 (k64_63 kB.1), kwp_some]
    refine w_mono (J2 _ (sgc_k _ _ _ _)) (fun b hb2 => ?_)
    rw [hb2]
    have e := s4.mp q
    unfold LTc ltF eqF
    constructor
    · rintro (w | ⟨w1, w2⟩)
      · exact Or.inr ⟨e, Or.inl (t3.mp w)⟩
      · exact Or.inr ⟨e, Or.inr ⟨t4.mp w1, u3.mp w2⟩⟩
    · rintro (w | ⟨_, w | ⟨w1, w2⟩⟩)
      · omega
      · exact Or.inl (t3.mpr w)
      · exact Or.inr ⟨t4.mpr w1, u3.mpr w2⟩
  · rw [hb2]
    unfold LTc ltF eqF
    constructor
    · rintro (w | ⟨w1, _⟩)
      · exact Or.inl (s3.mp w)
      · exact absurd w1 q
    · rintro (w | ⟨w1, _⟩)
      · exact Or.inl (s3.mpr w)
      · exact absurd (s4.mpr w1) q
/-- the places of the couples -/
def CpA (l : List Spt) (A : Nat → Int) (a i j : Nat) : Prop := A a = ky l i j ∧ i < j ∧ j < l.length
def VC (l : List Spt) (A : Nat → Int) (a b : Nat) (C : Ctr) : Prop := ∃ p q i j k m, q < p ∧ (p < a ∨ (p = a ∧ q < b)) ∧ CpA l A p i j ∧ CpA l A q k m ∧ crs l i j k m ≠ 0 ∧ C = ctr l i j k m
def RS7 (l : List Spt) (V : Ctr → Prop) (z : tZ7) : Prop := (z.1 = 0 ∧ ∀ C, ¬ V C) ∨ ∃ C, bdR C ∧ BRv l V C ∧ z.1 = C.1 ∧ z.2.1 = C.2.1 ∧ z.2.2.1 = C.2.2 ∧ z.2.2.2.1 = inC l C ∧ z.2.2.2.2.1 = ouC l C
theorem ky_inj {l : List Spt} (hl : l.length ≤ 40) {i j k m : Nat} (hj : j < l.length) (hm : m < l.length) (hij : i < j) (hkm : k < m) (h : ky l i j = ky l k m) : i = k ∧ j = m := by
  have a := (ky_mod (l := l) (i := i) (j := j) (by omega) (by omega)).1
  have b := (ky_mod (l := l) (i := k) (j := m) (by omega) (by omega)).1
  rw [h, b] at a
  omega
theorem VC_pos {l : List Spt} {A : Nat → Int} {a b : Nat} {C : Ctr} (h : VC l A a b C) : 0 < C.1 := by
  obtain ⟨p, q, i, j, k, m, _, _, _, _, h5, e⟩ := h
  rw [e]
  exact ctr_pos h5
theorem RS_same {l : List Spt} {V W : Ctr → Prop} {z : tZ7} (h : RS7 l V z) (hW : ∀ D, W D ↔ V D) : RS7 l W z := by
  rcases h with ⟨h1, h2⟩ | ⟨C, h1, h2, h3⟩
  · exact Or.inl ⟨h1, fun D w => h2 D ((hW D).mp w)⟩
  · exact Or.inr ⟨C, h1, ⟨(hW C).mpr h2.1, fun D w => h2.2 D ((hW D).mp w)⟩, h3⟩
theorem VC_s {l : List Spt} (hl : l.length ≤ 40) {A : Nat → Int} {a b i j k m : Nat} (hba : b < a) (ha : CpA l A a i j) (hb : CpA l A b k m) (D : Ctr) : VC l A a (b + 1) D ↔ VC l A a b D ∨ (crs l i j k m ≠ 0 ∧ D = ctr l i j k m) := by
  constructor
  · rintro ⟨p, q, i', j', k', m', h1, h2, h3, h4, h5, h6⟩
    by_cases e : p = a ∧ q = b
    · obtain ⟨rfl, rfl⟩ := e
      have e1 := ky_inj hl h3.2.2 ha.2.2 h3.2.1 ha.2.1 (h3.1.symm.trans ha.1)
      have e2 := ky_inj hl h4.2.2 hb.2.2 h4.2.1 hb.2.1 (h4.1.symm.trans hb.1)
      rw [e1.1, e1.2, e2.1, e2.2] at h5 h6
      exact Or.inr ⟨h5, h6⟩
    · exact Or.inl ⟨p, q, i', j', k', m', h1, by omega, h3, h4, h5, h6⟩
  · rintro (⟨p, q, i', j', k', m', h1, h2, h3⟩ | ⟨h5, h6⟩)
    · exact ⟨p, q, i', j', k', m', h1, by omega, h3⟩
    · exact ⟨a, b, i, j, k, m, hba, by omega, ha, hb, h5, h6⟩
theorem q_ring18 {z8 : tZ8} {z1 : tZ1} {l : List Spt} (H : SPc z8 l) (hb : bdL l) (hl : l.length ≤ 40) (h0 : 0 < l.length) {N : Nat} (hN : N ≤ 780) (h1 : z1.2 = (N : Int)) (hA : ∀ t, t < N → ∃ i j, CpA l z1.1 t i j) {a : Nat} (ha : a < N) {z : tZ7} (h : RS7 l (VC l z1.1 a 0) z) :
    kwp (kitr 18 (fun q => q_X7_about_L18 z8 z1 (a : Int) q) kF ((0 : Int), z)) (fun e => e.1 = 70 ∧ RS7 l (VC l z1.1 a a) e.2.2) := by
  obtain ⟨i, j, ca⟩ := hA a ha
  have pa : q_X1_packedAt z1 (a : Int) = some (ky l i j) := by rw [q_pkAt h1 hN ha, ca.1]
  refine w_mono (w_for (ex := 70) (by decide) (fun b (s : Int × tZ7) => s.1 = (b : Int) ∧ RS7 l (VC l z1.1 a b) s.2) a ?_ ?_ (Nat.zero_le _) (by have := kF_eq; omega) ⟨rfl, h⟩) (fun e g => ⟨g.1, g.2.2⟩)
  · rintro b ⟨x, w⟩ hba ⟨g1, g2⟩
    dsimp only at g1 g2
    subst g1
    obtain ⟨k, m, cb⟩ := hA b (by omega)
    have pb : q_X1_packedAt z1 (b : Int) = some (ky l k m) := by rw [q_pkAt h1 hN (by omega), cb.1]
    have vs := VC_s hl hba ca cb
    have i1 : i < l.length := by have := ca.2; omega
    have k1 : k < l.length := by have := cb.2; omega
    unfold q_X7_about_L18
    dsimp only
    rw [q_cross H hb hl i1 ca.2.2 k1 cb.2.2 pa pb]
    simp only [kwp_kb, kwp_some, kwp_kg, kwp_kif, kwp_kl]
    refine ⟨⟨⟨by omega, by omega⟩, ⟨by omega, by omega⟩⟩, fun q => by omega, fun _ => ?_⟩
    by_cases z0 : crs l i j k m = 0
    · rw [if_pos z0]
      refine ⟨fun _ => ⟨by trivial, by omega, RS_same g2 (fun D => ?_)⟩, fun q => (q kz_f).elim⟩
      rw [vs D]
      exact ⟨fun w => w.elim id (fun x => absurd z0 x.1), Or.inl⟩
    · rw [if_neg z0]
      have bc := ctr_bd hb i1 ca.2.2 k1 cb.2.2 z0
      have vs2 : ∀ D, VC l z1.1 a (b + 1) D ↔ VC l z1.1 a b D ∨ D = ctr l i j k m := fun D => by
        rw [vs D]
        exact ⟨fun w => w.elim Or.inl (fun x => Or.inr x.2), fun w => w.elim Or.inl (fun x => Or.inr ⟨z0, x⟩)⟩
      refine ⟨fun q => absurd q kz_t, fun _ => ?_⟩
      rw [q_measureR H hb h0 bc, kwp_some]
      have K : BRv l (VC l z1.1 a (b + 1)) (ctr l i j k m) → kwp (q_X7_about_J60_18 z8 z1 (MS7 w l (ctr l i j k m)) (a : Int) (b : Int)) (fun e => e.1 = 18 ∧ e.2.1 = ((b + 1 : Nat) : Int) ∧ RS7 l (VC l z1.1 a (b + 1)) e.2.2) := fun br => by
        unfold q_X7_about_J60_18 q_X7_keepTried MS7
        simp only [kwp_kb, kwp_some, kwp_kl]
        exact ⟨by trivial, by omega, Or.inr ⟨ctr l i j k m, bc, br, rfl, rfl, rfl, rfl, rfl⟩⟩
      rcases g2 with ⟨e0, no⟩ | ⟨B, bB, br, e1, e2, e3, e4, e5⟩
      · rw [show (MS7 w l (ctr l i j k m)).1 = 0 from e0]
        exact ⟨by decide, fun _ => K (BRv_first no vs2), fun q => (q (by trivial)).elim⟩
      · have kB := bdR_k bB
        have em : MS7 w l (ctr l i j k m) = (B.1, B.2.1, B.2.2, inC l B, ouC l B, (ctr l i j k m).1, (ctr l i j k m).2.1, (ctr l i j k m).2.2, inC l (ctr l i j k m), ouC l (ctr l i j k m)) := by
          unfold MS7
          rw [e1, e2, e3, e4, e5]
        have p1 := bB.1
        rw [em]
        refine ⟨k64_63 kB.1, fun q => by omega, fun _ => w_mono (q_betterR hb h0 bB bc) (fun x hx => ⟨fun q => ⟨by trivial, by omega, Or.inr ⟨B, bB, BRv_keep br vs2 (fun w2 => ?_), rfl, rfl, rfl, rfl, rfl⟩⟩, fun q => ?_⟩)⟩
        · rw [hx.mpr w2] at q
          exact kz_t q
        · rw [← em]
          refine K (BRv_take (fun D hD => VC_pos hD) br vs2 (hx.mp ?_))
          cases e : x with
          | true => rfl
          | false => rw [e] at q; exact absurd rfl q
  · rintro ⟨x, w⟩ ⟨g1, g2⟩
    dsimp only at g1 g2
    subst g1
    unfold q_X7_about_L18
    dsimp only
    simp only [kwp_kb, kwp_some, kwp_kg, kwp_kif, kwp_kl]
    exact ⟨⟨⟨by omega, by omega⟩, ⟨by omega, by omega⟩⟩, fun _ => ⟨by trivial, by trivial, g2⟩, fun q => by omega⟩
theorem q_ringA {z8 : tZ8} {z1 : tZ1} {l : List Spt} (H : SPc z8 l) (hb : bdL l) (hl : l.length ≤ 40) (h0 : 0 < l.length) {N : Nat} (hN : N ≤ 780) (h1 : z1.2 = (N : Int)) (hA : ∀ t, t < N → ∃ i j, CpA l z1.1 t i j) (z : tZ7) :
    kwp (q_X7_about z z8 z1) (fun z' => RS7 l (VC l z1.1 N 0) z') := by
  unfold q_X7_about
  simp only [kwp_kb, kwp_some, kwp_kg, kwp_kif, kwp_kl]
  refine w_mono (w_for (ex := 76) (by decide) (fun a (s : Int × tZ7) => s.1 = (a : Int) ∧ RS7 l (VC l z1.1 a 0) s.2) N ?_ ?_ (Nat.zero_le _) (by have := kF_eq; omega) ⟨rfl, Or.inl ⟨rfl, fun C ⟨p, q, _, _, _, _, h2, h3, _⟩ => by omega⟩⟩) (fun e g => ⟨g.1, g.2.2⟩)
  · rintro a ⟨x, w⟩ ha ⟨g1, g2⟩
    dsimp only at g1 g2
    subst g1
    unfold q_X7_about_L7 q_X1_count
    dsimp only
    rw [h1]
    simp only [kwp_kb, kwp_some, kwp_kg, kwp_kif, kwp_kl]
    refine ⟨⟨⟨by omega, by omega⟩, ⟨by omega, by omega⟩⟩, fun q => by omega, fun _ => w_mono (q_ring18 H hb hl h0 hN h1 hA ha g2) ?_⟩
    rintro ⟨lb, x, w2⟩ ⟨f0, f1⟩
    dsimp only at f0 f1 ⊢
    refine ⟨f0, by trivial, by omega, RS_same f1 (fun D => ?_)⟩
    constructor
    · rintro ⟨p, q, i, j, k, m, h2, h3, h4⟩
      exact ⟨p, q, i, j, k, m, h2, by omega, h4⟩
    · rintro ⟨p, q, i, j, k, m, h2, h3, h4⟩
      exact ⟨p, q, i, j, k, m, h2, by omega, h4⟩
  · rintro ⟨x, w⟩ ⟨g1, g2⟩
    dsimp only at g1 g2
    subst g1
    unfold q_X7_about_L7 q_X1_count
    dsimp only
    rw [h1]
    simp only [kwp_kb, kwp_some, kwp_kg, kwp_kif, kwp_kl]
    exact ⟨⟨⟨by omega, by omega⟩, ⟨by omega, by omega⟩⟩, fun _ => ⟨by trivial, by trivial, g2⟩, fun q => by omega⟩
/-- all of them are there -/
theorem VC_all {l : List Spt} (hl : l.length ≤ 40) {A : Nat → Int} (pm : PM (cuN l) A (cuB l)) (C : Ctr) : VC l A (cuN l) 0 C ↔ cand l C := by
  constructor
  · rintro ⟨p, q, i, j, k, m, _, _, h3, h4, h5, h6⟩
    exact ⟨i, j, k, m, h3.2.1, h3.2.2, h4.2.1, h4.2.2, h5, h6⟩
  · rintro ⟨i, j, k, m, h1, h2, h3, h4, h5, h6⟩
    obtain ⟨p, hp, ep⟩ := PM_ex (P := fun v => v = ky l i j) pm (pa_cov l l.length i j (by omega) h1 h2)
    obtain ⟨q, hq, eq⟩ := PM_ex (P := fun v => v = ky l k m) pm (pa_cov l l.length k m (by omega) h3 h4)
    by_cases w : q < p
    · exact ⟨p, q, i, j, k, m, w, Or.inl hp, ⟨ep, h1, h2⟩, ⟨eq, h3, h4⟩, h5, h6⟩
    · by_cases w2 : p < q
      · exact ⟨q, p, k, m, i, j, w2, Or.inl hq, ⟨eq, h3, h4⟩, ⟨ep, h1, h2⟩, by rw [crs_sw]; omega, by rw [ctr_sw h5]; exact h6⟩
      · exfalso
        have e : p = q := by omega
        rw [e, eq] at ep
        have o := ky_inj hl h4 h2 h3 h1 ep
        rw [o.1, o.2] at h5
        refine h5 ?_
        unfold crs
        grind
theorem q_tellR {l : List Spt} (hb : bdL l) (h0 : 0 < l.length) {C : Ctr} (hC : bdR C) {z : tZ7} (h : z.1 = C.1 ∧ z.2.1 = C.2.1 ∧ z.2.2.1 = C.2.2 ∧ z.2.2.2.1 = inC l C ∧ z.2.2.2.2.1 = ouC l C) (f : tZ3) {w : Int} (hw : 0 ≤ w ∧ w ≤ 9) :
    kwp (q_X7_tell z f (w.tdiv 2)) (fun f' => q_X3_part f' (w - w.tdiv 2 * 2) = some (tlC l C w)) := by
  have io := io_bd hb h0 hC
  have k := bdR_k hC
  have e2 : w.tdiv 2 = w / 2 := Int.tdiv_eq_ediv_of_nonneg hw.1
  have s0 := q_set (z := f) (a := ouC l C - inC l C) ⟨by omega, by omega⟩ k.2.2.1 k.2.1
  have s1 := q_set (z := f) (a := inC l C) ⟨by omega, by omega⟩ k.2.2.1 k.2.1
  have s2 := q_set (z := f) (a := ouC l C) ⟨by omega, by omega⟩ k.2.2.1 k.2.1
  have s3 := q_set (z := f) k.2.2.2.1 hC.1 k.1
  have s4 := q_set (z := f) k.2.2.2.2 hC.1 k.1
  rw [e2]
  unfold q_X7_tell q_X7_tell_J96
  rw [h.1, h.2.1, h.2.2.1, h.2.2.2.1, h.2.2.2.2, s0, s1, s2, s3, s4]
  simp only [kwp_kb, kwp_some, kwp_kg, kwp_kif, kwp_kl]
  have pt : ∀ g : tZ3, q_X3_part g (w - w / 2 * 2) = some (if w % 2 = 0 then g.1 else g.2) := fun g => by
    rw [q_part ⟨by omega, by omega⟩]
    congr 1
    by_cases q : w % 2 = 0
    · rw [if_pos (by omega), if_pos q]
    · rw [if_neg (by omega), if_neg q]
  rw [pt, pt, pt, pt, pt]
  unfold tlC
  refine ⟨⟨by omega, by omega⟩, fun q => ?_, fun q => ⟨fun q1 => ?_, fun q1 => ⟨fun q2 => ?_, fun q2 => ⟨fun q3 => ?_, fun q3 => ?_⟩⟩⟩⟩
  · rcases (show w = 0 ∨ w = 1 by omega) with rfl | rfl <;> rfl
  · rcases (show w = 2 ∨ w = 3 by omega) with rfl | rfl <;> rfl
  · rcases (show w = 4 ∨ w = 5 by omega) with rfl | rfl <;> rfl
  · rcases (show w = 6 ∨ w = 7 by omega) with rfl | rfl <;> rfl
  · rcases (show w = 8 ∨ w = 9 by omega) with rfl | rfl <;> rfl
