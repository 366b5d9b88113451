/-! ===== heaviest, spots, spot ===== -/
def bc (t : Nat) : Int := [0, 1, 1, 2, 1, 2, 2, 3, 1, 2, 2, 3, 2, 3, 3, 4].getD t 0
theorem q_bcT : ∀ t : Fin 16, q_J6_bitCount_0f7a4 (t.val : Int) = some (bc t.val) := by decide +kernel
theorem qm_bcT : ∀ t : Fin 16, q_X12_bits (t.val : Int) = some (bc t.val) := by decide +kernel
theorem bcT_k : ∀ t : Fin 16, 0 ≤ bc t.val ∧ bc t.val ≤ 4 := by decide +kernel
theorem q_bc {t : Nat} (h : t < 16) : q_J6_bitCount_0f7a4 (t : Int) = some (bc t) := q_bcT ⟨t, h⟩
theorem qm_bc {t : Nat} (h : t < 16) : q_X12_bits (t : Int) = some (bc t) := qm_bcT ⟨t, h⟩
theorem bc_k {t : Nat} (h : t < 16) : 0 ≤ bc t ∧ bc t ≤ 4 := bcT_k ⟨t, h⟩
noncomputable def hB (ok : Nat → Bool) (f : Nat → Int × Int) : Nat → Nat
  | 0 => 0
  | t + 1 => if ok (t + 1) = true ∧ (hB ok f t = 0 ∨ 0 < sgc (f (t + 1)).1 (f (t + 1)).2 (f (hB ok f t)).1 (f (hB ok f t)).2) then t + 1 else hB ok f t
theorem hB_le (ok : Nat → Bool) (f : Nat → Int × Int) : ∀ t, hB ok f t ≤ t := by
  intro t
  induction t with
  | zero => exact Nat.le_refl _
  | succ t ih => unfold hB; split <;> omega
theorem hB_ok (ok : Nat → Bool) (f : Nat → Int × Int) : ∀ t, hB ok f t ≠ 0 → ok (hB ok f t) = true := by
  intro t
  induction t with
  | zero => exact fun h => absurd rfl h
  | succ t ih =>
    unfold hB
    split
    · rename_i h
      exact fun _ => h.1
    · exact ih
def hI (ok : Nat → Bool) (f : Nat → Int × Int) (i : Nat) (cm : Int) (p : Int × Int) : Prop := (hB ok f i = 0 → cm = -1) ∧ (hB ok f i ≠ 0 → cm = (hB ok f i : Int) ∧ p = f (hB ok f i))
theorem hI_keep {ok : Nat → Bool} {f : Nat → Int × Int} {i : Nat} {cm : Int} {p : Int × Int} (h : hI ok f i cm p) (g : ok (i + 1) = false ∨ (cm ≠ -1 ∧ sgc (f (i + 1)).1 (f (i + 1)).2 p.1 p.2 ≤ 0)) : hI ok f (i + 1) cm p := by
  have e : hB ok f (i + 1) = hB ok f i := by
    show (if ok (i + 1) = true ∧ (hB ok f i = 0 ∨ 0 < sgc (f (i + 1)).1 (f (i + 1)).2 (f (hB ok f i)).1 (f (hB ok f i)).2) then i + 1 else hB ok f i) = _
    refine if_neg (fun w => ?_)
    rcases g with g | ⟨g1, g2⟩
    · rw [g] at w
      exact absurd w.1 (by decide)
    · have n : hB ok f i ≠ 0 := fun e => g1 (h.1 e)
      rw [(h.2 n).2] at g2
      rcases w.2 with e | e
      · exact n e
      · omega
  unfold hI
  rw [e]
  exact h
theorem hI_take {ok : Nat → Bool} {f : Nat → Int × Int} {i : Nat} {cm : Int} {p : Int × Int} (h : hI ok f i cm p) (g : ok (i + 1) = true) (g2 : cm = -1 ∨ 0 < sgc (f (i + 1)).1 (f (i + 1)).2 p.1 p.2) : hI ok f (i + 1) ((i : Int) + 1) (f (i + 1)) := by
  have e : hB ok f (i + 1) = i + 1 := by
    show (if ok (i + 1) = true ∧ (hB ok f i = 0 ∨ 0 < sgc (f (i + 1)).1 (f (i + 1)).2 (f (hB ok f i)).1 (f (hB ok f i)).2) then i + 1 else hB ok f i) = _
    refine if_pos ⟨g, ?_⟩
    by_cases n : hB ok f i = 0
    · exact Or.inl n
    · have k := h.2 n
      rcases g2 with g2 | g2
      · omega
      · rw [k.2] at g2
        exact Or.inr g2
  unfold hI
  rw [e]
  exact ⟨fun w => by omega, fun _ => ⟨by omega, rfl⟩⟩
theorem hI_k {ok : Nat → Bool} {f : Nat → Int × Int} {i : Nat} {cm : Int} {p : Int × Int} (h : hI ok f i cm p) (hi : i ≤ 15) : k32 cm ∧ (cm ≠ -1 → ok (hB ok f i) = true ∧ p = f (hB ok f i)) := by
  have := hB_le ok f i
  by_cases n : hB ok f i = 0
  · rw [h.1 n]
    exact ⟨by decide, fun w => absurd rfl w⟩
  · have k := h.2 n
    exact ⟨⟨by omega, by omega⟩, fun _ => ⟨hB_ok ok f i n, k.2⟩⟩
noncomputable def fS (r : Nat → Int) (set : Nat) : Int × Int := (szN (MT r (set : Int) (r 128)), szD (MT r (set : Int) (r 128)))
noncomputable def okS (r : Nat → Int) (w : Int) (set : Nat) : Bool := decide (bc set = w + 1) && decide (0 < (GL r (set : Int) (r 128)).length)
theorem fS_eq {r : Nat → Int} {set : Nat} (H : VR r) (h0 : 0 < (GL r (set : Int) (r 128)).length) {C : Cir} (hC : mecOf (lX (GL r (set : Int) (r 128))) (lY (GL r (set : Int) (r 128))) aM (GL r (set : Int) (r 128)).length C) : (szN C, szD C) = fS r set := by
  have e := MT_sz H H.2.2 h0 hC
  unfold fS
  rw [e.1, e.2]
theorem fS_ok {r : Nat → Int} {set : Nat} (H : VR r) (h0 : 0 < (GL r (set : Int) (r 128)).length) : okF (fS r set) := by
  have ok := GL_ok (set := (set : Int)) (t := r 128) H H.2.2
  obtain ⟨z8, hz8⟩ : ∃ z8 : tZ8, SPc z8 (GL r (set : Int) (r 128)) := ⟨(fun i => (g8 (GL r (set : Int) (r 128)) i).1, fun i => (g8 (GL r (set : Int) (r 128)) i).2.1, fun i => (g8 (GL r (set : Int) (r 128)) i).2.2, ((GL r (set : Int) (r 128)).length : Int)), rfl, by omega, fun i _ => ⟨rfl, rfl, rfl⟩⟩
  obtain ⟨z, _, h1, h2, _⟩ := q_about (z := (0, 0, 0, 0, 0, fun _ => 0, 0, fun _ => 0, 0)) hz8 ok.2.1 ok.2.2 h0
  rw [← fS_eq H h0 (mecOf_in0 h1)]
  exact okF_C (bdC_z h2)
theorem FQ_HR {m s : tZ12} {r : Nat → Int} (H : HR r (m.2.2.1 0)) (h : FQ m s) : HR r (s.2.2.1 0) := by
  rw [h.2.2.1 0 (by decide)]
  exact H
theorem T_heaviest {z11 : tZ11} {z4 : tZ4} {z9 : tZ9} {z10 : tZ10} {z8 : tZ8} {z0 : tZ0} {z3 z3' : tZ3} {m : tZ12} (H : REL z4 z9 z10 m) {w : Int} (hw : k32 w) : QRI m (q_X11_heaviest z11 z4 z8 z0 z3 z3' w) (q_X12_heaviest m w) := by
  have hH := H.1.1
  by_cases hw0 : 0 ≤ w ∧ w ≤ 1
  · obtain ⟨f, hf⟩ : ∃ f, f = fS z4.1 := ⟨_, rfl⟩
    obtain ⟨ok, hok⟩ : ∃ ok, ok = okS z4.1 w := ⟨_, rfl⟩
    have okp : ∀ t, ok t = true → bc t = w + 1 ∧ 0 < (GL z4.1 (t : Int) (z4.1 128)).length := fun t ht => by
      rw [hok] at ht
      unfold okS at ht
      rw [Bool.and_eq_true, decide_eq_true_iff, decide_eq_true_iff] at ht
      exact ht
    have okq : ∀ t, bc t = w + 1 → 0 < (GL z4.1 (t : Int) (z4.1 128)).length → ok t = true := fun t h1 h2 => by
      rw [hok]
      unfold okS
      rw [decide_eq_true h1, decide_eq_true h2]
      rfl
    have okn : ∀ t, (bc t ≠ w + 1 ∨ ¬ 0 < (GL z4.1 (t : Int) (z4.1 128)).length) → ok t = false := fun t h => by
      cases e : ok t with
      | false => rfl
      | true =>
        have := okp t e
        rcases h with h | h
        · exact absurd this.1 h
        · exact absurd this.2 h
    have fok : ∀ t, ok t = true → okF (f t) := fun t ht => by rw [hf]; exact fS_ok hH.1 (okp t ht).2
    have hb := hB_le ok f 15
    refine qri_of (if hB ok f 15 = 0 then -1 else (hB ok f 15 : Int)) ?_ ?_ (by split; exact (by decide); exact ⟨by omega, by omega⟩)
    · unfold q_X11_heaviest
      simp only [kwp_kg, kwp_kif, kwp_kb, kwp_some]
      refine ⟨hw, fun q => by omega, fun _ => ⟨fun _ => ?_, fun q => by omega⟩⟩
      refine w_mono (w_for (ex := 126) (by decide) (fun i (s : Int × Int × tZ8 × tZ0 × tZ3 × tZ3) => s.2.1 = (i : Int) + 1 ∧ hI ok f i s.1 s.2.2.2.2.2) 15 ?_ ?_ (Nat.zero_le _) (by decide) ⟨rfl, fun _ => rfl, fun h => absurd rfl h⟩) ?_
      · rintro i ⟨cm, c, s8, s0, s3, sb⟩ hi ⟨rfl, h⟩
        dsimp only at h
        have hk := hI_k h (by omega)
        have ei : (i : Int) + 1 = ((i + 1 : Nat) : Int) := by omega
        unfold q_X11_heaviest_L15
        simp only [kwp_kg, kwp_kif, kwp_kb, kwp_some, kwp_kl]
        refine ⟨⟨by omega, by omega⟩, fun q => by omega, fun _ => ?_⟩
        rw [ei]
        have bk := bc_k (t := i + 1) (by omega)
        refine w_of (q_bc (by omega)) ⟨⟨⟨by omega, by omega⟩, ⟨by omega, by omega⟩⟩, fun e => ?_, fun e => ⟨by trivial, by omega, hI_keep h (Or.inl (okn _ (Or.inl e)))⟩⟩
        refine w_mono (q_gather hH.1 ⟨by omega, by omega⟩) ?_
        rintro ⟨b', z'⟩ hh
        rcases hh with ⟨hh, rfl⟩ | ⟨h3, rfl, hS⟩
        · refine ⟨fun _ => ⟨by trivial, by omega, hI_keep h (Or.inl (okn _ (Or.inr (fun v => hh ⟨by omega, by omega, v⟩))))⟩, fun q => (q (by trivial)).elim⟩
        · dsimp only at hS ⊢
          have o1 := okq _ e h3.2.2
          refine ⟨fun q => absurd q kz_t, fun _ => w_mono (q_mec hH.1 hH.1.2.2 hS h3.2.2) (fun z'' ⟨g1, g2, g3, _⟩ => ?_)⟩
          have ef := fS_eq hH.1 h3.2.2 g1
          rw [← hf] at ef
          have o := fok _ o1
          have e0 : q_X0_size z'' s3 = some (f (i + 1)) := by rw [q_size g2 s3]; exact congrArg some ef
          refine w_of e0 ?_
          have J : (cm = -1 ∨ 0 < sgc (f (i + 1)).1 (f (i + 1)).2 sb.1 sb.2) → kwp (q_X11_heaviest_J95_15 z11 z4 w z' z'' (f (i + 1)) sb ((i + 1 : Nat) : Int)) (fun e => e.1 = 15 ∧ e.2.2.1 = ((i + 1 : Nat) : Int) + 1 ∧ hI ok f (i + 1) e.2.1 e.2.2.2.2.2.2) := fun hl => by
            unfold q_X11_heaviest_J95_15
            rw [q_part0, q_part1]
            simp only [kwp_kb, kwp_some, kwp_kl]
            rw [q_set o.2.1 o.2.2.1 o.2.2.2.1]
            simp only [kwp_some]
            refine ⟨by trivial, by trivial, ?_⟩
            rw [o.2.2.2.2.1, o.2.2.2.2.2]
            have t := hI_take h o1 hl
            rw [ei] at t
            exact t
          refine ⟨hk.1, fun q => J (Or.inl q), fun q => ?_⟩
          have k2 := hk.2 q
          have ob := fok _ k2.1
          rw [← k2.2] at ob
          rw [q_part0, q_part1]
          simp only [kwp_some]
          refine w_of (q_against (k64_63 o.2.1) o.2.2.1 (k64_63 o.2.2.2.1) (k64_63 ob.2.1) ob.2.2.1 (k64_63 ob.2.2.2.1)) ⟨sgc_k _ _ _ _, fun v => ⟨by trivial, by trivial, hI_keep h (Or.inr ⟨q, v⟩)⟩, fun v => J (Or.inr (by omega))⟩
      · rintro ⟨cm, c, s⟩ ⟨rfl, h⟩
        dsimp only at h
        unfold q_X11_heaviest_L15
        simp only [kwp_kg, kwp_kif, kwp_kb, kwp_some, kwp_kl]
        exact ⟨⟨by omega, by omega⟩, fun _ => ⟨by trivial, by trivial, h⟩, fun q => by omega⟩
      · rintro ⟨lb, cm, c, s⟩ ⟨h0, _, h⟩
        dsimp only at h0 h ⊢
        subst h0
        refine ⟨(by first | exact trivial | rfl), ?_⟩
        by_cases n : hB ok f 15 = 0
        · rw [h.1 n, if_pos n]
        · rw [(h.2 n).1, if_neg n]
    · unfold q_X12_heaviest
      rw [qm_isIn hw (by decide) (by decide), decide_eq_true hw0]
      simp only [kwp_kg, kwp_kif, kwp_kb, kwp_some, kwp_kl]
      refine ⟨fun q => absurd q kz_t, fun _ => ?_⟩
      refine w_mono (w_for (ex := 96) (by decide) (fun i (s : Int × Int × Int × Int × tZ12) => s.2.2.2.1 = (i : Int) + 1 ∧ FQ m s.2.2.2.2 ∧ hI ok f i s.1 (s.2.1, s.2.2.1)) 15 ?_ ?_ (Nat.zero_le _) (by decide) ⟨rfl, FQ_rfl m, fun _ => rfl, fun h => absurd rfl h⟩) ?_
      · rintro i ⟨cm, a, b, c, s⟩ hi ⟨rfl, fq, h⟩
        dsimp only at fq h
        have hk := hI_k h (by omega)
        have ei : (i : Int) + 1 = ((i + 1 : Nat) : Int) := by omega
        unfold q_X12_heaviest_L21
        simp only [kwp_kg, kwp_kif, kwp_kb, kwp_some, kwp_kl]
        refine ⟨⟨by omega, by omega⟩, fun q => by omega, fun _ => ?_⟩
        rw [ei]
        have bk := bc_k (t := i + 1) (by omega)
        refine w_of (qm_bc (by omega)) ⟨⟨⟨by omega, by omega⟩, ⟨by omega, by omega⟩⟩, fun e => ?_, fun e => ⟨by trivial, by omega, fq, hI_keep h (Or.inl (okn _ (Or.inl e)))⟩⟩
        refine w_mono (qm_hasCircle (FQ_HR hH fq) ⟨by omega, by omega⟩) ?_
        rintro ⟨b', m2⟩ ⟨f2, hh⟩
        rcases hh with ⟨hh, rfl⟩ | ⟨h3, rfl, _, C, hC, hmec⟩
        · exact ⟨fun _ => ⟨by trivial, by omega, FQ_trans fq f2, hI_keep h (Or.inl (okn _ (Or.inr (fun v => hh ⟨by omega, by omega, v⟩))))⟩, fun q => (q (by trivial)).elim⟩
        · dsimp only at f2 hC ⊢
          have ef := fS_eq hH.1 h3.2.2 hmec
          rw [← hf] at ef
          have s1 := MCs_sz hC
          have e1 : m2.2.1 21 = (f (i + 1)).1 := by rw [s1.1, ← ef]
          have e2 : m2.2.1 22 = (f (i + 1)).2 := by rw [s1.2, ← ef]
          rw [e1, e2]
          have o1 := okq _ e h3.2.2
          have o := fok _ o1
          have tk : (cm = -1 ∨ 0 < sgc (f (i + 1)).1 (f (i + 1)).2 a b) → hI ok f (i + 1) ((i + 1 : Nat) : Int) ((f (i + 1)).1, (f (i + 1)).2) := fun hl => by
            have t := hI_take h o1 hl
            rw [ei] at t
            exact t
          refine ⟨fun q => absurd q kz_t, fun _ => ⟨hk.1, fun q => ⟨by trivial, by omega, FQ_trans fq f2, tk (Or.inl q)⟩, fun q => ?_⟩⟩
          have k2 := hk.2 q
          have ob := fok _ k2.1
          rw [← k2.2] at ob
          refine w_of (qm_against o.1 (k64_63 o.2.1) o.2.2.1 (k64_63 o.2.2.2.1) ob.1 (k64_63 ob.2.1) ob.2.2.1 (k64_63 ob.2.2.2.1)) ⟨sgc_k _ _ _ _, fun v => ⟨by trivial, by omega, FQ_trans fq f2, tk (Or.inr v)⟩, fun v => ⟨by trivial, by omega, FQ_trans fq f2, hI_keep h (Or.inr ⟨q, by show sgc (f (i + 1)).1 (f (i + 1)).2 a b ≤ 0; omega⟩)⟩⟩
      · rintro ⟨cm, a, b, c, s⟩ ⟨rfl, h⟩
        dsimp only at h
        unfold q_X12_heaviest_L21
        simp only [kwp_kg, kwp_kif, kwp_kb, kwp_some, kwp_kl]
        exact ⟨⟨by omega, by omega⟩, fun _ => ⟨by trivial, by trivial, h⟩, fun q => by omega⟩
      · rintro ⟨lb, cm, a, b, c, s⟩ ⟨h0, _, fq, h⟩
        dsimp only at h0 fq h ⊢
        refine ⟨h0, ?_, FQ_frm fq⟩
        by_cases n : hB ok f 15 = 0
        · rw [h.1 n, if_pos n]
        · rw [(h.2 n).1, if_neg n]
  · refine qri_of (-1) ?_ ?_ (by decide)
    · unfold q_X11_heaviest
      simp only [kwp_kg, kwp_kif, kwp_kb, kwp_some]
      exact ⟨hw, fun _ => (by first | exact trivial | rfl), fun q => ⟨fun q2 => by omega, fun _ => (by first | exact trivial | rfl)⟩⟩
    · unfold q_X12_heaviest
      rw [qm_isIn hw (by decide) (by decide), decide_eq_false hw0]
      simp only [kwp_kg, kwp_kif, kwp_kb, kwp_some]
      exact ⟨fun _ => ⟨(by first | exact trivial | rfl), FRM_rfl m⟩, fun q => (q (by trivial)).elim⟩
