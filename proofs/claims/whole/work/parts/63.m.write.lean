/-! ===== write: the bytes ===== -/
def gB (bs : List Int) (i : Nat) : Int := bs.getD i 0
theorem gB_app {bs : List Int} {v : Int} {i : Nat} (h : i < bs.length) : gB (bs ++ [v]) i = gB bs i := by
  unfold gB
  rw [List.getD_eq_getElem?_getD, List.getD_eq_getElem?_getD, List.getElem?_append_left h]
theorem gB_top (bs : List Int) (v : Int) : gB (bs ++ [v]) bs.length = v := by
  unfold gB
  rw [List.getD_eq_getElem?_getD, List.getElem?_append_right (Nat.le_refl _), Nat.sub_self]
  rfl
theorem len_app (bs : List Int) (v : Int) : (bs ++ [v]).length = bs.length + 1 := by rw [List.length_append]; rfl
def WLc (z : tZ10) (bs : List Int) : Prop := z.2 = (bs.length : Int) ∧ ∀ i, i < bs.length → z.1 i = gB bs i ∧ 0 ≤ gB bs i ∧ gB bs i < 128
def WLm (m : tZ12) (bs : List Int) : Prop := m.1 55 = (bs.length : Int) ∧ ∀ i, i < bs.length → m.2.2.1 54 i = gB bs i
def FW (m m' : tZ12) : Prop := (∀ j, j ≠ 55 → m'.1 j = m.1 j) ∧ m'.2.1 = m.2.1 ∧ (∀ j, j ≠ 54 → m'.2.2.1 j = m.2.2.1 j) ∧ m'.2.2.2 = m.2.2.2
theorem FW_rfl (m : tZ12) : FW m m := ⟨fun _ _ => rfl, rfl, fun _ _ => rfl, rfl⟩
theorem FW_trans {a b c : tZ12} (h : FW a b) (g : FW b c) : FW a c :=
  ⟨fun j q => (g.1 j q).trans (h.1 j q), g.2.1.trans h.2.1, fun j q => (g.2.2.1 j q).trans (h.2.2.1 j q), g.2.2.2.trans h.2.2.2⟩
theorem WLc_app {z : tZ10} {bs : List Int} (h : WLc z bs) {v : Int} (h0 : 0 ≤ v ∧ v < 128) : WLc (va_up z.1 bs.length v, (bs.length : Int) + 1) (bs ++ [v]) := by
  refine ⟨by rw [len_app]; omega, fun i hi => ?_⟩
  rw [len_app] at hi
  by_cases e : i = bs.length
  · subst e
    rw [gB_top]
    exact ⟨va_same _ _ _, h0.1, h0.2⟩
  · rw [gB_app (by omega)]
    have g := h.2 i (by omega)
    exact ⟨(va_ne _ _ e).trans g.1, g.2⟩
theorem q_addByte {z : tZ10} {bs : List Int} (h : WLc z bs) (hl : bs.length < 400) {v : Int} (h0 : 0 ≤ v ∧ v < 128) : kwp (q_X10_addByte z v) (fun z' => WLc z' (bs ++ [v])) := by
  unfold q_X10_addByte
  rw [h.1]
  simp only [kwp_kg, kwp_kif, kwp_kl, kwp_some]
  rw [Int.toNat_natCast]
  exact ⟨⟨by omega, by omega⟩, fun _ => ⟨⟨by omega, by omega⟩, WLc_app h h0⟩, fun q => by omega⟩
theorem byte_same : ∀ v : Fin 128, znar (zbyte (v.val : Int)) = (v.val : Int) := by decide +kernel
theorem byte_eq {v : Int} (h : 0 ≤ v ∧ v < 128) : znar (zbyte v) = v := by
  have := byte_same ⟨v.toNat, by omega⟩
  dsimp only at this
  rw [show ((v.toNat : Nat) : Int) = v by omega] at this
  exact this
theorem qm_lay1 {m : tZ12} {bs : List Int} (h : WLm m bs) (hl : bs.length < 400) {v : Int} (h0 : 0 ≤ v ∧ v < 128) : kwp (q_X12_lay_ m v) (fun m' => FW m m' ∧ WLm m' (bs ++ [v])) := by
  unfold q_X12_lay_
  rw [h.1, byte_eq h0]
  simp only [kwp_kg, kwp_kif, kwp_kl, kwp_some]
  rw [Int.toNat_natCast, h.1]
  refine ⟨⟨by omega, by omega⟩, ⟨fun j q => va_ne _ _ q, rfl, fun j q => va_ne _ _ q, rfl⟩, ?_, fun i hi => ?_⟩
  · rw [len_app]
    show va_up m.1 55 ((bs.length : Int) + 1) 55 = _
    rw [va_same]
    omega
  · rw [len_app] at hi
    show va_up m.2.2.1 54 (va_up (m.2.2.1 54) bs.length v) 54 i = _
    rw [va_same]
    by_cases e : i = bs.length
    · subst e
      rw [gB_top, va_same]
    · rw [gB_app (by omega), va_ne _ _ e]
      exact h.2 i (by omega)
def huB (bs : List Int) (n : Int) : List Int := if 100 ≤ n then bs ++ [48 + n / 100] else bs
def teB (bs : List Int) (n : Int) : List Int := if 10 ≤ n then bs ++ [48 + n / 10 % 10] else bs
def sgB (bs : List Int) (v : Int) : List Int := if v < 0 then bs ++ [45] else bs
def nuB (bs : List Int) (v : Int) : List Int := teB (huB (sgB bs v) v.natAbs) v.natAbs ++ [48 + (v.natAbs : Int) % 10]
theorem nuB_len (bs : List Int) (v : Int) : (sgB bs v).length ≤ bs.length + 1 ∧ (huB (sgB bs v) v.natAbs).length ≤ bs.length + 2 ∧ (teB (huB (sgB bs v) v.natAbs) v.natAbs).length ≤ bs.length + 3 ∧ (nuB bs v).length ≤ bs.length + 4 := by
  have h1 : (sgB bs v).length ≤ bs.length + 1 := by unfold sgB; split <;> (try rw [len_app]) <;> omega
  have h2 : (huB (sgB bs v) v.natAbs).length ≤ (sgB bs v).length + 1 := by unfold huB; split <;> (try rw [len_app]) <;> omega
  have h3 : (teB (huB (sgB bs v) v.natAbs) v.natAbs).length ≤ (huB (sgB bs v) v.natAbs).length + 1 := by
    generalize huB (sgB bs v) v.natAbs = a
    unfold teB; split <;> (try rw [len_app]) <;> omega
  have h4 : (nuB bs v).length = (teB (huB (sgB bs v) v.natAbs) v.natAbs).length + 1 := len_app _ _
  omega
theorem q_addNumber {z : tZ10} {bs : List Int} (h : WLc z bs) {v : Int} (hv : v.natAbs ≤ 400) (hl : bs.length + 4 ≤ 400) : kwp (q_X10_addNumber z v) (fun z' => WLc z' (nuB bs v)) := by
  have ln := nuB_len bs v
  have J3 : ∀ z, WLc z (teB (huB (sgB bs v) v.natAbs) v.natAbs) → kwp (q_X10_addNumber_J55 v z (v.natAbs : Int)) (fun z' => WLc z' (nuB bs v)) := fun z h => by
    unfold q_X10_addNumber_J55
    rw [Int.tdiv_eq_ediv_of_nonneg (by omega), show (v.natAbs : Int) - (v.natAbs : Int) / 10 * 10 = (v.natAbs : Int) % 10 by omega]
    simp only [kwp_kg, kwp_kif, kwp_kl, kwp_some, kwp_kb]
    exact ⟨⟨by omega, by omega⟩, q_addByte h (by omega) ⟨by omega, by omega⟩⟩
  have J2 : ∀ z, WLc z (huB (sgB bs v) v.natAbs) → kwp (q_X10_addNumber_J35 v z (v.natAbs : Int)) (fun z' => WLc z' (nuB bs v)) := fun z h => by
    unfold q_X10_addNumber_J35
    rw [Int.tdiv_eq_ediv_of_nonneg (by omega), Int.tdiv_eq_ediv_of_nonneg (by omega), show (v.natAbs : Int) / 10 - (v.natAbs : Int) / 10 / 10 * 10 = (v.natAbs : Int) / 10 % 10 by omega]
    simp only [kwp_kg, kwp_kif, kwp_kl, kwp_some, kwp_kb]
    refine ⟨⟨by omega, by omega⟩, fun q => J3 z ?_, fun q => ⟨⟨by omega, by omega⟩, w_mono (q_addByte h (by omega) ⟨by omega, by omega⟩) (fun z1 h1 => J3 z1 ?_)⟩⟩
    · unfold teB
      rw [if_neg (by omega)]
      exact h
    · unfold teB
      rw [if_pos (by omega)]
      exact h1
  have J1 : ∀ z, WLc z (sgB bs v) → kwp (q_X10_addNumber_J15 v z (v.natAbs : Int)) (fun z' => WLc z' (nuB bs v)) := fun z h => by
    unfold q_X10_addNumber_J15
    rw [Int.tdiv_eq_ediv_of_nonneg (by omega), Int.tdiv_eq_ediv_of_nonneg (by omega), show (v.natAbs : Int) / 100 - (v.natAbs : Int) / 100 / 10 * 10 = (v.natAbs : Int) / 100 by omega]
    simp only [kwp_kg, kwp_kif, kwp_kl, kwp_some, kwp_kb]
    refine ⟨⟨by omega, by omega⟩, fun q => J2 z ?_, fun q => ⟨⟨by omega, by omega⟩, w_mono (q_addByte h (by omega) ⟨by omega, by omega⟩) (fun z1 h1 => J2 z1 ?_)⟩⟩
    · unfold huB
      rw [if_neg (by omega)]
      exact h
    · unfold huB
      rw [if_pos (by omega)]
      exact h1
  unfold q_X10_addNumber
  rw [q_abs32 ⟨by omega, by omega⟩]
  simp only [kwp_kg, kwp_kif, kwp_kl, kwp_some, kwp_kb]
  refine ⟨⟨by omega, by omega⟩, fun q => J1 z ?_, fun q => w_mono (q_addByte h (by omega) (by decide)) (fun z1 h1 => J1 z1 ?_)⟩
  · unfold sgB
    rw [if_neg (by omega)]
    exact h
  · unfold sgB
    rw [if_pos (by omega)]
    exact h1
theorem qm_layNumber {m : tZ12} {bs : List Int} (h : WLm m bs) {v : Int} (hv : v.natAbs ≤ 400) (hl : bs.length + 4 ≤ 400) : kwp (q_X12_layNumber m v) (fun m' => FW m m' ∧ WLm m' (nuB bs v)) := by
  have ln := nuB_len bs v
  have J3 : ∀ z, FW m z → WLm z (teB (huB (sgB bs v) v.natAbs) v.natAbs) → kwp (q_X12_layNumber_J58 v z (v.natAbs : Int)) (fun z' => FW m z' ∧ WLm z' (nuB bs v)) := fun z f h => by
    unfold q_X12_layNumber_J58
    rw [Int.tdiv_eq_ediv_of_nonneg (by omega), show (v.natAbs : Int) - (v.natAbs : Int) / 10 * 10 = (v.natAbs : Int) % 10 by omega]
    simp only [kwp_kg, kwp_kif, kwp_kl, kwp_some, kwp_kb]
    exact ⟨⟨by omega, by omega⟩, w_mono (qm_lay1 h (by omega) ⟨by omega, by omega⟩) (fun z1 h1 => ⟨FW_trans f h1.1, h1.2⟩)⟩
  have J2 : ∀ z, FW m z → WLm z (huB (sgB bs v) v.natAbs) → kwp (q_X12_layNumber_J38 v z (v.natAbs : Int)) (fun z' => FW m z' ∧ WLm z' (nuB bs v)) := fun z f h => by
    unfold q_X12_layNumber_J38
    rw [Int.tdiv_eq_ediv_of_nonneg (by omega), Int.tdiv_eq_ediv_of_nonneg (by omega), show (v.natAbs : Int) / 10 - (v.natAbs : Int) / 10 / 10 * 10 = (v.natAbs : Int) / 10 % 10 by omega]
    simp only [kwp_kg, kwp_kif, kwp_kl, kwp_some, kwp_kb]
    refine ⟨⟨by omega, by omega⟩, fun q => J3 z f ?_, fun q => ⟨⟨by omega, by omega⟩, w_mono (qm_lay1 h (by omega) ⟨by omega, by omega⟩) (fun z1 h1 => J3 z1 (FW_trans f h1.1) ?_)⟩⟩
    · unfold teB
      rw [if_neg (by omega)]
      exact h
    · unfold teB
      rw [if_pos (by omega)]
      exact h1.2
  have J1 : ∀ z, FW m z → WLm z (sgB bs v) → kwp (q_X12_layNumber_J20 v z (v.natAbs : Int)) (fun z' => FW m z' ∧ WLm z' (nuB bs v)) := fun z f h => by
    unfold q_X12_layNumber_J20
    rw [Int.tdiv_eq_ediv_of_nonneg (by omega)]
    simp only [kwp_kg, kwp_kif, kwp_kl, kwp_some, kwp_kb]
    refine ⟨⟨by omega, by omega⟩, fun q => J2 z f ?_, fun q => w_mono (qm_lay1 h (by omega) ⟨by omega, by omega⟩) (fun z1 h1 => J2 z1 (FW_trans f h1.1) ?_)⟩
    · unfold huB
      rw [if_neg (by omega)]
      exact h
    · unfold huB
      rw [if_pos (by omega)]
      exact h1.2
  have J0 : ∀ z, FW m z → WLm z (sgB bs v) → kwp (q_X12_layNumber_J10 v z) (fun z' => FW m z' ∧ WLm z' (nuB bs v)) := fun z f h => by
    unfold q_X12_layNumber_J10
    simp only [kwp_kg, kwp_kif, kwp_kl, kwp_some, kwp_kb]
    refine ⟨⟨by omega, by omega⟩, fun q => ?_, fun q => ?_⟩
    · have := J1 z f h
      rw [show ((v.natAbs : Nat) : Int) = v by omega] at this
      exact this
    · have := J1 z f h
      rw [show ((v.natAbs : Nat) : Int) = -v by omega] at this
      exact this
  unfold q_X12_layNumber
  simp only [kwp_kg, kwp_kif, kwp_kl, kwp_some, kwp_kb]
  refine ⟨⟨by omega, by omega⟩, fun q => J0 m (FW_rfl m) ?_, fun q => w_mono (qm_lay1 h (by omega) (by decide)) (fun z1 h1 => J0 z1 h1.1 ?_)⟩
  · unfold sgB
    rw [if_neg (by omega)]
    exact h
  · unfold sgB
    rw [if_pos (by omega)]
    exact h1.2
