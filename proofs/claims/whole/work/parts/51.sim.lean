/-! ===== the ideal programs: what a program over machine words has to do with one over Int ===== -/
abbrev k32 (x : Int) : Prop := -2147483648 ≤ x ∧ x < 2147483648
abbrev k64 (x : Int) : Prop := -9223372036854775808 ≤ x ∧ x < 9223372036854775808
def cF (f : Nat → Int) : Nat → Int32 := fun i => Int32.ofInt (f i)
def cG (f : Nat → Int) : Nat → Int64 := fun i => Int64.ofInt (f i)
def cFF (f : Nat → Nat → Int) : Nat → Nat → Int32 := fun j => cF (f j)
def cGG (f : Nat → Nat → Int) : Nat → Nat → Int64 := fun j => cG (f j)
def kzI (b : Bool) : Int := if b then 1 else 0
def zand32 (x y : Int) : Int := (Int32.ofInt x &&& Int32.ofInt y).toInt
def zor32 (x y : Int) : Int := (Int32.ofInt x ||| Int32.ofInt y).toInt
def zxor32 (x y : Int) : Int := (Int32.ofInt x ^^^ Int32.ofInt y).toInt
def zshl32 (x y : Int) : Int := (Int32.ofInt x <<< Int32.ofInt y).toInt
def zshr32 (x y : Int) : Int := (Int32.ofInt x >>> Int32.ofInt y).toInt
def zand64 (x y : Int) : Int := (Int64.ofInt x &&& Int64.ofInt y).toInt
def zor64 (x y : Int) : Int := (Int64.ofInt x ||| Int64.ofInt y).toInt
def zxor64 (x y : Int) : Int := (Int64.ofInt x ^^^ Int64.ofInt y).toInt
def zshl64 (x y : Int) : Int := (Int64.ofInt x <<< Int64.ofInt y).toInt
def zshr64 (x y : Int) : Int := (Int64.ofInt x >>> Int64.ofInt y).toInt
def zbyte (x : Int) : Int := (Int32.ofInt x).toInt8.toInt32.toInt
def znar (x : Int) : Int := (vp_nar .byte (Int32.ofInt x)).toInt
theorem c_add {a b : Int32} {x y : Int} (h1 : a = Int32.ofInt x) (h2 : b = Int32.ofInt y) : a + b = Int32.ofInt (x + y) := by rw [h1, h2, Int32.ofInt_add]
theorem c_sub {a b : Int32} {x y : Int} (h1 : a = Int32.ofInt x) (h2 : b = Int32.ofInt y) : a - b = Int32.ofInt (x - y) := by rw [h1, h2, Int32.ofInt_sub]
theorem c_mul {a b : Int32} {x y : Int} (h1 : a = Int32.ofInt x) (h2 : b = Int32.ofInt y) : a * b = Int32.ofInt (x * y) := by rw [h1, h2, Int32.ofInt_mul]
theorem c_neg {a : Int32} {x : Int} (h1 : a = Int32.ofInt x) : -a = Int32.ofInt (-x) := by rw [h1, Int32.ofInt_neg]
theorem d_add {a b : Int64} {x y : Int} (h1 : a = Int64.ofInt x) (h2 : b = Int64.ofInt y) : a + b = Int64.ofInt (x + y) := by rw [h1, h2, Int64.ofInt_add]
theorem d_sub {a b : Int64} {x y : Int} (h1 : a = Int64.ofInt x) (h2 : b = Int64.ofInt y) : a - b = Int64.ofInt (x - y) := by rw [h1, h2, Int64.ofInt_sub]
theorem d_mul {a b : Int64} {x y : Int} (h1 : a = Int64.ofInt x) (h2 : b = Int64.ofInt y) : a * b = Int64.ofInt (x * y) := by rw [h1, h2, Int64.ofInt_mul]
theorem d_neg {a : Int64} {x : Int} (h1 : a = Int64.ofInt x) : -a = Int64.ofInt (-x) := by rw [h1, Int64.ofInt_neg]
theorem t32 {x : Int} (h : k32 x) : (Int32.ofInt x).toInt = x := Int32.toInt_ofInt_of_le h.1 h.2
theorem t64 {x : Int} (h : k64 x) : (Int64.ofInt x).toInt = x := Int64.toInt_ofInt_of_le h.1 h.2
theorem c_div {a b : Int32} {x y : Int} (h1 : a = Int32.ofInt x) (h2 : b = Int32.ofInt y) (g1 : k32 x) (g2 : k32 y) : a / b = Int32.ofInt (x.tdiv y) := by
  rw [h1, h2]
  exact (Int32.ofInt_tdiv g1.1 (Int.le_of_lt_add_one g1.2) g2.1 (Int.le_of_lt_add_one g2.2)).symm
theorem d_div {a b : Int64} {x y : Int} (h1 : a = Int64.ofInt x) (h2 : b = Int64.ofInt y) (g1 : k64 x) (g2 : k64 y) : a / b = Int64.ofInt (x.tdiv y) := by
  rw [h1, h2]
  exact (Int64.ofInt_tdiv g1.1 (Int.le_of_lt_add_one g1.2) g2.1 (Int.le_of_lt_add_one g2.2)).symm
theorem o32 (a : Int32) : a = Int32.ofInt a.toInt := (Int32.ofInt_toInt a).symm
theorem o64 (a : Int64) : a = Int64.ofInt a.toInt := (Int64.ofInt_toInt a).symm
theorem c_and {a b : Int32} {x y : Int} (h1 : a = Int32.ofInt x) (h2 : b = Int32.ofInt y) : a &&& b = Int32.ofInt (zand32 x y) := by rw [h1, h2]; exact o32 _
theorem c_or {a b : Int32} {x y : Int} (h1 : a = Int32.ofInt x) (h2 : b = Int32.ofInt y) : a ||| b = Int32.ofInt (zor32 x y) := by rw [h1, h2]; exact o32 _
theorem c_xor {a b : Int32} {x y : Int} (h1 : a = Int32.ofInt x) (h2 : b = Int32.ofInt y) : a ^^^ b = Int32.ofInt (zxor32 x y) := by rw [h1, h2]; exact o32 _
theorem c_shl {a b : Int32} {x y : Int} (h1 : a = Int32.ofInt x) (h2 : b = Int32.ofInt y) : a <<< b = Int32.ofInt (zshl32 x y) := by rw [h1, h2]; exact o32 _
theorem c_shr {a b : Int32} {x y : Int} (h1 : a = Int32.ofInt x) (h2 : b = Int32.ofInt y) : a >>> b = Int32.ofInt (zshr32 x y) := by rw [h1, h2]; exact o32 _
theorem d_and {a b : Int64} {x y : Int} (h1 : a = Int64.ofInt x) (h2 : b = Int64.ofInt y) : a &&& b = Int64.ofInt (zand64 x y) := by rw [h1, h2]; exact o64 _
theorem d_or {a b : Int64} {x y : Int} (h1 : a = Int64.ofInt x) (h2 : b = Int64.ofInt y) : a ||| b = Int64.ofInt (zor64 x y) := by rw [h1, h2]; exact o64 _
theorem d_xor {a b : Int64} {x y : Int} (h1 : a = Int64.ofInt x) (h2 : b = Int64.ofInt y) : a ^^^ b = Int64.ofInt (zxor64 x y) := by rw [h1, h2]; exact o64 _
theorem d_shl {a b : Int64} {x y : Int} (h1 : a = Int64.ofInt x) (h2 : b = Int64.ofInt y) : a <<< b = Int64.ofInt (zshl64 x y) := by rw [h1, h2]; exact o64 _
theorem d_shr {a b : Int64} {x y : Int} (h1 : a = Int64.ofInt x) (h2 : b = Int64.ofInt y) : a >>> b = Int64.ofInt (zshr64 x y) := by rw [h1, h2]; exact o64 _
theorem c_byte {a : Int32} {x : Int} (h : a = Int32.ofInt x) : a.toInt8.toInt32 = Int32.ofInt (zbyte x) := by rw [h]; exact o32 _
theorem c_nar {a : Int32} {x : Int} (h : a = Int32.ofInt x) : vp_nar .byte a = Int32.ofInt (znar x) := by rw [h]; exact o32 _
theorem c_kz (b : Bool) : kz b = Int32.ofInt (kzI b) := by cases b <;> decide +kernel
theorem c_toJ {a : Int32} {x : Int} (h : a = Int32.ofInt x) (g : k32 x) : a.toInt64 = Int64.ofInt x := by
  rw [h]
  exact Int32.toInt64_ofInt g.1 (Int.le_of_lt_add_one g.2)
theorem c_toI {a : Int64} {x : Int} (h : a = Int64.ofInt x) : a.toInt32 = Int32.ofInt x := by rw [h]; exact Int64.toInt32_ofInt
theorem c_ofNat (n : Nat) : Int32.ofNat n = Int32.ofInt (n : Int) := Int32.ofInt_eq_ofNat.symm
theorem c_idx {a : Int32} {x n : Int} (h : a = Int32.ofInt x) (g : 0 ≤ x ∧ x < n) (hn : n ≤ 4096) : a.toNatClampNeg = x.toNat := by
  rw [h]
  exact Int32.toNatClampNeg_ofInt_of_le (by omega) (by omega)
theorem k32_ix {x n : Int} (g : 0 ≤ x ∧ x < n) (hn : n ≤ 4096) : k32 x := ⟨by omega, by omega⟩
theorem k32_to (a : Int32) : k32 a.toInt := ⟨a.le_toInt, a.toInt_lt⟩
theorem k64_to (a : Int64) : k64 a.toInt := ⟨a.le_toInt, a.toInt_lt⟩
theorem k32_kz (b : Bool) : k32 (kzI b) := by cases b <;> decide
theorem k64_of {x : Int} (h : k32 x) : k64 x := ⟨by have := h.1; omega, by have := h.2; omega⟩
theorem ixL {x : Int} {L : Nat} (h : 0 ≤ x ∧ x < (L : Int) ∧ L ≤ 4096) : 0 ≤ x ∧ x < 4096 := ⟨h.1, by omega⟩
theorem c_pr {α β : Type} {a a' : α} {b b' : β} (h1 : a = a') (h2 : b = b') : (a, b) = (a', b') := by rw [h1, h2]
theorem c_ap (F : Nat → Int) {i j : Nat} (h : i = j) : Int32.ofInt (F i) = Int32.ofInt (F j) := by rw [h]
theorem d_ap (F : Nat → Int) {i j : Nat} (h : i = j) : Int64.ofInt (F i) = Int64.ofInt (F j) := by rw [h]
theorem c_app (F : Nat → Nat → Int) {i j : Nat} (h : i = j) : cF (F i) = cF (F j) := by rw [h]
theorem d_app (F : Nat → Nat → Int) {i j : Nat} (h : i = j) : cG (F i) = cG (F j) := by rw [h]
theorem c_upd {F : Nat → Int32} {f : Nat → Int} {i j : Nat} {a : Int32} {x : Int} (h1 : F = cF f) (h2 : i = j) (h3 : a = Int32.ofInt x) : upd F i a = cF (va_up f j x) := by
  subst h1 h2 h3
  funext k
  unfold upd cF va_up
  by_cases h : k = i
  · rw [if_pos h, if_pos h]
  · rw [if_neg h, if_neg h]
theorem c_vup {F : Nat → Int32} {f : Nat → Int} {i j : Nat} {a : Int32} {x : Int} (h1 : F = cF f) (h2 : i = j) (h3 : a = Int32.ofInt x) : va_up F i a = cF (va_up f j x) := c_upd h1 h2 h3
theorem d_upd {F : Nat → Int64} {f : Nat → Int} {i j : Nat} {a : Int64} {x : Int} (h1 : F = cG f) (h2 : i = j) (h3 : a = Int64.ofInt x) : vp_updL F i a = cG (va_up f j x) := by
  subst h1 h2 h3
  funext k
  unfold vp_updL cG va_up
  by_cases h : k = i
  · rw [if_pos h, if_pos h]
  · rw [if_neg h, if_neg h]
theorem d_vup {F : Nat → Int64} {f : Nat → Int} {i j : Nat} {a : Int64} {x : Int} (h1 : F = cG f) (h2 : i = j) (h3 : a = Int64.ofInt x) : va_up F i a = cG (va_up f j x) := d_upd h1 h2 h3
theorem c_vupp {F : Nat → Nat → Int32} {f : Nat → Nat → Int} {i j : Nat} {a : Nat → Int32} {x : Nat → Int} (h1 : F = cFF f) (h2 : i = j) (h3 : a = cF x) : va_up F i a = cFF (va_up f j x) := by
  subst h1 h2 h3
  funext k
  unfold cFF va_up
  by_cases h : k = i
  · rw [if_pos h, if_pos h]
  · rw [if_neg h, if_neg h]
theorem d_vupp {F : Nat → Nat → Int64} {f : Nat → Nat → Int} {i j : Nat} {a : Nat → Int64} {x : Nat → Int} (h1 : F = cGG f) (h2 : i = j) (h3 : a = cG x) : va_up F i a = cGG (va_up f j x) := by
  subst h1 h2 h3
  funext k
  unfold cGG va_up
  by_cases h : k = i
  · rw [if_pos h, if_pos h]
  · rw [if_neg h, if_neg h]
theorem c_cpy {F H : Nat → Int32} {f h : Nat → Int} (h1 : F = cF f) (h2 : H = cF h) : va_cpy F H 0 0 129 = cF (va_cpy f h 0 0 129) := by
  subst h1 h2
  funext k
  unfold cF va_cpy
  by_cases h : 0 ≤ k ∧ k < 0 + 129
  · rw [if_pos h, if_pos h]
  · rw [if_neg h, if_neg h]
theorem i_lt {a b : Int32} {x y : Int} (h1 : a = Int32.ofInt x) (h2 : b = Int32.ofInt y) (g1 : k32 x) (g2 : k32 y) : (x < y) ↔ (a < b) := by rw [Int32.lt_iff_toInt_lt, h1, h2, t32 g1, t32 g2]
theorem i_le {a b : Int32} {x y : Int} (h1 : a = Int32.ofInt x) (h2 : b = Int32.ofInt y) (g1 : k32 x) (g2 : k32 y) : (x ≤ y) ↔ (a ≤ b) := by rw [Int32.le_iff_toInt_le, h1, h2, t32 g1, t32 g2]
theorem i_eq {a b : Int32} {x y : Int} (h1 : a = Int32.ofInt x) (h2 : b = Int32.ofInt y) (g1 : k32 x) (g2 : k32 y) : (x = y) ↔ (a = b) := by rw [← Int32.toInt_inj, h1, h2, t32 g1, t32 g2]
theorem l_lt {a b : Int64} {x y : Int} (h1 : a = Int64.ofInt x) (h2 : b = Int64.ofInt y) (g1 : k64 x) (g2 : k64 y) : (x < y) ↔ (a < b) := by rw [Int64.lt_iff_toInt_lt, h1, h2, t64 g1, t64 g2]
theorem l_le {a b : Int64} {x y : Int} (h1 : a = Int64.ofInt x) (h2 : b = Int64.ofInt y) (g1 : k64 x) (g2 : k64 y) : (x ≤ y) ↔ (a ≤ b) := by rw [Int64.le_iff_toInt_le, h1, h2, t64 g1, t64 g2]
theorem l_eq {a b : Int64} {x y : Int} (h1 : a = Int64.ofInt x) (h2 : b = Int64.ofInt y) (g1 : k64 x) (g2 : k64 y) : (x = y) ↔ (a = b) := by rw [← Int64.toInt_inj, h1, h2, t64 g1, t64 g2]
theorem cmp_eq (a b : Int64) : (lg_cmp a b = 0) ↔ a = b := by
  unfold lg_cmp
  by_cases h : a > b
  · rw [if_pos h]
    exact ⟨fun e => absurd e (by decide), fun e => absurd (e ▸ h) (Int64.lt_irrefl)⟩
  · rw [if_neg h]
    by_cases h2 : a = b
    · rw [if_pos h2]; exact ⟨fun _ => h2, fun _ => rfl⟩
    · rw [if_neg h2]; exact ⟨fun e => absurd e (by decide), fun e => absurd e h2⟩
theorem cmp_ge (a b : Int64) : (0 ≤ lg_cmp a b) ↔ b ≤ a := by
  unfold lg_cmp
  rw [Int64.le_iff_toInt_le]
  by_cases h : a > b
  · rw [if_pos h]
    have := Int64.lt_iff_toInt_lt.mp h
    exact ⟨fun _ => by omega, fun _ => by decide⟩
  · rw [if_neg h]
    have h' : ¬ b.toInt < a.toInt := fun q => h (Int64.lt_iff_toInt_lt.mpr q)
    by_cases h2 : a = b
    · rw [if_pos h2]; exact ⟨fun _ => by rw [h2]; exact Int.le_refl _, fun _ => by decide⟩
    · rw [if_neg h2]
      have h3 : a.toInt ≠ b.toInt := fun q => h2 (Int64.toInt_inj.mp q)
      exact ⟨fun q => absurd q (by decide), fun q => by omega⟩
theorem cmp_gt (a b : Int64) : (0 < lg_cmp a b) ↔ b < a := by
  unfold lg_cmp
  by_cases h : a > b
  · rw [if_pos h]; exact ⟨fun _ => h, fun _ => by decide⟩
  · rw [if_neg h]
    by_cases h2 : a = b
    · rw [if_pos h2]; exact ⟨fun e => absurd e (by decide), fun e => absurd e h⟩
    · rw [if_neg h2]; exact ⟨fun e => absurd e (by decide), fun e => absurd e h⟩
theorem cmp_le (a b : Int64) : (lg_cmp a b ≤ 0) ↔ a ≤ b := by
  have h := not_congr (cmp_gt a b)
  rw [Int32.not_lt, Int64.not_lt] at h
  exact h
theorem cmp_lt (a b : Int64) : (lg_cmp a b < 0) ↔ a < b := by
  have h := not_congr (cmp_ge a b)
  rw [Int32.not_le, Int64.not_le] at h
  exact h
theorem j_eq {a b : Int64} {x y : Int} (h1 : a = Int64.ofInt x) (h2 : b = Int64.ofInt y) (g1 : k64 x) (g2 : k64 y) : (x = y) ↔ (lg_cmp a b = 0) := (l_eq h1 h2 g1 g2).trans (cmp_eq a b).symm
theorem j_ge {a b : Int64} {x y : Int} (h1 : a = Int64.ofInt x) (h2 : b = Int64.ofInt y) (g1 : k64 x) (g2 : k64 y) : (y ≤ x) ↔ (0 ≤ lg_cmp a b) := (l_le h2 h1 g2 g1).trans (cmp_ge a b).symm
theorem j_gt {a b : Int64} {x y : Int} (h1 : a = Int64.ofInt x) (h2 : b = Int64.ofInt y) (g1 : k64 x) (g2 : k64 y) : (y < x) ↔ (0 < lg_cmp a b) := (l_lt h2 h1 g2 g1).trans (cmp_gt a b).symm
theorem j_le {a b : Int64} {x y : Int} (h1 : a = Int64.ofInt x) (h2 : b = Int64.ofInt y) (g1 : k64 x) (g2 : k64 y) : (x ≤ y) ↔ (lg_cmp a b ≤ 0) := (l_le h1 h2 g1 g2).trans (cmp_le a b).symm
theorem j_lt {a b : Int64} {x y : Int} (h1 : a = Int64.ofInt x) (h2 : b = Int64.ofInt y) (g1 : k64 x) (g2 : k64 y) : (x < y) ↔ (lg_cmp a b < 0) := (l_lt h1 h2 g1 g2).trans (cmp_lt a b).symm
/-- if the ideal program answers, the program answers the same -/
def sim {α β : Type} (c : α → β) (q : Option α) (p : Option β) : Prop := ∀ r, q = some r → p = some (c r)
theorem sim_none {α β : Type} {c : α → β} {p : Option β} : sim c none p := fun _ h => by cases h
theorem sim_some {α β : Type} {c : α → β} {x : α} {y : β} (h : y = c x) : sim c (some x) (some y) := fun r e => by cases e; rw [h]
theorem sim_kl {α β γ δ : Type} {c : α → β} {d : γ → δ} {v : α} {w : β} {f : α → Option γ} {g : β → Option δ} (h : w = c v) (k : ∀ x, sim d (f x) (g (c x))) : sim d (kl v f) (kl w g) := by
  subst h
  exact k v
theorem sim_kb {α β γ δ : Type} {c1 : α → β} {d : γ → δ} {v : Option α} {w : Option β} {f : α → Option γ} {g : β → Option δ} (h : sim c1 v w) (k : ∀ x, sim d (f x) (g (c1 x))) : sim d (kb v f) (kb w g) := by
  intro r e
  obtain ⟨x, h1, h2⟩ := kb_of e
  rw [h x h1]
  exact k x r h2
theorem sim_kif {α β : Type} {c : α → β} {P Q : Prop} [hP : Decidable P] [hQ : Decidable Q] {a b : Option α} {a' b' : Option β} (h : P ↔ Q) (h1 : sim c a a') (h2 : sim c b b') : sim c (kif P a b) (kif Q a' b') := by
  intro r e
  by_cases hp : P
  · exact (if_pos (h.mp hp)).trans (h1 r (kif_t hp e))
  · exact (if_neg (fun q => hp (h.mpr q))).trans (h2 r (kif_f hp e))
theorem sim_kg {α β : Type} {c : α → β} {P Q : Prop} [hP : Decidable P] [hQ : Decidable Q] {a : Option α} {a' : Option β} (h : P ↔ Q) (h1 : sim c a a') : sim c (kg P a) (kg Q a') := by
  intro r e
  obtain ⟨hp, e⟩ := kg_of e
  exact (if_pos (h.mp hp)).trans (h1 r e)
theorem sim_g {α β : Type} {c : α → β} {P : Prop} [hP : Decidable P] {a : Option α} {a' : Option β} (h1 : P → sim c a a') : sim c (kg P a) a' := by
  intro r e
  obtain ⟨hp, e⟩ := kg_of e
  exact h1 hp r e
theorem kii_of {a : Int32} {x : Int} {n : Nat} (h : a = Int32.ofInt x) (hn : n ≤ 4096) (g : 0 ≤ x ∧ x < (n : Int)) : kii a n := by
  have e := c_idx (n := 4096) h ⟨g.1, by omega⟩ (by decide)
  intro q
  rcases q with q | q
  · have := (i_lt (y := 0) h rfl ⟨by omega, by omega⟩ (by decide)).mpr q
    omega
  · rw [e] at q
    omega
theorem sim_kii {α β : Type} {c : α → β} {ai : Int32} {x : Int} {n : Nat} {a : Option α} {a' : Option β} (h : ai = Int32.ofInt x) (hn : n ≤ 4096) (h1 : (0 ≤ x ∧ x < (n : Int)) → sim c a a') : sim c (kg (0 ≤ x ∧ x < (n : Int)) a) (kg (kii ai n) a') := by
  intro r e
  obtain ⟨hp, e⟩ := kg_of e
  exact (if_pos (kii_of h hn hp)).trans (h1 hp r e)
theorem sim_kii0 {α β : Type} {c : α → β} {ai : Int32} {x : Int} {n : Nat} {a : Option α} {a' : Option β} (h : ai = Int32.ofInt x) (hn : n ≤ 4096) (hp : 0 ≤ x ∧ x < (n : Int)) (h1 : sim c a a') : sim c a (kg (kii ai n) a') := by
  intro r e
  exact (if_pos (kii_of h hn hp)).trans (h1 r e)
theorem sim_kiiL {α β : Type} {c : α → β} {ai : Int32} {x : Int} {n : Nat} {a : Option α} {a' : Option β} (h : ai = Int32.ofInt x) (h1 : (0 ≤ x ∧ x < (n : Int) ∧ n ≤ 4096) → sim c a a') : sim c (kg (0 ≤ x ∧ x < (n : Int) ∧ n ≤ 4096) a) (kg (kii ai n) a') := by
  intro r e
  obtain ⟨hp, e⟩ := kg_of e
  exact (if_pos (kii_of h hp.2.2 ⟨hp.1, hp.2.1⟩)).trans (h1 hp r e)
theorem sim_kiiL0 {α β : Type} {c : α → β} {ai : Int32} {x : Int} {n : Nat} {a : Option α} {a' : Option β} (h : ai = Int32.ofInt x) (hp : 0 ≤ x ∧ x < (n : Int) ∧ n ≤ 4096) (h1 : sim c a a') : sim c a (kg (kii ai n) a') := by
  intro r e
  exact (if_pos (kii_of h hp.2.2 ⟨hp.1, hp.2.1⟩)).trans (h1 r e)
theorem sim_kitr {σ τ : Type} {c : σ → τ} {hd : Nat} {qb : σ → Option (Nat × σ)} {pb : τ → Option (Nat × τ)} {n : Nat} {s : σ} {t : τ} (h : ∀ s, sim (fun r : Nat × σ => (r.1, c r.2)) (qb s) (pb (c s))) (hs : t = c s) : sim (fun r : Nat × σ => (r.1, c r.2)) (kitr hd qb n s) (kitr hd pb n t) := by
  subst hs
  induction n generalizing s with
  | zero => intro r e; cases e
  | succ n ih =>
    intro r e
    unfold kitr at e ⊢
    cases hb : qb s with
    | none => rw [hb] at e; cases e
    | some x =>
      rw [hb] at e
      rw [h s x hb]
      dsimp only at e ⊢
      by_cases hx : x.1 = hd
      · rw [if_pos hx] at e ⊢
        exact ih r e
      · rw [if_neg hx] at e ⊢
        cases e
        rfl
theorem sim_hand (o : Option Int32) : sim Int32.ofInt (o.map (fun r => r.toInt)) o := by
  intro r e
  cases o with
  | none => cases e
  | some x => cases e; rw [Int32.ofInt_toInt]
