def p_X12_isTriple_J122 (v1 : Int32) (v2 : Int32) (v3 : Int32) (zT : tX12) (v4 : Int64) (v6 : Int64) (v8 : Int64) (v10 : Int64) (v12 : Int64) (v14 : Int64) (v16 : Int64) (k122_0 : Int64) : Option (Bool × tX12) :=
  kg (kii v1 41) (kl (zT.1, va_up zT.2.1 16 (((zT.2.2.1 12) v1.toNatClampNeg)).toInt64, zT.2.2) (fun z8 => kg (kii v1 41) (kl (z8.1, va_up z8.2.1 17 (((z8.2.2.1 13) v1.toNatClampNeg)).toInt64, z8.2.2) (fun z9 => kl (z9.1, va_up z9.2.1 18 (k122_0 * ((v12 * v14) - (v8 * v16))), z9.2.2) (fun z10 => kl (z10.1, va_up z10.2.1 19 (k122_0 * ((v6 * v16) - (v10 * v14))), z10.2.2) (fun z11 => kl (z11.1, va_up z11.2.1 20 ((k122_0 * (2 : Int64)) * v4), z11.2.2) (fun z12 => kb (p_X12_apart z12 v2 v3) (fun x13 => kl ((v14 * v16) * x13) (fun y14 => kl (((4 : Int64) * v4) * v4) (fun y15 => kb (p_X12_above y14 y15) (fun x16 => kl (z12.1, va_up z12.2.1 21 x16, z12.2.2) (fun z17 => kb (p_X12_below y14 y15) (fun x18 => kl (z17.1, va_up z17.2.1 22 x18, z17.2.2) (fun z19 => some (true, z19)))))))))))))))
def p_X12_isTriple (zT : tX12) (v1 : Int32) (v2 : Int32) (v3 : Int32) : Option (Bool × tX12) :=
  kb (p_X12_turn zT v1 v2 v3) (fun x1 => kif ((lg_cmp x1 (0 : Int64)) = 0) (some (false, zT)) (kg (kii v2 41) (kg (kii v1 41) (kl ((((zT.2.2.1 12) v2.toNatClampNeg) - ((zT.2.2.1 12) v1.toNatClampNeg))).toInt64 (fun y2 => kg (kii v2 41) (kg (kii v1 41) (kl ((((zT.2.2.1 13) v2.toNatClampNeg) - ((zT.2.2.1 13) v1.toNatClampNeg))).toInt64 (fun y3 => kg (kii v3 41) (kg (kii v1 41) (kl ((((zT.2.2.1 12) v3.toNatClampNeg) - ((zT.2.2.1 12) v1.toNatClampNeg))).toInt64 (fun y4 => kg (kii v3 41) (kg (kii v1 41) (kl ((((zT.2.2.1 13) v3.toNatClampNeg) - ((zT.2.2.1 13) v1.toNatClampNeg))).toInt64 (fun y5 => kl ((y2 * y2) + (y3 * y3)) (fun y6 => kl ((y4 * y4) + (y5 * y5)) (fun y7 => kif (0 ≤ (lg_cmp x1 (0 : Int64))) (p_X12_isTriple_J122 v1 v2 v3 zT x1 y2 y3 y4 y5 y6 y7 (1 : Int64)) (p_X12_isTriple_J122 v1 v2 v3 zT x1 y2 y3 y4 y5 y6 y7 (-1 : Int64))))))))))))))))))
set_option maxHeartbeats 4000000 in
set_option maxRecDepth 100000 in
theorem c_X12_isTriple (l : Launch) (D : va_G) (g : kG) (aT : Nat → Nat) (zT : tX12) (v1 : Int32) (v2 : Int32) (v3 : Int32) (r : Bool × tX12) (h : p_X12_isTriple zT v1 v2 v3 = some r) : kMi l yX12_isTriple cX12_isTriple 24 (some .boolean) (kR 2 52) D (kty g) [.ref (aT 0), .int v1, .int v2, .int v3] (List.flatten [gX12 g aT zT]) (kz r.1) (List.flatten [gX12 g aT r.2]) := by
  intro sz
  refine k_enter (lv := [(0, .ref (aT 0)), (1, .int v1), (2, .int v2), (3, .int v3)]) RX12 (by decide +kernel) rfl rfl (Nat.le_of_ble_eq_true rfl) ?_
  intro p en s m args below meth c ls hsz X V hl
  obtain ⟨QQ, hQQ⟩ : ∃ q, q = MQ below (va_Qi (fun r' (_ : Unit) => r' = kz r.1) (fun _ => kE D (List.flatten [gX12 g aT r.2])) (va_A (List.flatten [gX12 g aT zT]) sz)) args s 0 0 (va_A (List.flatten [gX12 g aT zT]) sz) := ⟨_, rfl⟩
  rw [← hQQ]
  obtain ⟨AA, hAA⟩ : ∃ q, q = va_A (List.flatten [gX12 g aT zT]) sz := ⟨_, rfl⟩
  rw [← hAA] at V
  have J122 : ∀ (zT : tX12) (v4 : Int64) (v6 : Int64) (v8 : Int64) (v10 : Int64) (v12 : Int64) (v14 : Int64) (v16 : Int64) (k122_0 : Int64) (H : Heap) (locs : List Loc) (ls : Array Slot), p_X12_isTriple_J122 v1 v2 v3 zT v4 v6 v8 v10 v12 v14 v16 k122_0 = some r → kW D AA s.heap H (List.flatten [gX12 g aT zT]) locs → lv_has ls 24 [(0, .ref (aT 0)), (1, .int v1), (2, .int v2), (3, .int v3), (4, .long v4), (6, .long v6), (8, .long v8), (10, .long v10), (12, .long v12), (14, .long v14), (16, .long v16)] → W p l en (kR 2 52) s m args below meth c H locs 0 0 QQ (F0 m 122 ls [.long k122_0]) := by
    intro zT v4 v6 v8 v10 v12 v14 v16 k122_0 H locs ls h V hl
    unfold p_X12_isTriple_J122 at h
    refine lv_lstore (lv' := [(18, .long k122_0), (0, .ref (aT 0)), (1, .int v1), (2, .int v2), (3, .int v3), (4, .long v4), (6, .long v6), (8, .long v8), (10, .long v10), (12, .long v12), (14, .long v14), (16, .long v16)]) X.1 X.2.1 dX12_isTriple_122 hl (by decide) rfl (fun ls hl => ?_)
    refine lv_aload_n X.1 X.2.1 dX12_isTriple_124 rfl (lv_at hl 1 rfl) ?_
    refine lv_aload_n X.1 X.2.1 dX12_isTriple_125 rfl (lv_at hl 1 rfl) ?_
    refine gf_X12_33 (i := 0) X V rfl dX12_isTriple_126 ?_
    refine lv_iload_n X.1 X.2.1 dX12_isTriple_129 rfl (lv_at hl 2 rfl) ?_
    obtain ⟨hc, h⟩ := kg_of h
    refine al_X12_12 (i := 0) X V rfl hc dX12_isTriple_130 ?_
    refine lv_i2l X.1 X.2.1 dX12_isTriple_131 rfl ?_
    refine pf_X12_180 (i := 0) X V rfl dX12_isTriple_132 (fun H locs V => ?_)
    obtain ⟨z20, ez20⟩ : ∃ y, y = (zT.1, va_up zT.2.1 16 (((zT.2.2.1 12) v1.toNatClampNeg)).toInt64, zT.2.2) := ⟨_, rfl⟩
    replace h := kl_of ez20 h
    have V : kW D AA s.heap H (List.flatten [gX12 g aT z20]) locs := by rw [ez20]; exact V
    refine lv_aload_n X.1 X.2.1 dX12_isTriple_135 rfl (lv_at hl 1 rfl) ?_
    refine lv_aload_n X.1 X.2.1 dX12_isTriple_136 rfl (lv_at hl 1 rfl) ?_
    refine gf_X12_36 (i := 0) X V rfl dX12_isTriple_137 ?_
    refine lv_iload_n X.1 X.2.1 dX12_isTriple_140 rfl (lv_at hl 2 rfl) ?_
    obtain ⟨hc, h⟩ := kg_of h
    refine al_X12_13 (i := 0) X V rfl hc dX12_isTriple_141 ?_
    refine lv_i2l X.1 X.2.1 dX12_isTriple_142 rfl ?_
    refine pf_X12_184 (i := 0) X V rfl dX12_isTriple_143 (fun H locs V => ?_)
    obtain ⟨z21, ez21⟩ : ∃ y, y = (z20.1, va_up z20.2.1 17 (((z20.2.2.1 13) v1.toNatClampNeg)).toInt64, z20.2.2) := ⟨_, rfl⟩
    replace h := kl_of ez21 h
    have V : kW D AA s.heap H (List.flatten [gX12 g aT z21]) locs := by rw [ez21]; exact V
    refine lv_aload_n X.1 X.2.1 dX12_isTriple_146 rfl (lv_at hl 1 rfl) ?_
    refine lv_lload X.1 X.2.1 dX12_isTriple_147 (lv_at hl 0 rfl) ?_
    refine lv_lload X.1 X.2.1 dX12_isTriple_149 (lv_at hl 9 rfl) ?_
    refine lv_lload X.1 X.2.1 dX12_isTriple_151 (lv_at hl 10 rfl) ?_
    refine lv_lmul X.1 X.2.1 dX12_isTriple_153 ?_
    refine lv_lload X.1 X.2.1 dX12_isTriple_154 (lv_at hl 7 rfl) ?_
    refine lv_lload X.1 X.2.1 dX12_isTriple_156 (lv_at hl 11 rfl) ?_
    refine lv_lmul X.1 X.2.1 dX12_isTriple_158 ?_
    refine lv_lsub X.1 X.2.1 dX12_isTriple_159 ?_
    refine lv_lmul X.1 X.2.1 dX12_isTriple_160 ?_
    refine pf_X12_187 (i := 0) X V rfl dX12_isTriple_161 (fun H locs V => ?_)
    obtain ⟨z22, ez22⟩ : ∃ y, y = (z21.1, va_up z21.2.1 18 (k122_0 * ((v12 * v14) - (v8 * v16))), z21.2.2) := ⟨_, rfl⟩
    replace h := kl_of ez22 h
    have V : kW D AA s.heap H (List.flatten [gX12 g aT z22]) locs := by rw [ez22]; exact V
    refine lv_aload_n X.1 X.2.1 dX12_isTriple_164 rfl (lv_at hl 1 rfl) ?_
    refine lv_lload X.1 X.2.1 dX12_isTriple_165 (lv_at hl 0 rfl) ?_
    refine lv_lload X.1 X.2.1 dX12_isTriple_167 (lv_at hl 6 rfl) ?_
    refine lv_lload X.1 X.2.1 dX12_isTriple_169 (lv_at hl 11 rfl) ?_
    refine lv_lmul X.1 X.2.1 dX12_isTriple_171 ?_
    refine lv_lload X.1 X.2.1 dX12_isTriple_172 (lv_at hl 8 rfl) ?_
    refine lv_lload X.1 X.2.1 dX12_isTriple_174 (lv_at hl 10 rfl) ?_
    refine lv_lmul X.1 X.2.1 dX12_isTriple_176 ?_
    refine lv_lsub X.1 X.2.1 dX12_isTriple_177 ?_
    refine lv_lmul X.1 X.2.1 dX12_isTriple_178 ?_
    refine pf_X12_190 (i := 0) X V rfl dX12_isTriple_179 (fun H locs V => ?_)
    obtain ⟨z23, ez23⟩ : ∃ y, y = (z22.1, va_up z22.2.1 19 (k122_0 * ((v6 * v16) - (v10 * v14))), z22.2.2) := ⟨_, rfl⟩
    replace h := kl_of ez23 h
    have V : kW D AA s.heap H (List.flatten [gX12 g aT z23]) locs := by rw [ez23]; exact V
    refine lv_aload_n X.1 X.2.1 dX12_isTriple_182 rfl (lv_at hl 1 rfl) ?_
    refine lv_lload X.1 X.2.1 dX12_isTriple_183 (lv_at hl 0 rfl) ?_
    refine lv_ldc2 (v := (2 : Int64)) X.1 X.2.1 X.2.2.2.1 (X.2.2.2.2.1 _ kc_X12_202) dX12_isTriple_185 ?_
    refine lv_lmul X.1 X.2.1 dX12_isTriple_188 ?_
    refine lv_lload X.1 X.2.1 dX12_isTriple_189 (lv_at hl 5 rfl) ?_
    refine lv_lmul X.1 X.2.1 dX12_isTriple_191 ?_
    refine pf_X12_193 (i := 0) X V rfl dX12_isTriple_192 (fun H locs V => ?_)
    obtain ⟨z24, ez24⟩ : ∃ y, y = (z23.1, va_up z23.2.1 20 ((k122_0 * (2 : Int64)) * v4), z23.2.2) := ⟨_, rfl⟩
    replace h := kl_of ez24 h
    have V : kW D AA s.heap H (List.flatten [gX12 g aT z24]) locs := by rw [ez24]; exact V
    refine lv_lload X.1 X.2.1 dX12_isTriple_195 (lv_at hl 10 rfl) ?_
    refine lv_lload X.1 X.2.1 dX12_isTriple_197 (lv_at hl 11 rfl) ?_
    refine lv_lmul X.1 X.2.1 dX12_isTriple_199 ?_
    refine lv_aload_n X.1 X.2.1 dX12_isTriple_200 rfl (lv_at hl 1 rfl) ?_
    refine lv_iload_n X.1 X.2.1 dX12_isTriple_201 rfl (lv_at hl 3 rfl) ?_
    refine lv_iload_n X.1 X.2.1 dX12_isTriple_202 rfl (lv_at hl 4 rfl) ?_
    obtain ⟨x25, hx25, h⟩ := kb_of h
    refine s_callVl (segs' := [gX12 g aT z24]) (ci := 12) (i0 := 0) X V (c_X12_apart l D g aT z24 v2 v3 x25 hx25) w_X12_204 ⟨Nat.le_of_ble_eq_true rfl, Nat.le_of_ble_eq_true rfl⟩ ⟨Nat.zero_le _, Nat.zero_le _⟩ rfl rfl rfl rfl [0] rfl rfl (kFst_refl _) rfl rfl hl.1 (Nat.le_of_ble_eq_true rfl) dX12_isTriple_203 (fun H locs V => ?_)
    refine lv_lmul X.1 X.2.1 dX12_isTriple_206 ?_
    refine lv_topl (fun y26 ey26 => ?_)
    replace h := kl_of ey26 h
    refine lv_lstore (lv' := [(20, .long y26), (18, .long k122_0), (0, .ref (aT 0)), (1, .int v1), (2, .int v2), (3, .int v3), (4, .long v4), (6, .long v6), (8, .long v8), (10, .long v10), (12, .long v12), (14, .long v14), (16, .long v16)]) X.1 X.2.1 dX12_isTriple_207 hl (by decide) rfl (fun ls hl => ?_)
    refine lv_ldc2 (v := (4 : Int64)) X.1 X.2.1 X.2.2.2.1 (X.2.2.2.2.1 _ kc_X12_208) dX12_isTriple_209 ?_
    refine lv_lload X.1 X.2.1 dX12_isTriple_212 (lv_at hl 6 rfl) ?_
    refine lv_lmul X.1 X.2.1 dX12_isTriple_214 ?_
    refine lv_lload X.1 X.2.1 dX12_isTriple_215 (lv_at hl 6 rfl) ?_
    refine lv_lmul X.1 X.2.1 dX12_isTriple_217 ?_
    refine lv_topl (fun y27 ey27 => ?_)
    replace h := kl_of ey27 h
    refine lv_lstore (lv' := [(22, .long y27), (20, .long y26), (18, .long k122_0), (0, .ref (aT 0)), (1, .int v1), (2, .int v2), (3, .int v3), (4, .long v4), (6, .long v6), (8, .long v8), (10, .long v10), (12, .long v12), (14, .long v14), (16, .long v16)]) X.1 X.2.1 dX12_isTriple_218 hl (by decide) rfl (fun ls hl => ?_)
    refine lv_aload_n X.1 X.2.1 dX12_isTriple_220 rfl (lv_at hl 3 rfl) ?_
    refine lv_lload X.1 X.2.1 dX12_isTriple_221 (lv_at hl 1 rfl) ?_
    refine lv_lload X.1 X.2.1 dX12_isTriple_223 (lv_at hl 0 rfl) ?_
    obtain ⟨x28, hx28, h⟩ := kb_of h
    refine s_callSl (segs' := [gX12 g aT z24]) X V (c_X12_above l D g y26 y27 x28 hx28) w_X12_210 ⟨Nat.le_of_ble_eq_true rfl, Nat.le_of_ble_eq_true rfl⟩ ⟨Nat.zero_le _, Nat.zero_le _⟩ rfl [] rfl rfl (kFst_refl _) rfl rfl hl.1 (Nat.le_of_ble_eq_true rfl) dX12_isTriple_225 (fun H locs V => ?_)
    refine pf_X12_196 (i := 0) X V rfl dX12_isTriple_228 (fun H locs V => ?_)
    obtain ⟨z29, ez29⟩ : ∃ y, y = (z24.1, va_up z24.2.1 21 x28, z24.2.2) := ⟨_, rfl⟩
    replace h := kl_of ez29 h
    have V : kW D AA s.heap H (List.flatten [gX12 g aT z29]) locs := by rw [ez29]; exact V
    refine lv_aload_n X.1 X.2.1 dX12_isTriple_231 rfl (lv_at hl 3 rfl) ?_
    refine lv_lload X.1 X.2.1 dX12_isTriple_232 (lv_at hl 1 rfl) ?_
    refine lv_lload X.1 X.2.1 dX12_isTriple_234 (lv_at hl 0 rfl) ?_
    obtain ⟨x30, hx30, h⟩ := kb_of h
    refine s_callSl (segs' := [gX12 g aT z29]) X V (c_X12_below l D g y26 y27 x30 hx30) w_X12_213 ⟨Nat.le_of_ble_eq_true rfl, Nat.le_of_ble_eq_true rfl⟩ ⟨Nat.zero_le _, Nat.zero_le _⟩ rfl [] rfl rfl (kFst_refl _) rfl rfl hl.1 (Nat.le_of_ble_eq_true rfl) dX12_isTriple_236 (fun H locs V => ?_)
    refine pf_X12_199 (i := 0) X V rfl dX12_isTriple_239 (fun H locs V => ?_)
    obtain ⟨z31, ez31⟩ : ∃ y, y = (z29.1, va_up z29.2.1 22 x30, z29.2.2) := ⟨_, rfl⟩
    replace h := kl_of ez31 h
    have V : kW D AA s.heap H (List.flatten [gX12 g aT z31]) locs := by rw [ez31]; exact V
    refine lv_iconst (v := (1 : Int32)) X.1 X.2.1 dX12_isTriple_242 (by decide) ?_
    obtain rfl := Option.some.inj h
    rw [hAA] at V
    rw [hQQ]
    exact k_zret X V (b := true) rfl rfl dX12_isTriple_243
  unfold p_X12_isTriple at h
  refine lv_aload_n X.1 X.2.1 dX12_isTriple_0 rfl (lv_at hl 0 rfl) ?_
  refine lv_iload_n X.1 X.2.1 dX12_isTriple_1 rfl (lv_at hl 1 rfl) ?_
  refine lv_iload_n X.1 X.2.1 dX12_isTriple_2 rfl (lv_at hl 2 rfl) ?_
  refine lv_iload_n X.1 X.2.1 dX12_isTriple_3 rfl (lv_at hl 3 rfl) ?_
  obtain ⟨x32, hx32, h⟩ := kb_of h
  refine s_callVl (segs' := [gX12 g aT zT]) (ci := 12) (i0 := 0) X V (c_X12_turn l D g aT zT v1 v2 v3 x32 hx32) w_X12_216 ⟨Nat.le_of_ble_eq_true rfl, Nat.le_of_ble_eq_true rfl⟩ ⟨Nat.zero_le _, Nat.zero_le _⟩ rfl rfl rfl rfl [0] rfl rfl (kFst_refl _) rfl rfl hl.1 (Nat.le_of_ble_eq_true rfl) dX12_isTriple_4 (fun H locs V => ?_)
  refine lv_lstore (lv' := [(4, .long x32), (0, .ref (aT 0)), (1, .int v1), (2, .int v2), (3, .int v3)]) X.1 X.2.1 dX12_isTriple_7 hl (by decide) rfl (fun ls hl => ?_)
  refine lv_lload X.1 X.2.1 dX12_isTriple_9 (lv_at hl 0 rfl) ?_
  refine lv_lconst (v := (0 : Int64)) X.1 X.2.1 dX12_isTriple_11 (by decide) ?_
  refine W.lcmp X.1 X.2.1 dX12_isTriple_12 ?_
  refine lv_if_ne (tgt := 18) X.1 X.2.1 dX12_isTriple_13 (by decide) (fun hc => ?_) (fun hc => ?_)
  · replace h := kif_f hc h
    refine lv_aload_n X.1 X.2.1 dX12_isTriple_18 rfl (lv_at hl 1 rfl) ?_
    refine gf_X12_33 (i := 0) X V rfl dX12_isTriple_19 ?_
    refine lv_iload_n X.1 X.2.1 dX12_isTriple_22 rfl (lv_at hl 3 rfl) ?_
    obtain ⟨hc, h⟩ := kg_of h
    refine al_X12_12 (i := 0) X V rfl hc dX12_isTriple_23 ?_
    refine lv_aload_n X.1 X.2.1 dX12_isTriple_24 rfl (lv_at hl 1 rfl) ?_
    refine gf_X12_33 (i := 0) X V rfl dX12_isTriple_25 ?_
    refine lv_iload_n X.1 X.2.1 dX12_isTriple_28 rfl (lv_at hl 2 rfl) ?_
    obtain ⟨hc, h⟩ := kg_of h
    refine al_X12_12 (i := 0) X V rfl hc dX12_isTriple_29 ?_
    refine lv_isub X.1 X.2.1 dX12_isTriple_30 ?_
    refine lv_i2l X.1 X.2.1 dX12_isTriple_31 rfl ?_
    refine lv_topl (fun y33 ey33 => ?_)
    replace h := kl_of ey33 h
    refine lv_lstore (lv' := [(6, .long y33), (4, .long x32), (0, .ref (aT 0)), (1, .int v1), (2, .int v2), (3, .int v3)]) X.1 X.2.1 dX12_isTriple_32 hl (by decide) rfl (fun ls hl => ?_)
    refine lv_aload_n X.1 X.2.1 dX12_isTriple_34 rfl (lv_at hl 2 rfl) ?_
    refine gf_X12_36 (i := 0) X V rfl dX12_isTriple_35 ?_
    refine lv_iload_n X.1 X.2.1 dX12_isTriple_38 rfl (lv_at hl 4 rfl) ?_
    obtain ⟨hc, h⟩ := kg_of h
    refine al_X12_13 (i := 0) X V rfl hc dX12_isTriple_39 ?_
    refine lv_aload_n X.1 X.2.1 dX12_isTriple_40 rfl (lv_at hl 2 rfl) ?_
    refine gf_X12_36 (i := 0) X V rfl dX12_isTriple_41 ?_
    refine lv_iload_n X.1 X.2.1 dX12_isTriple_44 rfl (lv_at hl 3 rfl) ?_
    obtain ⟨hc, h⟩ := kg_of h
    refine al_X12_13 (i := 0) X V rfl hc dX12_isTriple_45 ?_
    refine lv_isub X.1 X.2.1 dX12_isTriple_46 ?_
    refine lv_i2l X.1 X.2.1 dX12_isTriple_47 rfl ?_
    refine lv_topl (fun y34 ey34 => ?_)
    replace h := kl_of ey34 h
    refine lv_lstore (lv' := [(8, .long y34), (6, .long y33), (4, .long x32), (0, .ref (aT 0)), (1, .int v1), (2, .int v2), (3, .int v3)]) X.1 X.2.1 dX12_isTriple_48 hl (by decide) rfl (fun ls hl => ?_)
    refine lv_aload_n X.1 X.2.1 dX12_isTriple_50 rfl (lv_at hl 3 rfl) ?_
    refine gf_X12_33 (i := 0) X V rfl dX12_isTriple_51 ?_
    refine lv_iload_n X.1 X.2.1 dX12_isTriple_54 rfl (lv_at hl 6 rfl) ?_
    obtain ⟨hc, h⟩ := kg_of h
    refine al_X12_12 (i := 0) X V rfl hc dX12_isTriple_55 ?_
    refine lv_aload_n X.1 X.2.1 dX12_isTriple_56 rfl (lv_at hl 3 rfl) ?_
    refine gf_X12_33 (i := 0) X V rfl dX12_isTriple_57 ?_
    refine lv_iload_n X.1 X.2.1 dX12_isTriple_60 rfl (lv_at hl 4 rfl) ?_
    obtain ⟨hc, h⟩ := kg_of h
    refine al_X12_12 (i := 0) X V rfl hc dX12_isTriple_61 ?_
    refine lv_isub X.1 X.2.1 dX12_isTriple_62 ?_
    refine lv_i2l X.1 X.2.1 dX12_isTriple_63 rfl ?_
    refine lv_topl (fun y35 ey35 => ?_)
    replace h := kl_of ey35 h
    refine lv_lstore (lv' := [(10, .long y35), (8, .long y34), (6, .long y33), (4, .long x32), (0, .ref (aT 0)), (1, .int v1), (2, .int v2), (3, .int v3)]) X.1 X.2.1 dX12_isTriple_64 hl (by decide) rfl (fun ls hl => ?_)
    refine lv_aload_n X.1 X.2.1 dX12_isTriple_66 rfl (lv_at hl 4 rfl) ?_
    refine gf_X12_36 (i := 0) X V rfl dX12_isTriple_67 ?_
    refine lv_iload_n X.1 X.2.1 dX12_isTriple_70 rfl (lv_at hl 7 rfl) ?_
    obtain ⟨hc, h⟩ := kg_of h
    refine al_X12_13 (i := 0) X V rfl hc dX12_isTriple_71 ?_
    refine lv_aload_n X.1 X.2.1 dX12_isTriple_72 rfl (lv_at hl 4 rfl) ?_
    refine gf_X12_36 (i := 0) X V rfl dX12_isTriple_73 ?_
    refine lv_iload_n X.1 X.2.1 dX12_isTriple_76 rfl (lv_at hl 5 rfl) ?_
    obtain ⟨hc, h⟩ := kg_of h
    refine al_X12_13 (i := 0) X V rfl hc dX12_isTriple_77 ?_
    refine lv_isub X.1 X.2.1 dX12_isTriple_78 ?_
    refine lv_i2l X.1 X.2.1 dX12_isTriple_79 rfl ?_
    refine lv_topl (fun y36 ey36 => ?_)
    replace h := kl_of ey36 h
    refine lv_lstore (lv' := [(12, .long y36), (10, .long y35), (8, .long y34), (6, .long y33), (4, .long x32), (0, .ref (aT 0)), (1, .int v1), (2, .int v2), (3, .int v3)]) X.1 X.2.1 dX12_isTriple_80 hl (by decide) rfl (fun ls hl => ?_)
    refine lv_lload X.1 X.2.1 dX12_isTriple_82 (lv_at hl 3 rfl) ?_
    refine lv_lload X.1 X.2.1 dX12_isTriple_84 (lv_at hl 3 rfl) ?_
    refine lv_lmul X.1 X.2.1 dX12_isTriple_86 ?_
    refine lv_lload X.1 X.2.1 dX12_isTriple_87 (lv_at hl 2 rfl) ?_
    refine lv_lload X.1 X.2.1 dX12_isTriple_89 (lv_at hl 2 rfl) ?_
    refine lv_lmul X.1 X.2.1 dX12_isTriple_91 ?_
    refine lv_ladd X.1 X.2.1 dX12_isTriple_92 ?_
    refine lv_topl (fun y37 ey37 => ?_)
    replace h := kl_of ey37 h
    refine lv_lstore (lv' := [(14, .long y37), (12, .long y36), (10, .long y35), (8, .long y34), (6, .long y33), (4, .long x32), (0, .ref (aT 0)), (1, .int v1), (2, .int v2), (3, .int v3)]) X.1 X.2.1 dX12_isTriple_93 hl (by decide) rfl (fun ls hl => ?_)
    refine lv_lload X.1 X.2.1 dX12_isTriple_95 (lv_at hl 2 rfl) ?_
    refine lv_lload X.1 X.2.1 dX12_isTriple_97 (lv_at hl 2 rfl) ?_
    refine lv_lmul X.1 X.2.1 dX12_isTriple_99 ?_
    refine lv_lload X.1 X.2.1 dX12_isTriple_100 (lv_at hl 1 rfl) ?_
    refine lv_lload X.1 X.2.1 dX12_isTriple_102 (lv_at hl 1 rfl) ?_
    refine lv_lmul X.1 X.2.1 dX12_isTriple_104 ?_
    refine lv_ladd X.1 X.2.1 dX12_isTriple_105 ?_
    refine lv_topl (fun y38 ey38 => ?_)
    replace h := kl_of ey38 h
    refine lv_lstore (lv' := [(16, .long y38), (14, .long y37), (12, .long y36), (10, .long y35), (8, .long y34), (6, .long y33), (4, .long x32), (0, .ref (aT 0)), (1, .int v1), (2, .int v2), (3, .int v3)]) X.1 X.2.1 dX12_isTriple_106 hl (by decide) rfl (fun ls hl => ?_)
    refine lv_lload X.1 X.2.1 dX12_isTriple_108 (lv_at hl 6 rfl) ?_
    refine lv_lconst (v := (0 : Int64)) X.1 X.2.1 dX12_isTriple_110 (by decide) ?_
    refine W.lcmp X.1 X.2.1 dX12_isTriple_111 ?_
    refine lv_if_ge (tgt := 121) X.1 X.2.1 dX12_isTriple_112 (by decide) (fun hc => ?_) (fun hc => ?_)
    · replace h := kif_t hc h
      refine lv_lconst (v := (1 : Int64)) X.1 X.2.1 dX12_isTriple_121 (by decide) ?_
      exact J122 zT x32 y33 y34 y35 y36 y37 y38 (1 : Int64) _ _ _ h V (lv_sub hl [7, 8, 9, 10, 6, 5, 4, 3, 2, 1, 0] rfl)
    · replace h := kif_f hc h
      refine lv_ldc2 (v := (-1 : Int64)) X.1 X.2.1 X.2.2.2.1 (X.2.2.2.2.1 _ kc_X12_220) dX12_isTriple_115 ?_
      refine lv_goto (tgt := 122) X.1 X.2.1 dX12_isTriple_118 (by decide) ?_
      exact J122 zT x32 y33 y34 y35 y36 y37 y38 (-1 : Int64) _ _ _ h V (lv_sub hl [7, 8, 9, 10, 6, 5, 4, 3, 2, 1, 0] rfl)
  · replace h := kif_t hc h
    refine lv_iconst (v := (0 : Int32)) X.1 X.2.1 dX12_isTriple_16 (by decide) ?_
    obtain rfl := Option.some.inj h
    rw [hAA] at V
    rw [hQQ]
    exact k_zret X V (b := false) rfl rfl dX12_isTriple_17

def p_X12_lies (zT : tX12) (v1 : Int64) (v3 : Int64) : Option (Int64) :=
  kl (v1 - (zT.2.1 16)) (fun y1 => kl (v3 - (zT.2.1 17)) (fun y2 => some (((((y1 * y1) + (y2 * y2)) * (zT.2.1 20)) - ((2 : Int64) * ((y1 * (zT.2.1 18)) + (y2 * (zT.2.1 19))))))))
set_option maxHeartbeats 4000000 in
set_option maxRecDepth 100000 in
theorem c_X12_lies (l : Launch) (D : va_G) (g : kG) (aT : Nat → Nat) (zT : tX12) (v1 : Int64) (v3 : Int64) (r : Int64) (h : p_X12_lies zT v1 v3 = some r) : kMl l yX12_lies cX12_lies 9 (some .long) (kR 0 0) D (kty g) [.ref (aT 0), .long v1, .long v3] (List.flatten [gX12 g aT zT]) r (List.flatten [gX12 g aT zT]) := by
  intro sz
  refine k_enter (lv := [(0, .ref (aT 0)), (1, .long v1), (3, .long v3)]) RX12 (by decide +kernel) rfl rfl (Nat.le_of_ble_eq_true rfl) ?_
  intro p en s m args below meth c ls hsz X V hl
  obtain ⟨QQ, hQQ⟩ : ∃ q, q = MQ below (va_Ql (fun r' (_ : Unit) => r' = r) (fun _ => kE D (List.flatten [gX12 g aT zT])) (va_A (List.flatten [gX12 g aT zT]) sz)) args s 0 0 (va_A (List.flatten [gX12 g aT zT]) sz) := ⟨_, rfl⟩
  rw [← hQQ]
  obtain ⟨AA, hAA⟩ : ∃ q, q = va_A (List.flatten [gX12 g aT zT]) sz := ⟨_, rfl⟩
  rw [← hAA] at V
  unfold p_X12_lies at h
  refine lv_lload_n X.1 X.2.1 dX12_lies_0 rfl (lv_at hl 1 rfl) ?_
  refine lv_aload_n X.1 X.2.1 dX12_lies_1 rfl (lv_at hl 0 rfl) ?_
  refine gf_X12_180 (i := 0) X V rfl dX12_lies_2 ?_
  refine lv_lsub X.1 X.2.1 dX12_lies_5 ?_
  refine lv_topl (fun y3 ey3 => ?_)
  replace h := kl_of ey3 h
  refine lv_lstore (lv' := [(5, .long y3), (0, .ref (aT 0)), (1, .long v1), (3, .long v3)]) X.1 X.2.1 dX12_lies_6 hl (by decide) rfl (fun ls hl => ?_)
  refine lv_lload_n X.1 X.2.1 dX12_lies_8 rfl (lv_at hl 3 rfl) ?_
  refine lv_aload_n X.1 X.2.1 dX12_lies_9 rfl (lv_at hl 1 rfl) ?_
  refine gf_X12_184 (i := 0) X V rfl dX12_lies_10 ?_
  refine lv_lsub X.1 X.2.1 dX12_lies_13 ?_
  refine lv_topl (fun y4 ey4 => ?_)
  replace h := kl_of ey4 h
  refine lv_lstore (lv' := [(7, .long y4), (5, .long y3), (0, .ref (aT 0)), (1, .long v1), (3, .long v3)]) X.1 X.2.1 dX12_lies_14 hl (by decide) rfl (fun ls hl => ?_)
  refine lv_lload X.1 X.2.1 dX12_lies_16 (lv_at hl 1 rfl) ?_
  refine lv_lload X.1 X.2.1 dX12_lies_18 (lv_at hl 1 rfl) ?_
  refine lv_lmul X.1 X.2.1 dX12_lies_20 ?_
  refine lv_lload X.1 X.2.1 dX12_lies_21 (lv_at hl 0 rfl) ?_
  refine lv_lload X.1 X.2.1 dX12_lies_23 (lv_at hl 0 rfl) ?_
  refine lv_lmul X.1 X.2.1 dX12_lies_25 ?_
  refine lv_ladd X.1 X.2.1 dX12_lies_26 ?_
  refine lv_aload_n X.1 X.2.1 dX12_lies_27 rfl (lv_at hl 2 rfl) ?_
  refine gf_X12_193 (i := 0) X V rfl dX12_lies_28 ?_
  refine lv_lmul X.1 X.2.1 dX12_lies_31 ?_
  refine lv_ldc2 (v := (2 : Int64)) X.1 X.2.1 X.2.2.2.1 (X.2.2.2.2.1 _ kc_X12_202) dX12_lies_32 ?_
  refine lv_lload X.1 X.2.1 dX12_lies_35 (lv_at hl 1 rfl) ?_
  refine lv_aload_n X.1 X.2.1 dX12_lies_37 rfl (lv_at hl 2 rfl) ?_
  refine gf_X12_187 (i := 0) X V rfl dX12_lies_38 ?_
  refine lv_lmul X.1 X.2.1 dX12_lies_41 ?_
  refine lv_lload X.1 X.2.1 dX12_lies_42 (lv_at hl 0 rfl) ?_
  refine lv_aload_n X.1 X.2.1 dX12_lies_44 rfl (lv_at hl 2 rfl) ?_
  refine gf_X12_190 (i := 0) X V rfl dX12_lies_45 ?_
  refine lv_lmul X.1 X.2.1 dX12_lies_48 ?_
  refine lv_ladd X.1 X.2.1 dX12_lies_49 ?_
  refine lv_lmul X.1 X.2.1 dX12_lies_50 ?_
  refine lv_lsub X.1 X.2.1 dX12_lies_51 ?_
  obtain rfl := Option.some.inj h
  rw [hAA] at V
  rw [hQQ]
  exact k_lret X V rfl dX12_lies_52

def p_X12_holds (zT : tX12) (v1 : Int32) : Option (Bool) :=
  kg (kii v1 41) (kg (kii v1 41) (kb (p_X12_lies zT (((zT.2.2.1 12) v1.toNatClampNeg)).toInt64 (((zT.2.2.1 13) v1.toNatClampNeg)).toInt64) (fun x1 => kif (0 < (lg_cmp x1 (0 : Int64))) (some false) (some true))))
set_option maxHeartbeats 4000000 in
set_option maxRecDepth 100000 in
theorem c_X12_holds (l : Launch) (D : va_G) (g : kG) (aT : Nat → Nat) (zT : tX12) (v1 : Int32) (r : Bool) (h : p_X12_holds zT v1 = some r) : kMi l yX12_holds cX12_holds 2 (some .boolean) (kR 1 28) D (kty g) [.ref (aT 0), .int v1] (List.flatten [gX12 g aT zT]) (kz r) (List.flatten [gX12 g aT zT]) := by
  intro sz
  refine k_enter (lv := [(0, .ref (aT 0)), (1, .int v1)]) RX12 (by decide +kernel) rfl rfl (Nat.le_of_ble_eq_true rfl) ?_
  intro p en s m args below meth c ls hsz X V hl
  obtain ⟨QQ, hQQ⟩ : ∃ q, q = MQ below (va_Qi (fun r' (_ : Unit) => r' = kz r) (fun _ => kE D (List.flatten [gX12 g aT zT])) (va_A (List.flatten [gX12 g aT zT]) sz)) args s 0 0 (va_A (List.flatten [gX12 g aT zT]) sz) := ⟨_, rfl⟩
  rw [← hQQ]
  obtain ⟨AA, hAA⟩ : ∃ q, q = va_A (List.flatten [gX12 g aT zT]) sz := ⟨_, rfl⟩
  rw [← hAA] at V
  unfold p_X12_holds at h
  refine lv_aload_n X.1 X.2.1 dX12_holds_0 rfl (lv_at hl 0 rfl) ?_
  refine lv_aload_n X.1 X.2.1 dX12_holds_1 rfl (lv_at hl 0 rfl) ?_
  refine gf_X12_33 (i := 0) X V rfl dX12_holds_2 ?_
  refine lv_iload_n X.1 X.2.1 dX12_holds_5 rfl (lv_at hl 1 rfl) ?_
  obtain ⟨hc, h⟩ := kg_of h
  refine al_X12_12 (i := 0) X V rfl hc dX12_holds_6 ?_
  refine lv_i2l X.1 X.2.1 dX12_holds_7 rfl ?_
  refine lv_aload_n X.1 X.2.1 dX12_holds_8 rfl (lv_at hl 0 rfl) ?_
  refine gf_X12_36 (i := 0) X V rfl dX12_holds_9 ?_
  refine lv_iload_n X.1 X.2.1 dX12_holds_12 rfl (lv_at hl 1 rfl) ?_
  obtain ⟨hc, h⟩ := kg_of h
  refine al_X12_13 (i := 0) X V rfl hc dX12_holds_13 ?_
  refine lv_i2l X.1 X.2.1 dX12_holds_14 rfl ?_
  obtain ⟨x2, hx2, h⟩ := kb_of h
  refine s_callVl (segs' := [gX12 g aT zT]) (ci := 12) (i0 := 0) X V (c_X12_lies l D g aT zT (((zT.2.2.1 12) v1.toNatClampNeg)).toInt64 (((zT.2.2.1 13) v1.toNatClampNeg)).toInt64 x2 hx2) w_X12_222 ⟨Nat.le_of_ble_eq_true rfl, Nat.le_of_ble_eq_true rfl⟩ ⟨Nat.zero_le _, Nat.zero_le _⟩ rfl rfl rfl rfl [0] rfl rfl (kFst_refl _) rfl rfl hl.1 (Nat.le_of_ble_eq_true rfl) dX12_holds_15 (fun H locs V => ?_)
  refine lv_lconst (v := (0 : Int64)) X.1 X.2.1 dX12_holds_18 (by decide) ?_
  refine W.lcmp X.1 X.2.1 dX12_holds_19 ?_
  refine lv_if_gt (tgt := 27) X.1 X.2.1 dX12_holds_20 (by decide) (fun hc => ?_) (fun hc => ?_)
  · replace h := kif_t hc h
    refine lv_iconst (v := (0 : Int32)) X.1 X.2.1 dX12_holds_27 (by decide) ?_
    obtain rfl := Option.some.inj h
    rw [hAA] at V
    rw [hQQ]
    exact k_zret X V (b := false) rfl rfl dX12_holds_28
  · replace h := kif_f hc h
    refine lv_iconst (v := (1 : Int32)) X.1 X.2.1 dX12_holds_23 (by decide) ?_
    refine lv_goto (tgt := 28) X.1 X.2.1 dX12_holds_24 (by decide) ?_
    obtain rfl := Option.some.inj h
    rw [hAA] at V
    rw [hQQ]
    exact k_zret X V (b := true) rfl rfl dX12_holds_28

def p_X12_has (v0 : Int64) (v2 : Int32) : Option (Bool) :=
  kif ((lg_cmp ((v0 >>> (v2.toInt64 &&& 63)) &&& (1 : Int64)) (1 : Int64)) = 0) (some true) (some false)
set_option maxHeartbeats 4000000 in
set_option maxRecDepth 100000 in
theorem c_X12_has (l : Launch) (D : va_G) (g : kG)  (v0 : Int64) (v2 : Int32) (r : Bool) (h : p_X12_has v0 v2 = some r) : kMi l yX12_has cX12_has 3 (some .boolean) (kR 0 0) D (kty g) [.long v0, .int v2] (List.flatten ([] : List va_W)) (kz r) (List.flatten ([] : List va_W)) := by
  intro sz
  refine k_enter (lv := [(0, .long v0), (2, .int v2)]) RX12 (by decide +kernel) rfl rfl (Nat.le_of_ble_eq_true rfl) ?_
  intro p en s m args below meth c ls hsz X V hl
  obtain ⟨QQ, hQQ⟩ : ∃ q, q = MQ below (va_Qi (fun r' (_ : Unit) => r' = kz r) (fun _ => kE D (List.flatten ([] : List va_W))) (va_A (List.flatten ([] : List va_W)) sz)) args s 0 0 (va_A (List.flatten ([] : List va_W)) sz) := ⟨_, rfl⟩
  rw [← hQQ]
  obtain ⟨AA, hAA⟩ : ∃ q, q = va_A (List.flatten ([] : List va_W)) sz := ⟨_, rfl⟩
  rw [← hAA] at V
  unfold p_X12_has at h
  refine lv_lload_n X.1 X.2.1 dX12_has_0 rfl (lv_at hl 0 rfl) ?_
  refine lv_iload_n X.1 X.2.1 dX12_has_1 rfl (lv_at hl 1 rfl) ?_
  refine lv_lshr X.1 X.2.1 dX12_has_2 rfl ?_
  refine lv_lconst (v := (1 : Int64)) X.1 X.2.1 dX12_has_3 (by decide) ?_
  refine lv_land X.1 X.2.1 dX12_has_4 ?_
  refine lv_lconst (v := (1 : Int64)) X.1 X.2.1 dX12_has_5 (by decide) ?_
  refine W.lcmp X.1 X.2.1 dX12_has_6 ?_
  refine lv_if_ne (tgt := 14) X.1 X.2.1 dX12_has_7 (by decide) (fun hc => ?_) (fun hc => ?_)
  · replace h := kif_f hc h
    refine lv_iconst (v := (0 : Int32)) X.1 X.2.1 dX12_has_14 (by decide) ?_
    obtain rfl := Option.some.inj h
    rw [hAA] at V
    rw [hQQ]
    exact k_zret X V (b := false) rfl rfl dX12_has_15
  · replace h := kif_t hc h
    refine lv_iconst (v := (1 : Int32)) X.1 X.2.1 dX12_has_10 (by decide) ?_
    refine lv_goto (tgt := 15) X.1 X.2.1 dX12_has_11 (by decide) ?_
    obtain rfl := Option.some.inj h
    rw [hAA] at V
    rw [hQQ]
    exact k_zret X V (b := true) rfl rfl dX12_has_15

def p_X12_holdsAll_L2 (zT : tX12) (v1 : Int64) (s : Int32) : Option (Nat × (Int32)) :=
  kif ((zT.1 15) ≤ s) (some (34, s)) (kb (p_X12_has v1 s) (fun x1 => kif ((kz x1) = 0) (kl (s + (1 : Int32)) (fun y2 => some (2, y2))) (kb (p_X12_holds zT s) (fun x3 => kif ((kz x3) = 0) (some (26, s)) (kl (s + (1 : Int32)) (fun y4 => some (2, y4)))))))
def p_X12_holdsAll (zT : tX12) (v1 : Int64) : Option (Bool) :=
  kb (kitr 2 (fun q => p_X12_holdsAll_L2 zT v1 q) kF (0 : Int32)) (fun x5 => kif (x5.1 = 26) (some false) (kg (x5.1 = 34) (some true)))
set_option maxHeartbeats 4000000 in
set_option maxRecDepth 100000 in
theorem c_X12_holdsAll (l : Launch) (D : va_G) (g : kG) (aT : Nat → Nat) (zT : tX12) (v1 : Int64) (r : Bool) (h : p_X12_holdsAll zT v1 = some r) : kMi l yX12_holdsAll cX12_holdsAll 4 (some .boolean) (kR 2 49) D (kty g) [.ref (aT 0), .long v1] (List.flatten [gX12 g aT zT]) (kz r) (List.flatten [gX12 g aT zT]) := by
  intro sz
  refine k_enter (lv := [(0, .ref (aT 0)), (1, .long v1)]) RX12 (by decide +kernel) rfl rfl (Nat.le_of_ble_eq_true rfl) ?_
  intro p en s m args below meth c ls hsz X V hl
  obtain ⟨QQ, hQQ⟩ : ∃ q, q = MQ below (va_Qi (fun r' (_ : Unit) => r' = kz r) (fun _ => kE D (List.flatten [gX12 g aT zT])) (va_A (List.flatten [gX12 g aT zT]) sz)) args s 0 0 (va_A (List.flatten [gX12 g aT zT]) sz) := ⟨_, rfl⟩
  rw [← hQQ]
  obtain ⟨AA, hAA⟩ : ∃ q, q = va_A (List.flatten [gX12 g aT zT]) sz := ⟨_, rfl⟩
  rw [← hAA] at V
  unfold p_X12_holdsAll at h
  refine lv_iconst (v := (0 : Int32)) X.1 X.2.1 dX12_holdsAll_0 (by decide) ?_
  refine lv_istore_n (lv' := [(3, .int (0 : Int32)), (0, .ref (aT 0)), (1, .long v1)]) X.1 X.2.1 dX12_holdsAll_1 rfl hl (by decide) rfl (fun ls hl => ?_)
  obtain ⟨x6, hx6, h⟩ := kb_of h
  refine (kitr_go (hd := 2) (body := fun q => p_X12_holdsAll_L2 zT v1 q) (G := (fun e => ∀ (H : Heap) (locs : List Loc) (ls : Array Slot), kW D AA s.heap H (List.flatten [gX12 g aT zT]) locs → lv_has ls 4 [(0, .ref (aT 0)), (1, .long v1), (3, .int e.2)] → W p l en (kR 2 49) s m args below meth c H locs 0 0 QQ (F0 m e.1 ls []))) (fun s7 e8 hb9 hG10 => ?_) kF _ x6 hx6 ?_) _ _ _ V (lv_sub hl [1, 2, 0] rfl)
  · intro H locs ls V hl
    show W p l en (kR 2 49) s m args below meth c H locs 0 0 QQ (F0 m 2 ls [])
    have h : p_X12_holdsAll_L2 zT v1 s7 = some e8 := hb9
    unfold p_X12_holdsAll_L2 at h
    have V : kW D AA s.heap H (List.flatten [gX12 g aT zT]) locs := V
    have hl : lv_has ls 4 [(0, .ref (aT 0)), (1, .long v1), (3, .int s7)] := hl
    refine lv_iload_n X.1 X.2.1 dX12_holdsAll_2 rfl (lv_at hl 2 rfl) ?_
    refine lv_aload_n X.1 X.2.1 dX12_holdsAll_3 rfl (lv_at hl 0 rfl) ?_
    refine gf_X12_157 (i := 0) X V rfl dX12_holdsAll_4 ?_
    refine lv_icmp_ge (tgt := 34) X.1 X.2.1 dX12_holdsAll_7 (by decide) (fun hc => ?_) (fun hc => ?_)
    · replace h := kif_t hc h
      obtain rfl := Option.some.inj h
      exact hG10 _ _ _ V (lv_sub hl [0, 1, 2] rfl)
    · replace h := kif_f hc h
      refine lv_lload_n X.1 X.2.1 dX12_holdsAll_10 rfl (lv_at hl 1 rfl) ?_
      refine lv_iload_n X.1 X.2.1 dX12_holdsAll_11 rfl (lv_at hl 2 rfl) ?_
      obtain ⟨x11, hx11, h⟩ := kb_of h
      refine s_callSi (segs' := [gX12 g aT zT]) X V (c_X12_has l D g v1 s7 x11 hx11) w_X12_225 ⟨Nat.le_of_ble_eq_true rfl, Nat.le_of_ble_eq_true rfl⟩ ⟨Nat.zero_le _, Nat.zero_le _⟩ rfl [] rfl rfl (kFst_refl _) rfl rfl hl.1 (Nat.le_of_ble_eq_true rfl) dX12_holdsAll_12 (fun H locs V => ?_)
      refine lv_if_eq (tgt := 28) X.1 X.2.1 dX12_holdsAll_15 (by decide) (fun hc => ?_) (fun hc => ?_)
      · replace h := kif_t hc h
        obtain ⟨y12, ey12⟩ : ∃ y : Int32, y = (s7 + (1 : Int32)) := ⟨_, rfl⟩
        replace h := kl_of ey12 h
        refine lv_iinc (v := y12) (lv' := [(3, .int y12), (0, .ref (aT 0)), (1, .long v1)]) X.1 X.2.1 dX12_holdsAll_28 hl (k := 2) rfl (by rw [ey12]; rfl) (by decide) rfl (fun ls hl => ?_)
        refine lv_goto (tgt := 2) X.1 X.2.1 dX12_holdsAll_31 (by decide) ?_
        obtain rfl := Option.some.inj h
        exact hG10 _ _ _ V (lv_sub hl [1, 2, 0] rfl)
      · replace h := kif_f hc h
        refine lv_aload_n X.1 X.2.1 dX12_holdsAll_18 rfl (lv_at hl 0 rfl) ?_
        refine lv_iload_n X.1 X.2.1 dX12_holdsAll_19 rfl (lv_at hl 2 rfl) ?_
        obtain ⟨x13, hx13, h⟩ := kb_of h
        refine s_callVi (segs' := [gX12 g aT zT]) (ci := 12) (i0 := 0) X V (c_X12_holds l D g aT zT s7 x13 hx13) w_X12_229 ⟨Nat.le_of_ble_eq_true rfl, Nat.le_of_ble_eq_true rfl⟩ ⟨Nat.zero_le _, Nat.zero_le _⟩ rfl rfl rfl rfl [0] rfl rfl (kFst_refl _) rfl rfl hl.1 (Nat.le_of_ble_eq_true rfl) dX12_holdsAll_20 (fun H locs V => ?_)
        refine lv_if_ne (tgt := 28) X.1 X.2.1 dX12_holdsAll_23 (by decide) (fun hc => ?_) (fun hc => ?_)
        · replace h := kif_f hc h
          obtain ⟨y14, ey14⟩ : ∃ y : Int32, y = (s7 + (1 : Int32)) := ⟨_, rfl⟩
          replace h := kl_of ey14 h
          refine lv_iinc (v := y14) (lv' := [(3, .int y14), (0, .ref (aT 0)), (1, .long v1)]) X.1 X.2.1 dX12_holdsAll_28 hl (k := 2) rfl (by rw [ey14]; rfl) (by decide) rfl (fun ls hl => ?_)
          refine lv_goto (tgt := 2) X.1 X.2.1 dX12_holdsAll_31 (by decide) ?_
          obtain rfl := Option.some.inj h
          exact hG10 _ _ _ V (lv_sub hl [1, 2, 0] rfl)
        · replace h := kif_t hc h
          obtain rfl := Option.some.inj h
          exact hG10 _ _ _ V (lv_sub hl [0, 1, 2] rfl)
  · intro H locs ls V hl
    have V : kW D AA s.heap H (List.flatten [gX12 g aT zT]) locs := V
    have hl : lv_has ls 4 [(0, .ref (aT 0)), (1, .long v1), (3, .int x6.2)] := hl
    by_cases hc : x6.1 = 26
    · replace h := kif_t hc h
      refine W.eq (g2 := F0 m 26 ls []) (by rw [hc]) ?_
      refine lv_iconst (v := (0 : Int32)) X.1 X.2.1 dX12_holdsAll_26 (by decide) ?_
      obtain rfl := Option.some.inj h
      rw [hAA] at V
      rw [hQQ]
      exact k_zret X V (b := false) rfl rfl dX12_holdsAll_27
    · replace h := kif_f hc h
      obtain ⟨hc, h⟩ := kg_of h
      refine W.eq (g2 := F0 m 34 ls []) (by rw [hc]) ?_
      refine lv_iconst (v := (1 : Int32)) X.1 X.2.1 dX12_holdsAll_34 (by decide) ?_
      obtain rfl := Option.some.inj h
      rw [hAA] at V
      rw [hQQ]
      exact k_zret X V (b := true) rfl rfl dX12_holdsAll_35

def p_X12_keepBest (zT : tX12) : Option (tX12) :=
  kl (zT.1, va_up zT.2.1 23 (zT.2.1 16), zT.2.2) (fun z1 => kl (z1.1, va_up z1.2.1 24 (z1.2.1 17), z1.2.2) (fun z2 => kl (z2.1, va_up z2.2.1 25 (z2.2.1 18), z2.2.2) (fun z3 => kl (z3.1, va_up z3.2.1 26 (z3.2.1 19), z3.2.2) (fun z4 => kl (z4.1, va_up z4.2.1 27 (z4.2.1 20), z4.2.2) (fun z5 => kl (z5.1, va_up z5.2.1 28 (z5.2.1 21), z5.2.2) (fun z6 => kl (z6.1, va_up z6.2.1 29 (z6.2.1 22), z6.2.2) (fun z7 => some z7)))))))
set_option maxHeartbeats 4000000 in
set_option maxRecDepth 100000 in
theorem c_X12_keepBest (l : Launch) (D : va_G) (g : kG) (aT : Nat → Nat) (zT : tX12) (r : tX12) (h : p_X12_keepBest zT = some r) : kMv l yX12_keepBest cX12_keepBest 1 none (kR 0 0) D (kty g) [.ref (aT 0)] (List.flatten [gX12 g aT zT]) (List.flatten [gX12 g aT r]) := by
  intro sz
  refine k_enter (lv := [(0, .ref (aT 0))]) RX12 (by decide +kernel) rfl rfl (Nat.le_of_ble_eq_true rfl) ?_
  intro p en s m args below meth c ls hsz X V hl
  obtain ⟨QQ, hQQ⟩ : ∃ q, q = MQ below (va_Qv (fun (_ : Unit) => True) (fun _ => kE D (List.flatten [gX12 g aT r])) (va_A (List.flatten [gX12 g aT zT]) sz)) args s 0 0 (va_A (List.flatten [gX12 g aT zT]) sz) := ⟨_, rfl⟩
  rw [← hQQ]
  obtain ⟨AA, hAA⟩ : ∃ q, q = va_A (List.flatten [gX12 g aT zT]) sz := ⟨_, rfl⟩
  rw [← hAA] at V
  unfold p_X12_keepBest at h
  refine lv_aload_n X.1 X.2.1 dX12_keepBest_0 rfl (lv_at hl 0 rfl) ?_
  refine lv_aload_n X.1 X.2.1 dX12_keepBest_1 rfl (lv_at hl 0 rfl) ?_
  refine gf_X12_180 (i := 0) X V rfl dX12_keepBest_2 ?_
  refine pf_X12_232 (i := 0) X V rfl dX12_keepBest_5 (fun H locs V => ?_)
  obtain ⟨z8, ez8⟩ : ∃ y, y = (zT.1, va_up zT.2.1 23 (zT.2.1 16), zT.2.2) := ⟨_, rfl⟩
  replace h := kl_of ez8 h
  have V : kW D AA s.heap H (List.flatten [gX12 g aT z8]) locs := by rw [ez8]; exact V
  refine lv_aload_n X.1 X.2.1 dX12_keepBest_8 rfl (lv_at hl 0 rfl) ?_
  refine lv_aload_n X.1 X.2.1 dX12_keepBest_9 rfl (lv_at hl 0 rfl) ?_
  refine gf_X12_184 (i := 0) X V rfl dX12_keepBest_10 ?_
  refine pf_X12_235 (i := 0) X V rfl dX12_keepBest_13 (fun H locs V => ?_)
  obtain ⟨z9, ez9⟩ : ∃ y, y = (z8.1, va_up z8.2.1 24 (z8.2.1 17), z8.2.2) := ⟨_, rfl⟩
  replace h := kl_of ez9 h
  have V : kW D AA s.heap H (List.flatten [gX12 g aT z9]) locs := by rw [ez9]; exact V
  refine lv_aload_n X.1 X.2.1 dX12_keepBest_16 rfl (lv_at hl 0 rfl) ?_
  refine lv_aload_n X.1 X.2.1 dX12_keepBest_17 rfl (lv_at hl 0 rfl) ?_
  refine gf_X12_187 (i := 0) X V rfl dX12_keepBest_18 ?_
  refine pf_X12_238 (i := 0) X V rfl dX12_keepBest_21 (fun H locs V => ?_)
  obtain ⟨z10, ez10⟩ : ∃ y, y = (z9.1, va_up z9.2.1 25 (z9.2.1 18), z9.2.2) := ⟨_, rfl⟩
  replace h := kl_of ez10 h
  have V : kW D AA s.heap H (List.flatten [gX12 g aT z10]) locs := by rw [ez10]; exact V
  refine lv_aload_n X.1 X.2.1 dX12_keepBest_24 rfl (lv_at hl 0 rfl) ?_
  refine lv_aload_n X.1 X.2.1 dX12_keepBest_25 rfl (lv_at hl 0 rfl) ?_
  refine gf_X12_190 (i := 0) X V rfl dX12_keepBest_26 ?_
  refine pf_X12_241 (i := 0) X V rfl dX12_keepBest_29 (fun H locs V => ?_)
  obtain ⟨z11, ez11⟩ : ∃ y, y = (z10.1, va_up z10.2.1 26 (z10.2.1 19), z10.2.2) := ⟨_, rfl⟩
  replace h := kl_of ez11 h
  have V : kW D AA s.heap H (List.flatten [gX12 g aT z11]) locs := by rw [ez11]; exact V
  refine lv_aload_n X.1 X.2.1 dX12_keepBest_32 rfl (lv_at hl 0 rfl) ?_
  refine lv_aload_n X.1 X.2.1 dX12_keepBest_33 rfl (lv_at hl 0 rfl) ?_
  refine gf_X12_193 (i := 0) X V rfl dX12_keepBest_34 ?_
  refine pf_X12_244 (i := 0) X V rfl dX12_keepBest_37 (fun H locs V => ?_)
  obtain ⟨z12, ez12⟩ : ∃ y, y = (z11.1, va_up z11.2.1 27 (z11.2.1 20), z11.2.2) := ⟨_, rfl⟩
  replace h := kl_of ez12 h
  have V : kW D AA s.heap H (List.flatten [gX12 g aT z12]) locs := by rw [ez12]; exact V
  refine lv_aload_n X.1 X.2.1 dX12_keepBest_40 rfl (lv_at hl 0 rfl) ?_
  refine lv_aload_n X.1 X.2.1 dX12_keepBest_41 rfl (lv_at hl 0 rfl) ?_
  refine gf_X12_196 (i := 0) X V rfl dX12_keepBest_42 ?_
  refine pf_X12_247 (i := 0) X V rfl dX12_keepBest_45 (fun H locs V => ?_)
  obtain ⟨z13, ez13⟩ : ∃ y, y = (z12.1, va_up z12.2.1 28 (z12.2.1 21), z12.2.2) := ⟨_, rfl⟩
  replace h := kl_of ez13 h
  have V : kW D AA s.heap H (List.flatten [gX12 g aT z13]) locs := by rw [ez13]; exact V
  refine lv_aload_n X.1 X.2.1 dX12_keepBest_48 rfl (lv_at hl 0 rfl) ?_
  refine lv_aload_n X.1 X.2.1 dX12_keepBest_49 rfl (lv_at hl 0 rfl) ?_
  refine gf_X12_199 (i := 0) X V rfl dX12_keepBest_50 ?_
  refine pf_X12_250 (i := 0) X V rfl dX12_keepBest_53 (fun H locs V => ?_)
  obtain ⟨z14, ez14⟩ : ∃ y, y = (z13.1, va_up z13.2.1 29 (z13.2.1 22), z13.2.2) := ⟨_, rfl⟩
  replace h := kl_of ez14 h
  have V : kW D AA s.heap H (List.flatten [gX12 g aT z14]) locs := by rw [ez14]; exact V
  obtain rfl := Option.some.inj h
  rw [hAA] at V
  rw [hQQ]
  exact k_vret X V dX12_keepBest_56

def p_X12_takeBest (zT : tX12) : Option (tX12) :=
  kl (zT.1, va_up zT.2.1 16 (zT.2.1 23), zT.2.2) (fun z1 => kl (z1.1, va_up z1.2.1 17 (z1.2.1 24), z1.2.2) (fun z2 => kl (z2.1, va_up z2.2.1 18 (z2.2.1 25), z2.2.2) (fun z3 => kl (z3.1, va_up z3.2.1 19 (z3.2.1 26), z3.2.2) (fun z4 => kl (z4.1, va_up z4.2.1 20 (z4.2.1 27), z4.2.2) (fun z5 => kl (z5.1, va_up z5.2.1 21 (z5.2.1 28), z5.2.2) (fun z6 => kl (z6.1, va_up z6.2.1 22 (z6.2.1 29), z6.2.2) (fun z7 => some z7)))))))
set_option maxHeartbeats 4000000 in
set_option maxRecDepth 100000 in
theorem c_X12_takeBest (l : Launch) (D : va_G) (g : kG) (aT : Nat → Nat) (zT : tX12) (r : tX12) (h : p_X12_takeBest zT = some r) : kMv l yX12_takeBest cX12_takeBest 1 none (kR 0 0) D (kty g) [.ref (aT 0)] (List.flatten [gX12 g aT zT]) (List.flatten [gX12 g aT r]) := by
  intro sz
  refine k_enter (lv := [(0, .ref (aT 0))]) RX12 (by decide +kernel) rfl rfl (Nat.le_of_ble_eq_true rfl) ?_
  intro p en s m args below meth c ls hsz X V hl
  obtain ⟨QQ, hQQ⟩ : ∃ q, q = MQ below (va_Qv (fun (_ : Unit) => True) (fun _ => kE D (List.flatten [gX12 g aT r])) (va_A (List.flatten [gX12 g aT zT]) sz)) args s 0 0 (va_A (List.flatten [gX12 g aT zT]) sz) := ⟨_, rfl⟩
  rw [← hQQ]
  obtain ⟨AA, hAA⟩ : ∃ q, q = va_A (List.flatten [gX12 g aT zT]) sz := ⟨_, rfl⟩
  rw [← hAA] at V
  unfold p_X12_takeBest at h
  refine lv_aload_n X.1 X.2.1 dX12_takeBest_0 rfl (lv_at hl 0 rfl) ?_
  refine lv_aload_n X.1 X.2.1 dX12_takeBest_1 rfl (lv_at hl 0 rfl) ?_
  refine gf_X12_232 (i := 0) X V rfl dX12_takeBest_2 ?_
  refine pf_X12_180 (i := 0) X V rfl dX12_takeBest_5 (fun H locs V => ?_)
  obtain ⟨z8, ez8⟩ : ∃ y, y = (zT.1, va_up zT.2.1 16 (zT.2.1 23), zT.2.2) := ⟨_, rfl⟩
  replace h := kl_of ez8 h
  have V : kW D AA s.heap H (List.flatten [gX12 g aT z8]) locs := by rw [ez8]; exact V
  refine lv_aload_n X.1 X.2.1 dX12_takeBest_8 rfl (lv_at hl 0 rfl) ?_
  refine lv_aload_n X.1 X.2.1 dX12_takeBest_9 rfl (lv_at hl 0 rfl) ?_
  refine gf_X12_235 (i := 0) X V rfl dX12_takeBest_10 ?_
  refine pf_X12_184 (i := 0) X V rfl dX12_takeBest_13 (fun H locs V => ?_)
  obtain ⟨z9, ez9⟩ : ∃ y, y = (z8.1, va_up z8.2.1 17 (z8.2.1 24), z8.2.2) := ⟨_, rfl⟩
  replace h := kl_of ez9 h
  have V : kW D AA s.heap H (List.flatten [gX12 g aT z9]) locs := by rw [ez9]; exact V
  refine lv_aload_n X.1 X.2.1 dX12_takeBest_16 rfl (lv_at hl 0 rfl) ?_
  refine lv_aload_n X.1 X.2.1 dX12_takeBest_17 rfl (lv_at hl 0 rfl) ?_
  refine gf_X12_238 (i := 0) X V rfl dX12_takeBest_18 ?_
  refine pf_X12_187 (i := 0) X V rfl dX12_takeBest_21 (fun H locs V => ?_)
  obtain ⟨z10, ez10⟩ : ∃ y, y = (z9.1, va_up z9.2.1 18 (z9.2.1 25), z9.2.2) := ⟨_, rfl⟩
  replace h := kl_of ez10 h
  have V : kW D AA s.heap H (List.flatten [gX12 g aT z10]) locs := by rw [ez10]; exact V
  refine lv_aload_n X.1 X.2.1 dX12_takeBest_24 rfl (lv_at hl 0 rfl) ?_
  refine lv_aload_n X.1 X.2.1 dX12_takeBest_25 rfl (lv_at hl 0 rfl) ?_
  refine gf_X12_241 (i := 0) X V rfl dX12_takeBest_26 ?_
  refine pf_X12_190 (i := 0) X V rfl dX12_takeBest_29 (fun H locs V => ?_)
  obtain ⟨z11, ez11⟩ : ∃ y, y = (z10.1, va_up z10.2.1 19 (z10.2.1 26), z10.2.2) := ⟨_, rfl⟩
  replace h := kl_of ez11 h
  have V : kW D AA s.heap H (List.flatten [gX12 g aT z11]) locs := by rw [ez11]; exact V
  refine lv_aload_n X.1 X.2.1 dX12_takeBest_32 rfl (lv_at hl 0 rfl) ?_
  refine lv_aload_n X.1 X.2.1 dX12_takeBest_33 rfl (lv_at hl 0 rfl) ?_
  refine gf_X12_244 (i := 0) X V rfl dX12_takeBest_34 ?_
  refine pf_X12_193 (i := 0) X V rfl dX12_takeBest_37 (fun H locs V => ?_)
  obtain ⟨z12, ez12⟩ : ∃ y, y = (z11.1, va_up z11.2.1 20 (z11.2.1 27), z11.2.2) := ⟨_, rfl⟩
  replace h := kl_of ez12 h
  have V : kW D AA s.heap H (List.flatten [gX12 g aT z12]) locs := by rw [ez12]; exact V
  refine lv_aload_n X.1 X.2.1 dX12_takeBest_40 rfl (lv_at hl 0 rfl) ?_
  refine lv_aload_n X.1 X.2.1 dX12_takeBest_41 rfl (lv_at hl 0 rfl) ?_
  refine gf_X12_247 (i := 0) X V rfl dX12_takeBest_42 ?_
  refine pf_X12_196 (i := 0) X V rfl dX12_takeBest_45 (fun H locs V => ?_)
  obtain ⟨z13, ez13⟩ : ∃ y, y = (z12.1, va_up z12.2.1 21 (z12.2.1 28), z12.2.2) := ⟨_, rfl⟩
  replace h := kl_of ez13 h
  have V : kW D AA s.heap H (List.flatten [gX12 g aT z13]) locs := by rw [ez13]; exact V
  refine lv_aload_n X.1 X.2.1 dX12_takeBest_48 rfl (lv_at hl 0 rfl) ?_
  refine lv_aload_n X.1 X.2.1 dX12_takeBest_49 rfl (lv_at hl 0 rfl) ?_
  refine gf_X12_250 (i := 0) X V rfl dX12_takeBest_50 ?_
  refine pf_X12_199 (i := 0) X V rfl dX12_takeBest_53 (fun H locs V => ?_)
  obtain ⟨z14, ez14⟩ : ∃ y, y = (z13.1, va_up z13.2.1 22 (z13.2.1 29), z13.2.2) := ⟨_, rfl⟩
  replace h := kl_of ez14 h
  have V : kW D AA s.heap H (List.flatten [gX12 g aT z14]) locs := by rw [ez14]; exact V
  obtain rfl := Option.some.inj h
  rw [hAA] at V
  rw [hQQ]
  exact k_vret X V dX12_takeBest_56

def p_X12_layTriples_J100_36 (v1 : Int64) (zT : tX12) (v3 : Int32) (v4 : Int32) (v5 : Int32) (v6 : Int32) : Option (Nat × (Int32 × Int32 × tX12)) :=
  kb (p_X12_holdsAll zT v1) (fun x7 => kif ((kz x7) = 0) (kl (v6 + (1 : Int32)) (fun y8 => some (36, (v3, y8, zT)))) (kb (p_X12_keepBest zT) (fun x9 => kl (v6 + (1 : Int32)) (fun y10 => some (36, ((1 : Int32), y10, x9))))))
def p_X12_layTriples_L36 (v1 : Int64) (v4 : Int32) (v5 : Int32) (s : Int32 × Int32 × tX12) : Option (Nat × (Int32 × Int32 × tX12)) :=
  kif (v5 ≤ s.2.1) (some (123, (s.1, s.2.1, s.2.2))) (kb (p_X12_has v1 v5) (fun x2 => kif ((kz x2) = 0) (some (123, (s.1, s.2.1, s.2.2))) (kb (p_X12_has v1 s.2.1) (fun x3 => kif ((kz x3) = 0) (kl (s.2.1 + (1 : Int32)) (fun y4 => some (36, (s.1, y4, s.2.2)))) (kb (p_X12_isTriple s.2.2 v4 v5 s.2.1) (fun x5 => kif ((kz x5.1) = 0) (kl (s.2.1 + (1 : Int32)) (fun y6 => some (36, (s.1, y6, x5.2)))) (kif (s.1 = 0) (p_X12_layTriples_J100_36 v1 x5.2 s.1 v4 v5 s.2.1) (kb (p_X12_against (x5.2.2.1 21) (x5.2.2.1 22) (x5.2.2.1 28) (x5.2.2.1 29)) (fun x11 => kif (0 ≤ x11) (kl (s.2.1 + (1 : Int32)) (fun y12 => some (36, (s.1, y12, x5.2)))) (p_X12_layTriples_J100_36 v1 x5.2 s.1 v4 v5 s.2.1))))))))))
def p_X12_layTriples_L17 (v1 : Int64) (v4 : Int32) (s : Int32 × Int32 × tX12) : Option (Nat × (Int32 × Int32 × tX12)) :=
  kif (v4 ≤ s.2.1) (some (129, (s.1, s.2.1, s.2.2))) (kb (p_X12_has v1 v4) (fun x1 => kif ((kz x1) = 0) (some (129, (s.1, s.2.1, s.2.2))) (kb (kitr 36 (fun q => p_X12_layTriples_L36 v1 v4 s.2.1 q) kF (s.1, (0 : Int32), s.2.2)) (fun x13 => kg (x13.1 = 123) (kl (s.2.1 + (1 : Int32)) (fun y14 => some (17, (x13.2.1, y14, x13.2.2.2))))))))
def p_X12_layTriples_L5 (v1 : Int64) (s : Int32 × Int32 × tX12) : Option (Nat × (Int32 × Int32 × tX12)) :=
  kif ((s.2.2.1 15) ≤ s.2.1) (some (135, (s.1, s.2.1, s.2.2))) (kb (kitr 17 (fun q => p_X12_layTriples_L17 v1 s.2.1 q) kF (s.1, (0 : Int32), s.2.2)) (fun x15 => kg (x15.1 = 129) (kl (s.2.1 + (1 : Int32)) (fun y16 => some (5, (x15.2.1, y16, x15.2.2.2))))))
def p_X12_layTriples (zT : tX12) (v1 : Int64) : Option (tX12) :=
  kb (kitr 5 (fun q => p_X12_layTriples_L5 v1 q) kF ((0 : Int32), (0 : Int32), zT)) (fun x17 => kg (x17.1 = 135) (kb (p_X12_takeBest x17.2.2.2) (fun x18 => some x18)))
set_option maxHeartbeats 4000000 in
set_option maxRecDepth 100000 in
theorem c_X12_layTriples (l : Launch) (D : va_G) (g : kG) (aT : Nat → Nat) (zT : tX12) (v1 : Int64) (r : tX12) (h : p_X12_layTriples zT v1 = some r) : kMv l yX12_layTriples cX12_layTriples 7 none (kR 3 95) D (kty g) [.ref (aT 0), .long v1] (List.flatten [gX12 g aT zT]) (List.flatten [gX12 g aT r]) := by
  intro sz
  refine k_enter (lv := [(0, .ref (aT 0)), (1, .long v1)]) RX12 (by decide +kernel) rfl rfl (Nat.le_of_ble_eq_true rfl) ?_
  intro p en s m args below meth c ls hsz X V hl
  obtain ⟨QQ, hQQ⟩ : ∃ q, q = MQ below (va_Qv (fun (_ : Unit) => True) (fun _ => kE D (List.flatten [gX12 g aT r])) (va_A (List.flatten [gX12 g aT zT]) sz)) args s 0 0 (va_A (List.flatten [gX12 g aT zT]) sz) := ⟨_, rfl⟩
  rw [← hQQ]
  obtain ⟨AA, hAA⟩ : ∃ q, q = va_A (List.flatten [gX12 g aT zT]) sz := ⟨_, rfl⟩
  rw [← hAA] at V
  unfold p_X12_layTriples at h
  refine lv_iconst (v := (0 : Int32)) X.1 X.2.1 dX12_layTriples_0 (by decide) ?_
  refine lv_istore_n (lv' := [(3, .int (0 : Int32)), (0, .ref (aT 0)), (1, .long v1)]) X.1 X.2.1 dX12_layTriples_1 rfl hl (by decide) rfl (fun ls hl => ?_)
  refine lv_iconst (v := (0 : Int32)) X.1 X.2.1 dX12_layTriples_2 (by decide) ?_
  refine lv_istore (lv' := [(4, .int (0 : Int32)), (3, .int (0 : Int32)), (0, .ref (aT 0)), (1, .long v1)]) X.1 X.2.1 dX12_layTriples_3 hl (by decide) rfl (fun ls hl => ?_)
  obtain ⟨x19, hx19, h⟩ := kb_of h
  refine (kitr_go (hd := 5) (body := fun q => p_X12_layTriples_L5 v1 q) (G := (fun e => ∀ (H : Heap) (locs : List Loc) (ls : Array Slot), kW D AA s.heap H (List.flatten [gX12 g aT e.2.2.2]) locs → lv_has ls 7 [(0, .ref (aT 0)), (1, .long v1), (3, .int e.2.1), (4, .int e.2.2.1)] → W p l en (kR 3 95) s m args below meth c H locs 0 0 QQ (F0 m e.1 ls []))) (fun s20 e21 hb22 hG23 => ?_) kF _ x19 hx19 ?_) _ _ _ V (lv_sub hl [2, 3, 1, 0] rfl)
  · intro H locs ls V hl
    show W p l en (kR 3 95) s m args below meth c H locs 0 0 QQ (F0 m 5 ls [])
    have h : p_X12_layTriples_L5 v1 s20 = some e21 := hb22
    unfold p_X12_layTriples_L5 at h
    have V : kW D AA s.heap H (List.flatten [gX12 g aT s20.2.2]) locs := V
    have hl : lv_has ls 7 [(0, .ref (aT 0)), (1, .long v1), (3, .int s20.1), (4, .int s20.2.1)] := hl
    refine lv_iload X.1 X.2.1 dX12_layTriples_5 (lv_at hl 3 rfl) ?_
    refine lv_aload_n X.1 X.2.1 dX12_layTriples_7 rfl (lv_at hl 0 rfl) ?_
    refine gf_X12_157 (i := 0) X V rfl dX12_layTriples_8 ?_
    refine lv_icmp_ge (tgt := 135) X.1 X.2.1 dX12_layTriples_11 (by decide) (fun hc => ?_) (fun hc => ?_)
    · replace h := kif_t hc h
      obtain rfl := Option.some.inj h
      exact hG23 _ _ _ V (lv_sub hl [0, 1, 2, 3] rfl)
    · replace h := kif_f hc h
      refine lv_iconst (v := (0 : Int32)) X.1 X.2.1 dX12_layTriples_14 (by decide) ?_
      refine lv_istore (lv' := [(5, .int (0 : Int32)), (0, .ref (aT 0)), (1, .long v1), (3, .int s20.1), (4, .int s20.2.1)]) X.1 X.2.1 dX12_layTriples_15 hl (by decide) rfl (fun ls hl => ?_)
      obtain ⟨x24, hx24, h⟩ := kb_of h
      refine (kitr_go (hd := 17) (body := fun q => p_X12_layTriples_L17 v1 s20.2.1 q) (G := (fun e => ∀ (H : Heap) (locs : List Loc) (ls : Array Slot), kW D AA s.heap H (List.flatten [gX12 g aT e.2.2.2]) locs → lv_has ls 7 [(0, .ref (aT 0)), (1, .long v1), (3, .int e.2.1), (4, .int s20.2.1), (5, .int e.2.2.1)] → W p l en (kR 3 95) s m args below meth c H locs 0 0 QQ (F0 m e.1 ls []))) (fun s25 e26 hb27 hG28 => ?_) kF _ x24 hx24 ?_) _ _ _ V (lv_sub hl [1, 2, 3, 4, 0] rfl)
      · intro H locs ls V hl
        show W p l en (kR 3 95) s m args below meth c H locs 0 0 QQ (F0 m 17 ls [])
        have h : p_X12_layTriples_L17 v1 s20.2.1 s25 = some e26 := hb27
        unfold p_X12_layTriples_L17 at h
        have V : kW D AA s.heap H (List.flatten [gX12 g aT s25.2.2]) locs := V
        have hl : lv_has ls 7 [(0, .ref (aT 0)), (1, .long v1), (3, .int s25.1), (4, .int s20.2.1), (5, .int s25.2.1)] := hl
        refine lv_iload X.1 X.2.1 dX12_layTriples_17 (lv_at hl 4 rfl) ?_
        refine lv_iload X.1 X.2.1 dX12_layTriples_19 (lv_at hl 3 rfl) ?_
        refine lv_icmp_ge (tgt := 129) X.1 X.2.1 dX12_layTriples_21 (by decide) (fun hc => ?_) (fun hc => ?_)
        · replace h := kif_t hc h
          obtain rfl := Option.some.inj h
          exact hG28 _ _ _ V (lv_sub hl [0, 1, 2, 3, 4] rfl)
        · replace h := kif_f hc h
          refine lv_lload_n X.1 X.2.1 dX12_layTriples_24 rfl (lv_at hl 1 rfl) ?_
          refine lv_iload X.1 X.2.1 dX12_layTriples_25 (lv_at hl 3 rfl) ?_
          obtain ⟨x29, hx29, h⟩ := kb_of h
          refine s_callSi (segs' := [gX12 g aT s25.2.2]) X V (c_X12_has l D g v1 s20.2.1 x29 hx29) w_X12_225 ⟨Nat.le_of_ble_eq_true rfl, Nat.le_of_ble_eq_true rfl⟩ ⟨Nat.zero_le _, Nat.zero_le _⟩ rfl [] rfl rfl (kFst_refl _) rfl rfl hl.1 (Nat.le_of_ble_eq_true rfl) dX12_layTriples_27 (fun H locs V => ?_)
          refine lv_if_eq (tgt := 129) X.1 X.2.1 dX12_layTriples_30 (by decide) (fun hc => ?_) (fun hc => ?_)
          · replace h := kif_t hc h
            obtain rfl := Option.some.inj h
            exact hG28 _ _ _ V (lv_sub hl [0, 1, 2, 3, 4] rfl)
          · replace h := kif_f hc h
            refine lv_iconst (v := (0 : Int32)) X.1 X.2.1 dX12_layTriples_33 (by decide) ?_
            refine lv_istore (lv' := [(6, .int (0 : Int32)), (0, .ref (aT 0)), (1, .long v1), (3, .int s25.1), (4, .int s20.2.1), (5, .int s25.2.1)]) X.1 X.2.1 dX12_layTriples_34 hl (by decide) rfl (fun ls hl => ?_)
            obtain ⟨x30, hx30, h⟩ := kb_of h
            refine (kitr_go (hd := 36) (body := fun q => p_X12_layTriples_L36 v1 s20.2.1 s25.2.1 q) (G := (fun e => ∀ (H : Heap) (locs : List Loc) (ls : Array Slot), kW D AA s.heap H (List.flatten [gX12 g aT e.2.2.2]) locs → lv_has ls 7 [(0, .ref (aT 0)), (1, .long v1), (3, .int e.2.1), (4, .int s20.2.1), (5, .int s25.2.1), (6, .int e.2.2.1)] → W p l en (kR 3 95) s m args below meth c H locs 0 0 QQ (F0 m e.1 ls []))) (fun s31 e32 hb33 hG34 => ?_) kF _ x30 hx30 ?_) _ _ _ V (lv_sub hl [1, 2, 3, 4, 5, 0] rfl)
            · intro H locs ls V hl
              show W p l en (kR 3 95) s m args below meth c H locs 0 0 QQ (F0 m 36 ls [])
              have h : p_X12_layTriples_L36 v1 s20.2.1 s25.2.1 s31 = some e32 := hb33
              unfold p_X12_layTriples_L36 at h
              have V : kW D AA s.heap H (List.flatten [gX12 g aT s31.2.2]) locs := V
              have hl : lv_has ls 7 [(0, .ref (aT 0)), (1, .long v1), (3, .int s31.1), (4, .int s20.2.1), (5, .int s25.2.1), (6, .int s31.2.1)] := hl
              have J100 : ∀ (zT : tX12) (v3 : Int32) (v6 : Int32) (H : Heap) (locs : List Loc) (ls : Array Slot), p_X12_layTriples_J100_36 v1 zT v3 s20.2.1 s25.2.1 v6 = some e32 → kW D AA s.heap H (List.flatten [gX12 g aT zT]) locs → lv_has ls 7 [(0, .ref (aT 0)), (1, .long v1), (3, .int v3), (4, .int s20.2.1), (5, .int s25.2.1), (6, .int v6)] → W p l en (kR 3 95) s m args below meth c H locs 0 0 QQ (F0 m 100 ls []) := by
                intro zT v3 v6 H locs ls h V hl
                unfold p_X12_layTriples_J100_36 at h
                refine lv_aload_n X.1 X.2.1 dX12_layTriples_100 rfl (lv_at hl 0 rfl) ?_
                refine lv_lload_n X.1 X.2.1 dX12_layTriples_101 rfl (lv_at hl 1 rfl) ?_
                obtain ⟨x35, hx35, h⟩ := kb_of h
                refine s_callVi (segs' := [gX12 g aT zT]) (ci := 12) (i0 := 0) X V (c_X12_holdsAll l D g aT zT v1 x35 hx35) w_X12_260 ⟨Nat.le_of_ble_eq_true rfl, Nat.le_of_ble_eq_true rfl⟩ ⟨Nat.zero_le _, Nat.zero_le _⟩ rfl rfl rfl rfl [0] rfl rfl (kFst_refl _) rfl rfl hl.1 (Nat.le_of_ble_eq_true rfl) dX12_layTriples_102 (fun H locs V => ?_)
                refine lv_if_ne (tgt := 111) X.1 X.2.1 dX12_layTriples_105 (by decide) (fun hc => ?_) (fun hc => ?_)
                · replace h := kif_f hc h
                  refine lv_iconst (v := (1 : Int32)) X.1 X.2.1 dX12_layTriples_111 (by decide) ?_
                  refine lv_istore_n (lv' := [(3, .int (1 : Int32)), (0, .ref (aT 0)), (1, .long v1), (4, .int s20.2.1), (5, .int s25.2.1), (6, .int v6)]) X.1 X.2.1 dX12_layTriples_112 rfl hl (by decide) rfl (fun ls hl => ?_)
                  refine lv_aload_n X.1 X.2.1 dX12_layTriples_113 rfl (lv_at hl 1 rfl) ?_
                  obtain ⟨x36, hx36, h⟩ := kb_of h
                  refine s_callVv (segs' := [gX12 g aT x36]) (ci := 12) (i0 := 0) X V (c_X12_keepBest l D g aT zT x36 hx36) w_X12_275 ⟨Nat.le_of_ble_eq_true rfl, Nat.le_of_ble_eq_true rfl⟩ ⟨Nat.zero_le _, Nat.zero_le _⟩ rfl rfl rfl rfl [0] rfl rfl ⟨gX12_fst, trivial⟩ rfl rfl hl.1 (Nat.le_of_ble_eq_true rfl) dX12_layTriples_114 (fun H locs V => ?_)
                  obtain ⟨y37, ey37⟩ : ∃ y : Int32, y = (v6 + (1 : Int32)) := ⟨_, rfl⟩
                  replace h := kl_of ey37 h
                  refine lv_iinc (v := y37) (lv' := [(6, .int y37), (3, .int (1 : Int32)), (0, .ref (aT 0)), (1, .long v1), (4, .int s20.2.1), (5, .int s25.2.1)]) X.1 X.2.1 dX12_layTriples_117 hl (k := 5) rfl (by rw [ey37]; rfl) (by decide) rfl (fun ls hl => ?_)
                  refine lv_goto (tgt := 36) X.1 X.2.1 dX12_layTriples_120 (by decide) ?_
                  obtain rfl := Option.some.inj h
                  exact hG34 _ _ _ V (lv_sub hl [2, 3, 1, 4, 5, 0] rfl)
                · replace h := kif_t hc h
                  refine lv_goto (tgt := 117) X.1 X.2.1 dX12_layTriples_108 (by decide) ?_
                  obtain ⟨y38, ey38⟩ : ∃ y : Int32, y = (v6 + (1 : Int32)) := ⟨_, rfl⟩
                  replace h := kl_of ey38 h
                  refine lv_iinc (v := y38) (lv' := [(6, .int y38), (0, .ref (aT 0)), (1, .long v1), (3, .int v3), (4, .int s20.2.1), (5, .int s25.2.1)]) X.1 X.2.1 dX12_layTriples_117 hl (k := 5) rfl (by rw [ey38]; rfl) (by decide) rfl (fun ls hl => ?_)
                  refine lv_goto (tgt := 36) X.1 X.2.1 dX12_layTriples_120 (by decide) ?_
                  obtain rfl := Option.some.inj h
                  exact hG34 _ _ _ V (lv_sub hl [1, 2, 3, 4, 5, 0] rfl)
              refine lv_iload X.1 X.2.1 dX12_layTriples_36 (lv_at hl 5 rfl) ?_
              refine lv_iload X.1 X.2.1 dX12_layTriples_38 (lv_at hl 4 rfl) ?_
              refine lv_icmp_ge (tgt := 123) X.1 X.2.1 dX12_layTriples_40 (by decide) (fun hc => ?_) (fun hc => ?_)
              · replace h := kif_t hc h
                obtain rfl := Option.some.inj h
                exact hG34 _ _ _ V (lv_sub hl [0, 1, 2, 3, 4, 5] rfl)
              · replace h := kif_f hc h
                refine lv_lload_n X.1 X.2.1 dX12_layTriples_43 rfl (lv_at hl 1 rfl) ?_
                refine lv_iload X.1 X.2.1 dX12_layTriples_44 (lv_at hl 4 rfl) ?_
                obtain ⟨x39, hx39, h⟩ := kb_of h
                refine s_callSi (segs' := [gX12 g aT s31.2.2]) X V (c_X12_has l D g v1 s25.2.1 x39 hx39) w_X12_225 ⟨Nat.le_of_ble_eq_true rfl, Nat.le_of_ble_eq_true rfl⟩ ⟨Nat.zero_le _, Nat.zero_le _⟩ rfl [] rfl rfl (kFst_refl _) rfl rfl hl.1 (Nat.le_of_ble_eq_true rfl) dX12_layTriples_46 (fun H locs V => ?_)
                refine lv_if_eq (tgt := 123) X.1 X.2.1 dX12_layTriples_49 (by decide) (fun hc => ?_) (fun hc => ?_)
                · replace h := kif_t hc h
                  obtain rfl := Option.some.inj h
                  exact hG34 _ _ _ V (lv_sub hl [0, 1, 2, 3, 4, 5] rfl)
                · replace h := kif_f hc h
                  refine lv_lload_n X.1 X.2.1 dX12_layTriples_52 rfl (lv_at hl 1 rfl) ?_
                  refine lv_iload X.1 X.2.1 dX12_layTriples_53 (lv_at hl 5 rfl) ?_
                  obtain ⟨x40, hx40, h⟩ := kb_of h
                  refine s_callSi (segs' := [gX12 g aT s31.2.2]) X V (c_X12_has l D g v1 s31.2.1 x40 hx40) w_X12_225 ⟨Nat.le_of_ble_eq_true rfl, Nat.le_of_ble_eq_true rfl⟩ ⟨Nat.zero_le _, Nat.zero_le _⟩ rfl [] rfl rfl (kFst_refl _) rfl rfl hl.1 (Nat.le_of_ble_eq_true rfl) dX12_layTriples_55 (fun H locs V => ?_)
                  refine lv_if_eq (tgt := 117) X.1 X.2.1 dX12_layTriples_58 (by decide) (fun hc => ?_) (fun hc => ?_)
                  · replace h := kif_t hc h
                    obtain ⟨y41, ey41⟩ : ∃ y : Int32, y = (s31.2.1 + (1 : Int32)) := ⟨_, rfl⟩
                    replace h := kl_of ey41 h
                    refine lv_iinc (v := y41) (lv' := [(6, .int y41), (0, .ref (aT 0)), (1, .long v1), (3, .int s31.1), (4, .int s20.2.1), (5, .int s25.2.1)]) X.1 X.2.1 dX12_layTriples_117 hl (k := 5) rfl (by rw [ey41]; rfl) (by decide) rfl (fun ls hl => ?_)
                    refine lv_goto (tgt := 36) X.1 X.2.1 dX12_layTriples_120 (by decide) ?_
                    obtain rfl := Option.some.inj h
                    exact hG34 _ _ _ V (lv_sub hl [1, 2, 3, 4, 5, 0] rfl)
                  · replace h := kif_f hc h
                    refine lv_aload_n X.1 X.2.1 dX12_layTriples_61 rfl (lv_at hl 0 rfl) ?_
                    refine lv_iload X.1 X.2.1 dX12_layTriples_62 (lv_at hl 3 rfl) ?_
                    refine lv_iload X.1 X.2.1 dX12_layTriples_64 (lv_at hl 4 rfl) ?_
                    refine lv_iload X.1 X.2.1 dX12_layTriples_66 (lv_at hl 5 rfl) ?_
                    obtain ⟨x42, hx42, h⟩ := kb_of h
                    refine s_callVi (segs' := [gX12 g aT x42.2]) (ci := 12) (i0 := 0) X V (c_X12_isTriple l D g aT s31.2.2 s20.2.1 s25.2.1 s31.2.1 x42 hx42) w_X12_268 ⟨Nat.le_of_ble_eq_true rfl, Nat.le_of_ble_eq_true rfl⟩ ⟨Nat.zero_le _, Nat.zero_le _⟩ rfl rfl rfl rfl [0] rfl rfl ⟨gX12_fst, trivial⟩ rfl rfl hl.1 (Nat.le_of_ble_eq_true rfl) dX12_layTriples_68 (fun H locs V => ?_)
                    refine lv_if_eq (tgt := 117) X.1 X.2.1 dX12_layTriples_71 (by decide) (fun hc => ?_) (fun hc => ?_)
                    · replace h := kif_t hc h
                      obtain ⟨y43, ey43⟩ : ∃ y : Int32, y = (s31.2.1 + (1 : Int32)) := ⟨_, rfl⟩
                      replace h := kl_of ey43 h
                      refine lv_iinc (v := y43) (lv' := [(6, .int y43), (0, .ref (aT 0)), (1, .long v1), (3, .int s31.1), (4, .int s20.2.1), (5, .int s25.2.1)]) X.1 X.2.1 dX12_layTriples_117 hl (k := 5) rfl (by rw [ey43]; rfl) (by decide) rfl (fun ls hl => ?_)
                      refine lv_goto (tgt := 36) X.1 X.2.1 dX12_layTriples_120 (by decide) ?_
                      obtain rfl := Option.some.inj h
                      exact hG34 _ _ _ V (lv_sub hl [1, 2, 3, 4, 5, 0] rfl)
                    · replace h := kif_f hc h
                      refine lv_iload_n X.1 X.2.1 dX12_layTriples_74 rfl (lv_at hl 2 rfl) ?_
                      refine lv_if_eq (tgt := 100) X.1 X.2.1 dX12_layTriples_75 (by decide) (fun hc => ?_) (fun hc => ?_)
                      · replace h := kif_t hc h
                        exact J100 x42.2 s31.1 s31.2.1 _ _ _ h V (lv_sub hl [0, 1, 2, 3, 4, 5] rfl)
                      · replace h := kif_f hc h
                        refine lv_aload_n X.1 X.2.1 dX12_layTriples_78 rfl (lv_at hl 0 rfl) ?_
                        refine gf_X12_196 (i := 0) X V rfl dX12_layTriples_79 ?_
                        refine lv_aload_n X.1 X.2.1 dX12_layTriples_82 rfl (lv_at hl 0 rfl) ?_
                        refine gf_X12_199 (i := 0) X V rfl dX12_layTriples_83 ?_
                        refine lv_aload_n X.1 X.2.1 dX12_layTriples_86 rfl (lv_at hl 0 rfl) ?_
                        refine gf_X12_247 (i := 0) X V rfl dX12_layTriples_87 ?_
                        refine lv_aload_n X.1 X.2.1 dX12_layTriples_90 rfl (lv_at hl 0 rfl) ?_
                        refine gf_X12_250 (i := 0) X V rfl dX12_layTriples_91 ?_
                        obtain ⟨x44, hx44, h⟩ := kb_of h
                        refine s_callSi (segs' := [gX12 g aT x42.2]) X V (c_X12_against l D g (x42.2.2.1 21) (x42.2.2.1 22) (x42.2.2.1 28) (x42.2.2.1 29) x44 hx44) w_X12_271 ⟨Nat.le_of_ble_eq_true rfl, Nat.le_of_ble_eq_true rfl⟩ ⟨Nat.zero_le _, Nat.zero_le _⟩ rfl [] rfl rfl (kFst_refl _) rfl rfl hl.1 (Nat.le_of_ble_eq_true rfl) dX12_layTriples_94 (fun H locs V => ?_)
                        refine lv_if_ge (tgt := 117) X.1 X.2.1 dX12_layTriples_97 (by decide) (fun hc => ?_) (fun hc => ?_)
                        · replace h := kif_t hc h
                          obtain ⟨y45, ey45⟩ : ∃ y : Int32, y = (s31.2.1 + (1 : Int32)) := ⟨_, rfl⟩
                          replace h := kl_of ey45 h
                          refine lv_iinc (v := y45) (lv' := [(6, .int y45), (0, .ref (aT 0)), (1, .long v1), (3, .int s31.1), (4, .int s20.2.1), (5, .int s25.2.1)]) X.1 X.2.1 dX12_layTriples_117 hl (k := 5) rfl (by rw [ey45]; rfl) (by decide) rfl (fun ls hl => ?_)
                          refine lv_goto (tgt := 36) X.1 X.2.1 dX12_layTriples_120 (by decide) ?_
                          obtain rfl := Option.some.inj h
                          exact hG34 _ _ _ V (lv_sub hl [1, 2, 3, 4, 5, 0] rfl)
                        · replace h := kif_f hc h
                          exact J100 x42.2 s31.1 s31.2.1 _ _ _ h V (lv_sub hl [0, 1, 2, 3, 4, 5] rfl)
            · intro H locs ls V hl
              have V : kW D AA s.heap H (List.flatten [gX12 g aT x30.2.2.2]) locs := V
              have hl : lv_has ls 7 [(0, .ref (aT 0)), (1, .long v1), (3, .int x30.2.1), (4, .int s20.2.1), (5, .int s25.2.1), (6, .int x30.2.2.1)] := hl
              obtain ⟨hc, h⟩ := kg_of h
              refine W.eq (g2 := F0 m 123 ls []) (by rw [hc]) ?_
              obtain ⟨y46, ey46⟩ : ∃ y : Int32, y = (s25.2.1 + (1 : Int32)) := ⟨_, rfl⟩
              replace h := kl_of ey46 h
              refine lv_iinc (v := y46) (lv' := [(5, .int y46), (0, .ref (aT 0)), (1, .long v1), (3, .int x30.2.1), (4, .int s20.2.1), (6, .int x30.2.2.1)]) X.1 X.2.1 dX12_layTriples_123 hl (k := 4) rfl (by rw [ey46]; rfl) (by decide) rfl (fun ls hl => ?_)
              refine lv_goto (tgt := 17) X.1 X.2.1 dX12_layTriples_126 (by decide) ?_
              obtain rfl := Option.some.inj h
              exact hG28 _ _ _ V (lv_sub hl [1, 2, 3, 4, 0] rfl)
      · intro H locs ls V hl
        have V : kW D AA s.heap H (List.flatten [gX12 g aT x24.2.2.2]) locs := V
        have hl : lv_has ls 7 [(0, .ref (aT 0)), (1, .long v1), (3, .int x24.2.1), (4, .int s20.2.1), (5, .int x24.2.2.1)] := hl
        obtain ⟨hc, h⟩ := kg_of h
        refine W.eq (g2 := F0 m 129 ls []) (by rw [hc]) ?_
        obtain ⟨y47, ey47⟩ : ∃ y : Int32, y = (s20.2.1 + (1 : Int32)) := ⟨_, rfl⟩
        replace h := kl_of ey47 h
        refine lv_iinc (v := y47) (lv' := [(4, .int y47), (0, .ref (aT 0)), (1, .long v1), (3, .int x24.2.1), (5, .int x24.2.2.1)]) X.1 X.2.1 dX12_layTriples_129 hl (k := 3) rfl (by rw [ey47]; rfl) (by decide) rfl (fun ls hl => ?_)
        refine lv_goto (tgt := 5) X.1 X.2.1 dX12_layTriples_132 (by decide) ?_
        obtain rfl := Option.some.inj h
        exact hG23 _ _ _ V (lv_sub hl [1, 2, 3, 0] rfl)
  · intro H locs ls V hl
    have V : kW D AA s.heap H (List.flatten [gX12 g aT x19.2.2.2]) locs := V
    have hl : lv_has ls 7 [(0, .ref (aT 0)), (1, .long v1), (3, .int x19.2.1), (4, .int x19.2.2.1)] := hl
    obtain ⟨hc, h⟩ := kg_of h
    refine W.eq (g2 := F0 m 135 ls []) (by rw [hc]) ?_
    refine lv_aload_n X.1 X.2.1 dX12_layTriples_135 rfl (lv_at hl 0 rfl) ?_
    obtain ⟨x48, hx48, h⟩ := kb_of h
    refine s_callVv (segs' := [gX12 g aT x48]) (ci := 12) (i0 := 0) X V (c_X12_takeBest l D g aT x19.2.2.2 x48 hx48) w_X12_278 ⟨Nat.le_of_ble_eq_true rfl, Nat.le_of_ble_eq_true rfl⟩ ⟨Nat.zero_le _, Nat.zero_le _⟩ rfl rfl rfl rfl [0] rfl rfl ⟨gX12_fst, trivial⟩ rfl rfl hl.1 (Nat.le_of_ble_eq_true rfl) dX12_layTriples_136 (fun H locs V => ?_)
    obtain rfl := Option.some.inj h
    rw [hAA] at V
    rw [hQQ]
    exact k_vret X V dX12_layTriples_139

def p_X12_layCircle_L37 (v1 : Int64) (zT : tX12) (v7 : Int32) (s : Int32 × Int32 × Int64 × Int32) : Option (Nat × (Int32 × Int32 × Int64 × Int32)) :=
  kif (v7 < s.2.2.2) (some (93, (s.1, s.2.1, s.2.2.1, s.2.2.2))) (kb (p_X12_has v1 s.2.2.2) (fun x3 => kif ((kz x3) = 0) (kl (s.2.2.2 + (1 : Int32)) (fun y4 => some (37, (s.1, s.2.1, s.2.2.1, y4)))) (kb (p_X12_apart zT v7 s.2.2.2) (fun x5 => kif (0 < (lg_cmp x5 s.2.2.1)) (kb (p_X12_apart zT v7 s.2.2.2) (fun x6 => kl (s.2.2.2 + (1 : Int32)) (fun y7 => some (37, (v7, s.2.2.2, x6, y7))))) (kl (s.2.2.2 + (1 : Int32)) (fun y8 => some (37, (s.1, s.2.1, s.2.2.1, y8))))))))
def p_X12_layCircle_L13 (v1 : Int64) (zT : tX12) (s : Int32 × Int32 × Int64 × Int32) : Option (Nat × (Int32 × Int32 × Int64 × Int32)) :=
  kif ((zT.1 15) ≤ s.2.2.2) (some (99, (s.1, s.2.1, s.2.2.1, s.2.2.2))) (kb (p_X12_has v1 s.2.2.2) (fun x1 => kif ((kz x1) = 0) (kl (s.2.2.2 + (1 : Int32)) (fun y2 => some (13, (s.1, s.2.1, s.2.2.1, y2)))) (kb (kitr 37 (fun q => p_X12_layCircle_L37 v1 zT s.2.2.2 q) kF (s.1, s.2.1, s.2.2.1, (0 : Int32))) (fun x9 => kg (x9.1 = 93) (kl (s.2.2.2 + (1 : Int32)) (fun y10 => some (13, (x9.2.1, x9.2.2.1, x9.2.2.2.1, y10))))))))
def p_X12_layCircle (zT : tX12) (v1 : Int64) : Option (tX12) :=
  kb (kitr 13 (fun q => p_X12_layCircle_L13 v1 zT q) kF ((-1 : Int32), (-1 : Int32), (-1 : Int64), (0 : Int32))) (fun x11 => kg (x11.1 = 99) (kif (x11.2.1 = x11.2.2.1) (kb (p_X12_one zT x11.2.1) (fun x12 => some x12)) (kb (p_X12_pair zT x11.2.1 x11.2.2.1) (fun x13 => kb (p_X12_holdsAll x13 v1) (fun x14 => kif ((kz x14) = 0) (kb (p_X12_layTriples x13 v1) (fun x15 => some x15)) (some x13))))))
set_option maxHeartbeats 4000000 in
set_option maxRecDepth 100000 in
theorem c_X12_layCircle (l : Launch) (D : va_G) (g : kG) (aT : Nat → Nat) (zT : tX12) (v1 : Int64) (r : tX12) (h : p_X12_layCircle zT v1 = some r) : kMv l yX12_layCircle cX12_layCircle 9 none (kR 4 121) D (kty g) [.ref (aT 0), .long v1] (List.flatten [gX12 g aT zT]) (List.flatten [gX12 g aT r]) := by
  intro sz
  refine k_enter (lv := [(0, .ref (aT 0)), (1, .long v1)]) RX12 (by decide +kernel) rfl rfl (Nat.le_of_ble_eq_true rfl) ?_
  intro p en s m args below meth c ls hsz X V hl
  obtain ⟨QQ, hQQ⟩ : ∃ q, q = MQ below (va_Qv (fun (_ : Unit) => True) (fun _ => kE D (List.flatten [gX12 g aT r])) (va_A (List.flatten [gX12 g aT zT]) sz)) args s 0 0 (va_A (List.flatten [gX12 g aT zT]) sz) := ⟨_, rfl⟩
  rw [← hQQ]
  obtain ⟨AA, hAA⟩ : ∃ q, q = va_A (List.flatten [gX12 g aT zT]) sz := ⟨_, rfl⟩
  rw [← hAA] at V
  unfold p_X12_layCircle at h
  refine lv_iconst (v := (-1 : Int32)) X.1 X.2.1 dX12_layCircle_0 (by decide) ?_
  refine lv_istore_n (lv' := [(3, .int (-1 : Int32)), (0, .ref (aT 0)), (1, .long v1)]) X.1 X.2.1 dX12_layCircle_1 rfl hl (by decide) rfl (fun ls hl => ?_)
  refine lv_iconst (v := (-1 : Int32)) X.1 X.2.1 dX12_layCircle_2 (by decide) ?_
  refine lv_istore (lv' := [(4, .int (-1 : Int32)), (3, .int (-1 : Int32)), (0, .ref (aT 0)), (1, .long v1)]) X.1 X.2.1 dX12_layCircle_3 hl (by decide) rfl (fun ls hl => ?_)
  refine lv_ldc2 (v := (-1 : Int64)) X.1 X.2.1 X.2.2.2.1 (X.2.2.2.2.1 _ kc_X12_220) dX12_layCircle_5 ?_
  refine lv_lstore (lv' := [(5, .long (-1 : Int64)), (4, .int (-1 : Int32)), (3, .int (-1 : Int32)), (0, .ref (aT 0)), (1, .long v1)]) X.1 X.2.1 dX12_layCircle_8 hl (by decide) rfl (fun ls hl => ?_)
  refine lv_iconst (v := (0 : Int32)) X.1 X.2.1 dX12_layCircle_10 (by decide) ?_
  refine lv_istore (lv' := [(7, .int (0 : Int32)), (5, .long (-1 : Int64)), (4, .int (-1 : Int32)), (3, .int (-1 : Int32)), (0, .ref (aT 0)), (1, .long v1)]) X.1 X.2.1 dX12_layCircle_11 hl (by decide) rfl (fun ls hl => ?_)
  obtain ⟨x16, hx16, h⟩ := kb_of h
  refine (kitr_go (hd := 13) (body := fun q => p_X12_layCircle_L13 v1 zT q) (G := (fun e => ∀ (H : Heap) (locs : List Loc) (ls : Array Slot), kW D AA s.heap H (List.flatten [gX12 g aT zT]) locs → lv_has ls 9 [(0, .ref (aT 0)), (1, .long v1), (3, .int e.2.1), (4, .int e.2.2.1), (5, .long e.2.2.2.1), (7, .int e.2.2.2.2)] → W p l en (kR 4 121) s m args below meth c H locs 0 0 QQ (F0 m e.1 ls []))) (fun s17 e18 hb19 hG20 => ?_) kF _ x16 hx16 ?_) _ _ _ V (lv_sub hl [4, 5, 3, 2, 1, 0] rfl)
  · intro H locs ls V hl
    show W p l en (kR 4 121) s m args below meth c H locs 0 0 QQ (F0 m 13 ls [])
    have h : p_X12_layCircle_L13 v1 zT s17 = some e18 := hb19
    unfold p_X12_layCircle_L13 at h
    have V : kW D AA s.heap H (List.flatten [gX12 g aT zT]) locs := V
    have hl : lv_has ls 9 [(0, .ref (aT 0)), (1, .long v1), (3, .int s17.1), (4, .int s17.2.1), (5, .long s17.2.2.1), (7, .int s17.2.2.2)] := hl
    refine lv_iload X.1 X.2.1 dX12_layCircle_13 (lv_at hl 5 rfl) ?_
    refine lv_aload_n X.1 X.2.1 dX12_layCircle_15 rfl (lv_at hl 0 rfl) ?_
    refine gf_X12_157 (i := 0) X V rfl dX12_layCircle_16 ?_
    refine lv_icmp_ge (tgt := 99) X.1 X.2.1 dX12_layCircle_19 (by decide) (fun hc => ?_) (fun hc => ?_)
    · replace h := kif_t hc h
      obtain rfl := Option.some.inj h
      exact hG20 _ _ _ V (lv_sub hl [0, 1, 2, 3, 4, 5] rfl)
    · replace h := kif_f hc h
      refine lv_lload_n X.1 X.2.1 dX12_layCircle_22 rfl (lv_at hl 1 rfl) ?_
      refine lv_iload X.1 X.2.1 dX12_layCircle_23 (lv_at hl 5 rfl) ?_
      obtain ⟨x21, hx21, h⟩ := kb_of h
      refine s_callSi (segs' := [gX12 g aT zT]) X V (c_X12_has l D g v1 s17.2.2.2 x21 hx21) w_X12_225 ⟨Nat.le_of_ble_eq_true rfl, Nat.le_of_ble_eq_true rfl⟩ ⟨Nat.zero_le _, Nat.zero_le _⟩ rfl [] rfl rfl (kFst_refl _) rfl rfl hl.1 (Nat.le_of_ble_eq_true rfl) dX12_layCircle_25 (fun H locs V => ?_)
      refine lv_if_ne (tgt := 34) X.1 X.2.1 dX12_layCircle_28 (by decide) (fun hc => ?_) (fun hc => ?_)
      · replace h := kif_f hc h
        refine lv_iconst (v := (0 : Int32)) X.1 X.2.1 dX12_layCircle_34 (by decide) ?_
        refine lv_istore (lv' := [(8, .int (0 : Int32)), (0, .ref (aT 0)), (1, .long v1), (3, .int s17.1), (4, .int s17.2.1), (5, .long s17.2.2.1), (7, .int s17.2.2.2)]) X.1 X.2.1 dX12_layCircle_35 hl (by decide) rfl (fun ls hl => ?_)
        obtain ⟨x22, hx22, h⟩ := kb_of h
        refine (kitr_go (hd := 37) (body := fun q => p_X12_layCircle_L37 v1 zT s17.2.2.2 q) (G := (fun e => ∀ (H : Heap) (locs : List Loc) (ls : Array Slot), kW D AA s.heap H (List.flatten [gX12 g aT zT]) locs → lv_has ls 9 [(0, .ref (aT 0)), (1, .long v1), (3, .int e.2.1), (4, .int e.2.2.1), (5, .long e.2.2.2.1), (7, .int s17.2.2.2), (8, .int e.2.2.2.2)] → W p l en (kR 4 121) s m args below meth c H locs 0 0 QQ (F0 m e.1 ls []))) (fun s23 e24 hb25 hG26 => ?_) kF _ x22 hx22 ?_) _ _ _ V (lv_sub hl [1, 2, 3, 4, 5, 6, 0] rfl)
        · intro H locs ls V hl
          show W p l en (kR 4 121) s m args below meth c H locs 0 0 QQ (F0 m 37 ls [])
          have h : p_X12_layCircle_L37 v1 zT s17.2.2.2 s23 = some e24 := hb25
          unfold p_X12_layCircle_L37 at h
          have V : kW D AA s.heap H (List.flatten [gX12 g aT zT]) locs := V
          have hl : lv_has ls 9 [(0, .ref (aT 0)), (1, .long v1), (3, .int s23.1), (4, .int s23.2.1), (5, .long s23.2.2.1), (7, .int s17.2.2.2), (8, .int s23.2.2.2)] := hl
          refine lv_iload X.1 X.2.1 dX12_layCircle_37 (lv_at hl 6 rfl) ?_
          refine lv_iload X.1 X.2.1 dX12_layCircle_39 (lv_at hl 5 rfl) ?_
          refine lv_icmp_gt (tgt := 93) X.1 X.2.1 dX12_layCircle_41 (by decide) (fun hc => ?_) (fun hc => ?_)
          · replace h := kif_t hc h
            obtain rfl := Option.some.inj h
            exact hG26 _ _ _ V (lv_sub hl [0, 1, 2, 3, 4, 5, 6] rfl)
          · replace h := kif_f hc h
            refine lv_lload_n X.1 X.2.1 dX12_layCircle_44 rfl (lv_at hl 1 rfl) ?_
            refine lv_iload X.1 X.2.1 dX12_layCircle_45 (lv_at hl 6 rfl) ?_
            obtain ⟨x27, hx27, h⟩ := kb_of h
            refine s_callSi (segs' := [gX12 g aT zT]) X V (c_X12_has l D g v1 s23.2.2.2 x27 hx27) w_X12_225 ⟨Nat.le_of_ble_eq_true rfl, Nat.le_of_ble_eq_true rfl⟩ ⟨Nat.zero_le _, Nat.zero_le _⟩ rfl [] rfl rfl (kFst_refl _) rfl rfl hl.1 (Nat.le_of_ble_eq_true rfl) dX12_layCircle_47 (fun H locs V => ?_)
            refine lv_if_eq (tgt := 87) X.1 X.2.1 dX12_layCircle_50 (by decide) (fun hc => ?_) (fun hc => ?_)
            · replace h := kif_t hc h
              obtain ⟨y28, ey28⟩ : ∃ y : Int32, y = (s23.2.2.2 + (1 : Int32)) := ⟨_, rfl⟩
              replace h := kl_of ey28 h
              refine lv_iinc (v := y28) (lv' := [(8, .int y28), (0, .ref (aT 0)), (1, .long v1), (3, .int s23.1), (4, .int s23.2.1), (5, .long s23.2.2.1), (7, .int s17.2.2.2)]) X.1 X.2.1 dX12_layCircle_87 hl (k := 6) rfl (by rw [ey28]; rfl) (by decide) rfl (fun ls hl => ?_)
              refine lv_goto (tgt := 37) X.1 X.2.1 dX12_layCircle_90 (by decide) ?_
              obtain rfl := Option.some.inj h
              exact hG26 _ _ _ V (lv_sub hl [1, 2, 3, 4, 5, 6, 0] rfl)
            · replace h := kif_f hc h
              refine lv_aload_n X.1 X.2.1 dX12_layCircle_53 rfl (lv_at hl 0 rfl) ?_
              refine lv_iload X.1 X.2.1 dX12_layCircle_54 (lv_at hl 5 rfl) ?_
              refine lv_iload X.1 X.2.1 dX12_layCircle_56 (lv_at hl 6 rfl) ?_
              obtain ⟨x29, hx29, h⟩ := kb_of h
              refine s_callVl (segs' := [gX12 g aT zT]) (ci := 12) (i0 := 0) X V (c_X12_apart l D g aT zT s17.2.2.2 s23.2.2.2 x29 hx29) w_X12_204 ⟨Nat.le_of_ble_eq_true rfl, Nat.le_of_ble_eq_true rfl⟩ ⟨Nat.zero_le _, Nat.zero_le _⟩ rfl rfl rfl rfl [0] rfl rfl (kFst_refl _) rfl rfl hl.1 (Nat.le_of_ble_eq_true rfl) dX12_layCircle_58 (fun H locs V => ?_)
              refine lv_lload X.1 X.2.1 dX12_layCircle_61 (lv_at hl 4 rfl) ?_
              refine W.lcmp X.1 X.2.1 dX12_layCircle_63 ?_
              refine lv_if_gt (tgt := 70) X.1 X.2.1 dX12_layCircle_64 (by decide) (fun hc => ?_) (fun hc => ?_)
              · replace h := kif_t hc h
                refine lv_aload_n X.1 X.2.1 dX12_layCircle_70 rfl (lv_at hl 0 rfl) ?_
                refine lv_iload X.1 X.2.1 dX12_layCircle_71 (lv_at hl 5 rfl) ?_
                refine lv_iload X.1 X.2.1 dX12_layCircle_73 (lv_at hl 6 rfl) ?_
                obtain ⟨x30, hx30, h⟩ := kb_of h
                refine s_callVl (segs' := [gX12 g aT zT]) (ci := 12) (i0 := 0) X V (c_X12_apart l D g aT zT s17.2.2.2 s23.2.2.2 x30 hx30) w_X12_204 ⟨Nat.le_of_ble_eq_true rfl, Nat.le_of_ble_eq_true rfl⟩ ⟨Nat.zero_le _, Nat.zero_le _⟩ rfl rfl rfl rfl [0] rfl rfl (kFst_refl _) rfl rfl hl.1 (Nat.le_of_ble_eq_true rfl) dX12_layCircle_75 (fun H locs V => ?_)
                refine lv_lstore (lv' := [(5, .long x30), (0, .ref (aT 0)), (1, .long v1), (3, .int s23.1), (4, .int s23.2.1), (7, .int s17.2.2.2), (8, .int s23.2.2.2)]) X.1 X.2.1 dX12_layCircle_78 hl (by decide) rfl (fun ls hl => ?_)
                refine lv_iload X.1 X.2.1 dX12_layCircle_80 (lv_at hl 5 rfl) ?_
                refine lv_istore_n (lv' := [(3, .int s17.2.2.2), (5, .long x30), (0, .ref (aT 0)), (1, .long v1), (4, .int s23.2.1), (7, .int s17.2.2.2), (8, .int s23.2.2.2)]) X.1 X.2.1 dX12_layCircle_82 rfl hl (by decide) rfl (fun ls hl => ?_)
                refine lv_iload X.1 X.2.1 dX12_layCircle_83 (lv_at hl 6 rfl) ?_
                refine lv_istore (lv' := [(4, .int s23.2.2.2), (3, .int s17.2.2.2), (5, .long x30), (0, .ref (aT 0)), (1, .long v1), (7, .int s17.2.2.2), (8, .int s23.2.2.2)]) X.1 X.2.1 dX12_layCircle_85 hl (by decide) rfl (fun ls hl => ?_)
                obtain ⟨y31, ey31⟩ : ∃ y : Int32, y = (s23.2.2.2 + (1 : Int32)) := ⟨_, rfl⟩
                replace h := kl_of ey31 h
                refine lv_iinc (v := y31) (lv' := [(8, .int y31), (4, .int s23.2.2.2), (3, .int s17.2.2.2), (5, .long x30), (0, .ref (aT 0)), (1, .long v1), (7, .int s17.2.2.2)]) X.1 X.2.1 dX12_layCircle_87 hl (k := 6) rfl (by rw [ey31]; rfl) (by decide) rfl (fun ls hl => ?_)
                refine lv_goto (tgt := 37) X.1 X.2.1 dX12_layCircle_90 (by decide) ?_
                obtain rfl := Option.some.inj h
                exact hG26 _ _ _ V (lv_sub hl [4, 5, 2, 1, 3, 6, 0] rfl)
              · replace h := kif_f hc h
                refine lv_goto (tgt := 87) X.1 X.2.1 dX12_layCircle_67 (by decide) ?_
                obtain ⟨y32, ey32⟩ : ∃ y : Int32, y = (s23.2.2.2 + (1 : Int32)) := ⟨_, rfl⟩
                replace h := kl_of ey32 h
                refine lv_iinc (v := y32) (lv' := [(8, .int y32), (0, .ref (aT 0)), (1, .long v1), (3, .int s23.1), (4, .int s23.2.1), (5, .long s23.2.2.1), (7, .int s17.2.2.2)]) X.1 X.2.1 dX12_layCircle_87 hl (k := 6) rfl (by rw [ey32]; rfl) (by decide) rfl (fun ls hl => ?_)
                refine lv_goto (tgt := 37) X.1 X.2.1 dX12_layCircle_90 (by decide) ?_
                obtain rfl := Option.some.inj h
                exact hG26 _ _ _ V (lv_sub hl [1, 2, 3, 4, 5, 6, 0] rfl)
        · intro H locs ls V hl
          have V : kW D AA s.heap H (List.flatten [gX12 g aT zT]) locs := V
          have hl : lv_has ls 9 [(0, .ref (aT 0)), (1, .long v1), (3, .int x22.2.1), (4, .int x22.2.2.1), (5, .long x22.2.2.2.1), (7, .int s17.2.2.2), (8, .int x22.2.2.2.2)] := hl
          obtain ⟨hc, h⟩ := kg_of h
          refine W.eq (g2 := F0 m 93 ls []) (by rw [hc]) ?_
          obtain ⟨y33, ey33⟩ : ∃ y : Int32, y = (s17.2.2.2 + (1 : Int32)) := ⟨_, rfl⟩
          replace h := kl_of ey33 h
          refine lv_iinc (v := y33) (lv' := [(7, .int y33), (0, .ref (aT 0)), (1, .long v1), (3, .int x22.2.1), (4, .int x22.2.2.1), (5, .long x22.2.2.2.1), (8, .int x22.2.2.2.2)]) X.1 X.2.1 dX12_layCircle_93 hl (k := 5) rfl (by rw [ey33]; rfl) (by decide) rfl (fun ls hl => ?_)
          refine lv_goto (tgt := 13) X.1 X.2.1 dX12_layCircle_96 (by decide) ?_
          obtain rfl := Option.some.inj h
          exact hG20 _ _ _ V (lv_sub hl [1, 2, 3, 4, 5, 0] rfl)
      · replace h := kif_t hc h
        refine lv_goto (tgt := 93) X.1 X.2.1 dX12_layCircle_31 (by decide) ?_
        obtain ⟨y34, ey34⟩ : ∃ y : Int32, y = (s17.2.2.2 + (1 : Int32)) := ⟨_, rfl⟩
        replace h := kl_of ey34 h
        refine lv_iinc (v := y34) (lv' := [(7, .int y34), (0, .ref (aT 0)), (1, .long v1), (3, .int s17.1), (4, .int s17.2.1), (5, .long s17.2.2.1)]) X.1 X.2.1 dX12_layCircle_93 hl (k := 5) rfl (by rw [ey34]; rfl) (by decide) rfl (fun ls hl => ?_)
        refine lv_goto (tgt := 13) X.1 X.2.1 dX12_layCircle_96 (by decide) ?_
        obtain rfl := Option.some.inj h
        exact hG20 _ _ _ V (lv_sub hl [1, 2, 3, 4, 5, 0] rfl)
  · intro H locs ls V hl
    have V : kW D AA s.heap H (List.flatten [gX12 g aT zT]) locs := V
    have hl : lv_has ls 9 [(0, .ref (aT 0)), (1, .long v1), (3, .int x16.2.1), (4, .int x16.2.2.1), (5, .long x16.2.2.2.1), (7, .int x16.2.2.2.2)] := hl
    obtain ⟨hc, h⟩ := kg_of h
    refine W.eq (g2 := F0 m 99 ls []) (by rw [hc]) ?_
    refine lv_iload_n X.1 X.2.1 dX12_layCircle_99 rfl (lv_at hl 2 rfl) ?_
    refine lv_iload X.1 X.2.1 dX12_layCircle_100 (lv_at hl 3 rfl) ?_
    refine lv_icmp_ne (tgt := 111) X.1 X.2.1 dX12_layCircle_102 (by decide) (fun hc => ?_) (fun hc => ?_)
    · replace h := kif_f hc h
      refine lv_aload_n X.1 X.2.1 dX12_layCircle_111 rfl (lv_at hl 0 rfl) ?_
      refine lv_iload_n X.1 X.2.1 dX12_layCircle_112 rfl (lv_at hl 2 rfl) ?_
      refine lv_iload X.1 X.2.1 dX12_layCircle_113 (lv_at hl 3 rfl) ?_
      obtain ⟨x35, hx35, h⟩ := kb_of h
      refine s_callVv (segs' := [gX12 g aT x35]) (ci := 12) (i0 := 0) X V (c_X12_pair l D g aT zT x16.2.1 x16.2.2.1 x35 hx35) w_X12_256 ⟨Nat.le_of_ble_eq_true rfl, Nat.le_of_ble_eq_true rfl⟩ ⟨Nat.zero_le _, Nat.zero_le _⟩ rfl rfl rfl rfl [0] rfl rfl ⟨gX12_fst, trivial⟩ rfl rfl hl.1 (Nat.le_of_ble_eq_true rfl) dX12_layCircle_115 (fun H locs V => ?_)
      refine lv_aload_n X.1 X.2.1 dX12_layCircle_118 rfl (lv_at hl 0 rfl) ?_
      refine lv_lload_n X.1 X.2.1 dX12_layCircle_119 rfl (lv_at hl 1 rfl) ?_
      obtain ⟨x36, hx36, h⟩ := kb_of h
      refine s_callVi (segs' := [gX12 g aT x35]) (ci := 12) (i0 := 0) X V (c_X12_holdsAll l D g aT x35 v1 x36 hx36) w_X12_260 ⟨Nat.le_of_ble_eq_true rfl, Nat.le_of_ble_eq_true rfl⟩ ⟨Nat.zero_le _, Nat.zero_le _⟩ rfl rfl rfl rfl [0] rfl rfl (kFst_refl _) rfl rfl hl.1 (Nat.le_of_ble_eq_true rfl) dX12_layCircle_120 (fun H locs V => ?_)
      refine lv_if_ne (tgt := 131) X.1 X.2.1 dX12_layCircle_123 (by decide) (fun hc => ?_) (fun hc => ?_)
      · replace h := kif_f hc h
        obtain rfl := Option.some.inj h
        rw [hAA] at V
        rw [hQQ]
        exact k_vret X V dX12_layCircle_131
      · replace h := kif_t hc h
        refine lv_aload_n X.1 X.2.1 dX12_layCircle_126 rfl (lv_at hl 0 rfl) ?_
        refine lv_lload_n X.1 X.2.1 dX12_layCircle_127 rfl (lv_at hl 1 rfl) ?_
        obtain ⟨x37, hx37, h⟩ := kb_of h
        refine s_callVv (segs' := [gX12 g aT x37]) (ci := 12) (i0 := 0) X V (c_X12_layTriples l D g aT x35 v1 x37 hx37) w_X12_264 ⟨Nat.le_of_ble_eq_true rfl, Nat.le_of_ble_eq_true rfl⟩ ⟨Nat.zero_le _, Nat.zero_le _⟩ rfl rfl rfl rfl [0] rfl rfl ⟨gX12_fst, trivial⟩ rfl rfl hl.1 (Nat.le_of_ble_eq_true rfl) dX12_layCircle_128 (fun H locs V => ?_)
        obtain rfl := Option.some.inj h
        rw [hAA] at V
        rw [hQQ]
        exact k_vret X V dX12_layCircle_131
    · replace h := kif_t hc h
      refine lv_aload_n X.1 X.2.1 dX12_layCircle_105 rfl (lv_at hl 0 rfl) ?_
      refine lv_iload_n X.1 X.2.1 dX12_layCircle_106 rfl (lv_at hl 2 rfl) ?_
      obtain ⟨x38, hx38, h⟩ := kb_of h
      refine s_callVv (segs' := [gX12 g aT x38]) (ci := 12) (i0 := 0) X V (c_X12_one l D g aT zT x16.2.1 x38 hx38) w_X12_253 ⟨Nat.le_of_ble_eq_true rfl, Nat.le_of_ble_eq_true rfl⟩ ⟨Nat.zero_le _, Nat.zero_le _⟩ rfl rfl rfl rfl [0] rfl rfl ⟨gX12_fst, trivial⟩ rfl rfl hl.1 (Nat.le_of_ble_eq_true rfl) dX12_layCircle_107 (fun H locs V => ?_)
      obtain rfl := Option.some.inj h
      rw [hAA] at V
      rw [hQQ]
      exact k_vret X V dX12_layCircle_110

def p_X12_allSpots (zT : tX12) : Option (Int64) :=
  some ((((1 : Int64) <<< ((zT.1 15).toInt64 &&& 63)) - (1 : Int64)))
set_option maxHeartbeats 4000000 in
set_option maxRecDepth 100000 in
theorem c_X12_allSpots (l : Launch) (D : va_G) (g : kG) (aT : Nat → Nat) (zT : tX12) (r : Int64) (h : p_X12_allSpots zT = some r) : kMl l yX12_allSpots cX12_allSpots 1 (some .long) (kR 0 0) D (kty g) [.ref (aT 0)] (List.flatten [gX12 g aT zT]) r (List.flatten [gX12 g aT zT]) := by
  intro sz
  refine k_enter (lv := [(0, .ref (aT 0))]) RX12 (by decide +kernel) rfl rfl (Nat.le_of_ble_eq_true rfl) ?_
  intro p en s m args below meth c ls hsz X V hl
  obtain ⟨QQ, hQQ⟩ : ∃ q, q = MQ below (va_Ql (fun r' (_ : Unit) => r' = r) (fun _ => kE D (List.flatten [gX12 g aT zT])) (va_A (List.flatten [gX12 g aT zT]) sz)) args s 0 0 (va_A (List.flatten [gX12 g aT zT]) sz) := ⟨_, rfl⟩
  rw [← hQQ]
  obtain ⟨AA, hAA⟩ : ∃ q, q = va_A (List.flatten [gX12 g aT zT]) sz := ⟨_, rfl⟩
  rw [← hAA] at V
  unfold p_X12_allSpots at h
  refine lv_lconst (v := (1 : Int64)) X.1 X.2.1 dX12_allSpots_0 (by decide) ?_
  refine lv_aload_n X.1 X.2.1 dX12_allSpots_1 rfl (lv_at hl 0 rfl) ?_
  refine gf_X12_157 (i := 0) X V rfl dX12_allSpots_2 ?_
  refine lv_lshl X.1 X.2.1 dX12_allSpots_5 rfl ?_
  refine lv_lconst (v := (1 : Int64)) X.1 X.2.1 dX12_allSpots_6 (by decide) ?_
  refine lv_lsub X.1 X.2.1 dX12_allSpots_7 ?_
  obtain rfl := Option.some.inj h
  rw [hAA] at V
  rw [hQQ]
  exact k_lret X V rfl dX12_allSpots_8

def p_X12_hasCircle (zT : tX12) (v1 : Int32) : Option (Bool × tX12) :=
  kb (p_X12_isLaid zT v1) (fun x1 => kif ((kz x1.1) = 0) (some (false, x1.2)) (kb (p_X12_allSpots x1.2) (fun x2 => kb (p_X12_layCircle x1.2 x2) (fun x3 => some (true, x3)))))
set_option maxHeartbeats 4000000 in
set_option maxRecDepth 100000 in
theorem c_X12_hasCircle (l : Launch) (D : va_G) (g : kG) (aT : Nat → Nat) (zT : tX12) (v1 : Int32) (r : Bool × tX12) (h : p_X12_hasCircle zT v1 = some r) : kMi l yX12_hasCircle cX12_hasCircle 2 (some .boolean) (kR 5 149) D (kty g) [.ref (aT 0), .int v1] (List.flatten [gX12 g aT zT]) (kz r.1) (List.flatten [gX12 g aT r.2]) := by
  intro sz
  refine k_enter (lv := [(0, .ref (aT 0)), (1, .int v1)]) RX12 (by decide +kernel) rfl rfl (Nat.le_of_ble_eq_true rfl) ?_
  intro p en s m args below meth c ls hsz X V hl
  obtain ⟨QQ, hQQ⟩ : ∃ q, q = MQ below (va_Qi (fun r' (_ : Unit) => r' = kz r.1) (fun _ => kE D (List.flatten [gX12 g aT r.2])) (va_A (List.flatten [gX12 g aT zT]) sz)) args s 0 0 (va_A (List.flatten [gX12 g aT zT]) sz) := ⟨_, rfl⟩
  rw [← hQQ]
  obtain ⟨AA, hAA⟩ : ∃ q, q = va_A (List.flatten [gX12 g aT zT]) sz := ⟨_, rfl⟩
  rw [← hAA] at V
  unfold p_X12_hasCircle at h
  refine lv_aload_n X.1 X.2.1 dX12_hasCircle_0 rfl (lv_at hl 0 rfl) ?_
  refine lv_iload_n X.1 X.2.1 dX12_hasCircle_1 rfl (lv_at hl 1 rfl) ?_
  obtain ⟨x4, hx4, h⟩ := kb_of h
  refine s_callVi (segs' := [gX12 g aT x4.2]) (ci := 12) (i0 := 0) X V (c_X12_isLaid l D g aT zT v1 x4 hx4) w_X12_173 ⟨Nat.le_of_ble_eq_true rfl, Nat.le_of_ble_eq_true rfl⟩ ⟨Nat.zero_le _, Nat.zero_le _⟩ rfl rfl rfl rfl [0] rfl rfl ⟨gX12_fst, trivial⟩ rfl rfl hl.1 (Nat.le_of_ble_eq_true rfl) dX12_hasCircle_2 (fun H locs V => ?_)
  refine lv_if_ne (tgt := 10) X.1 X.2.1 dX12_hasCircle_5 (by decide) (fun hc => ?_) (fun hc => ?_)
  · replace h := kif_f hc h
    refine lv_aload_n X.1 X.2.1 dX12_hasCircle_10 rfl (lv_at hl 0 rfl) ?_
    refine lv_aload_n X.1 X.2.1 dX12_hasCircle_11 rfl (lv_at hl 0 rfl) ?_
    obtain ⟨x5, hx5, h⟩ := kb_of h
    refine s_callVl (segs' := [gX12 g aT x4.2]) (ci := 12) (i0 := 0) X V (c_X12_allSpots l D g aT x4.2 x5 hx5) w_X12_281 ⟨Nat.le_of_ble_eq_true rfl, Nat.le_of_ble_eq_true rfl⟩ ⟨Nat.zero_le _, Nat.zero_le _⟩ rfl rfl rfl rfl [0] rfl rfl (kFst_refl _) rfl rfl hl.1 (Nat.le_of_ble_eq_true rfl) dX12_hasCircle_12 (fun H locs V => ?_)
    obtain ⟨x6, hx6, h⟩ := kb_of h
    refine s_callVv (segs' := [gX12 g aT x6]) (ci := 12) (i0 := 0) X V (c_X12_layCircle l D g aT x4.2 x5 x6 hx6) w_X12_285 ⟨Nat.le_of_ble_eq_true rfl, Nat.le_of_ble_eq_true rfl⟩ ⟨Nat.zero_le _, Nat.zero_le _⟩ rfl rfl rfl rfl [0] rfl rfl ⟨gX12_fst, trivial⟩ rfl rfl hl.1 (Nat.le_of_ble_eq_true rfl) dX12_hasCircle_15 (fun H locs V => ?_)
    refine lv_iconst (v := (1 : Int32)) X.1 X.2.1 dX12_hasCircle_18 (by decide) ?_
    obtain rfl := Option.some.inj h
    rw [hAA] at V
    rw [hQQ]
    exact k_zret X V (b := true) rfl rfl dX12_hasCircle_19
  · replace h := kif_t hc h
    refine lv_iconst (v := (0 : Int32)) X.1 X.2.1 dX12_hasCircle_8 (by decide) ?_
    obtain rfl := Option.some.inj h
    rw [hAA] at V
    rw [hQQ]
    exact k_zret X V (b := false) rfl rfl dX12_hasCircle_9

def p_X12_circle (zT : tX12) (v1 : Int32) (v2 : Int32) : Option (Int64 × tX12) :=
  kb (p_X12_hasCircle zT v1) (fun x1 => kif ((kz x1.1) = 0) (some ((-1000 : Int64), x1.2)) (kif (v2 = (0 : Int32)) (some ((x1.2.2.1 21), x1.2)) (kif (v2 = (1 : Int32)) (some ((x1.2.2.1 22), x1.2)) (kif (v2 = (2 : Int32)) (kb (p_X12_above (((x1.2.2.1 16) * (x1.2.2.1 20)) + (x1.2.2.1 18)) (x1.2.2.1 20)) (fun x2 => some (x2, x1.2))) (kif (v2 = (3 : Int32)) (kb (p_X12_below (((x1.2.2.1 16) * (x1.2.2.1 20)) + (x1.2.2.1 18)) (x1.2.2.1 20)) (fun x3 => some (x3, x1.2))) (kif (v2 = (4 : Int32)) (kb (p_X12_above (((x1.2.2.1 17) * (x1.2.2.1 20)) + (x1.2.2.1 19)) (x1.2.2.1 20)) (fun x4 => some (x4, x1.2))) (kif (v2 = (5 : Int32)) (kb (p_X12_below (((x1.2.2.1 17) * (x1.2.2.1 20)) + (x1.2.2.1 19)) (x1.2.2.1 20)) (fun x5 => some (x5, x1.2))) (some ((-1000 : Int64), x1.2)))))))))
set_option maxHeartbeats 4000000 in
set_option maxRecDepth 100000 in
theorem c_X12_circle (l : Launch) (D : va_G) (g : kG) (aT : Nat → Nat) (zT : tX12) (v1 : Int32) (v2 : Int32) (r : Int64 × tX12) (h : p_X12_circle zT v1 v2 = some r) : kMl l yX12_circle cX12_circle 3 (some .long) (kR 6 170) D (kty g) [.ref (aT 0), .int v1, .int v2] (List.flatten [gX12 g aT zT]) r.1 (List.flatten [gX12 g aT r.2]) := by
  intro sz
  refine k_enter (lv := [(0, .ref (aT 0)), (1, .int v1), (2, .int v2)]) RX12 (by decide +kernel) rfl rfl (Nat.le_of_ble_eq_true rfl) ?_
  intro p en s m args below meth c ls hsz X V hl
  obtain ⟨QQ, hQQ⟩ : ∃ q, q = MQ below (va_Ql (fun r' (_ : Unit) => r' = r.1) (fun _ => kE D (List.flatten [gX12 g aT r.2])) (va_A (List.flatten [gX12 g aT zT]) sz)) args s 0 0 (va_A (List.flatten [gX12 g aT zT]) sz) := ⟨_, rfl⟩
  rw [← hQQ]
  obtain ⟨AA, hAA⟩ : ∃ q, q = va_A (List.flatten [gX12 g aT zT]) sz := ⟨_, rfl⟩
  rw [← hAA] at V
  unfold p_X12_circle at h
  refine lv_aload_n X.1 X.2.1 dX12_circle_0 rfl (lv_at hl 0 rfl) ?_
  refine lv_iload_n X.1 X.2.1 dX12_circle_1 rfl (lv_at hl 1 rfl) ?_
  obtain ⟨x6, hx6, h⟩ := kb_of h
  refine s_callVi (segs' := [gX12 g aT x6.2]) (ci := 12) (i0 := 0) X V (c_X12_hasCircle l D g aT zT v1 x6 hx6) w_X12_288 ⟨Nat.le_of_ble_eq_true rfl, Nat.le_of_ble_eq_true rfl⟩ ⟨Nat.zero_le _, Nat.zero_le _⟩ rfl rfl rfl rfl [0] rfl rfl ⟨gX12_fst, trivial⟩ rfl rfl hl.1 (Nat.le_of_ble_eq_true rfl) dX12_circle_2 (fun H locs V => ?_)
  refine lv_if_ne (tgt := 12) X.1 X.2.1 dX12_circle_5 (by decide) (fun hc => ?_) (fun hc => ?_)
  · replace h := kif_f hc h
    refine lv_iload_n X.1 X.2.1 dX12_circle_12 rfl (lv_at hl 2 rfl) ?_
    by_cases hs0 : v2 = (0 : Int32)
    · replace h := kif_t hs0 h
      refine lv_tableIn (off := 39) (tgt := 52) X.1 X.2.1 dX12_circle_13 (by rw [hs0]; decide) (by rw [hs0]; decide) (by rw [hs0]; rfl) (by decide) ?_
      refine lv_aload_n X.1 X.2.1 dX12_circle_52 rfl (lv_at hl 0 rfl) ?_
      refine gf_X12_196 (i := 0) X V rfl dX12_circle_53 ?_
      obtain rfl := Option.some.inj h
      rw [hAA] at V
      rw [hQQ]
      exact k_lret X V rfl dX12_circle_56
    · replace h := kif_f hs0 h
      by_cases hs1 : v2 = (1 : Int32)
      · replace h := kif_t hs1 h
        refine lv_tableIn (off := 44) (tgt := 57) X.1 X.2.1 dX12_circle_13 (by rw [hs1]; decide) (by rw [hs1]; decide) (by rw [hs1]; rfl) (by decide) ?_
        refine lv_aload_n X.1 X.2.1 dX12_circle_57 rfl (lv_at hl 0 rfl) ?_
        refine gf_X12_199 (i := 0) X V rfl dX12_circle_58 ?_
        obtain rfl := Option.some.inj h
        rw [hAA] at V
        rw [hQQ]
        exact k_lret X V rfl dX12_circle_61
      · replace h := kif_f hs1 h
        by_cases hs2 : v2 = (2 : Int32)
        · replace h := kif_t hs2 h
          refine lv_tableIn (off := 49) (tgt := 62) X.1 X.2.1 dX12_circle_13 (by rw [hs2]; decide) (by rw [hs2]; decide) (by rw [hs2]; rfl) (by decide) ?_
          refine lv_aload_n X.1 X.2.1 dX12_circle_62 rfl (lv_at hl 0 rfl) ?_
          refine gf_X12_180 (i := 0) X V rfl dX12_circle_63 ?_
          refine lv_aload_n X.1 X.2.1 dX12_circle_66 rfl (lv_at hl 0 rfl) ?_
          refine gf_X12_193 (i := 0) X V rfl dX12_circle_67 ?_
          refine lv_lmul X.1 X.2.1 dX12_circle_70 ?_
          refine lv_aload_n X.1 X.2.1 dX12_circle_71 rfl (lv_at hl 0 rfl) ?_
          refine gf_X12_187 (i := 0) X V rfl dX12_circle_72 ?_
          refine lv_ladd X.1 X.2.1 dX12_circle_75 ?_
          refine lv_aload_n X.1 X.2.1 dX12_circle_76 rfl (lv_at hl 0 rfl) ?_
          refine gf_X12_193 (i := 0) X V rfl dX12_circle_77 ?_
          obtain ⟨x7, hx7, h⟩ := kb_of h
          refine s_callSl (segs' := [gX12 g aT x6.2]) X V (c_X12_above l D g (((x6.2.2.1 16) * (x6.2.2.1 20)) + (x6.2.2.1 18)) (x6.2.2.1 20) x7 hx7) w_X12_210 ⟨Nat.le_of_ble_eq_true rfl, Nat.le_of_ble_eq_true rfl⟩ ⟨Nat.zero_le _, Nat.zero_le _⟩ rfl [] rfl rfl (kFst_refl _) rfl rfl hl.1 (Nat.le_of_ble_eq_true rfl) dX12_circle_80 (fun H locs V => ?_)
          obtain rfl := Option.some.inj h
          rw [hAA] at V
          rw [hQQ]
          exact k_lret X V rfl dX12_circle_83
        · replace h := kif_f hs2 h
          by_cases hs3 : v2 = (3 : Int32)
          · replace h := kif_t hs3 h
            refine lv_tableIn (off := 71) (tgt := 84) X.1 X.2.1 dX12_circle_13 (by rw [hs3]; decide) (by rw [hs3]; decide) (by rw [hs3]; rfl) (by decide) ?_
            refine lv_aload_n X.1 X.2.1 dX12_circle_84 rfl (lv_at hl 0 rfl) ?_
            refine gf_X12_180 (i := 0) X V rfl dX12_circle_85 ?_
            refine lv_aload_n X.1 X.2.1 dX12_circle_88 rfl (lv_at hl 0 rfl) ?_
            refine gf_X12_193 (i := 0) X V rfl dX12_circle_89 ?_
            refine lv_lmul X.1 X.2.1 dX12_circle_92 ?_
            refine lv_aload_n X.1 X.2.1 dX12_circle_93 rfl (lv_at hl 0 rfl) ?_
            refine gf_X12_187 (i := 0) X V rfl dX12_circle_94 ?_
            refine lv_ladd X.1 X.2.1 dX12_circle_97 ?_
            refine lv_aload_n X.1 X.2.1 dX12_circle_98 rfl (lv_at hl 0 rfl) ?_
            refine gf_X12_193 (i := 0) X V rfl dX12_circle_99 ?_
            obtain ⟨x8, hx8, h⟩ := kb_of h
            refine s_callSl (segs' := [gX12 g aT x6.2]) X V (c_X12_below l D g (((x6.2.2.1 16) * (x6.2.2.1 20)) + (x6.2.2.1 18)) (x6.2.2.1 20) x8 hx8) w_X12_213 ⟨Nat.le_of_ble_eq_true rfl, Nat.le_of_ble_eq_true rfl⟩ ⟨Nat.zero_le _, Nat.zero_le _⟩ rfl [] rfl rfl (kFst_refl _) rfl rfl hl.1 (Nat.le_of_ble_eq_true rfl) dX12_circle_102 (fun H locs V => ?_)
            obtain rfl := Option.some.inj h
            rw [hAA] at V
            rw [hQQ]
            exact k_lret X V rfl dX12_circle_105
          · replace h := kif_f hs3 h
            by_cases hs4 : v2 = (4 : Int32)
            · replace h := kif_t hs4 h
              refine lv_tableIn (off := 93) (tgt := 106) X.1 X.2.1 dX12_circle_13 (by rw [hs4]; decide) (by rw [hs4]; decide) (by rw [hs4]; rfl) (by decide) ?_
              refine lv_aload_n X.1 X.2.1 dX12_circle_106 rfl (lv_at hl 0 rfl) ?_
              refine gf_X12_184 (i := 0) X V rfl dX12_circle_107 ?_
              refine lv_aload_n X.1 X.2.1 dX12_circle_110 rfl (lv_at hl 0 rfl) ?_
              refine gf_X12_193 (i := 0) X V rfl dX12_circle_111 ?_
              refine lv_lmul X.1 X.2.1 dX12_circle_114 ?_
              refine lv_aload_n X.1 X.2.1 dX12_circle_115 rfl (lv_at hl 0 rfl) ?_
              refine gf_X12_190 (i := 0) X V rfl dX12_circle_116 ?_
              refine lv_ladd X.1 X.2.1 dX12_circle_119 ?_
              refine lv_aload_n X.1 X.2.1 dX12_circle_120 rfl (lv_at hl 0 rfl) ?_
              refine gf_X12_193 (i := 0) X V rfl dX12_circle_121 ?_
              obtain ⟨x9, hx9, h⟩ := kb_of h
              refine s_callSl (segs' := [gX12 g aT x6.2]) X V (c_X12_above l D g (((x6.2.2.1 17) * (x6.2.2.1 20)) + (x6.2.2.1 19)) (x6.2.2.1 20) x9 hx9) w_X12_210 ⟨Nat.le_of_ble_eq_true rfl, Nat.le_of_ble_eq_true rfl⟩ ⟨Nat.zero_le _, Nat.zero_le _⟩ rfl [] rfl rfl (kFst_refl _) rfl rfl hl.1 (Nat.le_of_ble_eq_true rfl) dX12_circle_124 (fun H locs V => ?_)
              obtain rfl := Option.some.inj h
              rw [hAA] at V
              rw [hQQ]
              exact k_lret X V rfl dX12_circle_127
            · replace h := kif_f hs4 h
              by_cases hs5 : v2 = (5 : Int32)
              · replace h := kif_t hs5 h
                refine lv_tableIn (off := 115) (tgt := 128) X.1 X.2.1 dX12_circle_13 (by rw [hs5]; decide) (by rw [hs5]; decide) (by rw [hs5]; rfl) (by decide) ?_
                refine lv_aload_n X.1 X.2.1 dX12_circle_128 rfl (lv_at hl 0 rfl) ?_
                refine gf_X12_184 (i := 0) X V rfl dX12_circle_129 ?_
                refine lv_aload_n X.1 X.2.1 dX12_circle_132 rfl (lv_at hl 0 rfl) ?_
                refine gf_X12_193 (i := 0) X V rfl dX12_circle_133 ?_
                refine lv_lmul X.1 X.2.1 dX12_circle_136 ?_
                refine lv_aload_n X.1 X.2.1 dX12_circle_137 rfl (lv_at hl 0 rfl) ?_
                refine gf_X12_190 (i := 0) X V rfl dX12_circle_138 ?_
                refine lv_ladd X.1 X.2.1 dX12_circle_141 ?_
                refine lv_aload_n X.1 X.2.1 dX12_circle_142 rfl (lv_at hl 0 rfl) ?_
                refine gf_X12_193 (i := 0) X V rfl dX12_circle_143 ?_
                obtain ⟨x10, hx10, h⟩ := kb_of h
                refine s_callSl (segs' := [gX12 g aT x6.2]) X V (c_X12_below l D g (((x6.2.2.1 17) * (x6.2.2.1 20)) + (x6.2.2.1 19)) (x6.2.2.1 20) x10 hx10) w_X12_213 ⟨Nat.le_of_ble_eq_true rfl, Nat.le_of_ble_eq_true rfl⟩ ⟨Nat.zero_le _, Nat.zero_le _⟩ rfl [] rfl rfl (kFst_refl _) rfl rfl hl.1 (Nat.le_of_ble_eq_true rfl) dX12_circle_146 (fun H locs V => ?_)
                obtain rfl := Option.some.inj h
                rw [hAA] at V
                rw [hQQ]
                exact k_lret X V rfl dX12_circle_149
              · replace h := kif_f hs5 h
                refine lv_tableOut (tgt := 150) X.1 X.2.1 dX12_circle_13 (by have q0 := k_ne (0 : Int32) 0 (by decide) hs0; have q1 := k_ne (1 : Int32) 1 (by decide) hs1; have q2 := k_ne (2 : Int32) 2 (by decide) hs2; have q3 := k_ne (3 : Int32) 3 (by decide) hs3; have q4 := k_ne (4 : Int32) 4 (by decide) hs4; have q5 := k_ne (5 : Int32) 5 (by decide) hs5; omega) (by decide) ?_
                refine lv_ldc2 (v := (-1000 : Int64)) X.1 X.2.1 X.2.2.2.1 (X.2.2.2.2.1 _ kc_X12_291) dX12_circle_150 ?_
                obtain rfl := Option.some.inj h
                rw [hAA] at V
                rw [hQQ]
                exact k_lret X V rfl dX12_circle_153
  · replace h := kif_t hc h
    refine lv_ldc2 (v := (-1000 : Int64)) X.1 X.2.1 X.2.2.2.1 (X.2.2.2.2.1 _ kc_X12_291) dX12_circle_8 ?_
    obtain rfl := Option.some.inj h
    rw [hAA] at V
    rw [hQQ]
    exact k_lret X V rfl dX12_circle_11

def p_X12_rim_L14 (v1 : Int32) (zT : tX12) (s : Int32 × Int32) : Option (Nat × (Int32 × Int32)) :=
  kif ((zT.1 15) ≤ s.2) (some (59, (s.1, s.2))) (kg (kii s.2 41) (kg (kii s.2 41) (kb (p_X12_lies zT (((zT.2.2.1 12) s.2.toNatClampNeg)).toInt64 (((zT.2.2.1 13) s.2.toNatClampNeg)).toInt64) (fun x2 => kif ((lg_cmp x2 (0 : Int64)) = 0) (kl (s.1 + (1 : Int32)) (fun y3 => kl (s.2 + (1 : Int32)) (fun y4 => some (14, (y3, y4))))) (kl (s.1 + (0 : Int32)) (fun y5 => kl (s.2 + (1 : Int32)) (fun y6 => some (14, (y5, y6)))))))))
def p_X12_rim (zT : tX12) (v1 : Int32) : Option (Int32 × tX12) :=
  kb (p_X12_hasCircle zT v1) (fun x1 => kif ((kz x1.1) = 0) (some ((-1 : Int32), x1.2)) (kb (kitr 14 (fun q => p_X12_rim_L14 v1 x1.2 q) kF ((0 : Int32), (0 : Int32))) (fun x7 => kg (x7.1 = 59) (some (x7.2.1, x1.2)))))
set_option maxHeartbeats 4000000 in
set_option maxRecDepth 100000 in
theorem c_X12_rim (l : Launch) (D : va_G) (g : kG) (aT : Nat → Nat) (zT : tX12) (v1 : Int32) (r : Int32 × tX12) (h : p_X12_rim zT v1 = some r) : kMi l yX12_rim cX12_rim 4 (some .int) (kR 6 170) D (kty g) [.ref (aT 0), .int v1] (List.flatten [gX12 g aT zT]) r.1 (List.flatten [gX12 g aT r.2]) := by
  intro sz
  refine k_enter (lv := [(0, .ref (aT 0)), (1, .int v1)]) RX12 (by decide +kernel) rfl rfl (Nat.le_of_ble_eq_true rfl) ?_
  intro p en s m args below meth c ls hsz X V hl
  obtain ⟨QQ, hQQ⟩ : ∃ q, q = MQ below (va_Qi (fun r' (_ : Unit) => r' = r.1) (fun _ => kE D (List.flatten [gX12 g aT r.2])) (va_A (List.flatten [gX12 g aT zT]) sz)) args s 0 0 (va_A (List.flatten [gX12 g aT zT]) sz) := ⟨_, rfl⟩
  rw [← hQQ]
  obtain ⟨AA, hAA⟩ : ∃ q, q = va_A (List.flatten [gX12 g aT zT]) sz := ⟨_, rfl⟩
  rw [← hAA] at V
  unfold p_X12_rim at h
  refine lv_aload_n X.1 X.2.1 dX12_rim_0 rfl (lv_at hl 0 rfl) ?_
  refine lv_iload_n X.1 X.2.1 dX12_rim_1 rfl (lv_at hl 1 rfl) ?_
  obtain ⟨x8, hx8, h⟩ := kb_of h
  refine s_callVi (segs' := [gX12 g aT x8.2]) (ci := 12) (i0 := 0) X V (c_X12_hasCircle l D g aT zT v1 x8 hx8) w_X12_288 ⟨Nat.le_of_ble_eq_true rfl, Nat.le_of_ble_eq_true rfl⟩ ⟨Nat.zero_le _, Nat.zero_le _⟩ rfl rfl rfl rfl [0] rfl rfl ⟨gX12_fst, trivial⟩ rfl rfl hl.1 (Nat.le_of_ble_eq_true rfl) dX12_rim_2 (fun H locs V => ?_)
  refine lv_if_ne (tgt := 10) X.1 X.2.1 dX12_rim_5 (by decide) (fun hc => ?_) (fun hc => ?_)
  · replace h := kif_f hc h
    refine lv_iconst (v := (0 : Int32)) X.1 X.2.1 dX12_rim_10 (by decide) ?_
    refine lv_istore_n (lv' := [(2, .int (0 : Int32)), (0, .ref (aT 0)), (1, .int v1)]) X.1 X.2.1 dX12_rim_11 rfl hl (by decide) rfl (fun ls hl => ?_)
    refine lv_iconst (v := (0 : Int32)) X.1 X.2.1 dX12_rim_12 (by decide) ?_
    refine lv_istore_n (lv' := [(3, .int (0 : Int32)), (2, .int (0 : Int32)), (0, .ref (aT 0)), (1, .int v1)]) X.1 X.2.1 dX12_rim_13 rfl hl (by decide) rfl (fun ls hl => ?_)
    obtain ⟨x9, hx9, h⟩ := kb_of h
    refine (kitr_go (hd := 14) (body := fun q => p_X12_rim_L14 v1 x8.2 q) (G := (fun e => ∀ (H : Heap) (locs : List Loc) (ls : Array Slot), kW D AA s.heap H (List.flatten [gX12 g aT x8.2]) locs → lv_has ls 4 [(0, .ref (aT 0)), (2, .int e.2.1), (3, .int e.2.2)] → W p l en (kR 6 170) s m args below meth c H locs 0 0 QQ (F0 m e.1 ls []))) (fun s10 e11 hb12 hG13 => ?_) kF _ x9 hx9 ?_) _ _ _ V (lv_sub hl [2, 1, 0] rfl)
    · intro H locs ls V hl
      show W p l en (kR 6 170) s m args below meth c H locs 0 0 QQ (F0 m 14 ls [])
      have h : p_X12_rim_L14 v1 x8.2 s10 = some e11 := hb12
      unfold p_X12_rim_L14 at h
      have V : kW D AA s.heap H (List.flatten [gX12 g aT x8.2]) locs := V
      have hl : lv_has ls 4 [(0, .ref (aT 0)), (2, .int s10.1), (3, .int s10.2)] := hl
      refine lv_iload_n X.1 X.2.1 dX12_rim_14 rfl (lv_at hl 2 rfl) ?_
      refine lv_aload_n X.1 X.2.1 dX12_rim_15 rfl (lv_at hl 0 rfl) ?_
      refine gf_X12_157 (i := 0) X V rfl dX12_rim_16 ?_
      refine lv_icmp_ge (tgt := 59) X.1 X.2.1 dX12_rim_19 (by decide) (fun hc => ?_) (fun hc => ?_)
      · replace h := kif_t hc h
        obtain rfl := Option.some.inj h
        exact hG13 _ _ _ V (lv_sub hl [0, 1, 2] rfl)
      · replace h := kif_f hc h
        refine lv_iload_n X.1 X.2.1 dX12_rim_22 rfl (lv_at hl 1 rfl) ?_
        refine lv_aload_n X.1 X.2.1 dX12_rim_23 rfl (lv_at hl 0 rfl) ?_
        refine lv_aload_n X.1 X.2.1 dX12_rim_24 rfl (lv_at hl 0 rfl) ?_
        refine gf_X12_33 (i := 0) X V rfl dX12_rim_25 ?_
        refine lv_iload_n X.1 X.2.1 dX12_rim_28 rfl (lv_at hl 2 rfl) ?_
        obtain ⟨hc, h⟩ := kg_of h
        refine al_X12_12 (i := 0) X V rfl hc dX12_rim_29 ?_
        refine lv_i2l X.1 X.2.1 dX12_rim_30 rfl ?_
        refine lv_aload_n X.1 X.2.1 dX12_rim_31 rfl (lv_at hl 0 rfl) ?_
        refine gf_X12_36 (i := 0) X V rfl dX12_rim_32 ?_
        refine lv_iload_n X.1 X.2.1 dX12_rim_35 rfl (lv_at hl 2 rfl) ?_
        obtain ⟨hc, h⟩ := kg_of h
        refine al_X12_13 (i := 0) X V rfl hc dX12_rim_36 ?_
        refine lv_i2l X.1 X.2.1 dX12_rim_37 rfl ?_
        obtain ⟨x14, hx14, h⟩ := kb_of h
        refine s_callVl (segs' := [gX12 g aT x8.2]) (ci := 12) (i0 := 0) X V (c_X12_lies l D g aT x8.2 (((x8.2.2.2.1 12) s10.2.toNatClampNeg)).toInt64 (((x8.2.2.2.1 13) s10.2.toNatClampNeg)).toInt64 x14 hx14) w_X12_222 ⟨Nat.le_of_ble_eq_true rfl, Nat.le_of_ble_eq_true rfl⟩ ⟨Nat.zero_le _, Nat.zero_le _⟩ rfl rfl rfl rfl [0] rfl rfl (kFst_refl _) rfl rfl hl.1 (Nat.le_of_ble_eq_true rfl) dX12_rim_38 (fun H locs V => ?_)
        refine lv_lconst (v := (0 : Int64)) X.1 X.2.1 dX12_rim_41 (by decide) ?_
        refine W.lcmp X.1 X.2.1 dX12_rim_42 ?_
        refine lv_if_ne (tgt := 50) X.1 X.2.1 dX12_rim_43 (by decide) (fun hc => ?_) (fun hc => ?_)
        · replace h := kif_f hc h
          refine lv_iconst (v := (0 : Int32)) X.1 X.2.1 dX12_rim_50 (by decide) ?_
          refine lv_iadd X.1 X.2.1 dX12_rim_51 ?_
          refine lv_topi (fun y15 ey15 => ?_)
          replace h := kl_of ey15 h
          refine lv_istore_n (lv' := [(2, .int y15), (0, .ref (aT 0)), (3, .int s10.2)]) X.1 X.2.1 dX12_rim_52 rfl hl (by decide) rfl (fun ls hl => ?_)
          obtain ⟨y16, ey16⟩ : ∃ y : Int32, y = (s10.2 + (1 : Int32)) := ⟨_, rfl⟩
          replace h := kl_of ey16 h
          refine lv_iinc (v := y16) (lv' := [(3, .int y16), (2, .int y15), (0, .ref (aT 0))]) X.1 X.2.1 dX12_rim_53 hl (k := 2) rfl (by rw [ey16]; rfl) (by decide) rfl (fun ls hl => ?_)
          refine lv_goto (tgt := 14) X.1 X.2.1 dX12_rim_56 (by decide) ?_
          obtain rfl := Option.some.inj h
          exact hG13 _ _ _ V (lv_sub hl [2, 1, 0] rfl)
        · replace h := kif_t hc h
          refine lv_iconst (v := (1 : Int32)) X.1 X.2.1 dX12_rim_46 (by decide) ?_
          refine lv_goto (tgt := 51) X.1 X.2.1 dX12_rim_47 (by decide) ?_
          refine lv_iadd X.1 X.2.1 dX12_rim_51 ?_
          refine lv_topi (fun y17 ey17 => ?_)
          replace h := kl_of ey17 h
          refine lv_istore_n (lv' := [(2, .int y17), (0, .ref (aT 0)), (3, .int s10.2)]) X.1 X.2.1 dX12_rim_52 rfl hl (by decide) rfl (fun ls hl => ?_)
          obtain ⟨y18, ey18⟩ : ∃ y : Int32, y = (s10.2 + (1 : Int32)) := ⟨_, rfl⟩
          replace h := kl_of ey18 h
          refine lv_iinc (v := y18) (lv' := [(3, .int y18), (2, .int y17), (0, .ref (aT 0))]) X.1 X.2.1 dX12_rim_53 hl (k := 2) rfl (by rw [ey18]; rfl) (by decide) rfl (fun ls hl => ?_)
          refine lv_goto (tgt := 14) X.1 X.2.1 dX12_rim_56 (by decide) ?_
          obtain rfl := Option.some.inj h
          exact hG13 _ _ _ V (lv_sub hl [2, 1, 0] rfl)
    · intro H locs ls V hl
      have V : kW D AA s.heap H (List.flatten [gX12 g aT x8.2]) locs := V
      have hl : lv_has ls 4 [(0, .ref (aT 0)), (2, .int x9.2.1), (3, .int x9.2.2)] := hl
      obtain ⟨hc, h⟩ := kg_of h
      refine W.eq (g2 := F0 m 59 ls []) (by rw [hc]) ?_
      refine lv_iload_n X.1 X.2.1 dX12_rim_59 rfl (lv_at hl 1 rfl) ?_
      obtain rfl := Option.some.inj h
      rw [hAA] at V
      rw [hQQ]
      exact k_iret X V rfl dX12_rim_60
  · replace h := kif_t hc h
    refine lv_iconst (v := (-1 : Int32)) X.1 X.2.1 dX12_rim_8 (by decide) ?_
    obtain rfl := Option.some.inj h
    rw [hAA] at V
    rw [hQQ]
    exact k_iret X V rfl dX12_rim_9

def p_X12_isFar (v0 : Int32) (v1 : Int32) : Option (Bool) :=
  kb (p_X12_isIn v0 (-v1) v1) (fun x1 => some x1)
set_option maxHeartbeats 4000000 in
set_option maxRecDepth 100000 in
theorem c_X12_isFar (l : Launch) (D : va_G) (g : kG)  (v0 : Int32) (v1 : Int32) (r : Bool) (h : p_X12_isFar v0 v1 = some r) : kMi l yX12_isFar cX12_isFar 2 (some .boolean) (kR 1 22) D (kty g) [.int v0, .int v1] (List.flatten ([] : List va_W)) (kz r) (List.flatten ([] : List va_W)) := by
  intro sz
  refine k_enter (lv := [(0, .int v0), (1, .int v1)]) RX12 (by decide +kernel) rfl rfl (Nat.le_of_ble_eq_true rfl) ?_
  intro p en s m args below meth c ls hsz X V hl
  obtain ⟨QQ, hQQ⟩ : ∃ q, q = MQ below (va_Qi (fun r' (_ : Unit) => r' = kz r) (fun _ => kE D (List.flatten ([] : List va_W))) (va_A (List.flatten ([] : List va_W)) sz)) args s 0 0 (va_A (List.flatten ([] : List va_W)) sz) := ⟨_, rfl⟩
  rw [← hQQ]
  obtain ⟨AA, hAA⟩ : ∃ q, q = va_A (List.flatten ([] : List va_W)) sz := ⟨_, rfl⟩
  rw [← hAA] at V
  unfold p_X12_isFar at h
  refine lv_iload_n X.1 X.2.1 dX12_isFar_0 rfl (lv_at hl 0 rfl) ?_
  refine lv_iload_n X.1 X.2.1 dX12_isFar_1 rfl (lv_at hl 1 rfl) ?_
  refine lv_ineg X.1 X.2.1 dX12_isFar_2 ?_
  refine lv_iload_n X.1 X.2.1 dX12_isFar_3 rfl (lv_at hl 1 rfl) ?_
  obtain ⟨x2, hx2, h⟩ := kb_of h
  refine s_callSi (segs' := ([] : List va_W)) X V (c_X12_isIn l D g v0 (-v1) v1 x2 hx2) w_X12_76 ⟨Nat.le_of_ble_eq_true rfl, Nat.le_of_ble_eq_true rfl⟩ ⟨Nat.zero_le _, Nat.zero_le _⟩ rfl [] rfl rfl (kFst_refl _) rfl rfl hl.1 (Nat.le_of_ble_eq_true rfl) dX12_isFar_4 (fun H locs V => ?_)
  obtain rfl := Option.some.inj h
  rw [hAA] at V
  rw [hQQ]
  exact k_zret X V (b := x2) rfl rfl dX12_isFar_7

def p_X12_inside (zT : tX12) (v1 : Int32) (v2 : Int32) (v3 : Int32) : Option (Int32 × tX12) :=
  kb (p_X12_isFar v2 (300 : Int32)) (fun x1 => kif ((kz x1) = 0) (some ((-1 : Int32), zT)) (kb (p_X12_isFar v3 (300 : Int32)) (fun x2 => kif ((kz x2) = 0) (some ((-1 : Int32), zT)) (kb (p_X12_hasCircle zT v1) (fun x3 => kif ((kz x3.1) = 0) (some ((-1 : Int32), x3.2)) (kb (p_X12_lies x3.2 v2.toInt64 v3.toInt64) (fun x4 => kif (0 ≤ (lg_cmp x4 (0 : Int64))) (kif ((lg_cmp x4 (0 : Int64)) = 0) (some ((1 : Int32), x3.2)) (some ((0 : Int32), x3.2))) (some ((2 : Int32), x3.2)))))))))
set_option maxHeartbeats 4000000 in
set_option maxRecDepth 100000 in
theorem c_X12_inside (l : Launch) (D : va_G) (g : kG) (aT : Nat → Nat) (zT : tX12) (v1 : Int32) (v2 : Int32) (v3 : Int32) (r : Int32 × tX12) (h : p_X12_inside zT v1 v2 v3 = some r) : kMi l yX12_inside cX12_inside 6 (some .int) (kR 6 170) D (kty g) [.ref (aT 0), .int v1, .int v2, .int v3] (List.flatten [gX12 g aT zT]) r.1 (List.flatten [gX12 g aT r.2]) := by
  intro sz
  refine k_enter (lv := [(0, .ref (aT 0)), (1, .int v1), (2, .int v2), (3, .int v3)]) RX12 (by decide +kernel) rfl rfl (Nat.le_of_ble_eq_true rfl) ?_
  intro p en s m args below meth c ls hsz X V hl
  obtain ⟨QQ, hQQ⟩ : ∃ q, q = MQ below (va_Qi (fun r' (_ : Unit) => r' = r.1) (fun _ => kE D (List.flatten [gX12 g aT r.2])) (va_A (List.flatten [gX12 g aT zT]) sz)) args s 0 0 (va_A (List.flatten [gX12 g aT zT]) sz) := ⟨_, rfl⟩
  rw [← hQQ]
  obtain ⟨AA, hAA⟩ : ∃ q, q = va_A (List.flatten [gX12 g aT zT]) sz := ⟨_, rfl⟩
  rw [← hAA] at V
  unfold p_X12_inside at h
  refine lv_iload_n X.1 X.2.1 dX12_inside_0 rfl (lv_at hl 2 rfl) ?_
  refine lv_sipush (v := (300 : Int32)) X.1 X.2.1 dX12_inside_1 (by decide) ?_
  obtain ⟨x5, hx5, h⟩ := kb_of h
  refine s_callSi (segs' := [gX12 g aT zT]) X V (c_X12_isFar l D g v2 (300 : Int32) x5 hx5) w_X12_293 ⟨Nat.le_of_ble_eq_true rfl, Nat.le_of_ble_eq_true rfl⟩ ⟨Nat.zero_le _, Nat.zero_le _⟩ rfl [] rfl rfl (kFst_refl _) rfl rfl hl.1 (Nat.le_of_ble_eq_true rfl) dX12_inside_4 (fun H locs V => ?_)
  refine lv_if_eq (tgt := 28) X.1 X.2.1 dX12_inside_7 (by decide) (fun hc => ?_) (fun hc => ?_)
  · replace h := kif_t hc h
    refine lv_iconst (v := (-1 : Int32)) X.1 X.2.1 dX12_inside_28 (by decide) ?_
    obtain rfl := Option.some.inj h
    rw [hAA] at V
    rw [hQQ]
    exact k_iret X V rfl dX12_inside_29
  · replace h := kif_f hc h
    refine lv_iload_n X.1 X.2.1 dX12_inside_10 rfl (lv_at hl 3 rfl) ?_
    refine lv_sipush (v := (300 : Int32)) X.1 X.2.1 dX12_inside_11 (by decide) ?_
    obtain ⟨x6, hx6, h⟩ := kb_of h
    refine s_callSi (segs' := [gX12 g aT zT]) X V (c_X12_isFar l D g v3 (300 : Int32) x6 hx6) w_X12_293 ⟨Nat.le_of_ble_eq_true rfl, Nat.le_of_ble_eq_true rfl⟩ ⟨Nat.zero_le _, Nat.zero_le _⟩ rfl [] rfl rfl (kFst_refl _) rfl rfl hl.1 (Nat.le_of_ble_eq_true rfl) dX12_inside_14 (fun H locs V => ?_)
    refine lv_if_eq (tgt := 28) X.1 X.2.1 dX12_inside_17 (by decide) (fun hc => ?_) (fun hc => ?_)
    · replace h := kif_t hc h
      refine lv_iconst (v := (-1 : Int32)) X.1 X.2.1 dX12_inside_28 (by decide) ?_
      obtain rfl := Option.some.inj h
      rw [hAA] at V
      rw [hQQ]
      exact k_iret X V rfl dX12_inside_29
    · replace h := kif_f hc h
      refine lv_aload_n X.1 X.2.1 dX12_inside_20 rfl (lv_at hl 0 rfl) ?_
      refine lv_iload_n X.1 X.2.1 dX12_inside_21 rfl (lv_at hl 1 rfl) ?_
      obtain ⟨x7, hx7, h⟩ := kb_of h
      refine s_callVi (segs' := [gX12 g aT x7.2]) (ci := 12) (i0 := 0) X V (c_X12_hasCircle l D g aT zT v1 x7 hx7) w_X12_288 ⟨Nat.le_of_ble_eq_true rfl, Nat.le_of_ble_eq_true rfl⟩ ⟨Nat.zero_le _, Nat.zero_le _⟩ rfl rfl rfl rfl [0] rfl rfl ⟨gX12_fst, trivial⟩ rfl rfl hl.1 (Nat.le_of_ble_eq_true rfl) dX12_inside_22 (fun H locs V => ?_)
      refine lv_if_ne (tgt := 30) X.1 X.2.1 dX12_inside_25 (by decide) (fun hc => ?_) (fun hc => ?_)
      · replace h := kif_f hc h
        refine lv_aload_n X.1 X.2.1 dX12_inside_30 rfl (lv_at hl 0 rfl) ?_
        refine lv_iload_n X.1 X.2.1 dX12_inside_31 rfl (lv_at hl 2 rfl) ?_
        refine lv_i2l X.1 X.2.1 dX12_inside_32 rfl ?_
        refine lv_iload_n X.1 X.2.1 dX12_inside_33 rfl (lv_at hl 3 rfl) ?_
        refine lv_i2l X.1 X.2.1 dX12_inside_34 rfl ?_
        obtain ⟨x8, hx8, h⟩ := kb_of h
        refine s_callVl (segs' := [gX12 g aT x7.2]) (ci := 12) (i0 := 0) X V (c_X12_lies l D g aT x7.2 v2.toInt64 v3.toInt64 x8 hx8) w_X12_222 ⟨Nat.le_of_ble_eq_true rfl, Nat.le_of_ble_eq_true rfl⟩ ⟨Nat.zero_le _, Nat.zero_le _⟩ rfl rfl rfl rfl [0] rfl rfl (kFst_refl _) rfl rfl hl.1 (Nat.le_of_ble_eq_true rfl) dX12_inside_35 (fun H locs V => ?_)
        refine lv_lstore (lv' := [(4, .long x8), (0, .ref (aT 0)), (1, .int v1), (2, .int v2), (3, .int v3)]) X.1 X.2.1 dX12_inside_38 hl (by decide) rfl (fun ls hl => ?_)
        refine lv_lload X.1 X.2.1 dX12_inside_40 (lv_at hl 0 rfl) ?_
        refine lv_lconst (v := (0 : Int64)) X.1 X.2.1 dX12_inside_42 (by decide) ?_
        refine W.lcmp X.1 X.2.1 dX12_inside_43 ?_
        refine lv_if_ge (tgt := 51) X.1 X.2.1 dX12_inside_44 (by decide) (fun hc => ?_) (fun hc => ?_)
        · replace h := kif_t hc h
          refine lv_lload X.1 X.2.1 dX12_inside_51 (lv_at hl 0 rfl) ?_
          refine lv_lconst (v := (0 : Int64)) X.1 X.2.1 dX12_inside_53 (by decide) ?_
          refine W.lcmp X.1 X.2.1 dX12_inside_54 ?_
          refine lv_if_ne (tgt := 62) X.1 X.2.1 dX12_inside_55 (by decide) (fun hc => ?_) (fun hc => ?_)
          · replace h := kif_f hc h
            refine lv_iconst (v := (0 : Int32)) X.1 X.2.1 dX12_inside_62 (by decide) ?_
            obtain rfl := Option.some.inj h
            rw [hAA] at V
            rw [hQQ]
            exact k_iret X V rfl dX12_inside_63
          · replace h := kif_t hc h
            refine lv_iconst (v := (1 : Int32)) X.1 X.2.1 dX12_inside_58 (by decide) ?_
            refine lv_goto (tgt := 63) X.1 X.2.1 dX12_inside_59 (by decide) ?_
            obtain rfl := Option.some.inj h
            rw [hAA] at V
            rw [hQQ]
            exact k_iret X V rfl dX12_inside_63
        · replace h := kif_f hc h
          refine lv_iconst (v := (2 : Int32)) X.1 X.2.1 dX12_inside_47 (by decide) ?_
          refine lv_goto (tgt := 63) X.1 X.2.1 dX12_inside_48 (by decide) ?_
          obtain rfl := Option.some.inj h
          rw [hAA] at V
          rw [hQQ]
          exact k_iret X V rfl dX12_inside_63
      · replace h := kif_t hc h
        refine lv_iconst (v := (-1 : Int32)) X.1 X.2.1 dX12_inside_28 (by decide) ?_
        obtain rfl := Option.some.inj h
        rw [hAA] at V
        rw [hQQ]
        exact k_iret X V rfl dX12_inside_29

def p_X12_layOrder_L12 (v1 : Int32) (s : Int32 × tX12) : Option (Nat × (Int32 × tX12)) :=
  kif (s.1 ≤ 0) (some (58, (s.1, s.2))) (kg (kii (s.1 - (1 : Int32)) 41) (kg (kii ((s.2.2.2.1 30) ((s.1 - (1 : Int32))).toNatClampNeg) 41) (kg (kii v1 41) (kif (((s.2.2.2.1 14) (((s.2.2.2.1 30) ((s.1 - (1 : Int32))).toNatClampNeg)).toNatClampNeg) ≤ ((s.2.2.2.1 14) v1.toNatClampNeg)) (some (58, (s.1, s.2))) (kg (kii (s.1 - (1 : Int32)) 41) (kg (kii s.1 41) (kl (s.2.1, s.2.2.1, va_up s.2.2.2.1 30 (upd (s.2.2.2.1 30) (s.1).toNatClampNeg ((s.2.2.2.1 30) ((s.1 - (1 : Int32))).toNatClampNeg)), s.2.2.2.2) (fun z1 => kl (s.1 + (-1 : Int32)) (fun y2 => some (12, (y2, z1)))))))))))
def p_X12_layOrder_L2 (s : Int32 × tX12) : Option (Nat × (Int32 × tX12)) :=
  kif ((s.2.1 15) ≤ s.1) (some (71, (s.1, s.2))) (kb (kitr 12 (fun q => p_X12_layOrder_L12 s.1 q) kF (s.1, s.2)) (fun x3 => kg (x3.1 = 58) (kg (kii x3.2.1 41) (kl (x3.2.2.1, x3.2.2.2.1, va_up x3.2.2.2.2.1 30 (upd (x3.2.2.2.2.1 30) (x3.2.1).toNatClampNeg s.1), x3.2.2.2.2.2) (fun z4 => kl (s.1 + (1 : Int32)) (fun y5 => some (2, (y5, z4))))))))
def p_X12_layOrder (zT : tX12) : Option (tX12) :=
  kb (kitr 2 (fun q => p_X12_layOrder_L2 q) kF ((0 : Int32), zT)) (fun x6 => kg (x6.1 = 71) (some x6.2.2))
set_option maxHeartbeats 4000000 in
set_option maxRecDepth 100000 in
theorem c_X12_layOrder (l : Launch) (D : va_G) (g : kG) (aT : Nat → Nat) (zT : tX12) (r : tX12) (h : p_X12_layOrder zT = some r) : kMv l yX12_layOrder cX12_layOrder 3 none (kR 0 0) D (kty g) [.ref (aT 0)] (List.flatten [gX12 g aT zT]) (List.flatten [gX12 g aT r]) := by
  intro sz
  refine k_enter (lv := [(0, .ref (aT 0))]) RX12 (by decide +kernel) rfl rfl (Nat.le_of_ble_eq_true rfl) ?_
  intro p en s m args below meth c ls hsz X V hl
  obtain ⟨QQ, hQQ⟩ : ∃ q, q = MQ below (va_Qv (fun (_ : Unit) => True) (fun _ => kE D (List.flatten [gX12 g aT r])) (va_A (List.flatten [gX12 g aT zT]) sz)) args s 0 0 (va_A (List.flatten [gX12 g aT zT]) sz) := ⟨_, rfl⟩
  rw [← hQQ]
  obtain ⟨AA, hAA⟩ : ∃ q, q = va_A (List.flatten [gX12 g aT zT]) sz := ⟨_, rfl⟩
  rw [← hAA] at V
  unfold p_X12_layOrder at h
  refine lv_iconst (v := (0 : Int32)) X.1 X.2.1 dX12_layOrder_0 (by decide) ?_
  refine lv_istore_n (lv' := [(1, .int (0 : Int32)), (0, .ref (aT 0))]) X.1 X.2.1 dX12_layOrder_1 rfl hl (by decide) rfl (fun ls hl => ?_)
  obtain ⟨x7, hx7, h⟩ := kb_of h
  refine (kitr_go (hd := 2) (body := fun q => p_X12_layOrder_L2 q) (G := (fun e => ∀ (H : Heap) (locs : List Loc) (ls : Array Slot), kW D AA s.heap H (List.flatten [gX12 g aT e.2.2]) locs → lv_has ls 3 [(0, .ref (aT 0)), (1, .int e.2.1)] → W p l en (kR 0 0) s m args below meth c H locs 0 0 QQ (F0 m e.1 ls []))) (fun s8 e9 hb10 hG11 => ?_) kF _ x7 hx7 ?_) _ _ _ V (lv_sub hl [1, 0] rfl)
  · intro H locs ls V hl
    show W p l en (kR 0 0) s m args below meth c H locs 0 0 QQ (F0 m 2 ls [])
    have h : p_X12_layOrder_L2 s8 = some e9 := hb10
    unfold p_X12_layOrder_L2 at h
    have V : kW D AA s.heap H (List.flatten [gX12 g aT s8.2]) locs := V
    have hl : lv_has ls 3 [(0, .ref (aT 0)), (1, .int s8.1)] := hl
    refine lv_iload_n X.1 X.2.1 dX12_layOrder_2 rfl (lv_at hl 1 rfl) ?_
    refine lv_aload_n X.1 X.2.1 dX12_layOrder_3 rfl (lv_at hl 0 rfl) ?_
    refine gf_X12_157 (i := 0) X V rfl dX12_layOrder_4 ?_
    refine lv_icmp_ge (tgt := 71) X.1 X.2.1 dX12_layOrder_7 (by decide) (fun hc => ?_) (fun hc => ?_)
    · replace h := kif_t hc h
      obtain rfl := Option.some.inj h
      exact hG11 _ _ _ V (lv_sub hl [0, 1] rfl)
    · replace h := kif_f hc h
      refine lv_iload_n X.1 X.2.1 dX12_layOrder_10 rfl (lv_at hl 1 rfl) ?_
      refine lv_istore_n (lv' := [(2, .int s8.1), (0, .ref (aT 0)), (1, .int s8.1)]) X.1 X.2.1 dX12_layOrder_11 rfl hl (by decide) rfl (fun ls hl => ?_)
      obtain ⟨x12, hx12, h⟩ := kb_of h
      refine (kitr_go (hd := 12) (body := fun q => p_X12_layOrder_L12 s8.1 q) (G := (fun e => ∀ (H : Heap) (locs : List Loc) (ls : Array Slot), kW D AA s.heap H (List.flatten [gX12 g aT e.2.2]) locs → lv_has ls 3 [(0, .ref (aT 0)), (1, .int s8.1), (2, .int e.2.1)] → W p l en (kR 0 0) s m args below meth c H locs 0 0 QQ (F0 m e.1 ls []))) (fun s13 e14 hb15 hG16 => ?_) kF _ x12 hx12 ?_) _ _ _ V (lv_sub hl [1, 2, 0] rfl)
      · intro H locs ls V hl
        show W p l en (kR 0 0) s m args below meth c H locs 0 0 QQ (F0 m 12 ls [])
        have h : p_X12_layOrder_L12 s8.1 s13 = some e14 := hb15
        unfold p_X12_layOrder_L12 at h
        have V : kW D AA s.heap H (List.flatten [gX12 g aT s13.2]) locs := V
        have hl : lv_has ls 3 [(0, .ref (aT 0)), (1, .int s8.1), (2, .int s13.1)] := hl
        refine lv_iload_n X.1 X.2.1 dX12_layOrder_12 rfl (lv_at hl 2 rfl) ?_
        refine lv_if_le (tgt := 58) X.1 X.2.1 dX12_layOrder_13 (by decide) (fun hc => ?_) (fun hc => ?_)
        · replace h := kif_t hc h
          obtain rfl := Option.some.inj h
          exact hG16 _ _ _ V (lv_sub hl [0, 1, 2] rfl)
        · replace h := kif_f hc h
          refine lv_aload_n X.1 X.2.1 dX12_layOrder_16 rfl (lv_at hl 0 rfl) ?_
          refine gf_X12_39 (i := 0) X V rfl dX12_layOrder_17 ?_
          refine lv_aload_n X.1 X.2.1 dX12_layOrder_20 rfl (lv_at hl 0 rfl) ?_
          refine gf_X12_42 (i := 0) X V rfl dX12_layOrder_21 ?_
          refine lv_iload_n X.1 X.2.1 dX12_layOrder_24 rfl (lv_at hl 2 rfl) ?_
          refine lv_iconst (v := (1 : Int32)) X.1 X.2.1 dX12_layOrder_25 (by decide) ?_
          refine lv_isub X.1 X.2.1 dX12_layOrder_26 ?_
          obtain ⟨hc, h⟩ := kg_of h
          refine al_X12_30 (i := 0) X V rfl hc dX12_layOrder_27 ?_
          obtain ⟨hc, h⟩ := kg_of h
          refine al_X12_14 (i := 0) X V rfl hc dX12_layOrder_28 ?_
          refine lv_aload_n X.1 X.2.1 dX12_layOrder_29 rfl (lv_at hl 0 rfl) ?_
          refine gf_X12_39 (i := 0) X V rfl dX12_layOrder_30 ?_
          refine lv_iload_n X.1 X.2.1 dX12_layOrder_33 rfl (lv_at hl 1 rfl) ?_
          obtain ⟨hc, h⟩ := kg_of h
          refine al_X12_14 (i := 0) X V rfl hc dX12_layOrder_34 ?_
          refine lv_icmp_le (tgt := 58) X.1 X.2.1 dX12_layOrder_35 (by decide) (fun hc => ?_) (fun hc => ?_)
          · replace h := kif_t hc h
            obtain rfl := Option.some.inj h
            exact hG16 _ _ _ V (lv_sub hl [0, 1, 2] rfl)
          · replace h := kif_f hc h
            refine lv_aload_n X.1 X.2.1 dX12_layOrder_38 rfl (lv_at hl 0 rfl) ?_
            refine gf_X12_42 (i := 0) X V rfl dX12_layOrder_39 ?_
            refine lv_iload_n X.1 X.2.1 dX12_layOrder_42 rfl (lv_at hl 2 rfl) ?_
            refine lv_aload_n X.1 X.2.1 dX12_layOrder_43 rfl (lv_at hl 0 rfl) ?_
            refine gf_X12_42 (i := 0) X V rfl dX12_layOrder_44 ?_
            refine lv_iload_n X.1 X.2.1 dX12_layOrder_47 rfl (lv_at hl 2 rfl) ?_
            refine lv_iconst (v := (1 : Int32)) X.1 X.2.1 dX12_layOrder_48 (by decide) ?_
            refine lv_isub X.1 X.2.1 dX12_layOrder_49 ?_
            obtain ⟨hc, h⟩ := kg_of h
            refine al_X12_30 (i := 0) X V rfl hc dX12_layOrder_50 ?_
            obtain ⟨hc, h⟩ := kg_of h
            refine as_X12_30 (i := 0) X V rfl hc dX12_layOrder_51 (fun H locs V => ?_)
            obtain ⟨z17, ez17⟩ : ∃ y, y = (s13.2.1, s13.2.2.1, va_up s13.2.2.2.1 30 (upd (s13.2.2.2.1 30) (s13.1).toNatClampNeg ((s13.2.2.2.1 30) ((s13.1 - (1 : Int32))).toNatClampNeg)), s13.2.2.2.2) := ⟨_, rfl⟩
            replace h := kl_of ez17 h
            have V : kW D AA s.heap H (List.flatten [gX12 g aT z17]) locs := by rw [ez17]; exact V
            obtain ⟨y18, ey18⟩ : ∃ y : Int32, y = (s13.1 + (-1 : Int32)) := ⟨_, rfl⟩
            replace h := kl_of ey18 h
            refine lv_iinc (v := y18) (lv' := [(2, .int y18), (0, .ref (aT 0)), (1, .int s8.1)]) X.1 X.2.1 dX12_layOrder_52 hl (k := 2) rfl (by rw [ey18]; rfl) (by decide) rfl (fun ls hl => ?_)
            refine lv_goto (tgt := 12) X.1 X.2.1 dX12_layOrder_55 (by decide) ?_
            obtain rfl := Option.some.inj h
            exact hG16 _ _ _ V (lv_sub hl [1, 2, 0] rfl)
      · intro H locs ls V hl
        have V : kW D AA s.heap H (List.flatten [gX12 g aT x12.2.2]) locs := V
        have hl : lv_has ls 3 [(0, .ref (aT 0)), (1, .int s8.1), (2, .int x12.2.1)] := hl
        obtain ⟨hc, h⟩ := kg_of h
        refine W.eq (g2 := F0 m 58 ls []) (by rw [hc]) ?_
        refine lv_aload_n X.1 X.2.1 dX12_layOrder_58 rfl (lv_at hl 0 rfl) ?_
        refine gf_X12_42 (i := 0) X V rfl dX12_layOrder_59 ?_
        refine lv_iload_n X.1 X.2.1 dX12_layOrder_62 rfl (lv_at hl 2 rfl) ?_
        refine lv_iload_n X.1 X.2.1 dX12_layOrder_63 rfl (lv_at hl 1 rfl) ?_
        obtain ⟨hc, h⟩ := kg_of h
        refine as_X12_30 (i := 0) X V rfl hc dX12_layOrder_64 (fun H locs V => ?_)
        obtain ⟨z19, ez19⟩ : ∃ y, y = (x12.2.2.1, x12.2.2.2.1, va_up x12.2.2.2.2.1 30 (upd (x12.2.2.2.2.1 30) (x12.2.1).toNatClampNeg s8.1), x12.2.2.2.2.2) := ⟨_, rfl⟩
        replace h := kl_of ez19 h
        have V : kW D AA s.heap H (List.flatten [gX12 g aT z19]) locs := by rw [ez19]; exact V
        obtain ⟨y20, ey20⟩ : ∃ y : Int32, y = (s8.1 + (1 : Int32)) := ⟨_, rfl⟩
        replace h := kl_of ey20 h
        refine lv_iinc (v := y20) (lv' := [(1, .int y20), (0, .ref (aT 0)), (2, .int x12.2.1)]) X.1 X.2.1 dX12_layOrder_65 hl (k := 1) rfl (by rw [ey20]; rfl) (by decide) rfl (fun ls hl => ?_)
        refine lv_goto (tgt := 2) X.1 X.2.1 dX12_layOrder_68 (by decide) ?_
        obtain rfl := Option.some.inj h
        exact hG11 _ _ _ V (lv_sub hl [1, 0] rfl)
  · intro H locs ls V hl
    have V : kW D AA s.heap H (List.flatten [gX12 g aT x7.2.2]) locs := V
    have hl : lv_has ls 3 [(0, .ref (aT 0)), (1, .int x7.2.1)] := hl
    obtain ⟨hc, h⟩ := kg_of h
    refine W.eq (g2 := F0 m 71 ls []) (by rw [hc]) ?_
    obtain rfl := Option.some.inj h
    rw [hAA] at V
    rw [hQQ]
    exact k_vret X V dX12_layOrder_71
