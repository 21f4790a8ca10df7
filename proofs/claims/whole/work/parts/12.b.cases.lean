/-! THE LAW: its cases (wip/tools/law.py) -/
section LC
variable {p : Program} {l : Launch} {e : Env} {s : State} {m : MethodId} {args : Array Value} {below : List Frame} {meth : Method} {c : Code} {D : va_G} {A : Nat → Prop} {Q : State → Prop} {b L : Nat} {xs : Nat → Int32} {q : Nat → ClassId} {hc hm : Nat → Nat} {nf nb k i : Nat} {σ τ : St}
set_option maxHeartbeats 4000000 in
set_option maxRecDepth 20000 in
theorem lc_0 (C : CX p s m args c cL_law 4 "PageHoldLaw" D (tyQ q) A) (X : SC b L xs s A) (hi : i + 6 ≤ L) (hk : k < 64) (R : R3 nf nb k σ τ) (nx : ∀ σ' τ' : St, R3 nf nb (k + 1) σ' τ' → ∀ ls : Array Slot, lv_has ls 4 [(3, .int (nI i)), (2, .ref (hm 0)), (1, .ref (hc 0)), (0, .ref b)] → WG p l e room_1 s m args below meth c D A 100 200000 Q (wL hc hm q nf nb σ' τ') (F0 m 903 ls [])) (ls : Array Slot) (hl : lv_has ls 4 [(3, .int (nI i)), (2, .ref (hm 0)), (1, .ref (hc 0)), (0, .ref b)]) : WG p l e room_1 s m args below meth c D A 100 200000 Q (wL hc hm q nf nb σ τ) (F0 m 152 ls []) := by
  refine s_aload_n C dL_law_152 rfl (lv_at hl 2 rfl) ?_
  refine s_aload_n C dL_law_153 rfl (lv_at hl 3 rfl) ?_
  refine s_iload_n C dL_law_154 rfl (lv_at hl 0 rfl) ?_
  refine s_iconst (v := (1 : Int32)) C dL_law_155 (by decide) ?_
  refine s_iadd C dL_law_156 ?_
  refine s_sld C X (i + 1) (nI_add i 1) (by omega) dL_law_157 ?_
  refine s_aload_n C dL_law_158 rfl (lv_at hl 3 rfl) ?_
  refine s_iload_n C dL_law_159 rfl (lv_at hl 0 rfl) ?_
  refine s_iconst (v := (2 : Int32)) C dL_law_160 (by decide) ?_
  refine s_iadd C dL_law_161 ?_
  refine s_sld C X (i + 2) (nI_add i 2) (by omega) dL_law_162 ?_
  refine s_aload_n C dL_law_163 rfl (lv_at hl 3 rfl) ?_
  refine s_iload_n C dL_law_164 rfl (lv_at hl 0 rfl) ?_
  refine s_iconst (v := (3 : Int32)) C dL_law_165 (by decide) ?_
  refine s_iadd C dL_law_166 ?_
  refine s_sld C X (i + 3) (nI_add i 3) (by omega) dL_law_167 ?_
  obtain ⟨r, σ2, τ2, y1, y2, R2⟩ := q_read (N := 5000) R hk (by decide) (xs (i + 1)) (xs (i + 2)) (xs (i + 3))
  refine s_callIV (As := [.int (xs (i + 1)), .int (xs (i + 2)), .int (xs (i + 3))]) (rest := []) (ws2 := (wL hc hm q nf nb σ2 τ)) C (c_X6_read l D q hc 5000 nf nb (xs (i + 1)) (xs (i + 2)) (xs (i + 3)) σ (r, σ2) y1) ⟨wd_2_0, wd_2_1, wd_2_2, wd_1_1, wd_2_3, cx_X6_read, Nat.le_of_ble_eq_true rfl, Nat.le_of_ble_eq_true rfl⟩ 0 (ci := 6) rfl rfl rfl (sbC hc hm q nf nb σ σ2 τ) rfl hl.1 rfl (Nat.le_of_ble_eq_true rfl) dL_law_168 (Nat.le_of_ble_eq_true rfl) (Nat.le_of_ble_eq_true rfl) ?_
  refine s_aload_n C dL_law_171 rfl (lv_at hl 1 rfl) ?_
  refine s_aload_n C dL_law_172 rfl (lv_at hl 3 rfl) ?_
  refine s_iload_n C dL_law_173 rfl (lv_at hl 0 rfl) ?_
  refine s_iconst (v := (1 : Int32)) C dL_law_174 (by decide) ?_
  refine s_iadd C dL_law_175 ?_
  refine s_sld C X (i + 1) (nI_add i 1) (by omega) dL_law_176 ?_
  refine s_aload_n C dL_law_177 rfl (lv_at hl 3 rfl) ?_
  refine s_iload_n C dL_law_178 rfl (lv_at hl 0 rfl) ?_
  refine s_iconst (v := (2 : Int32)) C dL_law_179 (by decide) ?_
  refine s_iadd C dL_law_180 ?_
  refine s_sld C X (i + 2) (nI_add i 2) (by omega) dL_law_181 ?_
  refine s_aload_n C dL_law_182 rfl (lv_at hl 3 rfl) ?_
  refine s_iload_n C dL_law_183 rfl (lv_at hl 0 rfl) ?_
  refine s_iconst (v := (3 : Int32)) C dL_law_184 (by decide) ?_
  refine s_iadd C dL_law_185 ?_
  refine s_sld C X (i + 3) (nI_add i 3) (by omega) dL_law_186 ?_
  refine s_callIV (As := [.int (xs (i + 1)), .int (xs (i + 2)), .int (xs (i + 3))]) (rest := [.int r]) (ws2 := (wL hc hm q nf nb σ2 τ2)) C (c_X7_read l D q hm 5000 (xs (i + 1)) (xs (i + 2)) (xs (i + 3)) τ (r, τ2) y2) ⟨wd_4_6, wd_4_7, wd_4_8, wd_1_10, wd_4_9, cx_X7_read, Nat.le_of_ble_eq_true rfl, Nat.le_of_ble_eq_true rfl⟩ 35 (ci := 7) rfl rfl rfl (sbM hc hm q nf nb σ2 τ τ2) rfl hl.1 rfl (Nat.le_of_ble_eq_true rfl) dL_law_187 (Nat.le_of_ble_eq_true rfl) (Nat.le_of_ble_eq_true rfl) ?_
  refine s_icmp_eq (tgt := 903) C dL_law_190 (by decide) (fun c9 => ?_) (fun c9 => absurd rfl c9)
  exact nx _ _ R2 ls hl
set_option maxHeartbeats 4000000 in
set_option maxRecDepth 20000 in
theorem lc_1 (C : CX p s m args c cL_law 4 "PageHoldLaw" D (tyQ q) A) (X : SC b L xs s A) (hi : i + 6 ≤ L) (hk : k < 64) (R : R3 nf nb k σ τ) (nx : ∀ σ' τ' : St, R3 nf nb (k + 1) σ' τ' → ∀ ls : Array Slot, lv_has ls 4 [(3, .int (nI i)), (2, .ref (hm 0)), (1, .ref (hc 0)), (0, .ref b)] → WG p l e room_1 s m args below meth c D A 100 200000 Q (wL hc hm q nf nb σ' τ') (F0 m 903 ls [])) (ls : Array Slot) (hl : lv_has ls 4 [(3, .int (nI i)), (2, .ref (hm 0)), (1, .ref (hc 0)), (0, .ref b)]) : WG p l e room_1 s m args below meth c D A 100 200000 Q (wL hc hm q nf nb σ τ) (F0 m 195 ls []) := by
  refine s_aload_n C dL_law_195 rfl (lv_at hl 2 rfl) ?_
  refine s_aload_n C dL_law_196 rfl (lv_at hl 3 rfl) ?_
  refine s_iload_n C dL_law_197 rfl (lv_at hl 0 rfl) ?_
  refine s_iconst (v := (1 : Int32)) C dL_law_198 (by decide) ?_
  refine s_iadd C dL_law_199 ?_
  refine s_sld C X (i + 1) (nI_add i 1) (by omega) dL_law_200 ?_
  obtain ⟨r, y1, y2⟩ := l_hand R (xs (i + 1))
  refine s_callIV (As := [.int (xs (i + 1))]) (rest := []) (ws2 := (wL hc hm q nf nb σ τ)) C (c_X6_hand l D q hc 5000 nf nb (xs (i + 1)) σ r y1) ⟨wd_2_191, wd_2_192, wd_2_193, wd_1_1, wd_2_194, cx_X6_hand, Nat.le_of_ble_eq_true rfl, Nat.le_of_ble_eq_true rfl⟩ 0 (ci := 6) rfl rfl rfl (sbC hc hm q nf nb σ σ τ) rfl hl.1 rfl (Nat.le_of_ble_eq_true rfl) dL_law_201 (Nat.le_of_ble_eq_true rfl) (Nat.le_of_ble_eq_true rfl) ?_
  refine s_aload_n C dL_law_204 rfl (lv_at hl 1 rfl) ?_
  refine s_aload_n C dL_law_205 rfl (lv_at hl 3 rfl) ?_
  refine s_iload_n C dL_law_206 rfl (lv_at hl 0 rfl) ?_
  refine s_iconst (v := (1 : Int32)) C dL_law_207 (by decide) ?_
  refine s_iadd C dL_law_208 ?_
  refine s_sld C X (i + 1) (nI_add i 1) (by omega) dL_law_209 ?_
  refine s_callIV (As := [.int (xs (i + 1))]) (rest := [.int r]) (ws2 := (wL hc hm q nf nb σ τ)) C (c_X7_hand l D q hm 5000 (xs (i + 1)) τ r y2) ⟨wd_4_85, wd_4_86, wd_4_87, wd_1_10, wd_4_88, cx_X7_hand, Nat.le_of_ble_eq_true rfl, Nat.le_of_ble_eq_true rfl⟩ 35 (ci := 7) rfl rfl rfl (sbM hc hm q nf nb σ τ τ) rfl hl.1 rfl (Nat.le_of_ble_eq_true rfl) dL_law_210 (Nat.le_of_ble_eq_true rfl) (Nat.le_of_ble_eq_true rfl) ?_
  refine s_icmp_eq (tgt := 903) C dL_law_213 (by decide) (fun c9 => ?_) (fun c9 => absurd rfl c9)
  exact nx _ _ R.up ls hl
set_option maxHeartbeats 4000000 in
set_option maxRecDepth 20000 in
theorem lc_2 (C : CX p s m args c cL_law 4 "PageHoldLaw" D (tyQ q) A) (X : SC b L xs s A) (hi : i + 6 ≤ L) (hk : k < 64) (R : R3 nf nb k σ τ) (nx : ∀ σ' τ' : St, R3 nf nb (k + 1) σ' τ' → ∀ ls : Array Slot, lv_has ls 4 [(3, .int (nI i)), (2, .ref (hm 0)), (1, .ref (hc 0)), (0, .ref b)] → WG p l e room_1 s m args below meth c D A 100 200000 Q (wL hc hm q nf nb σ' τ') (F0 m 903 ls [])) (ls : Array Slot) (hl : lv_has ls 4 [(3, .int (nI i)), (2, .ref (hm 0)), (1, .ref (hc 0)), (0, .ref b)]) : WG p l e room_1 s m args below meth c D A 100 200000 Q (wL hc hm q nf nb σ τ) (F0 m 218 ls []) := by
  refine s_aload_n C dL_law_218 rfl (lv_at hl 2 rfl) ?_
  refine s_aload_n C dL_law_219 rfl (lv_at hl 3 rfl) ?_
  refine s_iload_n C dL_law_220 rfl (lv_at hl 0 rfl) ?_
  refine s_iconst (v := (1 : Int32)) C dL_law_221 (by decide) ?_
  refine s_iadd C dL_law_222 ?_
  refine s_sld C X (i + 1) (nI_add i 1) (by omega) dL_law_223 ?_
  refine s_aload_n C dL_law_224 rfl (lv_at hl 3 rfl) ?_
  refine s_iload_n C dL_law_225 rfl (lv_at hl 0 rfl) ?_
  refine s_iconst (v := (2 : Int32)) C dL_law_226 (by decide) ?_
  refine s_iadd C dL_law_227 ?_
  refine s_sld C X (i + 2) (nI_add i 2) (by omega) dL_law_228 ?_
  refine s_aload_n C dL_law_229 rfl (lv_at hl 3 rfl) ?_
  refine s_iload_n C dL_law_230 rfl (lv_at hl 0 rfl) ?_
  refine s_iconst (v := (3 : Int32)) C dL_law_231 (by decide) ?_
  refine s_iadd C dL_law_232 ?_
  refine s_sld C X (i + 3) (nI_add i 3) (by omega) dL_law_233 ?_
  refine s_i2l C dL_law_234 ?_
  refine s_bipush (v := (32 : Int32)) C dL_law_235 (by decide) ?_
  refine s_lshl C dL_law_237 ?_
  refine s_aload_n C dL_law_238 rfl (lv_at hl 3 rfl) ?_
  refine s_iload_n C dL_law_239 rfl (lv_at hl 0 rfl) ?_
  refine s_iconst (v := (4 : Int32)) C dL_law_240 (by decide) ?_
  refine s_iadd C dL_law_241 ?_
  refine s_sld C X (i + 4) (nI_add i 4) (by omega) dL_law_242 ?_
  refine s_i2l C dL_law_243 ?_
  refine s_ldc2 C dL_law_244 wd_4_224 ?_
  refine s_land C dL_law_247 ?_
  refine s_lor C dL_law_248 ?_
  refine s_aload_n C dL_law_249 rfl (lv_at hl 3 rfl) ?_
  refine s_iload_n C dL_law_250 rfl (lv_at hl 0 rfl) ?_
  refine s_iconst (v := (5 : Int32)) C dL_law_251 (by decide) ?_
  refine s_iadd C dL_law_252 ?_
  refine s_sld C X (i + 5) (nI_add i 5) (by omega) dL_law_253 ?_
  obtain ⟨r, σ2, τ2, y1, y2, R2⟩ := q_write (N := 5000) R hk (by decide) (xs (i + 1)) (xs (i + 2)) (((Int32.toInt64 (xs (i + 3))) <<< (Int32.toInt64 (32 : Int32) &&& 63)) ||| ((Int32.toInt64 (xs (i + 4))) &&& (4294967295 : Int64))) (xs (i + 5))
  refine s_callIV (As := [.int (xs (i + 1)), .int (xs (i + 2)), .long ((((Int32.toInt64 (xs (i + 3))) <<< (Int32.toInt64 (32 : Int32) &&& 63)) ||| ((Int32.toInt64 (xs (i + 4))) &&& (4294967295 : Int64)))), .int (xs (i + 5))]) (rest := []) (ws2 := (wL hc hm q nf nb σ2 τ)) C (c_X6_write l D q hc 5000 nf nb (xs (i + 1)) (xs (i + 2)) (((Int32.toInt64 (xs (i + 3))) <<< (Int32.toInt64 (32 : Int32) &&& 63)) ||| ((Int32.toInt64 (xs (i + 4))) &&& (4294967295 : Int64))) (xs (i + 5)) σ (r, σ2) y1) ⟨wd_2_195, wd_2_196, wd_2_197, wd_1_1, wd_2_198, cx_X6_write, Nat.le_of_ble_eq_true rfl, Nat.le_of_ble_eq_true rfl⟩ 0 (ci := 6) rfl rfl rfl (sbC hc hm q nf nb σ σ2 τ) rfl hl.1 rfl (Nat.le_of_ble_eq_true rfl) dL_law_254 (Nat.le_of_ble_eq_true rfl) (Nat.le_of_ble_eq_true rfl) ?_
  refine s_aload_n C dL_law_257 rfl (lv_at hl 1 rfl) ?_
  refine s_aload_n C dL_law_258 rfl (lv_at hl 3 rfl) ?_
  refine s_iload_n C dL_law_259 rfl (lv_at hl 0 rfl) ?_
  refine s_iconst (v := (1 : Int32)) C dL_law_260 (by decide) ?_
  refine s_iadd C dL_law_261 ?_
  refine s_sld C X (i + 1) (nI_add i 1) (by omega) dL_law_262 ?_
  refine s_aload_n C dL_law_263 rfl (lv_at hl 3 rfl) ?_
  refine s_iload_n C dL_law_264 rfl (lv_at hl 0 rfl) ?_
  refine s_iconst (v := (2 : Int32)) C dL_law_265 (by decide) ?_
  refine s_iadd C dL_law_266 ?_
  refine s_sld C X (i + 2) (nI_add i 2) (by omega) dL_law_267 ?_
  refine s_aload_n C dL_law_268 rfl (lv_at hl 3 rfl) ?_
  refine s_iload_n C dL_law_269 rfl (lv_at hl 0 rfl) ?_
  refine s_iconst (v := (3 : Int32)) C dL_law_270 (by decide) ?_
  refine s_iadd C dL_law_271 ?_
  refine s_sld C X (i + 3) (nI_add i 3) (by omega) dL_law_272 ?_
  refine s_i2l C dL_law_273 ?_
  refine s_bipush (v := (32 : Int32)) C dL_law_274 (by decide) ?_
  refine s_lshl C dL_law_276 ?_
  refine s_aload_n C dL_law_277 rfl (lv_at hl 3 rfl) ?_
  refine s_iload_n C dL_law_278 rfl (lv_at hl 0 rfl) ?_
  refine s_iconst (v := (4 : Int32)) C dL_law_279 (by decide) ?_
  refine s_iadd C dL_law_280 ?_
  refine s_sld C X (i + 4) (nI_add i 4) (by omega) dL_law_281 ?_
  refine s_i2l C dL_law_282 ?_
  refine s_ldc2 C dL_law_283 wd_4_224 ?_
  refine s_land C dL_law_286 ?_
  refine s_lor C dL_law_287 ?_
  refine s_aload_n C dL_law_288 rfl (lv_at hl 3 rfl) ?_
  refine s_iload_n C dL_law_289 rfl (lv_at hl 0 rfl) ?_
  refine s_iconst (v := (5 : Int32)) C dL_law_290 (by decide) ?_
  refine s_iadd C dL_law_291 ?_
  refine s_sld C X (i + 5) (nI_add i 5) (by omega) dL_law_292 ?_
  refine s_callIV (As := [.int (xs (i + 1)), .int (xs (i + 2)), .long ((((Int32.toInt64 (xs (i + 3))) <<< (Int32.toInt64 (32 : Int32) &&& 63)) ||| ((Int32.toInt64 (xs (i + 4))) &&& (4294967295 : Int64)))), .int (xs (i + 5))]) (rest := [.int r]) (ws2 := (wL hc hm q nf nb σ2 τ2)) C (c_X7_write l D q hm 5000 (xs (i + 1)) (xs (i + 2)) (((Int32.toInt64 (xs (i + 3))) <<< (Int32.toInt64 (32 : Int32) &&& 63)) ||| ((Int32.toInt64 (xs (i + 4))) &&& (4294967295 : Int64))) (xs (i + 5)) τ (r, τ2) y2) ⟨wd_4_89, wd_4_90, wd_4_91, wd_1_10, wd_4_92, cx_X7_write, Nat.le_of_ble_eq_true rfl, Nat.le_of_ble_eq_true rfl⟩ 35 (ci := 7) rfl rfl rfl (sbM hc hm q nf nb σ2 τ τ2) rfl hl.1 rfl (Nat.le_of_ble_eq_true rfl) dL_law_293 (Nat.le_of_ble_eq_true rfl) (Nat.le_of_ble_eq_true rfl) ?_
  refine s_icmp_eq (tgt := 903) C dL_law_296 (by decide) (fun c9 => ?_) (fun c9 => absurd rfl c9)
  exact nx _ _ R2 ls hl
set_option maxHeartbeats 4000000 in
set_option maxRecDepth 20000 in
theorem lc_3 (C : CX p s m args c cL_law 4 "PageHoldLaw" D (tyQ q) A) (X : SC b L xs s A) (hi : i + 6 ≤ L) (hk : k < 64) (R : R3 nf nb k σ τ) (nx : ∀ σ' τ' : St, R3 nf nb (k + 1) σ' τ' → ∀ ls : Array Slot, lv_has ls 4 [(3, .int (nI i)), (2, .ref (hm 0)), (1, .ref (hc 0)), (0, .ref b)] → WG p l e room_1 s m args below meth c D A 100 200000 Q (wL hc hm q nf nb σ' τ') (F0 m 903 ls [])) (ls : Array Slot) (hl : lv_has ls 4 [(3, .int (nI i)), (2, .ref (hm 0)), (1, .ref (hc 0)), (0, .ref b)]) : WG p l e room_1 s m args below meth c D A 100 200000 Q (wL hc hm q nf nb σ τ) (F0 m 301 ls []) := by
  refine s_aload_n C dL_law_301 rfl (lv_at hl 2 rfl) ?_
  refine s_aload_n C dL_law_302 rfl (lv_at hl 3 rfl) ?_
  refine s_iload_n C dL_law_303 rfl (lv_at hl 0 rfl) ?_
  refine s_iconst (v := (1 : Int32)) C dL_law_304 (by decide) ?_
  refine s_iadd C dL_law_305 ?_
  refine s_sld C X (i + 1) (nI_add i 1) (by omega) dL_law_306 ?_
  refine s_aload_n C dL_law_307 rfl (lv_at hl 3 rfl) ?_
  refine s_iload_n C dL_law_308 rfl (lv_at hl 0 rfl) ?_
  refine s_iconst (v := (2 : Int32)) C dL_law_309 (by decide) ?_
  refine s_iadd C dL_law_310 ?_
  refine s_sld C X (i + 2) (nI_add i 2) (by omega) dL_law_311 ?_
  refine s_aload_n C dL_law_312 rfl (lv_at hl 3 rfl) ?_
  refine s_iload_n C dL_law_313 rfl (lv_at hl 0 rfl) ?_
  refine s_iconst (v := (3 : Int32)) C dL_law_314 (by decide) ?_
  refine s_iadd C dL_law_315 ?_
  refine s_sld C X (i + 3) (nI_add i 3) (by omega) dL_law_316 ?_
  refine s_aload_n C dL_law_317 rfl (lv_at hl 3 rfl) ?_
  refine s_iload_n C dL_law_318 rfl (lv_at hl 0 rfl) ?_
  refine s_iconst (v := (4 : Int32)) C dL_law_319 (by decide) ?_
  refine s_iadd C dL_law_320 ?_
  refine s_sld C X (i + 4) (nI_add i 4) (by omega) dL_law_321 ?_
  obtain ⟨r, σ2, τ2, y1, y2, R2⟩ := q_fill (N := 5000) R hk (by decide) (xs (i + 1)) (xs (i + 2)) (xs (i + 3)) (xs (i + 4))
  refine s_callIV (As := [.int (xs (i + 1)), .int (xs (i + 2)), .int (xs (i + 3)), .int (xs (i + 4))]) (rest := []) (ws2 := (wL hc hm q nf nb σ2 τ)) C (c_X6_fill l D q hc 5000 nf nb (xs (i + 1)) (xs (i + 2)) (xs (i + 3)) (xs (i + 4)) σ (r, σ2) y1) ⟨wd_2_226, wd_2_227, wd_2_228, wd_1_1, wd_2_229, cx_X6_fill, Nat.le_of_ble_eq_true rfl, Nat.le_of_ble_eq_true rfl⟩ 0 (ci := 6) rfl rfl rfl (sbC hc hm q nf nb σ σ2 τ) rfl hl.1 rfl (Nat.le_of_ble_eq_true rfl) dL_law_322 (Nat.le_of_ble_eq_true rfl) (Nat.le_of_ble_eq_true rfl) ?_
  refine s_aload_n C dL_law_325 rfl (lv_at hl 1 rfl) ?_
  refine s_aload_n C dL_law_326 rfl (lv_at hl 3 rfl) ?_
  refine s_iload_n C dL_law_327 rfl (lv_at hl 0 rfl) ?_
  refine s_iconst (v := (1 : Int32)) C dL_law_328 (by decide) ?_
  refine s_iadd C dL_law_329 ?_
  refine s_sld C X (i + 1) (nI_add i 1) (by omega) dL_law_330 ?_
  refine s_aload_n C dL_law_331 rfl (lv_at hl 3 rfl) ?_
  refine s_iload_n C dL_law_332 rfl (lv_at hl 0 rfl) ?_
  refine s_iconst (v := (2 : Int32)) C dL_law_333 (by decide) ?_
  refine s_iadd C dL_law_334 ?_
  refine s_sld C X (i + 2) (nI_add i 2) (by omega) dL_law_335 ?_
  refine s_aload_n C dL_law_336 rfl (lv_at hl 3 rfl) ?_
  refine s_iload_n C dL_law_337 rfl (lv_at hl 0 rfl) ?_
  refine s_iconst (v := (3 : Int32)) C dL_law_338 (by decide) ?_
  refine s_iadd C dL_law_339 ?_
  refine s_sld C X (i + 3) (nI_add i 3) (by omega) dL_law_340 ?_
  refine s_aload_n C dL_law_341 rfl (lv_at hl 3 rfl) ?_
  refine s_iload_n C dL_law_342 rfl (lv_at hl 0 rfl) ?_
  refine s_iconst (v := (4 : Int32)) C dL_law_343 (by decide) ?_
  refine s_iadd C dL_law_344 ?_
  refine s_sld C X (i + 4) (nI_add i 4) (by omega) dL_law_345 ?_
  refine s_callIV (As := [.int (xs (i + 1)), .int (xs (i + 2)), .int (xs (i + 3)), .int (xs (i + 4))]) (rest := [.int r]) (ws2 := (wL hc hm q nf nb σ2 τ2)) C (c_X7_fill l D q hm 5000 (xs (i + 1)) (xs (i + 2)) (xs (i + 3)) (xs (i + 4)) τ (r, τ2) y2) ⟨wd_4_113, wd_4_114, wd_4_115, wd_1_10, wd_4_116, cx_X7_fill, Nat.le_of_ble_eq_true rfl, Nat.le_of_ble_eq_true rfl⟩ 35 (ci := 7) rfl rfl rfl (sbM hc hm q nf nb σ2 τ τ2) rfl hl.1 rfl (Nat.le_of_ble_eq_true rfl) dL_law_346 (Nat.le_of_ble_eq_true rfl) (Nat.le_of_ble_eq_true rfl) ?_
  refine s_icmp_eq (tgt := 903) C dL_law_349 (by decide) (fun c9 => ?_) (fun c9 => absurd rfl c9)
  exact nx _ _ R2 ls hl
set_option maxHeartbeats 4000000 in
set_option maxRecDepth 20000 in
theorem lc_4 (C : CX p s m args c cL_law 4 "PageHoldLaw" D (tyQ q) A) (X : SC b L xs s A) (hi : i + 6 ≤ L) (hk : k < 64) (R : R3 nf nb k σ τ) (nx : ∀ σ' τ' : St, R3 nf nb (k + 1) σ' τ' → ∀ ls : Array Slot, lv_has ls 4 [(3, .int (nI i)), (2, .ref (hm 0)), (1, .ref (hc 0)), (0, .ref b)] → WG p l e room_1 s m args below meth c D A 100 200000 Q (wL hc hm q nf nb σ' τ') (F0 m 903 ls [])) (ls : Array Slot) (hl : lv_has ls 4 [(3, .int (nI i)), (2, .ref (hm 0)), (1, .ref (hc 0)), (0, .ref b)]) : WG p l e room_1 s m args below meth c D A 100 200000 Q (wL hc hm q nf nb σ τ) (F0 m 354 ls []) := by
  refine s_aload_n C dL_law_354 rfl (lv_at hl 2 rfl) ?_
  refine s_aload_n C dL_law_355 rfl (lv_at hl 3 rfl) ?_
  refine s_iload_n C dL_law_356 rfl (lv_at hl 0 rfl) ?_
  refine s_iconst (v := (1 : Int32)) C dL_law_357 (by decide) ?_
  refine s_iadd C dL_law_358 ?_
  refine s_sld C X (i + 1) (nI_add i 1) (by omega) dL_law_359 ?_
  refine s_aload_n C dL_law_360 rfl (lv_at hl 3 rfl) ?_
  refine s_iload_n C dL_law_361 rfl (lv_at hl 0 rfl) ?_
  refine s_iconst (v := (2 : Int32)) C dL_law_362 (by decide) ?_
  refine s_iadd C dL_law_363 ?_
  refine s_sld C X (i + 2) (nI_add i 2) (by omega) dL_law_364 ?_
  obtain ⟨r, σ2, τ2, y1, y2, R2⟩ := q_truncate (N := 5000) R hk (by decide) (xs (i + 1)) (xs (i + 2))
  refine s_callIV (As := [.int (xs (i + 1)), .int (xs (i + 2))]) (rest := []) (ws2 := (wL hc hm q nf nb σ2 τ)) C (c_X6_truncate l D q hc 5000 nf nb (xs (i + 1)) (xs (i + 2)) σ (r, σ2) y1) ⟨wd_2_230, wd_2_231, wd_2_232, wd_1_1, wd_2_233, cx_X6_truncate, Nat.le_of_ble_eq_true rfl, Nat.le_of_ble_eq_true rfl⟩ 0 (ci := 6) rfl rfl rfl (sbC hc hm q nf nb σ σ2 τ) rfl hl.1 rfl (Nat.le_of_ble_eq_true rfl) dL_law_365 (Nat.le_of_ble_eq_true rfl) (Nat.le_of_ble_eq_true rfl) ?_
  refine s_aload_n C dL_law_368 rfl (lv_at hl 1 rfl) ?_
  refine s_aload_n C dL_law_369 rfl (lv_at hl 3 rfl) ?_
  refine s_iload_n C dL_law_370 rfl (lv_at hl 0 rfl) ?_
  refine s_iconst (v := (1 : Int32)) C dL_law_371 (by decide) ?_
  refine s_iadd C dL_law_372 ?_
  refine s_sld C X (i + 1) (nI_add i 1) (by omega) dL_law_373 ?_
  refine s_aload_n C dL_law_374 rfl (lv_at hl 3 rfl) ?_
  refine s_iload_n C dL_law_375 rfl (lv_at hl 0 rfl) ?_
  refine s_iconst (v := (2 : Int32)) C dL_law_376 (by decide) ?_
  refine s_iadd C dL_law_377 ?_
  refine s_sld C X (i + 2) (nI_add i 2) (by omega) dL_law_378 ?_
  refine s_callIV (As := [.int (xs (i + 1)), .int (xs (i + 2))]) (rest := [.int r]) (ws2 := (wL hc hm q nf nb σ2 τ2)) C (c_X7_truncate l D q hm 5000 (xs (i + 1)) (xs (i + 2)) τ (r, τ2) y2) ⟨wd_4_117, wd_4_118, wd_4_119, wd_1_10, wd_4_120, cx_X7_truncate, Nat.le_of_ble_eq_true rfl, Nat.le_of_ble_eq_true rfl⟩ 35 (ci := 7) rfl rfl rfl (sbM hc hm q nf nb σ2 τ τ2) rfl hl.1 rfl (Nat.le_of_ble_eq_true rfl) dL_law_379 (Nat.le_of_ble_eq_true rfl) (Nat.le_of_ble_eq_true rfl) ?_
  refine s_icmp_eq (tgt := 903) C dL_law_382 (by decide) (fun c9 => ?_) (fun c9 => absurd rfl c9)
  exact nx _ _ R2 ls hl
set_option maxHeartbeats 4000000 in
set_option maxRecDepth 20000 in
theorem lc_5 (C : CX p s m args c cL_law 4 "PageHoldLaw" D (tyQ q) A) (X : SC b L xs s A) (hi : i + 6 ≤ L) (hk : k < 64) (R : R3 nf nb k σ τ) (nx : ∀ σ' τ' : St, R3 nf nb (k + 1) σ' τ' → ∀ ls : Array Slot, lv_has ls 4 [(3, .int (nI i)), (2, .ref (hm 0)), (1, .ref (hc 0)), (0, .ref b)] → WG p l e room_1 s m args below meth c D A 100 200000 Q (wL hc hm q nf nb σ' τ') (F0 m 903 ls [])) (ls : Array Slot) (hl : lv_has ls 4 [(3, .int (nI i)), (2, .ref (hm 0)), (1, .ref (hc 0)), (0, .ref b)]) : WG p l e room_1 s m args below meth c D A 100 200000 Q (wL hc hm q nf nb σ τ) (F0 m 387 ls []) := by
  refine s_aload_n C dL_law_387 rfl (lv_at hl 2 rfl) ?_
  refine s_aload_n C dL_law_388 rfl (lv_at hl 3 rfl) ?_
  refine s_iload_n C dL_law_389 rfl (lv_at hl 0 rfl) ?_
  refine s_iconst (v := (1 : Int32)) C dL_law_390 (by decide) ?_
  refine s_iadd C dL_law_391 ?_
  refine s_sld C X (i + 1) (nI_add i 1) (by omega) dL_law_392 ?_
  refine s_aload_n C dL_law_393 rfl (lv_at hl 3 rfl) ?_
  refine s_iload_n C dL_law_394 rfl (lv_at hl 0 rfl) ?_
  refine s_iconst (v := (2 : Int32)) C dL_law_395 (by decide) ?_
  refine s_iadd C dL_law_396 ?_
  refine s_sld C X (i + 2) (nI_add i 2) (by omega) dL_law_397 ?_
  refine s_aload_n C dL_law_398 rfl (lv_at hl 3 rfl) ?_
  refine s_iload_n C dL_law_399 rfl (lv_at hl 0 rfl) ?_
  refine s_iconst (v := (3 : Int32)) C dL_law_400 (by decide) ?_
  refine s_iadd C dL_law_401 ?_
  refine s_sld C X (i + 3) (nI_add i 3) (by omega) dL_law_402 ?_
  obtain ⟨r, σ2, τ2, y1, y2, R2⟩ := q_punch (N := 5000) R (by decide) (xs (i + 1)) (xs (i + 2)) (xs (i + 3))
  refine s_callIV (As := [.int (xs (i + 1)), .int (xs (i + 2)), .int (xs (i + 3))]) (rest := []) (ws2 := (wL hc hm q nf nb σ2 τ)) C (c_X6_punch l D q hc 5000 nf nb (xs (i + 1)) (xs (i + 2)) (xs (i + 3)) σ (r, σ2) y1) ⟨wd_3_6, wd_3_7, wd_3_8, wd_1_1, wd_3_9, cx_X6_punch, Nat.le_of_ble_eq_true rfl, Nat.le_of_ble_eq_true rfl⟩ 0 (ci := 6) rfl rfl rfl (sbC hc hm q nf nb σ σ2 τ) rfl hl.1 rfl (Nat.le_of_ble_eq_true rfl) dL_law_403 (Nat.le_of_ble_eq_true rfl) (Nat.le_of_ble_eq_true rfl) ?_
  refine s_aload_n C dL_law_406 rfl (lv_at hl 1 rfl) ?_
  refine s_aload_n C dL_law_407 rfl (lv_at hl 3 rfl) ?_
  refine s_iload_n C dL_law_408 rfl (lv_at hl 0 rfl) ?_
  refine s_iconst (v := (1 : Int32)) C dL_law_409 (by decide) ?_
  refine s_iadd C dL_law_410 ?_
  refine s_sld C X (i + 1) (nI_add i 1) (by omega) dL_law_411 ?_
  refine s_aload_n C dL_law_412 rfl (lv_at hl 3 rfl) ?_
  refine s_iload_n C dL_law_413 rfl (lv_at hl 0 rfl) ?_
  refine s_iconst (v := (2 : Int32)) C dL_law_414 (by decide) ?_
  refine s_iadd C dL_law_415 ?_
  refine s_sld C X (i + 2) (nI_add i 2) (by omega) dL_law_416 ?_
  refine s_aload_n C dL_law_417 rfl (lv_at hl 3 rfl) ?_
  refine s_iload_n C dL_law_418 rfl (lv_at hl 0 rfl) ?_
  refine s_iconst (v := (3 : Int32)) C dL_law_419 (by decide) ?_
  refine s_iadd C dL_law_420 ?_
  refine s_sld C X (i + 3) (nI_add i 3) (by omega) dL_law_421 ?_
  refine s_callIV (As := [.int (xs (i + 1)), .int (xs (i + 2)), .int (xs (i + 3))]) (rest := [.int r]) (ws2 := (wL hc hm q nf nb σ2 τ2)) C (c_X7_punch l D q hm 5000 (xs (i + 1)) (xs (i + 2)) (xs (i + 3)) τ (r, τ2) y2) ⟨wd_4_125, wd_4_126, wd_4_127, wd_1_10, wd_4_128, cx_X7_punch, Nat.le_of_ble_eq_true rfl, Nat.le_of_ble_eq_true rfl⟩ 35 (ci := 7) rfl rfl rfl (sbM hc hm q nf nb σ2 τ τ2) rfl hl.1 rfl (Nat.le_of_ble_eq_true rfl) dL_law_422 (Nat.le_of_ble_eq_true rfl) (Nat.le_of_ble_eq_true rfl) ?_
  refine s_icmp_eq (tgt := 903) C dL_law_425 (by decide) (fun c9 => ?_) (fun c9 => absurd rfl c9)
  exact nx _ _ R2 ls hl
set_option maxHeartbeats 4000000 in
set_option maxRecDepth 20000 in
theorem lc_6 (C : CX p s m args c cL_law 4 "PageHoldLaw" D (tyQ q) A) (X : SC b L xs s A) (hi : i + 6 ≤ L) (hk : k < 64) (R : R3 nf nb k σ τ) (nx : ∀ σ' τ' : St, R3 nf nb (k + 1) σ' τ' → ∀ ls : Array Slot, lv_has ls 4 [(3, .int (nI i)), (2, .ref (hm 0)), (1, .ref (hc 0)), (0, .ref b)] → WG p l e room_1 s m args below meth c D A 100 200000 Q (wL hc hm q nf nb σ' τ') (F0 m 903 ls [])) (ls : Array Slot) (hl : lv_has ls 4 [(3, .int (nI i)), (2, .ref (hm 0)), (1, .ref (hc 0)), (0, .ref b)]) : WG p l e room_1 s m args below meth c D A 100 200000 Q (wL hc hm q nf nb σ τ) (F0 m 430 ls []) := by
  refine s_aload_n C dL_law_430 rfl (lv_at hl 2 rfl) ?_
  refine s_aload_n C dL_law_431 rfl (lv_at hl 3 rfl) ?_
  refine s_iload_n C dL_law_432 rfl (lv_at hl 0 rfl) ?_
  refine s_iconst (v := (1 : Int32)) C dL_law_433 (by decide) ?_
  refine s_iadd C dL_law_434 ?_
  refine s_sld C X (i + 1) (nI_add i 1) (by omega) dL_law_435 ?_
  obtain ⟨r, σ2, τ2, y1, y2, R2⟩ := q_sync (N := 5000) R (by decide) (xs (i + 1))
  refine s_callIV (As := [.int (xs (i + 1))]) (rest := []) (ws2 := (wL hc hm q nf nb σ2 τ)) C (c_X6_sync l D q hc 5000 nf nb (xs (i + 1)) σ (r, σ2) y1) ⟨wd_3_13, wd_3_14, wd_3_15, wd_1_1, wd_3_16, cx_X6_sync, Nat.le_of_ble_eq_true rfl, Nat.le_of_ble_eq_true rfl⟩ 0 (ci := 6) rfl rfl rfl (sbC hc hm q nf nb σ σ2 τ) rfl hl.1 rfl (Nat.le_of_ble_eq_true rfl) dL_law_436 (Nat.le_of_ble_eq_true rfl) (Nat.le_of_ble_eq_true rfl) ?_
  refine s_aload_n C dL_law_439 rfl (lv_at hl 1 rfl) ?_
  refine s_aload_n C dL_law_440 rfl (lv_at hl 3 rfl) ?_
  refine s_iload_n C dL_law_441 rfl (lv_at hl 0 rfl) ?_
  refine s_iconst (v := (1 : Int32)) C dL_law_442 (by decide) ?_
  refine s_iadd C dL_law_443 ?_
  refine s_sld C X (i + 1) (nI_add i 1) (by omega) dL_law_444 ?_
  refine s_callIV (As := [.int (xs (i + 1))]) (rest := [.int r]) (ws2 := (wL hc hm q nf nb σ2 τ2)) C (c_X7_sync l D q hm 5000 (xs (i + 1)) τ (r, τ2) y2) ⟨wd_4_132, wd_4_133, wd_4_134, wd_1_10, wd_4_135, cx_X7_sync, Nat.le_of_ble_eq_true rfl, Nat.le_of_ble_eq_true rfl⟩ 35 (ci := 7) rfl rfl rfl (sbM hc hm q nf nb σ2 τ τ2) rfl hl.1 rfl (Nat.le_of_ble_eq_true rfl) dL_law_445 (Nat.le_of_ble_eq_true rfl) (Nat.le_of_ble_eq_true rfl) ?_
  refine s_icmp_eq (tgt := 903) C dL_law_448 (by decide) (fun c9 => ?_) (fun c9 => absurd rfl c9)
  exact nx _ _ R2 ls hl
set_option maxHeartbeats 4000000 in
set_option maxRecDepth 20000 in
theorem lc_7 (C : CX p s m args c cL_law 4 "PageHoldLaw" D (tyQ q) A) (X : SC b L xs s A) (hi : i + 6 ≤ L) (hk : k < 64) (R : R3 nf nb k σ τ) (nx : ∀ σ' τ' : St, R3 nf nb (k + 1) σ' τ' → ∀ ls : Array Slot, lv_has ls 4 [(3, .int (nI i)), (2, .ref (hm 0)), (1, .ref (hc 0)), (0, .ref b)] → WG p l e room_1 s m args below meth c D A 100 200000 Q (wL hc hm q nf nb σ' τ') (F0 m 903 ls [])) (ls : Array Slot) (hl : lv_has ls 4 [(3, .int (nI i)), (2, .ref (hm 0)), (1, .ref (hc 0)), (0, .ref b)]) : WG p l e room_1 s m args below meth c D A 100 200000 Q (wL hc hm q nf nb σ τ) (F0 m 453 ls []) := by
  refine s_aload_n C dL_law_453 rfl (lv_at hl 2 rfl) ?_
  obtain ⟨r, σ2, τ2, y1, y2, R2⟩ := q_syncAll (N := 5000) R (by decide) 
  refine s_callIV (As := []) (rest := []) (ws2 := (wL hc hm q nf nb σ2 τ)) C (c_X6_syncAll l D q hc 5000 nf nb  σ (r, σ2) y1) ⟨wd_3_17, wd_3_18, wd_3_19, wd_1_1, wd_3_20, cx_X6_syncAll, Nat.le_of_ble_eq_true rfl, Nat.le_of_ble_eq_true rfl⟩ 0 (ci := 6) rfl rfl rfl (sbC hc hm q nf nb σ σ2 τ) rfl hl.1 rfl (Nat.le_of_ble_eq_true rfl) dL_law_454 (Nat.le_of_ble_eq_true rfl) (Nat.le_of_ble_eq_true rfl) ?_
  refine s_aload_n C dL_law_457 rfl (lv_at hl 1 rfl) ?_
  refine s_callIV (As := []) (rest := [.int r]) (ws2 := (wL hc hm q nf nb σ2 τ2)) C (c_X7_syncAll l D q hm 5000  τ (r, τ2) y2) ⟨wd_4_136, wd_4_137, wd_4_138, wd_1_10, wd_4_139, cx_X7_syncAll, Nat.le_of_ble_eq_true rfl, Nat.le_of_ble_eq_true rfl⟩ 35 (ci := 7) rfl rfl rfl (sbM hc hm q nf nb σ2 τ τ2) rfl hl.1 rfl (Nat.le_of_ble_eq_true rfl) dL_law_458 (Nat.le_of_ble_eq_true rfl) (Nat.le_of_ble_eq_true rfl) ?_
  refine s_icmp_eq (tgt := 903) C dL_law_461 (by decide) (fun c9 => ?_) (fun c9 => absurd rfl c9)
  exact nx _ _ R2 ls hl
set_option maxHeartbeats 4000000 in
set_option maxRecDepth 20000 in
theorem lc_8 (C : CX p s m args c cL_law 4 "PageHoldLaw" D (tyQ q) A) (X : SC b L xs s A) (hi : i + 6 ≤ L) (hk : k < 64) (R : R3 nf nb k σ τ) (nx : ∀ σ' τ' : St, R3 nf nb (k + 1) σ' τ' → ∀ ls : Array Slot, lv_has ls 4 [(3, .int (nI i)), (2, .ref (hm 0)), (1, .ref (hc 0)), (0, .ref b)] → WG p l e room_1 s m args below meth c D A 100 200000 Q (wL hc hm q nf nb σ' τ') (F0 m 903 ls [])) (ls : Array Slot) (hl : lv_has ls 4 [(3, .int (nI i)), (2, .ref (hm 0)), (1, .ref (hc 0)), (0, .ref b)]) : WG p l e room_1 s m args below meth c D A 100 200000 Q (wL hc hm q nf nb σ τ) (F0 m 466 ls []) := by
  refine s_aload_n C dL_law_466 rfl (lv_at hl 2 rfl) ?_
  refine s_aload_n C dL_law_467 rfl (lv_at hl 3 rfl) ?_
  refine s_iload_n C dL_law_468 rfl (lv_at hl 0 rfl) ?_
  refine s_iconst (v := (1 : Int32)) C dL_law_469 (by decide) ?_
  refine s_iadd C dL_law_470 ?_
  refine s_sld C X (i + 1) (nI_add i 1) (by omega) dL_law_471 ?_
  obtain ⟨r, σ2, τ2, y1, y2, R2⟩ := q_tick (N := 5000) R hk (by decide) (xs (i + 1))
  refine s_callIV (As := [.int (xs (i + 1))]) (rest := []) (ws2 := (wL hc hm q nf nb σ2 τ)) C (c_X6_tick l D q hc 5000 nf nb (xs (i + 1)) σ (r, σ2) y1) ⟨wd_3_33, wd_3_34, wd_3_35, wd_1_1, wd_3_36, cx_X6_tick, Nat.le_of_ble_eq_true rfl, Nat.le_of_ble_eq_true rfl⟩ 0 (ci := 6) rfl rfl rfl (sbC hc hm q nf nb σ σ2 τ) rfl hl.1 rfl (Nat.le_of_ble_eq_true rfl) dL_law_472 (Nat.le_of_ble_eq_true rfl) (Nat.le_of_ble_eq_true rfl) ?_
  refine s_aload_n C dL_law_475 rfl (lv_at hl 1 rfl) ?_
  refine s_aload_n C dL_law_476 rfl (lv_at hl 3 rfl) ?_
  refine s_iload_n C dL_law_477 rfl (lv_at hl 0 rfl) ?_
  refine s_iconst (v := (1 : Int32)) C dL_law_478 (by decide) ?_
  refine s_iadd C dL_law_479 ?_
  refine s_sld C X (i + 1) (nI_add i 1) (by omega) dL_law_480 ?_
  refine s_callIV (As := [.int (xs (i + 1))]) (rest := [.int r]) (ws2 := (wL hc hm q nf nb σ2 τ2)) C (c_X7_tick l D q hm 5000 (xs (i + 1)) τ (r, τ2) y2) ⟨wd_4_140, wd_4_141, wd_4_142, wd_1_10, wd_4_143, cx_X7_tick, Nat.le_of_ble_eq_true rfl, Nat.le_of_ble_eq_true rfl⟩ 35 (ci := 7) rfl rfl rfl (sbM hc hm q nf nb σ2 τ τ2) rfl hl.1 rfl (Nat.le_of_ble_eq_true rfl) dL_law_481 (Nat.le_of_ble_eq_true rfl) (Nat.le_of_ble_eq_true rfl) ?_
  refine s_icmp_eq (tgt := 903) C dL_law_484 (by decide) (fun c9 => ?_) (fun c9 => absurd rfl c9)
  exact nx _ _ R2 ls hl
set_option maxHeartbeats 4000000 in
set_option maxRecDepth 20000 in
theorem lc_9 (C : CX p s m args c cL_law 4 "PageHoldLaw" D (tyQ q) A) (X : SC b L xs s A) (hi : i + 6 ≤ L) (hk : k < 64) (R : R3 nf nb k σ τ) (nx : ∀ σ' τ' : St, R3 nf nb (k + 1) σ' τ' → ∀ ls : Array Slot, lv_has ls 4 [(3, .int (nI i)), (2, .ref (hm 0)), (1, .ref (hc 0)), (0, .ref b)] → WG p l e room_1 s m args below meth c D A 100 200000 Q (wL hc hm q nf nb σ' τ') (F0 m 903 ls [])) (ls : Array Slot) (hl : lv_has ls 4 [(3, .int (nI i)), (2, .ref (hm 0)), (1, .ref (hc 0)), (0, .ref b)]) : WG p l e room_1 s m args below meth c D A 100 200000 Q (wL hc hm q nf nb σ τ) (F0 m 489 ls []) := by
  refine s_aload_n C dL_law_489 rfl (lv_at hl 2 rfl) ?_
  obtain ⟨r, σ2, τ2, y1, y2, R2⟩ := q_drop (N := 5000) R hk (by decide) 
  refine s_callIV (As := []) (rest := []) (ws2 := (wL hc hm q nf nb σ2 τ)) C (c_X6_drop l D q hc 5000 nf nb  σ (r, σ2) y1) ⟨wd_3_41, wd_3_42, wd_3_43, wd_1_1, wd_3_44, cx_X6_drop, Nat.le_of_ble_eq_true rfl, Nat.le_of_ble_eq_true rfl⟩ 0 (ci := 6) rfl rfl rfl (sbC hc hm q nf nb σ σ2 τ) rfl hl.1 rfl (Nat.le_of_ble_eq_true rfl) dL_law_490 (Nat.le_of_ble_eq_true rfl) (Nat.le_of_ble_eq_true rfl) ?_
  refine s_aload_n C dL_law_493 rfl (lv_at hl 1 rfl) ?_
  refine s_callIV (As := []) (rest := [.int r]) (ws2 := (wL hc hm q nf nb σ2 τ2)) C (c_X7_drop l D q hm 5000  τ (r, τ2) y2) ⟨wd_4_144, wd_4_145, wd_4_146, wd_1_10, wd_4_147, cx_X7_drop, Nat.le_of_ble_eq_true rfl, Nat.le_of_ble_eq_true rfl⟩ 35 (ci := 7) rfl rfl rfl (sbM hc hm q nf nb σ2 τ τ2) rfl hl.1 rfl (Nat.le_of_ble_eq_true rfl) dL_law_494 (Nat.le_of_ble_eq_true rfl) (Nat.le_of_ble_eq_true rfl) ?_
  refine s_icmp_eq (tgt := 903) C dL_law_497 (by decide) (fun c9 => ?_) (fun c9 => absurd rfl c9)
  exact nx _ _ R2 ls hl
set_option maxHeartbeats 4000000 in
set_option maxRecDepth 20000 in
theorem lc_10 (C : CX p s m args c cL_law 4 "PageHoldLaw" D (tyQ q) A) (X : SC b L xs s A) (hi : i + 6 ≤ L) (hk : k < 64) (R : R3 nf nb k σ τ) (nx : ∀ σ' τ' : St, R3 nf nb (k + 1) σ' τ' → ∀ ls : Array Slot, lv_has ls 4 [(3, .int (nI i)), (2, .ref (hm 0)), (1, .ref (hc 0)), (0, .ref b)] → WG p l e room_1 s m args below meth c D A 100 200000 Q (wL hc hm q nf nb σ' τ') (F0 m 903 ls [])) (ls : Array Slot) (hl : lv_has ls 4 [(3, .int (nI i)), (2, .ref (hm 0)), (1, .ref (hc 0)), (0, .ref b)]) : WG p l e room_1 s m args below meth c D A 100 200000 Q (wL hc hm q nf nb σ τ) (F0 m 502 ls []) := by
  refine s_aload_n C dL_law_502 rfl (lv_at hl 2 rfl) ?_
  obtain ⟨r, σ2, τ2, y1, y2, R2⟩ := q_crash (N := 5000) R (by decide) 
  refine s_callIV (As := []) (rest := []) (ws2 := (wL hc hm q nf nb σ2 τ)) C (c_X6_crash l D q hc 5000 nf nb  σ (r, σ2) y1) ⟨wd_3_45, wd_3_46, wd_3_47, wd_1_1, wd_3_48, cx_X6_crash, Nat.le_of_ble_eq_true rfl, Nat.le_of_ble_eq_true rfl⟩ 0 (ci := 6) rfl rfl rfl (sbC hc hm q nf nb σ σ2 τ) rfl hl.1 rfl (Nat.le_of_ble_eq_true rfl) dL_law_503 (Nat.le_of_ble_eq_true rfl) (Nat.le_of_ble_eq_true rfl) ?_
  refine s_aload_n C dL_law_506 rfl (lv_at hl 1 rfl) ?_
  refine s_callIV (As := []) (rest := [.int r]) (ws2 := (wL hc hm q nf nb σ2 τ2)) C (c_X7_crash l D q hm 5000  τ (r, τ2) y2) ⟨wd_4_148, wd_4_149, wd_4_150, wd_1_10, wd_4_151, cx_X7_crash, Nat.le_of_ble_eq_true rfl, Nat.le_of_ble_eq_true rfl⟩ 35 (ci := 7) rfl rfl rfl (sbM hc hm q nf nb σ2 τ τ2) rfl hl.1 rfl (Nat.le_of_ble_eq_true rfl) dL_law_507 (Nat.le_of_ble_eq_true rfl) (Nat.le_of_ble_eq_true rfl) ?_
  refine s_icmp_eq (tgt := 903) C dL_law_510 (by decide) (fun c9 => ?_) (fun c9 => absurd rfl c9)
  exact nx _ _ R2 ls hl
set_option maxHeartbeats 4000000 in
set_option maxRecDepth 20000 in
theorem lc_11 (C : CX p s m args c cL_law 4 "PageHoldLaw" D (tyQ q) A) (X : SC b L xs s A) (hi : i + 6 ≤ L) (hk : k < 64) (R : R3 nf nb k σ τ) (nx : ∀ σ' τ' : St, R3 nf nb (k + 1) σ' τ' → ∀ ls : Array Slot, lv_has ls 4 [(3, .int (nI i)), (2, .ref (hm 0)), (1, .ref (hc 0)), (0, .ref b)] → WG p l e room_1 s m args below meth c D A 100 200000 Q (wL hc hm q nf nb σ' τ') (F0 m 903 ls [])) (ls : Array Slot) (hl : lv_has ls 4 [(3, .int (nI i)), (2, .ref (hm 0)), (1, .ref (hc 0)), (0, .ref b)]) : WG p l e room_1 s m args below meth c D A 100 200000 Q (wL hc hm q nf nb σ τ) (F0 m 515 ls []) := by
  refine s_aload_n C dL_law_515 rfl (lv_at hl 2 rfl) ?_
  refine s_aload_n C dL_law_516 rfl (lv_at hl 3 rfl) ?_
  refine s_iload_n C dL_law_517 rfl (lv_at hl 0 rfl) ?_
  refine s_iconst (v := (1 : Int32)) C dL_law_518 (by decide) ?_
  refine s_iadd C dL_law_519 ?_
  refine s_sld C X (i + 1) (nI_add i 1) (by omega) dL_law_520 ?_
  refine s_aload_n C dL_law_521 rfl (lv_at hl 3 rfl) ?_
  refine s_iload_n C dL_law_522 rfl (lv_at hl 0 rfl) ?_
  refine s_iconst (v := (2 : Int32)) C dL_law_523 (by decide) ?_
  refine s_iadd C dL_law_524 ?_
  refine s_sld C X (i + 2) (nI_add i 2) (by omega) dL_law_525 ?_
  have k534 : WG p l e room_1 s m args below meth c D A 100 200000 Q (wL hc hm q nf nb σ τ) (F0 m 534 ls [.int (zb (xs (i + 2))), .int (xs (i + 1)), .ref (hc 0)]) := by
    obtain ⟨r, σ2, τ2, y1, y2, R2⟩ := l_fail R (xs (i + 1)) (zb_b _)
    refine s_callIV (As := [.int (xs (i + 1)), .int (zb (xs (i + 2)))]) (rest := []) (ws2 := (wL hc hm q nf nb σ2 τ)) C (c_X6_fail l D q hc 5000 nf nb (xs (i + 1)) (zb (xs (i + 2))) σ (r, σ2) y1) ⟨wd_3_57, wd_3_58, wd_3_59, wd_1_1, wd_3_60, cx_X6_fail, Nat.le_of_ble_eq_true rfl, Nat.le_of_ble_eq_true rfl⟩ 0 (ci := 6) rfl rfl rfl (sbC hc hm q nf nb σ σ2 τ) rfl hl.1 rfl (Nat.le_of_ble_eq_true rfl) dL_law_534 (Nat.le_of_ble_eq_true rfl) (Nat.le_of_ble_eq_true rfl) ?_
    refine s_aload_n C dL_law_537 rfl (lv_at hl 1 rfl) ?_
    refine s_aload_n C dL_law_538 rfl (lv_at hl 3 rfl) ?_
    refine s_iload_n C dL_law_539 rfl (lv_at hl 0 rfl) ?_
    refine s_iconst (v := (1 : Int32)) C dL_law_540 (by decide) ?_
    refine s_iadd C dL_law_541 ?_
    refine s_sld C X (i + 1) (nI_add i 1) (by omega) dL_law_542 ?_
    refine s_aload_n C dL_law_543 rfl (lv_at hl 3 rfl) ?_
    refine s_iload_n C dL_law_544 rfl (lv_at hl 0 rfl) ?_
    refine s_iconst (v := (2 : Int32)) C dL_law_545 (by decide) ?_
    refine s_iadd C dL_law_546 ?_
    refine s_sld C X (i + 2) (nI_add i 2) (by omega) dL_law_547 ?_
    have k556 : WG p l e room_1 s m args below meth c D A 100 200000 Q (wL hc hm q nf nb σ2 τ) (F0 m 556 ls [.int (zb (xs (i + 2))), .int (xs (i + 1)), .ref (hm 0), .int r]) := by
      refine s_callIV (As := [.int (xs (i + 1)), .int (zb (xs (i + 2)))]) (rest := [.int r]) (ws2 := (wL hc hm q nf nb σ2 τ2)) C (c_X7_fail l D q hm 5000 (xs (i + 1)) (zb (xs (i + 2))) τ (r, τ2) y2) ⟨wd_4_152, wd_4_153, wd_4_154, wd_1_10, wd_4_155, cx_X7_fail, Nat.le_of_ble_eq_true rfl, Nat.le_of_ble_eq_true rfl⟩ 35 (ci := 7) rfl rfl rfl (sbM hc hm q nf nb σ2 τ τ2) rfl hl.1 rfl (Nat.le_of_ble_eq_true rfl) dL_law_556 (Nat.le_of_ble_eq_true rfl) (Nat.le_of_ble_eq_true rfl) ?_
      refine s_icmp_eq (tgt := 903) C dL_law_559 (by decide) (fun c9 => ?_) (fun c9 => absurd rfl c9)
      exact nx _ _ R2 ls hl
    refine s_if_eq (tgt := 555) C dL_law_548 (by decide) (fun c1 => ?_) (fun c1 => ?_)
    · refine s_iconst (v := (0 : Int32)) C dL_law_555 (by decide) ?_
      exact s_eq (by unfold zb; rw [if_pos c1]) k556
    · refine s_iconst (v := (1 : Int32)) C dL_law_551 (by decide) ?_
      refine s_goto (tgt := 556) C dL_law_552 (by decide) ?_
      exact s_eq (by unfold zb; rw [if_neg c1]) k556
  refine s_if_eq (tgt := 533) C dL_law_526 (by decide) (fun c1 => ?_) (fun c1 => ?_)
  · refine s_iconst (v := (0 : Int32)) C dL_law_533 (by decide) ?_
    exact s_eq (by unfold zb; rw [if_pos c1]) k534
  · refine s_iconst (v := (1 : Int32)) C dL_law_529 (by decide) ?_
    refine s_goto (tgt := 534) C dL_law_530 (by decide) ?_
    exact s_eq (by unfold zb; rw [if_neg c1]) k534
set_option maxHeartbeats 4000000 in
set_option maxRecDepth 20000 in
theorem lc_12 (C : CX p s m args c cL_law 4 "PageHoldLaw" D (tyQ q) A) (X : SC b L xs s A) (hi : i + 6 ≤ L) (hk : k < 64) (R : R3 nf nb k σ τ) (nx : ∀ σ' τ' : St, R3 nf nb (k + 1) σ' τ' → ∀ ls : Array Slot, lv_has ls 4 [(3, .int (nI i)), (2, .ref (hm 0)), (1, .ref (hc 0)), (0, .ref b)] → WG p l e room_1 s m args below meth c D A 100 200000 Q (wL hc hm q nf nb σ' τ') (F0 m 903 ls [])) (ls : Array Slot) (hl : lv_has ls 4 [(3, .int (nI i)), (2, .ref (hm 0)), (1, .ref (hc 0)), (0, .ref b)]) : WG p l e room_1 s m args below meth c D A 100 200000 Q (wL hc hm q nf nb σ τ) (F0 m 564 ls []) := by
  refine s_aload_n C dL_law_564 rfl (lv_at hl 2 rfl) ?_
  refine s_aload_n C dL_law_565 rfl (lv_at hl 3 rfl) ?_
  refine s_iload_n C dL_law_566 rfl (lv_at hl 0 rfl) ?_
  refine s_iconst (v := (1 : Int32)) C dL_law_567 (by decide) ?_
  refine s_iadd C dL_law_568 ?_
  refine s_sld C X (i + 1) (nI_add i 1) (by omega) dL_law_569 ?_
  refine s_aload_n C dL_law_570 rfl (lv_at hl 3 rfl) ?_
  refine s_iload_n C dL_law_571 rfl (lv_at hl 0 rfl) ?_
  refine s_iconst (v := (2 : Int32)) C dL_law_572 (by decide) ?_
  refine s_iadd C dL_law_573 ?_
  refine s_sld C X (i + 2) (nI_add i 2) (by omega) dL_law_574 ?_
  refine s_aload_n C dL_law_575 rfl (lv_at hl 3 rfl) ?_
  refine s_iload_n C dL_law_576 rfl (lv_at hl 0 rfl) ?_
  refine s_iconst (v := (3 : Int32)) C dL_law_577 (by decide) ?_
  refine s_iadd C dL_law_578 ?_
  refine s_sld C X (i + 3) (nI_add i 3) (by omega) dL_law_579 ?_
  have k588 : WG p l e room_1 s m args below meth c D A 100 200000 Q (wL hc hm q nf nb σ τ) (F0 m 588 ls [.int (zb (xs (i + 3))), .int (xs (i + 2)), .int (xs (i + 1)), .ref (hc 0)]) := by
    obtain ⟨r, σ2, τ2, y1, y2, R2⟩ := q_pin (N := 5000) R hk (by decide) (xs (i + 1)) (xs (i + 2)) (zb (xs (i + 3)))
    refine s_callIV (As := [.int (xs (i + 1)), .int (xs (i + 2)), .int (zb (xs (i + 3)))]) (rest := []) (ws2 := (wL hc hm q nf nb σ2 τ)) C (c_X6_pin l D q hc 5000 nf nb (xs (i + 1)) (xs (i + 2)) (zb (xs (i + 3))) σ (r, σ2) y1) ⟨wd_3_62, wd_3_63, wd_3_64, wd_1_1, wd_3_65, cx_X6_pin, Nat.le_of_ble_eq_true rfl, Nat.le_of_ble_eq_true rfl⟩ 0 (ci := 6) rfl rfl rfl (sbC hc hm q nf nb σ σ2 τ) rfl hl.1 rfl (Nat.le_of_ble_eq_true rfl) dL_law_588 (Nat.le_of_ble_eq_true rfl) (Nat.le_of_ble_eq_true rfl) ?_
    refine s_aload_n C dL_law_591 rfl (lv_at hl 1 rfl) ?_
    refine s_aload_n C dL_law_592 rfl (lv_at hl 3 rfl) ?_
    refine s_iload_n C dL_law_593 rfl (lv_at hl 0 rfl) ?_
    refine s_iconst (v := (1 : Int32)) C dL_law_594 (by decide) ?_
    refine s_iadd C dL_law_595 ?_
    refine s_sld C X (i + 1) (nI_add i 1) (by omega) dL_law_596 ?_
    refine s_aload_n C dL_law_597 rfl (lv_at hl 3 rfl) ?_
    refine s_iload_n C dL_law_598 rfl (lv_at hl 0 rfl) ?_
    refine s_iconst (v := (2 : Int32)) C dL_law_599 (by decide) ?_
    refine s_iadd C dL_law_600 ?_
    refine s_sld C X (i + 2) (nI_add i 2) (by omega) dL_law_601 ?_
    refine s_aload_n C dL_law_602 rfl (lv_at hl 3 rfl) ?_
    refine s_iload_n C dL_law_603 rfl (lv_at hl 0 rfl) ?_
    refine s_iconst (v := (3 : Int32)) C dL_law_604 (by decide) ?_
    refine s_iadd C dL_law_605 ?_
    refine s_sld C X (i + 3) (nI_add i 3) (by omega) dL_law_606 ?_
    have k615 : WG p l e room_1 s m args below meth c D A 100 200000 Q (wL hc hm q nf nb σ2 τ) (F0 m 615 ls [.int (zb (xs (i + 3))), .int (xs (i + 2)), .int (xs (i + 1)), .ref (hm 0), .int r]) := by
      refine s_callIV (As := [.int (xs (i + 1)), .int (xs (i + 2)), .int (zb (xs (i + 3)))]) (rest := [.int r]) (ws2 := (wL hc hm q nf nb σ2 τ2)) C (c_X7_pin l D q hm 5000 (xs (i + 1)) (xs (i + 2)) (zb (xs (i + 3))) τ (r, τ2) y2) ⟨wd_4_156, wd_4_157, wd_4_158, wd_1_10, wd_4_159, cx_X7_pin, Nat.le_of_ble_eq_true rfl, Nat.le_of_ble_eq_true rfl⟩ 35 (ci := 7) rfl rfl rfl (sbM hc hm q nf nb σ2 τ τ2) rfl hl.1 rfl (Nat.le_of_ble_eq_true rfl) dL_law_615 (Nat.le_of_ble_eq_true rfl) (Nat.le_of_ble_eq_true rfl) ?_
      refine s_icmp_eq (tgt := 903) C dL_law_618 (by decide) (fun c9 => ?_) (fun c9 => absurd rfl c9)
      exact nx _ _ R2 ls hl
    refine s_if_eq (tgt := 614) C dL_law_607 (by decide) (fun c1 => ?_) (fun c1 => ?_)
    · refine s_iconst (v := (0 : Int32)) C dL_law_614 (by decide) ?_
      exact s_eq (by unfold zb; rw [if_pos c1]) k615
    · refine s_iconst (v := (1 : Int32)) C dL_law_610 (by decide) ?_
      refine s_goto (tgt := 615) C dL_law_611 (by decide) ?_
      exact s_eq (by unfold zb; rw [if_neg c1]) k615
  refine s_if_eq (tgt := 587) C dL_law_580 (by decide) (fun c1 => ?_) (fun c1 => ?_)
  · refine s_iconst (v := (0 : Int32)) C dL_law_587 (by decide) ?_
    exact s_eq (by unfold zb; rw [if_pos c1]) k588
  · refine s_iconst (v := (1 : Int32)) C dL_law_583 (by decide) ?_
    refine s_goto (tgt := 588) C dL_law_584 (by decide) ?_
    exact s_eq (by unfold zb; rw [if_neg c1]) k588
set_option maxHeartbeats 4000000 in
set_option maxRecDepth 20000 in
theorem lc_13 (C : CX p s m args c cL_law 4 "PageHoldLaw" D (tyQ q) A) (X : SC b L xs s A) (hi : i + 6 ≤ L) (hk : k < 64) (R : R3 nf nb k σ τ) (nx : ∀ σ' τ' : St, R3 nf nb (k + 1) σ' τ' → ∀ ls : Array Slot, lv_has ls 4 [(3, .int (nI i)), (2, .ref (hm 0)), (1, .ref (hc 0)), (0, .ref b)] → WG p l e room_1 s m args below meth c D A 100 200000 Q (wL hc hm q nf nb σ' τ') (F0 m 903 ls [])) (ls : Array Slot) (hl : lv_has ls 4 [(3, .int (nI i)), (2, .ref (hm 0)), (1, .ref (hc 0)), (0, .ref b)]) : WG p l e room_1 s m args below meth c D A 100 200000 Q (wL hc hm q nf nb σ τ) (F0 m 623 ls []) := by
  refine s_aload_n C dL_law_623 rfl (lv_at hl 2 rfl) ?_
  refine s_aload_n C dL_law_624 rfl (lv_at hl 3 rfl) ?_
  refine s_iload_n C dL_law_625 rfl (lv_at hl 0 rfl) ?_
  refine s_iconst (v := (1 : Int32)) C dL_law_626 (by decide) ?_
  refine s_iadd C dL_law_627 ?_
  refine s_sld C X (i + 1) (nI_add i 1) (by omega) dL_law_628 ?_
  obtain ⟨r, y1, y2⟩ := l_size R (xs (i + 1))
  refine s_callIV (As := [.int (xs (i + 1))]) (rest := []) (ws2 := (wL hc hm q nf nb σ τ)) C (c_X6_size l D q hc 5000 nf nb (xs (i + 1)) σ r y1) ⟨wd_3_67, wd_3_68, wd_3_69, wd_1_1, wd_3_70, cx_X6_size, Nat.le_of_ble_eq_true rfl, Nat.le_of_ble_eq_true rfl⟩ 0 (ci := 6) rfl rfl rfl (sbC hc hm q nf nb σ σ τ) rfl hl.1 rfl (Nat.le_of_ble_eq_true rfl) dL_law_629 (Nat.le_of_ble_eq_true rfl) (Nat.le_of_ble_eq_true rfl) ?_
  refine s_aload_n C dL_law_632 rfl (lv_at hl 1 rfl) ?_
  refine s_aload_n C dL_law_633 rfl (lv_at hl 3 rfl) ?_
  refine s_iload_n C dL_law_634 rfl (lv_at hl 0 rfl) ?_
  refine s_iconst (v := (1 : Int32)) C dL_law_635 (by decide) ?_
  refine s_iadd C dL_law_636 ?_
  refine s_sld C X (i + 1) (nI_add i 1) (by omega) dL_law_637 ?_
  refine s_callIV (As := [.int (xs (i + 1))]) (rest := [.int r]) (ws2 := (wL hc hm q nf nb σ τ)) C (c_X7_size l D q hm 5000 (xs (i + 1)) τ r y2) ⟨wd_4_164, wd_4_165, wd_4_166, wd_1_10, wd_4_167, cx_X7_size, Nat.le_of_ble_eq_true rfl, Nat.le_of_ble_eq_true rfl⟩ 35 (ci := 7) rfl rfl rfl (sbM hc hm q nf nb σ τ τ) rfl hl.1 rfl (Nat.le_of_ble_eq_true rfl) dL_law_638 (Nat.le_of_ble_eq_true rfl) (Nat.le_of_ble_eq_true rfl) ?_
  refine s_icmp_eq (tgt := 903) C dL_law_641 (by decide) (fun c9 => ?_) (fun c9 => absurd rfl c9)
  exact nx _ _ R.up ls hl
set_option maxHeartbeats 4000000 in
set_option maxRecDepth 20000 in
theorem lc_14 (C : CX p s m args c cL_law 4 "PageHoldLaw" D (tyQ q) A) (X : SC b L xs s A) (hi : i + 6 ≤ L) (hk : k < 64) (R : R3 nf nb k σ τ) (nx : ∀ σ' τ' : St, R3 nf nb (k + 1) σ' τ' → ∀ ls : Array Slot, lv_has ls 4 [(3, .int (nI i)), (2, .ref (hm 0)), (1, .ref (hc 0)), (0, .ref b)] → WG p l e room_1 s m args below meth c D A 100 200000 Q (wL hc hm q nf nb σ' τ') (F0 m 903 ls [])) (ls : Array Slot) (hl : lv_has ls 4 [(3, .int (nI i)), (2, .ref (hm 0)), (1, .ref (hc 0)), (0, .ref b)]) : WG p l e room_1 s m args below meth c D A 100 200000 Q (wL hc hm q nf nb σ τ) (F0 m 646 ls []) := by
  refine s_aload_n C dL_law_646 rfl (lv_at hl 2 rfl) ?_
  refine s_aload_n C dL_law_647 rfl (lv_at hl 3 rfl) ?_
  refine s_iload_n C dL_law_648 rfl (lv_at hl 0 rfl) ?_
  refine s_iconst (v := (1 : Int32)) C dL_law_649 (by decide) ?_
  refine s_iadd C dL_law_650 ?_
  refine s_sld C X (i + 1) (nI_add i 1) (by omega) dL_law_651 ?_
  refine s_aload_n C dL_law_652 rfl (lv_at hl 3 rfl) ?_
  refine s_iload_n C dL_law_653 rfl (lv_at hl 0 rfl) ?_
  refine s_iconst (v := (2 : Int32)) C dL_law_654 (by decide) ?_
  refine s_iadd C dL_law_655 ?_
  refine s_sld C X (i + 2) (nI_add i 2) (by omega) dL_law_656 ?_
  refine s_aload_n C dL_law_657 rfl (lv_at hl 3 rfl) ?_
  refine s_iload_n C dL_law_658 rfl (lv_at hl 0 rfl) ?_
  refine s_iconst (v := (3 : Int32)) C dL_law_659 (by decide) ?_
  refine s_iadd C dL_law_660 ?_
  refine s_sld C X (i + 3) (nI_add i 3) (by omega) dL_law_661 ?_
  obtain ⟨r, y1, y2⟩ := l_page R (xs (i + 1)) (xs (i + 2)) (xs (i + 3))
  refine s_callIV (As := [.int (xs (i + 1)), .int (xs (i + 2)), .int (xs (i + 3))]) (rest := []) (ws2 := (wL hc hm q nf nb σ τ)) C (c_X6_page l D q hc 5000 nf nb (xs (i + 1)) (xs (i + 2)) (xs (i + 3)) σ r y1) ⟨wd_3_71, wd_3_72, wd_3_73, wd_1_1, wd_3_74, cx_X6_page, Nat.le_of_ble_eq_true rfl, Nat.le_of_ble_eq_true rfl⟩ 0 (ci := 6) rfl rfl rfl (sbC hc hm q nf nb σ σ τ) rfl hl.1 rfl (Nat.le_of_ble_eq_true rfl) dL_law_662 (Nat.le_of_ble_eq_true rfl) (Nat.le_of_ble_eq_true rfl) ?_
  refine s_aload_n C dL_law_665 rfl (lv_at hl 1 rfl) ?_
  refine s_aload_n C dL_law_666 rfl (lv_at hl 3 rfl) ?_
  refine s_iload_n C dL_law_667 rfl (lv_at hl 0 rfl) ?_
  refine s_iconst (v := (1 : Int32)) C dL_law_668 (by decide) ?_
  refine s_iadd C dL_law_669 ?_
  refine s_sld C X (i + 1) (nI_add i 1) (by omega) dL_law_670 ?_
  refine s_aload_n C dL_law_671 rfl (lv_at hl 3 rfl) ?_
  refine s_iload_n C dL_law_672 rfl (lv_at hl 0 rfl) ?_
  refine s_iconst (v := (2 : Int32)) C dL_law_673 (by decide) ?_
  refine s_iadd C dL_law_674 ?_
  refine s_sld C X (i + 2) (nI_add i 2) (by omega) dL_law_675 ?_
  refine s_aload_n C dL_law_676 rfl (lv_at hl 3 rfl) ?_
  refine s_iload_n C dL_law_677 rfl (lv_at hl 0 rfl) ?_
  refine s_iconst (v := (3 : Int32)) C dL_law_678 (by decide) ?_
  refine s_iadd C dL_law_679 ?_
  refine s_sld C X (i + 3) (nI_add i 3) (by omega) dL_law_680 ?_
  refine s_callIV (As := [.int (xs (i + 1)), .int (xs (i + 2)), .int (xs (i + 3))]) (rest := [.int r]) (ws2 := (wL hc hm q nf nb σ τ)) C (c_X7_page l D q hm 5000 (xs (i + 1)) (xs (i + 2)) (xs (i + 3)) τ r y2) ⟨wd_4_168, wd_4_169, wd_4_170, wd_1_10, wd_4_171, cx_X7_page, Nat.le_of_ble_eq_true rfl, Nat.le_of_ble_eq_true rfl⟩ 35 (ci := 7) rfl rfl rfl (sbM hc hm q nf nb σ τ τ) rfl hl.1 rfl (Nat.le_of_ble_eq_true rfl) dL_law_681 (Nat.le_of_ble_eq_true rfl) (Nat.le_of_ble_eq_true rfl) ?_
  refine s_icmp_eq (tgt := 903) C dL_law_684 (by decide) (fun c9 => ?_) (fun c9 => absurd rfl c9)
  exact nx _ _ R.up ls hl
set_option maxHeartbeats 4000000 in
set_option maxRecDepth 20000 in
theorem lc_15 (C : CX p s m args c cL_law 4 "PageHoldLaw" D (tyQ q) A) (X : SC b L xs s A) (hi : i + 6 ≤ L) (hk : k < 64) (R : R3 nf nb k σ τ) (nx : ∀ σ' τ' : St, R3 nf nb (k + 1) σ' τ' → ∀ ls : Array Slot, lv_has ls 4 [(3, .int (nI i)), (2, .ref (hm 0)), (1, .ref (hc 0)), (0, .ref b)] → WG p l e room_1 s m args below meth c D A 100 200000 Q (wL hc hm q nf nb σ' τ') (F0 m 903 ls [])) (ls : Array Slot) (hl : lv_has ls 4 [(3, .int (nI i)), (2, .ref (hm 0)), (1, .ref (hc 0)), (0, .ref b)]) : WG p l e room_1 s m args below meth c D A 100 200000 Q (wL hc hm q nf nb σ τ) (F0 m 689 ls []) := by
  refine s_aload_n C dL_law_689 rfl (lv_at hl 2 rfl) ?_
  refine s_aload_n C dL_law_690 rfl (lv_at hl 3 rfl) ?_
  refine s_iload_n C dL_law_691 rfl (lv_at hl 0 rfl) ?_
  refine s_iconst (v := (1 : Int32)) C dL_law_692 (by decide) ?_
  refine s_iadd C dL_law_693 ?_
  refine s_sld C X (i + 1) (nI_add i 1) (by omega) dL_law_694 ?_
  refine s_aload_n C dL_law_695 rfl (lv_at hl 3 rfl) ?_
  refine s_iload_n C dL_law_696 rfl (lv_at hl 0 rfl) ?_
  refine s_iconst (v := (2 : Int32)) C dL_law_697 (by decide) ?_
  refine s_iadd C dL_law_698 ?_
  refine s_sld C X (i + 2) (nI_add i 2) (by omega) dL_law_699 ?_
  refine s_aload_n C dL_law_700 rfl (lv_at hl 3 rfl) ?_
  refine s_iload_n C dL_law_701 rfl (lv_at hl 0 rfl) ?_
  refine s_iconst (v := (3 : Int32)) C dL_law_702 (by decide) ?_
  refine s_iadd C dL_law_703 ?_
  refine s_sld C X (i + 3) (nI_add i 3) (by omega) dL_law_704 ?_
  obtain ⟨r, y1, y2⟩ := l_next R (xs (i + 1)) (xs (i + 2)) (xs (i + 3))
  refine s_callIV (As := [.int (xs (i + 1)), .int (xs (i + 2)), .int (xs (i + 3))]) (rest := []) (ws2 := (wL hc hm q nf nb σ τ)) C (c_X6_next l D q hc 5000 nf nb (xs (i + 1)) (xs (i + 2)) (xs (i + 3)) σ r y1) ⟨wd_3_81, wd_3_82, wd_3_83, wd_1_1, wd_3_84, cx_X6_next, Nat.le_of_ble_eq_true rfl, Nat.le_of_ble_eq_true rfl⟩ 0 (ci := 6) rfl rfl rfl (sbC hc hm q nf nb σ σ τ) rfl hl.1 rfl (Nat.le_of_ble_eq_true rfl) dL_law_705 (Nat.le_of_ble_eq_true rfl) (Nat.le_of_ble_eq_true rfl) ?_
  refine s_aload_n C dL_law_708 rfl (lv_at hl 1 rfl) ?_
  refine s_aload_n C dL_law_709 rfl (lv_at hl 3 rfl) ?_
  refine s_iload_n C dL_law_710 rfl (lv_at hl 0 rfl) ?_
  refine s_iconst (v := (1 : Int32)) C dL_law_711 (by decide) ?_
  refine s_iadd C dL_law_712 ?_
  refine s_sld C X (i + 1) (nI_add i 1) (by omega) dL_law_713 ?_
  refine s_aload_n C dL_law_714 rfl (lv_at hl 3 rfl) ?_
  refine s_iload_n C dL_law_715 rfl (lv_at hl 0 rfl) ?_
  refine s_iconst (v := (2 : Int32)) C dL_law_716 (by decide) ?_
  refine s_iadd C dL_law_717 ?_
  refine s_sld C X (i + 2) (nI_add i 2) (by omega) dL_law_718 ?_
  refine s_aload_n C dL_law_719 rfl (lv_at hl 3 rfl) ?_
  refine s_iload_n C dL_law_720 rfl (lv_at hl 0 rfl) ?_
  refine s_iconst (v := (3 : Int32)) C dL_law_721 (by decide) ?_
  refine s_iadd C dL_law_722 ?_
  refine s_sld C X (i + 3) (nI_add i 3) (by omega) dL_law_723 ?_
  refine s_callIV (As := [.int (xs (i + 1)), .int (xs (i + 2)), .int (xs (i + 3))]) (rest := [.int r]) (ws2 := (wL hc hm q nf nb σ τ)) C (c_X7_next l D q hm 5000 (xs (i + 1)) (xs (i + 2)) (xs (i + 3)) τ r y2) ⟨wd_4_172, wd_4_173, wd_4_174, wd_1_10, wd_4_175, cx_X7_next, Nat.le_of_ble_eq_true rfl, Nat.le_of_ble_eq_true rfl⟩ 35 (ci := 7) rfl rfl rfl (sbM hc hm q nf nb σ τ τ) rfl hl.1 rfl (Nat.le_of_ble_eq_true rfl) dL_law_724 (Nat.le_of_ble_eq_true rfl) (Nat.le_of_ble_eq_true rfl) ?_
  refine s_icmp_eq (tgt := 903) C dL_law_727 (by decide) (fun c9 => ?_) (fun c9 => absurd rfl c9)
  exact nx _ _ R.up ls hl
set_option maxHeartbeats 4000000 in
set_option maxRecDepth 20000 in
theorem lc_16 (C : CX p s m args c cL_law 4 "PageHoldLaw" D (tyQ q) A) (X : SC b L xs s A) (hi : i + 6 ≤ L) (hk : k < 64) (R : R3 nf nb k σ τ) (nx : ∀ σ' τ' : St, R3 nf nb (k + 1) σ' τ' → ∀ ls : Array Slot, lv_has ls 4 [(3, .int (nI i)), (2, .ref (hm 0)), (1, .ref (hc 0)), (0, .ref b)] → WG p l e room_1 s m args below meth c D A 100 200000 Q (wL hc hm q nf nb σ' τ') (F0 m 903 ls [])) (ls : Array Slot) (hl : lv_has ls 4 [(3, .int (nI i)), (2, .ref (hm 0)), (1, .ref (hc 0)), (0, .ref b)]) : WG p l e room_1 s m args below meth c D A 100 200000 Q (wL hc hm q nf nb σ τ) (F0 m 732 ls []) := by
  refine s_aload_n C dL_law_732 rfl (lv_at hl 2 rfl) ?_
  refine s_aload_n C dL_law_733 rfl (lv_at hl 3 rfl) ?_
  refine s_iload_n C dL_law_734 rfl (lv_at hl 0 rfl) ?_
  refine s_iconst (v := (1 : Int32)) C dL_law_735 (by decide) ?_
  refine s_iadd C dL_law_736 ?_
  refine s_sld C X (i + 1) (nI_add i 1) (by omega) dL_law_737 ?_
  refine s_aload_n C dL_law_738 rfl (lv_at hl 3 rfl) ?_
  refine s_iload_n C dL_law_739 rfl (lv_at hl 0 rfl) ?_
  refine s_iconst (v := (2 : Int32)) C dL_law_740 (by decide) ?_
  refine s_iadd C dL_law_741 ?_
  refine s_sld C X (i + 2) (nI_add i 2) (by omega) dL_law_742 ?_
  obtain ⟨r, y1, y2⟩ := l_tree R (xs (i + 1)) (xs (i + 2))
  refine s_callIV (As := [.int (xs (i + 1)), .int (xs (i + 2))]) (rest := []) (ws2 := (wL hc hm q nf nb σ τ)) C (c_X6_tree l D q hc 5000 nf nb (xs (i + 1)) (xs (i + 2)) σ r y1) ⟨wd_3_89, wd_3_90, wd_3_91, wd_1_1, wd_3_92, cx_X6_tree, Nat.le_of_ble_eq_true rfl, Nat.le_of_ble_eq_true rfl⟩ 0 (ci := 6) rfl rfl rfl (sbC hc hm q nf nb σ σ τ) rfl hl.1 rfl (Nat.le_of_ble_eq_true rfl) dL_law_743 (Nat.le_of_ble_eq_true rfl) (Nat.le_of_ble_eq_true rfl) ?_
  refine s_aload_n C dL_law_746 rfl (lv_at hl 1 rfl) ?_
  refine s_aload_n C dL_law_747 rfl (lv_at hl 3 rfl) ?_
  refine s_iload_n C dL_law_748 rfl (lv_at hl 0 rfl) ?_
  refine s_iconst (v := (1 : Int32)) C dL_law_749 (by decide) ?_
  refine s_iadd C dL_law_750 ?_
  refine s_sld C X (i + 1) (nI_add i 1) (by omega) dL_law_751 ?_
  refine s_aload_n C dL_law_752 rfl (lv_at hl 3 rfl) ?_
  refine s_iload_n C dL_law_753 rfl (lv_at hl 0 rfl) ?_
  refine s_iconst (v := (2 : Int32)) C dL_law_754 (by decide) ?_
  refine s_iadd C dL_law_755 ?_
  refine s_sld C X (i + 2) (nI_add i 2) (by omega) dL_law_756 ?_
  refine s_callIV (As := [.int (xs (i + 1)), .int (xs (i + 2))]) (rest := [.int r]) (ws2 := (wL hc hm q nf nb σ τ)) C (c_X7_tree l D q hm 5000 (xs (i + 1)) (xs (i + 2)) τ r y2) ⟨wd_4_180, wd_4_181, wd_4_182, wd_1_10, wd_4_183, cx_X7_tree, Nat.le_of_ble_eq_true rfl, Nat.le_of_ble_eq_true rfl⟩ 35 (ci := 7) rfl rfl rfl (sbM hc hm q nf nb σ τ τ) rfl hl.1 rfl (Nat.le_of_ble_eq_true rfl) dL_law_757 (Nat.le_of_ble_eq_true rfl) (Nat.le_of_ble_eq_true rfl) ?_
  refine s_icmp_eq (tgt := 903) C dL_law_760 (by decide) (fun c9 => ?_) (fun c9 => absurd rfl c9)
  exact nx _ _ R.up ls hl
set_option maxHeartbeats 4000000 in
set_option maxRecDepth 20000 in
theorem lc_17 (C : CX p s m args c cL_law 4 "PageHoldLaw" D (tyQ q) A) (X : SC b L xs s A) (hi : i + 6 ≤ L) (hk : k < 64) (R : R3 nf nb k σ τ) (nx : ∀ σ' τ' : St, R3 nf nb (k + 1) σ' τ' → ∀ ls : Array Slot, lv_has ls 4 [(3, .int (nI i)), (2, .ref (hm 0)), (1, .ref (hc 0)), (0, .ref b)] → WG p l e room_1 s m args below meth c D A 100 200000 Q (wL hc hm q nf nb σ' τ') (F0 m 903 ls [])) (ls : Array Slot) (hl : lv_has ls 4 [(3, .int (nI i)), (2, .ref (hm 0)), (1, .ref (hc 0)), (0, .ref b)]) : WG p l e room_1 s m args below meth c D A 100 200000 Q (wL hc hm q nf nb σ τ) (F0 m 765 ls []) := by
  refine s_aload_n C dL_law_765 rfl (lv_at hl 2 rfl) ?_
  refine s_aload_n C dL_law_766 rfl (lv_at hl 3 rfl) ?_
  refine s_iload_n C dL_law_767 rfl (lv_at hl 0 rfl) ?_
  refine s_iconst (v := (1 : Int32)) C dL_law_768 (by decide) ?_
  refine s_iadd C dL_law_769 ?_
  refine s_sld C X (i + 1) (nI_add i 1) (by omega) dL_law_770 ?_
  have k779 : WG p l e room_1 s m args below meth c D A 100 200000 Q (wL hc hm q nf nb σ τ) (F0 m 779 ls [.int (zb (xs (i + 1))), .ref (hc 0)]) := by
    refine s_aload_n C dL_law_779 rfl (lv_at hl 3 rfl) ?_
    refine s_iload_n C dL_law_780 rfl (lv_at hl 0 rfl) ?_
    refine s_iconst (v := (2 : Int32)) C dL_law_781 (by decide) ?_
    refine s_iadd C dL_law_782 ?_
    refine s_sld C X (i + 2) (nI_add i 2) (by omega) dL_law_783 ?_
    obtain ⟨r, y1, y2⟩ := l_listed R (zb (xs (i + 1))) (xs (i + 2))
    refine s_callIV (As := [.int (zb (xs (i + 1))), .int (xs (i + 2))]) (rest := []) (ws2 := (wL hc hm q nf nb σ τ)) C (c_X6_listed l D q hc 5000 nf nb (zb (xs (i + 1))) (xs (i + 2)) σ r y1) ⟨wd_3_109, wd_3_110, wd_3_111, wd_1_1, wd_3_112, cx_X6_listed, Nat.le_of_ble_eq_true rfl, Nat.le_of_ble_eq_true rfl⟩ 0 (ci := 6) rfl rfl rfl (sbC hc hm q nf nb σ σ τ) rfl hl.1 rfl (Nat.le_of_ble_eq_true rfl) dL_law_784 (Nat.le_of_ble_eq_true rfl) (Nat.le_of_ble_eq_true rfl) ?_
    refine s_aload_n C dL_law_787 rfl (lv_at hl 1 rfl) ?_
    refine s_aload_n C dL_law_788 rfl (lv_at hl 3 rfl) ?_
    refine s_iload_n C dL_law_789 rfl (lv_at hl 0 rfl) ?_
    refine s_iconst (v := (1 : Int32)) C dL_law_790 (by decide) ?_
    refine s_iadd C dL_law_791 ?_
    refine s_sld C X (i + 1) (nI_add i 1) (by omega) dL_law_792 ?_
    have k801 : WG p l e room_1 s m args below meth c D A 100 200000 Q (wL hc hm q nf nb σ τ) (F0 m 801 ls [.int (zb (xs (i + 1))), .ref (hm 0), .int r]) := by
      refine s_aload_n C dL_law_801 rfl (lv_at hl 3 rfl) ?_
      refine s_iload_n C dL_law_802 rfl (lv_at hl 0 rfl) ?_
      refine s_iconst (v := (2 : Int32)) C dL_law_803 (by decide) ?_
      refine s_iadd C dL_law_804 ?_
      refine s_sld C X (i + 2) (nI_add i 2) (by omega) dL_law_805 ?_
      refine s_callIV (As := [.int (zb (xs (i + 1))), .int (xs (i + 2))]) (rest := [.int r]) (ws2 := (wL hc hm q nf nb σ τ)) C (c_X7_listed l D q hm 5000 (zb (xs (i + 1))) (xs (i + 2)) τ r y2) ⟨wd_4_196, wd_4_197, wd_4_198, wd_1_10, wd_4_199, cx_X7_listed, Nat.le_of_ble_eq_true rfl, Nat.le_of_ble_eq_true rfl⟩ 35 (ci := 7) rfl rfl rfl (sbM hc hm q nf nb σ τ τ) rfl hl.1 rfl (Nat.le_of_ble_eq_true rfl) dL_law_806 (Nat.le_of_ble_eq_true rfl) (Nat.le_of_ble_eq_true rfl) ?_
      refine s_icmp_eq (tgt := 903) C dL_law_809 (by decide) (fun c9 => ?_) (fun c9 => absurd rfl c9)
      exact nx _ _ R.up ls hl
    refine s_if_eq (tgt := 800) C dL_law_793 (by decide) (fun c1 => ?_) (fun c1 => ?_)
    · refine s_iconst (v := (0 : Int32)) C dL_law_800 (by decide) ?_
      exact s_eq (by unfold zb; rw [if_pos c1]) k801
    · refine s_iconst (v := (1 : Int32)) C dL_law_796 (by decide) ?_
      refine s_goto (tgt := 801) C dL_law_797 (by decide) ?_
      exact s_eq (by unfold zb; rw [if_neg c1]) k801
  refine s_if_eq (tgt := 778) C dL_law_771 (by decide) (fun c1 => ?_) (fun c1 => ?_)
  · refine s_iconst (v := (0 : Int32)) C dL_law_778 (by decide) ?_
    exact s_eq (by unfold zb; rw [if_pos c1]) k779
  · refine s_iconst (v := (1 : Int32)) C dL_law_774 (by decide) ?_
    refine s_goto (tgt := 779) C dL_law_775 (by decide) ?_
    exact s_eq (by unfold zb; rw [if_neg c1]) k779
set_option maxHeartbeats 4000000 in
set_option maxRecDepth 20000 in
theorem lc_18 (C : CX p s m args c cL_law 4 "PageHoldLaw" D (tyQ q) A) (X : SC b L xs s A) (hi : i + 6 ≤ L) (hk : k < 64) (R : R3 nf nb k σ τ) (nx : ∀ σ' τ' : St, R3 nf nb (k + 1) σ' τ' → ∀ ls : Array Slot, lv_has ls 4 [(3, .int (nI i)), (2, .ref (hm 0)), (1, .ref (hc 0)), (0, .ref b)] → WG p l e room_1 s m args below meth c D A 100 200000 Q (wL hc hm q nf nb σ' τ') (F0 m 903 ls [])) (ls : Array Slot) (hl : lv_has ls 4 [(3, .int (nI i)), (2, .ref (hm 0)), (1, .ref (hc 0)), (0, .ref b)]) : WG p l e room_1 s m args below meth c D A 100 200000 Q (wL hc hm q nf nb σ τ) (F0 m 814 ls []) := by
  refine s_aload_n C dL_law_814 rfl (lv_at hl 2 rfl) ?_
  refine s_aload_n C dL_law_815 rfl (lv_at hl 3 rfl) ?_
  refine s_iload_n C dL_law_816 rfl (lv_at hl 0 rfl) ?_
  refine s_iconst (v := (1 : Int32)) C dL_law_817 (by decide) ?_
  refine s_iadd C dL_law_818 ?_
  refine s_sld C X (i + 1) (nI_add i 1) (by omega) dL_law_819 ?_
  refine s_aload_n C dL_law_820 rfl (lv_at hl 3 rfl) ?_
  refine s_iload_n C dL_law_821 rfl (lv_at hl 0 rfl) ?_
  refine s_iconst (v := (2 : Int32)) C dL_law_822 (by decide) ?_
  refine s_iadd C dL_law_823 ?_
  refine s_sld C X (i + 2) (nI_add i 2) (by omega) dL_law_824 ?_
  obtain ⟨r, y1, y2⟩ := l_disk R (xs (i + 1)) (xs (i + 2))
  refine s_callIV (As := [.int (xs (i + 1)), .int (xs (i + 2))]) (rest := []) (ws2 := (wL hc hm q nf nb σ τ)) C (c_X6_disk l D q hc 5000 nf nb (xs (i + 1)) (xs (i + 2)) σ r y1) ⟨wd_3_113, wd_3_114, wd_3_115, wd_1_1, wd_3_116, cx_X6_disk, Nat.le_of_ble_eq_true rfl, Nat.le_of_ble_eq_true rfl⟩ 0 (ci := 6) rfl rfl rfl (sbC hc hm q nf nb σ σ τ) rfl hl.1 rfl (Nat.le_of_ble_eq_true rfl) dL_law_825 (Nat.le_of_ble_eq_true rfl) (Nat.le_of_ble_eq_true rfl) ?_
  refine s_aload_n C dL_law_828 rfl (lv_at hl 1 rfl) ?_
  refine s_aload_n C dL_law_829 rfl (lv_at hl 3 rfl) ?_
  refine s_iload_n C dL_law_830 rfl (lv_at hl 0 rfl) ?_
  refine s_iconst (v := (1 : Int32)) C dL_law_831 (by decide) ?_
  refine s_iadd C dL_law_832 ?_
  refine s_sld C X (i + 1) (nI_add i 1) (by omega) dL_law_833 ?_
  refine s_aload_n C dL_law_834 rfl (lv_at hl 3 rfl) ?_
  refine s_iload_n C dL_law_835 rfl (lv_at hl 0 rfl) ?_
  refine s_iconst (v := (2 : Int32)) C dL_law_836 (by decide) ?_
  refine s_iadd C dL_law_837 ?_
  refine s_sld C X (i + 2) (nI_add i 2) (by omega) dL_law_838 ?_
  refine s_callIV (As := [.int (xs (i + 1)), .int (xs (i + 2))]) (rest := [.int r]) (ws2 := (wL hc hm q nf nb σ τ)) C (c_X7_disk l D q hm 5000 (xs (i + 1)) (xs (i + 2)) τ r y2) ⟨wd_4_200, wd_4_201, wd_4_202, wd_1_10, wd_4_203, cx_X7_disk, Nat.le_of_ble_eq_true rfl, Nat.le_of_ble_eq_true rfl⟩ 35 (ci := 7) rfl rfl rfl (sbM hc hm q nf nb σ τ τ) rfl hl.1 rfl (Nat.le_of_ble_eq_true rfl) dL_law_839 (Nat.le_of_ble_eq_true rfl) (Nat.le_of_ble_eq_true rfl) ?_
  refine s_icmp_eq (tgt := 903) C dL_law_842 (by decide) (fun c9 => ?_) (fun c9 => absurd rfl c9)
  exact nx _ _ R.up ls hl
set_option maxHeartbeats 4000000 in
set_option maxRecDepth 20000 in
theorem lc_19 (C : CX p s m args c cL_law 4 "PageHoldLaw" D (tyQ q) A) (X : SC b L xs s A) (hi : i + 6 ≤ L) (hk : k < 64) (R : R3 nf nb k σ τ) (nx : ∀ σ' τ' : St, R3 nf nb (k + 1) σ' τ' → ∀ ls : Array Slot, lv_has ls 4 [(3, .int (nI i)), (2, .ref (hm 0)), (1, .ref (hc 0)), (0, .ref b)] → WG p l e room_1 s m args below meth c D A 100 200000 Q (wL hc hm q nf nb σ' τ') (F0 m 903 ls [])) (ls : Array Slot) (hl : lv_has ls 4 [(3, .int (nI i)), (2, .ref (hm 0)), (1, .ref (hc 0)), (0, .ref b)]) : WG p l e room_1 s m args below meth c D A 100 200000 Q (wL hc hm q nf nb σ τ) (F0 m 847 ls []) := by
  refine s_aload_n C dL_law_847 rfl (lv_at hl 2 rfl) ?_
  refine s_aload_n C dL_law_848 rfl (lv_at hl 3 rfl) ?_
  refine s_iload_n C dL_law_849 rfl (lv_at hl 0 rfl) ?_
  refine s_iconst (v := (1 : Int32)) C dL_law_850 (by decide) ?_
  refine s_iadd C dL_law_851 ?_
  refine s_sld C X (i + 1) (nI_add i 1) (by omega) dL_law_852 ?_
  refine s_aload_n C dL_law_853 rfl (lv_at hl 3 rfl) ?_
  refine s_iload_n C dL_law_854 rfl (lv_at hl 0 rfl) ?_
  refine s_iconst (v := (2 : Int32)) C dL_law_855 (by decide) ?_
  refine s_iadd C dL_law_856 ?_
  refine s_sld C X (i + 2) (nI_add i 2) (by omega) dL_law_857 ?_
  obtain ⟨r, y1, y2⟩ := l_run R (xs (i + 1)) (xs (i + 2))
  refine s_callIV (As := [.int (xs (i + 1)), .int (xs (i + 2))]) (rest := []) (ws2 := (wL hc hm q nf nb σ τ)) C (c_X6_run l D q hc 5000 nf nb (xs (i + 1)) (xs (i + 2)) σ r y1) ⟨wd_3_117, wd_3_118, wd_3_119, wd_1_1, wd_3_120, cx_X6_run, Nat.le_of_ble_eq_true rfl, Nat.le_of_ble_eq_true rfl⟩ 0 (ci := 6) rfl rfl rfl (sbC hc hm q nf nb σ σ τ) rfl hl.1 rfl (Nat.le_of_ble_eq_true rfl) dL_law_858 (Nat.le_of_ble_eq_true rfl) (Nat.le_of_ble_eq_true rfl) ?_
  refine s_aload_n C dL_law_861 rfl (lv_at hl 1 rfl) ?_
  refine s_aload_n C dL_law_862 rfl (lv_at hl 3 rfl) ?_
  refine s_iload_n C dL_law_863 rfl (lv_at hl 0 rfl) ?_
  refine s_iconst (v := (1 : Int32)) C dL_law_864 (by decide) ?_
  refine s_iadd C dL_law_865 ?_
  refine s_sld C X (i + 1) (nI_add i 1) (by omega) dL_law_866 ?_
  refine s_aload_n C dL_law_867 rfl (lv_at hl 3 rfl) ?_
  refine s_iload_n C dL_law_868 rfl (lv_at hl 0 rfl) ?_
  refine s_iconst (v := (2 : Int32)) C dL_law_869 (by decide) ?_
  refine s_iadd C dL_law_870 ?_
  refine s_sld C X (i + 2) (nI_add i 2) (by omega) dL_law_871 ?_
  refine s_callIV (As := [.int (xs (i + 1)), .int (xs (i + 2))]) (rest := [.int r]) (ws2 := (wL hc hm q nf nb σ τ)) C (c_X7_run l D q hm 5000 (xs (i + 1)) (xs (i + 2)) τ r y2) ⟨wd_4_204, wd_4_205, wd_4_206, wd_1_10, wd_4_207, cx_X7_run, Nat.le_of_ble_eq_true rfl, Nat.le_of_ble_eq_true rfl⟩ 35 (ci := 7) rfl rfl rfl (sbM hc hm q nf nb σ τ τ) rfl hl.1 rfl (Nat.le_of_ble_eq_true rfl) dL_law_872 (Nat.le_of_ble_eq_true rfl) (Nat.le_of_ble_eq_true rfl) ?_
  refine s_icmp_eq (tgt := 903) C dL_law_875 (by decide) (fun c9 => ?_) (fun c9 => absurd rfl c9)
  exact nx _ _ R.up ls hl
set_option maxHeartbeats 4000000 in
set_option maxRecDepth 20000 in
theorem lc_20 (C : CX p s m args c cL_law 4 "PageHoldLaw" D (tyQ q) A) (X : SC b L xs s A) (hi : i + 6 ≤ L) (hk : k < 64) (R : R3 nf nb k σ τ) (nx : ∀ σ' τ' : St, R3 nf nb (k + 1) σ' τ' → ∀ ls : Array Slot, lv_has ls 4 [(3, .int (nI i)), (2, .ref (hm 0)), (1, .ref (hc 0)), (0, .ref b)] → WG p l e room_1 s m args below meth c D A 100 200000 Q (wL hc hm q nf nb σ' τ') (F0 m 903 ls [])) (ls : Array Slot) (hl : lv_has ls 4 [(3, .int (nI i)), (2, .ref (hm 0)), (1, .ref (hc 0)), (0, .ref b)]) : WG p l e room_1 s m args below meth c D A 100 200000 Q (wL hc hm q nf nb σ τ) (F0 m 880 ls []) := by
  refine s_aload_n C dL_law_880 rfl (lv_at hl 2 rfl) ?_
  refine s_aload_n C dL_law_881 rfl (lv_at hl 3 rfl) ?_
  refine s_iload_n C dL_law_882 rfl (lv_at hl 0 rfl) ?_
  refine s_iconst (v := (1 : Int32)) C dL_law_883 (by decide) ?_
  refine s_iadd C dL_law_884 ?_
  refine s_sld C X (i + 1) (nI_add i 1) (by omega) dL_law_885 ?_
  obtain ⟨r, y1, y2⟩ := l_told R (xs (i + 1))
  refine s_callIV (As := [.int (xs (i + 1))]) (rest := []) (ws2 := (wL hc hm q nf nb σ τ)) C (c_X6_told l D q hc 5000 nf nb (xs (i + 1)) σ r y1) ⟨wd_3_121, wd_3_122, wd_3_123, wd_1_1, wd_3_124, cx_X6_told, Nat.le_of_ble_eq_true rfl, Nat.le_of_ble_eq_true rfl⟩ 0 (ci := 6) rfl rfl rfl (sbC hc hm q nf nb σ σ τ) rfl hl.1 rfl (Nat.le_of_ble_eq_true rfl) dL_law_886 (Nat.le_of_ble_eq_true rfl) (Nat.le_of_ble_eq_true rfl) ?_
  refine s_aload_n C dL_law_889 rfl (lv_at hl 1 rfl) ?_
  refine s_aload_n C dL_law_890 rfl (lv_at hl 3 rfl) ?_
  refine s_iload_n C dL_law_891 rfl (lv_at hl 0 rfl) ?_
  refine s_iconst (v := (1 : Int32)) C dL_law_892 (by decide) ?_
  refine s_iadd C dL_law_893 ?_
  refine s_sld C X (i + 1) (nI_add i 1) (by omega) dL_law_894 ?_
  refine s_callIV (As := [.int (xs (i + 1))]) (rest := [.int r]) (ws2 := (wL hc hm q nf nb σ τ)) C (c_X7_told l D q hm 5000 (xs (i + 1)) τ r y2) ⟨wd_4_208, wd_4_209, wd_4_210, wd_1_10, wd_4_211, cx_X7_told, Nat.le_of_ble_eq_true rfl, Nat.le_of_ble_eq_true rfl⟩ 35 (ci := 7) rfl rfl rfl (sbM hc hm q nf nb σ τ τ) rfl hl.1 rfl (Nat.le_of_ble_eq_true rfl) dL_law_895 (Nat.le_of_ble_eq_true rfl) (Nat.le_of_ble_eq_true rfl) ?_
  refine s_icmp_eq (tgt := 903) C dL_law_898 (by decide) (fun c9 => ?_) (fun c9 => absurd rfl c9)
  exact nx _ _ R.up ls hl
end LC
