/-! THE LAW: its cases -/
section LC
variable {p : Program} {l : Launch} {e : Env} {s : State} {m : MethodId} {below : List Frame} {meth : Method} {c : Code} {H : Heap} {locs : List Loc} {cells slots : Nat} {Q : State → Prop}
variable {ls : Array Slot} {D : va_G} {G : z_G} {b L : Nat} {xs : Nat → Int32} {BC i B : Nat} {dc dm : Dt}
set_option maxHeartbeats 4000000 in
set_option maxRecDepth 100000 in
theorem lw_write (h0 : LEn p s m c D G b L xs BC) (hS : LSt D G s BC dc dm H locs) (hl : lv_has ls 4 (llv b BC i)) (hi : i + 4 ≤ L) (hcl : cells ≤ 600000 ∧ slots ≤ 7302250) (hB : B + 100 < 2 ^ 31) (hR : Rel dc dm B)
    (next : ∀ (dc1 dm1 : Dt) (H1 : Heap) (locs1 : List Loc), Rel dc1 dm1 (B + 99) → LSt D G s BC dc1 dm1 H1 locs1 → W p l e room_1 s m #[Value.ref b] below meth c H1 locs1 cells slots Q (F0 m 1003 ls [])) : W p l e room_1 s m #[Value.ref b] below meth c H locs cells slots Q (F0 m 160 ls []) := by
  obtain ⟨hx, hb, hml, hown, hts, hK, hX, hbl, hBC, hL⟩ := id h0
  obtain ⟨r, dc1, dm1, e1, e2, hR1⟩ := p_write hR (xs (i + 1))
  refine lv_aload_n hx hb dL_law_160 rfl (lv_at hl 2 rfl) ?_
  refine l_arg (j := 1) h0 hS hl (by omega) (by decide) dL_law_161 dL_law_162 dL_law_163 dL_law_164 dL_law_165 ?_
  refine lc_C (As := [.int (xs (i + 1))]) (rest := []) h0 hS (kX5_write (ad := aC BC) (dC_all BC) e1) giL_13 ⟨rfl, rfl⟩ ndL_13 ⟨(Nat.le_of_ble_eq_true rfl), (Nat.le_of_ble_eq_true rfl)⟩ rfl hl.1 rfl (Nat.le_of_ble_eq_true rfl) hcl dL_law_166 (fun H locs hS => ?_)
  refine lv_aload_n hx hb dL_law_169 rfl (lv_at hl 1 rfl) ?_
  refine l_arg (j := 1) h0 hS hl (by omega) (by decide) dL_law_170 dL_law_171 dL_law_172 dL_law_173 dL_law_174 ?_
  refine lc_M (As := [.int (xs (i + 1))]) (rest := [.int r]) h0 hS (kX6_write (ad := aM BC) (dM_all BC) e2) giL_17 ⟨rfl, rfl⟩ ndL_17 ⟨(Nat.le_of_ble_eq_true rfl), (Nat.le_of_ble_eq_true rfl)⟩ rfl hl.1 rfl (Nat.le_of_ble_eq_true rfl) hcl dL_law_175 (fun H locs hS => ?_)
  refine lv_icmp_eq (tgt := 1003) hx hb dL_law_178 (by decide) (fun _ => ?_) (fun hne => absurd rfl hne)
  exact next dc1 dm1 H locs (rel_m (by omega) hR1) hS
set_option maxHeartbeats 4000000 in
set_option maxRecDepth 100000 in
theorem lw_wipe (h0 : LEn p s m c D G b L xs BC) (hS : LSt D G s BC dc dm H locs) (hl : lv_has ls 4 (llv b BC i)) (hi : i + 4 ≤ L) (hcl : cells ≤ 600000 ∧ slots ≤ 7302250) (hB : B + 100 < 2 ^ 31) (hR : Rel dc dm B)
    (next : ∀ (dc1 dm1 : Dt) (H1 : Heap) (locs1 : List Loc), Rel dc1 dm1 (B + 99) → LSt D G s BC dc1 dm1 H1 locs1 → W p l e room_1 s m #[Value.ref b] below meth c H1 locs1 cells slots Q (F0 m 1003 ls [])) : W p l e room_1 s m #[Value.ref b] below meth c H locs cells slots Q (F0 m 183 ls []) := by
  obtain ⟨hx, hb, hml, hown, hts, hK, hX, hbl, hBC, hL⟩ := id h0
  obtain ⟨r, dc1, dm1, e1, e2, hR1⟩ := p_wipe hR 
  refine lv_aload_n hx hb dL_law_183 rfl (lv_at hl 2 rfl) ?_
  refine lc_C (As := []) (rest := []) h0 hS (kX5_wipe (ad := aC BC) (dC_all BC) e1) giL_18 ⟨rfl, rfl⟩ ndL_18 ⟨(Nat.le_of_ble_eq_true rfl), (Nat.le_of_ble_eq_true rfl)⟩ rfl hl.1 rfl (Nat.le_of_ble_eq_true rfl) hcl dL_law_184 (fun H locs hS => ?_)
  refine lv_aload_n hx hb dL_law_187 rfl (lv_at hl 1 rfl) ?_
  refine lc_M (As := []) (rest := [.int r]) h0 hS (kX6_wipe (ad := aM BC) (dM_all BC) e2) giL_22 ⟨rfl, rfl⟩ ndL_22 ⟨(Nat.le_of_ble_eq_true rfl), (Nat.le_of_ble_eq_true rfl)⟩ rfl hl.1 rfl (Nat.le_of_ble_eq_true rfl) hcl dL_law_188 (fun H locs hS => ?_)
  refine lv_icmp_eq (tgt := 1003) hx hb dL_law_191 (by decide) (fun _ => ?_) (fun hne => absurd rfl hne)
  exact next dc1 dm1 H locs (rel_m (by omega) hR1) hS
set_option maxHeartbeats 4000000 in
set_option maxRecDepth 100000 in
theorem lw_fault (h0 : LEn p s m c D G b L xs BC) (hS : LSt D G s BC dc dm H locs) (hl : lv_has ls 4 (llv b BC i)) (hi : i + 4 ≤ L) (hcl : cells ≤ 600000 ∧ slots ≤ 7302250) (hB : B + 100 < 2 ^ 31) (hR : Rel dc dm B)
    (next : ∀ (dc1 dm1 : Dt) (H1 : Heap) (locs1 : List Loc), Rel dc1 dm1 (B + 99) → LSt D G s BC dc1 dm1 H1 locs1 → W p l e room_1 s m #[Value.ref b] below meth c H1 locs1 cells slots Q (F0 m 1003 ls [])) : W p l e room_1 s m #[Value.ref b] below meth c H locs cells slots Q (F0 m 196 ls []) := by
  obtain ⟨hx, hb, hml, hown, hts, hK, hX, hbl, hBC, hL⟩ := id h0
  obtain ⟨r, dc1, dm1, e1, e2, hR1⟩ := p_fault hR 
  refine lv_aload_n hx hb dL_law_196 rfl (lv_at hl 2 rfl) ?_
  refine lc_C (As := []) (rest := []) h0 hS (kX5_fault (ad := aC BC) (dC_all BC) e1) giL_23 ⟨rfl, rfl⟩ ndL_23 ⟨(Nat.le_of_ble_eq_true rfl), (Nat.le_of_ble_eq_true rfl)⟩ rfl hl.1 rfl (Nat.le_of_ble_eq_true rfl) hcl dL_law_197 (fun H locs hS => ?_)
  refine lv_aload_n hx hb dL_law_200 rfl (lv_at hl 1 rfl) ?_
  refine lc_M (As := []) (rest := [.int r]) h0 hS (kX6_fault (ad := aM BC) (dM_all BC) e2) giL_26 ⟨rfl, rfl⟩ ndL_26 ⟨(Nat.le_of_ble_eq_true rfl), (Nat.le_of_ble_eq_true rfl)⟩ rfl hl.1 rfl (Nat.le_of_ble_eq_true rfl) hcl dL_law_201 (fun H locs hS => ?_)
  refine lv_icmp_eq (tgt := 1003) hx hb dL_law_204 (by decide) (fun _ => ?_) (fun hne => absurd rfl hne)
  exact next dc1 dm1 H locs (rel_m (by omega) hR1) hS
set_option maxHeartbeats 4000000 in
set_option maxRecDepth 100000 in
theorem lw_task (h0 : LEn p s m c D G b L xs BC) (hS : LSt D G s BC dc dm H locs) (hl : lv_has ls 4 (llv b BC i)) (hi : i + 4 ≤ L) (hcl : cells ≤ 600000 ∧ slots ≤ 7302250) (hB : B + 100 < 2 ^ 31) (hR : Rel dc dm B)
    (next : ∀ (dc1 dm1 : Dt) (H1 : Heap) (locs1 : List Loc), Rel dc1 dm1 (B + 99) → LSt D G s BC dc1 dm1 H1 locs1 → W p l e room_1 s m #[Value.ref b] below meth c H1 locs1 cells slots Q (F0 m 1003 ls [])) : W p l e room_1 s m #[Value.ref b] below meth c H locs cells slots Q (F0 m 209 ls []) := by
  obtain ⟨hx, hb, hml, hown, hts, hK, hX, hbl, hBC, hL⟩ := id h0
  obtain ⟨r, dc1, dm1, e1, e2, hR1⟩ := p_task hR 
  refine lv_aload_n hx hb dL_law_209 rfl (lv_at hl 2 rfl) ?_
  refine lc_C (As := []) (rest := []) h0 hS (kX5_task (ad := aC BC) (dC_all BC) e1) giL_27 ⟨rfl, rfl⟩ ndL_27 ⟨(Nat.le_of_ble_eq_true rfl), (Nat.le_of_ble_eq_true rfl)⟩ rfl hl.1 rfl (Nat.le_of_ble_eq_true rfl) hcl dL_law_210 (fun H locs hS => ?_)
  refine lv_aload_n hx hb dL_law_213 rfl (lv_at hl 1 rfl) ?_
  refine lc_M (As := []) (rest := [.int r]) h0 hS (kX6_task (ad := aM BC) (dM_all BC) e2) giL_30 ⟨rfl, rfl⟩ ndL_30 ⟨(Nat.le_of_ble_eq_true rfl), (Nat.le_of_ble_eq_true rfl)⟩ rfl hl.1 rfl (Nat.le_of_ble_eq_true rfl) hcl dL_law_214 (fun H locs hS => ?_)
  refine lv_icmp_eq (tgt := 1003) hx hb dL_law_217 (by decide) (fun _ => ?_) (fun hne => absurd rfl hne)
  exact next dc1 dm1 H locs (rel_m (by omega) hR1) hS
set_option maxHeartbeats 4000000 in
set_option maxRecDepth 100000 in
theorem lw_about (h0 : LEn p s m c D G b L xs BC) (hS : LSt D G s BC dc dm H locs) (hl : lv_has ls 4 (llv b BC i)) (hi : i + 4 ≤ L) (hcl : cells ≤ 600000 ∧ slots ≤ 7302250) (hB : B + 100 < 2 ^ 31) (hR : Rel dc dm B)
    (next : ∀ (dc1 dm1 : Dt) (H1 : Heap) (locs1 : List Loc), Rel dc1 dm1 (B + 99) → LSt D G s BC dc1 dm1 H1 locs1 → W p l e room_1 s m #[Value.ref b] below meth c H1 locs1 cells slots Q (F0 m 1003 ls [])) : W p l e room_1 s m #[Value.ref b] below meth c H locs cells slots Q (F0 m 222 ls []) := by
  obtain ⟨hx, hb, hml, hown, hts, hK, hX, hbl, hBC, hL⟩ := id h0
  obtain ⟨r, e1, e2⟩ := p_about hR (xs (i + 1))
  refine lv_aload_n hx hb dL_law_222 rfl (lv_at hl 2 rfl) ?_
  refine l_arg (j := 1) h0 hS hl (by omega) (by decide) dL_law_223 dL_law_224 dL_law_225 dL_law_226 dL_law_227 ?_
  refine lc_C (As := [.int (xs (i + 1))]) (rest := []) h0 hS (kX5_about (ad := aC BC) (dC_all BC) e1) giL_31 ⟨rfl, rfl⟩ ndL_31 ⟨(Nat.le_of_ble_eq_true rfl), (Nat.le_of_ble_eq_true rfl)⟩ rfl hl.1 rfl (Nat.le_of_ble_eq_true rfl) hcl dL_law_228 (fun H locs hS => ?_)
  refine lv_aload_n hx hb dL_law_231 rfl (lv_at hl 1 rfl) ?_
  refine l_arg (j := 1) h0 hS hl (by omega) (by decide) dL_law_232 dL_law_233 dL_law_234 dL_law_235 dL_law_236 ?_
  refine lc_M (As := [.int (xs (i + 1))]) (rest := [.int r]) h0 hS (kX6_about (ad := aM BC) (dM_all BC) e2) giL_34 ⟨rfl, rfl⟩ ndL_34 ⟨(Nat.le_of_ble_eq_true rfl), (Nat.le_of_ble_eq_true rfl)⟩ rfl hl.1 rfl (Nat.le_of_ble_eq_true rfl) hcl dL_law_237 (fun H locs hS => ?_)
  refine lv_icmp_eq (tgt := 1003) hx hb dL_law_240 (by decide) (fun _ => ?_) (fun hne => absurd rfl hne)
  exact next dc dm H locs (rel_m (by omega) hR) hS
set_option maxHeartbeats 4000000 in
set_option maxRecDepth 100000 in
theorem lw_element (h0 : LEn p s m c D G b L xs BC) (hS : LSt D G s BC dc dm H locs) (hl : lv_has ls 4 (llv b BC i)) (hi : i + 4 ≤ L) (hcl : cells ≤ 600000 ∧ slots ≤ 7302250) (hB : B + 100 < 2 ^ 31) (hR : Rel dc dm B)
    (next : ∀ (dc1 dm1 : Dt) (H1 : Heap) (locs1 : List Loc), Rel dc1 dm1 (B + 99) → LSt D G s BC dc1 dm1 H1 locs1 → W p l e room_1 s m #[Value.ref b] below meth c H1 locs1 cells slots Q (F0 m 1003 ls [])) : W p l e room_1 s m #[Value.ref b] below meth c H locs cells slots Q (F0 m 245 ls []) := by
  obtain ⟨hx, hb, hml, hown, hts, hK, hX, hbl, hBC, hL⟩ := id h0
  obtain ⟨r, e1, e2⟩ := p_element hR (xs (i + 1)) (xs (i + 2))
  refine lv_aload_n hx hb dL_law_245 rfl (lv_at hl 2 rfl) ?_
  refine l_arg (j := 1) h0 hS hl (by omega) (by decide) dL_law_246 dL_law_247 dL_law_248 dL_law_249 dL_law_250 ?_
  refine l_arg (j := 2) h0 hS hl (by omega) (by decide) dL_law_251 dL_law_252 dL_law_253 dL_law_254 dL_law_255 ?_
  refine lc_C (As := [.int (xs (i + 1)), .int (xs (i + 2))]) (rest := []) h0 hS (kX5_element (ad := aC BC) (dC_all BC) e1) giL_35 ⟨rfl, rfl⟩ ndL_35 ⟨(Nat.le_of_ble_eq_true rfl), (Nat.le_of_ble_eq_true rfl)⟩ rfl hl.1 rfl (Nat.le_of_ble_eq_true rfl) hcl dL_law_256 (fun H locs hS => ?_)
  refine lv_aload_n hx hb dL_law_259 rfl (lv_at hl 1 rfl) ?_
  refine l_arg (j := 1) h0 hS hl (by omega) (by decide) dL_law_260 dL_law_261 dL_law_262 dL_law_263 dL_law_264 ?_
  refine l_arg (j := 2) h0 hS hl (by omega) (by decide) dL_law_265 dL_law_266 dL_law_267 dL_law_268 dL_law_269 ?_
  refine lc_M (As := [.int (xs (i + 1)), .int (xs (i + 2))]) (rest := [.int r]) h0 hS (kX6_element (ad := aM BC) (dM_all BC) e2) giL_39 ⟨rfl, rfl⟩ ndL_39 ⟨(Nat.le_of_ble_eq_true rfl), (Nat.le_of_ble_eq_true rfl)⟩ rfl hl.1 rfl (Nat.le_of_ble_eq_true rfl) hcl dL_law_270 (fun H locs hS => ?_)
  refine lv_icmp_eq (tgt := 1003) hx hb dL_law_273 (by decide) (fun _ => ?_) (fun hne => absurd rfl hne)
  exact next dc dm H locs (rel_m (by omega) hR) hS
set_option maxHeartbeats 4000000 in
set_option maxRecDepth 100000 in
theorem lw_path (h0 : LEn p s m c D G b L xs BC) (hS : LSt D G s BC dc dm H locs) (hl : lv_has ls 4 (llv b BC i)) (hi : i + 4 ≤ L) (hcl : cells ≤ 600000 ∧ slots ≤ 7302250) (hB : B + 100 < 2 ^ 31) (hR : Rel dc dm B)
    (next : ∀ (dc1 dm1 : Dt) (H1 : Heap) (locs1 : List Loc), Rel dc1 dm1 (B + 99) → LSt D G s BC dc1 dm1 H1 locs1 → W p l e room_1 s m #[Value.ref b] below meth c H1 locs1 cells slots Q (F0 m 1003 ls [])) : W p l e room_1 s m #[Value.ref b] below meth c H locs cells slots Q (F0 m 278 ls []) := by
  obtain ⟨hx, hb, hml, hown, hts, hK, hX, hbl, hBC, hL⟩ := id h0
  obtain ⟨r, dc1, dm1, e1, e2, hR1⟩ := p_path (by omega) hR (xs (i + 1)) (xs (i + 2))
  refine lv_aload_n hx hb dL_law_278 rfl (lv_at hl 2 rfl) ?_
  refine l_arg (j := 1) h0 hS hl (by omega) (by decide) dL_law_279 dL_law_280 dL_law_281 dL_law_282 dL_law_283 ?_
  refine l_arg (j := 2) h0 hS hl (by omega) (by decide) dL_law_284 dL_law_285 dL_law_286 dL_law_287 dL_law_288 ?_
  refine lc_C (As := [.int (xs (i + 1)), .int (xs (i + 2))]) (rest := []) h0 hS (kX5_path (ad := aC BC) (dC_all BC) e1) giL_40 ⟨rfl, rfl⟩ ndL_40 ⟨(Nat.le_of_ble_eq_true rfl), (Nat.le_of_ble_eq_true rfl)⟩ rfl hl.1 rfl (Nat.le_of_ble_eq_true rfl) hcl dL_law_289 (fun H locs hS => ?_)
  refine lv_aload_n hx hb dL_law_292 rfl (lv_at hl 1 rfl) ?_
  refine l_arg (j := 1) h0 hS hl (by omega) (by decide) dL_law_293 dL_law_294 dL_law_295 dL_law_296 dL_law_297 ?_
  refine l_arg (j := 2) h0 hS hl (by omega) (by decide) dL_law_298 dL_law_299 dL_law_300 dL_law_301 dL_law_302 ?_
  refine lc_M (As := [.int (xs (i + 1)), .int (xs (i + 2))]) (rest := [.int r]) h0 hS (kX6_path (ad := aM BC) (dM_all BC) e2) giL_43 ⟨rfl, rfl⟩ ndL_43 ⟨(Nat.le_of_ble_eq_true rfl), (Nat.le_of_ble_eq_true rfl)⟩ rfl hl.1 rfl (Nat.le_of_ble_eq_true rfl) hcl dL_law_303 (fun H locs hS => ?_)
  refine lv_icmp_eq (tgt := 1003) hx hb dL_law_306 (by decide) (fun _ => ?_) (fun hne => absurd rfl hne)
  exact next dc1 dm1 H locs (rel_m (by omega) hR1) hS
set_option maxHeartbeats 4000000 in
set_option maxRecDepth 100000 in
theorem lw_step (h0 : LEn p s m c D G b L xs BC) (hS : LSt D G s BC dc dm H locs) (hl : lv_has ls 4 (llv b BC i)) (hi : i + 4 ≤ L) (hcl : cells ≤ 600000 ∧ slots ≤ 7302250) (hB : B + 100 < 2 ^ 31) (hR : Rel dc dm B)
    (next : ∀ (dc1 dm1 : Dt) (H1 : Heap) (locs1 : List Loc), Rel dc1 dm1 (B + 99) → LSt D G s BC dc1 dm1 H1 locs1 → W p l e room_1 s m #[Value.ref b] below meth c H1 locs1 cells slots Q (F0 m 1003 ls [])) : W p l e room_1 s m #[Value.ref b] below meth c H locs cells slots Q (F0 m 311 ls []) := by
  obtain ⟨hx, hb, hml, hown, hts, hK, hX, hbl, hBC, hL⟩ := id h0
  obtain ⟨r, e1, e2⟩ := p_step hR (xs (i + 1)) (xs (i + 2))
  refine lv_aload_n hx hb dL_law_311 rfl (lv_at hl 2 rfl) ?_
  refine l_arg (j := 1) h0 hS hl (by omega) (by decide) dL_law_312 dL_law_313 dL_law_314 dL_law_315 dL_law_316 ?_
  refine l_arg (j := 2) h0 hS hl (by omega) (by decide) dL_law_317 dL_law_318 dL_law_319 dL_law_320 dL_law_321 ?_
  refine lc_C (As := [.int (xs (i + 1)), .int (xs (i + 2))]) (rest := []) h0 hS (kX5_step (ad := aC BC) (dC_all BC) e1) giL_44 ⟨rfl, rfl⟩ ndL_44 ⟨(Nat.le_of_ble_eq_true rfl), (Nat.le_of_ble_eq_true rfl)⟩ rfl hl.1 rfl (Nat.le_of_ble_eq_true rfl) hcl dL_law_322 (fun H locs hS => ?_)
  refine lv_aload_n hx hb dL_law_325 rfl (lv_at hl 1 rfl) ?_
  refine l_arg (j := 1) h0 hS hl (by omega) (by decide) dL_law_326 dL_law_327 dL_law_328 dL_law_329 dL_law_330 ?_
  refine l_arg (j := 2) h0 hS hl (by omega) (by decide) dL_law_331 dL_law_332 dL_law_333 dL_law_334 dL_law_335 ?_
  refine lc_M (As := [.int (xs (i + 1)), .int (xs (i + 2))]) (rest := [.int r]) h0 hS (kX6_step (ad := aM BC) (dM_all BC) e2) giL_47 ⟨rfl, rfl⟩ ndL_47 ⟨(Nat.le_of_ble_eq_true rfl), (Nat.le_of_ble_eq_true rfl)⟩ rfl hl.1 rfl (Nat.le_of_ble_eq_true rfl) hcl dL_law_336 (fun H locs hS => ?_)
  refine lv_icmp_eq (tgt := 1003) hx hb dL_law_339 (by decide) (fun _ => ?_) (fun hne => absurd rfl hne)
  exact next dc dm H locs (rel_m (by omega) hR) hS
set_option maxHeartbeats 4000000 in
set_option maxRecDepth 100000 in
theorem lw_is (h0 : LEn p s m c D G b L xs BC) (hS : LSt D G s BC dc dm H locs) (hl : lv_has ls 4 (llv b BC i)) (hi : i + 4 ≤ L) (hcl : cells ≤ 600000 ∧ slots ≤ 7302250) (hB : B + 100 < 2 ^ 31) (hR : Rel dc dm B)
    (next : ∀ (dc1 dm1 : Dt) (H1 : Heap) (locs1 : List Loc), Rel dc1 dm1 (B + 99) → LSt D G s BC dc1 dm1 H1 locs1 → W p l e room_1 s m #[Value.ref b] below meth c H1 locs1 cells slots Q (F0 m 1003 ls [])) : W p l e room_1 s m #[Value.ref b] below meth c H locs cells slots Q (F0 m 344 ls []) := by
  obtain ⟨hx, hb, hml, hown, hts, hK, hX, hbl, hBC, hL⟩ := id h0
  obtain ⟨r, dc1, dm1, e1, e2, hR1⟩ := p_is hR (xs (i + 1)) (xs (i + 2))
  refine lv_aload_n hx hb dL_law_344 rfl (lv_at hl 2 rfl) ?_
  refine l_arg (j := 1) h0 hS hl (by omega) (by decide) dL_law_345 dL_law_346 dL_law_347 dL_law_348 dL_law_349 ?_
  refine l_arg (j := 2) h0 hS hl (by omega) (by decide) dL_law_350 dL_law_351 dL_law_352 dL_law_353 dL_law_354 ?_
  refine lc_C (As := [.int (xs (i + 1)), .int (xs (i + 2))]) (rest := []) h0 hS (kX5_is (ad := aC BC) (dC_all BC) e1) giL_48 ⟨rfl, rfl⟩ ndL_48 ⟨(Nat.le_of_ble_eq_true rfl), (Nat.le_of_ble_eq_true rfl)⟩ rfl hl.1 rfl (Nat.le_of_ble_eq_true rfl) hcl dL_law_355 (fun H locs hS => ?_)
  refine lv_aload_n hx hb dL_law_358 rfl (lv_at hl 1 rfl) ?_
  refine l_arg (j := 1) h0 hS hl (by omega) (by decide) dL_law_359 dL_law_360 dL_law_361 dL_law_362 dL_law_363 ?_
  refine l_arg (j := 2) h0 hS hl (by omega) (by decide) dL_law_364 dL_law_365 dL_law_366 dL_law_367 dL_law_368 ?_
  refine lc_M (As := [.int (xs (i + 1)), .int (xs (i + 2))]) (rest := [.int r]) h0 hS (kX6_is (ad := aM BC) (dM_all BC) e2) giL_51 ⟨rfl, rfl⟩ ndL_51 ⟨(Nat.le_of_ble_eq_true rfl), (Nat.le_of_ble_eq_true rfl)⟩ rfl hl.1 rfl (Nat.le_of_ble_eq_true rfl) hcl dL_law_369 (fun H locs hS => ?_)
  refine lv_icmp_eq (tgt := 1003) hx hb dL_law_372 (by decide) (fun _ => ?_) (fun hne => absurd rfl hne)
  exact next dc1 dm1 H locs (rel_m (by omega) hR1) hS
set_option maxHeartbeats 4000000 in
set_option maxRecDepth 100000 in
theorem lw_ends (h0 : LEn p s m c D G b L xs BC) (hS : LSt D G s BC dc dm H locs) (hl : lv_has ls 4 (llv b BC i)) (hi : i + 4 ≤ L) (hcl : cells ≤ 600000 ∧ slots ≤ 7302250) (hB : B + 100 < 2 ^ 31) (hR : Rel dc dm B)
    (next : ∀ (dc1 dm1 : Dt) (H1 : Heap) (locs1 : List Loc), Rel dc1 dm1 (B + 99) → LSt D G s BC dc1 dm1 H1 locs1 → W p l e room_1 s m #[Value.ref b] below meth c H1 locs1 cells slots Q (F0 m 1003 ls [])) : W p l e room_1 s m #[Value.ref b] below meth c H locs cells slots Q (F0 m 377 ls []) := by
  obtain ⟨hx, hb, hml, hown, hts, hK, hX, hbl, hBC, hL⟩ := id h0
  obtain ⟨r, dc1, dm1, e1, e2, hR1⟩ := p_ends hR (xs (i + 1)) (xs (i + 2))
  refine lv_aload_n hx hb dL_law_377 rfl (lv_at hl 2 rfl) ?_
  refine l_arg (j := 1) h0 hS hl (by omega) (by decide) dL_law_378 dL_law_379 dL_law_380 dL_law_381 dL_law_382 ?_
  refine l_arg (j := 2) h0 hS hl (by omega) (by decide) dL_law_383 dL_law_384 dL_law_385 dL_law_386 dL_law_387 ?_
  refine lc_C (As := [.int (xs (i + 1)), .int (xs (i + 2))]) (rest := []) h0 hS (kX5_ends (ad := aC BC) (dC_all BC) e1) giL_52 ⟨rfl, rfl⟩ ndL_52 ⟨(Nat.le_of_ble_eq_true rfl), (Nat.le_of_ble_eq_true rfl)⟩ rfl hl.1 rfl (Nat.le_of_ble_eq_true rfl) hcl dL_law_388 (fun H locs hS => ?_)
  refine lv_aload_n hx hb dL_law_391 rfl (lv_at hl 1 rfl) ?_
  refine l_arg (j := 1) h0 hS hl (by omega) (by decide) dL_law_392 dL_law_393 dL_law_394 dL_law_395 dL_law_396 ?_
  refine l_arg (j := 2) h0 hS hl (by omega) (by decide) dL_law_397 dL_law_398 dL_law_399 dL_law_400 dL_law_401 ?_
  refine lc_M (As := [.int (xs (i + 1)), .int (xs (i + 2))]) (rest := [.int r]) h0 hS (kX6_ends (ad := aM BC) (dM_all BC) e2) giL_55 ⟨rfl, rfl⟩ ndL_55 ⟨(Nat.le_of_ble_eq_true rfl), (Nat.le_of_ble_eq_true rfl)⟩ rfl hl.1 rfl (Nat.le_of_ble_eq_true rfl) hcl dL_law_402 (fun H locs hS => ?_)
  refine lv_icmp_eq (tgt := 1003) hx hb dL_law_405 (by decide) (fun _ => ?_) (fun hne => absurd rfl hne)
  exact next dc1 dm1 H locs (rel_m (by omega) hR1) hS
end LC
