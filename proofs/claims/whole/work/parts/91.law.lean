/-! THE LAW: both objects in one heap -/
abbrev aC (B : Nat) : Nat → Nat := fun i => B + i
abbrev aM (B : Nat) : Nat → Nat := fun i => B + 520 + i
def AC (B : Nat) : Nat → Prop := fun q => B ≤ q ∧ q < B + 520
def AM (B : Nat) : Nat → Prop := fun q => B + 520 ≤ q ∧ q < B + 536
theorem dC_all {G : z_G} (B : Nat) : ∀ d, va_D (AC B) (WC G (aC B) d) := fun d => zw_D (fun i j _ _ e => Nat.add_left_cancel e) (fun i hi => ⟨Nat.le_add_right B i, Nat.add_lt_add_left hi B⟩) d
theorem dM_all {G : z_G} (B : Nat) : ∀ d, va_D (AM B) (WM G (aM B) d) := fun d => zw_D (fun i j _ _ e => Nat.add_left_cancel e) (fun i hi => ⟨Nat.le_add_right (B + 520) i, by show B + 520 + i < B + 536; omega⟩) d
theorem zw_ad {sh : Nat → (Nat → Int32) → Int64 → va_E} {N : Nat} {ad : Nat → Nat} {d : Dt} {k : Nat} {q : Nat × va_E} (hq : (z_w sh N ad d)[k]? = some q) : k < N ∧ q.1 = ad k := by
  by_cases hk : k < N
  · rw [z_w_get hk] at hq
    cases hq
    exact ⟨hk, rfl⟩
  · rw [List.getElem?_eq_none (by simp [z_w]; omega)] at hq
    cases hq
/-- what the law's frame knows -/
def LEn (p : Program) (s : State) (m : MethodId) (c : Code) (D : va_G) (G : z_G) (b L : Nat) (xs : Nat → Int32) (BC : Nat) : Prop := p.tables.exec = Jvm.exec ∧ c.code = cL_law ∧ c.maxLocals = 4 ∧ s.vm.findClass RL = some m.cls ∧ (∀ w ∈ wsG, w.before #[Value.ref b] s = true) ∧ va_K D vwCl (z_tys G) s ∧ va_X b L xs s s.heap ∧ b < s.heap.size ∧ s.heap.size ≤ BC ∧ L ≤ 2048
def LSt (D : va_G) (G : z_G) (s : State) (BC : Nat) (dc dm : Dt) (H : Heap) (locs : List Loc) : Prop := va_P D vwCl (WC G (aC BC) dc) H ∧ va_P D vwCl (WM G (aM BC) dm) H ∧ va_S (XA s.heap.size) s.heap H locs
abbrev llv (b BC i : Nat) : List (Nat × Value) := [(3, .int (nI i)), (2, .ref (BC + 520)), (1, .ref BC), (0, .ref b)]
section LR
variable {p : Program} {l : Launch} {e : Env} {s : State} {m : MethodId} {below : List Frame} {meth : Method} {c : Code} {H : Heap} {locs : List Loc} {cells slots : Nat} {Q : State → Prop}
variable {pc : Nat} {ls : Array Slot} {rest st0 : List Value} {D : va_G} {G : z_G} {b L : Nat} {xs : Nat → Int32} {BC i : Nat} {dc dm : Dt}
theorem l_arg (h0 : LEn p s m c D G b L xs BC) (hS : LSt D G s BC dc dm H locs) (hl : lv_has ls 4 (llv b BC i)) {j : Nat} {nj : Int} (hij : i + j < L) (hnj : Int32.ofInt nj = nI j) (d1 : decode cL_law pc = .ok (.aload_n 0, 1)) (d2 : decode cL_law (pc + 1) = .ok (.iload_n 3, 1)) (d3 : decode cL_law (pc + 2) = .ok (.iconst nj, 1)) (d4 : decode cL_law (pc + 3) = .ok (.iadd, 1)) (d5 : decode cL_law (pc + 4) = .ok (.iaload, 1))
    (kk : W p l e room_1 s m #[Value.ref b] below meth c H locs cells slots Q (F0 m (pc + 5) ls (.int (xs (i + j)) :: rest))) : W p l e room_1 s m #[Value.ref b] below meth c H locs cells slots Q (F0 m pc ls rest) := by
  obtain ⟨hx, hb, hml, hown, hts, hK, hX, hbl, hBC, hL⟩ := h0
  refine lv_aload_n hx hb d1 rfl (lv_at hl 3 rfl) ?_
  refine lv_iload_n hx hb d2 rfl (lv_at hl 0 rfl) ?_
  refine lv_iconst (v := nI j) hx hb d3 hnj ?_
  refine lv_iadd hx hb d4 ?_
  refine va_sld hx hb hX hbl (show ¬ XA s.heap.size b from Nat.not_le.mpr hbl) hS.2.2 (i := nI i + nI j) (by rw [nI_add]; exact vp_in_nI hij (by omega)) d5 ?_
  rw [nI_add, nI_clamp (by omega)]
  exact kk
theorem kp_M {H1 : Heap} (hP : va_P D vwCl (WM G (aM BC) dm) H) (hk : ∀ q : Nat, q < H.size → ¬ AC BC q → H1[q]? = H[q]?) : va_P D vwCl (WM G (aM BC) dm) H1 := hP.kept fun k q hq => hk q.1 ((hP k q hq).lt) (fun z => by
  have e := (zw_ad hq).2
  have z : BC ≤ q.1 ∧ q.1 < BC + 520 := z
  rw [e] at z
  have z2 : BC + 520 + k < BC + 520 := z.2
  omega)
theorem kp_C {H1 : Heap} (hP : va_P D vwCl (WC G (aC BC) dc) H) (hk : ∀ q : Nat, q < H.size → ¬ AM BC q → H1[q]? = H[q]?) : va_P D vwCl (WC G (aC BC) dc) H1 := hP.kept fun k q hq => hk q.1 ((hP k q hq).lt) (fun z => by
  have e := zw_ad hq
  have z : BC + 520 ≤ q.1 ∧ q.1 < BC + 536 := z
  rw [e.2] at z
  have z2 : BC + 520 ≤ BC + k := z.1
  omega)
variable {y : MethodName} {bt : ByteArray} {mL index nn : Nat} {rm : Room} {As : List Value} {d' : Dt}
theorem lc_C {r : Int32} (h0 : LEn p s m c D G b L xs BC) (hS : LSt D G s BC dc dm H locs) (hM : z_Mi l D G (AC BC) (WC G (aC BC)) y bt mL rm dc (.ref BC :: As) r d') (hG : GoodIn wsG (wsV RL index RX5 y (.code y bt mL (some .int) :: wsG))) (hrm : rm.cells = 0 ∧ rm.slots = 0) (hd : y.cls = RX5 ∧ y.cls ≠ "java/lang/invoke/MethodHandle" ∧ y.cls ≠ "java/lang/invoke/VarHandle" ∧ (parseMethodDescriptor y.desc).map (fun d => d.parameters.length) = some nn) (hR : rm.frames + 1 ≤ 16 ∧ 8 + (mL + 11) + rm.locals ≤ 698) (hn : As.length = nn) (hsz : ls.size = 4) (hst : st0 = As.reverse ++ .ref BC :: rest) (hW : (rest.map fun v => v.category).sum ≤ 8) (hcl : cells ≤ 600000 ∧ slots ≤ 7302250) (hdg : decode cL_law pc = .ok (.invokevirtual index, 3))
    (kk : ∀ (H1 : Heap) (locs1 : List Loc), LSt D G s BC d' dm H1 locs1 → W p l e room_1 s m #[Value.ref b] below meth c H1 locs1 cells slots Q (F0 m (pc + 3) ls (.int r :: rest))) : W p l e room_1 s m #[Value.ref b] below meth c H locs cells slots Q (F0 m pc ls st0) := by
  obtain ⟨hx, hb, hml, hown, hts, hK, hX, hbl, hBC, hL⟩ := h0
  obtain ⟨hP, hPm, hSs⟩ := hS
  have hr := z_rV (w := WC G (aC BC)) (d := dc) (R := room_1) (locs := locs) (cells := cells) (slots := slots) (below := below) (meth := meth) (e := e) (k := 0) ⟨hx, hb, hml, hown, hts⟩ hK hP w_X5 rfl hM hG hrm hd hR hn hsz hst hW hcl hdg
  exact va_calli hr hSs (fun q _ z => Nat.le_trans hBC z.1) (fun q z => Nat.le_trans hBC z.1) (fun r0 u t H1 locs1 ht hvm hw hB hz hk hS1 => by
    have hw : r0 = r := hw
    subst hw
    exact kk H1 locs1 ⟨by rw [← ht]; exact hB.1, kp_M hPm hk, hS1⟩)
theorem lc_M {r : Int32} (h0 : LEn p s m c D G b L xs BC) (hS : LSt D G s BC dc dm H locs) (hM : z_Mi l D G (AM BC) (WM G (aM BC)) y bt mL rm dm (.ref (BC + 520) :: As) r d') (hG : GoodIn wsG (wsV RL index RX6 y (.code y bt mL (some .int) :: wsG))) (hrm : rm.cells = 0 ∧ rm.slots = 0) (hd : y.cls = RX6 ∧ y.cls ≠ "java/lang/invoke/MethodHandle" ∧ y.cls ≠ "java/lang/invoke/VarHandle" ∧ (parseMethodDescriptor y.desc).map (fun d => d.parameters.length) = some nn) (hR : rm.frames + 1 ≤ 16 ∧ 8 + (mL + 11) + rm.locals ≤ 698) (hn : As.length = nn) (hsz : ls.size = 4) (hst : st0 = As.reverse ++ .ref (BC + 520) :: rest) (hW : (rest.map fun v => v.category).sum ≤ 8) (hcl : cells ≤ 600000 ∧ slots ≤ 7302250) (hdg : decode cL_law pc = .ok (.invokevirtual index, 3))
    (kk : ∀ (H1 : Heap) (locs1 : List Loc), LSt D G s BC dc d' H1 locs1 → W p l e room_1 s m #[Value.ref b] below meth c H1 locs1 cells slots Q (F0 m (pc + 3) ls (.int r :: rest))) : W p l e room_1 s m #[Value.ref b] below meth c H locs cells slots Q (F0 m pc ls st0) := by
  obtain ⟨hx, hb, hml, hown, hts, hK, hX, hbl, hBC, hL⟩ := h0
  obtain ⟨hP, hPm, hSs⟩ := hS
  have hr := z_rV (w := WM G (aM BC)) (d := dm) (R := room_1) (locs := locs) (cells := cells) (slots := slots) (below := below) (meth := meth) (e := e) (k := 0) ⟨hx, hb, hml, hown, hts⟩ hK hPm w_X6 rfl hM hG hrm hd hR hn hsz hst hW hcl hdg
  exact va_calli hr hSs (fun q _ z => Nat.le_trans hBC (Nat.le_trans (Nat.le_add_right _ _) z.1)) (fun q z => Nat.le_trans hBC (Nat.le_trans (Nat.le_add_right _ _) z.1)) (fun r0 u t H1 locs1 ht hvm hw hB hz hk hS1 => by
    have hw : r0 = r := hw
    subst hw
    exact kk H1 locs1 ⟨kp_C hP hk, by rw [← ht]; exact hB.1, hS1⟩)
theorem ll_C {r : Int64} (h0 : LEn p s m c D G b L xs BC) (hS : LSt D G s BC dc dm H locs) (hM : z_Ml l D G (AC BC) (WC G (aC BC)) y bt mL rm dc (.ref BC :: As) r d') (hG : GoodIn wsG (wsV RL index RX5 y (.code y bt mL (some .long) :: wsG))) (hrm : rm.cells = 0 ∧ rm.slots = 0) (hd : y.cls = RX5 ∧ y.cls ≠ "java/lang/invoke/MethodHandle" ∧ y.cls ≠ "java/lang/invoke/VarHandle" ∧ (parseMethodDescriptor y.desc).map (fun d => d.parameters.length) = some nn) (hR : rm.frames + 1 ≤ 16 ∧ 8 + (mL + 11) + rm.locals ≤ 698) (hn : As.length = nn) (hsz : ls.size = 4) (hst : st0 = As.reverse ++ .ref BC :: rest) (hW : (rest.map fun v => v.category).sum ≤ 8) (hcl : cells ≤ 600000 ∧ slots ≤ 7302250) (hdg : decode cL_law pc = .ok (.invokevirtual index, 3))
    (kk : ∀ (H1 : Heap) (locs1 : List Loc), LSt D G s BC d' dm H1 locs1 → W p l e room_1 s m #[Value.ref b] below meth c H1 locs1 cells slots Q (F0 m (pc + 3) ls (.long r :: rest))) : W p l e room_1 s m #[Value.ref b] below meth c H locs cells slots Q (F0 m pc ls st0) := by
  obtain ⟨hx, hb, hml, hown, hts, hK, hX, hbl, hBC, hL⟩ := h0
  obtain ⟨hP, hPm, hSs⟩ := hS
  have hr := z_rV (w := WC G (aC BC)) (d := dc) (R := room_1) (locs := locs) (cells := cells) (slots := slots) (below := below) (meth := meth) (e := e) (k := 0) ⟨hx, hb, hml, hown, hts⟩ hK hP w_X5 rfl hM hG hrm hd hR hn hsz hst hW hcl hdg
  exact va_calll hr hSs (fun q _ z => Nat.le_trans hBC z.1) (fun q z => Nat.le_trans hBC z.1) (fun r0 u t H1 locs1 ht hvm hw hB hz hk hS1 => by
    have hw : r0 = r := hw
    subst hw
    exact kk H1 locs1 ⟨by rw [← ht]; exact hB.1, kp_M hPm hk, hS1⟩)
theorem ll_M {r : Int64} (h0 : LEn p s m c D G b L xs BC) (hS : LSt D G s BC dc dm H locs) (hM : z_Ml l D G (AM BC) (WM G (aM BC)) y bt mL rm dm (.ref (BC + 520) :: As) r d') (hG : GoodIn wsG (wsV RL index RX6 y (.code y bt mL (some .long) :: wsG))) (hrm : rm.cells = 0 ∧ rm.slots = 0) (hd : y.cls = RX6 ∧ y.cls ≠ "java/lang/invoke/MethodHandle" ∧ y.cls ≠ "java/lang/invoke/VarHandle" ∧ (parseMethodDescriptor y.desc).map (fun d => d.parameters.length) = some nn) (hR : rm.frames + 1 ≤ 16 ∧ 8 + (mL + 11) + rm.locals ≤ 698) (hn : As.length = nn) (hsz : ls.size = 4) (hst : st0 = As.reverse ++ .ref (BC + 520) :: rest) (hW : (rest.map fun v => v.category).sum ≤ 8) (hcl : cells ≤ 600000 ∧ slots ≤ 7302250) (hdg : decode cL_law pc = .ok (.invokevirtual index, 3))
    (kk : ∀ (H1 : Heap) (locs1 : List Loc), LSt D G s BC dc d' H1 locs1 → W p l e room_1 s m #[Value.ref b] below meth c H1 locs1 cells slots Q (F0 m (pc + 3) ls (.long r :: rest))) : W p l e room_1 s m #[Value.ref b] below meth c H locs cells slots Q (F0 m pc ls st0) := by
  obtain ⟨hx, hb, hml, hown, hts, hK, hX, hbl, hBC, hL⟩ := h0
  obtain ⟨hP, hPm, hSs⟩ := hS
  have hr := z_rV (w := WM G (aM BC)) (d := dm) (R := room_1) (locs := locs) (cells := cells) (slots := slots) (below := below) (meth := meth) (e := e) (k := 0) ⟨hx, hb, hml, hown, hts⟩ hK hPm w_X6 rfl hM hG hrm hd hR hn hsz hst hW hcl hdg
  exact va_calll hr hSs (fun q _ z => Nat.le_trans hBC (Nat.le_trans (Nat.le_add_right _ _) z.1)) (fun q z => Nat.le_trans hBC (Nat.le_trans (Nat.le_add_right _ _) z.1)) (fun r0 u t H1 locs1 ht hvm hw hB hz hk hS1 => by
    have hw : r0 = r := hw
    subst hw
    exact kk H1 locs1 ⟨kp_C hP hk, by rw [← ht]; exact hB.1, hS1⟩)
end LR
theorem giL_13 : GoodIn wsG (wsV RL 13 RX5 yX5_write (.code yX5_write cX5_write 2 (some .int) :: wsG)) := gd_V wl_1_228 wl_1_229 wl_1_230 wl_1_1 wl_1_231
theorem ndL_13 : yX5_write.cls = RX5 ∧ yX5_write.cls ≠ "java/lang/invoke/MethodHandle" ∧ yX5_write.cls ≠ "java/lang/invoke/VarHandle" ∧ (parseMethodDescriptor yX5_write.desc).map (fun d => d.parameters.length) = some 1 := by decide +kernel
theorem giL_17 : GoodIn wsG (wsV RL 17 RX6 yX6_write (.code yX6_write cX6_write 2 (some .int) :: wsG)) := gd_V wl_3_213 wl_3_214 wl_3_215 wl_1_7 wl_3_216
theorem ndL_17 : yX6_write.cls = RX6 ∧ yX6_write.cls ≠ "java/lang/invoke/MethodHandle" ∧ yX6_write.cls ≠ "java/lang/invoke/VarHandle" ∧ (parseMethodDescriptor yX6_write.desc).map (fun d => d.parameters.length) = some 1 := by decide +kernel
theorem giL_18 : GoodIn wsG (wsV RL 18 RX5 yX5_wipe (.code yX5_wipe cX5_wipe 2 (some .int) :: wsG)) := gd_V wl_1_232 wl_1_233 wl_1_234 wl_1_1 wl_1_235
theorem ndL_18 : yX5_wipe.cls = RX5 ∧ yX5_wipe.cls ≠ "java/lang/invoke/MethodHandle" ∧ yX5_wipe.cls ≠ "java/lang/invoke/VarHandle" ∧ (parseMethodDescriptor yX5_wipe.desc).map (fun d => d.parameters.length) = some 0 := by decide +kernel
theorem giL_22 : GoodIn wsG (wsV RL 22 RX6 yX6_wipe (.code yX6_wipe cX6_wipe 2 (some .int) :: wsG)) := gd_V wl_3_221 wl_3_222 wl_3_223 wl_1_7 wl_3_224
theorem ndL_22 : yX6_wipe.cls = RX6 ∧ yX6_wipe.cls ≠ "java/lang/invoke/MethodHandle" ∧ yX6_wipe.cls ≠ "java/lang/invoke/VarHandle" ∧ (parseMethodDescriptor yX6_wipe.desc).map (fun d => d.parameters.length) = some 0 := by decide +kernel
theorem giL_23 : GoodIn wsG (wsV RL 23 RX5 yX5_fault (.code yX5_fault cX5_fault 1 (some .int) :: wsG)) := gd_V wl_1_236 wl_1_237 wl_1_238 wl_1_1 wl_1_239
theorem ndL_23 : yX5_fault.cls = RX5 ∧ yX5_fault.cls ≠ "java/lang/invoke/MethodHandle" ∧ yX5_fault.cls ≠ "java/lang/invoke/VarHandle" ∧ (parseMethodDescriptor yX5_fault.desc).map (fun d => d.parameters.length) = some 0 := by decide +kernel
theorem giL_26 : GoodIn wsG (wsV RL 26 RX6 yX6_fault (.code yX6_fault cX6_fault 1 (some .int) :: wsG)) := gd_V wl_3_225 wl_3_226 wl_3_227 wl_1_7 wl_3_228
theorem ndL_26 : yX6_fault.cls = RX6 ∧ yX6_fault.cls ≠ "java/lang/invoke/MethodHandle" ∧ yX6_fault.cls ≠ "java/lang/invoke/VarHandle" ∧ (parseMethodDescriptor yX6_fault.desc).map (fun d => d.parameters.length) = some 0 := by decide +kernel
theorem giL_27 : GoodIn wsG (wsV RL 27 RX5 yX5_task (.code yX5_task cX5_task 2 (some .int) :: wsG)) := gd_V wl_2_149 wl_2_150 wl_2_151 wl_1_1 wl_2_152
theorem ndL_27 : yX5_task.cls = RX5 ∧ yX5_task.cls ≠ "java/lang/invoke/MethodHandle" ∧ yX5_task.cls ≠ "java/lang/invoke/VarHandle" ∧ (parseMethodDescriptor yX5_task.desc).map (fun d => d.parameters.length) = some 0 := by decide +kernel
theorem giL_30 : GoodIn wsG (wsV RL 30 RX6 yX6_task (.code yX6_task cX6_task 3 (some .int) :: wsG)) := gd_V wl_4_20 wl_4_21 wl_4_22 wl_1_7 wl_4_23
theorem ndL_30 : yX6_task.cls = RX6 ∧ yX6_task.cls ≠ "java/lang/invoke/MethodHandle" ∧ yX6_task.cls ≠ "java/lang/invoke/VarHandle" ∧ (parseMethodDescriptor yX6_task.desc).map (fun d => d.parameters.length) = some 0 := by decide +kernel
theorem giL_31 : GoodIn wsG (wsV RL 31 RX5 yX5_about (.code yX5_about cX5_about 2 (some .int) :: wsG)) := gd_V wl_2_170 wl_2_171 wl_2_172 wl_1_1 wl_2_173
theorem ndL_31 : yX5_about.cls = RX5 ∧ yX5_about.cls ≠ "java/lang/invoke/MethodHandle" ∧ yX5_about.cls ≠ "java/lang/invoke/VarHandle" ∧ (parseMethodDescriptor yX5_about.desc).map (fun d => d.parameters.length) = some 1 := by decide +kernel
theorem giL_34 : GoodIn wsG (wsV RL 34 RX6 yX6_about (.code yX6_about cX6_about 2 (some .int) :: wsG)) := gd_V wl_4_103 wl_4_104 wl_4_105 wl_1_7 wl_4_106
theorem ndL_34 : yX6_about.cls = RX6 ∧ yX6_about.cls ≠ "java/lang/invoke/MethodHandle" ∧ yX6_about.cls ≠ "java/lang/invoke/VarHandle" ∧ (parseMethodDescriptor yX6_about.desc).map (fun d => d.parameters.length) = some 1 := by decide +kernel
theorem giL_35 : GoodIn wsG (wsV RL 35 RX5 yX5_element (.code yX5_element cX5_element 4 (some .int) :: wsG)) := gd_V wl_2_187 wl_2_188 wl_2_189 wl_1_1 wl_2_190
theorem ndL_35 : yX5_element.cls = RX5 ∧ yX5_element.cls ≠ "java/lang/invoke/MethodHandle" ∧ yX5_element.cls ≠ "java/lang/invoke/VarHandle" ∧ (parseMethodDescriptor yX5_element.desc).map (fun d => d.parameters.length) = some 2 := by decide +kernel
theorem giL_39 : GoodIn wsG (wsV RL 39 RX6 yX6_element (.code yX6_element cX6_element 3 (some .int) :: wsG)) := gd_V wl_4_115 wl_4_116 wl_4_117 wl_1_7 wl_4_118
theorem ndL_39 : yX6_element.cls = RX6 ∧ yX6_element.cls ≠ "java/lang/invoke/MethodHandle" ∧ yX6_element.cls ≠ "java/lang/invoke/VarHandle" ∧ (parseMethodDescriptor yX6_element.desc).map (fun d => d.parameters.length) = some 2 := by decide +kernel
theorem giL_40 : GoodIn wsG (wsV RL 40 RX5 yX5_path (.code yX5_path cX5_path 3 (some .int) :: wsG)) := gd_V wl_2_195 wl_2_196 wl_2_197 wl_1_1 wl_2_198
theorem ndL_40 : yX5_path.cls = RX5 ∧ yX5_path.cls ≠ "java/lang/invoke/MethodHandle" ∧ yX5_path.cls ≠ "java/lang/invoke/VarHandle" ∧ (parseMethodDescriptor yX5_path.desc).map (fun d => d.parameters.length) = some 2 := by decide +kernel
theorem giL_43 : GoodIn wsG (wsV RL 43 RX6 yX6_path (.code yX6_path cX6_path 4 (some .int) :: wsG)) := gd_V wl_4_123 wl_4_124 wl_4_125 wl_1_7 wl_4_126
theorem ndL_43 : yX6_path.cls = RX6 ∧ yX6_path.cls ≠ "java/lang/invoke/MethodHandle" ∧ yX6_path.cls ≠ "java/lang/invoke/VarHandle" ∧ (parseMethodDescriptor yX6_path.desc).map (fun d => d.parameters.length) = some 2 := by decide +kernel
theorem giL_44 : GoodIn wsG (wsV RL 44 RX5 yX5_step (.code yX5_step cX5_step 3 (some .int) :: wsG)) := gd_V wl_2_210 wl_2_211 wl_2_212 wl_1_1 wl_2_213
theorem ndL_44 : yX5_step.cls = RX5 ∧ yX5_step.cls ≠ "java/lang/invoke/MethodHandle" ∧ yX5_step.cls ≠ "java/lang/invoke/VarHandle" ∧ (parseMethodDescriptor yX5_step.desc).map (fun d => d.parameters.length) = some 2 := by decide +kernel
theorem giL_47 : GoodIn wsG (wsV RL 47 RX6 yX6_step (.code yX6_step cX6_step 3 (some .int) :: wsG)) := gd_V wl_4_134 wl_4_135 wl_4_136 wl_1_7 wl_4_137
theorem ndL_47 : yX6_step.cls = RX6 ∧ yX6_step.cls ≠ "java/lang/invoke/MethodHandle" ∧ yX6_step.cls ≠ "java/lang/invoke/VarHandle" ∧ (parseMethodDescriptor yX6_step.desc).map (fun d => d.parameters.length) = some 2 := by decide +kernel
theorem giL_48 : GoodIn wsG (wsV RL 48 RX5 yX5_is (.code yX5_is cX5_is 3 (some .int) :: wsG)) := gd_V wl_2_214 wl_2_215 wl_2_216 wl_1_1 wl_2_217
theorem ndL_48 : yX5_is.cls = RX5 ∧ yX5_is.cls ≠ "java/lang/invoke/MethodHandle" ∧ yX5_is.cls ≠ "java/lang/invoke/VarHandle" ∧ (parseMethodDescriptor yX5_is.desc).map (fun d => d.parameters.length) = some 2 := by decide +kernel
theorem giL_51 : GoodIn wsG (wsV RL 51 RX6 yX6_is (.code yX6_is cX6_is 3 (some .int) :: wsG)) := gd_V wl_4_138 wl_4_139 wl_4_140 wl_1_7 wl_4_141
theorem ndL_51 : yX6_is.cls = RX6 ∧ yX6_is.cls ≠ "java/lang/invoke/MethodHandle" ∧ yX6_is.cls ≠ "java/lang/invoke/VarHandle" ∧ (parseMethodDescriptor yX6_is.desc).map (fun d => d.parameters.length) = some 2 := by decide +kernel
theorem giL_52 : GoodIn wsG (wsV RL 52 RX5 yX5_ends (.code yX5_ends cX5_ends 3 (some .int) :: wsG)) := gd_V wl_2_218 wl_2_219 wl_2_220 wl_1_1 wl_2_221
theorem ndL_52 : yX5_ends.cls = RX5 ∧ yX5_ends.cls ≠ "java/lang/invoke/MethodHandle" ∧ yX5_ends.cls ≠ "java/lang/invoke/VarHandle" ∧ (parseMethodDescriptor yX5_ends.desc).map (fun d => d.parameters.length) = some 2 := by decide +kernel
theorem giL_55 : GoodIn wsG (wsV RL 55 RX6 yX6_ends (.code yX6_ends cX6_ends 3 (some .int) :: wsG)) := gd_V wl_4_142 wl_4_143 wl_4_144 wl_1_7 wl_4_145
theorem ndL_55 : yX6_ends.cls = RX6 ∧ yX6_ends.cls ≠ "java/lang/invoke/MethodHandle" ∧ yX6_ends.cls ≠ "java/lang/invoke/VarHandle" ∧ (parseMethodDescriptor yX6_ends.desc).map (fun d => d.parameters.length) = some 2 := by decide +kernel
theorem giL_56 : GoodIn wsG (wsV RL 56 RX5 yX5_out (.code yX5_out cX5_out 5 (some .int) :: wsG)) := gd_V wl_2_222 wl_2_223 wl_2_224 wl_1_1 wl_2_225
theorem ndL_56 : yX5_out.cls = RX5 ∧ yX5_out.cls ≠ "java/lang/invoke/MethodHandle" ∧ yX5_out.cls ≠ "java/lang/invoke/VarHandle" ∧ (parseMethodDescriptor yX5_out.desc).map (fun d => d.parameters.length) = some 3 := by decide +kernel
theorem giL_60 : GoodIn wsG (wsV RL 60 RX6 yX6_out (.code yX6_out cX6_out 7 (some .int) :: wsG)) := gd_V wl_4_146 wl_4_147 wl_4_148 wl_1_7 wl_4_149
theorem ndL_60 : yX6_out.cls = RX6 ∧ yX6_out.cls ≠ "java/lang/invoke/MethodHandle" ∧ yX6_out.cls ≠ "java/lang/invoke/VarHandle" ∧ (parseMethodDescriptor yX6_out.desc).map (fun d => d.parameters.length) = some 3 := by decide +kernel
theorem giL_61 : GoodIn wsG (wsV RL 61 RX5 yX5_open (.code yX5_open cX5_open 3 (some .int) :: wsG)) := gd_V wl_2_226 wl_2_227 wl_2_228 wl_1_1 wl_2_229
theorem ndL_61 : yX5_open.cls = RX5 ∧ yX5_open.cls ≠ "java/lang/invoke/MethodHandle" ∧ yX5_open.cls ≠ "java/lang/invoke/VarHandle" ∧ (parseMethodDescriptor yX5_open.desc).map (fun d => d.parameters.length) = some 1 := by decide +kernel
theorem giL_64 : GoodIn wsG (wsV RL 64 RX6 yX6_open (.code yX6_open cX6_open 2 (some .int) :: wsG)) := gd_V wl_4_150 wl_4_151 wl_4_152 wl_1_7 wl_4_153
theorem ndL_64 : yX6_open.cls = RX6 ∧ yX6_open.cls ≠ "java/lang/invoke/MethodHandle" ∧ yX6_open.cls ≠ "java/lang/invoke/VarHandle" ∧ (parseMethodDescriptor yX6_open.desc).map (fun d => d.parameters.length) = some 1 := by decide +kernel
theorem giL_65 : GoodIn wsG (wsV RL 65 RX5 yX5_close (.code yX5_close cX5_close 1 (some .int) :: wsG)) := gd_V wl_2_236 wl_2_237 wl_2_238 wl_1_1 wl_2_239
theorem ndL_65 : yX5_close.cls = RX5 ∧ yX5_close.cls ≠ "java/lang/invoke/MethodHandle" ∧ yX5_close.cls ≠ "java/lang/invoke/VarHandle" ∧ (parseMethodDescriptor yX5_close.desc).map (fun d => d.parameters.length) = some 0 := by decide +kernel
theorem giL_68 : GoodIn wsG (wsV RL 68 RX6 yX6_close (.code yX6_close cX6_close 1 (some .int) :: wsG)) := gd_V wl_4_158 wl_4_159 wl_4_160 wl_1_7 wl_4_161
theorem ndL_68 : yX6_close.cls = RX6 ∧ yX6_close.cls ≠ "java/lang/invoke/MethodHandle" ∧ yX6_close.cls ≠ "java/lang/invoke/VarHandle" ∧ (parseMethodDescriptor yX6_close.desc).map (fun d => d.parameters.length) = some 0 := by decide +kernel
theorem giL_69 : GoodIn wsG (wsV RL 69 RX5 yX5_tell (.code yX5_tell cX5_tell 2 (some .int) :: wsG)) := gd_V wl_3_1 wl_3_2 wl_3_3 wl_1_1 wl_3_4
theorem ndL_69 : yX5_tell.cls = RX5 ∧ yX5_tell.cls ≠ "java/lang/invoke/MethodHandle" ∧ yX5_tell.cls ≠ "java/lang/invoke/VarHandle" ∧ (parseMethodDescriptor yX5_tell.desc).map (fun d => d.parameters.length) = some 1 := by decide +kernel
theorem giL_72 : GoodIn wsG (wsV RL 72 RX6 yX6_tell (.code yX6_tell cX6_tell 2 (some .int) :: wsG)) := gd_V wl_4_162 wl_4_163 wl_4_164 wl_1_7 wl_4_165
theorem ndL_72 : yX6_tell.cls = RX6 ∧ yX6_tell.cls ≠ "java/lang/invoke/MethodHandle" ∧ yX6_tell.cls ≠ "java/lang/invoke/VarHandle" ∧ (parseMethodDescriptor yX6_tell.desc).map (fun d => d.parameters.length) = some 1 := by decide +kernel
theorem giL_75 : GoodIn wsG (wsV RL 75 RX5 yX5_ask (.code yX5_ask cX5_ask 5 (some .int) :: wsG)) := gd_V wl_3_6 wl_3_7 wl_3_8 wl_1_1 wl_3_9
theorem ndL_75 : yX5_ask.cls = RX5 ∧ yX5_ask.cls ≠ "java/lang/invoke/MethodHandle" ∧ yX5_ask.cls ≠ "java/lang/invoke/VarHandle" ∧ (parseMethodDescriptor yX5_ask.desc).map (fun d => d.parameters.length) = some 2 := by decide +kernel
theorem giL_79 : GoodIn wsG (wsV RL 79 RX6 yX6_ask (.code yX6_ask cX6_ask 5 (some .int) :: wsG)) := gd_V wl_4_167 wl_4_168 wl_4_169 wl_1_7 wl_4_170
theorem ndL_79 : yX6_ask.cls = RX6 ∧ yX6_ask.cls ≠ "java/lang/invoke/MethodHandle" ∧ yX6_ask.cls ≠ "java/lang/invoke/VarHandle" ∧ (parseMethodDescriptor yX6_ask.desc).map (fun d => d.parameters.length) = some 2 := by decide +kernel
theorem giL_80 : GoodIn wsG (wsV RL 80 RX5 yX5_drop (.code yX5_drop cX5_drop 1 (some .int) :: wsG)) := gd_V wl_3_20 wl_3_21 wl_3_22 wl_1_1 wl_3_23
theorem ndL_80 : yX5_drop.cls = RX5 ∧ yX5_drop.cls ≠ "java/lang/invoke/MethodHandle" ∧ yX5_drop.cls ≠ "java/lang/invoke/VarHandle" ∧ (parseMethodDescriptor yX5_drop.desc).map (fun d => d.parameters.length) = some 0 := by decide +kernel
theorem giL_83 : GoodIn wsG (wsV RL 83 RX6 yX6_drop (.code yX6_drop cX6_drop 1 (some .int) :: wsG)) := gd_V wl_4_181 wl_4_182 wl_4_183 wl_1_7 wl_4_184
theorem ndL_83 : yX6_drop.cls = RX6 ∧ yX6_drop.cls ≠ "java/lang/invoke/MethodHandle" ∧ yX6_drop.cls ≠ "java/lang/invoke/VarHandle" ∧ (parseMethodDescriptor yX6_drop.desc).map (fun d => d.parameters.length) = some 0 := by decide +kernel
theorem giL_84 : GoodIn wsG (wsV RL 84 RX5 yX5_undo (.code yX5_undo cX5_undo 1 (some .int) :: wsG)) := gd_V wl_3_24 wl_3_25 wl_3_26 wl_1_1 wl_3_27
theorem ndL_84 : yX5_undo.cls = RX5 ∧ yX5_undo.cls ≠ "java/lang/invoke/MethodHandle" ∧ yX5_undo.cls ≠ "java/lang/invoke/VarHandle" ∧ (parseMethodDescriptor yX5_undo.desc).map (fun d => d.parameters.length) = some 0 := by decide +kernel
theorem giL_87 : GoodIn wsG (wsV RL 87 RX6 yX6_undo (.code yX6_undo cX6_undo 2 (some .int) :: wsG)) := gd_V wl_4_185 wl_4_186 wl_4_187 wl_1_7 wl_4_188
theorem ndL_87 : yX6_undo.cls = RX6 ∧ yX6_undo.cls ≠ "java/lang/invoke/MethodHandle" ∧ yX6_undo.cls ≠ "java/lang/invoke/VarHandle" ∧ (parseMethodDescriptor yX6_undo.desc).map (fun d => d.parameters.length) = some 0 := by decide +kernel
theorem giL_88 : GoodIn wsG (wsV RL 88 RX5 yX5_within (.code yX5_within cX5_within 5 (some .int) :: wsG)) := gd_V wl_3_28 wl_3_29 wl_3_30 wl_1_1 wl_3_31
theorem ndL_88 : yX5_within.cls = RX5 ∧ yX5_within.cls ≠ "java/lang/invoke/MethodHandle" ∧ yX5_within.cls ≠ "java/lang/invoke/VarHandle" ∧ (parseMethodDescriptor yX5_within.desc).map (fun d => d.parameters.length) = some 2 := by decide +kernel
theorem giL_91 : GoodIn wsG (wsV RL 91 RX6 yX6_within (.code yX6_within cX6_within 3 (some .int) :: wsG)) := gd_V wl_4_189 wl_4_190 wl_4_191 wl_1_7 wl_4_192
theorem ndL_91 : yX6_within.cls = RX6 ∧ yX6_within.cls ≠ "java/lang/invoke/MethodHandle" ∧ yX6_within.cls ≠ "java/lang/invoke/VarHandle" ∧ (parseMethodDescriptor yX6_within.desc).map (fun d => d.parameters.length) = some 2 := by decide +kernel
theorem giL_92 : GoodIn wsG (wsV RL 92 RX5 yX5_judge (.code yX5_judge cX5_judge 5 (some .int) :: wsG)) := gd_V wl_3_36 wl_3_37 wl_3_38 wl_1_1 wl_3_39
theorem ndL_92 : yX5_judge.cls = RX5 ∧ yX5_judge.cls ≠ "java/lang/invoke/MethodHandle" ∧ yX5_judge.cls ≠ "java/lang/invoke/VarHandle" ∧ (parseMethodDescriptor yX5_judge.desc).map (fun d => d.parameters.length) = some 2 := by decide +kernel
theorem giL_95 : GoodIn wsG (wsV RL 95 RX6 yX6_judge (.code yX6_judge cX6_judge 6 (some .int) :: wsG)) := gd_V wl_4_193 wl_4_194 wl_4_195 wl_1_7 wl_4_196
theorem ndL_95 : yX6_judge.cls = RX6 ∧ yX6_judge.cls ≠ "java/lang/invoke/MethodHandle" ∧ yX6_judge.cls ≠ "java/lang/invoke/VarHandle" ∧ (parseMethodDescriptor yX6_judge.desc).map (fun d => d.parameters.length) = some 2 := by decide +kernel
theorem giL_96 : GoodIn wsG (wsV RL 96 RX5 yX5_see (.code yX5_see cX5_see 3 (some .int) :: wsG)) := gd_V wl_3_48 wl_3_49 wl_3_50 wl_1_1 wl_3_51
theorem ndL_96 : yX5_see.cls = RX5 ∧ yX5_see.cls ≠ "java/lang/invoke/MethodHandle" ∧ yX5_see.cls ≠ "java/lang/invoke/VarHandle" ∧ (parseMethodDescriptor yX5_see.desc).map (fun d => d.parameters.length) = some 2 := by decide +kernel
theorem giL_99 : GoodIn wsG (wsV RL 99 RX6 yX6_see (.code yX6_see cX6_see 3 (some .int) :: wsG)) := gd_V wl_4_205 wl_4_206 wl_4_207 wl_1_7 wl_4_208
theorem ndL_99 : yX6_see.cls = RX6 ∧ yX6_see.cls ≠ "java/lang/invoke/MethodHandle" ∧ yX6_see.cls ≠ "java/lang/invoke/VarHandle" ∧ (parseMethodDescriptor yX6_see.desc).map (fun d => d.parameters.length) = some 2 := by decide +kernel
theorem giL_100 : GoodIn wsG (wsV RL 100 RX5 yX5_unsee (.code yX5_unsee cX5_unsee 2 (some .int) :: wsG)) := gd_V wl_3_52 wl_3_53 wl_3_54 wl_1_1 wl_3_55
theorem ndL_100 : yX5_unsee.cls = RX5 ∧ yX5_unsee.cls ≠ "java/lang/invoke/MethodHandle" ∧ yX5_unsee.cls ≠ "java/lang/invoke/VarHandle" ∧ (parseMethodDescriptor yX5_unsee.desc).map (fun d => d.parameters.length) = some 0 := by decide +kernel
theorem giL_103 : GoodIn wsG (wsV RL 103 RX6 yX6_unsee (.code yX6_unsee cX6_unsee 2 (some .int) :: wsG)) := gd_V wl_4_210 wl_4_211 wl_4_212 wl_1_7 wl_4_213
theorem ndL_103 : yX6_unsee.cls = RX6 ∧ yX6_unsee.cls ≠ "java/lang/invoke/MethodHandle" ∧ yX6_unsee.cls ≠ "java/lang/invoke/VarHandle" ∧ (parseMethodDescriptor yX6_unsee.desc).map (fun d => d.parameters.length) = some 0 := by decide +kernel
theorem giL_104 : GoodIn wsG (wsV RL 104 RX5 yX5_which (.code yX5_which cX5_which 3 (some .int) :: wsG)) := gd_V wl_3_56 wl_3_57 wl_3_58 wl_1_1 wl_3_59
theorem ndL_104 : yX5_which.cls = RX5 ∧ yX5_which.cls ≠ "java/lang/invoke/MethodHandle" ∧ yX5_which.cls ≠ "java/lang/invoke/VarHandle" ∧ (parseMethodDescriptor yX5_which.desc).map (fun d => d.parameters.length) = some 0 := by decide +kernel
theorem giL_107 : GoodIn wsG (wsV RL 107 RX6 yX6_which (.code yX6_which cX6_which 5 (some .int) :: wsG)) := gd_V wl_4_214 wl_4_215 wl_4_216 wl_1_7 wl_4_217
theorem ndL_107 : yX6_which.cls = RX6 ∧ yX6_which.cls ≠ "java/lang/invoke/MethodHandle" ∧ yX6_which.cls ≠ "java/lang/invoke/VarHandle" ∧ (parseMethodDescriptor yX6_which.desc).map (fun d => d.parameters.length) = some 0 := by decide +kernel
theorem giL_108 : GoodIn wsG (wsV RL 108 RX5 yX5_share (.code yX5_share cX5_share 6 (some .int) :: wsG)) := gd_V wl_3_73 wl_3_74 wl_3_75 wl_1_1 wl_3_76
theorem ndL_108 : yX5_share.cls = RX5 ∧ yX5_share.cls ≠ "java/lang/invoke/MethodHandle" ∧ yX5_share.cls ≠ "java/lang/invoke/VarHandle" ∧ (parseMethodDescriptor yX5_share.desc).map (fun d => d.parameters.length) = some 2 := by decide +kernel
theorem giL_112 : GoodIn wsG (wsV RL 112 RX6 yX6_share (.code yX6_share cX6_share 7 (some .int) :: wsG)) := gd_V wl_4_218 wl_4_219 wl_4_220 wl_1_7 wl_4_221
theorem ndL_112 : yX6_share.cls = RX6 ∧ yX6_share.cls ≠ "java/lang/invoke/MethodHandle" ∧ yX6_share.cls ≠ "java/lang/invoke/VarHandle" ∧ (parseMethodDescriptor yX6_share.desc).map (fun d => d.parameters.length) = some 2 := by decide +kernel
theorem giL_113 : GoodIn wsG (wsV RL 113 RX5 yX5_chance (.code yX5_chance cX5_chance 8 (some .int) :: wsG)) := gd_V wl_3_91 wl_3_92 wl_3_93 wl_1_1 wl_3_94
theorem ndL_113 : yX5_chance.cls = RX5 ∧ yX5_chance.cls ≠ "java/lang/invoke/MethodHandle" ∧ yX5_chance.cls ≠ "java/lang/invoke/VarHandle" ∧ (parseMethodDescriptor yX5_chance.desc).map (fun d => d.parameters.length) = some 3 := by decide +kernel
theorem giL_116 : GoodIn wsG (wsV RL 116 RX6 yX6_chance (.code yX6_chance cX6_chance 7 (some .int) :: wsG)) := gd_V wl_4_232 wl_4_233 wl_4_234 wl_1_7 wl_4_235
theorem ndL_116 : yX6_chance.cls = RX6 ∧ yX6_chance.cls ≠ "java/lang/invoke/MethodHandle" ∧ yX6_chance.cls ≠ "java/lang/invoke/VarHandle" ∧ (parseMethodDescriptor yX6_chance.desc).map (fun d => d.parameters.length) = some 3 := by decide +kernel
theorem giL_117 : GoodIn wsG (wsV RL 117 RX5 yX5_seed (.code yX5_seed cX5_seed 5 (some .long) :: wsG)) := gd_V wl_3_103 wl_3_104 wl_3_105 wl_1_1 wl_3_106
theorem ndL_117 : yX5_seed.cls = RX5 ∧ yX5_seed.cls ≠ "java/lang/invoke/MethodHandle" ∧ yX5_seed.cls ≠ "java/lang/invoke/VarHandle" ∧ (parseMethodDescriptor yX5_seed.desc).map (fun d => d.parameters.length) = some 1 := by decide +kernel
theorem giL_121 : GoodIn wsG (wsV RL 121 RX6 yX6_seed (.code yX6_seed cX6_seed 5 (some .long) :: wsG)) := gd_V wl_5_0 wl_5_1 wl_5_2 wl_1_7 wl_5_3
theorem ndL_121 : yX6_seed.cls = RX6 ∧ yX6_seed.cls ≠ "java/lang/invoke/MethodHandle" ∧ yX6_seed.cls ≠ "java/lang/invoke/VarHandle" ∧ (parseMethodDescriptor yX6_seed.desc).map (fun d => d.parameters.length) = some 1 := by decide +kernel
theorem giL_122 : GoodIn wsG (wsV RL 122 RX5 yX5_drawn (.code yX5_drawn cX5_drawn 4 (some .int) :: wsG)) := gd_V wl_3_107 wl_3_108 wl_3_109 wl_1_1 wl_3_110
theorem ndL_122 : yX5_drawn.cls = RX5 ∧ yX5_drawn.cls ≠ "java/lang/invoke/MethodHandle" ∧ yX5_drawn.cls ≠ "java/lang/invoke/VarHandle" ∧ (parseMethodDescriptor yX5_drawn.desc).map (fun d => d.parameters.length) = some 1 := by decide +kernel
theorem giL_125 : GoodIn wsG (wsV RL 125 RX6 yX6_drawn (.code yX6_drawn cX6_drawn 7 (some .int) :: wsG)) := gd_V wl_5_4 wl_5_5 wl_5_6 wl_1_7 wl_5_7
theorem ndL_125 : yX6_drawn.cls = RX6 ∧ yX6_drawn.cls ≠ "java/lang/invoke/MethodHandle" ∧ yX6_drawn.cls ≠ "java/lang/invoke/VarHandle" ∧ (parseMethodDescriptor yX6_drawn.desc).map (fun d => d.parameters.length) = some 1 := by decide +kernel
theorem giL_126 : GoodIn wsG (wsV RL 126 RX5 yX5_keep (.code yX5_keep cX5_keep 2 (some .int) :: wsG)) := gd_V wl_3_117 wl_3_118 wl_3_119 wl_1_1 wl_3_120
theorem ndL_126 : yX5_keep.cls = RX5 ∧ yX5_keep.cls ≠ "java/lang/invoke/MethodHandle" ∧ yX5_keep.cls ≠ "java/lang/invoke/VarHandle" ∧ (parseMethodDescriptor yX5_keep.desc).map (fun d => d.parameters.length) = some 1 := by decide +kernel
theorem giL_129 : GoodIn wsG (wsV RL 129 RX6 yX6_keep (.code yX6_keep cX6_keep 3 (some .int) :: wsG)) := gd_V wl_5_11 wl_5_12 wl_5_13 wl_1_7 wl_5_14
theorem ndL_129 : yX6_keep.cls = RX6 ∧ yX6_keep.cls ≠ "java/lang/invoke/MethodHandle" ∧ yX6_keep.cls ≠ "java/lang/invoke/VarHandle" ∧ (parseMethodDescriptor yX6_keep.desc).map (fun d => d.parameters.length) = some 1 := by decide +kernel
theorem giL_130 : GoodIn wsG (wsV RL 130 RX5 yX5_again (.code yX5_again cX5_again 2 (some .int) :: wsG)) := gd_V wl_3_121 wl_3_122 wl_3_123 wl_1_1 wl_3_124
theorem ndL_130 : yX5_again.cls = RX5 ∧ yX5_again.cls ≠ "java/lang/invoke/MethodHandle" ∧ yX5_again.cls ≠ "java/lang/invoke/VarHandle" ∧ (parseMethodDescriptor yX5_again.desc).map (fun d => d.parameters.length) = some 1 := by decide +kernel
theorem giL_133 : GoodIn wsG (wsV RL 133 RX6 yX6_again (.code yX6_again cX6_again 3 (some .int) :: wsG)) := gd_V wl_5_15 wl_5_16 wl_5_17 wl_1_7 wl_5_18
theorem ndL_133 : yX6_again.cls = RX6 ∧ yX6_again.cls ≠ "java/lang/invoke/MethodHandle" ∧ yX6_again.cls ≠ "java/lang/invoke/VarHandle" ∧ (parseMethodDescriptor yX6_again.desc).map (fun d => d.parameters.length) = some 1 := by decide +kernel
