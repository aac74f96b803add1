/-! THE LAW, from its entry -/
theorem wu_1 {w : Cond} {i : Nat} (h : tables_1_1[i]? = some w) : w ∈ lw_tbl := List.mem_append_right _ (List.mem_append_left _ (List.mem_of_getElem? h))
theorem xn_0 {s : State} {a : Array Value} (hts : ∀ w ∈ lw_tbl, w.before a s = true) : XN s :=
  ⟨va_Nw.of rfl (hts _ (wu_1 (i := 27) rfl)), va_Nw.of rfl (hts _ (wu_1 (i := 77) rfl)), va_Nw.of rfl (hts _ (wu_1 (i := 130) rfl)), va_Nw.of rfl (hts _ (wu_1 (i := 161) rfl)), va_AO.of (hts _ (wu_1 (i := 75) rfl)), va_AO.of (hts _ (wu_1 (i := 127) rfl))⟩
theorem ar_p {s : State} {a : Array Value} {ty : FieldType} (h : (Cond.arrayClass ty).before a s = true) : ∃ cA, ArrOfT s cA ty ∧ s.vm.findClass ("[" ++ ty.toString) = some cA := by
  obtain ⟨cA, kA, comp, h1, h2, h3⟩ := Cond.arrayClass_spec h
  exact ⟨cA, fun n z => ⟨fun k h => (by cases h), kA, h2, comp, h3⟩, h1⟩
theorem ar_q {s : State} {C : String} (h : va_AO C s) : ∃ cA, ArrOfT s cA (.object C) ∧ va_RA s cA (.object C) := by
  obtain ⟨comp, cA, kA, h1, -, h3, h4, h5⟩ := Cond.arrayOver_spec h
  exact ⟨cA, fun n z => ⟨fun k h => (by cases h), kA, h3, comp, h4⟩, kA, comp, h3, h4, h1, h5⟩
theorem k_0 {s : State} {a : Array Value} (hts : ∀ w ∈ wsG, w.before a s = true) (hN : XN s) : ∃ (D : va_G) (G : z_G), va_K D vwCl (z_tys G) s := by
  obtain ⟨c0, i0, k0⟩ := u_known hts inX0 (hts _ wl_1_26)
  obtain ⟨c1, i1, k1⟩ := u_known hts inX1 (hts _ wl_1_129)
  obtain ⟨c2, i2, k2⟩ := u_known hts inX2 (hts _ wl_1_76)
  obtain ⟨c3, i3, k3⟩ := u_known hts inX3 (hts _ wl_1_20)
  obtain ⟨c4, i4, k4⟩ := u_known hts inX4 (hts _ wl_1_160)
  obtain ⟨c5, i5, k5⟩ := u_known hts inX5 (hts _ wl_1_12)
  obtain ⟨c6, i6, k6⟩ := u_known hts inX6 (hts _ wl_3_126)
  obtain ⟨g0, a0, b0⟩ := ar_p (hts _ wl_1_73)
  obtain ⟨g1, a1, b1⟩ := ar_p (hts _ wl_1_158)
  obtain ⟨g2, a2, b2⟩ := ar_p (hts _ wl_1_227)
  obtain ⟨g3, a3, b3⟩ := ar_q hN.2.2.2.2.1
  obtain ⟨g4, a4, b4⟩ := ar_q hN.2.2.2.2.2
  refine ⟨(fun k => match k with | 0 => c0 | 1 => c1 | 2 => c2 | 3 => c3 | 4 => c4 | 5 => c5 | _ => c6, fun k => match k with | 0 => i0 | 1 => i1 | 2 => i2 | 3 => i3 | 4 => i4 | 5 => i5 | _ => i6), (g0, g1, g2, g3, g4), ?_, ?_⟩
  · intro k q hq
    match k, hq with
    | 0, hq => cases hq; exact k0
    | 1, hq => cases hq; exact k1
    | 2, hq => cases hq; exact k2
    | 3, hq => cases hq; exact k3
    | 4, hq => cases hq; exact k4
    | 5, hq => cases hq; exact k5
    | 6, hq => cases hq; exact k6
    | k + 7, hq => simp [vwCl] at hq
  · intro k q hq
    match k, hq with
    | 0, hq => cases hq; exact ⟨a0, b0⟩
    | 1, hq => cases hq; exact ⟨a1, b1⟩
    | 2, hq => cases hq; exact ⟨a2, b2⟩
    | 3, hq => cases hq; exact ⟨a3, b3⟩
    | 4, hq => cases hq; exact ⟨a4, b4⟩
    | k + 5, hq => simp [z_tys] at hq
set_option maxHeartbeats 4000000 in
set_option maxRecDepth 100000 in
theorem whole_start {p : Program} {e : Env} {s : State} {m : MethodId} {below : List Frame} {meth : Method} {c : Code} (l : Launch) (hflags : l.flags = flags0) {b L : Nat} {xs : Nat → Int32} (hL : L ≤ 2048) (C0 : lw_At p s m meth c b L xs) : W p l e room_1 s m #[Value.ref b] below meth c s.heap [] 0 0 (lw_Z below #[Value.ref b] s) (entryFrame m ([Value.ref b] : List Value).toArray 4) := by
  obtain ⟨hx, hb, hr, hml, hown, hts0, hX, hbl, hlocks, hgv⟩ := id C0
  have hts : ∀ w ∈ wsG, w.before #[Value.ref b] s = true := fun w h => hts0 w (wsG_in w h)
  have hN : XN s := xn_0 hts0
  obtain ⟨D, G, hK⟩ := k_0 hts hN
  have hown : s.vm.findClass RL = some m.cls := hown
  have hb : c.code = cL_law := hb
  have hS : va_S (XA s.heap.size) s.heap s.heap [] := va_S.rf
  have hl := lv_entry ([.ref b]) (n := 4) (Nat.le_of_ble_eq_true rfl)
  rw [lg_entry_eq]
  generalize (lg_sl ([.ref b]) ++ List.replicate (4 - (lg_sl ([.ref b])).length) Slot.unset).toArray = ls at hl ⊢
  have hl : lv_has ls 4 [(0, .ref b)] := hl
  obtain ⟨BC, hBC⟩ : ∃ BC, BC = s.heap.size := ⟨_, rfl⟩
  refine r_new (D := D) (G := G) (ci := 5) (fs := [.null, .null, .null, .null, .null, .null, .null, .null, .null, .null, .null, .null, .int 0, .int 0, .int 0, .int 0, .long 0]) (h := BC) hx hb hts inX5 tyX5 tyX5_ok hown (hts _ wl_1_11) (hts _ wl_1_12) (hts _ wl_1_1) hK rfl (by decide) (Nat.le_of_ble_eq_true rfl) (Nat.le_of_ble_eq_true rfl) hBC.symm hS dL_law_0 fun H1 z1 g1 o1 hS1 => ?_
  refine lv_dup hx hb dL_law_3 rfl ?_
  refine x_after (va_runI (As := []) (rest := [.ref BC]) ⟨hx, hb, hml, hown, hts⟩ (kX5_init (l := l) (D := D) (G := G) (h := BC)) (cwI 0 hts (gd_ws wl_1_15) rfl rfl rfl (hts _ wl_1_1) (hts _ wl_1_13) (hts _ wl_1_14) rfl (by decide +kernel) ⟨(Nat.le_of_ble_eq_true rfl), (Nat.le_of_ble_eq_true rfl)⟩) (x_pS z1 g1 hK hN) rfl rfl hl.1 rfl (lv_room (Nat.le_of_ble_eq_true rfl)) dL_law_4 ⟨(Nat.le_of_ble_eq_true rfl), (Nat.le_of_ble_eq_true rfl)⟩) hS1 (show s.heap.size ≤ BC by omega) z1 fun H2 locs2 z2 g2 o2 hS2 => ?_
  refine lv_astore_n (lv' := [(1, .ref BC), (0, .ref b)]) hx hb dL_law_7 rfl hl (by decide) rfl (fun ls hl => ?_)
  refine r_new (D := D) (G := G) (ci := 6) (fs := [.null, .int 0, .null, .null, .null, .int 0, .int 0, .null, .null, .null, .null, .int 0, .long 0, .int 0, .null, .null, .null, .null, .int 0, .int 0, .null, .null, .int 0, .null, .int 0, .int 0]) (h := BC + 520) hx hb hts inX6 tyX6 tyX6_ok hown (hts _ wl_3_125) (hts _ wl_3_126) (hts _ wl_1_7) hK rfl (by decide) (Nat.le_of_ble_eq_true rfl) (Nat.le_of_ble_eq_true rfl) z2 hS2 dL_law_8 fun H3 z3 g3 o3 hS3 => ?_
  refine lv_dup hx hb dL_law_11 rfl ?_
  refine va_callv (va_runI (As := []) (rest := [.ref (BC + 520)]) ⟨hx, hb, hml, hown, hts⟩ (kX6_init (l := l) (D := D) (G := G) (h := BC + 520)) (cwI 0 hts (gd_ws wl_3_129) rfl rfl rfl (hts _ wl_1_7) (hts _ wl_3_127) (hts _ wl_3_128) rfl (by decide +kernel) ⟨(Nat.le_of_ble_eq_true rfl), (Nat.le_of_ble_eq_true rfl)⟩) (x_pS z3 g3 hK hN) rfl rfl hl.1 rfl (lv_room (Nat.le_of_ble_eq_true rfl)) dL_law_12 ⟨(Nat.le_of_ble_eq_true rfl), (Nat.le_of_ble_eq_true rfl)⟩) hS3 (fun q _ z => Nat.le_trans (show s.heap.size ≤ BC + 520 by omega) z) (fun q z => Nat.le_trans (show s.heap.size ≤ BC + 520 by omega) z) (fun u t H4 locs4 ht hvm hw hB hz4 hk4 hS4 => ?_)
  have hPm : va_P D vwCl (WM G (aM BC) dM0) H4 := by rw [← ht]; exact hB.1
  have hPc : va_P D vwCl (WC G (aC BC) dC0) H4 := zw_P fun k hk => va_at.kept (va_at.kept (g2 k hk) (o3 _ (by show BC + k < BC + 520; omega))) (hk4 _ (by show BC + k < H3.size; rw [z3]; omega) (fun z => by
    have z : BC + 520 ≤ BC + k := z
    omega))
  refine lv_astore_n (lv' := [(2, .ref (BC + 520)), (1, .ref BC), (0, .ref b)]) hx hb dL_law_15 rfl hl (by decide) rfl (fun ls hl => ?_)
  refine lv_iconst (v := 0) hx hb dL_law_16 (by decide) ?_
  refine lv_istore_n (lv' := llv b BC 0) hx hb dL_law_17 rfl hl (by decide) rfl (fun ls hl => ?_)
  refine W.widen (k := 536) (n := 11112) (Nat.le_of_ble_eq_true rfl) (Nat.le_of_ble_eq_true rfl) ?_
  exact law_loop ⟨hx, hb, hml, hown, hts, hK, hX, hbl, by omega, hL⟩ hr hlocks L 0 (by omega) (by omega) dC0 dM0 H4 locs4 ls rel_0 ⟨hPc, hPm, hS4⟩ hl
