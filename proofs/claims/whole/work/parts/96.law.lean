/-! THE LAW: its loop -/
theorem and31 (x : Int32) : ∃ k, k < 32 ∧ x &&& 31 = nI k := by
  obtain ⟨a, rfl⟩ := nI_all x
  refine ⟨a &&& 31, ?_, nx_and a 31⟩
  have : a &&& 31 ≤ 31 := Nat.and_le_right
  omega
theorem small4 : ∀ L, L < 4 → (nI L - (4 : Int32)).toInt < 0 := by decide +kernel
theorem law_go {L i : Nat} (hL : L ≤ 2048) (hi : i < 2 ^ 31) (h : ¬ (Int32.ofNat L - (4 : Int32)) < nI i) : i + 4 ≤ L := by
  have h : ¬ (nI L - (4 : Int32)) < nI i := h
  by_cases h4 : L < 4
  · refine absurd ?_ h
    rw [i_lt_toInt, nI_toInt hi]
    have := small4 L h4
    omega
  · rw [show nI L - (4 : Int32) = nI (L - 4) from pk_sub (b := 4) (by omega), nI_ltI (by omega) hi] at h
    omega
section LL
variable {p : Program} {l : Launch} {e : Env} {s : State} {m : MethodId} {below : List Frame} {meth : Method} {c : Code} {D : va_G} {G : z_G} {b L : Nat} {xs : Nat → Int32} {BC : Nat}
set_option maxHeartbeats 4000000 in
set_option maxRecDepth 100000 in
/-- the switch -/
theorem law_sw {H : Heap} {locs : List Loc} {cells slots : Nat} {Q : State → Prop} {ls : Array Slot} {i B k : Nat} {dc dm : Dt} (h0 : LEn p s m c D G b L xs BC) (hS : LSt D G s BC dc dm H locs) (hl : lv_has ls 4 (llv b BC i)) (hi : i + 4 ≤ L) (hcl : cells ≤ 600000 ∧ slots ≤ 7302250) (hB : B + 100 < 2 ^ 31) (hR : Rel dc dm B) (hk : k < 32)
    (next : ∀ (dc1 dm1 : Dt) (H1 : Heap) (locs1 : List Loc), Rel dc1 dm1 (B + 99) → LSt D G s BC dc1 dm1 H1 locs1 → W p l e room_1 s m #[Value.ref b] below meth c H1 locs1 cells slots Q (F0 m 1003 ls [])) : W p l e room_1 s m #[Value.ref b] below meth c H locs cells slots Q (F0 m 32 ls [.int (nI k)]) := by
  obtain ⟨hx, hb, -⟩ := id h0
  by_cases h28 : 28 ≤ k
  · refine lv_tableOut (tgt := 1003) hx hb dL_law_32 (Or.inr ?_) (by decide) ?_
    · rw [nI_toInt (by omega)]; omega
    · exact next dc dm H locs (rel_m (by omega) hR) hS
  · rcases (by omega : k = 0 ∨ k = 1 ∨ k = 2 ∨ k = 3 ∨ k = 4 ∨ k = 5 ∨ k = 6 ∨ k = 7 ∨ k = 8 ∨ k = 9 ∨ k = 10 ∨ k = 11 ∨ k = 12 ∨ k = 13 ∨ k = 14 ∨ k = 15 ∨ k = 16 ∨ k = 17 ∨ k = 18 ∨ k = 19 ∨ k = 20 ∨ k = 21 ∨ k = 22 ∨ k = 23 ∨ k = 24 ∨ k = 25 ∨ k = 26 ∨ k = 27) with rfl | rfl | rfl | rfl | rfl | rfl | rfl | rfl | rfl | rfl | rfl | rfl | rfl | rfl | rfl | rfl | rfl | rfl | rfl | rfl | rfl | rfl | rfl | rfl | rfl | rfl | rfl | rfl
    · refine lv_tableIn (off := 128) (tgt := 160) hx hb dL_law_32 (by decide) (by decide) (by decide) (by decide) ?_
      exact lw_write h0 hS hl hi hcl hB hR next
    · refine lv_tableIn (off := 151) (tgt := 183) hx hb dL_law_32 (by decide) (by decide) (by decide) (by decide) ?_
      exact lw_wipe h0 hS hl hi hcl hB hR next
    · refine lv_tableIn (off := 164) (tgt := 196) hx hb dL_law_32 (by decide) (by decide) (by decide) (by decide) ?_
      exact lw_fault h0 hS hl hi hcl hB hR next
    · refine lv_tableIn (off := 177) (tgt := 209) hx hb dL_law_32 (by decide) (by decide) (by decide) (by decide) ?_
      exact lw_task h0 hS hl hi hcl hB hR next
    · refine lv_tableIn (off := 190) (tgt := 222) hx hb dL_law_32 (by decide) (by decide) (by decide) (by decide) ?_
      exact lw_about h0 hS hl hi hcl hB hR next
    · refine lv_tableIn (off := 213) (tgt := 245) hx hb dL_law_32 (by decide) (by decide) (by decide) (by decide) ?_
      exact lw_element h0 hS hl hi hcl hB hR next
    · refine lv_tableIn (off := 246) (tgt := 278) hx hb dL_law_32 (by decide) (by decide) (by decide) (by decide) ?_
      exact lw_path h0 hS hl hi hcl hB hR next
    · refine lv_tableIn (off := 279) (tgt := 311) hx hb dL_law_32 (by decide) (by decide) (by decide) (by decide) ?_
      exact lw_step h0 hS hl hi hcl hB hR next
    · refine lv_tableIn (off := 312) (tgt := 344) hx hb dL_law_32 (by decide) (by decide) (by decide) (by decide) ?_
      exact lw_is h0 hS hl hi hcl hB hR next
    · refine lv_tableIn (off := 345) (tgt := 377) hx hb dL_law_32 (by decide) (by decide) (by decide) (by decide) ?_
      exact lw_ends h0 hS hl hi hcl hB hR next
    · refine lv_tableIn (off := 378) (tgt := 410) hx hb dL_law_32 (by decide) (by decide) (by decide) (by decide) ?_
      exact lw_out h0 hS hl hi hcl hB hR next
    · refine lv_tableIn (off := 437) (tgt := 469) hx hb dL_law_32 (by decide) (by decide) (by decide) (by decide) ?_
      exact lw_open h0 hS hl hi hcl hB hR next
    · refine lv_tableIn (off := 460) (tgt := 492) hx hb dL_law_32 (by decide) (by decide) (by decide) (by decide) ?_
      exact lw_close h0 hS hl hi hcl hB hR next
    · refine lv_tableIn (off := 473) (tgt := 505) hx hb dL_law_32 (by decide) (by decide) (by decide) (by decide) ?_
      exact lw_tell h0 hS hl hi hcl hB hR next
    · refine lv_tableIn (off := 496) (tgt := 528) hx hb dL_law_32 (by decide) (by decide) (by decide) (by decide) ?_
      exact lw_ask h0 hS hl hi hcl hB hR next
    · refine lv_tableIn (off := 559) (tgt := 591) hx hb dL_law_32 (by decide) (by decide) (by decide) (by decide) ?_
      exact lw_drop h0 hS hl hi hcl hB hR next
    · refine lv_tableIn (off := 572) (tgt := 604) hx hb dL_law_32 (by decide) (by decide) (by decide) (by decide) ?_
      exact lw_undo h0 hS hl hi hcl hB hR next
    · refine lv_tableIn (off := 585) (tgt := 617) hx hb dL_law_32 (by decide) (by decide) (by decide) (by decide) ?_
      exact lw_within h0 hS hl hi hcl hB hR next
    · refine lv_tableIn (off := 618) (tgt := 650) hx hb dL_law_32 (by decide) (by decide) (by decide) (by decide) ?_
      exact lw_judge h0 hS hl hi hcl hB hR next
    · refine lv_tableIn (off := 681) (tgt := 713) hx hb dL_law_32 (by decide) (by decide) (by decide) (by decide) ?_
      exact lw_see h0 hS hl hi hcl hB hR next
    · refine lv_tableIn (off := 714) (tgt := 746) hx hb dL_law_32 (by decide) (by decide) (by decide) (by decide) ?_
      exact lw_unsee h0 hS hl hi hcl hB hR next
    · refine lv_tableIn (off := 727) (tgt := 759) hx hb dL_law_32 (by decide) (by decide) (by decide) (by decide) ?_
      exact lw_which h0 hS hl hi hcl hB hR next
    · refine lv_tableIn (off := 740) (tgt := 772) hx hb dL_law_32 (by decide) (by decide) (by decide) (by decide) ?_
      exact lw_share h0 hS hl hi hcl hB hR next
    · refine lv_tableIn (off := 789) (tgt := 821) hx hb dL_law_32 (by decide) (by decide) (by decide) (by decide) ?_
      exact lw_chance h0 hS hl hi hcl hB hR next
    · refine lv_tableIn (off := 848) (tgt := 880) hx hb dL_law_32 (by decide) (by decide) (by decide) (by decide) ?_
      exact lw_seed h0 hS hl hi hcl hB hR next
    · refine lv_tableIn (off := 902) (tgt := 934) hx hb dL_law_32 (by decide) (by decide) (by decide) (by decide) ?_
      exact lw_drawn h0 hS hl hi hcl hB hR next
    · refine lv_tableIn (off := 925) (tgt := 957) hx hb dL_law_32 (by decide) (by decide) (by decide) (by decide) ?_
      exact lw_keep h0 hS hl hi hcl hB hR next
    · refine lv_tableIn (off := 948) (tgt := 980) hx hb dL_law_32 (by decide) (by decide) (by decide) (by decide) ?_
      exact lw_again h0 hS hl hi hcl hB hR next
set_option maxHeartbeats 4000000 in
set_option maxRecDepth 100000 in
theorem law_loop (h0 : LEn p s m c D G b L xs BC) (hr : meth.sig.returnType = ret) (hlocks : meth.locks = false) :
    ∀ (n t : Nat), L ≤ 4 * t + n → 4 * t ≤ L → ∀ (dc dm : Dt) (H : Heap) (locs : List Loc) (ls : Array Slot), Rel dc dm (99 * t) → LSt D G s BC dc dm H locs → lv_has ls 4 (llv b BC (4 * t)) →
      W p l e room_1 s m #[Value.ref b] below meth c H locs 536 11112 (lw_Z below #[Value.ref b] s) (F0 m 18 ls []) := by
  obtain ⟨hx, hb, hml, hown, hts, hK, hX, hbl, hBC, hL⟩ := id h0
  intro n
  induction n with
  | zero =>
    intro t hn ht dc dm H locs ls hR hS hl
    refine lv_iload_n hx hb dL_law_18 rfl (lv_at hl 0 rfl) ?_
    refine lv_aload_n hx hb dL_law_19 rfl (lv_at hl 3 rfl) ?_
    refine va_slen hx hb hX hbl (show ¬ XA s.heap.size b from Nat.not_le.mpr hbl) hS.2.2 dL_law_20 ?_
    refine lv_iconst (v := 4) hx hb dL_law_21 (by decide) ?_
    refine lv_isub hx hb dL_law_22 ?_
    refine lv_icmp_gt (tgt := 1009) hx hb dL_law_23 (by decide) (fun _ => ?_) (fun c1 => ?_)
    · refine lv_iconst (v := 1) hx hb dL_law_1009 (by decide) ?_
      refine va_forget (fun q hq => hS.2.2.2.2 q hq) ?_
      refine W.widen (k := 600000) (n := 7302250) (Nat.le_of_ble_eq_true rfl) (Nat.le_of_ble_eq_true rfl) ?_
      exact lw_ret hx hb hr hlocks dL_law_1010
    · have := law_go hL (by omega) c1
      omega
  | succ n ih =>
    intro t hn ht dc dm H locs ls hR hS hl
    refine lv_iload_n hx hb dL_law_18 rfl (lv_at hl 0 rfl) ?_
    refine lv_aload_n hx hb dL_law_19 rfl (lv_at hl 3 rfl) ?_
    refine va_slen hx hb hX hbl (show ¬ XA s.heap.size b from Nat.not_le.mpr hbl) hS.2.2 dL_law_20 ?_
    refine lv_iconst (v := 4) hx hb dL_law_21 (by decide) ?_
    refine lv_isub hx hb dL_law_22 ?_
    refine lv_icmp_gt (tgt := 1009) hx hb dL_law_23 (by decide) (fun _ => ?_) (fun c1 => ?_)
    · refine lv_iconst (v := 1) hx hb dL_law_1009 (by decide) ?_
      refine va_forget (fun q hq => hS.2.2.2.2 q hq) ?_
      refine W.widen (k := 600000) (n := 7302250) (Nat.le_of_ble_eq_true rfl) (Nat.le_of_ble_eq_true rfl) ?_
      exact lw_ret hx hb hr hlocks dL_law_1010
    · have hi := law_go hL (by omega) c1
      refine lv_aload_n hx hb dL_law_26 rfl (lv_at hl 3 rfl) ?_
      refine lv_iload_n hx hb dL_law_27 rfl (lv_at hl 0 rfl) ?_
      refine va_sld hx hb hX hbl (show ¬ XA s.heap.size b from Nat.not_le.mpr hbl) hS.2.2 (vp_in_nI (show 4 * t < L by omega) (by omega)) dL_law_28 ?_
      refine lv_bipush (v := 31) hx hb dL_law_29 (by decide) ?_
      refine lv_iand hx hb dL_law_31 ?_
      obtain ⟨k, hk, e⟩ := and31 (xs (nI (4 * t)).toNatClampNeg)
      rw [e]
      refine law_sw h0 hS hl hi ⟨Nat.le_of_ble_eq_true rfl, Nat.le_of_ble_eq_true rfl⟩ (by omega) hR hk (fun dc1 dm1 H1 locs1 hR1 hS1 => ?_)
      refine lv_iinc (v := nI (4 * (t + 1))) (lv' := llv b BC (4 * (t + 1))) hx hb dL_law_1003 hl (k := 0) rfl (nI_add (4 * t) 4) (by decide) rfl (fun ls hl => ?_)
      refine lv_goto (tgt := 18) hx hb dL_law_1006 (by decide) ?_
      exact ih (t + 1) (by omega) (by omega) dc1 dm1 H1 locs1 ls hR1 hS1 hl
end LL
