/-! THE LAW: its cases -/
section LC
variable {p : Program} {l : Launch} {e : Env} {s : State} {m : MethodId} {below : List Frame} {meth : Method} {c : Code} {H : Heap} {locs : List Loc} {cells slots : Nat} {Q : State → Prop}
variable {ls : Array Slot} {D : va_G} {G : z_G} {b L : Nat} {xs : Nat → Int32} {BC i B : Nat} {dc dm : Dt}
set_option maxHeartbeats 4000000 in
set_option maxRecDepth 100000 in
theorem lw_see (h0 : LEn p s m c D G b L xs BC) (hS : LSt D G s BC dc dm H locs) (hl : lv_has ls 4 (llv b BC i)) (hi : i + 4 ≤ L) (hcl : cells ≤ 600000 ∧ slots ≤ 7302250) (hB : B + 100 < 2 ^ 31) (hR : Rel dc dm B)
    (next : ∀ (dc1 dm1 : Dt) (H1 : Heap) (locs1 : List Loc), Rel dc1 dm1 (B + 99) → LSt D G s BC dc1 dm1 H1 locs1 → W p l e room_1 s m #[Value.ref b] below meth c H1 locs1 cells slots Q (F0 m 1003 ls [])) : W p l e room_1 s m #[Value.ref b] below meth c H locs cells slots Q (F0 m 713 ls []) := by
  obtain ⟨hx, hb, hml, hown, hts, hK, hX, hbl, hBC, hL⟩ := id h0
  obtain ⟨r, dc1, dm1, e1, e2, hR1⟩ := p_see hR (xs (i + 1)) (xs (i + 2))
  refine lv_aload_n hx hb dL_law_713 rfl (lv_at hl 2 rfl) ?_
  refine l_arg (j := 1) h0 hS hl (by omega) (by decide) dL_law_714 dL_law_715 dL_law_716 dL_law_717 dL_law_718 ?_
  refine l_arg (j := 2) h0 hS hl (by omega) (by decide) dL_law_719 dL_law_720 dL_law_721 dL_law_722 dL_law_723 ?_
  refine lc_C (As := [.int (xs (i + 1)), .int (xs (i + 2))]) (rest := []) h0 hS (kX5_see (ad := aC BC) (dC_all BC) e1) giL_96 ⟨rfl, rfl⟩ ndL_96 ⟨(Nat.le_of_ble_eq_true rfl), (Nat.le_of_ble_eq_true rfl)⟩ rfl hl.1 rfl (Nat.le_of_ble_eq_true rfl) hcl dL_law_724 (fun H locs hS => ?_)
  refine lv_aload_n hx hb dL_law_727 rfl (lv_at hl 1 rfl) ?_
  refine l_arg (j := 1) h0 hS hl (by omega) (by decide) dL_law_728 dL_law_729 dL_law_730 dL_law_731 dL_law_732 ?_
  refine l_arg (j := 2) h0 hS hl (by omega) (by decide) dL_law_733 dL_law_734 dL_law_735 dL_law_736 dL_law_737 ?_
  refine lc_M (As := [.int (xs (i + 1)), .int (xs (i + 2))]) (rest := [.int r]) h0 hS (kX6_see (ad := aM BC) (dM_all BC) e2) giL_99 ⟨rfl, rfl⟩ ndL_99 ⟨(Nat.le_of_ble_eq_true rfl), (Nat.le_of_ble_eq_true rfl)⟩ rfl hl.1 rfl (Nat.le_of_ble_eq_true rfl) hcl dL_law_738 (fun H locs hS => ?_)
  refine lv_icmp_eq (tgt := 1003) hx hb dL_law_741 (by decide) (fun _ => ?_) (fun hne => absurd rfl hne)
  exact next dc1 dm1 H locs (rel_m (by omega) hR1) hS
set_option maxHeartbeats 4000000 in
set_option maxRecDepth 100000 in
theorem lw_unsee (h0 : LEn p s m c D G b L xs BC) (hS : LSt D G s BC dc dm H locs) (hl : lv_has ls 4 (llv b BC i)) (hi : i + 4 ≤ L) (hcl : cells ≤ 600000 ∧ slots ≤ 7302250) (hB : B + 100 < 2 ^ 31) (hR : Rel dc dm B)
    (next : ∀ (dc1 dm1 : Dt) (H1 : Heap) (locs1 : List Loc), Rel dc1 dm1 (B + 99) → LSt D G s BC dc1 dm1 H1 locs1 → W p l e room_1 s m #[Value.ref b] below meth c H1 locs1 cells slots Q (F0 m 1003 ls [])) : W p l e room_1 s m #[Value.ref b] below meth c H locs cells slots Q (F0 m 746 ls []) := by
  obtain ⟨hx, hb, hml, hown, hts, hK, hX, hbl, hBC, hL⟩ := id h0
  obtain ⟨r, dc1, dm1, e1, e2, hR1⟩ := p_unsee hR 
  refine lv_aload_n hx hb dL_law_746 rfl (lv_at hl 2 rfl) ?_
  refine lc_C (As := []) (rest := []) h0 hS (kX5_unsee (ad := aC BC) (dC_all BC) e1) giL_100 ⟨rfl, rfl⟩ ndL_100 ⟨(Nat.le_of_ble_eq_true rfl), (Nat.le_of_ble_eq_true rfl)⟩ rfl hl.1 rfl (Nat.le_of_ble_eq_true rfl) hcl dL_law_747 (fun H locs hS => ?_)
  refine lv_aload_n hx hb dL_law_750 rfl (lv_at hl 1 rfl) ?_
  refine lc_M (As := []) (rest := [.int r]) h0 hS (kX6_unsee (ad := aM BC) (dM_all BC) e2) giL_103 ⟨rfl, rfl⟩ ndL_103 ⟨(Nat.le_of_ble_eq_true rfl), (Nat.le_of_ble_eq_true rfl)⟩ rfl hl.1 rfl (Nat.le_of_ble_eq_true rfl) hcl dL_law_751 (fun H locs hS => ?_)
  refine lv_icmp_eq (tgt := 1003) hx hb dL_law_754 (by decide) (fun _ => ?_) (fun hne => absurd rfl hne)
  exact next dc1 dm1 H locs (rel_m (by omega) hR1) hS
set_option maxHeartbeats 4000000 in
set_option maxRecDepth 100000 in
theorem lw_which (h0 : LEn p s m c D G b L xs BC) (hS : LSt D G s BC dc dm H locs) (hl : lv_has ls 4 (llv b BC i)) (hi : i + 4 ≤ L) (hcl : cells ≤ 600000 ∧ slots ≤ 7302250) (hB : B + 100 < 2 ^ 31) (hR : Rel dc dm B)
    (next : ∀ (dc1 dm1 : Dt) (H1 : Heap) (locs1 : List Loc), Rel dc1 dm1 (B + 99) → LSt D G s BC dc1 dm1 H1 locs1 → W p l e room_1 s m #[Value.ref b] below meth c H1 locs1 cells slots Q (F0 m 1003 ls [])) : W p l e room_1 s m #[Value.ref b] below meth c H locs cells slots Q (F0 m 759 ls []) := by
  obtain ⟨hx, hb, hml, hown, hts, hK, hX, hbl, hBC, hL⟩ := id h0
  obtain ⟨r, dc1, dm1, e1, e2, hR1⟩ := p_which hR 
  refine lv_aload_n hx hb dL_law_759 rfl (lv_at hl 2 rfl) ?_
  refine lc_C (As := []) (rest := []) h0 hS (kX5_which (ad := aC BC) (dC_all BC) e1) giL_104 ⟨rfl, rfl⟩ ndL_104 ⟨(Nat.le_of_ble_eq_true rfl), (Nat.le_of_ble_eq_true rfl)⟩ rfl hl.1 rfl (Nat.le_of_ble_eq_true rfl) hcl dL_law_760 (fun H locs hS => ?_)
  refine lv_aload_n hx hb dL_law_763 rfl (lv_at hl 1 rfl) ?_
  refine lc_M (As := []) (rest := [.int r]) h0 hS (kX6_which (ad := aM BC) (dM_all BC) e2) giL_107 ⟨rfl, rfl⟩ ndL_107 ⟨(Nat.le_of_ble_eq_true rfl), (Nat.le_of_ble_eq_true rfl)⟩ rfl hl.1 rfl (Nat.le_of_ble_eq_true rfl) hcl dL_law_764 (fun H locs hS => ?_)
  refine lv_icmp_eq (tgt := 1003) hx hb dL_law_767 (by decide) (fun _ => ?_) (fun hne => absurd rfl hne)
  exact next dc1 dm1 H locs (rel_m (by omega) hR1) hS
set_option maxHeartbeats 4000000 in
set_option maxRecDepth 100000 in
theorem lw_share (h0 : LEn p s m c D G b L xs BC) (hS : LSt D G s BC dc dm H locs) (hl : lv_has ls 4 (llv b BC i)) (hi : i + 4 ≤ L) (hcl : cells ≤ 600000 ∧ slots ≤ 7302250) (hB : B + 100 < 2 ^ 31) (hR : Rel dc dm B)
    (next : ∀ (dc1 dm1 : Dt) (H1 : Heap) (locs1 : List Loc), Rel dc1 dm1 (B + 99) → LSt D G s BC dc1 dm1 H1 locs1 → W p l e room_1 s m #[Value.ref b] below meth c H1 locs1 cells slots Q (F0 m 1003 ls [])) : W p l e room_1 s m #[Value.ref b] below meth c H locs cells slots Q (F0 m 772 ls []) := by
  obtain ⟨hx, hb, hml, hown, hts, hK, hX, hbl, hBC, hL⟩ := id h0
  by_cases hw : xs (i + 2) = 0
  · obtain ⟨r, dc1, dm1, e1, e2, hR1⟩ := p_share hR (xs (i + 1)) (0)
    refine lv_aload_n hx hb dL_law_772 rfl (lv_at hl 2 rfl) ?_
    refine l_arg (j := 1) h0 hS hl (by omega) (by decide) dL_law_773 dL_law_774 dL_law_775 dL_law_776 dL_law_777 ?_
    refine l_arg (j := 2) h0 hS hl (by omega) (by decide) dL_law_778 dL_law_779 dL_law_780 dL_law_781 dL_law_782 ?_
    refine lv_if_eq (tgt := 790) hx hb dL_law_783 (by decide) (fun _ => ?_) (fun q => absurd hw q)
    refine lv_iconst (v := 0) hx hb dL_law_790 (by decide) ?_
    refine lc_C (As := [.int (xs (i + 1)), .int (0)]) (rest := []) h0 hS (kX5_share (ad := aC BC) (dC_all BC) (Or.inl rfl) e1) giL_108 ⟨rfl, rfl⟩ ndL_108 ⟨(Nat.le_of_ble_eq_true rfl), (Nat.le_of_ble_eq_true rfl)⟩ rfl hl.1 rfl (Nat.le_of_ble_eq_true rfl) hcl dL_law_791 (fun H locs hS => ?_)
    refine lv_aload_n hx hb dL_law_794 rfl (lv_at hl 1 rfl) ?_
    refine l_arg (j := 1) h0 hS hl (by omega) (by decide) dL_law_795 dL_law_796 dL_law_797 dL_law_798 dL_law_799 ?_
    refine l_arg (j := 2) h0 hS hl (by omega) (by decide) dL_law_800 dL_law_801 dL_law_802 dL_law_803 dL_law_804 ?_
    refine lv_if_eq (tgt := 812) hx hb dL_law_805 (by decide) (fun _ => ?_) (fun q => absurd hw q)
    refine lv_iconst (v := 0) hx hb dL_law_812 (by decide) ?_
    refine lc_M (As := [.int (xs (i + 1)), .int (0)]) (rest := [.int r]) h0 hS (kX6_share (ad := aM BC) (dM_all BC) (Or.inl rfl) e2) giL_112 ⟨rfl, rfl⟩ ndL_112 ⟨(Nat.le_of_ble_eq_true rfl), (Nat.le_of_ble_eq_true rfl)⟩ rfl hl.1 rfl (Nat.le_of_ble_eq_true rfl) hcl dL_law_813 (fun H locs hS => ?_)
    refine lv_icmp_eq (tgt := 1003) hx hb dL_law_816 (by decide) (fun _ => ?_) (fun hne => absurd rfl hne)
    exact next dc1 dm1 H locs (rel_m (by omega) hR1) hS
  · obtain ⟨r, dc1, dm1, e1, e2, hR1⟩ := p_share hR (xs (i + 1)) (1)
    refine lv_aload_n hx hb dL_law_772 rfl (lv_at hl 2 rfl) ?_
    refine l_arg (j := 1) h0 hS hl (by omega) (by decide) dL_law_773 dL_law_774 dL_law_775 dL_law_776 dL_law_777 ?_
    refine l_arg (j := 2) h0 hS hl (by omega) (by decide) dL_law_778 dL_law_779 dL_law_780 dL_law_781 dL_law_782 ?_
    refine lv_if_eq (tgt := 790) hx hb dL_law_783 (by decide) (fun q => absurd q hw) (fun _ => ?_)
    refine lv_iconst (v := 1) hx hb dL_law_786 (by decide) ?_
    refine lv_goto (tgt := 791) hx hb dL_law_787 (by decide) ?_
    refine lc_C (As := [.int (xs (i + 1)), .int (1)]) (rest := []) h0 hS (kX5_share (ad := aC BC) (dC_all BC) (Or.inr rfl) e1) giL_108 ⟨rfl, rfl⟩ ndL_108 ⟨(Nat.le_of_ble_eq_true rfl), (Nat.le_of_ble_eq_true rfl)⟩ rfl hl.1 rfl (Nat.le_of_ble_eq_true rfl) hcl dL_law_791 (fun H locs hS => ?_)
    refine lv_aload_n hx hb dL_law_794 rfl (lv_at hl 1 rfl) ?_
    refine l_arg (j := 1) h0 hS hl (by omega) (by decide) dL_law_795 dL_law_796 dL_law_797 dL_law_798 dL_law_799 ?_
    refine l_arg (j := 2) h0 hS hl (by omega) (by decide) dL_law_800 dL_law_801 dL_law_802 dL_law_803 dL_law_804 ?_
    refine lv_if_eq (tgt := 812) hx hb dL_law_805 (by decide) (fun q => absurd q hw) (fun _ => ?_)
    refine lv_iconst (v := 1) hx hb dL_law_808 (by decide) ?_
    refine lv_goto (tgt := 813) hx hb dL_law_809 (by decide) ?_
    refine lc_M (As := [.int (xs (i + 1)), .int (1)]) (rest := [.int r]) h0 hS (kX6_share (ad := aM BC) (dM_all BC) (Or.inr rfl) e2) giL_112 ⟨rfl, rfl⟩ ndL_112 ⟨(Nat.le_of_ble_eq_true rfl), (Nat.le_of_ble_eq_true rfl)⟩ rfl hl.1 rfl (Nat.le_of_ble_eq_true rfl) hcl dL_law_813 (fun H locs hS => ?_)
    refine lv_icmp_eq (tgt := 1003) hx hb dL_law_816 (by decide) (fun _ => ?_) (fun hne => absurd rfl hne)
    exact next dc1 dm1 H locs (rel_m (by omega) hR1) hS
set_option maxHeartbeats 4000000 in
set_option maxRecDepth 100000 in
theorem lw_chance (h0 : LEn p s m c D G b L xs BC) (hS : LSt D G s BC dc dm H locs) (hl : lv_has ls 4 (llv b BC i)) (hi : i + 4 ≤ L) (hcl : cells ≤ 600000 ∧ slots ≤ 7302250) (hB : B + 100 < 2 ^ 31) (hR : Rel dc dm B)
    (next : ∀ (dc1 dm1 : Dt) (H1 : Heap) (locs1 : List Loc), Rel dc1 dm1 (B + 99) → LSt D G s BC dc1 dm1 H1 locs1 → W p l e room_1 s m #[Value.ref b] below meth c H1 locs1 cells slots Q (F0 m 1003 ls [])) : W p l e room_1 s m #[Value.ref b] below meth c H locs cells slots Q (F0 m 821 ls []) := by
  obtain ⟨hx, hb, hml, hown, hts, hK, hX, hbl, hBC, hL⟩ := id h0
  by_cases hw : xs (i + 3) = 0
  · obtain ⟨r, dc1, dm1, e1, e2, hR1⟩ := p_chance hR (xs (i + 1)) (xs (i + 2)) (0)
    refine lv_aload_n hx hb dL_law_821 rfl (lv_at hl 2 rfl) ?_
    refine l_arg (j := 1) h0 hS hl (by omega) (by decide) dL_law_822 dL_law_823 dL_law_824 dL_law_825 dL_law_826 ?_
    refine l_arg (j := 2) h0 hS hl (by omega) (by decide) dL_law_827 dL_law_828 dL_law_829 dL_law_830 dL_law_831 ?_
    refine l_arg (j := 3) h0 hS hl (by omega) (by decide) dL_law_832 dL_law_833 dL_law_834 dL_law_835 dL_law_836 ?_
    refine lv_if_eq (tgt := 844) hx hb dL_law_837 (by decide) (fun _ => ?_) (fun q => absurd hw q)
    refine lv_iconst (v := 0) hx hb dL_law_844 (by decide) ?_
    refine lc_C (As := [.int (xs (i + 1)), .int (xs (i + 2)), .int (0)]) (rest := []) h0 hS (kX5_chance (ad := aC BC) (dC_all BC) (Or.inl rfl) e1) giL_113 ⟨rfl, rfl⟩ ndL_113 ⟨(Nat.le_of_ble_eq_true rfl), (Nat.le_of_ble_eq_true rfl)⟩ rfl hl.1 rfl (Nat.le_of_ble_eq_true rfl) hcl dL_law_845 (fun H locs hS => ?_)
    refine lv_aload_n hx hb dL_law_848 rfl (lv_at hl 1 rfl) ?_
    refine l_arg (j := 1) h0 hS hl (by omega) (by decide) dL_law_849 dL_law_850 dL_law_851 dL_law_852 dL_law_853 ?_
    refine l_arg (j := 2) h0 hS hl (by omega) (by decide) dL_law_854 dL_law_855 dL_law_856 dL_law_857 dL_law_858 ?_
    refine l_arg (j := 3) h0 hS hl (by omega) (by decide) dL_law_859 dL_law_860 dL_law_861 dL_law_862 dL_law_863 ?_
    refine lv_if_eq (tgt := 871) hx hb dL_law_864 (by decide) (fun _ => ?_) (fun q => absurd hw q)
    refine lv_iconst (v := 0) hx hb dL_law_871 (by decide) ?_
    refine lc_M (As := [.int (xs (i + 1)), .int (xs (i + 2)), .int (0)]) (rest := [.int r]) h0 hS (kX6_chance (ad := aM BC) (dM_all BC) (Or.inl rfl) e2) giL_116 ⟨rfl, rfl⟩ ndL_116 ⟨(Nat.le_of_ble_eq_true rfl), (Nat.le_of_ble_eq_true rfl)⟩ rfl hl.1 rfl (Nat.le_of_ble_eq_true rfl) hcl dL_law_872 (fun H locs hS => ?_)
    refine lv_icmp_eq (tgt := 1003) hx hb dL_law_875 (by decide) (fun _ => ?_) (fun hne => absurd rfl hne)
    exact next dc1 dm1 H locs (rel_m (by omega) hR1) hS
  · obtain ⟨r, dc1, dm1, e1, e2, hR1⟩ := p_chance hR (xs (i + 1)) (xs (i + 2)) (1)
    refine lv_aload_n hx hb dL_law_821 rfl (lv_at hl 2 rfl) ?_
    refine l_arg (j := 1) h0 hS hl (by omega) (by decide) dL_law_822 dL_law_823 dL_law_824 dL_law_825 dL_law_826 ?_
    refine l_arg (j := 2) h0 hS hl (by omega) (by decide) dL_law_827 dL_law_828 dL_law_829 dL_law_830 dL_law_831 ?_
    refine l_arg (j := 3) h0 hS hl (by omega) (by decide) dL_law_832 dL_law_833 dL_law_834 dL_law_835 dL_law_836 ?_
    refine lv_if_eq (tgt := 844) hx hb dL_law_837 (by decide) (fun q => absurd q hw) (fun _ => ?_)
    refine lv_iconst (v := 1) hx hb dL_law_840 (by decide) ?_
    refine lv_goto (tgt := 845) hx hb dL_law_841 (by decide) ?_
    refine lc_C (As := [.int (xs (i + 1)), .int (xs (i + 2)), .int (1)]) (rest := []) h0 hS (kX5_chance (ad := aC BC) (dC_all BC) (Or.inr rfl) e1) giL_113 ⟨rfl, rfl⟩ ndL_113 ⟨(Nat.le_of_ble_eq_true rfl), (Nat.le_of_ble_eq_true rfl)⟩ rfl hl.1 rfl (Nat.le_of_ble_eq_true rfl) hcl dL_law_845 (fun H locs hS => ?_)
    refine lv_aload_n hx hb dL_law_848 rfl (lv_at hl 1 rfl) ?_
    refine l_arg (j := 1) h0 hS hl (by omega) (by decide) dL_law_849 dL_law_850 dL_law_851 dL_law_852 dL_law_853 ?_
    refine l_arg (j := 2) h0 hS hl (by omega) (by decide) dL_law_854 dL_law_855 dL_law_856 dL_law_857 dL_law_858 ?_
    refine l_arg (j := 3) h0 hS hl (by omega) (by decide) dL_law_859 dL_law_860 dL_law_861 dL_law_862 dL_law_863 ?_
    refine lv_if_eq (tgt := 871) hx hb dL_law_864 (by decide) (fun q => absurd q hw) (fun _ => ?_)
    refine lv_iconst (v := 1) hx hb dL_law_867 (by decide) ?_
    refine lv_goto (tgt := 872) hx hb dL_law_868 (by decide) ?_
    refine lc_M (As := [.int (xs (i + 1)), .int (xs (i + 2)), .int (1)]) (rest := [.int r]) h0 hS (kX6_chance (ad := aM BC) (dM_all BC) (Or.inr rfl) e2) giL_116 ⟨rfl, rfl⟩ ndL_116 ⟨(Nat.le_of_ble_eq_true rfl), (Nat.le_of_ble_eq_true rfl)⟩ rfl hl.1 rfl (Nat.le_of_ble_eq_true rfl) hcl dL_law_872 (fun H locs hS => ?_)
    refine lv_icmp_eq (tgt := 1003) hx hb dL_law_875 (by decide) (fun _ => ?_) (fun hne => absurd rfl hne)
    exact next dc1 dm1 H locs (rel_m (by omega) hR1) hS
set_option maxHeartbeats 4000000 in
set_option maxRecDepth 100000 in
theorem lw_seed (h0 : LEn p s m c D G b L xs BC) (hS : LSt D G s BC dc dm H locs) (hl : lv_has ls 4 (llv b BC i)) (hi : i + 4 ≤ L) (hcl : cells ≤ 600000 ∧ slots ≤ 7302250) (hB : B + 100 < 2 ^ 31) (hR : Rel dc dm B)
    (next : ∀ (dc1 dm1 : Dt) (H1 : Heap) (locs1 : List Loc), Rel dc1 dm1 (B + 99) → LSt D G s BC dc1 dm1 H1 locs1 → W p l e room_1 s m #[Value.ref b] below meth c H1 locs1 cells slots Q (F0 m 1003 ls [])) : W p l e room_1 s m #[Value.ref b] below meth c H locs cells slots Q (F0 m 880 ls []) := by
  obtain ⟨hx, hb, hml, hown, hts, hK, hX, hbl, hBC, hL⟩ := id h0
  obtain ⟨r, dc1, dm1, e1, e2, hR1⟩ := p_seed hR ((((xs (i + 1)).toInt64 <<< ((32 : Int32).toInt64 &&& 63)) ||| ((xs (i + 2)).toInt64 &&& (4294967295 : Int64))))
  refine lv_aload_n hx hb dL_law_880 rfl (lv_at hl 2 rfl) ?_
  refine l_arg (j := 1) h0 hS hl (by omega) (by decide) dL_law_881 dL_law_882 dL_law_883 dL_law_884 dL_law_885 ?_
  refine lv_i2l (v := (xs (i + 1)).toInt64) hx hb dL_law_886 rfl ?_
  refine lv_bipush (v := 32) hx hb dL_law_887 (by decide) ?_
  refine lv_lshl (v := ((xs (i + 1)).toInt64 <<< ((32 : Int32).toInt64 &&& 63))) hx hb dL_law_889 rfl ?_
  refine l_arg (j := 2) h0 hS hl (by omega) (by decide) dL_law_890 dL_law_891 dL_law_892 dL_law_893 dL_law_894 ?_
  refine lv_i2l (v := (xs (i + 2)).toInt64) hx hb dL_law_895 rfl ?_
  refine lv_ldc2 (v := 4294967295) hx hb hown (hts _ wl_5_19) dL_law_896 ?_
  refine lv_land hx hb dL_law_899 ?_
  refine lv_lor hx hb dL_law_900 ?_
  refine ll_C (As := [.long ((((xs (i + 1)).toInt64 <<< ((32 : Int32).toInt64 &&& 63)) ||| ((xs (i + 2)).toInt64 &&& (4294967295 : Int64))))]) (rest := []) h0 hS (kX5_seed (ad := aC BC) (dC_all BC) e1) giL_117 ⟨rfl, rfl⟩ ndL_117 ⟨(Nat.le_of_ble_eq_true rfl), (Nat.le_of_ble_eq_true rfl)⟩ rfl hl.1 rfl (Nat.le_of_ble_eq_true rfl) hcl dL_law_901 (fun H locs hS => ?_)
  refine lv_aload_n hx hb dL_law_904 rfl (lv_at hl 1 rfl) ?_
  refine l_arg (j := 1) h0 hS hl (by omega) (by decide) dL_law_905 dL_law_906 dL_law_907 dL_law_908 dL_law_909 ?_
  refine lv_i2l (v := (xs (i + 1)).toInt64) hx hb dL_law_910 rfl ?_
  refine lv_bipush (v := 32) hx hb dL_law_911 (by decide) ?_
  refine lv_lshl (v := ((xs (i + 1)).toInt64 <<< ((32 : Int32).toInt64 &&& 63))) hx hb dL_law_913 rfl ?_
  refine l_arg (j := 2) h0 hS hl (by omega) (by decide) dL_law_914 dL_law_915 dL_law_916 dL_law_917 dL_law_918 ?_
  refine lv_i2l (v := (xs (i + 2)).toInt64) hx hb dL_law_919 rfl ?_
  refine lv_ldc2 (v := 4294967295) hx hb hown (hts _ wl_5_19) dL_law_920 ?_
  refine lv_land hx hb dL_law_923 ?_
  refine lv_lor hx hb dL_law_924 ?_
  refine ll_M (As := [.long ((((xs (i + 1)).toInt64 <<< ((32 : Int32).toInt64 &&& 63)) ||| ((xs (i + 2)).toInt64 &&& (4294967295 : Int64))))]) (rest := [.long r]) h0 hS (kX6_seed (ad := aM BC) (dM_all BC) e2) giL_121 ⟨rfl, rfl⟩ ndL_121 ⟨(Nat.le_of_ble_eq_true rfl), (Nat.le_of_ble_eq_true rfl)⟩ rfl hl.1 rfl (Nat.le_of_ble_eq_true rfl) hcl dL_law_925 (fun H locs hS => ?_)
  refine W.lcmp hx hb dL_law_928 ?_
  refine lv_if_eq (tgt := 1003) hx hb dL_law_929 (by decide) (fun _ => ?_) (fun hne => absurd ((lg_eq r r).mpr rfl) hne)
  exact next dc1 dm1 H locs (rel_m (by omega) hR1) hS
set_option maxHeartbeats 4000000 in
set_option maxRecDepth 100000 in
theorem lw_drawn (h0 : LEn p s m c D G b L xs BC) (hS : LSt D G s BC dc dm H locs) (hl : lv_has ls 4 (llv b BC i)) (hi : i + 4 ≤ L) (hcl : cells ≤ 600000 ∧ slots ≤ 7302250) (hB : B + 100 < 2 ^ 31) (hR : Rel dc dm B)
    (next : ∀ (dc1 dm1 : Dt) (H1 : Heap) (locs1 : List Loc), Rel dc1 dm1 (B + 99) → LSt D G s BC dc1 dm1 H1 locs1 → W p l e room_1 s m #[Value.ref b] below meth c H1 locs1 cells slots Q (F0 m 1003 ls [])) : W p l e room_1 s m #[Value.ref b] below meth c H locs cells slots Q (F0 m 934 ls []) := by
  obtain ⟨hx, hb, hml, hown, hts, hK, hX, hbl, hBC, hL⟩ := id h0
  obtain ⟨r, dc1, dm1, e1, e2, hR1⟩ := p_drawn (by omega) hR (xs (i + 1))
  refine lv_aload_n hx hb dL_law_934 rfl (lv_at hl 2 rfl) ?_
  refine l_arg (j := 1) h0 hS hl (by omega) (by decide) dL_law_935 dL_law_936 dL_law_937 dL_law_938 dL_law_939 ?_
  refine lc_C (As := [.int (xs (i + 1))]) (rest := []) h0 hS (kX5_drawn (ad := aC BC) (dC_all BC) e1) giL_122 ⟨rfl, rfl⟩ ndL_122 ⟨(Nat.le_of_ble_eq_true rfl), (Nat.le_of_ble_eq_true rfl)⟩ rfl hl.1 rfl (Nat.le_of_ble_eq_true rfl) hcl dL_law_940 (fun H locs hS => ?_)
  refine lv_aload_n hx hb dL_law_943 rfl (lv_at hl 1 rfl) ?_
  refine l_arg (j := 1) h0 hS hl (by omega) (by decide) dL_law_944 dL_law_945 dL_law_946 dL_law_947 dL_law_948 ?_
  refine lc_M (As := [.int (xs (i + 1))]) (rest := [.int r]) h0 hS (kX6_drawn (ad := aM BC) (dM_all BC) e2) giL_125 ⟨rfl, rfl⟩ ndL_125 ⟨(Nat.le_of_ble_eq_true rfl), (Nat.le_of_ble_eq_true rfl)⟩ rfl hl.1 rfl (Nat.le_of_ble_eq_true rfl) hcl dL_law_949 (fun H locs hS => ?_)
  refine lv_icmp_eq (tgt := 1003) hx hb dL_law_952 (by decide) (fun _ => ?_) (fun hne => absurd rfl hne)
  exact next dc1 dm1 H locs (rel_m (by omega) hR1) hS
set_option maxHeartbeats 4000000 in
set_option maxRecDepth 100000 in
theorem lw_keep (h0 : LEn p s m c D G b L xs BC) (hS : LSt D G s BC dc dm H locs) (hl : lv_has ls 4 (llv b BC i)) (hi : i + 4 ≤ L) (hcl : cells ≤ 600000 ∧ slots ≤ 7302250) (hB : B + 100 < 2 ^ 31) (hR : Rel dc dm B)
    (next : ∀ (dc1 dm1 : Dt) (H1 : Heap) (locs1 : List Loc), Rel dc1 dm1 (B + 99) → LSt D G s BC dc1 dm1 H1 locs1 → W p l e room_1 s m #[Value.ref b] below meth c H1 locs1 cells slots Q (F0 m 1003 ls [])) : W p l e room_1 s m #[Value.ref b] below meth c H locs cells slots Q (F0 m 957 ls []) := by
  obtain ⟨hx, hb, hml, hown, hts, hK, hX, hbl, hBC, hL⟩ := id h0
  obtain ⟨r, dc1, dm1, e1, e2, hR1⟩ := p_keep hR (xs (i + 1))
  refine lv_aload_n hx hb dL_law_957 rfl (lv_at hl 2 rfl) ?_
  refine l_arg (j := 1) h0 hS hl (by omega) (by decide) dL_law_958 dL_law_959 dL_law_960 dL_law_961 dL_law_962 ?_
  refine lc_C (As := [.int (xs (i + 1))]) (rest := []) h0 hS (kX5_keep (ad := aC BC) (dC_all BC) e1) giL_126 ⟨rfl, rfl⟩ ndL_126 ⟨(Nat.le_of_ble_eq_true rfl), (Nat.le_of_ble_eq_true rfl)⟩ rfl hl.1 rfl (Nat.le_of_ble_eq_true rfl) hcl dL_law_963 (fun H locs hS => ?_)
  refine lv_aload_n hx hb dL_law_966 rfl (lv_at hl 1 rfl) ?_
  refine l_arg (j := 1) h0 hS hl (by omega) (by decide) dL_law_967 dL_law_968 dL_law_969 dL_law_970 dL_law_971 ?_
  refine lc_M (As := [.int (xs (i + 1))]) (rest := [.int r]) h0 hS (kX6_keep (ad := aM BC) (dM_all BC) e2) giL_129 ⟨rfl, rfl⟩ ndL_129 ⟨(Nat.le_of_ble_eq_true rfl), (Nat.le_of_ble_eq_true rfl)⟩ rfl hl.1 rfl (Nat.le_of_ble_eq_true rfl) hcl dL_law_972 (fun H locs hS => ?_)
  refine lv_icmp_eq (tgt := 1003) hx hb dL_law_975 (by decide) (fun _ => ?_) (fun hne => absurd rfl hne)
  exact next dc1 dm1 H locs (rel_m (by omega) hR1) hS
set_option maxHeartbeats 4000000 in
set_option maxRecDepth 100000 in
theorem lw_again (h0 : LEn p s m c D G b L xs BC) (hS : LSt D G s BC dc dm H locs) (hl : lv_has ls 4 (llv b BC i)) (hi : i + 4 ≤ L) (hcl : cells ≤ 600000 ∧ slots ≤ 7302250) (hB : B + 100 < 2 ^ 31) (hR : Rel dc dm B)
    (next : ∀ (dc1 dm1 : Dt) (H1 : Heap) (locs1 : List Loc), Rel dc1 dm1 (B + 99) → LSt D G s BC dc1 dm1 H1 locs1 → W p l e room_1 s m #[Value.ref b] below meth c H1 locs1 cells slots Q (F0 m 1003 ls [])) : W p l e room_1 s m #[Value.ref b] below meth c H locs cells slots Q (F0 m 980 ls []) := by
  obtain ⟨hx, hb, hml, hown, hts, hK, hX, hbl, hBC, hL⟩ := id h0
  obtain ⟨r, dc1, dm1, e1, e2, hR1⟩ := p_again hR (xs (i + 1))
  refine lv_aload_n hx hb dL_law_980 rfl (lv_at hl 2 rfl) ?_
  refine l_arg (j := 1) h0 hS hl (by omega) (by decide) dL_law_981 dL_law_982 dL_law_983 dL_law_984 dL_law_985 ?_
  refine lc_C (As := [.int (xs (i + 1))]) (rest := []) h0 hS (kX5_again (ad := aC BC) (dC_all BC) e1) giL_130 ⟨rfl, rfl⟩ ndL_130 ⟨(Nat.le_of_ble_eq_true rfl), (Nat.le_of_ble_eq_true rfl)⟩ rfl hl.1 rfl (Nat.le_of_ble_eq_true rfl) hcl dL_law_986 (fun H locs hS => ?_)
  refine lv_aload_n hx hb dL_law_989 rfl (lv_at hl 1 rfl) ?_
  refine l_arg (j := 1) h0 hS hl (by omega) (by decide) dL_law_990 dL_law_991 dL_law_992 dL_law_993 dL_law_994 ?_
  refine lc_M (As := [.int (xs (i + 1))]) (rest := [.int r]) h0 hS (kX6_again (ad := aM BC) (dM_all BC) e2) giL_133 ⟨rfl, rfl⟩ ndL_133 ⟨(Nat.le_of_ble_eq_true rfl), (Nat.le_of_ble_eq_true rfl)⟩ rfl hl.1 rfl (Nat.le_of_ble_eq_true rfl) hcl dL_law_995 (fun H locs hS => ?_)
  refine lv_icmp_eq (tgt := 1003) hx hb dL_law_998 (by decide) (fun _ => ?_) (fun hne => absurd rfl hne)
  exact next dc1 dm1 H locs (rel_m (by omega) hR1) hS
end LC
