noncomputable def fX0_clear (yd : Dt) (ya0 : Nat) : Option (Dt) :=
  z_nm (z_st yd ya0 5 (0 : Int32)) fun yd1 => z_nm (z_st yd1 ya0 6 (0 : Int32)) fun yd2 => z_nm (z_st yd2 ya0 7 (-9 : Int32)) fun yd3 => z_nm (z_st yd3 ya0 8 (0 : Int32)) fun yd4 => some yd4
set_option maxHeartbeats 4000000 in
set_option maxRecDepth 100000 in
theorem kX0_clear {l : Launch} {D : va_G} {G : z_G} {ad : Nat → Nat} {A : Nat → Prop} (hI : ∀ d, va_D A (WC G ad d)) {yd : Dt} {ya0 : Nat} (yh0 : isEl ya0) {dd : Dt} (h : fX0_clear yd ya0 = some dd) : z_Mv l D G A (WC G ad) yX0_clear cX0_clear 1 (z_rm 0 0) yd [.ref (ad ya0)] dd := by
  refine z_ofv (by decide) (Nat.le_of_ble_eq_true rfl) fun p e s m args below meth c Q hx hb hml hown hts hK hP hRet ls hl => ?_
  have hS : va_S A s.heap s.heap [] := va_S.rf
  have hl : lv_has ls 1 [(0, .ref (ad ya0))] := hl
  have h : (z_nm (z_st yd ya0 5 (0 : Int32)) fun yd1 => z_nm (z_st yd1 ya0 6 (0 : Int32)) fun yd2 => z_nm (z_st yd2 ya0 7 (-9 : Int32)) fun yd3 => z_nm (z_st yd3 ya0 8 (0 : Int32)) fun yd4 => some yd4) = some dd := h
  refine lv_aload_n hx hb dX0_clear_0 rfl (lv_at hl 0 rfl) ?_
  refine lv_iconst (v := (0 : Int32)) hx hb dX0_clear_1 (by decide) ?_
  refine pt_X0_5 hx hb hts hown hK hP hI hS yh0 (hts _ wl_1_43) dX0_clear_2 (fun H locs yd1 e_yd1 hP hS => ?_)
  have h := z_nma e_yd1 h
  refine lv_aload_n hx hb dX0_clear_5 rfl (lv_at hl 0 rfl) ?_
  refine lv_iconst (v := (0 : Int32)) hx hb dX0_clear_6 (by decide) ?_
  refine pt_X0_6 hx hb hts hown hK hP hI hS yh0 (hts _ wl_1_46) dX0_clear_7 (fun H locs yd2 e_yd2 hP hS => ?_)
  have h := z_nma e_yd2 h
  refine lv_aload_n hx hb dX0_clear_10 rfl (lv_at hl 0 rfl) ?_
  refine lv_bipush (v := (-9 : Int32)) hx hb dX0_clear_11 (by decide) ?_
  refine pt_X0_7 hx hb hts hown hK hP hI hS yh0 (hts _ wl_1_49) dX0_clear_13 (fun H locs yd3 e_yd3 hP hS => ?_)
  have h := z_nma e_yd3 h
  refine lv_aload_n hx hb dX0_clear_16 rfl (lv_at hl 0 rfl) ?_
  refine lv_iconst (v := (0 : Int32)) hx hb dX0_clear_17 (by decide) ?_
  refine pt_X0_8 hx hb hts hown hK hP hI hS yh0 (hts _ wl_1_51) dX0_clear_18 (fun H locs yd4 e_yd4 hP hS => ?_)
  have h := z_nma e_yd4 h
  exact hRet _ _ _ _ _ hP hS h dX0_clear_21
noncomputable def fX0_copyFrom (yd : Dt) (ya0 : Nat) (ya1 : Nat) : Option (Dt) :=
  z_gd (z_dc (¬ (yd.1 ya1 6) < 0 ∧ z_ix (yd.1 ya1 6) ≤ 20 ∧ z_ix (yd.1 ya1 6) ≤ 20)) (z_nm (z_cp yd (ya1 + 1) 0 (ya0 + 1) 0 (z_ix (yd.1 ya1 6))) fun yd1 => z_gd (z_dc (¬ (yd1.1 ya1 6) < 0 ∧ z_ix (yd1.1 ya1 6) ≤ 20 ∧ z_ix (yd1.1 ya1 6) ≤ 20)) (z_nm (z_cp yd1 (ya1 + 2) 0 (ya0 + 2) 0 (z_ix (yd1.1 ya1 6))) fun yd2 => z_gd (z_dc (¬ (yd2.1 ya1 6) < 0 ∧ z_ix (yd2.1 ya1 6) ≤ 20 ∧ z_ix (yd2.1 ya1 6) ≤ 20)) (z_nm (z_cp yd2 (ya1 + 3) 0 (ya0 + 3) 0 (z_ix (yd2.1 ya1 6))) fun yd3 => z_gd (z_dc (¬ (yd3.1 ya1 6) < 0 ∧ z_ix (yd3.1 ya1 6) ≤ 20 ∧ z_ix (yd3.1 ya1 6) ≤ 20)) (z_nm (z_cp yd3 (ya1 + 4) 0 (ya0 + 4) 0 (z_ix (yd3.1 ya1 6))) fun yd4 => z_gd (z_dc (¬ (yd4.1 ya1 6) < 0 ∧ z_ix (yd4.1 ya1 6) ≤ 20 ∧ z_ix (yd4.1 ya1 6) ≤ 20)) (z_nm (z_cp yd4 (ya1 + 5) 0 (ya0 + 5) 0 (z_ix (yd4.1 ya1 6))) fun yd5 => z_nm (z_st yd5 ya0 5 (yd5.1 ya1 5)) fun yd6 => z_nm (z_st yd6 ya0 6 (yd6.1 ya1 6)) fun yd7 => z_nm (z_st yd7 ya0 7 (yd7.1 ya1 7)) fun yd8 => z_nm (z_st yd8 ya0 8 (yd8.1 ya1 8)) fun yd9 => some yd9)))))
set_option maxHeartbeats 4000000 in
set_option maxRecDepth 100000 in
theorem kX0_copyFrom {l : Launch} {D : va_G} {G : z_G} {ad : Nat → Nat} {A : Nat → Prop} (hI : ∀ d, va_D A (WC G ad d)) {yd : Dt} {ya0 : Nat} {ya1 : Nat} (yh0 : isEl ya0) (yh1 : isEl ya1) {dd : Dt} (h : fX0_copyFrom yd ya0 ya1 = some dd) : z_Mv l D G A (WC G ad) yX0_copyFrom cX0_copyFrom 2 (z_rm 1 40) yd [.ref (ad ya0), .ref (ad ya1)] dd := by
  refine z_ofv (by decide) (Nat.le_of_ble_eq_true rfl) fun p e s m args below meth c Q hx hb hml hown hts hK hP hRet ls hl => ?_
  have hS : va_S A s.heap s.heap [] := va_S.rf
  have hl : lv_has ls 2 [(0, .ref (ad ya0)), (1, .ref (ad ya1))] := hl
  have h : (z_gd (z_dc (¬ (yd.1 ya1 6) < 0 ∧ z_ix (yd.1 ya1 6) ≤ 20 ∧ z_ix (yd.1 ya1 6) ≤ 20)) (z_nm (z_cp yd (ya1 + 1) 0 (ya0 + 1) 0 (z_ix (yd.1 ya1 6))) fun yd1 => z_gd (z_dc (¬ (yd1.1 ya1 6) < 0 ∧ z_ix (yd1.1 ya1 6) ≤ 20 ∧ z_ix (yd1.1 ya1 6) ≤ 20)) (z_nm (z_cp yd1 (ya1 + 2) 0 (ya0 + 2) 0 (z_ix (yd1.1 ya1 6))) fun yd2 => z_gd (z_dc (¬ (yd2.1 ya1 6) < 0 ∧ z_ix (yd2.1 ya1 6) ≤ 20 ∧ z_ix (yd2.1 ya1 6) ≤ 20)) (z_nm (z_cp yd2 (ya1 + 3) 0 (ya0 + 3) 0 (z_ix (yd2.1 ya1 6))) fun yd3 => z_gd (z_dc (¬ (yd3.1 ya1 6) < 0 ∧ z_ix (yd3.1 ya1 6) ≤ 20 ∧ z_ix (yd3.1 ya1 6) ≤ 20)) (z_nm (z_cp yd3 (ya1 + 4) 0 (ya0 + 4) 0 (z_ix (yd3.1 ya1 6))) fun yd4 => z_gd (z_dc (¬ (yd4.1 ya1 6) < 0 ∧ z_ix (yd4.1 ya1 6) ≤ 20 ∧ z_ix (yd4.1 ya1 6) ≤ 20)) (z_nm (z_cp yd4 (ya1 + 5) 0 (ya0 + 5) 0 (z_ix (yd4.1 ya1 6))) fun yd5 => z_nm (z_st yd5 ya0 5 (yd5.1 ya1 5)) fun yd6 => z_nm (z_st yd6 ya0 6 (yd6.1 ya1 6)) fun yd7 => z_nm (z_st yd7 ya0 7 (yd7.1 ya1 7)) fun yd8 => z_nm (z_st yd8 ya0 8 (yd8.1 ya1 8)) fun yd9 => some yd9)))))) = some dd := h
  refine lv_aload_n hx hb dX0_copyFrom_0 rfl (lv_at hl 1 rfl) ?_
  refine gt_X0_0 hx hb hts hown hK hP yh1 (hts _ wl_1_31) dX0_copyFrom_1 ?_
  refine lv_iconst (v := (0 : Int32)) hx hb dX0_copyFrom_4 (by decide) ?_
  refine lv_aload_n hx hb dX0_copyFrom_5 rfl (lv_at hl 0 rfl) ?_
  refine gt_X0_0 hx hb hts hown hK hP yh0 (hts _ wl_1_31) dX0_copyFrom_6 ?_
  refine lv_iconst (v := (0 : Int32)) hx hb dX0_copyFrom_9 (by decide) ?_
  refine lv_aload_n hx hb dX0_copyFrom_10 rfl (lv_at hl 1 rfl) ?_
  refine gt_X0_6 hx hb hts hown hK hP yh1 (hts _ wl_1_46) dX0_copyFrom_11 ?_
  obtain ⟨yg14, h⟩ := z_gp h
  refine ac_C hx hb (hml.trans hl.1.symm) hown hts wl_2_161 hK hP hI hS (ar_el1 yh1) (by decide) (ar_el1 yh0) (by decide) yg14.1 yg14.2.1 yg14.2.2 (Nat.le_of_ble_eq_true rfl) (Nat.le_of_ble_eq_true rfl) dX0_copyFrom_14 (fun H locs yd1 e_yd1 hP hS => ?_)
  have h := z_nma e_yd1 h
  refine lv_aload_n hx hb dX0_copyFrom_17 rfl (lv_at hl 1 rfl) ?_
  refine gt_X0_1 hx hb hts hown hK hP yh1 (hts _ wl_1_34) dX0_copyFrom_18 ?_
  refine lv_iconst (v := (0 : Int32)) hx hb dX0_copyFrom_21 (by decide) ?_
  refine lv_aload_n hx hb dX0_copyFrom_22 rfl (lv_at hl 0 rfl) ?_
  refine gt_X0_1 hx hb hts hown hK hP yh0 (hts _ wl_1_34) dX0_copyFrom_23 ?_
  refine lv_iconst (v := (0 : Int32)) hx hb dX0_copyFrom_26 (by decide) ?_
  refine lv_aload_n hx hb dX0_copyFrom_27 rfl (lv_at hl 1 rfl) ?_
  refine gt_X0_6 hx hb hts hown hK hP yh1 (hts _ wl_1_46) dX0_copyFrom_28 ?_
  obtain ⟨yg31, h⟩ := z_gp h
  refine ac_C hx hb (hml.trans hl.1.symm) hown hts wl_2_161 hK hP hI hS (ar_el2 yh1) (by decide) (ar_el2 yh0) (by decide) yg31.1 yg31.2.1 yg31.2.2 (Nat.le_of_ble_eq_true rfl) (Nat.le_of_ble_eq_true rfl) dX0_copyFrom_31 (fun H locs yd2 e_yd2 hP hS => ?_)
  have h := z_nma e_yd2 h
  refine lv_aload_n hx hb dX0_copyFrom_34 rfl (lv_at hl 1 rfl) ?_
  refine gt_X0_2 hx hb hts hown hK hP yh1 (hts _ wl_1_37) dX0_copyFrom_35 ?_
  refine lv_iconst (v := (0 : Int32)) hx hb dX0_copyFrom_38 (by decide) ?_
  refine lv_aload_n hx hb dX0_copyFrom_39 rfl (lv_at hl 0 rfl) ?_
  refine gt_X0_2 hx hb hts hown hK hP yh0 (hts _ wl_1_37) dX0_copyFrom_40 ?_
  refine lv_iconst (v := (0 : Int32)) hx hb dX0_copyFrom_43 (by decide) ?_
  refine lv_aload_n hx hb dX0_copyFrom_44 rfl (lv_at hl 1 rfl) ?_
  refine gt_X0_6 hx hb hts hown hK hP yh1 (hts _ wl_1_46) dX0_copyFrom_45 ?_
  obtain ⟨yg48, h⟩ := z_gp h
  refine ac_C hx hb (hml.trans hl.1.symm) hown hts wl_2_161 hK hP hI hS (ar_el3 yh1) (by decide) (ar_el3 yh0) (by decide) yg48.1 yg48.2.1 yg48.2.2 (Nat.le_of_ble_eq_true rfl) (Nat.le_of_ble_eq_true rfl) dX0_copyFrom_48 (fun H locs yd3 e_yd3 hP hS => ?_)
  have h := z_nma e_yd3 h
  refine lv_aload_n hx hb dX0_copyFrom_51 rfl (lv_at hl 1 rfl) ?_
  refine gt_X0_3 hx hb hts hown hK hP yh1 (hts _ wl_1_39) dX0_copyFrom_52 ?_
  refine lv_iconst (v := (0 : Int32)) hx hb dX0_copyFrom_55 (by decide) ?_
  refine lv_aload_n hx hb dX0_copyFrom_56 rfl (lv_at hl 0 rfl) ?_
  refine gt_X0_3 hx hb hts hown hK hP yh0 (hts _ wl_1_39) dX0_copyFrom_57 ?_
  refine lv_iconst (v := (0 : Int32)) hx hb dX0_copyFrom_60 (by decide) ?_
  refine lv_aload_n hx hb dX0_copyFrom_61 rfl (lv_at hl 1 rfl) ?_
  refine gt_X0_6 hx hb hts hown hK hP yh1 (hts _ wl_1_46) dX0_copyFrom_62 ?_
  obtain ⟨yg65, h⟩ := z_gp h
  refine ac_C hx hb (hml.trans hl.1.symm) hown hts wl_2_161 hK hP hI hS (ar_el4 yh1) (by decide) (ar_el4 yh0) (by decide) yg65.1 yg65.2.1 yg65.2.2 (Nat.le_of_ble_eq_true rfl) (Nat.le_of_ble_eq_true rfl) dX0_copyFrom_65 (fun H locs yd4 e_yd4 hP hS => ?_)
  have h := z_nma e_yd4 h
  refine lv_aload_n hx hb dX0_copyFrom_68 rfl (lv_at hl 1 rfl) ?_
  refine gt_X0_4 hx hb hts hown hK hP yh1 (hts _ wl_1_41) dX0_copyFrom_69 ?_
  refine lv_iconst (v := (0 : Int32)) hx hb dX0_copyFrom_72 (by decide) ?_
  refine lv_aload_n hx hb dX0_copyFrom_73 rfl (lv_at hl 0 rfl) ?_
  refine gt_X0_4 hx hb hts hown hK hP yh0 (hts _ wl_1_41) dX0_copyFrom_74 ?_
  refine lv_iconst (v := (0 : Int32)) hx hb dX0_copyFrom_77 (by decide) ?_
  refine lv_aload_n hx hb dX0_copyFrom_78 rfl (lv_at hl 1 rfl) ?_
  refine gt_X0_6 hx hb hts hown hK hP yh1 (hts _ wl_1_46) dX0_copyFrom_79 ?_
  obtain ⟨yg82, h⟩ := z_gp h
  refine ac_C hx hb (hml.trans hl.1.symm) hown hts wl_2_161 hK hP hI hS (ar_el5 yh1) (by decide) (ar_el5 yh0) (by decide) yg82.1 yg82.2.1 yg82.2.2 (Nat.le_of_ble_eq_true rfl) (Nat.le_of_ble_eq_true rfl) dX0_copyFrom_82 (fun H locs yd5 e_yd5 hP hS => ?_)
  have h := z_nma e_yd5 h
  refine lv_aload_n hx hb dX0_copyFrom_85 rfl (lv_at hl 0 rfl) ?_
  refine lv_aload_n hx hb dX0_copyFrom_86 rfl (lv_at hl 1 rfl) ?_
  refine gt_X0_5 hx hb hts hown hK hP yh1 (hts _ wl_1_43) dX0_copyFrom_87 ?_
  refine pt_X0_5 hx hb hts hown hK hP hI hS yh0 (hts _ wl_1_43) dX0_copyFrom_90 (fun H locs yd6 e_yd6 hP hS => ?_)
  have h := z_nma e_yd6 h
  refine lv_aload_n hx hb dX0_copyFrom_93 rfl (lv_at hl 0 rfl) ?_
  refine lv_aload_n hx hb dX0_copyFrom_94 rfl (lv_at hl 1 rfl) ?_
  refine gt_X0_6 hx hb hts hown hK hP yh1 (hts _ wl_1_46) dX0_copyFrom_95 ?_
  refine pt_X0_6 hx hb hts hown hK hP hI hS yh0 (hts _ wl_1_46) dX0_copyFrom_98 (fun H locs yd7 e_yd7 hP hS => ?_)
  have h := z_nma e_yd7 h
  refine lv_aload_n hx hb dX0_copyFrom_101 rfl (lv_at hl 0 rfl) ?_
  refine lv_aload_n hx hb dX0_copyFrom_102 rfl (lv_at hl 1 rfl) ?_
  refine gt_X0_7 hx hb hts hown hK hP yh1 (hts _ wl_1_49) dX0_copyFrom_103 ?_
  refine pt_X0_7 hx hb hts hown hK hP hI hS yh0 (hts _ wl_1_49) dX0_copyFrom_106 (fun H locs yd8 e_yd8 hP hS => ?_)
  have h := z_nma e_yd8 h
  refine lv_aload_n hx hb dX0_copyFrom_109 rfl (lv_at hl 0 rfl) ?_
  refine lv_aload_n hx hb dX0_copyFrom_110 rfl (lv_at hl 1 rfl) ?_
  refine gt_X0_8 hx hb hts hown hK hP yh1 (hts _ wl_1_51) dX0_copyFrom_111 ?_
  refine pt_X0_8 hx hb hts hown hK hP hI hS yh0 (hts _ wl_1_51) dX0_copyFrom_114 (fun H locs yd9 e_yd9 hP hS => ?_)
  have h := z_nma e_yd9 h
  exact hRet _ _ _ _ _ hP hS h dX0_copyFrom_117
noncomputable def fX0_currentDepth (yd : Dt) (ya0 : Nat) : Option Int32 :=
  zif (0 ≤ (yd.1 ya0 7)) (z_gd (z_in (yd.1 ya0 7) 20) (some (yd.1 (ya0 + 3) (z_ix (yd.1 ya0 7))))) (some (0 : Int32))
set_option maxHeartbeats 4000000 in
set_option maxRecDepth 100000 in
theorem kX0_currentDepth {l : Launch} {D : va_G} {G : z_G} {ad : Nat → Nat} {A : Nat → Prop} (hI : ∀ d, va_D A (WC G ad d)) {yd : Dt} {ya0 : Nat} (yh0 : isEl ya0) {rr : Int32} (h : fX0_currentDepth yd ya0 = some rr) : z_Mi l D G A (WC G ad) yX0_currentDepth cX0_currentDepth 1 (z_rm 0 0) yd [.ref (ad ya0)] rr yd := by
  refine z_ofi (by decide) (Nat.le_of_ble_eq_true rfl) fun p e s m args below meth c Q hx hb hml hown hts hK hP hRet ls hl => ?_
  have hS : va_S A s.heap s.heap [] := va_S.rf
  have hl : lv_has ls 1 [(0, .ref (ad ya0))] := hl
  have h : (zif (0 ≤ (yd.1 ya0 7)) (z_gd (z_in (yd.1 ya0 7) 20) (some (yd.1 (ya0 + 3) (z_ix (yd.1 ya0 7))))) (some (0 : Int32))) = some rr := h
  refine lv_aload_n hx hb dX0_currentDepth_0 rfl (lv_at hl 0 rfl) ?_
  refine gt_X0_7 hx hb hts hown hK hP yh0 (hts _ wl_1_49) dX0_currentDepth_1 ?_
  refine lv_if_ge (tgt := 11) hx hb dX0_currentDepth_4 (by decide) (fun yc4 => ?_) (fun yc4 => ?_)
  · have h := z_ifp yc4 h
    refine lv_aload_n hx hb dX0_currentDepth_11 rfl (lv_at hl 0 rfl) ?_
    refine gt_X0_2 hx hb hts hown hK hP yh0 (hts _ wl_1_37) dX0_currentDepth_12 ?_
    refine lv_aload_n hx hb dX0_currentDepth_15 rfl (lv_at hl 0 rfl) ?_
    refine gt_X0_7 hx hb hts hown hK hP yh0 (hts _ wl_1_49) dX0_currentDepth_16 ?_
    obtain ⟨yg19, h⟩ := z_gi h
    refine al_C hx hb hK hP (ar_el3 yh0) (by decide) yg19 dX0_currentDepth_19 ?_
    exact hRet _ _ _ _ _ _ hP hS (z_pair h) dX0_currentDepth_20
  · have h := z_ifn yc4 h
    refine lv_iconst (v := (0 : Int32)) hx hb dX0_currentDepth_7 (by decide) ?_
    refine lv_goto (tgt := 20) hx hb dX0_currentDepth_8 (by decide) ?_
    exact hRet _ _ _ _ _ _ hP hS (z_pair h) dX0_currentDepth_20
noncomputable def jX0_openRefusal_19 (yd : Dt) (ya0 : Nat) (yv1 : Int32) : Option Int32 :=
  zif (yv1 = 0) (z_br (fX0_currentDepth yd ya0) fun yr2 => zif (yr2 < (8 : Int32)) (zif ((yd.1 ya0 6) < (20 : Int32)) (some (-9 : Int32)) (some (-4 : Int32))) (some (-3 : Int32))) (some (-3 : Int32))
noncomputable def jX0_openRefusal_18 (yd : Dt) (ya0 : Nat) : Option Int32 :=
  jX0_openRefusal_19 yd ya0 (0 : Int32)
noncomputable def fX0_openRefusal (yd : Dt) (ya0 : Nat) : Option Int32 :=
  zif ((yd.1 ya0 6) ≤ 0) (jX0_openRefusal_18 yd ya0) (zif (0 ≤ (yd.1 ya0 7)) (jX0_openRefusal_18 yd ya0) (jX0_openRefusal_19 yd ya0 (1 : Int32)))
set_option maxHeartbeats 4000000 in
set_option maxRecDepth 100000 in
theorem kX0_openRefusal {l : Launch} {D : va_G} {G : z_G} {ad : Nat → Nat} {A : Nat → Prop} (hI : ∀ d, va_D A (WC G ad d)) {yd : Dt} {ya0 : Nat} (yh0 : isEl ya0) {rr : Int32} (h : fX0_openRefusal yd ya0 = some rr) : z_Mi l D G A (WC G ad) yX0_openRefusal cX0_openRefusal 2 (z_rm 1 20) yd [.ref (ad ya0)] rr yd := by
  refine z_ofi (by decide) (Nat.le_of_ble_eq_true rfl) fun p e s m args below meth c Q hx hb hml hown hts hK hP hRet ls hl => ?_
  have hS : va_S A s.heap s.heap [] := va_S.rf
  have hl : lv_has ls 2 [(0, .ref (ad ya0))] := hl
  have h : (zif ((yd.1 ya0 6) ≤ 0) (jX0_openRefusal_18 yd ya0) (zif (0 ≤ (yd.1 ya0 7)) (jX0_openRefusal_18 yd ya0) (jX0_openRefusal_19 yd ya0 (1 : Int32)))) = some rr := h
  refine lv_aload_n hx hb dX0_openRefusal_0 rfl (lv_at hl 0 rfl) ?_
  refine gt_X0_6 hx hb hts hown hK hP yh0 (hts _ wl_1_46) dX0_openRefusal_1 ?_
  have hJ19 : ∀ (yv1 : Int32) (H : Heap) (locs : List Loc) (ls : Array Slot), jX0_openRefusal_19 yd ya0 yv1 = some rr → va_P D vwCl (WC G ad yd) H → va_S A s.heap H locs → lv_has ls 2 [(0, .ref (ad ya0))] → W p l e (z_rm 1 20) s m args below meth c H locs 0 0 Q (F0 m 19 ls [.int yv1]) := by
    intro yv1 H locs ls h hP hS hl
    have h : (zif (yv1 = 0) (z_br (fX0_currentDepth yd ya0) fun yr2 => zif (yr2 < (8 : Int32)) (zif ((yd.1 ya0 6) < (20 : Int32)) (some (-9 : Int32)) (some (-4 : Int32))) (some (-3 : Int32))) (some (-3 : Int32))) = some rr := h
    refine lv_istore_n (lv' := [(1, .int yv1), (0, .ref (ad ya0))]) hx hb dX0_openRefusal_19 rfl hl (by decide) rfl (fun ls hl => ?_)
    refine lv_iload_n hx hb dX0_openRefusal_20 rfl (lv_at hl 0 rfl) ?_
    refine lv_if_ne (tgt := 33) hx hb dX0_openRefusal_21 (by decide) (fun yc21 => ?_) (fun yc21 => ?_)
    · have h := z_ifn yc21 h
      refine lv_bipush (v := (-3 : Int32)) hx hb dX0_openRefusal_33 (by decide) ?_
      exact hRet _ _ _ _ _ _ hP hS (z_pair h) dX0_openRefusal_35
    · have h := z_ifp yc21 h
      refine lv_aload_n hx hb dX0_openRefusal_24 rfl (lv_at hl 1 rfl) ?_
      obtain ⟨yr2, yhc25, h⟩ := z_brx h
      refine z_ki (z_rV (As := []) (rest := []) ⟨hx, hb, hml, hown, hts⟩ hK hP (w_X0 yh0) rfl (kX0_currentDepth hI yh0 yhc25) giX0_46 ⟨rfl, rfl⟩ ndX0_currentDepth ⟨Nat.le_of_ble_eq_true rfl, Nat.le_of_ble_eq_true rfl⟩ rfl hl.1 rfl (Nat.le_of_ble_eq_true rfl) ⟨Nat.le_refl _, Nat.le_refl _⟩ dX0_openRefusal_25) hS (fun H locs hP hS => ?_)
      refine lv_bipush (v := (8 : Int32)) hx hb dX0_openRefusal_28 (by decide) ?_
      refine lv_icmp_lt (tgt := 36) hx hb dX0_openRefusal_30 (by decide) (fun yc30 => ?_) (fun yc30 => ?_)
      · have h := z_ifp yc30 h
        refine lv_aload_n hx hb dX0_openRefusal_36 rfl (lv_at hl 1 rfl) ?_
        refine gt_X0_6 hx hb hts hown hK hP yh0 (hts _ wl_1_46) dX0_openRefusal_37 ?_
        refine lv_bipush (v := (20 : Int32)) hx hb dX0_openRefusal_40 (by decide) ?_
        refine lv_icmp_lt (tgt := 50) hx hb dX0_openRefusal_42 (by decide) (fun yc42 => ?_) (fun yc42 => ?_)
        · have h := z_ifp yc42 h
          refine lv_bipush (v := (-9 : Int32)) hx hb dX0_openRefusal_50 (by decide) ?_
          exact hRet _ _ _ _ _ _ hP hS (z_pair h) dX0_openRefusal_52
        · have h := z_ifn yc42 h
          refine lv_bipush (v := (-4 : Int32)) hx hb dX0_openRefusal_45 (by decide) ?_
          refine lv_goto (tgt := 52) hx hb dX0_openRefusal_47 (by decide) ?_
          exact hRet _ _ _ _ _ _ hP hS (z_pair h) dX0_openRefusal_52
      · have h := z_ifn yc30 h
        refine lv_bipush (v := (-3 : Int32)) hx hb dX0_openRefusal_33 (by decide) ?_
        exact hRet _ _ _ _ _ _ hP hS (z_pair h) dX0_openRefusal_35
  have hJ18 : ∀  (H : Heap) (locs : List Loc) (ls : Array Slot), jX0_openRefusal_18 yd ya0 = some rr → va_P D vwCl (WC G ad yd) H → va_S A s.heap H locs → lv_has ls 2 [(0, .ref (ad ya0))] → W p l e (z_rm 1 20) s m args below meth c H locs 0 0 Q (F0 m 18 ls []) := by
    intro  H locs ls h hP hS hl
    have h : (jX0_openRefusal_19 yd ya0 (0 : Int32)) = some rr := h
    refine lv_iconst (v := (0 : Int32)) hx hb dX0_openRefusal_18 (by decide) ?_
    exact hJ19 _ _ _ _ h hP hS (lv_sub hl [0] rfl)
  refine lv_if_le (tgt := 18) hx hb dX0_openRefusal_4 (by decide) (fun yc4 => ?_) (fun yc4 => ?_)
  · have h := z_ifp yc4 h
    exact hJ18  _ _ _ h hP hS (lv_sub hl [0] rfl)
  · have h := z_ifn yc4 h
    refine lv_aload_n hx hb dX0_openRefusal_7 rfl (lv_at hl 0 rfl) ?_
    refine gt_X0_7 hx hb hts hown hK hP yh0 (hts _ wl_1_49) dX0_openRefusal_8 ?_
    refine lv_if_ge (tgt := 18) hx hb dX0_openRefusal_11 (by decide) (fun yc11 => ?_) (fun yc11 => ?_)
    · have h := z_ifp yc11 h
      exact hJ18  _ _ _ h hP hS (lv_sub hl [0] rfl)
    · have h := z_ifn yc11 h
      refine lv_iconst (v := (1 : Int32)) hx hb dX0_openRefusal_14 (by decide) ?_
      refine lv_goto (tgt := 19) hx hb dX0_openRefusal_15 (by decide) ?_
      exact hJ19 _ _ _ _ h hP hS (lv_sub hl [0] rfl)
noncomputable def jX0_enter_42 (ya0 : Nat) (yx1 : Int32) (yd2 : Dt) : Option (Int32 × Dt) :=
  z_gd (z_in (yd2.1 ya0 6) 20) (z_nm (z_st yd2 (ya0 + 1) (z_ix (yd2.1 ya0 6)) yx1) fun yd3 => z_gd (z_in (yd3.1 ya0 6) 20) (z_nm (z_st yd3 (ya0 + 2) (z_ix (yd3.1 ya0 6)) (yd3.1 ya0 7)) fun yd4 => z_br (fX0_currentDepth yd4 ya0) fun yr5 => z_gd (z_in (yd4.1 ya0 6) 20) (z_nm (z_st yd4 (ya0 + 3) (z_ix (yd4.1 ya0 6)) (yr5 + (1 : Int32))) fun yd6 => z_gd (z_in (yd6.1 ya0 6) 20) (z_nm (z_st yd6 (ya0 + 4) (z_ix (yd6.1 ya0 6)) (0 : Int32)) fun yd7 => z_gd (z_in (yd7.1 ya0 6) 20) (z_nm (z_st yd7 (ya0 + 5) (z_ix (yd7.1 ya0 6)) (0 : Int32)) fun yd8 => z_nm (z_st yd8 ya0 5 ((yd8.1 ya0 5) ||| ((1 : Int32) <<< ((yd8.1 ya0 6) &&& 31)))) fun yd9 => z_nm (z_st yd9 ya0 7 (yd9.1 ya0 6)) fun yd10 => z_nm (z_st yd10 ya0 6 ((yd10.1 ya0 6) + (1 : Int32))) fun yd11 => z_nm (z_st yd11 ya0 8 ((yd11.1 ya0 8) + (1 : Int32))) fun yd12 => some ((1 : Int32), yd12))))))
noncomputable def fX0_enter (yd : Dt) (ya0 : Nat) (yx1 : Int32) : Option (Int32 × Dt) :=
  zif (yx1 < 0) (some ((0 : Int32), yd)) (zif ((5 : Int32) ≤ yx1) (some ((0 : Int32), yd)) (z_br (fX0_openRefusal yd ya0) fun yr1 => zif (yr1 = (-9 : Int32)) (zif ((yd.1 ya0 7) < 0) (jX0_enter_42 ya0 yx1 yd) (z_gd (z_in (yd.1 ya0 7) 20) (z_gd (z_in (yd.1 ya0 7) 20) (z_nm (z_st yd (ya0 + 5) (z_ix (yd.1 ya0 7)) ((yd.1 (ya0 + 5) (z_ix (yd.1 ya0 7))) ||| ((1 : Int32) <<< (yx1 &&& 31)))) fun yd13 => jX0_enter_42 ya0 yx1 yd13)))) (some ((0 : Int32), yd))))
set_option maxHeartbeats 4000000 in
set_option maxRecDepth 100000 in
theorem kX0_enter {l : Launch} {D : va_G} {G : z_G} {ad : Nat → Nat} {A : Nat → Prop} (hI : ∀ d, va_D A (WC G ad d)) {yd : Dt} {ya0 : Nat} {yx1 : Int32} (yh0 : isEl ya0) {rr : Int32} {dd : Dt} (h : fX0_enter yd ya0 yx1 = some (rr, dd)) : z_Mz l D G A (WC G ad) yX0_enter cX0_enter 2 (z_rm 2 41) yd [.ref (ad ya0), .int yx1] rr dd := by
  refine z_ofz (by decide) (Nat.le_of_ble_eq_true rfl) fun p e s m args below meth c Q hx hb hml hown hts hK hP hRet ls hl => ?_
  have hS : va_S A s.heap s.heap [] := va_S.rf
  have hl : lv_has ls 2 [(0, .ref (ad ya0)), (1, .int yx1)] := hl
  have h : (zif (yx1 < 0) (some ((0 : Int32), yd)) (zif ((5 : Int32) ≤ yx1) (some ((0 : Int32), yd)) (z_br (fX0_openRefusal yd ya0) fun yr1 => zif (yr1 = (-9 : Int32)) (zif ((yd.1 ya0 7) < 0) (jX0_enter_42 ya0 yx1 yd) (z_gd (z_in (yd.1 ya0 7) 20) (z_gd (z_in (yd.1 ya0 7) 20) (z_nm (z_st yd (ya0 + 5) (z_ix (yd.1 ya0 7)) ((yd.1 (ya0 + 5) (z_ix (yd.1 ya0 7))) ||| ((1 : Int32) <<< (yx1 &&& 31)))) fun yd13 => jX0_enter_42 ya0 yx1 yd13)))) (some ((0 : Int32), yd))))) = some (rr, dd) := h
  refine lv_iload_n hx hb dX0_enter_0 rfl (lv_at hl 1 rfl) ?_
  refine lv_if_lt (tgt := 18) hx hb dX0_enter_1 (by decide) (fun yc1 => ?_) (fun yc1 => ?_)
  · have h := z_ifp yc1 h
    refine lv_iconst (v := (0 : Int32)) hx hb dX0_enter_18 (by decide) ?_
    exact hRet _ _ _ _ _ _ hP hS (Or.inl rfl) h dX0_enter_19
  · have h := z_ifn yc1 h
    refine lv_iload_n hx hb dX0_enter_4 rfl (lv_at hl 1 rfl) ?_
    refine lv_iconst (v := (5 : Int32)) hx hb dX0_enter_5 (by decide) ?_
    refine lv_icmp_ge (tgt := 18) hx hb dX0_enter_6 (by decide) (fun yc6 => ?_) (fun yc6 => ?_)
    · have h := z_ifp yc6 h
      refine lv_iconst (v := (0 : Int32)) hx hb dX0_enter_18 (by decide) ?_
      exact hRet _ _ _ _ _ _ hP hS (Or.inl rfl) h dX0_enter_19
    · have h := z_ifn yc6 h
      refine lv_aload_n hx hb dX0_enter_9 rfl (lv_at hl 0 rfl) ?_
      obtain ⟨yr1, yhc10, h⟩ := z_brx h
      refine z_ki (z_rV (As := []) (rest := []) ⟨hx, hb, hml, hown, hts⟩ hK hP (w_X0 yh0) rfl (kX0_openRefusal hI yh0 yhc10) giX0_50 ⟨rfl, rfl⟩ ndX0_openRefusal ⟨Nat.le_of_ble_eq_true rfl, Nat.le_of_ble_eq_true rfl⟩ rfl hl.1 rfl (Nat.le_of_ble_eq_true rfl) ⟨Nat.le_refl _, Nat.le_refl _⟩ dX0_enter_10) hS (fun H locs hP hS => ?_)
      refine lv_bipush (v := (-9 : Int32)) hx hb dX0_enter_13 (by decide) ?_
      refine lv_icmp_eq (tgt := 20) hx hb dX0_enter_15 (by decide) (fun yc15 => ?_) (fun yc15 => ?_)
      · have h := z_ifp yc15 h
        refine lv_aload_n hx hb dX0_enter_20 rfl (lv_at hl 0 rfl) ?_
        refine gt_X0_7 hx hb hts hown hK hP yh0 (hts _ wl_1_49) dX0_enter_21 ?_
        have hJ42 : ∀ (yd2 : Dt) (H : Heap) (locs : List Loc) (ls : Array Slot), jX0_enter_42 ya0 yx1 yd2 = some (rr, dd) → va_P D vwCl (WC G ad yd2) H → va_S A s.heap H locs → lv_has ls 2 [(0, .ref (ad ya0)), (1, .int yx1)] → W p l e (z_rm 2 41) s m args below meth c H locs 0 0 Q (F0 m 42 ls []) := by
          intro yd2 H locs ls h hP hS hl
          have h : (z_gd (z_in (yd2.1 ya0 6) 20) (z_nm (z_st yd2 (ya0 + 1) (z_ix (yd2.1 ya0 6)) yx1) fun yd3 => z_gd (z_in (yd3.1 ya0 6) 20) (z_nm (z_st yd3 (ya0 + 2) (z_ix (yd3.1 ya0 6)) (yd3.1 ya0 7)) fun yd4 => z_br (fX0_currentDepth yd4 ya0) fun yr5 => z_gd (z_in (yd4.1 ya0 6) 20) (z_nm (z_st yd4 (ya0 + 3) (z_ix (yd4.1 ya0 6)) (yr5 + (1 : Int32))) fun yd6 => z_gd (z_in (yd6.1 ya0 6) 20) (z_nm (z_st yd6 (ya0 + 4) (z_ix (yd6.1 ya0 6)) (0 : Int32)) fun yd7 => z_gd (z_in (yd7.1 ya0 6) 20) (z_nm (z_st yd7 (ya0 + 5) (z_ix (yd7.1 ya0 6)) (0 : Int32)) fun yd8 => z_nm (z_st yd8 ya0 5 ((yd8.1 ya0 5) ||| ((1 : Int32) <<< ((yd8.1 ya0 6) &&& 31)))) fun yd9 => z_nm (z_st yd9 ya0 7 (yd9.1 ya0 6)) fun yd10 => z_nm (z_st yd10 ya0 6 ((yd10.1 ya0 6) + (1 : Int32))) fun yd11 => z_nm (z_st yd11 ya0 8 ((yd11.1 ya0 8) + (1 : Int32))) fun yd12 => some ((1 : Int32), yd12))))))) = some (rr, dd) := h
          refine lv_aload_n hx hb dX0_enter_42 rfl (lv_at hl 0 rfl) ?_
          refine gt_X0_0 hx hb hts hown hK hP yh0 (hts _ wl_1_31) dX0_enter_43 ?_
          refine lv_aload_n hx hb dX0_enter_46 rfl (lv_at hl 0 rfl) ?_
          refine gt_X0_6 hx hb hts hown hK hP yh0 (hts _ wl_1_46) dX0_enter_47 ?_
          refine lv_iload_n hx hb dX0_enter_50 rfl (lv_at hl 1 rfl) ?_
          obtain ⟨yg51, h⟩ := z_gi h
          refine as_C hx hb hK hP hI hS (ar_el1 yh0) (by decide) yg51 dX0_enter_51 (fun H locs yd3 e_yd3 hP hS => ?_)
          have h := z_nma e_yd3 h
          refine lv_aload_n hx hb dX0_enter_52 rfl (lv_at hl 0 rfl) ?_
          refine gt_X0_1 hx hb hts hown hK hP yh0 (hts _ wl_1_34) dX0_enter_53 ?_
          refine lv_aload_n hx hb dX0_enter_56 rfl (lv_at hl 0 rfl) ?_
          refine gt_X0_6 hx hb hts hown hK hP yh0 (hts _ wl_1_46) dX0_enter_57 ?_
          refine lv_aload_n hx hb dX0_enter_60 rfl (lv_at hl 0 rfl) ?_
          refine gt_X0_7 hx hb hts hown hK hP yh0 (hts _ wl_1_49) dX0_enter_61 ?_
          obtain ⟨yg64, h⟩ := z_gi h
          refine as_C hx hb hK hP hI hS (ar_el2 yh0) (by decide) yg64 dX0_enter_64 (fun H locs yd4 e_yd4 hP hS => ?_)
          have h := z_nma e_yd4 h
          refine lv_aload_n hx hb dX0_enter_65 rfl (lv_at hl 0 rfl) ?_
          refine gt_X0_2 hx hb hts hown hK hP yh0 (hts _ wl_1_37) dX0_enter_66 ?_
          refine lv_aload_n hx hb dX0_enter_69 rfl (lv_at hl 0 rfl) ?_
          refine gt_X0_6 hx hb hts hown hK hP yh0 (hts _ wl_1_46) dX0_enter_70 ?_
          refine lv_aload_n hx hb dX0_enter_73 rfl (lv_at hl 0 rfl) ?_
          obtain ⟨yr5, yhc74, h⟩ := z_brx h
          refine z_ki (z_rV (As := []) (rest := [.int (yd4.1 ya0 6), .ref (ad (ya0 + 3))]) ⟨hx, hb, hml, hown, hts⟩ hK hP (w_X0 yh0) rfl (kX0_currentDepth hI yh0 yhc74) giX0_46 ⟨rfl, rfl⟩ ndX0_currentDepth ⟨Nat.le_of_ble_eq_true rfl, Nat.le_of_ble_eq_true rfl⟩ rfl hl.1 rfl (Nat.le_of_ble_eq_true rfl) ⟨Nat.le_refl _, Nat.le_refl _⟩ dX0_enter_74) hS (fun H locs hP hS => ?_)
          refine lv_iconst (v := (1 : Int32)) hx hb dX0_enter_77 (by decide) ?_
          refine lv_iadd hx hb dX0_enter_78 ?_
          obtain ⟨yg79, h⟩ := z_gi h
          refine as_C hx hb hK hP hI hS (ar_el3 yh0) (by decide) yg79 dX0_enter_79 (fun H locs yd6 e_yd6 hP hS => ?_)
          have h := z_nma e_yd6 h
          refine lv_aload_n hx hb dX0_enter_80 rfl (lv_at hl 0 rfl) ?_
          refine gt_X0_3 hx hb hts hown hK hP yh0 (hts _ wl_1_39) dX0_enter_81 ?_
          refine lv_aload_n hx hb dX0_enter_84 rfl (lv_at hl 0 rfl) ?_
          refine gt_X0_6 hx hb hts hown hK hP yh0 (hts _ wl_1_46) dX0_enter_85 ?_
          refine lv_iconst (v := (0 : Int32)) hx hb dX0_enter_88 (by decide) ?_
          obtain ⟨yg89, h⟩ := z_gi h
          refine as_C hx hb hK hP hI hS (ar_el4 yh0) (by decide) yg89 dX0_enter_89 (fun H locs yd7 e_yd7 hP hS => ?_)
          have h := z_nma e_yd7 h
          refine lv_aload_n hx hb dX0_enter_90 rfl (lv_at hl 0 rfl) ?_
          refine gt_X0_4 hx hb hts hown hK hP yh0 (hts _ wl_1_41) dX0_enter_91 ?_
          refine lv_aload_n hx hb dX0_enter_94 rfl (lv_at hl 0 rfl) ?_
          refine gt_X0_6 hx hb hts hown hK hP yh0 (hts _ wl_1_46) dX0_enter_95 ?_
          refine lv_iconst (v := (0 : Int32)) hx hb dX0_enter_98 (by decide) ?_
          obtain ⟨yg99, h⟩ := z_gi h
          refine as_C hx hb hK hP hI hS (ar_el5 yh0) (by decide) yg99 dX0_enter_99 (fun H locs yd8 e_yd8 hP hS => ?_)
          have h := z_nma e_yd8 h
          refine lv_aload_n hx hb dX0_enter_100 rfl (lv_at hl 0 rfl) ?_
          refine lv_dup hx hb dX0_enter_101 rfl ?_
          refine gt_X0_5 hx hb hts hown hK hP yh0 (hts _ wl_1_43) dX0_enter_102 ?_
          refine lv_iconst (v := (1 : Int32)) hx hb dX0_enter_105 (by decide) ?_
          refine lv_aload_n hx hb dX0_enter_106 rfl (lv_at hl 0 rfl) ?_
          refine gt_X0_6 hx hb hts hown hK hP yh0 (hts _ wl_1_46) dX0_enter_107 ?_
          refine lv_ishl hx hb dX0_enter_110 ?_
          refine lv_ior hx hb dX0_enter_111 ?_
          refine pt_X0_5 hx hb hts hown hK hP hI hS yh0 (hts _ wl_1_43) dX0_enter_112 (fun H locs yd9 e_yd9 hP hS => ?_)
          have h := z_nma e_yd9 h
          refine lv_aload_n hx hb dX0_enter_115 rfl (lv_at hl 0 rfl) ?_
          refine lv_aload_n hx hb dX0_enter_116 rfl (lv_at hl 0 rfl) ?_
          refine gt_X0_6 hx hb hts hown hK hP yh0 (hts _ wl_1_46) dX0_enter_117 ?_
          refine pt_X0_7 hx hb hts hown hK hP hI hS yh0 (hts _ wl_1_49) dX0_enter_120 (fun H locs yd10 e_yd10 hP hS => ?_)
          have h := z_nma e_yd10 h
          refine lv_aload_n hx hb dX0_enter_123 rfl (lv_at hl 0 rfl) ?_
          refine lv_dup hx hb dX0_enter_124 rfl ?_
          refine gt_X0_6 hx hb hts hown hK hP yh0 (hts _ wl_1_46) dX0_enter_125 ?_
          refine lv_iconst (v := (1 : Int32)) hx hb dX0_enter_128 (by decide) ?_
          refine lv_iadd hx hb dX0_enter_129 ?_
          refine pt_X0_6 hx hb hts hown hK hP hI hS yh0 (hts _ wl_1_46) dX0_enter_130 (fun H locs yd11 e_yd11 hP hS => ?_)
          have h := z_nma e_yd11 h
          refine lv_aload_n hx hb dX0_enter_133 rfl (lv_at hl 0 rfl) ?_
          refine lv_dup hx hb dX0_enter_134 rfl ?_
          refine gt_X0_8 hx hb hts hown hK hP yh0 (hts _ wl_1_51) dX0_enter_135 ?_
          refine lv_iconst (v := (1 : Int32)) hx hb dX0_enter_138 (by decide) ?_
          refine lv_iadd hx hb dX0_enter_139 ?_
          refine pt_X0_8 hx hb hts hown hK hP hI hS yh0 (hts _ wl_1_51) dX0_enter_140 (fun H locs yd12 e_yd12 hP hS => ?_)
          have h := z_nma e_yd12 h
          refine lv_iconst (v := (1 : Int32)) hx hb dX0_enter_143 (by decide) ?_
          exact hRet _ _ _ _ _ _ hP hS (Or.inr rfl) h dX0_enter_144
        refine lv_if_lt (tgt := 42) hx hb dX0_enter_24 (by decide) (fun yc24 => ?_) (fun yc24 => ?_)
        · have h := z_ifp yc24 h
          exact hJ42 _ _ _ _ h hP hS (lv_sub hl [0, 1] rfl)
        · have h := z_ifn yc24 h
          refine lv_aload_n hx hb dX0_enter_27 rfl (lv_at hl 0 rfl) ?_
          refine gt_X0_4 hx hb hts hown hK hP yh0 (hts _ wl_1_41) dX0_enter_28 ?_
          refine lv_aload_n hx hb dX0_enter_31 rfl (lv_at hl 0 rfl) ?_
          refine gt_X0_7 hx hb hts hown hK hP yh0 (hts _ wl_1_49) dX0_enter_32 ?_
          refine lv_dup2_11 hx hb dX0_enter_35 rfl rfl ?_
          obtain ⟨yg36, h⟩ := z_gi h
          refine al_C hx hb hK hP (ar_el5 yh0) (by decide) yg36 dX0_enter_36 ?_
          refine lv_iconst (v := (1 : Int32)) hx hb dX0_enter_37 (by decide) ?_
          refine lv_iload_n hx hb dX0_enter_38 rfl (lv_at hl 1 rfl) ?_
          refine lv_ishl hx hb dX0_enter_39 ?_
          refine lv_ior hx hb dX0_enter_40 ?_
          obtain ⟨yg41, h⟩ := z_gi h
          refine as_C hx hb hK hP hI hS (ar_el5 yh0) (by decide) yg41 dX0_enter_41 (fun H locs yd13 e_yd13 hP hS => ?_)
          have h := z_nma e_yd13 h
          exact hJ42 _ _ _ _ h hP hS (lv_sub hl [0, 1] rfl)
      · have h := z_ifn yc15 h
        refine lv_iconst (v := (0 : Int32)) hx hb dX0_enter_18 (by decide) ?_
        exact hRet _ _ _ _ _ _ hP hS (Or.inl rfl) h dX0_enter_19
noncomputable def fX0_leave (yd : Dt) (ya0 : Nat) : Option (Int32 × Dt) :=
  zif (0 ≤ (yd.1 ya0 7)) (z_nm (z_st yd ya0 5 ((yd.1 ya0 5) &&& (((1 : Int32) <<< ((yd.1 ya0 7) &&& 31)) ^^^ (-1 : Int32)))) fun yd1 => z_gd (z_in (yd1.1 ya0 7) 20) (z_nm (z_st yd1 ya0 7 (yd1.1 (ya0 + 2) (z_ix (yd1.1 ya0 7)))) fun yd2 => z_nm (z_st yd2 ya0 8 ((yd2.1 ya0 8) + (1 : Int32))) fun yd3 => some ((1 : Int32), yd3))) (some ((0 : Int32), yd))
set_option maxHeartbeats 4000000 in
set_option maxRecDepth 100000 in
theorem kX0_leave {l : Launch} {D : va_G} {G : z_G} {ad : Nat → Nat} {A : Nat → Prop} (hI : ∀ d, va_D A (WC G ad d)) {yd : Dt} {ya0 : Nat} (yh0 : isEl ya0) {rr : Int32} {dd : Dt} (h : fX0_leave yd ya0 = some (rr, dd)) : z_Mz l D G A (WC G ad) yX0_leave cX0_leave 1 (z_rm 0 0) yd [.ref (ad ya0)] rr dd := by
  refine z_ofz (by decide) (Nat.le_of_ble_eq_true rfl) fun p e s m args below meth c Q hx hb hml hown hts hK hP hRet ls hl => ?_
  have hS : va_S A s.heap s.heap [] := va_S.rf
  have hl : lv_has ls 1 [(0, .ref (ad ya0))] := hl
  have h : (zif (0 ≤ (yd.1 ya0 7)) (z_nm (z_st yd ya0 5 ((yd.1 ya0 5) &&& (((1 : Int32) <<< ((yd.1 ya0 7) &&& 31)) ^^^ (-1 : Int32)))) fun yd1 => z_gd (z_in (yd1.1 ya0 7) 20) (z_nm (z_st yd1 ya0 7 (yd1.1 (ya0 + 2) (z_ix (yd1.1 ya0 7)))) fun yd2 => z_nm (z_st yd2 ya0 8 ((yd2.1 ya0 8) + (1 : Int32))) fun yd3 => some ((1 : Int32), yd3))) (some ((0 : Int32), yd))) = some (rr, dd) := h
  refine lv_aload_n hx hb dX0_leave_0 rfl (lv_at hl 0 rfl) ?_
  refine gt_X0_7 hx hb hts hown hK hP yh0 (hts _ wl_1_49) dX0_leave_1 ?_
  refine lv_if_ge (tgt := 9) hx hb dX0_leave_4 (by decide) (fun yc4 => ?_) (fun yc4 => ?_)
  · have h := z_ifp yc4 h
    refine lv_aload_n hx hb dX0_leave_9 rfl (lv_at hl 0 rfl) ?_
    refine lv_dup hx hb dX0_leave_10 rfl ?_
    refine gt_X0_5 hx hb hts hown hK hP yh0 (hts _ wl_1_43) dX0_leave_11 ?_
    refine lv_iconst (v := (1 : Int32)) hx hb dX0_leave_14 (by decide) ?_
    refine lv_aload_n hx hb dX0_leave_15 rfl (lv_at hl 0 rfl) ?_
    refine gt_X0_7 hx hb hts hown hK hP yh0 (hts _ wl_1_49) dX0_leave_16 ?_
    refine lv_ishl hx hb dX0_leave_19 ?_
    refine lv_iconst (v := (-1 : Int32)) hx hb dX0_leave_20 (by decide) ?_
    refine lv_ixor hx hb dX0_leave_21 ?_
    refine lv_iand hx hb dX0_leave_22 ?_
    refine pt_X0_5 hx hb hts hown hK hP hI hS yh0 (hts _ wl_1_43) dX0_leave_23 (fun H locs yd1 e_yd1 hP hS => ?_)
    have h := z_nma e_yd1 h
    refine lv_aload_n hx hb dX0_leave_26 rfl (lv_at hl 0 rfl) ?_
    refine lv_aload_n hx hb dX0_leave_27 rfl (lv_at hl 0 rfl) ?_
    refine gt_X0_1 hx hb hts hown hK hP yh0 (hts _ wl_1_34) dX0_leave_28 ?_
    refine lv_aload_n hx hb dX0_leave_31 rfl (lv_at hl 0 rfl) ?_
    refine gt_X0_7 hx hb hts hown hK hP yh0 (hts _ wl_1_49) dX0_leave_32 ?_
    obtain ⟨yg35, h⟩ := z_gi h
    refine al_C hx hb hK hP (ar_el2 yh0) (by decide) yg35 dX0_leave_35 ?_
    refine pt_X0_7 hx hb hts hown hK hP hI hS yh0 (hts _ wl_1_49) dX0_leave_36 (fun H locs yd2 e_yd2 hP hS => ?_)
    have h := z_nma e_yd2 h
    refine lv_aload_n hx hb dX0_leave_39 rfl (lv_at hl 0 rfl) ?_
    refine lv_dup hx hb dX0_leave_40 rfl ?_
    refine gt_X0_8 hx hb hts hown hK hP yh0 (hts _ wl_1_51) dX0_leave_41 ?_
    refine lv_iconst (v := (1 : Int32)) hx hb dX0_leave_44 (by decide) ?_
    refine lv_iadd hx hb dX0_leave_45 ?_
    refine pt_X0_8 hx hb hts hown hK hP hI hS yh0 (hts _ wl_1_51) dX0_leave_46 (fun H locs yd3 e_yd3 hP hS => ?_)
    have h := z_nma e_yd3 h
    refine lv_iconst (v := (1 : Int32)) hx hb dX0_leave_49 (by decide) ?_
    exact hRet _ _ _ _ _ _ hP hS (Or.inr rfl) h dX0_leave_50
  · have h := z_ifn yc4 h
    refine lv_iconst (v := (0 : Int32)) hx hb dX0_leave_7 (by decide) ?_
    exact hRet _ _ _ _ _ _ hP hS (Or.inl rfl) h dX0_leave_8
noncomputable def fX0_hold (yd : Dt) (ya0 : Nat) (yx1 : Int32) : Option (Int32 × Dt) :=
  zif (yx1 < 0) (some ((0 : Int32), yd)) (zif ((10 : Int32) ≤ yx1) (some ((0 : Int32), yd)) (zif (0 ≤ (yd.1 ya0 7)) (z_gd (z_in (yd.1 ya0 7) 20) (z_gd (z_in (yd.1 ya0 7) 20) (z_nm (z_st yd (ya0 + 4) (z_ix (yd.1 ya0 7)) ((yd.1 (ya0 + 4) (z_ix (yd.1 ya0 7))) ||| ((1 : Int32) <<< (yx1 &&& 31)))) fun yd1 => z_nm (z_st yd1 ya0 8 ((yd1.1 ya0 8) + (1 : Int32))) fun yd2 => some ((1 : Int32), yd2)))) (some ((0 : Int32), yd))))
set_option maxHeartbeats 4000000 in
set_option maxRecDepth 100000 in
theorem kX0_hold {l : Launch} {D : va_G} {G : z_G} {ad : Nat → Nat} {A : Nat → Prop} (hI : ∀ d, va_D A (WC G ad d)) {yd : Dt} {ya0 : Nat} {yx1 : Int32} (yh0 : isEl ya0) {rr : Int32} {dd : Dt} (h : fX0_hold yd ya0 yx1 = some (rr, dd)) : z_Mz l D G A (WC G ad) yX0_hold cX0_hold 2 (z_rm 0 0) yd [.ref (ad ya0), .int yx1] rr dd := by
  refine z_ofz (by decide) (Nat.le_of_ble_eq_true rfl) fun p e s m args below meth c Q hx hb hml hown hts hK hP hRet ls hl => ?_
  have hS : va_S A s.heap s.heap [] := va_S.rf
  have hl : lv_has ls 2 [(0, .ref (ad ya0)), (1, .int yx1)] := hl
  have h : (zif (yx1 < 0) (some ((0 : Int32), yd)) (zif ((10 : Int32) ≤ yx1) (some ((0 : Int32), yd)) (zif (0 ≤ (yd.1 ya0 7)) (z_gd (z_in (yd.1 ya0 7) 20) (z_gd (z_in (yd.1 ya0 7) 20) (z_nm (z_st yd (ya0 + 4) (z_ix (yd.1 ya0 7)) ((yd.1 (ya0 + 4) (z_ix (yd.1 ya0 7))) ||| ((1 : Int32) <<< (yx1 &&& 31)))) fun yd1 => z_nm (z_st yd1 ya0 8 ((yd1.1 ya0 8) + (1 : Int32))) fun yd2 => some ((1 : Int32), yd2)))) (some ((0 : Int32), yd))))) = some (rr, dd) := h
  refine lv_iload_n hx hb dX0_hold_0 rfl (lv_at hl 1 rfl) ?_
  refine lv_if_lt (tgt := 17) hx hb dX0_hold_1 (by decide) (fun yc1 => ?_) (fun yc1 => ?_)
  · have h := z_ifp yc1 h
    refine lv_iconst (v := (0 : Int32)) hx hb dX0_hold_17 (by decide) ?_
    exact hRet _ _ _ _ _ _ hP hS (Or.inl rfl) h dX0_hold_18
  · have h := z_ifn yc1 h
    refine lv_iload_n hx hb dX0_hold_4 rfl (lv_at hl 1 rfl) ?_
    refine lv_bipush (v := (10 : Int32)) hx hb dX0_hold_5 (by decide) ?_
    refine lv_icmp_ge (tgt := 17) hx hb dX0_hold_7 (by decide) (fun yc7 => ?_) (fun yc7 => ?_)
    · have h := z_ifp yc7 h
      refine lv_iconst (v := (0 : Int32)) hx hb dX0_hold_17 (by decide) ?_
      exact hRet _ _ _ _ _ _ hP hS (Or.inl rfl) h dX0_hold_18
    · have h := z_ifn yc7 h
      refine lv_aload_n hx hb dX0_hold_10 rfl (lv_at hl 0 rfl) ?_
      refine gt_X0_7 hx hb hts hown hK hP yh0 (hts _ wl_1_49) dX0_hold_11 ?_
      refine lv_if_ge (tgt := 19) hx hb dX0_hold_14 (by decide) (fun yc14 => ?_) (fun yc14 => ?_)
      · have h := z_ifp yc14 h
        refine lv_aload_n hx hb dX0_hold_19 rfl (lv_at hl 0 rfl) ?_
        refine gt_X0_3 hx hb hts hown hK hP yh0 (hts _ wl_1_39) dX0_hold_20 ?_
        refine lv_aload_n hx hb dX0_hold_23 rfl (lv_at hl 0 rfl) ?_
        refine gt_X0_7 hx hb hts hown hK hP yh0 (hts _ wl_1_49) dX0_hold_24 ?_
        refine lv_dup2_11 hx hb dX0_hold_27 rfl rfl ?_
        obtain ⟨yg28, h⟩ := z_gi h
        refine al_C hx hb hK hP (ar_el4 yh0) (by decide) yg28 dX0_hold_28 ?_
        refine lv_iconst (v := (1 : Int32)) hx hb dX0_hold_29 (by decide) ?_
        refine lv_iload_n hx hb dX0_hold_30 rfl (lv_at hl 1 rfl) ?_
        refine lv_ishl hx hb dX0_hold_31 ?_
        refine lv_ior hx hb dX0_hold_32 ?_
        obtain ⟨yg33, h⟩ := z_gi h
        refine as_C hx hb hK hP hI hS (ar_el4 yh0) (by decide) yg33 dX0_hold_33 (fun H locs yd1 e_yd1 hP hS => ?_)
        have h := z_nma e_yd1 h
        refine lv_aload_n hx hb dX0_hold_34 rfl (lv_at hl 0 rfl) ?_
        refine lv_dup hx hb dX0_hold_35 rfl ?_
        refine gt_X0_8 hx hb hts hown hK hP yh0 (hts _ wl_1_51) dX0_hold_36 ?_
        refine lv_iconst (v := (1 : Int32)) hx hb dX0_hold_39 (by decide) ?_
        refine lv_iadd hx hb dX0_hold_40 ?_
        refine pt_X0_8 hx hb hts hown hK hP hI hS yh0 (hts _ wl_1_51) dX0_hold_41 (fun H locs yd2 e_yd2 hP hS => ?_)
        have h := z_nma e_yd2 h
        refine lv_iconst (v := (1 : Int32)) hx hb dX0_hold_44 (by decide) ?_
        exact hRet _ _ _ _ _ _ hP hS (Or.inr rfl) h dX0_hold_45
      · have h := z_ifn yc14 h
        refine lv_iconst (v := (0 : Int32)) hx hb dX0_hold_17 (by decide) ?_
        exact hRet _ _ _ _ _ _ hP hS (Or.inl rfl) h dX0_hold_18
noncomputable def fX0_fulfilled (yd : Dt) (ya0 : Nat) (yx1 : Int32) : Option Int32 :=
  z_gd (z_in yx1 20) (z_gd (z_in yx1 20) (some (((1 : Int32) ||| ((yd.1 (ya0 + 5) (z_ix yx1)) <<< ((1 : Int32) &&& 31))) ||| ((yd.1 (ya0 + 4) (z_ix yx1)) <<< ((6 : Int32) &&& 31)))))
set_option maxHeartbeats 4000000 in
set_option maxRecDepth 100000 in
theorem kX0_fulfilled {l : Launch} {D : va_G} {G : z_G} {ad : Nat → Nat} {A : Nat → Prop} (hI : ∀ d, va_D A (WC G ad d)) {yd : Dt} {ya0 : Nat} {yx1 : Int32} (yh0 : isEl ya0) {rr : Int32} (h : fX0_fulfilled yd ya0 yx1 = some rr) : z_Mi l D G A (WC G ad) yX0_fulfilled cX0_fulfilled 2 (z_rm 0 0) yd [.ref (ad ya0), .int yx1] rr yd := by
  refine z_ofi (by decide) (Nat.le_of_ble_eq_true rfl) fun p e s m args below meth c Q hx hb hml hown hts hK hP hRet ls hl => ?_
  have hS : va_S A s.heap s.heap [] := va_S.rf
  have hl : lv_has ls 2 [(0, .ref (ad ya0)), (1, .int yx1)] := hl
  have h : (z_gd (z_in yx1 20) (z_gd (z_in yx1 20) (some (((1 : Int32) ||| ((yd.1 (ya0 + 5) (z_ix yx1)) <<< ((1 : Int32) &&& 31))) ||| ((yd.1 (ya0 + 4) (z_ix yx1)) <<< ((6 : Int32) &&& 31)))))) = some rr := h
  refine lv_iconst (v := (1 : Int32)) hx hb dX0_fulfilled_0 (by decide) ?_
  refine lv_aload_n hx hb dX0_fulfilled_1 rfl (lv_at hl 0 rfl) ?_
  refine gt_X0_4 hx hb hts hown hK hP yh0 (hts _ wl_1_41) dX0_fulfilled_2 ?_
  refine lv_iload_n hx hb dX0_fulfilled_5 rfl (lv_at hl 1 rfl) ?_
  obtain ⟨yg6, h⟩ := z_gi h
  refine al_C hx hb hK hP (ar_el5 yh0) (by decide) yg6 dX0_fulfilled_6 ?_
  refine lv_iconst (v := (1 : Int32)) hx hb dX0_fulfilled_7 (by decide) ?_
  refine lv_ishl hx hb dX0_fulfilled_8 ?_
  refine lv_ior hx hb dX0_fulfilled_9 ?_
  refine lv_aload_n hx hb dX0_fulfilled_10 rfl (lv_at hl 0 rfl) ?_
  refine gt_X0_3 hx hb hts hown hK hP yh0 (hts _ wl_1_39) dX0_fulfilled_11 ?_
  refine lv_iload_n hx hb dX0_fulfilled_14 rfl (lv_at hl 1 rfl) ?_
  obtain ⟨yg15, h⟩ := z_gi h
  refine al_C hx hb hK hP (ar_el4 yh0) (by decide) yg15 dX0_fulfilled_15 ?_
  refine lv_bipush (v := (6 : Int32)) hx hb dX0_fulfilled_16 (by decide) ?_
  refine lv_ishl hx hb dX0_fulfilled_18 ?_
  refine lv_ior hx hb dX0_fulfilled_19 ?_
  exact hRet _ _ _ _ _ _ hP hS (z_pair h) dX0_fulfilled_20
noncomputable def jX1_lookAround_68 (yx1 : Int32) (yd3 : Dt) (yv4 : Int32) : Option (Dt) :=
  z_gd (z_in yx1 20) (z_nm (z_st yd3 64 (z_ix yx1) yv4) fun yd5 => some yd5)
noncomputable def jX1_lookAround_41 (yx1 : Int32) (yd : Dt) (yv1 : Int32) (yx2 : Int32) (yv2 : Int32) : Option (Dt) :=
  z_gd (z_in yx1 20) (z_nm (z_st yd 63 (z_ix yx1) yv2) fun yd3 => zif (yv1 = 0) (jX1_lookAround_68 yx1 yd3 (0 : Int32)) (z_gd (z_in yx2 20) (z_gd (z_in yx2 20) (jX1_lookAround_68 yx1 yd3 ((yd3.1 62 (z_ix yx2)) ||| (yd3.1 64 (z_ix yx2)))))))
noncomputable def jX1_lookAround_14 (yx1 : Int32) (yd : Dt) (yx2 : Int32) (yv1 : Int32) : Option (Dt) :=
  zif (yv1 = 0) (jX1_lookAround_41 yx1 yd yv1 yx2 (0 : Int32)) (z_gd (z_in yx2 20) (z_gd (z_in yx2 20) (jX1_lookAround_41 yx1 yd yv1 yx2 ((yd.1 61 (z_ix yx2)) ||| (yd.1 63 (z_ix yx2))))))
noncomputable def jX1_lookAround_13 (yx1 : Int32) (yd : Dt) (yx2 : Int32) : Option (Dt) :=
  jX1_lookAround_14 yx1 yd yx2 (0 : Int32)
noncomputable def fX1_lookAround (yd : Dt) (yx1 : Int32) (yx2 : Int32) : Option (Dt) :=
  zif (yx2 < 0) (jX1_lookAround_13 yx1 yd yx2) (zif (yx1 ≤ yx2) (jX1_lookAround_13 yx1 yd yx2) (jX1_lookAround_14 yx1 yd yx2 (1 : Int32)))
set_option maxHeartbeats 4000000 in
set_option maxRecDepth 100000 in
theorem kX1_lookAround {l : Launch} {D : va_G} {G : z_G} {ad : Nat → Nat} {A : Nat → Prop} (hI : ∀ d, va_D A (WC G ad d)) {yd : Dt} {yx1 : Int32} {yx2 : Int32}  {dd : Dt} (h : fX1_lookAround yd yx1 yx2 = some dd) : z_Mv l D G A (WC G ad) yX1_lookAround cX1_lookAround 4 (z_rm 0 0) yd [.ref (ad 60), .int yx1, .int yx2] dd := by
  refine z_ofv (by decide) (Nat.le_of_ble_eq_true rfl) fun p e s m args below meth c Q hx hb hml hown hts hK hP hRet ls hl => ?_
  have hS : va_S A s.heap s.heap [] := va_S.rf
  have hl : lv_has ls 4 [(0, .ref (ad 60)), (1, .int yx1), (2, .int yx2)] := hl
  have h : (zif (yx2 < 0) (jX1_lookAround_13 yx1 yd yx2) (zif (yx1 ≤ yx2) (jX1_lookAround_13 yx1 yd yx2) (jX1_lookAround_14 yx1 yd yx2 (1 : Int32)))) = some dd := h
  refine lv_iload_n hx hb dX1_lookAround_0 rfl (lv_at hl 2 rfl) ?_
  have hJ14 : ∀ (yv1 : Int32) (H : Heap) (locs : List Loc) (ls : Array Slot), jX1_lookAround_14 yx1 yd yx2 yv1 = some dd → va_P D vwCl (WC G ad yd) H → va_S A s.heap H locs → lv_has ls 4 [(0, .ref (ad 60)), (1, .int yx1), (2, .int yx2)] → W p l e (z_rm 0 0) s m args below meth c H locs 0 0 Q (F0 m 14 ls [.int yv1]) := by
    intro yv1 H locs ls h hP hS hl
    have h : (zif (yv1 = 0) (jX1_lookAround_41 yx1 yd yv1 yx2 (0 : Int32)) (z_gd (z_in yx2 20) (z_gd (z_in yx2 20) (jX1_lookAround_41 yx1 yd yv1 yx2 ((yd.1 61 (z_ix yx2)) ||| (yd.1 63 (z_ix yx2))))))) = some dd := h
    refine lv_istore_n (lv' := [(3, .int yv1), (0, .ref (ad 60)), (1, .int yx1), (2, .int yx2)]) hx hb dX1_lookAround_14 rfl hl (by decide) rfl (fun ls hl => ?_)
    refine lv_aload_n hx hb dX1_lookAround_15 rfl (lv_at hl 1 rfl) ?_
    refine gt_X1_2 hx hb hts hown hK hP (hts _ wl_1_137) dX1_lookAround_16 ?_
    refine lv_iload_n hx hb dX1_lookAround_19 rfl (lv_at hl 2 rfl) ?_
    refine lv_iload_n hx hb dX1_lookAround_20 rfl (lv_at hl 0 rfl) ?_
    have hJ41 : ∀ (yv2 : Int32) (H : Heap) (locs : List Loc) (ls : Array Slot), jX1_lookAround_41 yx1 yd yv1 yx2 yv2 = some dd → va_P D vwCl (WC G ad yd) H → va_S A s.heap H locs → lv_has ls 4 [(0, .ref (ad 60)), (1, .int yx1), (2, .int yx2), (3, .int yv1)] → W p l e (z_rm 0 0) s m args below meth c H locs 0 0 Q (F0 m 41 ls [.int yv2, .int yx1, .ref (ad 63)]) := by
      intro yv2 H locs ls h hP hS hl
      have h : (z_gd (z_in yx1 20) (z_nm (z_st yd 63 (z_ix yx1) yv2) fun yd3 => zif (yv1 = 0) (jX1_lookAround_68 yx1 yd3 (0 : Int32)) (z_gd (z_in yx2 20) (z_gd (z_in yx2 20) (jX1_lookAround_68 yx1 yd3 ((yd3.1 62 (z_ix yx2)) ||| (yd3.1 64 (z_ix yx2)))))))) = some dd := h
      obtain ⟨yg41, h⟩ := z_gi h
      refine as_C hx hb hK hP hI hS rfl (by decide) yg41 dX1_lookAround_41 (fun H locs yd3 e_yd3 hP hS => ?_)
      have h := z_nma e_yd3 h
      refine lv_aload_n hx hb dX1_lookAround_42 rfl (lv_at hl 0 rfl) ?_
      refine gt_X1_3 hx hb hts hown hK hP (hts _ wl_1_138) dX1_lookAround_43 ?_
      refine lv_iload_n hx hb dX1_lookAround_46 rfl (lv_at hl 1 rfl) ?_
      refine lv_iload_n hx hb dX1_lookAround_47 rfl (lv_at hl 3 rfl) ?_
      have hJ68 : ∀ (yv4 : Int32) (H : Heap) (locs : List Loc) (ls : Array Slot), jX1_lookAround_68 yx1 yd3 yv4 = some dd → va_P D vwCl (WC G ad yd3) H → va_S A s.heap H locs → lv_has ls 4 [] → W p l e (z_rm 0 0) s m args below meth c H locs 0 0 Q (F0 m 68 ls [.int yv4, .int yx1, .ref (ad 64)]) := by
        intro yv4 H locs ls h hP hS hl
        have h : (z_gd (z_in yx1 20) (z_nm (z_st yd3 64 (z_ix yx1) yv4) fun yd5 => some yd5)) = some dd := h
        obtain ⟨yg68, h⟩ := z_gi h
        refine as_C hx hb hK hP hI hS rfl (by decide) yg68 dX1_lookAround_68 (fun H locs yd5 e_yd5 hP hS => ?_)
        have h := z_nma e_yd5 h
        exact hRet _ _ _ _ _ hP hS h dX1_lookAround_69
      refine lv_if_eq (tgt := 67) hx hb dX1_lookAround_48 (by decide) (fun yc48 => ?_) (fun yc48 => ?_)
      · have h := z_ifp yc48 h
        refine lv_iconst (v := (0 : Int32)) hx hb dX1_lookAround_67 (by decide) ?_
        exact hJ68 _ _ _ _ h hP hS (lv_sub hl [] rfl)
      · have h := z_ifn yc48 h
        refine lv_aload_n hx hb dX1_lookAround_51 rfl (lv_at hl 0 rfl) ?_
        refine gt_X1_1 hx hb hts hown hK hP (hts _ wl_1_136) dX1_lookAround_52 ?_
        refine lv_iload_n hx hb dX1_lookAround_55 rfl (lv_at hl 2 rfl) ?_
        obtain ⟨yg56, h⟩ := z_gi h
        refine al_C hx hb hK hP rfl (by decide) yg56 dX1_lookAround_56 ?_
        refine lv_aload_n hx hb dX1_lookAround_57 rfl (lv_at hl 0 rfl) ?_
        refine gt_X1_3 hx hb hts hown hK hP (hts _ wl_1_138) dX1_lookAround_58 ?_
        refine lv_iload_n hx hb dX1_lookAround_61 rfl (lv_at hl 2 rfl) ?_
        obtain ⟨yg62, h⟩ := z_gi h
        refine al_C hx hb hK hP rfl (by decide) yg62 dX1_lookAround_62 ?_
        refine lv_ior hx hb dX1_lookAround_63 ?_
        refine lv_goto (tgt := 68) hx hb dX1_lookAround_64 (by decide) ?_
        exact hJ68 _ _ _ _ h hP hS (lv_sub hl [] rfl)
    refine lv_if_eq (tgt := 40) hx hb dX1_lookAround_21 (by decide) (fun yc21 => ?_) (fun yc21 => ?_)
    · have h := z_ifp yc21 h
      refine lv_iconst (v := (0 : Int32)) hx hb dX1_lookAround_40 (by decide) ?_
      exact hJ41 _ _ _ _ h hP hS (lv_sub hl [1, 2, 3, 0] rfl)
    · have h := z_ifn yc21 h
      refine lv_aload_n hx hb dX1_lookAround_24 rfl (lv_at hl 1 rfl) ?_
      refine gt_X1_0 hx hb hts hown hK hP (hts _ wl_1_134) dX1_lookAround_25 ?_
      refine lv_iload_n hx hb dX1_lookAround_28 rfl (lv_at hl 3 rfl) ?_
      obtain ⟨yg29, h⟩ := z_gi h
      refine al_C hx hb hK hP rfl (by decide) yg29 dX1_lookAround_29 ?_
      refine lv_aload_n hx hb dX1_lookAround_30 rfl (lv_at hl 1 rfl) ?_
      refine gt_X1_2 hx hb hts hown hK hP (hts _ wl_1_137) dX1_lookAround_31 ?_
      refine lv_iload_n hx hb dX1_lookAround_34 rfl (lv_at hl 3 rfl) ?_
      obtain ⟨yg35, h⟩ := z_gi h
      refine al_C hx hb hK hP rfl (by decide) yg35 dX1_lookAround_35 ?_
      refine lv_ior hx hb dX1_lookAround_36 ?_
      refine lv_goto (tgt := 41) hx hb dX1_lookAround_37 (by decide) ?_
      exact hJ41 _ _ _ _ h hP hS (lv_sub hl [1, 2, 3, 0] rfl)
  have hJ13 : ∀  (H : Heap) (locs : List Loc) (ls : Array Slot), jX1_lookAround_13 yx1 yd yx2 = some dd → va_P D vwCl (WC G ad yd) H → va_S A s.heap H locs → lv_has ls 4 [(0, .ref (ad 60)), (1, .int yx1), (2, .int yx2)] → W p l e (z_rm 0 0) s m args below meth c H locs 0 0 Q (F0 m 13 ls []) := by
    intro  H locs ls h hP hS hl
    have h : (jX1_lookAround_14 yx1 yd yx2 (0 : Int32)) = some dd := h
    refine lv_iconst (v := (0 : Int32)) hx hb dX1_lookAround_13 (by decide) ?_
    exact hJ14 _ _ _ _ h hP hS (lv_sub hl [0, 1, 2] rfl)
  refine lv_if_lt (tgt := 13) hx hb dX1_lookAround_1 (by decide) (fun yc1 => ?_) (fun yc1 => ?_)
  · have h := z_ifp yc1 h
    exact hJ13  _ _ _ h hP hS (lv_sub hl [0, 1, 2] rfl)
  · have h := z_ifn yc1 h
    refine lv_iload_n hx hb dX1_lookAround_4 rfl (lv_at hl 2 rfl) ?_
    refine lv_iload_n hx hb dX1_lookAround_5 rfl (lv_at hl 1 rfl) ?_
    refine lv_icmp_ge (tgt := 13) hx hb dX1_lookAround_6 (by decide) (fun yc6 => ?_) (fun yc6 => ?_)
    · have h := z_ifp yc6 h
      exact hJ13  _ _ _ h hP hS (lv_sub hl [0, 1, 2] rfl)
    · have h := z_ifn yc6 h
      refine lv_iconst (v := (1 : Int32)) hx hb dX1_lookAround_9 (by decide) ?_
      refine lv_goto (tgt := 14) hx hb dX1_lookAround_10 (by decide) ?_
      exact hJ14 _ _ _ _ h hP hS (lv_sub hl [0, 1, 2] rfl)
noncomputable def fX1_hasPrefix (yx0 : Int32) (yx1 : Int32) : Option Int32 :=
  zif (yx1 ≤ 0) (some (0 : Int32)) (zif (((yx0 >>> ((yx1 - (1 : Int32)) &&& 31)) &&& (1 : Int32)) = 0) (some (0 : Int32)) (some (1 : Int32)))
set_option maxHeartbeats 4000000 in
set_option maxRecDepth 100000 in
theorem kX1_hasPrefix {l : Launch} {D : va_G} {G : z_G} {A : Nat → Prop} {w : Dt → va_W} {yd : Dt} {yx0 : Int32} {yx1 : Int32}  {rr : Int32} (h : fX1_hasPrefix yx0 yx1 = some rr) : z_Mz l D G A (w) yX1_hasPrefix cX1_hasPrefix 2 (z_rm 0 0) yd [.int yx0, .int yx1] rr yd := by
  refine z_ofz (by decide) (Nat.le_of_ble_eq_true rfl) fun p e s m args below meth c Q hx hb hml hown hts hK hP hRet ls hl => ?_
  have hS : va_S A s.heap s.heap [] := va_S.rf
  have hl : lv_has ls 2 [(0, .int yx0), (1, .int yx1)] := hl
  have h : (zif (yx1 ≤ 0) (some (0 : Int32)) (zif (((yx0 >>> ((yx1 - (1 : Int32)) &&& 31)) &&& (1 : Int32)) = 0) (some (0 : Int32)) (some (1 : Int32)))) = some rr := h
  refine lv_iload_n hx hb dX1_hasPrefix_0 rfl (lv_at hl 1 rfl) ?_
  refine lv_if_le (tgt := 18) hx hb dX1_hasPrefix_1 (by decide) (fun yc1 => ?_) (fun yc1 => ?_)
  · have h := z_ifp yc1 h
    refine lv_iconst (v := (0 : Int32)) hx hb dX1_hasPrefix_18 (by decide) ?_
    exact hRet _ _ _ _ _ _ hP hS (Or.inl rfl) (z_pair h) dX1_hasPrefix_19
  · have h := z_ifn yc1 h
    refine lv_iload_n hx hb dX1_hasPrefix_4 rfl (lv_at hl 0 rfl) ?_
    refine lv_iload_n hx hb dX1_hasPrefix_5 rfl (lv_at hl 1 rfl) ?_
    refine lv_iconst (v := (1 : Int32)) hx hb dX1_hasPrefix_6 (by decide) ?_
    refine lv_isub hx hb dX1_hasPrefix_7 ?_
    refine lv_ishr hx hb dX1_hasPrefix_8 ?_
    refine lv_iconst (v := (1 : Int32)) hx hb dX1_hasPrefix_9 (by decide) ?_
    refine lv_iand hx hb dX1_hasPrefix_10 ?_
    refine lv_if_eq (tgt := 18) hx hb dX1_hasPrefix_11 (by decide) (fun yc11 => ?_) (fun yc11 => ?_)
    · have h := z_ifp yc11 h
      refine lv_iconst (v := (0 : Int32)) hx hb dX1_hasPrefix_18 (by decide) ?_
      exact hRet _ _ _ _ _ _ hP hS (Or.inl rfl) (z_pair h) dX1_hasPrefix_19
    · have h := z_ifn yc11 h
      refine lv_iconst (v := (1 : Int32)) hx hb dX1_hasPrefix_14 (by decide) ?_
      refine lv_goto (tgt := 19) hx hb dX1_hasPrefix_15 (by decide) ?_
      exact hRet _ _ _ _ _ _ hP hS (Or.inr rfl) (z_pair h) dX1_hasPrefix_19
noncomputable def jX1_matchElement_299 (yv9 : Int32) (yv12 : Int32) (yv13 : Int32) : Option ((Int32 × Int32 × Int32) ⊕ (Int32 × Int32)) :=
  z_nm (yv9 + (1 : Int32)) fun yv14 => some (.inl (yv12, yv13, yv14))
noncomputable def jX1_matchElement_290 (yv8 : Int32) (yv9 : Int32) (yv20 : Int32) : Option ((Int32 × Int32 × Int32) ⊕ (Int32 × Int32)) :=
  z_nm (yv8 ||| ((1 : Int32) <<< (yv9 &&& 31))) fun yv21 => jX1_matchElement_299 yv9 yv20 yv21
noncomputable def jX1_matchElement_275 (yv17 : Int32) (yv19 : Int32) (yv9 : Int32) (yv20 : Int32) (yv8 : Int32) : Option ((Int32 × Int32 × Int32) ⊕ (Int32 × Int32)) :=
  zif (yv17 = 0) (z_br (fX1_hasPrefix yv19 yv9) fun yr22 => zif (yr22 = 0) (jX1_matchElement_299 yv9 yv20 yv8) (jX1_matchElement_290 yv8 yv9 yv20)) (jX1_matchElement_290 yv8 yv9 yv20)
noncomputable def jX1_matchElement_265 (yv16 : Int32) (yv5 : Int32) (yv9 : Int32) (yv8 : Int32) (yv17 : Int32) (yv19 : Int32) (yv20 : Int32) : Option ((Int32 × Int32 × Int32) ⊕ (Int32 × Int32)) :=
  zif (yv16 = 0) (zif (yv5 = 0) (jX1_matchElement_299 yv9 yv20 yv8) (jX1_matchElement_275 yv17 yv19 yv9 yv20 yv8)) (jX1_matchElement_275 yv17 yv19 yv9 yv20 yv8)
noncomputable def jX1_matchElement_256 (yv7 : Int32) (yv9 : Int32) (yv16 : Int32) (yv5 : Int32) (yv8 : Int32) (yv17 : Int32) (yv19 : Int32) : Option ((Int32 × Int32 × Int32) ⊕ (Int32 × Int32)) :=
  z_nm (yv7 ||| ((1 : Int32) <<< (yv9 &&& 31))) fun yv23 => jX1_matchElement_265 yv16 yv5 yv9 yv8 yv17 yv19 yv23
noncomputable def jX1_matchElement_234 (yv16 : Int32) (yv5 : Int32) (yv9 : Int32) (yv8 : Int32) (yv17 : Int32) (yv7 : Int32) (yv18 : Int32) (yv19 : Int32) : Option ((Int32 × Int32 × Int32) ⊕ (Int32 × Int32)) :=
  zif (yv16 = 0) (jX1_matchElement_265 yv16 yv5 yv9 yv8 yv17 yv19 yv7) (zif (yv17 = 0) (z_br (fX1_hasPrefix yv18 yv9) fun yr24 => zif (yr24 = 0) (jX1_matchElement_265 yv16 yv5 yv9 yv8 yv17 yv19 yv7) (jX1_matchElement_256 yv7 yv9 yv16 yv5 yv8 yv17 yv19)) (jX1_matchElement_256 yv7 yv9 yv16 yv5 yv8 yv17 yv19))
noncomputable def jX1_matchElement_216 (yv15 : Int32) (yv16 : Int32) (yv5 : Int32) (yv9 : Int32) (yv8 : Int32) (yv17 : Int32) (yv7 : Int32) (yv4 : Int32) (yx2 : Int32) (yd : Dt) (yv18 : Int32) : Option ((Int32 × Int32 × Int32) ⊕ (Int32 × Int32)) :=
  zif (yv15 = 0) (jX1_matchElement_234 yv16 yv5 yv9 yv8 yv17 yv7 yv18 yv4) (z_gd (z_in yx2 20) (jX1_matchElement_234 yv16 yv5 yv9 yv8 yv17 yv7 yv18 (yd.1 64 (z_ix yx2))))
noncomputable def jX1_matchElement_198 (yv15 : Int32) (yv16 : Int32) (yv5 : Int32) (yv9 : Int32) (yv8 : Int32) (yv7 : Int32) (yv4 : Int32) (yx2 : Int32) (yd : Dt) (yv3 : Int32) (yv17 : Int32) : Option ((Int32 × Int32 × Int32) ⊕ (Int32 × Int32)) :=
  zif (yv15 = 0) (jX1_matchElement_216 yv15 yv16 yv5 yv9 yv8 yv17 yv7 yv4 yx2 yd yv3) (z_gd (z_in yx2 20) (jX1_matchElement_216 yv15 yv16 yv5 yv9 yv8 yv17 yv7 yv4 yx2 yd (yd.1 63 (z_ix yx2))))
noncomputable def jX1_matchElement_197 (yv15 : Int32) (yv16 : Int32) (yv5 : Int32) (yv9 : Int32) (yv8 : Int32) (yv7 : Int32) (yv4 : Int32) (yx2 : Int32) (yd : Dt) (yv3 : Int32) : Option ((Int32 × Int32 × Int32) ⊕ (Int32 × Int32)) :=
  jX1_matchElement_198 yv15 yv16 yv5 yv9 yv8 yv7 yv4 yx2 yd yv3 (0 : Int32)
noncomputable def jX1_matchElement_193 (yv15 : Int32) (yv16 : Int32) (yv5 : Int32) (yv9 : Int32) (yv8 : Int32) (yv7 : Int32) (yv4 : Int32) (yx2 : Int32) (yd : Dt) (yv3 : Int32) : Option ((Int32 × Int32 × Int32) ⊕ (Int32 × Int32)) :=
  jX1_matchElement_198 yv15 yv16 yv5 yv9 yv8 yv7 yv4 yx2 yd yv3 (1 : Int32)
noncomputable def jX1_matchElement_144 (yv10 : Int32) (yr6 : Int32) (yv9 : Int32) (yx2 : Int32) (yv5 : Int32) (yv8 : Int32) (yv7 : Int32) (yv4 : Int32) (yd : Dt) (yv3 : Int32) : Option ((Int32 × Int32 × Int32) ⊕ (Int32 × Int32)) :=
  z_nm (zif (yv10 < (1000 : Int32)) (0 : Int32) (1 : Int32)) fun yv15 => z_nm (zif (((yr6 >>> ((yv10 - yv10 / (100 : Int32) * (100 : Int32)) &&& 31)) &&& (1 : Int32)) = 0) (0 : Int32) (1 : Int32)) fun yv16 => zif (yv9 = 0) (zif (yv15 = 0) (zif (yx2 = 0) (jX1_matchElement_193 yv15 yv16 yv5 yv9 yv8 yv7 yv4 yx2 yd yv3) (jX1_matchElement_197 yv15 yv16 yv5 yv9 yv8 yv7 yv4 yx2 yd yv3)) (jX1_matchElement_193 yv15 yv16 yv5 yv9 yv8 yv7 yv4 yx2 yd yv3)) (jX1_matchElement_197 yv15 yv16 yv5 yv9 yv8 yv7 yv4 yx2 yd yv3)
noncomputable def bX1_matchElement_96 (yd : Dt) (ya3 : Nat) (yr6 : Int32) (yx2 : Int32) (yv5 : Int32) (yv4 : Int32) (yv3 : Int32) (ya1 : Nat) (s : Int32 × Int32 × Int32) : Option ((Int32 × Int32 × Int32) ⊕ (Int32 × Int32)) := match s with
  | (yv7, yv8, yv9) => zif ((yd.1 ya3 3) ≤ yv9) (some (.inr (yv7, yv8))) (z_gd (z_in yv9 4) (z_nm (yd.1 (ya3 + 1) (z_ix yv9)) fun yv10 => z_nm ((yv10 / (100 : Int32)) - (yv10 / (100 : Int32)) / (10 : Int32) * (10 : Int32)) fun yv11 => zif (yv11 = (5 : Int32)) (jX1_matchElement_144 yv10 yr6 yv9 yx2 yv5 yv8 yv7 yv4 yd yv3) (z_gd (z_in yx2 20) (zif (yv11 = (yd.1 (ya1 + 1) (z_ix yx2))) (jX1_matchElement_144 yv10 yr6 yv9 yx2 yv5 yv8 yv7 yv4 yd yv3) (jX1_matchElement_299 yv9 yv7 yv8)))))
noncomputable def jX1_matchElement_60 (yd : Dt) (ya1 : Nat) (yx2 : Int32) (ya3 : Nat) (yv3 : Int32) (yv4 : Int32) : Option (Dt) :=
  z_nm (zif ((((yd.1 ya1 5) >>> (yx2 &&& 31)) &&& (1 : Int32)) = 0) (0 : Int32) (1 : Int32)) fun yv5 => z_br (fX0_fulfilled yd ya1 yx2) fun yr6 => z_br (z_lp (bX1_matchElement_96 yd ya3 yr6 yx2 yv5 yv4 yv3 ya1) ((0 : Int32), (0 : Int32), (0 : Int32))) (fun t => match t with | (yv25, yv26) => z_gd (z_in yx2 20) (z_nm (z_st yd 61 (z_ix yx2) yv25) fun yd27 => z_gd (z_in yx2 20) (z_nm (z_st yd27 62 (z_ix yx2) yv26) fun yd28 => some yd28)))
noncomputable def jX1_matchElement_42 (yv2 : Int32) (yd : Dt) (ya1 : Nat) (yx2 : Int32) (ya3 : Nat) (yv1 : Int32) (yv3 : Int32) : Option (Dt) :=
  zif (yv2 = 0) (jX1_matchElement_60 yd ya1 yx2 ya3 yv3 (0 : Int32)) (z_gd (z_in yv1 20) (jX1_matchElement_60 yd ya1 yx2 ya3 yv3 (yd.1 62 (z_ix yv1))))
noncomputable def jX1_matchElement_24 (yd : Dt) (ya1 : Nat) (yx2 : Int32) (ya3 : Nat) (yv1 : Int32) (yv2 : Int32) : Option (Dt) :=
  zif (yv2 = 0) (jX1_matchElement_42 yv2 yd ya1 yx2 ya3 yv1 (0 : Int32)) (z_gd (z_in yv1 20) (jX1_matchElement_42 yv2 yd ya1 yx2 ya3 yv1 (yd.1 61 (z_ix yv1))))
noncomputable def jX1_matchElement_23 (yd : Dt) (ya1 : Nat) (yx2 : Int32) (ya3 : Nat) (yv1 : Int32) : Option (Dt) :=
  jX1_matchElement_24 yd ya1 yx2 ya3 yv1 (0 : Int32)
noncomputable def fX1_matchElement (yd : Dt) (ya1 : Nat) (yx2 : Int32) (ya3 : Nat) : Option (Dt) :=
  z_gd (z_in yx2 20) (z_nm (yd.1 (ya1 + 2) (z_ix yx2)) fun yv1 => zif (yv1 < 0) (jX1_matchElement_23 yd ya1 yx2 ya3 yv1) (zif (yx2 ≤ yv1) (jX1_matchElement_23 yd ya1 yx2 ya3 yv1) (jX1_matchElement_24 yd ya1 yx2 ya3 yv1 (1 : Int32))))
set_option maxHeartbeats 4000000 in
set_option maxRecDepth 100000 in
theorem kX1_matchElement {l : Launch} {D : va_G} {G : z_G} {ad : Nat → Nat} {A : Nat → Prop} (hI : ∀ d, va_D A (WC G ad d)) {yd : Dt} {ya1 : Nat} {yx2 : Int32} {ya3 : Nat} (yh1 : isEl ya1) (yh3 : isPa ya3) {dd : Dt} (h : fX1_matchElement yd ya1 yx2 ya3 = some dd) : z_Mv l D G A (WC G ad) yX1_matchElement cX1_matchElement 20 (z_rm 1 21) yd [.ref (ad 60), .ref (ad ya1), .int yx2, .ref (ad ya3)] dd := by
  refine z_ofv (by decide) (Nat.le_of_ble_eq_true rfl) fun p e s m args below meth c Q hx hb hml hown hts hK hP hRet ls hl => ?_
  have hS : va_S A s.heap s.heap [] := va_S.rf
  have hl : lv_has ls 20 [(0, .ref (ad 60)), (1, .ref (ad ya1)), (2, .int yx2), (3, .ref (ad ya3))] := hl
  have h : (z_gd (z_in yx2 20) (z_nm (yd.1 (ya1 + 2) (z_ix yx2)) fun yv1 => zif (yv1 < 0) (jX1_matchElement_23 yd ya1 yx2 ya3 yv1) (zif (yx2 ≤ yv1) (jX1_matchElement_23 yd ya1 yx2 ya3 yv1) (jX1_matchElement_24 yd ya1 yx2 ya3 yv1 (1 : Int32))))) = some dd := h
  refine lv_aload_n hx hb dX1_matchElement_0 rfl (lv_at hl 1 rfl) ?_
  refine gt_X0_1 hx hb hts hown hK hP yh1 (hts _ wl_1_35) dX1_matchElement_1 ?_
  refine lv_iload_n hx hb dX1_matchElement_4 rfl (lv_at hl 2 rfl) ?_
  obtain ⟨yg5, h⟩ := z_gi h
  refine al_C hx hb hK hP (ar_el2 yh1) (by decide) yg5 dX1_matchElement_5 ?_
  refine lv_topi (fun yv1 e_yv1 => ?_)
  have h := z_nma e_yv1 h
  refine lv_istore (lv' := [(4, .int yv1), (0, .ref (ad 60)), (1, .ref (ad ya1)), (2, .int yx2), (3, .ref (ad ya3))]) hx hb dX1_matchElement_6 hl (by decide) rfl (fun ls hl => ?_)
  refine lv_iload hx hb dX1_matchElement_8 (lv_at hl 0 rfl) ?_
  have hJ24 : ∀ (yv2 : Int32) (H : Heap) (locs : List Loc) (ls : Array Slot), jX1_matchElement_24 yd ya1 yx2 ya3 yv1 yv2 = some dd → va_P D vwCl (WC G ad yd) H → va_S A s.heap H locs → lv_has ls 20 [(0, .ref (ad 60)), (1, .ref (ad ya1)), (2, .int yx2), (3, .ref (ad ya3)), (4, .int yv1)] → W p l e (z_rm 1 21) s m args below meth c H locs 0 0 Q (F0 m 24 ls [.int yv2]) := by
    intro yv2 H locs ls h hP hS hl
    have h : (zif (yv2 = 0) (jX1_matchElement_42 yv2 yd ya1 yx2 ya3 yv1 (0 : Int32)) (z_gd (z_in yv1 20) (jX1_matchElement_42 yv2 yd ya1 yx2 ya3 yv1 (yd.1 61 (z_ix yv1))))) = some dd := h
    refine lv_istore (lv' := [(5, .int yv2), (0, .ref (ad 60)), (1, .ref (ad ya1)), (2, .int yx2), (3, .ref (ad ya3)), (4, .int yv1)]) hx hb dX1_matchElement_24 hl (by decide) rfl (fun ls hl => ?_)
    refine lv_iload hx hb dX1_matchElement_26 (lv_at hl 0 rfl) ?_
    have hJ42 : ∀ (yv3 : Int32) (H : Heap) (locs : List Loc) (ls : Array Slot), jX1_matchElement_42 yv2 yd ya1 yx2 ya3 yv1 yv3 = some dd → va_P D vwCl (WC G ad yd) H → va_S A s.heap H locs → lv_has ls 20 [(0, .ref (ad 60)), (1, .ref (ad ya1)), (2, .int yx2), (3, .ref (ad ya3)), (4, .int yv1), (5, .int yv2)] → W p l e (z_rm 1 21) s m args below meth c H locs 0 0 Q (F0 m 42 ls [.int yv3]) := by
      intro yv3 H locs ls h hP hS hl
      have h : (zif (yv2 = 0) (jX1_matchElement_60 yd ya1 yx2 ya3 yv3 (0 : Int32)) (z_gd (z_in yv1 20) (jX1_matchElement_60 yd ya1 yx2 ya3 yv3 (yd.1 62 (z_ix yv1))))) = some dd := h
      refine lv_istore (lv' := [(6, .int yv3), (0, .ref (ad 60)), (1, .ref (ad ya1)), (2, .int yx2), (3, .ref (ad ya3)), (4, .int yv1), (5, .int yv2)]) hx hb dX1_matchElement_42 hl (by decide) rfl (fun ls hl => ?_)
      refine lv_iload hx hb dX1_matchElement_44 (lv_at hl 6 rfl) ?_
      have hJ60 : ∀ (yv4 : Int32) (H : Heap) (locs : List Loc) (ls : Array Slot), jX1_matchElement_60 yd ya1 yx2 ya3 yv3 yv4 = some dd → va_P D vwCl (WC G ad yd) H → va_S A s.heap H locs → lv_has ls 20 [(0, .ref (ad 60)), (1, .ref (ad ya1)), (2, .int yx2), (3, .ref (ad ya3)), (6, .int yv3)] → W p l e (z_rm 1 21) s m args below meth c H locs 0 0 Q (F0 m 60 ls [.int yv4]) := by
        intro yv4 H locs ls h hP hS hl
        have h : (z_nm (zif ((((yd.1 ya1 5) >>> (yx2 &&& 31)) &&& (1 : Int32)) = 0) (0 : Int32) (1 : Int32)) fun yv5 => z_br (fX0_fulfilled yd ya1 yx2) fun yr6 => z_br (z_lp (bX1_matchElement_96 yd ya3 yr6 yx2 yv5 yv4 yv3 ya1) ((0 : Int32), (0 : Int32), (0 : Int32))) (fun t => match t with | (yv25, yv26) => z_gd (z_in yx2 20) (z_nm (z_st yd 61 (z_ix yx2) yv25) fun yd27 => z_gd (z_in yx2 20) (z_nm (z_st yd27 62 (z_ix yx2) yv26) fun yd28 => some yd28)))) = some dd := h
        refine lv_istore (lv' := [(7, .int yv4), (0, .ref (ad 60)), (1, .ref (ad ya1)), (2, .int yx2), (3, .ref (ad ya3)), (6, .int yv3)]) hx hb dX1_matchElement_60 hl (by decide) rfl (fun ls hl => ?_)
        refine lv_aload_n hx hb dX1_matchElement_62 rfl (lv_at hl 2 rfl) ?_
        refine gt_X0_5 hx hb hts hown hK hP yh1 (hts _ wl_1_44) dX1_matchElement_63 ?_
        refine lv_iload_n hx hb dX1_matchElement_66 rfl (lv_at hl 3 rfl) ?_
        refine lv_ishr hx hb dX1_matchElement_67 ?_
        refine lv_iconst (v := (1 : Int32)) hx hb dX1_matchElement_68 (by decide) ?_
        refine lv_iand hx hb dX1_matchElement_69 ?_
        have hM78 : ∀ (yv5 : Int32) (H : Heap) (locs : List Loc), yv5 = (zif ((((yd.1 ya1 5) >>> (yx2 &&& 31)) &&& (1 : Int32)) = 0) (0 : Int32) (1 : Int32)) → va_P D vwCl (WC G ad yd) H → va_S A s.heap H locs → W p l e (z_rm 1 21) s m args below meth c H locs 0 0 Q (F0 m 78 ls [.int yv5]) := by
          intro yv5 H locs e_yv5 hP hS
          have h := z_nma e_yv5 h
          refine lv_istore (lv' := [(8, .int yv5), (7, .int yv4), (0, .ref (ad 60)), (1, .ref (ad ya1)), (2, .int yx2), (3, .ref (ad ya3)), (6, .int yv3)]) hx hb dX1_matchElement_78 hl (by decide) rfl (fun ls hl => ?_)
          refine lv_aload_n hx hb dX1_matchElement_80 rfl (lv_at hl 3 rfl) ?_
          refine lv_iload_n hx hb dX1_matchElement_81 rfl (lv_at hl 4 rfl) ?_
          obtain ⟨yr6, yhc82, h⟩ := z_brx h
          refine z_ki (z_rV (As := [.int yx2]) (rest := []) ⟨hx, hb, hml, hown, hts⟩ hK hP (w_X0 yh1) rfl (kX0_fulfilled hI yh1 yhc82) giX1_58 ⟨rfl, rfl⟩ ndX0_fulfilled ⟨Nat.le_of_ble_eq_true rfl, Nat.le_of_ble_eq_true rfl⟩ rfl hl.1 rfl (Nat.le_of_ble_eq_true rfl) ⟨Nat.le_refl _, Nat.le_refl _⟩ dX1_matchElement_82) hS (fun H locs hP hS => ?_)
          refine lv_istore (lv' := [(9, .int yr6), (8, .int yv5), (7, .int yv4), (0, .ref (ad 60)), (1, .ref (ad ya1)), (2, .int yx2), (3, .ref (ad ya3)), (6, .int yv3)]) hx hb dX1_matchElement_85 hl (by decide) rfl (fun ls hl => ?_)
          refine lv_iconst (v := (0 : Int32)) hx hb dX1_matchElement_87 (by decide) ?_
          refine lv_istore (lv' := [(10, .int (0 : Int32)), (9, .int yr6), (8, .int yv5), (7, .int yv4), (0, .ref (ad 60)), (1, .ref (ad ya1)), (2, .int yx2), (3, .ref (ad ya3)), (6, .int yv3)]) hx hb dX1_matchElement_88 hl (by decide) rfl (fun ls hl => ?_)
          refine lv_iconst (v := (0 : Int32)) hx hb dX1_matchElement_90 (by decide) ?_
          refine lv_istore (lv' := [(11, .int (0 : Int32)), (10, .int (0 : Int32)), (9, .int yr6), (8, .int yv5), (7, .int yv4), (0, .ref (ad 60)), (1, .ref (ad ya1)), (2, .int yx2), (3, .ref (ad ya3)), (6, .int yv3)]) hx hb dX1_matchElement_91 hl (by decide) rfl (fun ls hl => ?_)
          refine lv_iconst (v := (0 : Int32)) hx hb dX1_matchElement_93 (by decide) ?_
          refine lv_istore (lv' := [(12, .int (0 : Int32)), (11, .int (0 : Int32)), (10, .int (0 : Int32)), (9, .int yr6), (8, .int yv5), (7, .int yv4), (0, .ref (ad 60)), (1, .ref (ad ya1)), (2, .int yx2), (3, .ref (ad ya3)), (6, .int yv3)]) hx hb dX1_matchElement_94 hl (by decide) rfl (fun ls hl => ?_)
          obtain ⟨yt96, hlp, h⟩ := z_brx h
          obtain ⟨yn96, hlp⟩ := z_lpx hlp
          have hE305 : ∀ (yv25 : Int32) (yv26 : Int32) (H : Heap) (locs : List Loc) (ls : Array Slot), (yv25, yv26) = yt96 → va_P D vwCl (WC G ad yd) H → va_S A s.heap H locs → lv_has ls 20 [(0, .ref (ad 60)), (2, .int yx2), (10, .int yv25), (11, .int yv26)] → W p l e (z_rm 1 21) s m args below meth c H locs 0 0 Q (F0 m 305 ls []) := by
            intro yv25 yv26 H locs ls et hP hS hl
            subst et
            have h : (z_gd (z_in yx2 20) (z_nm (z_st yd 61 (z_ix yx2) yv25) fun yd27 => z_gd (z_in yx2 20) (z_nm (z_st yd27 62 (z_ix yx2) yv26) fun yd28 => some yd28))) = some dd := h
            refine lv_aload_n hx hb dX1_matchElement_305 rfl (lv_at hl 0 rfl) ?_
            refine gt_X1_0 hx hb hts hown hK hP (hts _ wl_1_134) dX1_matchElement_306 ?_
            refine lv_iload_n hx hb dX1_matchElement_309 rfl (lv_at hl 1 rfl) ?_
            refine lv_iload hx hb dX1_matchElement_310 (lv_at hl 2 rfl) ?_
            obtain ⟨yg312, h⟩ := z_gi h
            refine as_C hx hb hK hP hI hS rfl (by decide) yg312 dX1_matchElement_312 (fun H locs yd27 e_yd27 hP hS => ?_)
            have h := z_nma e_yd27 h
            refine lv_aload_n hx hb dX1_matchElement_313 rfl (lv_at hl 0 rfl) ?_
            refine gt_X1_1 hx hb hts hown hK hP (hts _ wl_1_136) dX1_matchElement_314 ?_
            refine lv_iload_n hx hb dX1_matchElement_317 rfl (lv_at hl 1 rfl) ?_
            refine lv_iload hx hb dX1_matchElement_318 (lv_at hl 3 rfl) ?_
            obtain ⟨yg320, h⟩ := z_gi h
            refine as_C hx hb hK hP hI hS rfl (by decide) yg320 dX1_matchElement_320 (fun H locs yd28 e_yd28 hP hS => ?_)
            have h := z_nma e_yd28 h
            exact hRet _ _ _ _ _ hP hS h dX1_matchElement_321
          have hL96 : ∀ (n : Nat) (yv7 : Int32) (yv8 : Int32) (yv9 : Int32) (H : Heap) (locs : List Loc) (ls : Array Slot), z_it (bX1_matchElement_96 yd ya3 yr6 yx2 yv5 yv4 yv3 ya1) n (yv7, yv8, yv9) = some yt96 → va_P D vwCl (WC G ad yd) H → va_S A s.heap H locs → lv_has ls 20 [(0, .ref (ad 60)), (1, .ref (ad ya1)), (2, .int yx2), (3, .ref (ad ya3)), (6, .int yv3), (7, .int yv4), (8, .int yv5), (9, .int yr6), (10, .int yv7), (11, .int yv8), (12, .int yv9)] → W p l e (z_rm 1 21) s m args below meth c H locs 0 0 Q (F0 m 96 ls []) := by
            intro n
            induction n with
            | zero => intro yv7 yv8 yv9 H locs ls hn; exact z_it0 hn
            | succ n ih =>
              intro yv7 yv8 yv9 H locs ls hn hP hS hl
              obtain ⟨yq96, h, hq1, hq2⟩ := z_itx hn
              have h : (zif ((yd.1 ya3 3) ≤ yv9) (some (.inr (yv7, yv8))) (z_gd (z_in yv9 4) (z_nm (yd.1 (ya3 + 1) (z_ix yv9)) fun yv10 => z_nm ((yv10 / (100 : Int32)) - (yv10 / (100 : Int32)) / (10 : Int32) * (10 : Int32)) fun yv11 => zif (yv11 = (5 : Int32)) (jX1_matchElement_144 yv10 yr6 yv9 yx2 yv5 yv8 yv7 yv4 yd yv3) (z_gd (z_in yx2 20) (zif (yv11 = (yd.1 (ya1 + 1) (z_ix yx2))) (jX1_matchElement_144 yv10 yr6 yv9 yx2 yv5 yv8 yv7 yv4 yd yv3) (jX1_matchElement_299 yv9 yv7 yv8)))))) = some yq96 := h
              refine lv_iload hx hb dX1_matchElement_96 (lv_at hl 10 rfl) ?_
              refine lv_aload_n hx hb dX1_matchElement_98 rfl (lv_at hl 3 rfl) ?_
              refine gt_X2_3 hx hb hts hown hK hP yh3 (hts _ wl_1_89) dX1_matchElement_99 ?_
              refine lv_icmp_ge (tgt := 305) hx hb dX1_matchElement_102 (by decide) (fun yc102 => ?_) (fun yc102 => ?_)
              · have h := z_ifp yc102 h
                exact hE305 _ _ _ _ _ (hq2 _ (z_sm h).symm) hP hS (lv_sub hl [0, 2, 8, 9] rfl)
              · have h := z_ifn yc102 h
                refine lv_aload_n hx hb dX1_matchElement_105 rfl (lv_at hl 3 rfl) ?_
                refine gt_X2_0 hx hb hts hown hK hP yh3 (hts _ wl_1_82) dX1_matchElement_106 ?_
                refine lv_iload hx hb dX1_matchElement_109 (lv_at hl 10 rfl) ?_
                obtain ⟨yg111, h⟩ := z_gi h
                refine al_C hx hb hK hP (ar_pa1 yh3) (by decide) yg111 dX1_matchElement_111 ?_
                refine lv_topi (fun yv10 e_yv10 => ?_)
                have h := z_nma e_yv10 h
                refine lv_istore (lv' := [(13, .int yv10), (0, .ref (ad 60)), (1, .ref (ad ya1)), (2, .int yx2), (3, .ref (ad ya3)), (6, .int yv3), (7, .int yv4), (8, .int yv5), (9, .int yr6), (10, .int yv7), (11, .int yv8), (12, .int yv9)]) hx hb dX1_matchElement_112 hl (by decide) rfl (fun ls hl => ?_)
                refine lv_iload hx hb dX1_matchElement_114 (lv_at hl 0 rfl) ?_
                refine lv_bipush (v := (100 : Int32)) hx hb dX1_matchElement_116 (by decide) ?_
                refine lv_idiv hx hb dX1_matchElement_118 (by decide) ?_
                refine lv_bipush (v := (10 : Int32)) hx hb dX1_matchElement_119 (by decide) ?_
                refine lv_irem hx hb dX1_matchElement_121 (by decide) ?_
                refine lv_topi (fun yv11 e_yv11 => ?_)
                have h := z_nma e_yv11 h
                refine lv_istore (lv' := [(14, .int yv11), (13, .int yv10), (0, .ref (ad 60)), (1, .ref (ad ya1)), (2, .int yx2), (3, .ref (ad ya3)), (6, .int yv3), (7, .int yv4), (8, .int yv5), (9, .int yr6), (10, .int yv7), (11, .int yv8), (12, .int yv9)]) hx hb dX1_matchElement_122 hl (by decide) rfl (fun ls hl => ?_)
                refine lv_iload hx hb dX1_matchElement_124 (lv_at hl 0 rfl) ?_
                refine lv_iconst (v := (5 : Int32)) hx hb dX1_matchElement_126 (by decide) ?_
                have hJ299 : ∀ (yv12 : Int32) (yv13 : Int32) (H : Heap) (locs : List Loc) (ls : Array Slot), jX1_matchElement_299 yv9 yv12 yv13 = some yq96 → va_P D vwCl (WC G ad yd) H → va_S A s.heap H locs → lv_has ls 20 [(0, .ref (ad 60)), (1, .ref (ad ya1)), (2, .int yx2), (3, .ref (ad ya3)), (6, .int yv3), (7, .int yv4), (8, .int yv5), (9, .int yr6), (10, .int yv12), (11, .int yv13), (12, .int yv9)] → W p l e (z_rm 1 21) s m args below meth c H locs 0 0 Q (F0 m 299 ls []) := by
                  intro yv12 yv13 H locs ls h hP hS hl
                  have h : (z_nm (yv9 + (1 : Int32)) fun yv14 => some (.inl (yv12, yv13, yv14))) = some yq96 := h
                  obtain ⟨yv14, e_yv14, h⟩ := z_nmx h
                  refine lv_iinc (v := yv14) (lv' := [(12, .int yv14), (0, .ref (ad 60)), (1, .ref (ad ya1)), (2, .int yx2), (3, .ref (ad ya3)), (6, .int yv3), (7, .int yv4), (8, .int yv5), (9, .int yr6), (10, .int yv12), (11, .int yv13)]) hx hb dX1_matchElement_299 hl (k := 10) rfl (by rw [e_yv14]; rfl) (by decide) rfl (fun ls hl => ?_)
                  refine lv_goto (tgt := 96) hx hb dX1_matchElement_302 (by decide) ?_
                  exact ih _ _ _ _ _ _ (hq1 _ (z_sm h).symm) hP hS (lv_sub hl [1, 2, 3, 4, 5, 6, 7, 8, 9, 10, 0] rfl)
                have hJ144 : ∀  (H : Heap) (locs : List Loc) (ls : Array Slot), jX1_matchElement_144 yv10 yr6 yv9 yx2 yv5 yv8 yv7 yv4 yd yv3 = some yq96 → va_P D vwCl (WC G ad yd) H → va_S A s.heap H locs → lv_has ls 20 [(0, .ref (ad 60)), (1, .ref (ad ya1)), (2, .int yx2), (3, .ref (ad ya3)), (6, .int yv3), (7, .int yv4), (8, .int yv5), (9, .int yr6), (10, .int yv7), (11, .int yv8), (12, .int yv9), (13, .int yv10)] → W p l e (z_rm 1 21) s m args below meth c H locs 0 0 Q (F0 m 144 ls []) := by
                  intro  H locs ls h hP hS hl
                  have h : (z_nm (zif (yv10 < (1000 : Int32)) (0 : Int32) (1 : Int32)) fun yv15 => z_nm (zif (((yr6 >>> ((yv10 - yv10 / (100 : Int32) * (100 : Int32)) &&& 31)) &&& (1 : Int32)) = 0) (0 : Int32) (1 : Int32)) fun yv16 => zif (yv9 = 0) (zif (yv15 = 0) (zif (yx2 = 0) (jX1_matchElement_193 yv15 yv16 yv5 yv9 yv8 yv7 yv4 yx2 yd yv3) (jX1_matchElement_197 yv15 yv16 yv5 yv9 yv8 yv7 yv4 yx2 yd yv3)) (jX1_matchElement_193 yv15 yv16 yv5 yv9 yv8 yv7 yv4 yx2 yd yv3)) (jX1_matchElement_197 yv15 yv16 yv5 yv9 yv8 yv7 yv4 yx2 yd yv3)) = some yq96 := h
                  refine lv_iload hx hb dX1_matchElement_144 (lv_at hl 11 rfl) ?_
                  refine lv_sipush (v := (1000 : Int32)) hx hb dX1_matchElement_146 (by decide) ?_
                  have hM157 : ∀ (yv15 : Int32) (H : Heap) (locs : List Loc), yv15 = (zif (yv10 < (1000 : Int32)) (0 : Int32) (1 : Int32)) → va_P D vwCl (WC G ad yd) H → va_S A s.heap H locs → W p l e (z_rm 1 21) s m args below meth c H locs 0 0 Q (F0 m 157 ls [.int yv15]) := by
                    intro yv15 H locs e_yv15 hP hS
                    have h := z_nma e_yv15 h
                    refine lv_istore (lv' := [(15, .int yv15), (0, .ref (ad 60)), (1, .ref (ad ya1)), (2, .int yx2), (3, .ref (ad ya3)), (6, .int yv3), (7, .int yv4), (8, .int yv5), (9, .int yr6), (10, .int yv7), (11, .int yv8), (12, .int yv9), (13, .int yv10)]) hx hb dX1_matchElement_157 hl (by decide) rfl (fun ls hl => ?_)
                    refine lv_iload hx hb dX1_matchElement_159 (lv_at hl 8 rfl) ?_
                    refine lv_iload hx hb dX1_matchElement_161 (lv_at hl 12 rfl) ?_
                    refine lv_bipush (v := (100 : Int32)) hx hb dX1_matchElement_163 (by decide) ?_
                    refine lv_irem hx hb dX1_matchElement_165 (by decide) ?_
                    refine lv_ishr hx hb dX1_matchElement_166 ?_
                    refine lv_iconst (v := (1 : Int32)) hx hb dX1_matchElement_167 (by decide) ?_
                    refine lv_iand hx hb dX1_matchElement_168 ?_
                    have hM177 : ∀ (yv16 : Int32) (H : Heap) (locs : List Loc), yv16 = (zif (((yr6 >>> ((yv10 - yv10 / (100 : Int32) * (100 : Int32)) &&& 31)) &&& (1 : Int32)) = 0) (0 : Int32) (1 : Int32)) → va_P D vwCl (WC G ad yd) H → va_S A s.heap H locs → W p l e (z_rm 1 21) s m args below meth c H locs 0 0 Q (F0 m 177 ls [.int yv16]) := by
                      intro yv16 H locs e_yv16 hP hS
                      have h := z_nma e_yv16 h
                      refine lv_istore (lv' := [(16, .int yv16), (15, .int yv15), (0, .ref (ad 60)), (1, .ref (ad ya1)), (2, .int yx2), (3, .ref (ad ya3)), (6, .int yv3), (7, .int yv4), (8, .int yv5), (9, .int yr6), (10, .int yv7), (11, .int yv8), (12, .int yv9), (13, .int yv10)]) hx hb dX1_matchElement_177 hl (by decide) rfl (fun ls hl => ?_)
                      refine lv_iload hx hb dX1_matchElement_179 (lv_at hl 12 rfl) ?_
                      have hJ198 : ∀ (yv17 : Int32) (H : Heap) (locs : List Loc) (ls : Array Slot), jX1_matchElement_198 yv15 yv16 yv5 yv9 yv8 yv7 yv4 yx2 yd yv3 yv17 = some yq96 → va_P D vwCl (WC G ad yd) H → va_S A s.heap H locs → lv_has ls 20 [(0, .ref (ad 60)), (1, .ref (ad ya1)), (2, .int yx2), (3, .ref (ad ya3)), (6, .int yv3), (7, .int yv4), (8, .int yv5), (9, .int yr6), (10, .int yv7), (11, .int yv8), (12, .int yv9), (15, .int yv15), (16, .int yv16)] → W p l e (z_rm 1 21) s m args below meth c H locs 0 0 Q (F0 m 198 ls [.int yv17]) := by
                        intro yv17 H locs ls h hP hS hl
                        have h : (zif (yv15 = 0) (jX1_matchElement_216 yv15 yv16 yv5 yv9 yv8 yv17 yv7 yv4 yx2 yd yv3) (z_gd (z_in yx2 20) (jX1_matchElement_216 yv15 yv16 yv5 yv9 yv8 yv17 yv7 yv4 yx2 yd (yd.1 63 (z_ix yx2))))) = some yq96 := h
                        refine lv_istore (lv' := [(17, .int yv17), (0, .ref (ad 60)), (1, .ref (ad ya1)), (2, .int yx2), (3, .ref (ad ya3)), (6, .int yv3), (7, .int yv4), (8, .int yv5), (9, .int yr6), (10, .int yv7), (11, .int yv8), (12, .int yv9), (15, .int yv15), (16, .int yv16)]) hx hb dX1_matchElement_198 hl (by decide) rfl (fun ls hl => ?_)
                        refine lv_iload hx hb dX1_matchElement_200 (lv_at hl 12 rfl) ?_
                        have hJ216 : ∀ (yv18 : Int32) (H : Heap) (locs : List Loc) (ls : Array Slot), jX1_matchElement_216 yv15 yv16 yv5 yv9 yv8 yv17 yv7 yv4 yx2 yd yv18 = some yq96 → va_P D vwCl (WC G ad yd) H → va_S A s.heap H locs → lv_has ls 20 [(0, .ref (ad 60)), (1, .ref (ad ya1)), (2, .int yx2), (3, .ref (ad ya3)), (6, .int yv3), (7, .int yv4), (8, .int yv5), (9, .int yr6), (10, .int yv7), (11, .int yv8), (12, .int yv9), (15, .int yv15), (16, .int yv16), (17, .int yv17)] → W p l e (z_rm 1 21) s m args below meth c H locs 0 0 Q (F0 m 216 ls [.int yv18]) := by
                          intro yv18 H locs ls h hP hS hl
                          have h : (zif (yv15 = 0) (jX1_matchElement_234 yv16 yv5 yv9 yv8 yv17 yv7 yv18 yv4) (z_gd (z_in yx2 20) (jX1_matchElement_234 yv16 yv5 yv9 yv8 yv17 yv7 yv18 (yd.1 64 (z_ix yx2))))) = some yq96 := h
                          refine lv_istore (lv' := [(18, .int yv18), (0, .ref (ad 60)), (1, .ref (ad ya1)), (2, .int yx2), (3, .ref (ad ya3)), (6, .int yv3), (7, .int yv4), (8, .int yv5), (9, .int yr6), (10, .int yv7), (11, .int yv8), (12, .int yv9), (15, .int yv15), (16, .int yv16), (17, .int yv17)]) hx hb dX1_matchElement_216 hl (by decide) rfl (fun ls hl => ?_)
                          refine lv_iload hx hb dX1_matchElement_218 (lv_at hl 12 rfl) ?_
                          have hJ234 : ∀ (yv19 : Int32) (H : Heap) (locs : List Loc) (ls : Array Slot), jX1_matchElement_234 yv16 yv5 yv9 yv8 yv17 yv7 yv18 yv19 = some yq96 → va_P D vwCl (WC G ad yd) H → va_S A s.heap H locs → lv_has ls 20 [(0, .ref (ad 60)), (1, .ref (ad ya1)), (2, .int yx2), (3, .ref (ad ya3)), (6, .int yv3), (7, .int yv4), (8, .int yv5), (9, .int yr6), (10, .int yv7), (11, .int yv8), (12, .int yv9), (16, .int yv16), (17, .int yv17), (18, .int yv18)] → W p l e (z_rm 1 21) s m args below meth c H locs 0 0 Q (F0 m 234 ls [.int yv19]) := by
                            intro yv19 H locs ls h hP hS hl
                            have h : (zif (yv16 = 0) (jX1_matchElement_265 yv16 yv5 yv9 yv8 yv17 yv19 yv7) (zif (yv17 = 0) (z_br (fX1_hasPrefix yv18 yv9) fun yr24 => zif (yr24 = 0) (jX1_matchElement_265 yv16 yv5 yv9 yv8 yv17 yv19 yv7) (jX1_matchElement_256 yv7 yv9 yv16 yv5 yv8 yv17 yv19)) (jX1_matchElement_256 yv7 yv9 yv16 yv5 yv8 yv17 yv19))) = some yq96 := h
                            refine lv_istore (lv' := [(19, .int yv19), (0, .ref (ad 60)), (1, .ref (ad ya1)), (2, .int yx2), (3, .ref (ad ya3)), (6, .int yv3), (7, .int yv4), (8, .int yv5), (9, .int yr6), (10, .int yv7), (11, .int yv8), (12, .int yv9), (16, .int yv16), (17, .int yv17), (18, .int yv18)]) hx hb dX1_matchElement_234 hl (by decide) rfl (fun ls hl => ?_)
                            refine lv_iload hx hb dX1_matchElement_236 (lv_at hl 12 rfl) ?_
                            have hJ265 : ∀ (yv20 : Int32) (H : Heap) (locs : List Loc) (ls : Array Slot), jX1_matchElement_265 yv16 yv5 yv9 yv8 yv17 yv19 yv20 = some yq96 → va_P D vwCl (WC G ad yd) H → va_S A s.heap H locs → lv_has ls 20 [(0, .ref (ad 60)), (1, .ref (ad ya1)), (2, .int yx2), (3, .ref (ad ya3)), (6, .int yv3), (7, .int yv4), (8, .int yv5), (9, .int yr6), (10, .int yv20), (11, .int yv8), (12, .int yv9), (16, .int yv16), (17, .int yv17), (19, .int yv19)] → W p l e (z_rm 1 21) s m args below meth c H locs 0 0 Q (F0 m 265 ls []) := by
                              intro yv20 H locs ls h hP hS hl
                              have h : (zif (yv16 = 0) (zif (yv5 = 0) (jX1_matchElement_299 yv9 yv20 yv8) (jX1_matchElement_275 yv17 yv19 yv9 yv20 yv8)) (jX1_matchElement_275 yv17 yv19 yv9 yv20 yv8)) = some yq96 := h
                              refine lv_iload hx hb dX1_matchElement_265 (lv_at hl 11 rfl) ?_
                              have hJ275 : ∀  (H : Heap) (locs : List Loc) (ls : Array Slot), jX1_matchElement_275 yv17 yv19 yv9 yv20 yv8 = some yq96 → va_P D vwCl (WC G ad yd) H → va_S A s.heap H locs → lv_has ls 20 [(0, .ref (ad 60)), (1, .ref (ad ya1)), (2, .int yx2), (3, .ref (ad ya3)), (6, .int yv3), (7, .int yv4), (8, .int yv5), (9, .int yr6), (10, .int yv20), (11, .int yv8), (12, .int yv9), (17, .int yv17), (19, .int yv19)] → W p l e (z_rm 1 21) s m args below meth c H locs 0 0 Q (F0 m 275 ls []) := by
                                intro  H locs ls h hP hS hl
                                have h : (zif (yv17 = 0) (z_br (fX1_hasPrefix yv19 yv9) fun yr22 => zif (yr22 = 0) (jX1_matchElement_299 yv9 yv20 yv8) (jX1_matchElement_290 yv8 yv9 yv20)) (jX1_matchElement_290 yv8 yv9 yv20)) = some yq96 := h
                                refine lv_iload hx hb dX1_matchElement_275 (lv_at hl 11 rfl) ?_
                                have hJ290 : ∀  (H : Heap) (locs : List Loc) (ls : Array Slot), jX1_matchElement_290 yv8 yv9 yv20 = some yq96 → va_P D vwCl (WC G ad yd) H → va_S A s.heap H locs → lv_has ls 20 [(0, .ref (ad 60)), (1, .ref (ad ya1)), (2, .int yx2), (3, .ref (ad ya3)), (6, .int yv3), (7, .int yv4), (8, .int yv5), (9, .int yr6), (10, .int yv20), (11, .int yv8), (12, .int yv9)] → W p l e (z_rm 1 21) s m args below meth c H locs 0 0 Q (F0 m 290 ls []) := by
                                  intro  H locs ls h hP hS hl
                                  have h : (z_nm (yv8 ||| ((1 : Int32) <<< (yv9 &&& 31))) fun yv21 => jX1_matchElement_299 yv9 yv20 yv21) = some yq96 := h
                                  refine lv_iload hx hb dX1_matchElement_290 (lv_at hl 9 rfl) ?_
                                  refine lv_iconst (v := (1 : Int32)) hx hb dX1_matchElement_292 (by decide) ?_
                                  refine lv_iload hx hb dX1_matchElement_293 (lv_at hl 10 rfl) ?_
                                  refine lv_ishl hx hb dX1_matchElement_295 ?_
                                  refine lv_ior hx hb dX1_matchElement_296 ?_
                                  refine lv_topi (fun yv21 e_yv21 => ?_)
                                  have h := z_nma e_yv21 h
                                  refine lv_istore (lv' := [(11, .int yv21), (0, .ref (ad 60)), (1, .ref (ad ya1)), (2, .int yx2), (3, .ref (ad ya3)), (6, .int yv3), (7, .int yv4), (8, .int yv5), (9, .int yr6), (10, .int yv20), (12, .int yv9)]) hx hb dX1_matchElement_297 hl (by decide) rfl (fun ls hl => ?_)
                                  exact hJ299 _ _ _ _ _ h hP hS (lv_sub hl [1, 2, 3, 4, 5, 6, 7, 8, 9, 0, 10] rfl)
                                refine lv_if_ne (tgt := 290) hx hb dX1_matchElement_277 (by decide) (fun yc277 => ?_) (fun yc277 => ?_)
                                · have h := z_ifn yc277 h
                                  exact hJ290  _ _ _ h hP hS (lv_sub hl [0, 1, 2, 3, 4, 5, 6, 7, 8, 9, 10] rfl)
                                · have h := z_ifp yc277 h
                                  refine lv_iload hx hb dX1_matchElement_280 (lv_at hl 12 rfl) ?_
                                  refine lv_iload hx hb dX1_matchElement_282 (lv_at hl 10 rfl) ?_
                                  obtain ⟨yr22, yhc284, h⟩ := z_brx h
                                  refine z_kz (z_rS (As := [.int yv19, .int yv9]) (rest := []) ⟨hx, hb, hml, hown, hts⟩ hK hP (kX1_hasPrefix yhc284) giX1_68 ⟨rfl, rfl⟩ ndX1_hasPrefix ⟨Nat.le_of_ble_eq_true rfl, Nat.le_of_ble_eq_true rfl⟩ rfl hl.1 rfl (Nat.le_of_ble_eq_true rfl) ⟨Nat.le_refl _, Nat.le_refl _⟩ dX1_matchElement_284) hS (fun H locs z_yr22 hP hS => ?_)
                                  refine lv_if_eq (tgt := 299) hx hb dX1_matchElement_287 (by decide) (fun yc287 => ?_) (fun yc287 => ?_)
                                  · have h := z_ifp yc287 h
                                    exact hJ299 _ _ _ _ _ h hP hS (lv_sub hl [0, 1, 2, 3, 4, 5, 6, 7, 8, 9, 10] rfl)
                                  · have h := z_ifn yc287 h
                                    exact hJ290  _ _ _ h hP hS (lv_sub hl [0, 1, 2, 3, 4, 5, 6, 7, 8, 9, 10] rfl)
                              refine lv_if_ne (tgt := 275) hx hb dX1_matchElement_267 (by decide) (fun yc267 => ?_) (fun yc267 => ?_)
                              · have h := z_ifn yc267 h
                                exact hJ275  _ _ _ h hP hS (lv_sub hl [0, 1, 2, 3, 4, 5, 6, 7, 8, 9, 10, 12, 13] rfl)
                              · have h := z_ifp yc267 h
                                refine lv_iload hx hb dX1_matchElement_270 (lv_at hl 6 rfl) ?_
                                refine lv_if_eq (tgt := 299) hx hb dX1_matchElement_272 (by decide) (fun yc272 => ?_) (fun yc272 => ?_)
                                · have h := z_ifp yc272 h
                                  exact hJ299 _ _ _ _ _ h hP hS (lv_sub hl [0, 1, 2, 3, 4, 5, 6, 7, 8, 9, 10] rfl)
                                · have h := z_ifn yc272 h
                                  exact hJ275  _ _ _ h hP hS (lv_sub hl [0, 1, 2, 3, 4, 5, 6, 7, 8, 9, 10, 12, 13] rfl)
                            refine lv_if_eq (tgt := 265) hx hb dX1_matchElement_238 (by decide) (fun yc238 => ?_) (fun yc238 => ?_)
                            · have h := z_ifp yc238 h
                              exact hJ265 _ _ _ _ h hP hS (lv_sub hl [1, 2, 3, 4, 5, 6, 7, 8, 9, 10, 11, 12, 13, 0] rfl)
                            · have h := z_ifn yc238 h
                              refine lv_iload hx hb dX1_matchElement_241 (lv_at hl 13 rfl) ?_
                              have hJ256 : ∀  (H : Heap) (locs : List Loc) (ls : Array Slot), jX1_matchElement_256 yv7 yv9 yv16 yv5 yv8 yv17 yv19 = some yq96 → va_P D vwCl (WC G ad yd) H → va_S A s.heap H locs → lv_has ls 20 [(0, .ref (ad 60)), (1, .ref (ad ya1)), (2, .int yx2), (3, .ref (ad ya3)), (6, .int yv3), (7, .int yv4), (8, .int yv5), (9, .int yr6), (10, .int yv7), (11, .int yv8), (12, .int yv9), (16, .int yv16), (17, .int yv17), (19, .int yv19)] → W p l e (z_rm 1 21) s m args below meth c H locs 0 0 Q (F0 m 256 ls []) := by
                                intro  H locs ls h hP hS hl
                                have h : (z_nm (yv7 ||| ((1 : Int32) <<< (yv9 &&& 31))) fun yv23 => jX1_matchElement_265 yv16 yv5 yv9 yv8 yv17 yv19 yv23) = some yq96 := h
                                refine lv_iload hx hb dX1_matchElement_256 (lv_at hl 8 rfl) ?_
                                refine lv_iconst (v := (1 : Int32)) hx hb dX1_matchElement_258 (by decide) ?_
                                refine lv_iload hx hb dX1_matchElement_259 (lv_at hl 10 rfl) ?_
                                refine lv_ishl hx hb dX1_matchElement_261 ?_
                                refine lv_ior hx hb dX1_matchElement_262 ?_
                                refine lv_topi (fun yv23 e_yv23 => ?_)
                                have h := z_nma e_yv23 h
                                refine lv_istore (lv' := [(10, .int yv23), (0, .ref (ad 60)), (1, .ref (ad ya1)), (2, .int yx2), (3, .ref (ad ya3)), (6, .int yv3), (7, .int yv4), (8, .int yv5), (9, .int yr6), (11, .int yv8), (12, .int yv9), (16, .int yv16), (17, .int yv17), (19, .int yv19)]) hx hb dX1_matchElement_263 hl (by decide) rfl (fun ls hl => ?_)
                                exact hJ265 _ _ _ _ h hP hS (lv_sub hl [1, 2, 3, 4, 5, 6, 7, 8, 0, 9, 10, 11, 12, 13] rfl)
                              refine lv_if_ne (tgt := 256) hx hb dX1_matchElement_243 (by decide) (fun yc243 => ?_) (fun yc243 => ?_)
                              · have h := z_ifn yc243 h
                                exact hJ256  _ _ _ h hP hS (lv_sub hl [1, 2, 3, 4, 5, 6, 7, 8, 9, 10, 11, 12, 13, 0] rfl)
                              · have h := z_ifp yc243 h
                                refine lv_iload hx hb dX1_matchElement_246 (lv_at hl 14 rfl) ?_
                                refine lv_iload hx hb dX1_matchElement_248 (lv_at hl 11 rfl) ?_
                                obtain ⟨yr24, yhc250, h⟩ := z_brx h
                                refine z_kz (z_rS (As := [.int yv18, .int yv9]) (rest := []) ⟨hx, hb, hml, hown, hts⟩ hK hP (kX1_hasPrefix yhc250) giX1_68 ⟨rfl, rfl⟩ ndX1_hasPrefix ⟨Nat.le_of_ble_eq_true rfl, Nat.le_of_ble_eq_true rfl⟩ rfl hl.1 rfl (Nat.le_of_ble_eq_true rfl) ⟨Nat.le_refl _, Nat.le_refl _⟩ dX1_matchElement_250) hS (fun H locs z_yr24 hP hS => ?_)
                                refine lv_if_eq (tgt := 265) hx hb dX1_matchElement_253 (by decide) (fun yc253 => ?_) (fun yc253 => ?_)
                                · have h := z_ifp yc253 h
                                  exact hJ265 _ _ _ _ h hP hS (lv_sub hl [1, 2, 3, 4, 5, 6, 7, 8, 9, 10, 11, 12, 13, 0] rfl)
                                · have h := z_ifn yc253 h
                                  exact hJ256  _ _ _ h hP hS (lv_sub hl [1, 2, 3, 4, 5, 6, 7, 8, 9, 10, 11, 12, 13, 0] rfl)
                          refine lv_if_eq (tgt := 232) hx hb dX1_matchElement_220 (by decide) (fun yc220 => ?_) (fun yc220 => ?_)
                          · have h := z_ifp yc220 h
                            refine lv_iload hx hb dX1_matchElement_232 (lv_at hl 6 rfl) ?_
                            exact hJ234 _ _ _ _ h hP hS (lv_sub hl [1, 2, 3, 4, 5, 6, 7, 8, 9, 10, 11, 13, 14, 0] rfl)
                          · have h := z_ifn yc220 h
                            refine lv_aload_n hx hb dX1_matchElement_223 rfl (lv_at hl 1 rfl) ?_
                            refine gt_X1_3 hx hb hts hown hK hP (hts _ wl_1_138) dX1_matchElement_224 ?_
                            refine lv_iload_n hx hb dX1_matchElement_227 rfl (lv_at hl 3 rfl) ?_
                            obtain ⟨yg228, h⟩ := z_gi h
                            refine al_C hx hb hK hP rfl (by decide) yg228 dX1_matchElement_228 ?_
                            refine lv_goto (tgt := 234) hx hb dX1_matchElement_229 (by decide) ?_
                            exact hJ234 _ _ _ _ h hP hS (lv_sub hl [1, 2, 3, 4, 5, 6, 7, 8, 9, 10, 11, 13, 14, 0] rfl)
                        refine lv_if_eq (tgt := 214) hx hb dX1_matchElement_202 (by decide) (fun yc202 => ?_) (fun yc202 => ?_)
                        · have h := z_ifp yc202 h
                          refine lv_iload hx hb dX1_matchElement_214 (lv_at hl 5 rfl) ?_
                          exact hJ216 _ _ _ _ h hP hS (lv_sub hl [1, 2, 3, 4, 5, 6, 7, 8, 9, 10, 11, 12, 13, 0] rfl)
                        · have h := z_ifn yc202 h
                          refine lv_aload_n hx hb dX1_matchElement_205 rfl (lv_at hl 1 rfl) ?_
                          refine gt_X1_2 hx hb hts hown hK hP (hts _ wl_1_137) dX1_matchElement_206 ?_
                          refine lv_iload_n hx hb dX1_matchElement_209 rfl (lv_at hl 3 rfl) ?_
                          obtain ⟨yg210, h⟩ := z_gi h
                          refine al_C hx hb hK hP rfl (by decide) yg210 dX1_matchElement_210 ?_
                          refine lv_goto (tgt := 216) hx hb dX1_matchElement_211 (by decide) ?_
                          exact hJ216 _ _ _ _ h hP hS (lv_sub hl [1, 2, 3, 4, 5, 6, 7, 8, 9, 10, 11, 12, 13, 0] rfl)
                      have hJ197 : ∀  (H : Heap) (locs : List Loc) (ls : Array Slot), jX1_matchElement_197 yv15 yv16 yv5 yv9 yv8 yv7 yv4 yx2 yd yv3 = some yq96 → va_P D vwCl (WC G ad yd) H → va_S A s.heap H locs → lv_has ls 20 [(0, .ref (ad 60)), (1, .ref (ad ya1)), (2, .int yx2), (3, .ref (ad ya3)), (6, .int yv3), (7, .int yv4), (8, .int yv5), (9, .int yr6), (10, .int yv7), (11, .int yv8), (12, .int yv9), (15, .int yv15), (16, .int yv16)] → W p l e (z_rm 1 21) s m args below meth c H locs 0 0 Q (F0 m 197 ls []) := by
                        intro  H locs ls h hP hS hl
                        have h : (jX1_matchElement_198 yv15 yv16 yv5 yv9 yv8 yv7 yv4 yx2 yd yv3 (0 : Int32)) = some yq96 := h
                        refine lv_iconst (v := (0 : Int32)) hx hb dX1_matchElement_197 (by decide) ?_
                        exact hJ198 _ _ _ _ h hP hS (lv_sub hl [0, 1, 2, 3, 4, 5, 6, 7, 8, 9, 10, 11, 12] rfl)
                      refine lv_if_ne (tgt := 197) hx hb dX1_matchElement_181 (by decide) (fun yc181 => ?_) (fun yc181 => ?_)
                      · have h := z_ifn yc181 h
                        exact hJ197  _ _ _ h hP hS (lv_sub hl [2, 3, 4, 5, 6, 7, 8, 9, 10, 11, 12, 1, 0] rfl)
                      · have h := z_ifp yc181 h
                        refine lv_iload hx hb dX1_matchElement_184 (lv_at hl 1 rfl) ?_
                        have hJ193 : ∀  (H : Heap) (locs : List Loc) (ls : Array Slot), jX1_matchElement_193 yv15 yv16 yv5 yv9 yv8 yv7 yv4 yx2 yd yv3 = some yq96 → va_P D vwCl (WC G ad yd) H → va_S A s.heap H locs → lv_has ls 20 [(0, .ref (ad 60)), (1, .ref (ad ya1)), (2, .int yx2), (3, .ref (ad ya3)), (6, .int yv3), (7, .int yv4), (8, .int yv5), (9, .int yr6), (10, .int yv7), (11, .int yv8), (12, .int yv9), (15, .int yv15), (16, .int yv16)] → W p l e (z_rm 1 21) s m args below meth c H locs 0 0 Q (F0 m 193 ls []) := by
                          intro  H locs ls h hP hS hl
                          have h : (jX1_matchElement_198 yv15 yv16 yv5 yv9 yv8 yv7 yv4 yx2 yd yv3 (1 : Int32)) = some yq96 := h
                          refine lv_iconst (v := (1 : Int32)) hx hb dX1_matchElement_193 (by decide) ?_
                          refine lv_goto (tgt := 198) hx hb dX1_matchElement_194 (by decide) ?_
                          exact hJ198 _ _ _ _ h hP hS (lv_sub hl [0, 1, 2, 3, 4, 5, 6, 7, 8, 9, 10, 11, 12] rfl)
                        refine lv_if_ne (tgt := 193) hx hb dX1_matchElement_186 (by decide) (fun yc186 => ?_) (fun yc186 => ?_)
                        · have h := z_ifn yc186 h
                          exact hJ193  _ _ _ h hP hS (lv_sub hl [2, 3, 4, 5, 6, 7, 8, 9, 10, 11, 12, 1, 0] rfl)
                        · have h := z_ifp yc186 h
                          refine lv_iload_n hx hb dX1_matchElement_189 rfl (lv_at hl 4 rfl) ?_
                          refine lv_if_ne (tgt := 197) hx hb dX1_matchElement_190 (by decide) (fun yc190 => ?_) (fun yc190 => ?_)
                          · have h := z_ifn yc190 h
                            exact hJ197  _ _ _ h hP hS (lv_sub hl [2, 3, 4, 5, 6, 7, 8, 9, 10, 11, 12, 1, 0] rfl)
                          · have h := z_ifp yc190 h
                            exact hJ193  _ _ _ h hP hS (lv_sub hl [2, 3, 4, 5, 6, 7, 8, 9, 10, 11, 12, 1, 0] rfl)
                    refine lv_if_eq (tgt := 176) hx hb dX1_matchElement_169 (by decide) (fun yc169 => ?_) (fun yc169 => ?_)
                    · refine lv_iconst (v := (0 : Int32)) hx hb dX1_matchElement_176 (by decide) ?_
                      exact hM177 _ _ _ (z_tp yc169 rfl) hP hS
                    · refine lv_iconst (v := (1 : Int32)) hx hb dX1_matchElement_172 (by decide) ?_
                      refine lv_goto (tgt := 177) hx hb dX1_matchElement_173 (by decide) ?_
                      exact hM177 _ _ _ (z_tn yc169 rfl) hP hS
                  refine lv_icmp_lt (tgt := 156) hx hb dX1_matchElement_149 (by decide) (fun yc149 => ?_) (fun yc149 => ?_)
                  · refine lv_iconst (v := (0 : Int32)) hx hb dX1_matchElement_156 (by decide) ?_
                    exact hM157 _ _ _ (z_tp yc149 rfl) hP hS
                  · refine lv_iconst (v := (1 : Int32)) hx hb dX1_matchElement_152 (by decide) ?_
                    refine lv_goto (tgt := 157) hx hb dX1_matchElement_153 (by decide) ?_
                    exact hM157 _ _ _ (z_tn yc149 rfl) hP hS
                refine lv_icmp_eq (tgt := 144) hx hb dX1_matchElement_127 (by decide) (fun yc127 => ?_) (fun yc127 => ?_)
                · have h := z_ifp yc127 h
                  exact hJ144  _ _ _ h hP hS (lv_sub hl [2, 3, 4, 5, 6, 7, 8, 9, 10, 11, 12, 1] rfl)
                · have h := z_ifn yc127 h
                  refine lv_iload hx hb dX1_matchElement_130 (lv_at hl 0 rfl) ?_
                  refine lv_aload_n hx hb dX1_matchElement_132 rfl (lv_at hl 3 rfl) ?_
                  refine gt_X0_0 hx hb hts hown hK hP yh1 (hts _ wl_1_32) dX1_matchElement_133 ?_
                  refine lv_iload_n hx hb dX1_matchElement_136 rfl (lv_at hl 4 rfl) ?_
                  obtain ⟨yg137, h⟩ := z_gi h
                  refine al_C hx hb hK hP (ar_el1 yh1) (by decide) yg137 dX1_matchElement_137 ?_
                  refine lv_icmp_eq (tgt := 144) hx hb dX1_matchElement_138 (by decide) (fun yc138 => ?_) (fun yc138 => ?_)
                  · have h := z_ifp yc138 h
                    exact hJ144  _ _ _ h hP hS (lv_sub hl [2, 3, 4, 5, 6, 7, 8, 9, 10, 11, 12, 1] rfl)
                  · have h := z_ifn yc138 h
                    refine lv_goto (tgt := 299) hx hb dX1_matchElement_141 (by decide) ?_
                    exact hJ299 _ _ _ _ _ h hP hS (lv_sub hl [2, 3, 4, 5, 6, 7, 8, 9, 10, 11, 12] rfl)
          exact hL96 yn96 _ _ _ _ _ _ hlp hP hS (lv_sub hl [6, 7, 8, 9, 10, 5, 4, 3, 2, 1, 0] rfl)
        refine lv_if_eq (tgt := 77) hx hb dX1_matchElement_70 (by decide) (fun yc70 => ?_) (fun yc70 => ?_)
        · refine lv_iconst (v := (0 : Int32)) hx hb dX1_matchElement_77 (by decide) ?_
          exact hM78 _ _ _ (z_tp yc70 rfl) hP hS
        · refine lv_iconst (v := (1 : Int32)) hx hb dX1_matchElement_73 (by decide) ?_
          refine lv_goto (tgt := 78) hx hb dX1_matchElement_74 (by decide) ?_
          exact hM78 _ _ _ (z_tn yc70 rfl) hP hS
      refine lv_if_eq (tgt := 59) hx hb dX1_matchElement_46 (by decide) (fun yc46 => ?_) (fun yc46 => ?_)
      · have h := z_ifp yc46 h
        refine lv_iconst (v := (0 : Int32)) hx hb dX1_matchElement_59 (by decide) ?_
        exact hJ60 _ _ _ _ h hP hS (lv_sub hl [1, 2, 3, 4, 0] rfl)
      · have h := z_ifn yc46 h
        refine lv_aload_n hx hb dX1_matchElement_49 rfl (lv_at hl 1 rfl) ?_
        refine gt_X1_1 hx hb hts hown hK hP (hts _ wl_1_136) dX1_matchElement_50 ?_
        refine lv_iload hx hb dX1_matchElement_53 (lv_at hl 5 rfl) ?_
        obtain ⟨yg55, h⟩ := z_gi h
        refine al_C hx hb hK hP rfl (by decide) yg55 dX1_matchElement_55 ?_
        refine lv_goto (tgt := 60) hx hb dX1_matchElement_56 (by decide) ?_
        exact hJ60 _ _ _ _ h hP hS (lv_sub hl [1, 2, 3, 4, 0] rfl)
    refine lv_if_eq (tgt := 41) hx hb dX1_matchElement_28 (by decide) (fun yc28 => ?_) (fun yc28 => ?_)
    · have h := z_ifp yc28 h
      refine lv_iconst (v := (0 : Int32)) hx hb dX1_matchElement_41 (by decide) ?_
      exact hJ42 _ _ _ _ h hP hS (lv_sub hl [1, 2, 3, 4, 5, 0] rfl)
    · have h := z_ifn yc28 h
      refine lv_aload_n hx hb dX1_matchElement_31 rfl (lv_at hl 1 rfl) ?_
      refine gt_X1_0 hx hb hts hown hK hP (hts _ wl_1_134) dX1_matchElement_32 ?_
      refine lv_iload hx hb dX1_matchElement_35 (lv_at hl 5 rfl) ?_
      obtain ⟨yg37, h⟩ := z_gi h
      refine al_C hx hb hK hP rfl (by decide) yg37 dX1_matchElement_37 ?_
      refine lv_goto (tgt := 42) hx hb dX1_matchElement_38 (by decide) ?_
      exact hJ42 _ _ _ _ h hP hS (lv_sub hl [1, 2, 3, 4, 5, 0] rfl)
  have hJ23 : ∀  (H : Heap) (locs : List Loc) (ls : Array Slot), jX1_matchElement_23 yd ya1 yx2 ya3 yv1 = some dd → va_P D vwCl (WC G ad yd) H → va_S A s.heap H locs → lv_has ls 20 [(0, .ref (ad 60)), (1, .ref (ad ya1)), (2, .int yx2), (3, .ref (ad ya3)), (4, .int yv1)] → W p l e (z_rm 1 21) s m args below meth c H locs 0 0 Q (F0 m 23 ls []) := by
    intro  H locs ls h hP hS hl
    have h : (jX1_matchElement_24 yd ya1 yx2 ya3 yv1 (0 : Int32)) = some dd := h
    refine lv_iconst (v := (0 : Int32)) hx hb dX1_matchElement_23 (by decide) ?_
    exact hJ24 _ _ _ _ h hP hS (lv_sub hl [0, 1, 2, 3, 4] rfl)
  refine lv_if_lt (tgt := 23) hx hb dX1_matchElement_10 (by decide) (fun yc10 => ?_) (fun yc10 => ?_)
  · have h := z_ifp yc10 h
    exact hJ23  _ _ _ h hP hS (lv_sub hl [1, 2, 3, 4, 0] rfl)
  · have h := z_ifn yc10 h
    refine lv_iload hx hb dX1_matchElement_13 (lv_at hl 0 rfl) ?_
    refine lv_iload_n hx hb dX1_matchElement_15 rfl (lv_at hl 3 rfl) ?_
    refine lv_icmp_ge (tgt := 23) hx hb dX1_matchElement_16 (by decide) (fun yc16 => ?_) (fun yc16 => ?_)
    · have h := z_ifp yc16 h
      exact hJ23  _ _ _ h hP hS (lv_sub hl [1, 2, 3, 4, 0] rfl)
    · have h := z_ifn yc16 h
      refine lv_iconst (v := (1 : Int32)) hx hb dX1_matchElement_19 (by decide) ?_
      refine lv_goto (tgt := 24) hx hb dX1_matchElement_20 (by decide) ?_
      exact hJ24 _ _ _ _ h hP hS (lv_sub hl [1, 2, 3, 4, 0] rfl)
