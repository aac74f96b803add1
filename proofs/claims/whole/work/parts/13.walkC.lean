noncomputable def fX5_isElement (yd : Dt) (yx1 : Int32) : Option Int32 :=
  zif (yx1 < 0) (some (0 : Int32)) (zif ((yd.1 2 6) ≤ yx1) (some (0 : Int32)) (some (1 : Int32)))
set_option maxHeartbeats 4000000 in
set_option maxRecDepth 100000 in
theorem kX5_isElement {l : Launch} {D : va_G} {G : z_G} {ad : Nat → Nat} {A : Nat → Prop} (hI : ∀ d, va_D A (WC G ad d)) {yd : Dt} {yx1 : Int32}  {rr : Int32} (h : fX5_isElement yd yx1 = some rr) : z_Mz l D G A (WC G ad) yX5_isElement cX5_isElement 2 (z_rm 0 0) yd [.ref (ad 0), .int yx1] rr yd := by
  refine z_ofz (by decide) (Nat.le_of_ble_eq_true rfl) fun p e s m args below meth c Q hx hb hml hown hts hK hP hRet ls hl => ?_
  have hS : va_S A s.heap s.heap [] := va_S.rf
  have hl : lv_has ls 2 [(0, .ref (ad 0)), (1, .int yx1)] := hl
  have h : (zif (yx1 < 0) (some (0 : Int32)) (zif ((yd.1 2 6) ≤ yx1) (some (0 : Int32)) (some (1 : Int32)))) = some rr := h
  refine lv_iload_n hx hb dX5_isElement_0 rfl (lv_at hl 1 rfl) ?_
  refine lv_if_lt (tgt := 22) hx hb dX5_isElement_1 (by decide) (fun yc1 => ?_) (fun yc1 => ?_)
  · have h := z_ifp yc1 h
    refine lv_iconst (v := (0 : Int32)) hx hb dX5_isElement_22 (by decide) ?_
    exact hRet _ _ _ _ _ _ hP hS (Or.inl rfl) (z_pair h) dX5_isElement_23
  · have h := z_ifn yc1 h
    refine lv_iload_n hx hb dX5_isElement_4 rfl (lv_at hl 1 rfl) ?_
    refine lv_aload_n hx hb dX5_isElement_5 rfl (lv_at hl 0 rfl) ?_
    refine gt_X5_0 hx hb hts hown hK hP (hts _ wl_1_175) dX5_isElement_6 ?_
    refine gt_X3_0 hx hb hts hown hK hP st_1 (hts _ wl_1_114) dX5_isElement_9 ?_
    refine gt_X0_6 hx hb hts hown hK hP (el_st st_1) (hts _ wl_1_48) dX5_isElement_12 ?_
    refine lv_icmp_ge (tgt := 22) hx hb dX5_isElement_15 (by decide) (fun yc15 => ?_) (fun yc15 => ?_)
    · have h := z_ifp yc15 h
      refine lv_iconst (v := (0 : Int32)) hx hb dX5_isElement_22 (by decide) ?_
      exact hRet _ _ _ _ _ _ hP hS (Or.inl rfl) (z_pair h) dX5_isElement_23
    · have h := z_ifn yc15 h
      refine lv_iconst (v := (1 : Int32)) hx hb dX5_isElement_18 (by decide) ?_
      refine lv_goto (tgt := 23) hx hb dX5_isElement_19 (by decide) ?_
      exact hRet _ _ _ _ _ _ hP hS (Or.inr rfl) (z_pair h) dX5_isElement_23
noncomputable def fX5_element (yd : Dt) (yx1 : Int32) (yx2 : Int32) : Option Int32 :=
  z_br (fX5_isElement yd yx1) fun yr1 => zif (yr1 = 0) (some (-1 : Int32)) (zif (yx2 = (0 : Int32)) (z_gd (z_in yx1 20) (some (yd.1 3 (z_ix yx1)))) (zif (yx2 = (1 : Int32)) (z_gd (z_in yx1 20) (some (yd.1 4 (z_ix yx1)))) (zif (yx2 = (2 : Int32)) (z_gd (z_in yx1 20) (some (yd.1 5 (z_ix yx1)))) (zif (yx2 = (3 : Int32)) (some (((yd.1 2 5) >>> (yx1 &&& 31)) &&& (1 : Int32))) (zif (yx2 = (4 : Int32)) (z_gd (z_in yx1 20) (some (yd.1 6 (z_ix yx1)))) (zif (yx2 = (5 : Int32)) (z_gd (z_in yx1 20) (some (yd.1 7 (z_ix yx1)))) (some (-2 : Int32))))))))
set_option maxHeartbeats 4000000 in
set_option maxRecDepth 100000 in
theorem kX5_element {l : Launch} {D : va_G} {G : z_G} {ad : Nat → Nat} {A : Nat → Prop} (hI : ∀ d, va_D A (WC G ad d)) {yd : Dt} {yx1 : Int32} {yx2 : Int32}  {rr : Int32} (h : fX5_element yd yx1 yx2 = some rr) : z_Mi l D G A (WC G ad) yX5_element cX5_element 4 (z_rm 1 21) yd [.ref (ad 0), .int yx1, .int yx2] rr yd := by
  refine z_ofi (by decide) (Nat.le_of_ble_eq_true rfl) fun p e s m args below meth c Q hx hb hml hown hts hK hP hRet ls hl => ?_
  have hS : va_S A s.heap s.heap [] := va_S.rf
  have hl : lv_has ls 4 [(0, .ref (ad 0)), (1, .int yx1), (2, .int yx2)] := hl
  have h : (z_br (fX5_isElement yd yx1) fun yr1 => zif (yr1 = 0) (some (-1 : Int32)) (zif (yx2 = (0 : Int32)) (z_gd (z_in yx1 20) (some (yd.1 3 (z_ix yx1)))) (zif (yx2 = (1 : Int32)) (z_gd (z_in yx1 20) (some (yd.1 4 (z_ix yx1)))) (zif (yx2 = (2 : Int32)) (z_gd (z_in yx1 20) (some (yd.1 5 (z_ix yx1)))) (zif (yx2 = (3 : Int32)) (some (((yd.1 2 5) >>> (yx1 &&& 31)) &&& (1 : Int32))) (zif (yx2 = (4 : Int32)) (z_gd (z_in yx1 20) (some (yd.1 6 (z_ix yx1)))) (zif (yx2 = (5 : Int32)) (z_gd (z_in yx1 20) (some (yd.1 7 (z_ix yx1)))) (some (-2 : Int32))))))))) = some rr := h
  refine lv_aload_n hx hb dX5_element_0 rfl (lv_at hl 0 rfl) ?_
  refine lv_iload_n hx hb dX5_element_1 rfl (lv_at hl 1 rfl) ?_
  obtain ⟨yr1, yhc2, h⟩ := z_brx h
  refine z_kz (z_rV (As := [.int yx1]) (rest := []) ⟨hx, hb, hml, hown, hts⟩ hK hP w_X5 rfl (kX5_isElement hI yhc2) giX5_107 ⟨rfl, rfl⟩ ndX5_isElement ⟨Nat.le_of_ble_eq_true rfl, Nat.le_of_ble_eq_true rfl⟩ rfl hl.1 rfl (Nat.le_of_ble_eq_true rfl) ⟨Nat.le_refl _, Nat.le_refl _⟩ dX5_element_2) hS (fun H locs z_yr1 hP hS => ?_)
  refine lv_if_ne (tgt := 10) hx hb dX5_element_5 (by decide) (fun yc5 => ?_) (fun yc5 => ?_)
  · have h := z_ifn yc5 h
    refine lv_aload_n hx hb dX5_element_10 rfl (lv_at hl 0 rfl) ?_
    refine gt_X5_0 hx hb hts hown hK hP (hts _ wl_1_175) dX5_element_11 ?_
    refine gt_X3_0 hx hb hts hown hK hP st_1 (hts _ wl_1_114) dX5_element_14 ?_
    refine lv_astore_n (lv' := [(3, .ref (ad 2)), (0, .ref (ad 0)), (1, .int yx1), (2, .int yx2)]) hx hb dX5_element_17 rfl hl (by decide) rfl (fun ls hl => ?_)
    refine lv_iload_n hx hb dX5_element_18 rfl (lv_at hl 3 rfl) ?_
    by_cases yk19_0 : yx2 = (0 : Int32)
    · have h := z_ifp yk19_0 h
      refine lv_tableIn (off := (37)) (tgt := 56) hx hb dX5_element_19 (by rw [yk19_0]; decide) (by rw [yk19_0]; decide) (by rw [yk19_0]; rfl) (by decide) ?_
      refine lv_aload_n hx hb dX5_element_56 rfl (lv_at hl 0 rfl) ?_
      refine gt_X0_0 hx hb hts hown hK hP (el_st st_1) (hts _ wl_1_33) dX5_element_57 ?_
      refine lv_iload_n hx hb dX5_element_60 rfl (lv_at hl 2 rfl) ?_
      obtain ⟨yg61, h⟩ := z_gi h
      refine al_C hx hb hK hP (ar_el1 (el_st st_1)) (by decide) yg61 dX5_element_61 ?_
      exact hRet _ _ _ _ _ _ hP hS (z_pair h) dX5_element_62
    have h := z_ifn yk19_0 h
    by_cases yk19_1 : yx2 = (1 : Int32)
    · have h := z_ifp yk19_1 h
      refine lv_tableIn (off := (44)) (tgt := 63) hx hb dX5_element_19 (by rw [yk19_1]; decide) (by rw [yk19_1]; decide) (by rw [yk19_1]; rfl) (by decide) ?_
      refine lv_aload_n hx hb dX5_element_63 rfl (lv_at hl 0 rfl) ?_
      refine gt_X0_1 hx hb hts hown hK hP (el_st st_1) (hts _ wl_1_36) dX5_element_64 ?_
      refine lv_iload_n hx hb dX5_element_67 rfl (lv_at hl 2 rfl) ?_
      obtain ⟨yg68, h⟩ := z_gi h
      refine al_C hx hb hK hP (ar_el2 (el_st st_1)) (by decide) yg68 dX5_element_68 ?_
      exact hRet _ _ _ _ _ _ hP hS (z_pair h) dX5_element_69
    have h := z_ifn yk19_1 h
    by_cases yk19_2 : yx2 = (2 : Int32)
    · have h := z_ifp yk19_2 h
      refine lv_tableIn (off := (51)) (tgt := 70) hx hb dX5_element_19 (by rw [yk19_2]; decide) (by rw [yk19_2]; decide) (by rw [yk19_2]; rfl) (by decide) ?_
      refine lv_aload_n hx hb dX5_element_70 rfl (lv_at hl 0 rfl) ?_
      refine gt_X0_2 hx hb hts hown hK hP (el_st st_1) (hts _ wl_1_38) dX5_element_71 ?_
      refine lv_iload_n hx hb dX5_element_74 rfl (lv_at hl 2 rfl) ?_
      obtain ⟨yg75, h⟩ := z_gi h
      refine al_C hx hb hK hP (ar_el3 (el_st st_1)) (by decide) yg75 dX5_element_75 ?_
      exact hRet _ _ _ _ _ _ hP hS (z_pair h) dX5_element_76
    have h := z_ifn yk19_2 h
    by_cases yk19_3 : yx2 = (3 : Int32)
    · have h := z_ifp yk19_3 h
      refine lv_tableIn (off := (58)) (tgt := 77) hx hb dX5_element_19 (by rw [yk19_3]; decide) (by rw [yk19_3]; decide) (by rw [yk19_3]; rfl) (by decide) ?_
      refine lv_aload_n hx hb dX5_element_77 rfl (lv_at hl 0 rfl) ?_
      refine gt_X0_5 hx hb hts hown hK hP (el_st st_1) (hts _ wl_1_45) dX5_element_78 ?_
      refine lv_iload_n hx hb dX5_element_81 rfl (lv_at hl 2 rfl) ?_
      refine lv_ishr hx hb dX5_element_82 ?_
      refine lv_iconst (v := (1 : Int32)) hx hb dX5_element_83 (by decide) ?_
      refine lv_iand hx hb dX5_element_84 ?_
      exact hRet _ _ _ _ _ _ hP hS (z_pair h) dX5_element_85
    have h := z_ifn yk19_3 h
    by_cases yk19_4 : yx2 = (4 : Int32)
    · have h := z_ifp yk19_4 h
      refine lv_tableIn (off := (67)) (tgt := 86) hx hb dX5_element_19 (by rw [yk19_4]; decide) (by rw [yk19_4]; decide) (by rw [yk19_4]; rfl) (by decide) ?_
      refine lv_aload_n hx hb dX5_element_86 rfl (lv_at hl 0 rfl) ?_
      refine gt_X0_3 hx hb hts hown hK hP (el_st st_1) (hts _ wl_1_40) dX5_element_87 ?_
      refine lv_iload_n hx hb dX5_element_90 rfl (lv_at hl 2 rfl) ?_
      obtain ⟨yg91, h⟩ := z_gi h
      refine al_C hx hb hK hP (ar_el4 (el_st st_1)) (by decide) yg91 dX5_element_91 ?_
      exact hRet _ _ _ _ _ _ hP hS (z_pair h) dX5_element_92
    have h := z_ifn yk19_4 h
    by_cases yk19_5 : yx2 = (5 : Int32)
    · have h := z_ifp yk19_5 h
      refine lv_tableIn (off := (74)) (tgt := 93) hx hb dX5_element_19 (by rw [yk19_5]; decide) (by rw [yk19_5]; decide) (by rw [yk19_5]; rfl) (by decide) ?_
      refine lv_aload_n hx hb dX5_element_93 rfl (lv_at hl 0 rfl) ?_
      refine gt_X0_4 hx hb hts hown hK hP (el_st st_1) (hts _ wl_1_42) dX5_element_94 ?_
      refine lv_iload_n hx hb dX5_element_97 rfl (lv_at hl 2 rfl) ?_
      obtain ⟨yg98, h⟩ := z_gi h
      refine al_C hx hb hK hP (ar_el5 (el_st st_1)) (by decide) yg98 dX5_element_98 ?_
      exact hRet _ _ _ _ _ _ hP hS (z_pair h) dX5_element_99
    have h := z_ifn yk19_5 h
    refine lv_tableOut (tgt := 100) hx hb dX5_element_19 (by have q0 := lv_neT yk19_0 (a := 0) rfl; have q1 := lv_neT yk19_1 (a := 1) rfl; have q2 := lv_neT yk19_2 (a := 2) rfl; have q3 := lv_neT yk19_3 (a := 3) rfl; have q4 := lv_neT yk19_4 (a := 4) rfl; have q5 := lv_neT yk19_5 (a := 5) rfl; omega) (by decide) ?_
    refine lv_bipush (v := (-2 : Int32)) hx hb dX5_element_100 (by decide) ?_
    exact hRet _ _ _ _ _ _ hP hS (z_pair h) dX5_element_102
  · have h := z_ifp yc5 h
    refine lv_iconst (v := (-1 : Int32)) hx hb dX5_element_8 (by decide) ?_
    exact hRet _ _ _ _ _ _ hP hS (z_pair h) dX5_element_9
noncomputable def fX5_isPath (yd : Dt) (yx1 : Int32) : Option Int32 :=
  zif (yx1 < 0) (some (0 : Int32)) (zif ((yd.1 1 2) ≤ yx1) (some (0 : Int32)) (some (1 : Int32)))
set_option maxHeartbeats 4000000 in
set_option maxRecDepth 100000 in
theorem kX5_isPath {l : Launch} {D : va_G} {G : z_G} {ad : Nat → Nat} {A : Nat → Prop} (hI : ∀ d, va_D A (WC G ad d)) {yd : Dt} {yx1 : Int32}  {rr : Int32} (h : fX5_isPath yd yx1 = some rr) : z_Mz l D G A (WC G ad) yX5_isPath cX5_isPath 2 (z_rm 0 0) yd [.ref (ad 0), .int yx1] rr yd := by
  refine z_ofz (by decide) (Nat.le_of_ble_eq_true rfl) fun p e s m args below meth c Q hx hb hml hown hts hK hP hRet ls hl => ?_
  have hS : va_S A s.heap s.heap [] := va_S.rf
  have hl : lv_has ls 2 [(0, .ref (ad 0)), (1, .int yx1)] := hl
  have h : (zif (yx1 < 0) (some (0 : Int32)) (zif ((yd.1 1 2) ≤ yx1) (some (0 : Int32)) (some (1 : Int32)))) = some rr := h
  refine lv_iload_n hx hb dX5_isPath_0 rfl (lv_at hl 1 rfl) ?_
  refine lv_if_lt (tgt := 19) hx hb dX5_isPath_1 (by decide) (fun yc1 => ?_) (fun yc1 => ?_)
  · have h := z_ifp yc1 h
    refine lv_iconst (v := (0 : Int32)) hx hb dX5_isPath_19 (by decide) ?_
    exact hRet _ _ _ _ _ _ hP hS (Or.inl rfl) (z_pair h) dX5_isPath_20
  · have h := z_ifn yc1 h
    refine lv_iload_n hx hb dX5_isPath_4 rfl (lv_at hl 1 rfl) ?_
    refine lv_aload_n hx hb dX5_isPath_5 rfl (lv_at hl 0 rfl) ?_
    refine gt_X5_0 hx hb hts hown hK hP (hts _ wl_1_175) dX5_isPath_6 ?_
    refine gt_X3_2 hx hb hts hown hK hP st_1 (hts _ wl_1_118) dX5_isPath_9 ?_
    refine lv_icmp_ge (tgt := 19) hx hb dX5_isPath_12 (by decide) (fun yc12 => ?_) (fun yc12 => ?_)
    · have h := z_ifp yc12 h
      refine lv_iconst (v := (0 : Int32)) hx hb dX5_isPath_19 (by decide) ?_
      exact hRet _ _ _ _ _ _ hP hS (Or.inl rfl) (z_pair h) dX5_isPath_20
    · have h := z_ifn yc12 h
      refine lv_iconst (v := (1 : Int32)) hx hb dX5_isPath_15 (by decide) ?_
      refine lv_goto (tgt := 20) hx hb dX5_isPath_16 (by decide) ?_
      exact hRet _ _ _ _ _ _ hP hS (Or.inr rfl) (z_pair h) dX5_isPath_20
noncomputable def fX5_pathNumber (yd : Dt) (ya1 : Nat) (yx2 : Int32) (yx3 : Int32) : Option (Int32 × Dt) :=
  z_gd (z_in yx2 5) (z_br (fX1_match yd (ya1 + 1) ((ya1 + 8) + 4 * (z_ix yx2))) fun yd1 => zif (yx3 = (0 : Int32)) (some ((yd1.1 ((ya1 + 8) + 4 * (z_ix yx2)) 3), yd1)) (zif (yx3 = (2 : Int32)) (some ((yd1.1 ((ya1 + 8) + 4 * (z_ix yx2)) 4), yd1)) (zif (yx3 = (3 : Int32)) (z_br (fX2_bufferSize yd1 ((ya1 + 8) + 4 * (z_ix yx2))) fun yr2 => some (yr2, yd1)) (zif (yx3 = (4 : Int32)) (some ((yd1.1 ((ya1 + 8) + 4 * (z_ix yx2)) 6), yd1)) (zif (yx3 = (5 : Int32)) (z_br (fJ6_bitCount_0f7a4 (yd1.1 60 5)) fun yr3 => some (yr3, yd1)) (z_br (fJ6_bitCount_0f7a4 (yd1.1 60 4)) fun yr4 => some (yr4, yd1)))))))
set_option maxHeartbeats 4000000 in
set_option maxRecDepth 100000 in
theorem kX5_pathNumber {l : Launch} {D : va_G} {G : z_G} {ad : Nat → Nat} {A : Nat → Prop} (hI : ∀ d, va_D A (WC G ad d)) {yd : Dt} {ya1 : Nat} {yx2 : Int32} {yx3 : Int32} (yh1 : isSt ya1) {rr : Int32} {dd : Dt} (h : fX5_pathNumber yd ya1 yx2 yx3 = some (rr, dd)) : z_Mi l D G A (WC G ad) yX5_pathNumber cX5_pathNumber 5 (z_rm 3 83) yd [.ref (ad 0), .ref (ad ya1), .int yx2, .int yx3] rr dd := by
  refine z_ofi (by decide) (Nat.le_of_ble_eq_true rfl) fun p e s m args below meth c Q hx hb hml hown hts hK hP hRet ls hl => ?_
  have hS : va_S A s.heap s.heap [] := va_S.rf
  have hl : lv_has ls 5 [(0, .ref (ad 0)), (1, .ref (ad ya1)), (2, .int yx2), (3, .int yx3)] := hl
  have h : (z_gd (z_in yx2 5) (z_br (fX1_match yd (ya1 + 1) ((ya1 + 8) + 4 * (z_ix yx2))) fun yd1 => zif (yx3 = (0 : Int32)) (some ((yd1.1 ((ya1 + 8) + 4 * (z_ix yx2)) 3), yd1)) (zif (yx3 = (2 : Int32)) (some ((yd1.1 ((ya1 + 8) + 4 * (z_ix yx2)) 4), yd1)) (zif (yx3 = (3 : Int32)) (z_br (fX2_bufferSize yd1 ((ya1 + 8) + 4 * (z_ix yx2))) fun yr2 => some (yr2, yd1)) (zif (yx3 = (4 : Int32)) (some ((yd1.1 ((ya1 + 8) + 4 * (z_ix yx2)) 6), yd1)) (zif (yx3 = (5 : Int32)) (z_br (fJ6_bitCount_0f7a4 (yd1.1 60 5)) fun yr3 => some (yr3, yd1)) (z_br (fJ6_bitCount_0f7a4 (yd1.1 60 4)) fun yr4 => some (yr4, yd1)))))))) = some (rr, dd) := h
  refine lv_aload_n hx hb dX5_pathNumber_0 rfl (lv_at hl 1 rfl) ?_
  refine gt_X3_1 hx hb hts hown hK hP yh1 (hts _ wl_1_116) dX5_pathNumber_1 ?_
  refine lv_iload_n hx hb dX5_pathNumber_4 rfl (lv_at hl 2 rfl) ?_
  obtain ⟨yg5, h⟩ := z_gi h
  refine rl_P hx hb hK hP yh1 yg5 dX5_pathNumber_5 ?_
  refine lv_astore (lv' := [(4, .ref (ad ((ya1 + 8) + 4 * (z_ix yx2)))), (0, .ref (ad 0)), (1, .ref (ad ya1)), (2, .int yx2), (3, .int yx3)]) hx hb dX5_pathNumber_6 hl (by decide) rfl (fun ls hl => ?_)
  refine lv_aload_n hx hb dX5_pathNumber_8 rfl (lv_at hl 1 rfl) ?_
  refine gt_X5_5 hx hb hts hown hK hP (hts _ wl_1_180) dX5_pathNumber_9 ?_
  refine lv_aload_n hx hb dX5_pathNumber_12 rfl (lv_at hl 2 rfl) ?_
  refine gt_X3_0 hx hb hts hown hK hP yh1 (hts _ wl_1_114) dX5_pathNumber_13 ?_
  refine lv_aload hx hb dX5_pathNumber_16 (lv_at hl 0 rfl) ?_
  obtain ⟨yd1, yhc18, h⟩ := z_brx h
  refine z_kv (z_rV (As := [.ref (ad (ya1 + 1)), .ref (ad ((ya1 + 8) + 4 * (z_ix yx2)))]) (rest := []) ⟨hx, hb, hml, hown, hts⟩ hK hP w_X1 rfl (kX1_match hI (el_st yh1) (pa_st yh1 yg5) yhc18) giX5_148 ⟨rfl, rfl⟩ ndX1_match ⟨Nat.le_of_ble_eq_true rfl, Nat.le_of_ble_eq_true rfl⟩ rfl hl.1 rfl (Nat.le_of_ble_eq_true rfl) ⟨Nat.le_refl _, Nat.le_refl _⟩ dX5_pathNumber_18) hS (fun H locs hP hS => ?_)
  refine lv_iload_n hx hb dX5_pathNumber_21 rfl (lv_at hl 4 rfl) ?_
  by_cases yk22_0 : yx3 = (0 : Int32)
  · have h := z_ifp yk22_0 h
    refine lv_tableIn (off := (38)) (tgt := 60) hx hb dX5_pathNumber_22 (by rw [yk22_0]; decide) (by rw [yk22_0]; decide) (by rw [yk22_0]; rfl) (by decide) ?_
    refine lv_aload hx hb dX5_pathNumber_60 (lv_at hl 0 rfl) ?_
    refine gt_X2_3 hx hb hts hown hK hP (pa_st yh1 yg5) (hts _ wl_1_91) dX5_pathNumber_62 ?_
    exact hRet _ _ _ _ _ _ hP hS h dX5_pathNumber_65
  have h := z_ifn yk22_0 h
  by_cases yk22_2 : yx3 = (2 : Int32)
  · have h := z_ifp yk22_2 h
    refine lv_tableIn (off := (44)) (tgt := 66) hx hb dX5_pathNumber_22 (by rw [yk22_2]; decide) (by rw [yk22_2]; decide) (by rw [yk22_2]; rfl) (by decide) ?_
    refine lv_aload hx hb dX5_pathNumber_66 (lv_at hl 0 rfl) ?_
    refine gt_X2_4 hx hb hts hown hK hP (pa_st yh1 yg5) (hts _ wl_1_93) dX5_pathNumber_68 ?_
    exact hRet _ _ _ _ _ _ hP hS h dX5_pathNumber_71
  have h := z_ifn yk22_2 h
  by_cases yk22_3 : yx3 = (3 : Int32)
  · have h := z_ifp yk22_3 h
    refine lv_tableIn (off := (50)) (tgt := 72) hx hb dX5_pathNumber_22 (by rw [yk22_3]; decide) (by rw [yk22_3]; decide) (by rw [yk22_3]; rfl) (by decide) ?_
    refine lv_aload hx hb dX5_pathNumber_72 (lv_at hl 0 rfl) ?_
    refine lv_aload_n hx hb dX5_pathNumber_74 rfl (lv_at hl 1 rfl) ?_
    refine gt_X5_5 hx hb hts hown hK hP (hts _ wl_1_180) dX5_pathNumber_75 ?_
    obtain ⟨yr2, yhc78, h⟩ := z_brx h
    refine z_ki (z_rV (As := [.ref (ad 60)]) (rest := []) ⟨hx, hb, hml, hown, hts⟩ hK hP (w_X2 (pa_st yh1 yg5)) rfl (kX2_bufferSize hI (pa_st yh1 yg5) yhc78) giX5_263 ⟨rfl, rfl⟩ ndX2_bufferSize ⟨Nat.le_of_ble_eq_true rfl, Nat.le_of_ble_eq_true rfl⟩ rfl hl.1 rfl (Nat.le_of_ble_eq_true rfl) ⟨Nat.le_refl _, Nat.le_refl _⟩ dX5_pathNumber_78) hS (fun H locs hP hS => ?_)
    exact hRet _ _ _ _ _ _ hP hS h dX5_pathNumber_81
  have h := z_ifn yk22_3 h
  by_cases yk22_4 : yx3 = (4 : Int32)
  · have h := z_ifp yk22_4 h
    refine lv_tableIn (off := (60)) (tgt := 82) hx hb dX5_pathNumber_22 (by rw [yk22_4]; decide) (by rw [yk22_4]; decide) (by rw [yk22_4]; rfl) (by decide) ?_
    refine lv_aload hx hb dX5_pathNumber_82 (lv_at hl 0 rfl) ?_
    refine gt_X2_6 hx hb hts hown hK hP (pa_st yh1 yg5) (hts _ wl_1_96) dX5_pathNumber_84 ?_
    exact hRet _ _ _ _ _ _ hP hS h dX5_pathNumber_87
  have h := z_ifn yk22_4 h
  by_cases yk22_5 : yx3 = (5 : Int32)
  · have h := z_ifp yk22_5 h
    refine lv_tableIn (off := (66)) (tgt := 88) hx hb dX5_pathNumber_22 (by rw [yk22_5]; decide) (by rw [yk22_5]; decide) (by rw [yk22_5]; rfl) (by decide) ?_
    refine lv_aload_n hx hb dX5_pathNumber_88 rfl (lv_at hl 1 rfl) ?_
    refine gt_X5_5 hx hb hts hown hK hP (hts _ wl_1_180) dX5_pathNumber_89 ?_
    refine gt_X1_5 hx hb hts hown hK hP (hts _ wl_1_144) dX5_pathNumber_92 ?_
    obtain ⟨yr3, yhc95, h⟩ := z_brx h
    refine z_ki (z_rS (As := [.int (yd1.1 60 5)]) (rest := []) ⟨hx, hb, hml, hown, hts⟩ hK hP (kJ6_bitCount_0f7a4 yhc95) giX5_237 ⟨rfl, rfl⟩ ndJ6_bitCount_0f7a4 ⟨Nat.le_of_ble_eq_true rfl, Nat.le_of_ble_eq_true rfl⟩ rfl hl.1 rfl (Nat.le_of_ble_eq_true rfl) ⟨Nat.le_refl _, Nat.le_refl _⟩ dX5_pathNumber_95) hS (fun H locs hP hS => ?_)
    exact hRet _ _ _ _ _ _ hP hS h dX5_pathNumber_98
  have h := z_ifn yk22_5 h
  by_cases yk22_1 : yx3 = (1 : Int32)
  · refine lv_tableIn (off := (77)) (tgt := 99) hx hb dX5_pathNumber_22 (by rw [yk22_1]; decide) (by rw [yk22_1]; decide) (by rw [yk22_1]; rfl) (by decide) ?_
    refine lv_aload_n hx hb dX5_pathNumber_99 rfl (lv_at hl 1 rfl) ?_
    refine gt_X5_5 hx hb hts hown hK hP (hts _ wl_1_180) dX5_pathNumber_100 ?_
    refine gt_X1_4 hx hb hts hown hK hP (hts _ wl_1_141) dX5_pathNumber_103 ?_
    obtain ⟨yr4, yhc106, h⟩ := z_brx h
    refine z_ki (z_rS (As := [.int (yd1.1 60 4)]) (rest := []) ⟨hx, hb, hml, hown, hts⟩ hK hP (kJ6_bitCount_0f7a4 yhc106) giX5_237 ⟨rfl, rfl⟩ ndJ6_bitCount_0f7a4 ⟨Nat.le_of_ble_eq_true rfl, Nat.le_of_ble_eq_true rfl⟩ rfl hl.1 rfl (Nat.le_of_ble_eq_true rfl) ⟨Nat.le_refl _, Nat.le_refl _⟩ dX5_pathNumber_106) hS (fun H locs hP hS => ?_)
    exact hRet _ _ _ _ _ _ hP hS h dX5_pathNumber_109
  refine lv_tableOut (tgt := 99) hx hb dX5_pathNumber_22 (by have q0 := lv_neT yk22_0 (a := 0) rfl; have q1 := lv_neT yk22_1 (a := 1) rfl; have q2 := lv_neT yk22_2 (a := 2) rfl; have q3 := lv_neT yk22_3 (a := 3) rfl; have q4 := lv_neT yk22_4 (a := 4) rfl; have q5 := lv_neT yk22_5 (a := 5) rfl; omega) (by decide) ?_
  refine lv_aload_n hx hb dX5_pathNumber_99 rfl (lv_at hl 1 rfl) ?_
  refine gt_X5_5 hx hb hts hown hK hP (hts _ wl_1_180) dX5_pathNumber_100 ?_
  refine gt_X1_4 hx hb hts hown hK hP (hts _ wl_1_141) dX5_pathNumber_103 ?_
  obtain ⟨yr4, yhc106, h⟩ := z_brx h
  refine z_ki (z_rS (As := [.int (yd1.1 60 4)]) (rest := []) ⟨hx, hb, hml, hown, hts⟩ hK hP (kJ6_bitCount_0f7a4 yhc106) giX5_237 ⟨rfl, rfl⟩ ndJ6_bitCount_0f7a4 ⟨Nat.le_of_ble_eq_true rfl, Nat.le_of_ble_eq_true rfl⟩ rfl hl.1 rfl (Nat.le_of_ble_eq_true rfl) ⟨Nat.le_refl _, Nat.le_refl _⟩ dX5_pathNumber_106) hS (fun H locs hP hS => ?_)
  exact hRet _ _ _ _ _ _ hP hS h dX5_pathNumber_109
noncomputable def fX5_path (yd : Dt) (yx1 : Int32) (yx2 : Int32) : Option (Int32 × Dt) :=
  z_br (fX5_isPath yd yx1) fun yr1 => zif (yr1 = 0) (some ((-1 : Int32), yd)) (zif (yx2 < 0) (some ((-2 : Int32), yd)) (zif (yx2 ≤ (6 : Int32)) (z_bd (fX5_pathNumber yd 1 yx1 yx2) fun yr2 yd3 => some (yr2, yd3)) (some ((-2 : Int32), yd))))
set_option maxHeartbeats 4000000 in
set_option maxRecDepth 100000 in
theorem kX5_path {l : Launch} {D : va_G} {G : z_G} {ad : Nat → Nat} {A : Nat → Prop} (hI : ∀ d, va_D A (WC G ad d)) {yd : Dt} {yx1 : Int32} {yx2 : Int32}  {rr : Int32} {dd : Dt} (h : fX5_path yd yx1 yx2 = some (rr, dd)) : z_Mi l D G A (WC G ad) yX5_path cX5_path 3 (z_rm 4 107) yd [.ref (ad 0), .int yx1, .int yx2] rr dd := by
  refine z_ofi (by decide) (Nat.le_of_ble_eq_true rfl) fun p e s m args below meth c Q hx hb hml hown hts hK hP hRet ls hl => ?_
  have hS : va_S A s.heap s.heap [] := va_S.rf
  have hl : lv_has ls 3 [(0, .ref (ad 0)), (1, .int yx1), (2, .int yx2)] := hl
  have h : (z_br (fX5_isPath yd yx1) fun yr1 => zif (yr1 = 0) (some ((-1 : Int32), yd)) (zif (yx2 < 0) (some ((-2 : Int32), yd)) (zif (yx2 ≤ (6 : Int32)) (z_bd (fX5_pathNumber yd 1 yx1 yx2) fun yr2 yd3 => some (yr2, yd3)) (some ((-2 : Int32), yd))))) = some (rr, dd) := h
  refine lv_aload_n hx hb dX5_path_0 rfl (lv_at hl 0 rfl) ?_
  refine lv_iload_n hx hb dX5_path_1 rfl (lv_at hl 1 rfl) ?_
  obtain ⟨yr1, yhc2, h⟩ := z_brx h
  refine z_kz (z_rV (As := [.int yx1]) (rest := []) ⟨hx, hb, hml, hown, hts⟩ hK hP w_X5 rfl (kX5_isPath hI yhc2) giX5_129 ⟨rfl, rfl⟩ ndX5_isPath ⟨Nat.le_of_ble_eq_true rfl, Nat.le_of_ble_eq_true rfl⟩ rfl hl.1 rfl (Nat.le_of_ble_eq_true rfl) ⟨Nat.le_refl _, Nat.le_refl _⟩ dX5_path_2) hS (fun H locs z_yr1 hP hS => ?_)
  refine lv_if_ne (tgt := 10) hx hb dX5_path_5 (by decide) (fun yc5 => ?_) (fun yc5 => ?_)
  · have h := z_ifn yc5 h
    refine lv_iload_n hx hb dX5_path_10 rfl (lv_at hl 2 rfl) ?_
    refine lv_if_lt (tgt := 20) hx hb dX5_path_11 (by decide) (fun yc11 => ?_) (fun yc11 => ?_)
    · have h := z_ifp yc11 h
      refine lv_bipush (v := (-2 : Int32)) hx hb dX5_path_20 (by decide) ?_
      exact hRet _ _ _ _ _ _ hP hS h dX5_path_22
    · have h := z_ifn yc11 h
      refine lv_iload_n hx hb dX5_path_14 rfl (lv_at hl 2 rfl) ?_
      refine lv_bipush (v := (6 : Int32)) hx hb dX5_path_15 (by decide) ?_
      refine lv_icmp_le (tgt := 23) hx hb dX5_path_17 (by decide) (fun yc17 => ?_) (fun yc17 => ?_)
      · have h := z_ifp yc17 h
        refine lv_aload_n hx hb dX5_path_23 rfl (lv_at hl 0 rfl) ?_
        refine lv_aload_n hx hb dX5_path_24 rfl (lv_at hl 0 rfl) ?_
        refine gt_X5_0 hx hb hts hown hK hP (hts _ wl_1_175) dX5_path_25 ?_
        refine lv_iload_n hx hb dX5_path_28 rfl (lv_at hl 1 rfl) ?_
        refine lv_iload_n hx hb dX5_path_29 rfl (lv_at hl 2 rfl) ?_
        obtain ⟨yr2, yd3, yhc30, h⟩ := z_bdx h
        refine z_ki (z_rV (As := [.ref (ad 1), .int yx1, .int yx2]) (rest := []) ⟨hx, hb, hml, hown, hts⟩ hK hP w_X5 rfl (kX5_pathNumber hI st_1 yhc30) giX5_132 ⟨rfl, rfl⟩ ndX5_pathNumber ⟨Nat.le_of_ble_eq_true rfl, Nat.le_of_ble_eq_true rfl⟩ rfl hl.1 rfl (Nat.le_of_ble_eq_true rfl) ⟨Nat.le_refl _, Nat.le_refl _⟩ dX5_path_30) hS (fun H locs hP hS => ?_)
        exact hRet _ _ _ _ _ _ hP hS h dX5_path_33
      · have h := z_ifn yc17 h
        refine lv_bipush (v := (-2 : Int32)) hx hb dX5_path_20 (by decide) ?_
        exact hRet _ _ _ _ _ _ hP hS h dX5_path_22
  · have h := z_ifp yc5 h
    refine lv_iconst (v := (-1 : Int32)) hx hb dX5_path_8 (by decide) ?_
    exact hRet _ _ _ _ _ _ hP hS h dX5_path_9
noncomputable def fX5_step (yd : Dt) (yx1 : Int32) (yx2 : Int32) : Option Int32 :=
  z_br (fX5_isPath yd yx1) fun yr1 => zif (yr1 = 0) (some (-1 : Int32)) (zif (yx2 < 0) (some (-1 : Int32)) (z_gd (z_in yx1 5) (zif (yx2 < (yd.1 (9 + 4 * (z_ix yx1)) 3)) (z_gd (z_in yx1 5) (z_gd (z_in yx2 4) (some (yd.1 ((9 + 4 * (z_ix yx1)) + 1) (z_ix yx2))))) (some (-1 : Int32)))))
set_option maxHeartbeats 4000000 in
set_option maxRecDepth 100000 in
theorem kX5_step {l : Launch} {D : va_G} {G : z_G} {ad : Nat → Nat} {A : Nat → Prop} (hI : ∀ d, va_D A (WC G ad d)) {yd : Dt} {yx1 : Int32} {yx2 : Int32}  {rr : Int32} (h : fX5_step yd yx1 yx2 = some rr) : z_Mi l D G A (WC G ad) yX5_step cX5_step 3 (z_rm 1 21) yd [.ref (ad 0), .int yx1, .int yx2] rr yd := by
  refine z_ofi (by decide) (Nat.le_of_ble_eq_true rfl) fun p e s m args below meth c Q hx hb hml hown hts hK hP hRet ls hl => ?_
  have hS : va_S A s.heap s.heap [] := va_S.rf
  have hl : lv_has ls 3 [(0, .ref (ad 0)), (1, .int yx1), (2, .int yx2)] := hl
  have h : (z_br (fX5_isPath yd yx1) fun yr1 => zif (yr1 = 0) (some (-1 : Int32)) (zif (yx2 < 0) (some (-1 : Int32)) (z_gd (z_in yx1 5) (zif (yx2 < (yd.1 (9 + 4 * (z_ix yx1)) 3)) (z_gd (z_in yx1 5) (z_gd (z_in yx2 4) (some (yd.1 ((9 + 4 * (z_ix yx1)) + 1) (z_ix yx2))))) (some (-1 : Int32)))))) = some rr := h
  refine lv_aload_n hx hb dX5_step_0 rfl (lv_at hl 0 rfl) ?_
  refine lv_iload_n hx hb dX5_step_1 rfl (lv_at hl 1 rfl) ?_
  obtain ⟨yr1, yhc2, h⟩ := z_brx h
  refine z_kz (z_rV (As := [.int yx1]) (rest := []) ⟨hx, hb, hml, hown, hts⟩ hK hP w_X5 rfl (kX5_isPath hI yhc2) giX5_129 ⟨rfl, rfl⟩ ndX5_isPath ⟨Nat.le_of_ble_eq_true rfl, Nat.le_of_ble_eq_true rfl⟩ rfl hl.1 rfl (Nat.le_of_ble_eq_true rfl) ⟨Nat.le_refl _, Nat.le_refl _⟩ dX5_step_2) hS (fun H locs z_yr1 hP hS => ?_)
  refine lv_if_eq (tgt := 28) hx hb dX5_step_5 (by decide) (fun yc5 => ?_) (fun yc5 => ?_)
  · have h := z_ifp yc5 h
    refine lv_iconst (v := (-1 : Int32)) hx hb dX5_step_28 (by decide) ?_
    exact hRet _ _ _ _ _ _ hP hS (z_pair h) dX5_step_29
  · have h := z_ifn yc5 h
    refine lv_iload_n hx hb dX5_step_8 rfl (lv_at hl 2 rfl) ?_
    refine lv_if_lt (tgt := 28) hx hb dX5_step_9 (by decide) (fun yc9 => ?_) (fun yc9 => ?_)
    · have h := z_ifp yc9 h
      refine lv_iconst (v := (-1 : Int32)) hx hb dX5_step_28 (by decide) ?_
      exact hRet _ _ _ _ _ _ hP hS (z_pair h) dX5_step_29
    · have h := z_ifn yc9 h
      refine lv_iload_n hx hb dX5_step_12 rfl (lv_at hl 2 rfl) ?_
      refine lv_aload_n hx hb dX5_step_13 rfl (lv_at hl 0 rfl) ?_
      refine gt_X5_0 hx hb hts hown hK hP (hts _ wl_1_175) dX5_step_14 ?_
      refine gt_X3_1 hx hb hts hown hK hP st_1 (hts _ wl_1_116) dX5_step_17 ?_
      refine lv_iload_n hx hb dX5_step_20 rfl (lv_at hl 1 rfl) ?_
      obtain ⟨yg21, h⟩ := z_gi h
      refine rl_P hx hb hK hP st_1 yg21 dX5_step_21 ?_
      refine gt_X2_3 hx hb hts hown hK hP (pa_st st_1 yg21) (hts _ wl_1_91) dX5_step_22 ?_
      refine lv_icmp_lt (tgt := 30) hx hb dX5_step_25 (by decide) (fun yc25 => ?_) (fun yc25 => ?_)
      · have h := z_ifp yc25 h
        refine lv_aload_n hx hb dX5_step_30 rfl (lv_at hl 0 rfl) ?_
        refine gt_X5_0 hx hb hts hown hK hP (hts _ wl_1_175) dX5_step_31 ?_
        refine gt_X3_1 hx hb hts hown hK hP st_1 (hts _ wl_1_116) dX5_step_34 ?_
        refine lv_iload_n hx hb dX5_step_37 rfl (lv_at hl 1 rfl) ?_
        obtain ⟨yg38, h⟩ := z_gi h
        refine rl_P hx hb hK hP st_1 yg38 dX5_step_38 ?_
        refine gt_X2_0 hx hb hts hown hK hP (pa_st st_1 yg38) (hts _ wl_1_83) dX5_step_39 ?_
        refine lv_iload_n hx hb dX5_step_42 rfl (lv_at hl 2 rfl) ?_
        obtain ⟨yg43, h⟩ := z_gi h
        refine al_C hx hb hK hP (ar_pa1 (pa_st st_1 yg38)) (by decide) yg43 dX5_step_43 ?_
        exact hRet _ _ _ _ _ _ hP hS (z_pair h) dX5_step_44
      · have h := z_ifn yc25 h
        refine lv_iconst (v := (-1 : Int32)) hx hb dX5_step_28 (by decide) ?_
        exact hRet _ _ _ _ _ _ hP hS (z_pair h) dX5_step_29
noncomputable def fX5_is (yd : Dt) (yx1 : Int32) (yx2 : Int32) : Option (Int32 × Dt) :=
  z_br (fX5_isPath yd yx1) fun yr1 => zif (yr1 = 0) (some ((-1 : Int32), yd)) (z_br (fX5_isElement yd yx2) fun yr2 => zif (yr2 = 0) (some ((-1 : Int32), yd)) (z_gd (z_in yx1 5) (z_br (fX1_match yd 2 (9 + 4 * (z_ix yx1))) fun yd3 => zif ((((yd3.1 60 4) >>> (yx2 &&& 31)) &&& (1 : Int32)) = 0) (some ((((yd3.1 60 5) >>> (yx2 &&& 31)) &&& (1 : Int32)), yd3)) (some ((2 : Int32), yd3)))))
set_option maxHeartbeats 4000000 in
set_option maxRecDepth 100000 in
theorem kX5_is {l : Launch} {D : va_G} {G : z_G} {ad : Nat → Nat} {A : Nat → Prop} (hI : ∀ d, va_D A (WC G ad d)) {yd : Dt} {yx1 : Int32} {yx2 : Int32}  {rr : Int32} {dd : Dt} (h : fX5_is yd yx1 yx2 = some (rr, dd)) : z_Mi l D G A (WC G ad) yX5_is cX5_is 3 (z_rm 3 83) yd [.ref (ad 0), .int yx1, .int yx2] rr dd := by
  refine z_ofi (by decide) (Nat.le_of_ble_eq_true rfl) fun p e s m args below meth c Q hx hb hml hown hts hK hP hRet ls hl => ?_
  have hS : va_S A s.heap s.heap [] := va_S.rf
  have hl : lv_has ls 3 [(0, .ref (ad 0)), (1, .int yx1), (2, .int yx2)] := hl
  have h : (z_br (fX5_isPath yd yx1) fun yr1 => zif (yr1 = 0) (some ((-1 : Int32), yd)) (z_br (fX5_isElement yd yx2) fun yr2 => zif (yr2 = 0) (some ((-1 : Int32), yd)) (z_gd (z_in yx1 5) (z_br (fX1_match yd 2 (9 + 4 * (z_ix yx1))) fun yd3 => zif ((((yd3.1 60 4) >>> (yx2 &&& 31)) &&& (1 : Int32)) = 0) (some ((((yd3.1 60 5) >>> (yx2 &&& 31)) &&& (1 : Int32)), yd3)) (some ((2 : Int32), yd3)))))) = some (rr, dd) := h
  refine lv_aload_n hx hb dX5_is_0 rfl (lv_at hl 0 rfl) ?_
  refine lv_iload_n hx hb dX5_is_1 rfl (lv_at hl 1 rfl) ?_
  obtain ⟨yr1, yhc2, h⟩ := z_brx h
  refine z_kz (z_rV (As := [.int yx1]) (rest := []) ⟨hx, hb, hml, hown, hts⟩ hK hP w_X5 rfl (kX5_isPath hI yhc2) giX5_129 ⟨rfl, rfl⟩ ndX5_isPath ⟨Nat.le_of_ble_eq_true rfl, Nat.le_of_ble_eq_true rfl⟩ rfl hl.1 rfl (Nat.le_of_ble_eq_true rfl) ⟨Nat.le_refl _, Nat.le_refl _⟩ dX5_is_2) hS (fun H locs z_yr1 hP hS => ?_)
  refine lv_if_eq (tgt := 16) hx hb dX5_is_5 (by decide) (fun yc5 => ?_) (fun yc5 => ?_)
  · have h := z_ifp yc5 h
    refine lv_iconst (v := (-1 : Int32)) hx hb dX5_is_16 (by decide) ?_
    exact hRet _ _ _ _ _ _ hP hS h dX5_is_17
  · have h := z_ifn yc5 h
    refine lv_aload_n hx hb dX5_is_8 rfl (lv_at hl 0 rfl) ?_
    refine lv_iload_n hx hb dX5_is_9 rfl (lv_at hl 2 rfl) ?_
    obtain ⟨yr2, yhc10, h⟩ := z_brx h
    refine z_kz (z_rV (As := [.int yx2]) (rest := []) ⟨hx, hb, hml, hown, hts⟩ hK hP w_X5 rfl (kX5_isElement hI yhc10) giX5_107 ⟨rfl, rfl⟩ ndX5_isElement ⟨Nat.le_of_ble_eq_true rfl, Nat.le_of_ble_eq_true rfl⟩ rfl hl.1 rfl (Nat.le_of_ble_eq_true rfl) ⟨Nat.le_refl _, Nat.le_refl _⟩ dX5_is_10) hS (fun H locs z_yr2 hP hS => ?_)
    refine lv_if_ne (tgt := 18) hx hb dX5_is_13 (by decide) (fun yc13 => ?_) (fun yc13 => ?_)
    · have h := z_ifn yc13 h
      refine lv_aload_n hx hb dX5_is_18 rfl (lv_at hl 0 rfl) ?_
      refine gt_X5_5 hx hb hts hown hK hP (hts _ wl_1_180) dX5_is_19 ?_
      refine lv_aload_n hx hb dX5_is_22 rfl (lv_at hl 0 rfl) ?_
      refine gt_X5_0 hx hb hts hown hK hP (hts _ wl_1_175) dX5_is_23 ?_
      refine gt_X3_0 hx hb hts hown hK hP st_1 (hts _ wl_1_114) dX5_is_26 ?_
      refine lv_aload_n hx hb dX5_is_29 rfl (lv_at hl 0 rfl) ?_
      refine gt_X5_0 hx hb hts hown hK hP (hts _ wl_1_175) dX5_is_30 ?_
      refine gt_X3_1 hx hb hts hown hK hP st_1 (hts _ wl_1_116) dX5_is_33 ?_
      refine lv_iload_n hx hb dX5_is_36 rfl (lv_at hl 1 rfl) ?_
      obtain ⟨yg37, h⟩ := z_gi h
      refine rl_P hx hb hK hP st_1 yg37 dX5_is_37 ?_
      obtain ⟨yd3, yhc38, h⟩ := z_brx h
      refine z_kv (z_rV (As := [.ref (ad 2), .ref (ad (9 + 4 * (z_ix yx1)))]) (rest := []) ⟨hx, hb, hml, hown, hts⟩ hK hP w_X1 rfl (kX1_match hI (el_st st_1) (pa_st st_1 yg37) yhc38) giX5_148 ⟨rfl, rfl⟩ ndX1_match ⟨Nat.le_of_ble_eq_true rfl, Nat.le_of_ble_eq_true rfl⟩ rfl hl.1 rfl (Nat.le_of_ble_eq_true rfl) ⟨Nat.le_refl _, Nat.le_refl _⟩ dX5_is_38) hS (fun H locs hP hS => ?_)
      refine lv_aload_n hx hb dX5_is_41 rfl (lv_at hl 0 rfl) ?_
      refine gt_X5_5 hx hb hts hown hK hP (hts _ wl_1_180) dX5_is_42 ?_
      refine gt_X1_4 hx hb hts hown hK hP (hts _ wl_1_141) dX5_is_45 ?_
      refine lv_iload_n hx hb dX5_is_48 rfl (lv_at hl 2 rfl) ?_
      refine lv_ishr hx hb dX5_is_49 ?_
      refine lv_iconst (v := (1 : Int32)) hx hb dX5_is_50 (by decide) ?_
      refine lv_iand hx hb dX5_is_51 ?_
      refine lv_if_eq (tgt := 57) hx hb dX5_is_52 (by decide) (fun yc52 => ?_) (fun yc52 => ?_)
      · have h := z_ifp yc52 h
        refine lv_aload_n hx hb dX5_is_57 rfl (lv_at hl 0 rfl) ?_
        refine gt_X5_5 hx hb hts hown hK hP (hts _ wl_1_180) dX5_is_58 ?_
        refine gt_X1_5 hx hb hts hown hK hP (hts _ wl_1_144) dX5_is_61 ?_
        refine lv_iload_n hx hb dX5_is_64 rfl (lv_at hl 2 rfl) ?_
        refine lv_ishr hx hb dX5_is_65 ?_
        refine lv_iconst (v := (1 : Int32)) hx hb dX5_is_66 (by decide) ?_
        refine lv_iand hx hb dX5_is_67 ?_
        exact hRet _ _ _ _ _ _ hP hS h dX5_is_68
      · have h := z_ifn yc52 h
        refine lv_iconst (v := (2 : Int32)) hx hb dX5_is_55 (by decide) ?_
        exact hRet _ _ _ _ _ _ hP hS h dX5_is_56
    · have h := z_ifp yc13 h
      refine lv_iconst (v := (-1 : Int32)) hx hb dX5_is_16 (by decide) ?_
      exact hRet _ _ _ _ _ _ hP hS h dX5_is_17
noncomputable def fX5_ends (yd : Dt) (yx1 : Int32) (yx2 : Int32) : Option (Int32 × Dt) :=
  z_br (fX5_isPath yd yx1) fun yr1 => zif (yr1 = 0) (some ((-1 : Int32), yd)) (z_br (fX5_isElement yd yx2) fun yr2 => zif (yr2 = 0) (some ((-1 : Int32), yd)) (z_gd (z_in yx1 5) (z_br (fX1_match yd 2 (9 + 4 * (z_ix yx1))) fun yd3 => z_gd (z_in yx2 20) (some ((yd3.1 61 (z_ix yx2)), yd3)))))
set_option maxHeartbeats 4000000 in
set_option maxRecDepth 100000 in
theorem kX5_ends {l : Launch} {D : va_G} {G : z_G} {ad : Nat → Nat} {A : Nat → Prop} (hI : ∀ d, va_D A (WC G ad d)) {yd : Dt} {yx1 : Int32} {yx2 : Int32}  {rr : Int32} {dd : Dt} (h : fX5_ends yd yx1 yx2 = some (rr, dd)) : z_Mi l D G A (WC G ad) yX5_ends cX5_ends 3 (z_rm 3 83) yd [.ref (ad 0), .int yx1, .int yx2] rr dd := by
  refine z_ofi (by decide) (Nat.le_of_ble_eq_true rfl) fun p e s m args below meth c Q hx hb hml hown hts hK hP hRet ls hl => ?_
  have hS : va_S A s.heap s.heap [] := va_S.rf
  have hl : lv_has ls 3 [(0, .ref (ad 0)), (1, .int yx1), (2, .int yx2)] := hl
  have h : (z_br (fX5_isPath yd yx1) fun yr1 => zif (yr1 = 0) (some ((-1 : Int32), yd)) (z_br (fX5_isElement yd yx2) fun yr2 => zif (yr2 = 0) (some ((-1 : Int32), yd)) (z_gd (z_in yx1 5) (z_br (fX1_match yd 2 (9 + 4 * (z_ix yx1))) fun yd3 => z_gd (z_in yx2 20) (some ((yd3.1 61 (z_ix yx2)), yd3)))))) = some (rr, dd) := h
  refine lv_aload_n hx hb dX5_ends_0 rfl (lv_at hl 0 rfl) ?_
  refine lv_iload_n hx hb dX5_ends_1 rfl (lv_at hl 1 rfl) ?_
  obtain ⟨yr1, yhc2, h⟩ := z_brx h
  refine z_kz (z_rV (As := [.int yx1]) (rest := []) ⟨hx, hb, hml, hown, hts⟩ hK hP w_X5 rfl (kX5_isPath hI yhc2) giX5_129 ⟨rfl, rfl⟩ ndX5_isPath ⟨Nat.le_of_ble_eq_true rfl, Nat.le_of_ble_eq_true rfl⟩ rfl hl.1 rfl (Nat.le_of_ble_eq_true rfl) ⟨Nat.le_refl _, Nat.le_refl _⟩ dX5_ends_2) hS (fun H locs z_yr1 hP hS => ?_)
  refine lv_if_eq (tgt := 16) hx hb dX5_ends_5 (by decide) (fun yc5 => ?_) (fun yc5 => ?_)
  · have h := z_ifp yc5 h
    refine lv_iconst (v := (-1 : Int32)) hx hb dX5_ends_16 (by decide) ?_
    exact hRet _ _ _ _ _ _ hP hS h dX5_ends_17
  · have h := z_ifn yc5 h
    refine lv_aload_n hx hb dX5_ends_8 rfl (lv_at hl 0 rfl) ?_
    refine lv_iload_n hx hb dX5_ends_9 rfl (lv_at hl 2 rfl) ?_
    obtain ⟨yr2, yhc10, h⟩ := z_brx h
    refine z_kz (z_rV (As := [.int yx2]) (rest := []) ⟨hx, hb, hml, hown, hts⟩ hK hP w_X5 rfl (kX5_isElement hI yhc10) giX5_107 ⟨rfl, rfl⟩ ndX5_isElement ⟨Nat.le_of_ble_eq_true rfl, Nat.le_of_ble_eq_true rfl⟩ rfl hl.1 rfl (Nat.le_of_ble_eq_true rfl) ⟨Nat.le_refl _, Nat.le_refl _⟩ dX5_ends_10) hS (fun H locs z_yr2 hP hS => ?_)
    refine lv_if_ne (tgt := 18) hx hb dX5_ends_13 (by decide) (fun yc13 => ?_) (fun yc13 => ?_)
    · have h := z_ifn yc13 h
      refine lv_aload_n hx hb dX5_ends_18 rfl (lv_at hl 0 rfl) ?_
      refine gt_X5_5 hx hb hts hown hK hP (hts _ wl_1_180) dX5_ends_19 ?_
      refine lv_aload_n hx hb dX5_ends_22 rfl (lv_at hl 0 rfl) ?_
      refine gt_X5_0 hx hb hts hown hK hP (hts _ wl_1_175) dX5_ends_23 ?_
      refine gt_X3_0 hx hb hts hown hK hP st_1 (hts _ wl_1_114) dX5_ends_26 ?_
      refine lv_aload_n hx hb dX5_ends_29 rfl (lv_at hl 0 rfl) ?_
      refine gt_X5_0 hx hb hts hown hK hP (hts _ wl_1_175) dX5_ends_30 ?_
      refine gt_X3_1 hx hb hts hown hK hP st_1 (hts _ wl_1_116) dX5_ends_33 ?_
      refine lv_iload_n hx hb dX5_ends_36 rfl (lv_at hl 1 rfl) ?_
      obtain ⟨yg37, h⟩ := z_gi h
      refine rl_P hx hb hK hP st_1 yg37 dX5_ends_37 ?_
      obtain ⟨yd3, yhc38, h⟩ := z_brx h
      refine z_kv (z_rV (As := [.ref (ad 2), .ref (ad (9 + 4 * (z_ix yx1)))]) (rest := []) ⟨hx, hb, hml, hown, hts⟩ hK hP w_X1 rfl (kX1_match hI (el_st st_1) (pa_st st_1 yg37) yhc38) giX5_148 ⟨rfl, rfl⟩ ndX1_match ⟨Nat.le_of_ble_eq_true rfl, Nat.le_of_ble_eq_true rfl⟩ rfl hl.1 rfl (Nat.le_of_ble_eq_true rfl) ⟨Nat.le_refl _, Nat.le_refl _⟩ dX5_ends_38) hS (fun H locs hP hS => ?_)
      refine lv_aload_n hx hb dX5_ends_41 rfl (lv_at hl 0 rfl) ?_
      refine gt_X5_5 hx hb hts hown hK hP (hts _ wl_1_180) dX5_ends_42 ?_
      refine gt_X1_0 hx hb hts hown hK hP (hts _ wl_1_135) dX5_ends_45 ?_
      refine lv_iload_n hx hb dX5_ends_48 rfl (lv_at hl 2 rfl) ?_
      obtain ⟨yg49, h⟩ := z_gi h
      refine al_C hx hb hK hP rfl (by decide) yg49 dX5_ends_49 ?_
      exact hRet _ _ _ _ _ _ hP hS h dX5_ends_50
    · have h := z_ifp yc13 h
      refine lv_iconst (v := (-1 : Int32)) hx hb dX5_ends_16 (by decide) ?_
      exact hRet _ _ _ _ _ _ hP hS h dX5_ends_17
noncomputable def fX5_out (yd : Dt) (yx1 : Int32) (yx2 : Int32) (yx3 : Int32) : Option Int32 :=
  z_br (fX5_isPath yd yx1) fun yr1 => zif (yr1 = 0) (some (-1 : Int32)) (z_gd (z_in yx1 5) (zif (yx2 < 0) (some (-9 : Int32)) (zif (yx2 < (yd.1 (9 + 4 * (z_ix yx1)) 4)) (zif (yx3 = 0) (z_gd (z_in yx2 20) (some (yd.1 ((9 + 4 * (z_ix yx1)) + 2) (z_ix yx2)))) (z_gd (z_in yx2 20) (some (yd.1 ((9 + 4 * (z_ix yx1)) + 3) (z_ix yx2))))) (some (-9 : Int32)))))
set_option maxHeartbeats 4000000 in
set_option maxRecDepth 100000 in
theorem kX5_out {l : Launch} {D : va_G} {G : z_G} {ad : Nat → Nat} {A : Nat → Prop} (hI : ∀ d, va_D A (WC G ad d)) {yd : Dt} {yx1 : Int32} {yx2 : Int32} {yx3 : Int32} (z_yx3 : yx3 = 0 ∨ yx3 = 1) {rr : Int32} (h : fX5_out yd yx1 yx2 yx3 = some rr) : z_Mi l D G A (WC G ad) yX5_out cX5_out 5 (z_rm 1 21) yd [.ref (ad 0), .int yx1, .int yx2, .int yx3] rr yd := by
  refine z_ofi (by decide) (Nat.le_of_ble_eq_true rfl) fun p e s m args below meth c Q hx hb hml hown hts hK hP hRet ls hl => ?_
  have hS : va_S A s.heap s.heap [] := va_S.rf
  have hl : lv_has ls 5 [(0, .ref (ad 0)), (1, .int yx1), (2, .int yx2), (3, .int yx3)] := hl
  have h : (z_br (fX5_isPath yd yx1) fun yr1 => zif (yr1 = 0) (some (-1 : Int32)) (z_gd (z_in yx1 5) (zif (yx2 < 0) (some (-9 : Int32)) (zif (yx2 < (yd.1 (9 + 4 * (z_ix yx1)) 4)) (zif (yx3 = 0) (z_gd (z_in yx2 20) (some (yd.1 ((9 + 4 * (z_ix yx1)) + 2) (z_ix yx2)))) (z_gd (z_in yx2 20) (some (yd.1 ((9 + 4 * (z_ix yx1)) + 3) (z_ix yx2))))) (some (-9 : Int32)))))) = some rr := h
  refine lv_aload_n hx hb dX5_out_0 rfl (lv_at hl 0 rfl) ?_
  refine lv_iload_n hx hb dX5_out_1 rfl (lv_at hl 1 rfl) ?_
  obtain ⟨yr1, yhc2, h⟩ := z_brx h
  refine z_kz (z_rV (As := [.int yx1]) (rest := []) ⟨hx, hb, hml, hown, hts⟩ hK hP w_X5 rfl (kX5_isPath hI yhc2) giX5_129 ⟨rfl, rfl⟩ ndX5_isPath ⟨Nat.le_of_ble_eq_true rfl, Nat.le_of_ble_eq_true rfl⟩ rfl hl.1 rfl (Nat.le_of_ble_eq_true rfl) ⟨Nat.le_refl _, Nat.le_refl _⟩ dX5_out_2) hS (fun H locs z_yr1 hP hS => ?_)
  refine lv_if_ne (tgt := 10) hx hb dX5_out_5 (by decide) (fun yc5 => ?_) (fun yc5 => ?_)
  · have h := z_ifn yc5 h
    refine lv_aload_n hx hb dX5_out_10 rfl (lv_at hl 0 rfl) ?_
    refine gt_X5_0 hx hb hts hown hK hP (hts _ wl_1_175) dX5_out_11 ?_
    refine gt_X3_1 hx hb hts hown hK hP st_1 (hts _ wl_1_116) dX5_out_14 ?_
    refine lv_iload_n hx hb dX5_out_17 rfl (lv_at hl 1 rfl) ?_
    obtain ⟨yg18, h⟩ := z_gi h
    refine rl_P hx hb hK hP st_1 yg18 dX5_out_18 ?_
    refine lv_astore (lv' := [(4, .ref (ad (9 + 4 * (z_ix yx1)))), (0, .ref (ad 0)), (1, .int yx1), (2, .int yx2), (3, .int yx3)]) hx hb dX5_out_19 hl (by decide) rfl (fun ls hl => ?_)
    refine lv_iload_n hx hb dX5_out_21 rfl (lv_at hl 3 rfl) ?_
    refine lv_if_lt (tgt := 34) hx hb dX5_out_22 (by decide) (fun yc22 => ?_) (fun yc22 => ?_)
    · have h := z_ifp yc22 h
      refine lv_bipush (v := (-9 : Int32)) hx hb dX5_out_34 (by decide) ?_
      exact hRet _ _ _ _ _ _ hP hS (z_pair h) dX5_out_36
    · have h := z_ifn yc22 h
      refine lv_iload_n hx hb dX5_out_25 rfl (lv_at hl 3 rfl) ?_
      refine lv_aload hx hb dX5_out_26 (lv_at hl 0 rfl) ?_
      refine gt_X2_4 hx hb hts hown hK hP (pa_st st_1 yg18) (hts _ wl_1_93) dX5_out_28 ?_
      refine lv_icmp_lt (tgt := 37) hx hb dX5_out_31 (by decide) (fun yc31 => ?_) (fun yc31 => ?_)
      · have h := z_ifp yc31 h
        refine lv_iload_n hx hb dX5_out_37 rfl (lv_at hl 4 rfl) ?_
        refine lv_if_eq (tgt := 51) hx hb dX5_out_38 (by decide) (fun yc38 => ?_) (fun yc38 => ?_)
        · have h := z_ifp yc38 h
          refine lv_aload hx hb dX5_out_51 (lv_at hl 0 rfl) ?_
          refine gt_X2_1 hx hb hts hown hK hP (pa_st st_1 yg18) (hts _ wl_1_85) dX5_out_53 ?_
          refine lv_iload_n hx hb dX5_out_56 rfl (lv_at hl 3 rfl) ?_
          obtain ⟨yg57, h⟩ := z_gi h
          refine al_C hx hb hK hP (ar_pa2 (pa_st st_1 yg18)) (by decide) yg57 dX5_out_57 ?_
          exact hRet _ _ _ _ _ _ hP hS (z_pair h) dX5_out_58
        · have h := z_ifn yc38 h
          refine lv_aload hx hb dX5_out_41 (lv_at hl 0 rfl) ?_
          refine gt_X2_2 hx hb hts hown hK hP (pa_st st_1 yg18) (hts _ wl_1_87) dX5_out_43 ?_
          refine lv_iload_n hx hb dX5_out_46 rfl (lv_at hl 3 rfl) ?_
          obtain ⟨yg47, h⟩ := z_gi h
          refine al_C hx hb hK hP (ar_pa3 (pa_st st_1 yg18)) (by decide) yg47 dX5_out_47 ?_
          refine lv_goto (tgt := 58) hx hb dX5_out_48 (by decide) ?_
          exact hRet _ _ _ _ _ _ hP hS (z_pair h) dX5_out_58
      · have h := z_ifn yc31 h
        refine lv_bipush (v := (-9 : Int32)) hx hb dX5_out_34 (by decide) ?_
        exact hRet _ _ _ _ _ _ hP hS (z_pair h) dX5_out_36
  · have h := z_ifp yc5 h
    refine lv_iconst (v := (-1 : Int32)) hx hb dX5_out_8 (by decide) ?_
    exact hRet _ _ _ _ _ _ hP hS (z_pair h) dX5_out_9
noncomputable def fX5_recordAction (yd : Dt) : Option (Dt) :=
  z_gd (z_in (yd.1 0 14) 14) (z_br (fX3_copyFrom yd (72 + 28 * (z_ix (yd.1 0 14))) 1) fun yd1 => z_nm (zif ((13 : Int32) ≤ (yd1.1 0 14)) (0 : Int32) ((yd1.1 0 14) + (1 : Int32))) fun yv2 => z_nm (z_st yd1 0 14 yv2) fun yd3 => zif ((14 : Int32) ≤ (yd3.1 0 13)) (some yd3) (z_nm (z_st yd3 0 13 ((yd3.1 0 13) + (1 : Int32))) fun yd4 => some yd4))
set_option maxHeartbeats 4000000 in
set_option maxRecDepth 100000 in
theorem kX5_recordAction {l : Launch} {D : va_G} {G : z_G} {ad : Nat → Nat} {A : Nat → Prop} (hI : ∀ d, va_D A (WC G ad d)) {yd : Dt}   {dd : Dt} (h : fX5_recordAction yd = some dd) : z_Mv l D G A (WC G ad) yX5_recordAction cX5_recordAction 1 (z_rm 3 83) yd [.ref (ad 0)] dd := by
  refine z_ofv (by decide) (Nat.le_of_ble_eq_true rfl) fun p e s m args below meth c Q hx hb hml hown hts hK hP hRet ls hl => ?_
  have hS : va_S A s.heap s.heap [] := va_S.rf
  have hl : lv_has ls 1 [(0, .ref (ad 0))] := hl
  have h : (z_gd (z_in (yd.1 0 14) 14) (z_br (fX3_copyFrom yd (72 + 28 * (z_ix (yd.1 0 14))) 1) fun yd1 => z_nm (zif ((13 : Int32) ≤ (yd1.1 0 14)) (0 : Int32) ((yd1.1 0 14) + (1 : Int32))) fun yv2 => z_nm (z_st yd1 0 14 yv2) fun yd3 => zif ((14 : Int32) ≤ (yd3.1 0 13)) (some yd3) (z_nm (z_st yd3 0 13 ((yd3.1 0 13) + (1 : Int32))) fun yd4 => some yd4))) = some dd := h
  refine lv_aload_n hx hb dX5_recordAction_0 rfl (lv_at hl 0 rfl) ?_
  refine gt_X5_2 hx hb hts hown hK hP (hts _ wl_1_177) dX5_recordAction_1 ?_
  refine lv_aload_n hx hb dX5_recordAction_4 rfl (lv_at hl 0 rfl) ?_
  refine gt_X5_14 hx hb hts hown hK hP (hts _ wl_1_189) dX5_recordAction_5 ?_
  obtain ⟨yg8, h⟩ := z_gi h
  refine rl_57 hx hb hK hP yg8 dX5_recordAction_8 ?_
  refine lv_aload_n hx hb dX5_recordAction_9 rfl (lv_at hl 0 rfl) ?_
  refine gt_X5_0 hx hb hts hown hK hP (hts _ wl_1_175) dX5_recordAction_10 ?_
  obtain ⟨yd1, yhc13, h⟩ := z_brx h
  refine z_kv (z_rV (As := [.ref (ad 1)]) (rest := []) ⟨hx, hb, hml, hown, hts⟩ hK hP (w_X3 (st_bef yg8)) rfl (kX3_copyFrom hI (st_bef yg8) st_1 yhc13) giX5_69 ⟨rfl, rfl⟩ ndX3_copyFrom ⟨Nat.le_of_ble_eq_true rfl, Nat.le_of_ble_eq_true rfl⟩ rfl hl.1 rfl (Nat.le_of_ble_eq_true rfl) ⟨Nat.le_refl _, Nat.le_refl _⟩ dX5_recordAction_13) hS (fun H locs hP hS => ?_)
  refine lv_aload_n hx hb dX5_recordAction_16 rfl (lv_at hl 0 rfl) ?_
  refine lv_aload_n hx hb dX5_recordAction_17 rfl (lv_at hl 0 rfl) ?_
  refine gt_X5_14 hx hb hts hown hK hP (hts _ wl_1_189) dX5_recordAction_18 ?_
  refine lv_bipush (v := (13 : Int32)) hx hb dX5_recordAction_21 (by decide) ?_
  have hM36 : ∀ (yv2 : Int32) (H : Heap) (locs : List Loc), yv2 = (zif ((13 : Int32) ≤ (yd1.1 0 14)) (0 : Int32) ((yd1.1 0 14) + (1 : Int32))) → va_P D vwCl (WC G ad yd1) H → va_S A s.heap H locs → W p l e (z_rm 3 83) s m args below meth c H locs 0 0 Q (F0 m 36 ls [.int yv2, .ref (ad 0)]) := by
    intro yv2 H locs e_yv2 hP hS
    have h := z_nma e_yv2 h
    refine pt_X5_14 hx hb hts hown hK hP hI hS (hts _ wl_1_189) dX5_recordAction_36 (fun H locs yd3 e_yd3 hP hS => ?_)
    have h := z_nma e_yd3 h
    refine lv_aload_n hx hb dX5_recordAction_39 rfl (lv_at hl 0 rfl) ?_
    refine gt_X5_13 hx hb hts hown hK hP (hts _ wl_1_188) dX5_recordAction_40 ?_
    refine lv_bipush (v := (14 : Int32)) hx hb dX5_recordAction_43 (by decide) ?_
    refine lv_icmp_ge (tgt := 58) hx hb dX5_recordAction_45 (by decide) (fun yc45 => ?_) (fun yc45 => ?_)
    · have h := z_ifp yc45 h
      exact hRet _ _ _ _ _ hP hS h dX5_recordAction_58
    · have h := z_ifn yc45 h
      refine lv_aload_n hx hb dX5_recordAction_48 rfl (lv_at hl 0 rfl) ?_
      refine lv_dup hx hb dX5_recordAction_49 rfl ?_
      refine gt_X5_13 hx hb hts hown hK hP (hts _ wl_1_188) dX5_recordAction_50 ?_
      refine lv_iconst (v := (1 : Int32)) hx hb dX5_recordAction_53 (by decide) ?_
      refine lv_iadd hx hb dX5_recordAction_54 ?_
      refine pt_X5_13 hx hb hts hown hK hP hI hS (hts _ wl_1_188) dX5_recordAction_55 (fun H locs yd4 e_yd4 hP hS => ?_)
      have h := z_nma e_yd4 h
      exact hRet _ _ _ _ _ hP hS h dX5_recordAction_58
  refine lv_icmp_ge (tgt := 35) hx hb dX5_recordAction_23 (by decide) (fun yc23 => ?_) (fun yc23 => ?_)
  · refine lv_iconst (v := (0 : Int32)) hx hb dX5_recordAction_35 (by decide) ?_
    exact hM36 _ _ _ (z_tp yc23 rfl) hP hS
  · refine lv_aload_n hx hb dX5_recordAction_26 rfl (lv_at hl 0 rfl) ?_
    refine gt_X5_14 hx hb hts hown hK hP (hts _ wl_1_189) dX5_recordAction_27 ?_
    refine lv_iconst (v := (1 : Int32)) hx hb dX5_recordAction_30 (by decide) ?_
    refine lv_iadd hx hb dX5_recordAction_31 ?_
    refine lv_goto (tgt := 36) hx hb dX5_recordAction_32 (by decide) ?_
    exact hM36 _ _ _ (z_tn yc23 rfl) hP hS
noncomputable def fX5_open (yd : Dt) (yx1 : Int32) : Option (Int32 × Dt) :=
  zif (yx1 < 0) (some ((-2 : Int32), yd)) (zif (yx1 < (5 : Int32)) (z_br (fX0_openRefusal yd 2) fun yr1 => zif (yr1 = (-9 : Int32)) (z_br (fX5_recordAction yd) fun yd2 => z_bd (fX0_enter yd2 2 yx1) fun yr3 yd4 => z_bd (fX3_emitAll yd4 1) fun yr5 yd6 => some ((yd6.1 2 7), yd6)) (some (yr1, yd))) (some ((-2 : Int32), yd)))
set_option maxHeartbeats 4000000 in
set_option maxRecDepth 100000 in
theorem kX5_open {l : Launch} {D : va_G} {G : z_G} {ad : Nat → Nat} {A : Nat → Prop} (hI : ∀ d, va_D A (WC G ad d)) {yd : Dt} {yx1 : Int32}  {rr : Int32} {dd : Dt} (h : fX5_open yd yx1 = some (rr, dd)) : z_Mi l D G A (WC G ad) yX5_open cX5_open 3 (z_rm 5 128) yd [.ref (ad 0), .int yx1] rr dd := by
  refine z_ofi (by decide) (Nat.le_of_ble_eq_true rfl) fun p e s m args below meth c Q hx hb hml hown hts hK hP hRet ls hl => ?_
  have hS : va_S A s.heap s.heap [] := va_S.rf
  have hl : lv_has ls 3 [(0, .ref (ad 0)), (1, .int yx1)] := hl
  have h : (zif (yx1 < 0) (some ((-2 : Int32), yd)) (zif (yx1 < (5 : Int32)) (z_br (fX0_openRefusal yd 2) fun yr1 => zif (yr1 = (-9 : Int32)) (z_br (fX5_recordAction yd) fun yd2 => z_bd (fX0_enter yd2 2 yx1) fun yr3 yd4 => z_bd (fX3_emitAll yd4 1) fun yr5 yd6 => some ((yd6.1 2 7), yd6)) (some (yr1, yd))) (some ((-2 : Int32), yd)))) = some (rr, dd) := h
  refine lv_iload_n hx hb dX5_open_0 rfl (lv_at hl 1 rfl) ?_
  refine lv_if_lt (tgt := 9) hx hb dX5_open_1 (by decide) (fun yc1 => ?_) (fun yc1 => ?_)
  · have h := z_ifp yc1 h
    refine lv_bipush (v := (-2 : Int32)) hx hb dX5_open_9 (by decide) ?_
    exact hRet _ _ _ _ _ _ hP hS h dX5_open_11
  · have h := z_ifn yc1 h
    refine lv_iload_n hx hb dX5_open_4 rfl (lv_at hl 1 rfl) ?_
    refine lv_iconst (v := (5 : Int32)) hx hb dX5_open_5 (by decide) ?_
    refine lv_icmp_lt (tgt := 12) hx hb dX5_open_6 (by decide) (fun yc6 => ?_) (fun yc6 => ?_)
    · have h := z_ifp yc6 h
      refine lv_aload_n hx hb dX5_open_12 rfl (lv_at hl 0 rfl) ?_
      refine gt_X5_0 hx hb hts hown hK hP (hts _ wl_1_175) dX5_open_13 ?_
      refine gt_X3_0 hx hb hts hown hK hP st_1 (hts _ wl_1_114) dX5_open_16 ?_
      obtain ⟨yr1, yhc19, h⟩ := z_brx h
      refine z_ki (z_rV (As := []) (rest := []) ⟨hx, hb, hml, hown, hts⟩ hK hP (w_X0 (el_st st_1)) rfl (kX0_openRefusal hI (el_st st_1) yhc19) giX5_170 ⟨rfl, rfl⟩ ndX0_openRefusal ⟨Nat.le_of_ble_eq_true rfl, Nat.le_of_ble_eq_true rfl⟩ rfl hl.1 rfl (Nat.le_of_ble_eq_true rfl) ⟨Nat.le_refl _, Nat.le_refl _⟩ dX5_open_19) hS (fun H locs hP hS => ?_)
      refine lv_istore_n (lv' := [(2, .int yr1), (0, .ref (ad 0)), (1, .int yx1)]) hx hb dX5_open_22 rfl hl (by decide) rfl (fun ls hl => ?_)
      refine lv_iload_n hx hb dX5_open_23 rfl (lv_at hl 0 rfl) ?_
      refine lv_bipush (v := (-9 : Int32)) hx hb dX5_open_24 (by decide) ?_
      refine lv_icmp_eq (tgt := 31) hx hb dX5_open_26 (by decide) (fun yc26 => ?_) (fun yc26 => ?_)
      · have h := z_ifp yc26 h
        refine lv_aload_n hx hb dX5_open_31 rfl (lv_at hl 1 rfl) ?_
        obtain ⟨yd2, yhc32, h⟩ := z_brx h
        refine z_kv (z_rV (As := []) (rest := []) ⟨hx, hb, hml, hown, hts⟩ hK hP w_X5 rfl (kX5_recordAction hI yhc32) giX5_173 ⟨rfl, rfl⟩ ndX5_recordAction ⟨Nat.le_of_ble_eq_true rfl, Nat.le_of_ble_eq_true rfl⟩ rfl hl.1 rfl (Nat.le_of_ble_eq_true rfl) ⟨Nat.le_refl _, Nat.le_refl _⟩ dX5_open_32) hS (fun H locs hP hS => ?_)
        refine lv_aload_n hx hb dX5_open_35 rfl (lv_at hl 1 rfl) ?_
        refine gt_X5_0 hx hb hts hown hK hP (hts _ wl_1_175) dX5_open_36 ?_
        refine gt_X3_0 hx hb hts hown hK hP st_1 (hts _ wl_1_114) dX5_open_39 ?_
        refine lv_iload_n hx hb dX5_open_42 rfl (lv_at hl 2 rfl) ?_
        obtain ⟨yr3, yd4, yhc43, h⟩ := z_bdx h
        refine z_kz (z_rV (As := [.int yx1]) (rest := []) ⟨hx, hb, hml, hown, hts⟩ hK hP (w_X0 (el_st st_1)) rfl (kX0_enter hI (el_st st_1) yhc43) giX5_176 ⟨rfl, rfl⟩ ndX0_enter ⟨Nat.le_of_ble_eq_true rfl, Nat.le_of_ble_eq_true rfl⟩ rfl hl.1 rfl (Nat.le_of_ble_eq_true rfl) ⟨Nat.le_refl _, Nat.le_refl _⟩ dX5_open_43) hS (fun H locs z_yr3 hP hS => ?_)
        refine lv_pop hx hb dX5_open_46 rfl ?_
        refine lv_aload_n hx hb dX5_open_47 rfl (lv_at hl 1 rfl) ?_
        refine gt_X5_0 hx hb hts hown hK hP (hts _ wl_1_175) dX5_open_48 ?_
        refine lv_aload_n hx hb dX5_open_51 rfl (lv_at hl 1 rfl) ?_
        refine gt_X5_5 hx hb hts hown hK hP (hts _ wl_1_180) dX5_open_52 ?_
        obtain ⟨yr5, yd6, yhc55, h⟩ := z_bdx h
        refine z_ki (z_rV (As := [.ref (ad 60)]) (rest := []) ⟨hx, hb, hml, hown, hts⟩ hK hP (w_X3 st_1) rfl (kX3_emitAll hI st_1 yhc55) giX5_179 ⟨rfl, rfl⟩ ndX3_emitAll ⟨Nat.le_of_ble_eq_true rfl, Nat.le_of_ble_eq_true rfl⟩ rfl hl.1 rfl (Nat.le_of_ble_eq_true rfl) ⟨Nat.le_refl _, Nat.le_refl _⟩ dX5_open_55) hS (fun H locs hP hS => ?_)
        refine lv_pop hx hb dX5_open_58 rfl ?_
        refine lv_aload_n hx hb dX5_open_59 rfl (lv_at hl 1 rfl) ?_
        refine gt_X5_0 hx hb hts hown hK hP (hts _ wl_1_175) dX5_open_60 ?_
        refine gt_X3_0 hx hb hts hown hK hP st_1 (hts _ wl_1_114) dX5_open_63 ?_
        refine gt_X0_7 hx hb hts hown hK hP (el_st st_1) (hts _ wl_1_50) dX5_open_66 ?_
        exact hRet _ _ _ _ _ _ hP hS h dX5_open_69
      · have h := z_ifn yc26 h
        refine lv_iload_n hx hb dX5_open_29 rfl (lv_at hl 0 rfl) ?_
        exact hRet _ _ _ _ _ _ hP hS h dX5_open_30
    · have h := z_ifn yc6 h
      refine lv_bipush (v := (-2 : Int32)) hx hb dX5_open_9 (by decide) ?_
      exact hRet _ _ _ _ _ _ hP hS h dX5_open_11
noncomputable def fX5_close (yd : Dt) : Option (Int32 × Dt) :=
  zif (0 ≤ (yd.1 2 7)) (z_br (fX5_recordAction yd) fun yd1 => z_bd (fX0_leave yd1 2) fun yr2 yd3 => z_bd (fX3_emitAll yd3 1) fun yr4 yd5 => some (yr4, yd5)) (some ((-3 : Int32), yd))
set_option maxHeartbeats 4000000 in
set_option maxRecDepth 100000 in
theorem kX5_close {l : Launch} {D : va_G} {G : z_G} {ad : Nat → Nat} {A : Nat → Prop} (hI : ∀ d, va_D A (WC G ad d)) {yd : Dt}   {rr : Int32} {dd : Dt} (h : fX5_close yd = some (rr, dd)) : z_Mi l D G A (WC G ad) yX5_close cX5_close 1 (z_rm 5 128) yd [.ref (ad 0)] rr dd := by
  refine z_ofi (by decide) (Nat.le_of_ble_eq_true rfl) fun p e s m args below meth c Q hx hb hml hown hts hK hP hRet ls hl => ?_
  have hS : va_S A s.heap s.heap [] := va_S.rf
  have hl : lv_has ls 1 [(0, .ref (ad 0))] := hl
  have h : (zif (0 ≤ (yd.1 2 7)) (z_br (fX5_recordAction yd) fun yd1 => z_bd (fX0_leave yd1 2) fun yr2 yd3 => z_bd (fX3_emitAll yd3 1) fun yr4 yd5 => some (yr4, yd5)) (some ((-3 : Int32), yd))) = some (rr, dd) := h
  refine lv_aload_n hx hb dX5_close_0 rfl (lv_at hl 0 rfl) ?_
  refine gt_X5_0 hx hb hts hown hK hP (hts _ wl_1_175) dX5_close_1 ?_
  refine gt_X3_0 hx hb hts hown hK hP st_1 (hts _ wl_1_114) dX5_close_4 ?_
  refine gt_X0_7 hx hb hts hown hK hP (el_st st_1) (hts _ wl_1_50) dX5_close_7 ?_
  refine lv_if_ge (tgt := 16) hx hb dX5_close_10 (by decide) (fun yc10 => ?_) (fun yc10 => ?_)
  · have h := z_ifp yc10 h
    refine lv_aload_n hx hb dX5_close_16 rfl (lv_at hl 0 rfl) ?_
    obtain ⟨yd1, yhc17, h⟩ := z_brx h
    refine z_kv (z_rV (As := []) (rest := []) ⟨hx, hb, hml, hown, hts⟩ hK hP w_X5 rfl (kX5_recordAction hI yhc17) giX5_173 ⟨rfl, rfl⟩ ndX5_recordAction ⟨Nat.le_of_ble_eq_true rfl, Nat.le_of_ble_eq_true rfl⟩ rfl hl.1 rfl (Nat.le_of_ble_eq_true rfl) ⟨Nat.le_refl _, Nat.le_refl _⟩ dX5_close_17) hS (fun H locs hP hS => ?_)
    refine lv_aload_n hx hb dX5_close_20 rfl (lv_at hl 0 rfl) ?_
    refine gt_X5_0 hx hb hts hown hK hP (hts _ wl_1_175) dX5_close_21 ?_
    refine gt_X3_0 hx hb hts hown hK hP st_1 (hts _ wl_1_114) dX5_close_24 ?_
    obtain ⟨yr2, yd3, yhc27, h⟩ := z_bdx h
    refine z_kz (z_rV (As := []) (rest := []) ⟨hx, hb, hml, hown, hts⟩ hK hP (w_X0 (el_st st_1)) rfl (kX0_leave hI (el_st st_1) yhc27) giX5_183 ⟨rfl, rfl⟩ ndX0_leave ⟨Nat.le_of_ble_eq_true rfl, Nat.le_of_ble_eq_true rfl⟩ rfl hl.1 rfl (Nat.le_of_ble_eq_true rfl) ⟨Nat.le_refl _, Nat.le_refl _⟩ dX5_close_27) hS (fun H locs z_yr2 hP hS => ?_)
    refine lv_pop hx hb dX5_close_30 rfl ?_
    refine lv_aload_n hx hb dX5_close_31 rfl (lv_at hl 0 rfl) ?_
    refine gt_X5_0 hx hb hts hown hK hP (hts _ wl_1_175) dX5_close_32 ?_
    refine lv_aload_n hx hb dX5_close_35 rfl (lv_at hl 0 rfl) ?_
    refine gt_X5_5 hx hb hts hown hK hP (hts _ wl_1_180) dX5_close_36 ?_
    obtain ⟨yr4, yd5, yhc39, h⟩ := z_bdx h
    refine z_ki (z_rV (As := [.ref (ad 60)]) (rest := []) ⟨hx, hb, hml, hown, hts⟩ hK hP (w_X3 st_1) rfl (kX3_emitAll hI st_1 yhc39) giX5_179 ⟨rfl, rfl⟩ ndX3_emitAll ⟨Nat.le_of_ble_eq_true rfl, Nat.le_of_ble_eq_true rfl⟩ rfl hl.1 rfl (Nat.le_of_ble_eq_true rfl) ⟨Nat.le_refl _, Nat.le_refl _⟩ dX5_close_39) hS (fun H locs hP hS => ?_)
    exact hRet _ _ _ _ _ _ hP hS h dX5_close_42
  · have h := z_ifn yc10 h
    refine lv_bipush (v := (-3 : Int32)) hx hb dX5_close_13 (by decide) ?_
    exact hRet _ _ _ _ _ _ hP hS h dX5_close_15
noncomputable def fX5_tell (yd : Dt) (yx1 : Int32) : Option (Int32 × Dt) :=
  zif (yx1 < 0) (some ((-2 : Int32), yd)) (zif (yx1 < (10 : Int32)) (zif (0 ≤ (yd.1 2 7)) (z_br (fX5_recordAction yd) fun yd1 => z_bd (fX0_hold yd1 2 yx1) fun yr2 yd3 => z_bd (fX3_emitAll yd3 1) fun yr4 yd5 => some (yr4, yd5)) (some ((-3 : Int32), yd))) (some ((-2 : Int32), yd)))
set_option maxHeartbeats 4000000 in
set_option maxRecDepth 100000 in
theorem kX5_tell {l : Launch} {D : va_G} {G : z_G} {ad : Nat → Nat} {A : Nat → Prop} (hI : ∀ d, va_D A (WC G ad d)) {yd : Dt} {yx1 : Int32}  {rr : Int32} {dd : Dt} (h : fX5_tell yd yx1 = some (rr, dd)) : z_Mi l D G A (WC G ad) yX5_tell cX5_tell 2 (z_rm 5 128) yd [.ref (ad 0), .int yx1] rr dd := by
  refine z_ofi (by decide) (Nat.le_of_ble_eq_true rfl) fun p e s m args below meth c Q hx hb hml hown hts hK hP hRet ls hl => ?_
  have hS : va_S A s.heap s.heap [] := va_S.rf
  have hl : lv_has ls 2 [(0, .ref (ad 0)), (1, .int yx1)] := hl
  have h : (zif (yx1 < 0) (some ((-2 : Int32), yd)) (zif (yx1 < (10 : Int32)) (zif (0 ≤ (yd.1 2 7)) (z_br (fX5_recordAction yd) fun yd1 => z_bd (fX0_hold yd1 2 yx1) fun yr2 yd3 => z_bd (fX3_emitAll yd3 1) fun yr4 yd5 => some (yr4, yd5)) (some ((-3 : Int32), yd))) (some ((-2 : Int32), yd)))) = some (rr, dd) := h
  refine lv_iload_n hx hb dX5_tell_0 rfl (lv_at hl 1 rfl) ?_
  refine lv_if_lt (tgt := 10) hx hb dX5_tell_1 (by decide) (fun yc1 => ?_) (fun yc1 => ?_)
  · have h := z_ifp yc1 h
    refine lv_bipush (v := (-2 : Int32)) hx hb dX5_tell_10 (by decide) ?_
    exact hRet _ _ _ _ _ _ hP hS h dX5_tell_12
  · have h := z_ifn yc1 h
    refine lv_iload_n hx hb dX5_tell_4 rfl (lv_at hl 1 rfl) ?_
    refine lv_bipush (v := (10 : Int32)) hx hb dX5_tell_5 (by decide) ?_
    refine lv_icmp_lt (tgt := 13) hx hb dX5_tell_7 (by decide) (fun yc7 => ?_) (fun yc7 => ?_)
    · have h := z_ifp yc7 h
      refine lv_aload_n hx hb dX5_tell_13 rfl (lv_at hl 0 rfl) ?_
      refine gt_X5_0 hx hb hts hown hK hP (hts _ wl_1_175) dX5_tell_14 ?_
      refine gt_X3_0 hx hb hts hown hK hP st_1 (hts _ wl_1_114) dX5_tell_17 ?_
      refine gt_X0_7 hx hb hts hown hK hP (el_st st_1) (hts _ wl_1_50) dX5_tell_20 ?_
      refine lv_if_ge (tgt := 29) hx hb dX5_tell_23 (by decide) (fun yc23 => ?_) (fun yc23 => ?_)
      · have h := z_ifp yc23 h
        refine lv_aload_n hx hb dX5_tell_29 rfl (lv_at hl 0 rfl) ?_
        obtain ⟨yd1, yhc30, h⟩ := z_brx h
        refine z_kv (z_rV (As := []) (rest := []) ⟨hx, hb, hml, hown, hts⟩ hK hP w_X5 rfl (kX5_recordAction hI yhc30) giX5_173 ⟨rfl, rfl⟩ ndX5_recordAction ⟨Nat.le_of_ble_eq_true rfl, Nat.le_of_ble_eq_true rfl⟩ rfl hl.1 rfl (Nat.le_of_ble_eq_true rfl) ⟨Nat.le_refl _, Nat.le_refl _⟩ dX5_tell_30) hS (fun H locs hP hS => ?_)
        refine lv_aload_n hx hb dX5_tell_33 rfl (lv_at hl 0 rfl) ?_
        refine gt_X5_0 hx hb hts hown hK hP (hts _ wl_1_175) dX5_tell_34 ?_
        refine gt_X3_0 hx hb hts hown hK hP st_1 (hts _ wl_1_114) dX5_tell_37 ?_
        refine lv_iload_n hx hb dX5_tell_40 rfl (lv_at hl 1 rfl) ?_
        obtain ⟨yr2, yd3, yhc41, h⟩ := z_bdx h
        refine z_kz (z_rV (As := [.int yx1]) (rest := []) ⟨hx, hb, hml, hown, hts⟩ hK hP (w_X0 (el_st st_1)) rfl (kX0_hold hI (el_st st_1) yhc41) giX5_187 ⟨rfl, rfl⟩ ndX0_hold ⟨Nat.le_of_ble_eq_true rfl, Nat.le_of_ble_eq_true rfl⟩ rfl hl.1 rfl (Nat.le_of_ble_eq_true rfl) ⟨Nat.le_refl _, Nat.le_refl _⟩ dX5_tell_41) hS (fun H locs z_yr2 hP hS => ?_)
        refine lv_pop hx hb dX5_tell_44 rfl ?_
        refine lv_aload_n hx hb dX5_tell_45 rfl (lv_at hl 0 rfl) ?_
        refine gt_X5_0 hx hb hts hown hK hP (hts _ wl_1_175) dX5_tell_46 ?_
        refine lv_aload_n hx hb dX5_tell_49 rfl (lv_at hl 0 rfl) ?_
        refine gt_X5_5 hx hb hts hown hK hP (hts _ wl_1_180) dX5_tell_50 ?_
        obtain ⟨yr4, yd5, yhc53, h⟩ := z_bdx h
        refine z_ki (z_rV (As := [.ref (ad 60)]) (rest := []) ⟨hx, hb, hml, hown, hts⟩ hK hP (w_X3 st_1) rfl (kX3_emitAll hI st_1 yhc53) giX5_179 ⟨rfl, rfl⟩ ndX3_emitAll ⟨Nat.le_of_ble_eq_true rfl, Nat.le_of_ble_eq_true rfl⟩ rfl hl.1 rfl (Nat.le_of_ble_eq_true rfl) ⟨Nat.le_refl _, Nat.le_refl _⟩ dX5_tell_53) hS (fun H locs hP hS => ?_)
        exact hRet _ _ _ _ _ _ hP hS h dX5_tell_56
      · have h := z_ifn yc23 h
        refine lv_bipush (v := (-3 : Int32)) hx hb dX5_tell_26 (by decide) ?_
        exact hRet _ _ _ _ _ _ hP hS h dX5_tell_28
    · have h := z_ifn yc7 h
      refine lv_bipush (v := (-2 : Int32)) hx hb dX5_tell_10 (by decide) ?_
      exact hRet _ _ _ _ _ _ hP hS h dX5_tell_12
noncomputable def bX5_splits_32 (yx2 : Int32) (s : Int64 × Int32 × Dt) : Option ((Int64 × Int32 × Dt) ⊕ (Int64 × Dt)) := match s with
  | (yv2, yv3, yd4) => zif (yv3 < 0) (some (.inr (yv2, yd4))) (z_gd (z_dc (¬ yx2.toInt64 = 0)) (z_gd (z_in yv3 4) (z_nm (z_st yd4 70 (z_ix yv3) ((yv2 - yv2 / yx2.toInt64 * yx2.toInt64).toInt32)) fun yd5 => z_gd (z_dc (¬ yx2.toInt64 = 0)) (z_nm (yv2 / yx2.toInt64) fun yv6 => z_nm (yv3 + (-1 : Int32)) fun yv7 => some (.inl (yv6, yv7, yd5))))))
noncomputable def fX5_splits (yd : Dt) (yx1 : Int64) (yx2 : Int32) (yx3 : Int32) : Option (Int32 × Dt) :=
  zif ((lg_cmp yx1 (0 : Int64)) < 0) (some ((0 : Int32), yd)) (zif (yx2 < (2 : Int32)) (some ((0 : Int32), yd)) (zif (yx3 ≤ (4 : Int32)) (z_nm (yx3 - (1 : Int32)) fun yv1 => z_br (z_lp (bX5_splits_32 yx2) (yx1, yv1, yd)) (fun t => match t with | (yv8, yd9) => zif ((lg_cmp yv8 (0 : Int64)) = 0) (some ((1 : Int32), yd9)) (some ((0 : Int32), yd9)))) (some ((0 : Int32), yd))))
set_option maxHeartbeats 4000000 in
set_option maxRecDepth 100000 in
theorem kX5_splits {l : Launch} {D : va_G} {G : z_G} {ad : Nat → Nat} {A : Nat → Prop} (hI : ∀ d, va_D A (WC G ad d)) {yd : Dt} {yx1 : Int64} {yx2 : Int32} {yx3 : Int32}  {rr : Int32} {dd : Dt} (h : fX5_splits yd yx1 yx2 yx3 = some (rr, dd)) : z_Mz l D G A (WC G ad) yX5_splits cX5_splits 8 (z_rm 0 0) yd [.ref (ad 0), .long yx1, .int yx2, .int yx3] rr dd := by
  refine z_ofz (by decide) (Nat.le_of_ble_eq_true rfl) fun p e s m args below meth c Q hx hb hml hown hts hK hP hRet ls hl => ?_
  have hS : va_S A s.heap s.heap [] := va_S.rf
  have hl : lv_has ls 8 [(0, .ref (ad 0)), (1, .long yx1), (3, .int yx2), (4, .int yx3)] := hl
  have h : (zif ((lg_cmp yx1 (0 : Int64)) < 0) (some ((0 : Int32), yd)) (zif (yx2 < (2 : Int32)) (some ((0 : Int32), yd)) (zif (yx3 ≤ (4 : Int32)) (z_nm (yx3 - (1 : Int32)) fun yv1 => z_br (z_lp (bX5_splits_32 yx2) (yx1, yv1, yd)) (fun t => match t with | (yv8, yd9) => zif ((lg_cmp yv8 (0 : Int64)) = 0) (some ((1 : Int32), yd9)) (some ((0 : Int32), yd9)))) (some ((0 : Int32), yd))))) = some (rr, dd) := h
  refine lv_lload_n hx hb dX5_splits_0 rfl (lv_at hl 1 rfl) ?_
  refine lv_lconst (v := (0 : Int64)) hx hb dX5_splits_1 (by decide) ?_
  refine W.lcmp hx hb dX5_splits_2 ?_
  refine lv_if_lt (tgt := 21) hx hb dX5_splits_3 (by decide) (fun yc3 => ?_) (fun yc3 => ?_)
  · have h := z_ifp yc3 h
    refine lv_iconst (v := (0 : Int32)) hx hb dX5_splits_21 (by decide) ?_
    exact hRet _ _ _ _ _ _ hP hS (Or.inl rfl) h dX5_splits_22
  · have h := z_ifn yc3 h
    refine lv_iload_n hx hb dX5_splits_6 rfl (lv_at hl 2 rfl) ?_
    refine lv_iconst (v := (2 : Int32)) hx hb dX5_splits_7 (by decide) ?_
    refine lv_icmp_lt (tgt := 21) hx hb dX5_splits_8 (by decide) (fun yc8 => ?_) (fun yc8 => ?_)
    · have h := z_ifp yc8 h
      refine lv_iconst (v := (0 : Int32)) hx hb dX5_splits_21 (by decide) ?_
      exact hRet _ _ _ _ _ _ hP hS (Or.inl rfl) h dX5_splits_22
    · have h := z_ifn yc8 h
      refine lv_iload hx hb dX5_splits_11 (lv_at hl 3 rfl) ?_
      refine lv_aload_n hx hb dX5_splits_13 rfl (lv_at hl 0 rfl) ?_
      refine gt_X5_10 hx hb hts hown hK hP (hts _ wl_1_185) dX5_splits_14 ?_
      refine an_C hx hb hK hP rfl (by decide) dX5_splits_17 (v := (4 : Int32)) (by decide) ?_
      refine lv_icmp_le (tgt := 23) hx hb dX5_splits_18 (by decide) (fun yc18 => ?_) (fun yc18 => ?_)
      · have h := z_ifp yc18 h
        refine lv_lload_n hx hb dX5_splits_23 rfl (lv_at hl 1 rfl) ?_
        refine lv_lstore (lv' := [(5, .long yx1), (0, .ref (ad 0)), (1, .long yx1), (3, .int yx2), (4, .int yx3)]) hx hb dX5_splits_24 hl (by decide) rfl (fun ls hl => ?_)
        refine lv_iload hx hb dX5_splits_26 (lv_at hl 4 rfl) ?_
        refine lv_iconst (v := (1 : Int32)) hx hb dX5_splits_28 (by decide) ?_
        refine lv_isub hx hb dX5_splits_29 ?_
        refine lv_topi (fun yv1 e_yv1 => ?_)
        have h := z_nma e_yv1 h
        refine lv_istore (lv' := [(7, .int yv1), (5, .long yx1), (0, .ref (ad 0)), (1, .long yx1), (3, .int yx2), (4, .int yx3)]) hx hb dX5_splits_30 hl (by decide) rfl (fun ls hl => ?_)
        obtain ⟨yt32, hlp, h⟩ := z_brx h
        obtain ⟨yn32, hlp⟩ := z_lpx hlp
        have hE63 : ∀ (yv8 : Int64) (yd9 : Dt) (H : Heap) (locs : List Loc) (ls : Array Slot), (yv8, yd9) = yt32 → va_P D vwCl (WC G ad yd9) H → va_S A s.heap H locs → lv_has ls 8 [(5, .long yv8)] → W p l e (z_rm 0 0) s m args below meth c H locs 0 0 Q (F0 m 63 ls []) := by
          intro yv8 yd9 H locs ls et hP hS hl
          subst et
          have h : (zif ((lg_cmp yv8 (0 : Int64)) = 0) (some ((1 : Int32), yd9)) (some ((0 : Int32), yd9))) = some (rr, dd) := h
          refine lv_lload hx hb dX5_splits_63 (lv_at hl 0 rfl) ?_
          refine lv_lconst (v := (0 : Int64)) hx hb dX5_splits_65 (by decide) ?_
          refine W.lcmp hx hb dX5_splits_66 ?_
          refine lv_if_ne (tgt := 74) hx hb dX5_splits_67 (by decide) (fun yc67 => ?_) (fun yc67 => ?_)
          · have h := z_ifn yc67 h
            refine lv_iconst (v := (0 : Int32)) hx hb dX5_splits_74 (by decide) ?_
            exact hRet _ _ _ _ _ _ hP hS (Or.inl rfl) h dX5_splits_75
          · have h := z_ifp yc67 h
            refine lv_iconst (v := (1 : Int32)) hx hb dX5_splits_70 (by decide) ?_
            refine lv_goto (tgt := 75) hx hb dX5_splits_71 (by decide) ?_
            exact hRet _ _ _ _ _ _ hP hS (Or.inr rfl) h dX5_splits_75
        have hL32 : ∀ (n : Nat) (yv2 : Int64) (yv3 : Int32) (yd4 : Dt) (H : Heap) (locs : List Loc) (ls : Array Slot), z_it (bX5_splits_32 yx2) n (yv2, yv3, yd4) = some yt32 → va_P D vwCl (WC G ad yd4) H → va_S A s.heap H locs → lv_has ls 8 [(0, .ref (ad 0)), (3, .int yx2), (5, .long yv2), (7, .int yv3)] → W p l e (z_rm 0 0) s m args below meth c H locs 0 0 Q (F0 m 32 ls []) := by
          intro n
          induction n with
          | zero => intro yv2 yv3 yd4 H locs ls hn; exact z_it0 hn
          | succ n ih =>
            intro yv2 yv3 yd4 H locs ls hn hP hS hl
            obtain ⟨yq32, h, hq1, hq2⟩ := z_itx hn
            have h : (zif (yv3 < 0) (some (.inr (yv2, yd4))) (z_gd (z_dc (¬ yx2.toInt64 = 0)) (z_gd (z_in yv3 4) (z_nm (z_st yd4 70 (z_ix yv3) ((yv2 - yv2 / yx2.toInt64 * yx2.toInt64).toInt32)) fun yd5 => z_gd (z_dc (¬ yx2.toInt64 = 0)) (z_nm (yv2 / yx2.toInt64) fun yv6 => z_nm (yv3 + (-1 : Int32)) fun yv7 => some (.inl (yv6, yv7, yd5))))))) = some yq32 := h
            refine lv_iload hx hb dX5_splits_32 (lv_at hl 3 rfl) ?_
            refine lv_if_lt (tgt := 63) hx hb dX5_splits_34 (by decide) (fun yc34 => ?_) (fun yc34 => ?_)
            · have h := z_ifp yc34 h
              exact hE63 _ _ _ _ _ (hq2 _ (z_sm h).symm) hP hS (lv_sub hl [2] rfl)
            · have h := z_ifn yc34 h
              refine lv_aload_n hx hb dX5_splits_37 rfl (lv_at hl 0 rfl) ?_
              refine gt_X5_10 hx hb hts hown hK hP (hts _ wl_1_185) dX5_splits_38 ?_
              refine lv_iload hx hb dX5_splits_41 (lv_at hl 3 rfl) ?_
              refine lv_lload hx hb dX5_splits_43 (lv_at hl 2 rfl) ?_
              refine lv_iload_n hx hb dX5_splits_45 rfl (lv_at hl 1 rfl) ?_
              refine lv_i2l (v := yx2.toInt64) hx hb dX5_splits_46 rfl ?_
              obtain ⟨yg47, h⟩ := z_gp h
              refine lv_lrem hx hb dX5_splits_47 yg47 ?_
              refine lv_l2i (v := (yv2 - yv2 / yx2.toInt64 * yx2.toInt64).toInt32) hx hb dX5_splits_48 rfl ?_
              obtain ⟨yg49, h⟩ := z_gi h
              refine as_C hx hb hK hP hI hS rfl (by decide) yg49 dX5_splits_49 (fun H locs yd5 e_yd5 hP hS => ?_)
              have h := z_nma e_yd5 h
              refine lv_lload hx hb dX5_splits_50 (lv_at hl 2 rfl) ?_
              refine lv_iload_n hx hb dX5_splits_52 rfl (lv_at hl 1 rfl) ?_
              refine lv_i2l (v := yx2.toInt64) hx hb dX5_splits_53 rfl ?_
              obtain ⟨yg54, h⟩ := z_gp h
              refine lv_ldiv hx hb dX5_splits_54 yg54 ?_
              refine lv_topl (fun yv6 e_yv6 => ?_)
              have h := z_nma e_yv6 h
              refine lv_lstore (lv' := [(5, .long yv6), (0, .ref (ad 0)), (3, .int yx2), (7, .int yv3)]) hx hb dX5_splits_55 hl (by decide) rfl (fun ls hl => ?_)
              obtain ⟨yv7, e_yv7, h⟩ := z_nmx h
              refine lv_iinc (v := yv7) (lv' := [(7, .int yv7), (5, .long yv6), (0, .ref (ad 0)), (3, .int yx2)]) hx hb dX5_splits_57 hl (k := 3) rfl (by rw [e_yv7]; rfl) (by decide) rfl (fun ls hl => ?_)
              refine lv_goto (tgt := 32) hx hb dX5_splits_60 (by decide) ?_
              exact ih _ _ _ _ _ _ (hq1 _ (z_sm h).symm) hP hS (lv_sub hl [2, 3, 1, 0] rfl)
        exact hL32 yn32 _ _ _ _ _ _ hlp hP hS (lv_sub hl [2, 4, 1, 0] rfl)
      · have h := z_ifn yc18 h
        refine lv_iconst (v := (0 : Int32)) hx hb dX5_splits_21 (by decide) ?_
        exact hRet _ _ _ _ _ _ hP hS (Or.inl rfl) h dX5_splits_22
noncomputable def bX5_partsAreSteps_2 (yx1 : Int32) (yd : Dt) (s : Int32) : Option ((Int32) ⊕ ((Unit) ⊕ (Unit))) := match s with
  | yv1 => zif (yx1 ≤ yv1) (some (.inr (.inr ()))) (z_gd (z_in yv1 4) (z_nm ((yd.1 70 (z_ix yv1)) / (1000 : Int32)) fun yv2 => z_gd (z_in yv1 4) (z_nm (((yd.1 70 (z_ix yv1)) / (100 : Int32)) - ((yd.1 70 (z_ix yv1)) / (100 : Int32)) / (10 : Int32) * (10 : Int32)) fun yv3 => z_gd (z_in yv1 4) (z_nm ((yd.1 70 (z_ix yv1)) - (yd.1 70 (z_ix yv1)) / (100 : Int32) * (100 : Int32)) fun yv4 => zif ((1 : Int32) < yv2) (some (.inr (.inl ()))) (zif ((5 : Int32) < yv3) (some (.inr (.inl ()))) (zif (yv4 < (16 : Int32)) (z_nm (yv1 + (1 : Int32)) fun yv5 => some (.inl yv5)) (some (.inr (.inl ())))))))))
noncomputable def fX5_partsAreSteps (yd : Dt) (yx1 : Int32) : Option Int32 :=
  z_br (z_lp (bX5_partsAreSteps_2 yx1 yd) (0 : Int32)) (fun t => match t with | .inl () => some (0 : Int32) | .inr () => some (1 : Int32))
set_option maxHeartbeats 4000000 in
set_option maxRecDepth 100000 in
theorem kX5_partsAreSteps {l : Launch} {D : va_G} {G : z_G} {ad : Nat → Nat} {A : Nat → Prop} (hI : ∀ d, va_D A (WC G ad d)) {yd : Dt} {yx1 : Int32}  {rr : Int32} (h : fX5_partsAreSteps yd yx1 = some rr) : z_Mz l D G A (WC G ad) yX5_partsAreSteps cX5_partsAreSteps 6 (z_rm 0 0) yd [.ref (ad 0), .int yx1] rr yd := by
  refine z_ofz (by decide) (Nat.le_of_ble_eq_true rfl) fun p e s m args below meth c Q hx hb hml hown hts hK hP hRet ls hl => ?_
  have hS : va_S A s.heap s.heap [] := va_S.rf
  have hl : lv_has ls 6 [(0, .ref (ad 0)), (1, .int yx1)] := hl
  have h : (z_br (z_lp (bX5_partsAreSteps_2 yx1 yd) (0 : Int32)) (fun t => match t with | .inl () => some (0 : Int32) | .inr () => some (1 : Int32))) = some rr := h
  refine lv_iconst (v := (0 : Int32)) hx hb dX5_partsAreSteps_0 (by decide) ?_
  refine lv_istore_n (lv' := [(2, .int (0 : Int32)), (0, .ref (ad 0)), (1, .int yx1)]) hx hb dX5_partsAreSteps_1 rfl hl (by decide) rfl (fun ls hl => ?_)
  obtain ⟨yt2, hlp, h⟩ := z_brx h
  obtain ⟨yn2, hlp⟩ := z_lpx hlp
  have hE61 : ∀  (H : Heap) (locs : List Loc) (ls : Array Slot), (.inl ()) = yt2 → va_P D vwCl (WC G ad yd) H → va_S A s.heap H locs → lv_has ls 6 [] → W p l e (z_rm 0 0) s m args below meth c H locs 0 0 Q (F0 m 61 ls []) := by
    intro  H locs ls et hP hS hl
    subst et
    have h : (some (0 : Int32)) = some rr := h
    refine lv_iconst (v := (0 : Int32)) hx hb dX5_partsAreSteps_61 (by decide) ?_
    exact hRet _ _ _ _ _ _ hP hS (Or.inl rfl) (z_pair h) dX5_partsAreSteps_62
  have hE69 : ∀  (H : Heap) (locs : List Loc) (ls : Array Slot), (.inr ()) = yt2 → va_P D vwCl (WC G ad yd) H → va_S A s.heap H locs → lv_has ls 6 [] → W p l e (z_rm 0 0) s m args below meth c H locs 0 0 Q (F0 m 69 ls []) := by
    intro  H locs ls et hP hS hl
    subst et
    have h : (some (1 : Int32)) = some rr := h
    refine lv_iconst (v := (1 : Int32)) hx hb dX5_partsAreSteps_69 (by decide) ?_
    exact hRet _ _ _ _ _ _ hP hS (Or.inr rfl) (z_pair h) dX5_partsAreSteps_70
  have hL2 : ∀ (n : Nat) (yv1 : Int32) (H : Heap) (locs : List Loc) (ls : Array Slot), z_it (bX5_partsAreSteps_2 yx1 yd) n yv1 = some yt2 → va_P D vwCl (WC G ad yd) H → va_S A s.heap H locs → lv_has ls 6 [(0, .ref (ad 0)), (1, .int yx1), (2, .int yv1)] → W p l e (z_rm 0 0) s m args below meth c H locs 0 0 Q (F0 m 2 ls []) := by
    intro n
    induction n with
    | zero => intro yv1 H locs ls hn; exact z_it0 hn
    | succ n ih =>
      intro yv1 H locs ls hn hP hS hl
      obtain ⟨yq2, h, hq1, hq2⟩ := z_itx hn
      have h : (zif (yx1 ≤ yv1) (some (.inr (.inr ()))) (z_gd (z_in yv1 4) (z_nm ((yd.1 70 (z_ix yv1)) / (1000 : Int32)) fun yv2 => z_gd (z_in yv1 4) (z_nm (((yd.1 70 (z_ix yv1)) / (100 : Int32)) - ((yd.1 70 (z_ix yv1)) / (100 : Int32)) / (10 : Int32) * (10 : Int32)) fun yv3 => z_gd (z_in yv1 4) (z_nm ((yd.1 70 (z_ix yv1)) - (yd.1 70 (z_ix yv1)) / (100 : Int32) * (100 : Int32)) fun yv4 => zif ((1 : Int32) < yv2) (some (.inr (.inl ()))) (zif ((5 : Int32) < yv3) (some (.inr (.inl ()))) (zif (yv4 < (16 : Int32)) (z_nm (yv1 + (1 : Int32)) fun yv5 => some (.inl yv5)) (some (.inr (.inl ())))))))))) = some yq2 := h
      refine lv_iload_n hx hb dX5_partsAreSteps_2 rfl (lv_at hl 2 rfl) ?_
      refine lv_iload_n hx hb dX5_partsAreSteps_3 rfl (lv_at hl 1 rfl) ?_
      refine lv_icmp_ge (tgt := 69) hx hb dX5_partsAreSteps_4 (by decide) (fun yc4 => ?_) (fun yc4 => ?_)
      · have h := z_ifp yc4 h
        exact hE69  _ _ _ (hq2 _ (z_sm h).symm) hP hS (lv_sub hl [] rfl)
      · have h := z_ifn yc4 h
        refine lv_aload_n hx hb dX5_partsAreSteps_7 rfl (lv_at hl 0 rfl) ?_
        refine gt_X5_10 hx hb hts hown hK hP (hts _ wl_1_185) dX5_partsAreSteps_8 ?_
        refine lv_iload_n hx hb dX5_partsAreSteps_11 rfl (lv_at hl 2 rfl) ?_
        obtain ⟨yg12, h⟩ := z_gi h
        refine al_C hx hb hK hP rfl (by decide) yg12 dX5_partsAreSteps_12 ?_
        refine lv_sipush (v := (1000 : Int32)) hx hb dX5_partsAreSteps_13 (by decide) ?_
        refine lv_idiv hx hb dX5_partsAreSteps_16 (by decide) ?_
        refine lv_topi (fun yv2 e_yv2 => ?_)
        have h := z_nma e_yv2 h
        refine lv_istore_n (lv' := [(3, .int yv2), (0, .ref (ad 0)), (1, .int yx1), (2, .int yv1)]) hx hb dX5_partsAreSteps_17 rfl hl (by decide) rfl (fun ls hl => ?_)
        refine lv_aload_n hx hb dX5_partsAreSteps_18 rfl (lv_at hl 1 rfl) ?_
        refine gt_X5_10 hx hb hts hown hK hP (hts _ wl_1_185) dX5_partsAreSteps_19 ?_
        refine lv_iload_n hx hb dX5_partsAreSteps_22 rfl (lv_at hl 3 rfl) ?_
        obtain ⟨yg23, h⟩ := z_gi h
        refine al_C hx hb hK hP rfl (by decide) yg23 dX5_partsAreSteps_23 ?_
        refine lv_bipush (v := (100 : Int32)) hx hb dX5_partsAreSteps_24 (by decide) ?_
        refine lv_idiv hx hb dX5_partsAreSteps_26 (by decide) ?_
        refine lv_bipush (v := (10 : Int32)) hx hb dX5_partsAreSteps_27 (by decide) ?_
        refine lv_irem hx hb dX5_partsAreSteps_29 (by decide) ?_
        refine lv_topi (fun yv3 e_yv3 => ?_)
        have h := z_nma e_yv3 h
        refine lv_istore (lv' := [(4, .int yv3), (3, .int yv2), (0, .ref (ad 0)), (1, .int yx1), (2, .int yv1)]) hx hb dX5_partsAreSteps_30 hl (by decide) rfl (fun ls hl => ?_)
        refine lv_aload_n hx hb dX5_partsAreSteps_32 rfl (lv_at hl 2 rfl) ?_
        refine gt_X5_10 hx hb hts hown hK hP (hts _ wl_1_185) dX5_partsAreSteps_33 ?_
        refine lv_iload_n hx hb dX5_partsAreSteps_36 rfl (lv_at hl 4 rfl) ?_
        obtain ⟨yg37, h⟩ := z_gi h
        refine al_C hx hb hK hP rfl (by decide) yg37 dX5_partsAreSteps_37 ?_
        refine lv_bipush (v := (100 : Int32)) hx hb dX5_partsAreSteps_38 (by decide) ?_
        refine lv_irem hx hb dX5_partsAreSteps_40 (by decide) ?_
        refine lv_topi (fun yv4 e_yv4 => ?_)
        have h := z_nma e_yv4 h
        refine lv_istore (lv' := [(5, .int yv4), (4, .int yv3), (3, .int yv2), (0, .ref (ad 0)), (1, .int yx1), (2, .int yv1)]) hx hb dX5_partsAreSteps_41 hl (by decide) rfl (fun ls hl => ?_)
        refine lv_iload_n hx hb dX5_partsAreSteps_43 rfl (lv_at hl 2 rfl) ?_
        refine lv_iconst (v := (1 : Int32)) hx hb dX5_partsAreSteps_44 (by decide) ?_
        refine lv_icmp_gt (tgt := 61) hx hb dX5_partsAreSteps_45 (by decide) (fun yc45 => ?_) (fun yc45 => ?_)
        · have h := z_ifp yc45 h
          exact hE61  _ _ _ (hq2 _ (z_sm h).symm) hP hS (lv_sub hl [] rfl)
        · have h := z_ifn yc45 h
          refine lv_iload hx hb dX5_partsAreSteps_48 (lv_at hl 1 rfl) ?_
          refine lv_iconst (v := (5 : Int32)) hx hb dX5_partsAreSteps_50 (by decide) ?_
          refine lv_icmp_gt (tgt := 61) hx hb dX5_partsAreSteps_51 (by decide) (fun yc51 => ?_) (fun yc51 => ?_)
          · have h := z_ifp yc51 h
            exact hE61  _ _ _ (hq2 _ (z_sm h).symm) hP hS (lv_sub hl [] rfl)
          · have h := z_ifn yc51 h
            refine lv_iload hx hb dX5_partsAreSteps_54 (lv_at hl 0 rfl) ?_
            refine lv_bipush (v := (16 : Int32)) hx hb dX5_partsAreSteps_56 (by decide) ?_
            refine lv_icmp_lt (tgt := 63) hx hb dX5_partsAreSteps_58 (by decide) (fun yc58 => ?_) (fun yc58 => ?_)
            · have h := z_ifp yc58 h
              obtain ⟨yv5, e_yv5, h⟩ := z_nmx h
              refine lv_iinc (v := yv5) (lv' := [(2, .int yv5), (5, .int yv4), (4, .int yv3), (3, .int yv2), (0, .ref (ad 0)), (1, .int yx1)]) hx hb dX5_partsAreSteps_63 hl (k := 5) rfl (by rw [e_yv5]; rfl) (by decide) rfl (fun ls hl => ?_)
              refine lv_goto (tgt := 2) hx hb dX5_partsAreSteps_66 (by decide) ?_
              exact ih _ _ _ _ (hq1 _ (z_sm h).symm) hP hS (lv_sub hl [4, 5, 0] rfl)
            · have h := z_ifn yc58 h
              exact hE61  _ _ _ (hq2 _ (z_sm h).symm) hP hS (lv_sub hl [] rfl)
  exact hL2 yn2 _ _ _ _ hlp hP hS (lv_sub hl [1, 2, 0] rfl)
