noncomputable def fX4_begin (yd : Dt) : Option (Dt) :=
  z_nm (z_st yd 65 2 (0 : Int32)) fun yd1 => z_nm (z_st yd1 65 1 (0 : Int32)) fun yd2 => some yd2
set_option maxHeartbeats 4000000 in
set_option maxRecDepth 100000 in
theorem kX4_begin {l : Launch} {D : va_G} {G : z_G} {ad : Nat → Nat} {A : Nat → Prop} (hI : ∀ d, va_D A (WC G ad d)) {yd : Dt}   {dd : Dt} (h : fX4_begin yd = some dd) : z_Mv l D G A (WC G ad) yX4_begin cX4_begin 1 (z_rm 0 0) yd [.ref (ad 65)] dd := by
  refine z_ofv (by decide) (Nat.le_of_ble_eq_true rfl) fun p e s m args below meth c Q hx hb hml hown hts hK hP hRet ls hl => ?_
  have hS : va_S A s.heap s.heap [] := va_S.rf
  have hl : lv_has ls 1 [(0, .ref (ad 65))] := hl
  have h : (z_nm (z_st yd 65 2 (0 : Int32)) fun yd1 => z_nm (z_st yd1 65 1 (0 : Int32)) fun yd2 => some yd2) = some dd := h
  refine lv_aload_n hx hb dX4_begin_0 rfl (lv_at hl 0 rfl) ?_
  refine lv_iconst (v := (0 : Int32)) hx hb dX4_begin_1 (by decide) ?_
  refine pt_X4_2 hx hb hts hown hK hP hI hS (hts _ wl_1_167) dX4_begin_2 (fun H locs yd1 e_yd1 hP hS => ?_)
  have h := z_nma e_yd1 h
  refine lv_aload_n hx hb dX4_begin_5 rfl (lv_at hl 0 rfl) ?_
  refine lv_iconst (v := (0 : Int32)) hx hb dX4_begin_6 (by decide) ?_
  refine pt_X4_1 hx hb hts hown hK hP hI hS (hts _ wl_1_166) dX4_begin_7 (fun H locs yd2 e_yd2 hP hS => ?_)
  have h := z_nma e_yd2 h
  exact hRet _ _ _ _ _ hP hS h dX4_begin_10
noncomputable def fX4_mayEnd (yd : Dt) : Option Int32 :=
  zif ((yd.1 65 2) = (1 : Int32)) (some (1 : Int32)) (zif ((yd.1 65 2) = (2 : Int32)) (some (1 : Int32)) (some (0 : Int32)))
set_option maxHeartbeats 4000000 in
set_option maxRecDepth 100000 in
theorem kX4_mayEnd {l : Launch} {D : va_G} {G : z_G} {ad : Nat → Nat} {A : Nat → Prop} (hI : ∀ d, va_D A (WC G ad d)) {yd : Dt}   {rr : Int32} (h : fX4_mayEnd yd = some rr) : z_Mz l D G A (WC G ad) yX4_mayEnd cX4_mayEnd 1 (z_rm 0 0) yd [.ref (ad 65)] rr yd := by
  refine z_ofz (by decide) (Nat.le_of_ble_eq_true rfl) fun p e s m args below meth c Q hx hb hml hown hts hK hP hRet ls hl => ?_
  have hS : va_S A s.heap s.heap [] := va_S.rf
  have hl : lv_has ls 1 [(0, .ref (ad 65))] := hl
  have h : (zif ((yd.1 65 2) = (1 : Int32)) (some (1 : Int32)) (zif ((yd.1 65 2) = (2 : Int32)) (some (1 : Int32)) (some (0 : Int32)))) = some rr := h
  refine lv_aload_n hx hb dX4_mayEnd_0 rfl (lv_at hl 0 rfl) ?_
  refine gt_X4_2 hx hb hts hown hK hP (hts _ wl_1_167) dX4_mayEnd_1 ?_
  refine lv_iconst (v := (1 : Int32)) hx hb dX4_mayEnd_4 (by decide) ?_
  refine lv_icmp_eq (tgt := 16) hx hb dX4_mayEnd_5 (by decide) (fun yc5 => ?_) (fun yc5 => ?_)
  · have h := z_ifp yc5 h
    refine lv_iconst (v := (1 : Int32)) hx hb dX4_mayEnd_16 (by decide) ?_
    refine lv_goto (tgt := 21) hx hb dX4_mayEnd_17 (by decide) ?_
    exact hRet _ _ _ _ _ _ hP hS (Or.inr rfl) (z_pair h) dX4_mayEnd_21
  · have h := z_ifn yc5 h
    refine lv_aload_n hx hb dX4_mayEnd_8 rfl (lv_at hl 0 rfl) ?_
    refine gt_X4_2 hx hb hts hown hK hP (hts _ wl_1_167) dX4_mayEnd_9 ?_
    refine lv_iconst (v := (2 : Int32)) hx hb dX4_mayEnd_12 (by decide) ?_
    refine lv_icmp_ne (tgt := 20) hx hb dX4_mayEnd_13 (by decide) (fun yc13 => ?_) (fun yc13 => ?_)
    · have h := z_ifn yc13 h
      refine lv_iconst (v := (0 : Int32)) hx hb dX4_mayEnd_20 (by decide) ?_
      exact hRet _ _ _ _ _ _ hP hS (Or.inl rfl) (z_pair h) dX4_mayEnd_21
    · have h := z_ifp yc13 h
      refine lv_iconst (v := (1 : Int32)) hx hb dX4_mayEnd_16 (by decide) ?_
      refine lv_goto (tgt := 21) hx hb dX4_mayEnd_17 (by decide) ?_
      exact hRet _ _ _ _ _ _ hP hS (Or.inr rfl) (z_pair h) dX4_mayEnd_21
noncomputable def fX4_goesOn (yd : Dt) (yx1 : Int32) (yx2 : Int32) : Option (Int32 × Dt) :=
  zif (yx1 = 0) (some (yx1, yd)) (z_nm (z_st yd 65 2 yx2) fun yd1 => some (yx1, yd1))
set_option maxHeartbeats 4000000 in
set_option maxRecDepth 100000 in
theorem kX4_goesOn {l : Launch} {D : va_G} {G : z_G} {ad : Nat → Nat} {A : Nat → Prop} (hI : ∀ d, va_D A (WC G ad d)) {yd : Dt} {yx1 : Int32} {yx2 : Int32} (z_yx1 : yx1 = 0 ∨ yx1 = 1) {rr : Int32} {dd : Dt} (h : fX4_goesOn yd yx1 yx2 = some (rr, dd)) : z_Mz l D G A (WC G ad) yX4_goesOn cX4_goesOn 3 (z_rm 0 0) yd [.ref (ad 65), .int yx1, .int yx2] rr dd := by
  refine z_ofz (by decide) (Nat.le_of_ble_eq_true rfl) fun p e s m args below meth c Q hx hb hml hown hts hK hP hRet ls hl => ?_
  have hS : va_S A s.heap s.heap [] := va_S.rf
  have hl : lv_has ls 3 [(0, .ref (ad 65)), (1, .int yx1), (2, .int yx2)] := hl
  have h : (zif (yx1 = 0) (some (yx1, yd)) (z_nm (z_st yd 65 2 yx2) fun yd1 => some (yx1, yd1))) = some (rr, dd) := h
  refine lv_iload_n hx hb dX4_goesOn_0 rfl (lv_at hl 1 rfl) ?_
  refine lv_if_eq (tgt := 9) hx hb dX4_goesOn_1 (by decide) (fun yc1 => ?_) (fun yc1 => ?_)
  · have h := z_ifp yc1 h
    refine lv_iload_n hx hb dX4_goesOn_9 rfl (lv_at hl 1 rfl) ?_
    exact hRet _ _ _ _ _ _ hP hS z_yx1 h dX4_goesOn_10
  · have h := z_ifn yc1 h
    refine lv_aload_n hx hb dX4_goesOn_4 rfl (lv_at hl 0 rfl) ?_
    refine lv_iload_n hx hb dX4_goesOn_5 rfl (lv_at hl 2 rfl) ?_
    refine pt_X4_2 hx hb hts hown hK hP hI hS (hts _ wl_1_167) dX4_goesOn_6 (fun H locs yd1 e_yd1 hP hS => ?_)
    have h := z_nma e_yd1 h
    refine lv_iload_n hx hb dX4_goesOn_9 rfl (lv_at hl 1 rfl) ?_
    exact hRet _ _ _ _ _ _ hP hS z_yx1 h dX4_goesOn_10
noncomputable def fX4_beginsPath (yd : Dt) (ya1 : Nat) : Option (Int32 × Dt) :=
  z_nm (z_st yd 65 1 (0 : Int32)) fun yd1 => z_nm (zif ((5 : Int32) ≤ (yd1.1 ya1 2)) (0 : Int32) (1 : Int32)) fun yv2 => z_bd (fX4_goesOn yd1 yv2 (3 : Int32)) fun yr3 yd4 => some (yr3, yd4)
set_option maxHeartbeats 4000000 in
set_option maxRecDepth 100000 in
theorem kX4_beginsPath {l : Launch} {D : va_G} {G : z_G} {ad : Nat → Nat} {A : Nat → Prop} (hI : ∀ d, va_D A (WC G ad d)) {yd : Dt} {ya1 : Nat} (yh1 : isSt ya1) {rr : Int32} {dd : Dt} (h : fX4_beginsPath yd ya1 = some (rr, dd)) : z_Mz l D G A (WC G ad) yX4_beginsPath cX4_beginsPath 2 (z_rm 1 22) yd [.ref (ad 65), .ref (ad ya1)] rr dd := by
  refine z_ofz (by decide) (Nat.le_of_ble_eq_true rfl) fun p e s m args below meth c Q hx hb hml hown hts hK hP hRet ls hl => ?_
  have hS : va_S A s.heap s.heap [] := va_S.rf
  have hl : lv_has ls 2 [(0, .ref (ad 65)), (1, .ref (ad ya1))] := hl
  have h : (z_nm (z_st yd 65 1 (0 : Int32)) fun yd1 => z_nm (zif ((5 : Int32) ≤ (yd1.1 ya1 2)) (0 : Int32) (1 : Int32)) fun yv2 => z_bd (fX4_goesOn yd1 yv2 (3 : Int32)) fun yr3 yd4 => some (yr3, yd4)) = some (rr, dd) := h
  refine lv_aload_n hx hb dX4_beginsPath_0 rfl (lv_at hl 0 rfl) ?_
  refine lv_iconst (v := (0 : Int32)) hx hb dX4_beginsPath_1 (by decide) ?_
  refine pt_X4_1 hx hb hts hown hK hP hI hS (hts _ wl_1_166) dX4_beginsPath_2 (fun H locs yd1 e_yd1 hP hS => ?_)
  have h := z_nma e_yd1 h
  refine lv_aload_n hx hb dX4_beginsPath_5 rfl (lv_at hl 0 rfl) ?_
  refine lv_aload_n hx hb dX4_beginsPath_6 rfl (lv_at hl 1 rfl) ?_
  refine gt_X3_2 hx hb hts hown hK hP yh1 (hts _ wl_1_119) dX4_beginsPath_7 ?_
  refine lv_iconst (v := (5 : Int32)) hx hb dX4_beginsPath_10 (by decide) ?_
  have hM19 : ∀ (yv2 : Int32) (H : Heap) (locs : List Loc), yv2 = (zif ((5 : Int32) ≤ (yd1.1 ya1 2)) (0 : Int32) (1 : Int32)) → va_P D vwCl (WC G ad yd1) H → va_S A s.heap H locs → W p l e (z_rm 1 22) s m args below meth c H locs 0 0 Q (F0 m 19 ls [.int yv2, .ref (ad 65)]) := by
    intro yv2 H locs e_yv2 hP hS
    have h := z_nma e_yv2 h
    refine lv_iconst (v := (3 : Int32)) hx hb dX4_beginsPath_19 (by decide) ?_
    obtain ⟨yr3, yd4, yhc20, h⟩ := z_bdx h
    refine z_kz (z_rV (As := [.int yv2, .int (3 : Int32)]) (rest := []) ⟨hx, hb, hml, hown, hts⟩ hK hP w_X4 rfl (kX4_goesOn hI (z_be e_yv2 (z_b2 (Or.inl rfl) (Or.inr rfl))) yhc20) giX4_22 ⟨rfl, rfl⟩ ndX4_goesOn ⟨Nat.le_of_ble_eq_true rfl, Nat.le_of_ble_eq_true rfl⟩ rfl hl.1 rfl (Nat.le_of_ble_eq_true rfl) ⟨Nat.le_refl _, Nat.le_refl _⟩ dX4_beginsPath_20) hS (fun H locs z_yr3 hP hS => ?_)
    exact hRet _ _ _ _ _ _ hP hS z_yr3 h dX4_beginsPath_23
  refine lv_icmp_ge (tgt := 18) hx hb dX4_beginsPath_11 (by decide) (fun yc11 => ?_) (fun yc11 => ?_)
  · refine lv_iconst (v := (0 : Int32)) hx hb dX4_beginsPath_18 (by decide) ?_
    exact hM19 _ _ _ (z_tp yc11 rfl) hP hS
  · refine lv_iconst (v := (1 : Int32)) hx hb dX4_beginsPath_14 (by decide) ?_
    refine lv_goto (tgt := 19) hx hb dX4_beginsPath_15 (by decide) ?_
    exact hM19 _ _ _ (z_tn yc11 rfl) hP hS
noncomputable def fX4_figureOf (yx0 : Int32) : Option Int32 :=
  zif (yx0 < (48 : Int32)) (some (-9 : Int32)) (zif ((57 : Int32) < yx0) (some (-9 : Int32)) (some (yx0 - (48 : Int32))))
set_option maxHeartbeats 4000000 in
set_option maxRecDepth 100000 in
theorem kX4_figureOf {l : Launch} {D : va_G} {G : z_G} {A : Nat → Prop} {w : Dt → va_W} {yd : Dt} {yx0 : Int32}  {rr : Int32} (h : fX4_figureOf yx0 = some rr) : z_Mi l D G A (w) yX4_figureOf cX4_figureOf 1 (z_rm 0 0) yd [.int yx0] rr yd := by
  refine z_ofi (by decide) (Nat.le_of_ble_eq_true rfl) fun p e s m args below meth c Q hx hb hml hown hts hK hP hRet ls hl => ?_
  have hS : va_S A s.heap s.heap [] := va_S.rf
  have hl : lv_has ls 1 [(0, .int yx0)] := hl
  have h : (zif (yx0 < (48 : Int32)) (some (-9 : Int32)) (zif ((57 : Int32) < yx0) (some (-9 : Int32)) (some (yx0 - (48 : Int32))))) = some rr := h
  refine lv_iload_n hx hb dX4_figureOf_0 rfl (lv_at hl 0 rfl) ?_
  refine lv_bipush (v := (48 : Int32)) hx hb dX4_figureOf_1 (by decide) ?_
  refine lv_icmp_lt (tgt := 19) hx hb dX4_figureOf_3 (by decide) (fun yc3 => ?_) (fun yc3 => ?_)
  · have h := z_ifp yc3 h
    refine lv_bipush (v := (-9 : Int32)) hx hb dX4_figureOf_19 (by decide) ?_
    exact hRet _ _ _ _ _ _ hP hS (z_pair h) dX4_figureOf_21
  · have h := z_ifn yc3 h
    refine lv_iload_n hx hb dX4_figureOf_6 rfl (lv_at hl 0 rfl) ?_
    refine lv_bipush (v := (57 : Int32)) hx hb dX4_figureOf_7 (by decide) ?_
    refine lv_icmp_gt (tgt := 19) hx hb dX4_figureOf_9 (by decide) (fun yc9 => ?_) (fun yc9 => ?_)
    · have h := z_ifp yc9 h
      refine lv_bipush (v := (-9 : Int32)) hx hb dX4_figureOf_19 (by decide) ?_
      exact hRet _ _ _ _ _ _ hP hS (z_pair h) dX4_figureOf_21
    · have h := z_ifn yc9 h
      refine lv_iload_n hx hb dX4_figureOf_12 rfl (lv_at hl 0 rfl) ?_
      refine lv_bipush (v := (48 : Int32)) hx hb dX4_figureOf_13 (by decide) ?_
      refine lv_isub hx hb dX4_figureOf_15 ?_
      refine lv_goto (tgt := 21) hx hb dX4_figureOf_16 (by decide) ?_
      exact hRet _ _ _ _ _ _ hP hS (z_pair h) dX4_figureOf_21
noncomputable def fX4_takesEvent (yd : Dt) (yx1 : Int32) (ya2 : Nat) : Option (Int32 × Dt) :=
  zif (yx1 = (40 : Int32)) (z_br (fX0_openRefusal yd ya2) fun yr10 => z_nm (zif (yr10 = (-9 : Int32)) (1 : Int32) (0 : Int32)) fun yv11 => z_bd (fX4_goesOn yd yv11 (10 : Int32)) fun yr12 yd13 => some (yr12, yd13)) (zif (yx1 = (41 : Int32)) (z_bd (fX0_leave yd ya2) fun yr6 yd7 => z_bd (fX4_goesOn yd7 yr6 (2 : Int32)) fun yr8 yd9 => some (yr8, yd9)) (z_br (fX4_figureOf yx1) fun yr1 => z_bd (fX0_hold yd ya2 yr1) fun yr2 yd3 => z_bd (fX4_goesOn yd3 yr2 (2 : Int32)) fun yr4 yd5 => some (yr4, yd5)))
set_option maxHeartbeats 4000000 in
set_option maxRecDepth 100000 in
theorem kX4_takesEvent {l : Launch} {D : va_G} {G : z_G} {ad : Nat → Nat} {A : Nat → Prop} (hI : ∀ d, va_D A (WC G ad d)) {yd : Dt} {yx1 : Int32} {ya2 : Nat} (yh2 : isEl ya2) {rr : Int32} {dd : Dt} (h : fX4_takesEvent yd yx1 ya2 = some (rr, dd)) : z_Mz l D G A (WC G ad) yX4_takesEvent cX4_takesEvent 3 (z_rm 2 41) yd [.ref (ad 65), .int yx1, .ref (ad ya2)] rr dd := by
  refine z_ofz (by decide) (Nat.le_of_ble_eq_true rfl) fun p e s m args below meth c Q hx hb hml hown hts hK hP hRet ls hl => ?_
  have hS : va_S A s.heap s.heap [] := va_S.rf
  have hl : lv_has ls 3 [(0, .ref (ad 65)), (1, .int yx1), (2, .ref (ad ya2))] := hl
  have h : (zif (yx1 = (40 : Int32)) (z_br (fX0_openRefusal yd ya2) fun yr10 => z_nm (zif (yr10 = (-9 : Int32)) (1 : Int32) (0 : Int32)) fun yv11 => z_bd (fX4_goesOn yd yv11 (10 : Int32)) fun yr12 yd13 => some (yr12, yd13)) (zif (yx1 = (41 : Int32)) (z_bd (fX0_leave yd ya2) fun yr6 yd7 => z_bd (fX4_goesOn yd7 yr6 (2 : Int32)) fun yr8 yd9 => some (yr8, yd9)) (z_br (fX4_figureOf yx1) fun yr1 => z_bd (fX0_hold yd ya2 yr1) fun yr2 yd3 => z_bd (fX4_goesOn yd3 yr2 (2 : Int32)) fun yr4 yd5 => some (yr4, yd5)))) = some (rr, dd) := h
  refine lv_iload_n hx hb dX4_takesEvent_0 rfl (lv_at hl 1 rfl) ?_
  refine lv_bipush (v := (40 : Int32)) hx hb dX4_takesEvent_1 (by decide) ?_
  refine lv_icmp_ne (tgt := 27) hx hb dX4_takesEvent_3 (by decide) (fun yc3 => ?_) (fun yc3 => ?_)
  · have h := z_ifn yc3 h
    refine lv_iload_n hx hb dX4_takesEvent_27 rfl (lv_at hl 1 rfl) ?_
    refine lv_bipush (v := (41 : Int32)) hx hb dX4_takesEvent_28 (by decide) ?_
    refine lv_icmp_ne (tgt := 43) hx hb dX4_takesEvent_30 (by decide) (fun yc30 => ?_) (fun yc30 => ?_)
    · have h := z_ifn yc30 h
      refine lv_aload_n hx hb dX4_takesEvent_43 rfl (lv_at hl 0 rfl) ?_
      refine lv_aload_n hx hb dX4_takesEvent_44 rfl (lv_at hl 2 rfl) ?_
      refine lv_iload_n hx hb dX4_takesEvent_45 rfl (lv_at hl 1 rfl) ?_
      obtain ⟨yr1, yhc46, h⟩ := z_brx h
      refine z_ki (z_rS (As := [.int yx1]) (rest := [.ref (ad ya2), .ref (ad 65)]) ⟨hx, hb, hml, hown, hts⟩ hK hP (kX4_figureOf yhc46) giX4_78 ⟨rfl, rfl⟩ ndX4_figureOf ⟨Nat.le_of_ble_eq_true rfl, Nat.le_of_ble_eq_true rfl⟩ rfl hl.1 rfl (Nat.le_of_ble_eq_true rfl) ⟨Nat.le_refl _, Nat.le_refl _⟩ dX4_takesEvent_46) hS (fun H locs hP hS => ?_)
      obtain ⟨yr2, yd3, yhc49, h⟩ := z_bdx h
      refine z_kz (z_rV (As := [.int yr1]) (rest := [.ref (ad 65)]) ⟨hx, hb, hml, hown, hts⟩ hK hP (w_X0 yh2) rfl (kX0_hold hI yh2 yhc49) giX4_81 ⟨rfl, rfl⟩ ndX0_hold ⟨Nat.le_of_ble_eq_true rfl, Nat.le_of_ble_eq_true rfl⟩ rfl hl.1 rfl (Nat.le_of_ble_eq_true rfl) ⟨Nat.le_refl _, Nat.le_refl _⟩ dX4_takesEvent_49) hS (fun H locs z_yr2 hP hS => ?_)
      refine lv_iconst (v := (2 : Int32)) hx hb dX4_takesEvent_52 (by decide) ?_
      obtain ⟨yr4, yd5, yhc53, h⟩ := z_bdx h
      refine z_kz (z_rV (As := [.int yr2, .int (2 : Int32)]) (rest := []) ⟨hx, hb, hml, hown, hts⟩ hK hP w_X4 rfl (kX4_goesOn hI z_yr2 yhc53) giX4_22 ⟨rfl, rfl⟩ ndX4_goesOn ⟨Nat.le_of_ble_eq_true rfl, Nat.le_of_ble_eq_true rfl⟩ rfl hl.1 rfl (Nat.le_of_ble_eq_true rfl) ⟨Nat.le_refl _, Nat.le_refl _⟩ dX4_takesEvent_53) hS (fun H locs z_yr4 hP hS => ?_)
      exact hRet _ _ _ _ _ _ hP hS z_yr4 h dX4_takesEvent_56
    · have h := z_ifp yc30 h
      refine lv_aload_n hx hb dX4_takesEvent_33 rfl (lv_at hl 0 rfl) ?_
      refine lv_aload_n hx hb dX4_takesEvent_34 rfl (lv_at hl 2 rfl) ?_
      obtain ⟨yr6, yd7, yhc35, h⟩ := z_bdx h
      refine z_kz (z_rV (As := []) (rest := [.ref (ad 65)]) ⟨hx, hb, hml, hown, hts⟩ hK hP (w_X0 yh2) rfl (kX0_leave hI yh2 yhc35) giX4_74 ⟨rfl, rfl⟩ ndX0_leave ⟨Nat.le_of_ble_eq_true rfl, Nat.le_of_ble_eq_true rfl⟩ rfl hl.1 rfl (Nat.le_of_ble_eq_true rfl) ⟨Nat.le_refl _, Nat.le_refl _⟩ dX4_takesEvent_35) hS (fun H locs z_yr6 hP hS => ?_)
      refine lv_iconst (v := (2 : Int32)) hx hb dX4_takesEvent_38 (by decide) ?_
      obtain ⟨yr8, yd9, yhc39, h⟩ := z_bdx h
      refine z_kz (z_rV (As := [.int yr6, .int (2 : Int32)]) (rest := []) ⟨hx, hb, hml, hown, hts⟩ hK hP w_X4 rfl (kX4_goesOn hI z_yr6 yhc39) giX4_22 ⟨rfl, rfl⟩ ndX4_goesOn ⟨Nat.le_of_ble_eq_true rfl, Nat.le_of_ble_eq_true rfl⟩ rfl hl.1 rfl (Nat.le_of_ble_eq_true rfl) ⟨Nat.le_refl _, Nat.le_refl _⟩ dX4_takesEvent_39) hS (fun H locs z_yr8 hP hS => ?_)
      exact hRet _ _ _ _ _ _ hP hS z_yr8 h dX4_takesEvent_42
  · have h := z_ifp yc3 h
    refine lv_aload_n hx hb dX4_takesEvent_6 rfl (lv_at hl 0 rfl) ?_
    refine lv_aload_n hx hb dX4_takesEvent_7 rfl (lv_at hl 2 rfl) ?_
    obtain ⟨yr10, yhc8, h⟩ := z_brx h
    refine z_ki (z_rV (As := []) (rest := [.ref (ad 65)]) ⟨hx, hb, hml, hown, hts⟩ hK hP (w_X0 yh2) rfl (kX0_openRefusal hI yh2 yhc8) giX4_70 ⟨rfl, rfl⟩ ndX0_openRefusal ⟨Nat.le_of_ble_eq_true rfl, Nat.le_of_ble_eq_true rfl⟩ rfl hl.1 rfl (Nat.le_of_ble_eq_true rfl) ⟨Nat.le_refl _, Nat.le_refl _⟩ dX4_takesEvent_8) hS (fun H locs hP hS => ?_)
    refine lv_bipush (v := (-9 : Int32)) hx hb dX4_takesEvent_11 (by decide) ?_
    have hM21 : ∀ (yv11 : Int32) (H : Heap) (locs : List Loc), yv11 = (zif (yr10 = (-9 : Int32)) (1 : Int32) (0 : Int32)) → va_P D vwCl (WC G ad yd) H → va_S A s.heap H locs → W p l e (z_rm 2 41) s m args below meth c H locs 0 0 Q (F0 m 21 ls [.int yv11, .ref (ad 65)]) := by
      intro yv11 H locs e_yv11 hP hS
      have h := z_nma e_yv11 h
      refine lv_bipush (v := (10 : Int32)) hx hb dX4_takesEvent_21 (by decide) ?_
      obtain ⟨yr12, yd13, yhc23, h⟩ := z_bdx h
      refine z_kz (z_rV (As := [.int yv11, .int (10 : Int32)]) (rest := []) ⟨hx, hb, hml, hown, hts⟩ hK hP w_X4 rfl (kX4_goesOn hI (z_be e_yv11 (z_b2 (Or.inr rfl) (Or.inl rfl))) yhc23) giX4_22 ⟨rfl, rfl⟩ ndX4_goesOn ⟨Nat.le_of_ble_eq_true rfl, Nat.le_of_ble_eq_true rfl⟩ rfl hl.1 rfl (Nat.le_of_ble_eq_true rfl) ⟨Nat.le_refl _, Nat.le_refl _⟩ dX4_takesEvent_23) hS (fun H locs z_yr12 hP hS => ?_)
      exact hRet _ _ _ _ _ _ hP hS z_yr12 h dX4_takesEvent_26
    refine lv_icmp_ne (tgt := 20) hx hb dX4_takesEvent_13 (by decide) (fun yc13 => ?_) (fun yc13 => ?_)
    · refine lv_iconst (v := (0 : Int32)) hx hb dX4_takesEvent_20 (by decide) ?_
      exact hM21 _ _ _ (z_tn yc13 rfl) hP hS
    · refine lv_iconst (v := (1 : Int32)) hx hb dX4_takesEvent_16 (by decide) ?_
      refine lv_goto (tgt := 21) hx hb dX4_takesEvent_17 (by decide) ?_
      exact hM21 _ _ _ (z_tp yc13 rfl) hP hS
noncomputable def jX4_takesAxis_17 (yd : Dt) (yx1 : Int32) (yv1 : Int32) : Option (Int32 × Dt) :=
  zif (yv1 = 0) (some ((0 : Int32), yd)) (zif ((yd.1 65 1) < (4 : Int32)) (z_nm (zif (yx1 = (33 : Int32)) (1000 : Int32) (0 : Int32)) fun yv2 => z_gd (z_in (yd.1 65 1) 4) (z_nm (z_st yd 66 (z_ix (yd.1 65 1)) yv2) fun yd3 => z_nm (z_st yd3 65 1 ((yd3.1 65 1) + (1 : Int32))) fun yd4 => z_bd (fX4_goesOn yd4 (1 : Int32) (4 : Int32)) fun yr5 yd6 => some (yr5, yd6))) (some ((0 : Int32), yd)))
noncomputable def jX4_takesAxis_12 (yd : Dt) (yx1 : Int32) : Option (Int32 × Dt) :=
  jX4_takesAxis_17 yd yx1 (1 : Int32)
noncomputable def fX4_takesAxis (yd : Dt) (yx1 : Int32) : Option (Int32 × Dt) :=
  zif (yx1 = (47 : Int32)) (jX4_takesAxis_12 yd yx1) (zif (yx1 = (33 : Int32)) (jX4_takesAxis_12 yd yx1) (jX4_takesAxis_17 yd yx1 (0 : Int32)))
set_option maxHeartbeats 4000000 in
set_option maxRecDepth 100000 in
theorem kX4_takesAxis {l : Launch} {D : va_G} {G : z_G} {ad : Nat → Nat} {A : Nat → Prop} (hI : ∀ d, va_D A (WC G ad d)) {yd : Dt} {yx1 : Int32}  {rr : Int32} {dd : Dt} (h : fX4_takesAxis yd yx1 = some (rr, dd)) : z_Mz l D G A (WC G ad) yX4_takesAxis cX4_takesAxis 3 (z_rm 1 22) yd [.ref (ad 65), .int yx1] rr dd := by
  refine z_ofz (by decide) (Nat.le_of_ble_eq_true rfl) fun p e s m args below meth c Q hx hb hml hown hts hK hP hRet ls hl => ?_
  have hS : va_S A s.heap s.heap [] := va_S.rf
  have hl : lv_has ls 3 [(0, .ref (ad 65)), (1, .int yx1)] := hl
  have h : (zif (yx1 = (47 : Int32)) (jX4_takesAxis_12 yd yx1) (zif (yx1 = (33 : Int32)) (jX4_takesAxis_12 yd yx1) (jX4_takesAxis_17 yd yx1 (0 : Int32)))) = some (rr, dd) := h
  refine lv_iload_n hx hb dX4_takesAxis_0 rfl (lv_at hl 1 rfl) ?_
  refine lv_bipush (v := (47 : Int32)) hx hb dX4_takesAxis_1 (by decide) ?_
  have hJ17 : ∀ (yv1 : Int32) (H : Heap) (locs : List Loc) (ls : Array Slot), jX4_takesAxis_17 yd yx1 yv1 = some (rr, dd) → va_P D vwCl (WC G ad yd) H → va_S A s.heap H locs → lv_has ls 3 [(0, .ref (ad 65)), (1, .int yx1)] → W p l e (z_rm 1 22) s m args below meth c H locs 0 0 Q (F0 m 17 ls [.int yv1]) := by
    intro yv1 H locs ls h hP hS hl
    have h : (zif (yv1 = 0) (some ((0 : Int32), yd)) (zif ((yd.1 65 1) < (4 : Int32)) (z_nm (zif (yx1 = (33 : Int32)) (1000 : Int32) (0 : Int32)) fun yv2 => z_gd (z_in (yd.1 65 1) 4) (z_nm (z_st yd 66 (z_ix (yd.1 65 1)) yv2) fun yd3 => z_nm (z_st yd3 65 1 ((yd3.1 65 1) + (1 : Int32))) fun yd4 => z_bd (fX4_goesOn yd4 (1 : Int32) (4 : Int32)) fun yr5 yd6 => some (yr5, yd6))) (some ((0 : Int32), yd)))) = some (rr, dd) := h
    refine lv_istore_n (lv' := [(2, .int yv1), (0, .ref (ad 65)), (1, .int yx1)]) hx hb dX4_takesAxis_17 rfl hl (by decide) rfl (fun ls hl => ?_)
    refine lv_iload_n hx hb dX4_takesAxis_18 rfl (lv_at hl 0 rfl) ?_
    refine lv_if_eq (tgt := 30) hx hb dX4_takesAxis_19 (by decide) (fun yc19 => ?_) (fun yc19 => ?_)
    · have h := z_ifp yc19 h
      refine lv_iconst (v := (0 : Int32)) hx hb dX4_takesAxis_30 (by decide) ?_
      exact hRet _ _ _ _ _ _ hP hS (Or.inl rfl) h dX4_takesAxis_31
    · have h := z_ifn yc19 h
      refine lv_aload_n hx hb dX4_takesAxis_22 rfl (lv_at hl 1 rfl) ?_
      refine gt_X4_1 hx hb hts hown hK hP (hts _ wl_1_166) dX4_takesAxis_23 ?_
      refine lv_iconst (v := (4 : Int32)) hx hb dX4_takesAxis_26 (by decide) ?_
      refine lv_icmp_lt (tgt := 32) hx hb dX4_takesAxis_27 (by decide) (fun yc27 => ?_) (fun yc27 => ?_)
      · have h := z_ifp yc27 h
        refine lv_aload_n hx hb dX4_takesAxis_32 rfl (lv_at hl 1 rfl) ?_
        refine gt_X4_0 hx hb hts hown hK hP (hts _ wl_1_165) dX4_takesAxis_33 ?_
        refine lv_aload_n hx hb dX4_takesAxis_36 rfl (lv_at hl 1 rfl) ?_
        refine gt_X4_1 hx hb hts hown hK hP (hts _ wl_1_166) dX4_takesAxis_37 ?_
        refine lv_iload_n hx hb dX4_takesAxis_40 rfl (lv_at hl 2 rfl) ?_
        refine lv_bipush (v := (33 : Int32)) hx hb dX4_takesAxis_41 (by decide) ?_
        have hM53 : ∀ (yv2 : Int32) (H : Heap) (locs : List Loc), yv2 = (zif (yx1 = (33 : Int32)) (1000 : Int32) (0 : Int32)) → va_P D vwCl (WC G ad yd) H → va_S A s.heap H locs → W p l e (z_rm 1 22) s m args below meth c H locs 0 0 Q (F0 m 53 ls [.int yv2, .int (yd.1 65 1), .ref (ad 66)]) := by
          intro yv2 H locs e_yv2 hP hS
          have h := z_nma e_yv2 h
          obtain ⟨yg53, h⟩ := z_gi h
          refine as_C hx hb hK hP hI hS rfl (by decide) yg53 dX4_takesAxis_53 (fun H locs yd3 e_yd3 hP hS => ?_)
          have h := z_nma e_yd3 h
          refine lv_aload_n hx hb dX4_takesAxis_54 rfl (lv_at hl 1 rfl) ?_
          refine lv_dup hx hb dX4_takesAxis_55 rfl ?_
          refine gt_X4_1 hx hb hts hown hK hP (hts _ wl_1_166) dX4_takesAxis_56 ?_
          refine lv_iconst (v := (1 : Int32)) hx hb dX4_takesAxis_59 (by decide) ?_
          refine lv_iadd hx hb dX4_takesAxis_60 ?_
          refine pt_X4_1 hx hb hts hown hK hP hI hS (hts _ wl_1_166) dX4_takesAxis_61 (fun H locs yd4 e_yd4 hP hS => ?_)
          have h := z_nma e_yd4 h
          refine lv_aload_n hx hb dX4_takesAxis_64 rfl (lv_at hl 1 rfl) ?_
          refine lv_iconst (v := (1 : Int32)) hx hb dX4_takesAxis_65 (by decide) ?_
          refine lv_iconst (v := (4 : Int32)) hx hb dX4_takesAxis_66 (by decide) ?_
          obtain ⟨yr5, yd6, yhc67, h⟩ := z_bdx h
          refine z_kz (z_rV (As := [.int (1 : Int32), .int (4 : Int32)]) (rest := []) ⟨hx, hb, hml, hown, hts⟩ hK hP w_X4 rfl (kX4_goesOn hI (Or.inr rfl) yhc67) giX4_22 ⟨rfl, rfl⟩ ndX4_goesOn ⟨Nat.le_of_ble_eq_true rfl, Nat.le_of_ble_eq_true rfl⟩ rfl hl.1 rfl (Nat.le_of_ble_eq_true rfl) ⟨Nat.le_refl _, Nat.le_refl _⟩ dX4_takesAxis_67) hS (fun H locs z_yr5 hP hS => ?_)
          exact hRet _ _ _ _ _ _ hP hS z_yr5 h dX4_takesAxis_70
        refine lv_icmp_ne (tgt := 52) hx hb dX4_takesAxis_43 (by decide) (fun yc43 => ?_) (fun yc43 => ?_)
        · refine lv_iconst (v := (0 : Int32)) hx hb dX4_takesAxis_52 (by decide) ?_
          exact hM53 _ _ _ (z_tn yc43 rfl) hP hS
        · refine lv_sipush (v := (1000 : Int32)) hx hb dX4_takesAxis_46 (by decide) ?_
          refine lv_goto (tgt := 53) hx hb dX4_takesAxis_49 (by decide) ?_
          exact hM53 _ _ _ (z_tp yc43 rfl) hP hS
      · have h := z_ifn yc27 h
        refine lv_iconst (v := (0 : Int32)) hx hb dX4_takesAxis_30 (by decide) ?_
        exact hRet _ _ _ _ _ _ hP hS (Or.inl rfl) h dX4_takesAxis_31
  have hJ12 : ∀  (H : Heap) (locs : List Loc) (ls : Array Slot), jX4_takesAxis_12 yd yx1 = some (rr, dd) → va_P D vwCl (WC G ad yd) H → va_S A s.heap H locs → lv_has ls 3 [(0, .ref (ad 65)), (1, .int yx1)] → W p l e (z_rm 1 22) s m args below meth c H locs 0 0 Q (F0 m 12 ls []) := by
    intro  H locs ls h hP hS hl
    have h : (jX4_takesAxis_17 yd yx1 (1 : Int32)) = some (rr, dd) := h
    refine lv_iconst (v := (1 : Int32)) hx hb dX4_takesAxis_12 (by decide) ?_
    refine lv_goto (tgt := 17) hx hb dX4_takesAxis_13 (by decide) ?_
    exact hJ17 _ _ _ _ h hP hS (lv_sub hl [0, 1] rfl)
  refine lv_icmp_eq (tgt := 12) hx hb dX4_takesAxis_3 (by decide) (fun yc3 => ?_) (fun yc3 => ?_)
  · have h := z_ifp yc3 h
    exact hJ12  _ _ _ h hP hS (lv_sub hl [0, 1] rfl)
  · have h := z_ifn yc3 h
    refine lv_iload_n hx hb dX4_takesAxis_6 rfl (lv_at hl 1 rfl) ?_
    refine lv_bipush (v := (33 : Int32)) hx hb dX4_takesAxis_7 (by decide) ?_
    refine lv_icmp_ne (tgt := 16) hx hb dX4_takesAxis_9 (by decide) (fun yc9 => ?_) (fun yc9 => ?_)
    · have h := z_ifn yc9 h
      refine lv_iconst (v := (0 : Int32)) hx hb dX4_takesAxis_16 (by decide) ?_
      exact hJ17 _ _ _ _ h hP hS (lv_sub hl [0, 1] rfl)
    · have h := z_ifp yc9 h
      exact hJ12  _ _ _ h hP hS (lv_sub hl [0, 1] rfl)
noncomputable def fX4_nameOf (yx0 : Int32) : Option Int32 :=
  zif (yx0 < (97 : Int32)) (some (-9 : Int32)) (zif ((101 : Int32) < yx0) (some (-9 : Int32)) (some (yx0 - (97 : Int32))))
set_option maxHeartbeats 4000000 in
set_option maxRecDepth 100000 in
theorem kX4_nameOf {l : Launch} {D : va_G} {G : z_G} {A : Nat → Prop} {w : Dt → va_W} {yd : Dt} {yx0 : Int32}  {rr : Int32} (h : fX4_nameOf yx0 = some rr) : z_Mi l D G A (w) yX4_nameOf cX4_nameOf 1 (z_rm 0 0) yd [.int yx0] rr yd := by
  refine z_ofi (by decide) (Nat.le_of_ble_eq_true rfl) fun p e s m args below meth c Q hx hb hml hown hts hK hP hRet ls hl => ?_
  have hS : va_S A s.heap s.heap [] := va_S.rf
  have hl : lv_has ls 1 [(0, .int yx0)] := hl
  have h : (zif (yx0 < (97 : Int32)) (some (-9 : Int32)) (zif ((101 : Int32) < yx0) (some (-9 : Int32)) (some (yx0 - (97 : Int32))))) = some rr := h
  refine lv_iload_n hx hb dX4_nameOf_0 rfl (lv_at hl 0 rfl) ?_
  refine lv_bipush (v := (97 : Int32)) hx hb dX4_nameOf_1 (by decide) ?_
  refine lv_icmp_lt (tgt := 19) hx hb dX4_nameOf_3 (by decide) (fun yc3 => ?_) (fun yc3 => ?_)
  · have h := z_ifp yc3 h
    refine lv_bipush (v := (-9 : Int32)) hx hb dX4_nameOf_19 (by decide) ?_
    exact hRet _ _ _ _ _ _ hP hS (z_pair h) dX4_nameOf_21
  · have h := z_ifn yc3 h
    refine lv_iload_n hx hb dX4_nameOf_6 rfl (lv_at hl 0 rfl) ?_
    refine lv_bipush (v := (101 : Int32)) hx hb dX4_nameOf_7 (by decide) ?_
    refine lv_icmp_gt (tgt := 19) hx hb dX4_nameOf_9 (by decide) (fun yc9 => ?_) (fun yc9 => ?_)
    · have h := z_ifp yc9 h
      refine lv_bipush (v := (-9 : Int32)) hx hb dX4_nameOf_19 (by decide) ?_
      exact hRet _ _ _ _ _ _ hP hS (z_pair h) dX4_nameOf_21
    · have h := z_ifn yc9 h
      refine lv_iload_n hx hb dX4_nameOf_12 rfl (lv_at hl 0 rfl) ?_
      refine lv_bipush (v := (97 : Int32)) hx hb dX4_nameOf_13 (by decide) ?_
      refine lv_isub hx hb dX4_nameOf_15 ?_
      refine lv_goto (tgt := 21) hx hb dX4_nameOf_16 (by decide) ?_
      exact hRet _ _ _ _ _ _ hP hS (z_pair h) dX4_nameOf_21
noncomputable def jX4_addsToStep_26 (yx1 : Int32) (yx3 : Int32) (yd1 : Dt) : Option (Int32 × Dt) :=
  z_bd (fX4_goesOn yd1 yx1 yx3) fun yr2 yd3 => some (yr2, yd3)
noncomputable def fX4_addsToStep (yd : Dt) (yx1 : Int32) (yx2 : Int32) (yx3 : Int32) : Option (Int32 × Dt) :=
  zif (yx1 = 0) (jX4_addsToStep_26 yx1 yx3 yd) (zif ((yd.1 65 1) ≤ 0) (jX4_addsToStep_26 yx1 yx3 yd) (z_gd (z_in ((yd.1 65 1) - (1 : Int32)) 4) (z_gd (z_in ((yd.1 65 1) - (1 : Int32)) 4) (z_nm (z_st yd 66 (z_ix ((yd.1 65 1) - (1 : Int32))) ((yd.1 66 (z_ix ((yd.1 65 1) - (1 : Int32)))) + yx2)) fun yd4 => jX4_addsToStep_26 yx1 yx3 yd4))))
set_option maxHeartbeats 4000000 in
set_option maxRecDepth 100000 in
theorem kX4_addsToStep {l : Launch} {D : va_G} {G : z_G} {ad : Nat → Nat} {A : Nat → Prop} (hI : ∀ d, va_D A (WC G ad d)) {yd : Dt} {yx1 : Int32} {yx2 : Int32} {yx3 : Int32} (z_yx1 : yx1 = 0 ∨ yx1 = 1) {rr : Int32} {dd : Dt} (h : fX4_addsToStep yd yx1 yx2 yx3 = some (rr, dd)) : z_Mz l D G A (WC G ad) yX4_addsToStep cX4_addsToStep 4 (z_rm 1 22) yd [.ref (ad 65), .int yx1, .int yx2, .int yx3] rr dd := by
  refine z_ofz (by decide) (Nat.le_of_ble_eq_true rfl) fun p e s m args below meth c Q hx hb hml hown hts hK hP hRet ls hl => ?_
  have hS : va_S A s.heap s.heap [] := va_S.rf
  have hl : lv_has ls 4 [(0, .ref (ad 65)), (1, .int yx1), (2, .int yx2), (3, .int yx3)] := hl
  have h : (zif (yx1 = 0) (jX4_addsToStep_26 yx1 yx3 yd) (zif ((yd.1 65 1) ≤ 0) (jX4_addsToStep_26 yx1 yx3 yd) (z_gd (z_in ((yd.1 65 1) - (1 : Int32)) 4) (z_gd (z_in ((yd.1 65 1) - (1 : Int32)) 4) (z_nm (z_st yd 66 (z_ix ((yd.1 65 1) - (1 : Int32))) ((yd.1 66 (z_ix ((yd.1 65 1) - (1 : Int32)))) + yx2)) fun yd4 => jX4_addsToStep_26 yx1 yx3 yd4))))) = some (rr, dd) := h
  refine lv_iload_n hx hb dX4_addsToStep_0 rfl (lv_at hl 1 rfl) ?_
  have hJ26 : ∀ (yd1 : Dt) (H : Heap) (locs : List Loc) (ls : Array Slot), jX4_addsToStep_26 yx1 yx3 yd1 = some (rr, dd) → va_P D vwCl (WC G ad yd1) H → va_S A s.heap H locs → lv_has ls 4 [(0, .ref (ad 65)), (1, .int yx1), (3, .int yx3)] → W p l e (z_rm 1 22) s m args below meth c H locs 0 0 Q (F0 m 26 ls []) := by
    intro yd1 H locs ls h hP hS hl
    have h : (z_bd (fX4_goesOn yd1 yx1 yx3) fun yr2 yd3 => some (yr2, yd3)) = some (rr, dd) := h
    refine lv_aload_n hx hb dX4_addsToStep_26 rfl (lv_at hl 0 rfl) ?_
    refine lv_iload_n hx hb dX4_addsToStep_27 rfl (lv_at hl 1 rfl) ?_
    refine lv_iload_n hx hb dX4_addsToStep_28 rfl (lv_at hl 2 rfl) ?_
    obtain ⟨yr2, yd3, yhc29, h⟩ := z_bdx h
    refine z_kz (z_rV (As := [.int yx1, .int yx3]) (rest := []) ⟨hx, hb, hml, hown, hts⟩ hK hP w_X4 rfl (kX4_goesOn hI z_yx1 yhc29) giX4_22 ⟨rfl, rfl⟩ ndX4_goesOn ⟨Nat.le_of_ble_eq_true rfl, Nat.le_of_ble_eq_true rfl⟩ rfl hl.1 rfl (Nat.le_of_ble_eq_true rfl) ⟨Nat.le_refl _, Nat.le_refl _⟩ dX4_addsToStep_29) hS (fun H locs z_yr2 hP hS => ?_)
    exact hRet _ _ _ _ _ _ hP hS z_yr2 h dX4_addsToStep_32
  refine lv_if_eq (tgt := 26) hx hb dX4_addsToStep_1 (by decide) (fun yc1 => ?_) (fun yc1 => ?_)
  · have h := z_ifp yc1 h
    exact hJ26 _ _ _ _ h hP hS (lv_sub hl [0, 1, 3] rfl)
  · have h := z_ifn yc1 h
    refine lv_aload_n hx hb dX4_addsToStep_4 rfl (lv_at hl 0 rfl) ?_
    refine gt_X4_1 hx hb hts hown hK hP (hts _ wl_1_166) dX4_addsToStep_5 ?_
    refine lv_if_le (tgt := 26) hx hb dX4_addsToStep_8 (by decide) (fun yc8 => ?_) (fun yc8 => ?_)
    · have h := z_ifp yc8 h
      exact hJ26 _ _ _ _ h hP hS (lv_sub hl [0, 1, 3] rfl)
    · have h := z_ifn yc8 h
      refine lv_aload_n hx hb dX4_addsToStep_11 rfl (lv_at hl 0 rfl) ?_
      refine gt_X4_0 hx hb hts hown hK hP (hts _ wl_1_165) dX4_addsToStep_12 ?_
      refine lv_aload_n hx hb dX4_addsToStep_15 rfl (lv_at hl 0 rfl) ?_
      refine gt_X4_1 hx hb hts hown hK hP (hts _ wl_1_166) dX4_addsToStep_16 ?_
      refine lv_iconst (v := (1 : Int32)) hx hb dX4_addsToStep_19 (by decide) ?_
      refine lv_isub hx hb dX4_addsToStep_20 ?_
      refine lv_dup2_11 hx hb dX4_addsToStep_21 rfl rfl ?_
      obtain ⟨yg22, h⟩ := z_gi h
      refine al_C hx hb hK hP rfl (by decide) yg22 dX4_addsToStep_22 ?_
      refine lv_iload_n hx hb dX4_addsToStep_23 rfl (lv_at hl 2 rfl) ?_
      refine lv_iadd hx hb dX4_addsToStep_24 ?_
      obtain ⟨yg25, h⟩ := z_gi h
      refine as_C hx hb hK hP hI hS rfl (by decide) yg25 dX4_addsToStep_25 (fun H locs yd4 e_yd4 hP hS => ?_)
      have h := z_nma e_yd4 h
      exact hJ26 _ _ _ _ h hP hS (lv_sub hl [0, 1, 3] rfl)
noncomputable def jX4_takesTest_14 (yd : Dt) (yv1 : Int32) : Option (Int32 × Dt) :=
  z_nm (zif (yv1 < 0) (0 : Int32) (1 : Int32)) fun yv2 => z_bd (fX4_addsToStep yd yv2 (yv1 * (100 : Int32)) (5 : Int32)) fun yr3 yd4 => some (yr3, yd4)
noncomputable def fX4_takesTest (yd : Dt) (yx1 : Int32) : Option (Int32 × Dt) :=
  zif (yx1 = (42 : Int32)) (jX4_takesTest_14 yd (5 : Int32)) (z_br (fX4_nameOf yx1) fun yr5 => jX4_takesTest_14 yd yr5)
set_option maxHeartbeats 4000000 in
set_option maxRecDepth 100000 in
theorem kX4_takesTest {l : Launch} {D : va_G} {G : z_G} {ad : Nat → Nat} {A : Nat → Prop} (hI : ∀ d, va_D A (WC G ad d)) {yd : Dt} {yx1 : Int32}  {rr : Int32} {dd : Dt} (h : fX4_takesTest yd yx1 = some (rr, dd)) : z_Mz l D G A (WC G ad) yX4_takesTest cX4_takesTest 3 (z_rm 2 45) yd [.ref (ad 65), .int yx1] rr dd := by
  refine z_ofz (by decide) (Nat.le_of_ble_eq_true rfl) fun p e s m args below meth c Q hx hb hml hown hts hK hP hRet ls hl => ?_
  have hS : va_S A s.heap s.heap [] := va_S.rf
  have hl : lv_has ls 3 [(0, .ref (ad 65)), (1, .int yx1)] := hl
  have h : (zif (yx1 = (42 : Int32)) (jX4_takesTest_14 yd (5 : Int32)) (z_br (fX4_nameOf yx1) fun yr5 => jX4_takesTest_14 yd yr5)) = some (rr, dd) := h
  refine lv_iload_n hx hb dX4_takesTest_0 rfl (lv_at hl 1 rfl) ?_
  refine lv_bipush (v := (42 : Int32)) hx hb dX4_takesTest_1 (by decide) ?_
  have hJ14 : ∀ (yv1 : Int32) (H : Heap) (locs : List Loc) (ls : Array Slot), jX4_takesTest_14 yd yv1 = some (rr, dd) → va_P D vwCl (WC G ad yd) H → va_S A s.heap H locs → lv_has ls 3 [(0, .ref (ad 65))] → W p l e (z_rm 2 45) s m args below meth c H locs 0 0 Q (F0 m 14 ls [.int yv1]) := by
    intro yv1 H locs ls h hP hS hl
    have h : (z_nm (zif (yv1 < 0) (0 : Int32) (1 : Int32)) fun yv2 => z_bd (fX4_addsToStep yd yv2 (yv1 * (100 : Int32)) (5 : Int32)) fun yr3 yd4 => some (yr3, yd4)) = some (rr, dd) := h
    refine lv_istore_n (lv' := [(2, .int yv1), (0, .ref (ad 65))]) hx hb dX4_takesTest_14 rfl hl (by decide) rfl (fun ls hl => ?_)
    refine lv_aload_n hx hb dX4_takesTest_15 rfl (lv_at hl 1 rfl) ?_
    refine lv_iload_n hx hb dX4_takesTest_16 rfl (lv_at hl 0 rfl) ?_
    have hM25 : ∀ (yv2 : Int32) (H : Heap) (locs : List Loc), yv2 = (zif (yv1 < 0) (0 : Int32) (1 : Int32)) → va_P D vwCl (WC G ad yd) H → va_S A s.heap H locs → W p l e (z_rm 2 45) s m args below meth c H locs 0 0 Q (F0 m 25 ls [.int yv2, .ref (ad 65)]) := by
      intro yv2 H locs e_yv2 hP hS
      have h := z_nma e_yv2 h
      refine lv_iload_n hx hb dX4_takesTest_25 rfl (lv_at hl 0 rfl) ?_
      refine lv_bipush (v := (100 : Int32)) hx hb dX4_takesTest_26 (by decide) ?_
      refine lv_imul hx hb dX4_takesTest_28 ?_
      refine lv_iconst (v := (5 : Int32)) hx hb dX4_takesTest_29 (by decide) ?_
      obtain ⟨yr3, yd4, yhc30, h⟩ := z_bdx h
      refine z_kz (z_rV (As := [.int yv2, .int (yv1 * (100 : Int32)), .int (5 : Int32)]) (rest := []) ⟨hx, hb, hml, hown, hts⟩ hK hP w_X4 rfl (kX4_addsToStep hI (z_be e_yv2 (z_b2 (Or.inl rfl) (Or.inr rfl))) yhc30) giX4_84 ⟨rfl, rfl⟩ ndX4_addsToStep ⟨Nat.le_of_ble_eq_true rfl, Nat.le_of_ble_eq_true rfl⟩ rfl hl.1 rfl (Nat.le_of_ble_eq_true rfl) ⟨Nat.le_refl _, Nat.le_refl _⟩ dX4_takesTest_30) hS (fun H locs z_yr3 hP hS => ?_)
      exact hRet _ _ _ _ _ _ hP hS z_yr3 h dX4_takesTest_33
    refine lv_if_lt (tgt := 24) hx hb dX4_takesTest_17 (by decide) (fun yc17 => ?_) (fun yc17 => ?_)
    · refine lv_iconst (v := (0 : Int32)) hx hb dX4_takesTest_24 (by decide) ?_
      exact hM25 _ _ _ (z_tp yc17 rfl) hP hS
    · refine lv_iconst (v := (1 : Int32)) hx hb dX4_takesTest_20 (by decide) ?_
      refine lv_goto (tgt := 25) hx hb dX4_takesTest_21 (by decide) ?_
      exact hM25 _ _ _ (z_tn yc17 rfl) hP hS
  refine lv_icmp_ne (tgt := 10) hx hb dX4_takesTest_3 (by decide) (fun yc3 => ?_) (fun yc3 => ?_)
  · have h := z_ifn yc3 h
    refine lv_iload_n hx hb dX4_takesTest_10 rfl (lv_at hl 1 rfl) ?_
    obtain ⟨yr5, yhc11, h⟩ := z_brx h
    refine z_ki (z_rS (As := [.int yx1]) (rest := []) ⟨hx, hb, hml, hown, hts⟩ hK hP (kX4_nameOf yhc11) giX4_57 ⟨rfl, rfl⟩ ndX4_nameOf ⟨Nat.le_of_ble_eq_true rfl, Nat.le_of_ble_eq_true rfl⟩ rfl hl.1 rfl (Nat.le_of_ble_eq_true rfl) ⟨Nat.le_refl _, Nat.le_refl _⟩ dX4_takesTest_11) hS (fun H locs hP hS => ?_)
    exact hJ14 _ _ _ _ h hP hS (lv_sub hl [0] rfl)
  · have h := z_ifp yc3 h
    refine lv_iconst (v := (5 : Int32)) hx hb dX4_takesTest_6 (by decide) ?_
    refine lv_goto (tgt := 14) hx hb dX4_takesTest_7 (by decide) ?_
    exact hJ14 _ _ _ _ h hP hS (lv_sub hl [0] rfl)
noncomputable def fX4_takesNextStep (yd : Dt) (yx1 : Int32) (ya2 : Nat) : Option (Int32 × Dt) :=
  zif (yx1 = (46 : Int32)) (z_br (fX3_addPath yd ya2 66 (yd.1 65 1)) fun yd1 => z_bd (fX4_goesOn yd1 (1 : Int32) (1 : Int32)) fun yr2 yd3 => some (yr2, yd3)) (z_bd (fX4_takesAxis yd yx1) fun yr4 yd5 => some (yr4, yd5))
set_option maxHeartbeats 4000000 in
set_option maxRecDepth 100000 in
theorem kX4_takesNextStep {l : Launch} {D : va_G} {G : z_G} {ad : Nat → Nat} {A : Nat → Prop} (hI : ∀ d, va_D A (WC G ad d)) {yd : Dt} {yx1 : Int32} {ya2 : Nat} (yh2 : isSt ya2) {rr : Int32} {dd : Dt} (h : fX4_takesNextStep yd yx1 ya2 = some (rr, dd)) : z_Mz l D G A (WC G ad) yX4_takesNextStep cX4_takesNextStep 3 (z_rm 3 84) yd [.ref (ad 65), .int yx1, .ref (ad ya2)] rr dd := by
  refine z_ofz (by decide) (Nat.le_of_ble_eq_true rfl) fun p e s m args below meth c Q hx hb hml hown hts hK hP hRet ls hl => ?_
  have hS : va_S A s.heap s.heap [] := va_S.rf
  have hl : lv_has ls 3 [(0, .ref (ad 65)), (1, .int yx1), (2, .ref (ad ya2))] := hl
  have h : (zif (yx1 = (46 : Int32)) (z_br (fX3_addPath yd ya2 66 (yd.1 65 1)) fun yd1 => z_bd (fX4_goesOn yd1 (1 : Int32) (1 : Int32)) fun yr2 yd3 => some (yr2, yd3)) (z_bd (fX4_takesAxis yd yx1) fun yr4 yd5 => some (yr4, yd5))) = some (rr, dd) := h
  refine lv_iload_n hx hb dX4_takesNextStep_0 rfl (lv_at hl 1 rfl) ?_
  refine lv_bipush (v := (46 : Int32)) hx hb dX4_takesNextStep_1 (by decide) ?_
  refine lv_icmp_eq (tgt := 12) hx hb dX4_takesNextStep_3 (by decide) (fun yc3 => ?_) (fun yc3 => ?_)
  · have h := z_ifp yc3 h
    refine lv_aload_n hx hb dX4_takesNextStep_12 rfl (lv_at hl 2 rfl) ?_
    refine lv_aload_n hx hb dX4_takesNextStep_13 rfl (lv_at hl 0 rfl) ?_
    refine gt_X4_0 hx hb hts hown hK hP (hts _ wl_1_165) dX4_takesNextStep_14 ?_
    refine lv_aload_n hx hb dX4_takesNextStep_17 rfl (lv_at hl 0 rfl) ?_
    refine gt_X4_1 hx hb hts hown hK hP (hts _ wl_1_166) dX4_takesNextStep_18 ?_
    obtain ⟨yd1, yhc21, h⟩ := z_brx h
    refine z_kv (z_rV (As := [.ref (ad 66), .int (yd.1 65 1)]) (rest := []) ⟨hx, hb, hml, hown, hts⟩ hK hP (w_X3 yh2) rfl (kX3_addPath hI yh2 rfl yhc21) giX4_88 ⟨rfl, rfl⟩ ndX3_addPath ⟨Nat.le_of_ble_eq_true rfl, Nat.le_of_ble_eq_true rfl⟩ rfl hl.1 rfl (Nat.le_of_ble_eq_true rfl) ⟨Nat.le_refl _, Nat.le_refl _⟩ dX4_takesNextStep_21) hS (fun H locs hP hS => ?_)
    refine lv_aload_n hx hb dX4_takesNextStep_24 rfl (lv_at hl 0 rfl) ?_
    refine lv_iconst (v := (1 : Int32)) hx hb dX4_takesNextStep_25 (by decide) ?_
    refine lv_iconst (v := (1 : Int32)) hx hb dX4_takesNextStep_26 (by decide) ?_
    obtain ⟨yr2, yd3, yhc27, h⟩ := z_bdx h
    refine z_kz (z_rV (As := [.int (1 : Int32), .int (1 : Int32)]) (rest := []) ⟨hx, hb, hml, hown, hts⟩ hK hP w_X4 rfl (kX4_goesOn hI (Or.inr rfl) yhc27) giX4_22 ⟨rfl, rfl⟩ ndX4_goesOn ⟨Nat.le_of_ble_eq_true rfl, Nat.le_of_ble_eq_true rfl⟩ rfl hl.1 rfl (Nat.le_of_ble_eq_true rfl) ⟨Nat.le_refl _, Nat.le_refl _⟩ dX4_takesNextStep_27) hS (fun H locs z_yr2 hP hS => ?_)
    exact hRet _ _ _ _ _ _ hP hS z_yr2 h dX4_takesNextStep_30
  · have h := z_ifn yc3 h
    refine lv_aload_n hx hb dX4_takesNextStep_6 rfl (lv_at hl 0 rfl) ?_
    refine lv_iload_n hx hb dX4_takesNextStep_7 rfl (lv_at hl 1 rfl) ?_
    obtain ⟨yr4, yd5, yhc8, h⟩ := z_bdx h
    refine z_kz (z_rV (As := [.int yx1]) (rest := []) ⟨hx, hb, hml, hown, hts⟩ hK hP w_X4 rfl (kX4_takesAxis hI yhc8) giX4_40 ⟨rfl, rfl⟩ ndX4_takesAxis ⟨Nat.le_of_ble_eq_true rfl, Nat.le_of_ble_eq_true rfl⟩ rfl hl.1 rfl (Nat.le_of_ble_eq_true rfl) ⟨Nat.le_refl _, Nat.le_refl _⟩ dX4_takesNextStep_8) hS (fun H locs z_yr4 hP hS => ?_)
    exact hRet _ _ _ _ _ _ hP hS z_yr4 h dX4_takesNextStep_11
noncomputable def fX4_takesChildName (yd : Dt) (yx1 : Int32) : Option (Int32 × Dt) :=
  z_br (fX4_nameOf yx1) fun yr1 => z_nm (zif (yr1 < 0) (0 : Int32) (1 : Int32)) fun yv2 => z_bd (fX4_addsToStep yd yv2 ((1 : Int32) + yr1) (8 : Int32)) fun yr3 yd4 => some (yr3, yd4)
set_option maxHeartbeats 4000000 in
set_option maxRecDepth 100000 in
theorem kX4_takesChildName {l : Launch} {D : va_G} {G : z_G} {ad : Nat → Nat} {A : Nat → Prop} (hI : ∀ d, va_D A (WC G ad d)) {yd : Dt} {yx1 : Int32}  {rr : Int32} {dd : Dt} (h : fX4_takesChildName yd yx1 = some (rr, dd)) : z_Mz l D G A (WC G ad) yX4_takesChildName cX4_takesChildName 3 (z_rm 2 45) yd [.ref (ad 65), .int yx1] rr dd := by
  refine z_ofz (by decide) (Nat.le_of_ble_eq_true rfl) fun p e s m args below meth c Q hx hb hml hown hts hK hP hRet ls hl => ?_
  have hS : va_S A s.heap s.heap [] := va_S.rf
  have hl : lv_has ls 3 [(0, .ref (ad 65)), (1, .int yx1)] := hl
  have h : (z_br (fX4_nameOf yx1) fun yr1 => z_nm (zif (yr1 < 0) (0 : Int32) (1 : Int32)) fun yv2 => z_bd (fX4_addsToStep yd yv2 ((1 : Int32) + yr1) (8 : Int32)) fun yr3 yd4 => some (yr3, yd4)) = some (rr, dd) := h
  refine lv_iload_n hx hb dX4_takesChildName_0 rfl (lv_at hl 1 rfl) ?_
  obtain ⟨yr1, yhc1, h⟩ := z_brx h
  refine z_ki (z_rS (As := [.int yx1]) (rest := []) ⟨hx, hb, hml, hown, hts⟩ hK hP (kX4_nameOf yhc1) giX4_57 ⟨rfl, rfl⟩ ndX4_nameOf ⟨Nat.le_of_ble_eq_true rfl, Nat.le_of_ble_eq_true rfl⟩ rfl hl.1 rfl (Nat.le_of_ble_eq_true rfl) ⟨Nat.le_refl _, Nat.le_refl _⟩ dX4_takesChildName_1) hS (fun H locs hP hS => ?_)
  refine lv_istore_n (lv' := [(2, .int yr1), (0, .ref (ad 65)), (1, .int yx1)]) hx hb dX4_takesChildName_4 rfl hl (by decide) rfl (fun ls hl => ?_)
  refine lv_aload_n hx hb dX4_takesChildName_5 rfl (lv_at hl 1 rfl) ?_
  refine lv_iload_n hx hb dX4_takesChildName_6 rfl (lv_at hl 0 rfl) ?_
  have hM15 : ∀ (yv2 : Int32) (H : Heap) (locs : List Loc), yv2 = (zif (yr1 < 0) (0 : Int32) (1 : Int32)) → va_P D vwCl (WC G ad yd) H → va_S A s.heap H locs → W p l e (z_rm 2 45) s m args below meth c H locs 0 0 Q (F0 m 15 ls [.int yv2, .ref (ad 65)]) := by
    intro yv2 H locs e_yv2 hP hS
    have h := z_nma e_yv2 h
    refine lv_iconst (v := (1 : Int32)) hx hb dX4_takesChildName_15 (by decide) ?_
    refine lv_iload_n hx hb dX4_takesChildName_16 rfl (lv_at hl 0 rfl) ?_
    refine lv_iadd hx hb dX4_takesChildName_17 ?_
    refine lv_bipush (v := (8 : Int32)) hx hb dX4_takesChildName_18 (by decide) ?_
    obtain ⟨yr3, yd4, yhc20, h⟩ := z_bdx h
    refine z_kz (z_rV (As := [.int yv2, .int ((1 : Int32) + yr1), .int (8 : Int32)]) (rest := []) ⟨hx, hb, hml, hown, hts⟩ hK hP w_X4 rfl (kX4_addsToStep hI (z_be e_yv2 (z_b2 (Or.inl rfl) (Or.inr rfl))) yhc20) giX4_84 ⟨rfl, rfl⟩ ndX4_addsToStep ⟨Nat.le_of_ble_eq_true rfl, Nat.le_of_ble_eq_true rfl⟩ rfl hl.1 rfl (Nat.le_of_ble_eq_true rfl) ⟨Nat.le_refl _, Nat.le_refl _⟩ dX4_takesChildName_20) hS (fun H locs z_yr3 hP hS => ?_)
    exact hRet _ _ _ _ _ _ hP hS z_yr3 h dX4_takesChildName_23
  refine lv_if_lt (tgt := 14) hx hb dX4_takesChildName_7 (by decide) (fun yc7 => ?_) (fun yc7 => ?_)
  · refine lv_iconst (v := (0 : Int32)) hx hb dX4_takesChildName_14 (by decide) ?_
    exact hM15 _ _ _ (z_tp yc7 rfl) hP hS
  · refine lv_iconst (v := (1 : Int32)) hx hb dX4_takesChildName_10 (by decide) ?_
    refine lv_goto (tgt := 15) hx hb dX4_takesChildName_11 (by decide) ?_
    exact hM15 _ _ _ (z_tn yc7 rfl) hP hS
noncomputable def fX4_takesFigure (yd : Dt) (yx1 : Int32) : Option (Int32 × Dt) :=
  z_br (fX4_figureOf yx1) fun yr1 => z_nm (zif (yr1 < 0) (0 : Int32) (1 : Int32)) fun yv2 => z_bd (fX4_addsToStep yd yv2 ((6 : Int32) + yr1) (8 : Int32)) fun yr3 yd4 => some (yr3, yd4)
set_option maxHeartbeats 4000000 in
set_option maxRecDepth 100000 in
theorem kX4_takesFigure {l : Launch} {D : va_G} {G : z_G} {ad : Nat → Nat} {A : Nat → Prop} (hI : ∀ d, va_D A (WC G ad d)) {yd : Dt} {yx1 : Int32}  {rr : Int32} {dd : Dt} (h : fX4_takesFigure yd yx1 = some (rr, dd)) : z_Mz l D G A (WC G ad) yX4_takesFigure cX4_takesFigure 3 (z_rm 2 45) yd [.ref (ad 65), .int yx1] rr dd := by
  refine z_ofz (by decide) (Nat.le_of_ble_eq_true rfl) fun p e s m args below meth c Q hx hb hml hown hts hK hP hRet ls hl => ?_
  have hS : va_S A s.heap s.heap [] := va_S.rf
  have hl : lv_has ls 3 [(0, .ref (ad 65)), (1, .int yx1)] := hl
  have h : (z_br (fX4_figureOf yx1) fun yr1 => z_nm (zif (yr1 < 0) (0 : Int32) (1 : Int32)) fun yv2 => z_bd (fX4_addsToStep yd yv2 ((6 : Int32) + yr1) (8 : Int32)) fun yr3 yd4 => some (yr3, yd4)) = some (rr, dd) := h
  refine lv_iload_n hx hb dX4_takesFigure_0 rfl (lv_at hl 1 rfl) ?_
  obtain ⟨yr1, yhc1, h⟩ := z_brx h
  refine z_ki (z_rS (As := [.int yx1]) (rest := []) ⟨hx, hb, hml, hown, hts⟩ hK hP (kX4_figureOf yhc1) giX4_78 ⟨rfl, rfl⟩ ndX4_figureOf ⟨Nat.le_of_ble_eq_true rfl, Nat.le_of_ble_eq_true rfl⟩ rfl hl.1 rfl (Nat.le_of_ble_eq_true rfl) ⟨Nat.le_refl _, Nat.le_refl _⟩ dX4_takesFigure_1) hS (fun H locs hP hS => ?_)
  refine lv_istore_n (lv' := [(2, .int yr1), (0, .ref (ad 65)), (1, .int yx1)]) hx hb dX4_takesFigure_4 rfl hl (by decide) rfl (fun ls hl => ?_)
  refine lv_aload_n hx hb dX4_takesFigure_5 rfl (lv_at hl 1 rfl) ?_
  refine lv_iload_n hx hb dX4_takesFigure_6 rfl (lv_at hl 0 rfl) ?_
  have hM15 : ∀ (yv2 : Int32) (H : Heap) (locs : List Loc), yv2 = (zif (yr1 < 0) (0 : Int32) (1 : Int32)) → va_P D vwCl (WC G ad yd) H → va_S A s.heap H locs → W p l e (z_rm 2 45) s m args below meth c H locs 0 0 Q (F0 m 15 ls [.int yv2, .ref (ad 65)]) := by
    intro yv2 H locs e_yv2 hP hS
    have h := z_nma e_yv2 h
    refine lv_bipush (v := (6 : Int32)) hx hb dX4_takesFigure_15 (by decide) ?_
    refine lv_iload_n hx hb dX4_takesFigure_17 rfl (lv_at hl 0 rfl) ?_
    refine lv_iadd hx hb dX4_takesFigure_18 ?_
    refine lv_bipush (v := (8 : Int32)) hx hb dX4_takesFigure_19 (by decide) ?_
    obtain ⟨yr3, yd4, yhc21, h⟩ := z_bdx h
    refine z_kz (z_rV (As := [.int yv2, .int ((6 : Int32) + yr1), .int (8 : Int32)]) (rest := []) ⟨hx, hb, hml, hown, hts⟩ hK hP w_X4 rfl (kX4_addsToStep hI (z_be e_yv2 (z_b2 (Or.inl rfl) (Or.inr rfl))) yhc21) giX4_84 ⟨rfl, rfl⟩ ndX4_addsToStep ⟨Nat.le_of_ble_eq_true rfl, Nat.le_of_ble_eq_true rfl⟩ rfl hl.1 rfl (Nat.le_of_ble_eq_true rfl) ⟨Nat.le_refl _, Nat.le_refl _⟩ dX4_takesFigure_21) hS (fun H locs z_yr3 hP hS => ?_)
    exact hRet _ _ _ _ _ _ hP hS z_yr3 h dX4_takesFigure_24
  refine lv_if_lt (tgt := 14) hx hb dX4_takesFigure_7 (by decide) (fun yc7 => ?_) (fun yc7 => ?_)
  · refine lv_iconst (v := (0 : Int32)) hx hb dX4_takesFigure_14 (by decide) ?_
    exact hM15 _ _ _ (z_tp yc7 rfl) hP hS
  · refine lv_iconst (v := (1 : Int32)) hx hb dX4_takesFigure_10 (by decide) ?_
    refine lv_goto (tgt := 15) hx hb dX4_takesFigure_11 (by decide) ?_
    exact hM15 _ _ _ (z_tn yc7 rfl) hP hS
noncomputable def fX4_takes (yd : Dt) (yx1 : Int32) (ya2 : Nat) : Option (Int32 × Dt) :=
  z_nm (yd.1 65 2) fun yv1 => zif (yv1 = (0 : Int32)) (z_nm (zif (yx1 = (68 : Int32)) (1 : Int32) (0 : Int32)) fun yv2 => z_bd (fX4_goesOn yd yv2 (1 : Int32)) fun yr3 yd4 => some (yr3, yd4)) (zif (yv1 = (1 : Int32)) (zif (yx1 = (113 : Int32)) (z_bd (fX4_beginsPath yd ya2) fun yr7 yd8 => some (yr7, yd8)) (z_bd (fX4_takesEvent yd yx1 (ya2 + 1)) fun yr5 yd6 => some (yr5, yd6))) (zif (yv1 = (2 : Int32)) (z_bd (fX4_takesEvent yd yx1 (ya2 + 1)) fun yr9 yd10 => some (yr9, yd10)) (zif (yv1 = (3 : Int32)) (z_bd (fX4_takesAxis yd yx1) fun yr11 yd12 => some (yr11, yd12)) (zif (yv1 = (4 : Int32)) (z_bd (fX4_takesTest yd yx1) fun yr13 yd14 => some (yr13, yd14)) (zif (yv1 = (5 : Int32)) (zif (yx1 = (91 : Int32)) (z_bd (fX4_goesOn yd (1 : Int32) (6 : Int32)) fun yr17 yd18 => some (yr17, yd18)) (z_bd (fX4_takesNextStep yd yx1 ya2) fun yr15 yd16 => some (yr15, yd16))) (zif (yv1 = (6 : Int32)) (zif (yx1 = (61 : Int32)) (z_bd (fX4_goesOn yd (1 : Int32) (7 : Int32)) fun yr21 yd22 => some (yr21, yd22)) (z_bd (fX4_takesChildName yd yx1) fun yr19 yd20 => some (yr19, yd20))) (zif (yv1 = (7 : Int32)) (z_bd (fX4_takesFigure yd yx1) fun yr23 yd24 => some (yr23, yd24)) (zif (yv1 = (8 : Int32)) (z_nm (zif (yx1 = (93 : Int32)) (1 : Int32) (0 : Int32)) fun yv25 => z_bd (fX4_goesOn yd yv25 (9 : Int32)) fun yr26 yd27 => some (yr26, yd27)) (zif (yv1 = (9 : Int32)) (z_bd (fX4_takesNextStep yd yx1 ya2) fun yr28 yd29 => some (yr28, yd29)) (zif (yv1 = (10 : Int32)) (z_br (fX4_nameOf yx1) fun yr30 => z_bd (fX0_enter yd (ya2 + 1) yr30) fun yr31 yd32 => z_bd (fX4_goesOn yd32 yr31 (2 : Int32)) fun yr33 yd34 => some (yr33, yd34)) (some ((0 : Int32), yd))))))))))))
set_option maxHeartbeats 4000000 in
set_option maxRecDepth 100000 in
theorem kX4_takes {l : Launch} {D : va_G} {G : z_G} {ad : Nat → Nat} {A : Nat → Prop} (hI : ∀ d, va_D A (WC G ad d)) {yd : Dt} {yx1 : Int32} {ya2 : Nat} (yh2 : isSt ya2) {rr : Int32} {dd : Dt} (h : fX4_takes yd yx1 ya2 = some (rr, dd)) : z_Mz l D G A (WC G ad) yX4_takes cX4_takes 3 (z_rm 4 106) yd [.ref (ad 65), .int yx1, .ref (ad ya2)] rr dd := by
  refine z_ofz (by decide) (Nat.le_of_ble_eq_true rfl) fun p e s m args below meth c Q hx hb hml hown hts hK hP hRet ls hl => ?_
  have hS : va_S A s.heap s.heap [] := va_S.rf
  have hl : lv_has ls 3 [(0, .ref (ad 65)), (1, .int yx1), (2, .ref (ad ya2))] := hl
  have h : (z_nm (yd.1 65 2) fun yv1 => zif (yv1 = (0 : Int32)) (z_nm (zif (yx1 = (68 : Int32)) (1 : Int32) (0 : Int32)) fun yv2 => z_bd (fX4_goesOn yd yv2 (1 : Int32)) fun yr3 yd4 => some (yr3, yd4)) (zif (yv1 = (1 : Int32)) (zif (yx1 = (113 : Int32)) (z_bd (fX4_beginsPath yd ya2) fun yr7 yd8 => some (yr7, yd8)) (z_bd (fX4_takesEvent yd yx1 (ya2 + 1)) fun yr5 yd6 => some (yr5, yd6))) (zif (yv1 = (2 : Int32)) (z_bd (fX4_takesEvent yd yx1 (ya2 + 1)) fun yr9 yd10 => some (yr9, yd10)) (zif (yv1 = (3 : Int32)) (z_bd (fX4_takesAxis yd yx1) fun yr11 yd12 => some (yr11, yd12)) (zif (yv1 = (4 : Int32)) (z_bd (fX4_takesTest yd yx1) fun yr13 yd14 => some (yr13, yd14)) (zif (yv1 = (5 : Int32)) (zif (yx1 = (91 : Int32)) (z_bd (fX4_goesOn yd (1 : Int32) (6 : Int32)) fun yr17 yd18 => some (yr17, yd18)) (z_bd (fX4_takesNextStep yd yx1 ya2) fun yr15 yd16 => some (yr15, yd16))) (zif (yv1 = (6 : Int32)) (zif (yx1 = (61 : Int32)) (z_bd (fX4_goesOn yd (1 : Int32) (7 : Int32)) fun yr21 yd22 => some (yr21, yd22)) (z_bd (fX4_takesChildName yd yx1) fun yr19 yd20 => some (yr19, yd20))) (zif (yv1 = (7 : Int32)) (z_bd (fX4_takesFigure yd yx1) fun yr23 yd24 => some (yr23, yd24)) (zif (yv1 = (8 : Int32)) (z_nm (zif (yx1 = (93 : Int32)) (1 : Int32) (0 : Int32)) fun yv25 => z_bd (fX4_goesOn yd yv25 (9 : Int32)) fun yr26 yd27 => some (yr26, yd27)) (zif (yv1 = (9 : Int32)) (z_bd (fX4_takesNextStep yd yx1 ya2) fun yr28 yd29 => some (yr28, yd29)) (zif (yv1 = (10 : Int32)) (z_br (fX4_nameOf yx1) fun yr30 => z_bd (fX0_enter yd (ya2 + 1) yr30) fun yr31 yd32 => z_bd (fX4_goesOn yd32 yr31 (2 : Int32)) fun yr33 yd34 => some (yr33, yd34)) (some ((0 : Int32), yd))))))))))))) = some (rr, dd) := h
  refine lv_aload_n hx hb dX4_takes_0 rfl (lv_at hl 0 rfl) ?_
  refine gt_X4_2 hx hb hts hown hK hP (hts _ wl_1_167) dX4_takes_1 ?_
  refine lv_topi (fun yv1 e_yv1 => ?_)
  have h := z_nma e_yv1 h
  by_cases yk4_0 : yv1 = (0 : Int32)
  · have h := z_ifp yk4_0 h
    refine lv_tableIn (off := (60)) (tgt := 64) hx hb dX4_takes_4 (by rw [yk4_0]; decide) (by rw [yk4_0]; decide) (by rw [yk4_0]; rfl) (by decide) ?_
    refine lv_aload_n hx hb dX4_takes_64 rfl (lv_at hl 0 rfl) ?_
    refine lv_iload_n hx hb dX4_takes_65 rfl (lv_at hl 1 rfl) ?_
    refine lv_bipush (v := (68 : Int32)) hx hb dX4_takes_66 (by decide) ?_
    have hM76 : ∀ (yv2 : Int32) (H : Heap) (locs : List Loc), yv2 = (zif (yx1 = (68 : Int32)) (1 : Int32) (0 : Int32)) → va_P D vwCl (WC G ad yd) H → va_S A s.heap H locs → W p l e (z_rm 4 106) s m args below meth c H locs 0 0 Q (F0 m 76 ls [.int yv2, .ref (ad 65)]) := by
      intro yv2 H locs e_yv2 hP hS
      have h := z_nma e_yv2 h
      refine lv_iconst (v := (1 : Int32)) hx hb dX4_takes_76 (by decide) ?_
      obtain ⟨yr3, yd4, yhc77, h⟩ := z_bdx h
      refine z_kz (z_rV (As := [.int yv2, .int (1 : Int32)]) (rest := []) ⟨hx, hb, hml, hown, hts⟩ hK hP w_X4 rfl (kX4_goesOn hI (z_be e_yv2 (z_b2 (Or.inr rfl) (Or.inl rfl))) yhc77) giX4_22 ⟨rfl, rfl⟩ ndX4_goesOn ⟨Nat.le_of_ble_eq_true rfl, Nat.le_of_ble_eq_true rfl⟩ rfl hl.1 rfl (Nat.le_of_ble_eq_true rfl) ⟨Nat.le_refl _, Nat.le_refl _⟩ dX4_takes_77) hS (fun H locs z_yr3 hP hS => ?_)
      exact hRet _ _ _ _ _ _ hP hS z_yr3 h dX4_takes_80
    refine lv_icmp_ne (tgt := 75) hx hb dX4_takes_68 (by decide) (fun yc68 => ?_) (fun yc68 => ?_)
    · refine lv_iconst (v := (0 : Int32)) hx hb dX4_takes_75 (by decide) ?_
      exact hM76 _ _ _ (z_tn yc68 rfl) hP hS
    · refine lv_iconst (v := (1 : Int32)) hx hb dX4_takes_71 (by decide) ?_
      refine lv_goto (tgt := 76) hx hb dX4_takes_72 (by decide) ?_
      exact hM76 _ _ _ (z_tp yc68 rfl) hP hS
  have h := z_ifn yk4_0 h
  by_cases yk4_1 : yv1 = (1 : Int32)
  · have h := z_ifp yk4_1 h
    refine lv_tableIn (off := (77)) (tgt := 81) hx hb dX4_takes_4 (by rw [yk4_1]; decide) (by rw [yk4_1]; decide) (by rw [yk4_1]; rfl) (by decide) ?_
    refine lv_iload_n hx hb dX4_takes_81 rfl (lv_at hl 1 rfl) ?_
    refine lv_bipush (v := (113 : Int32)) hx hb dX4_takes_82 (by decide) ?_
    refine lv_icmp_ne (tgt := 95) hx hb dX4_takes_84 (by decide) (fun yc84 => ?_) (fun yc84 => ?_)
    · have h := z_ifn yc84 h
      refine lv_aload_n hx hb dX4_takes_95 rfl (lv_at hl 0 rfl) ?_
      refine lv_iload_n hx hb dX4_takes_96 rfl (lv_at hl 1 rfl) ?_
      refine lv_aload_n hx hb dX4_takes_97 rfl (lv_at hl 2 rfl) ?_
      refine gt_X3_0 hx hb hts hown hK hP yh2 (hts _ wl_1_113) dX4_takes_98 ?_
      obtain ⟨yr5, yd6, yhc101, h⟩ := z_bdx h
      refine z_kz (z_rV (As := [.int yx1, .ref (ad (ya2 + 1))]) (rest := []) ⟨hx, hb, hml, hown, hts⟩ hK hP w_X4 rfl (kX4_takesEvent hI (el_st yh2) yhc101) giX4_36 ⟨rfl, rfl⟩ ndX4_takesEvent ⟨Nat.le_of_ble_eq_true rfl, Nat.le_of_ble_eq_true rfl⟩ rfl hl.1 rfl (Nat.le_of_ble_eq_true rfl) ⟨Nat.le_refl _, Nat.le_refl _⟩ dX4_takes_101) hS (fun H locs z_yr5 hP hS => ?_)
      exact hRet _ _ _ _ _ _ hP hS z_yr5 h dX4_takes_104
    · have h := z_ifp yc84 h
      refine lv_aload_n hx hb dX4_takes_87 rfl (lv_at hl 0 rfl) ?_
      refine lv_aload_n hx hb dX4_takes_88 rfl (lv_at hl 2 rfl) ?_
      obtain ⟨yr7, yd8, yhc89, h⟩ := z_bdx h
      refine z_kz (z_rV (As := [.ref (ad ya2)]) (rest := []) ⟨hx, hb, hml, hown, hts⟩ hK hP w_X4 rfl (kX4_beginsPath hI yh2 yhc89) giX4_26 ⟨rfl, rfl⟩ ndX4_beginsPath ⟨Nat.le_of_ble_eq_true rfl, Nat.le_of_ble_eq_true rfl⟩ rfl hl.1 rfl (Nat.le_of_ble_eq_true rfl) ⟨Nat.le_refl _, Nat.le_refl _⟩ dX4_takes_89) hS (fun H locs z_yr7 hP hS => ?_)
      refine lv_goto (tgt := 104) hx hb dX4_takes_92 (by decide) ?_
      exact hRet _ _ _ _ _ _ hP hS z_yr7 h dX4_takes_104
  have h := z_ifn yk4_1 h
  by_cases yk4_2 : yv1 = (2 : Int32)
  · have h := z_ifp yk4_2 h
    refine lv_tableIn (off := (101)) (tgt := 105) hx hb dX4_takes_4 (by rw [yk4_2]; decide) (by rw [yk4_2]; decide) (by rw [yk4_2]; rfl) (by decide) ?_
    refine lv_aload_n hx hb dX4_takes_105 rfl (lv_at hl 0 rfl) ?_
    refine lv_iload_n hx hb dX4_takes_106 rfl (lv_at hl 1 rfl) ?_
    refine lv_aload_n hx hb dX4_takes_107 rfl (lv_at hl 2 rfl) ?_
    refine gt_X3_0 hx hb hts hown hK hP yh2 (hts _ wl_1_113) dX4_takes_108 ?_
    obtain ⟨yr9, yd10, yhc111, h⟩ := z_bdx h
    refine z_kz (z_rV (As := [.int yx1, .ref (ad (ya2 + 1))]) (rest := []) ⟨hx, hb, hml, hown, hts⟩ hK hP w_X4 rfl (kX4_takesEvent hI (el_st yh2) yhc111) giX4_36 ⟨rfl, rfl⟩ ndX4_takesEvent ⟨Nat.le_of_ble_eq_true rfl, Nat.le_of_ble_eq_true rfl⟩ rfl hl.1 rfl (Nat.le_of_ble_eq_true rfl) ⟨Nat.le_refl _, Nat.le_refl _⟩ dX4_takes_111) hS (fun H locs z_yr9 hP hS => ?_)
    exact hRet _ _ _ _ _ _ hP hS z_yr9 h dX4_takes_114
  have h := z_ifn yk4_2 h
  by_cases yk4_3 : yv1 = (3 : Int32)
  · have h := z_ifp yk4_3 h
    refine lv_tableIn (off := (111)) (tgt := 115) hx hb dX4_takes_4 (by rw [yk4_3]; decide) (by rw [yk4_3]; decide) (by rw [yk4_3]; rfl) (by decide) ?_
    refine lv_aload_n hx hb dX4_takes_115 rfl (lv_at hl 0 rfl) ?_
    refine lv_iload_n hx hb dX4_takes_116 rfl (lv_at hl 1 rfl) ?_
    obtain ⟨yr11, yd12, yhc117, h⟩ := z_bdx h
    refine z_kz (z_rV (As := [.int yx1]) (rest := []) ⟨hx, hb, hml, hown, hts⟩ hK hP w_X4 rfl (kX4_takesAxis hI yhc117) giX4_40 ⟨rfl, rfl⟩ ndX4_takesAxis ⟨Nat.le_of_ble_eq_true rfl, Nat.le_of_ble_eq_true rfl⟩ rfl hl.1 rfl (Nat.le_of_ble_eq_true rfl) ⟨Nat.le_refl _, Nat.le_refl _⟩ dX4_takes_117) hS (fun H locs z_yr11 hP hS => ?_)
    exact hRet _ _ _ _ _ _ hP hS z_yr11 h dX4_takes_120
  have h := z_ifn yk4_3 h
  by_cases yk4_4 : yv1 = (4 : Int32)
  · have h := z_ifp yk4_4 h
    refine lv_tableIn (off := (117)) (tgt := 121) hx hb dX4_takes_4 (by rw [yk4_4]; decide) (by rw [yk4_4]; decide) (by rw [yk4_4]; rfl) (by decide) ?_
    refine lv_aload_n hx hb dX4_takes_121 rfl (lv_at hl 0 rfl) ?_
    refine lv_iload_n hx hb dX4_takes_122 rfl (lv_at hl 1 rfl) ?_
    obtain ⟨yr13, yd14, yhc123, h⟩ := z_bdx h
    refine z_kz (z_rV (As := [.int yx1]) (rest := []) ⟨hx, hb, hml, hown, hts⟩ hK hP w_X4 rfl (kX4_takesTest hI yhc123) giX4_44 ⟨rfl, rfl⟩ ndX4_takesTest ⟨Nat.le_of_ble_eq_true rfl, Nat.le_of_ble_eq_true rfl⟩ rfl hl.1 rfl (Nat.le_of_ble_eq_true rfl) ⟨Nat.le_refl _, Nat.le_refl _⟩ dX4_takes_123) hS (fun H locs z_yr13 hP hS => ?_)
    exact hRet _ _ _ _ _ _ hP hS z_yr13 h dX4_takes_126
  have h := z_ifn yk4_4 h
  by_cases yk4_5 : yv1 = (5 : Int32)
  · have h := z_ifp yk4_5 h
    refine lv_tableIn (off := (123)) (tgt := 127) hx hb dX4_takes_4 (by rw [yk4_5]; decide) (by rw [yk4_5]; decide) (by rw [yk4_5]; rfl) (by decide) ?_
    refine lv_iload_n hx hb dX4_takes_127 rfl (lv_at hl 1 rfl) ?_
    refine lv_bipush (v := (91 : Int32)) hx hb dX4_takes_128 (by decide) ?_
    refine lv_icmp_ne (tgt := 143) hx hb dX4_takes_130 (by decide) (fun yc130 => ?_) (fun yc130 => ?_)
    · have h := z_ifn yc130 h
      refine lv_aload_n hx hb dX4_takes_143 rfl (lv_at hl 0 rfl) ?_
      refine lv_iload_n hx hb dX4_takes_144 rfl (lv_at hl 1 rfl) ?_
      refine lv_aload_n hx hb dX4_takes_145 rfl (lv_at hl 2 rfl) ?_
      obtain ⟨yr15, yd16, yhc146, h⟩ := z_bdx h
      refine z_kz (z_rV (As := [.int yx1, .ref (ad ya2)]) (rest := []) ⟨hx, hb, hml, hown, hts⟩ hK hP w_X4 rfl (kX4_takesNextStep hI yh2 yhc146) giX4_47 ⟨rfl, rfl⟩ ndX4_takesNextStep ⟨Nat.le_of_ble_eq_true rfl, Nat.le_of_ble_eq_true rfl⟩ rfl hl.1 rfl (Nat.le_of_ble_eq_true rfl) ⟨Nat.le_refl _, Nat.le_refl _⟩ dX4_takes_146) hS (fun H locs z_yr15 hP hS => ?_)
      exact hRet _ _ _ _ _ _ hP hS z_yr15 h dX4_takes_149
    · have h := z_ifp yc130 h
      refine lv_aload_n hx hb dX4_takes_133 rfl (lv_at hl 0 rfl) ?_
      refine lv_iconst (v := (1 : Int32)) hx hb dX4_takes_134 (by decide) ?_
      refine lv_bipush (v := (6 : Int32)) hx hb dX4_takes_135 (by decide) ?_
      obtain ⟨yr17, yd18, yhc137, h⟩ := z_bdx h
      refine z_kz (z_rV (As := [.int (1 : Int32), .int (6 : Int32)]) (rest := []) ⟨hx, hb, hml, hown, hts⟩ hK hP w_X4 rfl (kX4_goesOn hI (Or.inr rfl) yhc137) giX4_22 ⟨rfl, rfl⟩ ndX4_goesOn ⟨Nat.le_of_ble_eq_true rfl, Nat.le_of_ble_eq_true rfl⟩ rfl hl.1 rfl (Nat.le_of_ble_eq_true rfl) ⟨Nat.le_refl _, Nat.le_refl _⟩ dX4_takes_137) hS (fun H locs z_yr17 hP hS => ?_)
      refine lv_goto (tgt := 149) hx hb dX4_takes_140 (by decide) ?_
      exact hRet _ _ _ _ _ _ hP hS z_yr17 h dX4_takes_149
  have h := z_ifn yk4_5 h
  by_cases yk4_6 : yv1 = (6 : Int32)
  · have h := z_ifp yk4_6 h
    refine lv_tableIn (off := (146)) (tgt := 150) hx hb dX4_takes_4 (by rw [yk4_6]; decide) (by rw [yk4_6]; decide) (by rw [yk4_6]; rfl) (by decide) ?_
    refine lv_iload_n hx hb dX4_takes_150 rfl (lv_at hl 1 rfl) ?_
    refine lv_bipush (v := (61 : Int32)) hx hb dX4_takes_151 (by decide) ?_
    refine lv_icmp_ne (tgt := 166) hx hb dX4_takes_153 (by decide) (fun yc153 => ?_) (fun yc153 => ?_)
    · have h := z_ifn yc153 h
      refine lv_aload_n hx hb dX4_takes_166 rfl (lv_at hl 0 rfl) ?_
      refine lv_iload_n hx hb dX4_takes_167 rfl (lv_at hl 1 rfl) ?_
      obtain ⟨yr19, yd20, yhc168, h⟩ := z_bdx h
      refine z_kz (z_rV (As := [.int yx1]) (rest := []) ⟨hx, hb, hml, hown, hts⟩ hK hP w_X4 rfl (kX4_takesChildName hI yhc168) giX4_51 ⟨rfl, rfl⟩ ndX4_takesChildName ⟨Nat.le_of_ble_eq_true rfl, Nat.le_of_ble_eq_true rfl⟩ rfl hl.1 rfl (Nat.le_of_ble_eq_true rfl) ⟨Nat.le_refl _, Nat.le_refl _⟩ dX4_takes_168) hS (fun H locs z_yr19 hP hS => ?_)
      exact hRet _ _ _ _ _ _ hP hS z_yr19 h dX4_takes_171
    · have h := z_ifp yc153 h
      refine lv_aload_n hx hb dX4_takes_156 rfl (lv_at hl 0 rfl) ?_
      refine lv_iconst (v := (1 : Int32)) hx hb dX4_takes_157 (by decide) ?_
      refine lv_bipush (v := (7 : Int32)) hx hb dX4_takes_158 (by decide) ?_
      obtain ⟨yr21, yd22, yhc160, h⟩ := z_bdx h
      refine z_kz (z_rV (As := [.int (1 : Int32), .int (7 : Int32)]) (rest := []) ⟨hx, hb, hml, hown, hts⟩ hK hP w_X4 rfl (kX4_goesOn hI (Or.inr rfl) yhc160) giX4_22 ⟨rfl, rfl⟩ ndX4_goesOn ⟨Nat.le_of_ble_eq_true rfl, Nat.le_of_ble_eq_true rfl⟩ rfl hl.1 rfl (Nat.le_of_ble_eq_true rfl) ⟨Nat.le_refl _, Nat.le_refl _⟩ dX4_takes_160) hS (fun H locs z_yr21 hP hS => ?_)
      refine lv_goto (tgt := 171) hx hb dX4_takes_163 (by decide) ?_
      exact hRet _ _ _ _ _ _ hP hS z_yr21 h dX4_takes_171
  have h := z_ifn yk4_6 h
  by_cases yk4_7 : yv1 = (7 : Int32)
  · have h := z_ifp yk4_7 h
    refine lv_tableIn (off := (168)) (tgt := 172) hx hb dX4_takes_4 (by rw [yk4_7]; decide) (by rw [yk4_7]; decide) (by rw [yk4_7]; rfl) (by decide) ?_
    refine lv_aload_n hx hb dX4_takes_172 rfl (lv_at hl 0 rfl) ?_
    refine lv_iload_n hx hb dX4_takes_173 rfl (lv_at hl 1 rfl) ?_
    obtain ⟨yr23, yd24, yhc174, h⟩ := z_bdx h
    refine z_kz (z_rV (As := [.int yx1]) (rest := []) ⟨hx, hb, hml, hown, hts⟩ hK hP w_X4 rfl (kX4_takesFigure hI yhc174) giX4_54 ⟨rfl, rfl⟩ ndX4_takesFigure ⟨Nat.le_of_ble_eq_true rfl, Nat.le_of_ble_eq_true rfl⟩ rfl hl.1 rfl (Nat.le_of_ble_eq_true rfl) ⟨Nat.le_refl _, Nat.le_refl _⟩ dX4_takes_174) hS (fun H locs z_yr23 hP hS => ?_)
    exact hRet _ _ _ _ _ _ hP hS z_yr23 h dX4_takes_177
  have h := z_ifn yk4_7 h
  by_cases yk4_8 : yv1 = (8 : Int32)
  · have h := z_ifp yk4_8 h
    refine lv_tableIn (off := (174)) (tgt := 178) hx hb dX4_takes_4 (by rw [yk4_8]; decide) (by rw [yk4_8]; decide) (by rw [yk4_8]; rfl) (by decide) ?_
    refine lv_aload_n hx hb dX4_takes_178 rfl (lv_at hl 0 rfl) ?_
    refine lv_iload_n hx hb dX4_takes_179 rfl (lv_at hl 1 rfl) ?_
    refine lv_bipush (v := (93 : Int32)) hx hb dX4_takes_180 (by decide) ?_
    have hM190 : ∀ (yv25 : Int32) (H : Heap) (locs : List Loc), yv25 = (zif (yx1 = (93 : Int32)) (1 : Int32) (0 : Int32)) → va_P D vwCl (WC G ad yd) H → va_S A s.heap H locs → W p l e (z_rm 4 106) s m args below meth c H locs 0 0 Q (F0 m 190 ls [.int yv25, .ref (ad 65)]) := by
      intro yv25 H locs e_yv25 hP hS
      have h := z_nma e_yv25 h
      refine lv_bipush (v := (9 : Int32)) hx hb dX4_takes_190 (by decide) ?_
      obtain ⟨yr26, yd27, yhc192, h⟩ := z_bdx h
      refine z_kz (z_rV (As := [.int yv25, .int (9 : Int32)]) (rest := []) ⟨hx, hb, hml, hown, hts⟩ hK hP w_X4 rfl (kX4_goesOn hI (z_be e_yv25 (z_b2 (Or.inr rfl) (Or.inl rfl))) yhc192) giX4_22 ⟨rfl, rfl⟩ ndX4_goesOn ⟨Nat.le_of_ble_eq_true rfl, Nat.le_of_ble_eq_true rfl⟩ rfl hl.1 rfl (Nat.le_of_ble_eq_true rfl) ⟨Nat.le_refl _, Nat.le_refl _⟩ dX4_takes_192) hS (fun H locs z_yr26 hP hS => ?_)
      exact hRet _ _ _ _ _ _ hP hS z_yr26 h dX4_takes_195
    refine lv_icmp_ne (tgt := 189) hx hb dX4_takes_182 (by decide) (fun yc182 => ?_) (fun yc182 => ?_)
    · refine lv_iconst (v := (0 : Int32)) hx hb dX4_takes_189 (by decide) ?_
      exact hM190 _ _ _ (z_tn yc182 rfl) hP hS
    · refine lv_iconst (v := (1 : Int32)) hx hb dX4_takes_185 (by decide) ?_
      refine lv_goto (tgt := 190) hx hb dX4_takes_186 (by decide) ?_
      exact hM190 _ _ _ (z_tp yc182 rfl) hP hS
  have h := z_ifn yk4_8 h
  by_cases yk4_9 : yv1 = (9 : Int32)
  · have h := z_ifp yk4_9 h
    refine lv_tableIn (off := (192)) (tgt := 196) hx hb dX4_takes_4 (by rw [yk4_9]; decide) (by rw [yk4_9]; decide) (by rw [yk4_9]; rfl) (by decide) ?_
    refine lv_aload_n hx hb dX4_takes_196 rfl (lv_at hl 0 rfl) ?_
    refine lv_iload_n hx hb dX4_takes_197 rfl (lv_at hl 1 rfl) ?_
    refine lv_aload_n hx hb dX4_takes_198 rfl (lv_at hl 2 rfl) ?_
    obtain ⟨yr28, yd29, yhc199, h⟩ := z_bdx h
    refine z_kz (z_rV (As := [.int yx1, .ref (ad ya2)]) (rest := []) ⟨hx, hb, hml, hown, hts⟩ hK hP w_X4 rfl (kX4_takesNextStep hI yh2 yhc199) giX4_47 ⟨rfl, rfl⟩ ndX4_takesNextStep ⟨Nat.le_of_ble_eq_true rfl, Nat.le_of_ble_eq_true rfl⟩ rfl hl.1 rfl (Nat.le_of_ble_eq_true rfl) ⟨Nat.le_refl _, Nat.le_refl _⟩ dX4_takes_199) hS (fun H locs z_yr28 hP hS => ?_)
    exact hRet _ _ _ _ _ _ hP hS z_yr28 h dX4_takes_202
  have h := z_ifn yk4_9 h
  by_cases yk4_10 : yv1 = (10 : Int32)
  · have h := z_ifp yk4_10 h
    refine lv_tableIn (off := (199)) (tgt := 203) hx hb dX4_takes_4 (by rw [yk4_10]; decide) (by rw [yk4_10]; decide) (by rw [yk4_10]; rfl) (by decide) ?_
    refine lv_aload_n hx hb dX4_takes_203 rfl (lv_at hl 0 rfl) ?_
    refine lv_aload_n hx hb dX4_takes_204 rfl (lv_at hl 2 rfl) ?_
    refine gt_X3_0 hx hb hts hown hK hP yh2 (hts _ wl_1_113) dX4_takes_205 ?_
    refine lv_iload_n hx hb dX4_takes_208 rfl (lv_at hl 1 rfl) ?_
    obtain ⟨yr30, yhc209, h⟩ := z_brx h
    refine z_ki (z_rS (As := [.int yx1]) (rest := [.ref (ad (ya2 + 1)), .ref (ad 65)]) ⟨hx, hb, hml, hown, hts⟩ hK hP (kX4_nameOf yhc209) giX4_57 ⟨rfl, rfl⟩ ndX4_nameOf ⟨Nat.le_of_ble_eq_true rfl, Nat.le_of_ble_eq_true rfl⟩ rfl hl.1 rfl (Nat.le_of_ble_eq_true rfl) ⟨Nat.le_refl _, Nat.le_refl _⟩ dX4_takes_209) hS (fun H locs hP hS => ?_)
    obtain ⟨yr31, yd32, yhc212, h⟩ := z_bdx h
    refine z_kz (z_rV (As := [.int yr30]) (rest := [.ref (ad 65)]) ⟨hx, hb, hml, hown, hts⟩ hK hP (w_X0 (el_st yh2)) rfl (kX0_enter hI (el_st yh2) yhc212) giX4_61 ⟨rfl, rfl⟩ ndX0_enter ⟨Nat.le_of_ble_eq_true rfl, Nat.le_of_ble_eq_true rfl⟩ rfl hl.1 rfl (Nat.le_of_ble_eq_true rfl) ⟨Nat.le_refl _, Nat.le_refl _⟩ dX4_takes_212) hS (fun H locs z_yr31 hP hS => ?_)
    refine lv_iconst (v := (2 : Int32)) hx hb dX4_takes_215 (by decide) ?_
    obtain ⟨yr33, yd34, yhc216, h⟩ := z_bdx h
    refine z_kz (z_rV (As := [.int yr31, .int (2 : Int32)]) (rest := []) ⟨hx, hb, hml, hown, hts⟩ hK hP w_X4 rfl (kX4_goesOn hI z_yr31 yhc216) giX4_22 ⟨rfl, rfl⟩ ndX4_goesOn ⟨Nat.le_of_ble_eq_true rfl, Nat.le_of_ble_eq_true rfl⟩ rfl hl.1 rfl (Nat.le_of_ble_eq_true rfl) ⟨Nat.le_refl _, Nat.le_refl _⟩ dX4_takes_216) hS (fun H locs z_yr33 hP hS => ?_)
    exact hRet _ _ _ _ _ _ hP hS z_yr33 h dX4_takes_219
  have h := z_ifn yk4_10 h
  refine lv_tableOut (tgt := 220) hx hb dX4_takes_4 (by have q0 := lv_neT yk4_0 (a := 0) rfl; have q1 := lv_neT yk4_1 (a := 1) rfl; have q2 := lv_neT yk4_2 (a := 2) rfl; have q3 := lv_neT yk4_3 (a := 3) rfl; have q4 := lv_neT yk4_4 (a := 4) rfl; have q5 := lv_neT yk4_5 (a := 5) rfl; have q6 := lv_neT yk4_6 (a := 6) rfl; have q7 := lv_neT yk4_7 (a := 7) rfl; have q8 := lv_neT yk4_8 (a := 8) rfl; have q9 := lv_neT yk4_9 (a := 9) rfl; have q10 := lv_neT yk4_10 (a := 10) rfl; omega) (by decide) ?_
  refine lv_iconst (v := (0 : Int32)) hx hb dX4_takes_220 (by decide) ?_
  exact hRet _ _ _ _ _ _ hP hS (Or.inl rfl) h dX4_takes_221
noncomputable def fX5_write (yd : Dt) (yx1 : Int32) : Option (Int32 × Dt) :=
  zif (yx1 < 0) (some ((-2 : Int32), yd)) (zif (yx1 ≤ (255 : Int32)) (zif ((yd.1 0 12) < (99 : Int32)) (z_gd (z_in (yd.1 0 12) 99) (z_nm (z_st yd 67 (z_ix (yd.1 0 12)) (vp_nar .char ((yx1.toUInt32 % 65536).toInt32))) fun yd1 => z_nm (z_st yd1 0 12 ((yd1.1 0 12) + (1 : Int32))) fun yd2 => some ((yd2.1 0 12), yd2))) (some ((-4 : Int32), yd))) (some ((-2 : Int32), yd)))
set_option maxHeartbeats 4000000 in
set_option maxRecDepth 100000 in
theorem kX5_write {l : Launch} {D : va_G} {G : z_G} {ad : Nat → Nat} {A : Nat → Prop} (hI : ∀ d, va_D A (WC G ad d)) {yd : Dt} {yx1 : Int32}  {rr : Int32} {dd : Dt} (h : fX5_write yd yx1 = some (rr, dd)) : z_Mi l D G A (WC G ad) yX5_write cX5_write 2 (z_rm 0 0) yd [.ref (ad 0), .int yx1] rr dd := by
  refine z_ofi (by decide) (Nat.le_of_ble_eq_true rfl) fun p e s m args below meth c Q hx hb hml hown hts hK hP hRet ls hl => ?_
  have hS : va_S A s.heap s.heap [] := va_S.rf
  have hl : lv_has ls 2 [(0, .ref (ad 0)), (1, .int yx1)] := hl
  have h : (zif (yx1 < 0) (some ((-2 : Int32), yd)) (zif (yx1 ≤ (255 : Int32)) (zif ((yd.1 0 12) < (99 : Int32)) (z_gd (z_in (yd.1 0 12) 99) (z_nm (z_st yd 67 (z_ix (yd.1 0 12)) (vp_nar .char ((yx1.toUInt32 % 65536).toInt32))) fun yd1 => z_nm (z_st yd1 0 12 ((yd1.1 0 12) + (1 : Int32))) fun yd2 => some ((yd2.1 0 12), yd2))) (some ((-4 : Int32), yd))) (some ((-2 : Int32), yd)))) = some (rr, dd) := h
  refine lv_iload_n hx hb dX5_write_0 rfl (lv_at hl 1 rfl) ?_
  refine lv_if_lt (tgt := 11) hx hb dX5_write_1 (by decide) (fun yc1 => ?_) (fun yc1 => ?_)
  · have h := z_ifp yc1 h
    refine lv_bipush (v := (-2 : Int32)) hx hb dX5_write_11 (by decide) ?_
    exact hRet _ _ _ _ _ _ hP hS h dX5_write_13
  · have h := z_ifn yc1 h
    refine lv_iload_n hx hb dX5_write_4 rfl (lv_at hl 1 rfl) ?_
    refine lv_sipush (v := (255 : Int32)) hx hb dX5_write_5 (by decide) ?_
    refine lv_icmp_le (tgt := 14) hx hb dX5_write_8 (by decide) (fun yc8 => ?_) (fun yc8 => ?_)
    · have h := z_ifp yc8 h
      refine lv_aload_n hx hb dX5_write_14 rfl (lv_at hl 0 rfl) ?_
      refine gt_X5_12 hx hb hts hown hK hP (hts _ wl_1_187) dX5_write_15 ?_
      refine lv_bipush (v := (99 : Int32)) hx hb dX5_write_18 (by decide) ?_
      refine lv_icmp_lt (tgt := 26) hx hb dX5_write_20 (by decide) (fun yc20 => ?_) (fun yc20 => ?_)
      · have h := z_ifp yc20 h
        refine lv_aload_n hx hb dX5_write_26 rfl (lv_at hl 0 rfl) ?_
        refine gt_X5_7 hx hb hts hown hK hP (hts _ wl_1_182) dX5_write_27 ?_
        refine lv_aload_n hx hb dX5_write_30 rfl (lv_at hl 0 rfl) ?_
        refine gt_X5_12 hx hb hts hown hK hP (hts _ wl_1_187) dX5_write_31 ?_
        refine lv_iload_n hx hb dX5_write_34 rfl (lv_at hl 1 rfl) ?_
        refine lv_i2c (v := (yx1.toUInt32 % 65536).toInt32) hx hb dX5_write_35 rfl ?_
        obtain ⟨yg36, h⟩ := z_gi h
        refine cs_C hx hb hK hP hI hS yg36 dX5_write_36 (fun H locs yd1 e_yd1 hP hS => ?_)
        have h := z_nma e_yd1 h
        refine lv_aload_n hx hb dX5_write_37 rfl (lv_at hl 0 rfl) ?_
        refine lv_dup hx hb dX5_write_38 rfl ?_
        refine gt_X5_12 hx hb hts hown hK hP (hts _ wl_1_187) dX5_write_39 ?_
        refine lv_iconst (v := (1 : Int32)) hx hb dX5_write_42 (by decide) ?_
        refine lv_iadd hx hb dX5_write_43 ?_
        refine pt_X5_12 hx hb hts hown hK hP hI hS (hts _ wl_1_187) dX5_write_44 (fun H locs yd2 e_yd2 hP hS => ?_)
        have h := z_nma e_yd2 h
        refine lv_aload_n hx hb dX5_write_47 rfl (lv_at hl 0 rfl) ?_
        refine gt_X5_12 hx hb hts hown hK hP (hts _ wl_1_187) dX5_write_48 ?_
        exact hRet _ _ _ _ _ _ hP hS h dX5_write_51
      · have h := z_ifn yc20 h
        refine lv_bipush (v := (-4 : Int32)) hx hb dX5_write_23 (by decide) ?_
        exact hRet _ _ _ _ _ _ hP hS h dX5_write_25
    · have h := z_ifn yc8 h
      refine lv_bipush (v := (-2 : Int32)) hx hb dX5_write_11 (by decide) ?_
      exact hRet _ _ _ _ _ _ hP hS h dX5_write_13
noncomputable def fX5_wipe (yd : Dt) : Option (Int32 × Dt) :=
  z_nm (yd.1 0 12) fun yv1 => z_nm (z_st yd 0 12 (0 : Int32)) fun yd2 => some (yv1, yd2)
set_option maxHeartbeats 4000000 in
set_option maxRecDepth 100000 in
theorem kX5_wipe {l : Launch} {D : va_G} {G : z_G} {ad : Nat → Nat} {A : Nat → Prop} (hI : ∀ d, va_D A (WC G ad d)) {yd : Dt}   {rr : Int32} {dd : Dt} (h : fX5_wipe yd = some (rr, dd)) : z_Mi l D G A (WC G ad) yX5_wipe cX5_wipe 2 (z_rm 0 0) yd [.ref (ad 0)] rr dd := by
  refine z_ofi (by decide) (Nat.le_of_ble_eq_true rfl) fun p e s m args below meth c Q hx hb hml hown hts hK hP hRet ls hl => ?_
  have hS : va_S A s.heap s.heap [] := va_S.rf
  have hl : lv_has ls 2 [(0, .ref (ad 0))] := hl
  have h : (z_nm (yd.1 0 12) fun yv1 => z_nm (z_st yd 0 12 (0 : Int32)) fun yd2 => some (yv1, yd2)) = some (rr, dd) := h
  refine lv_aload_n hx hb dX5_wipe_0 rfl (lv_at hl 0 rfl) ?_
  refine gt_X5_12 hx hb hts hown hK hP (hts _ wl_1_187) dX5_wipe_1 ?_
  refine lv_topi (fun yv1 e_yv1 => ?_)
  have h := z_nma e_yv1 h
  refine lv_istore_n (lv' := [(1, .int yv1), (0, .ref (ad 0))]) hx hb dX5_wipe_4 rfl hl (by decide) rfl (fun ls hl => ?_)
  refine lv_aload_n hx hb dX5_wipe_5 rfl (lv_at hl 1 rfl) ?_
  refine lv_iconst (v := (0 : Int32)) hx hb dX5_wipe_6 (by decide) ?_
  refine pt_X5_12 hx hb hts hown hK hP hI hS (hts _ wl_1_187) dX5_wipe_7 (fun H locs yd2 e_yd2 hP hS => ?_)
  have h := z_nma e_yd2 h
  refine lv_iload_n hx hb dX5_wipe_10 rfl (lv_at hl 0 rfl) ?_
  exact hRet _ _ _ _ _ _ hP hS h dX5_wipe_11
noncomputable def jX5_readTask_87 (yv3 : Int32) (yd8 : Dt) : Option ((Int32 × Dt) ⊕ ((Int32 × Dt) ⊕ (Dt))) :=
  z_nm (yv3 + (1 : Int32)) fun yv9 => some (.inl (yv9, yd8))
noncomputable def bX5_readTask_16 (yx1 : Int32) (s : Int32 × Dt) : Option ((Int32 × Dt) ⊕ ((Int32 × Dt) ⊕ (Dt))) := match s with
  | (yv3, yd4) => zif ((yd4.1 0 12) ≤ yv3) (some (.inr (.inr yd4))) (z_nm (yd4.1 30 8) fun yv5 => z_gd (z_in yv3 99) (z_bd (fX4_takes yd4 (yd4.1 67 (z_ix yv3)) 29) fun yr6 yd7 => zif (yr6 = 0) (some (.inr (.inl (yv3, yd7)))) (zif (yx1 = 0) (jX5_readTask_87 yv3 yd7) (zif ((yd7.1 30 8) = yv5) (jX5_readTask_87 yv3 yd7) (z_bd (fX3_emitAll yd7 29) fun yr10 yd11 => jX5_readTask_87 yv3 yd11)))))
noncomputable def fX5_readTask (yd : Dt) (yx1 : Int32) : Option (Int32 × Dt) :=
  z_br (fX3_clear yd 29) fun yd1 => z_br (fX4_begin yd1) fun yd2 => z_br (z_lp (bX5_readTask_16 yx1) ((0 : Int32), yd2)) (fun t => match t with | .inl (yv12, yd13) => some (yv12, yd13) | .inr yd14 => z_br (fX4_mayEnd yd14) fun yr15 => zif (yr15 = 0) (some ((yd14.1 0 12), yd14)) (some ((-9 : Int32), yd14)))
set_option maxHeartbeats 4000000 in
set_option maxRecDepth 100000 in
theorem kX5_readTask {l : Launch} {D : va_G} {G : z_G} {ad : Nat → Nat} {A : Nat → Prop} (hI : ∀ d, va_D A (WC G ad d)) {yd : Dt} {yx1 : Int32} (z_yx1 : yx1 = 0 ∨ yx1 = 1) {rr : Int32} {dd : Dt} (h : fX5_readTask yd yx1 = some (rr, dd)) : z_Mi l D G A (WC G ad) yX5_readTask cX5_readTask 4 (z_rm 5 128) yd [.ref (ad 0), .int yx1] rr dd := by
  refine z_ofi (by decide) (Nat.le_of_ble_eq_true rfl) fun p e s m args below meth c Q hx hb hml hown hts hK hP hRet ls hl => ?_
  have hS : va_S A s.heap s.heap [] := va_S.rf
  have hl : lv_has ls 4 [(0, .ref (ad 0)), (1, .int yx1)] := hl
  have h : (z_br (fX3_clear yd 29) fun yd1 => z_br (fX4_begin yd1) fun yd2 => z_br (z_lp (bX5_readTask_16 yx1) ((0 : Int32), yd2)) (fun t => match t with | .inl (yv12, yd13) => some (yv12, yd13) | .inr yd14 => z_br (fX4_mayEnd yd14) fun yr15 => zif (yr15 = 0) (some ((yd14.1 0 12), yd14)) (some ((-9 : Int32), yd14)))) = some (rr, dd) := h
  refine lv_aload_n hx hb dX5_readTask_0 rfl (lv_at hl 0 rfl) ?_
  refine gt_X5_1 hx hb hts hown hK hP (hts _ wl_1_176) dX5_readTask_1 ?_
  obtain ⟨yd1, yhc4, h⟩ := z_brx h
  refine z_kv (z_rV (As := []) (rest := []) ⟨hx, hb, hml, hown, hts⟩ hK hP (w_X3 st_29) rfl (kX3_clear hI st_29 yhc4) giX5_250 ⟨rfl, rfl⟩ ndX3_clear ⟨Nat.le_of_ble_eq_true rfl, Nat.le_of_ble_eq_true rfl⟩ rfl hl.1 rfl (Nat.le_of_ble_eq_true rfl) ⟨Nat.le_refl _, Nat.le_refl _⟩ dX5_readTask_4) hS (fun H locs hP hS => ?_)
  refine lv_aload_n hx hb dX5_readTask_7 rfl (lv_at hl 0 rfl) ?_
  refine gt_X5_6 hx hb hts hown hK hP (hts _ wl_1_181) dX5_readTask_8 ?_
  obtain ⟨yd2, yhc11, h⟩ := z_brx h
  refine z_kv (z_rV (As := []) (rest := []) ⟨hx, hb, hml, hown, hts⟩ hK hP w_X4 rfl (kX4_begin hI yhc11) giX5_253 ⟨rfl, rfl⟩ ndX4_begin ⟨Nat.le_of_ble_eq_true rfl, Nat.le_of_ble_eq_true rfl⟩ rfl hl.1 rfl (Nat.le_of_ble_eq_true rfl) ⟨Nat.le_refl _, Nat.le_refl _⟩ dX5_readTask_11) hS (fun H locs hP hS => ?_)
  refine lv_iconst (v := (0 : Int32)) hx hb dX5_readTask_14 (by decide) ?_
  refine lv_istore_n (lv' := [(2, .int (0 : Int32)), (0, .ref (ad 0)), (1, .int yx1)]) hx hb dX5_readTask_15 rfl hl (by decide) rfl (fun ls hl => ?_)
  obtain ⟨yt16, hlp, h⟩ := z_brx h
  obtain ⟨yn16, hlp⟩ := z_lpx hlp
  have hE55 : ∀ (yv12 : Int32) (yd13 : Dt) (H : Heap) (locs : List Loc) (ls : Array Slot), (.inl (yv12, yd13)) = yt16 → va_P D vwCl (WC G ad yd13) H → va_S A s.heap H locs → lv_has ls 4 [(2, .int yv12)] → W p l e (z_rm 5 128) s m args below meth c H locs 0 0 Q (F0 m 55 ls []) := by
    intro yv12 yd13 H locs ls et hP hS hl
    subst et
    have h : (some (yv12, yd13)) = some (rr, dd) := h
    refine lv_iload_n hx hb dX5_readTask_55 rfl (lv_at hl 0 rfl) ?_
    exact hRet _ _ _ _ _ _ hP hS h dX5_readTask_56
  have hE93 : ∀ (yd14 : Dt) (H : Heap) (locs : List Loc) (ls : Array Slot), (.inr yd14) = yt16 → va_P D vwCl (WC G ad yd14) H → va_S A s.heap H locs → lv_has ls 4 [(0, .ref (ad 0))] → W p l e (z_rm 5 128) s m args below meth c H locs 0 0 Q (F0 m 93 ls []) := by
    intro yd14 H locs ls et hP hS hl
    subst et
    have h : (z_br (fX4_mayEnd yd14) fun yr15 => zif (yr15 = 0) (some ((yd14.1 0 12), yd14)) (some ((-9 : Int32), yd14))) = some (rr, dd) := h
    refine lv_aload_n hx hb dX5_readTask_93 rfl (lv_at hl 0 rfl) ?_
    refine gt_X5_6 hx hb hts hown hK hP (hts _ wl_1_181) dX5_readTask_94 ?_
    obtain ⟨yr15, yhc97, h⟩ := z_brx h
    refine z_kz (z_rV (As := []) (rest := []) ⟨hx, hb, hml, hown, hts⟩ hK hP w_X4 rfl (kX4_mayEnd hI yhc97) giX5_260 ⟨rfl, rfl⟩ ndX4_mayEnd ⟨Nat.le_of_ble_eq_true rfl, Nat.le_of_ble_eq_true rfl⟩ rfl hl.1 rfl (Nat.le_of_ble_eq_true rfl) ⟨Nat.le_refl _, Nat.le_refl _⟩ dX5_readTask_97) hS (fun H locs z_yr15 hP hS => ?_)
    refine lv_if_eq (tgt := 108) hx hb dX5_readTask_100 (by decide) (fun yc100 => ?_) (fun yc100 => ?_)
    · have h := z_ifp yc100 h
      refine lv_aload_n hx hb dX5_readTask_108 rfl (lv_at hl 0 rfl) ?_
      refine gt_X5_12 hx hb hts hown hK hP (hts _ wl_1_187) dX5_readTask_109 ?_
      exact hRet _ _ _ _ _ _ hP hS h dX5_readTask_112
    · have h := z_ifn yc100 h
      refine lv_bipush (v := (-9 : Int32)) hx hb dX5_readTask_103 (by decide) ?_
      refine lv_goto (tgt := 112) hx hb dX5_readTask_105 (by decide) ?_
      exact hRet _ _ _ _ _ _ hP hS h dX5_readTask_112
  have hL16 : ∀ (n : Nat) (yv3 : Int32) (yd4 : Dt) (H : Heap) (locs : List Loc) (ls : Array Slot), z_it (bX5_readTask_16 yx1) n (yv3, yd4) = some yt16 → va_P D vwCl (WC G ad yd4) H → va_S A s.heap H locs → lv_has ls 4 [(0, .ref (ad 0)), (1, .int yx1), (2, .int yv3)] → W p l e (z_rm 5 128) s m args below meth c H locs 0 0 Q (F0 m 16 ls []) := by
    intro n
    induction n with
    | zero => intro yv3 yd4 H locs ls hn; exact z_it0 hn
    | succ n ih =>
      intro yv3 yd4 H locs ls hn hP hS hl
      obtain ⟨yq16, h, hq1, hq2⟩ := z_itx hn
      have h : (zif ((yd4.1 0 12) ≤ yv3) (some (.inr (.inr yd4))) (z_nm (yd4.1 30 8) fun yv5 => z_gd (z_in yv3 99) (z_bd (fX4_takes yd4 (yd4.1 67 (z_ix yv3)) 29) fun yr6 yd7 => zif (yr6 = 0) (some (.inr (.inl (yv3, yd7)))) (zif (yx1 = 0) (jX5_readTask_87 yv3 yd7) (zif ((yd7.1 30 8) = yv5) (jX5_readTask_87 yv3 yd7) (z_bd (fX3_emitAll yd7 29) fun yr10 yd11 => jX5_readTask_87 yv3 yd11)))))) = some yq16 := h
      refine lv_iload_n hx hb dX5_readTask_16 rfl (lv_at hl 2 rfl) ?_
      refine lv_aload_n hx hb dX5_readTask_17 rfl (lv_at hl 0 rfl) ?_
      refine gt_X5_12 hx hb hts hown hK hP (hts _ wl_1_187) dX5_readTask_18 ?_
      refine lv_icmp_ge (tgt := 93) hx hb dX5_readTask_21 (by decide) (fun yc21 => ?_) (fun yc21 => ?_)
      · have h := z_ifp yc21 h
        exact hE93 _ _ _ _ (hq2 _ (z_sm h).symm) hP hS (lv_sub hl [0] rfl)
      · have h := z_ifn yc21 h
        refine lv_aload_n hx hb dX5_readTask_24 rfl (lv_at hl 0 rfl) ?_
        refine gt_X5_1 hx hb hts hown hK hP (hts _ wl_1_176) dX5_readTask_25 ?_
        refine gt_X3_0 hx hb hts hown hK hP st_29 (hts _ wl_1_114) dX5_readTask_28 ?_
        refine gt_X0_8 hx hb hts hown hK hP (el_st st_29) (hts _ wl_1_53) dX5_readTask_31 ?_
        refine lv_topi (fun yv5 e_yv5 => ?_)
        have h := z_nma e_yv5 h
        refine lv_istore_n (lv' := [(3, .int yv5), (0, .ref (ad 0)), (1, .int yx1), (2, .int yv3)]) hx hb dX5_readTask_34 rfl hl (by decide) rfl (fun ls hl => ?_)
        refine lv_aload_n hx hb dX5_readTask_35 rfl (lv_at hl 1 rfl) ?_
        refine gt_X5_6 hx hb hts hown hK hP (hts _ wl_1_181) dX5_readTask_36 ?_
        refine lv_aload_n hx hb dX5_readTask_39 rfl (lv_at hl 1 rfl) ?_
        refine gt_X5_7 hx hb hts hown hK hP (hts _ wl_1_182) dX5_readTask_40 ?_
        refine lv_iload_n hx hb dX5_readTask_43 rfl (lv_at hl 3 rfl) ?_
        obtain ⟨yg44, h⟩ := z_gi h
        refine cl_C hx hb hK hP yg44 dX5_readTask_44 ?_
        refine lv_aload_n hx hb dX5_readTask_45 rfl (lv_at hl 1 rfl) ?_
        refine gt_X5_1 hx hb hts hown hK hP (hts _ wl_1_176) dX5_readTask_46 ?_
        obtain ⟨yr6, yd7, yhc49, h⟩ := z_bdx h
        refine z_kz (z_rV (As := [.int (yd4.1 67 (z_ix yv3)), .ref (ad 29)]) (rest := []) ⟨hx, hb, hml, hown, hts⟩ hK hP w_X4 rfl (kX4_takes hI st_29 yhc49) giX5_256 ⟨rfl, rfl⟩ ndX4_takes ⟨Nat.le_of_ble_eq_true rfl, Nat.le_of_ble_eq_true rfl⟩ rfl hl.1 rfl (Nat.le_of_ble_eq_true rfl) ⟨Nat.le_refl _, Nat.le_refl _⟩ dX5_readTask_49) hS (fun H locs z_yr6 hP hS => ?_)
        refine lv_if_ne (tgt := 57) hx hb dX5_readTask_52 (by decide) (fun yc52 => ?_) (fun yc52 => ?_)
        · have h := z_ifn yc52 h
          refine lv_iload_n hx hb dX5_readTask_57 rfl (lv_at hl 2 rfl) ?_
          have hJ87 : ∀ (yd8 : Dt) (H : Heap) (locs : List Loc) (ls : Array Slot), jX5_readTask_87 yv3 yd8 = some yq16 → va_P D vwCl (WC G ad yd8) H → va_S A s.heap H locs → lv_has ls 4 [(0, .ref (ad 0)), (1, .int yx1), (2, .int yv3)] → W p l e (z_rm 5 128) s m args below meth c H locs 0 0 Q (F0 m 87 ls []) := by
            intro yd8 H locs ls h hP hS hl
            have h : (z_nm (yv3 + (1 : Int32)) fun yv9 => some (.inl (yv9, yd8))) = some yq16 := h
            obtain ⟨yv9, e_yv9, h⟩ := z_nmx h
            refine lv_iinc (v := yv9) (lv' := [(2, .int yv9), (0, .ref (ad 0)), (1, .int yx1)]) hx hb dX5_readTask_87 hl (k := 2) rfl (by rw [e_yv9]; rfl) (by decide) rfl (fun ls hl => ?_)
            refine lv_goto (tgt := 16) hx hb dX5_readTask_90 (by decide) ?_
            exact ih _ _ _ _ _ (hq1 _ (z_sm h).symm) hP hS (lv_sub hl [1, 2, 0] rfl)
          refine lv_if_eq (tgt := 87) hx hb dX5_readTask_58 (by decide) (fun yc58 => ?_) (fun yc58 => ?_)
          · have h := z_ifp yc58 h
            exact hJ87 _ _ _ _ h hP hS (lv_sub hl [1, 2, 3] rfl)
          · have h := z_ifn yc58 h
            refine lv_aload_n hx hb dX5_readTask_61 rfl (lv_at hl 1 rfl) ?_
            refine gt_X5_1 hx hb hts hown hK hP (hts _ wl_1_176) dX5_readTask_62 ?_
            refine gt_X3_0 hx hb hts hown hK hP st_29 (hts _ wl_1_114) dX5_readTask_65 ?_
            refine gt_X0_8 hx hb hts hown hK hP (el_st st_29) (hts _ wl_1_53) dX5_readTask_68 ?_
            refine lv_iload_n hx hb dX5_readTask_71 rfl (lv_at hl 0 rfl) ?_
            refine lv_icmp_eq (tgt := 87) hx hb dX5_readTask_72 (by decide) (fun yc72 => ?_) (fun yc72 => ?_)
            · have h := z_ifp yc72 h
              exact hJ87 _ _ _ _ h hP hS (lv_sub hl [1, 2, 3] rfl)
            · have h := z_ifn yc72 h
              refine lv_aload_n hx hb dX5_readTask_75 rfl (lv_at hl 1 rfl) ?_
              refine gt_X5_1 hx hb hts hown hK hP (hts _ wl_1_176) dX5_readTask_76 ?_
              refine lv_aload_n hx hb dX5_readTask_79 rfl (lv_at hl 1 rfl) ?_
              refine gt_X5_5 hx hb hts hown hK hP (hts _ wl_1_180) dX5_readTask_80 ?_
              obtain ⟨yr10, yd11, yhc83, h⟩ := z_bdx h
              refine z_ki (z_rV (As := [.ref (ad 60)]) (rest := []) ⟨hx, hb, hml, hown, hts⟩ hK hP (w_X3 st_29) rfl (kX3_emitAll hI st_29 yhc83) giX5_179 ⟨rfl, rfl⟩ ndX3_emitAll ⟨Nat.le_of_ble_eq_true rfl, Nat.le_of_ble_eq_true rfl⟩ rfl hl.1 rfl (Nat.le_of_ble_eq_true rfl) ⟨Nat.le_refl _, Nat.le_refl _⟩ dX5_readTask_83) hS (fun H locs hP hS => ?_)
              refine lv_pop hx hb dX5_readTask_86 rfl ?_
              exact hJ87 _ _ _ _ h hP hS (lv_sub hl [1, 2, 3] rfl)
        · have h := z_ifp yc52 h
          exact hE55 _ _ _ _ _ (hq2 _ (z_sm h).symm) hP hS (lv_sub hl [3] rfl)
  exact hL16 yn16 _ _ _ _ _ hlp hP hS (lv_sub hl [1, 2, 0] rfl)
noncomputable def fX5_fault (yd : Dt) : Option (Int32 × Dt) :=
  z_bd (fX5_readTask yd (0 : Int32)) fun yr1 yd2 => some (yr1, yd2)
set_option maxHeartbeats 4000000 in
set_option maxRecDepth 100000 in
theorem kX5_fault {l : Launch} {D : va_G} {G : z_G} {ad : Nat → Nat} {A : Nat → Prop} (hI : ∀ d, va_D A (WC G ad d)) {yd : Dt}   {rr : Int32} {dd : Dt} (h : fX5_fault yd = some (rr, dd)) : z_Mi l D G A (WC G ad) yX5_fault cX5_fault 1 (z_rm 6 151) yd [.ref (ad 0)] rr dd := by
  refine z_ofi (by decide) (Nat.le_of_ble_eq_true rfl) fun p e s m args below meth c Q hx hb hml hown hts hK hP hRet ls hl => ?_
  have hS : va_S A s.heap s.heap [] := va_S.rf
  have hl : lv_has ls 1 [(0, .ref (ad 0))] := hl
  have h : (z_bd (fX5_readTask yd (0 : Int32)) fun yr1 yd2 => some (yr1, yd2)) = some (rr, dd) := h
  refine lv_aload_n hx hb dX5_fault_0 rfl (lv_at hl 0 rfl) ?_
  refine lv_iconst (v := (0 : Int32)) hx hb dX5_fault_1 (by decide) ?_
  obtain ⟨yr1, yd2, yhc2, h⟩ := z_bdx h
  refine z_ki (z_rV (As := [.int (0 : Int32)]) (rest := []) ⟨hx, hb, hml, hown, hts⟩ hK hP w_X5 rfl (kX5_readTask hI (Or.inl rfl) yhc2) giX5_65 ⟨rfl, rfl⟩ ndX5_readTask ⟨Nat.le_of_ble_eq_true rfl, Nat.le_of_ble_eq_true rfl⟩ rfl hl.1 rfl (Nat.le_of_ble_eq_true rfl) ⟨Nat.le_refl _, Nat.le_refl _⟩ dX5_fault_2) hS (fun H locs hP hS => ?_)
  exact hRet _ _ _ _ _ _ hP hS h dX5_fault_5
noncomputable def fX5_forgetActions (yd : Dt) : Option (Dt) :=
  z_nm (z_st yd 0 13 (0 : Int32)) fun yd1 => some yd1
set_option maxHeartbeats 4000000 in
set_option maxRecDepth 100000 in
theorem kX5_forgetActions {l : Launch} {D : va_G} {G : z_G} {ad : Nat → Nat} {A : Nat → Prop} (hI : ∀ d, va_D A (WC G ad d)) {yd : Dt}   {dd : Dt} (h : fX5_forgetActions yd = some dd) : z_Mv l D G A (WC G ad) yX5_forgetActions cX5_forgetActions 1 (z_rm 0 0) yd [.ref (ad 0)] dd := by
  refine z_ofv (by decide) (Nat.le_of_ble_eq_true rfl) fun p e s m args below meth c Q hx hb hml hown hts hK hP hRet ls hl => ?_
  have hS : va_S A s.heap s.heap [] := va_S.rf
  have hl : lv_has ls 1 [(0, .ref (ad 0))] := hl
  have h : (z_nm (z_st yd 0 13 (0 : Int32)) fun yd1 => some yd1) = some dd := h
  refine lv_aload_n hx hb dX5_forgetActions_0 rfl (lv_at hl 0 rfl) ?_
  refine lv_iconst (v := (0 : Int32)) hx hb dX5_forgetActions_1 (by decide) ?_
  refine pt_X5_13 hx hb hts hown hK hP hI hS (hts _ wl_1_188) dX5_forgetActions_2 (fun H locs yd1 e_yd1 hP hS => ?_)
  have h := z_nma e_yd1 h
  exact hRet _ _ _ _ _ hP hS h dX5_forgetActions_5
noncomputable def bX5_task_30 (s : Int32 × Dt) : Option ((Int32 × Dt) ⊕ (Dt)) := match s with
  | (yv5, yd6) => zif ((2 : Int32) ≤ yv5) (some (.inr yd6)) (z_gd (z_in yv5 2) (z_nm (z_st yd6 59 (z_ix yv5) (0 : Int32)) fun yd7 => z_nm (yv5 + (1 : Int32)) fun yv8 => some (.inl (yv8, yd7))))
noncomputable def fX5_task (yd : Dt) : Option (Int32 × Dt) :=
  z_bd (fX5_readTask yd (1 : Int32)) fun yr1 yd2 => zif (yr1 = (-9 : Int32)) (z_br (fX3_copyFrom yd2 1 29) fun yd3 => z_br (fX5_forgetActions yd3) fun yd4 => z_br (z_lp (bX5_task_30) ((0 : Int32), yd4)) (fun t => match t with | yd9 => some ((yd9.1 1 2), yd9))) (some ((-3 : Int32), yd2))
set_option maxHeartbeats 4000000 in
set_option maxRecDepth 100000 in
theorem kX5_task {l : Launch} {D : va_G} {G : z_G} {ad : Nat → Nat} {A : Nat → Prop} (hI : ∀ d, va_D A (WC G ad d)) {yd : Dt}   {rr : Int32} {dd : Dt} (h : fX5_task yd = some (rr, dd)) : z_Mi l D G A (WC G ad) yX5_task cX5_task 2 (z_rm 6 151) yd [.ref (ad 0)] rr dd := by
  refine z_ofi (by decide) (Nat.le_of_ble_eq_true rfl) fun p e s m args below meth c Q hx hb hml hown hts hK hP hRet ls hl => ?_
  have hS : va_S A s.heap s.heap [] := va_S.rf
  have hl : lv_has ls 2 [(0, .ref (ad 0))] := hl
  have h : (z_bd (fX5_readTask yd (1 : Int32)) fun yr1 yd2 => zif (yr1 = (-9 : Int32)) (z_br (fX3_copyFrom yd2 1 29) fun yd3 => z_br (fX5_forgetActions yd3) fun yd4 => z_br (z_lp (bX5_task_30) ((0 : Int32), yd4)) (fun t => match t with | yd9 => some ((yd9.1 1 2), yd9))) (some ((-3 : Int32), yd2))) = some (rr, dd) := h
  refine lv_aload_n hx hb dX5_task_0 rfl (lv_at hl 0 rfl) ?_
  refine lv_iconst (v := (1 : Int32)) hx hb dX5_task_1 (by decide) ?_
  obtain ⟨yr1, yd2, yhc2, h⟩ := z_bdx h
  refine z_ki (z_rV (As := [.int (1 : Int32)]) (rest := []) ⟨hx, hb, hml, hown, hts⟩ hK hP w_X5 rfl (kX5_readTask hI (Or.inr rfl) yhc2) giX5_65 ⟨rfl, rfl⟩ ndX5_readTask ⟨Nat.le_of_ble_eq_true rfl, Nat.le_of_ble_eq_true rfl⟩ rfl hl.1 rfl (Nat.le_of_ble_eq_true rfl) ⟨Nat.le_refl _, Nat.le_refl _⟩ dX5_task_2) hS (fun H locs hP hS => ?_)
  refine lv_bipush (v := (-9 : Int32)) hx hb dX5_task_5 (by decide) ?_
  refine lv_icmp_eq (tgt := 13) hx hb dX5_task_7 (by decide) (fun yc7 => ?_) (fun yc7 => ?_)
  · have h := z_ifp yc7 h
    refine lv_aload_n hx hb dX5_task_13 rfl (lv_at hl 0 rfl) ?_
    refine gt_X5_0 hx hb hts hown hK hP (hts _ wl_1_175) dX5_task_14 ?_
    refine lv_aload_n hx hb dX5_task_17 rfl (lv_at hl 0 rfl) ?_
    refine gt_X5_1 hx hb hts hown hK hP (hts _ wl_1_176) dX5_task_18 ?_
    obtain ⟨yd3, yhc21, h⟩ := z_brx h
    refine z_kv (z_rV (As := [.ref (ad 29)]) (rest := []) ⟨hx, hb, hml, hown, hts⟩ hK hP (w_X3 st_1) rfl (kX3_copyFrom hI st_1 st_29 yhc21) giX5_69 ⟨rfl, rfl⟩ ndX3_copyFrom ⟨Nat.le_of_ble_eq_true rfl, Nat.le_of_ble_eq_true rfl⟩ rfl hl.1 rfl (Nat.le_of_ble_eq_true rfl) ⟨Nat.le_refl _, Nat.le_refl _⟩ dX5_task_21) hS (fun H locs hP hS => ?_)
    refine lv_aload_n hx hb dX5_task_24 rfl (lv_at hl 0 rfl) ?_
    obtain ⟨yd4, yhc25, h⟩ := z_brx h
    refine z_kv (z_rV (As := []) (rest := []) ⟨hx, hb, hml, hown, hts⟩ hK hP w_X5 rfl (kX5_forgetActions hI yhc25) giX5_73 ⟨rfl, rfl⟩ ndX5_forgetActions ⟨Nat.le_of_ble_eq_true rfl, Nat.le_of_ble_eq_true rfl⟩ rfl hl.1 rfl (Nat.le_of_ble_eq_true rfl) ⟨Nat.le_refl _, Nat.le_refl _⟩ dX5_task_25) hS (fun H locs hP hS => ?_)
    refine lv_iconst (v := (0 : Int32)) hx hb dX5_task_28 (by decide) ?_
    refine lv_istore_n (lv' := [(1, .int (0 : Int32)), (0, .ref (ad 0))]) hx hb dX5_task_29 rfl hl (by decide) rfl (fun ls hl => ?_)
    obtain ⟨yt30, hlp, h⟩ := z_brx h
    obtain ⟨yn30, hlp⟩ := z_lpx hlp
    have hE48 : ∀ (yd9 : Dt) (H : Heap) (locs : List Loc) (ls : Array Slot), yd9 = yt30 → va_P D vwCl (WC G ad yd9) H → va_S A s.heap H locs → lv_has ls 2 [(0, .ref (ad 0))] → W p l e (z_rm 6 151) s m args below meth c H locs 0 0 Q (F0 m 48 ls []) := by
      intro yd9 H locs ls et hP hS hl
      subst et
      have h : (some ((yd9.1 1 2), yd9)) = some (rr, dd) := h
      refine lv_aload_n hx hb dX5_task_48 rfl (lv_at hl 0 rfl) ?_
      refine gt_X5_0 hx hb hts hown hK hP (hts _ wl_1_175) dX5_task_49 ?_
      refine gt_X3_2 hx hb hts hown hK hP st_1 (hts _ wl_1_118) dX5_task_52 ?_
      exact hRet _ _ _ _ _ _ hP hS h dX5_task_55
    have hL30 : ∀ (n : Nat) (yv5 : Int32) (yd6 : Dt) (H : Heap) (locs : List Loc) (ls : Array Slot), z_it (bX5_task_30) n (yv5, yd6) = some yt30 → va_P D vwCl (WC G ad yd6) H → va_S A s.heap H locs → lv_has ls 2 [(0, .ref (ad 0)), (1, .int yv5)] → W p l e (z_rm 6 151) s m args below meth c H locs 0 0 Q (F0 m 30 ls []) := by
      intro n
      induction n with
      | zero => intro yv5 yd6 H locs ls hn; exact z_it0 hn
      | succ n ih =>
        intro yv5 yd6 H locs ls hn hP hS hl
        obtain ⟨yq30, h, hq1, hq2⟩ := z_itx hn
        have h : (zif ((2 : Int32) ≤ yv5) (some (.inr yd6)) (z_gd (z_in yv5 2) (z_nm (z_st yd6 59 (z_ix yv5) (0 : Int32)) fun yd7 => z_nm (yv5 + (1 : Int32)) fun yv8 => some (.inl (yv8, yd7))))) = some yq30 := h
        refine lv_iload_n hx hb dX5_task_30 rfl (lv_at hl 1 rfl) ?_
        refine lv_iconst (v := (2 : Int32)) hx hb dX5_task_31 (by decide) ?_
        refine lv_icmp_ge (tgt := 48) hx hb dX5_task_32 (by decide) (fun yc32 => ?_) (fun yc32 => ?_)
        · have h := z_ifp yc32 h
          exact hE48 _ _ _ _ (hq2 _ (z_sm h).symm) hP hS (lv_sub hl [0] rfl)
        · have h := z_ifn yc32 h
          refine lv_aload_n hx hb dX5_task_35 rfl (lv_at hl 0 rfl) ?_
          refine gt_X5_4 hx hb hts hown hK hP (hts _ wl_1_179) dX5_task_36 ?_
          refine lv_iload_n hx hb dX5_task_39 rfl (lv_at hl 1 rfl) ?_
          refine lv_iconst (v := (0 : Int32)) hx hb dX5_task_40 (by decide) ?_
          obtain ⟨yg41, h⟩ := z_gi h
          refine zs_C hx hb hK hP hI hS yg41 dX5_task_41 (by decide) (fun H locs yd7 e_yd7 hP hS => ?_)
          have h := z_nma e_yd7 h
          obtain ⟨yv8, e_yv8, h⟩ := z_nmx h
          refine lv_iinc (v := yv8) (lv' := [(1, .int yv8), (0, .ref (ad 0))]) hx hb dX5_task_42 hl (k := 1) rfl (by rw [e_yv8]; rfl) (by decide) rfl (fun ls hl => ?_)
          refine lv_goto (tgt := 30) hx hb dX5_task_45 (by decide) ?_
          exact ih _ _ _ _ _ (hq1 _ (z_sm h).symm) hP hS (lv_sub hl [1, 0] rfl)
    exact hL30 yn30 _ _ _ _ _ hlp hP hS (lv_sub hl [1, 0] rfl)
  · have h := z_ifn yc7 h
    refine lv_bipush (v := (-3 : Int32)) hx hb dX5_task_10 (by decide) ?_
    exact hRet _ _ _ _ _ _ hP hS h dX5_task_12
noncomputable def fX5_about (yd : Dt) (yx1 : Int32) : Option Int32 :=
  zif (yx1 = (0 : Int32)) (some (yd.1 1 2)) (zif (yx1 = (1 : Int32)) (some (yd.1 2 6)) (zif (yx1 = (2 : Int32)) (some (yd.1 2 7)) (zif (yx1 = (3 : Int32)) (z_br (fX0_currentDepth yd 2) fun yr1 => some yr1) (zif (yx1 = (4 : Int32)) (some (yd.1 2 8)) (zif (yx1 = (5 : Int32)) (z_br (fX3_differentPrefixes yd 1) fun yr2 => some yr2) (zif (yx1 = (6 : Int32)) (some (yd.1 0 13)) (zif (yx1 = (7 : Int32)) (some (yd.1 0 15)) (zif (yx1 = (8 : Int32)) (some (yd.1 0 12)) (some (-2 : Int32))))))))))
set_option maxHeartbeats 4000000 in
set_option maxRecDepth 100000 in
theorem kX5_about {l : Launch} {D : va_G} {G : z_G} {ad : Nat → Nat} {A : Nat → Prop} (hI : ∀ d, va_D A (WC G ad d)) {yd : Dt} {yx1 : Int32}  {rr : Int32} (h : fX5_about yd yx1 = some rr) : z_Mi l D G A (WC G ad) yX5_about cX5_about 2 (z_rm 3 69) yd [.ref (ad 0), .int yx1] rr yd := by
  refine z_ofi (by decide) (Nat.le_of_ble_eq_true rfl) fun p e s m args below meth c Q hx hb hml hown hts hK hP hRet ls hl => ?_
  have hS : va_S A s.heap s.heap [] := va_S.rf
  have hl : lv_has ls 2 [(0, .ref (ad 0)), (1, .int yx1)] := hl
  have h : (zif (yx1 = (0 : Int32)) (some (yd.1 1 2)) (zif (yx1 = (1 : Int32)) (some (yd.1 2 6)) (zif (yx1 = (2 : Int32)) (some (yd.1 2 7)) (zif (yx1 = (3 : Int32)) (z_br (fX0_currentDepth yd 2) fun yr1 => some yr1) (zif (yx1 = (4 : Int32)) (some (yd.1 2 8)) (zif (yx1 = (5 : Int32)) (z_br (fX3_differentPrefixes yd 1) fun yr2 => some yr2) (zif (yx1 = (6 : Int32)) (some (yd.1 0 13)) (zif (yx1 = (7 : Int32)) (some (yd.1 0 15)) (zif (yx1 = (8 : Int32)) (some (yd.1 0 12)) (some (-2 : Int32))))))))))) = some rr := h
  refine lv_iload_n hx hb dX5_about_0 rfl (lv_at hl 1 rfl) ?_
  by_cases yk1_0 : yx1 = (0 : Int32)
  · have h := z_ifp yk1_0 h
    refine lv_tableIn (off := (51)) (tgt := 52) hx hb dX5_about_1 (by rw [yk1_0]; decide) (by rw [yk1_0]; decide) (by rw [yk1_0]; rfl) (by decide) ?_
    refine lv_aload_n hx hb dX5_about_52 rfl (lv_at hl 0 rfl) ?_
    refine gt_X5_0 hx hb hts hown hK hP (hts _ wl_1_175) dX5_about_53 ?_
    refine gt_X3_2 hx hb hts hown hK hP st_1 (hts _ wl_1_118) dX5_about_56 ?_
    exact hRet _ _ _ _ _ _ hP hS (z_pair h) dX5_about_59
  have h := z_ifn yk1_0 h
  by_cases yk1_1 : yx1 = (1 : Int32)
  · have h := z_ifp yk1_1 h
    refine lv_tableIn (off := (59)) (tgt := 60) hx hb dX5_about_1 (by rw [yk1_1]; decide) (by rw [yk1_1]; decide) (by rw [yk1_1]; rfl) (by decide) ?_
    refine lv_aload_n hx hb dX5_about_60 rfl (lv_at hl 0 rfl) ?_
    refine gt_X5_0 hx hb hts hown hK hP (hts _ wl_1_175) dX5_about_61 ?_
    refine gt_X3_0 hx hb hts hown hK hP st_1 (hts _ wl_1_114) dX5_about_64 ?_
    refine gt_X0_6 hx hb hts hown hK hP (el_st st_1) (hts _ wl_1_48) dX5_about_67 ?_
    exact hRet _ _ _ _ _ _ hP hS (z_pair h) dX5_about_70
  have h := z_ifn yk1_1 h
  by_cases yk1_2 : yx1 = (2 : Int32)
  · have h := z_ifp yk1_2 h
    refine lv_tableIn (off := (70)) (tgt := 71) hx hb dX5_about_1 (by rw [yk1_2]; decide) (by rw [yk1_2]; decide) (by rw [yk1_2]; rfl) (by decide) ?_
    refine lv_aload_n hx hb dX5_about_71 rfl (lv_at hl 0 rfl) ?_
    refine gt_X5_0 hx hb hts hown hK hP (hts _ wl_1_175) dX5_about_72 ?_
    refine gt_X3_0 hx hb hts hown hK hP st_1 (hts _ wl_1_114) dX5_about_75 ?_
    refine gt_X0_7 hx hb hts hown hK hP (el_st st_1) (hts _ wl_1_50) dX5_about_78 ?_
    exact hRet _ _ _ _ _ _ hP hS (z_pair h) dX5_about_81
  have h := z_ifn yk1_2 h
  by_cases yk1_3 : yx1 = (3 : Int32)
  · have h := z_ifp yk1_3 h
    refine lv_tableIn (off := (81)) (tgt := 82) hx hb dX5_about_1 (by rw [yk1_3]; decide) (by rw [yk1_3]; decide) (by rw [yk1_3]; rfl) (by decide) ?_
    refine lv_aload_n hx hb dX5_about_82 rfl (lv_at hl 0 rfl) ?_
    refine gt_X5_0 hx hb hts hown hK hP (hts _ wl_1_175) dX5_about_83 ?_
    refine gt_X3_0 hx hb hts hown hK hP st_1 (hts _ wl_1_114) dX5_about_86 ?_
    obtain ⟨yr1, yhc89, h⟩ := z_brx h
    refine z_ki (z_rV (As := []) (rest := []) ⟨hx, hb, hml, hown, hts⟩ hK hP (w_X0 (el_st st_1)) rfl (kX0_currentDepth hI (el_st st_1) yhc89) giX5_91 ⟨rfl, rfl⟩ ndX0_currentDepth ⟨Nat.le_of_ble_eq_true rfl, Nat.le_of_ble_eq_true rfl⟩ rfl hl.1 rfl (Nat.le_of_ble_eq_true rfl) ⟨Nat.le_refl _, Nat.le_refl _⟩ dX5_about_89) hS (fun H locs hP hS => ?_)
    exact hRet _ _ _ _ _ _ hP hS (z_pair h) dX5_about_92
  have h := z_ifn yk1_3 h
  by_cases yk1_4 : yx1 = (4 : Int32)
  · have h := z_ifp yk1_4 h
    refine lv_tableIn (off := (92)) (tgt := 93) hx hb dX5_about_1 (by rw [yk1_4]; decide) (by rw [yk1_4]; decide) (by rw [yk1_4]; rfl) (by decide) ?_
    refine lv_aload_n hx hb dX5_about_93 rfl (lv_at hl 0 rfl) ?_
    refine gt_X5_0 hx hb hts hown hK hP (hts _ wl_1_175) dX5_about_94 ?_
    refine gt_X3_0 hx hb hts hown hK hP st_1 (hts _ wl_1_114) dX5_about_97 ?_
    refine gt_X0_8 hx hb hts hown hK hP (el_st st_1) (hts _ wl_1_53) dX5_about_100 ?_
    exact hRet _ _ _ _ _ _ hP hS (z_pair h) dX5_about_103
  have h := z_ifn yk1_4 h
  by_cases yk1_5 : yx1 = (5 : Int32)
  · have h := z_ifp yk1_5 h
    refine lv_tableIn (off := (103)) (tgt := 104) hx hb dX5_about_1 (by rw [yk1_5]; decide) (by rw [yk1_5]; decide) (by rw [yk1_5]; rfl) (by decide) ?_
    refine lv_aload_n hx hb dX5_about_104 rfl (lv_at hl 0 rfl) ?_
    refine gt_X5_0 hx hb hts hown hK hP (hts _ wl_1_175) dX5_about_105 ?_
    obtain ⟨yr2, yhc108, h⟩ := z_brx h
    refine z_ki (z_rV (As := []) (rest := []) ⟨hx, hb, hml, hown, hts⟩ hK hP (w_X3 st_1) rfl (kX3_differentPrefixes hI st_1 yhc108) giX5_98 ⟨rfl, rfl⟩ ndX3_differentPrefixes ⟨Nat.le_of_ble_eq_true rfl, Nat.le_of_ble_eq_true rfl⟩ rfl hl.1 rfl (Nat.le_of_ble_eq_true rfl) ⟨Nat.le_refl _, Nat.le_refl _⟩ dX5_about_108) hS (fun H locs hP hS => ?_)
    exact hRet _ _ _ _ _ _ hP hS (z_pair h) dX5_about_111
  have h := z_ifn yk1_5 h
  by_cases yk1_6 : yx1 = (6 : Int32)
  · have h := z_ifp yk1_6 h
    refine lv_tableIn (off := (111)) (tgt := 112) hx hb dX5_about_1 (by rw [yk1_6]; decide) (by rw [yk1_6]; decide) (by rw [yk1_6]; rfl) (by decide) ?_
    refine lv_aload_n hx hb dX5_about_112 rfl (lv_at hl 0 rfl) ?_
    refine gt_X5_13 hx hb hts hown hK hP (hts _ wl_1_188) dX5_about_113 ?_
    exact hRet _ _ _ _ _ _ hP hS (z_pair h) dX5_about_116
  have h := z_ifn yk1_6 h
  by_cases yk1_7 : yx1 = (7 : Int32)
  · have h := z_ifp yk1_7 h
    refine lv_tableIn (off := (116)) (tgt := 117) hx hb dX5_about_1 (by rw [yk1_7]; decide) (by rw [yk1_7]; decide) (by rw [yk1_7]; rfl) (by decide) ?_
    refine lv_aload_n hx hb dX5_about_117 rfl (lv_at hl 0 rfl) ?_
    refine gt_X5_15 hx hb hts hown hK hP (hts _ wl_1_190) dX5_about_118 ?_
    exact hRet _ _ _ _ _ _ hP hS (z_pair h) dX5_about_121
  have h := z_ifn yk1_7 h
  by_cases yk1_8 : yx1 = (8 : Int32)
  · have h := z_ifp yk1_8 h
    refine lv_tableIn (off := (121)) (tgt := 122) hx hb dX5_about_1 (by rw [yk1_8]; decide) (by rw [yk1_8]; decide) (by rw [yk1_8]; rfl) (by decide) ?_
    refine lv_aload_n hx hb dX5_about_122 rfl (lv_at hl 0 rfl) ?_
    refine gt_X5_12 hx hb hts hown hK hP (hts _ wl_1_187) dX5_about_123 ?_
    exact hRet _ _ _ _ _ _ hP hS (z_pair h) dX5_about_126
  have h := z_ifn yk1_8 h
  refine lv_tableOut (tgt := 127) hx hb dX5_about_1 (by have q0 := lv_neT yk1_0 (a := 0) rfl; have q1 := lv_neT yk1_1 (a := 1) rfl; have q2 := lv_neT yk1_2 (a := 2) rfl; have q3 := lv_neT yk1_3 (a := 3) rfl; have q4 := lv_neT yk1_4 (a := 4) rfl; have q5 := lv_neT yk1_5 (a := 5) rfl; have q6 := lv_neT yk1_6 (a := 6) rfl; have q7 := lv_neT yk1_7 (a := 7) rfl; have q8 := lv_neT yk1_8 (a := 8) rfl; omega) (by decide) ?_
  refine lv_bipush (v := (-2 : Int32)) hx hb dX5_about_127 (by decide) ?_
  exact hRet _ _ _ _ _ _ hP hS (z_pair h) dX5_about_129
