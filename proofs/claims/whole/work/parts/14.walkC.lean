noncomputable def fX5_ask (yd : Dt) (yx1 : Int32) (yx2 : Int64) : Option (Int32 × Dt) :=
  zif (yx1 < (1 : Int32)) (some ((-2 : Int32), yd)) (zif ((4 : Int32) < yx1) (some ((-2 : Int32), yd)) (z_bd (fX5_splits yd yx2 (10000 : Int32) yx1) fun yr1 yd2 => zif (yr1 = 0) (some ((-2 : Int32), yd2)) (z_br (fX5_partsAreSteps yd2 yx1) fun yr3 => zif (yr3 = 0) (some ((-2 : Int32), yd2)) (zif ((yd2.1 1 2) < (5 : Int32)) (z_br (fX5_recordAction yd2) fun yd4 => z_nm (yd4.1 1 2) fun yv5 => z_br (fX3_addPath yd4 1 70 yx1) fun yd6 => z_bd (fX3_emitOne yd6 1 yv5) fun yr7 yd8 => some (yv5, yd8)) (some ((-4 : Int32), yd2))))))
set_option maxHeartbeats 4000000 in
set_option maxRecDepth 100000 in
theorem kX5_ask {l : Launch} {D : va_G} {G : z_G} {ad : Nat → Nat} {A : Nat → Prop} (hI : ∀ d, va_D A (WC G ad d)) {yd : Dt} {yx1 : Int32} {yx2 : Int64}  {rr : Int32} {dd : Dt} (h : fX5_ask yd yx1 yx2 = some (rr, dd)) : z_Mi l D G A (WC G ad) yX5_ask cX5_ask 5 (z_rm 4 105) yd [.ref (ad 0), .int yx1, .long yx2] rr dd := by
  refine z_ofi (by decide) (Nat.le_of_ble_eq_true rfl) fun p e s m args below meth c Q hx hb hml hown hts hK hP hRet ls hl => ?_
  have hS : va_S A s.heap s.heap [] := va_S.rf
  have hl : lv_has ls 5 [(0, .ref (ad 0)), (1, .int yx1), (2, .long yx2)] := hl
  have h : (zif (yx1 < (1 : Int32)) (some ((-2 : Int32), yd)) (zif ((4 : Int32) < yx1) (some ((-2 : Int32), yd)) (z_bd (fX5_splits yd yx2 (10000 : Int32) yx1) fun yr1 yd2 => zif (yr1 = 0) (some ((-2 : Int32), yd2)) (z_br (fX5_partsAreSteps yd2 yx1) fun yr3 => zif (yr3 = 0) (some ((-2 : Int32), yd2)) (zif ((yd2.1 1 2) < (5 : Int32)) (z_br (fX5_recordAction yd2) fun yd4 => z_nm (yd4.1 1 2) fun yv5 => z_br (fX3_addPath yd4 1 70 yx1) fun yd6 => z_bd (fX3_emitOne yd6 1 yv5) fun yr7 yd8 => some (yv5, yd8)) (some ((-4 : Int32), yd2))))))) = some (rr, dd) := h
  refine lv_iload_n hx hb dX5_ask_0 rfl (lv_at hl 1 rfl) ?_
  refine lv_iconst (v := (1 : Int32)) hx hb dX5_ask_1 (by decide) ?_
  refine lv_icmp_lt (tgt := 30) hx hb dX5_ask_2 (by decide) (fun yc2 => ?_) (fun yc2 => ?_)
  · have h := z_ifp yc2 h
    refine lv_bipush (v := (-2 : Int32)) hx hb dX5_ask_30 (by decide) ?_
    exact hRet _ _ _ _ _ _ hP hS h dX5_ask_32
  · have h := z_ifn yc2 h
    refine lv_iload_n hx hb dX5_ask_5 rfl (lv_at hl 1 rfl) ?_
    refine lv_iconst (v := (4 : Int32)) hx hb dX5_ask_6 (by decide) ?_
    refine lv_icmp_gt (tgt := 30) hx hb dX5_ask_7 (by decide) (fun yc7 => ?_) (fun yc7 => ?_)
    · have h := z_ifp yc7 h
      refine lv_bipush (v := (-2 : Int32)) hx hb dX5_ask_30 (by decide) ?_
      exact hRet _ _ _ _ _ _ hP hS h dX5_ask_32
    · have h := z_ifn yc7 h
      refine lv_aload_n hx hb dX5_ask_10 rfl (lv_at hl 0 rfl) ?_
      refine lv_lload_n hx hb dX5_ask_11 rfl (lv_at hl 2 rfl) ?_
      refine lv_sipush (v := (10000 : Int32)) hx hb dX5_ask_12 (by decide) ?_
      refine lv_iload_n hx hb dX5_ask_15 rfl (lv_at hl 1 rfl) ?_
      obtain ⟨yr1, yd2, yhc16, h⟩ := z_bdx h
      refine z_kz (z_rV (As := [.long yx2, .int (10000 : Int32), .int yx1]) (rest := []) ⟨hx, hb, hml, hown, hts⟩ hK hP w_X5 rfl (kX5_splits hI yhc16) giX5_190 ⟨rfl, rfl⟩ ndX5_splits ⟨Nat.le_of_ble_eq_true rfl, Nat.le_of_ble_eq_true rfl⟩ rfl hl.1 rfl (Nat.le_of_ble_eq_true rfl) ⟨Nat.le_refl _, Nat.le_refl _⟩ dX5_ask_16) hS (fun H locs z_yr1 hP hS => ?_)
      refine lv_if_eq (tgt := 30) hx hb dX5_ask_19 (by decide) (fun yc19 => ?_) (fun yc19 => ?_)
      · have h := z_ifp yc19 h
        refine lv_bipush (v := (-2 : Int32)) hx hb dX5_ask_30 (by decide) ?_
        exact hRet _ _ _ _ _ _ hP hS h dX5_ask_32
      · have h := z_ifn yc19 h
        refine lv_aload_n hx hb dX5_ask_22 rfl (lv_at hl 0 rfl) ?_
        refine lv_iload_n hx hb dX5_ask_23 rfl (lv_at hl 1 rfl) ?_
        obtain ⟨yr3, yhc24, h⟩ := z_brx h
        refine z_kz (z_rV (As := [.int yx1]) (rest := []) ⟨hx, hb, hml, hown, hts⟩ hK hP w_X5 rfl (kX5_partsAreSteps hI yhc24) giX5_194 ⟨rfl, rfl⟩ ndX5_partsAreSteps ⟨Nat.le_of_ble_eq_true rfl, Nat.le_of_ble_eq_true rfl⟩ rfl hl.1 rfl (Nat.le_of_ble_eq_true rfl) ⟨Nat.le_refl _, Nat.le_refl _⟩ dX5_ask_24) hS (fun H locs z_yr3 hP hS => ?_)
        refine lv_if_ne (tgt := 33) hx hb dX5_ask_27 (by decide) (fun yc27 => ?_) (fun yc27 => ?_)
        · have h := z_ifn yc27 h
          refine lv_aload_n hx hb dX5_ask_33 rfl (lv_at hl 0 rfl) ?_
          refine gt_X5_0 hx hb hts hown hK hP (hts _ wl_1_175) dX5_ask_34 ?_
          refine gt_X3_2 hx hb hts hown hK hP st_1 (hts _ wl_1_118) dX5_ask_37 ?_
          refine lv_iconst (v := (5 : Int32)) hx hb dX5_ask_40 (by decide) ?_
          refine lv_icmp_lt (tgt := 47) hx hb dX5_ask_41 (by decide) (fun yc41 => ?_) (fun yc41 => ?_)
          · have h := z_ifp yc41 h
            refine lv_aload_n hx hb dX5_ask_47 rfl (lv_at hl 0 rfl) ?_
            obtain ⟨yd4, yhc48, h⟩ := z_brx h
            refine z_kv (z_rV (As := []) (rest := []) ⟨hx, hb, hml, hown, hts⟩ hK hP w_X5 rfl (kX5_recordAction hI yhc48) giX5_173 ⟨rfl, rfl⟩ ndX5_recordAction ⟨Nat.le_of_ble_eq_true rfl, Nat.le_of_ble_eq_true rfl⟩ rfl hl.1 rfl (Nat.le_of_ble_eq_true rfl) ⟨Nat.le_refl _, Nat.le_refl _⟩ dX5_ask_48) hS (fun H locs hP hS => ?_)
            refine lv_aload_n hx hb dX5_ask_51 rfl (lv_at hl 0 rfl) ?_
            refine gt_X5_0 hx hb hts hown hK hP (hts _ wl_1_175) dX5_ask_52 ?_
            refine gt_X3_2 hx hb hts hown hK hP st_1 (hts _ wl_1_118) dX5_ask_55 ?_
            refine lv_topi (fun yv5 e_yv5 => ?_)
            have h := z_nma e_yv5 h
            refine lv_istore (lv' := [(4, .int yv5), (0, .ref (ad 0)), (1, .int yx1), (2, .long yx2)]) hx hb dX5_ask_58 hl (by decide) rfl (fun ls hl => ?_)
            refine lv_aload_n hx hb dX5_ask_60 rfl (lv_at hl 1 rfl) ?_
            refine gt_X5_0 hx hb hts hown hK hP (hts _ wl_1_175) dX5_ask_61 ?_
            refine lv_aload_n hx hb dX5_ask_64 rfl (lv_at hl 1 rfl) ?_
            refine gt_X5_10 hx hb hts hown hK hP (hts _ wl_1_185) dX5_ask_65 ?_
            refine lv_iload_n hx hb dX5_ask_68 rfl (lv_at hl 2 rfl) ?_
            obtain ⟨yd6, yhc69, h⟩ := z_brx h
            refine z_kv (z_rV (As := [.ref (ad 70), .int yx1]) (rest := []) ⟨hx, hb, hml, hown, hts⟩ hK hP (w_X3 st_1) rfl (kX3_addPath hI st_1 rfl yhc69) giX5_197 ⟨rfl, rfl⟩ ndX3_addPath ⟨Nat.le_of_ble_eq_true rfl, Nat.le_of_ble_eq_true rfl⟩ rfl hl.1 rfl (Nat.le_of_ble_eq_true rfl) ⟨Nat.le_refl _, Nat.le_refl _⟩ dX5_ask_69) hS (fun H locs hP hS => ?_)
            refine lv_aload_n hx hb dX5_ask_72 rfl (lv_at hl 1 rfl) ?_
            refine gt_X5_0 hx hb hts hown hK hP (hts _ wl_1_175) dX5_ask_73 ?_
            refine lv_iload hx hb dX5_ask_76 (lv_at hl 0 rfl) ?_
            refine lv_aload_n hx hb dX5_ask_78 rfl (lv_at hl 1 rfl) ?_
            refine gt_X5_5 hx hb hts hown hK hP (hts _ wl_1_180) dX5_ask_79 ?_
            obtain ⟨yr7, yd8, yhc82, h⟩ := z_bdx h
            refine z_ki (z_rV (As := [.int yv5, .ref (ad 60)]) (rest := []) ⟨hx, hb, hml, hown, hts⟩ hK hP (w_X3 st_1) rfl (kX3_emitOne hI st_1 yhc82) giX5_201 ⟨rfl, rfl⟩ ndX3_emitOne ⟨Nat.le_of_ble_eq_true rfl, Nat.le_of_ble_eq_true rfl⟩ rfl hl.1 rfl (Nat.le_of_ble_eq_true rfl) ⟨Nat.le_refl _, Nat.le_refl _⟩ dX5_ask_82) hS (fun H locs hP hS => ?_)
            refine lv_pop hx hb dX5_ask_85 rfl ?_
            refine lv_iload hx hb dX5_ask_86 (lv_at hl 0 rfl) ?_
            exact hRet _ _ _ _ _ _ hP hS h dX5_ask_88
          · have h := z_ifn yc41 h
            refine lv_bipush (v := (-4 : Int32)) hx hb dX5_ask_44 (by decide) ?_
            exact hRet _ _ _ _ _ _ hP hS h dX5_ask_46
        · have h := z_ifp yc27 h
          refine lv_bipush (v := (-2 : Int32)) hx hb dX5_ask_30 (by decide) ?_
          exact hRet _ _ _ _ _ _ hP hS h dX5_ask_32
noncomputable def fX5_drop (yd : Dt) : Option (Int32 × Dt) :=
  zif (0 < (yd.1 1 2)) (z_br (fX5_recordAction yd) fun yd1 => z_nm (z_st yd1 1 2 ((yd1.1 1 2) - (1 : Int32))) fun yd2 => some ((yd2.1 1 2), yd2)) (some ((-3 : Int32), yd))
set_option maxHeartbeats 4000000 in
set_option maxRecDepth 100000 in
theorem kX5_drop {l : Launch} {D : va_G} {G : z_G} {ad : Nat → Nat} {A : Nat → Prop} (hI : ∀ d, va_D A (WC G ad d)) {yd : Dt}   {rr : Int32} {dd : Dt} (h : fX5_drop yd = some (rr, dd)) : z_Mi l D G A (WC G ad) yX5_drop cX5_drop 1 (z_rm 4 103) yd [.ref (ad 0)] rr dd := by
  refine z_ofi (by decide) (Nat.le_of_ble_eq_true rfl) fun p e s m args below meth c Q hx hb hml hown hts hK hP hRet ls hl => ?_
  have hS : va_S A s.heap s.heap [] := va_S.rf
  have hl : lv_has ls 1 [(0, .ref (ad 0))] := hl
  have h : (zif (0 < (yd.1 1 2)) (z_br (fX5_recordAction yd) fun yd1 => z_nm (z_st yd1 1 2 ((yd1.1 1 2) - (1 : Int32))) fun yd2 => some ((yd2.1 1 2), yd2)) (some ((-3 : Int32), yd))) = some (rr, dd) := h
  refine lv_aload_n hx hb dX5_drop_0 rfl (lv_at hl 0 rfl) ?_
  refine gt_X5_0 hx hb hts hown hK hP (hts _ wl_1_175) dX5_drop_1 ?_
  refine gt_X3_2 hx hb hts hown hK hP st_1 (hts _ wl_1_118) dX5_drop_4 ?_
  refine lv_if_gt (tgt := 13) hx hb dX5_drop_7 (by decide) (fun yc7 => ?_) (fun yc7 => ?_)
  · have h := z_ifp yc7 h
    refine lv_aload_n hx hb dX5_drop_13 rfl (lv_at hl 0 rfl) ?_
    obtain ⟨yd1, yhc14, h⟩ := z_brx h
    refine z_kv (z_rV (As := []) (rest := []) ⟨hx, hb, hml, hown, hts⟩ hK hP w_X5 rfl (kX5_recordAction hI yhc14) giX5_173 ⟨rfl, rfl⟩ ndX5_recordAction ⟨Nat.le_of_ble_eq_true rfl, Nat.le_of_ble_eq_true rfl⟩ rfl hl.1 rfl (Nat.le_of_ble_eq_true rfl) ⟨Nat.le_refl _, Nat.le_refl _⟩ dX5_drop_14) hS (fun H locs hP hS => ?_)
    refine lv_aload_n hx hb dX5_drop_17 rfl (lv_at hl 0 rfl) ?_
    refine gt_X5_0 hx hb hts hown hK hP (hts _ wl_1_175) dX5_drop_18 ?_
    refine lv_dup hx hb dX5_drop_21 rfl ?_
    refine gt_X3_2 hx hb hts hown hK hP st_1 (hts _ wl_1_118) dX5_drop_22 ?_
    refine lv_iconst (v := (1 : Int32)) hx hb dX5_drop_25 (by decide) ?_
    refine lv_isub hx hb dX5_drop_26 ?_
    refine pt_X3_2 hx hb hts hown hK hP hI hS st_1 (hts _ wl_1_118) dX5_drop_27 (fun H locs yd2 e_yd2 hP hS => ?_)
    have h := z_nma e_yd2 h
    refine lv_aload_n hx hb dX5_drop_30 rfl (lv_at hl 0 rfl) ?_
    refine gt_X5_0 hx hb hts hown hK hP (hts _ wl_1_175) dX5_drop_31 ?_
    refine gt_X3_2 hx hb hts hown hK hP st_1 (hts _ wl_1_118) dX5_drop_34 ?_
    exact hRet _ _ _ _ _ _ hP hS h dX5_drop_37
  · have h := z_ifn yc7 h
    refine lv_bipush (v := (-3 : Int32)) hx hb dX5_drop_10 (by decide) ?_
    exact hRet _ _ _ _ _ _ hP hS h dX5_drop_12
noncomputable def fX5_undo (yd : Dt) : Option (Int32 × Dt) :=
  zif (0 < (yd.1 0 13)) (z_nm (zif ((yd.1 0 14) ≤ 0) (13 : Int32) ((yd.1 0 14) - (1 : Int32))) fun yv1 => z_nm (z_st yd 0 14 yv1) fun yd2 => z_gd (z_in (yd2.1 0 14) 14) (z_br (fX3_copyFrom yd2 1 (72 + 28 * (z_ix (yd2.1 0 14)))) fun yd3 => z_nm (z_st yd3 0 13 ((yd3.1 0 13) - (1 : Int32))) fun yd4 => some ((yd4.1 0 13), yd4))) (some ((-3 : Int32), yd))
set_option maxHeartbeats 4000000 in
set_option maxRecDepth 100000 in
theorem kX5_undo {l : Launch} {D : va_G} {G : z_G} {ad : Nat → Nat} {A : Nat → Prop} (hI : ∀ d, va_D A (WC G ad d)) {yd : Dt}   {rr : Int32} {dd : Dt} (h : fX5_undo yd = some (rr, dd)) : z_Mi l D G A (WC G ad) yX5_undo cX5_undo 1 (z_rm 3 83) yd [.ref (ad 0)] rr dd := by
  refine z_ofi (by decide) (Nat.le_of_ble_eq_true rfl) fun p e s m args below meth c Q hx hb hml hown hts hK hP hRet ls hl => ?_
  have hS : va_S A s.heap s.heap [] := va_S.rf
  have hl : lv_has ls 1 [(0, .ref (ad 0))] := hl
  have h : (zif (0 < (yd.1 0 13)) (z_nm (zif ((yd.1 0 14) ≤ 0) (13 : Int32) ((yd.1 0 14) - (1 : Int32))) fun yv1 => z_nm (z_st yd 0 14 yv1) fun yd2 => z_gd (z_in (yd2.1 0 14) 14) (z_br (fX3_copyFrom yd2 1 (72 + 28 * (z_ix (yd2.1 0 14)))) fun yd3 => z_nm (z_st yd3 0 13 ((yd3.1 0 13) - (1 : Int32))) fun yd4 => some ((yd4.1 0 13), yd4))) (some ((-3 : Int32), yd))) = some (rr, dd) := h
  refine lv_aload_n hx hb dX5_undo_0 rfl (lv_at hl 0 rfl) ?_
  refine gt_X5_13 hx hb hts hown hK hP (hts _ wl_1_188) dX5_undo_1 ?_
  refine lv_if_gt (tgt := 10) hx hb dX5_undo_4 (by decide) (fun yc4 => ?_) (fun yc4 => ?_)
  · have h := z_ifp yc4 h
    refine lv_aload_n hx hb dX5_undo_10 rfl (lv_at hl 0 rfl) ?_
    refine lv_aload_n hx hb dX5_undo_11 rfl (lv_at hl 0 rfl) ?_
    refine gt_X5_14 hx hb hts hown hK hP (hts _ wl_1_189) dX5_undo_12 ?_
    have hM29 : ∀ (yv1 : Int32) (H : Heap) (locs : List Loc), yv1 = (zif ((yd.1 0 14) ≤ 0) (13 : Int32) ((yd.1 0 14) - (1 : Int32))) → va_P D vwCl (WC G ad yd) H → va_S A s.heap H locs → W p l e (z_rm 3 83) s m args below meth c H locs 0 0 Q (F0 m 29 ls [.int yv1, .ref (ad 0)]) := by
      intro yv1 H locs e_yv1 hP hS
      have h := z_nma e_yv1 h
      refine pt_X5_14 hx hb hts hown hK hP hI hS (hts _ wl_1_189) dX5_undo_29 (fun H locs yd2 e_yd2 hP hS => ?_)
      have h := z_nma e_yd2 h
      refine lv_aload_n hx hb dX5_undo_32 rfl (lv_at hl 0 rfl) ?_
      refine gt_X5_0 hx hb hts hown hK hP (hts _ wl_1_175) dX5_undo_33 ?_
      refine lv_aload_n hx hb dX5_undo_36 rfl (lv_at hl 0 rfl) ?_
      refine gt_X5_2 hx hb hts hown hK hP (hts _ wl_1_177) dX5_undo_37 ?_
      refine lv_aload_n hx hb dX5_undo_40 rfl (lv_at hl 0 rfl) ?_
      refine gt_X5_14 hx hb hts hown hK hP (hts _ wl_1_189) dX5_undo_41 ?_
      obtain ⟨yg44, h⟩ := z_gi h
      refine rl_57 hx hb hK hP yg44 dX5_undo_44 ?_
      obtain ⟨yd3, yhc45, h⟩ := z_brx h
      refine z_kv (z_rV (As := [.ref (ad (72 + 28 * (z_ix (yd2.1 0 14))))]) (rest := []) ⟨hx, hb, hml, hown, hts⟩ hK hP (w_X3 st_1) rfl (kX3_copyFrom hI st_1 (st_bef yg44) yhc45) giX5_69 ⟨rfl, rfl⟩ ndX3_copyFrom ⟨Nat.le_of_ble_eq_true rfl, Nat.le_of_ble_eq_true rfl⟩ rfl hl.1 rfl (Nat.le_of_ble_eq_true rfl) ⟨Nat.le_refl _, Nat.le_refl _⟩ dX5_undo_45) hS (fun H locs hP hS => ?_)
      refine lv_aload_n hx hb dX5_undo_48 rfl (lv_at hl 0 rfl) ?_
      refine lv_dup hx hb dX5_undo_49 rfl ?_
      refine gt_X5_13 hx hb hts hown hK hP (hts _ wl_1_188) dX5_undo_50 ?_
      refine lv_iconst (v := (1 : Int32)) hx hb dX5_undo_53 (by decide) ?_
      refine lv_isub hx hb dX5_undo_54 ?_
      refine pt_X5_13 hx hb hts hown hK hP hI hS (hts _ wl_1_188) dX5_undo_55 (fun H locs yd4 e_yd4 hP hS => ?_)
      have h := z_nma e_yd4 h
      refine lv_aload_n hx hb dX5_undo_58 rfl (lv_at hl 0 rfl) ?_
      refine gt_X5_13 hx hb hts hown hK hP (hts _ wl_1_188) dX5_undo_59 ?_
      exact hRet _ _ _ _ _ _ hP hS h dX5_undo_62
    refine lv_if_le (tgt := 27) hx hb dX5_undo_15 (by decide) (fun yc15 => ?_) (fun yc15 => ?_)
    · refine lv_bipush (v := (13 : Int32)) hx hb dX5_undo_27 (by decide) ?_
      exact hM29 _ _ _ (z_tp yc15 rfl) hP hS
    · refine lv_aload_n hx hb dX5_undo_18 rfl (lv_at hl 0 rfl) ?_
      refine gt_X5_14 hx hb hts hown hK hP (hts _ wl_1_189) dX5_undo_19 ?_
      refine lv_iconst (v := (1 : Int32)) hx hb dX5_undo_22 (by decide) ?_
      refine lv_isub hx hb dX5_undo_23 ?_
      refine lv_goto (tgt := 29) hx hb dX5_undo_24 (by decide) ?_
      exact hM29 _ _ _ (z_tn yc15 rfl) hP hS
  · have h := z_ifn yc4 h
    refine lv_bipush (v := (-3 : Int32)) hx hb dX5_undo_7 (by decide) ?_
    exact hRet _ _ _ _ _ _ hP hS h dX5_undo_9
noncomputable def fX5_answersOf (yd : Dt) (ya1 : Nat) (yx2 : Int32) : Option (Int32 × Dt) :=
  z_gd (z_in yx2 5) (z_br (fX1_match yd (ya1 + 1) ((ya1 + 8) + 4 * (z_ix yx2))) fun yd1 => some ((yd1.1 60 4), yd1))
set_option maxHeartbeats 4000000 in
set_option maxRecDepth 100000 in
theorem kX5_answersOf {l : Launch} {D : va_G} {G : z_G} {ad : Nat → Nat} {A : Nat → Prop} (hI : ∀ d, va_D A (WC G ad d)) {yd : Dt} {ya1 : Nat} {yx2 : Int32} (yh1 : isSt ya1) {rr : Int32} {dd : Dt} (h : fX5_answersOf yd ya1 yx2 = some (rr, dd)) : z_Mi l D G A (WC G ad) yX5_answersOf cX5_answersOf 3 (z_rm 3 83) yd [.ref (ad 0), .ref (ad ya1), .int yx2] rr dd := by
  refine z_ofi (by decide) (Nat.le_of_ble_eq_true rfl) fun p e s m args below meth c Q hx hb hml hown hts hK hP hRet ls hl => ?_
  have hS : va_S A s.heap s.heap [] := va_S.rf
  have hl : lv_has ls 3 [(0, .ref (ad 0)), (1, .ref (ad ya1)), (2, .int yx2)] := hl
  have h : (z_gd (z_in yx2 5) (z_br (fX1_match yd (ya1 + 1) ((ya1 + 8) + 4 * (z_ix yx2))) fun yd1 => some ((yd1.1 60 4), yd1))) = some (rr, dd) := h
  refine lv_aload_n hx hb dX5_answersOf_0 rfl (lv_at hl 0 rfl) ?_
  refine gt_X5_5 hx hb hts hown hK hP (hts _ wl_1_180) dX5_answersOf_1 ?_
  refine lv_aload_n hx hb dX5_answersOf_4 rfl (lv_at hl 1 rfl) ?_
  refine gt_X3_0 hx hb hts hown hK hP yh1 (hts _ wl_1_114) dX5_answersOf_5 ?_
  refine lv_aload_n hx hb dX5_answersOf_8 rfl (lv_at hl 1 rfl) ?_
  refine gt_X3_1 hx hb hts hown hK hP yh1 (hts _ wl_1_116) dX5_answersOf_9 ?_
  refine lv_iload_n hx hb dX5_answersOf_12 rfl (lv_at hl 2 rfl) ?_
  obtain ⟨yg13, h⟩ := z_gi h
  refine rl_P hx hb hK hP yh1 yg13 dX5_answersOf_13 ?_
  obtain ⟨yd1, yhc14, h⟩ := z_brx h
  refine z_kv (z_rV (As := [.ref (ad (ya1 + 1)), .ref (ad ((ya1 + 8) + 4 * (z_ix yx2)))]) (rest := []) ⟨hx, hb, hml, hown, hts⟩ hK hP w_X1 rfl (kX1_match hI (el_st yh1) (pa_st yh1 yg13) yhc14) giX5_148 ⟨rfl, rfl⟩ ndX1_match ⟨Nat.le_of_ble_eq_true rfl, Nat.le_of_ble_eq_true rfl⟩ rfl hl.1 rfl (Nat.le_of_ble_eq_true rfl) ⟨Nat.le_refl _, Nat.le_refl _⟩ dX5_answersOf_14) hS (fun H locs hP hS => ?_)
  refine lv_aload_n hx hb dX5_answersOf_17 rfl (lv_at hl 0 rfl) ?_
  refine gt_X5_5 hx hb hts hown hK hP (hts _ wl_1_180) dX5_answersOf_18 ?_
  refine gt_X1_4 hx hb hts hown hK hP (hts _ wl_1_141) dX5_answersOf_21 ?_
  exact hRet _ _ _ _ _ _ hP hS h dX5_answersOf_24
noncomputable def fX5_within (yd : Dt) (yx1 : Int32) (yx2 : Int32) : Option (Int32 × Dt) :=
  z_br (fX5_isPath yd yx1) fun yr1 => zif (yr1 = 0) (some ((-1 : Int32), yd)) (z_br (fX5_isPath yd yx2) fun yr2 => zif (yr2 = 0) (some ((-1 : Int32), yd)) (z_bd (fX5_answersOf yd 1 yx1) fun yr3 yd4 => z_bd (fX5_answersOf yd4 1 yx2) fun yr5 yd6 => zif ((yr3 &&& (yr5 ^^^ (-1 : Int32))) = 0) (some ((1 : Int32), yd6)) (some ((0 : Int32), yd6))))
set_option maxHeartbeats 4000000 in
set_option maxRecDepth 100000 in
theorem kX5_within {l : Launch} {D : va_G} {G : z_G} {ad : Nat → Nat} {A : Nat → Prop} (hI : ∀ d, va_D A (WC G ad d)) {yd : Dt} {yx1 : Int32} {yx2 : Int32}  {rr : Int32} {dd : Dt} (h : fX5_within yd yx1 yx2 = some (rr, dd)) : z_Mi l D G A (WC G ad) yX5_within cX5_within 5 (z_rm 4 105) yd [.ref (ad 0), .int yx1, .int yx2] rr dd := by
  refine z_ofi (by decide) (Nat.le_of_ble_eq_true rfl) fun p e s m args below meth c Q hx hb hml hown hts hK hP hRet ls hl => ?_
  have hS : va_S A s.heap s.heap [] := va_S.rf
  have hl : lv_has ls 5 [(0, .ref (ad 0)), (1, .int yx1), (2, .int yx2)] := hl
  have h : (z_br (fX5_isPath yd yx1) fun yr1 => zif (yr1 = 0) (some ((-1 : Int32), yd)) (z_br (fX5_isPath yd yx2) fun yr2 => zif (yr2 = 0) (some ((-1 : Int32), yd)) (z_bd (fX5_answersOf yd 1 yx1) fun yr3 yd4 => z_bd (fX5_answersOf yd4 1 yx2) fun yr5 yd6 => zif ((yr3 &&& (yr5 ^^^ (-1 : Int32))) = 0) (some ((1 : Int32), yd6)) (some ((0 : Int32), yd6))))) = some (rr, dd) := h
  refine lv_aload_n hx hb dX5_within_0 rfl (lv_at hl 0 rfl) ?_
  refine lv_iload_n hx hb dX5_within_1 rfl (lv_at hl 1 rfl) ?_
  obtain ⟨yr1, yhc2, h⟩ := z_brx h
  refine z_kz (z_rV (As := [.int yx1]) (rest := []) ⟨hx, hb, hml, hown, hts⟩ hK hP w_X5 rfl (kX5_isPath hI yhc2) giX5_129 ⟨rfl, rfl⟩ ndX5_isPath ⟨Nat.le_of_ble_eq_true rfl, Nat.le_of_ble_eq_true rfl⟩ rfl hl.1 rfl (Nat.le_of_ble_eq_true rfl) ⟨Nat.le_refl _, Nat.le_refl _⟩ dX5_within_2) hS (fun H locs z_yr1 hP hS => ?_)
  refine lv_if_eq (tgt := 16) hx hb dX5_within_5 (by decide) (fun yc5 => ?_) (fun yc5 => ?_)
  · have h := z_ifp yc5 h
    refine lv_iconst (v := (-1 : Int32)) hx hb dX5_within_16 (by decide) ?_
    exact hRet _ _ _ _ _ _ hP hS h dX5_within_17
  · have h := z_ifn yc5 h
    refine lv_aload_n hx hb dX5_within_8 rfl (lv_at hl 0 rfl) ?_
    refine lv_iload_n hx hb dX5_within_9 rfl (lv_at hl 2 rfl) ?_
    obtain ⟨yr2, yhc10, h⟩ := z_brx h
    refine z_kz (z_rV (As := [.int yx2]) (rest := []) ⟨hx, hb, hml, hown, hts⟩ hK hP w_X5 rfl (kX5_isPath hI yhc10) giX5_129 ⟨rfl, rfl⟩ ndX5_isPath ⟨Nat.le_of_ble_eq_true rfl, Nat.le_of_ble_eq_true rfl⟩ rfl hl.1 rfl (Nat.le_of_ble_eq_true rfl) ⟨Nat.le_refl _, Nat.le_refl _⟩ dX5_within_10) hS (fun H locs z_yr2 hP hS => ?_)
    refine lv_if_ne (tgt := 18) hx hb dX5_within_13 (by decide) (fun yc13 => ?_) (fun yc13 => ?_)
    · have h := z_ifn yc13 h
      refine lv_aload_n hx hb dX5_within_18 rfl (lv_at hl 0 rfl) ?_
      refine lv_aload_n hx hb dX5_within_19 rfl (lv_at hl 0 rfl) ?_
      refine gt_X5_0 hx hb hts hown hK hP (hts _ wl_1_175) dX5_within_20 ?_
      refine lv_iload_n hx hb dX5_within_23 rfl (lv_at hl 1 rfl) ?_
      obtain ⟨yr3, yd4, yhc24, h⟩ := z_bdx h
      refine z_ki (z_rV (As := [.ref (ad 1), .int yx1]) (rest := []) ⟨hx, hb, hml, hown, hts⟩ hK hP w_X5 rfl (kX5_answersOf hI st_1 yhc24) giX5_208 ⟨rfl, rfl⟩ ndX5_answersOf ⟨Nat.le_of_ble_eq_true rfl, Nat.le_of_ble_eq_true rfl⟩ rfl hl.1 rfl (Nat.le_of_ble_eq_true rfl) ⟨Nat.le_refl _, Nat.le_refl _⟩ dX5_within_24) hS (fun H locs hP hS => ?_)
      refine lv_istore_n (lv' := [(3, .int yr3), (0, .ref (ad 0)), (1, .int yx1), (2, .int yx2)]) hx hb dX5_within_27 rfl hl (by decide) rfl (fun ls hl => ?_)
      refine lv_aload_n hx hb dX5_within_28 rfl (lv_at hl 1 rfl) ?_
      refine lv_aload_n hx hb dX5_within_29 rfl (lv_at hl 1 rfl) ?_
      refine gt_X5_0 hx hb hts hown hK hP (hts _ wl_1_175) dX5_within_30 ?_
      refine lv_iload_n hx hb dX5_within_33 rfl (lv_at hl 3 rfl) ?_
      obtain ⟨yr5, yd6, yhc34, h⟩ := z_bdx h
      refine z_ki (z_rV (As := [.ref (ad 1), .int yx2]) (rest := []) ⟨hx, hb, hml, hown, hts⟩ hK hP w_X5 rfl (kX5_answersOf hI st_1 yhc34) giX5_208 ⟨rfl, rfl⟩ ndX5_answersOf ⟨Nat.le_of_ble_eq_true rfl, Nat.le_of_ble_eq_true rfl⟩ rfl hl.1 rfl (Nat.le_of_ble_eq_true rfl) ⟨Nat.le_refl _, Nat.le_refl _⟩ dX5_within_34) hS (fun H locs hP hS => ?_)
      refine lv_istore (lv' := [(4, .int yr5), (3, .int yr3), (0, .ref (ad 0)), (1, .int yx1), (2, .int yx2)]) hx hb dX5_within_37 hl (by decide) rfl (fun ls hl => ?_)
      refine lv_iload_n hx hb dX5_within_39 rfl (lv_at hl 1 rfl) ?_
      refine lv_iload hx hb dX5_within_40 (lv_at hl 0 rfl) ?_
      refine lv_iconst (v := (-1 : Int32)) hx hb dX5_within_42 (by decide) ?_
      refine lv_ixor hx hb dX5_within_43 ?_
      refine lv_iand hx hb dX5_within_44 ?_
      refine lv_if_ne (tgt := 52) hx hb dX5_within_45 (by decide) (fun yc45 => ?_) (fun yc45 => ?_)
      · have h := z_ifn yc45 h
        refine lv_iconst (v := (0 : Int32)) hx hb dX5_within_52 (by decide) ?_
        exact hRet _ _ _ _ _ _ hP hS h dX5_within_53
      · have h := z_ifp yc45 h
        refine lv_iconst (v := (1 : Int32)) hx hb dX5_within_48 (by decide) ?_
        refine lv_goto (tgt := 53) hx hb dX5_within_49 (by decide) ?_
        exact hRet _ _ _ _ _ _ hP hS h dX5_within_53
    · have h := z_ifp yc13 h
      refine lv_iconst (v := (-1 : Int32)) hx hb dX5_within_16 (by decide) ?_
      exact hRet _ _ _ _ _ _ hP hS h dX5_within_17
noncomputable def fX5_emitsAfter (yd : Dt) (yx1 : Int32) : Option (Int32 × Dt) :=
  zif (yx1 = 0) (some (yx1, yd)) (z_bd (fX3_emitAll yd 29) fun yr1 yd2 => some (yx1, yd2))
set_option maxHeartbeats 4000000 in
set_option maxRecDepth 100000 in
theorem kX5_emitsAfter {l : Launch} {D : va_G} {G : z_G} {ad : Nat → Nat} {A : Nat → Prop} (hI : ∀ d, va_D A (WC G ad d)) {yd : Dt} {yx1 : Int32} (z_yx1 : yx1 = 0 ∨ yx1 = 1) {rr : Int32} {dd : Dt} (h : fX5_emitsAfter yd yx1 = some (rr, dd)) : z_Mz l D G A (WC G ad) yX5_emitsAfter cX5_emitsAfter 2 (z_rm 5 128) yd [.ref (ad 0), .int yx1] rr dd := by
  refine z_ofz (by decide) (Nat.le_of_ble_eq_true rfl) fun p e s m args below meth c Q hx hb hml hown hts hK hP hRet ls hl => ?_
  have hS : va_S A s.heap s.heap [] := va_S.rf
  have hl : lv_has ls 2 [(0, .ref (ad 0)), (1, .int yx1)] := hl
  have h : (zif (yx1 = 0) (some (yx1, yd)) (z_bd (fX3_emitAll yd 29) fun yr1 yd2 => some (yx1, yd2))) = some (rr, dd) := h
  refine lv_iload_n hx hb dX5_emitsAfter_0 rfl (lv_at hl 1 rfl) ?_
  refine lv_if_eq (tgt := 16) hx hb dX5_emitsAfter_1 (by decide) (fun yc1 => ?_) (fun yc1 => ?_)
  · have h := z_ifp yc1 h
    refine lv_iload_n hx hb dX5_emitsAfter_16 rfl (lv_at hl 1 rfl) ?_
    exact hRet _ _ _ _ _ _ hP hS z_yx1 h dX5_emitsAfter_17
  · have h := z_ifn yc1 h
    refine lv_aload_n hx hb dX5_emitsAfter_4 rfl (lv_at hl 0 rfl) ?_
    refine gt_X5_1 hx hb hts hown hK hP (hts _ wl_1_176) dX5_emitsAfter_5 ?_
    refine lv_aload_n hx hb dX5_emitsAfter_8 rfl (lv_at hl 0 rfl) ?_
    refine gt_X5_5 hx hb hts hown hK hP (hts _ wl_1_180) dX5_emitsAfter_9 ?_
    obtain ⟨yr1, yd2, yhc12, h⟩ := z_bdx h
    refine z_ki (z_rV (As := [.ref (ad 60)]) (rest := []) ⟨hx, hb, hml, hown, hts⟩ hK hP (w_X3 st_29) rfl (kX3_emitAll hI st_29 yhc12) giX5_179 ⟨rfl, rfl⟩ ndX3_emitAll ⟨Nat.le_of_ble_eq_true rfl, Nat.le_of_ble_eq_true rfl⟩ rfl hl.1 rfl (Nat.le_of_ble_eq_true rfl) ⟨Nat.le_refl _, Nat.le_refl _⟩ dX5_emitsAfter_12) hS (fun H locs hP hS => ?_)
    refine lv_pop hx hb dX5_emitsAfter_15 rfl ?_
    refine lv_iload_n hx hb dX5_emitsAfter_16 rfl (lv_at hl 1 rfl) ?_
    exact hRet _ _ _ _ _ _ hP hS z_yx1 h dX5_emitsAfter_17
noncomputable def fX5_comesTrue (yd : Dt) (yx1 : Int32) (yx2 : Int32) (yx3 : Int32) : Option (Int32 × Dt) :=
  zif (yx1 = (1 : Int32)) (zif (yx2 = 0) (z_bd (fX0_enter yd 30 yx3) fun yr1 yd2 => z_bd (fX5_emitsAfter yd2 yr1) fun yr3 yd4 => zif (yr3 = 0) (some ((0 : Int32), yd4)) (some ((1 : Int32), yd4))) (some ((0 : Int32), yd))) (zif (yx1 = (2 : Int32)) (zif (yx2 = 0) (zif (yx3 = 0) (z_bd (fX0_leave yd 30) fun yr5 yd6 => z_bd (fX5_emitsAfter yd6 yr5) fun yr7 yd8 => zif (yr7 = 0) (some ((0 : Int32), yd8)) (some ((1 : Int32), yd8))) (some ((0 : Int32), yd))) (some ((0 : Int32), yd))) (zif (yx1 = (3 : Int32)) (zif (yx2 = 0) (z_bd (fX0_hold yd 30 yx3) fun yr9 yd10 => z_bd (fX5_emitsAfter yd10 yr9) fun yr11 yd12 => zif (yr11 = 0) (some ((0 : Int32), yd12)) (some ((1 : Int32), yd12))) (some ((0 : Int32), yd))) (zif (yx1 = (4 : Int32)) (zif ((yd.1 29 2) ≤ yx2) (some ((0 : Int32), yd)) (z_bd (fX5_pathNumber yd 29 yx2 (1 : Int32)) fun yr13 yd14 => zif (yr13 = yx3) (some ((1 : Int32), yd14)) (some ((0 : Int32), yd14)))) (zif (yx1 = (5 : Int32)) (zif ((yd.1 29 2) ≤ yx2) (some ((0 : Int32), yd)) (z_bd (fX5_pathNumber yd 29 yx2 (2 : Int32)) fun yr15 yd16 => zif (yr15 = yx3) (some ((1 : Int32), yd16)) (some ((0 : Int32), yd16)))) (zif (yx1 = (6 : Int32)) (zif ((yd.1 29 2) ≤ yx2) (some ((0 : Int32), yd)) (z_bd (fX5_pathNumber yd 29 yx2 (3 : Int32)) fun yr17 yd18 => zif (yr17 = yx3) (some ((1 : Int32), yd18)) (some ((0 : Int32), yd18)))) (zif (yx1 = (7 : Int32)) (zif (yx2 = 0) (z_br (fX0_currentDepth yd 30) fun yr19 => zif (yr19 = yx3) (some ((1 : Int32), yd)) (some ((0 : Int32), yd))) (some ((0 : Int32), yd))) (some ((0 : Int32), yd))))))))
set_option maxHeartbeats 4000000 in
set_option maxRecDepth 100000 in
theorem kX5_comesTrue {l : Launch} {D : va_G} {G : z_G} {ad : Nat → Nat} {A : Nat → Prop} (hI : ∀ d, va_D A (WC G ad d)) {yd : Dt} {yx1 : Int32} {yx2 : Int32} {yx3 : Int32}  {rr : Int32} {dd : Dt} (h : fX5_comesTrue yd yx1 yx2 yx3 = some (rr, dd)) : z_Mz l D G A (WC G ad) yX5_comesTrue cX5_comesTrue 4 (z_rm 6 149) yd [.ref (ad 0), .int yx1, .int yx2, .int yx3] rr dd := by
  refine z_ofz (by decide) (Nat.le_of_ble_eq_true rfl) fun p e s m args below meth c Q hx hb hml hown hts hK hP hRet ls hl => ?_
  have hS : va_S A s.heap s.heap [] := va_S.rf
  have hl : lv_has ls 4 [(0, .ref (ad 0)), (1, .int yx1), (2, .int yx2), (3, .int yx3)] := hl
  have h : (zif (yx1 = (1 : Int32)) (zif (yx2 = 0) (z_bd (fX0_enter yd 30 yx3) fun yr1 yd2 => z_bd (fX5_emitsAfter yd2 yr1) fun yr3 yd4 => zif (yr3 = 0) (some ((0 : Int32), yd4)) (some ((1 : Int32), yd4))) (some ((0 : Int32), yd))) (zif (yx1 = (2 : Int32)) (zif (yx2 = 0) (zif (yx3 = 0) (z_bd (fX0_leave yd 30) fun yr5 yd6 => z_bd (fX5_emitsAfter yd6 yr5) fun yr7 yd8 => zif (yr7 = 0) (some ((0 : Int32), yd8)) (some ((1 : Int32), yd8))) (some ((0 : Int32), yd))) (some ((0 : Int32), yd))) (zif (yx1 = (3 : Int32)) (zif (yx2 = 0) (z_bd (fX0_hold yd 30 yx3) fun yr9 yd10 => z_bd (fX5_emitsAfter yd10 yr9) fun yr11 yd12 => zif (yr11 = 0) (some ((0 : Int32), yd12)) (some ((1 : Int32), yd12))) (some ((0 : Int32), yd))) (zif (yx1 = (4 : Int32)) (zif ((yd.1 29 2) ≤ yx2) (some ((0 : Int32), yd)) (z_bd (fX5_pathNumber yd 29 yx2 (1 : Int32)) fun yr13 yd14 => zif (yr13 = yx3) (some ((1 : Int32), yd14)) (some ((0 : Int32), yd14)))) (zif (yx1 = (5 : Int32)) (zif ((yd.1 29 2) ≤ yx2) (some ((0 : Int32), yd)) (z_bd (fX5_pathNumber yd 29 yx2 (2 : Int32)) fun yr15 yd16 => zif (yr15 = yx3) (some ((1 : Int32), yd16)) (some ((0 : Int32), yd16)))) (zif (yx1 = (6 : Int32)) (zif ((yd.1 29 2) ≤ yx2) (some ((0 : Int32), yd)) (z_bd (fX5_pathNumber yd 29 yx2 (3 : Int32)) fun yr17 yd18 => zif (yr17 = yx3) (some ((1 : Int32), yd18)) (some ((0 : Int32), yd18)))) (zif (yx1 = (7 : Int32)) (zif (yx2 = 0) (z_br (fX0_currentDepth yd 30) fun yr19 => zif (yr19 = yx3) (some ((1 : Int32), yd)) (some ((0 : Int32), yd))) (some ((0 : Int32), yd))) (some ((0 : Int32), yd))))))))) = some (rr, dd) := h
  refine lv_iload_n hx hb dX5_comesTrue_0 rfl (lv_at hl 1 rfl) ?_
  by_cases yk1_1 : yx1 = (1 : Int32)
  · have h := z_ifp yk1_1 h
    refine lv_tableIn (off := (43)) (tgt := 44) hx hb dX5_comesTrue_1 (by rw [yk1_1]; decide) (by rw [yk1_1]; decide) (by rw [yk1_1]; rfl) (by decide) ?_
    refine lv_iload_n hx hb dX5_comesTrue_44 rfl (lv_at hl 2 rfl) ?_
    refine lv_if_ne (tgt := 70) hx hb dX5_comesTrue_45 (by decide) (fun yc45 => ?_) (fun yc45 => ?_)
    · have h := z_ifn yc45 h
      refine lv_iconst (v := (0 : Int32)) hx hb dX5_comesTrue_70 (by decide) ?_
      exact hRet _ _ _ _ _ _ hP hS (Or.inl rfl) h dX5_comesTrue_71
    · have h := z_ifp yc45 h
      refine lv_aload_n hx hb dX5_comesTrue_48 rfl (lv_at hl 0 rfl) ?_
      refine lv_aload_n hx hb dX5_comesTrue_49 rfl (lv_at hl 0 rfl) ?_
      refine gt_X5_1 hx hb hts hown hK hP (hts _ wl_1_176) dX5_comesTrue_50 ?_
      refine gt_X3_0 hx hb hts hown hK hP st_29 (hts _ wl_1_114) dX5_comesTrue_53 ?_
      refine lv_iload_n hx hb dX5_comesTrue_56 rfl (lv_at hl 3 rfl) ?_
      obtain ⟨yr1, yd2, yhc57, h⟩ := z_bdx h
      refine z_kz (z_rV (As := [.int yx3]) (rest := [.ref (ad 0)]) ⟨hx, hb, hml, hown, hts⟩ hK hP (w_X0 (el_st st_29)) rfl (kX0_enter hI (el_st st_29) yhc57) giX5_176 ⟨rfl, rfl⟩ ndX0_enter ⟨Nat.le_of_ble_eq_true rfl, Nat.le_of_ble_eq_true rfl⟩ rfl hl.1 rfl (Nat.le_of_ble_eq_true rfl) ⟨Nat.le_refl _, Nat.le_refl _⟩ dX5_comesTrue_57) hS (fun H locs z_yr1 hP hS => ?_)
      obtain ⟨yr3, yd4, yhc60, h⟩ := z_bdx h
      refine z_kz (z_rV (As := [.int yr1]) (rest := []) ⟨hx, hb, hml, hown, hts⟩ hK hP w_X5 rfl (kX5_emitsAfter hI z_yr1 yhc60) giX5_269 ⟨rfl, rfl⟩ ndX5_emitsAfter ⟨Nat.le_of_ble_eq_true rfl, Nat.le_of_ble_eq_true rfl⟩ rfl hl.1 rfl (Nat.le_of_ble_eq_true rfl) ⟨Nat.le_refl _, Nat.le_refl _⟩ dX5_comesTrue_60) hS (fun H locs z_yr3 hP hS => ?_)
      refine lv_if_eq (tgt := 70) hx hb dX5_comesTrue_63 (by decide) (fun yc63 => ?_) (fun yc63 => ?_)
      · have h := z_ifp yc63 h
        refine lv_iconst (v := (0 : Int32)) hx hb dX5_comesTrue_70 (by decide) ?_
        exact hRet _ _ _ _ _ _ hP hS (Or.inl rfl) h dX5_comesTrue_71
      · have h := z_ifn yc63 h
        refine lv_iconst (v := (1 : Int32)) hx hb dX5_comesTrue_66 (by decide) ?_
        refine lv_goto (tgt := 71) hx hb dX5_comesTrue_67 (by decide) ?_
        exact hRet _ _ _ _ _ _ hP hS (Or.inr rfl) h dX5_comesTrue_71
  have h := z_ifn yk1_1 h
  by_cases yk1_2 : yx1 = (2 : Int32)
  · have h := z_ifp yk1_2 h
    refine lv_tableIn (off := (71)) (tgt := 72) hx hb dX5_comesTrue_1 (by rw [yk1_2]; decide) (by rw [yk1_2]; decide) (by rw [yk1_2]; rfl) (by decide) ?_
    refine lv_iload_n hx hb dX5_comesTrue_72 rfl (lv_at hl 2 rfl) ?_
    refine lv_if_ne (tgt := 101) hx hb dX5_comesTrue_73 (by decide) (fun yc73 => ?_) (fun yc73 => ?_)
    · have h := z_ifn yc73 h
      refine lv_iconst (v := (0 : Int32)) hx hb dX5_comesTrue_101 (by decide) ?_
      exact hRet _ _ _ _ _ _ hP hS (Or.inl rfl) h dX5_comesTrue_102
    · have h := z_ifp yc73 h
      refine lv_iload_n hx hb dX5_comesTrue_76 rfl (lv_at hl 3 rfl) ?_
      refine lv_if_ne (tgt := 101) hx hb dX5_comesTrue_77 (by decide) (fun yc77 => ?_) (fun yc77 => ?_)
      · have h := z_ifn yc77 h
        refine lv_iconst (v := (0 : Int32)) hx hb dX5_comesTrue_101 (by decide) ?_
        exact hRet _ _ _ _ _ _ hP hS (Or.inl rfl) h dX5_comesTrue_102
      · have h := z_ifp yc77 h
        refine lv_aload_n hx hb dX5_comesTrue_80 rfl (lv_at hl 0 rfl) ?_
        refine lv_aload_n hx hb dX5_comesTrue_81 rfl (lv_at hl 0 rfl) ?_
        refine gt_X5_1 hx hb hts hown hK hP (hts _ wl_1_176) dX5_comesTrue_82 ?_
        refine gt_X3_0 hx hb hts hown hK hP st_29 (hts _ wl_1_114) dX5_comesTrue_85 ?_
        obtain ⟨yr5, yd6, yhc88, h⟩ := z_bdx h
        refine z_kz (z_rV (As := []) (rest := [.ref (ad 0)]) ⟨hx, hb, hml, hown, hts⟩ hK hP (w_X0 (el_st st_29)) rfl (kX0_leave hI (el_st st_29) yhc88) giX5_183 ⟨rfl, rfl⟩ ndX0_leave ⟨Nat.le_of_ble_eq_true rfl, Nat.le_of_ble_eq_true rfl⟩ rfl hl.1 rfl (Nat.le_of_ble_eq_true rfl) ⟨Nat.le_refl _, Nat.le_refl _⟩ dX5_comesTrue_88) hS (fun H locs z_yr5 hP hS => ?_)
        obtain ⟨yr7, yd8, yhc91, h⟩ := z_bdx h
        refine z_kz (z_rV (As := [.int yr5]) (rest := []) ⟨hx, hb, hml, hown, hts⟩ hK hP w_X5 rfl (kX5_emitsAfter hI z_yr5 yhc91) giX5_269 ⟨rfl, rfl⟩ ndX5_emitsAfter ⟨Nat.le_of_ble_eq_true rfl, Nat.le_of_ble_eq_true rfl⟩ rfl hl.1 rfl (Nat.le_of_ble_eq_true rfl) ⟨Nat.le_refl _, Nat.le_refl _⟩ dX5_comesTrue_91) hS (fun H locs z_yr7 hP hS => ?_)
        refine lv_if_eq (tgt := 101) hx hb dX5_comesTrue_94 (by decide) (fun yc94 => ?_) (fun yc94 => ?_)
        · have h := z_ifp yc94 h
          refine lv_iconst (v := (0 : Int32)) hx hb dX5_comesTrue_101 (by decide) ?_
          exact hRet _ _ _ _ _ _ hP hS (Or.inl rfl) h dX5_comesTrue_102
        · have h := z_ifn yc94 h
          refine lv_iconst (v := (1 : Int32)) hx hb dX5_comesTrue_97 (by decide) ?_
          refine lv_goto (tgt := 102) hx hb dX5_comesTrue_98 (by decide) ?_
          exact hRet _ _ _ _ _ _ hP hS (Or.inr rfl) h dX5_comesTrue_102
  have h := z_ifn yk1_2 h
  by_cases yk1_3 : yx1 = (3 : Int32)
  · have h := z_ifp yk1_3 h
    refine lv_tableIn (off := (102)) (tgt := 103) hx hb dX5_comesTrue_1 (by rw [yk1_3]; decide) (by rw [yk1_3]; decide) (by rw [yk1_3]; rfl) (by decide) ?_
    refine lv_iload_n hx hb dX5_comesTrue_103 rfl (lv_at hl 2 rfl) ?_
    refine lv_if_ne (tgt := 129) hx hb dX5_comesTrue_104 (by decide) (fun yc104 => ?_) (fun yc104 => ?_)
    · have h := z_ifn yc104 h
      refine lv_iconst (v := (0 : Int32)) hx hb dX5_comesTrue_129 (by decide) ?_
      exact hRet _ _ _ _ _ _ hP hS (Or.inl rfl) h dX5_comesTrue_130
    · have h := z_ifp yc104 h
      refine lv_aload_n hx hb dX5_comesTrue_107 rfl (lv_at hl 0 rfl) ?_
      refine lv_aload_n hx hb dX5_comesTrue_108 rfl (lv_at hl 0 rfl) ?_
      refine gt_X5_1 hx hb hts hown hK hP (hts _ wl_1_176) dX5_comesTrue_109 ?_
      refine gt_X3_0 hx hb hts hown hK hP st_29 (hts _ wl_1_114) dX5_comesTrue_112 ?_
      refine lv_iload_n hx hb dX5_comesTrue_115 rfl (lv_at hl 3 rfl) ?_
      obtain ⟨yr9, yd10, yhc116, h⟩ := z_bdx h
      refine z_kz (z_rV (As := [.int yx3]) (rest := [.ref (ad 0)]) ⟨hx, hb, hml, hown, hts⟩ hK hP (w_X0 (el_st st_29)) rfl (kX0_hold hI (el_st st_29) yhc116) giX5_187 ⟨rfl, rfl⟩ ndX0_hold ⟨Nat.le_of_ble_eq_true rfl, Nat.le_of_ble_eq_true rfl⟩ rfl hl.1 rfl (Nat.le_of_ble_eq_true rfl) ⟨Nat.le_refl _, Nat.le_refl _⟩ dX5_comesTrue_116) hS (fun H locs z_yr9 hP hS => ?_)
      obtain ⟨yr11, yd12, yhc119, h⟩ := z_bdx h
      refine z_kz (z_rV (As := [.int yr9]) (rest := []) ⟨hx, hb, hml, hown, hts⟩ hK hP w_X5 rfl (kX5_emitsAfter hI z_yr9 yhc119) giX5_269 ⟨rfl, rfl⟩ ndX5_emitsAfter ⟨Nat.le_of_ble_eq_true rfl, Nat.le_of_ble_eq_true rfl⟩ rfl hl.1 rfl (Nat.le_of_ble_eq_true rfl) ⟨Nat.le_refl _, Nat.le_refl _⟩ dX5_comesTrue_119) hS (fun H locs z_yr11 hP hS => ?_)
      refine lv_if_eq (tgt := 129) hx hb dX5_comesTrue_122 (by decide) (fun yc122 => ?_) (fun yc122 => ?_)
      · have h := z_ifp yc122 h
        refine lv_iconst (v := (0 : Int32)) hx hb dX5_comesTrue_129 (by decide) ?_
        exact hRet _ _ _ _ _ _ hP hS (Or.inl rfl) h dX5_comesTrue_130
      · have h := z_ifn yc122 h
        refine lv_iconst (v := (1 : Int32)) hx hb dX5_comesTrue_125 (by decide) ?_
        refine lv_goto (tgt := 130) hx hb dX5_comesTrue_126 (by decide) ?_
        exact hRet _ _ _ _ _ _ hP hS (Or.inr rfl) h dX5_comesTrue_130
  have h := z_ifn yk1_3 h
  by_cases yk1_4 : yx1 = (4 : Int32)
  · have h := z_ifp yk1_4 h
    refine lv_tableIn (off := (130)) (tgt := 131) hx hb dX5_comesTrue_1 (by rw [yk1_4]; decide) (by rw [yk1_4]; decide) (by rw [yk1_4]; rfl) (by decide) ?_
    refine lv_iload_n hx hb dX5_comesTrue_131 rfl (lv_at hl 2 rfl) ?_
    refine lv_aload_n hx hb dX5_comesTrue_132 rfl (lv_at hl 0 rfl) ?_
    refine gt_X5_1 hx hb hts hown hK hP (hts _ wl_1_176) dX5_comesTrue_133 ?_
    refine gt_X3_2 hx hb hts hown hK hP st_29 (hts _ wl_1_118) dX5_comesTrue_136 ?_
    refine lv_icmp_ge (tgt := 160) hx hb dX5_comesTrue_139 (by decide) (fun yc139 => ?_) (fun yc139 => ?_)
    · have h := z_ifp yc139 h
      refine lv_iconst (v := (0 : Int32)) hx hb dX5_comesTrue_160 (by decide) ?_
      exact hRet _ _ _ _ _ _ hP hS (Or.inl rfl) h dX5_comesTrue_161
    · have h := z_ifn yc139 h
      refine lv_aload_n hx hb dX5_comesTrue_142 rfl (lv_at hl 0 rfl) ?_
      refine lv_aload_n hx hb dX5_comesTrue_143 rfl (lv_at hl 0 rfl) ?_
      refine gt_X5_1 hx hb hts hown hK hP (hts _ wl_1_176) dX5_comesTrue_144 ?_
      refine lv_iload_n hx hb dX5_comesTrue_147 rfl (lv_at hl 2 rfl) ?_
      refine lv_iconst (v := (1 : Int32)) hx hb dX5_comesTrue_148 (by decide) ?_
      obtain ⟨yr13, yd14, yhc149, h⟩ := z_bdx h
      refine z_ki (z_rV (As := [.ref (ad 29), .int yx2, .int (1 : Int32)]) (rest := []) ⟨hx, hb, hml, hown, hts⟩ hK hP w_X5 rfl (kX5_pathNumber hI st_29 yhc149) giX5_132 ⟨rfl, rfl⟩ ndX5_pathNumber ⟨Nat.le_of_ble_eq_true rfl, Nat.le_of_ble_eq_true rfl⟩ rfl hl.1 rfl (Nat.le_of_ble_eq_true rfl) ⟨Nat.le_refl _, Nat.le_refl _⟩ dX5_comesTrue_149) hS (fun H locs hP hS => ?_)
      refine lv_iload_n hx hb dX5_comesTrue_152 rfl (lv_at hl 3 rfl) ?_
      refine lv_icmp_ne (tgt := 160) hx hb dX5_comesTrue_153 (by decide) (fun yc153 => ?_) (fun yc153 => ?_)
      · have h := z_ifn yc153 h
        refine lv_iconst (v := (0 : Int32)) hx hb dX5_comesTrue_160 (by decide) ?_
        exact hRet _ _ _ _ _ _ hP hS (Or.inl rfl) h dX5_comesTrue_161
      · have h := z_ifp yc153 h
        refine lv_iconst (v := (1 : Int32)) hx hb dX5_comesTrue_156 (by decide) ?_
        refine lv_goto (tgt := 161) hx hb dX5_comesTrue_157 (by decide) ?_
        exact hRet _ _ _ _ _ _ hP hS (Or.inr rfl) h dX5_comesTrue_161
  have h := z_ifn yk1_4 h
  by_cases yk1_5 : yx1 = (5 : Int32)
  · have h := z_ifp yk1_5 h
    refine lv_tableIn (off := (161)) (tgt := 162) hx hb dX5_comesTrue_1 (by rw [yk1_5]; decide) (by rw [yk1_5]; decide) (by rw [yk1_5]; rfl) (by decide) ?_
    refine lv_iload_n hx hb dX5_comesTrue_162 rfl (lv_at hl 2 rfl) ?_
    refine lv_aload_n hx hb dX5_comesTrue_163 rfl (lv_at hl 0 rfl) ?_
    refine gt_X5_1 hx hb hts hown hK hP (hts _ wl_1_176) dX5_comesTrue_164 ?_
    refine gt_X3_2 hx hb hts hown hK hP st_29 (hts _ wl_1_118) dX5_comesTrue_167 ?_
    refine lv_icmp_ge (tgt := 191) hx hb dX5_comesTrue_170 (by decide) (fun yc170 => ?_) (fun yc170 => ?_)
    · have h := z_ifp yc170 h
      refine lv_iconst (v := (0 : Int32)) hx hb dX5_comesTrue_191 (by decide) ?_
      exact hRet _ _ _ _ _ _ hP hS (Or.inl rfl) h dX5_comesTrue_192
    · have h := z_ifn yc170 h
      refine lv_aload_n hx hb dX5_comesTrue_173 rfl (lv_at hl 0 rfl) ?_
      refine lv_aload_n hx hb dX5_comesTrue_174 rfl (lv_at hl 0 rfl) ?_
      refine gt_X5_1 hx hb hts hown hK hP (hts _ wl_1_176) dX5_comesTrue_175 ?_
      refine lv_iload_n hx hb dX5_comesTrue_178 rfl (lv_at hl 2 rfl) ?_
      refine lv_iconst (v := (2 : Int32)) hx hb dX5_comesTrue_179 (by decide) ?_
      obtain ⟨yr15, yd16, yhc180, h⟩ := z_bdx h
      refine z_ki (z_rV (As := [.ref (ad 29), .int yx2, .int (2 : Int32)]) (rest := []) ⟨hx, hb, hml, hown, hts⟩ hK hP w_X5 rfl (kX5_pathNumber hI st_29 yhc180) giX5_132 ⟨rfl, rfl⟩ ndX5_pathNumber ⟨Nat.le_of_ble_eq_true rfl, Nat.le_of_ble_eq_true rfl⟩ rfl hl.1 rfl (Nat.le_of_ble_eq_true rfl) ⟨Nat.le_refl _, Nat.le_refl _⟩ dX5_comesTrue_180) hS (fun H locs hP hS => ?_)
      refine lv_iload_n hx hb dX5_comesTrue_183 rfl (lv_at hl 3 rfl) ?_
      refine lv_icmp_ne (tgt := 191) hx hb dX5_comesTrue_184 (by decide) (fun yc184 => ?_) (fun yc184 => ?_)
      · have h := z_ifn yc184 h
        refine lv_iconst (v := (0 : Int32)) hx hb dX5_comesTrue_191 (by decide) ?_
        exact hRet _ _ _ _ _ _ hP hS (Or.inl rfl) h dX5_comesTrue_192
      · have h := z_ifp yc184 h
        refine lv_iconst (v := (1 : Int32)) hx hb dX5_comesTrue_187 (by decide) ?_
        refine lv_goto (tgt := 192) hx hb dX5_comesTrue_188 (by decide) ?_
        exact hRet _ _ _ _ _ _ hP hS (Or.inr rfl) h dX5_comesTrue_192
  have h := z_ifn yk1_5 h
  by_cases yk1_6 : yx1 = (6 : Int32)
  · have h := z_ifp yk1_6 h
    refine lv_tableIn (off := (192)) (tgt := 193) hx hb dX5_comesTrue_1 (by rw [yk1_6]; decide) (by rw [yk1_6]; decide) (by rw [yk1_6]; rfl) (by decide) ?_
    refine lv_iload_n hx hb dX5_comesTrue_193 rfl (lv_at hl 2 rfl) ?_
    refine lv_aload_n hx hb dX5_comesTrue_194 rfl (lv_at hl 0 rfl) ?_
    refine gt_X5_1 hx hb hts hown hK hP (hts _ wl_1_176) dX5_comesTrue_195 ?_
    refine gt_X3_2 hx hb hts hown hK hP st_29 (hts _ wl_1_118) dX5_comesTrue_198 ?_
    refine lv_icmp_ge (tgt := 222) hx hb dX5_comesTrue_201 (by decide) (fun yc201 => ?_) (fun yc201 => ?_)
    · have h := z_ifp yc201 h
      refine lv_iconst (v := (0 : Int32)) hx hb dX5_comesTrue_222 (by decide) ?_
      exact hRet _ _ _ _ _ _ hP hS (Or.inl rfl) h dX5_comesTrue_223
    · have h := z_ifn yc201 h
      refine lv_aload_n hx hb dX5_comesTrue_204 rfl (lv_at hl 0 rfl) ?_
      refine lv_aload_n hx hb dX5_comesTrue_205 rfl (lv_at hl 0 rfl) ?_
      refine gt_X5_1 hx hb hts hown hK hP (hts _ wl_1_176) dX5_comesTrue_206 ?_
      refine lv_iload_n hx hb dX5_comesTrue_209 rfl (lv_at hl 2 rfl) ?_
      refine lv_iconst (v := (3 : Int32)) hx hb dX5_comesTrue_210 (by decide) ?_
      obtain ⟨yr17, yd18, yhc211, h⟩ := z_bdx h
      refine z_ki (z_rV (As := [.ref (ad 29), .int yx2, .int (3 : Int32)]) (rest := []) ⟨hx, hb, hml, hown, hts⟩ hK hP w_X5 rfl (kX5_pathNumber hI st_29 yhc211) giX5_132 ⟨rfl, rfl⟩ ndX5_pathNumber ⟨Nat.le_of_ble_eq_true rfl, Nat.le_of_ble_eq_true rfl⟩ rfl hl.1 rfl (Nat.le_of_ble_eq_true rfl) ⟨Nat.le_refl _, Nat.le_refl _⟩ dX5_comesTrue_211) hS (fun H locs hP hS => ?_)
      refine lv_iload_n hx hb dX5_comesTrue_214 rfl (lv_at hl 3 rfl) ?_
      refine lv_icmp_ne (tgt := 222) hx hb dX5_comesTrue_215 (by decide) (fun yc215 => ?_) (fun yc215 => ?_)
      · have h := z_ifn yc215 h
        refine lv_iconst (v := (0 : Int32)) hx hb dX5_comesTrue_222 (by decide) ?_
        exact hRet _ _ _ _ _ _ hP hS (Or.inl rfl) h dX5_comesTrue_223
      · have h := z_ifp yc215 h
        refine lv_iconst (v := (1 : Int32)) hx hb dX5_comesTrue_218 (by decide) ?_
        refine lv_goto (tgt := 223) hx hb dX5_comesTrue_219 (by decide) ?_
        exact hRet _ _ _ _ _ _ hP hS (Or.inr rfl) h dX5_comesTrue_223
  have h := z_ifn yk1_6 h
  by_cases yk1_7 : yx1 = (7 : Int32)
  · have h := z_ifp yk1_7 h
    refine lv_tableIn (off := (223)) (tgt := 224) hx hb dX5_comesTrue_1 (by rw [yk1_7]; decide) (by rw [yk1_7]; decide) (by rw [yk1_7]; rfl) (by decide) ?_
    refine lv_iload_n hx hb dX5_comesTrue_224 rfl (lv_at hl 2 rfl) ?_
    refine lv_if_ne (tgt := 246) hx hb dX5_comesTrue_225 (by decide) (fun yc225 => ?_) (fun yc225 => ?_)
    · have h := z_ifn yc225 h
      refine lv_iconst (v := (0 : Int32)) hx hb dX5_comesTrue_246 (by decide) ?_
      exact hRet _ _ _ _ _ _ hP hS (Or.inl rfl) h dX5_comesTrue_247
    · have h := z_ifp yc225 h
      refine lv_aload_n hx hb dX5_comesTrue_228 rfl (lv_at hl 0 rfl) ?_
      refine gt_X5_1 hx hb hts hown hK hP (hts _ wl_1_176) dX5_comesTrue_229 ?_
      refine gt_X3_0 hx hb hts hown hK hP st_29 (hts _ wl_1_114) dX5_comesTrue_232 ?_
      obtain ⟨yr19, yhc235, h⟩ := z_brx h
      refine z_ki (z_rV (As := []) (rest := []) ⟨hx, hb, hml, hown, hts⟩ hK hP (w_X0 (el_st st_29)) rfl (kX0_currentDepth hI (el_st st_29) yhc235) giX5_91 ⟨rfl, rfl⟩ ndX0_currentDepth ⟨Nat.le_of_ble_eq_true rfl, Nat.le_of_ble_eq_true rfl⟩ rfl hl.1 rfl (Nat.le_of_ble_eq_true rfl) ⟨Nat.le_refl _, Nat.le_refl _⟩ dX5_comesTrue_235) hS (fun H locs hP hS => ?_)
      refine lv_iload_n hx hb dX5_comesTrue_238 rfl (lv_at hl 3 rfl) ?_
      refine lv_icmp_ne (tgt := 246) hx hb dX5_comesTrue_239 (by decide) (fun yc239 => ?_) (fun yc239 => ?_)
      · have h := z_ifn yc239 h
        refine lv_iconst (v := (0 : Int32)) hx hb dX5_comesTrue_246 (by decide) ?_
        exact hRet _ _ _ _ _ _ hP hS (Or.inl rfl) h dX5_comesTrue_247
      · have h := z_ifp yc239 h
        refine lv_iconst (v := (1 : Int32)) hx hb dX5_comesTrue_242 (by decide) ?_
        refine lv_goto (tgt := 247) hx hb dX5_comesTrue_243 (by decide) ?_
        exact hRet _ _ _ _ _ _ hP hS (Or.inr rfl) h dX5_comesTrue_247
  have h := z_ifn yk1_7 h
  refine lv_tableOut (tgt := 248) hx hb dX5_comesTrue_1 (by have q1 := lv_neT yk1_1 (a := 1) rfl; have q2 := lv_neT yk1_2 (a := 2) rfl; have q3 := lv_neT yk1_3 (a := 3) rfl; have q4 := lv_neT yk1_4 (a := 4) rfl; have q5 := lv_neT yk1_5 (a := 5) rfl; have q6 := lv_neT yk1_6 (a := 6) rfl; have q7 := lv_neT yk1_7 (a := 7) rfl; omega) (by decide) ?_
  refine lv_iconst (v := (0 : Int32)) hx hb dX5_comesTrue_248 (by decide) ?_
  exact hRet _ _ _ _ _ _ hP hS (Or.inl rfl) h dX5_comesTrue_249
noncomputable def bX5_judge_39 (yx1 : Int32) (s : Int32 × Dt) : Option ((Int32 × Dt) ⊕ ((Int32 × Dt) ⊕ (Dt))) := match s with
  | (yv4, yd5) => zif (yx1 ≤ yv4) (some (.inr (.inr yd5))) (z_gd (z_in yv4 4) (z_gd (z_in yv4 4) (z_gd (z_in yv4 4) (z_bd (fX5_comesTrue yd5 ((yd5.1 70 (z_ix yv4)) / (100 : Int32)) (((yd5.1 70 (z_ix yv4)) / (10 : Int32)) - ((yd5.1 70 (z_ix yv4)) / (10 : Int32)) / (10 : Int32) * (10 : Int32)) ((yd5.1 70 (z_ix yv4)) - (yd5.1 70 (z_ix yv4)) / (10 : Int32) * (10 : Int32))) fun yr6 yd7 => zif (yr6 = 0) (some (.inr (.inl (yv4, yd7)))) (z_nm (yv4 + (1 : Int32)) fun yv8 => some (.inl (yv8, yd7)))))))
noncomputable def fX5_judge (yd : Dt) (yx1 : Int32) (yx2 : Int64) : Option (Int32 × Dt) :=
  zif (yx1 < (1 : Int32)) (some ((-2 : Int32), yd)) (zif ((4 : Int32) < yx1) (some ((-2 : Int32), yd)) (z_bd (fX5_splits yd yx2 (1000 : Int32) yx1) fun yr1 yd2 => zif (yr1 = 0) (some ((-2 : Int32), yd2)) (z_br (fX3_copyFrom yd2 29 1) fun yd3 => z_br (z_lp (bX5_judge_39 yx1) ((0 : Int32), yd3)) (fun t => match t with | .inl (yv9, yd10) => some (yv9, yd10) | .inr yd11 => some ((-9 : Int32), yd11)))))
set_option maxHeartbeats 4000000 in
set_option maxRecDepth 100000 in
theorem kX5_judge {l : Launch} {D : va_G} {G : z_G} {ad : Nat → Nat} {A : Nat → Prop} (hI : ∀ d, va_D A (WC G ad d)) {yd : Dt} {yx1 : Int32} {yx2 : Int64}  {rr : Int32} {dd : Dt} (h : fX5_judge yd yx1 yx2 = some (rr, dd)) : z_Mi l D G A (WC G ad) yX5_judge cX5_judge 5 (z_rm 7 172) yd [.ref (ad 0), .int yx1, .long yx2] rr dd := by
  refine z_ofi (by decide) (Nat.le_of_ble_eq_true rfl) fun p e s m args below meth c Q hx hb hml hown hts hK hP hRet ls hl => ?_
  have hS : va_S A s.heap s.heap [] := va_S.rf
  have hl : lv_has ls 5 [(0, .ref (ad 0)), (1, .int yx1), (2, .long yx2)] := hl
  have h : (zif (yx1 < (1 : Int32)) (some ((-2 : Int32), yd)) (zif ((4 : Int32) < yx1) (some ((-2 : Int32), yd)) (z_bd (fX5_splits yd yx2 (1000 : Int32) yx1) fun yr1 yd2 => zif (yr1 = 0) (some ((-2 : Int32), yd2)) (z_br (fX3_copyFrom yd2 29 1) fun yd3 => z_br (z_lp (bX5_judge_39 yx1) ((0 : Int32), yd3)) (fun t => match t with | .inl (yv9, yd10) => some (yv9, yd10) | .inr yd11 => some ((-9 : Int32), yd11)))))) = some (rr, dd) := h
  refine lv_iload_n hx hb dX5_judge_0 rfl (lv_at hl 1 rfl) ?_
  refine lv_iconst (v := (1 : Int32)) hx hb dX5_judge_1 (by decide) ?_
  refine lv_icmp_lt (tgt := 22) hx hb dX5_judge_2 (by decide) (fun yc2 => ?_) (fun yc2 => ?_)
  · have h := z_ifp yc2 h
    refine lv_bipush (v := (-2 : Int32)) hx hb dX5_judge_22 (by decide) ?_
    exact hRet _ _ _ _ _ _ hP hS h dX5_judge_24
  · have h := z_ifn yc2 h
    refine lv_iload_n hx hb dX5_judge_5 rfl (lv_at hl 1 rfl) ?_
    refine lv_iconst (v := (4 : Int32)) hx hb dX5_judge_6 (by decide) ?_
    refine lv_icmp_gt (tgt := 22) hx hb dX5_judge_7 (by decide) (fun yc7 => ?_) (fun yc7 => ?_)
    · have h := z_ifp yc7 h
      refine lv_bipush (v := (-2 : Int32)) hx hb dX5_judge_22 (by decide) ?_
      exact hRet _ _ _ _ _ _ hP hS h dX5_judge_24
    · have h := z_ifn yc7 h
      refine lv_aload_n hx hb dX5_judge_10 rfl (lv_at hl 0 rfl) ?_
      refine lv_lload_n hx hb dX5_judge_11 rfl (lv_at hl 2 rfl) ?_
      refine lv_sipush (v := (1000 : Int32)) hx hb dX5_judge_12 (by decide) ?_
      refine lv_iload_n hx hb dX5_judge_15 rfl (lv_at hl 1 rfl) ?_
      obtain ⟨yr1, yd2, yhc16, h⟩ := z_bdx h
      refine z_kz (z_rV (As := [.long yx2, .int (1000 : Int32), .int yx1]) (rest := []) ⟨hx, hb, hml, hown, hts⟩ hK hP w_X5 rfl (kX5_splits hI yhc16) giX5_190 ⟨rfl, rfl⟩ ndX5_splits ⟨Nat.le_of_ble_eq_true rfl, Nat.le_of_ble_eq_true rfl⟩ rfl hl.1 rfl (Nat.le_of_ble_eq_true rfl) ⟨Nat.le_refl _, Nat.le_refl _⟩ dX5_judge_16) hS (fun H locs z_yr1 hP hS => ?_)
      refine lv_if_ne (tgt := 25) hx hb dX5_judge_19 (by decide) (fun yc19 => ?_) (fun yc19 => ?_)
      · have h := z_ifn yc19 h
        refine lv_aload_n hx hb dX5_judge_25 rfl (lv_at hl 0 rfl) ?_
        refine gt_X5_1 hx hb hts hown hK hP (hts _ wl_1_176) dX5_judge_26 ?_
        refine lv_aload_n hx hb dX5_judge_29 rfl (lv_at hl 0 rfl) ?_
        refine gt_X5_0 hx hb hts hown hK hP (hts _ wl_1_175) dX5_judge_30 ?_
        obtain ⟨yd3, yhc33, h⟩ := z_brx h
        refine z_kv (z_rV (As := [.ref (ad 1)]) (rest := []) ⟨hx, hb, hml, hown, hts⟩ hK hP (w_X3 st_29) rfl (kX3_copyFrom hI st_29 st_1 yhc33) giX5_69 ⟨rfl, rfl⟩ ndX3_copyFrom ⟨Nat.le_of_ble_eq_true rfl, Nat.le_of_ble_eq_true rfl⟩ rfl hl.1 rfl (Nat.le_of_ble_eq_true rfl) ⟨Nat.le_refl _, Nat.le_refl _⟩ dX5_judge_33) hS (fun H locs hP hS => ?_)
        refine lv_iconst (v := (0 : Int32)) hx hb dX5_judge_36 (by decide) ?_
        refine lv_istore (lv' := [(4, .int (0 : Int32)), (0, .ref (ad 0)), (1, .int yx1), (2, .long yx2)]) hx hb dX5_judge_37 hl (by decide) rfl (fun ls hl => ?_)
        obtain ⟨yt39, hlp, h⟩ := z_brx h
        obtain ⟨yn39, hlp⟩ := z_lpx hlp
        have hE85 : ∀ (yv9 : Int32) (yd10 : Dt) (H : Heap) (locs : List Loc) (ls : Array Slot), (.inl (yv9, yd10)) = yt39 → va_P D vwCl (WC G ad yd10) H → va_S A s.heap H locs → lv_has ls 5 [(4, .int yv9)] → W p l e (z_rm 7 172) s m args below meth c H locs 0 0 Q (F0 m 85 ls []) := by
          intro yv9 yd10 H locs ls et hP hS hl
          subst et
          have h : (some (yv9, yd10)) = some (rr, dd) := h
          refine lv_iload hx hb dX5_judge_85 (lv_at hl 0 rfl) ?_
          exact hRet _ _ _ _ _ _ hP hS h dX5_judge_87
        have hE94 : ∀ (yd11 : Dt) (H : Heap) (locs : List Loc) (ls : Array Slot), (.inr yd11) = yt39 → va_P D vwCl (WC G ad yd11) H → va_S A s.heap H locs → lv_has ls 5 [] → W p l e (z_rm 7 172) s m args below meth c H locs 0 0 Q (F0 m 94 ls []) := by
          intro yd11 H locs ls et hP hS hl
          subst et
          have h : (some ((-9 : Int32), yd11)) = some (rr, dd) := h
          refine lv_bipush (v := (-9 : Int32)) hx hb dX5_judge_94 (by decide) ?_
          exact hRet _ _ _ _ _ _ hP hS h dX5_judge_96
        have hL39 : ∀ (n : Nat) (yv4 : Int32) (yd5 : Dt) (H : Heap) (locs : List Loc) (ls : Array Slot), z_it (bX5_judge_39 yx1) n (yv4, yd5) = some yt39 → va_P D vwCl (WC G ad yd5) H → va_S A s.heap H locs → lv_has ls 5 [(0, .ref (ad 0)), (1, .int yx1), (4, .int yv4)] → W p l e (z_rm 7 172) s m args below meth c H locs 0 0 Q (F0 m 39 ls []) := by
          intro n
          induction n with
          | zero => intro yv4 yd5 H locs ls hn; exact z_it0 hn
          | succ n ih =>
            intro yv4 yd5 H locs ls hn hP hS hl
            obtain ⟨yq39, h, hq1, hq2⟩ := z_itx hn
            have h : (zif (yx1 ≤ yv4) (some (.inr (.inr yd5))) (z_gd (z_in yv4 4) (z_gd (z_in yv4 4) (z_gd (z_in yv4 4) (z_bd (fX5_comesTrue yd5 ((yd5.1 70 (z_ix yv4)) / (100 : Int32)) (((yd5.1 70 (z_ix yv4)) / (10 : Int32)) - ((yd5.1 70 (z_ix yv4)) / (10 : Int32)) / (10 : Int32) * (10 : Int32)) ((yd5.1 70 (z_ix yv4)) - (yd5.1 70 (z_ix yv4)) / (10 : Int32) * (10 : Int32))) fun yr6 yd7 => zif (yr6 = 0) (some (.inr (.inl (yv4, yd7)))) (z_nm (yv4 + (1 : Int32)) fun yv8 => some (.inl (yv8, yd7)))))))) = some yq39 := h
            refine lv_iload hx hb dX5_judge_39 (lv_at hl 2 rfl) ?_
            refine lv_iload_n hx hb dX5_judge_41 rfl (lv_at hl 1 rfl) ?_
            refine lv_icmp_ge (tgt := 94) hx hb dX5_judge_42 (by decide) (fun yc42 => ?_) (fun yc42 => ?_)
            · have h := z_ifp yc42 h
              exact hE94 _ _ _ _ (hq2 _ (z_sm h).symm) hP hS (lv_sub hl [] rfl)
            · have h := z_ifn yc42 h
              refine lv_aload_n hx hb dX5_judge_45 rfl (lv_at hl 0 rfl) ?_
              refine lv_aload_n hx hb dX5_judge_46 rfl (lv_at hl 0 rfl) ?_
              refine gt_X5_10 hx hb hts hown hK hP (hts _ wl_1_185) dX5_judge_47 ?_
              refine lv_iload hx hb dX5_judge_50 (lv_at hl 2 rfl) ?_
              obtain ⟨yg52, h⟩ := z_gi h
              refine al_C hx hb hK hP rfl (by decide) yg52 dX5_judge_52 ?_
              refine lv_bipush (v := (100 : Int32)) hx hb dX5_judge_53 (by decide) ?_
              refine lv_idiv hx hb dX5_judge_55 (by decide) ?_
              refine lv_aload_n hx hb dX5_judge_56 rfl (lv_at hl 0 rfl) ?_
              refine gt_X5_10 hx hb hts hown hK hP (hts _ wl_1_185) dX5_judge_57 ?_
              refine lv_iload hx hb dX5_judge_60 (lv_at hl 2 rfl) ?_
              obtain ⟨yg62, h⟩ := z_gi h
              refine al_C hx hb hK hP rfl (by decide) yg62 dX5_judge_62 ?_
              refine lv_bipush (v := (10 : Int32)) hx hb dX5_judge_63 (by decide) ?_
              refine lv_idiv hx hb dX5_judge_65 (by decide) ?_
              refine lv_bipush (v := (10 : Int32)) hx hb dX5_judge_66 (by decide) ?_
              refine lv_irem hx hb dX5_judge_68 (by decide) ?_
              refine lv_aload_n hx hb dX5_judge_69 rfl (lv_at hl 0 rfl) ?_
              refine gt_X5_10 hx hb hts hown hK hP (hts _ wl_1_185) dX5_judge_70 ?_
              refine lv_iload hx hb dX5_judge_73 (lv_at hl 2 rfl) ?_
              obtain ⟨yg75, h⟩ := z_gi h
              refine al_C hx hb hK hP rfl (by decide) yg75 dX5_judge_75 ?_
              refine lv_bipush (v := (10 : Int32)) hx hb dX5_judge_76 (by decide) ?_
              refine lv_irem hx hb dX5_judge_78 (by decide) ?_
              obtain ⟨yr6, yd7, yhc79, h⟩ := z_bdx h
              refine z_kz (z_rV (As := [.int ((yd5.1 70 (z_ix yv4)) / (100 : Int32)), .int (((yd5.1 70 (z_ix yv4)) / (10 : Int32)) - ((yd5.1 70 (z_ix yv4)) / (10 : Int32)) / (10 : Int32) * (10 : Int32)), .int ((yd5.1 70 (z_ix yv4)) - (yd5.1 70 (z_ix yv4)) / (10 : Int32) * (10 : Int32))]) (rest := []) ⟨hx, hb, hml, hown, hts⟩ hK hP w_X5 rfl (kX5_comesTrue hI yhc79) giX5_212 ⟨rfl, rfl⟩ ndX5_comesTrue ⟨Nat.le_of_ble_eq_true rfl, Nat.le_of_ble_eq_true rfl⟩ rfl hl.1 rfl (Nat.le_of_ble_eq_true rfl) ⟨Nat.le_refl _, Nat.le_refl _⟩ dX5_judge_79) hS (fun H locs z_yr6 hP hS => ?_)
              refine lv_if_ne (tgt := 88) hx hb dX5_judge_82 (by decide) (fun yc82 => ?_) (fun yc82 => ?_)
              · have h := z_ifn yc82 h
                obtain ⟨yv8, e_yv8, h⟩ := z_nmx h
                refine lv_iinc (v := yv8) (lv' := [(4, .int yv8), (0, .ref (ad 0)), (1, .int yx1)]) hx hb dX5_judge_88 hl (k := 2) rfl (by rw [e_yv8]; rfl) (by decide) rfl (fun ls hl => ?_)
                refine lv_goto (tgt := 39) hx hb dX5_judge_91 (by decide) ?_
                exact ih _ _ _ _ _ (hq1 _ (z_sm h).symm) hP hS (lv_sub hl [1, 2, 0] rfl)
              · have h := z_ifp yc82 h
                exact hE85 _ _ _ _ _ (hq2 _ (z_sm h).symm) hP hS (lv_sub hl [2] rfl)
        exact hL39 yn39 _ _ _ _ _ hlp hP hS (lv_sub hl [1, 2, 0] rfl)
      · have h := z_ifp yc19 h
        refine lv_bipush (v := (-2 : Int32)) hx hb dX5_judge_22 (by decide) ?_
        exact hRet _ _ _ _ _ _ hP hS h dX5_judge_24
noncomputable def fX5_see (yd : Dt) (yx1 : Int32) (yx2 : Int32) : Option (Int32 × Dt) :=
  z_br (fX5_isPath yd yx1) fun yr1 => zif (yr1 = 0) (some ((-1 : Int32), yd)) (zif (yx2 < 0) (some ((-2 : Int32), yd)) (zif (yx2 ≤ (20 : Int32)) (zif ((yd.1 0 15) < (6 : Int32)) (z_gd (z_in (yd.1 0 15) 6) (z_nm (z_st yd 68 (z_ix (yd.1 0 15)) yx1) fun yd2 => z_gd (z_in (yd2.1 0 15) 6) (z_nm (z_st yd2 69 (z_ix (yd2.1 0 15)) yx2) fun yd3 => z_nm (z_st yd3 0 15 ((yd3.1 0 15) + (1 : Int32))) fun yd4 => some ((yd4.1 0 15), yd4)))) (some ((-4 : Int32), yd))) (some ((-2 : Int32), yd))))
set_option maxHeartbeats 4000000 in
set_option maxRecDepth 100000 in
theorem kX5_see {l : Launch} {D : va_G} {G : z_G} {ad : Nat → Nat} {A : Nat → Prop} (hI : ∀ d, va_D A (WC G ad d)) {yd : Dt} {yx1 : Int32} {yx2 : Int32}  {rr : Int32} {dd : Dt} (h : fX5_see yd yx1 yx2 = some (rr, dd)) : z_Mi l D G A (WC G ad) yX5_see cX5_see 3 (z_rm 1 21) yd [.ref (ad 0), .int yx1, .int yx2] rr dd := by
  refine z_ofi (by decide) (Nat.le_of_ble_eq_true rfl) fun p e s m args below meth c Q hx hb hml hown hts hK hP hRet ls hl => ?_
  have hS : va_S A s.heap s.heap [] := va_S.rf
  have hl : lv_has ls 3 [(0, .ref (ad 0)), (1, .int yx1), (2, .int yx2)] := hl
  have h : (z_br (fX5_isPath yd yx1) fun yr1 => zif (yr1 = 0) (some ((-1 : Int32), yd)) (zif (yx2 < 0) (some ((-2 : Int32), yd)) (zif (yx2 ≤ (20 : Int32)) (zif ((yd.1 0 15) < (6 : Int32)) (z_gd (z_in (yd.1 0 15) 6) (z_nm (z_st yd 68 (z_ix (yd.1 0 15)) yx1) fun yd2 => z_gd (z_in (yd2.1 0 15) 6) (z_nm (z_st yd2 69 (z_ix (yd2.1 0 15)) yx2) fun yd3 => z_nm (z_st yd3 0 15 ((yd3.1 0 15) + (1 : Int32))) fun yd4 => some ((yd4.1 0 15), yd4)))) (some ((-4 : Int32), yd))) (some ((-2 : Int32), yd))))) = some (rr, dd) := h
  refine lv_aload_n hx hb dX5_see_0 rfl (lv_at hl 0 rfl) ?_
  refine lv_iload_n hx hb dX5_see_1 rfl (lv_at hl 1 rfl) ?_
  obtain ⟨yr1, yhc2, h⟩ := z_brx h
  refine z_kz (z_rV (As := [.int yx1]) (rest := []) ⟨hx, hb, hml, hown, hts⟩ hK hP w_X5 rfl (kX5_isPath hI yhc2) giX5_129 ⟨rfl, rfl⟩ ndX5_isPath ⟨Nat.le_of_ble_eq_true rfl, Nat.le_of_ble_eq_true rfl⟩ rfl hl.1 rfl (Nat.le_of_ble_eq_true rfl) ⟨Nat.le_refl _, Nat.le_refl _⟩ dX5_see_2) hS (fun H locs z_yr1 hP hS => ?_)
  refine lv_if_ne (tgt := 10) hx hb dX5_see_5 (by decide) (fun yc5 => ?_) (fun yc5 => ?_)
  · have h := z_ifn yc5 h
    refine lv_iload_n hx hb dX5_see_10 rfl (lv_at hl 2 rfl) ?_
    refine lv_if_lt (tgt := 20) hx hb dX5_see_11 (by decide) (fun yc11 => ?_) (fun yc11 => ?_)
    · have h := z_ifp yc11 h
      refine lv_bipush (v := (-2 : Int32)) hx hb dX5_see_20 (by decide) ?_
      exact hRet _ _ _ _ _ _ hP hS h dX5_see_22
    · have h := z_ifn yc11 h
      refine lv_iload_n hx hb dX5_see_14 rfl (lv_at hl 2 rfl) ?_
      refine lv_bipush (v := (20 : Int32)) hx hb dX5_see_15 (by decide) ?_
      refine lv_icmp_le (tgt := 23) hx hb dX5_see_17 (by decide) (fun yc17 => ?_) (fun yc17 => ?_)
      · have h := z_ifp yc17 h
        refine lv_aload_n hx hb dX5_see_23 rfl (lv_at hl 0 rfl) ?_
        refine gt_X5_15 hx hb hts hown hK hP (hts _ wl_1_190) dX5_see_24 ?_
        refine lv_bipush (v := (6 : Int32)) hx hb dX5_see_27 (by decide) ?_
        refine lv_icmp_lt (tgt := 35) hx hb dX5_see_29 (by decide) (fun yc29 => ?_) (fun yc29 => ?_)
        · have h := z_ifp yc29 h
          refine lv_aload_n hx hb dX5_see_35 rfl (lv_at hl 0 rfl) ?_
          refine gt_X5_8 hx hb hts hown hK hP (hts _ wl_1_183) dX5_see_36 ?_
          refine lv_aload_n hx hb dX5_see_39 rfl (lv_at hl 0 rfl) ?_
          refine gt_X5_15 hx hb hts hown hK hP (hts _ wl_1_190) dX5_see_40 ?_
          refine lv_iload_n hx hb dX5_see_43 rfl (lv_at hl 1 rfl) ?_
          obtain ⟨yg44, h⟩ := z_gi h
          refine as_C hx hb hK hP hI hS rfl (by decide) yg44 dX5_see_44 (fun H locs yd2 e_yd2 hP hS => ?_)
          have h := z_nma e_yd2 h
          refine lv_aload_n hx hb dX5_see_45 rfl (lv_at hl 0 rfl) ?_
          refine gt_X5_9 hx hb hts hown hK hP (hts _ wl_1_184) dX5_see_46 ?_
          refine lv_aload_n hx hb dX5_see_49 rfl (lv_at hl 0 rfl) ?_
          refine gt_X5_15 hx hb hts hown hK hP (hts _ wl_1_190) dX5_see_50 ?_
          refine lv_iload_n hx hb dX5_see_53 rfl (lv_at hl 2 rfl) ?_
          obtain ⟨yg54, h⟩ := z_gi h
          refine as_C hx hb hK hP hI hS rfl (by decide) yg54 dX5_see_54 (fun H locs yd3 e_yd3 hP hS => ?_)
          have h := z_nma e_yd3 h
          refine lv_aload_n hx hb dX5_see_55 rfl (lv_at hl 0 rfl) ?_
          refine lv_dup hx hb dX5_see_56 rfl ?_
          refine gt_X5_15 hx hb hts hown hK hP (hts _ wl_1_190) dX5_see_57 ?_
          refine lv_iconst (v := (1 : Int32)) hx hb dX5_see_60 (by decide) ?_
          refine lv_iadd hx hb dX5_see_61 ?_
          refine pt_X5_15 hx hb hts hown hK hP hI hS (hts _ wl_1_190) dX5_see_62 (fun H locs yd4 e_yd4 hP hS => ?_)
          have h := z_nma e_yd4 h
          refine lv_aload_n hx hb dX5_see_65 rfl (lv_at hl 0 rfl) ?_
          refine gt_X5_15 hx hb hts hown hK hP (hts _ wl_1_190) dX5_see_66 ?_
          exact hRet _ _ _ _ _ _ hP hS h dX5_see_69
        · have h := z_ifn yc29 h
          refine lv_bipush (v := (-4 : Int32)) hx hb dX5_see_32 (by decide) ?_
          exact hRet _ _ _ _ _ _ hP hS h dX5_see_34
      · have h := z_ifn yc17 h
        refine lv_bipush (v := (-2 : Int32)) hx hb dX5_see_20 (by decide) ?_
        exact hRet _ _ _ _ _ _ hP hS h dX5_see_22
  · have h := z_ifp yc5 h
    refine lv_iconst (v := (-1 : Int32)) hx hb dX5_see_8 (by decide) ?_
    exact hRet _ _ _ _ _ _ hP hS h dX5_see_9
noncomputable def fX5_unsee (yd : Dt) : Option (Int32 × Dt) :=
  z_nm (yd.1 0 15) fun yv1 => z_nm (z_st yd 0 15 (0 : Int32)) fun yd2 => some (yv1, yd2)
set_option maxHeartbeats 4000000 in
set_option maxRecDepth 100000 in
theorem kX5_unsee {l : Launch} {D : va_G} {G : z_G} {ad : Nat → Nat} {A : Nat → Prop} (hI : ∀ d, va_D A (WC G ad d)) {yd : Dt}   {rr : Int32} {dd : Dt} (h : fX5_unsee yd = some (rr, dd)) : z_Mi l D G A (WC G ad) yX5_unsee cX5_unsee 2 (z_rm 0 0) yd [.ref (ad 0)] rr dd := by
  refine z_ofi (by decide) (Nat.le_of_ble_eq_true rfl) fun p e s m args below meth c Q hx hb hml hown hts hK hP hRet ls hl => ?_
  have hS : va_S A s.heap s.heap [] := va_S.rf
  have hl : lv_has ls 2 [(0, .ref (ad 0))] := hl
  have h : (z_nm (yd.1 0 15) fun yv1 => z_nm (z_st yd 0 15 (0 : Int32)) fun yd2 => some (yv1, yd2)) = some (rr, dd) := h
  refine lv_aload_n hx hb dX5_unsee_0 rfl (lv_at hl 0 rfl) ?_
  refine gt_X5_15 hx hb hts hown hK hP (hts _ wl_1_190) dX5_unsee_1 ?_
  refine lv_topi (fun yv1 e_yv1 => ?_)
  have h := z_nma e_yv1 h
  refine lv_istore_n (lv' := [(1, .int yv1), (0, .ref (ad 0))]) hx hb dX5_unsee_4 rfl hl (by decide) rfl (fun ls hl => ?_)
  refine lv_aload_n hx hb dX5_unsee_5 rfl (lv_at hl 1 rfl) ?_
  refine lv_iconst (v := (0 : Int32)) hx hb dX5_unsee_6 (by decide) ?_
  refine pt_X5_15 hx hb hts hown hK hP hI hS (hts _ wl_1_190) dX5_unsee_7 (fun H locs yd2 e_yd2 hP hS => ?_)
  have h := z_nma e_yd2 h
  refine lv_iload_n hx hb dX5_unsee_10 rfl (lv_at hl 0 rfl) ?_
  exact hRet _ _ _ _ _ _ hP hS h dX5_unsee_11
noncomputable def fX5_answersWithLastTest (yd : Dt) (yx1 : Int32) (yx2 : Int32) : Option (Int32 × Dt) :=
  z_gd (z_in yx1 5) (z_br (fX2_copyFrom yd (37 + 4 * (z_ix (0 : Int32))) (9 + 4 * (z_ix yx1))) fun yd1 => z_br (fX2_setLastTest yd1 (37 + 4 * (z_ix (0 : Int32))) yx2) fun yd2 => z_br (fX1_match yd2 2 (37 + 4 * (z_ix (0 : Int32)))) fun yd3 => z_br (fJ6_bitCount_0f7a4 (yd3.1 60 4)) fun yr4 => some (yr4, yd3))
set_option maxHeartbeats 4000000 in
set_option maxRecDepth 100000 in
theorem kX5_answersWithLastTest {l : Launch} {D : va_G} {G : z_G} {ad : Nat → Nat} {A : Nat → Prop} (hI : ∀ d, va_D A (WC G ad d)) {yd : Dt} {yx1 : Int32} {yx2 : Int32}  {rr : Int32} {dd : Dt} (h : fX5_answersWithLastTest yd yx1 yx2 = some (rr, dd)) : z_Mi l D G A (WC G ad) yX5_answersWithLastTest cX5_answersWithLastTest 4 (z_rm 3 83) yd [.ref (ad 0), .int yx1, .int yx2] rr dd := by
  refine z_ofi (by decide) (Nat.le_of_ble_eq_true rfl) fun p e s m args below meth c Q hx hb hml hown hts hK hP hRet ls hl => ?_
  have hS : va_S A s.heap s.heap [] := va_S.rf
  have hl : lv_has ls 4 [(0, .ref (ad 0)), (1, .int yx1), (2, .int yx2)] := hl
  have h : (z_gd (z_in yx1 5) (z_br (fX2_copyFrom yd (37 + 4 * (z_ix (0 : Int32))) (9 + 4 * (z_ix yx1))) fun yd1 => z_br (fX2_setLastTest yd1 (37 + 4 * (z_ix (0 : Int32))) yx2) fun yd2 => z_br (fX1_match yd2 2 (37 + 4 * (z_ix (0 : Int32)))) fun yd3 => z_br (fJ6_bitCount_0f7a4 (yd3.1 60 4)) fun yr4 => some (yr4, yd3))) = some (rr, dd) := h
  refine lv_aload_n hx hb dX5_answersWithLastTest_0 rfl (lv_at hl 0 rfl) ?_
  refine gt_X5_1 hx hb hts hown hK hP (hts _ wl_1_176) dX5_answersWithLastTest_1 ?_
  refine gt_X3_1 hx hb hts hown hK hP st_29 (hts _ wl_1_116) dX5_answersWithLastTest_4 ?_
  refine lv_iconst (v := (0 : Int32)) hx hb dX5_answersWithLastTest_7 (by decide) ?_
  refine rl_P hx hb hK hP st_29 (z_li (by decide) : vp_in (0 : Int32) 5) dX5_answersWithLastTest_8 ?_
  refine lv_astore_n (lv' := [(3, .ref (ad (37 + 4 * (z_ix (0 : Int32))))), (0, .ref (ad 0)), (1, .int yx1), (2, .int yx2)]) hx hb dX5_answersWithLastTest_9 rfl hl (by decide) rfl (fun ls hl => ?_)
  refine lv_aload_n hx hb dX5_answersWithLastTest_10 rfl (lv_at hl 0 rfl) ?_
  refine lv_aload_n hx hb dX5_answersWithLastTest_11 rfl (lv_at hl 1 rfl) ?_
  refine gt_X5_0 hx hb hts hown hK hP (hts _ wl_1_175) dX5_answersWithLastTest_12 ?_
  refine gt_X3_1 hx hb hts hown hK hP st_1 (hts _ wl_1_116) dX5_answersWithLastTest_15 ?_
  refine lv_iload_n hx hb dX5_answersWithLastTest_18 rfl (lv_at hl 2 rfl) ?_
  obtain ⟨yg19, h⟩ := z_gi h
  refine rl_P hx hb hK hP st_1 yg19 dX5_answersWithLastTest_19 ?_
  obtain ⟨yd1, yhc20, h⟩ := z_brx h
  refine z_kv (z_rV (As := [.ref (ad (9 + 4 * (z_ix yx1)))]) (rest := []) ⟨hx, hb, hml, hown, hts⟩ hK hP (w_X2 (pa_st st_29 (z_li (by decide) : vp_in (0 : Int32) 5))) rfl (kX2_copyFrom hI (pa_st st_29 (z_li (by decide) : vp_in (0 : Int32) 5)) (pa_st st_1 yg19) yhc20) giX5_276 ⟨rfl, rfl⟩ ndX2_copyFrom ⟨Nat.le_of_ble_eq_true rfl, Nat.le_of_ble_eq_true rfl⟩ rfl hl.1 rfl (Nat.le_of_ble_eq_true rfl) ⟨Nat.le_refl _, Nat.le_refl _⟩ dX5_answersWithLastTest_20) hS (fun H locs hP hS => ?_)
  refine lv_aload_n hx hb dX5_answersWithLastTest_23 rfl (lv_at hl 0 rfl) ?_
  refine lv_iload_n hx hb dX5_answersWithLastTest_24 rfl (lv_at hl 3 rfl) ?_
  obtain ⟨yd2, yhc25, h⟩ := z_brx h
  refine z_kv (z_rV (As := [.int yx2]) (rest := []) ⟨hx, hb, hml, hown, hts⟩ hK hP (w_X2 (pa_st st_29 (z_li (by decide) : vp_in (0 : Int32) 5))) rfl (kX2_setLastTest hI (pa_st st_29 (z_li (by decide) : vp_in (0 : Int32) 5)) yhc25) giX5_279 ⟨rfl, rfl⟩ ndX2_setLastTest ⟨Nat.le_of_ble_eq_true rfl, Nat.le_of_ble_eq_true rfl⟩ rfl hl.1 rfl (Nat.le_of_ble_eq_true rfl) ⟨Nat.le_refl _, Nat.le_refl _⟩ dX5_answersWithLastTest_25) hS (fun H locs hP hS => ?_)
  refine lv_aload_n hx hb dX5_answersWithLastTest_28 rfl (lv_at hl 1 rfl) ?_
  refine gt_X5_5 hx hb hts hown hK hP (hts _ wl_1_180) dX5_answersWithLastTest_29 ?_
  refine lv_aload_n hx hb dX5_answersWithLastTest_32 rfl (lv_at hl 1 rfl) ?_
  refine gt_X5_0 hx hb hts hown hK hP (hts _ wl_1_175) dX5_answersWithLastTest_33 ?_
  refine gt_X3_0 hx hb hts hown hK hP st_1 (hts _ wl_1_114) dX5_answersWithLastTest_36 ?_
  refine lv_aload_n hx hb dX5_answersWithLastTest_39 rfl (lv_at hl 0 rfl) ?_
  obtain ⟨yd3, yhc40, h⟩ := z_brx h
  refine z_kv (z_rV (As := [.ref (ad 2), .ref (ad (37 + 4 * (z_ix (0 : Int32))))]) (rest := []) ⟨hx, hb, hml, hown, hts⟩ hK hP w_X1 rfl (kX1_match hI (el_st st_1) (pa_st st_29 (z_li (by decide) : vp_in (0 : Int32) 5)) yhc40) giX5_148 ⟨rfl, rfl⟩ ndX1_match ⟨Nat.le_of_ble_eq_true rfl, Nat.le_of_ble_eq_true rfl⟩ rfl hl.1 rfl (Nat.le_of_ble_eq_true rfl) ⟨Nat.le_refl _, Nat.le_refl _⟩ dX5_answersWithLastTest_40) hS (fun H locs hP hS => ?_)
  refine lv_aload_n hx hb dX5_answersWithLastTest_43 rfl (lv_at hl 1 rfl) ?_
  refine gt_X5_5 hx hb hts hown hK hP (hts _ wl_1_180) dX5_answersWithLastTest_44 ?_
  refine gt_X1_4 hx hb hts hown hK hP (hts _ wl_1_141) dX5_answersWithLastTest_47 ?_
  obtain ⟨yr4, yhc50, h⟩ := z_brx h
  refine z_ki (z_rS (As := [.int (yd3.1 60 4)]) (rest := []) ⟨hx, hb, hml, hown, hts⟩ hK hP (kJ6_bitCount_0f7a4 yhc50) giX5_237 ⟨rfl, rfl⟩ ndJ6_bitCount_0f7a4 ⟨Nat.le_of_ble_eq_true rfl, Nat.le_of_ble_eq_true rfl⟩ rfl hl.1 rfl (Nat.le_of_ble_eq_true rfl) ⟨Nat.le_refl _, Nat.le_refl _⟩ dX5_answersWithLastTest_50) hS (fun H locs hP hS => ?_)
  exact hRet _ _ _ _ _ _ hP hS h dX5_answersWithLastTest_53
noncomputable def jX5_agreesWithAll_42 (yv1 : Int32) (yd5 : Dt) : Option ((Int32 × Dt) ⊕ ((Dt) ⊕ (Dt))) :=
  z_nm (yv1 + (1 : Int32)) fun yv6 => some (.inl (yv6, yd5))
noncomputable def bX5_agreesWithAll_2 (yx1 : Int32) (s : Int32 × Dt) : Option ((Int32 × Dt) ⊕ ((Dt) ⊕ (Dt))) := match s with
  | (yv1, yd2) => zif ((yd2.1 0 15) ≤ yv1) (some (.inr (.inr yd2))) (z_gd (z_in yv1 6) (z_nm (yd2.1 68 (z_ix yv1)) fun yv3 => z_br (fX5_isPath yd2 yv3) fun yr4 => zif (yr4 = 0) (jX5_agreesWithAll_42 yv1 yd2) (z_bd (fX5_answersWithLastTest yd2 yv3 yx1) fun yr7 yd8 => z_gd (z_in yv1 6) (zif (yr7 = (yd8.1 69 (z_ix yv1))) (jX5_agreesWithAll_42 yv1 yd8) (some (.inr (.inl yd8)))))))
noncomputable def fX5_agreesWithAll (yd : Dt) (yx1 : Int32) : Option (Int32 × Dt) :=
  z_br (z_lp (bX5_agreesWithAll_2 yx1) ((0 : Int32), yd)) (fun t => match t with | .inl yd9 => some ((0 : Int32), yd9) | .inr yd10 => some ((1 : Int32), yd10))
set_option maxHeartbeats 4000000 in
set_option maxRecDepth 100000 in
theorem kX5_agreesWithAll {l : Launch} {D : va_G} {G : z_G} {ad : Nat → Nat} {A : Nat → Prop} (hI : ∀ d, va_D A (WC G ad d)) {yd : Dt} {yx1 : Int32}  {rr : Int32} {dd : Dt} (h : fX5_agreesWithAll yd yx1 = some (rr, dd)) : z_Mz l D G A (WC G ad) yX5_agreesWithAll cX5_agreesWithAll 4 (z_rm 4 106) yd [.ref (ad 0), .int yx1] rr dd := by
  refine z_ofz (by decide) (Nat.le_of_ble_eq_true rfl) fun p e s m args below meth c Q hx hb hml hown hts hK hP hRet ls hl => ?_
  have hS : va_S A s.heap s.heap [] := va_S.rf
  have hl : lv_has ls 4 [(0, .ref (ad 0)), (1, .int yx1)] := hl
  have h : (z_br (z_lp (bX5_agreesWithAll_2 yx1) ((0 : Int32), yd)) (fun t => match t with | .inl yd9 => some ((0 : Int32), yd9) | .inr yd10 => some ((1 : Int32), yd10))) = some (rr, dd) := h
  refine lv_iconst (v := (0 : Int32)) hx hb dX5_agreesWithAll_0 (by decide) ?_
  refine lv_istore_n (lv' := [(2, .int (0 : Int32)), (0, .ref (ad 0)), (1, .int yx1)]) hx hb dX5_agreesWithAll_1 rfl hl (by decide) rfl (fun ls hl => ?_)
  obtain ⟨yt2, hlp, h⟩ := z_brx h
  obtain ⟨yn2, hlp⟩ := z_lpx hlp
  have hE40 : ∀ (yd9 : Dt) (H : Heap) (locs : List Loc) (ls : Array Slot), (.inl yd9) = yt2 → va_P D vwCl (WC G ad yd9) H → va_S A s.heap H locs → lv_has ls 4 [] → W p l e (z_rm 4 106) s m args below meth c H locs 0 0 Q (F0 m 40 ls []) := by
    intro yd9 H locs ls et hP hS hl
    subst et
    have h : (some ((0 : Int32), yd9)) = some (rr, dd) := h
    refine lv_iconst (v := (0 : Int32)) hx hb dX5_agreesWithAll_40 (by decide) ?_
    exact hRet _ _ _ _ _ _ hP hS (Or.inl rfl) h dX5_agreesWithAll_41
  have hE48 : ∀ (yd10 : Dt) (H : Heap) (locs : List Loc) (ls : Array Slot), (.inr yd10) = yt2 → va_P D vwCl (WC G ad yd10) H → va_S A s.heap H locs → lv_has ls 4 [] → W p l e (z_rm 4 106) s m args below meth c H locs 0 0 Q (F0 m 48 ls []) := by
    intro yd10 H locs ls et hP hS hl
    subst et
    have h : (some ((1 : Int32), yd10)) = some (rr, dd) := h
    refine lv_iconst (v := (1 : Int32)) hx hb dX5_agreesWithAll_48 (by decide) ?_
    exact hRet _ _ _ _ _ _ hP hS (Or.inr rfl) h dX5_agreesWithAll_49
  have hL2 : ∀ (n : Nat) (yv1 : Int32) (yd2 : Dt) (H : Heap) (locs : List Loc) (ls : Array Slot), z_it (bX5_agreesWithAll_2 yx1) n (yv1, yd2) = some yt2 → va_P D vwCl (WC G ad yd2) H → va_S A s.heap H locs → lv_has ls 4 [(0, .ref (ad 0)), (1, .int yx1), (2, .int yv1)] → W p l e (z_rm 4 106) s m args below meth c H locs 0 0 Q (F0 m 2 ls []) := by
    intro n
    induction n with
    | zero => intro yv1 yd2 H locs ls hn; exact z_it0 hn
    | succ n ih =>
      intro yv1 yd2 H locs ls hn hP hS hl
      obtain ⟨yq2, h, hq1, hq2⟩ := z_itx hn
      have h : (zif ((yd2.1 0 15) ≤ yv1) (some (.inr (.inr yd2))) (z_gd (z_in yv1 6) (z_nm (yd2.1 68 (z_ix yv1)) fun yv3 => z_br (fX5_isPath yd2 yv3) fun yr4 => zif (yr4 = 0) (jX5_agreesWithAll_42 yv1 yd2) (z_bd (fX5_answersWithLastTest yd2 yv3 yx1) fun yr7 yd8 => z_gd (z_in yv1 6) (zif (yr7 = (yd8.1 69 (z_ix yv1))) (jX5_agreesWithAll_42 yv1 yd8) (some (.inr (.inl yd8)))))))) = some yq2 := h
      refine lv_iload_n hx hb dX5_agreesWithAll_2 rfl (lv_at hl 2 rfl) ?_
      refine lv_aload_n hx hb dX5_agreesWithAll_3 rfl (lv_at hl 0 rfl) ?_
      refine gt_X5_15 hx hb hts hown hK hP (hts _ wl_1_190) dX5_agreesWithAll_4 ?_
      refine lv_icmp_ge (tgt := 48) hx hb dX5_agreesWithAll_7 (by decide) (fun yc7 => ?_) (fun yc7 => ?_)
      · have h := z_ifp yc7 h
        exact hE48 _ _ _ _ (hq2 _ (z_sm h).symm) hP hS (lv_sub hl [] rfl)
      · have h := z_ifn yc7 h
        refine lv_aload_n hx hb dX5_agreesWithAll_10 rfl (lv_at hl 0 rfl) ?_
        refine gt_X5_8 hx hb hts hown hK hP (hts _ wl_1_183) dX5_agreesWithAll_11 ?_
        refine lv_iload_n hx hb dX5_agreesWithAll_14 rfl (lv_at hl 2 rfl) ?_
        obtain ⟨yg15, h⟩ := z_gi h
        refine al_C hx hb hK hP rfl (by decide) yg15 dX5_agreesWithAll_15 ?_
        refine lv_topi (fun yv3 e_yv3 => ?_)
        have h := z_nma e_yv3 h
        refine lv_istore_n (lv' := [(3, .int yv3), (0, .ref (ad 0)), (1, .int yx1), (2, .int yv1)]) hx hb dX5_agreesWithAll_16 rfl hl (by decide) rfl (fun ls hl => ?_)
        refine lv_aload_n hx hb dX5_agreesWithAll_17 rfl (lv_at hl 1 rfl) ?_
        refine lv_iload_n hx hb dX5_agreesWithAll_18 rfl (lv_at hl 0 rfl) ?_
        obtain ⟨yr4, yhc19, h⟩ := z_brx h
        refine z_kz (z_rV (As := [.int yv3]) (rest := []) ⟨hx, hb, hml, hown, hts⟩ hK hP w_X5 rfl (kX5_isPath hI yhc19) giX5_129 ⟨rfl, rfl⟩ ndX5_isPath ⟨Nat.le_of_ble_eq_true rfl, Nat.le_of_ble_eq_true rfl⟩ rfl hl.1 rfl (Nat.le_of_ble_eq_true rfl) ⟨Nat.le_refl _, Nat.le_refl _⟩ dX5_agreesWithAll_19) hS (fun H locs z_yr4 hP hS => ?_)
        have hJ42 : ∀ (yd5 : Dt) (H : Heap) (locs : List Loc) (ls : Array Slot), jX5_agreesWithAll_42 yv1 yd5 = some yq2 → va_P D vwCl (WC G ad yd5) H → va_S A s.heap H locs → lv_has ls 4 [(0, .ref (ad 0)), (1, .int yx1), (2, .int yv1)] → W p l e (z_rm 4 106) s m args below meth c H locs 0 0 Q (F0 m 42 ls []) := by
          intro yd5 H locs ls h hP hS hl
          have h : (z_nm (yv1 + (1 : Int32)) fun yv6 => some (.inl (yv6, yd5))) = some yq2 := h
          obtain ⟨yv6, e_yv6, h⟩ := z_nmx h
          refine lv_iinc (v := yv6) (lv' := [(2, .int yv6), (0, .ref (ad 0)), (1, .int yx1)]) hx hb dX5_agreesWithAll_42 hl (k := 2) rfl (by rw [e_yv6]; rfl) (by decide) rfl (fun ls hl => ?_)
          refine lv_goto (tgt := 2) hx hb dX5_agreesWithAll_45 (by decide) ?_
          exact ih _ _ _ _ _ (hq1 _ (z_sm h).symm) hP hS (lv_sub hl [1, 2, 0] rfl)
        refine lv_if_eq (tgt := 42) hx hb dX5_agreesWithAll_22 (by decide) (fun yc22 => ?_) (fun yc22 => ?_)
        · have h := z_ifp yc22 h
          exact hJ42 _ _ _ _ h hP hS (lv_sub hl [1, 2, 3] rfl)
        · have h := z_ifn yc22 h
          refine lv_aload_n hx hb dX5_agreesWithAll_25 rfl (lv_at hl 1 rfl) ?_
          refine lv_iload_n hx hb dX5_agreesWithAll_26 rfl (lv_at hl 0 rfl) ?_
          refine lv_iload_n hx hb dX5_agreesWithAll_27 rfl (lv_at hl 2 rfl) ?_
          obtain ⟨yr7, yd8, yhc28, h⟩ := z_bdx h
          refine z_ki (z_rV (As := [.int yv3, .int yx1]) (rest := []) ⟨hx, hb, hml, hown, hts⟩ hK hP w_X5 rfl (kX5_answersWithLastTest hI yhc28) giX5_273 ⟨rfl, rfl⟩ ndX5_answersWithLastTest ⟨Nat.le_of_ble_eq_true rfl, Nat.le_of_ble_eq_true rfl⟩ rfl hl.1 rfl (Nat.le_of_ble_eq_true rfl) ⟨Nat.le_refl _, Nat.le_refl _⟩ dX5_agreesWithAll_28) hS (fun H locs hP hS => ?_)
          refine lv_aload_n hx hb dX5_agreesWithAll_31 rfl (lv_at hl 1 rfl) ?_
          refine gt_X5_9 hx hb hts hown hK hP (hts _ wl_1_184) dX5_agreesWithAll_32 ?_
          refine lv_iload_n hx hb dX5_agreesWithAll_35 rfl (lv_at hl 3 rfl) ?_
          obtain ⟨yg36, h⟩ := z_gi h
          refine al_C hx hb hK hP rfl (by decide) yg36 dX5_agreesWithAll_36 ?_
          refine lv_icmp_eq (tgt := 42) hx hb dX5_agreesWithAll_37 (by decide) (fun yc37 => ?_) (fun yc37 => ?_)
          · have h := z_ifp yc37 h
            exact hJ42 _ _ _ _ h hP hS (lv_sub hl [1, 2, 3] rfl)
          · have h := z_ifn yc37 h
            exact hE40 _ _ _ _ (hq2 _ (z_sm h).symm) hP hS (lv_sub hl [] rfl)
  exact hL2 yn2 _ _ _ _ _ hlp hP hS (lv_sub hl [1, 2, 0] rfl)
noncomputable def bX5_which_4 (s : Int32 × Int32 × Dt) : Option ((Int32 × Int32 × Dt) ⊕ (Int32 × Dt)) := match s with
  | (yv1, yv2, yd3) => zif ((5 : Int32) < yv2) (some (.inr (yv1, yd3))) (z_bd (fX5_agreesWithAll yd3 yv2) fun yr4 yd5 => z_nm (zif (yr4 = 0) yv1 (yv1 ||| ((1 : Int32) <<< (yv2 &&& 31)))) fun yv6 => z_nm (yv2 + (1 : Int32)) fun yv7 => some (.inl (yv6, yv7, yd5)))
noncomputable def fX5_which (yd : Dt) : Option (Int32 × Dt) :=
  z_br (z_lp (bX5_which_4) ((0 : Int32), (0 : Int32), yd)) (fun t => match t with | (yv8, yd9) => some (yv8, yd9))
set_option maxHeartbeats 4000000 in
set_option maxRecDepth 100000 in
theorem kX5_which {l : Launch} {D : va_G} {G : z_G} {ad : Nat → Nat} {A : Nat → Prop} (hI : ∀ d, va_D A (WC G ad d)) {yd : Dt}   {rr : Int32} {dd : Dt} (h : fX5_which yd = some (rr, dd)) : z_Mi l D G A (WC G ad) yX5_which cX5_which 3 (z_rm 5 129) yd [.ref (ad 0)] rr dd := by
  refine z_ofi (by decide) (Nat.le_of_ble_eq_true rfl) fun p e s m args below meth c Q hx hb hml hown hts hK hP hRet ls hl => ?_
  have hS : va_S A s.heap s.heap [] := va_S.rf
  have hl : lv_has ls 3 [(0, .ref (ad 0))] := hl
  have h : (z_br (z_lp (bX5_which_4) ((0 : Int32), (0 : Int32), yd)) (fun t => match t with | (yv8, yd9) => some (yv8, yd9))) = some (rr, dd) := h
  refine lv_iconst (v := (0 : Int32)) hx hb dX5_which_0 (by decide) ?_
  refine lv_istore_n (lv' := [(1, .int (0 : Int32)), (0, .ref (ad 0))]) hx hb dX5_which_1 rfl hl (by decide) rfl (fun ls hl => ?_)
  refine lv_iconst (v := (0 : Int32)) hx hb dX5_which_2 (by decide) ?_
  refine lv_istore_n (lv' := [(2, .int (0 : Int32)), (1, .int (0 : Int32)), (0, .ref (ad 0))]) hx hb dX5_which_3 rfl hl (by decide) rfl (fun ls hl => ?_)
  obtain ⟨yt4, hlp, h⟩ := z_brx h
  obtain ⟨yn4, hlp⟩ := z_lpx hlp
  have hE29 : ∀ (yv8 : Int32) (yd9 : Dt) (H : Heap) (locs : List Loc) (ls : Array Slot), (yv8, yd9) = yt4 → va_P D vwCl (WC G ad yd9) H → va_S A s.heap H locs → lv_has ls 3 [(1, .int yv8)] → W p l e (z_rm 5 129) s m args below meth c H locs 0 0 Q (F0 m 29 ls []) := by
    intro yv8 yd9 H locs ls et hP hS hl
    subst et
    have h : (some (yv8, yd9)) = some (rr, dd) := h
    refine lv_iload_n hx hb dX5_which_29 rfl (lv_at hl 0 rfl) ?_
    exact hRet _ _ _ _ _ _ hP hS h dX5_which_30
  have hL4 : ∀ (n : Nat) (yv1 : Int32) (yv2 : Int32) (yd3 : Dt) (H : Heap) (locs : List Loc) (ls : Array Slot), z_it (bX5_which_4) n (yv1, yv2, yd3) = some yt4 → va_P D vwCl (WC G ad yd3) H → va_S A s.heap H locs → lv_has ls 3 [(0, .ref (ad 0)), (1, .int yv1), (2, .int yv2)] → W p l e (z_rm 5 129) s m args below meth c H locs 0 0 Q (F0 m 4 ls []) := by
    intro n
    induction n with
    | zero => intro yv1 yv2 yd3 H locs ls hn; exact z_it0 hn
    | succ n ih =>
      intro yv1 yv2 yd3 H locs ls hn hP hS hl
      obtain ⟨yq4, h, hq1, hq2⟩ := z_itx hn
      have h : (zif ((5 : Int32) < yv2) (some (.inr (yv1, yd3))) (z_bd (fX5_agreesWithAll yd3 yv2) fun yr4 yd5 => z_nm (zif (yr4 = 0) yv1 (yv1 ||| ((1 : Int32) <<< (yv2 &&& 31)))) fun yv6 => z_nm (yv2 + (1 : Int32)) fun yv7 => some (.inl (yv6, yv7, yd5)))) = some yq4 := h
      refine lv_iload_n hx hb dX5_which_4 rfl (lv_at hl 2 rfl) ?_
      refine lv_iconst (v := (5 : Int32)) hx hb dX5_which_5 (by decide) ?_
      refine lv_icmp_gt (tgt := 29) hx hb dX5_which_6 (by decide) (fun yc6 => ?_) (fun yc6 => ?_)
      · have h := z_ifp yc6 h
        exact hE29 _ _ _ _ _ (hq2 _ (z_sm h).symm) hP hS (lv_sub hl [1] rfl)
      · have h := z_ifn yc6 h
        refine lv_aload_n hx hb dX5_which_9 rfl (lv_at hl 0 rfl) ?_
        refine lv_iload_n hx hb dX5_which_10 rfl (lv_at hl 2 rfl) ?_
        obtain ⟨yr4, yd5, yhc11, h⟩ := z_bdx h
        refine z_kz (z_rV (As := [.int yv2]) (rest := []) ⟨hx, hb, hml, hown, hts⟩ hK hP w_X5 rfl (kX5_agreesWithAll hI yhc11) giX5_216 ⟨rfl, rfl⟩ ndX5_agreesWithAll ⟨Nat.le_of_ble_eq_true rfl, Nat.le_of_ble_eq_true rfl⟩ rfl hl.1 rfl (Nat.le_of_ble_eq_true rfl) ⟨Nat.le_refl _, Nat.le_refl _⟩ dX5_which_11) hS (fun H locs z_yr4 hP hS => ?_)
        have hM23 : ∀ (yv6 : Int32) (H : Heap) (locs : List Loc) (ls : Array Slot), yv6 = (zif (yr4 = 0) yv1 (yv1 ||| ((1 : Int32) <<< (yv2 &&& 31)))) → va_P D vwCl (WC G ad yd5) H → va_S A s.heap H locs → lv_has ls 3 [(0, .ref (ad 0)), (1, .int yv6), (2, .int yv2)] → W p l e (z_rm 5 129) s m args below meth c H locs 0 0 Q (F0 m 23 ls []) := by
          intro yv6 H locs ls e_yv6 hP hS hl
          have h := z_nma e_yv6 h
          obtain ⟨yv7, e_yv7, h⟩ := z_nmx h
          refine lv_iinc (v := yv7) (lv' := [(2, .int yv7), (0, .ref (ad 0)), (1, .int yv6)]) hx hb dX5_which_23 hl (k := 2) rfl (by rw [e_yv7]; rfl) (by decide) rfl (fun ls hl => ?_)
          refine lv_goto (tgt := 4) hx hb dX5_which_26 (by decide) ?_
          exact ih _ _ _ _ _ _ (hq1 _ (z_sm h).symm) hP hS (lv_sub hl [1, 2, 0] rfl)
        refine lv_if_eq (tgt := 23) hx hb dX5_which_14 (by decide) (fun yc14 => ?_) (fun yc14 => ?_)
        · exact hM23 _ _ _ _ (z_tp yc14 rfl) hP hS (lv_sub hl [0, 1, 2] rfl)
        · refine lv_iload_n hx hb dX5_which_17 rfl (lv_at hl 1 rfl) ?_
          refine lv_iconst (v := (1 : Int32)) hx hb dX5_which_18 (by decide) ?_
          refine lv_iload_n hx hb dX5_which_19 rfl (lv_at hl 2 rfl) ?_
          refine lv_ishl hx hb dX5_which_20 ?_
          refine lv_ior hx hb dX5_which_21 ?_
          refine lv_istore_n (lv' := [(1, .int (yv1 ||| ((1 : Int32) <<< (yv2 &&& 31)))), (0, .ref (ad 0)), (2, .int yv2)]) hx hb dX5_which_22 rfl hl (by decide) rfl (fun ls hl => ?_)
          exact hM23 _ _ _ _ (z_tn yc14 rfl) hP hS (lv_sub hl [1, 0, 2] rfl)
  exact hL4 yn4 _ _ _ _ _ _ hlp hP hS (lv_sub hl [2, 1, 0] rfl)
noncomputable def bX5_findAnswerSets_2 (s : Int32 × Dt) : Option ((Int32 × Dt) ⊕ (Dt)) := match s with
  | (yv1, yd2) => zif ((yd2.1 1 2) ≤ yv1) (some (.inr yd2)) (z_bd (fX5_answersOf yd2 1 yv1) fun yr3 yd4 => z_gd (z_in yv1 5) (z_nm (z_st yd4 71 (z_ix yv1) yr3) fun yd5 => z_nm (yv1 + (1 : Int32)) fun yv6 => some (.inl (yv6, yd5))))
noncomputable def fX5_findAnswerSets (yd : Dt) : Option (Dt) :=
  z_br (z_lp (bX5_findAnswerSets_2) ((0 : Int32), yd)) (fun t => match t with | yd7 => some yd7)
set_option maxHeartbeats 4000000 in
set_option maxRecDepth 100000 in
theorem kX5_findAnswerSets {l : Launch} {D : va_G} {G : z_G} {ad : Nat → Nat} {A : Nat → Prop} (hI : ∀ d, va_D A (WC G ad d)) {yd : Dt}   {dd : Dt} (h : fX5_findAnswerSets yd = some dd) : z_Mv l D G A (WC G ad) yX5_findAnswerSets cX5_findAnswerSets 2 (z_rm 4 105) yd [.ref (ad 0)] dd := by
  refine z_ofv (by decide) (Nat.le_of_ble_eq_true rfl) fun p e s m args below meth c Q hx hb hml hown hts hK hP hRet ls hl => ?_
  have hS : va_S A s.heap s.heap [] := va_S.rf
  have hl : lv_has ls 2 [(0, .ref (ad 0))] := hl
  have h : (z_br (z_lp (bX5_findAnswerSets_2) ((0 : Int32), yd)) (fun t => match t with | yd7 => some yd7)) = some dd := h
  refine lv_iconst (v := (0 : Int32)) hx hb dX5_findAnswerSets_0 (by decide) ?_
  refine lv_istore_n (lv' := [(1, .int (0 : Int32)), (0, .ref (ad 0))]) hx hb dX5_findAnswerSets_1 rfl hl (by decide) rfl (fun ls hl => ?_)
  obtain ⟨yt2, hlp, h⟩ := z_brx h
  obtain ⟨yn2, hlp⟩ := z_lpx hlp
  have hE34 : ∀ (yd7 : Dt) (H : Heap) (locs : List Loc) (ls : Array Slot), yd7 = yt2 → va_P D vwCl (WC G ad yd7) H → va_S A s.heap H locs → lv_has ls 2 [] → W p l e (z_rm 4 105) s m args below meth c H locs 0 0 Q (F0 m 34 ls []) := by
    intro yd7 H locs ls et hP hS hl
    subst et
    have h : (some yd7) = some dd := h
    exact hRet _ _ _ _ _ hP hS h dX5_findAnswerSets_34
  have hL2 : ∀ (n : Nat) (yv1 : Int32) (yd2 : Dt) (H : Heap) (locs : List Loc) (ls : Array Slot), z_it (bX5_findAnswerSets_2) n (yv1, yd2) = some yt2 → va_P D vwCl (WC G ad yd2) H → va_S A s.heap H locs → lv_has ls 2 [(0, .ref (ad 0)), (1, .int yv1)] → W p l e (z_rm 4 105) s m args below meth c H locs 0 0 Q (F0 m 2 ls []) := by
    intro n
    induction n with
    | zero => intro yv1 yd2 H locs ls hn; exact z_it0 hn
    | succ n ih =>
      intro yv1 yd2 H locs ls hn hP hS hl
      obtain ⟨yq2, h, hq1, hq2⟩ := z_itx hn
      have h : (zif ((yd2.1 1 2) ≤ yv1) (some (.inr yd2)) (z_bd (fX5_answersOf yd2 1 yv1) fun yr3 yd4 => z_gd (z_in yv1 5) (z_nm (z_st yd4 71 (z_ix yv1) yr3) fun yd5 => z_nm (yv1 + (1 : Int32)) fun yv6 => some (.inl (yv6, yd5))))) = some yq2 := h
      refine lv_iload_n hx hb dX5_findAnswerSets_2 rfl (lv_at hl 1 rfl) ?_
      refine lv_aload_n hx hb dX5_findAnswerSets_3 rfl (lv_at hl 0 rfl) ?_
      refine gt_X5_0 hx hb hts hown hK hP (hts _ wl_1_175) dX5_findAnswerSets_4 ?_
      refine gt_X3_2 hx hb hts hown hK hP st_1 (hts _ wl_1_118) dX5_findAnswerSets_7 ?_
      refine lv_icmp_ge (tgt := 34) hx hb dX5_findAnswerSets_10 (by decide) (fun yc10 => ?_) (fun yc10 => ?_)
      · have h := z_ifp yc10 h
        exact hE34 _ _ _ _ (hq2 _ (z_sm h).symm) hP hS (lv_sub hl [] rfl)
      · have h := z_ifn yc10 h
        refine lv_aload_n hx hb dX5_findAnswerSets_13 rfl (lv_at hl 0 rfl) ?_
        refine gt_X5_11 hx hb hts hown hK hP (hts _ wl_1_186) dX5_findAnswerSets_14 ?_
        refine lv_iload_n hx hb dX5_findAnswerSets_17 rfl (lv_at hl 1 rfl) ?_
        refine lv_aload_n hx hb dX5_findAnswerSets_18 rfl (lv_at hl 0 rfl) ?_
        refine lv_aload_n hx hb dX5_findAnswerSets_19 rfl (lv_at hl 0 rfl) ?_
        refine gt_X5_0 hx hb hts hown hK hP (hts _ wl_1_175) dX5_findAnswerSets_20 ?_
        refine lv_iload_n hx hb dX5_findAnswerSets_23 rfl (lv_at hl 1 rfl) ?_
        obtain ⟨yr3, yd4, yhc24, h⟩ := z_bdx h
        refine z_ki (z_rV (As := [.ref (ad 1), .int yv1]) (rest := [.int yv1, .ref (ad 71)]) ⟨hx, hb, hml, hown, hts⟩ hK hP w_X5 rfl (kX5_answersOf hI st_1 yhc24) giX5_208 ⟨rfl, rfl⟩ ndX5_answersOf ⟨Nat.le_of_ble_eq_true rfl, Nat.le_of_ble_eq_true rfl⟩ rfl hl.1 rfl (Nat.le_of_ble_eq_true rfl) ⟨Nat.le_refl _, Nat.le_refl _⟩ dX5_findAnswerSets_24) hS (fun H locs hP hS => ?_)
        obtain ⟨yg27, h⟩ := z_gi h
        refine as_C hx hb hK hP hI hS rfl (by decide) yg27 dX5_findAnswerSets_27 (fun H locs yd5 e_yd5 hP hS => ?_)
        have h := z_nma e_yd5 h
        obtain ⟨yv6, e_yv6, h⟩ := z_nmx h
        refine lv_iinc (v := yv6) (lv' := [(1, .int yv6), (0, .ref (ad 0))]) hx hb dX5_findAnswerSets_28 hl (k := 1) rfl (by rw [e_yv6]; rfl) (by decide) rfl (fun ls hl => ?_)
        refine lv_goto (tgt := 2) hx hb dX5_findAnswerSets_31 (by decide) ?_
        exact ih _ _ _ _ _ (hq1 _ (z_sm h).symm) hP hS (lv_sub hl [1, 0] rfl)
  exact hL2 yn2 _ _ _ _ _ hlp hP hS (lv_sub hl [1, 0] rfl)
