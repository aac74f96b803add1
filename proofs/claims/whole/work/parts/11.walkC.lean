noncomputable def fX1_note (yd : Dt) (yx1 : Int32) (yx2 : Int32) : Option (Dt) :=
  z_gd (z_in yx1 20) (z_br (fX1_hasPrefix (yd.1 61 (z_ix yx1)) yx2) fun yr1 => zif (yr1 = 0) (z_gd (z_in yx1 20) (z_br (fX1_hasPrefix (yd.1 62 (z_ix yx1)) yx2) fun yr2 => zif (yr2 = 0) (some yd) (z_nm (z_st yd 60 5 ((yd.1 60 5) ||| ((1 : Int32) <<< (yx1 &&& 31)))) fun yd3 => some yd3))) (z_nm (z_st yd 60 4 ((yd.1 60 4) ||| ((1 : Int32) <<< (yx1 &&& 31)))) fun yd4 => some yd4))
set_option maxHeartbeats 4000000 in
set_option maxRecDepth 100000 in
theorem kX1_note {l : Launch} {D : va_G} {G : z_G} {ad : Nat → Nat} {A : Nat → Prop} (hI : ∀ d, va_D A (WC G ad d)) {yd : Dt} {yx1 : Int32} {yx2 : Int32}  {dd : Dt} (h : fX1_note yd yx1 yx2 = some dd) : z_Mv l D G A (WC G ad) yX1_note cX1_note 3 (z_rm 1 21) yd [.ref (ad 60), .int yx1, .int yx2] dd := by
  refine z_ofv (by decide) (Nat.le_of_ble_eq_true rfl) fun p e s m args below meth c Q hx hb hml hown hts hK hP hRet ls hl => ?_
  have hS : va_S A s.heap s.heap [] := va_S.rf
  have hl : lv_has ls 3 [(0, .ref (ad 60)), (1, .int yx1), (2, .int yx2)] := hl
  have h : (z_gd (z_in yx1 20) (z_br (fX1_hasPrefix (yd.1 61 (z_ix yx1)) yx2) fun yr1 => zif (yr1 = 0) (z_gd (z_in yx1 20) (z_br (fX1_hasPrefix (yd.1 62 (z_ix yx1)) yx2) fun yr2 => zif (yr2 = 0) (some yd) (z_nm (z_st yd 60 5 ((yd.1 60 5) ||| ((1 : Int32) <<< (yx1 &&& 31)))) fun yd3 => some yd3))) (z_nm (z_st yd 60 4 ((yd.1 60 4) ||| ((1 : Int32) <<< (yx1 &&& 31)))) fun yd4 => some yd4))) = some dd := h
  refine lv_aload_n hx hb dX1_note_0 rfl (lv_at hl 0 rfl) ?_
  refine gt_X1_0 hx hb hts hown hK hP (hts _ wl_1_134) dX1_note_1 ?_
  refine lv_iload_n hx hb dX1_note_4 rfl (lv_at hl 1 rfl) ?_
  obtain ⟨yg5, h⟩ := z_gi h
  refine al_C hx hb hK hP rfl (by decide) yg5 dX1_note_5 ?_
  refine lv_iload_n hx hb dX1_note_6 rfl (lv_at hl 2 rfl) ?_
  obtain ⟨yr1, yhc7, h⟩ := z_brx h
  refine z_kz (z_rS (As := [.int (yd.1 61 (z_ix yx1)), .int yx2]) (rest := []) ⟨hx, hb, hml, hown, hts⟩ hK hP (kX1_hasPrefix yhc7) giX1_68 ⟨rfl, rfl⟩ ndX1_hasPrefix ⟨Nat.le_of_ble_eq_true rfl, Nat.le_of_ble_eq_true rfl⟩ rfl hl.1 rfl (Nat.le_of_ble_eq_true rfl) ⟨Nat.le_refl _, Nat.le_refl _⟩ dX1_note_7) hS (fun H locs z_yr1 hP hS => ?_)
  refine lv_if_eq (tgt := 28) hx hb dX1_note_10 (by decide) (fun yc10 => ?_) (fun yc10 => ?_)
  · have h := z_ifp yc10 h
    refine lv_aload_n hx hb dX1_note_28 rfl (lv_at hl 0 rfl) ?_
    refine gt_X1_1 hx hb hts hown hK hP (hts _ wl_1_136) dX1_note_29 ?_
    refine lv_iload_n hx hb dX1_note_32 rfl (lv_at hl 1 rfl) ?_
    obtain ⟨yg33, h⟩ := z_gi h
    refine al_C hx hb hK hP rfl (by decide) yg33 dX1_note_33 ?_
    refine lv_iload_n hx hb dX1_note_34 rfl (lv_at hl 2 rfl) ?_
    obtain ⟨yr2, yhc35, h⟩ := z_brx h
    refine z_kz (z_rS (As := [.int (yd.1 62 (z_ix yx1)), .int yx2]) (rest := []) ⟨hx, hb, hml, hown, hts⟩ hK hP (kX1_hasPrefix yhc35) giX1_68 ⟨rfl, rfl⟩ ndX1_hasPrefix ⟨Nat.le_of_ble_eq_true rfl, Nat.le_of_ble_eq_true rfl⟩ rfl hl.1 rfl (Nat.le_of_ble_eq_true rfl) ⟨Nat.le_refl _, Nat.le_refl _⟩ dX1_note_35) hS (fun H locs z_yr2 hP hS => ?_)
    refine lv_if_eq (tgt := 53) hx hb dX1_note_38 (by decide) (fun yc38 => ?_) (fun yc38 => ?_)
    · have h := z_ifp yc38 h
      exact hRet _ _ _ _ _ hP hS h dX1_note_53
    · have h := z_ifn yc38 h
      refine lv_aload_n hx hb dX1_note_41 rfl (lv_at hl 0 rfl) ?_
      refine lv_dup hx hb dX1_note_42 rfl ?_
      refine gt_X1_5 hx hb hts hown hK hP (hts _ wl_1_142) dX1_note_43 ?_
      refine lv_iconst (v := (1 : Int32)) hx hb dX1_note_46 (by decide) ?_
      refine lv_iload_n hx hb dX1_note_47 rfl (lv_at hl 1 rfl) ?_
      refine lv_ishl hx hb dX1_note_48 ?_
      refine lv_ior hx hb dX1_note_49 ?_
      refine pt_X1_5 hx hb hts hown hK hP hI hS (hts _ wl_1_142) dX1_note_50 (fun H locs yd3 e_yd3 hP hS => ?_)
      have h := z_nma e_yd3 h
      exact hRet _ _ _ _ _ hP hS h dX1_note_53
  · have h := z_ifn yc10 h
    refine lv_aload_n hx hb dX1_note_13 rfl (lv_at hl 0 rfl) ?_
    refine lv_dup hx hb dX1_note_14 rfl ?_
    refine gt_X1_4 hx hb hts hown hK hP (hts _ wl_1_139) dX1_note_15 ?_
    refine lv_iconst (v := (1 : Int32)) hx hb dX1_note_18 (by decide) ?_
    refine lv_iload_n hx hb dX1_note_19 rfl (lv_at hl 1 rfl) ?_
    refine lv_ishl hx hb dX1_note_20 ?_
    refine lv_ior hx hb dX1_note_21 ?_
    refine pt_X1_4 hx hb hts hown hK hP hI hS (hts _ wl_1_139) dX1_note_22 (fun H locs yd4 e_yd4 hP hS => ?_)
    have h := z_nma e_yd4 h
    refine lv_goto (tgt := 53) hx hb dX1_note_25 (by decide) ?_
    exact hRet _ _ _ _ _ hP hS h dX1_note_53
noncomputable def bX1_match_12 (ya1 : Nat) (ya2 : Nat) (s : Int32 × Dt) : Option ((Int32 × Dt) ⊕ (Dt)) := match s with
  | (yv3, yd4) => zif ((yd4.1 ya1 6) ≤ yv3) (some (.inr yd4)) (z_gd (z_in yv3 20) (z_br (fX1_lookAround yd4 yv3 (yd4.1 (ya1 + 2) (z_ix yv3))) fun yd5 => z_br (fX1_matchElement yd5 ya1 yv3 ya2) fun yd6 => z_br (fX1_note yd6 yv3 (yd6.1 ya2 3)) fun yd7 => z_nm (yv3 + (1 : Int32)) fun yv8 => some (.inl (yv8, yd7))))
noncomputable def fX1_match (yd : Dt) (ya1 : Nat) (ya2 : Nat) : Option (Dt) :=
  z_nm (z_st yd 60 4 (0 : Int32)) fun yd1 => z_nm (z_st yd1 60 5 (0 : Int32)) fun yd2 => z_br (z_lp (bX1_match_12 ya1 ya2) ((0 : Int32), yd2)) (fun t => match t with | yd9 => some yd9)
set_option maxHeartbeats 4000000 in
set_option maxRecDepth 100000 in
theorem kX1_match {l : Launch} {D : va_G} {G : z_G} {ad : Nat → Nat} {A : Nat → Prop} (hI : ∀ d, va_D A (WC G ad d)) {yd : Dt} {ya1 : Nat} {ya2 : Nat} (yh1 : isEl ya1) (yh2 : isPa ya2) {dd : Dt} (h : fX1_match yd ya1 ya2 = some dd) : z_Mv l D G A (WC G ad) yX1_match cX1_match 4 (z_rm 2 60) yd [.ref (ad 60), .ref (ad ya1), .ref (ad ya2)] dd := by
  refine z_ofv (by decide) (Nat.le_of_ble_eq_true rfl) fun p e s m args below meth c Q hx hb hml hown hts hK hP hRet ls hl => ?_
  have hS : va_S A s.heap s.heap [] := va_S.rf
  have hl : lv_has ls 4 [(0, .ref (ad 60)), (1, .ref (ad ya1)), (2, .ref (ad ya2))] := hl
  have h : (z_nm (z_st yd 60 4 (0 : Int32)) fun yd1 => z_nm (z_st yd1 60 5 (0 : Int32)) fun yd2 => z_br (z_lp (bX1_match_12 ya1 ya2) ((0 : Int32), yd2)) (fun t => match t with | yd9 => some yd9)) = some dd := h
  refine lv_aload_n hx hb dX1_match_0 rfl (lv_at hl 0 rfl) ?_
  refine lv_iconst (v := (0 : Int32)) hx hb dX1_match_1 (by decide) ?_
  refine pt_X1_4 hx hb hts hown hK hP hI hS (hts _ wl_1_139) dX1_match_2 (fun H locs yd1 e_yd1 hP hS => ?_)
  have h := z_nma e_yd1 h
  refine lv_aload_n hx hb dX1_match_5 rfl (lv_at hl 0 rfl) ?_
  refine lv_iconst (v := (0 : Int32)) hx hb dX1_match_6 (by decide) ?_
  refine pt_X1_5 hx hb hts hown hK hP hI hS (hts _ wl_1_142) dX1_match_7 (fun H locs yd2 e_yd2 hP hS => ?_)
  have h := z_nma e_yd2 h
  refine lv_iconst (v := (0 : Int32)) hx hb dX1_match_10 (by decide) ?_
  refine lv_istore_n (lv' := [(3, .int (0 : Int32)), (0, .ref (ad 60)), (1, .ref (ad ya1)), (2, .ref (ad ya2))]) hx hb dX1_match_11 rfl hl (by decide) rfl (fun ls hl => ?_)
  obtain ⟨yt12, hlp, h⟩ := z_brx h
  obtain ⟨yn12, hlp⟩ := z_lpx hlp
  have hE53 : ∀ (yd9 : Dt) (H : Heap) (locs : List Loc) (ls : Array Slot), yd9 = yt12 → va_P D vwCl (WC G ad yd9) H → va_S A s.heap H locs → lv_has ls 4 [] → W p l e (z_rm 2 60) s m args below meth c H locs 0 0 Q (F0 m 53 ls []) := by
    intro yd9 H locs ls et hP hS hl
    subst et
    have h : (some yd9) = some dd := h
    exact hRet _ _ _ _ _ hP hS h dX1_match_53
  have hL12 : ∀ (n : Nat) (yv3 : Int32) (yd4 : Dt) (H : Heap) (locs : List Loc) (ls : Array Slot), z_it (bX1_match_12 ya1 ya2) n (yv3, yd4) = some yt12 → va_P D vwCl (WC G ad yd4) H → va_S A s.heap H locs → lv_has ls 4 [(0, .ref (ad 60)), (1, .ref (ad ya1)), (2, .ref (ad ya2)), (3, .int yv3)] → W p l e (z_rm 2 60) s m args below meth c H locs 0 0 Q (F0 m 12 ls []) := by
    intro n
    induction n with
    | zero => intro yv3 yd4 H locs ls hn; exact z_it0 hn
    | succ n ih =>
      intro yv3 yd4 H locs ls hn hP hS hl
      obtain ⟨yq12, h, hq1, hq2⟩ := z_itx hn
      have h : (zif ((yd4.1 ya1 6) ≤ yv3) (some (.inr yd4)) (z_gd (z_in yv3 20) (z_br (fX1_lookAround yd4 yv3 (yd4.1 (ya1 + 2) (z_ix yv3))) fun yd5 => z_br (fX1_matchElement yd5 ya1 yv3 ya2) fun yd6 => z_br (fX1_note yd6 yv3 (yd6.1 ya2 3)) fun yd7 => z_nm (yv3 + (1 : Int32)) fun yv8 => some (.inl (yv8, yd7))))) = some yq12 := h
      refine lv_iload_n hx hb dX1_match_12 rfl (lv_at hl 3 rfl) ?_
      refine lv_aload_n hx hb dX1_match_13 rfl (lv_at hl 1 rfl) ?_
      refine gt_X0_6 hx hb hts hown hK hP yh1 (hts _ wl_1_47) dX1_match_14 ?_
      refine lv_icmp_ge (tgt := 53) hx hb dX1_match_17 (by decide) (fun yc17 => ?_) (fun yc17 => ?_)
      · have h := z_ifp yc17 h
        exact hE53 _ _ _ _ (hq2 _ (z_sm h).symm) hP hS (lv_sub hl [] rfl)
      · have h := z_ifn yc17 h
        refine lv_aload_n hx hb dX1_match_20 rfl (lv_at hl 0 rfl) ?_
        refine lv_iload_n hx hb dX1_match_21 rfl (lv_at hl 3 rfl) ?_
        refine lv_aload_n hx hb dX1_match_22 rfl (lv_at hl 1 rfl) ?_
        refine gt_X0_1 hx hb hts hown hK hP yh1 (hts _ wl_1_35) dX1_match_23 ?_
        refine lv_iload_n hx hb dX1_match_26 rfl (lv_at hl 3 rfl) ?_
        obtain ⟨yg27, h⟩ := z_gi h
        refine al_C hx hb hK hP (ar_el2 yh1) (by decide) yg27 dX1_match_27 ?_
        obtain ⟨yd5, yhc28, h⟩ := z_brx h
        refine z_kv (z_rV (As := [.int yv3, .int (yd4.1 (ya1 + 2) (z_ix yv3))]) (rest := []) ⟨hx, hb, hml, hown, hts⟩ hK hP w_X1 rfl (kX1_lookAround hI yhc28) giX1_39 ⟨rfl, rfl⟩ ndX1_lookAround ⟨Nat.le_of_ble_eq_true rfl, Nat.le_of_ble_eq_true rfl⟩ rfl hl.1 rfl (Nat.le_of_ble_eq_true rfl) ⟨Nat.le_refl _, Nat.le_refl _⟩ dX1_match_28) hS (fun H locs hP hS => ?_)
        refine lv_aload_n hx hb dX1_match_31 rfl (lv_at hl 0 rfl) ?_
        refine lv_aload_n hx hb dX1_match_32 rfl (lv_at hl 1 rfl) ?_
        refine lv_iload_n hx hb dX1_match_33 rfl (lv_at hl 3 rfl) ?_
        refine lv_aload_n hx hb dX1_match_34 rfl (lv_at hl 2 rfl) ?_
        obtain ⟨yd6, yhc35, h⟩ := z_brx h
        refine z_kv (z_rV (As := [.ref (ad ya1), .int yv3, .ref (ad ya2)]) (rest := []) ⟨hx, hb, hml, hown, hts⟩ hK hP w_X1 rfl (kX1_matchElement hI yh1 yh2 yhc35) giX1_43 ⟨rfl, rfl⟩ ndX1_matchElement ⟨Nat.le_of_ble_eq_true rfl, Nat.le_of_ble_eq_true rfl⟩ rfl hl.1 rfl (Nat.le_of_ble_eq_true rfl) ⟨Nat.le_refl _, Nat.le_refl _⟩ dX1_match_35) hS (fun H locs hP hS => ?_)
        refine lv_aload_n hx hb dX1_match_38 rfl (lv_at hl 0 rfl) ?_
        refine lv_iload_n hx hb dX1_match_39 rfl (lv_at hl 3 rfl) ?_
        refine lv_aload_n hx hb dX1_match_40 rfl (lv_at hl 2 rfl) ?_
        refine gt_X2_3 hx hb hts hown hK hP yh2 (hts _ wl_1_89) dX1_match_41 ?_
        obtain ⟨yd7, yhc44, h⟩ := z_brx h
        refine z_kv (z_rV (As := [.int yv3, .int (yd6.1 ya2 3)]) (rest := []) ⟨hx, hb, hml, hown, hts⟩ hK hP w_X1 rfl (kX1_note hI yhc44) giX1_52 ⟨rfl, rfl⟩ ndX1_note ⟨Nat.le_of_ble_eq_true rfl, Nat.le_of_ble_eq_true rfl⟩ rfl hl.1 rfl (Nat.le_of_ble_eq_true rfl) ⟨Nat.le_refl _, Nat.le_refl _⟩ dX1_match_44) hS (fun H locs hP hS => ?_)
        obtain ⟨yv8, e_yv8, h⟩ := z_nmx h
        refine lv_iinc (v := yv8) (lv' := [(3, .int yv8), (0, .ref (ad 60)), (1, .ref (ad ya1)), (2, .ref (ad ya2))]) hx hb dX1_match_47 hl (k := 3) rfl (by rw [e_yv8]; rfl) (by decide) rfl (fun ls hl => ?_)
        refine lv_goto (tgt := 12) hx hb dX1_match_50 (by decide) ?_
        exact ih _ _ _ _ _ (hq1 _ (z_sm h).symm) hP hS (lv_sub hl [1, 2, 3, 0] rfl)
  exact hL12 yn12 _ _ _ _ _ hlp hP hS (lv_sub hl [1, 2, 3, 0] rfl)
noncomputable def fX2_begin (yd : Dt) (ya0 : Nat) (ya1 : Nat) (yx2 : Int32) : Option (Dt) :=
  z_nm (z_st yd ya0 3 (if (0 : Int32) < (if (if (4 : Int32) < (4 : Int32) then (4 : Int32) else (4 : Int32)) < yx2 then (if (4 : Int32) < (4 : Int32) then (4 : Int32) else (4 : Int32)) else yx2) then (if (if (4 : Int32) < (4 : Int32) then (4 : Int32) else (4 : Int32)) < yx2 then (if (4 : Int32) < (4 : Int32) then (4 : Int32) else (4 : Int32)) else yx2) else (0 : Int32))) fun yd1 => z_gd (z_dc (¬ (yd1.1 ya0 3) < 0 ∧ z_ix (yd1.1 ya0 3) ≤ 4 ∧ z_ix (yd1.1 ya0 3) ≤ 4)) (z_nm (z_cp yd1 ya1 0 (ya0 + 1) 0 (z_ix (yd1.1 ya0 3))) fun yd2 => z_nm (z_st yd2 ya0 4 (0 : Int32)) fun yd3 => z_nm (z_st yd3 ya0 5 (0 : Int32)) fun yd4 => z_nm (z_st yd4 ya0 6 (0 : Int32)) fun yd5 => some yd5)
set_option maxHeartbeats 4000000 in
set_option maxRecDepth 100000 in
theorem kX2_begin {l : Launch} {D : va_G} {G : z_G} {ad : Nat → Nat} {A : Nat → Prop} (hI : ∀ d, va_D A (WC G ad d)) {yd : Dt} {ya0 : Nat} {ya1 : Nat} {yx2 : Int32} (yh0 : isPa ya0) (yh1 : arC ya1 = 4) {dd : Dt} (h : fX2_begin yd ya0 ya1 yx2 = some dd) : z_Mv l D G A (WC G ad) yX2_begin cX2_begin 3 (z_rm 1 40) yd [.ref (ad ya0), .ref (ad ya1), .int yx2] dd := by
  refine z_ofv (by decide) (Nat.le_of_ble_eq_true rfl) fun p e s m args below meth c Q hx hb hml hown hts hK hP hRet ls hl => ?_
  have hS : va_S A s.heap s.heap [] := va_S.rf
  have hl : lv_has ls 3 [(0, .ref (ad ya0)), (1, .ref (ad ya1)), (2, .int yx2)] := hl
  have h : (z_nm (z_st yd ya0 3 (if (0 : Int32) < (if (if (4 : Int32) < (4 : Int32) then (4 : Int32) else (4 : Int32)) < yx2 then (if (4 : Int32) < (4 : Int32) then (4 : Int32) else (4 : Int32)) else yx2) then (if (if (4 : Int32) < (4 : Int32) then (4 : Int32) else (4 : Int32)) < yx2 then (if (4 : Int32) < (4 : Int32) then (4 : Int32) else (4 : Int32)) else yx2) else (0 : Int32))) fun yd1 => z_gd (z_dc (¬ (yd1.1 ya0 3) < 0 ∧ z_ix (yd1.1 ya0 3) ≤ 4 ∧ z_ix (yd1.1 ya0 3) ≤ 4)) (z_nm (z_cp yd1 ya1 0 (ya0 + 1) 0 (z_ix (yd1.1 ya0 3))) fun yd2 => z_nm (z_st yd2 ya0 4 (0 : Int32)) fun yd3 => z_nm (z_st yd3 ya0 5 (0 : Int32)) fun yd4 => z_nm (z_st yd4 ya0 6 (0 : Int32)) fun yd5 => some yd5)) = some dd := h
  refine lv_aload_n hx hb dX2_begin_0 rfl (lv_at hl 0 rfl) ?_
  refine lv_iconst (v := (0 : Int32)) hx hb dX2_begin_1 (by decide) ?_
  refine lv_iload_n hx hb dX2_begin_2 rfl (lv_at hl 2 rfl) ?_
  refine lv_aload_n hx hb dX2_begin_3 rfl (lv_at hl 1 rfl) ?_
  refine an_C hx hb hK hP yh1 (by decide) dX2_begin_4 (v := (4 : Int32)) (by decide) ?_
  refine lv_iconst (v := (4 : Int32)) hx hb dX2_begin_5 (by decide) ?_
  refine va_mmin hx hb (hml.trans hl.1.symm) hown (hts _ wl_2_78) (hts _ wl_2_79) (hts _ wl_1_8) (hts _ wl_2_80) (Nat.le_of_ble_eq_true rfl) (Nat.le_of_ble_eq_true rfl) (Nat.le_refl _) (Nat.le_refl _) dX2_begin_6 ?_
  refine va_mmin hx hb (hml.trans hl.1.symm) hown (hts _ wl_2_78) (hts _ wl_2_79) (hts _ wl_1_8) (hts _ wl_2_80) (Nat.le_of_ble_eq_true rfl) (Nat.le_of_ble_eq_true rfl) (Nat.le_refl _) (Nat.le_refl _) dX2_begin_9 ?_
  refine va_mmax hx hb (hml.trans hl.1.symm) hown (hts _ wl_2_81) (hts _ wl_2_82) (hts _ wl_1_8) (hts _ wl_2_83) (Nat.le_of_ble_eq_true rfl) (Nat.le_of_ble_eq_true rfl) (Nat.le_refl _) (Nat.le_refl _) dX2_begin_12 ?_
  refine pt_X2_3 hx hb hts hown hK hP hI hS yh0 (hts _ wl_1_88) dX2_begin_15 (fun H locs yd1 e_yd1 hP hS => ?_)
  have h := z_nma e_yd1 h
  refine lv_aload_n hx hb dX2_begin_18 rfl (lv_at hl 1 rfl) ?_
  refine lv_iconst (v := (0 : Int32)) hx hb dX2_begin_19 (by decide) ?_
  refine lv_aload_n hx hb dX2_begin_20 rfl (lv_at hl 0 rfl) ?_
  refine gt_X2_0 hx hb hts hown hK hP yh0 (hts _ wl_1_81) dX2_begin_21 ?_
  refine lv_iconst (v := (0 : Int32)) hx hb dX2_begin_24 (by decide) ?_
  refine lv_aload_n hx hb dX2_begin_25 rfl (lv_at hl 0 rfl) ?_
  refine gt_X2_3 hx hb hts hown hK hP yh0 (hts _ wl_1_88) dX2_begin_26 ?_
  obtain ⟨yg29, h⟩ := z_gp h
  refine ac_C hx hb (hml.trans hl.1.symm) hown hts wl_2_84 hK hP hI hS yh1 (by decide) (ar_pa1 yh0) (by decide) yg29.1 yg29.2.1 yg29.2.2 (Nat.le_of_ble_eq_true rfl) (Nat.le_of_ble_eq_true rfl) dX2_begin_29 (fun H locs yd2 e_yd2 hP hS => ?_)
  have h := z_nma e_yd2 h
  refine lv_aload_n hx hb dX2_begin_32 rfl (lv_at hl 0 rfl) ?_
  refine lv_iconst (v := (0 : Int32)) hx hb dX2_begin_33 (by decide) ?_
  refine pt_X2_4 hx hb hts hown hK hP hI hS yh0 (hts _ wl_1_92) dX2_begin_34 (fun H locs yd3 e_yd3 hP hS => ?_)
  have h := z_nma e_yd3 h
  refine lv_aload_n hx hb dX2_begin_37 rfl (lv_at hl 0 rfl) ?_
  refine lv_iconst (v := (0 : Int32)) hx hb dX2_begin_38 (by decide) ?_
  refine pt_X2_5 hx hb hts hown hK hP hI hS yh0 (hts _ wl_1_94) dX2_begin_39 (fun H locs yd4 e_yd4 hP hS => ?_)
  have h := z_nma e_yd4 h
  refine lv_aload_n hx hb dX2_begin_42 rfl (lv_at hl 0 rfl) ?_
  refine lv_iconst (v := (0 : Int32)) hx hb dX2_begin_43 (by decide) ?_
  refine pt_X2_6 hx hb hts hown hK hP hI hS yh0 (hts _ wl_1_95) dX2_begin_44 (fun H locs yd5 e_yd5 hP hS => ?_)
  have h := z_nma e_yd5 h
  exact hRet _ _ _ _ _ hP hS h dX2_begin_47
noncomputable def fX2_copyFrom (yd : Dt) (ya0 : Nat) (ya1 : Nat) : Option (Dt) :=
  z_gd (z_dc (¬ (yd.1 ya1 3) < 0 ∧ z_ix (yd.1 ya1 3) ≤ 4 ∧ z_ix (yd.1 ya1 3) ≤ 4)) (z_nm (z_cp yd (ya1 + 1) 0 (ya0 + 1) 0 (z_ix (yd.1 ya1 3))) fun yd1 => z_gd (z_dc (¬ (yd1.1 ya1 4) < 0 ∧ z_ix (yd1.1 ya1 4) ≤ 20 ∧ z_ix (yd1.1 ya1 4) ≤ 20)) (z_nm (z_cp yd1 (ya1 + 2) 0 (ya0 + 2) 0 (z_ix (yd1.1 ya1 4))) fun yd2 => z_gd (z_dc (¬ (yd2.1 ya1 4) < 0 ∧ z_ix (yd2.1 ya1 4) ≤ 20 ∧ z_ix (yd2.1 ya1 4) ≤ 20)) (z_nm (z_cp yd2 (ya1 + 3) 0 (ya0 + 3) 0 (z_ix (yd2.1 ya1 4))) fun yd3 => z_nm (z_st yd3 ya0 3 (yd3.1 ya1 3)) fun yd4 => z_nm (z_st yd4 ya0 4 (yd4.1 ya1 4)) fun yd5 => z_nm (z_st yd5 ya0 5 (yd5.1 ya1 5)) fun yd6 => z_nm (z_st yd6 ya0 6 (yd6.1 ya1 6)) fun yd7 => some yd7)))
set_option maxHeartbeats 4000000 in
set_option maxRecDepth 100000 in
theorem kX2_copyFrom {l : Launch} {D : va_G} {G : z_G} {ad : Nat → Nat} {A : Nat → Prop} (hI : ∀ d, va_D A (WC G ad d)) {yd : Dt} {ya0 : Nat} {ya1 : Nat} (yh0 : isPa ya0) (yh1 : isPa ya1) {dd : Dt} (h : fX2_copyFrom yd ya0 ya1 = some dd) : z_Mv l D G A (WC G ad) yX2_copyFrom cX2_copyFrom 2 (z_rm 1 40) yd [.ref (ad ya0), .ref (ad ya1)] dd := by
  refine z_ofv (by decide) (Nat.le_of_ble_eq_true rfl) fun p e s m args below meth c Q hx hb hml hown hts hK hP hRet ls hl => ?_
  have hS : va_S A s.heap s.heap [] := va_S.rf
  have hl : lv_has ls 2 [(0, .ref (ad ya0)), (1, .ref (ad ya1))] := hl
  have h : (z_gd (z_dc (¬ (yd.1 ya1 3) < 0 ∧ z_ix (yd.1 ya1 3) ≤ 4 ∧ z_ix (yd.1 ya1 3) ≤ 4)) (z_nm (z_cp yd (ya1 + 1) 0 (ya0 + 1) 0 (z_ix (yd.1 ya1 3))) fun yd1 => z_gd (z_dc (¬ (yd1.1 ya1 4) < 0 ∧ z_ix (yd1.1 ya1 4) ≤ 20 ∧ z_ix (yd1.1 ya1 4) ≤ 20)) (z_nm (z_cp yd1 (ya1 + 2) 0 (ya0 + 2) 0 (z_ix (yd1.1 ya1 4))) fun yd2 => z_gd (z_dc (¬ (yd2.1 ya1 4) < 0 ∧ z_ix (yd2.1 ya1 4) ≤ 20 ∧ z_ix (yd2.1 ya1 4) ≤ 20)) (z_nm (z_cp yd2 (ya1 + 3) 0 (ya0 + 3) 0 (z_ix (yd2.1 ya1 4))) fun yd3 => z_nm (z_st yd3 ya0 3 (yd3.1 ya1 3)) fun yd4 => z_nm (z_st yd4 ya0 4 (yd4.1 ya1 4)) fun yd5 => z_nm (z_st yd5 ya0 5 (yd5.1 ya1 5)) fun yd6 => z_nm (z_st yd6 ya0 6 (yd6.1 ya1 6)) fun yd7 => some yd7)))) = some dd := h
  refine lv_aload_n hx hb dX2_copyFrom_0 rfl (lv_at hl 1 rfl) ?_
  refine gt_X2_0 hx hb hts hown hK hP yh1 (hts _ wl_1_81) dX2_copyFrom_1 ?_
  refine lv_iconst (v := (0 : Int32)) hx hb dX2_copyFrom_4 (by decide) ?_
  refine lv_aload_n hx hb dX2_copyFrom_5 rfl (lv_at hl 0 rfl) ?_
  refine gt_X2_0 hx hb hts hown hK hP yh0 (hts _ wl_1_81) dX2_copyFrom_6 ?_
  refine lv_iconst (v := (0 : Int32)) hx hb dX2_copyFrom_9 (by decide) ?_
  refine lv_aload_n hx hb dX2_copyFrom_10 rfl (lv_at hl 1 rfl) ?_
  refine gt_X2_3 hx hb hts hown hK hP yh1 (hts _ wl_1_88) dX2_copyFrom_11 ?_
  obtain ⟨yg14, h⟩ := z_gp h
  refine ac_C hx hb (hml.trans hl.1.symm) hown hts wl_2_84 hK hP hI hS (ar_pa1 yh1) (by decide) (ar_pa1 yh0) (by decide) yg14.1 yg14.2.1 yg14.2.2 (Nat.le_of_ble_eq_true rfl) (Nat.le_of_ble_eq_true rfl) dX2_copyFrom_14 (fun H locs yd1 e_yd1 hP hS => ?_)
  have h := z_nma e_yd1 h
  refine lv_aload_n hx hb dX2_copyFrom_17 rfl (lv_at hl 1 rfl) ?_
  refine gt_X2_1 hx hb hts hown hK hP yh1 (hts _ wl_1_84) dX2_copyFrom_18 ?_
  refine lv_iconst (v := (0 : Int32)) hx hb dX2_copyFrom_21 (by decide) ?_
  refine lv_aload_n hx hb dX2_copyFrom_22 rfl (lv_at hl 0 rfl) ?_
  refine gt_X2_1 hx hb hts hown hK hP yh0 (hts _ wl_1_84) dX2_copyFrom_23 ?_
  refine lv_iconst (v := (0 : Int32)) hx hb dX2_copyFrom_26 (by decide) ?_
  refine lv_aload_n hx hb dX2_copyFrom_27 rfl (lv_at hl 1 rfl) ?_
  refine gt_X2_4 hx hb hts hown hK hP yh1 (hts _ wl_1_92) dX2_copyFrom_28 ?_
  obtain ⟨yg31, h⟩ := z_gp h
  refine ac_C hx hb (hml.trans hl.1.symm) hown hts wl_2_84 hK hP hI hS (ar_pa2 yh1) (by decide) (ar_pa2 yh0) (by decide) yg31.1 yg31.2.1 yg31.2.2 (Nat.le_of_ble_eq_true rfl) (Nat.le_of_ble_eq_true rfl) dX2_copyFrom_31 (fun H locs yd2 e_yd2 hP hS => ?_)
  have h := z_nma e_yd2 h
  refine lv_aload_n hx hb dX2_copyFrom_34 rfl (lv_at hl 1 rfl) ?_
  refine gt_X2_2 hx hb hts hown hK hP yh1 (hts _ wl_1_86) dX2_copyFrom_35 ?_
  refine lv_iconst (v := (0 : Int32)) hx hb dX2_copyFrom_38 (by decide) ?_
  refine lv_aload_n hx hb dX2_copyFrom_39 rfl (lv_at hl 0 rfl) ?_
  refine gt_X2_2 hx hb hts hown hK hP yh0 (hts _ wl_1_86) dX2_copyFrom_40 ?_
  refine lv_iconst (v := (0 : Int32)) hx hb dX2_copyFrom_43 (by decide) ?_
  refine lv_aload_n hx hb dX2_copyFrom_44 rfl (lv_at hl 1 rfl) ?_
  refine gt_X2_4 hx hb hts hown hK hP yh1 (hts _ wl_1_92) dX2_copyFrom_45 ?_
  obtain ⟨yg48, h⟩ := z_gp h
  refine ac_C hx hb (hml.trans hl.1.symm) hown hts wl_2_84 hK hP hI hS (ar_pa3 yh1) (by decide) (ar_pa3 yh0) (by decide) yg48.1 yg48.2.1 yg48.2.2 (Nat.le_of_ble_eq_true rfl) (Nat.le_of_ble_eq_true rfl) dX2_copyFrom_48 (fun H locs yd3 e_yd3 hP hS => ?_)
  have h := z_nma e_yd3 h
  refine lv_aload_n hx hb dX2_copyFrom_51 rfl (lv_at hl 0 rfl) ?_
  refine lv_aload_n hx hb dX2_copyFrom_52 rfl (lv_at hl 1 rfl) ?_
  refine gt_X2_3 hx hb hts hown hK hP yh1 (hts _ wl_1_88) dX2_copyFrom_53 ?_
  refine pt_X2_3 hx hb hts hown hK hP hI hS yh0 (hts _ wl_1_88) dX2_copyFrom_56 (fun H locs yd4 e_yd4 hP hS => ?_)
  have h := z_nma e_yd4 h
  refine lv_aload_n hx hb dX2_copyFrom_59 rfl (lv_at hl 0 rfl) ?_
  refine lv_aload_n hx hb dX2_copyFrom_60 rfl (lv_at hl 1 rfl) ?_
  refine gt_X2_4 hx hb hts hown hK hP yh1 (hts _ wl_1_92) dX2_copyFrom_61 ?_
  refine pt_X2_4 hx hb hts hown hK hP hI hS yh0 (hts _ wl_1_92) dX2_copyFrom_64 (fun H locs yd5 e_yd5 hP hS => ?_)
  have h := z_nma e_yd5 h
  refine lv_aload_n hx hb dX2_copyFrom_67 rfl (lv_at hl 0 rfl) ?_
  refine lv_aload_n hx hb dX2_copyFrom_68 rfl (lv_at hl 1 rfl) ?_
  refine gt_X2_5 hx hb hts hown hK hP yh1 (hts _ wl_1_94) dX2_copyFrom_69 ?_
  refine pt_X2_5 hx hb hts hown hK hP hI hS yh0 (hts _ wl_1_94) dX2_copyFrom_72 (fun H locs yd6 e_yd6 hP hS => ?_)
  have h := z_nma e_yd6 h
  refine lv_aload_n hx hb dX2_copyFrom_75 rfl (lv_at hl 0 rfl) ?_
  refine lv_aload_n hx hb dX2_copyFrom_76 rfl (lv_at hl 1 rfl) ?_
  refine gt_X2_6 hx hb hts hown hK hP yh1 (hts _ wl_1_95) dX2_copyFrom_77 ?_
  refine pt_X2_6 hx hb hts hown hK hP hI hS yh0 (hts _ wl_1_95) dX2_copyFrom_80 (fun H locs yd7 e_yd7 hP hS => ?_)
  have h := z_nma e_yd7 h
  exact hRet _ _ _ _ _ hP hS h dX2_copyFrom_83
noncomputable def fX2_setLastTest (yd : Dt) (ya0 : Nat) (yx1 : Int32) : Option (Dt) :=
  zif ((yd.1 ya0 3) ≤ 0) (some yd) (z_gd (z_in ((yd.1 ya0 3) - (1 : Int32)) 4) (z_nm (yd.1 (ya0 + 1) (z_ix ((yd.1 ya0 3) - (1 : Int32)))) fun yv1 => z_gd (z_in ((yd.1 ya0 3) - (1 : Int32)) 4) (z_nm (z_st yd (ya0 + 1) (z_ix ((yd.1 ya0 3) - (1 : Int32))) ((yv1 - (((yv1 / (100 : Int32)) - (yv1 / (100 : Int32)) / (10 : Int32) * (10 : Int32)) * (100 : Int32))) + (yx1 * (100 : Int32)))) fun yd2 => some yd2)))
set_option maxHeartbeats 4000000 in
set_option maxRecDepth 100000 in
theorem kX2_setLastTest {l : Launch} {D : va_G} {G : z_G} {ad : Nat → Nat} {A : Nat → Prop} (hI : ∀ d, va_D A (WC G ad d)) {yd : Dt} {ya0 : Nat} {yx1 : Int32} (yh0 : isPa ya0) {dd : Dt} (h : fX2_setLastTest yd ya0 yx1 = some dd) : z_Mv l D G A (WC G ad) yX2_setLastTest cX2_setLastTest 3 (z_rm 0 0) yd [.ref (ad ya0), .int yx1] dd := by
  refine z_ofv (by decide) (Nat.le_of_ble_eq_true rfl) fun p e s m args below meth c Q hx hb hml hown hts hK hP hRet ls hl => ?_
  have hS : va_S A s.heap s.heap [] := va_S.rf
  have hl : lv_has ls 3 [(0, .ref (ad ya0)), (1, .int yx1)] := hl
  have h : (zif ((yd.1 ya0 3) ≤ 0) (some yd) (z_gd (z_in ((yd.1 ya0 3) - (1 : Int32)) 4) (z_nm (yd.1 (ya0 + 1) (z_ix ((yd.1 ya0 3) - (1 : Int32)))) fun yv1 => z_gd (z_in ((yd.1 ya0 3) - (1 : Int32)) 4) (z_nm (z_st yd (ya0 + 1) (z_ix ((yd.1 ya0 3) - (1 : Int32))) ((yv1 - (((yv1 / (100 : Int32)) - (yv1 / (100 : Int32)) / (10 : Int32) * (10 : Int32)) * (100 : Int32))) + (yx1 * (100 : Int32)))) fun yd2 => some yd2)))) = some dd := h
  refine lv_aload_n hx hb dX2_setLastTest_0 rfl (lv_at hl 0 rfl) ?_
  refine gt_X2_3 hx hb hts hown hK hP yh0 (hts _ wl_1_88) dX2_setLastTest_1 ?_
  refine lv_if_le (tgt := 47) hx hb dX2_setLastTest_4 (by decide) (fun yc4 => ?_) (fun yc4 => ?_)
  · have h := z_ifp yc4 h
    exact hRet _ _ _ _ _ hP hS h dX2_setLastTest_47
  · have h := z_ifn yc4 h
    refine lv_aload_n hx hb dX2_setLastTest_7 rfl (lv_at hl 0 rfl) ?_
    refine gt_X2_0 hx hb hts hown hK hP yh0 (hts _ wl_1_81) dX2_setLastTest_8 ?_
    refine lv_aload_n hx hb dX2_setLastTest_11 rfl (lv_at hl 0 rfl) ?_
    refine gt_X2_3 hx hb hts hown hK hP yh0 (hts _ wl_1_88) dX2_setLastTest_12 ?_
    refine lv_iconst (v := (1 : Int32)) hx hb dX2_setLastTest_15 (by decide) ?_
    refine lv_isub hx hb dX2_setLastTest_16 ?_
    obtain ⟨yg17, h⟩ := z_gi h
    refine al_C hx hb hK hP (ar_pa1 yh0) (by decide) yg17 dX2_setLastTest_17 ?_
    refine lv_topi (fun yv1 e_yv1 => ?_)
    have h := z_nma e_yv1 h
    refine lv_istore_n (lv' := [(2, .int yv1), (0, .ref (ad ya0)), (1, .int yx1)]) hx hb dX2_setLastTest_18 rfl hl (by decide) rfl (fun ls hl => ?_)
    refine lv_aload_n hx hb dX2_setLastTest_19 rfl (lv_at hl 1 rfl) ?_
    refine gt_X2_0 hx hb hts hown hK hP yh0 (hts _ wl_1_81) dX2_setLastTest_20 ?_
    refine lv_aload_n hx hb dX2_setLastTest_23 rfl (lv_at hl 1 rfl) ?_
    refine gt_X2_3 hx hb hts hown hK hP yh0 (hts _ wl_1_88) dX2_setLastTest_24 ?_
    refine lv_iconst (v := (1 : Int32)) hx hb dX2_setLastTest_27 (by decide) ?_
    refine lv_isub hx hb dX2_setLastTest_28 ?_
    refine lv_iload_n hx hb dX2_setLastTest_29 rfl (lv_at hl 0 rfl) ?_
    refine lv_iload_n hx hb dX2_setLastTest_30 rfl (lv_at hl 0 rfl) ?_
    refine lv_bipush (v := (100 : Int32)) hx hb dX2_setLastTest_31 (by decide) ?_
    refine lv_idiv hx hb dX2_setLastTest_33 (by decide) ?_
    refine lv_bipush (v := (10 : Int32)) hx hb dX2_setLastTest_34 (by decide) ?_
    refine lv_irem hx hb dX2_setLastTest_36 (by decide) ?_
    refine lv_bipush (v := (100 : Int32)) hx hb dX2_setLastTest_37 (by decide) ?_
    refine lv_imul hx hb dX2_setLastTest_39 ?_
    refine lv_isub hx hb dX2_setLastTest_40 ?_
    refine lv_iload_n hx hb dX2_setLastTest_41 rfl (lv_at hl 2 rfl) ?_
    refine lv_bipush (v := (100 : Int32)) hx hb dX2_setLastTest_42 (by decide) ?_
    refine lv_imul hx hb dX2_setLastTest_44 ?_
    refine lv_iadd hx hb dX2_setLastTest_45 ?_
    obtain ⟨yg46, h⟩ := z_gi h
    refine as_C hx hb hK hP hI hS (ar_pa1 yh0) (by decide) yg46 dX2_setLastTest_46 (fun H locs yd2 e_yd2 hP hS => ?_)
    have h := z_nma e_yd2 h
    exact hRet _ _ _ _ _ hP hS h dX2_setLastTest_47
noncomputable def bX2_beginsLike_20 (yx2 : Int32) (yd : Dt) (ya0 : Nat) (ya1 : Nat) (s : Int32) : Option ((Int32) ⊕ ((Unit) ⊕ (Unit))) := match s with
  | yv1 => zif (yx2 ≤ yv1) (some (.inr (.inr ()))) (z_gd (z_in yv1 4) (z_gd (z_in yv1 4) (zif ((yd.1 (ya0 + 1) (z_ix yv1)) = (yd.1 (ya1 + 1) (z_ix yv1))) (z_nm (yv1 + (1 : Int32)) fun yv2 => some (.inl yv2)) (some (.inr (.inl ()))))))
noncomputable def fX2_beginsLike (yd : Dt) (ya0 : Nat) (ya1 : Nat) (yx2 : Int32) : Option Int32 :=
  zif ((yd.1 ya0 3) < yx2) (some (0 : Int32)) (zif (yx2 ≤ (yd.1 ya1 3)) (z_br (z_lp (bX2_beginsLike_20 yx2 yd ya0 ya1) (0 : Int32)) (fun t => match t with | .inl () => some (0 : Int32) | .inr () => some (1 : Int32))) (some (0 : Int32)))
set_option maxHeartbeats 4000000 in
set_option maxRecDepth 100000 in
theorem kX2_beginsLike {l : Launch} {D : va_G} {G : z_G} {ad : Nat → Nat} {A : Nat → Prop} (hI : ∀ d, va_D A (WC G ad d)) {yd : Dt} {ya0 : Nat} {ya1 : Nat} {yx2 : Int32} (yh0 : isPa ya0) (yh1 : isPa ya1) {rr : Int32} (h : fX2_beginsLike yd ya0 ya1 yx2 = some rr) : z_Mz l D G A (WC G ad) yX2_beginsLike cX2_beginsLike 4 (z_rm 0 0) yd [.ref (ad ya0), .ref (ad ya1), .int yx2] rr yd := by
  refine z_ofz (by decide) (Nat.le_of_ble_eq_true rfl) fun p e s m args below meth c Q hx hb hml hown hts hK hP hRet ls hl => ?_
  have hS : va_S A s.heap s.heap [] := va_S.rf
  have hl : lv_has ls 4 [(0, .ref (ad ya0)), (1, .ref (ad ya1)), (2, .int yx2)] := hl
  have h : (zif ((yd.1 ya0 3) < yx2) (some (0 : Int32)) (zif (yx2 ≤ (yd.1 ya1 3)) (z_br (z_lp (bX2_beginsLike_20 yx2 yd ya0 ya1) (0 : Int32)) (fun t => match t with | .inl () => some (0 : Int32) | .inr () => some (1 : Int32))) (some (0 : Int32)))) = some rr := h
  refine lv_aload_n hx hb dX2_beginsLike_0 rfl (lv_at hl 0 rfl) ?_
  refine gt_X2_3 hx hb hts hown hK hP yh0 (hts _ wl_1_88) dX2_beginsLike_1 ?_
  refine lv_iload_n hx hb dX2_beginsLike_4 rfl (lv_at hl 2 rfl) ?_
  refine lv_icmp_lt (tgt := 16) hx hb dX2_beginsLike_5 (by decide) (fun yc5 => ?_) (fun yc5 => ?_)
  · have h := z_ifp yc5 h
    refine lv_iconst (v := (0 : Int32)) hx hb dX2_beginsLike_16 (by decide) ?_
    exact hRet _ _ _ _ _ _ hP hS (Or.inl rfl) (z_pair h) dX2_beginsLike_17
  · have h := z_ifn yc5 h
    refine lv_aload_n hx hb dX2_beginsLike_8 rfl (lv_at hl 1 rfl) ?_
    refine gt_X2_3 hx hb hts hown hK hP yh1 (hts _ wl_1_88) dX2_beginsLike_9 ?_
    refine lv_iload_n hx hb dX2_beginsLike_12 rfl (lv_at hl 2 rfl) ?_
    refine lv_icmp_ge (tgt := 18) hx hb dX2_beginsLike_13 (by decide) (fun yc13 => ?_) (fun yc13 => ?_)
    · have h := z_ifp yc13 h
      refine lv_iconst (v := (0 : Int32)) hx hb dX2_beginsLike_18 (by decide) ?_
      refine lv_istore_n (lv' := [(3, .int (0 : Int32)), (0, .ref (ad ya0)), (1, .ref (ad ya1)), (2, .int yx2)]) hx hb dX2_beginsLike_19 rfl hl (by decide) rfl (fun ls hl => ?_)
      obtain ⟨yt20, hlp, h⟩ := z_brx h
      obtain ⟨yn20, hlp⟩ := z_lpx hlp
      have hE40 : ∀  (H : Heap) (locs : List Loc) (ls : Array Slot), (.inl ()) = yt20 → va_P D vwCl (WC G ad yd) H → va_S A s.heap H locs → lv_has ls 4 [] → W p l e (z_rm 0 0) s m args below meth c H locs 0 0 Q (F0 m 40 ls []) := by
        intro  H locs ls et hP hS hl
        subst et
        have h : (some (0 : Int32)) = some rr := h
        refine lv_iconst (v := (0 : Int32)) hx hb dX2_beginsLike_40 (by decide) ?_
        exact hRet _ _ _ _ _ _ hP hS (Or.inl rfl) (z_pair h) dX2_beginsLike_41
      have hE48 : ∀  (H : Heap) (locs : List Loc) (ls : Array Slot), (.inr ()) = yt20 → va_P D vwCl (WC G ad yd) H → va_S A s.heap H locs → lv_has ls 4 [] → W p l e (z_rm 0 0) s m args below meth c H locs 0 0 Q (F0 m 48 ls []) := by
        intro  H locs ls et hP hS hl
        subst et
        have h : (some (1 : Int32)) = some rr := h
        refine lv_iconst (v := (1 : Int32)) hx hb dX2_beginsLike_48 (by decide) ?_
        exact hRet _ _ _ _ _ _ hP hS (Or.inr rfl) (z_pair h) dX2_beginsLike_49
      have hL20 : ∀ (n : Nat) (yv1 : Int32) (H : Heap) (locs : List Loc) (ls : Array Slot), z_it (bX2_beginsLike_20 yx2 yd ya0 ya1) n yv1 = some yt20 → va_P D vwCl (WC G ad yd) H → va_S A s.heap H locs → lv_has ls 4 [(0, .ref (ad ya0)), (1, .ref (ad ya1)), (2, .int yx2), (3, .int yv1)] → W p l e (z_rm 0 0) s m args below meth c H locs 0 0 Q (F0 m 20 ls []) := by
        intro n
        induction n with
        | zero => intro yv1 H locs ls hn; exact z_it0 hn
        | succ n ih =>
          intro yv1 H locs ls hn hP hS hl
          obtain ⟨yq20, h, hq1, hq2⟩ := z_itx hn
          have h : (zif (yx2 ≤ yv1) (some (.inr (.inr ()))) (z_gd (z_in yv1 4) (z_gd (z_in yv1 4) (zif ((yd.1 (ya0 + 1) (z_ix yv1)) = (yd.1 (ya1 + 1) (z_ix yv1))) (z_nm (yv1 + (1 : Int32)) fun yv2 => some (.inl yv2)) (some (.inr (.inl ()))))))) = some yq20 := h
          refine lv_iload_n hx hb dX2_beginsLike_20 rfl (lv_at hl 3 rfl) ?_
          refine lv_iload_n hx hb dX2_beginsLike_21 rfl (lv_at hl 2 rfl) ?_
          refine lv_icmp_ge (tgt := 48) hx hb dX2_beginsLike_22 (by decide) (fun yc22 => ?_) (fun yc22 => ?_)
          · have h := z_ifp yc22 h
            exact hE48  _ _ _ (hq2 _ (z_sm h).symm) hP hS (lv_sub hl [] rfl)
          · have h := z_ifn yc22 h
            refine lv_aload_n hx hb dX2_beginsLike_25 rfl (lv_at hl 0 rfl) ?_
            refine gt_X2_0 hx hb hts hown hK hP yh0 (hts _ wl_1_81) dX2_beginsLike_26 ?_
            refine lv_iload_n hx hb dX2_beginsLike_29 rfl (lv_at hl 3 rfl) ?_
            obtain ⟨yg30, h⟩ := z_gi h
            refine al_C hx hb hK hP (ar_pa1 yh0) (by decide) yg30 dX2_beginsLike_30 ?_
            refine lv_aload_n hx hb dX2_beginsLike_31 rfl (lv_at hl 1 rfl) ?_
            refine gt_X2_0 hx hb hts hown hK hP yh1 (hts _ wl_1_81) dX2_beginsLike_32 ?_
            refine lv_iload_n hx hb dX2_beginsLike_35 rfl (lv_at hl 3 rfl) ?_
            obtain ⟨yg36, h⟩ := z_gi h
            refine al_C hx hb hK hP (ar_pa1 yh1) (by decide) yg36 dX2_beginsLike_36 ?_
            refine lv_icmp_eq (tgt := 42) hx hb dX2_beginsLike_37 (by decide) (fun yc37 => ?_) (fun yc37 => ?_)
            · have h := z_ifp yc37 h
              obtain ⟨yv2, e_yv2, h⟩ := z_nmx h
              refine lv_iinc (v := yv2) (lv' := [(3, .int yv2), (0, .ref (ad ya0)), (1, .ref (ad ya1)), (2, .int yx2)]) hx hb dX2_beginsLike_42 hl (k := 3) rfl (by rw [e_yv2]; rfl) (by decide) rfl (fun ls hl => ?_)
              refine lv_goto (tgt := 20) hx hb dX2_beginsLike_45 (by decide) ?_
              exact ih _ _ _ _ (hq1 _ (z_sm h).symm) hP hS (lv_sub hl [1, 2, 3, 0] rfl)
            · have h := z_ifn yc37 h
              exact hE40  _ _ _ (hq2 _ (z_sm h).symm) hP hS (lv_sub hl [] rfl)
      exact hL20 yn20 _ _ _ _ hlp hP hS (lv_sub hl [1, 2, 3, 0] rfl)
    · have h := z_ifn yc13 h
      refine lv_iconst (v := (0 : Int32)) hx hb dX2_beginsLike_16 (by decide) ?_
      exact hRet _ _ _ _ _ _ hP hS (Or.inl rfl) (z_pair h) dX2_beginsLike_17
noncomputable def fJ6_bitCount_0f7a4 (yx0 : Int32) : Option Int32 :=
  z_nm (yx0 - ((yx0.toUInt32 >>> ((1 : Int32).toUInt32 &&& Int32.toUInt32 31)).toInt32 &&& (1431655765 : Int32))) fun yv1 => z_nm ((yv1 &&& (858993459 : Int32)) + ((yv1.toUInt32 >>> ((2 : Int32).toUInt32 &&& Int32.toUInt32 31)).toInt32 &&& (858993459 : Int32))) fun yv2 => z_nm ((yv2 + (yv2.toUInt32 >>> ((4 : Int32).toUInt32 &&& Int32.toUInt32 31)).toInt32) &&& (252645135 : Int32)) fun yv3 => z_nm (yv3 + (yv3.toUInt32 >>> ((8 : Int32).toUInt32 &&& Int32.toUInt32 31)).toInt32) fun yv4 => z_nm (yv4 + (yv4.toUInt32 >>> ((16 : Int32).toUInt32 &&& Int32.toUInt32 31)).toInt32) fun yv5 => some (yv5 &&& (63 : Int32))
set_option maxHeartbeats 4000000 in
set_option maxRecDepth 100000 in
theorem kJ6_bitCount_0f7a4 {l : Launch} {D : va_G} {G : z_G} {A : Nat → Prop} {w : Dt → va_W} {yd : Dt} {yx0 : Int32}  {rr : Int32} (h : fJ6_bitCount_0f7a4 yx0 = some rr) : z_Mi l D G A (w) yJ6_bitCount_0f7a4 cJ6_bitCount_0f7a4 1 (z_rm 0 0) yd [.int yx0] rr yd := by
  refine z_ofi (by decide) (Nat.le_of_ble_eq_true rfl) fun p e s m args below meth c Q hx hb hml hown hts hK hP hRet ls hl => ?_
  have hS : va_S A s.heap s.heap [] := va_S.rf
  have hl : lv_has ls 1 [(0, .int yx0)] := hl
  have h : (z_nm (yx0 - ((yx0.toUInt32 >>> ((1 : Int32).toUInt32 &&& Int32.toUInt32 31)).toInt32 &&& (1431655765 : Int32))) fun yv1 => z_nm ((yv1 &&& (858993459 : Int32)) + ((yv1.toUInt32 >>> ((2 : Int32).toUInt32 &&& Int32.toUInt32 31)).toInt32 &&& (858993459 : Int32))) fun yv2 => z_nm ((yv2 + (yv2.toUInt32 >>> ((4 : Int32).toUInt32 &&& Int32.toUInt32 31)).toInt32) &&& (252645135 : Int32)) fun yv3 => z_nm (yv3 + (yv3.toUInt32 >>> ((8 : Int32).toUInt32 &&& Int32.toUInt32 31)).toInt32) fun yv4 => z_nm (yv4 + (yv4.toUInt32 >>> ((16 : Int32).toUInt32 &&& Int32.toUInt32 31)).toInt32) fun yv5 => some (yv5 &&& (63 : Int32))) = some rr := h
  refine lv_iload_n hx hb dJ6_bitCount_0f7a4_0 rfl (lv_at hl 0 rfl) ?_
  refine lv_iload_n hx hb dJ6_bitCount_0f7a4_1 rfl (lv_at hl 0 rfl) ?_
  refine lv_iconst (v := (1 : Int32)) hx hb dJ6_bitCount_0f7a4_2 (by decide) ?_
  refine lv_iushr (v := (yx0.toUInt32 >>> ((1 : Int32).toUInt32 &&& Int32.toUInt32 31)).toInt32) hx hb dJ6_bitCount_0f7a4_3 rfl ?_
  refine lv_ldcw hx hb hown (hts _ wl_2_142) dJ6_bitCount_0f7a4_4 ?_
  refine lv_iand hx hb dJ6_bitCount_0f7a4_7 ?_
  refine lv_isub hx hb dJ6_bitCount_0f7a4_8 ?_
  refine lv_topi (fun yv1 e_yv1 => ?_)
  have h := z_nma e_yv1 h
  refine lv_istore_n (lv' := [(0, .int yv1)]) hx hb dJ6_bitCount_0f7a4_9 rfl hl (by decide) rfl (fun ls hl => ?_)
  refine lv_iload_n hx hb dJ6_bitCount_0f7a4_10 rfl (lv_at hl 0 rfl) ?_
  refine lv_ldcw hx hb hown (hts _ wl_2_143) dJ6_bitCount_0f7a4_11 ?_
  refine lv_iand hx hb dJ6_bitCount_0f7a4_14 ?_
  refine lv_iload_n hx hb dJ6_bitCount_0f7a4_15 rfl (lv_at hl 0 rfl) ?_
  refine lv_iconst (v := (2 : Int32)) hx hb dJ6_bitCount_0f7a4_16 (by decide) ?_
  refine lv_iushr (v := (yv1.toUInt32 >>> ((2 : Int32).toUInt32 &&& Int32.toUInt32 31)).toInt32) hx hb dJ6_bitCount_0f7a4_17 rfl ?_
  refine lv_ldcw hx hb hown (hts _ wl_2_143) dJ6_bitCount_0f7a4_18 ?_
  refine lv_iand hx hb dJ6_bitCount_0f7a4_21 ?_
  refine lv_iadd hx hb dJ6_bitCount_0f7a4_22 ?_
  refine lv_topi (fun yv2 e_yv2 => ?_)
  have h := z_nma e_yv2 h
  refine lv_istore_n (lv' := [(0, .int yv2)]) hx hb dJ6_bitCount_0f7a4_23 rfl hl (by decide) rfl (fun ls hl => ?_)
  refine lv_iload_n hx hb dJ6_bitCount_0f7a4_24 rfl (lv_at hl 0 rfl) ?_
  refine lv_iload_n hx hb dJ6_bitCount_0f7a4_25 rfl (lv_at hl 0 rfl) ?_
  refine lv_iconst (v := (4 : Int32)) hx hb dJ6_bitCount_0f7a4_26 (by decide) ?_
  refine lv_iushr (v := (yv2.toUInt32 >>> ((4 : Int32).toUInt32 &&& Int32.toUInt32 31)).toInt32) hx hb dJ6_bitCount_0f7a4_27 rfl ?_
  refine lv_iadd hx hb dJ6_bitCount_0f7a4_28 ?_
  refine lv_ldcw hx hb hown (hts _ wl_2_144) dJ6_bitCount_0f7a4_29 ?_
  refine lv_iand hx hb dJ6_bitCount_0f7a4_32 ?_
  refine lv_topi (fun yv3 e_yv3 => ?_)
  have h := z_nma e_yv3 h
  refine lv_istore_n (lv' := [(0, .int yv3)]) hx hb dJ6_bitCount_0f7a4_33 rfl hl (by decide) rfl (fun ls hl => ?_)
  refine lv_iload_n hx hb dJ6_bitCount_0f7a4_34 rfl (lv_at hl 0 rfl) ?_
  refine lv_iload_n hx hb dJ6_bitCount_0f7a4_35 rfl (lv_at hl 0 rfl) ?_
  refine lv_bipush (v := (8 : Int32)) hx hb dJ6_bitCount_0f7a4_36 (by decide) ?_
  refine lv_iushr (v := (yv3.toUInt32 >>> ((8 : Int32).toUInt32 &&& Int32.toUInt32 31)).toInt32) hx hb dJ6_bitCount_0f7a4_38 rfl ?_
  refine lv_iadd hx hb dJ6_bitCount_0f7a4_39 ?_
  refine lv_topi (fun yv4 e_yv4 => ?_)
  have h := z_nma e_yv4 h
  refine lv_istore_n (lv' := [(0, .int yv4)]) hx hb dJ6_bitCount_0f7a4_40 rfl hl (by decide) rfl (fun ls hl => ?_)
  refine lv_iload_n hx hb dJ6_bitCount_0f7a4_41 rfl (lv_at hl 0 rfl) ?_
  refine lv_iload_n hx hb dJ6_bitCount_0f7a4_42 rfl (lv_at hl 0 rfl) ?_
  refine lv_bipush (v := (16 : Int32)) hx hb dJ6_bitCount_0f7a4_43 (by decide) ?_
  refine lv_iushr (v := (yv4.toUInt32 >>> ((16 : Int32).toUInt32 &&& Int32.toUInt32 31)).toInt32) hx hb dJ6_bitCount_0f7a4_45 rfl ?_
  refine lv_iadd hx hb dJ6_bitCount_0f7a4_46 ?_
  refine lv_topi (fun yv5 e_yv5 => ?_)
  have h := z_nma e_yv5 h
  refine lv_istore_n (lv' := [(0, .int yv5)]) hx hb dJ6_bitCount_0f7a4_47 rfl hl (by decide) rfl (fun ls hl => ?_)
  refine lv_iload_n hx hb dJ6_bitCount_0f7a4_48 rfl (lv_at hl 0 rfl) ?_
  refine lv_bipush (v := (63 : Int32)) hx hb dJ6_bitCount_0f7a4_49 (by decide) ?_
  refine lv_iand hx hb dJ6_bitCount_0f7a4_51 ?_
  exact hRet _ _ _ _ _ _ hP hS (z_pair h) dJ6_bitCount_0f7a4_52
noncomputable def fX2_bufferSize (yd : Dt) (ya0 : Nat) : Option Int32 :=
  z_br (fJ6_bitCount_0f7a4 ((yd.1 60 5) ||| ((yd.1 60 4) &&& ((yd.1 ya0 5) ^^^ (-1 : Int32))))) fun yr1 => some yr1
set_option maxHeartbeats 4000000 in
set_option maxRecDepth 100000 in
theorem kX2_bufferSize {l : Launch} {D : va_G} {G : z_G} {ad : Nat → Nat} {A : Nat → Prop} (hI : ∀ d, va_D A (WC G ad d)) {yd : Dt} {ya0 : Nat} (yh0 : isPa ya0) {rr : Int32} (h : fX2_bufferSize yd ya0 = some rr) : z_Mi l D G A (WC G ad) yX2_bufferSize cX2_bufferSize 2 (z_rm 1 20) yd [.ref (ad ya0), .ref (ad 60)] rr yd := by
  refine z_ofi (by decide) (Nat.le_of_ble_eq_true rfl) fun p e s m args below meth c Q hx hb hml hown hts hK hP hRet ls hl => ?_
  have hS : va_S A s.heap s.heap [] := va_S.rf
  have hl : lv_has ls 2 [(0, .ref (ad ya0)), (1, .ref (ad 60))] := hl
  have h : (z_br (fJ6_bitCount_0f7a4 ((yd.1 60 5) ||| ((yd.1 60 4) &&& ((yd.1 ya0 5) ^^^ (-1 : Int32))))) fun yr1 => some yr1) = some rr := h
  refine lv_aload_n hx hb dX2_bufferSize_0 rfl (lv_at hl 1 rfl) ?_
  refine gt_X1_5 hx hb hts hown hK hP (hts _ wl_1_143) dX2_bufferSize_1 ?_
  refine lv_aload_n hx hb dX2_bufferSize_4 rfl (lv_at hl 1 rfl) ?_
  refine gt_X1_4 hx hb hts hown hK hP (hts _ wl_1_140) dX2_bufferSize_5 ?_
  refine lv_aload_n hx hb dX2_bufferSize_8 rfl (lv_at hl 0 rfl) ?_
  refine gt_X2_5 hx hb hts hown hK hP yh0 (hts _ wl_1_94) dX2_bufferSize_9 ?_
  refine lv_iconst (v := (-1 : Int32)) hx hb dX2_bufferSize_12 (by decide) ?_
  refine lv_ixor hx hb dX2_bufferSize_13 ?_
  refine lv_iand hx hb dX2_bufferSize_14 ?_
  refine lv_ior hx hb dX2_bufferSize_15 ?_
  obtain ⟨yr1, yhc16, h⟩ := z_brx h
  refine z_ki (z_rS (As := [.int ((yd.1 60 5) ||| ((yd.1 60 4) &&& ((yd.1 ya0 5) ^^^ (-1 : Int32))))]) (rest := []) ⟨hx, hb, hml, hown, hts⟩ hK hP (kJ6_bitCount_0f7a4 yhc16) giX2_57 ⟨rfl, rfl⟩ ndJ6_bitCount_0f7a4 ⟨Nat.le_of_ble_eq_true rfl, Nat.le_of_ble_eq_true rfl⟩ rfl hl.1 rfl (Nat.le_of_ble_eq_true rfl) ⟨Nat.le_refl _, Nat.le_refl _⟩ dX2_bufferSize_16) hS (fun H locs hP hS => ?_)
  exact hRet _ _ _ _ _ _ hP hS (z_pair h) dX2_bufferSize_19
noncomputable def jX2_emit_94 (yv4 : Int32) (yv6 : Int32) (yd7 : Dt) : Option ((Int32 × Int32 × Dt) ⊕ (Int32 × Dt)) :=
  z_nm (yv4 + (1 : Int32)) fun yv8 => some (.inl (yv6, yv8, yd7))
noncomputable def bX2_emit_34 (ya0 : Nat) (yv2 : Int32) (yx2 : Int32) (s : Int32 × Int32 × Dt) : Option ((Int32 × Int32 × Dt) ⊕ (Int32 × Dt)) := match s with
  | (yv3, yv4, yd5) => zif ((20 : Int32) ≤ yv4) (some (.inr (yv3, yd5))) (zif ((20 : Int32) ≤ (yd5.1 ya0 4)) (some (.inr (yv3, yd5))) (zif (((yv2 >>> (yv4 &&& 31)) &&& (1 : Int32)) = 0) (jX2_emit_94 yv4 yv3 yd5) (z_gd (z_in (yd5.1 ya0 4) 20) (z_nm (z_st yd5 (ya0 + 2) (z_ix (yd5.1 ya0 4)) yv4) fun yd9 => z_gd (z_in (yd9.1 ya0 4) 20) (z_nm (z_st yd9 (ya0 + 3) (z_ix (yd9.1 ya0 4)) yx2) fun yd10 => z_nm (z_st yd10 ya0 4 ((yd10.1 ya0 4) + (1 : Int32))) fun yd11 => z_nm (yv3 + (1 : Int32)) fun yv12 => jX2_emit_94 yv4 yv12 yd11)))))
noncomputable def fX2_emit (yd : Dt) (ya0 : Nat) (yx2 : Int32) : Option (Int32 × Dt) :=
  z_nm ((yd.1 60 5) &&& (-(yd.1 60 5))) fun yv1 => z_nm (((yd.1 60 4) &&& ((yd.1 ya0 5) ^^^ (-1 : Int32))) &&& (yv1 - (1 : Int32))) fun yv2 => z_br (z_lp (bX2_emit_34 ya0 yv2 yx2) ((0 : Int32), (0 : Int32), yd)) (fun t => match t with | (yv13, yd14) => z_nm (z_st yd14 ya0 5 ((yd14.1 ya0 5) ||| yv2)) fun yd15 => z_br (fX2_bufferSize yd15 ya0) fun yr16 => z_nm (z_st yd15 ya0 6 (if (yd15.1 ya0 6) < yr16 then yr16 else (yd15.1 ya0 6))) fun yd17 => some (yv13, yd17))
set_option maxHeartbeats 4000000 in
set_option maxRecDepth 100000 in
theorem kX2_emit {l : Launch} {D : va_G} {G : z_G} {ad : Nat → Nat} {A : Nat → Prop} (hI : ∀ d, va_D A (WC G ad d)) {yd : Dt} {ya0 : Nat} {yx2 : Int32} (yh0 : isPa ya0) {rr : Int32} {dd : Dt} (h : fX2_emit yd ya0 yx2 = some (rr, dd)) : z_Mi l D G A (WC G ad) yX2_emit cX2_emit 7 (z_rm 2 41) yd [.ref (ad ya0), .ref (ad 60), .int yx2] rr dd := by
  refine z_ofi (by decide) (Nat.le_of_ble_eq_true rfl) fun p e s m args below meth c Q hx hb hml hown hts hK hP hRet ls hl => ?_
  have hS : va_S A s.heap s.heap [] := va_S.rf
  have hl : lv_has ls 7 [(0, .ref (ad ya0)), (1, .ref (ad 60)), (2, .int yx2)] := hl
  have h : (z_nm ((yd.1 60 5) &&& (-(yd.1 60 5))) fun yv1 => z_nm (((yd.1 60 4) &&& ((yd.1 ya0 5) ^^^ (-1 : Int32))) &&& (yv1 - (1 : Int32))) fun yv2 => z_br (z_lp (bX2_emit_34 ya0 yv2 yx2) ((0 : Int32), (0 : Int32), yd)) (fun t => match t with | (yv13, yd14) => z_nm (z_st yd14 ya0 5 ((yd14.1 ya0 5) ||| yv2)) fun yd15 => z_br (fX2_bufferSize yd15 ya0) fun yr16 => z_nm (z_st yd15 ya0 6 (if (yd15.1 ya0 6) < yr16 then yr16 else (yd15.1 ya0 6))) fun yd17 => some (yv13, yd17))) = some (rr, dd) := h
  refine lv_aload_n hx hb dX2_emit_0 rfl (lv_at hl 1 rfl) ?_
  refine gt_X1_5 hx hb hts hown hK hP (hts _ wl_1_143) dX2_emit_1 ?_
  refine lv_aload_n hx hb dX2_emit_4 rfl (lv_at hl 1 rfl) ?_
  refine gt_X1_5 hx hb hts hown hK hP (hts _ wl_1_143) dX2_emit_5 ?_
  refine lv_ineg hx hb dX2_emit_8 ?_
  refine lv_iand hx hb dX2_emit_9 ?_
  refine lv_topi (fun yv1 e_yv1 => ?_)
  have h := z_nma e_yv1 h
  refine lv_istore_n (lv' := [(3, .int yv1), (0, .ref (ad ya0)), (1, .ref (ad 60)), (2, .int yx2)]) hx hb dX2_emit_10 rfl hl (by decide) rfl (fun ls hl => ?_)
  refine lv_aload_n hx hb dX2_emit_11 rfl (lv_at hl 2 rfl) ?_
  refine gt_X1_4 hx hb hts hown hK hP (hts _ wl_1_140) dX2_emit_12 ?_
  refine lv_aload_n hx hb dX2_emit_15 rfl (lv_at hl 1 rfl) ?_
  refine gt_X2_5 hx hb hts hown hK hP yh0 (hts _ wl_1_94) dX2_emit_16 ?_
  refine lv_iconst (v := (-1 : Int32)) hx hb dX2_emit_19 (by decide) ?_
  refine lv_ixor hx hb dX2_emit_20 ?_
  refine lv_iand hx hb dX2_emit_21 ?_
  refine lv_iload_n hx hb dX2_emit_22 rfl (lv_at hl 0 rfl) ?_
  refine lv_iconst (v := (1 : Int32)) hx hb dX2_emit_23 (by decide) ?_
  refine lv_isub hx hb dX2_emit_24 ?_
  refine lv_iand hx hb dX2_emit_25 ?_
  refine lv_topi (fun yv2 e_yv2 => ?_)
  have h := z_nma e_yv2 h
  refine lv_istore (lv' := [(4, .int yv2), (3, .int yv1), (0, .ref (ad ya0)), (1, .ref (ad 60)), (2, .int yx2)]) hx hb dX2_emit_26 hl (by decide) rfl (fun ls hl => ?_)
  refine lv_iconst (v := (0 : Int32)) hx hb dX2_emit_28 (by decide) ?_
  refine lv_istore (lv' := [(5, .int (0 : Int32)), (4, .int yv2), (3, .int yv1), (0, .ref (ad ya0)), (1, .ref (ad 60)), (2, .int yx2)]) hx hb dX2_emit_29 hl (by decide) rfl (fun ls hl => ?_)
  refine lv_iconst (v := (0 : Int32)) hx hb dX2_emit_31 (by decide) ?_
  refine lv_istore (lv' := [(6, .int (0 : Int32)), (5, .int (0 : Int32)), (4, .int yv2), (3, .int yv1), (0, .ref (ad ya0)), (1, .ref (ad 60)), (2, .int yx2)]) hx hb dX2_emit_32 hl (by decide) rfl (fun ls hl => ?_)
  obtain ⟨yt34, hlp, h⟩ := z_brx h
  obtain ⟨yn34, hlp⟩ := z_lpx hlp
  have hE100 : ∀ (yv13 : Int32) (yd14 : Dt) (H : Heap) (locs : List Loc) (ls : Array Slot), (yv13, yd14) = yt34 → va_P D vwCl (WC G ad yd14) H → va_S A s.heap H locs → lv_has ls 7 [(0, .ref (ad ya0)), (1, .ref (ad 60)), (4, .int yv2), (5, .int yv13)] → W p l e (z_rm 2 41) s m args below meth c H locs 0 0 Q (F0 m 100 ls []) := by
    intro yv13 yd14 H locs ls et hP hS hl
    subst et
    have h : (z_nm (z_st yd14 ya0 5 ((yd14.1 ya0 5) ||| yv2)) fun yd15 => z_br (fX2_bufferSize yd15 ya0) fun yr16 => z_nm (z_st yd15 ya0 6 (if (yd15.1 ya0 6) < yr16 then yr16 else (yd15.1 ya0 6))) fun yd17 => some (yv13, yd17)) = some (rr, dd) := h
    refine lv_aload_n hx hb dX2_emit_100 rfl (lv_at hl 0 rfl) ?_
    refine lv_dup hx hb dX2_emit_101 rfl ?_
    refine gt_X2_5 hx hb hts hown hK hP yh0 (hts _ wl_1_94) dX2_emit_102 ?_
    refine lv_iload hx hb dX2_emit_105 (lv_at hl 2 rfl) ?_
    refine lv_ior hx hb dX2_emit_107 ?_
    refine pt_X2_5 hx hb hts hown hK hP hI hS yh0 (hts _ wl_1_94) dX2_emit_108 (fun H locs yd15 e_yd15 hP hS => ?_)
    have h := z_nma e_yd15 h
    refine lv_aload_n hx hb dX2_emit_111 rfl (lv_at hl 0 rfl) ?_
    refine lv_aload_n hx hb dX2_emit_112 rfl (lv_at hl 0 rfl) ?_
    refine gt_X2_6 hx hb hts hown hK hP yh0 (hts _ wl_1_95) dX2_emit_113 ?_
    refine lv_aload_n hx hb dX2_emit_116 rfl (lv_at hl 0 rfl) ?_
    refine lv_aload_n hx hb dX2_emit_117 rfl (lv_at hl 1 rfl) ?_
    obtain ⟨yr16, yhc118, h⟩ := z_brx h
    refine z_ki (z_rV (As := [.ref (ad 60)]) (rest := [.int (yd15.1 ya0 6), .ref (ad ya0)]) ⟨hx, hb, hml, hown, hts⟩ hK hP (w_X2 yh0) rfl (kX2_bufferSize hI yh0 yhc118) giX2_63 ⟨rfl, rfl⟩ ndX2_bufferSize ⟨Nat.le_of_ble_eq_true rfl, Nat.le_of_ble_eq_true rfl⟩ rfl hl.1 rfl (Nat.le_of_ble_eq_true rfl) ⟨Nat.le_refl _, Nat.le_refl _⟩ dX2_emit_118) hS (fun H locs hP hS => ?_)
    refine va_mmax hx hb (hml.trans hl.1.symm) hown (hts _ wl_2_81) (hts _ wl_2_82) (hts _ wl_1_8) (hts _ wl_2_83) (Nat.le_of_ble_eq_true rfl) (Nat.le_of_ble_eq_true rfl) (Nat.le_refl _) (Nat.le_refl _) dX2_emit_121 ?_
    refine pt_X2_6 hx hb hts hown hK hP hI hS yh0 (hts _ wl_1_95) dX2_emit_124 (fun H locs yd17 e_yd17 hP hS => ?_)
    have h := z_nma e_yd17 h
    refine lv_iload hx hb dX2_emit_127 (lv_at hl 3 rfl) ?_
    exact hRet _ _ _ _ _ _ hP hS h dX2_emit_129
  have hL34 : ∀ (n : Nat) (yv3 : Int32) (yv4 : Int32) (yd5 : Dt) (H : Heap) (locs : List Loc) (ls : Array Slot), z_it (bX2_emit_34 ya0 yv2 yx2) n (yv3, yv4, yd5) = some yt34 → va_P D vwCl (WC G ad yd5) H → va_S A s.heap H locs → lv_has ls 7 [(0, .ref (ad ya0)), (1, .ref (ad 60)), (2, .int yx2), (4, .int yv2), (5, .int yv3), (6, .int yv4)] → W p l e (z_rm 2 41) s m args below meth c H locs 0 0 Q (F0 m 34 ls []) := by
    intro n
    induction n with
    | zero => intro yv3 yv4 yd5 H locs ls hn; exact z_it0 hn
    | succ n ih =>
      intro yv3 yv4 yd5 H locs ls hn hP hS hl
      obtain ⟨yq34, h, hq1, hq2⟩ := z_itx hn
      have h : (zif ((20 : Int32) ≤ yv4) (some (.inr (yv3, yd5))) (zif ((20 : Int32) ≤ (yd5.1 ya0 4)) (some (.inr (yv3, yd5))) (zif (((yv2 >>> (yv4 &&& 31)) &&& (1 : Int32)) = 0) (jX2_emit_94 yv4 yv3 yd5) (z_gd (z_in (yd5.1 ya0 4) 20) (z_nm (z_st yd5 (ya0 + 2) (z_ix (yd5.1 ya0 4)) yv4) fun yd9 => z_gd (z_in (yd9.1 ya0 4) 20) (z_nm (z_st yd9 (ya0 + 3) (z_ix (yd9.1 ya0 4)) yx2) fun yd10 => z_nm (z_st yd10 ya0 4 ((yd10.1 ya0 4) + (1 : Int32))) fun yd11 => z_nm (yv3 + (1 : Int32)) fun yv12 => jX2_emit_94 yv4 yv12 yd11)))))) = some yq34 := h
      refine lv_iload hx hb dX2_emit_34 (lv_at hl 5 rfl) ?_
      refine lv_bipush (v := (20 : Int32)) hx hb dX2_emit_36 (by decide) ?_
      refine lv_icmp_ge (tgt := 100) hx hb dX2_emit_38 (by decide) (fun yc38 => ?_) (fun yc38 => ?_)
      · have h := z_ifp yc38 h
        exact hE100 _ _ _ _ _ (hq2 _ (z_sm h).symm) hP hS (lv_sub hl [0, 1, 3, 4] rfl)
      · have h := z_ifn yc38 h
        refine lv_aload_n hx hb dX2_emit_41 rfl (lv_at hl 0 rfl) ?_
        refine gt_X2_4 hx hb hts hown hK hP yh0 (hts _ wl_1_92) dX2_emit_42 ?_
        refine lv_bipush (v := (20 : Int32)) hx hb dX2_emit_45 (by decide) ?_
        refine lv_icmp_ge (tgt := 100) hx hb dX2_emit_47 (by decide) (fun yc47 => ?_) (fun yc47 => ?_)
        · have h := z_ifp yc47 h
          exact hE100 _ _ _ _ _ (hq2 _ (z_sm h).symm) hP hS (lv_sub hl [0, 1, 3, 4] rfl)
        · have h := z_ifn yc47 h
          refine lv_iload hx hb dX2_emit_50 (lv_at hl 3 rfl) ?_
          refine lv_iload hx hb dX2_emit_52 (lv_at hl 5 rfl) ?_
          refine lv_ishr hx hb dX2_emit_54 ?_
          refine lv_iconst (v := (1 : Int32)) hx hb dX2_emit_55 (by decide) ?_
          refine lv_iand hx hb dX2_emit_56 ?_
          have hJ94 : ∀ (yv6 : Int32) (yd7 : Dt) (H : Heap) (locs : List Loc) (ls : Array Slot), jX2_emit_94 yv4 yv6 yd7 = some yq34 → va_P D vwCl (WC G ad yd7) H → va_S A s.heap H locs → lv_has ls 7 [(0, .ref (ad ya0)), (1, .ref (ad 60)), (2, .int yx2), (4, .int yv2), (5, .int yv6), (6, .int yv4)] → W p l e (z_rm 2 41) s m args below meth c H locs 0 0 Q (F0 m 94 ls []) := by
            intro yv6 yd7 H locs ls h hP hS hl
            have h : (z_nm (yv4 + (1 : Int32)) fun yv8 => some (.inl (yv6, yv8, yd7))) = some yq34 := h
            obtain ⟨yv8, e_yv8, h⟩ := z_nmx h
            refine lv_iinc (v := yv8) (lv' := [(6, .int yv8), (0, .ref (ad ya0)), (1, .ref (ad 60)), (2, .int yx2), (4, .int yv2), (5, .int yv6)]) hx hb dX2_emit_94 hl (k := 5) rfl (by rw [e_yv8]; rfl) (by decide) rfl (fun ls hl => ?_)
            refine lv_goto (tgt := 34) hx hb dX2_emit_97 (by decide) ?_
            exact ih _ _ _ _ _ _ (hq1 _ (z_sm h).symm) hP hS (lv_sub hl [1, 2, 3, 4, 5, 0] rfl)
          refine lv_if_eq (tgt := 94) hx hb dX2_emit_57 (by decide) (fun yc57 => ?_) (fun yc57 => ?_)
          · have h := z_ifp yc57 h
            exact hJ94 _ _ _ _ _ h hP hS (lv_sub hl [0, 1, 2, 3, 4, 5] rfl)
          · have h := z_ifn yc57 h
            refine lv_aload_n hx hb dX2_emit_60 rfl (lv_at hl 0 rfl) ?_
            refine gt_X2_1 hx hb hts hown hK hP yh0 (hts _ wl_1_84) dX2_emit_61 ?_
            refine lv_aload_n hx hb dX2_emit_64 rfl (lv_at hl 0 rfl) ?_
            refine gt_X2_4 hx hb hts hown hK hP yh0 (hts _ wl_1_92) dX2_emit_65 ?_
            refine lv_iload hx hb dX2_emit_68 (lv_at hl 5 rfl) ?_
            obtain ⟨yg70, h⟩ := z_gi h
            refine as_C hx hb hK hP hI hS (ar_pa2 yh0) (by decide) yg70 dX2_emit_70 (fun H locs yd9 e_yd9 hP hS => ?_)
            have h := z_nma e_yd9 h
            refine lv_aload_n hx hb dX2_emit_71 rfl (lv_at hl 0 rfl) ?_
            refine gt_X2_2 hx hb hts hown hK hP yh0 (hts _ wl_1_86) dX2_emit_72 ?_
            refine lv_aload_n hx hb dX2_emit_75 rfl (lv_at hl 0 rfl) ?_
            refine gt_X2_4 hx hb hts hown hK hP yh0 (hts _ wl_1_92) dX2_emit_76 ?_
            refine lv_iload_n hx hb dX2_emit_79 rfl (lv_at hl 2 rfl) ?_
            obtain ⟨yg80, h⟩ := z_gi h
            refine as_C hx hb hK hP hI hS (ar_pa3 yh0) (by decide) yg80 dX2_emit_80 (fun H locs yd10 e_yd10 hP hS => ?_)
            have h := z_nma e_yd10 h
            refine lv_aload_n hx hb dX2_emit_81 rfl (lv_at hl 0 rfl) ?_
            refine lv_dup hx hb dX2_emit_82 rfl ?_
            refine gt_X2_4 hx hb hts hown hK hP yh0 (hts _ wl_1_92) dX2_emit_83 ?_
            refine lv_iconst (v := (1 : Int32)) hx hb dX2_emit_86 (by decide) ?_
            refine lv_iadd hx hb dX2_emit_87 ?_
            refine pt_X2_4 hx hb hts hown hK hP hI hS yh0 (hts _ wl_1_92) dX2_emit_88 (fun H locs yd11 e_yd11 hP hS => ?_)
            have h := z_nma e_yd11 h
            obtain ⟨yv12, e_yv12, h⟩ := z_nmx h
            refine lv_iinc (v := yv12) (lv' := [(5, .int yv12), (0, .ref (ad ya0)), (1, .ref (ad 60)), (2, .int yx2), (4, .int yv2), (6, .int yv4)]) hx hb dX2_emit_91 hl (k := 4) rfl (by rw [e_yv12]; rfl) (by decide) rfl (fun ls hl => ?_)
            exact hJ94 _ _ _ _ _ h hP hS (lv_sub hl [1, 2, 3, 4, 0, 5] rfl)
  exact hL34 yn34 _ _ _ _ _ _ hlp hP hS (lv_sub hl [4, 5, 6, 2, 1, 0] rfl)
noncomputable def fX3_clear (yd : Dt) (ya0 : Nat) : Option (Dt) :=
  z_br (fX0_clear yd (ya0 + 1)) fun yd1 => z_nm (z_st yd1 ya0 2 (0 : Int32)) fun yd2 => some yd2
set_option maxHeartbeats 4000000 in
set_option maxRecDepth 100000 in
theorem kX3_clear {l : Launch} {D : va_G} {G : z_G} {ad : Nat → Nat} {A : Nat → Prop} (hI : ∀ d, va_D A (WC G ad d)) {yd : Dt} {ya0 : Nat} (yh0 : isSt ya0) {dd : Dt} (h : fX3_clear yd ya0 = some dd) : z_Mv l D G A (WC G ad) yX3_clear cX3_clear 1 (z_rm 1 20) yd [.ref (ad ya0)] dd := by
  refine z_ofv (by decide) (Nat.le_of_ble_eq_true rfl) fun p e s m args below meth c Q hx hb hml hown hts hK hP hRet ls hl => ?_
  have hS : va_S A s.heap s.heap [] := va_S.rf
  have hl : lv_has ls 1 [(0, .ref (ad ya0))] := hl
  have h : (z_br (fX0_clear yd (ya0 + 1)) fun yd1 => z_nm (z_st yd1 ya0 2 (0 : Int32)) fun yd2 => some yd2) = some dd := h
  refine lv_aload_n hx hb dX3_clear_0 rfl (lv_at hl 0 rfl) ?_
  refine gt_X3_0 hx hb hts hown hK hP yh0 (hts _ wl_1_112) dX3_clear_1 ?_
  obtain ⟨yd1, yhc4, h⟩ := z_brx h
  refine z_kv (z_rV (As := []) (rest := []) ⟨hx, hb, hml, hown, hts⟩ hK hP (w_X0 (el_st yh0)) rfl (kX0_clear hI (el_st yh0) yhc4) giX3_25 ⟨rfl, rfl⟩ ndX0_clear ⟨Nat.le_of_ble_eq_true rfl, Nat.le_of_ble_eq_true rfl⟩ rfl hl.1 rfl (Nat.le_of_ble_eq_true rfl) ⟨Nat.le_refl _, Nat.le_refl _⟩ dX3_clear_4) hS (fun H locs hP hS => ?_)
  refine lv_aload_n hx hb dX3_clear_7 rfl (lv_at hl 0 rfl) ?_
  refine lv_iconst (v := (0 : Int32)) hx hb dX3_clear_8 (by decide) ?_
  refine pt_X3_2 hx hb hts hown hK hP hI hS yh0 (hts _ wl_1_117) dX3_clear_9 (fun H locs yd2 e_yd2 hP hS => ?_)
  have h := z_nma e_yd2 h
  exact hRet _ _ _ _ _ hP hS h dX3_clear_12
noncomputable def bX3_copyFrom_21 (ya0 : Nat) (ya1 : Nat) (s : Int32 × Dt) : Option ((Int32 × Dt) ⊕ (Dt)) := match s with
  | (yv3, yd4) => zif ((yd4.1 ya0 2) ≤ yv3) (some (.inr yd4)) (z_gd (z_in yv3 5) (z_gd (z_in yv3 5) (z_br (fX2_copyFrom yd4 ((ya0 + 8) + 4 * (z_ix yv3)) ((ya1 + 8) + 4 * (z_ix yv3))) fun yd5 => z_nm (yv3 + (1 : Int32)) fun yv6 => some (.inl (yv6, yd5)))))
noncomputable def fX3_copyFrom (yd : Dt) (ya0 : Nat) (ya1 : Nat) : Option (Dt) :=
  z_br (fX0_copyFrom yd (ya0 + 1) (ya1 + 1)) fun yd1 => z_nm (z_st yd1 ya0 2 (yd1.1 ya1 2)) fun yd2 => z_br (z_lp (bX3_copyFrom_21 ya0 ya1) ((0 : Int32), yd2)) (fun t => match t with | yd7 => some yd7)
set_option maxHeartbeats 4000000 in
set_option maxRecDepth 100000 in
theorem kX3_copyFrom {l : Launch} {D : va_G} {G : z_G} {ad : Nat → Nat} {A : Nat → Prop} (hI : ∀ d, va_D A (WC G ad d)) {yd : Dt} {ya0 : Nat} {ya1 : Nat} (yh0 : isSt ya0) (yh1 : isSt ya1) {dd : Dt} (h : fX3_copyFrom yd ya0 ya1 = some dd) : z_Mv l D G A (WC G ad) yX3_copyFrom cX3_copyFrom 3 (z_rm 2 61) yd [.ref (ad ya0), .ref (ad ya1)] dd := by
  refine z_ofv (by decide) (Nat.le_of_ble_eq_true rfl) fun p e s m args below meth c Q hx hb hml hown hts hK hP hRet ls hl => ?_
  have hS : va_S A s.heap s.heap [] := va_S.rf
  have hl : lv_has ls 3 [(0, .ref (ad ya0)), (1, .ref (ad ya1))] := hl
  have h : (z_br (fX0_copyFrom yd (ya0 + 1) (ya1 + 1)) fun yd1 => z_nm (z_st yd1 ya0 2 (yd1.1 ya1 2)) fun yd2 => z_br (z_lp (bX3_copyFrom_21 ya0 ya1) ((0 : Int32), yd2)) (fun t => match t with | yd7 => some yd7)) = some dd := h
  refine lv_aload_n hx hb dX3_copyFrom_0 rfl (lv_at hl 0 rfl) ?_
  refine gt_X3_0 hx hb hts hown hK hP yh0 (hts _ wl_1_112) dX3_copyFrom_1 ?_
  refine lv_aload_n hx hb dX3_copyFrom_4 rfl (lv_at hl 1 rfl) ?_
  refine gt_X3_0 hx hb hts hown hK hP yh1 (hts _ wl_1_112) dX3_copyFrom_5 ?_
  obtain ⟨yd1, yhc8, h⟩ := z_brx h
  refine z_kv (z_rV (As := [.ref (ad (ya1 + 1))]) (rest := []) ⟨hx, hb, hml, hown, hts⟩ hK hP (w_X0 (el_st yh0)) rfl (kX0_copyFrom hI (el_st yh0) (el_st yh1) yhc8) giX3_32 ⟨rfl, rfl⟩ ndX0_copyFrom ⟨Nat.le_of_ble_eq_true rfl, Nat.le_of_ble_eq_true rfl⟩ rfl hl.1 rfl (Nat.le_of_ble_eq_true rfl) ⟨Nat.le_refl _, Nat.le_refl _⟩ dX3_copyFrom_8) hS (fun H locs hP hS => ?_)
  refine lv_aload_n hx hb dX3_copyFrom_11 rfl (lv_at hl 0 rfl) ?_
  refine lv_aload_n hx hb dX3_copyFrom_12 rfl (lv_at hl 1 rfl) ?_
  refine gt_X3_2 hx hb hts hown hK hP yh1 (hts _ wl_1_117) dX3_copyFrom_13 ?_
  refine pt_X3_2 hx hb hts hown hK hP hI hS yh0 (hts _ wl_1_117) dX3_copyFrom_16 (fun H locs yd2 e_yd2 hP hS => ?_)
  have h := z_nma e_yd2 h
  refine lv_iconst (v := (0 : Int32)) hx hb dX3_copyFrom_19 (by decide) ?_
  refine lv_istore_n (lv' := [(2, .int (0 : Int32)), (0, .ref (ad ya0)), (1, .ref (ad ya1))]) hx hb dX3_copyFrom_20 rfl hl (by decide) rfl (fun ls hl => ?_)
  obtain ⟨yt21, hlp, h⟩ := z_brx h
  obtain ⟨yn21, hlp⟩ := z_lpx hlp
  have hE50 : ∀ (yd7 : Dt) (H : Heap) (locs : List Loc) (ls : Array Slot), yd7 = yt21 → va_P D vwCl (WC G ad yd7) H → va_S A s.heap H locs → lv_has ls 3 [] → W p l e (z_rm 2 61) s m args below meth c H locs 0 0 Q (F0 m 50 ls []) := by
    intro yd7 H locs ls et hP hS hl
    subst et
    have h : (some yd7) = some dd := h
    exact hRet _ _ _ _ _ hP hS h dX3_copyFrom_50
  have hL21 : ∀ (n : Nat) (yv3 : Int32) (yd4 : Dt) (H : Heap) (locs : List Loc) (ls : Array Slot), z_it (bX3_copyFrom_21 ya0 ya1) n (yv3, yd4) = some yt21 → va_P D vwCl (WC G ad yd4) H → va_S A s.heap H locs → lv_has ls 3 [(0, .ref (ad ya0)), (1, .ref (ad ya1)), (2, .int yv3)] → W p l e (z_rm 2 61) s m args below meth c H locs 0 0 Q (F0 m 21 ls []) := by
    intro n
    induction n with
    | zero => intro yv3 yd4 H locs ls hn; exact z_it0 hn
    | succ n ih =>
      intro yv3 yd4 H locs ls hn hP hS hl
      obtain ⟨yq21, h, hq1, hq2⟩ := z_itx hn
      have h : (zif ((yd4.1 ya0 2) ≤ yv3) (some (.inr yd4)) (z_gd (z_in yv3 5) (z_gd (z_in yv3 5) (z_br (fX2_copyFrom yd4 ((ya0 + 8) + 4 * (z_ix yv3)) ((ya1 + 8) + 4 * (z_ix yv3))) fun yd5 => z_nm (yv3 + (1 : Int32)) fun yv6 => some (.inl (yv6, yd5)))))) = some yq21 := h
      refine lv_iload_n hx hb dX3_copyFrom_21 rfl (lv_at hl 2 rfl) ?_
      refine lv_aload_n hx hb dX3_copyFrom_22 rfl (lv_at hl 0 rfl) ?_
      refine gt_X3_2 hx hb hts hown hK hP yh0 (hts _ wl_1_117) dX3_copyFrom_23 ?_
      refine lv_icmp_ge (tgt := 50) hx hb dX3_copyFrom_26 (by decide) (fun yc26 => ?_) (fun yc26 => ?_)
      · have h := z_ifp yc26 h
        exact hE50 _ _ _ _ (hq2 _ (z_sm h).symm) hP hS (lv_sub hl [] rfl)
      · have h := z_ifn yc26 h
        refine lv_aload_n hx hb dX3_copyFrom_29 rfl (lv_at hl 0 rfl) ?_
        refine gt_X3_1 hx hb hts hown hK hP yh0 (hts _ wl_1_115) dX3_copyFrom_30 ?_
        refine lv_iload_n hx hb dX3_copyFrom_33 rfl (lv_at hl 2 rfl) ?_
        obtain ⟨yg34, h⟩ := z_gi h
        refine rl_P hx hb hK hP yh0 yg34 dX3_copyFrom_34 ?_
        refine lv_aload_n hx hb dX3_copyFrom_35 rfl (lv_at hl 1 rfl) ?_
        refine gt_X3_1 hx hb hts hown hK hP yh1 (hts _ wl_1_115) dX3_copyFrom_36 ?_
        refine lv_iload_n hx hb dX3_copyFrom_39 rfl (lv_at hl 2 rfl) ?_
        obtain ⟨yg40, h⟩ := z_gi h
        refine rl_P hx hb hK hP yh1 yg40 dX3_copyFrom_40 ?_
        obtain ⟨yd5, yhc41, h⟩ := z_brx h
        refine z_kv (z_rV (As := [.ref (ad ((ya1 + 8) + 4 * (z_ix yv3)))]) (rest := []) ⟨hx, hb, hml, hown, hts⟩ hK hP (w_X2 (pa_st yh0 yg34)) rfl (kX2_copyFrom hI (pa_st yh0 yg34) (pa_st yh1 yg40) yhc41) giX3_36 ⟨rfl, rfl⟩ ndX2_copyFrom ⟨Nat.le_of_ble_eq_true rfl, Nat.le_of_ble_eq_true rfl⟩ rfl hl.1 rfl (Nat.le_of_ble_eq_true rfl) ⟨Nat.le_refl _, Nat.le_refl _⟩ dX3_copyFrom_41) hS (fun H locs hP hS => ?_)
        obtain ⟨yv6, e_yv6, h⟩ := z_nmx h
        refine lv_iinc (v := yv6) (lv' := [(2, .int yv6), (0, .ref (ad ya0)), (1, .ref (ad ya1))]) hx hb dX3_copyFrom_44 hl (k := 2) rfl (by rw [e_yv6]; rfl) (by decide) rfl (fun ls hl => ?_)
        refine lv_goto (tgt := 21) hx hb dX3_copyFrom_47 (by decide) ?_
        exact ih _ _ _ _ _ (hq1 _ (z_sm h).symm) hP hS (lv_sub hl [1, 2, 0] rfl)
  exact hL21 yn21 _ _ _ _ _ hlp hP hS (lv_sub hl [1, 2, 0] rfl)
noncomputable def fX3_addPath (yd : Dt) (ya0 : Nat) (ya1 : Nat) (yx2 : Int32) : Option (Dt) :=
  zif ((5 : Int32) ≤ (yd.1 ya0 2)) (some yd) (z_gd (z_in (yd.1 ya0 2) 5) (z_br (fX2_begin yd ((ya0 + 8) + 4 * (z_ix (yd.1 ya0 2))) ya1 yx2) fun yd1 => z_nm (z_st yd1 ya0 2 ((yd1.1 ya0 2) + (1 : Int32))) fun yd2 => some yd2))
set_option maxHeartbeats 4000000 in
set_option maxRecDepth 100000 in
theorem kX3_addPath {l : Launch} {D : va_G} {G : z_G} {ad : Nat → Nat} {A : Nat → Prop} (hI : ∀ d, va_D A (WC G ad d)) {yd : Dt} {ya0 : Nat} {ya1 : Nat} {yx2 : Int32} (yh0 : isSt ya0) (yh1 : arC ya1 = 4) {dd : Dt} (h : fX3_addPath yd ya0 ya1 yx2 = some dd) : z_Mv l D G A (WC G ad) yX3_addPath cX3_addPath 3 (z_rm 2 62) yd [.ref (ad ya0), .ref (ad ya1), .int yx2] dd := by
  refine z_ofv (by decide) (Nat.le_of_ble_eq_true rfl) fun p e s m args below meth c Q hx hb hml hown hts hK hP hRet ls hl => ?_
  have hS : va_S A s.heap s.heap [] := va_S.rf
  have hl : lv_has ls 3 [(0, .ref (ad ya0)), (1, .ref (ad ya1)), (2, .int yx2)] := hl
  have h : (zif ((5 : Int32) ≤ (yd.1 ya0 2)) (some yd) (z_gd (z_in (yd.1 ya0 2) 5) (z_br (fX2_begin yd ((ya0 + 8) + 4 * (z_ix (yd.1 ya0 2))) ya1 yx2) fun yd1 => z_nm (z_st yd1 ya0 2 ((yd1.1 ya0 2) + (1 : Int32))) fun yd2 => some yd2))) = some dd := h
  refine lv_aload_n hx hb dX3_addPath_0 rfl (lv_at hl 0 rfl) ?_
  refine gt_X3_2 hx hb hts hown hK hP yh0 (hts _ wl_1_117) dX3_addPath_1 ?_
  refine lv_iconst (v := (5 : Int32)) hx hb dX3_addPath_4 (by decide) ?_
  refine lv_icmp_ge (tgt := 32) hx hb dX3_addPath_5 (by decide) (fun yc5 => ?_) (fun yc5 => ?_)
  · have h := z_ifp yc5 h
    exact hRet _ _ _ _ _ hP hS h dX3_addPath_32
  · have h := z_ifn yc5 h
    refine lv_aload_n hx hb dX3_addPath_8 rfl (lv_at hl 0 rfl) ?_
    refine gt_X3_1 hx hb hts hown hK hP yh0 (hts _ wl_1_115) dX3_addPath_9 ?_
    refine lv_aload_n hx hb dX3_addPath_12 rfl (lv_at hl 0 rfl) ?_
    refine gt_X3_2 hx hb hts hown hK hP yh0 (hts _ wl_1_117) dX3_addPath_13 ?_
    obtain ⟨yg16, h⟩ := z_gi h
    refine rl_P hx hb hK hP yh0 yg16 dX3_addPath_16 ?_
    refine lv_aload_n hx hb dX3_addPath_17 rfl (lv_at hl 1 rfl) ?_
    refine lv_iload_n hx hb dX3_addPath_18 rfl (lv_at hl 2 rfl) ?_
    obtain ⟨yd1, yhc19, h⟩ := z_brx h
    refine z_kv (z_rV (As := [.ref (ad ya1), .int yx2]) (rest := []) ⟨hx, hb, hml, hown, hts⟩ hK hP (w_X2 (pa_st yh0 yg16)) rfl (kX2_begin hI (pa_st yh0 yg16) yh1 yhc19) giX3_39 ⟨rfl, rfl⟩ ndX2_begin ⟨Nat.le_of_ble_eq_true rfl, Nat.le_of_ble_eq_true rfl⟩ rfl hl.1 rfl (Nat.le_of_ble_eq_true rfl) ⟨Nat.le_refl _, Nat.le_refl _⟩ dX3_addPath_19) hS (fun H locs hP hS => ?_)
    refine lv_aload_n hx hb dX3_addPath_22 rfl (lv_at hl 0 rfl) ?_
    refine lv_dup hx hb dX3_addPath_23 rfl ?_
    refine gt_X3_2 hx hb hts hown hK hP yh0 (hts _ wl_1_117) dX3_addPath_24 ?_
    refine lv_iconst (v := (1 : Int32)) hx hb dX3_addPath_27 (by decide) ?_
    refine lv_iadd hx hb dX3_addPath_28 ?_
    refine pt_X3_2 hx hb hts hown hK hP hI hS yh0 (hts _ wl_1_117) dX3_addPath_29 (fun H locs yd2 e_yd2 hP hS => ?_)
    have h := z_nma e_yd2 h
    exact hRet _ _ _ _ _ hP hS h dX3_addPath_32
noncomputable def fX3_emitOne (yd : Dt) (ya0 : Nat) (yx1 : Int32) : Option (Int32 × Dt) :=
  z_gd (z_in yx1 5) (z_br (fX1_match yd (ya0 + 1) ((ya0 + 8) + 4 * (z_ix yx1))) fun yd1 => z_gd (z_in yx1 5) (z_bd (fX2_emit yd1 ((ya0 + 8) + 4 * (z_ix yx1)) (yd1.1 (ya0 + 1) 8)) fun yr2 yd3 => some (yr2, yd3)))
set_option maxHeartbeats 4000000 in
set_option maxRecDepth 100000 in
theorem kX3_emitOne {l : Launch} {D : va_G} {G : z_G} {ad : Nat → Nat} {A : Nat → Prop} (hI : ∀ d, va_D A (WC G ad d)) {yd : Dt} {ya0 : Nat} {yx1 : Int32} (yh0 : isSt ya0) {rr : Int32} {dd : Dt} (h : fX3_emitOne yd ya0 yx1 = some (rr, dd)) : z_Mi l D G A (WC G ad) yX3_emitOne cX3_emitOne 3 (z_rm 3 83) yd [.ref (ad ya0), .int yx1, .ref (ad 60)] rr dd := by
  refine z_ofi (by decide) (Nat.le_of_ble_eq_true rfl) fun p e s m args below meth c Q hx hb hml hown hts hK hP hRet ls hl => ?_
  have hS : va_S A s.heap s.heap [] := va_S.rf
  have hl : lv_has ls 3 [(0, .ref (ad ya0)), (1, .int yx1), (2, .ref (ad 60))] := hl
  have h : (z_gd (z_in yx1 5) (z_br (fX1_match yd (ya0 + 1) ((ya0 + 8) + 4 * (z_ix yx1))) fun yd1 => z_gd (z_in yx1 5) (z_bd (fX2_emit yd1 ((ya0 + 8) + 4 * (z_ix yx1)) (yd1.1 (ya0 + 1) 8)) fun yr2 yd3 => some (yr2, yd3)))) = some (rr, dd) := h
  refine lv_aload_n hx hb dX3_emitOne_0 rfl (lv_at hl 2 rfl) ?_
  refine lv_aload_n hx hb dX3_emitOne_1 rfl (lv_at hl 0 rfl) ?_
  refine gt_X3_0 hx hb hts hown hK hP yh0 (hts _ wl_1_112) dX3_emitOne_2 ?_
  refine lv_aload_n hx hb dX3_emitOne_5 rfl (lv_at hl 0 rfl) ?_
  refine gt_X3_1 hx hb hts hown hK hP yh0 (hts _ wl_1_115) dX3_emitOne_6 ?_
  refine lv_iload_n hx hb dX3_emitOne_9 rfl (lv_at hl 1 rfl) ?_
  obtain ⟨yg10, h⟩ := z_gi h
  refine rl_P hx hb hK hP yh0 yg10 dX3_emitOne_10 ?_
  obtain ⟨yd1, yhc11, h⟩ := z_brx h
  refine z_kv (z_rV (As := [.ref (ad (ya0 + 1)), .ref (ad ((ya0 + 8) + 4 * (z_ix yx1)))]) (rest := []) ⟨hx, hb, hml, hown, hts⟩ hK hP w_X1 rfl (kX1_match hI (el_st yh0) (pa_st yh0 yg10) yhc11) giX3_47 ⟨rfl, rfl⟩ ndX1_match ⟨Nat.le_of_ble_eq_true rfl, Nat.le_of_ble_eq_true rfl⟩ rfl hl.1 rfl (Nat.le_of_ble_eq_true rfl) ⟨Nat.le_refl _, Nat.le_refl _⟩ dX3_emitOne_11) hS (fun H locs hP hS => ?_)
  refine lv_aload_n hx hb dX3_emitOne_14 rfl (lv_at hl 0 rfl) ?_
  refine gt_X3_1 hx hb hts hown hK hP yh0 (hts _ wl_1_115) dX3_emitOne_15 ?_
  refine lv_iload_n hx hb dX3_emitOne_18 rfl (lv_at hl 1 rfl) ?_
  obtain ⟨yg19, h⟩ := z_gi h
  refine rl_P hx hb hK hP yh0 yg19 dX3_emitOne_19 ?_
  refine lv_aload_n hx hb dX3_emitOne_20 rfl (lv_at hl 2 rfl) ?_
  refine lv_aload_n hx hb dX3_emitOne_21 rfl (lv_at hl 0 rfl) ?_
  refine gt_X3_0 hx hb hts hown hK hP yh0 (hts _ wl_1_112) dX3_emitOne_22 ?_
  refine gt_X0_8 hx hb hts hown hK hP (el_st yh0) (hts _ wl_1_52) dX3_emitOne_25 ?_
  obtain ⟨yr2, yd3, yhc28, h⟩ := z_bdx h
  refine z_ki (z_rV (As := [.ref (ad 60), .int (yd1.1 (ya0 + 1) 8)]) (rest := []) ⟨hx, hb, hml, hown, hts⟩ hK hP (w_X2 (pa_st yh0 yg19)) rfl (kX2_emit hI (pa_st yh0 yg19) yhc28) giX3_56 ⟨rfl, rfl⟩ ndX2_emit ⟨Nat.le_of_ble_eq_true rfl, Nat.le_of_ble_eq_true rfl⟩ rfl hl.1 rfl (Nat.le_of_ble_eq_true rfl) ⟨Nat.le_refl _, Nat.le_refl _⟩ dX3_emitOne_28) hS (fun H locs hP hS => ?_)
  exact hRet _ _ _ _ _ _ hP hS h dX3_emitOne_31
noncomputable def bX3_emitAll_4 (ya0 : Nat) (s : Int32 × Int32 × Dt) : Option ((Int32 × Int32 × Dt) ⊕ (Int32 × Dt)) := match s with
  | (yv1, yv2, yd3) => zif ((yd3.1 ya0 2) ≤ yv2) (some (.inr (yv1, yd3))) (z_bd (fX3_emitOne yd3 ya0 yv2) fun yr4 yd5 => z_nm (yv1 + yr4) fun yv6 => z_nm (yv2 + (1 : Int32)) fun yv7 => some (.inl (yv6, yv7, yd5)))
noncomputable def fX3_emitAll (yd : Dt) (ya0 : Nat) : Option (Int32 × Dt) :=
  z_br (z_lp (bX3_emitAll_4 ya0) ((0 : Int32), (0 : Int32), yd)) (fun t => match t with | (yv8, yd9) => some (yv8, yd9))
set_option maxHeartbeats 4000000 in
set_option maxRecDepth 100000 in
theorem kX3_emitAll {l : Launch} {D : va_G} {G : z_G} {ad : Nat → Nat} {A : Nat → Prop} (hI : ∀ d, va_D A (WC G ad d)) {yd : Dt} {ya0 : Nat} (yh0 : isSt ya0) {rr : Int32} {dd : Dt} (h : fX3_emitAll yd ya0 = some (rr, dd)) : z_Mi l D G A (WC G ad) yX3_emitAll cX3_emitAll 4 (z_rm 4 105) yd [.ref (ad ya0), .ref (ad 60)] rr dd := by
  refine z_ofi (by decide) (Nat.le_of_ble_eq_true rfl) fun p e s m args below meth c Q hx hb hml hown hts hK hP hRet ls hl => ?_
  have hS : va_S A s.heap s.heap [] := va_S.rf
  have hl : lv_has ls 4 [(0, .ref (ad ya0)), (1, .ref (ad 60))] := hl
  have h : (z_br (z_lp (bX3_emitAll_4 ya0) ((0 : Int32), (0 : Int32), yd)) (fun t => match t with | (yv8, yd9) => some (yv8, yd9))) = some (rr, dd) := h
  refine lv_iconst (v := (0 : Int32)) hx hb dX3_emitAll_0 (by decide) ?_
  refine lv_istore_n (lv' := [(2, .int (0 : Int32)), (0, .ref (ad ya0)), (1, .ref (ad 60))]) hx hb dX3_emitAll_1 rfl hl (by decide) rfl (fun ls hl => ?_)
  refine lv_iconst (v := (0 : Int32)) hx hb dX3_emitAll_2 (by decide) ?_
  refine lv_istore_n (lv' := [(3, .int (0 : Int32)), (2, .int (0 : Int32)), (0, .ref (ad ya0)), (1, .ref (ad 60))]) hx hb dX3_emitAll_3 rfl hl (by decide) rfl (fun ls hl => ?_)
  obtain ⟨yt4, hlp, h⟩ := z_brx h
  obtain ⟨yn4, hlp⟩ := z_lpx hlp
  have hE27 : ∀ (yv8 : Int32) (yd9 : Dt) (H : Heap) (locs : List Loc) (ls : Array Slot), (yv8, yd9) = yt4 → va_P D vwCl (WC G ad yd9) H → va_S A s.heap H locs → lv_has ls 4 [(2, .int yv8)] → W p l e (z_rm 4 105) s m args below meth c H locs 0 0 Q (F0 m 27 ls []) := by
    intro yv8 yd9 H locs ls et hP hS hl
    subst et
    have h : (some (yv8, yd9)) = some (rr, dd) := h
    refine lv_iload_n hx hb dX3_emitAll_27 rfl (lv_at hl 0 rfl) ?_
    exact hRet _ _ _ _ _ _ hP hS h dX3_emitAll_28
  have hL4 : ∀ (n : Nat) (yv1 : Int32) (yv2 : Int32) (yd3 : Dt) (H : Heap) (locs : List Loc) (ls : Array Slot), z_it (bX3_emitAll_4 ya0) n (yv1, yv2, yd3) = some yt4 → va_P D vwCl (WC G ad yd3) H → va_S A s.heap H locs → lv_has ls 4 [(0, .ref (ad ya0)), (1, .ref (ad 60)), (2, .int yv1), (3, .int yv2)] → W p l e (z_rm 4 105) s m args below meth c H locs 0 0 Q (F0 m 4 ls []) := by
    intro n
    induction n with
    | zero => intro yv1 yv2 yd3 H locs ls hn; exact z_it0 hn
    | succ n ih =>
      intro yv1 yv2 yd3 H locs ls hn hP hS hl
      obtain ⟨yq4, h, hq1, hq2⟩ := z_itx hn
      have h : (zif ((yd3.1 ya0 2) ≤ yv2) (some (.inr (yv1, yd3))) (z_bd (fX3_emitOne yd3 ya0 yv2) fun yr4 yd5 => z_nm (yv1 + yr4) fun yv6 => z_nm (yv2 + (1 : Int32)) fun yv7 => some (.inl (yv6, yv7, yd5)))) = some yq4 := h
      refine lv_iload_n hx hb dX3_emitAll_4 rfl (lv_at hl 3 rfl) ?_
      refine lv_aload_n hx hb dX3_emitAll_5 rfl (lv_at hl 0 rfl) ?_
      refine gt_X3_2 hx hb hts hown hK hP yh0 (hts _ wl_1_117) dX3_emitAll_6 ?_
      refine lv_icmp_ge (tgt := 27) hx hb dX3_emitAll_9 (by decide) (fun yc9 => ?_) (fun yc9 => ?_)
      · have h := z_ifp yc9 h
        exact hE27 _ _ _ _ _ (hq2 _ (z_sm h).symm) hP hS (lv_sub hl [2] rfl)
      · have h := z_ifn yc9 h
        refine lv_iload_n hx hb dX3_emitAll_12 rfl (lv_at hl 2 rfl) ?_
        refine lv_aload_n hx hb dX3_emitAll_13 rfl (lv_at hl 0 rfl) ?_
        refine lv_iload_n hx hb dX3_emitAll_14 rfl (lv_at hl 3 rfl) ?_
        refine lv_aload_n hx hb dX3_emitAll_15 rfl (lv_at hl 1 rfl) ?_
        obtain ⟨yr4, yd5, yhc16, h⟩ := z_bdx h
        refine z_ki (z_rV (As := [.int yv2, .ref (ad 60)]) (rest := [.int yv1]) ⟨hx, hb, hml, hown, hts⟩ hK hP (w_X3 yh0) rfl (kX3_emitOne hI yh0 yhc16) giX3_43 ⟨rfl, rfl⟩ ndX3_emitOne ⟨Nat.le_of_ble_eq_true rfl, Nat.le_of_ble_eq_true rfl⟩ rfl hl.1 rfl (Nat.le_of_ble_eq_true rfl) ⟨Nat.le_refl _, Nat.le_refl _⟩ dX3_emitAll_16) hS (fun H locs hP hS => ?_)
        refine lv_iadd hx hb dX3_emitAll_19 ?_
        refine lv_topi (fun yv6 e_yv6 => ?_)
        have h := z_nma e_yv6 h
        refine lv_istore_n (lv' := [(2, .int yv6), (0, .ref (ad ya0)), (1, .ref (ad 60)), (3, .int yv2)]) hx hb dX3_emitAll_20 rfl hl (by decide) rfl (fun ls hl => ?_)
        obtain ⟨yv7, e_yv7, h⟩ := z_nmx h
        refine lv_iinc (v := yv7) (lv' := [(3, .int yv7), (2, .int yv6), (0, .ref (ad ya0)), (1, .ref (ad 60))]) hx hb dX3_emitAll_21 hl (k := 3) rfl (by rw [e_yv7]; rfl) (by decide) rfl (fun ls hl => ?_)
        refine lv_goto (tgt := 4) hx hb dX3_emitAll_24 (by decide) ?_
        exact ih _ _ _ _ _ _ (hq1 _ (z_sm h).symm) hP hS (lv_sub hl [2, 3, 1, 0] rfl)
  exact hL4 yn4 _ _ _ _ _ _ hlp hP hS (lv_sub hl [2, 3, 1, 0] rfl)
noncomputable def bX3_earlierBeginsLike_2 (yx1 : Int32) (yd : Dt) (ya0 : Nat) (yx2 : Int32) (s : Int32) : Option ((Int32) ⊕ ((Unit) ⊕ (Unit))) := match s with
  | yv1 => zif (yx1 ≤ yv1) (some (.inr (.inr ()))) (z_gd (z_in yv1 5) (z_gd (z_in yx1 5) (z_br (fX2_beginsLike yd ((ya0 + 8) + 4 * (z_ix yv1)) ((ya0 + 8) + 4 * (z_ix yx1)) yx2) fun yr2 => zif (yr2 = 0) (z_nm (yv1 + (1 : Int32)) fun yv3 => some (.inl yv3)) (some (.inr (.inl ()))))))
noncomputable def fX3_earlierBeginsLike (yd : Dt) (ya0 : Nat) (yx1 : Int32) (yx2 : Int32) : Option Int32 :=
  z_br (z_lp (bX3_earlierBeginsLike_2 yx1 yd ya0 yx2) (0 : Int32)) (fun t => match t with | .inl () => some (1 : Int32) | .inr () => some (0 : Int32))
set_option maxHeartbeats 4000000 in
set_option maxRecDepth 100000 in
theorem kX3_earlierBeginsLike {l : Launch} {D : va_G} {G : z_G} {ad : Nat → Nat} {A : Nat → Prop} (hI : ∀ d, va_D A (WC G ad d)) {yd : Dt} {ya0 : Nat} {yx1 : Int32} {yx2 : Int32} (yh0 : isSt ya0) {rr : Int32} (h : fX3_earlierBeginsLike yd ya0 yx1 yx2 = some rr) : z_Mz l D G A (WC G ad) yX3_earlierBeginsLike cX3_earlierBeginsLike 4 (z_rm 1 23) yd [.ref (ad ya0), .int yx1, .int yx2] rr yd := by
  refine z_ofz (by decide) (Nat.le_of_ble_eq_true rfl) fun p e s m args below meth c Q hx hb hml hown hts hK hP hRet ls hl => ?_
  have hS : va_S A s.heap s.heap [] := va_S.rf
  have hl : lv_has ls 4 [(0, .ref (ad ya0)), (1, .int yx1), (2, .int yx2)] := hl
  have h : (z_br (z_lp (bX3_earlierBeginsLike_2 yx1 yd ya0 yx2) (0 : Int32)) (fun t => match t with | .inl () => some (1 : Int32) | .inr () => some (0 : Int32))) = some rr := h
  refine lv_iconst (v := (0 : Int32)) hx hb dX3_earlierBeginsLike_0 (by decide) ?_
  refine lv_istore_n (lv' := [(3, .int (0 : Int32)), (0, .ref (ad ya0)), (1, .int yx1), (2, .int yx2)]) hx hb dX3_earlierBeginsLike_1 rfl hl (by decide) rfl (fun ls hl => ?_)
  obtain ⟨yt2, hlp, h⟩ := z_brx h
  obtain ⟨yn2, hlp⟩ := z_lpx hlp
  have hE26 : ∀  (H : Heap) (locs : List Loc) (ls : Array Slot), (.inl ()) = yt2 → va_P D vwCl (WC G ad yd) H → va_S A s.heap H locs → lv_has ls 4 [] → W p l e (z_rm 1 23) s m args below meth c H locs 0 0 Q (F0 m 26 ls []) := by
    intro  H locs ls et hP hS hl
    subst et
    have h : (some (1 : Int32)) = some rr := h
    refine lv_iconst (v := (1 : Int32)) hx hb dX3_earlierBeginsLike_26 (by decide) ?_
    exact hRet _ _ _ _ _ _ hP hS (Or.inr rfl) (z_pair h) dX3_earlierBeginsLike_27
  have hE34 : ∀  (H : Heap) (locs : List Loc) (ls : Array Slot), (.inr ()) = yt2 → va_P D vwCl (WC G ad yd) H → va_S A s.heap H locs → lv_has ls 4 [] → W p l e (z_rm 1 23) s m args below meth c H locs 0 0 Q (F0 m 34 ls []) := by
    intro  H locs ls et hP hS hl
    subst et
    have h : (some (0 : Int32)) = some rr := h
    refine lv_iconst (v := (0 : Int32)) hx hb dX3_earlierBeginsLike_34 (by decide) ?_
    exact hRet _ _ _ _ _ _ hP hS (Or.inl rfl) (z_pair h) dX3_earlierBeginsLike_35
  have hL2 : ∀ (n : Nat) (yv1 : Int32) (H : Heap) (locs : List Loc) (ls : Array Slot), z_it (bX3_earlierBeginsLike_2 yx1 yd ya0 yx2) n yv1 = some yt2 → va_P D vwCl (WC G ad yd) H → va_S A s.heap H locs → lv_has ls 4 [(0, .ref (ad ya0)), (1, .int yx1), (2, .int yx2), (3, .int yv1)] → W p l e (z_rm 1 23) s m args below meth c H locs 0 0 Q (F0 m 2 ls []) := by
    intro n
    induction n with
    | zero => intro yv1 H locs ls hn; exact z_it0 hn
    | succ n ih =>
      intro yv1 H locs ls hn hP hS hl
      obtain ⟨yq2, h, hq1, hq2⟩ := z_itx hn
      have h : (zif (yx1 ≤ yv1) (some (.inr (.inr ()))) (z_gd (z_in yv1 5) (z_gd (z_in yx1 5) (z_br (fX2_beginsLike yd ((ya0 + 8) + 4 * (z_ix yv1)) ((ya0 + 8) + 4 * (z_ix yx1)) yx2) fun yr2 => zif (yr2 = 0) (z_nm (yv1 + (1 : Int32)) fun yv3 => some (.inl yv3)) (some (.inr (.inl ()))))))) = some yq2 := h
      refine lv_iload_n hx hb dX3_earlierBeginsLike_2 rfl (lv_at hl 3 rfl) ?_
      refine lv_iload_n hx hb dX3_earlierBeginsLike_3 rfl (lv_at hl 1 rfl) ?_
      refine lv_icmp_ge (tgt := 34) hx hb dX3_earlierBeginsLike_4 (by decide) (fun yc4 => ?_) (fun yc4 => ?_)
      · have h := z_ifp yc4 h
        exact hE34  _ _ _ (hq2 _ (z_sm h).symm) hP hS (lv_sub hl [] rfl)
      · have h := z_ifn yc4 h
        refine lv_aload_n hx hb dX3_earlierBeginsLike_7 rfl (lv_at hl 0 rfl) ?_
        refine gt_X3_1 hx hb hts hown hK hP yh0 (hts _ wl_1_115) dX3_earlierBeginsLike_8 ?_
        refine lv_iload_n hx hb dX3_earlierBeginsLike_11 rfl (lv_at hl 3 rfl) ?_
        obtain ⟨yg12, h⟩ := z_gi h
        refine rl_P hx hb hK hP yh0 yg12 dX3_earlierBeginsLike_12 ?_
        refine lv_aload_n hx hb dX3_earlierBeginsLike_13 rfl (lv_at hl 0 rfl) ?_
        refine gt_X3_1 hx hb hts hown hK hP yh0 (hts _ wl_1_115) dX3_earlierBeginsLike_14 ?_
        refine lv_iload_n hx hb dX3_earlierBeginsLike_17 rfl (lv_at hl 1 rfl) ?_
        obtain ⟨yg18, h⟩ := z_gi h
        refine rl_P hx hb hK hP yh0 yg18 dX3_earlierBeginsLike_18 ?_
        refine lv_iload_n hx hb dX3_earlierBeginsLike_19 rfl (lv_at hl 2 rfl) ?_
        obtain ⟨yr2, yhc20, h⟩ := z_brx h
        refine z_kz (z_rV (As := [.ref (ad ((ya0 + 8) + 4 * (z_ix yx1))), .int yx2]) (rest := []) ⟨hx, hb, hml, hown, hts⟩ hK hP (w_X2 (pa_st yh0 yg12)) rfl (kX2_beginsLike hI (pa_st yh0 yg12) (pa_st yh0 yg18) yhc20) giX3_67 ⟨rfl, rfl⟩ ndX2_beginsLike ⟨Nat.le_of_ble_eq_true rfl, Nat.le_of_ble_eq_true rfl⟩ rfl hl.1 rfl (Nat.le_of_ble_eq_true rfl) ⟨Nat.le_refl _, Nat.le_refl _⟩ dX3_earlierBeginsLike_20) hS (fun H locs z_yr2 hP hS => ?_)
        refine lv_if_eq (tgt := 28) hx hb dX3_earlierBeginsLike_23 (by decide) (fun yc23 => ?_) (fun yc23 => ?_)
        · have h := z_ifp yc23 h
          obtain ⟨yv3, e_yv3, h⟩ := z_nmx h
          refine lv_iinc (v := yv3) (lv' := [(3, .int yv3), (0, .ref (ad ya0)), (1, .int yx1), (2, .int yx2)]) hx hb dX3_earlierBeginsLike_28 hl (k := 3) rfl (by rw [e_yv3]; rfl) (by decide) rfl (fun ls hl => ?_)
          refine lv_goto (tgt := 2) hx hb dX3_earlierBeginsLike_31 (by decide) ?_
          exact ih _ _ _ _ (hq1 _ (z_sm h).symm) hP hS (lv_sub hl [1, 2, 3, 0] rfl)
        · have h := z_ifn yc23 h
          exact hE26  _ _ _ (hq2 _ (z_sm h).symm) hP hS (lv_sub hl [] rfl)
  exact hL2 yn2 _ _ _ _ hlp hP hS (lv_sub hl [1, 2, 3, 0] rfl)
noncomputable def jX3_differentPrefixes_39 (yv4 : Int32) (yv6 : Int32) : Option ((Int32 × Int32) ⊕ (Int32)) :=
  z_nm (yv4 + (1 : Int32)) fun yv7 => some (.inl (yv6, yv7))
noncomputable def bX3_differentPrefixes_14 (yv2 : Int32) (yd : Dt) (ya0 : Nat) (s : Int32 × Int32) : Option ((Int32 × Int32) ⊕ (Int32)) := match s with
  | (yv3, yv4) => z_gd (z_in yv2 5) (zif ((yd.1 ((ya0 + 8) + 4 * (z_ix yv2)) 3) < yv4) (some (.inr yv3)) (z_br (fX3_earlierBeginsLike yd ya0 yv2 yv4) fun yr5 => zif (yr5 = 0) (z_nm (yv3 + (1 : Int32)) fun yv8 => jX3_differentPrefixes_39 yv4 yv8) (jX3_differentPrefixes_39 yv4 yv3)))
noncomputable def bX3_differentPrefixes_4 (yd : Dt) (ya0 : Nat) (s : Int32 × Int32) : Option ((Int32 × Int32) ⊕ (Int32)) := match s with
  | (yv1, yv2) => zif ((yd.1 ya0 2) ≤ yv2) (some (.inr yv1)) (z_br (z_lp (bX3_differentPrefixes_14 yv2 yd ya0) (yv1, (1 : Int32))) (fun t => match t with | yv9 => z_nm (yv2 + (1 : Int32)) fun yv10 => some (.inl (yv9, yv10))))
noncomputable def fX3_differentPrefixes (yd : Dt) (ya0 : Nat) : Option Int32 :=
  z_br (z_lp (bX3_differentPrefixes_4 yd ya0) ((0 : Int32), (0 : Int32))) (fun t => match t with | yv11 => some yv11)
set_option maxHeartbeats 4000000 in
set_option maxRecDepth 100000 in
theorem kX3_differentPrefixes {l : Launch} {D : va_G} {G : z_G} {ad : Nat → Nat} {A : Nat → Prop} (hI : ∀ d, va_D A (WC G ad d)) {yd : Dt} {ya0 : Nat} (yh0 : isSt ya0) {rr : Int32} (h : fX3_differentPrefixes yd ya0 = some rr) : z_Mi l D G A (WC G ad) yX3_differentPrefixes cX3_differentPrefixes 4 (z_rm 2 46) yd [.ref (ad ya0)] rr yd := by
  refine z_ofi (by decide) (Nat.le_of_ble_eq_true rfl) fun p e s m args below meth c Q hx hb hml hown hts hK hP hRet ls hl => ?_
  have hS : va_S A s.heap s.heap [] := va_S.rf
  have hl : lv_has ls 4 [(0, .ref (ad ya0))] := hl
  have h : (z_br (z_lp (bX3_differentPrefixes_4 yd ya0) ((0 : Int32), (0 : Int32))) (fun t => match t with | yv11 => some yv11)) = some rr := h
  refine lv_iconst (v := (0 : Int32)) hx hb dX3_differentPrefixes_0 (by decide) ?_
  refine lv_istore_n (lv' := [(1, .int (0 : Int32)), (0, .ref (ad ya0))]) hx hb dX3_differentPrefixes_1 rfl hl (by decide) rfl (fun ls hl => ?_)
  refine lv_iconst (v := (0 : Int32)) hx hb dX3_differentPrefixes_2 (by decide) ?_
  refine lv_istore_n (lv' := [(2, .int (0 : Int32)), (1, .int (0 : Int32)), (0, .ref (ad ya0))]) hx hb dX3_differentPrefixes_3 rfl hl (by decide) rfl (fun ls hl => ?_)
  obtain ⟨yt4, hlp, h⟩ := z_brx h
  obtain ⟨yn4, hlp⟩ := z_lpx hlp
  have hE51 : ∀ (yv11 : Int32) (H : Heap) (locs : List Loc) (ls : Array Slot), yv11 = yt4 → va_P D vwCl (WC G ad yd) H → va_S A s.heap H locs → lv_has ls 4 [(1, .int yv11)] → W p l e (z_rm 2 46) s m args below meth c H locs 0 0 Q (F0 m 51 ls []) := by
    intro yv11 H locs ls et hP hS hl
    subst et
    have h : (some yv11) = some rr := h
    refine lv_iload_n hx hb dX3_differentPrefixes_51 rfl (lv_at hl 0 rfl) ?_
    exact hRet _ _ _ _ _ _ hP hS (z_pair h) dX3_differentPrefixes_52
  have hL4 : ∀ (n : Nat) (yv1 : Int32) (yv2 : Int32) (H : Heap) (locs : List Loc) (ls : Array Slot), z_it (bX3_differentPrefixes_4 yd ya0) n (yv1, yv2) = some yt4 → va_P D vwCl (WC G ad yd) H → va_S A s.heap H locs → lv_has ls 4 [(0, .ref (ad ya0)), (1, .int yv1), (2, .int yv2)] → W p l e (z_rm 2 46) s m args below meth c H locs 0 0 Q (F0 m 4 ls []) := by
    intro n
    induction n with
    | zero => intro yv1 yv2 H locs ls hn; exact z_it0 hn
    | succ n ih =>
      intro yv1 yv2 H locs ls hn hP hS hl
      obtain ⟨yq4, h, hq1, hq2⟩ := z_itx hn
      have h : (zif ((yd.1 ya0 2) ≤ yv2) (some (.inr yv1)) (z_br (z_lp (bX3_differentPrefixes_14 yv2 yd ya0) (yv1, (1 : Int32))) (fun t => match t with | yv9 => z_nm (yv2 + (1 : Int32)) fun yv10 => some (.inl (yv9, yv10))))) = some yq4 := h
      refine lv_iload_n hx hb dX3_differentPrefixes_4 rfl (lv_at hl 2 rfl) ?_
      refine lv_aload_n hx hb dX3_differentPrefixes_5 rfl (lv_at hl 0 rfl) ?_
      refine gt_X3_2 hx hb hts hown hK hP yh0 (hts _ wl_1_117) dX3_differentPrefixes_6 ?_
      refine lv_icmp_ge (tgt := 51) hx hb dX3_differentPrefixes_9 (by decide) (fun yc9 => ?_) (fun yc9 => ?_)
      · have h := z_ifp yc9 h
        exact hE51 _ _ _ _ (hq2 _ (z_sm h).symm) hP hS (lv_sub hl [1] rfl)
      · have h := z_ifn yc9 h
        refine lv_iconst (v := (1 : Int32)) hx hb dX3_differentPrefixes_12 (by decide) ?_
        refine lv_istore_n (lv' := [(3, .int (1 : Int32)), (0, .ref (ad ya0)), (1, .int yv1), (2, .int yv2)]) hx hb dX3_differentPrefixes_13 rfl hl (by decide) rfl (fun ls hl => ?_)
        obtain ⟨yt14, hlp, h⟩ := z_brx h
        obtain ⟨yn14, hlp⟩ := z_lpx hlp
        have hE45 : ∀ (yv9 : Int32) (H : Heap) (locs : List Loc) (ls : Array Slot), yv9 = yt14 → va_P D vwCl (WC G ad yd) H → va_S A s.heap H locs → lv_has ls 4 [(0, .ref (ad ya0)), (1, .int yv9), (2, .int yv2)] → W p l e (z_rm 2 46) s m args below meth c H locs 0 0 Q (F0 m 45 ls []) := by
          intro yv9 H locs ls et hP hS hl
          subst et
          have h : (z_nm (yv2 + (1 : Int32)) fun yv10 => some (.inl (yv9, yv10))) = some yq4 := h
          obtain ⟨yv10, e_yv10, h⟩ := z_nmx h
          refine lv_iinc (v := yv10) (lv' := [(2, .int yv10), (0, .ref (ad ya0)), (1, .int yv9)]) hx hb dX3_differentPrefixes_45 hl (k := 2) rfl (by rw [e_yv10]; rfl) (by decide) rfl (fun ls hl => ?_)
          refine lv_goto (tgt := 4) hx hb dX3_differentPrefixes_48 (by decide) ?_
          exact ih _ _ _ _ _ (hq1 _ (z_sm h).symm) hP hS (lv_sub hl [1, 2, 0] rfl)
        have hL14 : ∀ (n : Nat) (yv3 : Int32) (yv4 : Int32) (H : Heap) (locs : List Loc) (ls : Array Slot), z_it (bX3_differentPrefixes_14 yv2 yd ya0) n (yv3, yv4) = some yt14 → va_P D vwCl (WC G ad yd) H → va_S A s.heap H locs → lv_has ls 4 [(0, .ref (ad ya0)), (1, .int yv3), (2, .int yv2), (3, .int yv4)] → W p l e (z_rm 2 46) s m args below meth c H locs 0 0 Q (F0 m 14 ls []) := by
          intro n
          induction n with
          | zero => intro yv3 yv4 H locs ls hn; exact z_it0 hn
          | succ n ih =>
            intro yv3 yv4 H locs ls hn hP hS hl
            obtain ⟨yq14, h, hq1, hq2⟩ := z_itx hn
            have h : (z_gd (z_in yv2 5) (zif ((yd.1 ((ya0 + 8) + 4 * (z_ix yv2)) 3) < yv4) (some (.inr yv3)) (z_br (fX3_earlierBeginsLike yd ya0 yv2 yv4) fun yr5 => zif (yr5 = 0) (z_nm (yv3 + (1 : Int32)) fun yv8 => jX3_differentPrefixes_39 yv4 yv8) (jX3_differentPrefixes_39 yv4 yv3)))) = some yq14 := h
            refine lv_iload_n hx hb dX3_differentPrefixes_14 rfl (lv_at hl 3 rfl) ?_
            refine lv_aload_n hx hb dX3_differentPrefixes_15 rfl (lv_at hl 0 rfl) ?_
            refine gt_X3_1 hx hb hts hown hK hP yh0 (hts _ wl_1_115) dX3_differentPrefixes_16 ?_
            refine lv_iload_n hx hb dX3_differentPrefixes_19 rfl (lv_at hl 2 rfl) ?_
            obtain ⟨yg20, h⟩ := z_gi h
            refine rl_P hx hb hK hP yh0 yg20 dX3_differentPrefixes_20 ?_
            refine gt_X2_3 hx hb hts hown hK hP (pa_st yh0 yg20) (hts _ wl_1_90) dX3_differentPrefixes_21 ?_
            refine lv_icmp_gt (tgt := 45) hx hb dX3_differentPrefixes_24 (by decide) (fun yc24 => ?_) (fun yc24 => ?_)
            · have h := z_ifp yc24 h
              exact hE45 _ _ _ _ (hq2 _ (z_sm h).symm) hP hS (lv_sub hl [0, 1, 2] rfl)
            · have h := z_ifn yc24 h
              refine lv_aload_n hx hb dX3_differentPrefixes_27 rfl (lv_at hl 0 rfl) ?_
              refine lv_iload_n hx hb dX3_differentPrefixes_28 rfl (lv_at hl 2 rfl) ?_
              refine lv_iload_n hx hb dX3_differentPrefixes_29 rfl (lv_at hl 3 rfl) ?_
              obtain ⟨yr5, yhc30, h⟩ := z_brx h
              refine z_kz (z_rV (As := [.int yv2, .int yv4]) (rest := []) ⟨hx, hb, hml, hown, hts⟩ hK hP (w_X3 yh0) rfl (kX3_earlierBeginsLike hI yh0 yhc30) giX3_63 ⟨rfl, rfl⟩ ndX3_earlierBeginsLike ⟨Nat.le_of_ble_eq_true rfl, Nat.le_of_ble_eq_true rfl⟩ rfl hl.1 rfl (Nat.le_of_ble_eq_true rfl) ⟨Nat.le_refl _, Nat.le_refl _⟩ dX3_differentPrefixes_30) hS (fun H locs z_yr5 hP hS => ?_)
              have hJ39 : ∀ (yv6 : Int32) (H : Heap) (locs : List Loc) (ls : Array Slot), jX3_differentPrefixes_39 yv4 yv6 = some yq14 → va_P D vwCl (WC G ad yd) H → va_S A s.heap H locs → lv_has ls 4 [(0, .ref (ad ya0)), (1, .int yv6), (2, .int yv2), (3, .int yv4)] → W p l e (z_rm 2 46) s m args below meth c H locs 0 0 Q (F0 m 39 ls []) := by
                intro yv6 H locs ls h hP hS hl
                have h : (z_nm (yv4 + (1 : Int32)) fun yv7 => some (.inl (yv6, yv7))) = some yq14 := h
                obtain ⟨yv7, e_yv7, h⟩ := z_nmx h
                refine lv_iinc (v := yv7) (lv' := [(3, .int yv7), (0, .ref (ad ya0)), (1, .int yv6), (2, .int yv2)]) hx hb dX3_differentPrefixes_39 hl (k := 3) rfl (by rw [e_yv7]; rfl) (by decide) rfl (fun ls hl => ?_)
                refine lv_goto (tgt := 14) hx hb dX3_differentPrefixes_42 (by decide) ?_
                exact ih _ _ _ _ _ (hq1 _ (z_sm h).symm) hP hS (lv_sub hl [1, 2, 3, 0] rfl)
              refine lv_if_ne (tgt := 39) hx hb dX3_differentPrefixes_33 (by decide) (fun yc33 => ?_) (fun yc33 => ?_)
              · have h := z_ifn yc33 h
                exact hJ39 _ _ _ _ h hP hS (lv_sub hl [0, 1, 2, 3] rfl)
              · have h := z_ifp yc33 h
                obtain ⟨yv8, e_yv8, h⟩ := z_nmx h
                refine lv_iinc (v := yv8) (lv' := [(1, .int yv8), (0, .ref (ad ya0)), (2, .int yv2), (3, .int yv4)]) hx hb dX3_differentPrefixes_36 hl (k := 1) rfl (by rw [e_yv8]; rfl) (by decide) rfl (fun ls hl => ?_)
                exact hJ39 _ _ _ _ h hP hS (lv_sub hl [1, 0, 2, 3] rfl)
        exact hL14 yn14 _ _ _ _ _ hlp hP hS (lv_sub hl [1, 2, 3, 0] rfl)
  exact hL4 yn4 _ _ _ _ _ hlp hP hS (lv_sub hl [2, 1, 0] rfl)
