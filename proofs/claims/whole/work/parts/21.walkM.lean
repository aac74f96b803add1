noncomputable def bX6_readText_47 (s : Int32 × Dt) : Option ((Int32 × Dt) ⊕ ((Int32 × Dt) ⊕ (Dt))) := match s with
  | (yv6, yd7) => zif ((yd7.1 0 1) ≤ yv6) (some (.inr (.inr yd7))) (z_gd (z_in yv6 99) (z_bd (fX6_take yd7 (yd7.1 1 (z_ix yv6))) fun yr8 yd9 => zif (yr8 = 0) (some (.inr (.inl (yv6, yd9)))) (z_nm (yv6 + (1 : Int32)) fun yv10 => some (.inl (yv10, yd9)))))
noncomputable def fX6_readText (yd : Dt) : Option (Int32 × Dt) :=
  z_nm (z_st yd 0 18 (0 : Int32)) fun yd1 => z_nm (z_st yd1 0 19 (0 : Int32)) fun yd2 => z_nm (z_st yd2 0 22 (0 : Int32)) fun yd3 => z_nm (z_st yd3 0 24 (0 : Int32)) fun yd4 => z_nm (z_st yd4 0 25 (0 : Int32)) fun yd5 => zif ((yd5.1 0 1) = 0) (some ((0 : Int32), yd5)) (zif ((yd5.1 1 (z_ix (0 : Int32))) = (68 : Int32)) (z_br (z_lp (bX6_readText_47) ((1 : Int32), yd5)) (fun t => match t with | .inl (yv11, yd12) => some (yv11, yd12) | .inr yd13 => zif ((yd13.1 0 18) = 0) (some ((-9 : Int32), yd13)) (some ((yd13.1 0 1), yd13)))) (some ((0 : Int32), yd5)))
set_option maxHeartbeats 4000000 in
set_option maxRecDepth 100000 in
theorem kX6_readText {l : Launch} {D : va_G} {G : z_G} {ad : Nat → Nat} {A : Nat → Prop} (hI : ∀ d, va_D A (WM G ad d)) {yd : Dt}   {rr : Int32} {dd : Dt} (h : fX6_readText yd = some (rr, dd)) : z_Mi l D G A (WM G ad) yX6_readText cX6_readText 2 (z_rm 4 90) yd [.ref (ad 0)] rr dd := by
  refine z_ofi (by decide) (Nat.le_of_ble_eq_true rfl) fun p e s m args below meth c Q hx hb hml hown hts hK hP hRet ls hl => ?_
  have hS : va_S A s.heap s.heap [] := va_S.rf
  have hl : lv_has ls 2 [(0, .ref (ad 0))] := hl
  have h : (z_nm (z_st yd 0 18 (0 : Int32)) fun yd1 => z_nm (z_st yd1 0 19 (0 : Int32)) fun yd2 => z_nm (z_st yd2 0 22 (0 : Int32)) fun yd3 => z_nm (z_st yd3 0 24 (0 : Int32)) fun yd4 => z_nm (z_st yd4 0 25 (0 : Int32)) fun yd5 => zif ((yd5.1 0 1) = 0) (some ((0 : Int32), yd5)) (zif ((yd5.1 1 (z_ix (0 : Int32))) = (68 : Int32)) (z_br (z_lp (bX6_readText_47) ((1 : Int32), yd5)) (fun t => match t with | .inl (yv11, yd12) => some (yv11, yd12) | .inr yd13 => zif ((yd13.1 0 18) = 0) (some ((-9 : Int32), yd13)) (some ((yd13.1 0 1), yd13)))) (some ((0 : Int32), yd5)))) = some (rr, dd) := h
  refine lv_aload_n hx hb dX6_readText_0 rfl (lv_at hl 0 rfl) ?_
  refine lv_iconst (v := (0 : Int32)) hx hb dX6_readText_1 (by decide) ?_
  refine pt_X6_18 hx hb hts hown hK hP hI hS (hts _ wl_3_152) dX6_readText_2 (fun H locs yd1 e_yd1 hP hS => ?_)
  have h := z_nma e_yd1 h
  refine lv_aload_n hx hb dX6_readText_5 rfl (lv_at hl 0 rfl) ?_
  refine lv_iconst (v := (0 : Int32)) hx hb dX6_readText_6 (by decide) ?_
  refine pt_X6_19 hx hb hts hown hK hP hI hS (hts _ wl_3_153) dX6_readText_7 (fun H locs yd2 e_yd2 hP hS => ?_)
  have h := z_nma e_yd2 h
  refine lv_aload_n hx hb dX6_readText_10 rfl (lv_at hl 0 rfl) ?_
  refine lv_iconst (v := (0 : Int32)) hx hb dX6_readText_11 (by decide) ?_
  refine pt_X6_22 hx hb hts hown hK hP hI hS (hts _ wl_3_156) dX6_readText_12 (fun H locs yd3 e_yd3 hP hS => ?_)
  have h := z_nma e_yd3 h
  refine lv_aload_n hx hb dX6_readText_15 rfl (lv_at hl 0 rfl) ?_
  refine lv_iconst (v := (0 : Int32)) hx hb dX6_readText_16 (by decide) ?_
  refine pt_X6_24 hx hb hts hown hK hP hI hS (hts _ wl_3_158) dX6_readText_17 (fun H locs yd4 e_yd4 hP hS => ?_)
  have h := z_nma e_yd4 h
  refine lv_aload_n hx hb dX6_readText_20 rfl (lv_at hl 0 rfl) ?_
  refine lv_iconst (v := (0 : Int32)) hx hb dX6_readText_21 (by decide) ?_
  refine pt_X6_25 hx hb hts hown hK hP hI hS (hts _ wl_3_159) dX6_readText_22 (fun H locs yd5 e_yd5 hP hS => ?_)
  have h := z_nma e_yd5 h
  refine lv_aload_n hx hb dX6_readText_25 rfl (lv_at hl 0 rfl) ?_
  refine gt_X6_1 hx hb hts hown hK hP (hts _ wl_3_135) dX6_readText_26 ?_
  refine lv_if_eq (tgt := 43) hx hb dX6_readText_29 (by decide) (fun yc29 => ?_) (fun yc29 => ?_)
  · have h := z_ifp yc29 h
    refine lv_iconst (v := (0 : Int32)) hx hb dX6_readText_43 (by decide) ?_
    exact hRet _ _ _ _ _ _ hP hS h dX6_readText_44
  · have h := z_ifn yc29 h
    refine lv_aload_n hx hb dX6_readText_32 rfl (lv_at hl 0 rfl) ?_
    refine gt_X6_0 hx hb hts hown hK hP (hts _ wl_3_134) dX6_readText_33 ?_
    refine lv_iconst (v := (0 : Int32)) hx hb dX6_readText_36 (by decide) ?_
    refine al_M hx hb hK hP rfl (by decide) (z_li (by decide) : vp_in (0 : Int32) 99) dX6_readText_37 ?_
    refine lv_bipush (v := (68 : Int32)) hx hb dX6_readText_38 (by decide) ?_
    refine lv_icmp_eq (tgt := 45) hx hb dX6_readText_40 (by decide) (fun yc40 => ?_) (fun yc40 => ?_)
    · have h := z_ifp yc40 h
      refine lv_iconst (v := (1 : Int32)) hx hb dX6_readText_45 (by decide) ?_
      refine lv_istore_n (lv' := [(1, .int (1 : Int32)), (0, .ref (ad 0))]) hx hb dX6_readText_46 rfl hl (by decide) rfl (fun ls hl => ?_)
      obtain ⟨yt47, hlp, h⟩ := z_brx h
      obtain ⟨yn47, hlp⟩ := z_lpx hlp
      have hE68 : ∀ (yv11 : Int32) (yd12 : Dt) (H : Heap) (locs : List Loc) (ls : Array Slot), (.inl (yv11, yd12)) = yt47 → va_P D vwCl (WM G ad yd12) H → va_S A s.heap H locs → lv_has ls 2 [(1, .int yv11)] → W p l e (z_rm 4 90) s m args below meth c H locs 0 0 Q (F0 m 68 ls []) := by
        intro yv11 yd12 H locs ls et hP hS hl
        subst et
        have h : (some (yv11, yd12)) = some (rr, dd) := h
        refine lv_iload_n hx hb dX6_readText_68 rfl (lv_at hl 0 rfl) ?_
        exact hRet _ _ _ _ _ _ hP hS h dX6_readText_69
      have hE76 : ∀ (yd13 : Dt) (H : Heap) (locs : List Loc) (ls : Array Slot), (.inr yd13) = yt47 → va_P D vwCl (WM G ad yd13) H → va_S A s.heap H locs → lv_has ls 2 [(0, .ref (ad 0))] → W p l e (z_rm 4 90) s m args below meth c H locs 0 0 Q (F0 m 76 ls []) := by
        intro yd13 H locs ls et hP hS hl
        subst et
        have h : (zif ((yd13.1 0 18) = 0) (some ((-9 : Int32), yd13)) (some ((yd13.1 0 1), yd13))) = some (rr, dd) := h
        refine lv_aload_n hx hb dX6_readText_76 rfl (lv_at hl 0 rfl) ?_
        refine gt_X6_18 hx hb hts hown hK hP (hts _ wl_3_152) dX6_readText_77 ?_
        refine lv_if_ne (tgt := 88) hx hb dX6_readText_80 (by decide) (fun yc80 => ?_) (fun yc80 => ?_)
        · have h := z_ifn yc80 h
          refine lv_aload_n hx hb dX6_readText_88 rfl (lv_at hl 0 rfl) ?_
          refine gt_X6_1 hx hb hts hown hK hP (hts _ wl_3_135) dX6_readText_89 ?_
          exact hRet _ _ _ _ _ _ hP hS h dX6_readText_92
        · have h := z_ifp yc80 h
          refine lv_bipush (v := (-9 : Int32)) hx hb dX6_readText_83 (by decide) ?_
          refine lv_goto (tgt := 92) hx hb dX6_readText_85 (by decide) ?_
          exact hRet _ _ _ _ _ _ hP hS h dX6_readText_92
      have hL47 : ∀ (n : Nat) (yv6 : Int32) (yd7 : Dt) (H : Heap) (locs : List Loc) (ls : Array Slot), z_it (bX6_readText_47) n (yv6, yd7) = some yt47 → va_P D vwCl (WM G ad yd7) H → va_S A s.heap H locs → lv_has ls 2 [(0, .ref (ad 0)), (1, .int yv6)] → W p l e (z_rm 4 90) s m args below meth c H locs 0 0 Q (F0 m 47 ls []) := by
        intro n
        induction n with
        | zero => intro yv6 yd7 H locs ls hn; exact z_it0 hn
        | succ n ih =>
          intro yv6 yd7 H locs ls hn hP hS hl
          obtain ⟨yq47, h, hq1, hq2⟩ := z_itx hn
          have h : (zif ((yd7.1 0 1) ≤ yv6) (some (.inr (.inr yd7))) (z_gd (z_in yv6 99) (z_bd (fX6_take yd7 (yd7.1 1 (z_ix yv6))) fun yr8 yd9 => zif (yr8 = 0) (some (.inr (.inl (yv6, yd9)))) (z_nm (yv6 + (1 : Int32)) fun yv10 => some (.inl (yv10, yd9)))))) = some yq47 := h
          refine lv_iload_n hx hb dX6_readText_47 rfl (lv_at hl 1 rfl) ?_
          refine lv_aload_n hx hb dX6_readText_48 rfl (lv_at hl 0 rfl) ?_
          refine gt_X6_1 hx hb hts hown hK hP (hts _ wl_3_135) dX6_readText_49 ?_
          refine lv_icmp_ge (tgt := 76) hx hb dX6_readText_52 (by decide) (fun yc52 => ?_) (fun yc52 => ?_)
          · have h := z_ifp yc52 h
            exact hE76 _ _ _ _ (hq2 _ (z_sm h).symm) hP hS (lv_sub hl [0] rfl)
          · have h := z_ifn yc52 h
            refine lv_aload_n hx hb dX6_readText_55 rfl (lv_at hl 0 rfl) ?_
            refine lv_aload_n hx hb dX6_readText_56 rfl (lv_at hl 0 rfl) ?_
            refine gt_X6_0 hx hb hts hown hK hP (hts _ wl_3_134) dX6_readText_57 ?_
            refine lv_iload_n hx hb dX6_readText_60 rfl (lv_at hl 1 rfl) ?_
            obtain ⟨yg61, h⟩ := z_gi h
            refine al_M hx hb hK hP rfl (by decide) yg61 dX6_readText_61 ?_
            obtain ⟨yr8, yd9, yhc62, h⟩ := z_bdx h
            refine z_kz (z_rV (As := [.int (yd7.1 1 (z_ix yv6))]) (rest := []) ⟨hx, hb, hml, hown, hts⟩ hK hP w_X6 rfl (kX6_take hI yhc62) giX6_111 ⟨rfl, rfl⟩ ndX6_take ⟨Nat.le_of_ble_eq_true rfl, Nat.le_of_ble_eq_true rfl⟩ rfl hl.1 rfl (Nat.le_of_ble_eq_true rfl) ⟨Nat.le_refl _, Nat.le_refl _⟩ dX6_readText_62) hS (fun H locs z_yr8 hP hS => ?_)
            refine lv_if_ne (tgt := 70) hx hb dX6_readText_65 (by decide) (fun yc65 => ?_) (fun yc65 => ?_)
            · have h := z_ifn yc65 h
              obtain ⟨yv10, e_yv10, h⟩ := z_nmx h
              refine lv_iinc (v := yv10) (lv' := [(1, .int yv10), (0, .ref (ad 0))]) hx hb dX6_readText_70 hl (k := 1) rfl (by rw [e_yv10]; rfl) (by decide) rfl (fun ls hl => ?_)
              refine lv_goto (tgt := 47) hx hb dX6_readText_73 (by decide) ?_
              exact ih _ _ _ _ _ (hq1 _ (z_sm h).symm) hP hS (lv_sub hl [1, 0] rfl)
            · have h := z_ifp yc65 h
              exact hE68 _ _ _ _ _ (hq2 _ (z_sm h).symm) hP hS (lv_sub hl [1] rfl)
      exact hL47 yn47 _ _ _ _ _ hlp hP hS (lv_sub hl [1, 0] rfl)
    · have h := z_ifn yc40 h
      refine lv_iconst (v := (0 : Int32)) hx hb dX6_readText_43 (by decide) ?_
      exact hRet _ _ _ _ _ _ hP hS h dX6_readText_44
noncomputable def fX6_fault (yd : Dt) : Option (Int32 × Dt) :=
  z_bd (fX6_readText yd) fun yr1 yd2 => some (yr1, yd2)
set_option maxHeartbeats 4000000 in
set_option maxRecDepth 100000 in
theorem kX6_fault {l : Launch} {D : va_G} {G : z_G} {ad : Nat → Nat} {A : Nat → Prop} (hI : ∀ d, va_D A (WM G ad d)) {yd : Dt}   {rr : Int32} {dd : Dt} (h : fX6_fault yd = some (rr, dd)) : z_Mi l D G A (WM G ad) yX6_fault cX6_fault 1 (z_rm 5 111) yd [.ref (ad 0)] rr dd := by
  refine z_ofi (by decide) (Nat.le_of_ble_eq_true rfl) fun p e s m args below meth c Q hx hb hml hown hts hK hP hRet ls hl => ?_
  have hS : va_S A s.heap s.heap [] := va_S.rf
  have hl : lv_has ls 1 [(0, .ref (ad 0))] := hl
  have h : (z_bd (fX6_readText yd) fun yr1 yd2 => some (yr1, yd2)) = some (rr, dd) := h
  refine lv_aload_n hx hb dX6_fault_0 rfl (lv_at hl 0 rfl) ?_
  obtain ⟨yr1, yd2, yhc1, h⟩ := z_bdx h
  refine z_ki (z_rV (As := []) (rest := []) ⟨hx, hb, hml, hown, hts⟩ hK hP w_X6 rfl (kX6_readText hI yhc1) giX6_114 ⟨rfl, rfl⟩ ndX6_readText ⟨Nat.le_of_ble_eq_true rfl, Nat.le_of_ble_eq_true rfl⟩ rfl hl.1 rfl (Nat.le_of_ble_eq_true rfl) ⟨Nat.le_refl _, Nat.le_refl _⟩ dX6_fault_1) hS (fun H locs hP hS => ?_)
  exact hRet _ _ _ _ _ _ hP hS h dX6_fault_4
noncomputable def jX6_childNames_32 (yv1 : Int32) (yv2 : Int32) (yv3 : Int32) : Option ((Int32 × Int32) ⊕ (Int32)) :=
  z_nm (yv1 ||| yv3) fun yv4 => z_nm (yv2 + (1 : Int32)) fun yv5 => some (.inl (yv4, yv5))
noncomputable def bX6_childNames_4 (yd : Dt) (ya0 : Nat) (yx1 : Int32) (s : Int32 × Int32) : Option ((Int32 × Int32) ⊕ (Int32)) := match s with
  | (yv1, yv2) => zif ((yd.1 ya0 (z_ix (80 : Int32))) ≤ yv2) (some (.inr yv1)) (z_gd (z_in ((20 : Int32) + yv2) 214) (zif ((yd.1 ya0 (z_ix ((20 : Int32) + yv2))) = yx1) (z_gd (z_in yv2 214) (jX6_childNames_32 yv1 yv2 ((1 : Int32) <<< ((yd.1 ya0 (z_ix yv2)) &&& 31)))) (jX6_childNames_32 yv1 yv2 (0 : Int32))))
noncomputable def fX6_childNames (yd : Dt) (ya0 : Nat) (yx1 : Int32) : Option Int32 :=
  z_br (z_lp (bX6_childNames_4 yd ya0 yx1) ((0 : Int32), (1 : Int32))) (fun t => match t with | yv6 => some yv6)
set_option maxHeartbeats 4000000 in
set_option maxRecDepth 100000 in
theorem kX6_childNames {l : Launch} {D : va_G} {G : z_G} {ad : Nat → Nat} {A : Nat → Prop} (hI : ∀ d, va_D A (WM G ad d)) {yd : Dt} {ya0 : Nat} {yx1 : Int32} (yh0 : arM ya0 = 214) {rr : Int32} (h : fX6_childNames yd ya0 yx1 = some rr) : z_Mi l D G A (WM G ad) yX6_childNames cX6_childNames 4 (z_rm 0 0) yd [.ref (ad ya0), .int yx1] rr yd := by
  refine z_ofi (by decide) (Nat.le_of_ble_eq_true rfl) fun p e s m args below meth c Q hx hb hml hown hts hK hP hRet ls hl => ?_
  have hS : va_S A s.heap s.heap [] := va_S.rf
  have hl : lv_has ls 4 [(0, .ref (ad ya0)), (1, .int yx1)] := hl
  have h : (z_br (z_lp (bX6_childNames_4 yd ya0 yx1) ((0 : Int32), (1 : Int32))) (fun t => match t with | yv6 => some yv6)) = some rr := h
  refine lv_iconst (v := (0 : Int32)) hx hb dX6_childNames_0 (by decide) ?_
  refine lv_istore_n (lv' := [(2, .int (0 : Int32)), (0, .ref (ad ya0)), (1, .int yx1)]) hx hb dX6_childNames_1 rfl hl (by decide) rfl (fun ls hl => ?_)
  refine lv_iconst (v := (1 : Int32)) hx hb dX6_childNames_2 (by decide) ?_
  refine lv_istore_n (lv' := [(3, .int (1 : Int32)), (2, .int (0 : Int32)), (0, .ref (ad ya0)), (1, .int yx1)]) hx hb dX6_childNames_3 rfl hl (by decide) rfl (fun ls hl => ?_)
  obtain ⟨yt4, hlp, h⟩ := z_brx h
  obtain ⟨yn4, hlp⟩ := z_lpx hlp
  have hE40 : ∀ (yv6 : Int32) (H : Heap) (locs : List Loc) (ls : Array Slot), yv6 = yt4 → va_P D vwCl (WM G ad yd) H → va_S A s.heap H locs → lv_has ls 4 [(2, .int yv6)] → W p l e (z_rm 0 0) s m args below meth c H locs 0 0 Q (F0 m 40 ls []) := by
    intro yv6 H locs ls et hP hS hl
    subst et
    have h : (some yv6) = some rr := h
    refine lv_iload_n hx hb dX6_childNames_40 rfl (lv_at hl 0 rfl) ?_
    exact hRet _ _ _ _ _ _ hP hS (z_pair h) dX6_childNames_41
  have hL4 : ∀ (n : Nat) (yv1 : Int32) (yv2 : Int32) (H : Heap) (locs : List Loc) (ls : Array Slot), z_it (bX6_childNames_4 yd ya0 yx1) n (yv1, yv2) = some yt4 → va_P D vwCl (WM G ad yd) H → va_S A s.heap H locs → lv_has ls 4 [(0, .ref (ad ya0)), (1, .int yx1), (2, .int yv1), (3, .int yv2)] → W p l e (z_rm 0 0) s m args below meth c H locs 0 0 Q (F0 m 4 ls []) := by
    intro n
    induction n with
    | zero => intro yv1 yv2 H locs ls hn; exact z_it0 hn
    | succ n ih =>
      intro yv1 yv2 H locs ls hn hP hS hl
      obtain ⟨yq4, h, hq1, hq2⟩ := z_itx hn
      have h : (zif ((yd.1 ya0 (z_ix (80 : Int32))) ≤ yv2) (some (.inr yv1)) (z_gd (z_in ((20 : Int32) + yv2) 214) (zif ((yd.1 ya0 (z_ix ((20 : Int32) + yv2))) = yx1) (z_gd (z_in yv2 214) (jX6_childNames_32 yv1 yv2 ((1 : Int32) <<< ((yd.1 ya0 (z_ix yv2)) &&& 31)))) (jX6_childNames_32 yv1 yv2 (0 : Int32))))) = some yq4 := h
      refine lv_iload_n hx hb dX6_childNames_4 rfl (lv_at hl 3 rfl) ?_
      refine lv_aload_n hx hb dX6_childNames_5 rfl (lv_at hl 0 rfl) ?_
      refine lv_bipush (v := (80 : Int32)) hx hb dX6_childNames_6 (by decide) ?_
      refine al_M hx hb hK hP yh0 (by decide) (z_li (by decide) : vp_in (80 : Int32) 214) dX6_childNames_8 ?_
      refine lv_icmp_ge (tgt := 40) hx hb dX6_childNames_9 (by decide) (fun yc9 => ?_) (fun yc9 => ?_)
      · have h := z_ifp yc9 h
        exact hE40 _ _ _ _ (hq2 _ (z_sm h).symm) hP hS (lv_sub hl [2] rfl)
      · have h := z_ifn yc9 h
        refine lv_iload_n hx hb dX6_childNames_12 rfl (lv_at hl 2 rfl) ?_
        refine lv_aload_n hx hb dX6_childNames_13 rfl (lv_at hl 0 rfl) ?_
        refine lv_bipush (v := (20 : Int32)) hx hb dX6_childNames_14 (by decide) ?_
        refine lv_iload_n hx hb dX6_childNames_16 rfl (lv_at hl 3 rfl) ?_
        refine lv_iadd hx hb dX6_childNames_17 ?_
        obtain ⟨yg18, h⟩ := z_gi h
        refine al_M hx hb hK hP yh0 (by decide) yg18 dX6_childNames_18 ?_
        refine lv_iload_n hx hb dX6_childNames_19 rfl (lv_at hl 1 rfl) ?_
        have hJ32 : ∀ (yv3 : Int32) (H : Heap) (locs : List Loc) (ls : Array Slot), jX6_childNames_32 yv1 yv2 yv3 = some yq4 → va_P D vwCl (WM G ad yd) H → va_S A s.heap H locs → lv_has ls 4 [(0, .ref (ad ya0)), (1, .int yx1), (3, .int yv2)] → W p l e (z_rm 0 0) s m args below meth c H locs 0 0 Q (F0 m 32 ls [.int yv3, .int yv1]) := by
          intro yv3 H locs ls h hP hS hl
          have h : (z_nm (yv1 ||| yv3) fun yv4 => z_nm (yv2 + (1 : Int32)) fun yv5 => some (.inl (yv4, yv5))) = some yq4 := h
          refine lv_ior hx hb dX6_childNames_32 ?_
          refine lv_topi (fun yv4 e_yv4 => ?_)
          have h := z_nma e_yv4 h
          refine lv_istore_n (lv' := [(2, .int yv4), (0, .ref (ad ya0)), (1, .int yx1), (3, .int yv2)]) hx hb dX6_childNames_33 rfl hl (by decide) rfl (fun ls hl => ?_)
          obtain ⟨yv5, e_yv5, h⟩ := z_nmx h
          refine lv_iinc (v := yv5) (lv' := [(3, .int yv5), (2, .int yv4), (0, .ref (ad ya0)), (1, .int yx1)]) hx hb dX6_childNames_34 hl (k := 3) rfl (by rw [e_yv5]; rfl) (by decide) rfl (fun ls hl => ?_)
          refine lv_goto (tgt := 4) hx hb dX6_childNames_37 (by decide) ?_
          exact ih _ _ _ _ _ (hq1 _ (z_sm h).symm) hP hS (lv_sub hl [2, 3, 1, 0] rfl)
        refine lv_icmp_ne (tgt := 31) hx hb dX6_childNames_20 (by decide) (fun yc20 => ?_) (fun yc20 => ?_)
        · have h := z_ifn yc20 h
          refine lv_iconst (v := (0 : Int32)) hx hb dX6_childNames_31 (by decide) ?_
          exact hJ32 _ _ _ _ h hP hS (lv_sub hl [0, 1, 3] rfl)
        · have h := z_ifp yc20 h
          refine lv_iconst (v := (1 : Int32)) hx hb dX6_childNames_23 (by decide) ?_
          refine lv_aload_n hx hb dX6_childNames_24 rfl (lv_at hl 0 rfl) ?_
          refine lv_iload_n hx hb dX6_childNames_25 rfl (lv_at hl 3 rfl) ?_
          obtain ⟨yg26, h⟩ := z_gi h
          refine al_M hx hb hK hP yh0 (by decide) yg26 dX6_childNames_26 ?_
          refine lv_ishl hx hb dX6_childNames_27 ?_
          refine lv_goto (tgt := 32) hx hb dX6_childNames_28 (by decide) ?_
          exact hJ32 _ _ _ _ h hP hS (lv_sub hl [0, 1, 3] rfl)
  exact hL4 yn4 _ _ _ _ _ hlp hP hS (lv_sub hl [2, 3, 1, 0] rfl)
noncomputable def jX6_isMet_21 (yx2 : Int32) (yx3 : Int32) (yd : Dt) (ya1 : Nat) : Option Int32 :=
  zif ((6 : Int32) ≤ yx2) (z_gd (z_in ((60 : Int32) + yx3) 214) (z_br (fX6_has (yd.1 ya1 (z_ix ((60 : Int32) + yx3))) (yx2 - (6 : Int32))) fun yr1 => some yr1)) (z_br (fX6_childNames yd ya1 yx3) fun yr2 => z_br (fX6_has yr2 (yx2 - (1 : Int32))) fun yr3 => some yr3)
noncomputable def fX6_isMet (yd : Dt) (ya1 : Nat) (yx2 : Int32) (yx3 : Int32) (yx4 : Int32) : Option Int32 :=
  zif (yx2 = 0) (some (1 : Int32)) (zif (yx4 = 0) (jX6_isMet_21 yx2 yx3 yd ya1) (z_gd (z_in ((40 : Int32) + yx3) 214) (zif ((yd.1 ya1 (z_ix ((40 : Int32) + yx3))) = (1 : Int32)) (some (1 : Int32)) (jX6_isMet_21 yx2 yx3 yd ya1))))
set_option maxHeartbeats 4000000 in
set_option maxRecDepth 100000 in
theorem kX6_isMet {l : Launch} {D : va_G} {G : z_G} {ad : Nat → Nat} {A : Nat → Prop} (hI : ∀ d, va_D A (WM G ad d)) {yd : Dt} {ya1 : Nat} {yx2 : Int32} {yx3 : Int32} {yx4 : Int32} (yh1 : arM ya1 = 214) (z_yx4 : yx4 = 0 ∨ yx4 = 1) {rr : Int32} (h : fX6_isMet yd ya1 yx2 yx3 yx4 = some rr) : z_Mz l D G A (WM G ad) yX6_isMet cX6_isMet 5 (z_rm 1 23) yd [.ref (ad 0), .ref (ad ya1), .int yx2, .int yx3, .int yx4] rr yd := by
  refine z_ofz (by decide) (Nat.le_of_ble_eq_true rfl) fun p e s m args below meth c Q hx hb hml hown hts hK hP hRet ls hl => ?_
  have hS : va_S A s.heap s.heap [] := va_S.rf
  have hl : lv_has ls 5 [(0, .ref (ad 0)), (1, .ref (ad ya1)), (2, .int yx2), (3, .int yx3), (4, .int yx4)] := hl
  have h : (zif (yx2 = 0) (some (1 : Int32)) (zif (yx4 = 0) (jX6_isMet_21 yx2 yx3 yd ya1) (z_gd (z_in ((40 : Int32) + yx3) 214) (zif ((yd.1 ya1 (z_ix ((40 : Int32) + yx3))) = (1 : Int32)) (some (1 : Int32)) (jX6_isMet_21 yx2 yx3 yd ya1))))) = some rr := h
  refine lv_iload_n hx hb dX6_isMet_0 rfl (lv_at hl 2 rfl) ?_
  refine lv_if_eq (tgt := 19) hx hb dX6_isMet_1 (by decide) (fun yc1 => ?_) (fun yc1 => ?_)
  · have h := z_ifp yc1 h
    refine lv_iconst (v := (1 : Int32)) hx hb dX6_isMet_19 (by decide) ?_
    exact hRet _ _ _ _ _ _ hP hS (Or.inr rfl) (z_pair h) dX6_isMet_20
  · have h := z_ifn yc1 h
    refine lv_iload hx hb dX6_isMet_4 (lv_at hl 4 rfl) ?_
    have hJ21 : ∀  (H : Heap) (locs : List Loc) (ls : Array Slot), jX6_isMet_21 yx2 yx3 yd ya1 = some rr → va_P D vwCl (WM G ad yd) H → va_S A s.heap H locs → lv_has ls 5 [(1, .ref (ad ya1)), (2, .int yx2), (3, .int yx3)] → W p l e (z_rm 1 23) s m args below meth c H locs 0 0 Q (F0 m 21 ls []) := by
      intro  H locs ls h hP hS hl
      have h : (zif ((6 : Int32) ≤ yx2) (z_gd (z_in ((60 : Int32) + yx3) 214) (z_br (fX6_has (yd.1 ya1 (z_ix ((60 : Int32) + yx3))) (yx2 - (6 : Int32))) fun yr1 => some yr1)) (z_br (fX6_childNames yd ya1 yx3) fun yr2 => z_br (fX6_has yr2 (yx2 - (1 : Int32))) fun yr3 => some yr3)) = some rr := h
      refine lv_iload_n hx hb dX6_isMet_21 rfl (lv_at hl 1 rfl) ?_
      refine lv_bipush (v := (6 : Int32)) hx hb dX6_isMet_22 (by decide) ?_
      refine lv_icmp_ge (tgt := 41) hx hb dX6_isMet_24 (by decide) (fun yc24 => ?_) (fun yc24 => ?_)
      · have h := z_ifp yc24 h
        refine lv_aload_n hx hb dX6_isMet_41 rfl (lv_at hl 0 rfl) ?_
        refine lv_bipush (v := (60 : Int32)) hx hb dX6_isMet_42 (by decide) ?_
        refine lv_iload_n hx hb dX6_isMet_44 rfl (lv_at hl 2 rfl) ?_
        refine lv_iadd hx hb dX6_isMet_45 ?_
        obtain ⟨yg46, h⟩ := z_gi h
        refine al_M hx hb hK hP yh1 (by decide) yg46 dX6_isMet_46 ?_
        refine lv_iload_n hx hb dX6_isMet_47 rfl (lv_at hl 1 rfl) ?_
        refine lv_bipush (v := (6 : Int32)) hx hb dX6_isMet_48 (by decide) ?_
        refine lv_isub hx hb dX6_isMet_50 ?_
        obtain ⟨yr1, yhc51, h⟩ := z_brx h
        refine z_kz (z_rS (As := [.int (yd.1 ya1 (z_ix ((60 : Int32) + yx3))), .int (yx2 - (6 : Int32))]) (rest := []) ⟨hx, hb, hml, hown, hts⟩ hK hP (kX6_has yhc51) giX6_122 ⟨rfl, rfl⟩ ndX6_has ⟨Nat.le_of_ble_eq_true rfl, Nat.le_of_ble_eq_true rfl⟩ rfl hl.1 rfl (Nat.le_of_ble_eq_true rfl) ⟨Nat.le_refl _, Nat.le_refl _⟩ dX6_isMet_51) hS (fun H locs z_yr1 hP hS => ?_)
        exact hRet _ _ _ _ _ _ hP hS z_yr1 (z_pair h) dX6_isMet_54
      · have h := z_ifn yc24 h
        refine lv_aload_n hx hb dX6_isMet_27 rfl (lv_at hl 0 rfl) ?_
        refine lv_iload_n hx hb dX6_isMet_28 rfl (lv_at hl 2 rfl) ?_
        obtain ⟨yr2, yhc29, h⟩ := z_brx h
        refine z_ki (z_rS (As := [.ref (ad ya1), .int yx3]) (rest := []) ⟨hx, hb, hml, hown, hts⟩ hK hP (kX6_childNames hI yh1 yhc29) giX6_118 ⟨rfl, rfl⟩ ndX6_childNames ⟨Nat.le_of_ble_eq_true rfl, Nat.le_of_ble_eq_true rfl⟩ rfl hl.1 rfl (Nat.le_of_ble_eq_true rfl) ⟨Nat.le_refl _, Nat.le_refl _⟩ dX6_isMet_29) hS (fun H locs hP hS => ?_)
        refine lv_iload_n hx hb dX6_isMet_32 rfl (lv_at hl 1 rfl) ?_
        refine lv_iconst (v := (1 : Int32)) hx hb dX6_isMet_33 (by decide) ?_
        refine lv_isub hx hb dX6_isMet_34 ?_
        obtain ⟨yr3, yhc35, h⟩ := z_brx h
        refine z_kz (z_rS (As := [.int yr2, .int (yx2 - (1 : Int32))]) (rest := []) ⟨hx, hb, hml, hown, hts⟩ hK hP (kX6_has yhc35) giX6_122 ⟨rfl, rfl⟩ ndX6_has ⟨Nat.le_of_ble_eq_true rfl, Nat.le_of_ble_eq_true rfl⟩ rfl hl.1 rfl (Nat.le_of_ble_eq_true rfl) ⟨Nat.le_refl _, Nat.le_refl _⟩ dX6_isMet_35) hS (fun H locs z_yr3 hP hS => ?_)
        refine lv_goto (tgt := 54) hx hb dX6_isMet_38 (by decide) ?_
        exact hRet _ _ _ _ _ _ hP hS z_yr3 (z_pair h) dX6_isMet_54
    refine lv_if_eq (tgt := 21) hx hb dX6_isMet_6 (by decide) (fun yc6 => ?_) (fun yc6 => ?_)
    · have h := z_ifp yc6 h
      exact hJ21  _ _ _ h hP hS (lv_sub hl [1, 2, 3] rfl)
    · have h := z_ifn yc6 h
      refine lv_aload_n hx hb dX6_isMet_9 rfl (lv_at hl 1 rfl) ?_
      refine lv_bipush (v := (40 : Int32)) hx hb dX6_isMet_10 (by decide) ?_
      refine lv_iload_n hx hb dX6_isMet_12 rfl (lv_at hl 3 rfl) ?_
      refine lv_iadd hx hb dX6_isMet_13 ?_
      obtain ⟨yg14, h⟩ := z_gi h
      refine al_M hx hb hK hP yh1 (by decide) yg14 dX6_isMet_14 ?_
      refine lv_iconst (v := (1 : Int32)) hx hb dX6_isMet_15 (by decide) ?_
      refine lv_icmp_ne (tgt := 21) hx hb dX6_isMet_16 (by decide) (fun yc16 => ?_) (fun yc16 => ?_)
      · have h := z_ifn yc16 h
        exact hJ21  _ _ _ h hP hS (lv_sub hl [1, 2, 3] rfl)
      · have h := z_ifp yc16 h
        refine lv_iconst (v := (1 : Int32)) hx hb dX6_isMet_19 (by decide) ?_
        exact hRet _ _ _ _ _ _ hP hS (Or.inr rfl) (z_pair h) dX6_isMet_20
noncomputable def bX6_layWay_5 (yd : Dt) (ya1 : Nat) (s : Int32 × Int32) : Option ((Int32 × Int32) ⊕ (Int32)) := match s with
  | (yv1, yv2) => zif (yv2 = (-9 : Int32)) (some (.inr yv1)) (z_nm (yv1 + (1 : Int32)) fun yv3 => z_gd (z_in ((20 : Int32) + yv2) 214) (z_nm (yd.1 ya1 (z_ix ((20 : Int32) + yv2))) fun yv4 => some (.inl (yv3, yv4))))
noncomputable def bX6_layWay_33 (ya1 : Nat) (s : Int32 × Int32 × Dt) : Option ((Int32 × Int32 × Dt) ⊕ (Dt)) := match s with
  | (yv6, yv7, yd8) => zif (yv7 = (-9 : Int32)) (some (.inr yd8)) (z_nm (yv6 + (-1 : Int32)) fun yv9 => z_gd (z_in yv9 8) (z_nm (z_st yd8 9 (z_ix yv9) yv7) fun yd10 => z_gd (z_in ((20 : Int32) + yv7) 214) (z_nm (yd10.1 ya1 (z_ix ((20 : Int32) + yv7))) fun yv11 => some (.inl (yv9, yv11, yd10)))))
noncomputable def fX6_layWay (yd : Dt) (ya1 : Nat) (yx2 : Int32) : Option (Int32 × Dt) :=
  z_br (z_lp (bX6_layWay_5 yd ya1) ((0 : Int32), yx2)) (fun t => match t with | yv5 => z_br (z_lp (bX6_layWay_33 ya1) (yv5, yx2, yd)) (fun t => match t with | yd12 => some (yv5, yd12)))
set_option maxHeartbeats 4000000 in
set_option maxRecDepth 100000 in
theorem kX6_layWay {l : Launch} {D : va_G} {G : z_G} {ad : Nat → Nat} {A : Nat → Prop} (hI : ∀ d, va_D A (WM G ad d)) {yd : Dt} {ya1 : Nat} {yx2 : Int32} (yh1 : arM ya1 = 214) {rr : Int32} {dd : Dt} (h : fX6_layWay yd ya1 yx2 = some (rr, dd)) : z_Mi l D G A (WM G ad) yX6_layWay cX6_layWay 6 (z_rm 0 0) yd [.ref (ad 0), .ref (ad ya1), .int yx2] rr dd := by
  refine z_ofi (by decide) (Nat.le_of_ble_eq_true rfl) fun p e s m args below meth c Q hx hb hml hown hts hK hP hRet ls hl => ?_
  have hS : va_S A s.heap s.heap [] := va_S.rf
  have hl : lv_has ls 6 [(0, .ref (ad 0)), (1, .ref (ad ya1)), (2, .int yx2)] := hl
  have h : (z_br (z_lp (bX6_layWay_5 yd ya1) ((0 : Int32), yx2)) (fun t => match t with | yv5 => z_br (z_lp (bX6_layWay_33 ya1) (yv5, yx2, yd)) (fun t => match t with | yd12 => some (yv5, yd12)))) = some (rr, dd) := h
  refine lv_iconst (v := (0 : Int32)) hx hb dX6_layWay_0 (by decide) ?_
  refine lv_istore_n (lv' := [(3, .int (0 : Int32)), (0, .ref (ad 0)), (1, .ref (ad ya1)), (2, .int yx2)]) hx hb dX6_layWay_1 rfl hl (by decide) rfl (fun ls hl => ?_)
  refine lv_iload_n hx hb dX6_layWay_2 rfl (lv_at hl 3 rfl) ?_
  refine lv_istore (lv' := [(4, .int yx2), (3, .int (0 : Int32)), (0, .ref (ad 0)), (1, .ref (ad ya1)), (2, .int yx2)]) hx hb dX6_layWay_3 hl (by decide) rfl (fun ls hl => ?_)
  obtain ⟨yt5, hlp, h⟩ := z_brx h
  obtain ⟨yn5, hlp⟩ := z_lpx hlp
  have hE27 : ∀ (yv5 : Int32) (H : Heap) (locs : List Loc) (ls : Array Slot), yv5 = yt5 → va_P D vwCl (WM G ad yd) H → va_S A s.heap H locs → lv_has ls 6 [(0, .ref (ad 0)), (1, .ref (ad ya1)), (2, .int yx2), (3, .int yv5)] → W p l e (z_rm 0 0) s m args below meth c H locs 0 0 Q (F0 m 27 ls []) := by
    intro yv5 H locs ls et hP hS hl
    subst et
    have h : (z_br (z_lp (bX6_layWay_33 ya1) (yv5, yx2, yd)) (fun t => match t with | yd12 => some (yv5, yd12))) = some (rr, dd) := h
    refine lv_iload_n hx hb dX6_layWay_27 rfl (lv_at hl 3 rfl) ?_
    refine lv_istore (lv' := [(4, .int yv5), (0, .ref (ad 0)), (1, .ref (ad ya1)), (2, .int yx2), (3, .int yv5)]) hx hb dX6_layWay_28 hl (by decide) rfl (fun ls hl => ?_)
    refine lv_iload_n hx hb dX6_layWay_30 rfl (lv_at hl 3 rfl) ?_
    refine lv_istore (lv' := [(5, .int yx2), (4, .int yv5), (0, .ref (ad 0)), (1, .ref (ad ya1)), (2, .int yx2), (3, .int yv5)]) hx hb dX6_layWay_31 hl (by decide) rfl (fun ls hl => ?_)
    obtain ⟨yt33, hlp, h⟩ := z_brx h
    obtain ⟨yn33, hlp⟩ := z_lpx hlp
    have hE64 : ∀ (yd12 : Dt) (H : Heap) (locs : List Loc) (ls : Array Slot), yd12 = yt33 → va_P D vwCl (WM G ad yd12) H → va_S A s.heap H locs → lv_has ls 6 [(3, .int yv5)] → W p l e (z_rm 0 0) s m args below meth c H locs 0 0 Q (F0 m 64 ls []) := by
      intro yd12 H locs ls et hP hS hl
      subst et
      have h : (some (yv5, yd12)) = some (rr, dd) := h
      refine lv_iload_n hx hb dX6_layWay_64 rfl (lv_at hl 0 rfl) ?_
      exact hRet _ _ _ _ _ _ hP hS h dX6_layWay_65
    have hL33 : ∀ (n : Nat) (yv6 : Int32) (yv7 : Int32) (yd8 : Dt) (H : Heap) (locs : List Loc) (ls : Array Slot), z_it (bX6_layWay_33 ya1) n (yv6, yv7, yd8) = some yt33 → va_P D vwCl (WM G ad yd8) H → va_S A s.heap H locs → lv_has ls 6 [(0, .ref (ad 0)), (1, .ref (ad ya1)), (3, .int yv5), (4, .int yv6), (5, .int yv7)] → W p l e (z_rm 0 0) s m args below meth c H locs 0 0 Q (F0 m 33 ls []) := by
      intro n
      induction n with
      | zero => intro yv6 yv7 yd8 H locs ls hn; exact z_it0 hn
      | succ n ih =>
        intro yv6 yv7 yd8 H locs ls hn hP hS hl
        obtain ⟨yq33, h, hq1, hq2⟩ := z_itx hn
        have h : (zif (yv7 = (-9 : Int32)) (some (.inr yd8)) (z_nm (yv6 + (-1 : Int32)) fun yv9 => z_gd (z_in yv9 8) (z_nm (z_st yd8 9 (z_ix yv9) yv7) fun yd10 => z_gd (z_in ((20 : Int32) + yv7) 214) (z_nm (yd10.1 ya1 (z_ix ((20 : Int32) + yv7))) fun yv11 => some (.inl (yv9, yv11, yd10)))))) = some yq33 := h
        refine lv_iload hx hb dX6_layWay_33 (lv_at hl 4 rfl) ?_
        refine lv_bipush (v := (-9 : Int32)) hx hb dX6_layWay_35 (by decide) ?_
        refine lv_icmp_eq (tgt := 64) hx hb dX6_layWay_37 (by decide) (fun yc37 => ?_) (fun yc37 => ?_)
        · have h := z_ifp yc37 h
          exact hE64 _ _ _ _ (hq2 _ (z_sm h).symm) hP hS (lv_sub hl [2] rfl)
        · have h := z_ifn yc37 h
          obtain ⟨yv9, e_yv9, h⟩ := z_nmx h
          refine lv_iinc (v := yv9) (lv' := [(4, .int yv9), (0, .ref (ad 0)), (1, .ref (ad ya1)), (3, .int yv5), (5, .int yv7)]) hx hb dX6_layWay_40 hl (k := 3) rfl (by rw [e_yv9]; rfl) (by decide) rfl (fun ls hl => ?_)
          refine lv_aload_n hx hb dX6_layWay_43 rfl (lv_at hl 1 rfl) ?_
          refine gt_X6_14 hx hb hts hown hK hP (hts _ wl_3_148) dX6_layWay_44 ?_
          refine lv_iload hx hb dX6_layWay_47 (lv_at hl 0 rfl) ?_
          refine lv_iload hx hb dX6_layWay_49 (lv_at hl 4 rfl) ?_
          obtain ⟨yg51, h⟩ := z_gi h
          refine as_M hx hb hK hP hI hS rfl (by decide) yg51 dX6_layWay_51 (fun H locs yd10 e_yd10 hP hS => ?_)
          have h := z_nma e_yd10 h
          refine lv_aload_n hx hb dX6_layWay_52 rfl (lv_at hl 2 rfl) ?_
          refine lv_bipush (v := (20 : Int32)) hx hb dX6_layWay_53 (by decide) ?_
          refine lv_iload hx hb dX6_layWay_55 (lv_at hl 4 rfl) ?_
          refine lv_iadd hx hb dX6_layWay_57 ?_
          obtain ⟨yg58, h⟩ := z_gi h
          refine al_M hx hb hK hP yh1 (by decide) yg58 dX6_layWay_58 ?_
          refine lv_topi (fun yv11 e_yv11 => ?_)
          have h := z_nma e_yv11 h
          refine lv_istore (lv' := [(5, .int yv11), (4, .int yv9), (0, .ref (ad 0)), (1, .ref (ad ya1)), (3, .int yv5)]) hx hb dX6_layWay_59 hl (by decide) rfl (fun ls hl => ?_)
          refine lv_goto (tgt := 33) hx hb dX6_layWay_61 (by decide) ?_
          exact ih _ _ _ _ _ _ (hq1 _ (z_sm h).symm) hP hS (lv_sub hl [2, 3, 4, 1, 0] rfl)
    exact hL33 yn33 _ _ _ _ _ _ hlp hP hS (lv_sub hl [2, 3, 5, 1, 0] rfl)
  have hL5 : ∀ (n : Nat) (yv1 : Int32) (yv2 : Int32) (H : Heap) (locs : List Loc) (ls : Array Slot), z_it (bX6_layWay_5 yd ya1) n (yv1, yv2) = some yt5 → va_P D vwCl (WM G ad yd) H → va_S A s.heap H locs → lv_has ls 6 [(0, .ref (ad 0)), (1, .ref (ad ya1)), (2, .int yx2), (3, .int yv1), (4, .int yv2)] → W p l e (z_rm 0 0) s m args below meth c H locs 0 0 Q (F0 m 5 ls []) := by
    intro n
    induction n with
    | zero => intro yv1 yv2 H locs ls hn; exact z_it0 hn
    | succ n ih =>
      intro yv1 yv2 H locs ls hn hP hS hl
      obtain ⟨yq5, h, hq1, hq2⟩ := z_itx hn
      have h : (zif (yv2 = (-9 : Int32)) (some (.inr yv1)) (z_nm (yv1 + (1 : Int32)) fun yv3 => z_gd (z_in ((20 : Int32) + yv2) 214) (z_nm (yd.1 ya1 (z_ix ((20 : Int32) + yv2))) fun yv4 => some (.inl (yv3, yv4))))) = some yq5 := h
      refine lv_iload hx hb dX6_layWay_5 (lv_at hl 4 rfl) ?_
      refine lv_bipush (v := (-9 : Int32)) hx hb dX6_layWay_7 (by decide) ?_
      refine lv_icmp_eq (tgt := 27) hx hb dX6_layWay_9 (by decide) (fun yc9 => ?_) (fun yc9 => ?_)
      · have h := z_ifp yc9 h
        exact hE27 _ _ _ _ (hq2 _ (z_sm h).symm) hP hS (lv_sub hl [0, 1, 2, 3] rfl)
      · have h := z_ifn yc9 h
        obtain ⟨yv3, e_yv3, h⟩ := z_nmx h
        refine lv_iinc (v := yv3) (lv' := [(3, .int yv3), (0, .ref (ad 0)), (1, .ref (ad ya1)), (2, .int yx2), (4, .int yv2)]) hx hb dX6_layWay_12 hl (k := 3) rfl (by rw [e_yv3]; rfl) (by decide) rfl (fun ls hl => ?_)
        refine lv_aload_n hx hb dX6_layWay_15 rfl (lv_at hl 2 rfl) ?_
        refine lv_bipush (v := (20 : Int32)) hx hb dX6_layWay_16 (by decide) ?_
        refine lv_iload hx hb dX6_layWay_18 (lv_at hl 4 rfl) ?_
        refine lv_iadd hx hb dX6_layWay_20 ?_
        obtain ⟨yg21, h⟩ := z_gi h
        refine al_M hx hb hK hP yh1 (by decide) yg21 dX6_layWay_21 ?_
        refine lv_topi (fun yv4 e_yv4 => ?_)
        have h := z_nma e_yv4 h
        refine lv_istore (lv' := [(4, .int yv4), (3, .int yv3), (0, .ref (ad 0)), (1, .ref (ad ya1)), (2, .int yx2)]) hx hb dX6_layWay_22 hl (by decide) rfl (fun ls hl => ?_)
        refine lv_goto (tgt := 5) hx hb dX6_layWay_24 (by decide) ?_
        exact ih _ _ _ _ _ (hq1 _ (z_sm h).symm) hP hS (lv_sub hl [2, 3, 4, 1, 0] rfl)
  exact hL5 yn5 _ _ _ _ _ hlp hP hS (lv_sub hl [2, 3, 4, 1, 0] rfl)
noncomputable def jX6_endsAt_206 (yv2 : Int32) (yv3 : Int32) (yv8 : Int32) : Option ((Int32 × Int32) ⊕ (Int32)) :=
  z_nm (yv2 ||| yv8) fun yv9 => z_nm (yv3 + (1 : Int32)) fun yv10 => some (.inl (yv9, yv10))
noncomputable def jX6_endsAt_205 (yv2 : Int32) (yv3 : Int32) : Option ((Int32 × Int32) ⊕ (Int32)) :=
  jX6_endsAt_206 yv2 yv3 (0 : Int32)
noncomputable def jX6_endsAt_186 (yv6 : Int32) (yv2 : Int32) (yv3 : Int32) (yv7 : Int32) : Option ((Int32 × Int32) ⊕ (Int32)) :=
  zif (yv6 = 0) (jX6_endsAt_205 yv2 yv3) (zif (yv7 = 0) (jX6_endsAt_205 yv2 yv3) (jX6_endsAt_206 yv2 yv3 ((1 : Int32) <<< (yv3 &&& 31))))
noncomputable def jX6_endsAt_184 (yv6 : Int32) (yv2 : Int32) (yv3 : Int32) (yv11 : Int32) : Option ((Int32 × Int32) ⊕ (Int32)) :=
  jX6_endsAt_186 yv6 yv2 yv3 yv11
noncomputable def jX6_endsAt_183 (yv6 : Int32) (yv2 : Int32) (yv3 : Int32) : Option ((Int32 × Int32) ⊕ (Int32)) :=
  jX6_endsAt_184 yv6 yv2 yv3 (0 : Int32)
noncomputable def jX6_endsAt_128 (yv6 : Int32) (yv2 : Int32) (yv3 : Int32) (yv14 : Int32) : Option ((Int32 × Int32) ⊕ (Int32)) :=
  jX6_endsAt_186 yv6 yv2 yv3 yv14
noncomputable def jX6_endsAt_123 (yv6 : Int32) (yv2 : Int32) (yv3 : Int32) : Option ((Int32 × Int32) ⊕ (Int32)) :=
  jX6_endsAt_128 yv6 yv2 yv3 (1 : Int32)
noncomputable def jX6_endsAt_104 (yv3 : Int32) (yv4 : Int32) (yv2 : Int32) (yx3 : Int32) (yx4 : Int32) (yd : Dt) (yx5 : Int32) (yv6 : Int32) : Option ((Int32 × Int32) ⊕ (Int32)) :=
  zif (yv3 = 0) (zif ((1000 : Int32) ≤ yv4) (jX6_endsAt_123 yv6 yv2 yv3) (zif (yx3 = 0) (jX6_endsAt_123 yv6 yv2 yv3) (jX6_endsAt_128 yv6 yv2 yv3 (0 : Int32)))) (zif (yv4 < (1000 : Int32)) (zif (yx4 ≤ 0) (jX6_endsAt_183 yv6 yv2 yv3) (z_gd (z_in (yx4 - (1 : Int32)) 8) (z_br (fX6_has (yd.1 10 (z_ix (yx4 - (1 : Int32)))) (yv3 - (1 : Int32))) fun yr12 => zif (yr12 = 0) (jX6_endsAt_183 yv6 yv2 yv3) (jX6_endsAt_184 yv6 yv2 yv3 (1 : Int32))))) (z_br (fX6_has yx5 (yv3 - (1 : Int32))) fun yr13 => jX6_endsAt_186 yv6 yv2 yv3 yr13))
noncomputable def jX6_endsAt_103 (yv3 : Int32) (yv4 : Int32) (yv2 : Int32) (yx3 : Int32) (yx4 : Int32) (yd : Dt) (yx5 : Int32) : Option ((Int32 × Int32) ⊕ (Int32)) :=
  jX6_endsAt_104 yv3 yv4 yv2 yx3 yx4 yd yx5 (0 : Int32)
noncomputable def jX6_endsAt_83 (yd : Dt) (ya1 : Nat) (yv4 : Int32) (yx3 : Int32) (yx6 : Int32) (yv3 : Int32) (yv2 : Int32) (yx4 : Int32) (yx5 : Int32) : Option ((Int32 × Int32) ⊕ (Int32)) :=
  z_br (fX6_isMet yd ya1 (yv4 - yv4 / (100 : Int32) * (100 : Int32)) yx3 yx6) fun yr15 => zif (yr15 = 0) (jX6_endsAt_103 yv3 yv4 yv2 yx3 yx4 yd yx5) (jX6_endsAt_104 yv3 yv4 yv2 yx3 yx4 yd yx5 (1 : Int32))
noncomputable def jX6_endsAt_67 (yd : Dt) (ya1 : Nat) (yv4 : Int32) (yx3 : Int32) (yx6 : Int32) (yv3 : Int32) (yv2 : Int32) (yx4 : Int32) (yx5 : Int32) (yv5 : Int32) : Option ((Int32 × Int32) ⊕ (Int32)) :=
  zif (yv5 = (5 : Int32)) (jX6_endsAt_83 yd ya1 yv4 yx3 yx6 yv3 yv2 yx4 yx5) (z_gd (z_in yx3 214) (zif (yv5 = (yd.1 ya1 (z_ix yx3))) (jX6_endsAt_83 yd ya1 yv4 yx3 yx6 yv3 yv2 yx4 yx5) (jX6_endsAt_103 yv3 yv4 yv2 yx3 yx4 yd yx5)))
noncomputable def jX6_endsAt_59 (yd : Dt) (ya1 : Nat) (yv4 : Int32) (yx3 : Int32) (yx6 : Int32) (yv3 : Int32) (yv2 : Int32) (yx4 : Int32) (yx5 : Int32) : Option ((Int32 × Int32) ⊕ (Int32)) :=
  jX6_endsAt_67 yd ya1 yv4 yx3 yx6 yv3 yv2 yx4 yx5 ((yv4 / (100 : Int32)) - (yv4 / (100 : Int32)) / (10 : Int32) * (10 : Int32))
noncomputable def bX6_endsAt_14 (yv1 : Int32) (yx2 : Int32) (yd : Dt) (ya1 : Nat) (yx3 : Int32) (yx6 : Int32) (yx4 : Int32) (yx5 : Int32) (s : Int32 × Int32) : Option ((Int32 × Int32) ⊕ (Int32)) := match s with
  | (yv2, yv3) => zif (yv1 ≤ yv3) (some (.inr yv2)) (z_gd (z_in (((89 : Int32) + ((4 : Int32) * yx2)) + yv3) 214) (z_nm (yd.1 ya1 (z_ix (((89 : Int32) + ((4 : Int32) * yx2)) + yv3))) fun yv4 => zif (yv3 = (yv1 - (1 : Int32))) (zif ((yd.1 0 13) = (-9 : Int32)) (jX6_endsAt_59 yd ya1 yv4 yx3 yx6 yv3 yv2 yx4 yx5) (jX6_endsAt_67 yd ya1 yv4 yx3 yx6 yv3 yv2 yx4 yx5 (yd.1 0 13))) (jX6_endsAt_59 yd ya1 yv4 yx3 yx6 yv3 yv2 yx4 yx5)))
noncomputable def fX6_endsAt (yd : Dt) (ya1 : Nat) (yx2 : Int32) (yx3 : Int32) (yx4 : Int32) (yx5 : Int32) (yx6 : Int32) : Option Int32 :=
  z_gd (z_in ((84 : Int32) + yx2) 214) (z_nm (yd.1 ya1 (z_ix ((84 : Int32) + yx2))) fun yv1 => z_br (z_lp (bX6_endsAt_14 yv1 yx2 yd ya1 yx3 yx6 yx4 yx5) ((0 : Int32), (0 : Int32))) (fun t => match t with | yv16 => some yv16))
set_option maxHeartbeats 4000000 in
set_option maxRecDepth 100000 in
theorem kX6_endsAt {l : Launch} {D : va_G} {G : z_G} {ad : Nat → Nat} {A : Nat → Prop} (hI : ∀ d, va_D A (WM G ad d)) {yd : Dt} {ya1 : Nat} {yx2 : Int32} {yx3 : Int32} {yx4 : Int32} {yx5 : Int32} {yx6 : Int32} (yh1 : arM ya1 = 214) (z_yx6 : yx6 = 0 ∨ yx6 = 1) {rr : Int32} (h : fX6_endsAt yd ya1 yx2 yx3 yx4 yx5 yx6 = some rr) : z_Mi l D G A (WM G ad) yX6_endsAt cX6_endsAt 14 (z_rm 2 47) yd [.ref (ad 0), .ref (ad ya1), .int yx2, .int yx3, .int yx4, .int yx5, .int yx6] rr yd := by
  refine z_ofi (by decide) (Nat.le_of_ble_eq_true rfl) fun p e s m args below meth c Q hx hb hml hown hts hK hP hRet ls hl => ?_
  have hS : va_S A s.heap s.heap [] := va_S.rf
  have hl : lv_has ls 14 [(0, .ref (ad 0)), (1, .ref (ad ya1)), (2, .int yx2), (3, .int yx3), (4, .int yx4), (5, .int yx5), (6, .int yx6)] := hl
  have h : (z_gd (z_in ((84 : Int32) + yx2) 214) (z_nm (yd.1 ya1 (z_ix ((84 : Int32) + yx2))) fun yv1 => z_br (z_lp (bX6_endsAt_14 yv1 yx2 yd ya1 yx3 yx6 yx4 yx5) ((0 : Int32), (0 : Int32))) (fun t => match t with | yv16 => some yv16))) = some rr := h
  refine lv_iconst (v := (0 : Int32)) hx hb dX6_endsAt_0 (by decide) ?_
  refine lv_istore (lv' := [(7, .int (0 : Int32)), (0, .ref (ad 0)), (1, .ref (ad ya1)), (2, .int yx2), (3, .int yx3), (4, .int yx4), (5, .int yx5), (6, .int yx6)]) hx hb dX6_endsAt_1 hl (by decide) rfl (fun ls hl => ?_)
  refine lv_aload_n hx hb dX6_endsAt_3 rfl (lv_at hl 2 rfl) ?_
  refine lv_bipush (v := (84 : Int32)) hx hb dX6_endsAt_4 (by decide) ?_
  refine lv_iload_n hx hb dX6_endsAt_6 rfl (lv_at hl 3 rfl) ?_
  refine lv_iadd hx hb dX6_endsAt_7 ?_
  obtain ⟨yg8, h⟩ := z_gi h
  refine al_M hx hb hK hP yh1 (by decide) yg8 dX6_endsAt_8 ?_
  refine lv_topi (fun yv1 e_yv1 => ?_)
  have h := z_nma e_yv1 h
  refine lv_istore (lv' := [(8, .int yv1), (7, .int (0 : Int32)), (0, .ref (ad 0)), (1, .ref (ad ya1)), (2, .int yx2), (3, .int yx3), (4, .int yx4), (5, .int yx5), (6, .int yx6)]) hx hb dX6_endsAt_9 hl (by decide) rfl (fun ls hl => ?_)
  refine lv_iconst (v := (0 : Int32)) hx hb dX6_endsAt_11 (by decide) ?_
  refine lv_istore (lv' := [(9, .int (0 : Int32)), (8, .int yv1), (7, .int (0 : Int32)), (0, .ref (ad 0)), (1, .ref (ad ya1)), (2, .int yx2), (3, .int yx3), (4, .int yx4), (5, .int yx5), (6, .int yx6)]) hx hb dX6_endsAt_12 hl (by decide) rfl (fun ls hl => ?_)
  obtain ⟨yt14, hlp, h⟩ := z_brx h
  obtain ⟨yn14, hlp⟩ := z_lpx hlp
  have hE215 : ∀ (yv16 : Int32) (H : Heap) (locs : List Loc) (ls : Array Slot), yv16 = yt14 → va_P D vwCl (WM G ad yd) H → va_S A s.heap H locs → lv_has ls 14 [(7, .int yv16)] → W p l e (z_rm 2 47) s m args below meth c H locs 0 0 Q (F0 m 215 ls []) := by
    intro yv16 H locs ls et hP hS hl
    subst et
    have h : (some yv16) = some rr := h
    refine lv_iload hx hb dX6_endsAt_215 (lv_at hl 0 rfl) ?_
    exact hRet _ _ _ _ _ _ hP hS (z_pair h) dX6_endsAt_217
  have hL14 : ∀ (n : Nat) (yv2 : Int32) (yv3 : Int32) (H : Heap) (locs : List Loc) (ls : Array Slot), z_it (bX6_endsAt_14 yv1 yx2 yd ya1 yx3 yx6 yx4 yx5) n (yv2, yv3) = some yt14 → va_P D vwCl (WM G ad yd) H → va_S A s.heap H locs → lv_has ls 14 [(0, .ref (ad 0)), (1, .ref (ad ya1)), (2, .int yx2), (3, .int yx3), (4, .int yx4), (5, .int yx5), (6, .int yx6), (7, .int yv2), (8, .int yv1), (9, .int yv3)] → W p l e (z_rm 2 47) s m args below meth c H locs 0 0 Q (F0 m 14 ls []) := by
    intro n
    induction n with
    | zero => intro yv2 yv3 H locs ls hn; exact z_it0 hn
    | succ n ih =>
      intro yv2 yv3 H locs ls hn hP hS hl
      obtain ⟨yq14, h, hq1, hq2⟩ := z_itx hn
      have h : (zif (yv1 ≤ yv3) (some (.inr yv2)) (z_gd (z_in (((89 : Int32) + ((4 : Int32) * yx2)) + yv3) 214) (z_nm (yd.1 ya1 (z_ix (((89 : Int32) + ((4 : Int32) * yx2)) + yv3))) fun yv4 => zif (yv3 = (yv1 - (1 : Int32))) (zif ((yd.1 0 13) = (-9 : Int32)) (jX6_endsAt_59 yd ya1 yv4 yx3 yx6 yv3 yv2 yx4 yx5) (jX6_endsAt_67 yd ya1 yv4 yx3 yx6 yv3 yv2 yx4 yx5 (yd.1 0 13))) (jX6_endsAt_59 yd ya1 yv4 yx3 yx6 yv3 yv2 yx4 yx5)))) = some yq14 := h
      refine lv_iload hx hb dX6_endsAt_14 (lv_at hl 9 rfl) ?_
      refine lv_iload hx hb dX6_endsAt_16 (lv_at hl 8 rfl) ?_
      refine lv_icmp_ge (tgt := 215) hx hb dX6_endsAt_18 (by decide) (fun yc18 => ?_) (fun yc18 => ?_)
      · have h := z_ifp yc18 h
        exact hE215 _ _ _ _ (hq2 _ (z_sm h).symm) hP hS (lv_sub hl [7] rfl)
      · have h := z_ifn yc18 h
        refine lv_aload_n hx hb dX6_endsAt_21 rfl (lv_at hl 1 rfl) ?_
        refine lv_bipush (v := (89 : Int32)) hx hb dX6_endsAt_22 (by decide) ?_
        refine lv_iconst (v := (4 : Int32)) hx hb dX6_endsAt_24 (by decide) ?_
        refine lv_iload_n hx hb dX6_endsAt_25 rfl (lv_at hl 2 rfl) ?_
        refine lv_imul hx hb dX6_endsAt_26 ?_
        refine lv_iadd hx hb dX6_endsAt_27 ?_
        refine lv_iload hx hb dX6_endsAt_28 (lv_at hl 9 rfl) ?_
        refine lv_iadd hx hb dX6_endsAt_30 ?_
        obtain ⟨yg31, h⟩ := z_gi h
        refine al_M hx hb hK hP yh1 (by decide) yg31 dX6_endsAt_31 ?_
        refine lv_topi (fun yv4 e_yv4 => ?_)
        have h := z_nma e_yv4 h
        refine lv_istore (lv' := [(10, .int yv4), (0, .ref (ad 0)), (1, .ref (ad ya1)), (2, .int yx2), (3, .int yx3), (4, .int yx4), (5, .int yx5), (6, .int yx6), (7, .int yv2), (8, .int yv1), (9, .int yv3)]) hx hb dX6_endsAt_32 hl (by decide) rfl (fun ls hl => ?_)
        refine lv_iload hx hb dX6_endsAt_34 (lv_at hl 10 rfl) ?_
        refine lv_iload hx hb dX6_endsAt_36 (lv_at hl 9 rfl) ?_
        refine lv_iconst (v := (1 : Int32)) hx hb dX6_endsAt_38 (by decide) ?_
        refine lv_isub hx hb dX6_endsAt_39 ?_
        have hJ67 : ∀ (yv5 : Int32) (H : Heap) (locs : List Loc) (ls : Array Slot), jX6_endsAt_67 yd ya1 yv4 yx3 yx6 yv3 yv2 yx4 yx5 yv5 = some yq14 → va_P D vwCl (WM G ad yd) H → va_S A s.heap H locs → lv_has ls 14 [(0, .ref (ad 0)), (1, .ref (ad ya1)), (2, .int yx2), (3, .int yx3), (4, .int yx4), (5, .int yx5), (6, .int yx6), (7, .int yv2), (8, .int yv1), (9, .int yv3), (10, .int yv4)] → W p l e (z_rm 2 47) s m args below meth c H locs 0 0 Q (F0 m 67 ls [.int yv5]) := by
          intro yv5 H locs ls h hP hS hl
          have h : (zif (yv5 = (5 : Int32)) (jX6_endsAt_83 yd ya1 yv4 yx3 yx6 yv3 yv2 yx4 yx5) (z_gd (z_in yx3 214) (zif (yv5 = (yd.1 ya1 (z_ix yx3))) (jX6_endsAt_83 yd ya1 yv4 yx3 yx6 yv3 yv2 yx4 yx5) (jX6_endsAt_103 yv3 yv4 yv2 yx3 yx4 yd yx5)))) = some yq14 := h
          refine lv_istore (lv' := [(11, .int yv5), (0, .ref (ad 0)), (1, .ref (ad ya1)), (2, .int yx2), (3, .int yx3), (4, .int yx4), (5, .int yx5), (6, .int yx6), (7, .int yv2), (8, .int yv1), (9, .int yv3), (10, .int yv4)]) hx hb dX6_endsAt_67 hl (by decide) rfl (fun ls hl => ?_)
          refine lv_iload hx hb dX6_endsAt_69 (lv_at hl 0 rfl) ?_
          refine lv_iconst (v := (5 : Int32)) hx hb dX6_endsAt_71 (by decide) ?_
          have hJ104 : ∀ (yv6 : Int32) (H : Heap) (locs : List Loc) (ls : Array Slot), jX6_endsAt_104 yv3 yv4 yv2 yx3 yx4 yd yx5 yv6 = some yq14 → va_P D vwCl (WM G ad yd) H → va_S A s.heap H locs → lv_has ls 14 [(0, .ref (ad 0)), (1, .ref (ad ya1)), (2, .int yx2), (3, .int yx3), (4, .int yx4), (5, .int yx5), (6, .int yx6), (7, .int yv2), (8, .int yv1), (9, .int yv3), (10, .int yv4)] → W p l e (z_rm 2 47) s m args below meth c H locs 0 0 Q (F0 m 104 ls [.int yv6]) := by
            intro yv6 H locs ls h hP hS hl
            have h : (zif (yv3 = 0) (zif ((1000 : Int32) ≤ yv4) (jX6_endsAt_123 yv6 yv2 yv3) (zif (yx3 = 0) (jX6_endsAt_123 yv6 yv2 yv3) (jX6_endsAt_128 yv6 yv2 yv3 (0 : Int32)))) (zif (yv4 < (1000 : Int32)) (zif (yx4 ≤ 0) (jX6_endsAt_183 yv6 yv2 yv3) (z_gd (z_in (yx4 - (1 : Int32)) 8) (z_br (fX6_has (yd.1 10 (z_ix (yx4 - (1 : Int32)))) (yv3 - (1 : Int32))) fun yr12 => zif (yr12 = 0) (jX6_endsAt_183 yv6 yv2 yv3) (jX6_endsAt_184 yv6 yv2 yv3 (1 : Int32))))) (z_br (fX6_has yx5 (yv3 - (1 : Int32))) fun yr13 => jX6_endsAt_186 yv6 yv2 yv3 yr13))) = some yq14 := h
            refine lv_istore (lv' := [(12, .int yv6), (0, .ref (ad 0)), (1, .ref (ad ya1)), (2, .int yx2), (3, .int yx3), (4, .int yx4), (5, .int yx5), (6, .int yx6), (7, .int yv2), (8, .int yv1), (9, .int yv3), (10, .int yv4)]) hx hb dX6_endsAt_104 hl (by decide) rfl (fun ls hl => ?_)
            refine lv_iload hx hb dX6_endsAt_106 (lv_at hl 10 rfl) ?_
            have hJ186 : ∀ (yv7 : Int32) (H : Heap) (locs : List Loc) (ls : Array Slot), jX6_endsAt_186 yv6 yv2 yv3 yv7 = some yq14 → va_P D vwCl (WM G ad yd) H → va_S A s.heap H locs → lv_has ls 14 [(0, .ref (ad 0)), (1, .ref (ad ya1)), (2, .int yx2), (3, .int yx3), (4, .int yx4), (5, .int yx5), (6, .int yx6), (7, .int yv2), (8, .int yv1), (9, .int yv3), (12, .int yv6), (13, .int yv7)] → W p l e (z_rm 2 47) s m args below meth c H locs 0 0 Q (F0 m 186 ls []) := by
              intro yv7 H locs ls h hP hS hl
              have h : (zif (yv6 = 0) (jX6_endsAt_205 yv2 yv3) (zif (yv7 = 0) (jX6_endsAt_205 yv2 yv3) (jX6_endsAt_206 yv2 yv3 ((1 : Int32) <<< (yv3 &&& 31))))) = some yq14 := h
              refine lv_iload hx hb dX6_endsAt_186 (lv_at hl 7 rfl) ?_
              refine lv_iload hx hb dX6_endsAt_188 (lv_at hl 10 rfl) ?_
              have hJ206 : ∀ (yv8 : Int32) (H : Heap) (locs : List Loc) (ls : Array Slot), jX6_endsAt_206 yv2 yv3 yv8 = some yq14 → va_P D vwCl (WM G ad yd) H → va_S A s.heap H locs → lv_has ls 14 [(0, .ref (ad 0)), (1, .ref (ad ya1)), (2, .int yx2), (3, .int yx3), (4, .int yx4), (5, .int yx5), (6, .int yx6), (8, .int yv1), (9, .int yv3)] → W p l e (z_rm 2 47) s m args below meth c H locs 0 0 Q (F0 m 206 ls [.int yv8, .int yv2]) := by
                intro yv8 H locs ls h hP hS hl
                have h : (z_nm (yv2 ||| yv8) fun yv9 => z_nm (yv3 + (1 : Int32)) fun yv10 => some (.inl (yv9, yv10))) = some yq14 := h
                refine lv_ior hx hb dX6_endsAt_206 ?_
                refine lv_topi (fun yv9 e_yv9 => ?_)
                have h := z_nma e_yv9 h
                refine lv_istore (lv' := [(7, .int yv9), (0, .ref (ad 0)), (1, .ref (ad ya1)), (2, .int yx2), (3, .int yx3), (4, .int yx4), (5, .int yx5), (6, .int yx6), (8, .int yv1), (9, .int yv3)]) hx hb dX6_endsAt_207 hl (by decide) rfl (fun ls hl => ?_)
                obtain ⟨yv10, e_yv10, h⟩ := z_nmx h
                refine lv_iinc (v := yv10) (lv' := [(9, .int yv10), (7, .int yv9), (0, .ref (ad 0)), (1, .ref (ad ya1)), (2, .int yx2), (3, .int yx3), (4, .int yx4), (5, .int yx5), (6, .int yx6), (8, .int yv1)]) hx hb dX6_endsAt_209 hl (k := 9) rfl (by rw [e_yv10]; rfl) (by decide) rfl (fun ls hl => ?_)
                refine lv_goto (tgt := 14) hx hb dX6_endsAt_212 (by decide) ?_
                exact ih _ _ _ _ _ (hq1 _ (z_sm h).symm) hP hS (lv_sub hl [2, 3, 4, 5, 6, 7, 8, 1, 9, 0] rfl)
              have hJ205 : ∀  (H : Heap) (locs : List Loc) (ls : Array Slot), jX6_endsAt_205 yv2 yv3 = some yq14 → va_P D vwCl (WM G ad yd) H → va_S A s.heap H locs → lv_has ls 14 [(0, .ref (ad 0)), (1, .ref (ad ya1)), (2, .int yx2), (3, .int yx3), (4, .int yx4), (5, .int yx5), (6, .int yx6), (8, .int yv1), (9, .int yv3)] → W p l e (z_rm 2 47) s m args below meth c H locs 0 0 Q (F0 m 205 ls [.int yv2]) := by
                intro  H locs ls h hP hS hl
                have h : (jX6_endsAt_206 yv2 yv3 (0 : Int32)) = some yq14 := h
                refine lv_iconst (v := (0 : Int32)) hx hb dX6_endsAt_205 (by decide) ?_
                exact hJ206 _ _ _ _ h hP hS (lv_sub hl [0, 1, 2, 3, 4, 5, 6, 7, 8] rfl)
              refine lv_if_eq (tgt := 205) hx hb dX6_endsAt_190 (by decide) (fun yc190 => ?_) (fun yc190 => ?_)
              · have h := z_ifp yc190 h
                exact hJ205  _ _ _ h hP hS (lv_sub hl [0, 1, 2, 3, 4, 5, 6, 8, 9] rfl)
              · have h := z_ifn yc190 h
                refine lv_iload hx hb dX6_endsAt_193 (lv_at hl 11 rfl) ?_
                refine lv_if_eq (tgt := 205) hx hb dX6_endsAt_195 (by decide) (fun yc195 => ?_) (fun yc195 => ?_)
                · have h := z_ifp yc195 h
                  exact hJ205  _ _ _ h hP hS (lv_sub hl [0, 1, 2, 3, 4, 5, 6, 8, 9] rfl)
                · have h := z_ifn yc195 h
                  refine lv_iconst (v := (1 : Int32)) hx hb dX6_endsAt_198 (by decide) ?_
                  refine lv_iload hx hb dX6_endsAt_199 (lv_at hl 9 rfl) ?_
                  refine lv_ishl hx hb dX6_endsAt_201 ?_
                  refine lv_goto (tgt := 206) hx hb dX6_endsAt_202 (by decide) ?_
                  exact hJ206 _ _ _ _ h hP hS (lv_sub hl [0, 1, 2, 3, 4, 5, 6, 8, 9] rfl)
            refine lv_if_ne (tgt := 133) hx hb dX6_endsAt_108 (by decide) (fun yc108 => ?_) (fun yc108 => ?_)
            · have h := z_ifn yc108 h
              refine lv_iload hx hb dX6_endsAt_133 (lv_at hl 11 rfl) ?_
              refine lv_sipush (v := (1000 : Int32)) hx hb dX6_endsAt_135 (by decide) ?_
              refine lv_icmp_lt (tgt := 155) hx hb dX6_endsAt_138 (by decide) (fun yc138 => ?_) (fun yc138 => ?_)
              · have h := z_ifp yc138 h
                refine lv_iload hx hb dX6_endsAt_155 (lv_at hl 5 rfl) ?_
                have hJ184 : ∀ (yv11 : Int32) (H : Heap) (locs : List Loc) (ls : Array Slot), jX6_endsAt_184 yv6 yv2 yv3 yv11 = some yq14 → va_P D vwCl (WM G ad yd) H → va_S A s.heap H locs → lv_has ls 14 [(0, .ref (ad 0)), (1, .ref (ad ya1)), (2, .int yx2), (3, .int yx3), (4, .int yx4), (5, .int yx5), (6, .int yx6), (7, .int yv2), (8, .int yv1), (9, .int yv3), (12, .int yv6)] → W p l e (z_rm 2 47) s m args below meth c H locs 0 0 Q (F0 m 184 ls [.int yv11]) := by
                  intro yv11 H locs ls h hP hS hl
                  have h : (jX6_endsAt_186 yv6 yv2 yv3 yv11) = some yq14 := h
                  refine lv_istore (lv' := [(13, .int yv11), (0, .ref (ad 0)), (1, .ref (ad ya1)), (2, .int yx2), (3, .int yx3), (4, .int yx4), (5, .int yx5), (6, .int yx6), (7, .int yv2), (8, .int yv1), (9, .int yv3), (12, .int yv6)]) hx hb dX6_endsAt_184 hl (by decide) rfl (fun ls hl => ?_)
                  exact hJ186 _ _ _ _ h hP hS (lv_sub hl [1, 2, 3, 4, 5, 6, 7, 8, 9, 10, 11, 0] rfl)
                have hJ183 : ∀  (H : Heap) (locs : List Loc) (ls : Array Slot), jX6_endsAt_183 yv6 yv2 yv3 = some yq14 → va_P D vwCl (WM G ad yd) H → va_S A s.heap H locs → lv_has ls 14 [(0, .ref (ad 0)), (1, .ref (ad ya1)), (2, .int yx2), (3, .int yx3), (4, .int yx4), (5, .int yx5), (6, .int yx6), (7, .int yv2), (8, .int yv1), (9, .int yv3), (12, .int yv6)] → W p l e (z_rm 2 47) s m args below meth c H locs 0 0 Q (F0 m 183 ls []) := by
                  intro  H locs ls h hP hS hl
                  have h : (jX6_endsAt_184 yv6 yv2 yv3 (0 : Int32)) = some yq14 := h
                  refine lv_iconst (v := (0 : Int32)) hx hb dX6_endsAt_183 (by decide) ?_
                  exact hJ184 _ _ _ _ h hP hS (lv_sub hl [0, 1, 2, 3, 4, 5, 6, 7, 8, 9, 10] rfl)
                refine lv_if_le (tgt := 183) hx hb dX6_endsAt_157 (by decide) (fun yc157 => ?_) (fun yc157 => ?_)
                · have h := z_ifp yc157 h
                  exact hJ183  _ _ _ h hP hS (lv_sub hl [1, 2, 3, 4, 5, 6, 7, 8, 9, 10, 0] rfl)
                · have h := z_ifn yc157 h
                  refine lv_aload_n hx hb dX6_endsAt_160 rfl (lv_at hl 1 rfl) ?_
                  refine gt_X6_15 hx hb hts hown hK hP (hts _ wl_3_149) dX6_endsAt_161 ?_
                  refine lv_iload hx hb dX6_endsAt_164 (lv_at hl 5 rfl) ?_
                  refine lv_iconst (v := (1 : Int32)) hx hb dX6_endsAt_166 (by decide) ?_
                  refine lv_isub hx hb dX6_endsAt_167 ?_
                  obtain ⟨yg168, h⟩ := z_gi h
                  refine al_M hx hb hK hP rfl (by decide) yg168 dX6_endsAt_168 ?_
                  refine lv_iload hx hb dX6_endsAt_169 (lv_at hl 10 rfl) ?_
                  refine lv_iconst (v := (1 : Int32)) hx hb dX6_endsAt_171 (by decide) ?_
                  refine lv_isub hx hb dX6_endsAt_172 ?_
                  obtain ⟨yr12, yhc173, h⟩ := z_brx h
                  refine z_kz (z_rS (As := [.int (yd.1 10 (z_ix (yx4 - (1 : Int32)))), .int (yv3 - (1 : Int32))]) (rest := []) ⟨hx, hb, hml, hown, hts⟩ hK hP (kX6_has yhc173) giX6_122 ⟨rfl, rfl⟩ ndX6_has ⟨Nat.le_of_ble_eq_true rfl, Nat.le_of_ble_eq_true rfl⟩ rfl hl.1 rfl (Nat.le_of_ble_eq_true rfl) ⟨Nat.le_refl _, Nat.le_refl _⟩ dX6_endsAt_173) hS (fun H locs z_yr12 hP hS => ?_)
                  refine lv_if_eq (tgt := 183) hx hb dX6_endsAt_176 (by decide) (fun yc176 => ?_) (fun yc176 => ?_)
                  · have h := z_ifp yc176 h
                    exact hJ183  _ _ _ h hP hS (lv_sub hl [1, 2, 3, 4, 5, 6, 7, 8, 9, 10, 0] rfl)
                  · have h := z_ifn yc176 h
                    refine lv_iconst (v := (1 : Int32)) hx hb dX6_endsAt_179 (by decide) ?_
                    refine lv_goto (tgt := 184) hx hb dX6_endsAt_180 (by decide) ?_
                    exact hJ184 _ _ _ _ h hP hS (lv_sub hl [1, 2, 3, 4, 5, 6, 7, 8, 9, 10, 0] rfl)
              · have h := z_ifn yc138 h
                refine lv_iload hx hb dX6_endsAt_141 (lv_at hl 6 rfl) ?_
                refine lv_iload hx hb dX6_endsAt_143 (lv_at hl 10 rfl) ?_
                refine lv_iconst (v := (1 : Int32)) hx hb dX6_endsAt_145 (by decide) ?_
                refine lv_isub hx hb dX6_endsAt_146 ?_
                obtain ⟨yr13, yhc147, h⟩ := z_brx h
                refine z_kz (z_rS (As := [.int yx5, .int (yv3 - (1 : Int32))]) (rest := []) ⟨hx, hb, hml, hown, hts⟩ hK hP (kX6_has yhc147) giX6_122 ⟨rfl, rfl⟩ ndX6_has ⟨Nat.le_of_ble_eq_true rfl, Nat.le_of_ble_eq_true rfl⟩ rfl hl.1 rfl (Nat.le_of_ble_eq_true rfl) ⟨Nat.le_refl _, Nat.le_refl _⟩ dX6_endsAt_147) hS (fun H locs z_yr13 hP hS => ?_)
                refine lv_istore (lv' := [(13, .int yr13), (12, .int yv6), (0, .ref (ad 0)), (1, .ref (ad ya1)), (2, .int yx2), (3, .int yx3), (4, .int yx4), (5, .int yx5), (6, .int yx6), (7, .int yv2), (8, .int yv1), (9, .int yv3), (10, .int yv4)]) hx hb dX6_endsAt_150 hl (by decide) rfl (fun ls hl => ?_)
                refine lv_goto (tgt := 186) hx hb dX6_endsAt_152 (by decide) ?_
                exact hJ186 _ _ _ _ h hP hS (lv_sub hl [2, 3, 4, 5, 6, 7, 8, 9, 10, 11, 1, 0] rfl)
            · have h := z_ifp yc108 h
              refine lv_iload hx hb dX6_endsAt_111 (lv_at hl 11 rfl) ?_
              refine lv_sipush (v := (1000 : Int32)) hx hb dX6_endsAt_113 (by decide) ?_
              have hJ128 : ∀ (yv14 : Int32) (H : Heap) (locs : List Loc) (ls : Array Slot), jX6_endsAt_128 yv6 yv2 yv3 yv14 = some yq14 → va_P D vwCl (WM G ad yd) H → va_S A s.heap H locs → lv_has ls 14 [(0, .ref (ad 0)), (1, .ref (ad ya1)), (2, .int yx2), (3, .int yx3), (4, .int yx4), (5, .int yx5), (6, .int yx6), (7, .int yv2), (8, .int yv1), (9, .int yv3), (12, .int yv6)] → W p l e (z_rm 2 47) s m args below meth c H locs 0 0 Q (F0 m 128 ls [.int yv14]) := by
                intro yv14 H locs ls h hP hS hl
                have h : (jX6_endsAt_186 yv6 yv2 yv3 yv14) = some yq14 := h
                refine lv_istore (lv' := [(13, .int yv14), (0, .ref (ad 0)), (1, .ref (ad ya1)), (2, .int yx2), (3, .int yx3), (4, .int yx4), (5, .int yx5), (6, .int yx6), (7, .int yv2), (8, .int yv1), (9, .int yv3), (12, .int yv6)]) hx hb dX6_endsAt_128 hl (by decide) rfl (fun ls hl => ?_)
                refine lv_goto (tgt := 186) hx hb dX6_endsAt_130 (by decide) ?_
                exact hJ186 _ _ _ _ h hP hS (lv_sub hl [1, 2, 3, 4, 5, 6, 7, 8, 9, 10, 11, 0] rfl)
              have hJ123 : ∀  (H : Heap) (locs : List Loc) (ls : Array Slot), jX6_endsAt_123 yv6 yv2 yv3 = some yq14 → va_P D vwCl (WM G ad yd) H → va_S A s.heap H locs → lv_has ls 14 [(0, .ref (ad 0)), (1, .ref (ad ya1)), (2, .int yx2), (3, .int yx3), (4, .int yx4), (5, .int yx5), (6, .int yx6), (7, .int yv2), (8, .int yv1), (9, .int yv3), (12, .int yv6)] → W p l e (z_rm 2 47) s m args below meth c H locs 0 0 Q (F0 m 123 ls []) := by
                intro  H locs ls h hP hS hl
                have h : (jX6_endsAt_128 yv6 yv2 yv3 (1 : Int32)) = some yq14 := h
                refine lv_iconst (v := (1 : Int32)) hx hb dX6_endsAt_123 (by decide) ?_
                refine lv_goto (tgt := 128) hx hb dX6_endsAt_124 (by decide) ?_
                exact hJ128 _ _ _ _ h hP hS (lv_sub hl [0, 1, 2, 3, 4, 5, 6, 7, 8, 9, 10] rfl)
              refine lv_icmp_ge (tgt := 123) hx hb dX6_endsAt_116 (by decide) (fun yc116 => ?_) (fun yc116 => ?_)
              · have h := z_ifp yc116 h
                exact hJ123  _ _ _ h hP hS (lv_sub hl [1, 2, 3, 4, 5, 6, 7, 8, 9, 10, 0] rfl)
              · have h := z_ifn yc116 h
                refine lv_iload_n hx hb dX6_endsAt_119 rfl (lv_at hl 4 rfl) ?_
                refine lv_if_ne (tgt := 127) hx hb dX6_endsAt_120 (by decide) (fun yc120 => ?_) (fun yc120 => ?_)
                · have h := z_ifn yc120 h
                  refine lv_iconst (v := (0 : Int32)) hx hb dX6_endsAt_127 (by decide) ?_
                  exact hJ128 _ _ _ _ h hP hS (lv_sub hl [1, 2, 3, 4, 5, 6, 7, 8, 9, 10, 0] rfl)
                · have h := z_ifp yc120 h
                  exact hJ123  _ _ _ h hP hS (lv_sub hl [1, 2, 3, 4, 5, 6, 7, 8, 9, 10, 0] rfl)
          have hJ103 : ∀  (H : Heap) (locs : List Loc) (ls : Array Slot), jX6_endsAt_103 yv3 yv4 yv2 yx3 yx4 yd yx5 = some yq14 → va_P D vwCl (WM G ad yd) H → va_S A s.heap H locs → lv_has ls 14 [(0, .ref (ad 0)), (1, .ref (ad ya1)), (2, .int yx2), (3, .int yx3), (4, .int yx4), (5, .int yx5), (6, .int yx6), (7, .int yv2), (8, .int yv1), (9, .int yv3), (10, .int yv4)] → W p l e (z_rm 2 47) s m args below meth c H locs 0 0 Q (F0 m 103 ls []) := by
            intro  H locs ls h hP hS hl
            have h : (jX6_endsAt_104 yv3 yv4 yv2 yx3 yx4 yd yx5 (0 : Int32)) = some yq14 := h
            refine lv_iconst (v := (0 : Int32)) hx hb dX6_endsAt_103 (by decide) ?_
            exact hJ104 _ _ _ _ h hP hS (lv_sub hl [0, 1, 2, 3, 4, 5, 6, 7, 8, 9, 10] rfl)
          have hJ83 : ∀  (H : Heap) (locs : List Loc) (ls : Array Slot), jX6_endsAt_83 yd ya1 yv4 yx3 yx6 yv3 yv2 yx4 yx5 = some yq14 → va_P D vwCl (WM G ad yd) H → va_S A s.heap H locs → lv_has ls 14 [(0, .ref (ad 0)), (1, .ref (ad ya1)), (2, .int yx2), (3, .int yx3), (4, .int yx4), (5, .int yx5), (6, .int yx6), (7, .int yv2), (8, .int yv1), (9, .int yv3), (10, .int yv4)] → W p l e (z_rm 2 47) s m args below meth c H locs 0 0 Q (F0 m 83 ls []) := by
            intro  H locs ls h hP hS hl
            have h : (z_br (fX6_isMet yd ya1 (yv4 - yv4 / (100 : Int32) * (100 : Int32)) yx3 yx6) fun yr15 => zif (yr15 = 0) (jX6_endsAt_103 yv3 yv4 yv2 yx3 yx4 yd yx5) (jX6_endsAt_104 yv3 yv4 yv2 yx3 yx4 yd yx5 (1 : Int32))) = some yq14 := h
            refine lv_aload_n hx hb dX6_endsAt_83 rfl (lv_at hl 0 rfl) ?_
            refine lv_aload_n hx hb dX6_endsAt_84 rfl (lv_at hl 1 rfl) ?_
            refine lv_iload hx hb dX6_endsAt_85 (lv_at hl 10 rfl) ?_
            refine lv_bipush (v := (100 : Int32)) hx hb dX6_endsAt_87 (by decide) ?_
            refine lv_irem hx hb dX6_endsAt_89 (by decide) ?_
            refine lv_iload_n hx hb dX6_endsAt_90 rfl (lv_at hl 3 rfl) ?_
            refine lv_iload hx hb dX6_endsAt_91 (lv_at hl 6 rfl) ?_
            obtain ⟨yr15, yhc93, h⟩ := z_brx h
            refine z_kz (z_rV (As := [.ref (ad ya1), .int (yv4 - yv4 / (100 : Int32) * (100 : Int32)), .int yx3, .int yx6]) (rest := []) ⟨hx, hb, hml, hown, hts⟩ hK hP w_X6 rfl (kX6_isMet hI yh1 z_yx6 yhc93) giX6_126 ⟨rfl, rfl⟩ ndX6_isMet ⟨Nat.le_of_ble_eq_true rfl, Nat.le_of_ble_eq_true rfl⟩ rfl hl.1 rfl (Nat.le_of_ble_eq_true rfl) ⟨Nat.le_refl _, Nat.le_refl _⟩ dX6_endsAt_93) hS (fun H locs z_yr15 hP hS => ?_)
            refine lv_if_eq (tgt := 103) hx hb dX6_endsAt_96 (by decide) (fun yc96 => ?_) (fun yc96 => ?_)
            · have h := z_ifp yc96 h
              exact hJ103  _ _ _ h hP hS (lv_sub hl [0, 1, 2, 3, 4, 5, 6, 7, 8, 9, 10] rfl)
            · have h := z_ifn yc96 h
              refine lv_iconst (v := (1 : Int32)) hx hb dX6_endsAt_99 (by decide) ?_
              refine lv_goto (tgt := 104) hx hb dX6_endsAt_100 (by decide) ?_
              exact hJ104 _ _ _ _ h hP hS (lv_sub hl [0, 1, 2, 3, 4, 5, 6, 7, 8, 9, 10] rfl)
          refine lv_icmp_eq (tgt := 83) hx hb dX6_endsAt_72 (by decide) (fun yc72 => ?_) (fun yc72 => ?_)
          · have h := z_ifp yc72 h
            exact hJ83  _ _ _ h hP hS (lv_sub hl [1, 2, 3, 4, 5, 6, 7, 8, 9, 10, 11] rfl)
          · have h := z_ifn yc72 h
            refine lv_iload hx hb dX6_endsAt_75 (lv_at hl 0 rfl) ?_
            refine lv_aload_n hx hb dX6_endsAt_77 rfl (lv_at hl 2 rfl) ?_
            refine lv_iload_n hx hb dX6_endsAt_78 rfl (lv_at hl 4 rfl) ?_
            obtain ⟨yg79, h⟩ := z_gi h
            refine al_M hx hb hK hP yh1 (by decide) yg79 dX6_endsAt_79 ?_
            refine lv_icmp_ne (tgt := 103) hx hb dX6_endsAt_80 (by decide) (fun yc80 => ?_) (fun yc80 => ?_)
            · have h := z_ifn yc80 h
              exact hJ103  _ _ _ h hP hS (lv_sub hl [1, 2, 3, 4, 5, 6, 7, 8, 9, 10, 11] rfl)
            · have h := z_ifp yc80 h
              exact hJ83  _ _ _ h hP hS (lv_sub hl [1, 2, 3, 4, 5, 6, 7, 8, 9, 10, 11] rfl)
        have hJ59 : ∀  (H : Heap) (locs : List Loc) (ls : Array Slot), jX6_endsAt_59 yd ya1 yv4 yx3 yx6 yv3 yv2 yx4 yx5 = some yq14 → va_P D vwCl (WM G ad yd) H → va_S A s.heap H locs → lv_has ls 14 [(0, .ref (ad 0)), (1, .ref (ad ya1)), (2, .int yx2), (3, .int yx3), (4, .int yx4), (5, .int yx5), (6, .int yx6), (7, .int yv2), (8, .int yv1), (9, .int yv3), (10, .int yv4)] → W p l e (z_rm 2 47) s m args below meth c H locs 0 0 Q (F0 m 59 ls []) := by
          intro  H locs ls h hP hS hl
          have h : (jX6_endsAt_67 yd ya1 yv4 yx3 yx6 yv3 yv2 yx4 yx5 ((yv4 / (100 : Int32)) - (yv4 / (100 : Int32)) / (10 : Int32) * (10 : Int32))) = some yq14 := h
          refine lv_iload hx hb dX6_endsAt_59 (lv_at hl 10 rfl) ?_
          refine lv_bipush (v := (100 : Int32)) hx hb dX6_endsAt_61 (by decide) ?_
          refine lv_idiv hx hb dX6_endsAt_63 (by decide) ?_
          refine lv_bipush (v := (10 : Int32)) hx hb dX6_endsAt_64 (by decide) ?_
          refine lv_irem hx hb dX6_endsAt_66 (by decide) ?_
          exact hJ67 _ _ _ _ h hP hS (lv_sub hl [0, 1, 2, 3, 4, 5, 6, 7, 8, 9, 10] rfl)
        refine lv_icmp_ne (tgt := 59) hx hb dX6_endsAt_40 (by decide) (fun yc40 => ?_) (fun yc40 => ?_)
        · have h := z_ifn yc40 h
          exact hJ59  _ _ _ h hP hS (lv_sub hl [1, 2, 3, 4, 5, 6, 7, 8, 9, 10, 0] rfl)
        · have h := z_ifp yc40 h
          refine lv_aload_n hx hb dX6_endsAt_43 rfl (lv_at hl 1 rfl) ?_
          refine gt_X6_13 hx hb hts hown hK hP (hts _ wl_3_147) dX6_endsAt_44 ?_
          refine lv_bipush (v := (-9 : Int32)) hx hb dX6_endsAt_47 (by decide) ?_
          refine lv_icmp_eq (tgt := 59) hx hb dX6_endsAt_49 (by decide) (fun yc49 => ?_) (fun yc49 => ?_)
          · have h := z_ifp yc49 h
            exact hJ59  _ _ _ h hP hS (lv_sub hl [1, 2, 3, 4, 5, 6, 7, 8, 9, 10, 0] rfl)
          · have h := z_ifn yc49 h
            refine lv_aload_n hx hb dX6_endsAt_52 rfl (lv_at hl 1 rfl) ?_
            refine gt_X6_13 hx hb hts hown hK hP (hts _ wl_3_147) dX6_endsAt_53 ?_
            refine lv_goto (tgt := 67) hx hb dX6_endsAt_56 (by decide) ?_
            exact hJ67 _ _ _ _ h hP hS (lv_sub hl [1, 2, 3, 4, 5, 6, 7, 8, 9, 10, 0] rfl)
  exact hL14 yn14 _ _ _ _ _ hlp hP hS (lv_sub hl [3, 4, 5, 6, 7, 8, 9, 2, 1, 0] rfl)
noncomputable def bX6_endsOf_14 (yr1 : Int32) (ya1 : Nat) (yx2 : Int32) (yx4 : Int32) (s : Int32 × Int32 × Dt) : Option ((Int32 × Int32 × Dt) ⊕ (Dt)) := match s with
  | (yv3, yv4, yd5) => zif (yr1 ≤ yv4) (some (.inr yd5)) (z_gd (z_in yv4 8) (z_br (fX6_endsAt yd5 ya1 yx2 (yd5.1 9 (z_ix yv4)) yv4 yv3 yx4) fun yr6 => z_gd (z_in yv4 8) (z_nm (z_st yd5 10 (z_ix yv4) yr6) fun yd7 => z_gd (z_in yv4 8) (z_nm (yv3 ||| (yd7.1 10 (z_ix yv4))) fun yv8 => z_nm (yv4 + (1 : Int32)) fun yv9 => some (.inl (yv8, yv9, yd7))))))
noncomputable def fX6_endsOf (yd : Dt) (ya1 : Nat) (yx2 : Int32) (yx3 : Int32) (yx4 : Int32) : Option (Int32 × Dt) :=
  z_bd (fX6_layWay yd ya1 yx3) fun yr1 yd2 => z_br (z_lp (bX6_endsOf_14 yr1 ya1 yx2 yx4) ((0 : Int32), (0 : Int32), yd2)) (fun t => match t with | yd10 => z_gd (z_in (yr1 - (1 : Int32)) 8) (some ((yd10.1 10 (z_ix (yr1 - (1 : Int32)))), yd10)))
set_option maxHeartbeats 4000000 in
set_option maxRecDepth 100000 in
theorem kX6_endsOf {l : Launch} {D : va_G} {G : z_G} {ad : Nat → Nat} {A : Nat → Prop} (hI : ∀ d, va_D A (WM G ad d)) {yd : Dt} {ya1 : Nat} {yx2 : Int32} {yx3 : Int32} {yx4 : Int32} (yh1 : arM ya1 = 214) (z_yx4 : yx4 = 0 ∨ yx4 = 1) {rr : Int32} {dd : Dt} (h : fX6_endsOf yd ya1 yx2 yx3 yx4 = some (rr, dd)) : z_Mi l D G A (WM G ad) yX6_endsOf cX6_endsOf 8 (z_rm 3 80) yd [.ref (ad 0), .ref (ad ya1), .int yx2, .int yx3, .int yx4] rr dd := by
  refine z_ofi (by decide) (Nat.le_of_ble_eq_true rfl) fun p e s m args below meth c Q hx hb hml hown hts hK hP hRet ls hl => ?_
  have hS : va_S A s.heap s.heap [] := va_S.rf
  have hl : lv_has ls 8 [(0, .ref (ad 0)), (1, .ref (ad ya1)), (2, .int yx2), (3, .int yx3), (4, .int yx4)] := hl
  have h : (z_bd (fX6_layWay yd ya1 yx3) fun yr1 yd2 => z_br (z_lp (bX6_endsOf_14 yr1 ya1 yx2 yx4) ((0 : Int32), (0 : Int32), yd2)) (fun t => match t with | yd10 => z_gd (z_in (yr1 - (1 : Int32)) 8) (some ((yd10.1 10 (z_ix (yr1 - (1 : Int32)))), yd10)))) = some (rr, dd) := h
  refine lv_aload_n hx hb dX6_endsOf_0 rfl (lv_at hl 0 rfl) ?_
  refine lv_aload_n hx hb dX6_endsOf_1 rfl (lv_at hl 1 rfl) ?_
  refine lv_iload_n hx hb dX6_endsOf_2 rfl (lv_at hl 3 rfl) ?_
  obtain ⟨yr1, yd2, yhc3, h⟩ := z_bdx h
  refine z_ki (z_rV (As := [.ref (ad ya1), .int yx3]) (rest := []) ⟨hx, hb, hml, hown, hts⟩ hK hP w_X6 rfl (kX6_layWay hI yh1 yhc3) giX6_130 ⟨rfl, rfl⟩ ndX6_layWay ⟨Nat.le_of_ble_eq_true rfl, Nat.le_of_ble_eq_true rfl⟩ rfl hl.1 rfl (Nat.le_of_ble_eq_true rfl) ⟨Nat.le_refl _, Nat.le_refl _⟩ dX6_endsOf_3) hS (fun H locs hP hS => ?_)
  refine lv_istore (lv' := [(5, .int yr1), (0, .ref (ad 0)), (1, .ref (ad ya1)), (2, .int yx2), (3, .int yx3), (4, .int yx4)]) hx hb dX6_endsOf_6 hl (by decide) rfl (fun ls hl => ?_)
  refine lv_iconst (v := (0 : Int32)) hx hb dX6_endsOf_8 (by decide) ?_
  refine lv_istore (lv' := [(6, .int (0 : Int32)), (5, .int yr1), (0, .ref (ad 0)), (1, .ref (ad ya1)), (2, .int yx2), (3, .int yx3), (4, .int yx4)]) hx hb dX6_endsOf_9 hl (by decide) rfl (fun ls hl => ?_)
  refine lv_iconst (v := (0 : Int32)) hx hb dX6_endsOf_11 (by decide) ?_
  refine lv_istore (lv' := [(7, .int (0 : Int32)), (6, .int (0 : Int32)), (5, .int yr1), (0, .ref (ad 0)), (1, .ref (ad ya1)), (2, .int yx2), (3, .int yx3), (4, .int yx4)]) hx hb dX6_endsOf_12 hl (by decide) rfl (fun ls hl => ?_)
  obtain ⟨yt14, hlp, h⟩ := z_brx h
  obtain ⟨yn14, hlp⟩ := z_lpx hlp
  have hE65 : ∀ (yd10 : Dt) (H : Heap) (locs : List Loc) (ls : Array Slot), yd10 = yt14 → va_P D vwCl (WM G ad yd10) H → va_S A s.heap H locs → lv_has ls 8 [(0, .ref (ad 0)), (5, .int yr1)] → W p l e (z_rm 3 80) s m args below meth c H locs 0 0 Q (F0 m 65 ls []) := by
    intro yd10 H locs ls et hP hS hl
    subst et
    have h : (z_gd (z_in (yr1 - (1 : Int32)) 8) (some ((yd10.1 10 (z_ix (yr1 - (1 : Int32)))), yd10))) = some (rr, dd) := h
    refine lv_aload_n hx hb dX6_endsOf_65 rfl (lv_at hl 0 rfl) ?_
    refine gt_X6_15 hx hb hts hown hK hP (hts _ wl_3_149) dX6_endsOf_66 ?_
    refine lv_iload hx hb dX6_endsOf_69 (lv_at hl 1 rfl) ?_
    refine lv_iconst (v := (1 : Int32)) hx hb dX6_endsOf_71 (by decide) ?_
    refine lv_isub hx hb dX6_endsOf_72 ?_
    obtain ⟨yg73, h⟩ := z_gi h
    refine al_M hx hb hK hP rfl (by decide) yg73 dX6_endsOf_73 ?_
    exact hRet _ _ _ _ _ _ hP hS h dX6_endsOf_74
  have hL14 : ∀ (n : Nat) (yv3 : Int32) (yv4 : Int32) (yd5 : Dt) (H : Heap) (locs : List Loc) (ls : Array Slot), z_it (bX6_endsOf_14 yr1 ya1 yx2 yx4) n (yv3, yv4, yd5) = some yt14 → va_P D vwCl (WM G ad yd5) H → va_S A s.heap H locs → lv_has ls 8 [(0, .ref (ad 0)), (1, .ref (ad ya1)), (2, .int yx2), (4, .int yx4), (5, .int yr1), (6, .int yv3), (7, .int yv4)] → W p l e (z_rm 3 80) s m args below meth c H locs 0 0 Q (F0 m 14 ls []) := by
    intro n
    induction n with
    | zero => intro yv3 yv4 yd5 H locs ls hn; exact z_it0 hn
    | succ n ih =>
      intro yv3 yv4 yd5 H locs ls hn hP hS hl
      obtain ⟨yq14, h, hq1, hq2⟩ := z_itx hn
      have h : (zif (yr1 ≤ yv4) (some (.inr yd5)) (z_gd (z_in yv4 8) (z_br (fX6_endsAt yd5 ya1 yx2 (yd5.1 9 (z_ix yv4)) yv4 yv3 yx4) fun yr6 => z_gd (z_in yv4 8) (z_nm (z_st yd5 10 (z_ix yv4) yr6) fun yd7 => z_gd (z_in yv4 8) (z_nm (yv3 ||| (yd7.1 10 (z_ix yv4))) fun yv8 => z_nm (yv4 + (1 : Int32)) fun yv9 => some (.inl (yv8, yv9, yd7))))))) = some yq14 := h
      refine lv_iload hx hb dX6_endsOf_14 (lv_at hl 6 rfl) ?_
      refine lv_iload hx hb dX6_endsOf_16 (lv_at hl 4 rfl) ?_
      refine lv_icmp_ge (tgt := 65) hx hb dX6_endsOf_18 (by decide) (fun yc18 => ?_) (fun yc18 => ?_)
      · have h := z_ifp yc18 h
        exact hE65 _ _ _ _ (hq2 _ (z_sm h).symm) hP hS (lv_sub hl [0, 4] rfl)
      · have h := z_ifn yc18 h
        refine lv_aload_n hx hb dX6_endsOf_21 rfl (lv_at hl 0 rfl) ?_
        refine gt_X6_15 hx hb hts hown hK hP (hts _ wl_3_149) dX6_endsOf_22 ?_
        refine lv_iload hx hb dX6_endsOf_25 (lv_at hl 6 rfl) ?_
        refine lv_aload_n hx hb dX6_endsOf_27 rfl (lv_at hl 0 rfl) ?_
        refine lv_aload_n hx hb dX6_endsOf_28 rfl (lv_at hl 1 rfl) ?_
        refine lv_iload_n hx hb dX6_endsOf_29 rfl (lv_at hl 2 rfl) ?_
        refine lv_aload_n hx hb dX6_endsOf_30 rfl (lv_at hl 0 rfl) ?_
        refine gt_X6_14 hx hb hts hown hK hP (hts _ wl_3_148) dX6_endsOf_31 ?_
        refine lv_iload hx hb dX6_endsOf_34 (lv_at hl 6 rfl) ?_
        obtain ⟨yg36, h⟩ := z_gi h
        refine al_M hx hb hK hP rfl (by decide) yg36 dX6_endsOf_36 ?_
        refine lv_iload hx hb dX6_endsOf_37 (lv_at hl 6 rfl) ?_
        refine lv_iload hx hb dX6_endsOf_39 (lv_at hl 5 rfl) ?_
        refine lv_iload hx hb dX6_endsOf_41 (lv_at hl 3 rfl) ?_
        obtain ⟨yr6, yhc43, h⟩ := z_brx h
        refine z_ki (z_rV (As := [.ref (ad ya1), .int yx2, .int (yd5.1 9 (z_ix yv4)), .int yv4, .int yv3, .int yx4]) (rest := [.int yv4, .ref (ad 10)]) ⟨hx, hb, hml, hown, hts⟩ hK hP w_X6 rfl (kX6_endsAt hI yh1 z_yx4 yhc43) giX6_133 ⟨rfl, rfl⟩ ndX6_endsAt ⟨Nat.le_of_ble_eq_true rfl, Nat.le_of_ble_eq_true rfl⟩ rfl hl.1 rfl (Nat.le_of_ble_eq_true rfl) ⟨Nat.le_refl _, Nat.le_refl _⟩ dX6_endsOf_43) hS (fun H locs hP hS => ?_)
        obtain ⟨yg46, h⟩ := z_gi h
        refine as_M hx hb hK hP hI hS rfl (by decide) yg46 dX6_endsOf_46 (fun H locs yd7 e_yd7 hP hS => ?_)
        have h := z_nma e_yd7 h
        refine lv_iload hx hb dX6_endsOf_47 (lv_at hl 5 rfl) ?_
        refine lv_aload_n hx hb dX6_endsOf_49 rfl (lv_at hl 0 rfl) ?_
        refine gt_X6_15 hx hb hts hown hK hP (hts _ wl_3_149) dX6_endsOf_50 ?_
        refine lv_iload hx hb dX6_endsOf_53 (lv_at hl 6 rfl) ?_
        obtain ⟨yg55, h⟩ := z_gi h
        refine al_M hx hb hK hP rfl (by decide) yg55 dX6_endsOf_55 ?_
        refine lv_ior hx hb dX6_endsOf_56 ?_
        refine lv_topi (fun yv8 e_yv8 => ?_)
        have h := z_nma e_yv8 h
        refine lv_istore (lv' := [(6, .int yv8), (0, .ref (ad 0)), (1, .ref (ad ya1)), (2, .int yx2), (4, .int yx4), (5, .int yr1), (7, .int yv4)]) hx hb dX6_endsOf_57 hl (by decide) rfl (fun ls hl => ?_)
        obtain ⟨yv9, e_yv9, h⟩ := z_nmx h
        refine lv_iinc (v := yv9) (lv' := [(7, .int yv9), (6, .int yv8), (0, .ref (ad 0)), (1, .ref (ad ya1)), (2, .int yx2), (4, .int yx4), (5, .int yr1)]) hx hb dX6_endsOf_59 hl (k := 6) rfl (by rw [e_yv9]; rfl) (by decide) rfl (fun ls hl => ?_)
        refine lv_goto (tgt := 14) hx hb dX6_endsOf_62 (by decide) ?_
        exact ih _ _ _ _ _ _ (hq1 _ (z_sm h).symm) hP hS (lv_sub hl [2, 3, 4, 5, 6, 1, 0] rfl)
  exact hL14 yn14 _ _ _ _ _ _ hlp hP hS (lv_sub hl [3, 4, 5, 7, 2, 1, 0] rfl)
noncomputable def fX6_endsAll (yd : Dt) (ya1 : Nat) (yx2 : Int32) (yx3 : Int32) (yx4 : Int32) : Option (Int32 × Dt) :=
  z_bd (fX6_endsOf yd ya1 yx2 yx3 yx4) fun yr1 yd2 => z_gd (z_in ((84 : Int32) + yx2) 214) (z_br (fX6_has yr1 ((yd2.1 ya1 (z_ix ((84 : Int32) + yx2))) - (1 : Int32))) fun yr3 => some (yr3, yd2))
set_option maxHeartbeats 4000000 in
set_option maxRecDepth 100000 in
theorem kX6_endsAll {l : Launch} {D : va_G} {G : z_G} {ad : Nat → Nat} {A : Nat → Prop} (hI : ∀ d, va_D A (WM G ad d)) {yd : Dt} {ya1 : Nat} {yx2 : Int32} {yx3 : Int32} {yx4 : Int32} (yh1 : arM ya1 = 214) (z_yx4 : yx4 = 0 ∨ yx4 = 1) {rr : Int32} {dd : Dt} (h : fX6_endsAll yd ya1 yx2 yx3 yx4 = some (rr, dd)) : z_Mz l D G A (WM G ad) yX6_endsAll cX6_endsAll 5 (z_rm 4 107) yd [.ref (ad 0), .ref (ad ya1), .int yx2, .int yx3, .int yx4] rr dd := by
  refine z_ofz (by decide) (Nat.le_of_ble_eq_true rfl) fun p e s m args below meth c Q hx hb hml hown hts hK hP hRet ls hl => ?_
  have hS : va_S A s.heap s.heap [] := va_S.rf
  have hl : lv_has ls 5 [(0, .ref (ad 0)), (1, .ref (ad ya1)), (2, .int yx2), (3, .int yx3), (4, .int yx4)] := hl
  have h : (z_bd (fX6_endsOf yd ya1 yx2 yx3 yx4) fun yr1 yd2 => z_gd (z_in ((84 : Int32) + yx2) 214) (z_br (fX6_has yr1 ((yd2.1 ya1 (z_ix ((84 : Int32) + yx2))) - (1 : Int32))) fun yr3 => some (yr3, yd2))) = some (rr, dd) := h
  refine lv_aload_n hx hb dX6_endsAll_0 rfl (lv_at hl 0 rfl) ?_
  refine lv_aload_n hx hb dX6_endsAll_1 rfl (lv_at hl 1 rfl) ?_
  refine lv_iload_n hx hb dX6_endsAll_2 rfl (lv_at hl 2 rfl) ?_
  refine lv_iload_n hx hb dX6_endsAll_3 rfl (lv_at hl 3 rfl) ?_
  refine lv_iload hx hb dX6_endsAll_4 (lv_at hl 4 rfl) ?_
  obtain ⟨yr1, yd2, yhc6, h⟩ := z_bdx h
  refine z_ki (z_rV (As := [.ref (ad ya1), .int yx2, .int yx3, .int yx4]) (rest := []) ⟨hx, hb, hml, hown, hts⟩ hK hP w_X6 rfl (kX6_endsOf hI yh1 z_yx4 yhc6) giX6_137 ⟨rfl, rfl⟩ ndX6_endsOf ⟨Nat.le_of_ble_eq_true rfl, Nat.le_of_ble_eq_true rfl⟩ rfl hl.1 rfl (Nat.le_of_ble_eq_true rfl) ⟨Nat.le_refl _, Nat.le_refl _⟩ dX6_endsAll_6) hS (fun H locs hP hS => ?_)
  refine lv_aload_n hx hb dX6_endsAll_9 rfl (lv_at hl 1 rfl) ?_
  refine lv_bipush (v := (84 : Int32)) hx hb dX6_endsAll_10 (by decide) ?_
  refine lv_iload_n hx hb dX6_endsAll_12 rfl (lv_at hl 2 rfl) ?_
  refine lv_iadd hx hb dX6_endsAll_13 ?_
  obtain ⟨yg14, h⟩ := z_gi h
  refine al_M hx hb hK hP yh1 (by decide) yg14 dX6_endsAll_14 ?_
  refine lv_iconst (v := (1 : Int32)) hx hb dX6_endsAll_15 (by decide) ?_
  refine lv_isub hx hb dX6_endsAll_16 ?_
  obtain ⟨yr3, yhc17, h⟩ := z_brx h
  refine z_kz (z_rS (As := [.int yr1, .int ((yd2.1 ya1 (z_ix ((84 : Int32) + yx2))) - (1 : Int32))]) (rest := []) ⟨hx, hb, hml, hown, hts⟩ hK hP (kX6_has yhc17) giX6_122 ⟨rfl, rfl⟩ ndX6_has ⟨Nat.le_of_ble_eq_true rfl, Nat.le_of_ble_eq_true rfl⟩ rfl hl.1 rfl (Nat.le_of_ble_eq_true rfl) ⟨Nat.le_refl _, Nat.le_refl _⟩ dX6_endsAll_17) hS (fun H locs z_yr3 hP hS => ?_)
  exact hRet _ _ _ _ _ _ hP hS z_yr3 h dX6_endsAll_20
noncomputable def bX6_answersOf_5 (ya1 : Nat) (yx2 : Int32) (s : Int32 × Int32 × Dt) : Option ((Int32 × Int32 × Dt) ⊕ (Int32 × Dt)) := match s with
  | (yv1, yv2, yd3) => zif ((yd3.1 ya1 (z_ix (80 : Int32))) ≤ yv2) (some (.inr (yv1, yd3))) (z_bd (fX6_endsAll yd3 ya1 yx2 yv2 (0 : Int32)) fun yr4 yd5 => z_nm (zif (yr4 = 0) (0 : Int32) ((1 : Int32) <<< (yv2 &&& 31))) fun yv6 => z_nm (yv1 ||| yv6) fun yv7 => z_nm (yv2 + (1 : Int32)) fun yv8 => some (.inl (yv7, yv8, yd5)))
noncomputable def fX6_answersOf (yd : Dt) (ya1 : Nat) (yx2 : Int32) : Option (Int32 × Dt) :=
  z_br (z_lp (bX6_answersOf_5 ya1 yx2) ((0 : Int32), (0 : Int32), yd)) (fun t => match t with | (yv9, yd10) => some (yv9, yd10))
set_option maxHeartbeats 4000000 in
set_option maxRecDepth 100000 in
theorem kX6_answersOf {l : Launch} {D : va_G} {G : z_G} {ad : Nat → Nat} {A : Nat → Prop} (hI : ∀ d, va_D A (WM G ad d)) {yd : Dt} {ya1 : Nat} {yx2 : Int32} (yh1 : arM ya1 = 214) {rr : Int32} {dd : Dt} (h : fX6_answersOf yd ya1 yx2 = some (rr, dd)) : z_Mi l D G A (WM G ad) yX6_answersOf cX6_answersOf 5 (z_rm 5 131) yd [.ref (ad 0), .ref (ad ya1), .int yx2] rr dd := by
  refine z_ofi (by decide) (Nat.le_of_ble_eq_true rfl) fun p e s m args below meth c Q hx hb hml hown hts hK hP hRet ls hl => ?_
  have hS : va_S A s.heap s.heap [] := va_S.rf
  have hl : lv_has ls 5 [(0, .ref (ad 0)), (1, .ref (ad ya1)), (2, .int yx2)] := hl
  have h : (z_br (z_lp (bX6_answersOf_5 ya1 yx2) ((0 : Int32), (0 : Int32), yd)) (fun t => match t with | (yv9, yd10) => some (yv9, yd10))) = some (rr, dd) := h
  refine lv_iconst (v := (0 : Int32)) hx hb dX6_answersOf_0 (by decide) ?_
  refine lv_istore_n (lv' := [(3, .int (0 : Int32)), (0, .ref (ad 0)), (1, .ref (ad ya1)), (2, .int yx2)]) hx hb dX6_answersOf_1 rfl hl (by decide) rfl (fun ls hl => ?_)
  refine lv_iconst (v := (0 : Int32)) hx hb dX6_answersOf_2 (by decide) ?_
  refine lv_istore (lv' := [(4, .int (0 : Int32)), (3, .int (0 : Int32)), (0, .ref (ad 0)), (1, .ref (ad ya1)), (2, .int yx2)]) hx hb dX6_answersOf_3 hl (by decide) rfl (fun ls hl => ?_)
  obtain ⟨yt5, hlp, h⟩ := z_brx h
  obtain ⟨yn5, hlp⟩ := z_lpx hlp
  have hE43 : ∀ (yv9 : Int32) (yd10 : Dt) (H : Heap) (locs : List Loc) (ls : Array Slot), (yv9, yd10) = yt5 → va_P D vwCl (WM G ad yd10) H → va_S A s.heap H locs → lv_has ls 5 [(3, .int yv9)] → W p l e (z_rm 5 131) s m args below meth c H locs 0 0 Q (F0 m 43 ls []) := by
    intro yv9 yd10 H locs ls et hP hS hl
    subst et
    have h : (some (yv9, yd10)) = some (rr, dd) := h
    refine lv_iload_n hx hb dX6_answersOf_43 rfl (lv_at hl 0 rfl) ?_
    exact hRet _ _ _ _ _ _ hP hS h dX6_answersOf_44
  have hL5 : ∀ (n : Nat) (yv1 : Int32) (yv2 : Int32) (yd3 : Dt) (H : Heap) (locs : List Loc) (ls : Array Slot), z_it (bX6_answersOf_5 ya1 yx2) n (yv1, yv2, yd3) = some yt5 → va_P D vwCl (WM G ad yd3) H → va_S A s.heap H locs → lv_has ls 5 [(0, .ref (ad 0)), (1, .ref (ad ya1)), (2, .int yx2), (3, .int yv1), (4, .int yv2)] → W p l e (z_rm 5 131) s m args below meth c H locs 0 0 Q (F0 m 5 ls []) := by
    intro n
    induction n with
    | zero => intro yv1 yv2 yd3 H locs ls hn; exact z_it0 hn
    | succ n ih =>
      intro yv1 yv2 yd3 H locs ls hn hP hS hl
      obtain ⟨yq5, h, hq1, hq2⟩ := z_itx hn
      have h : (zif ((yd3.1 ya1 (z_ix (80 : Int32))) ≤ yv2) (some (.inr (yv1, yd3))) (z_bd (fX6_endsAll yd3 ya1 yx2 yv2 (0 : Int32)) fun yr4 yd5 => z_nm (zif (yr4 = 0) (0 : Int32) ((1 : Int32) <<< (yv2 &&& 31))) fun yv6 => z_nm (yv1 ||| yv6) fun yv7 => z_nm (yv2 + (1 : Int32)) fun yv8 => some (.inl (yv7, yv8, yd5)))) = some yq5 := h
      refine lv_iload hx hb dX6_answersOf_5 (lv_at hl 4 rfl) ?_
      refine lv_aload_n hx hb dX6_answersOf_7 rfl (lv_at hl 1 rfl) ?_
      refine lv_bipush (v := (80 : Int32)) hx hb dX6_answersOf_8 (by decide) ?_
      refine al_M hx hb hK hP yh1 (by decide) (z_li (by decide) : vp_in (80 : Int32) 214) dX6_answersOf_10 ?_
      refine lv_icmp_ge (tgt := 43) hx hb dX6_answersOf_11 (by decide) (fun yc11 => ?_) (fun yc11 => ?_)
      · have h := z_ifp yc11 h
        exact hE43 _ _ _ _ _ (hq2 _ (z_sm h).symm) hP hS (lv_sub hl [3] rfl)
      · have h := z_ifn yc11 h
        refine lv_iload_n hx hb dX6_answersOf_14 rfl (lv_at hl 3 rfl) ?_
        refine lv_aload_n hx hb dX6_answersOf_15 rfl (lv_at hl 0 rfl) ?_
        refine lv_aload_n hx hb dX6_answersOf_16 rfl (lv_at hl 1 rfl) ?_
        refine lv_iload_n hx hb dX6_answersOf_17 rfl (lv_at hl 2 rfl) ?_
        refine lv_iload hx hb dX6_answersOf_18 (lv_at hl 4 rfl) ?_
        refine lv_iconst (v := (0 : Int32)) hx hb dX6_answersOf_20 (by decide) ?_
        obtain ⟨yr4, yd5, yhc21, h⟩ := z_bdx h
        refine z_kz (z_rV (As := [.ref (ad ya1), .int yx2, .int yv2, .int (0 : Int32)]) (rest := [.int yv1]) ⟨hx, hb, hml, hown, hts⟩ hK hP w_X6 rfl (kX6_endsAll hI yh1 (Or.inl rfl) yhc21) giX6_141 ⟨rfl, rfl⟩ ndX6_endsAll ⟨Nat.le_of_ble_eq_true rfl, Nat.le_of_ble_eq_true rfl⟩ rfl hl.1 rfl (Nat.le_of_ble_eq_true rfl) ⟨Nat.le_refl _, Nat.le_refl _⟩ dX6_answersOf_21) hS (fun H locs z_yr4 hP hS => ?_)
        have hM35 : ∀ (yv6 : Int32) (H : Heap) (locs : List Loc), yv6 = (zif (yr4 = 0) (0 : Int32) ((1 : Int32) <<< (yv2 &&& 31))) → va_P D vwCl (WM G ad yd5) H → va_S A s.heap H locs → W p l e (z_rm 5 131) s m args below meth c H locs 0 0 Q (F0 m 35 ls [.int yv6, .int yv1]) := by
          intro yv6 H locs e_yv6 hP hS
          have h := z_nma e_yv6 h
          refine lv_ior hx hb dX6_answersOf_35 ?_
          refine lv_topi (fun yv7 e_yv7 => ?_)
          have h := z_nma e_yv7 h
          refine lv_istore_n (lv' := [(3, .int yv7), (0, .ref (ad 0)), (1, .ref (ad ya1)), (2, .int yx2), (4, .int yv2)]) hx hb dX6_answersOf_36 rfl hl (by decide) rfl (fun ls hl => ?_)
          obtain ⟨yv8, e_yv8, h⟩ := z_nmx h
          refine lv_iinc (v := yv8) (lv' := [(4, .int yv8), (3, .int yv7), (0, .ref (ad 0)), (1, .ref (ad ya1)), (2, .int yx2)]) hx hb dX6_answersOf_37 hl (k := 4) rfl (by rw [e_yv8]; rfl) (by decide) rfl (fun ls hl => ?_)
          refine lv_goto (tgt := 5) hx hb dX6_answersOf_40 (by decide) ?_
          exact ih _ _ _ _ _ _ (hq1 _ (z_sm h).symm) hP hS (lv_sub hl [2, 3, 4, 1, 0] rfl)
        refine lv_if_eq (tgt := 34) hx hb dX6_answersOf_24 (by decide) (fun yc24 => ?_) (fun yc24 => ?_)
        · refine lv_iconst (v := (0 : Int32)) hx hb dX6_answersOf_34 (by decide) ?_
          exact hM35 _ _ _ (z_tp yc24 rfl) hP hS
        · refine lv_iconst (v := (1 : Int32)) hx hb dX6_answersOf_27 (by decide) ?_
          refine lv_iload hx hb dX6_answersOf_28 (lv_at hl 4 rfl) ?_
          refine lv_ishl hx hb dX6_answersOf_30 ?_
          refine lv_goto (tgt := 35) hx hb dX6_answersOf_31 (by decide) ?_
          exact hM35 _ _ _ (z_tn yc24 rfl) hP hS
  exact hL5 yn5 _ _ _ _ _ _ hlp hP hS (lv_sub hl [2, 3, 4, 1, 0] rfl)
noncomputable def jX6_doubtsOf_47 (yv1 : Int32) (yv2 : Int32) (yv6 : Int32) (yd7 : Dt) : Option ((Int32 × Int32 × Dt) ⊕ (Int32 × Dt)) :=
  z_nm (yv1 ||| yv6) fun yv8 => z_nm (yv2 + (1 : Int32)) fun yv9 => some (.inl (yv8, yv9, yd7))
noncomputable def jX6_doubtsOf_46 (yv1 : Int32) (yv2 : Int32) (yd10 : Dt) : Option ((Int32 × Int32 × Dt) ⊕ (Int32 × Dt)) :=
  jX6_doubtsOf_47 yv1 yv2 (0 : Int32) yd10
noncomputable def bX6_doubtsOf_5 (ya1 : Nat) (yx2 : Int32) (s : Int32 × Int32 × Dt) : Option ((Int32 × Int32 × Dt) ⊕ (Int32 × Dt)) := match s with
  | (yv1, yv2, yd3) => zif ((yd3.1 ya1 (z_ix (80 : Int32))) ≤ yv2) (some (.inr (yv1, yd3))) (z_bd (fX6_endsAll yd3 ya1 yx2 yv2 (1 : Int32)) fun yr4 yd5 => zif (yr4 = 0) (jX6_doubtsOf_46 yv1 yv2 yd5) (z_bd (fX6_endsAll yd5 ya1 yx2 yv2 (0 : Int32)) fun yr11 yd12 => zif (yr11 = 0) (jX6_doubtsOf_47 yv1 yv2 ((1 : Int32) <<< (yv2 &&& 31)) yd12) (jX6_doubtsOf_46 yv1 yv2 yd12)))
noncomputable def fX6_doubtsOf (yd : Dt) (ya1 : Nat) (yx2 : Int32) : Option (Int32 × Dt) :=
  z_br (z_lp (bX6_doubtsOf_5 ya1 yx2) ((0 : Int32), (0 : Int32), yd)) (fun t => match t with | (yv13, yd14) => some (yv13, yd14))
set_option maxHeartbeats 4000000 in
set_option maxRecDepth 100000 in
theorem kX6_doubtsOf {l : Launch} {D : va_G} {G : z_G} {ad : Nat → Nat} {A : Nat → Prop} (hI : ∀ d, va_D A (WM G ad d)) {yd : Dt} {ya1 : Nat} {yx2 : Int32} (yh1 : arM ya1 = 214) {rr : Int32} {dd : Dt} (h : fX6_doubtsOf yd ya1 yx2 = some (rr, dd)) : z_Mi l D G A (WM G ad) yX6_doubtsOf cX6_doubtsOf 5 (z_rm 5 131) yd [.ref (ad 0), .ref (ad ya1), .int yx2] rr dd := by
  refine z_ofi (by decide) (Nat.le_of_ble_eq_true rfl) fun p e s m args below meth c Q hx hb hml hown hts hK hP hRet ls hl => ?_
  have hS : va_S A s.heap s.heap [] := va_S.rf
  have hl : lv_has ls 5 [(0, .ref (ad 0)), (1, .ref (ad ya1)), (2, .int yx2)] := hl
  have h : (z_br (z_lp (bX6_doubtsOf_5 ya1 yx2) ((0 : Int32), (0 : Int32), yd)) (fun t => match t with | (yv13, yd14) => some (yv13, yd14))) = some (rr, dd) := h
  refine lv_iconst (v := (0 : Int32)) hx hb dX6_doubtsOf_0 (by decide) ?_
  refine lv_istore_n (lv' := [(3, .int (0 : Int32)), (0, .ref (ad 0)), (1, .ref (ad ya1)), (2, .int yx2)]) hx hb dX6_doubtsOf_1 rfl hl (by decide) rfl (fun ls hl => ?_)
  refine lv_iconst (v := (0 : Int32)) hx hb dX6_doubtsOf_2 (by decide) ?_
  refine lv_istore (lv' := [(4, .int (0 : Int32)), (3, .int (0 : Int32)), (0, .ref (ad 0)), (1, .ref (ad ya1)), (2, .int yx2)]) hx hb dX6_doubtsOf_3 hl (by decide) rfl (fun ls hl => ?_)
  obtain ⟨yt5, hlp, h⟩ := z_brx h
  obtain ⟨yn5, hlp⟩ := z_lpx hlp
  have hE55 : ∀ (yv13 : Int32) (yd14 : Dt) (H : Heap) (locs : List Loc) (ls : Array Slot), (yv13, yd14) = yt5 → va_P D vwCl (WM G ad yd14) H → va_S A s.heap H locs → lv_has ls 5 [(3, .int yv13)] → W p l e (z_rm 5 131) s m args below meth c H locs 0 0 Q (F0 m 55 ls []) := by
    intro yv13 yd14 H locs ls et hP hS hl
    subst et
    have h : (some (yv13, yd14)) = some (rr, dd) := h
    refine lv_iload_n hx hb dX6_doubtsOf_55 rfl (lv_at hl 0 rfl) ?_
    exact hRet _ _ _ _ _ _ hP hS h dX6_doubtsOf_56
  have hL5 : ∀ (n : Nat) (yv1 : Int32) (yv2 : Int32) (yd3 : Dt) (H : Heap) (locs : List Loc) (ls : Array Slot), z_it (bX6_doubtsOf_5 ya1 yx2) n (yv1, yv2, yd3) = some yt5 → va_P D vwCl (WM G ad yd3) H → va_S A s.heap H locs → lv_has ls 5 [(0, .ref (ad 0)), (1, .ref (ad ya1)), (2, .int yx2), (3, .int yv1), (4, .int yv2)] → W p l e (z_rm 5 131) s m args below meth c H locs 0 0 Q (F0 m 5 ls []) := by
    intro n
    induction n with
    | zero => intro yv1 yv2 yd3 H locs ls hn; exact z_it0 hn
    | succ n ih =>
      intro yv1 yv2 yd3 H locs ls hn hP hS hl
      obtain ⟨yq5, h, hq1, hq2⟩ := z_itx hn
      have h : (zif ((yd3.1 ya1 (z_ix (80 : Int32))) ≤ yv2) (some (.inr (yv1, yd3))) (z_bd (fX6_endsAll yd3 ya1 yx2 yv2 (1 : Int32)) fun yr4 yd5 => zif (yr4 = 0) (jX6_doubtsOf_46 yv1 yv2 yd5) (z_bd (fX6_endsAll yd5 ya1 yx2 yv2 (0 : Int32)) fun yr11 yd12 => zif (yr11 = 0) (jX6_doubtsOf_47 yv1 yv2 ((1 : Int32) <<< (yv2 &&& 31)) yd12) (jX6_doubtsOf_46 yv1 yv2 yd12)))) = some yq5 := h
      refine lv_iload hx hb dX6_doubtsOf_5 (lv_at hl 4 rfl) ?_
      refine lv_aload_n hx hb dX6_doubtsOf_7 rfl (lv_at hl 1 rfl) ?_
      refine lv_bipush (v := (80 : Int32)) hx hb dX6_doubtsOf_8 (by decide) ?_
      refine al_M hx hb hK hP yh1 (by decide) (z_li (by decide) : vp_in (80 : Int32) 214) dX6_doubtsOf_10 ?_
      refine lv_icmp_ge (tgt := 55) hx hb dX6_doubtsOf_11 (by decide) (fun yc11 => ?_) (fun yc11 => ?_)
      · have h := z_ifp yc11 h
        exact hE55 _ _ _ _ _ (hq2 _ (z_sm h).symm) hP hS (lv_sub hl [3] rfl)
      · have h := z_ifn yc11 h
        refine lv_iload_n hx hb dX6_doubtsOf_14 rfl (lv_at hl 3 rfl) ?_
        refine lv_aload_n hx hb dX6_doubtsOf_15 rfl (lv_at hl 0 rfl) ?_
        refine lv_aload_n hx hb dX6_doubtsOf_16 rfl (lv_at hl 1 rfl) ?_
        refine lv_iload_n hx hb dX6_doubtsOf_17 rfl (lv_at hl 2 rfl) ?_
        refine lv_iload hx hb dX6_doubtsOf_18 (lv_at hl 4 rfl) ?_
        refine lv_iconst (v := (1 : Int32)) hx hb dX6_doubtsOf_20 (by decide) ?_
        obtain ⟨yr4, yd5, yhc21, h⟩ := z_bdx h
        refine z_kz (z_rV (As := [.ref (ad ya1), .int yx2, .int yv2, .int (1 : Int32)]) (rest := [.int yv1]) ⟨hx, hb, hml, hown, hts⟩ hK hP w_X6 rfl (kX6_endsAll hI yh1 (Or.inr rfl) yhc21) giX6_141 ⟨rfl, rfl⟩ ndX6_endsAll ⟨Nat.le_of_ble_eq_true rfl, Nat.le_of_ble_eq_true rfl⟩ rfl hl.1 rfl (Nat.le_of_ble_eq_true rfl) ⟨Nat.le_refl _, Nat.le_refl _⟩ dX6_doubtsOf_21) hS (fun H locs z_yr4 hP hS => ?_)
        have hJ47 : ∀ (yv6 : Int32) (yd7 : Dt) (H : Heap) (locs : List Loc) (ls : Array Slot), jX6_doubtsOf_47 yv1 yv2 yv6 yd7 = some yq5 → va_P D vwCl (WM G ad yd7) H → va_S A s.heap H locs → lv_has ls 5 [(0, .ref (ad 0)), (1, .ref (ad ya1)), (2, .int yx2), (4, .int yv2)] → W p l e (z_rm 5 131) s m args below meth c H locs 0 0 Q (F0 m 47 ls [.int yv6, .int yv1]) := by
          intro yv6 yd7 H locs ls h hP hS hl
          have h : (z_nm (yv1 ||| yv6) fun yv8 => z_nm (yv2 + (1 : Int32)) fun yv9 => some (.inl (yv8, yv9, yd7))) = some yq5 := h
          refine lv_ior hx hb dX6_doubtsOf_47 ?_
          refine lv_topi (fun yv8 e_yv8 => ?_)
          have h := z_nma e_yv8 h
          refine lv_istore_n (lv' := [(3, .int yv8), (0, .ref (ad 0)), (1, .ref (ad ya1)), (2, .int yx2), (4, .int yv2)]) hx hb dX6_doubtsOf_48 rfl hl (by decide) rfl (fun ls hl => ?_)
          obtain ⟨yv9, e_yv9, h⟩ := z_nmx h
          refine lv_iinc (v := yv9) (lv' := [(4, .int yv9), (3, .int yv8), (0, .ref (ad 0)), (1, .ref (ad ya1)), (2, .int yx2)]) hx hb dX6_doubtsOf_49 hl (k := 4) rfl (by rw [e_yv9]; rfl) (by decide) rfl (fun ls hl => ?_)
          refine lv_goto (tgt := 5) hx hb dX6_doubtsOf_52 (by decide) ?_
          exact ih _ _ _ _ _ _ (hq1 _ (z_sm h).symm) hP hS (lv_sub hl [2, 3, 4, 1, 0] rfl)
        have hJ46 : ∀ (yd10 : Dt) (H : Heap) (locs : List Loc) (ls : Array Slot), jX6_doubtsOf_46 yv1 yv2 yd10 = some yq5 → va_P D vwCl (WM G ad yd10) H → va_S A s.heap H locs → lv_has ls 5 [(0, .ref (ad 0)), (1, .ref (ad ya1)), (2, .int yx2), (4, .int yv2)] → W p l e (z_rm 5 131) s m args below meth c H locs 0 0 Q (F0 m 46 ls [.int yv1]) := by
          intro yd10 H locs ls h hP hS hl
          have h : (jX6_doubtsOf_47 yv1 yv2 (0 : Int32) yd10) = some yq5 := h
          refine lv_iconst (v := (0 : Int32)) hx hb dX6_doubtsOf_46 (by decide) ?_
          exact hJ47 _ _ _ _ _ h hP hS (lv_sub hl [0, 1, 2, 3] rfl)
        refine lv_if_eq (tgt := 46) hx hb dX6_doubtsOf_24 (by decide) (fun yc24 => ?_) (fun yc24 => ?_)
        · have h := z_ifp yc24 h
          exact hJ46 _ _ _ _ h hP hS (lv_sub hl [0, 1, 2, 4] rfl)
        · have h := z_ifn yc24 h
          refine lv_aload_n hx hb dX6_doubtsOf_27 rfl (lv_at hl 0 rfl) ?_
          refine lv_aload_n hx hb dX6_doubtsOf_28 rfl (lv_at hl 1 rfl) ?_
          refine lv_iload_n hx hb dX6_doubtsOf_29 rfl (lv_at hl 2 rfl) ?_
          refine lv_iload hx hb dX6_doubtsOf_30 (lv_at hl 4 rfl) ?_
          refine lv_iconst (v := (0 : Int32)) hx hb dX6_doubtsOf_32 (by decide) ?_
          obtain ⟨yr11, yd12, yhc33, h⟩ := z_bdx h
          refine z_kz (z_rV (As := [.ref (ad ya1), .int yx2, .int yv2, .int (0 : Int32)]) (rest := [.int yv1]) ⟨hx, hb, hml, hown, hts⟩ hK hP w_X6 rfl (kX6_endsAll hI yh1 (Or.inl rfl) yhc33) giX6_141 ⟨rfl, rfl⟩ ndX6_endsAll ⟨Nat.le_of_ble_eq_true rfl, Nat.le_of_ble_eq_true rfl⟩ rfl hl.1 rfl (Nat.le_of_ble_eq_true rfl) ⟨Nat.le_refl _, Nat.le_refl _⟩ dX6_doubtsOf_33) hS (fun H locs z_yr11 hP hS => ?_)
          refine lv_if_ne (tgt := 46) hx hb dX6_doubtsOf_36 (by decide) (fun yc36 => ?_) (fun yc36 => ?_)
          · have h := z_ifn yc36 h
            exact hJ46 _ _ _ _ h hP hS (lv_sub hl [0, 1, 2, 4] rfl)
          · have h := z_ifp yc36 h
            refine lv_iconst (v := (1 : Int32)) hx hb dX6_doubtsOf_39 (by decide) ?_
            refine lv_iload hx hb dX6_doubtsOf_40 (lv_at hl 4 rfl) ?_
            refine lv_ishl hx hb dX6_doubtsOf_42 ?_
            refine lv_goto (tgt := 47) hx hb dX6_doubtsOf_43 (by decide) ?_
            exact hJ47 _ _ _ _ _ h hP hS (lv_sub hl [0, 1, 2, 4] rfl)
  exact hL5 yn5 _ _ _ _ _ _ hlp hP hS (lv_sub hl [2, 3, 4, 1, 0] rfl)
noncomputable def jX6_outOf_79 (yv5 : Int32) (yv7 : Int32) (yv8 : Int32) (yv9 : Int32) : Option ((Int32 × Int32 × Int32) ⊕ (Int32)) :=
  z_nm (yv5 ||| yv9) fun yv10 => z_nm (yv7 + (1 : Int32)) fun yv11 => some (.inl (yv10, yv8, yv11))
noncomputable def jX6_outOf_78 (yv5 : Int32) (yv7 : Int32) (yv8 : Int32) : Option ((Int32 × Int32 × Int32) ⊕ (Int32)) :=
  jX6_outOf_79 yv5 yv7 yv8 (0 : Int32)
noncomputable def jX6_outOf_53 (yv5 : Int32) (yv7 : Int32) (yr1 : Int32) (yv8 : Int32) : Option ((Int32 × Int32 × Int32) ⊕ (Int32)) :=
  zif (yv8 = 0) (jX6_outOf_78 yv5 yv7 yv8) (z_br (fX6_has yr1 yv7) fun yr12 => zif (yr12 = 0) (jX6_outOf_78 yv5 yv7 yv8) (jX6_outOf_79 yv5 yv7 yv8 ((1 : Int32) <<< (yv7 &&& 31))))
noncomputable def jX6_outOf_52 (yv5 : Int32) (yv7 : Int32) (yr1 : Int32) : Option ((Int32 × Int32 × Int32) ⊕ (Int32)) :=
  jX6_outOf_53 yv5 yv7 yr1 (0 : Int32)
noncomputable def bX6_outOf_24 (yd4 : Dt) (ya1 : Nat) (yr1 : Int32) (yr3 : Int32) (s : Int32 × Int32 × Int32) : Option ((Int32 × Int32 × Int32) ⊕ (Int32)) := match s with
  | (yv5, yv6, yv7) => zif ((yd4.1 ya1 (z_ix (80 : Int32))) ≤ yv7) (some (.inr yv5)) (zif (yv6 = 0) (jX6_outOf_52 yv5 yv7 yr1) (z_br (fX6_has yr3 yv7) fun yr13 => zif (yr13 = 0) (jX6_outOf_53 yv5 yv7 yr1 (1 : Int32)) (jX6_outOf_52 yv5 yv7 yr1)))
noncomputable def fX6_outOf (yd : Dt) (ya1 : Nat) (yx2 : Int32) : Option (Int32 × Dt) :=
  z_bd (fX6_answersOf yd ya1 yx2) fun yr1 yd2 => z_bd (fX6_doubtsOf yd2 ya1 yx2) fun yr3 yd4 => z_br (z_lp (bX6_outOf_24 yd4 ya1 yr1 yr3) ((0 : Int32), (1 : Int32), (0 : Int32))) (fun t => match t with | yv14 => some (yv14, yd4))
set_option maxHeartbeats 4000000 in
set_option maxRecDepth 100000 in
theorem kX6_outOf {l : Launch} {D : va_G} {G : z_G} {ad : Nat → Nat} {A : Nat → Prop} (hI : ∀ d, va_D A (WM G ad d)) {yd : Dt} {ya1 : Nat} {yx2 : Int32} (yh1 : arM ya1 = 214) {rr : Int32} {dd : Dt} (h : fX6_outOf yd ya1 yx2 = some (rr, dd)) : z_Mi l D G A (WM G ad) yX6_outOf cX6_outOf 8 (z_rm 6 155) yd [.ref (ad 0), .ref (ad ya1), .int yx2] rr dd := by
  refine z_ofi (by decide) (Nat.le_of_ble_eq_true rfl) fun p e s m args below meth c Q hx hb hml hown hts hK hP hRet ls hl => ?_
  have hS : va_S A s.heap s.heap [] := va_S.rf
  have hl : lv_has ls 8 [(0, .ref (ad 0)), (1, .ref (ad ya1)), (2, .int yx2)] := hl
  have h : (z_bd (fX6_answersOf yd ya1 yx2) fun yr1 yd2 => z_bd (fX6_doubtsOf yd2 ya1 yx2) fun yr3 yd4 => z_br (z_lp (bX6_outOf_24 yd4 ya1 yr1 yr3) ((0 : Int32), (1 : Int32), (0 : Int32))) (fun t => match t with | yv14 => some (yv14, yd4))) = some (rr, dd) := h
  refine lv_aload_n hx hb dX6_outOf_0 rfl (lv_at hl 0 rfl) ?_
  refine lv_aload_n hx hb dX6_outOf_1 rfl (lv_at hl 1 rfl) ?_
  refine lv_iload_n hx hb dX6_outOf_2 rfl (lv_at hl 2 rfl) ?_
  obtain ⟨yr1, yd2, yhc3, h⟩ := z_bdx h
  refine z_ki (z_rV (As := [.ref (ad ya1), .int yx2]) (rest := []) ⟨hx, hb, hml, hown, hts⟩ hK hP w_X6 rfl (kX6_answersOf hI yh1 yhc3) giX6_144 ⟨rfl, rfl⟩ ndX6_answersOf ⟨Nat.le_of_ble_eq_true rfl, Nat.le_of_ble_eq_true rfl⟩ rfl hl.1 rfl (Nat.le_of_ble_eq_true rfl) ⟨Nat.le_refl _, Nat.le_refl _⟩ dX6_outOf_3) hS (fun H locs hP hS => ?_)
  refine lv_istore_n (lv' := [(3, .int yr1), (0, .ref (ad 0)), (1, .ref (ad ya1)), (2, .int yx2)]) hx hb dX6_outOf_6 rfl hl (by decide) rfl (fun ls hl => ?_)
  refine lv_aload_n hx hb dX6_outOf_7 rfl (lv_at hl 1 rfl) ?_
  refine lv_aload_n hx hb dX6_outOf_8 rfl (lv_at hl 2 rfl) ?_
  refine lv_iload_n hx hb dX6_outOf_9 rfl (lv_at hl 3 rfl) ?_
  obtain ⟨yr3, yd4, yhc10, h⟩ := z_bdx h
  refine z_ki (z_rV (As := [.ref (ad ya1), .int yx2]) (rest := []) ⟨hx, hb, hml, hown, hts⟩ hK hP w_X6 rfl (kX6_doubtsOf hI yh1 yhc10) giX6_147 ⟨rfl, rfl⟩ ndX6_doubtsOf ⟨Nat.le_of_ble_eq_true rfl, Nat.le_of_ble_eq_true rfl⟩ rfl hl.1 rfl (Nat.le_of_ble_eq_true rfl) ⟨Nat.le_refl _, Nat.le_refl _⟩ dX6_outOf_10) hS (fun H locs hP hS => ?_)
  refine lv_istore (lv' := [(4, .int yr3), (3, .int yr1), (0, .ref (ad 0)), (1, .ref (ad ya1)), (2, .int yx2)]) hx hb dX6_outOf_13 hl (by decide) rfl (fun ls hl => ?_)
  refine lv_iconst (v := (0 : Int32)) hx hb dX6_outOf_15 (by decide) ?_
  refine lv_istore (lv' := [(5, .int (0 : Int32)), (4, .int yr3), (3, .int yr1), (0, .ref (ad 0)), (1, .ref (ad ya1)), (2, .int yx2)]) hx hb dX6_outOf_16 hl (by decide) rfl (fun ls hl => ?_)
  refine lv_iconst (v := (1 : Int32)) hx hb dX6_outOf_18 (by decide) ?_
  refine lv_istore (lv' := [(6, .int (1 : Int32)), (5, .int (0 : Int32)), (4, .int yr3), (3, .int yr1), (0, .ref (ad 0)), (1, .ref (ad ya1)), (2, .int yx2)]) hx hb dX6_outOf_19 hl (by decide) rfl (fun ls hl => ?_)
  refine lv_iconst (v := (0 : Int32)) hx hb dX6_outOf_21 (by decide) ?_
  refine lv_istore (lv' := [(7, .int (0 : Int32)), (6, .int (1 : Int32)), (5, .int (0 : Int32)), (4, .int yr3), (3, .int yr1), (0, .ref (ad 0)), (1, .ref (ad ya1)), (2, .int yx2)]) hx hb dX6_outOf_22 hl (by decide) rfl (fun ls hl => ?_)
  obtain ⟨yt24, hlp, h⟩ := z_brx h
  obtain ⟨yn24, hlp⟩ := z_lpx hlp
  have hE88 : ∀ (yv14 : Int32) (H : Heap) (locs : List Loc) (ls : Array Slot), yv14 = yt24 → va_P D vwCl (WM G ad yd4) H → va_S A s.heap H locs → lv_has ls 8 [(5, .int yv14)] → W p l e (z_rm 6 155) s m args below meth c H locs 0 0 Q (F0 m 88 ls []) := by
    intro yv14 H locs ls et hP hS hl
    subst et
    have h : (some (yv14, yd4)) = some (rr, dd) := h
    refine lv_iload hx hb dX6_outOf_88 (lv_at hl 0 rfl) ?_
    exact hRet _ _ _ _ _ _ hP hS h dX6_outOf_90
  have hL24 : ∀ (n : Nat) (yv5 : Int32) (yv6 : Int32) (yv7 : Int32) (H : Heap) (locs : List Loc) (ls : Array Slot), z_it (bX6_outOf_24 yd4 ya1 yr1 yr3) n (yv5, yv6, yv7) = some yt24 → va_P D vwCl (WM G ad yd4) H → va_S A s.heap H locs → lv_has ls 8 [(1, .ref (ad ya1)), (3, .int yr1), (4, .int yr3), (5, .int yv5), (6, .int yv6), (7, .int yv7)] → W p l e (z_rm 6 155) s m args below meth c H locs 0 0 Q (F0 m 24 ls []) := by
    intro n
    induction n with
    | zero => intro yv5 yv6 yv7 H locs ls hn; exact z_it0 hn
    | succ n ih =>
      intro yv5 yv6 yv7 H locs ls hn hP hS hl
      obtain ⟨yq24, h, hq1, hq2⟩ := z_itx hn
      have h : (zif ((yd4.1 ya1 (z_ix (80 : Int32))) ≤ yv7) (some (.inr yv5)) (zif (yv6 = 0) (jX6_outOf_52 yv5 yv7 yr1) (z_br (fX6_has yr3 yv7) fun yr13 => zif (yr13 = 0) (jX6_outOf_53 yv5 yv7 yr1 (1 : Int32)) (jX6_outOf_52 yv5 yv7 yr1)))) = some yq24 := h
      refine lv_iload hx hb dX6_outOf_24 (lv_at hl 5 rfl) ?_
      refine lv_aload_n hx hb dX6_outOf_26 rfl (lv_at hl 0 rfl) ?_
      refine lv_bipush (v := (80 : Int32)) hx hb dX6_outOf_27 (by decide) ?_
      refine al_M hx hb hK hP yh1 (by decide) (z_li (by decide) : vp_in (80 : Int32) 214) dX6_outOf_29 ?_
      refine lv_icmp_ge (tgt := 88) hx hb dX6_outOf_30 (by decide) (fun yc30 => ?_) (fun yc30 => ?_)
      · have h := z_ifp yc30 h
        exact hE88 _ _ _ _ (hq2 _ (z_sm h).symm) hP hS (lv_sub hl [3] rfl)
      · have h := z_ifn yc30 h
        refine lv_iload hx hb dX6_outOf_33 (lv_at hl 4 rfl) ?_
        have hJ53 : ∀ (yv8 : Int32) (H : Heap) (locs : List Loc) (ls : Array Slot), jX6_outOf_53 yv5 yv7 yr1 yv8 = some yq24 → va_P D vwCl (WM G ad yd4) H → va_S A s.heap H locs → lv_has ls 8 [(1, .ref (ad ya1)), (3, .int yr1), (4, .int yr3), (5, .int yv5), (7, .int yv7)] → W p l e (z_rm 6 155) s m args below meth c H locs 0 0 Q (F0 m 53 ls [.int yv8]) := by
          intro yv8 H locs ls h hP hS hl
          have h : (zif (yv8 = 0) (jX6_outOf_78 yv5 yv7 yv8) (z_br (fX6_has yr1 yv7) fun yr12 => zif (yr12 = 0) (jX6_outOf_78 yv5 yv7 yv8) (jX6_outOf_79 yv5 yv7 yv8 ((1 : Int32) <<< (yv7 &&& 31))))) = some yq24 := h
          refine lv_istore (lv' := [(6, .int yv8), (1, .ref (ad ya1)), (3, .int yr1), (4, .int yr3), (5, .int yv5), (7, .int yv7)]) hx hb dX6_outOf_53 hl (by decide) rfl (fun ls hl => ?_)
          refine lv_iload hx hb dX6_outOf_55 (lv_at hl 4 rfl) ?_
          refine lv_iload hx hb dX6_outOf_57 (lv_at hl 0 rfl) ?_
          have hJ79 : ∀ (yv9 : Int32) (H : Heap) (locs : List Loc) (ls : Array Slot), jX6_outOf_79 yv5 yv7 yv8 yv9 = some yq24 → va_P D vwCl (WM G ad yd4) H → va_S A s.heap H locs → lv_has ls 8 [(1, .ref (ad ya1)), (3, .int yr1), (4, .int yr3), (6, .int yv8), (7, .int yv7)] → W p l e (z_rm 6 155) s m args below meth c H locs 0 0 Q (F0 m 79 ls [.int yv9, .int yv5]) := by
            intro yv9 H locs ls h hP hS hl
            have h : (z_nm (yv5 ||| yv9) fun yv10 => z_nm (yv7 + (1 : Int32)) fun yv11 => some (.inl (yv10, yv8, yv11))) = some yq24 := h
            refine lv_ior hx hb dX6_outOf_79 ?_
            refine lv_topi (fun yv10 e_yv10 => ?_)
            have h := z_nma e_yv10 h
            refine lv_istore (lv' := [(5, .int yv10), (1, .ref (ad ya1)), (3, .int yr1), (4, .int yr3), (6, .int yv8), (7, .int yv7)]) hx hb dX6_outOf_80 hl (by decide) rfl (fun ls hl => ?_)
            obtain ⟨yv11, e_yv11, h⟩ := z_nmx h
            refine lv_iinc (v := yv11) (lv' := [(7, .int yv11), (5, .int yv10), (1, .ref (ad ya1)), (3, .int yr1), (4, .int yr3), (6, .int yv8)]) hx hb dX6_outOf_82 hl (k := 5) rfl (by rw [e_yv11]; rfl) (by decide) rfl (fun ls hl => ?_)
            refine lv_goto (tgt := 24) hx hb dX6_outOf_85 (by decide) ?_
            exact ih _ _ _ _ _ _ (hq1 _ (z_sm h).symm) hP hS (lv_sub hl [2, 3, 4, 1, 5, 0] rfl)
          have hJ78 : ∀  (H : Heap) (locs : List Loc) (ls : Array Slot), jX6_outOf_78 yv5 yv7 yv8 = some yq24 → va_P D vwCl (WM G ad yd4) H → va_S A s.heap H locs → lv_has ls 8 [(1, .ref (ad ya1)), (3, .int yr1), (4, .int yr3), (6, .int yv8), (7, .int yv7)] → W p l e (z_rm 6 155) s m args below meth c H locs 0 0 Q (F0 m 78 ls [.int yv5]) := by
            intro  H locs ls h hP hS hl
            have h : (jX6_outOf_79 yv5 yv7 yv8 (0 : Int32)) = some yq24 := h
            refine lv_iconst (v := (0 : Int32)) hx hb dX6_outOf_78 (by decide) ?_
            exact hJ79 _ _ _ _ h hP hS (lv_sub hl [0, 1, 2, 3, 4] rfl)
          refine lv_if_eq (tgt := 78) hx hb dX6_outOf_59 (by decide) (fun yc59 => ?_) (fun yc59 => ?_)
          · have h := z_ifp yc59 h
            exact hJ78  _ _ _ h hP hS (lv_sub hl [1, 2, 3, 0, 5] rfl)
          · have h := z_ifn yc59 h
            refine lv_iload_n hx hb dX6_outOf_62 rfl (lv_at hl 2 rfl) ?_
            refine lv_iload hx hb dX6_outOf_63 (lv_at hl 5 rfl) ?_
            obtain ⟨yr12, yhc65, h⟩ := z_brx h
            refine z_kz (z_rS (As := [.int yr1, .int yv7]) (rest := [.int yv5]) ⟨hx, hb, hml, hown, hts⟩ hK hP (kX6_has yhc65) giX6_122 ⟨rfl, rfl⟩ ndX6_has ⟨Nat.le_of_ble_eq_true rfl, Nat.le_of_ble_eq_true rfl⟩ rfl hl.1 rfl (Nat.le_of_ble_eq_true rfl) ⟨Nat.le_refl _, Nat.le_refl _⟩ dX6_outOf_65) hS (fun H locs z_yr12 hP hS => ?_)
            refine lv_if_eq (tgt := 78) hx hb dX6_outOf_68 (by decide) (fun yc68 => ?_) (fun yc68 => ?_)
            · have h := z_ifp yc68 h
              exact hJ78  _ _ _ h hP hS (lv_sub hl [1, 2, 3, 0, 5] rfl)
            · have h := z_ifn yc68 h
              refine lv_iconst (v := (1 : Int32)) hx hb dX6_outOf_71 (by decide) ?_
              refine lv_iload hx hb dX6_outOf_72 (lv_at hl 5 rfl) ?_
              refine lv_ishl hx hb dX6_outOf_74 ?_
              refine lv_goto (tgt := 79) hx hb dX6_outOf_75 (by decide) ?_
              exact hJ79 _ _ _ _ h hP hS (lv_sub hl [1, 2, 3, 0, 5] rfl)
        have hJ52 : ∀  (H : Heap) (locs : List Loc) (ls : Array Slot), jX6_outOf_52 yv5 yv7 yr1 = some yq24 → va_P D vwCl (WM G ad yd4) H → va_S A s.heap H locs → lv_has ls 8 [(1, .ref (ad ya1)), (3, .int yr1), (4, .int yr3), (5, .int yv5), (7, .int yv7)] → W p l e (z_rm 6 155) s m args below meth c H locs 0 0 Q (F0 m 52 ls []) := by
          intro  H locs ls h hP hS hl
          have h : (jX6_outOf_53 yv5 yv7 yr1 (0 : Int32)) = some yq24 := h
          refine lv_iconst (v := (0 : Int32)) hx hb dX6_outOf_52 (by decide) ?_
          exact hJ53 _ _ _ _ h hP hS (lv_sub hl [0, 1, 2, 3, 4] rfl)
        refine lv_if_eq (tgt := 52) hx hb dX6_outOf_35 (by decide) (fun yc35 => ?_) (fun yc35 => ?_)
        · have h := z_ifp yc35 h
          exact hJ52  _ _ _ h hP hS (lv_sub hl [0, 1, 2, 3, 5] rfl)
        · have h := z_ifn yc35 h
          refine lv_iload hx hb dX6_outOf_38 (lv_at hl 2 rfl) ?_
          refine lv_iload hx hb dX6_outOf_40 (lv_at hl 5 rfl) ?_
          obtain ⟨yr13, yhc42, h⟩ := z_brx h
          refine z_kz (z_rS (As := [.int yr3, .int yv7]) (rest := []) ⟨hx, hb, hml, hown, hts⟩ hK hP (kX6_has yhc42) giX6_122 ⟨rfl, rfl⟩ ndX6_has ⟨Nat.le_of_ble_eq_true rfl, Nat.le_of_ble_eq_true rfl⟩ rfl hl.1 rfl (Nat.le_of_ble_eq_true rfl) ⟨Nat.le_refl _, Nat.le_refl _⟩ dX6_outOf_42) hS (fun H locs z_yr13 hP hS => ?_)
          refine lv_if_ne (tgt := 52) hx hb dX6_outOf_45 (by decide) (fun yc45 => ?_) (fun yc45 => ?_)
          · have h := z_ifn yc45 h
            exact hJ52  _ _ _ h hP hS (lv_sub hl [0, 1, 2, 3, 5] rfl)
          · have h := z_ifp yc45 h
            refine lv_iconst (v := (1 : Int32)) hx hb dX6_outOf_48 (by decide) ?_
            refine lv_goto (tgt := 53) hx hb dX6_outOf_49 (by decide) ?_
            exact hJ53 _ _ _ _ h hP hS (lv_sub hl [0, 1, 2, 3, 5] rfl)
  exact hL24 yn24 _ _ _ _ _ _ hlp hP hS (lv_sub hl [6, 4, 3, 2, 1, 0] rfl)
noncomputable def fX6_heldOf (yd : Dt) (ya1 : Nat) (yx2 : Int32) : Option (Int32 × Dt) :=
  z_bd (fX6_answersOf yd ya1 yx2) fun yr1 yd2 => z_bd (fX6_outOf yd2 ya1 yx2) fun yr3 yd4 => z_br (fX6_ones (yr1 &&& (yr3 ^^^ (-1 : Int32)))) fun yr5 => z_bd (fX6_doubtsOf yd4 ya1 yx2) fun yr6 yd7 => z_br (fX6_ones yr6) fun yr8 => some ((yr5 + yr8), yd7)
set_option maxHeartbeats 4000000 in
set_option maxRecDepth 100000 in
theorem kX6_heldOf {l : Launch} {D : va_G} {G : z_G} {ad : Nat → Nat} {A : Nat → Prop} (hI : ∀ d, va_D A (WM G ad d)) {yd : Dt} {ya1 : Nat} {yx2 : Int32} (yh1 : arM ya1 = 214) {rr : Int32} {dd : Dt} (h : fX6_heldOf yd ya1 yx2 = some (rr, dd)) : z_Mi l D G A (WM G ad) yX6_heldOf cX6_heldOf 3 (z_rm 7 182) yd [.ref (ad 0), .ref (ad ya1), .int yx2] rr dd := by
  refine z_ofi (by decide) (Nat.le_of_ble_eq_true rfl) fun p e s m args below meth c Q hx hb hml hown hts hK hP hRet ls hl => ?_
  have hS : va_S A s.heap s.heap [] := va_S.rf
  have hl : lv_has ls 3 [(0, .ref (ad 0)), (1, .ref (ad ya1)), (2, .int yx2)] := hl
  have h : (z_bd (fX6_answersOf yd ya1 yx2) fun yr1 yd2 => z_bd (fX6_outOf yd2 ya1 yx2) fun yr3 yd4 => z_br (fX6_ones (yr1 &&& (yr3 ^^^ (-1 : Int32)))) fun yr5 => z_bd (fX6_doubtsOf yd4 ya1 yx2) fun yr6 yd7 => z_br (fX6_ones yr6) fun yr8 => some ((yr5 + yr8), yd7)) = some (rr, dd) := h
  refine lv_aload_n hx hb dX6_heldOf_0 rfl (lv_at hl 0 rfl) ?_
  refine lv_aload_n hx hb dX6_heldOf_1 rfl (lv_at hl 1 rfl) ?_
  refine lv_iload_n hx hb dX6_heldOf_2 rfl (lv_at hl 2 rfl) ?_
  obtain ⟨yr1, yd2, yhc3, h⟩ := z_bdx h
  refine z_ki (z_rV (As := [.ref (ad ya1), .int yx2]) (rest := []) ⟨hx, hb, hml, hown, hts⟩ hK hP w_X6 rfl (kX6_answersOf hI yh1 yhc3) giX6_144 ⟨rfl, rfl⟩ ndX6_answersOf ⟨Nat.le_of_ble_eq_true rfl, Nat.le_of_ble_eq_true rfl⟩ rfl hl.1 rfl (Nat.le_of_ble_eq_true rfl) ⟨Nat.le_refl _, Nat.le_refl _⟩ dX6_heldOf_3) hS (fun H locs hP hS => ?_)
  refine lv_aload_n hx hb dX6_heldOf_6 rfl (lv_at hl 0 rfl) ?_
  refine lv_aload_n hx hb dX6_heldOf_7 rfl (lv_at hl 1 rfl) ?_
  refine lv_iload_n hx hb dX6_heldOf_8 rfl (lv_at hl 2 rfl) ?_
  obtain ⟨yr3, yd4, yhc9, h⟩ := z_bdx h
  refine z_ki (z_rV (As := [.ref (ad ya1), .int yx2]) (rest := [.int yr1]) ⟨hx, hb, hml, hown, hts⟩ hK hP w_X6 rfl (kX6_outOf hI yh1 yhc9) giX6_150 ⟨rfl, rfl⟩ ndX6_outOf ⟨Nat.le_of_ble_eq_true rfl, Nat.le_of_ble_eq_true rfl⟩ rfl hl.1 rfl (Nat.le_of_ble_eq_true rfl) ⟨Nat.le_refl _, Nat.le_refl _⟩ dX6_heldOf_9) hS (fun H locs hP hS => ?_)
  refine lv_iconst (v := (-1 : Int32)) hx hb dX6_heldOf_12 (by decide) ?_
  refine lv_ixor hx hb dX6_heldOf_13 ?_
  refine lv_iand hx hb dX6_heldOf_14 ?_
  obtain ⟨yr5, yhc15, h⟩ := z_brx h
  refine z_ki (z_rS (As := [.int (yr1 &&& (yr3 ^^^ (-1 : Int32)))]) (rest := []) ⟨hx, hb, hml, hown, hts⟩ hK hP (kX6_ones yhc15) giX6_153 ⟨rfl, rfl⟩ ndX6_ones ⟨Nat.le_of_ble_eq_true rfl, Nat.le_of_ble_eq_true rfl⟩ rfl hl.1 rfl (Nat.le_of_ble_eq_true rfl) ⟨Nat.le_refl _, Nat.le_refl _⟩ dX6_heldOf_15) hS (fun H locs hP hS => ?_)
  refine lv_aload_n hx hb dX6_heldOf_18 rfl (lv_at hl 0 rfl) ?_
  refine lv_aload_n hx hb dX6_heldOf_19 rfl (lv_at hl 1 rfl) ?_
  refine lv_iload_n hx hb dX6_heldOf_20 rfl (lv_at hl 2 rfl) ?_
  obtain ⟨yr6, yd7, yhc21, h⟩ := z_bdx h
  refine z_ki (z_rV (As := [.ref (ad ya1), .int yx2]) (rest := [.int yr5]) ⟨hx, hb, hml, hown, hts⟩ hK hP w_X6 rfl (kX6_doubtsOf hI yh1 yhc21) giX6_147 ⟨rfl, rfl⟩ ndX6_doubtsOf ⟨Nat.le_of_ble_eq_true rfl, Nat.le_of_ble_eq_true rfl⟩ rfl hl.1 rfl (Nat.le_of_ble_eq_true rfl) ⟨Nat.le_refl _, Nat.le_refl _⟩ dX6_heldOf_21) hS (fun H locs hP hS => ?_)
  obtain ⟨yr8, yhc24, h⟩ := z_brx h
  refine z_ki (z_rS (As := [.int yr6]) (rest := [.int yr5]) ⟨hx, hb, hml, hown, hts⟩ hK hP (kX6_ones yhc24) giX6_153 ⟨rfl, rfl⟩ ndX6_ones ⟨Nat.le_of_ble_eq_true rfl, Nat.le_of_ble_eq_true rfl⟩ rfl hl.1 rfl (Nat.le_of_ble_eq_true rfl) ⟨Nat.le_refl _, Nat.le_refl _⟩ dX6_heldOf_24) hS (fun H locs hP hS => ?_)
  refine lv_iadd hx hb dX6_heldOf_27 ?_
  exact hRet _ _ _ _ _ _ hP hS h dX6_heldOf_28
