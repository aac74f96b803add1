noncomputable def bX6_layWorth_10 (yv1 : Int32) (s : Int32 × Dt) : Option ((Int32 × Dt) ⊕ (Dt)) := match s with
  | (yv2, yd3) => zif (yv1 ≤ yv2) (some (.inr yd3)) (z_bd (fX6_answersOf yd3 2 yv2) fun yr4 yd5 => z_gd (z_in yv2 5) (z_nm (z_st yd5 12 (z_ix yv2) yr4) fun yd6 => z_nm (yv2 + (1 : Int32)) fun yv7 => some (.inl (yv7, yd6))))
noncomputable def jX6_layWorth_77 (yv11 : Int32) (yv12 : Int32) (yv14 : Int32) : Option ((Int32 × Int32) ⊕ (Int32)) :=
  z_nm (yv11 ||| yv14) fun yv15 => z_nm (yv12 + (1 : Int32)) fun yv16 => some (.inl (yv15, yv16))
noncomputable def bX6_layWorth_50 (yv1 : Int32) (yv9 : Int32) (yd10 : Dt) (s : Int32 × Int32) : Option ((Int32 × Int32) ⊕ (Int32)) := match s with
  | (yv11, yv12) => zif (yv1 ≤ yv12) (some (.inr yv11)) (z_br (fX6_has yv9 yv12) fun yr13 => zif (yr13 = 0) (jX6_layWorth_77 yv11 yv12 (0 : Int32)) (z_gd (z_in yv12 5) (jX6_layWorth_77 yv11 yv12 (yd10.1 12 (z_ix yv12)))))
noncomputable def bX6_layWorth_38 (yv1 : Int32) (s : Int32 × Dt) : Option ((Int32 × Dt) ⊕ (Dt)) := match s with
  | (yv9, yd10) => zif (((1 : Int32) <<< (yv1 &&& 31)) ≤ yv9) (some (.inr yd10)) (z_br (z_lp (bX6_layWorth_50 yv1 yv9 yd10) ((0 : Int32), (0 : Int32))) (fun t => match t with | yv17 => z_br (fX6_ones yv17) fun yr18 => z_gd (z_in yv9 32) (z_nm (z_st yd10 11 (z_ix yv9) yr18) fun yd19 => z_nm (yv9 + (1 : Int32)) fun yv20 => some (.inl (yv20, yd19)))))
noncomputable def fX6_layWorth (yd : Dt) : Option (Dt) :=
  z_nm (yd.1 2 (z_ix (83 : Int32))) fun yv1 => z_br (z_lp (bX6_layWorth_10 yv1) ((0 : Int32), yd)) (fun t => match t with | yd8 => z_br (z_lp (bX6_layWorth_38 yv1) ((0 : Int32), yd8)) (fun t => match t with | yd21 => some yd21))
set_option maxHeartbeats 4000000 in
set_option maxRecDepth 100000 in
theorem kX6_layWorth {l : Launch} {D : va_G} {G : z_G} {ad : Nat → Nat} {A : Nat → Prop} (hI : ∀ d, va_D A (WM G ad d)) {yd : Dt}   {dd : Dt} (h : fX6_layWorth yd = some dd) : z_Mv l D G A (WM G ad) yX6_layWorth cX6_layWorth 5 (z_rm 6 155) yd [.ref (ad 0)] dd := by
  refine z_ofv (by decide) (Nat.le_of_ble_eq_true rfl) fun p e s m args below meth c Q hx hb hml hown hts hK hP hRet ls hl => ?_
  have hS : va_S A s.heap s.heap [] := va_S.rf
  have hl : lv_has ls 5 [(0, .ref (ad 0))] := hl
  have h : (z_nm (yd.1 2 (z_ix (83 : Int32))) fun yv1 => z_br (z_lp (bX6_layWorth_10 yv1) ((0 : Int32), yd)) (fun t => match t with | yd8 => z_br (z_lp (bX6_layWorth_38 yv1) ((0 : Int32), yd8)) (fun t => match t with | yd21 => some yd21))) = some dd := h
  refine lv_aload_n hx hb dX6_layWorth_0 rfl (lv_at hl 0 rfl) ?_
  refine gt_X6_2 hx hb hts hown hK hP (hts _ wl_3_136) dX6_layWorth_1 ?_
  refine lv_bipush (v := (83 : Int32)) hx hb dX6_layWorth_4 (by decide) ?_
  refine al_M hx hb hK hP rfl (by decide) (z_li (by decide) : vp_in (83 : Int32) 214) dX6_layWorth_6 ?_
  refine lv_topi (fun yv1 e_yv1 => ?_)
  have h := z_nma e_yv1 h
  refine lv_istore_n (lv' := [(1, .int yv1), (0, .ref (ad 0))]) hx hb dX6_layWorth_7 rfl hl (by decide) rfl (fun ls hl => ?_)
  refine lv_iconst (v := (0 : Int32)) hx hb dX6_layWorth_8 (by decide) ?_
  refine lv_istore_n (lv' := [(2, .int (0 : Int32)), (1, .int yv1), (0, .ref (ad 0))]) hx hb dX6_layWorth_9 rfl hl (by decide) rfl (fun ls hl => ?_)
  obtain ⟨yt10, hlp, h⟩ := z_brx h
  obtain ⟨yn10, hlp⟩ := z_lpx hlp
  have hE36 : ∀ (yd8 : Dt) (H : Heap) (locs : List Loc) (ls : Array Slot), yd8 = yt10 → va_P D vwCl (WM G ad yd8) H → va_S A s.heap H locs → lv_has ls 5 [(0, .ref (ad 0)), (1, .int yv1)] → W p l e (z_rm 6 155) s m args below meth c H locs 0 0 Q (F0 m 36 ls []) := by
    intro yd8 H locs ls et hP hS hl
    subst et
    have h : (z_br (z_lp (bX6_layWorth_38 yv1) ((0 : Int32), yd8)) (fun t => match t with | yd21 => some yd21)) = some dd := h
    refine lv_iconst (v := (0 : Int32)) hx hb dX6_layWorth_36 (by decide) ?_
    refine lv_istore_n (lv' := [(2, .int (0 : Int32)), (0, .ref (ad 0)), (1, .int yv1)]) hx hb dX6_layWorth_37 rfl hl (by decide) rfl (fun ls hl => ?_)
    obtain ⟨yt38, hlp, h⟩ := z_brx h
    obtain ⟨yn38, hlp⟩ := z_lpx hlp
    have hE101 : ∀ (yd21 : Dt) (H : Heap) (locs : List Loc) (ls : Array Slot), yd21 = yt38 → va_P D vwCl (WM G ad yd21) H → va_S A s.heap H locs → lv_has ls 5 [] → W p l e (z_rm 6 155) s m args below meth c H locs 0 0 Q (F0 m 101 ls []) := by
      intro yd21 H locs ls et hP hS hl
      subst et
      have h : (some yd21) = some dd := h
      exact hRet _ _ _ _ _ hP hS h dX6_layWorth_101
    have hL38 : ∀ (n : Nat) (yv9 : Int32) (yd10 : Dt) (H : Heap) (locs : List Loc) (ls : Array Slot), z_it (bX6_layWorth_38 yv1) n (yv9, yd10) = some yt38 → va_P D vwCl (WM G ad yd10) H → va_S A s.heap H locs → lv_has ls 5 [(0, .ref (ad 0)), (1, .int yv1), (2, .int yv9)] → W p l e (z_rm 6 155) s m args below meth c H locs 0 0 Q (F0 m 38 ls []) := by
      intro n
      induction n with
      | zero => intro yv9 yd10 H locs ls hn; exact z_it0 hn
      | succ n ih =>
        intro yv9 yd10 H locs ls hn hP hS hl
        obtain ⟨yq38, h, hq1, hq2⟩ := z_itx hn
        have h : (zif (((1 : Int32) <<< (yv1 &&& 31)) ≤ yv9) (some (.inr yd10)) (z_br (z_lp (bX6_layWorth_50 yv1 yv9 yd10) ((0 : Int32), (0 : Int32))) (fun t => match t with | yv17 => z_br (fX6_ones yv17) fun yr18 => z_gd (z_in yv9 32) (z_nm (z_st yd10 11 (z_ix yv9) yr18) fun yd19 => z_nm (yv9 + (1 : Int32)) fun yv20 => some (.inl (yv20, yd19)))))) = some yq38 := h
        refine lv_iload_n hx hb dX6_layWorth_38 rfl (lv_at hl 2 rfl) ?_
        refine lv_iconst (v := (1 : Int32)) hx hb dX6_layWorth_39 (by decide) ?_
        refine lv_iload_n hx hb dX6_layWorth_40 rfl (lv_at hl 1 rfl) ?_
        refine lv_ishl hx hb dX6_layWorth_41 ?_
        refine lv_icmp_ge (tgt := 101) hx hb dX6_layWorth_42 (by decide) (fun yc42 => ?_) (fun yc42 => ?_)
        · have h := z_ifp yc42 h
          exact hE101 _ _ _ _ (hq2 _ (z_sm h).symm) hP hS (lv_sub hl [] rfl)
        · have h := z_ifn yc42 h
          refine lv_iconst (v := (0 : Int32)) hx hb dX6_layWorth_45 (by decide) ?_
          refine lv_istore_n (lv' := [(3, .int (0 : Int32)), (0, .ref (ad 0)), (1, .int yv1), (2, .int yv9)]) hx hb dX6_layWorth_46 rfl hl (by decide) rfl (fun ls hl => ?_)
          refine lv_iconst (v := (0 : Int32)) hx hb dX6_layWorth_47 (by decide) ?_
          refine lv_istore (lv' := [(4, .int (0 : Int32)), (3, .int (0 : Int32)), (0, .ref (ad 0)), (1, .int yv1), (2, .int yv9)]) hx hb dX6_layWorth_48 hl (by decide) rfl (fun ls hl => ?_)
          obtain ⟨yt50, hlp, h⟩ := z_brx h
          obtain ⟨yn50, hlp⟩ := z_lpx hlp
          have hE85 : ∀ (yv17 : Int32) (H : Heap) (locs : List Loc) (ls : Array Slot), yv17 = yt50 → va_P D vwCl (WM G ad yd10) H → va_S A s.heap H locs → lv_has ls 5 [(0, .ref (ad 0)), (1, .int yv1), (2, .int yv9), (3, .int yv17)] → W p l e (z_rm 6 155) s m args below meth c H locs 0 0 Q (F0 m 85 ls []) := by
            intro yv17 H locs ls et hP hS hl
            subst et
            have h : (z_br (fX6_ones yv17) fun yr18 => z_gd (z_in yv9 32) (z_nm (z_st yd10 11 (z_ix yv9) yr18) fun yd19 => z_nm (yv9 + (1 : Int32)) fun yv20 => some (.inl (yv20, yd19)))) = some yq38 := h
            refine lv_aload_n hx hb dX6_layWorth_85 rfl (lv_at hl 0 rfl) ?_
            refine gt_X6_16 hx hb hts hown hK hP (hts _ wl_3_150) dX6_layWorth_86 ?_
            refine lv_iload_n hx hb dX6_layWorth_89 rfl (lv_at hl 2 rfl) ?_
            refine lv_iload_n hx hb dX6_layWorth_90 rfl (lv_at hl 3 rfl) ?_
            obtain ⟨yr18, yhc91, h⟩ := z_brx h
            refine z_ki (z_rS (As := [.int yv17]) (rest := [.int yv9, .ref (ad 11)]) ⟨hx, hb, hml, hown, hts⟩ hK hP (kX6_ones yhc91) giX6_153 ⟨rfl, rfl⟩ ndX6_ones ⟨Nat.le_of_ble_eq_true rfl, Nat.le_of_ble_eq_true rfl⟩ rfl hl.1 rfl (Nat.le_of_ble_eq_true rfl) ⟨Nat.le_refl _, Nat.le_refl _⟩ dX6_layWorth_91) hS (fun H locs hP hS => ?_)
            obtain ⟨yg94, h⟩ := z_gi h
            refine as_M hx hb hK hP hI hS rfl (by decide) yg94 dX6_layWorth_94 (fun H locs yd19 e_yd19 hP hS => ?_)
            have h := z_nma e_yd19 h
            obtain ⟨yv20, e_yv20, h⟩ := z_nmx h
            refine lv_iinc (v := yv20) (lv' := [(2, .int yv20), (0, .ref (ad 0)), (1, .int yv1), (3, .int yv17)]) hx hb dX6_layWorth_95 hl (k := 2) rfl (by rw [e_yv20]; rfl) (by decide) rfl (fun ls hl => ?_)
            refine lv_goto (tgt := 38) hx hb dX6_layWorth_98 (by decide) ?_
            exact ih _ _ _ _ _ (hq1 _ (z_sm h).symm) hP hS (lv_sub hl [1, 2, 0] rfl)
          have hL50 : ∀ (n : Nat) (yv11 : Int32) (yv12 : Int32) (H : Heap) (locs : List Loc) (ls : Array Slot), z_it (bX6_layWorth_50 yv1 yv9 yd10) n (yv11, yv12) = some yt50 → va_P D vwCl (WM G ad yd10) H → va_S A s.heap H locs → lv_has ls 5 [(0, .ref (ad 0)), (1, .int yv1), (2, .int yv9), (3, .int yv11), (4, .int yv12)] → W p l e (z_rm 6 155) s m args below meth c H locs 0 0 Q (F0 m 50 ls []) := by
            intro n
            induction n with
            | zero => intro yv11 yv12 H locs ls hn; exact z_it0 hn
            | succ n ih =>
              intro yv11 yv12 H locs ls hn hP hS hl
              obtain ⟨yq50, h, hq1, hq2⟩ := z_itx hn
              have h : (zif (yv1 ≤ yv12) (some (.inr yv11)) (z_br (fX6_has yv9 yv12) fun yr13 => zif (yr13 = 0) (jX6_layWorth_77 yv11 yv12 (0 : Int32)) (z_gd (z_in yv12 5) (jX6_layWorth_77 yv11 yv12 (yd10.1 12 (z_ix yv12)))))) = some yq50 := h
              refine lv_iload hx hb dX6_layWorth_50 (lv_at hl 4 rfl) ?_
              refine lv_iload_n hx hb dX6_layWorth_52 rfl (lv_at hl 1 rfl) ?_
              refine lv_icmp_ge (tgt := 85) hx hb dX6_layWorth_53 (by decide) (fun yc53 => ?_) (fun yc53 => ?_)
              · have h := z_ifp yc53 h
                exact hE85 _ _ _ _ (hq2 _ (z_sm h).symm) hP hS (lv_sub hl [0, 1, 2, 3] rfl)
              · have h := z_ifn yc53 h
                refine lv_iload_n hx hb dX6_layWorth_56 rfl (lv_at hl 3 rfl) ?_
                refine lv_iload_n hx hb dX6_layWorth_57 rfl (lv_at hl 2 rfl) ?_
                refine lv_iload hx hb dX6_layWorth_58 (lv_at hl 4 rfl) ?_
                obtain ⟨yr13, yhc60, h⟩ := z_brx h
                refine z_kz (z_rS (As := [.int yv9, .int yv12]) (rest := [.int yv11]) ⟨hx, hb, hml, hown, hts⟩ hK hP (kX6_has yhc60) giX6_122 ⟨rfl, rfl⟩ ndX6_has ⟨Nat.le_of_ble_eq_true rfl, Nat.le_of_ble_eq_true rfl⟩ rfl hl.1 rfl (Nat.le_of_ble_eq_true rfl) ⟨Nat.le_refl _, Nat.le_refl _⟩ dX6_layWorth_60) hS (fun H locs z_yr13 hP hS => ?_)
                have hJ77 : ∀ (yv14 : Int32) (H : Heap) (locs : List Loc) (ls : Array Slot), jX6_layWorth_77 yv11 yv12 yv14 = some yq50 → va_P D vwCl (WM G ad yd10) H → va_S A s.heap H locs → lv_has ls 5 [(0, .ref (ad 0)), (1, .int yv1), (2, .int yv9), (4, .int yv12)] → W p l e (z_rm 6 155) s m args below meth c H locs 0 0 Q (F0 m 77 ls [.int yv14, .int yv11]) := by
                  intro yv14 H locs ls h hP hS hl
                  have h : (z_nm (yv11 ||| yv14) fun yv15 => z_nm (yv12 + (1 : Int32)) fun yv16 => some (.inl (yv15, yv16))) = some yq50 := h
                  refine lv_ior hx hb dX6_layWorth_77 ?_
                  refine lv_topi (fun yv15 e_yv15 => ?_)
                  have h := z_nma e_yv15 h
                  refine lv_istore_n (lv' := [(3, .int yv15), (0, .ref (ad 0)), (1, .int yv1), (2, .int yv9), (4, .int yv12)]) hx hb dX6_layWorth_78 rfl hl (by decide) rfl (fun ls hl => ?_)
                  obtain ⟨yv16, e_yv16, h⟩ := z_nmx h
                  refine lv_iinc (v := yv16) (lv' := [(4, .int yv16), (3, .int yv15), (0, .ref (ad 0)), (1, .int yv1), (2, .int yv9)]) hx hb dX6_layWorth_79 hl (k := 4) rfl (by rw [e_yv16]; rfl) (by decide) rfl (fun ls hl => ?_)
                  refine lv_goto (tgt := 50) hx hb dX6_layWorth_82 (by decide) ?_
                  exact ih _ _ _ _ _ (hq1 _ (z_sm h).symm) hP hS (lv_sub hl [2, 3, 4, 1, 0] rfl)
                refine lv_if_eq (tgt := 76) hx hb dX6_layWorth_63 (by decide) (fun yc63 => ?_) (fun yc63 => ?_)
                · have h := z_ifp yc63 h
                  refine lv_iconst (v := (0 : Int32)) hx hb dX6_layWorth_76 (by decide) ?_
                  exact hJ77 _ _ _ _ h hP hS (lv_sub hl [0, 1, 2, 4] rfl)
                · have h := z_ifn yc63 h
                  refine lv_aload_n hx hb dX6_layWorth_66 rfl (lv_at hl 0 rfl) ?_
                  refine gt_X6_17 hx hb hts hown hK hP (hts _ wl_3_151) dX6_layWorth_67 ?_
                  refine lv_iload hx hb dX6_layWorth_70 (lv_at hl 4 rfl) ?_
                  obtain ⟨yg72, h⟩ := z_gi h
                  refine al_M hx hb hK hP rfl (by decide) yg72 dX6_layWorth_72 ?_
                  refine lv_goto (tgt := 77) hx hb dX6_layWorth_73 (by decide) ?_
                  exact hJ77 _ _ _ _ h hP hS (lv_sub hl [0, 1, 2, 4] rfl)
          exact hL50 yn50 _ _ _ _ _ hlp hP hS (lv_sub hl [2, 3, 4, 1, 0] rfl)
    exact hL38 yn38 _ _ _ _ _ hlp hP hS (lv_sub hl [1, 2, 0] rfl)
  have hL10 : ∀ (n : Nat) (yv2 : Int32) (yd3 : Dt) (H : Heap) (locs : List Loc) (ls : Array Slot), z_it (bX6_layWorth_10 yv1) n (yv2, yd3) = some yt10 → va_P D vwCl (WM G ad yd3) H → va_S A s.heap H locs → lv_has ls 5 [(0, .ref (ad 0)), (1, .int yv1), (2, .int yv2)] → W p l e (z_rm 6 155) s m args below meth c H locs 0 0 Q (F0 m 10 ls []) := by
    intro n
    induction n with
    | zero => intro yv2 yd3 H locs ls hn; exact z_it0 hn
    | succ n ih =>
      intro yv2 yd3 H locs ls hn hP hS hl
      obtain ⟨yq10, h, hq1, hq2⟩ := z_itx hn
      have h : (zif (yv1 ≤ yv2) (some (.inr yd3)) (z_bd (fX6_answersOf yd3 2 yv2) fun yr4 yd5 => z_gd (z_in yv2 5) (z_nm (z_st yd5 12 (z_ix yv2) yr4) fun yd6 => z_nm (yv2 + (1 : Int32)) fun yv7 => some (.inl (yv7, yd6))))) = some yq10 := h
      refine lv_iload_n hx hb dX6_layWorth_10 rfl (lv_at hl 2 rfl) ?_
      refine lv_iload_n hx hb dX6_layWorth_11 rfl (lv_at hl 1 rfl) ?_
      refine lv_icmp_ge (tgt := 36) hx hb dX6_layWorth_12 (by decide) (fun yc12 => ?_) (fun yc12 => ?_)
      · have h := z_ifp yc12 h
        exact hE36 _ _ _ _ (hq2 _ (z_sm h).symm) hP hS (lv_sub hl [0, 1] rfl)
      · have h := z_ifn yc12 h
        refine lv_aload_n hx hb dX6_layWorth_15 rfl (lv_at hl 0 rfl) ?_
        refine gt_X6_17 hx hb hts hown hK hP (hts _ wl_3_151) dX6_layWorth_16 ?_
        refine lv_iload_n hx hb dX6_layWorth_19 rfl (lv_at hl 2 rfl) ?_
        refine lv_aload_n hx hb dX6_layWorth_20 rfl (lv_at hl 0 rfl) ?_
        refine lv_aload_n hx hb dX6_layWorth_21 rfl (lv_at hl 0 rfl) ?_
        refine gt_X6_2 hx hb hts hown hK hP (hts _ wl_3_136) dX6_layWorth_22 ?_
        refine lv_iload_n hx hb dX6_layWorth_25 rfl (lv_at hl 2 rfl) ?_
        obtain ⟨yr4, yd5, yhc26, h⟩ := z_bdx h
        refine z_ki (z_rV (As := [.ref (ad 2), .int yv2]) (rest := [.int yv2, .ref (ad 12)]) ⟨hx, hb, hml, hown, hts⟩ hK hP w_X6 rfl (kX6_answersOf hI rfl yhc26) giX6_144 ⟨rfl, rfl⟩ ndX6_answersOf ⟨Nat.le_of_ble_eq_true rfl, Nat.le_of_ble_eq_true rfl⟩ rfl hl.1 rfl (Nat.le_of_ble_eq_true rfl) ⟨Nat.le_refl _, Nat.le_refl _⟩ dX6_layWorth_26) hS (fun H locs hP hS => ?_)
        obtain ⟨yg29, h⟩ := z_gi h
        refine as_M hx hb hK hP hI hS rfl (by decide) yg29 dX6_layWorth_29 (fun H locs yd6 e_yd6 hP hS => ?_)
        have h := z_nma e_yd6 h
        obtain ⟨yv7, e_yv7, h⟩ := z_nmx h
        refine lv_iinc (v := yv7) (lv' := [(2, .int yv7), (0, .ref (ad 0)), (1, .int yv1)]) hx hb dX6_layWorth_30 hl (k := 2) rfl (by rw [e_yv7]; rfl) (by decide) rfl (fun ls hl => ?_)
        refine lv_goto (tgt := 10) hx hb dX6_layWorth_33 (by decide) ?_
        exact ih _ _ _ _ _ (hq1 _ (z_sm h).symm) hP hS (lv_sub hl [1, 2, 0] rfl)
  exact hL10 yn10 _ _ _ _ _ hlp hP hS (lv_sub hl [2, 1, 0] rfl)
noncomputable def jX6_share_92 (yv5 : Int32) (yv7 : Int32) : Option ((Int32 × Int32) ⊕ (Int32)) :=
  z_nm (yv5 + (1 : Int32)) fun yv8 => some (.inl (yv7, yv8))
noncomputable def bX6_share_28 (yv2 : Int32) (yx1 : Int32) (yd3 : Dt) (s : Int32 × Int32) : Option ((Int32 × Int32) ⊕ (Int32)) := match s with
  | (yv4, yv5) => zif (((1 : Int32) <<< (yv2 &&& 31)) ≤ yv5) (some (.inr yv4)) (z_br (fX6_has yv5 yx1) fun yr6 => zif (yr6 = 0) (z_br (fX6_ones yv5) fun yr9 => z_br (fX6_factorial yr9) fun yr10 => z_br (fX6_factorial ((yv2 - (1 : Int32)) - yr9)) fun yr11 => z_gd (z_in (yv5 ||| ((1 : Int32) <<< (yx1 &&& 31))) 32) (z_gd (z_in yv5 32) (z_nm (yv4 + ((yr10 * yr11) * ((yd3.1 11 (z_ix (yv5 ||| ((1 : Int32) <<< (yx1 &&& 31))))) - (yd3.1 11 (z_ix yv5))))) fun yv12 => jX6_share_92 yv5 yv12))) (jX6_share_92 yv5 yv4))
noncomputable def fX6_share (yd : Dt) (yx1 : Int32) (yx2 : Int32) : Option (Int32 × Dt) :=
  z_br (fX6_isPath yd yx1) fun yr1 => zif (yr1 = 0) (some ((-1 : Int32), yd)) (z_nm (yd.1 2 (z_ix (83 : Int32))) fun yv2 => z_br (fX6_layWorth yd) fun yd3 => z_br (z_lp (bX6_share_28 yv2 yx1 yd3) ((0 : Int32), (0 : Int32))) (fun t => match t with | yv13 => z_br (fX6_factorial yv2) fun yr14 => z_br (fX6_fraction yv13 yr14 yx2) fun yr15 => some (yr15, yd3)))
set_option maxHeartbeats 4000000 in
set_option maxRecDepth 100000 in
theorem kX6_share {l : Launch} {D : va_G} {G : z_G} {ad : Nat → Nat} {A : Nat → Prop} (hI : ∀ d, va_D A (WM G ad d)) {yd : Dt} {yx1 : Int32} {yx2 : Int32} (z_yx2 : yx2 = 0 ∨ yx2 = 1) {rr : Int32} {dd : Dt} (h : fX6_share yd yx1 yx2 = some (rr, dd)) : z_Mi l D G A (WM G ad) yX6_share cX6_share 7 (z_rm 7 179) yd [.ref (ad 0), .int yx1, .int yx2] rr dd := by
  refine z_ofi (by decide) (Nat.le_of_ble_eq_true rfl) fun p e s m args below meth c Q hx hb hml hown hts hK hP hRet ls hl => ?_
  have hS : va_S A s.heap s.heap [] := va_S.rf
  have hl : lv_has ls 7 [(0, .ref (ad 0)), (1, .int yx1), (2, .int yx2)] := hl
  have h : (z_br (fX6_isPath yd yx1) fun yr1 => zif (yr1 = 0) (some ((-1 : Int32), yd)) (z_nm (yd.1 2 (z_ix (83 : Int32))) fun yv2 => z_br (fX6_layWorth yd) fun yd3 => z_br (z_lp (bX6_share_28 yv2 yx1 yd3) ((0 : Int32), (0 : Int32))) (fun t => match t with | yv13 => z_br (fX6_factorial yv2) fun yr14 => z_br (fX6_fraction yv13 yr14 yx2) fun yr15 => some (yr15, yd3)))) = some (rr, dd) := h
  refine lv_aload_n hx hb dX6_share_0 rfl (lv_at hl 0 rfl) ?_
  refine lv_iload_n hx hb dX6_share_1 rfl (lv_at hl 1 rfl) ?_
  obtain ⟨yr1, yhc2, h⟩ := z_brx h
  refine z_kz (z_rV (As := [.int yx1]) (rest := []) ⟨hx, hb, hml, hown, hts⟩ hK hP w_X6 rfl (kX6_isPath hI yhc2) giX6_208 ⟨rfl, rfl⟩ ndX6_isPath ⟨Nat.le_of_ble_eq_true rfl, Nat.le_of_ble_eq_true rfl⟩ rfl hl.1 rfl (Nat.le_of_ble_eq_true rfl) ⟨Nat.le_refl _, Nat.le_refl _⟩ dX6_share_2) hS (fun H locs z_yr1 hP hS => ?_)
  refine lv_if_ne (tgt := 10) hx hb dX6_share_5 (by decide) (fun yc5 => ?_) (fun yc5 => ?_)
  · have h := z_ifn yc5 h
    refine lv_aload_n hx hb dX6_share_10 rfl (lv_at hl 0 rfl) ?_
    refine gt_X6_2 hx hb hts hown hK hP (hts _ wl_3_136) dX6_share_11 ?_
    refine lv_bipush (v := (83 : Int32)) hx hb dX6_share_14 (by decide) ?_
    refine al_M hx hb hK hP rfl (by decide) (z_li (by decide) : vp_in (83 : Int32) 214) dX6_share_16 ?_
    refine lv_topi (fun yv2 e_yv2 => ?_)
    have h := z_nma e_yv2 h
    refine lv_istore_n (lv' := [(3, .int yv2), (0, .ref (ad 0)), (1, .int yx1), (2, .int yx2)]) hx hb dX6_share_17 rfl hl (by decide) rfl (fun ls hl => ?_)
    refine lv_aload_n hx hb dX6_share_18 rfl (lv_at hl 1 rfl) ?_
    obtain ⟨yd3, yhc19, h⟩ := z_brx h
    refine z_kv (z_rV (As := []) (rest := []) ⟨hx, hb, hml, hown, hts⟩ hK hP w_X6 rfl (kX6_layWorth hI yhc19) giX6_246 ⟨rfl, rfl⟩ ndX6_layWorth ⟨Nat.le_of_ble_eq_true rfl, Nat.le_of_ble_eq_true rfl⟩ rfl hl.1 rfl (Nat.le_of_ble_eq_true rfl) ⟨Nat.le_refl _, Nat.le_refl _⟩ dX6_share_19) hS (fun H locs hP hS => ?_)
    refine lv_iconst (v := (0 : Int32)) hx hb dX6_share_22 (by decide) ?_
    refine lv_istore (lv' := [(4, .int (0 : Int32)), (3, .int yv2), (0, .ref (ad 0)), (1, .int yx1), (2, .int yx2)]) hx hb dX6_share_23 hl (by decide) rfl (fun ls hl => ?_)
    refine lv_iconst (v := (0 : Int32)) hx hb dX6_share_25 (by decide) ?_
    refine lv_istore (lv' := [(5, .int (0 : Int32)), (4, .int (0 : Int32)), (3, .int yv2), (0, .ref (ad 0)), (1, .int yx1), (2, .int yx2)]) hx hb dX6_share_26 hl (by decide) rfl (fun ls hl => ?_)
    obtain ⟨yt28, hlp, h⟩ := z_brx h
    obtain ⟨yn28, hlp⟩ := z_lpx hlp
    have hE98 : ∀ (yv13 : Int32) (H : Heap) (locs : List Loc) (ls : Array Slot), yv13 = yt28 → va_P D vwCl (WM G ad yd3) H → va_S A s.heap H locs → lv_has ls 7 [(2, .int yx2), (3, .int yv2), (4, .int yv13)] → W p l e (z_rm 7 179) s m args below meth c H locs 0 0 Q (F0 m 98 ls []) := by
      intro yv13 H locs ls et hP hS hl
      subst et
      have h : (z_br (fX6_factorial yv2) fun yr14 => z_br (fX6_fraction yv13 yr14 yx2) fun yr15 => some (yr15, yd3)) = some (rr, dd) := h
      refine lv_iload hx hb dX6_share_98 (lv_at hl 2 rfl) ?_
      refine lv_iload_n hx hb dX6_share_100 rfl (lv_at hl 1 rfl) ?_
      obtain ⟨yr14, yhc101, h⟩ := z_brx h
      refine z_ki (z_rS (As := [.int yv2]) (rest := [.int yv13]) ⟨hx, hb, hml, hown, hts⟩ hK hP (kX6_factorial yhc101) giX6_249 ⟨rfl, rfl⟩ ndX6_factorial ⟨Nat.le_of_ble_eq_true rfl, Nat.le_of_ble_eq_true rfl⟩ rfl hl.1 rfl (Nat.le_of_ble_eq_true rfl) ⟨Nat.le_refl _, Nat.le_refl _⟩ dX6_share_101) hS (fun H locs hP hS => ?_)
      refine lv_iload_n hx hb dX6_share_104 rfl (lv_at hl 0 rfl) ?_
      obtain ⟨yr15, yhc105, h⟩ := z_brx h
      refine z_ki (z_rS (As := [.int yv13, .int yr14, .int yx2]) (rest := []) ⟨hx, hb, hml, hown, hts⟩ hK hP (kX6_fraction z_yx2 yhc105) giX6_252 ⟨rfl, rfl⟩ ndX6_fraction ⟨Nat.le_of_ble_eq_true rfl, Nat.le_of_ble_eq_true rfl⟩ rfl hl.1 rfl (Nat.le_of_ble_eq_true rfl) ⟨Nat.le_refl _, Nat.le_refl _⟩ dX6_share_105) hS (fun H locs hP hS => ?_)
      exact hRet _ _ _ _ _ _ hP hS h dX6_share_108
    have hL28 : ∀ (n : Nat) (yv4 : Int32) (yv5 : Int32) (H : Heap) (locs : List Loc) (ls : Array Slot), z_it (bX6_share_28 yv2 yx1 yd3) n (yv4, yv5) = some yt28 → va_P D vwCl (WM G ad yd3) H → va_S A s.heap H locs → lv_has ls 7 [(0, .ref (ad 0)), (1, .int yx1), (2, .int yx2), (3, .int yv2), (4, .int yv4), (5, .int yv5)] → W p l e (z_rm 7 179) s m args below meth c H locs 0 0 Q (F0 m 28 ls []) := by
      intro n
      induction n with
      | zero => intro yv4 yv5 H locs ls hn; exact z_it0 hn
      | succ n ih =>
        intro yv4 yv5 H locs ls hn hP hS hl
        obtain ⟨yq28, h, hq1, hq2⟩ := z_itx hn
        have h : (zif (((1 : Int32) <<< (yv2 &&& 31)) ≤ yv5) (some (.inr yv4)) (z_br (fX6_has yv5 yx1) fun yr6 => zif (yr6 = 0) (z_br (fX6_ones yv5) fun yr9 => z_br (fX6_factorial yr9) fun yr10 => z_br (fX6_factorial ((yv2 - (1 : Int32)) - yr9)) fun yr11 => z_gd (z_in (yv5 ||| ((1 : Int32) <<< (yx1 &&& 31))) 32) (z_gd (z_in yv5 32) (z_nm (yv4 + ((yr10 * yr11) * ((yd3.1 11 (z_ix (yv5 ||| ((1 : Int32) <<< (yx1 &&& 31))))) - (yd3.1 11 (z_ix yv5))))) fun yv12 => jX6_share_92 yv5 yv12))) (jX6_share_92 yv5 yv4))) = some yq28 := h
        refine lv_iload hx hb dX6_share_28 (lv_at hl 5 rfl) ?_
        refine lv_iconst (v := (1 : Int32)) hx hb dX6_share_30 (by decide) ?_
        refine lv_iload_n hx hb dX6_share_31 rfl (lv_at hl 3 rfl) ?_
        refine lv_ishl hx hb dX6_share_32 ?_
        refine lv_icmp_ge (tgt := 98) hx hb dX6_share_33 (by decide) (fun yc33 => ?_) (fun yc33 => ?_)
        · have h := z_ifp yc33 h
          exact hE98 _ _ _ _ (hq2 _ (z_sm h).symm) hP hS (lv_sub hl [2, 3, 4] rfl)
        · have h := z_ifn yc33 h
          refine lv_iload hx hb dX6_share_36 (lv_at hl 5 rfl) ?_
          refine lv_iload_n hx hb dX6_share_38 rfl (lv_at hl 1 rfl) ?_
          obtain ⟨yr6, yhc39, h⟩ := z_brx h
          refine z_kz (z_rS (As := [.int yv5, .int yx1]) (rest := []) ⟨hx, hb, hml, hown, hts⟩ hK hP (kX6_has yhc39) giX6_122 ⟨rfl, rfl⟩ ndX6_has ⟨Nat.le_of_ble_eq_true rfl, Nat.le_of_ble_eq_true rfl⟩ rfl hl.1 rfl (Nat.le_of_ble_eq_true rfl) ⟨Nat.le_refl _, Nat.le_refl _⟩ dX6_share_39) hS (fun H locs z_yr6 hP hS => ?_)
          have hJ92 : ∀ (yv7 : Int32) (H : Heap) (locs : List Loc) (ls : Array Slot), jX6_share_92 yv5 yv7 = some yq28 → va_P D vwCl (WM G ad yd3) H → va_S A s.heap H locs → lv_has ls 7 [(0, .ref (ad 0)), (1, .int yx1), (2, .int yx2), (3, .int yv2), (4, .int yv7), (5, .int yv5)] → W p l e (z_rm 7 179) s m args below meth c H locs 0 0 Q (F0 m 92 ls []) := by
            intro yv7 H locs ls h hP hS hl
            have h : (z_nm (yv5 + (1 : Int32)) fun yv8 => some (.inl (yv7, yv8))) = some yq28 := h
            obtain ⟨yv8, e_yv8, h⟩ := z_nmx h
            refine lv_iinc (v := yv8) (lv' := [(5, .int yv8), (0, .ref (ad 0)), (1, .int yx1), (2, .int yx2), (3, .int yv2), (4, .int yv7)]) hx hb dX6_share_92 hl (k := 5) rfl (by rw [e_yv8]; rfl) (by decide) rfl (fun ls hl => ?_)
            refine lv_goto (tgt := 28) hx hb dX6_share_95 (by decide) ?_
            exact ih _ _ _ _ _ (hq1 _ (z_sm h).symm) hP hS (lv_sub hl [1, 2, 3, 4, 5, 0] rfl)
          refine lv_if_ne (tgt := 92) hx hb dX6_share_42 (by decide) (fun yc42 => ?_) (fun yc42 => ?_)
          · have h := z_ifn yc42 h
            exact hJ92 _ _ _ _ h hP hS (lv_sub hl [0, 1, 2, 3, 4, 5] rfl)
          · have h := z_ifp yc42 h
            refine lv_iload hx hb dX6_share_45 (lv_at hl 5 rfl) ?_
            obtain ⟨yr9, yhc47, h⟩ := z_brx h
            refine z_ki (z_rS (As := [.int yv5]) (rest := []) ⟨hx, hb, hml, hown, hts⟩ hK hP (kX6_ones yhc47) giX6_153 ⟨rfl, rfl⟩ ndX6_ones ⟨Nat.le_of_ble_eq_true rfl, Nat.le_of_ble_eq_true rfl⟩ rfl hl.1 rfl (Nat.le_of_ble_eq_true rfl) ⟨Nat.le_refl _, Nat.le_refl _⟩ dX6_share_47) hS (fun H locs hP hS => ?_)
            refine lv_istore (lv' := [(6, .int yr9), (0, .ref (ad 0)), (1, .int yx1), (2, .int yx2), (3, .int yv2), (4, .int yv4), (5, .int yv5)]) hx hb dX6_share_50 hl (by decide) rfl (fun ls hl => ?_)
            refine lv_iload hx hb dX6_share_52 (lv_at hl 5 rfl) ?_
            refine lv_iload hx hb dX6_share_54 (lv_at hl 0 rfl) ?_
            obtain ⟨yr10, yhc56, h⟩ := z_brx h
            refine z_ki (z_rS (As := [.int yr9]) (rest := [.int yv4]) ⟨hx, hb, hml, hown, hts⟩ hK hP (kX6_factorial yhc56) giX6_249 ⟨rfl, rfl⟩ ndX6_factorial ⟨Nat.le_of_ble_eq_true rfl, Nat.le_of_ble_eq_true rfl⟩ rfl hl.1 rfl (Nat.le_of_ble_eq_true rfl) ⟨Nat.le_refl _, Nat.le_refl _⟩ dX6_share_56) hS (fun H locs hP hS => ?_)
            refine lv_iload_n hx hb dX6_share_59 rfl (lv_at hl 4 rfl) ?_
            refine lv_iconst (v := (1 : Int32)) hx hb dX6_share_60 (by decide) ?_
            refine lv_isub hx hb dX6_share_61 ?_
            refine lv_iload hx hb dX6_share_62 (lv_at hl 0 rfl) ?_
            refine lv_isub hx hb dX6_share_64 ?_
            obtain ⟨yr11, yhc65, h⟩ := z_brx h
            refine z_ki (z_rS (As := [.int ((yv2 - (1 : Int32)) - yr9)]) (rest := [.int yr10, .int yv4]) ⟨hx, hb, hml, hown, hts⟩ hK hP (kX6_factorial yhc65) giX6_249 ⟨rfl, rfl⟩ ndX6_factorial ⟨Nat.le_of_ble_eq_true rfl, Nat.le_of_ble_eq_true rfl⟩ rfl hl.1 rfl (Nat.le_of_ble_eq_true rfl) ⟨Nat.le_refl _, Nat.le_refl _⟩ dX6_share_65) hS (fun H locs hP hS => ?_)
            refine lv_imul hx hb dX6_share_68 ?_
            refine lv_aload_n hx hb dX6_share_69 rfl (lv_at hl 1 rfl) ?_
            refine gt_X6_16 hx hb hts hown hK hP (hts _ wl_3_150) dX6_share_70 ?_
            refine lv_iload hx hb dX6_share_73 (lv_at hl 6 rfl) ?_
            refine lv_iconst (v := (1 : Int32)) hx hb dX6_share_75 (by decide) ?_
            refine lv_iload_n hx hb dX6_share_76 rfl (lv_at hl 2 rfl) ?_
            refine lv_ishl hx hb dX6_share_77 ?_
            refine lv_ior hx hb dX6_share_78 ?_
            obtain ⟨yg79, h⟩ := z_gi h
            refine al_M hx hb hK hP rfl (by decide) yg79 dX6_share_79 ?_
            refine lv_aload_n hx hb dX6_share_80 rfl (lv_at hl 1 rfl) ?_
            refine gt_X6_16 hx hb hts hown hK hP (hts _ wl_3_150) dX6_share_81 ?_
            refine lv_iload hx hb dX6_share_84 (lv_at hl 6 rfl) ?_
            obtain ⟨yg86, h⟩ := z_gi h
            refine al_M hx hb hK hP rfl (by decide) yg86 dX6_share_86 ?_
            refine lv_isub hx hb dX6_share_87 ?_
            refine lv_imul hx hb dX6_share_88 ?_
            refine lv_iadd hx hb dX6_share_89 ?_
            refine lv_topi (fun yv12 e_yv12 => ?_)
            have h := z_nma e_yv12 h
            refine lv_istore (lv' := [(4, .int yv12), (6, .int yr9), (0, .ref (ad 0)), (1, .int yx1), (2, .int yx2), (3, .int yv2), (5, .int yv5)]) hx hb dX6_share_90 hl (by decide) rfl (fun ls hl => ?_)
            exact hJ92 _ _ _ _ h hP hS (lv_sub hl [2, 3, 4, 5, 0, 6] rfl)
    exact hL28 yn28 _ _ _ _ _ hlp hP hS (lv_sub hl [3, 4, 5, 2, 1, 0] rfl)
  · have h := z_ifp yc5 h
    refine lv_iconst (v := (-1 : Int32)) hx hb dX6_share_8 (by decide) ?_
    exact hRet _ _ _ _ _ _ hP hS h dX6_share_9
noncomputable def jX6_chance_97 (yv5 : Int32) (yv6 : Int32) (yv7 : Int32) : Option ((Int32 × Int32) ⊕ (Int32)) :=
  z_nm (yv5 + yv7) fun yv8 => z_nm (yv6 + (1 : Int32)) fun yv9 => some (.inl (yv8, yv9))
noncomputable def bX6_chance_46 (yv3 : Int32) (yd4 : Dt) (yx1 : Int32) (yx2 : Int32) (s : Int32 × Int32) : Option ((Int32 × Int32) ⊕ (Int32)) := match s with
  | (yv5, yv6) => zif (((1 : Int32) <<< (yv3 &&& 31)) ≤ yv6) (some (.inr yv5)) (z_gd (z_in yv6 32) (zif ((yd4.1 11 (z_ix yv6)) < yx1) (jX6_chance_97 yv5 yv6 (0 : Int32)) (z_br (fX6_ones yv6) fun yr10 => z_br (fX6_power ((10 : Int32) - yx2) yr10) fun yr11 => z_br (fX6_ones yv6) fun yr12 => z_br (fX6_power yx2 (yv3 - yr12)) fun yr13 => jX6_chance_97 yv5 yv6 (yr11 * yr13))))
noncomputable def fX6_chance (yd : Dt) (yx1 : Int32) (yx2 : Int32) (yx3 : Int32) : Option (Int32 × Dt) :=
  z_br (fX6_in (yx1.toInt64) (0 : Int64) (20 : Int64)) fun yr1 => zif (yr1 = 0) (some ((-2 : Int32), yd)) (z_br (fX6_in (yx2.toInt64) (0 : Int64) (10 : Int64)) fun yr2 => zif (yr2 = 0) (some ((-2 : Int32), yd)) (z_nm (yd.1 2 (z_ix (83 : Int32))) fun yv3 => z_br (fX6_layWorth yd) fun yd4 => z_br (z_lp (bX6_chance_46 yv3 yd4 yx1 yx2) ((0 : Int32), (0 : Int32))) (fun t => match t with | yv14 => z_br (fX6_power (10 : Int32) yv3) fun yr15 => z_br (fX6_fraction yv14 yr15 yx3) fun yr16 => some (yr16, yd4))))
set_option maxHeartbeats 4000000 in
set_option maxRecDepth 100000 in
theorem kX6_chance {l : Launch} {D : va_G} {G : z_G} {ad : Nat → Nat} {A : Nat → Prop} (hI : ∀ d, va_D A (WM G ad d)) {yd : Dt} {yx1 : Int32} {yx2 : Int32} {yx3 : Int32} (z_yx3 : yx3 = 0 ∨ yx3 = 1) {rr : Int32} {dd : Dt} (h : fX6_chance yd yx1 yx2 yx3 = some (rr, dd)) : z_Mi l D G A (WM G ad) yX6_chance cX6_chance 7 (z_rm 7 179) yd [.ref (ad 0), .int yx1, .int yx2, .int yx3] rr dd := by
  refine z_ofi (by decide) (Nat.le_of_ble_eq_true rfl) fun p e s m args below meth c Q hx hb hml hown hts hK hP hRet ls hl => ?_
  have hS : va_S A s.heap s.heap [] := va_S.rf
  have hl : lv_has ls 7 [(0, .ref (ad 0)), (1, .int yx1), (2, .int yx2), (3, .int yx3)] := hl
  have h : (z_br (fX6_in (yx1.toInt64) (0 : Int64) (20 : Int64)) fun yr1 => zif (yr1 = 0) (some ((-2 : Int32), yd)) (z_br (fX6_in (yx2.toInt64) (0 : Int64) (10 : Int64)) fun yr2 => zif (yr2 = 0) (some ((-2 : Int32), yd)) (z_nm (yd.1 2 (z_ix (83 : Int32))) fun yv3 => z_br (fX6_layWorth yd) fun yd4 => z_br (z_lp (bX6_chance_46 yv3 yd4 yx1 yx2) ((0 : Int32), (0 : Int32))) (fun t => match t with | yv14 => z_br (fX6_power (10 : Int32) yv3) fun yr15 => z_br (fX6_fraction yv14 yr15 yx3) fun yr16 => some (yr16, yd4))))) = some (rr, dd) := h
  refine lv_iload_n hx hb dX6_chance_0 rfl (lv_at hl 1 rfl) ?_
  refine lv_i2l (v := yx1.toInt64) hx hb dX6_chance_1 rfl ?_
  refine lv_lconst (v := (0 : Int64)) hx hb dX6_chance_2 (by decide) ?_
  refine lv_ldc2 hx hb hown (hts _ wl_4_209) dX6_chance_3 ?_
  obtain ⟨yr1, yhc6, h⟩ := z_brx h
  refine z_kz (z_rS (As := [.long (yx1.toInt64), .long (0 : Int64), .long (20 : Int64)]) (rest := []) ⟨hx, hb, hml, hown, hts⟩ hK hP (kX6_in yhc6) giX6_64 ⟨rfl, rfl⟩ ndX6_in ⟨Nat.le_of_ble_eq_true rfl, Nat.le_of_ble_eq_true rfl⟩ rfl hl.1 rfl (Nat.le_of_ble_eq_true rfl) ⟨Nat.le_refl _, Nat.le_refl _⟩ dX6_chance_6) hS (fun H locs z_yr1 hP hS => ?_)
  refine lv_if_eq (tgt := 24) hx hb dX6_chance_9 (by decide) (fun yc9 => ?_) (fun yc9 => ?_)
  · have h := z_ifp yc9 h
    refine lv_bipush (v := (-2 : Int32)) hx hb dX6_chance_24 (by decide) ?_
    exact hRet _ _ _ _ _ _ hP hS h dX6_chance_26
  · have h := z_ifn yc9 h
    refine lv_iload_n hx hb dX6_chance_12 rfl (lv_at hl 2 rfl) ?_
    refine lv_i2l (v := yx2.toInt64) hx hb dX6_chance_13 rfl ?_
    refine lv_lconst (v := (0 : Int64)) hx hb dX6_chance_14 (by decide) ?_
    refine lv_ldc2 hx hb hown (hts _ wl_4_236) dX6_chance_15 ?_
    obtain ⟨yr2, yhc18, h⟩ := z_brx h
    refine z_kz (z_rS (As := [.long (yx2.toInt64), .long (0 : Int64), .long (10 : Int64)]) (rest := []) ⟨hx, hb, hml, hown, hts⟩ hK hP (kX6_in yhc18) giX6_64 ⟨rfl, rfl⟩ ndX6_in ⟨Nat.le_of_ble_eq_true rfl, Nat.le_of_ble_eq_true rfl⟩ rfl hl.1 rfl (Nat.le_of_ble_eq_true rfl) ⟨Nat.le_refl _, Nat.le_refl _⟩ dX6_chance_18) hS (fun H locs z_yr2 hP hS => ?_)
    refine lv_if_ne (tgt := 27) hx hb dX6_chance_21 (by decide) (fun yc21 => ?_) (fun yc21 => ?_)
    · have h := z_ifn yc21 h
      refine lv_aload_n hx hb dX6_chance_27 rfl (lv_at hl 0 rfl) ?_
      refine gt_X6_2 hx hb hts hown hK hP (hts _ wl_3_136) dX6_chance_28 ?_
      refine lv_bipush (v := (83 : Int32)) hx hb dX6_chance_31 (by decide) ?_
      refine al_M hx hb hK hP rfl (by decide) (z_li (by decide) : vp_in (83 : Int32) 214) dX6_chance_33 ?_
      refine lv_topi (fun yv3 e_yv3 => ?_)
      have h := z_nma e_yv3 h
      refine lv_istore (lv' := [(4, .int yv3), (0, .ref (ad 0)), (1, .int yx1), (2, .int yx2), (3, .int yx3)]) hx hb dX6_chance_34 hl (by decide) rfl (fun ls hl => ?_)
      refine lv_aload_n hx hb dX6_chance_36 rfl (lv_at hl 1 rfl) ?_
      obtain ⟨yd4, yhc37, h⟩ := z_brx h
      refine z_kv (z_rV (As := []) (rest := []) ⟨hx, hb, hml, hown, hts⟩ hK hP w_X6 rfl (kX6_layWorth hI yhc37) giX6_246 ⟨rfl, rfl⟩ ndX6_layWorth ⟨Nat.le_of_ble_eq_true rfl, Nat.le_of_ble_eq_true rfl⟩ rfl hl.1 rfl (Nat.le_of_ble_eq_true rfl) ⟨Nat.le_refl _, Nat.le_refl _⟩ dX6_chance_37) hS (fun H locs hP hS => ?_)
      refine lv_iconst (v := (0 : Int32)) hx hb dX6_chance_40 (by decide) ?_
      refine lv_istore (lv' := [(5, .int (0 : Int32)), (4, .int yv3), (0, .ref (ad 0)), (1, .int yx1), (2, .int yx2), (3, .int yx3)]) hx hb dX6_chance_41 hl (by decide) rfl (fun ls hl => ?_)
      refine lv_iconst (v := (0 : Int32)) hx hb dX6_chance_43 (by decide) ?_
      refine lv_istore (lv' := [(6, .int (0 : Int32)), (5, .int (0 : Int32)), (4, .int yv3), (0, .ref (ad 0)), (1, .int yx1), (2, .int yx2), (3, .int yx3)]) hx hb dX6_chance_44 hl (by decide) rfl (fun ls hl => ?_)
      obtain ⟨yt46, hlp, h⟩ := z_brx h
      obtain ⟨yn46, hlp⟩ := z_lpx hlp
      have hE106 : ∀ (yv14 : Int32) (H : Heap) (locs : List Loc) (ls : Array Slot), yv14 = yt46 → va_P D vwCl (WM G ad yd4) H → va_S A s.heap H locs → lv_has ls 7 [(3, .int yx3), (4, .int yv3), (5, .int yv14)] → W p l e (z_rm 7 179) s m args below meth c H locs 0 0 Q (F0 m 106 ls []) := by
        intro yv14 H locs ls et hP hS hl
        subst et
        have h : (z_br (fX6_power (10 : Int32) yv3) fun yr15 => z_br (fX6_fraction yv14 yr15 yx3) fun yr16 => some (yr16, yd4)) = some (rr, dd) := h
        refine lv_iload hx hb dX6_chance_106 (lv_at hl 2 rfl) ?_
        refine lv_bipush (v := (10 : Int32)) hx hb dX6_chance_108 (by decide) ?_
        refine lv_iload hx hb dX6_chance_110 (lv_at hl 1 rfl) ?_
        obtain ⟨yr15, yhc112, h⟩ := z_brx h
        refine z_ki (z_rS (As := [.int (10 : Int32), .int yv3]) (rest := [.int yv14]) ⟨hx, hb, hml, hown, hts⟩ hK hP (kX6_power yhc112) giX6_258 ⟨rfl, rfl⟩ ndX6_power ⟨Nat.le_of_ble_eq_true rfl, Nat.le_of_ble_eq_true rfl⟩ rfl hl.1 rfl (Nat.le_of_ble_eq_true rfl) ⟨Nat.le_refl _, Nat.le_refl _⟩ dX6_chance_112) hS (fun H locs hP hS => ?_)
        refine lv_iload_n hx hb dX6_chance_115 rfl (lv_at hl 0 rfl) ?_
        obtain ⟨yr16, yhc116, h⟩ := z_brx h
        refine z_ki (z_rS (As := [.int yv14, .int yr15, .int yx3]) (rest := []) ⟨hx, hb, hml, hown, hts⟩ hK hP (kX6_fraction z_yx3 yhc116) giX6_252 ⟨rfl, rfl⟩ ndX6_fraction ⟨Nat.le_of_ble_eq_true rfl, Nat.le_of_ble_eq_true rfl⟩ rfl hl.1 rfl (Nat.le_of_ble_eq_true rfl) ⟨Nat.le_refl _, Nat.le_refl _⟩ dX6_chance_116) hS (fun H locs hP hS => ?_)
        exact hRet _ _ _ _ _ _ hP hS h dX6_chance_119
      have hL46 : ∀ (n : Nat) (yv5 : Int32) (yv6 : Int32) (H : Heap) (locs : List Loc) (ls : Array Slot), z_it (bX6_chance_46 yv3 yd4 yx1 yx2) n (yv5, yv6) = some yt46 → va_P D vwCl (WM G ad yd4) H → va_S A s.heap H locs → lv_has ls 7 [(0, .ref (ad 0)), (1, .int yx1), (2, .int yx2), (3, .int yx3), (4, .int yv3), (5, .int yv5), (6, .int yv6)] → W p l e (z_rm 7 179) s m args below meth c H locs 0 0 Q (F0 m 46 ls []) := by
        intro n
        induction n with
        | zero => intro yv5 yv6 H locs ls hn; exact z_it0 hn
        | succ n ih =>
          intro yv5 yv6 H locs ls hn hP hS hl
          obtain ⟨yq46, h, hq1, hq2⟩ := z_itx hn
          have h : (zif (((1 : Int32) <<< (yv3 &&& 31)) ≤ yv6) (some (.inr yv5)) (z_gd (z_in yv6 32) (zif ((yd4.1 11 (z_ix yv6)) < yx1) (jX6_chance_97 yv5 yv6 (0 : Int32)) (z_br (fX6_ones yv6) fun yr10 => z_br (fX6_power ((10 : Int32) - yx2) yr10) fun yr11 => z_br (fX6_ones yv6) fun yr12 => z_br (fX6_power yx2 (yv3 - yr12)) fun yr13 => jX6_chance_97 yv5 yv6 (yr11 * yr13))))) = some yq46 := h
          refine lv_iload hx hb dX6_chance_46 (lv_at hl 6 rfl) ?_
          refine lv_iconst (v := (1 : Int32)) hx hb dX6_chance_48 (by decide) ?_
          refine lv_iload hx hb dX6_chance_49 (lv_at hl 4 rfl) ?_
          refine lv_ishl hx hb dX6_chance_51 ?_
          refine lv_icmp_ge (tgt := 106) hx hb dX6_chance_52 (by decide) (fun yc52 => ?_) (fun yc52 => ?_)
          · have h := z_ifp yc52 h
            exact hE106 _ _ _ _ (hq2 _ (z_sm h).symm) hP hS (lv_sub hl [3, 4, 5] rfl)
          · have h := z_ifn yc52 h
            refine lv_iload hx hb dX6_chance_55 (lv_at hl 5 rfl) ?_
            refine lv_aload_n hx hb dX6_chance_57 rfl (lv_at hl 0 rfl) ?_
            refine gt_X6_16 hx hb hts hown hK hP (hts _ wl_3_150) dX6_chance_58 ?_
            refine lv_iload hx hb dX6_chance_61 (lv_at hl 6 rfl) ?_
            obtain ⟨yg63, h⟩ := z_gi h
            refine al_M hx hb hK hP rfl (by decide) yg63 dX6_chance_63 ?_
            refine lv_iload_n hx hb dX6_chance_64 rfl (lv_at hl 1 rfl) ?_
            have hJ97 : ∀ (yv7 : Int32) (H : Heap) (locs : List Loc) (ls : Array Slot), jX6_chance_97 yv5 yv6 yv7 = some yq46 → va_P D vwCl (WM G ad yd4) H → va_S A s.heap H locs → lv_has ls 7 [(0, .ref (ad 0)), (1, .int yx1), (2, .int yx2), (3, .int yx3), (4, .int yv3), (6, .int yv6)] → W p l e (z_rm 7 179) s m args below meth c H locs 0 0 Q (F0 m 97 ls [.int yv7, .int yv5]) := by
              intro yv7 H locs ls h hP hS hl
              have h : (z_nm (yv5 + yv7) fun yv8 => z_nm (yv6 + (1 : Int32)) fun yv9 => some (.inl (yv8, yv9))) = some yq46 := h
              refine lv_iadd hx hb dX6_chance_97 ?_
              refine lv_topi (fun yv8 e_yv8 => ?_)
              have h := z_nma e_yv8 h
              refine lv_istore (lv' := [(5, .int yv8), (0, .ref (ad 0)), (1, .int yx1), (2, .int yx2), (3, .int yx3), (4, .int yv3), (6, .int yv6)]) hx hb dX6_chance_98 hl (by decide) rfl (fun ls hl => ?_)
              obtain ⟨yv9, e_yv9, h⟩ := z_nmx h
              refine lv_iinc (v := yv9) (lv' := [(6, .int yv9), (5, .int yv8), (0, .ref (ad 0)), (1, .int yx1), (2, .int yx2), (3, .int yx3), (4, .int yv3)]) hx hb dX6_chance_100 hl (k := 6) rfl (by rw [e_yv9]; rfl) (by decide) rfl (fun ls hl => ?_)
              refine lv_goto (tgt := 46) hx hb dX6_chance_103 (by decide) ?_
              exact ih _ _ _ _ _ (hq1 _ (z_sm h).symm) hP hS (lv_sub hl [2, 3, 4, 5, 6, 1, 0] rfl)
            refine lv_icmp_lt (tgt := 96) hx hb dX6_chance_65 (by decide) (fun yc65 => ?_) (fun yc65 => ?_)
            · have h := z_ifp yc65 h
              refine lv_iconst (v := (0 : Int32)) hx hb dX6_chance_96 (by decide) ?_
              exact hJ97 _ _ _ _ h hP hS (lv_sub hl [0, 1, 2, 3, 4, 6] rfl)
            · have h := z_ifn yc65 h
              refine lv_bipush (v := (10 : Int32)) hx hb dX6_chance_68 (by decide) ?_
              refine lv_iload_n hx hb dX6_chance_70 rfl (lv_at hl 2 rfl) ?_
              refine lv_isub hx hb dX6_chance_71 ?_
              refine lv_iload hx hb dX6_chance_72 (lv_at hl 6 rfl) ?_
              obtain ⟨yr10, yhc74, h⟩ := z_brx h
              refine z_ki (z_rS (As := [.int yv6]) (rest := [.int ((10 : Int32) - yx2), .int yv5]) ⟨hx, hb, hml, hown, hts⟩ hK hP (kX6_ones yhc74) giX6_153 ⟨rfl, rfl⟩ ndX6_ones ⟨Nat.le_of_ble_eq_true rfl, Nat.le_of_ble_eq_true rfl⟩ rfl hl.1 rfl (Nat.le_of_ble_eq_true rfl) ⟨Nat.le_refl _, Nat.le_refl _⟩ dX6_chance_74) hS (fun H locs hP hS => ?_)
              obtain ⟨yr11, yhc77, h⟩ := z_brx h
              refine z_ki (z_rS (As := [.int ((10 : Int32) - yx2), .int yr10]) (rest := [.int yv5]) ⟨hx, hb, hml, hown, hts⟩ hK hP (kX6_power yhc77) giX6_258 ⟨rfl, rfl⟩ ndX6_power ⟨Nat.le_of_ble_eq_true rfl, Nat.le_of_ble_eq_true rfl⟩ rfl hl.1 rfl (Nat.le_of_ble_eq_true rfl) ⟨Nat.le_refl _, Nat.le_refl _⟩ dX6_chance_77) hS (fun H locs hP hS => ?_)
              refine lv_iload_n hx hb dX6_chance_80 rfl (lv_at hl 2 rfl) ?_
              refine lv_iload hx hb dX6_chance_81 (lv_at hl 4 rfl) ?_
              refine lv_iload hx hb dX6_chance_83 (lv_at hl 6 rfl) ?_
              obtain ⟨yr12, yhc85, h⟩ := z_brx h
              refine z_ki (z_rS (As := [.int yv6]) (rest := [.int yv3, .int yx2, .int yr11, .int yv5]) ⟨hx, hb, hml, hown, hts⟩ hK hP (kX6_ones yhc85) giX6_153 ⟨rfl, rfl⟩ ndX6_ones ⟨Nat.le_of_ble_eq_true rfl, Nat.le_of_ble_eq_true rfl⟩ rfl hl.1 rfl (Nat.le_of_ble_eq_true rfl) ⟨Nat.le_refl _, Nat.le_refl _⟩ dX6_chance_85) hS (fun H locs hP hS => ?_)
              refine lv_isub hx hb dX6_chance_88 ?_
              obtain ⟨yr13, yhc89, h⟩ := z_brx h
              refine z_ki (z_rS (As := [.int yx2, .int (yv3 - yr12)]) (rest := [.int yr11, .int yv5]) ⟨hx, hb, hml, hown, hts⟩ hK hP (kX6_power yhc89) giX6_258 ⟨rfl, rfl⟩ ndX6_power ⟨Nat.le_of_ble_eq_true rfl, Nat.le_of_ble_eq_true rfl⟩ rfl hl.1 rfl (Nat.le_of_ble_eq_true rfl) ⟨Nat.le_refl _, Nat.le_refl _⟩ dX6_chance_89) hS (fun H locs hP hS => ?_)
              refine lv_imul hx hb dX6_chance_92 ?_
              refine lv_goto (tgt := 97) hx hb dX6_chance_93 (by decide) ?_
              exact hJ97 _ _ _ _ h hP hS (lv_sub hl [0, 1, 2, 3, 4, 6] rfl)
      exact hL46 yn46 _ _ _ _ _ hlp hP hS (lv_sub hl [3, 4, 5, 6, 2, 1, 0] rfl)
    · have h := z_ifp yc21 h
      refine lv_bipush (v := (-2 : Int32)) hx hb dX6_chance_24 (by decide) ?_
      exact hRet _ _ _ _ _ _ hP hS h dX6_chance_26
noncomputable def fX6_seed (yd : Dt) (yx1 : Int64) : Option (Int64 × Dt) :=
  z_nm (yd.2) fun yv1 => z_nm (z_sl yd yx1) fun yd2 => some (yv1, yd2)
set_option maxHeartbeats 4000000 in
set_option maxRecDepth 100000 in
theorem kX6_seed {l : Launch} {D : va_G} {G : z_G} {ad : Nat → Nat} {A : Nat → Prop} (hI : ∀ d, va_D A (WM G ad d)) {yd : Dt} {yx1 : Int64}  {rr : Int64} {dd : Dt} (h : fX6_seed yd yx1 = some (rr, dd)) : z_Ml l D G A (WM G ad) yX6_seed cX6_seed 5 (z_rm 0 0) yd [.ref (ad 0), .long yx1] rr dd := by
  refine z_ofl (by decide) (Nat.le_of_ble_eq_true rfl) fun p e s m args below meth c Q hx hb hml hown hts hK hP hRet ls hl => ?_
  have hS : va_S A s.heap s.heap [] := va_S.rf
  have hl : lv_has ls 5 [(0, .ref (ad 0)), (1, .long yx1)] := hl
  have h : (z_nm (yd.2) fun yv1 => z_nm (z_sl yd yx1) fun yd2 => some (yv1, yd2)) = some (rr, dd) := h
  refine lv_aload_n hx hb dX6_seed_0 rfl (lv_at hl 0 rfl) ?_
  refine gt_X6_12 hx hb hts hown hK hP (hts _ wl_3_146) dX6_seed_1 ?_
  refine lv_topl (fun yv1 e_yv1 => ?_)
  have h := z_nma e_yv1 h
  refine lv_lstore_n (lv' := [(3, .long yv1), (0, .ref (ad 0)), (1, .long yx1)]) hx hb dX6_seed_4 rfl hl (by decide) rfl (fun ls hl => ?_)
  refine lv_aload_n hx hb dX6_seed_5 rfl (lv_at hl 1 rfl) ?_
  refine lv_lload_n hx hb dX6_seed_6 rfl (lv_at hl 2 rfl) ?_
  refine pt_X6_12 hx hb hts hown hK hP hI hS (hts _ wl_3_146) dX6_seed_7 (fun H locs yd2 e_yd2 hP hS => ?_)
  have h := z_nma e_yd2 h
  refine lv_lload_n hx hb dX6_seed_10 rfl (lv_at hl 0 rfl) ?_
  exact hRet _ _ _ _ _ _ hP hS h dX6_seed_11
noncomputable def jX6_drawn_101 (yd5 : Dt) (yv3 : Int32) (yv8 : Int32) : Option ((Int32 × Dt) ⊕ (Dt)) :=
  z_bd (fX6_eventOn yd5 3 yv8) fun yr9 yd10 => z_nm (yv3 + (1 : Int32)) fun yv11 => some (.inl (yv11, yd10))
noncomputable def bX6_drawn_28 (yx1 : Int32) (s : Int32 × Dt) : Option ((Int32 × Dt) ⊕ (Dt)) := match s with
  | (yv3, yd4) => zif (yx1 ≤ yv3) (some (.inr yd4)) (z_nm (z_sl yd4 ((yd4.2 * (6364136223846793005 : Int64)) + (1442695040888963407 : Int64))) fun yd5 => z_nm ((((yd5.2).toUInt64 >>> ((33 : Int32).toInt64.toUInt64 &&& Int64.toUInt64 63)).toInt64).toInt32) fun yv6 => z_nm (yv6 - yv6 / (8 : Int32) * (8 : Int32)) fun yv7 => zif ((4 : Int32) ≤ yv7) (zif ((6 : Int32) ≤ yv7) (jX6_drawn_101 yd5 yv3 ((20 : Int32) + ((yv6 / (8 : Int32)) - (yv6 / (8 : Int32)) / (10 : Int32) * (10 : Int32)))) (jX6_drawn_101 yd5 yv3 (10 : Int32))) (jX6_drawn_101 yd5 yv3 ((yv6 / (8 : Int32)) - (yv6 / (8 : Int32)) / (5 : Int32) * (5 : Int32))))
noncomputable def bX6_drawn_125 (s : Int32 × Int32 × Dt) : Option ((Int32 × Int32 × Dt) ⊕ (Int32 × Dt)) := match s with
  | (yv13, yv14, yd15) => zif ((yd15.1 3 (z_ix (83 : Int32))) ≤ yv14) (some (.inr (yv13, yd15))) (z_bd (fX6_answersOf yd15 3 yv14) fun yr16 yd17 => z_br (fX6_ones yr16) fun yr18 => z_nm (yv13 + yr18) fun yv19 => z_nm (yv14 + (1 : Int32)) fun yv20 => some (.inl (yv19, yv20, yd17)))
noncomputable def fX6_drawn (yd : Dt) (yx1 : Int32) : Option (Int32 × Dt) :=
  z_br (fX6_in (yx1.toInt64) (1 : Int64) (30 : Int64)) fun yr1 => zif (yr1 = 0) (some ((-2 : Int32), yd)) (z_br (fX6_copy yd 2 3) fun yd2 => z_br (z_lp (bX6_drawn_28 yx1) ((0 : Int32), yd2)) (fun t => match t with | yd12 => z_br (z_lp (bX6_drawn_125) ((0 : Int32), (0 : Int32), yd12)) (fun t => match t with | (yv21, yd22) => some (yv21, yd22))))
set_option maxHeartbeats 4000000 in
set_option maxRecDepth 100000 in
theorem kX6_drawn {l : Launch} {D : va_G} {G : z_G} {ad : Nat → Nat} {A : Nat → Prop} (hI : ∀ d, va_D A (WM G ad d)) {yd : Dt} {yx1 : Int32}  {rr : Int32} {dd : Dt} (h : fX6_drawn yd yx1 = some (rr, dd)) : z_Mi l D G A (WM G ad) yX6_drawn cX6_drawn 7 (z_rm 12 299) yd [.ref (ad 0), .int yx1] rr dd := by
  refine z_ofi (by decide) (Nat.le_of_ble_eq_true rfl) fun p e s m args below meth c Q hx hb hml hown hts hK hP hRet ls hl => ?_
  have hS : va_S A s.heap s.heap [] := va_S.rf
  have hl : lv_has ls 7 [(0, .ref (ad 0)), (1, .int yx1)] := hl
  have h : (z_br (fX6_in (yx1.toInt64) (1 : Int64) (30 : Int64)) fun yr1 => zif (yr1 = 0) (some ((-2 : Int32), yd)) (z_br (fX6_copy yd 2 3) fun yd2 => z_br (z_lp (bX6_drawn_28 yx1) ((0 : Int32), yd2)) (fun t => match t with | yd12 => z_br (z_lp (bX6_drawn_125) ((0 : Int32), (0 : Int32), yd12)) (fun t => match t with | (yv21, yd22) => some (yv21, yd22))))) = some (rr, dd) := h
  refine lv_iload_n hx hb dX6_drawn_0 rfl (lv_at hl 1 rfl) ?_
  refine lv_i2l (v := yx1.toInt64) hx hb dX6_drawn_1 rfl ?_
  refine lv_lconst (v := (1 : Int64)) hx hb dX6_drawn_2 (by decide) ?_
  refine lv_ldc2 hx hb hown (hts _ wl_5_8) dX6_drawn_3 ?_
  obtain ⟨yr1, yhc6, h⟩ := z_brx h
  refine z_kz (z_rS (As := [.long (yx1.toInt64), .long (1 : Int64), .long (30 : Int64)]) (rest := []) ⟨hx, hb, hml, hown, hts⟩ hK hP (kX6_in yhc6) giX6_64 ⟨rfl, rfl⟩ ndX6_in ⟨Nat.le_of_ble_eq_true rfl, Nat.le_of_ble_eq_true rfl⟩ rfl hl.1 rfl (Nat.le_of_ble_eq_true rfl) ⟨Nat.le_refl _, Nat.le_refl _⟩ dX6_drawn_6) hS (fun H locs z_yr1 hP hS => ?_)
  refine lv_if_ne (tgt := 15) hx hb dX6_drawn_9 (by decide) (fun yc9 => ?_) (fun yc9 => ?_)
  · have h := z_ifn yc9 h
    refine lv_aload_n hx hb dX6_drawn_15 rfl (lv_at hl 0 rfl) ?_
    refine gt_X6_2 hx hb hts hown hK hP (hts _ wl_3_136) dX6_drawn_16 ?_
    refine lv_aload_n hx hb dX6_drawn_19 rfl (lv_at hl 0 rfl) ?_
    refine gt_X6_3 hx hb hts hown hK hP (hts _ wl_3_137) dX6_drawn_20 ?_
    obtain ⟨yd2, yhc23, h⟩ := z_brx h
    refine z_kv (z_rS (As := [.ref (ad 2), .ref (ad 3)]) (rest := []) ⟨hx, hb, hml, hown, hts⟩ hK hP (kX6_copy hI rfl rfl yhc23) giX6_211 ⟨rfl, rfl⟩ ndX6_copy ⟨Nat.le_of_ble_eq_true rfl, Nat.le_of_ble_eq_true rfl⟩ rfl hl.1 rfl (Nat.le_of_ble_eq_true rfl) ⟨Nat.le_refl _, Nat.le_refl _⟩ dX6_drawn_23) hS (fun H locs hP hS => ?_)
    refine lv_iconst (v := (0 : Int32)) hx hb dX6_drawn_26 (by decide) ?_
    refine lv_istore_n (lv' := [(2, .int (0 : Int32)), (0, .ref (ad 0)), (1, .int yx1)]) hx hb dX6_drawn_27 rfl hl (by decide) rfl (fun ls hl => ?_)
    obtain ⟨yt28, hlp, h⟩ := z_brx h
    obtain ⟨yn28, hlp⟩ := z_lpx hlp
    have hE121 : ∀ (yd12 : Dt) (H : Heap) (locs : List Loc) (ls : Array Slot), yd12 = yt28 → va_P D vwCl (WM G ad yd12) H → va_S A s.heap H locs → lv_has ls 7 [(0, .ref (ad 0))] → W p l e (z_rm 12 299) s m args below meth c H locs 0 0 Q (F0 m 121 ls []) := by
      intro yd12 H locs ls et hP hS hl
      subst et
      have h : (z_br (z_lp (bX6_drawn_125) ((0 : Int32), (0 : Int32), yd12)) (fun t => match t with | (yv21, yd22) => some (yv21, yd22))) = some (rr, dd) := h
      refine lv_iconst (v := (0 : Int32)) hx hb dX6_drawn_121 (by decide) ?_
      refine lv_istore_n (lv' := [(2, .int (0 : Int32)), (0, .ref (ad 0))]) hx hb dX6_drawn_122 rfl hl (by decide) rfl (fun ls hl => ?_)
      refine lv_iconst (v := (0 : Int32)) hx hb dX6_drawn_123 (by decide) ?_
      refine lv_istore_n (lv' := [(3, .int (0 : Int32)), (2, .int (0 : Int32)), (0, .ref (ad 0))]) hx hb dX6_drawn_124 rfl hl (by decide) rfl (fun ls hl => ?_)
      obtain ⟨yt125, hlp, h⟩ := z_brx h
      obtain ⟨yn125, hlp⟩ := z_lpx hlp
      have hE157 : ∀ (yv21 : Int32) (yd22 : Dt) (H : Heap) (locs : List Loc) (ls : Array Slot), (yv21, yd22) = yt125 → va_P D vwCl (WM G ad yd22) H → va_S A s.heap H locs → lv_has ls 7 [(2, .int yv21)] → W p l e (z_rm 12 299) s m args below meth c H locs 0 0 Q (F0 m 157 ls []) := by
        intro yv21 yd22 H locs ls et hP hS hl
        subst et
        have h : (some (yv21, yd22)) = some (rr, dd) := h
        refine lv_iload_n hx hb dX6_drawn_157 rfl (lv_at hl 0 rfl) ?_
        exact hRet _ _ _ _ _ _ hP hS h dX6_drawn_158
      have hL125 : ∀ (n : Nat) (yv13 : Int32) (yv14 : Int32) (yd15 : Dt) (H : Heap) (locs : List Loc) (ls : Array Slot), z_it (bX6_drawn_125) n (yv13, yv14, yd15) = some yt125 → va_P D vwCl (WM G ad yd15) H → va_S A s.heap H locs → lv_has ls 7 [(0, .ref (ad 0)), (2, .int yv13), (3, .int yv14)] → W p l e (z_rm 12 299) s m args below meth c H locs 0 0 Q (F0 m 125 ls []) := by
        intro n
        induction n with
        | zero => intro yv13 yv14 yd15 H locs ls hn; exact z_it0 hn
        | succ n ih =>
          intro yv13 yv14 yd15 H locs ls hn hP hS hl
          obtain ⟨yq125, h, hq1, hq2⟩ := z_itx hn
          have h : (zif ((yd15.1 3 (z_ix (83 : Int32))) ≤ yv14) (some (.inr (yv13, yd15))) (z_bd (fX6_answersOf yd15 3 yv14) fun yr16 yd17 => z_br (fX6_ones yr16) fun yr18 => z_nm (yv13 + yr18) fun yv19 => z_nm (yv14 + (1 : Int32)) fun yv20 => some (.inl (yv19, yv20, yd17)))) = some yq125 := h
          refine lv_iload_n hx hb dX6_drawn_125 rfl (lv_at hl 2 rfl) ?_
          refine lv_aload_n hx hb dX6_drawn_126 rfl (lv_at hl 0 rfl) ?_
          refine gt_X6_3 hx hb hts hown hK hP (hts _ wl_3_137) dX6_drawn_127 ?_
          refine lv_bipush (v := (83 : Int32)) hx hb dX6_drawn_130 (by decide) ?_
          refine al_M hx hb hK hP rfl (by decide) (z_li (by decide) : vp_in (83 : Int32) 214) dX6_drawn_132 ?_
          refine lv_icmp_ge (tgt := 157) hx hb dX6_drawn_133 (by decide) (fun yc133 => ?_) (fun yc133 => ?_)
          · have h := z_ifp yc133 h
            exact hE157 _ _ _ _ _ (hq2 _ (z_sm h).symm) hP hS (lv_sub hl [1] rfl)
          · have h := z_ifn yc133 h
            refine lv_iload_n hx hb dX6_drawn_136 rfl (lv_at hl 1 rfl) ?_
            refine lv_aload_n hx hb dX6_drawn_137 rfl (lv_at hl 0 rfl) ?_
            refine lv_aload_n hx hb dX6_drawn_138 rfl (lv_at hl 0 rfl) ?_
            refine gt_X6_3 hx hb hts hown hK hP (hts _ wl_3_137) dX6_drawn_139 ?_
            refine lv_iload_n hx hb dX6_drawn_142 rfl (lv_at hl 2 rfl) ?_
            obtain ⟨yr16, yd17, yhc143, h⟩ := z_bdx h
            refine z_ki (z_rV (As := [.ref (ad 3), .int yv14]) (rest := [.int yv13]) ⟨hx, hb, hml, hown, hts⟩ hK hP w_X6 rfl (kX6_answersOf hI rfl yhc143) giX6_144 ⟨rfl, rfl⟩ ndX6_answersOf ⟨Nat.le_of_ble_eq_true rfl, Nat.le_of_ble_eq_true rfl⟩ rfl hl.1 rfl (Nat.le_of_ble_eq_true rfl) ⟨Nat.le_refl _, Nat.le_refl _⟩ dX6_drawn_143) hS (fun H locs hP hS => ?_)
            obtain ⟨yr18, yhc146, h⟩ := z_brx h
            refine z_ki (z_rS (As := [.int yr16]) (rest := [.int yv13]) ⟨hx, hb, hml, hown, hts⟩ hK hP (kX6_ones yhc146) giX6_153 ⟨rfl, rfl⟩ ndX6_ones ⟨Nat.le_of_ble_eq_true rfl, Nat.le_of_ble_eq_true rfl⟩ rfl hl.1 rfl (Nat.le_of_ble_eq_true rfl) ⟨Nat.le_refl _, Nat.le_refl _⟩ dX6_drawn_146) hS (fun H locs hP hS => ?_)
            refine lv_iadd hx hb dX6_drawn_149 ?_
            refine lv_topi (fun yv19 e_yv19 => ?_)
            have h := z_nma e_yv19 h
            refine lv_istore_n (lv' := [(2, .int yv19), (0, .ref (ad 0)), (3, .int yv14)]) hx hb dX6_drawn_150 rfl hl (by decide) rfl (fun ls hl => ?_)
            obtain ⟨yv20, e_yv20, h⟩ := z_nmx h
            refine lv_iinc (v := yv20) (lv' := [(3, .int yv20), (2, .int yv19), (0, .ref (ad 0))]) hx hb dX6_drawn_151 hl (k := 2) rfl (by rw [e_yv20]; rfl) (by decide) rfl (fun ls hl => ?_)
            refine lv_goto (tgt := 125) hx hb dX6_drawn_154 (by decide) ?_
            exact ih _ _ _ _ _ _ (hq1 _ (z_sm h).symm) hP hS (lv_sub hl [2, 1, 0] rfl)
      exact hL125 yn125 _ _ _ _ _ _ hlp hP hS (lv_sub hl [2, 1, 0] rfl)
    have hL28 : ∀ (n : Nat) (yv3 : Int32) (yd4 : Dt) (H : Heap) (locs : List Loc) (ls : Array Slot), z_it (bX6_drawn_28 yx1) n (yv3, yd4) = some yt28 → va_P D vwCl (WM G ad yd4) H → va_S A s.heap H locs → lv_has ls 7 [(0, .ref (ad 0)), (1, .int yx1), (2, .int yv3)] → W p l e (z_rm 12 299) s m args below meth c H locs 0 0 Q (F0 m 28 ls []) := by
      intro n
      induction n with
      | zero => intro yv3 yd4 H locs ls hn; exact z_it0 hn
      | succ n ih =>
        intro yv3 yd4 H locs ls hn hP hS hl
        obtain ⟨yq28, h, hq1, hq2⟩ := z_itx hn
        have h : (zif (yx1 ≤ yv3) (some (.inr yd4)) (z_nm (z_sl yd4 ((yd4.2 * (6364136223846793005 : Int64)) + (1442695040888963407 : Int64))) fun yd5 => z_nm ((((yd5.2).toUInt64 >>> ((33 : Int32).toInt64.toUInt64 &&& Int64.toUInt64 63)).toInt64).toInt32) fun yv6 => z_nm (yv6 - yv6 / (8 : Int32) * (8 : Int32)) fun yv7 => zif ((4 : Int32) ≤ yv7) (zif ((6 : Int32) ≤ yv7) (jX6_drawn_101 yd5 yv3 ((20 : Int32) + ((yv6 / (8 : Int32)) - (yv6 / (8 : Int32)) / (10 : Int32) * (10 : Int32)))) (jX6_drawn_101 yd5 yv3 (10 : Int32))) (jX6_drawn_101 yd5 yv3 ((yv6 / (8 : Int32)) - (yv6 / (8 : Int32)) / (5 : Int32) * (5 : Int32))))) = some yq28 := h
        refine lv_iload_n hx hb dX6_drawn_28 rfl (lv_at hl 2 rfl) ?_
        refine lv_iload_n hx hb dX6_drawn_29 rfl (lv_at hl 1 rfl) ?_
        refine lv_icmp_ge (tgt := 121) hx hb dX6_drawn_30 (by decide) (fun yc30 => ?_) (fun yc30 => ?_)
        · have h := z_ifp yc30 h
          exact hE121 _ _ _ _ (hq2 _ (z_sm h).symm) hP hS (lv_sub hl [0] rfl)
        · have h := z_ifn yc30 h
          refine lv_aload_n hx hb dX6_drawn_33 rfl (lv_at hl 0 rfl) ?_
          refine lv_aload_n hx hb dX6_drawn_34 rfl (lv_at hl 0 rfl) ?_
          refine gt_X6_12 hx hb hts hown hK hP (hts _ wl_3_146) dX6_drawn_35 ?_
          refine lv_ldc2 hx hb hown (hts _ wl_5_9) dX6_drawn_38 ?_
          refine lv_lmul hx hb dX6_drawn_41 ?_
          refine lv_ldc2 hx hb hown (hts _ wl_5_10) dX6_drawn_42 ?_
          refine lv_ladd hx hb dX6_drawn_45 ?_
          refine pt_X6_12 hx hb hts hown hK hP hI hS (hts _ wl_3_146) dX6_drawn_46 (fun H locs yd5 e_yd5 hP hS => ?_)
          have h := z_nma e_yd5 h
          refine lv_aload_n hx hb dX6_drawn_49 rfl (lv_at hl 0 rfl) ?_
          refine gt_X6_12 hx hb hts hown hK hP (hts _ wl_3_146) dX6_drawn_50 ?_
          refine lv_bipush (v := (33 : Int32)) hx hb dX6_drawn_53 (by decide) ?_
          refine lv_lushr (v := ((yd5.2).toUInt64 >>> ((33 : Int32).toInt64.toUInt64 &&& Int64.toUInt64 63)).toInt64) hx hb dX6_drawn_55 rfl ?_
          refine lv_l2i (v := (((yd5.2).toUInt64 >>> ((33 : Int32).toInt64.toUInt64 &&& Int64.toUInt64 63)).toInt64).toInt32) hx hb dX6_drawn_56 rfl ?_
          refine lv_topi (fun yv6 e_yv6 => ?_)
          have h := z_nma e_yv6 h
          refine lv_istore_n (lv' := [(3, .int yv6), (0, .ref (ad 0)), (1, .int yx1), (2, .int yv3)]) hx hb dX6_drawn_57 rfl hl (by decide) rfl (fun ls hl => ?_)
          refine lv_iload_n hx hb dX6_drawn_58 rfl (lv_at hl 0 rfl) ?_
          refine lv_bipush (v := (8 : Int32)) hx hb dX6_drawn_59 (by decide) ?_
          refine lv_irem hx hb dX6_drawn_61 (by decide) ?_
          refine lv_topi (fun yv7 e_yv7 => ?_)
          have h := z_nma e_yv7 h
          refine lv_istore (lv' := [(4, .int yv7), (3, .int yv6), (0, .ref (ad 0)), (1, .int yx1), (2, .int yv3)]) hx hb dX6_drawn_62 hl (by decide) rfl (fun ls hl => ?_)
          refine lv_iload hx hb dX6_drawn_64 (lv_at hl 0 rfl) ?_
          refine lv_iconst (v := (4 : Int32)) hx hb dX6_drawn_66 (by decide) ?_
          have hJ101 : ∀ (yv8 : Int32) (H : Heap) (locs : List Loc) (ls : Array Slot), jX6_drawn_101 yd5 yv3 yv8 = some yq28 → va_P D vwCl (WM G ad yd5) H → va_S A s.heap H locs → lv_has ls 7 [(0, .ref (ad 0)), (1, .int yx1), (2, .int yv3)] → W p l e (z_rm 12 299) s m args below meth c H locs 0 0 Q (F0 m 101 ls [.int yv8]) := by
            intro yv8 H locs ls h hP hS hl
            have h : (z_bd (fX6_eventOn yd5 3 yv8) fun yr9 yd10 => z_nm (yv3 + (1 : Int32)) fun yv11 => some (.inl (yv11, yd10))) = some yq28 := h
            refine lv_istore (lv' := [(5, .int yv8), (0, .ref (ad 0)), (1, .int yx1), (2, .int yv3)]) hx hb dX6_drawn_101 hl (by decide) rfl (fun ls hl => ?_)
            refine lv_aload_n hx hb dX6_drawn_103 rfl (lv_at hl 1 rfl) ?_
            refine lv_aload_n hx hb dX6_drawn_104 rfl (lv_at hl 1 rfl) ?_
            refine gt_X6_3 hx hb hts hown hK hP (hts _ wl_3_137) dX6_drawn_105 ?_
            refine lv_iload hx hb dX6_drawn_108 (lv_at hl 0 rfl) ?_
            obtain ⟨yr9, yd10, yhc110, h⟩ := z_bdx h
            refine z_kz (z_rV (As := [.ref (ad 3), .int yv8]) (rest := []) ⟨hx, hb, hml, hown, hts⟩ hK hP w_X6 rfl (kX6_eventOn hI rfl yhc110) giX6_188 ⟨rfl, rfl⟩ ndX6_eventOn ⟨Nat.le_of_ble_eq_true rfl, Nat.le_of_ble_eq_true rfl⟩ rfl hl.1 rfl (Nat.le_of_ble_eq_true rfl) ⟨Nat.le_refl _, Nat.le_refl _⟩ dX6_drawn_110) hS (fun H locs z_yr9 hP hS => ?_)
            refine lv_istore (lv' := [(6, .int yr9), (5, .int yv8), (0, .ref (ad 0)), (1, .int yx1), (2, .int yv3)]) hx hb dX6_drawn_113 hl (by decide) rfl (fun ls hl => ?_)
            obtain ⟨yv11, e_yv11, h⟩ := z_nmx h
            refine lv_iinc (v := yv11) (lv' := [(2, .int yv11), (6, .int yr9), (5, .int yv8), (0, .ref (ad 0)), (1, .int yx1)]) hx hb dX6_drawn_115 hl (k := 4) rfl (by rw [e_yv11]; rfl) (by decide) rfl (fun ls hl => ?_)
            refine lv_goto (tgt := 28) hx hb dX6_drawn_118 (by decide) ?_
            exact ih _ _ _ _ _ (hq1 _ (z_sm h).symm) hP hS (lv_sub hl [3, 4, 0] rfl)
          refine lv_icmp_ge (tgt := 79) hx hb dX6_drawn_67 (by decide) (fun yc67 => ?_) (fun yc67 => ?_)
          · have h := z_ifp yc67 h
            refine lv_iload hx hb dX6_drawn_79 (lv_at hl 0 rfl) ?_
            refine lv_bipush (v := (6 : Int32)) hx hb dX6_drawn_81 (by decide) ?_
            refine lv_icmp_ge (tgt := 91) hx hb dX6_drawn_83 (by decide) (fun yc83 => ?_) (fun yc83 => ?_)
            · have h := z_ifp yc83 h
              refine lv_bipush (v := (20 : Int32)) hx hb dX6_drawn_91 (by decide) ?_
              refine lv_iload_n hx hb dX6_drawn_93 rfl (lv_at hl 1 rfl) ?_
              refine lv_bipush (v := (8 : Int32)) hx hb dX6_drawn_94 (by decide) ?_
              refine lv_idiv hx hb dX6_drawn_96 (by decide) ?_
              refine lv_bipush (v := (10 : Int32)) hx hb dX6_drawn_97 (by decide) ?_
              refine lv_irem hx hb dX6_drawn_99 (by decide) ?_
              refine lv_iadd hx hb dX6_drawn_100 ?_
              exact hJ101 _ _ _ _ h hP hS (lv_sub hl [2, 3, 4] rfl)
            · have h := z_ifn yc83 h
              refine lv_bipush (v := (10 : Int32)) hx hb dX6_drawn_86 (by decide) ?_
              refine lv_goto (tgt := 101) hx hb dX6_drawn_88 (by decide) ?_
              exact hJ101 _ _ _ _ h hP hS (lv_sub hl [2, 3, 4] rfl)
          · have h := z_ifn yc67 h
            refine lv_iload_n hx hb dX6_drawn_70 rfl (lv_at hl 1 rfl) ?_
            refine lv_bipush (v := (8 : Int32)) hx hb dX6_drawn_71 (by decide) ?_
            refine lv_idiv hx hb dX6_drawn_73 (by decide) ?_
            refine lv_iconst (v := (5 : Int32)) hx hb dX6_drawn_74 (by decide) ?_
            refine lv_irem hx hb dX6_drawn_75 (by decide) ?_
            refine lv_goto (tgt := 101) hx hb dX6_drawn_76 (by decide) ?_
            exact hJ101 _ _ _ _ h hP hS (lv_sub hl [2, 3, 4] rfl)
    exact hL28 yn28 _ _ _ _ _ hlp hP hS (lv_sub hl [1, 2, 0] rfl)
  · have h := z_ifp yc9 h
    refine lv_bipush (v := (-2 : Int32)) hx hb dX6_drawn_12 (by decide) ?_
    exact hRet _ _ _ _ _ _ hP hS h dX6_drawn_14
noncomputable def bX6_keep_21 (yx1 : Int32) (s : Int32 × Dt) : Option ((Int32 × Dt) ⊕ (Dt)) := match s with
  | (yv3, yd4) => zif ((214 : Int32) ≤ yv3) (some (.inr yd4)) (z_gd (z_in yv3 214) (z_gd (z_in (((214 : Int32) * yx1) + yv3) 428) (z_nm (z_st yd4 5 (z_ix (((214 : Int32) * yx1) + yv3)) (yd4.1 2 (z_ix yv3))) fun yd5 => z_nm (yv3 + (1 : Int32)) fun yv6 => some (.inl (yv6, yd5)))))
noncomputable def fX6_keep (yd : Dt) (yx1 : Int32) : Option (Int32 × Dt) :=
  z_br (fX6_in (yx1.toInt64) (0 : Int64) (1 : Int64)) fun yr1 => zif (yr1 = 0) (some ((-1 : Int32), yd)) (z_gd (z_in yx1 2) (z_nm (z_st yd 6 (z_ix yx1) (1 : Int32)) fun yd2 => z_br (z_lp (bX6_keep_21 yx1) ((0 : Int32), yd2)) (fun t => match t with | yd7 => some ((yd7.1 2 (z_ix (82 : Int32))), yd7))))
set_option maxHeartbeats 4000000 in
set_option maxRecDepth 100000 in
theorem kX6_keep {l : Launch} {D : va_G} {G : z_G} {ad : Nat → Nat} {A : Nat → Prop} (hI : ∀ d, va_D A (WM G ad d)) {yd : Dt} {yx1 : Int32}  {rr : Int32} {dd : Dt} (h : fX6_keep yd yx1 = some (rr, dd)) : z_Mi l D G A (WM G ad) yX6_keep cX6_keep 3 (z_rm 1 25) yd [.ref (ad 0), .int yx1] rr dd := by
  refine z_ofi (by decide) (Nat.le_of_ble_eq_true rfl) fun p e s m args below meth c Q hx hb hml hown hts hK hP hRet ls hl => ?_
  have hS : va_S A s.heap s.heap [] := va_S.rf
  have hl : lv_has ls 3 [(0, .ref (ad 0)), (1, .int yx1)] := hl
  have h : (z_br (fX6_in (yx1.toInt64) (0 : Int64) (1 : Int64)) fun yr1 => zif (yr1 = 0) (some ((-1 : Int32), yd)) (z_gd (z_in yx1 2) (z_nm (z_st yd 6 (z_ix yx1) (1 : Int32)) fun yd2 => z_br (z_lp (bX6_keep_21 yx1) ((0 : Int32), yd2)) (fun t => match t with | yd7 => some ((yd7.1 2 (z_ix (82 : Int32))), yd7))))) = some (rr, dd) := h
  refine lv_iload_n hx hb dX6_keep_0 rfl (lv_at hl 1 rfl) ?_
  refine lv_i2l (v := yx1.toInt64) hx hb dX6_keep_1 rfl ?_
  refine lv_lconst (v := (0 : Int64)) hx hb dX6_keep_2 (by decide) ?_
  refine lv_lconst (v := (1 : Int64)) hx hb dX6_keep_3 (by decide) ?_
  obtain ⟨yr1, yhc4, h⟩ := z_brx h
  refine z_kz (z_rS (As := [.long (yx1.toInt64), .long (0 : Int64), .long (1 : Int64)]) (rest := []) ⟨hx, hb, hml, hown, hts⟩ hK hP (kX6_in yhc4) giX6_64 ⟨rfl, rfl⟩ ndX6_in ⟨Nat.le_of_ble_eq_true rfl, Nat.le_of_ble_eq_true rfl⟩ rfl hl.1 rfl (Nat.le_of_ble_eq_true rfl) ⟨Nat.le_refl _, Nat.le_refl _⟩ dX6_keep_4) hS (fun H locs z_yr1 hP hS => ?_)
  refine lv_if_ne (tgt := 12) hx hb dX6_keep_7 (by decide) (fun yc7 => ?_) (fun yc7 => ?_)
  · have h := z_ifn yc7 h
    refine lv_aload_n hx hb dX6_keep_12 rfl (lv_at hl 0 rfl) ?_
    refine gt_X6_8 hx hb hts hown hK hP (hts _ wl_3_142) dX6_keep_13 ?_
    refine lv_iload_n hx hb dX6_keep_16 rfl (lv_at hl 1 rfl) ?_
    refine lv_iconst (v := (1 : Int32)) hx hb dX6_keep_17 (by decide) ?_
    obtain ⟨yg18, h⟩ := z_gi h
    refine zs_M hx hb hK hP hI hS yg18 dX6_keep_18 (by decide) (fun H locs yd2 e_yd2 hP hS => ?_)
    have h := z_nma e_yd2 h
    refine lv_iconst (v := (0 : Int32)) hx hb dX6_keep_19 (by decide) ?_
    refine lv_istore_n (lv' := [(2, .int (0 : Int32)), (0, .ref (ad 0)), (1, .int yx1)]) hx hb dX6_keep_20 rfl hl (by decide) rfl (fun ls hl => ?_)
    obtain ⟨yt21, hlp, h⟩ := z_brx h
    obtain ⟨yn21, hlp⟩ := z_lpx hlp
    have hE52 : ∀ (yd7 : Dt) (H : Heap) (locs : List Loc) (ls : Array Slot), yd7 = yt21 → va_P D vwCl (WM G ad yd7) H → va_S A s.heap H locs → lv_has ls 3 [(0, .ref (ad 0))] → W p l e (z_rm 1 25) s m args below meth c H locs 0 0 Q (F0 m 52 ls []) := by
      intro yd7 H locs ls et hP hS hl
      subst et
      have h : (some ((yd7.1 2 (z_ix (82 : Int32))), yd7)) = some (rr, dd) := h
      refine lv_aload_n hx hb dX6_keep_52 rfl (lv_at hl 0 rfl) ?_
      refine gt_X6_2 hx hb hts hown hK hP (hts _ wl_3_136) dX6_keep_53 ?_
      refine lv_bipush (v := (82 : Int32)) hx hb dX6_keep_56 (by decide) ?_
      refine al_M hx hb hK hP rfl (by decide) (z_li (by decide) : vp_in (82 : Int32) 214) dX6_keep_58 ?_
      exact hRet _ _ _ _ _ _ hP hS h dX6_keep_59
    have hL21 : ∀ (n : Nat) (yv3 : Int32) (yd4 : Dt) (H : Heap) (locs : List Loc) (ls : Array Slot), z_it (bX6_keep_21 yx1) n (yv3, yd4) = some yt21 → va_P D vwCl (WM G ad yd4) H → va_S A s.heap H locs → lv_has ls 3 [(0, .ref (ad 0)), (1, .int yx1), (2, .int yv3)] → W p l e (z_rm 1 25) s m args below meth c H locs 0 0 Q (F0 m 21 ls []) := by
      intro n
      induction n with
      | zero => intro yv3 yd4 H locs ls hn; exact z_it0 hn
      | succ n ih =>
        intro yv3 yd4 H locs ls hn hP hS hl
        obtain ⟨yq21, h, hq1, hq2⟩ := z_itx hn
        have h : (zif ((214 : Int32) ≤ yv3) (some (.inr yd4)) (z_gd (z_in yv3 214) (z_gd (z_in (((214 : Int32) * yx1) + yv3) 428) (z_nm (z_st yd4 5 (z_ix (((214 : Int32) * yx1) + yv3)) (yd4.1 2 (z_ix yv3))) fun yd5 => z_nm (yv3 + (1 : Int32)) fun yv6 => some (.inl (yv6, yd5)))))) = some yq21 := h
        refine lv_iload_n hx hb dX6_keep_21 rfl (lv_at hl 2 rfl) ?_
        refine lv_sipush (v := (214 : Int32)) hx hb dX6_keep_22 (by decide) ?_
        refine lv_icmp_ge (tgt := 52) hx hb dX6_keep_25 (by decide) (fun yc25 => ?_) (fun yc25 => ?_)
        · have h := z_ifp yc25 h
          exact hE52 _ _ _ _ (hq2 _ (z_sm h).symm) hP hS (lv_sub hl [0] rfl)
        · have h := z_ifn yc25 h
          refine lv_aload_n hx hb dX6_keep_28 rfl (lv_at hl 0 rfl) ?_
          refine gt_X6_7 hx hb hts hown hK hP (hts _ wl_3_141) dX6_keep_29 ?_
          refine lv_sipush (v := (214 : Int32)) hx hb dX6_keep_32 (by decide) ?_
          refine lv_iload_n hx hb dX6_keep_35 rfl (lv_at hl 1 rfl) ?_
          refine lv_imul hx hb dX6_keep_36 ?_
          refine lv_iload_n hx hb dX6_keep_37 rfl (lv_at hl 2 rfl) ?_
          refine lv_iadd hx hb dX6_keep_38 ?_
          refine lv_aload_n hx hb dX6_keep_39 rfl (lv_at hl 0 rfl) ?_
          refine gt_X6_2 hx hb hts hown hK hP (hts _ wl_3_136) dX6_keep_40 ?_
          refine lv_iload_n hx hb dX6_keep_43 rfl (lv_at hl 2 rfl) ?_
          obtain ⟨yg44, h⟩ := z_gi h
          refine al_M hx hb hK hP rfl (by decide) yg44 dX6_keep_44 ?_
          obtain ⟨yg45, h⟩ := z_gi h
          refine as_M hx hb hK hP hI hS rfl (by decide) yg45 dX6_keep_45 (fun H locs yd5 e_yd5 hP hS => ?_)
          have h := z_nma e_yd5 h
          obtain ⟨yv6, e_yv6, h⟩ := z_nmx h
          refine lv_iinc (v := yv6) (lv' := [(2, .int yv6), (0, .ref (ad 0)), (1, .int yx1)]) hx hb dX6_keep_46 hl (k := 2) rfl (by rw [e_yv6]; rfl) (by decide) rfl (fun ls hl => ?_)
          refine lv_goto (tgt := 21) hx hb dX6_keep_49 (by decide) ?_
          exact ih _ _ _ _ _ (hq1 _ (z_sm h).symm) hP hS (lv_sub hl [1, 2, 0] rfl)
    exact hL21 yn21 _ _ _ _ _ hlp hP hS (lv_sub hl [1, 2, 0] rfl)
  · have h := z_ifp yc7 h
    refine lv_iconst (v := (-1 : Int32)) hx hb dX6_keep_10 (by decide) ?_
    exact hRet _ _ _ _ _ _ hP hS h dX6_keep_11
noncomputable def bX6_again_26 (yx1 : Int32) (s : Int32 × Dt) : Option ((Int32 × Dt) ⊕ (Dt)) := match s with
  | (yv2, yd3) => zif ((214 : Int32) ≤ yv2) (some (.inr yd3)) (z_gd (z_in (((214 : Int32) * yx1) + yv2) 428) (z_gd (z_in yv2 214) (z_nm (z_st yd3 2 (z_ix yv2) (yd3.1 5 (z_ix (((214 : Int32) * yx1) + yv2)))) fun yd4 => z_nm (yv2 + (1 : Int32)) fun yv5 => some (.inl (yv5, yd4)))))
noncomputable def fX6_again (yd : Dt) (yx1 : Int32) : Option (Int32 × Dt) :=
  z_br (fX6_in (yx1.toInt64) (0 : Int64) (1 : Int64)) fun yr1 => zif (yr1 = 0) (some ((-1 : Int32), yd)) (z_gd (z_in yx1 2) (zif ((yd.1 6 (z_ix yx1)) = 0) (some ((-3 : Int32), yd)) (z_br (z_lp (bX6_again_26 yx1) ((0 : Int32), yd)) (fun t => match t with | yd6 => z_nm (z_st yd6 0 5 (0 : Int32)) fun yd7 => some ((yd7.1 2 (z_ix (82 : Int32))), yd7)))))
set_option maxHeartbeats 4000000 in
set_option maxRecDepth 100000 in
theorem kX6_again {l : Launch} {D : va_G} {G : z_G} {ad : Nat → Nat} {A : Nat → Prop} (hI : ∀ d, va_D A (WM G ad d)) {yd : Dt} {yx1 : Int32}  {rr : Int32} {dd : Dt} (h : fX6_again yd yx1 = some (rr, dd)) : z_Mi l D G A (WM G ad) yX6_again cX6_again 3 (z_rm 1 25) yd [.ref (ad 0), .int yx1] rr dd := by
  refine z_ofi (by decide) (Nat.le_of_ble_eq_true rfl) fun p e s m args below meth c Q hx hb hml hown hts hK hP hRet ls hl => ?_
  have hS : va_S A s.heap s.heap [] := va_S.rf
  have hl : lv_has ls 3 [(0, .ref (ad 0)), (1, .int yx1)] := hl
  have h : (z_br (fX6_in (yx1.toInt64) (0 : Int64) (1 : Int64)) fun yr1 => zif (yr1 = 0) (some ((-1 : Int32), yd)) (z_gd (z_in yx1 2) (zif ((yd.1 6 (z_ix yx1)) = 0) (some ((-3 : Int32), yd)) (z_br (z_lp (bX6_again_26 yx1) ((0 : Int32), yd)) (fun t => match t with | yd6 => z_nm (z_st yd6 0 5 (0 : Int32)) fun yd7 => some ((yd7.1 2 (z_ix (82 : Int32))), yd7)))))) = some (rr, dd) := h
  refine lv_iload_n hx hb dX6_again_0 rfl (lv_at hl 1 rfl) ?_
  refine lv_i2l (v := yx1.toInt64) hx hb dX6_again_1 rfl ?_
  refine lv_lconst (v := (0 : Int64)) hx hb dX6_again_2 (by decide) ?_
  refine lv_lconst (v := (1 : Int64)) hx hb dX6_again_3 (by decide) ?_
  obtain ⟨yr1, yhc4, h⟩ := z_brx h
  refine z_kz (z_rS (As := [.long (yx1.toInt64), .long (0 : Int64), .long (1 : Int64)]) (rest := []) ⟨hx, hb, hml, hown, hts⟩ hK hP (kX6_in yhc4) giX6_64 ⟨rfl, rfl⟩ ndX6_in ⟨Nat.le_of_ble_eq_true rfl, Nat.le_of_ble_eq_true rfl⟩ rfl hl.1 rfl (Nat.le_of_ble_eq_true rfl) ⟨Nat.le_refl _, Nat.le_refl _⟩ dX6_again_4) hS (fun H locs z_yr1 hP hS => ?_)
  refine lv_if_ne (tgt := 12) hx hb dX6_again_7 (by decide) (fun yc7 => ?_) (fun yc7 => ?_)
  · have h := z_ifn yc7 h
    refine lv_aload_n hx hb dX6_again_12 rfl (lv_at hl 0 rfl) ?_
    refine gt_X6_8 hx hb hts hown hK hP (hts _ wl_3_142) dX6_again_13 ?_
    refine lv_iload_n hx hb dX6_again_16 rfl (lv_at hl 1 rfl) ?_
    obtain ⟨yg17, h⟩ := z_gi h
    refine zl_M hx hb hK hP yg17 dX6_again_17 ?_
    refine lv_if_ne (tgt := 24) hx hb dX6_again_18 (by decide) (fun yc18 => ?_) (fun yc18 => ?_)
    · have h := z_ifn yc18 h
      refine lv_iconst (v := (0 : Int32)) hx hb dX6_again_24 (by decide) ?_
      refine lv_istore_n (lv' := [(2, .int (0 : Int32)), (0, .ref (ad 0)), (1, .int yx1)]) hx hb dX6_again_25 rfl hl (by decide) rfl (fun ls hl => ?_)
      obtain ⟨yt26, hlp, h⟩ := z_brx h
      obtain ⟨yn26, hlp⟩ := z_lpx hlp
      have hE57 : ∀ (yd6 : Dt) (H : Heap) (locs : List Loc) (ls : Array Slot), yd6 = yt26 → va_P D vwCl (WM G ad yd6) H → va_S A s.heap H locs → lv_has ls 3 [(0, .ref (ad 0))] → W p l e (z_rm 1 25) s m args below meth c H locs 0 0 Q (F0 m 57 ls []) := by
        intro yd6 H locs ls et hP hS hl
        subst et
        have h : (z_nm (z_st yd6 0 5 (0 : Int32)) fun yd7 => some ((yd7.1 2 (z_ix (82 : Int32))), yd7)) = some (rr, dd) := h
        refine lv_aload_n hx hb dX6_again_57 rfl (lv_at hl 0 rfl) ?_
        refine lv_iconst (v := (0 : Int32)) hx hb dX6_again_58 (by decide) ?_
        refine pt_X6_5 hx hb hts hown hK hP hI hS (hts _ wl_3_139) dX6_again_59 (fun H locs yd7 e_yd7 hP hS => ?_)
        have h := z_nma e_yd7 h
        refine lv_aload_n hx hb dX6_again_62 rfl (lv_at hl 0 rfl) ?_
        refine gt_X6_2 hx hb hts hown hK hP (hts _ wl_3_136) dX6_again_63 ?_
        refine lv_bipush (v := (82 : Int32)) hx hb dX6_again_66 (by decide) ?_
        refine al_M hx hb hK hP rfl (by decide) (z_li (by decide) : vp_in (82 : Int32) 214) dX6_again_68 ?_
        exact hRet _ _ _ _ _ _ hP hS h dX6_again_69
      have hL26 : ∀ (n : Nat) (yv2 : Int32) (yd3 : Dt) (H : Heap) (locs : List Loc) (ls : Array Slot), z_it (bX6_again_26 yx1) n (yv2, yd3) = some yt26 → va_P D vwCl (WM G ad yd3) H → va_S A s.heap H locs → lv_has ls 3 [(0, .ref (ad 0)), (1, .int yx1), (2, .int yv2)] → W p l e (z_rm 1 25) s m args below meth c H locs 0 0 Q (F0 m 26 ls []) := by
        intro n
        induction n with
        | zero => intro yv2 yd3 H locs ls hn; exact z_it0 hn
        | succ n ih =>
          intro yv2 yd3 H locs ls hn hP hS hl
          obtain ⟨yq26, h, hq1, hq2⟩ := z_itx hn
          have h : (zif ((214 : Int32) ≤ yv2) (some (.inr yd3)) (z_gd (z_in (((214 : Int32) * yx1) + yv2) 428) (z_gd (z_in yv2 214) (z_nm (z_st yd3 2 (z_ix yv2) (yd3.1 5 (z_ix (((214 : Int32) * yx1) + yv2)))) fun yd4 => z_nm (yv2 + (1 : Int32)) fun yv5 => some (.inl (yv5, yd4)))))) = some yq26 := h
          refine lv_iload_n hx hb dX6_again_26 rfl (lv_at hl 2 rfl) ?_
          refine lv_sipush (v := (214 : Int32)) hx hb dX6_again_27 (by decide) ?_
          refine lv_icmp_ge (tgt := 57) hx hb dX6_again_30 (by decide) (fun yc30 => ?_) (fun yc30 => ?_)
          · have h := z_ifp yc30 h
            exact hE57 _ _ _ _ (hq2 _ (z_sm h).symm) hP hS (lv_sub hl [0] rfl)
          · have h := z_ifn yc30 h
            refine lv_aload_n hx hb dX6_again_33 rfl (lv_at hl 0 rfl) ?_
            refine gt_X6_2 hx hb hts hown hK hP (hts _ wl_3_136) dX6_again_34 ?_
            refine lv_iload_n hx hb dX6_again_37 rfl (lv_at hl 2 rfl) ?_
            refine lv_aload_n hx hb dX6_again_38 rfl (lv_at hl 0 rfl) ?_
            refine gt_X6_7 hx hb hts hown hK hP (hts _ wl_3_141) dX6_again_39 ?_
            refine lv_sipush (v := (214 : Int32)) hx hb dX6_again_42 (by decide) ?_
            refine lv_iload_n hx hb dX6_again_45 rfl (lv_at hl 1 rfl) ?_
            refine lv_imul hx hb dX6_again_46 ?_
            refine lv_iload_n hx hb dX6_again_47 rfl (lv_at hl 2 rfl) ?_
            refine lv_iadd hx hb dX6_again_48 ?_
            obtain ⟨yg49, h⟩ := z_gi h
            refine al_M hx hb hK hP rfl (by decide) yg49 dX6_again_49 ?_
            obtain ⟨yg50, h⟩ := z_gi h
            refine as_M hx hb hK hP hI hS rfl (by decide) yg50 dX6_again_50 (fun H locs yd4 e_yd4 hP hS => ?_)
            have h := z_nma e_yd4 h
            obtain ⟨yv5, e_yv5, h⟩ := z_nmx h
            refine lv_iinc (v := yv5) (lv' := [(2, .int yv5), (0, .ref (ad 0)), (1, .int yx1)]) hx hb dX6_again_51 hl (k := 2) rfl (by rw [e_yv5]; rfl) (by decide) rfl (fun ls hl => ?_)
            refine lv_goto (tgt := 26) hx hb dX6_again_54 (by decide) ?_
            exact ih _ _ _ _ _ (hq1 _ (z_sm h).symm) hP hS (lv_sub hl [1, 2, 0] rfl)
      exact hL26 yn26 _ _ _ _ _ hlp hP hS (lv_sub hl [1, 2, 0] rfl)
    · have h := z_ifp yc18 h
      refine lv_bipush (v := (-3 : Int32)) hx hb dX6_again_21 (by decide) ?_
      exact hRet _ _ _ _ _ _ hP hS h dX6_again_23
  · have h := z_ifp yc7 h
    refine lv_iconst (v := (-1 : Int32)) hx hb dX6_again_10 (by decide) ?_
    exact hRet _ _ _ _ _ _ hP hS h dX6_again_11
