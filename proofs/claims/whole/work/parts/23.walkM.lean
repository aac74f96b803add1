noncomputable def jX6_shared_63 (yv6 : Int32) (yv7 : Int32) : Option ((Int32 × Int32) ⊕ (Int32)) :=
  z_nm (yv6 + (1 : Int32)) fun yv8 => some (.inl (yv7, yv8))
noncomputable def jX6_shared_62 (yv6 : Int32) : Option ((Int32 × Int32) ⊕ (Int32)) :=
  jX6_shared_63 yv6 (0 : Int32)
noncomputable def bX6_shared_36 (yv2 : Int32) (yd : Dt) (yv4 : Int32) (s : Int32 × Int32) : Option ((Int32 × Int32) ⊕ (Int32)) := match s with
  | (yv5, yv6) => zif (yv2 ≤ yv6) (some (.inr yv5)) (zif (yv5 = 0) (jX6_shared_62 yv6) (z_br (fX6_isBeginning yd yv2 yv6 yv4) fun yr9 => zif (yr9 = 0) (jX6_shared_63 yv6 (1 : Int32)) (jX6_shared_62 yv6)))
noncomputable def bX6_shared_17 (yv2 : Int32) (yd : Dt) (s : Int32 × Int32) : Option ((Int32 × Int32) ⊕ (Int32)) := match s with
  | (yv3, yv4) => z_gd (z_in ((84 : Int32) + yv2) 214) (zif ((yd.1 2 (z_ix ((84 : Int32) + yv2))) < yv4) (some (.inr yv3)) (z_br (z_lp (bX6_shared_36 yv2 yd yv4) ((1 : Int32), (0 : Int32))) (fun t => match t with | yv10 => z_nm (zif (yv10 = 0) (0 : Int32) (1 : Int32)) fun yv11 => z_nm (yv3 + yv11) fun yv12 => z_nm (yv4 + (1 : Int32)) fun yv13 => some (.inl (yv12, yv13)))))
noncomputable def bX6_shared_4 (yd : Dt) (s : Int32 × Int32) : Option ((Int32 × Int32) ⊕ (Int32)) := match s with
  | (yv1, yv2) => zif ((yd.1 2 (z_ix (83 : Int32))) ≤ yv2) (some (.inr yv1)) (z_br (z_lp (bX6_shared_17 yv2 yd) (yv1, (1 : Int32))) (fun t => match t with | yv14 => z_nm (yv2 + (1 : Int32)) fun yv15 => some (.inl (yv14, yv15))))
noncomputable def fX6_shared (yd : Dt) : Option Int32 :=
  z_br (z_lp (bX6_shared_4 yd) ((0 : Int32), (0 : Int32))) (fun t => match t with | yv16 => some yv16)
set_option maxHeartbeats 4000000 in
set_option maxRecDepth 100000 in
theorem kX6_shared {l : Launch} {D : va_G} {G : z_G} {ad : Nat → Nat} {A : Nat → Prop} (hI : ∀ d, va_D A (WM G ad d)) {yd : Dt}   {rr : Int32} (h : fX6_shared yd = some rr) : z_Mi l D G A (WM G ad) yX6_shared cX6_shared 6 (z_rm 1 25) yd [.ref (ad 0)] rr yd := by
  refine z_ofi (by decide) (Nat.le_of_ble_eq_true rfl) fun p e s m args below meth c Q hx hb hml hown hts hK hP hRet ls hl => ?_
  have hS : va_S A s.heap s.heap [] := va_S.rf
  have hl : lv_has ls 6 [(0, .ref (ad 0))] := hl
  have h : (z_br (z_lp (bX6_shared_4 yd) ((0 : Int32), (0 : Int32))) (fun t => match t with | yv16 => some yv16)) = some rr := h
  refine lv_iconst (v := (0 : Int32)) hx hb dX6_shared_0 (by decide) ?_
  refine lv_istore_n (lv' := [(1, .int (0 : Int32)), (0, .ref (ad 0))]) hx hb dX6_shared_1 rfl hl (by decide) rfl (fun ls hl => ?_)
  refine lv_iconst (v := (0 : Int32)) hx hb dX6_shared_2 (by decide) ?_
  refine lv_istore_n (lv' := [(2, .int (0 : Int32)), (1, .int (0 : Int32)), (0, .ref (ad 0))]) hx hb dX6_shared_3 rfl hl (by decide) rfl (fun ls hl => ?_)
  obtain ⟨yt4, hlp, h⟩ := z_brx h
  obtain ⟨yn4, hlp⟩ := z_lpx hlp
  have hE96 : ∀ (yv16 : Int32) (H : Heap) (locs : List Loc) (ls : Array Slot), yv16 = yt4 → va_P D vwCl (WM G ad yd) H → va_S A s.heap H locs → lv_has ls 6 [(1, .int yv16)] → W p l e (z_rm 1 25) s m args below meth c H locs 0 0 Q (F0 m 96 ls []) := by
    intro yv16 H locs ls et hP hS hl
    subst et
    have h : (some yv16) = some rr := h
    refine lv_iload_n hx hb dX6_shared_96 rfl (lv_at hl 0 rfl) ?_
    exact hRet _ _ _ _ _ _ hP hS (z_pair h) dX6_shared_97
  have hL4 : ∀ (n : Nat) (yv1 : Int32) (yv2 : Int32) (H : Heap) (locs : List Loc) (ls : Array Slot), z_it (bX6_shared_4 yd) n (yv1, yv2) = some yt4 → va_P D vwCl (WM G ad yd) H → va_S A s.heap H locs → lv_has ls 6 [(0, .ref (ad 0)), (1, .int yv1), (2, .int yv2)] → W p l e (z_rm 1 25) s m args below meth c H locs 0 0 Q (F0 m 4 ls []) := by
    intro n
    induction n with
    | zero => intro yv1 yv2 H locs ls hn; exact z_it0 hn
    | succ n ih =>
      intro yv1 yv2 H locs ls hn hP hS hl
      obtain ⟨yq4, h, hq1, hq2⟩ := z_itx hn
      have h : (zif ((yd.1 2 (z_ix (83 : Int32))) ≤ yv2) (some (.inr yv1)) (z_br (z_lp (bX6_shared_17 yv2 yd) (yv1, (1 : Int32))) (fun t => match t with | yv14 => z_nm (yv2 + (1 : Int32)) fun yv15 => some (.inl (yv14, yv15))))) = some yq4 := h
      refine lv_iload_n hx hb dX6_shared_4 rfl (lv_at hl 2 rfl) ?_
      refine lv_aload_n hx hb dX6_shared_5 rfl (lv_at hl 0 rfl) ?_
      refine gt_X6_2 hx hb hts hown hK hP (hts _ wl_3_136) dX6_shared_6 ?_
      refine lv_bipush (v := (83 : Int32)) hx hb dX6_shared_9 (by decide) ?_
      refine al_M hx hb hK hP rfl (by decide) (z_li (by decide) : vp_in (83 : Int32) 214) dX6_shared_11 ?_
      refine lv_icmp_ge (tgt := 96) hx hb dX6_shared_12 (by decide) (fun yc12 => ?_) (fun yc12 => ?_)
      · have h := z_ifp yc12 h
        exact hE96 _ _ _ _ (hq2 _ (z_sm h).symm) hP hS (lv_sub hl [1] rfl)
      · have h := z_ifn yc12 h
        refine lv_iconst (v := (1 : Int32)) hx hb dX6_shared_15 (by decide) ?_
        refine lv_istore_n (lv' := [(3, .int (1 : Int32)), (0, .ref (ad 0)), (1, .int yv1), (2, .int yv2)]) hx hb dX6_shared_16 rfl hl (by decide) rfl (fun ls hl => ?_)
        obtain ⟨yt17, hlp, h⟩ := z_brx h
        obtain ⟨yn17, hlp⟩ := z_lpx hlp
        have hE90 : ∀ (yv14 : Int32) (H : Heap) (locs : List Loc) (ls : Array Slot), yv14 = yt17 → va_P D vwCl (WM G ad yd) H → va_S A s.heap H locs → lv_has ls 6 [(0, .ref (ad 0)), (1, .int yv14), (2, .int yv2)] → W p l e (z_rm 1 25) s m args below meth c H locs 0 0 Q (F0 m 90 ls []) := by
          intro yv14 H locs ls et hP hS hl
          subst et
          have h : (z_nm (yv2 + (1 : Int32)) fun yv15 => some (.inl (yv14, yv15))) = some yq4 := h
          obtain ⟨yv15, e_yv15, h⟩ := z_nmx h
          refine lv_iinc (v := yv15) (lv' := [(2, .int yv15), (0, .ref (ad 0)), (1, .int yv14)]) hx hb dX6_shared_90 hl (k := 2) rfl (by rw [e_yv15]; rfl) (by decide) rfl (fun ls hl => ?_)
          refine lv_goto (tgt := 4) hx hb dX6_shared_93 (by decide) ?_
          exact ih _ _ _ _ _ (hq1 _ (z_sm h).symm) hP hS (lv_sub hl [1, 2, 0] rfl)
        have hL17 : ∀ (n : Nat) (yv3 : Int32) (yv4 : Int32) (H : Heap) (locs : List Loc) (ls : Array Slot), z_it (bX6_shared_17 yv2 yd) n (yv3, yv4) = some yt17 → va_P D vwCl (WM G ad yd) H → va_S A s.heap H locs → lv_has ls 6 [(0, .ref (ad 0)), (1, .int yv3), (2, .int yv2), (3, .int yv4)] → W p l e (z_rm 1 25) s m args below meth c H locs 0 0 Q (F0 m 17 ls []) := by
          intro n
          induction n with
          | zero => intro yv3 yv4 H locs ls hn; exact z_it0 hn
          | succ n ih =>
            intro yv3 yv4 H locs ls hn hP hS hl
            obtain ⟨yq17, h, hq1, hq2⟩ := z_itx hn
            have h : (z_gd (z_in ((84 : Int32) + yv2) 214) (zif ((yd.1 2 (z_ix ((84 : Int32) + yv2))) < yv4) (some (.inr yv3)) (z_br (z_lp (bX6_shared_36 yv2 yd yv4) ((1 : Int32), (0 : Int32))) (fun t => match t with | yv10 => z_nm (zif (yv10 = 0) (0 : Int32) (1 : Int32)) fun yv11 => z_nm (yv3 + yv11) fun yv12 => z_nm (yv4 + (1 : Int32)) fun yv13 => some (.inl (yv12, yv13)))))) = some yq17 := h
            refine lv_iload_n hx hb dX6_shared_17 rfl (lv_at hl 3 rfl) ?_
            refine lv_aload_n hx hb dX6_shared_18 rfl (lv_at hl 0 rfl) ?_
            refine gt_X6_2 hx hb hts hown hK hP (hts _ wl_3_136) dX6_shared_19 ?_
            refine lv_bipush (v := (84 : Int32)) hx hb dX6_shared_22 (by decide) ?_
            refine lv_iload_n hx hb dX6_shared_24 rfl (lv_at hl 2 rfl) ?_
            refine lv_iadd hx hb dX6_shared_25 ?_
            obtain ⟨yg26, h⟩ := z_gi h
            refine al_M hx hb hK hP rfl (by decide) yg26 dX6_shared_26 ?_
            refine lv_icmp_gt (tgt := 90) hx hb dX6_shared_27 (by decide) (fun yc27 => ?_) (fun yc27 => ?_)
            · have h := z_ifp yc27 h
              exact hE90 _ _ _ _ (hq2 _ (z_sm h).symm) hP hS (lv_sub hl [0, 1, 2] rfl)
            · have h := z_ifn yc27 h
              refine lv_iconst (v := (1 : Int32)) hx hb dX6_shared_30 (by decide) ?_
              refine lv_istore (lv' := [(4, .int (1 : Int32)), (0, .ref (ad 0)), (1, .int yv3), (2, .int yv2), (3, .int yv4)]) hx hb dX6_shared_31 hl (by decide) rfl (fun ls hl => ?_)
              refine lv_iconst (v := (0 : Int32)) hx hb dX6_shared_33 (by decide) ?_
              refine lv_istore (lv' := [(5, .int (0 : Int32)), (4, .int (1 : Int32)), (0, .ref (ad 0)), (1, .int yv3), (2, .int yv2), (3, .int yv4)]) hx hb dX6_shared_34 hl (by decide) rfl (fun ls hl => ?_)
              obtain ⟨yt36, hlp, h⟩ := z_brx h
              obtain ⟨yn36, hlp⟩ := z_lpx hlp
              have hE71 : ∀ (yv10 : Int32) (H : Heap) (locs : List Loc) (ls : Array Slot), yv10 = yt36 → va_P D vwCl (WM G ad yd) H → va_S A s.heap H locs → lv_has ls 6 [(0, .ref (ad 0)), (1, .int yv3), (2, .int yv2), (3, .int yv4), (4, .int yv10)] → W p l e (z_rm 1 25) s m args below meth c H locs 0 0 Q (F0 m 71 ls []) := by
                intro yv10 H locs ls et hP hS hl
                subst et
                have h : (z_nm (zif (yv10 = 0) (0 : Int32) (1 : Int32)) fun yv11 => z_nm (yv3 + yv11) fun yv12 => z_nm (yv4 + (1 : Int32)) fun yv13 => some (.inl (yv12, yv13))) = some yq17 := h
                refine lv_iload_n hx hb dX6_shared_71 rfl (lv_at hl 1 rfl) ?_
                refine lv_iload hx hb dX6_shared_72 (lv_at hl 4 rfl) ?_
                have hM82 : ∀ (yv11 : Int32) (H : Heap) (locs : List Loc), yv11 = (zif (yv10 = 0) (0 : Int32) (1 : Int32)) → va_P D vwCl (WM G ad yd) H → va_S A s.heap H locs → W p l e (z_rm 1 25) s m args below meth c H locs 0 0 Q (F0 m 82 ls [.int yv11, .int yv3]) := by
                  intro yv11 H locs e_yv11 hP hS
                  have h := z_nma e_yv11 h
                  refine lv_iadd hx hb dX6_shared_82 ?_
                  refine lv_topi (fun yv12 e_yv12 => ?_)
                  have h := z_nma e_yv12 h
                  refine lv_istore_n (lv' := [(1, .int yv12), (0, .ref (ad 0)), (2, .int yv2), (3, .int yv4), (4, .int yv10)]) hx hb dX6_shared_83 rfl hl (by decide) rfl (fun ls hl => ?_)
                  obtain ⟨yv13, e_yv13, h⟩ := z_nmx h
                  refine lv_iinc (v := yv13) (lv' := [(3, .int yv13), (1, .int yv12), (0, .ref (ad 0)), (2, .int yv2), (4, .int yv10)]) hx hb dX6_shared_84 hl (k := 3) rfl (by rw [e_yv13]; rfl) (by decide) rfl (fun ls hl => ?_)
                  refine lv_goto (tgt := 17) hx hb dX6_shared_87 (by decide) ?_
                  exact ih _ _ _ _ _ (hq1 _ (z_sm h).symm) hP hS (lv_sub hl [2, 1, 3, 0] rfl)
                refine lv_if_eq (tgt := 81) hx hb dX6_shared_74 (by decide) (fun yc74 => ?_) (fun yc74 => ?_)
                · refine lv_iconst (v := (0 : Int32)) hx hb dX6_shared_81 (by decide) ?_
                  exact hM82 _ _ _ (z_tp yc74 rfl) hP hS
                · refine lv_iconst (v := (1 : Int32)) hx hb dX6_shared_77 (by decide) ?_
                  refine lv_goto (tgt := 82) hx hb dX6_shared_78 (by decide) ?_
                  exact hM82 _ _ _ (z_tn yc74 rfl) hP hS
              have hL36 : ∀ (n : Nat) (yv5 : Int32) (yv6 : Int32) (H : Heap) (locs : List Loc) (ls : Array Slot), z_it (bX6_shared_36 yv2 yd yv4) n (yv5, yv6) = some yt36 → va_P D vwCl (WM G ad yd) H → va_S A s.heap H locs → lv_has ls 6 [(0, .ref (ad 0)), (1, .int yv3), (2, .int yv2), (3, .int yv4), (4, .int yv5), (5, .int yv6)] → W p l e (z_rm 1 25) s m args below meth c H locs 0 0 Q (F0 m 36 ls []) := by
                intro n
                induction n with
                | zero => intro yv5 yv6 H locs ls hn; exact z_it0 hn
                | succ n ih =>
                  intro yv5 yv6 H locs ls hn hP hS hl
                  obtain ⟨yq36, h, hq1, hq2⟩ := z_itx hn
                  have h : (zif (yv2 ≤ yv6) (some (.inr yv5)) (zif (yv5 = 0) (jX6_shared_62 yv6) (z_br (fX6_isBeginning yd yv2 yv6 yv4) fun yr9 => zif (yr9 = 0) (jX6_shared_63 yv6 (1 : Int32)) (jX6_shared_62 yv6)))) = some yq36 := h
                  refine lv_iload hx hb dX6_shared_36 (lv_at hl 5 rfl) ?_
                  refine lv_iload_n hx hb dX6_shared_38 rfl (lv_at hl 2 rfl) ?_
                  refine lv_icmp_ge (tgt := 71) hx hb dX6_shared_39 (by decide) (fun yc39 => ?_) (fun yc39 => ?_)
                  · have h := z_ifp yc39 h
                    exact hE71 _ _ _ _ (hq2 _ (z_sm h).symm) hP hS (lv_sub hl [0, 1, 2, 3, 4] rfl)
                  · have h := z_ifn yc39 h
                    refine lv_iload hx hb dX6_shared_42 (lv_at hl 4 rfl) ?_
                    have hJ63 : ∀ (yv7 : Int32) (H : Heap) (locs : List Loc) (ls : Array Slot), jX6_shared_63 yv6 yv7 = some yq36 → va_P D vwCl (WM G ad yd) H → va_S A s.heap H locs → lv_has ls 6 [(0, .ref (ad 0)), (1, .int yv3), (2, .int yv2), (3, .int yv4), (5, .int yv6)] → W p l e (z_rm 1 25) s m args below meth c H locs 0 0 Q (F0 m 63 ls [.int yv7]) := by
                      intro yv7 H locs ls h hP hS hl
                      have h : (z_nm (yv6 + (1 : Int32)) fun yv8 => some (.inl (yv7, yv8))) = some yq36 := h
                      refine lv_istore (lv' := [(4, .int yv7), (0, .ref (ad 0)), (1, .int yv3), (2, .int yv2), (3, .int yv4), (5, .int yv6)]) hx hb dX6_shared_63 hl (by decide) rfl (fun ls hl => ?_)
                      obtain ⟨yv8, e_yv8, h⟩ := z_nmx h
                      refine lv_iinc (v := yv8) (lv' := [(5, .int yv8), (4, .int yv7), (0, .ref (ad 0)), (1, .int yv3), (2, .int yv2), (3, .int yv4)]) hx hb dX6_shared_65 hl (k := 5) rfl (by rw [e_yv8]; rfl) (by decide) rfl (fun ls hl => ?_)
                      refine lv_goto (tgt := 36) hx hb dX6_shared_68 (by decide) ?_
                      exact ih _ _ _ _ _ (hq1 _ (z_sm h).symm) hP hS (lv_sub hl [2, 3, 4, 5, 1, 0] rfl)
                    have hJ62 : ∀  (H : Heap) (locs : List Loc) (ls : Array Slot), jX6_shared_62 yv6 = some yq36 → va_P D vwCl (WM G ad yd) H → va_S A s.heap H locs → lv_has ls 6 [(0, .ref (ad 0)), (1, .int yv3), (2, .int yv2), (3, .int yv4), (5, .int yv6)] → W p l e (z_rm 1 25) s m args below meth c H locs 0 0 Q (F0 m 62 ls []) := by
                      intro  H locs ls h hP hS hl
                      have h : (jX6_shared_63 yv6 (0 : Int32)) = some yq36 := h
                      refine lv_iconst (v := (0 : Int32)) hx hb dX6_shared_62 (by decide) ?_
                      exact hJ63 _ _ _ _ h hP hS (lv_sub hl [0, 1, 2, 3, 4] rfl)
                    refine lv_if_eq (tgt := 62) hx hb dX6_shared_44 (by decide) (fun yc44 => ?_) (fun yc44 => ?_)
                    · have h := z_ifp yc44 h
                      exact hJ62  _ _ _ h hP hS (lv_sub hl [0, 1, 2, 3, 5] rfl)
                    · have h := z_ifn yc44 h
                      refine lv_aload_n hx hb dX6_shared_47 rfl (lv_at hl 0 rfl) ?_
                      refine lv_iload_n hx hb dX6_shared_48 rfl (lv_at hl 2 rfl) ?_
                      refine lv_iload hx hb dX6_shared_49 (lv_at hl 5 rfl) ?_
                      refine lv_iload_n hx hb dX6_shared_51 rfl (lv_at hl 3 rfl) ?_
                      obtain ⟨yr9, yhc52, h⟩ := z_brx h
                      refine z_kz (z_rV (As := [.int yv2, .int yv6, .int yv4]) (rest := []) ⟨hx, hb, hml, hown, hts⟩ hK hP w_X6 rfl (kX6_isBeginning hI yhc52) giX6_195 ⟨rfl, rfl⟩ ndX6_isBeginning ⟨Nat.le_of_ble_eq_true rfl, Nat.le_of_ble_eq_true rfl⟩ rfl hl.1 rfl (Nat.le_of_ble_eq_true rfl) ⟨Nat.le_refl _, Nat.le_refl _⟩ dX6_shared_52) hS (fun H locs z_yr9 hP hS => ?_)
                      refine lv_if_ne (tgt := 62) hx hb dX6_shared_55 (by decide) (fun yc55 => ?_) (fun yc55 => ?_)
                      · have h := z_ifn yc55 h
                        exact hJ62  _ _ _ h hP hS (lv_sub hl [0, 1, 2, 3, 5] rfl)
                      · have h := z_ifp yc55 h
                        refine lv_iconst (v := (1 : Int32)) hx hb dX6_shared_58 (by decide) ?_
                        refine lv_goto (tgt := 63) hx hb dX6_shared_59 (by decide) ?_
                        exact hJ63 _ _ _ _ h hP hS (lv_sub hl [0, 1, 2, 3, 5] rfl)
              exact hL36 yn36 _ _ _ _ _ hlp hP hS (lv_sub hl [2, 3, 4, 5, 1, 0] rfl)
        exact hL17 yn17 _ _ _ _ _ hlp hP hS (lv_sub hl [1, 2, 3, 0] rfl)
  exact hL4 yn4 _ _ _ _ _ hlp hP hS (lv_sub hl [2, 1, 0] rfl)
noncomputable def fX6_about (yd : Dt) (yx1 : Int32) : Option Int32 :=
  zif (yx1 = (0 : Int32)) (some (yd.1 2 (z_ix (83 : Int32)))) (zif (yx1 = (1 : Int32)) (some (yd.1 2 (z_ix (80 : Int32)))) (zif (yx1 = (2 : Int32)) (some (yd.1 2 (z_ix (81 : Int32)))) (zif (yx1 = (3 : Int32)) (z_br (fX6_depthOf yd 2 (yd.1 2 (z_ix (81 : Int32)))) fun yr1 => some yr1) (zif (yx1 = (4 : Int32)) (some (yd.1 2 (z_ix (82 : Int32)))) (zif (yx1 = (5 : Int32)) (z_br (fX6_shared yd) fun yr2 => some yr2) (zif (yx1 = (6 : Int32)) (some (yd.1 0 5)) (zif (yx1 = (7 : Int32)) (some (yd.1 0 11)) (zif (yx1 = (8 : Int32)) (some (yd.1 0 1)) (some (-2 : Int32))))))))))
set_option maxHeartbeats 4000000 in
set_option maxRecDepth 100000 in
theorem kX6_about {l : Launch} {D : va_G} {G : z_G} {ad : Nat → Nat} {A : Nat → Prop} (hI : ∀ d, va_D A (WM G ad d)) {yd : Dt} {yx1 : Int32}  {rr : Int32} (h : fX6_about yd yx1 = some rr) : z_Mi l D G A (WM G ad) yX6_about cX6_about 2 (z_rm 2 50) yd [.ref (ad 0), .int yx1] rr yd := by
  refine z_ofi (by decide) (Nat.le_of_ble_eq_true rfl) fun p e s m args below meth c Q hx hb hml hown hts hK hP hRet ls hl => ?_
  have hS : va_S A s.heap s.heap [] := va_S.rf
  have hl : lv_has ls 2 [(0, .ref (ad 0)), (1, .int yx1)] := hl
  have h : (zif (yx1 = (0 : Int32)) (some (yd.1 2 (z_ix (83 : Int32)))) (zif (yx1 = (1 : Int32)) (some (yd.1 2 (z_ix (80 : Int32)))) (zif (yx1 = (2 : Int32)) (some (yd.1 2 (z_ix (81 : Int32)))) (zif (yx1 = (3 : Int32)) (z_br (fX6_depthOf yd 2 (yd.1 2 (z_ix (81 : Int32)))) fun yr1 => some yr1) (zif (yx1 = (4 : Int32)) (some (yd.1 2 (z_ix (82 : Int32)))) (zif (yx1 = (5 : Int32)) (z_br (fX6_shared yd) fun yr2 => some yr2) (zif (yx1 = (6 : Int32)) (some (yd.1 0 5)) (zif (yx1 = (7 : Int32)) (some (yd.1 0 11)) (zif (yx1 = (8 : Int32)) (some (yd.1 0 1)) (some (-2 : Int32))))))))))) = some rr := h
  refine lv_iload_n hx hb dX6_about_0 rfl (lv_at hl 1 rfl) ?_
  by_cases yk1_0 : yx1 = (0 : Int32)
  · have h := z_ifp yk1_0 h
    refine lv_tableIn (off := (51)) (tgt := 52) hx hb dX6_about_1 (by rw [yk1_0]; decide) (by rw [yk1_0]; decide) (by rw [yk1_0]; rfl) (by decide) ?_
    refine lv_aload_n hx hb dX6_about_52 rfl (lv_at hl 0 rfl) ?_
    refine gt_X6_2 hx hb hts hown hK hP (hts _ wl_3_136) dX6_about_53 ?_
    refine lv_bipush (v := (83 : Int32)) hx hb dX6_about_56 (by decide) ?_
    refine al_M hx hb hK hP rfl (by decide) (z_li (by decide) : vp_in (83 : Int32) 214) dX6_about_58 ?_
    exact hRet _ _ _ _ _ _ hP hS (z_pair h) dX6_about_59
  have h := z_ifn yk1_0 h
  by_cases yk1_1 : yx1 = (1 : Int32)
  · have h := z_ifp yk1_1 h
    refine lv_tableIn (off := (59)) (tgt := 60) hx hb dX6_about_1 (by rw [yk1_1]; decide) (by rw [yk1_1]; decide) (by rw [yk1_1]; rfl) (by decide) ?_
    refine lv_aload_n hx hb dX6_about_60 rfl (lv_at hl 0 rfl) ?_
    refine gt_X6_2 hx hb hts hown hK hP (hts _ wl_3_136) dX6_about_61 ?_
    refine lv_bipush (v := (80 : Int32)) hx hb dX6_about_64 (by decide) ?_
    refine al_M hx hb hK hP rfl (by decide) (z_li (by decide) : vp_in (80 : Int32) 214) dX6_about_66 ?_
    exact hRet _ _ _ _ _ _ hP hS (z_pair h) dX6_about_67
  have h := z_ifn yk1_1 h
  by_cases yk1_2 : yx1 = (2 : Int32)
  · have h := z_ifp yk1_2 h
    refine lv_tableIn (off := (67)) (tgt := 68) hx hb dX6_about_1 (by rw [yk1_2]; decide) (by rw [yk1_2]; decide) (by rw [yk1_2]; rfl) (by decide) ?_
    refine lv_aload_n hx hb dX6_about_68 rfl (lv_at hl 0 rfl) ?_
    refine gt_X6_2 hx hb hts hown hK hP (hts _ wl_3_136) dX6_about_69 ?_
    refine lv_bipush (v := (81 : Int32)) hx hb dX6_about_72 (by decide) ?_
    refine al_M hx hb hK hP rfl (by decide) (z_li (by decide) : vp_in (81 : Int32) 214) dX6_about_74 ?_
    exact hRet _ _ _ _ _ _ hP hS (z_pair h) dX6_about_75
  have h := z_ifn yk1_2 h
  by_cases yk1_3 : yx1 = (3 : Int32)
  · have h := z_ifp yk1_3 h
    refine lv_tableIn (off := (75)) (tgt := 76) hx hb dX6_about_1 (by rw [yk1_3]; decide) (by rw [yk1_3]; decide) (by rw [yk1_3]; rfl) (by decide) ?_
    refine lv_aload_n hx hb dX6_about_76 rfl (lv_at hl 0 rfl) ?_
    refine gt_X6_2 hx hb hts hown hK hP (hts _ wl_3_136) dX6_about_77 ?_
    refine lv_aload_n hx hb dX6_about_80 rfl (lv_at hl 0 rfl) ?_
    refine gt_X6_2 hx hb hts hown hK hP (hts _ wl_3_136) dX6_about_81 ?_
    refine lv_bipush (v := (81 : Int32)) hx hb dX6_about_84 (by decide) ?_
    refine al_M hx hb hK hP rfl (by decide) (z_li (by decide) : vp_in (81 : Int32) 214) dX6_about_86 ?_
    obtain ⟨yr1, yhc87, h⟩ := z_brx h
    refine z_ki (z_rS (As := [.ref (ad 2), .int (yd.1 2 (z_ix (81 : Int32)))]) (rest := []) ⟨hx, hb, hml, hown, hts⟩ hK hP (kX6_depthOf hI rfl yhc87) giX6_163 ⟨rfl, rfl⟩ ndX6_depthOf ⟨Nat.le_of_ble_eq_true rfl, Nat.le_of_ble_eq_true rfl⟩ rfl hl.1 rfl (Nat.le_of_ble_eq_true rfl) ⟨Nat.le_refl _, Nat.le_refl _⟩ dX6_about_87) hS (fun H locs hP hS => ?_)
    exact hRet _ _ _ _ _ _ hP hS (z_pair h) dX6_about_90
  have h := z_ifn yk1_3 h
  by_cases yk1_4 : yx1 = (4 : Int32)
  · have h := z_ifp yk1_4 h
    refine lv_tableIn (off := (90)) (tgt := 91) hx hb dX6_about_1 (by rw [yk1_4]; decide) (by rw [yk1_4]; decide) (by rw [yk1_4]; rfl) (by decide) ?_
    refine lv_aload_n hx hb dX6_about_91 rfl (lv_at hl 0 rfl) ?_
    refine gt_X6_2 hx hb hts hown hK hP (hts _ wl_3_136) dX6_about_92 ?_
    refine lv_bipush (v := (82 : Int32)) hx hb dX6_about_95 (by decide) ?_
    refine al_M hx hb hK hP rfl (by decide) (z_li (by decide) : vp_in (82 : Int32) 214) dX6_about_97 ?_
    exact hRet _ _ _ _ _ _ hP hS (z_pair h) dX6_about_98
  have h := z_ifn yk1_4 h
  by_cases yk1_5 : yx1 = (5 : Int32)
  · have h := z_ifp yk1_5 h
    refine lv_tableIn (off := (98)) (tgt := 99) hx hb dX6_about_1 (by rw [yk1_5]; decide) (by rw [yk1_5]; decide) (by rw [yk1_5]; rfl) (by decide) ?_
    refine lv_aload_n hx hb dX6_about_99 rfl (lv_at hl 0 rfl) ?_
    obtain ⟨yr2, yhc100, h⟩ := z_brx h
    refine z_ki (z_rV (As := []) (rest := []) ⟨hx, hb, hml, hown, hts⟩ hK hP w_X6 rfl (kX6_shared hI yhc100) giX6_199 ⟨rfl, rfl⟩ ndX6_shared ⟨Nat.le_of_ble_eq_true rfl, Nat.le_of_ble_eq_true rfl⟩ rfl hl.1 rfl (Nat.le_of_ble_eq_true rfl) ⟨Nat.le_refl _, Nat.le_refl _⟩ dX6_about_100) hS (fun H locs hP hS => ?_)
    exact hRet _ _ _ _ _ _ hP hS (z_pair h) dX6_about_103
  have h := z_ifn yk1_5 h
  by_cases yk1_6 : yx1 = (6 : Int32)
  · have h := z_ifp yk1_6 h
    refine lv_tableIn (off := (103)) (tgt := 104) hx hb dX6_about_1 (by rw [yk1_6]; decide) (by rw [yk1_6]; decide) (by rw [yk1_6]; rfl) (by decide) ?_
    refine lv_aload_n hx hb dX6_about_104 rfl (lv_at hl 0 rfl) ?_
    refine gt_X6_5 hx hb hts hown hK hP (hts _ wl_3_139) dX6_about_105 ?_
    exact hRet _ _ _ _ _ _ hP hS (z_pair h) dX6_about_108
  have h := z_ifn yk1_6 h
  by_cases yk1_7 : yx1 = (7 : Int32)
  · have h := z_ifp yk1_7 h
    refine lv_tableIn (off := (108)) (tgt := 109) hx hb dX6_about_1 (by rw [yk1_7]; decide) (by rw [yk1_7]; decide) (by rw [yk1_7]; rfl) (by decide) ?_
    refine lv_aload_n hx hb dX6_about_109 rfl (lv_at hl 0 rfl) ?_
    refine gt_X6_11 hx hb hts hown hK hP (hts _ wl_3_145) dX6_about_110 ?_
    exact hRet _ _ _ _ _ _ hP hS (z_pair h) dX6_about_113
  have h := z_ifn yk1_7 h
  by_cases yk1_8 : yx1 = (8 : Int32)
  · have h := z_ifp yk1_8 h
    refine lv_tableIn (off := (113)) (tgt := 114) hx hb dX6_about_1 (by rw [yk1_8]; decide) (by rw [yk1_8]; decide) (by rw [yk1_8]; rfl) (by decide) ?_
    refine lv_aload_n hx hb dX6_about_114 rfl (lv_at hl 0 rfl) ?_
    refine gt_X6_1 hx hb hts hown hK hP (hts _ wl_3_135) dX6_about_115 ?_
    exact hRet _ _ _ _ _ _ hP hS (z_pair h) dX6_about_118
  have h := z_ifn yk1_8 h
  refine lv_tableOut (tgt := 119) hx hb dX6_about_1 (by have q0 := lv_neT yk1_0 (a := 0) rfl; have q1 := lv_neT yk1_1 (a := 1) rfl; have q2 := lv_neT yk1_2 (a := 2) rfl; have q3 := lv_neT yk1_3 (a := 3) rfl; have q4 := lv_neT yk1_4 (a := 4) rfl; have q5 := lv_neT yk1_5 (a := 5) rfl; have q6 := lv_neT yk1_6 (a := 6) rfl; have q7 := lv_neT yk1_7 (a := 7) rfl; have q8 := lv_neT yk1_8 (a := 8) rfl; omega) (by decide) ?_
  refine lv_bipush (v := (-2 : Int32)) hx hb dX6_about_119 (by decide) ?_
  exact hRet _ _ _ _ _ _ hP hS (z_pair h) dX6_about_121
noncomputable def fX6_element (yd : Dt) (yx1 : Int32) (yx2 : Int32) : Option Int32 :=
  z_br (fX6_isElement yd yx1) fun yr1 => zif (yr1 = 0) (some (-1 : Int32)) (zif (yx2 = (0 : Int32)) (z_gd (z_in yx1 214) (some (yd.1 2 (z_ix yx1)))) (zif (yx2 = (1 : Int32)) (z_gd (z_in ((20 : Int32) + yx1) 214) (some (yd.1 2 (z_ix ((20 : Int32) + yx1))))) (zif (yx2 = (2 : Int32)) (z_br (fX6_depthOf yd 2 yx1) fun yr2 => some yr2) (zif (yx2 = (3 : Int32)) (z_gd (z_in ((40 : Int32) + yx1) 214) (some (yd.1 2 (z_ix ((40 : Int32) + yx1))))) (zif (yx2 = (4 : Int32)) (z_gd (z_in ((60 : Int32) + yx1) 214) (some (yd.1 2 (z_ix ((60 : Int32) + yx1))))) (zif (yx2 = (5 : Int32)) (z_br (fX6_childNames yd 2 yx1) fun yr3 => some yr3) (some (-2 : Int32))))))))
set_option maxHeartbeats 4000000 in
set_option maxRecDepth 100000 in
theorem kX6_element {l : Launch} {D : va_G} {G : z_G} {ad : Nat → Nat} {A : Nat → Prop} (hI : ∀ d, va_D A (WM G ad d)) {yd : Dt} {yx1 : Int32} {yx2 : Int32}  {rr : Int32} (h : fX6_element yd yx1 yx2 = some rr) : z_Mi l D G A (WM G ad) yX6_element cX6_element 3 (z_rm 2 46) yd [.ref (ad 0), .int yx1, .int yx2] rr yd := by
  refine z_ofi (by decide) (Nat.le_of_ble_eq_true rfl) fun p e s m args below meth c Q hx hb hml hown hts hK hP hRet ls hl => ?_
  have hS : va_S A s.heap s.heap [] := va_S.rf
  have hl : lv_has ls 3 [(0, .ref (ad 0)), (1, .int yx1), (2, .int yx2)] := hl
  have h : (z_br (fX6_isElement yd yx1) fun yr1 => zif (yr1 = 0) (some (-1 : Int32)) (zif (yx2 = (0 : Int32)) (z_gd (z_in yx1 214) (some (yd.1 2 (z_ix yx1)))) (zif (yx2 = (1 : Int32)) (z_gd (z_in ((20 : Int32) + yx1) 214) (some (yd.1 2 (z_ix ((20 : Int32) + yx1))))) (zif (yx2 = (2 : Int32)) (z_br (fX6_depthOf yd 2 yx1) fun yr2 => some yr2) (zif (yx2 = (3 : Int32)) (z_gd (z_in ((40 : Int32) + yx1) 214) (some (yd.1 2 (z_ix ((40 : Int32) + yx1))))) (zif (yx2 = (4 : Int32)) (z_gd (z_in ((60 : Int32) + yx1) 214) (some (yd.1 2 (z_ix ((60 : Int32) + yx1))))) (zif (yx2 = (5 : Int32)) (z_br (fX6_childNames yd 2 yx1) fun yr3 => some yr3) (some (-2 : Int32))))))))) = some rr := h
  refine lv_aload_n hx hb dX6_element_0 rfl (lv_at hl 0 rfl) ?_
  refine lv_iload_n hx hb dX6_element_1 rfl (lv_at hl 1 rfl) ?_
  obtain ⟨yr1, yhc2, h⟩ := z_brx h
  refine z_kz (z_rV (As := [.int yx1]) (rest := []) ⟨hx, hb, hml, hown, hts⟩ hK hP w_X6 rfl (kX6_isElement hI yhc2) giX6_205 ⟨rfl, rfl⟩ ndX6_isElement ⟨Nat.le_of_ble_eq_true rfl, Nat.le_of_ble_eq_true rfl⟩ rfl hl.1 rfl (Nat.le_of_ble_eq_true rfl) ⟨Nat.le_refl _, Nat.le_refl _⟩ dX6_element_2) hS (fun H locs z_yr1 hP hS => ?_)
  refine lv_if_ne (tgt := 10) hx hb dX6_element_5 (by decide) (fun yc5 => ?_) (fun yc5 => ?_)
  · have h := z_ifn yc5 h
    refine lv_iload_n hx hb dX6_element_10 rfl (lv_at hl 2 rfl) ?_
    by_cases yk11_0 : yx2 = (0 : Int32)
    · have h := z_ifp yk11_0 h
      refine lv_tableIn (off := (37)) (tgt := 48) hx hb dX6_element_11 (by rw [yk11_0]; decide) (by rw [yk11_0]; decide) (by rw [yk11_0]; rfl) (by decide) ?_
      refine lv_aload_n hx hb dX6_element_48 rfl (lv_at hl 0 rfl) ?_
      refine gt_X6_2 hx hb hts hown hK hP (hts _ wl_3_136) dX6_element_49 ?_
      refine lv_iload_n hx hb dX6_element_52 rfl (lv_at hl 1 rfl) ?_
      obtain ⟨yg53, h⟩ := z_gi h
      refine al_M hx hb hK hP rfl (by decide) yg53 dX6_element_53 ?_
      exact hRet _ _ _ _ _ _ hP hS (z_pair h) dX6_element_54
    have h := z_ifn yk11_0 h
    by_cases yk11_1 : yx2 = (1 : Int32)
    · have h := z_ifp yk11_1 h
      refine lv_tableIn (off := (44)) (tgt := 55) hx hb dX6_element_11 (by rw [yk11_1]; decide) (by rw [yk11_1]; decide) (by rw [yk11_1]; rfl) (by decide) ?_
      refine lv_aload_n hx hb dX6_element_55 rfl (lv_at hl 0 rfl) ?_
      refine gt_X6_2 hx hb hts hown hK hP (hts _ wl_3_136) dX6_element_56 ?_
      refine lv_bipush (v := (20 : Int32)) hx hb dX6_element_59 (by decide) ?_
      refine lv_iload_n hx hb dX6_element_61 rfl (lv_at hl 1 rfl) ?_
      refine lv_iadd hx hb dX6_element_62 ?_
      obtain ⟨yg63, h⟩ := z_gi h
      refine al_M hx hb hK hP rfl (by decide) yg63 dX6_element_63 ?_
      exact hRet _ _ _ _ _ _ hP hS (z_pair h) dX6_element_64
    have h := z_ifn yk11_1 h
    by_cases yk11_2 : yx2 = (2 : Int32)
    · have h := z_ifp yk11_2 h
      refine lv_tableIn (off := (54)) (tgt := 65) hx hb dX6_element_11 (by rw [yk11_2]; decide) (by rw [yk11_2]; decide) (by rw [yk11_2]; rfl) (by decide) ?_
      refine lv_aload_n hx hb dX6_element_65 rfl (lv_at hl 0 rfl) ?_
      refine gt_X6_2 hx hb hts hown hK hP (hts _ wl_3_136) dX6_element_66 ?_
      refine lv_iload_n hx hb dX6_element_69 rfl (lv_at hl 1 rfl) ?_
      obtain ⟨yr2, yhc70, h⟩ := z_brx h
      refine z_ki (z_rS (As := [.ref (ad 2), .int yx1]) (rest := []) ⟨hx, hb, hml, hown, hts⟩ hK hP (kX6_depthOf hI rfl yhc70) giX6_163 ⟨rfl, rfl⟩ ndX6_depthOf ⟨Nat.le_of_ble_eq_true rfl, Nat.le_of_ble_eq_true rfl⟩ rfl hl.1 rfl (Nat.le_of_ble_eq_true rfl) ⟨Nat.le_refl _, Nat.le_refl _⟩ dX6_element_70) hS (fun H locs hP hS => ?_)
      exact hRet _ _ _ _ _ _ hP hS (z_pair h) dX6_element_73
    have h := z_ifn yk11_2 h
    by_cases yk11_3 : yx2 = (3 : Int32)
    · have h := z_ifp yk11_3 h
      refine lv_tableIn (off := (63)) (tgt := 74) hx hb dX6_element_11 (by rw [yk11_3]; decide) (by rw [yk11_3]; decide) (by rw [yk11_3]; rfl) (by decide) ?_
      refine lv_aload_n hx hb dX6_element_74 rfl (lv_at hl 0 rfl) ?_
      refine gt_X6_2 hx hb hts hown hK hP (hts _ wl_3_136) dX6_element_75 ?_
      refine lv_bipush (v := (40 : Int32)) hx hb dX6_element_78 (by decide) ?_
      refine lv_iload_n hx hb dX6_element_80 rfl (lv_at hl 1 rfl) ?_
      refine lv_iadd hx hb dX6_element_81 ?_
      obtain ⟨yg82, h⟩ := z_gi h
      refine al_M hx hb hK hP rfl (by decide) yg82 dX6_element_82 ?_
      exact hRet _ _ _ _ _ _ hP hS (z_pair h) dX6_element_83
    have h := z_ifn yk11_3 h
    by_cases yk11_4 : yx2 = (4 : Int32)
    · have h := z_ifp yk11_4 h
      refine lv_tableIn (off := (73)) (tgt := 84) hx hb dX6_element_11 (by rw [yk11_4]; decide) (by rw [yk11_4]; decide) (by rw [yk11_4]; rfl) (by decide) ?_
      refine lv_aload_n hx hb dX6_element_84 rfl (lv_at hl 0 rfl) ?_
      refine gt_X6_2 hx hb hts hown hK hP (hts _ wl_3_136) dX6_element_85 ?_
      refine lv_bipush (v := (60 : Int32)) hx hb dX6_element_88 (by decide) ?_
      refine lv_iload_n hx hb dX6_element_90 rfl (lv_at hl 1 rfl) ?_
      refine lv_iadd hx hb dX6_element_91 ?_
      obtain ⟨yg92, h⟩ := z_gi h
      refine al_M hx hb hK hP rfl (by decide) yg92 dX6_element_92 ?_
      exact hRet _ _ _ _ _ _ hP hS (z_pair h) dX6_element_93
    have h := z_ifn yk11_4 h
    by_cases yk11_5 : yx2 = (5 : Int32)
    · have h := z_ifp yk11_5 h
      refine lv_tableIn (off := (83)) (tgt := 94) hx hb dX6_element_11 (by rw [yk11_5]; decide) (by rw [yk11_5]; decide) (by rw [yk11_5]; rfl) (by decide) ?_
      refine lv_aload_n hx hb dX6_element_94 rfl (lv_at hl 0 rfl) ?_
      refine gt_X6_2 hx hb hts hown hK hP (hts _ wl_3_136) dX6_element_95 ?_
      refine lv_iload_n hx hb dX6_element_98 rfl (lv_at hl 1 rfl) ?_
      obtain ⟨yr3, yhc99, h⟩ := z_brx h
      refine z_ki (z_rS (As := [.ref (ad 2), .int yx1]) (rest := []) ⟨hx, hb, hml, hown, hts⟩ hK hP (kX6_childNames hI rfl yhc99) giX6_118 ⟨rfl, rfl⟩ ndX6_childNames ⟨Nat.le_of_ble_eq_true rfl, Nat.le_of_ble_eq_true rfl⟩ rfl hl.1 rfl (Nat.le_of_ble_eq_true rfl) ⟨Nat.le_refl _, Nat.le_refl _⟩ dX6_element_99) hS (fun H locs hP hS => ?_)
      exact hRet _ _ _ _ _ _ hP hS (z_pair h) dX6_element_102
    have h := z_ifn yk11_5 h
    refine lv_tableOut (tgt := 103) hx hb dX6_element_11 (by have q0 := lv_neT yk11_0 (a := 0) rfl; have q1 := lv_neT yk11_1 (a := 1) rfl; have q2 := lv_neT yk11_2 (a := 2) rfl; have q3 := lv_neT yk11_3 (a := 3) rfl; have q4 := lv_neT yk11_4 (a := 4) rfl; have q5 := lv_neT yk11_5 (a := 5) rfl; omega) (by decide) ?_
    refine lv_bipush (v := (-2 : Int32)) hx hb dX6_element_103 (by decide) ?_
    exact hRet _ _ _ _ _ _ hP hS (z_pair h) dX6_element_105
  · have h := z_ifp yc5 h
    refine lv_iconst (v := (-1 : Int32)) hx hb dX6_element_8 (by decide) ?_
    exact hRet _ _ _ _ _ _ hP hS (z_pair h) dX6_element_9
noncomputable def bX6_path_132 (s : Dt) : Option ((Dt) ⊕ (Dt)) := match s with
  | yd14 => zif ((yd14.1 3 (z_ix (81 : Int32))) = (-9 : Int32)) (some (.inr yd14)) (z_bd (fX6_closeOn yd14 3) fun yr15 yd16 => some (.inl yd16))
noncomputable def fX6_path (yd : Dt) (yx1 : Int32) (yx2 : Int32) : Option (Int32 × Dt) :=
  z_br (fX6_isPath yd yx1) fun yr1 => zif (yr1 = 0) (some ((-1 : Int32), yd)) (zif (yx2 = (0 : Int32)) (z_gd (z_in ((84 : Int32) + yx1) 214) (some ((yd.1 2 (z_ix ((84 : Int32) + yx1))), yd))) (zif (yx2 = (1 : Int32)) (z_bd (fX6_answersOf yd 2 yx1) fun yr2 yd3 => z_br (fX6_ones yr2) fun yr4 => some (yr4, yd3)) (zif (yx2 = (2 : Int32)) (z_bd (fX6_outOf yd 2 yx1) fun yr5 yd6 => z_br (fX6_ones yr5) fun yr7 => some (yr7, yd6)) (zif (yx2 = (3 : Int32)) (z_bd (fX6_heldOf yd 2 yx1) fun yr8 yd9 => some (yr8, yd9)) (zif (yx2 = (4 : Int32)) (z_gd (z_in ((109 : Int32) + yx1) 214) (some ((yd.1 2 (z_ix ((109 : Int32) + yx1))), yd))) (zif (yx2 = (5 : Int32)) (z_bd (fX6_doubtsOf yd 2 yx1) fun yr10 yd11 => z_br (fX6_ones yr10) fun yr12 => some (yr12, yd11)) (zif (yx2 = (6 : Int32)) (z_br (fX6_copy yd 2 3) fun yd13 => z_br (z_lp (bX6_path_132) yd13) (fun t => match t with | yd17 => z_bd (fX6_outOf yd17 3 yx1) fun yr18 yd19 => z_br (fX6_ones yr18) fun yr20 => some (yr20, yd19))) (some ((-2 : Int32), yd)))))))))
set_option maxHeartbeats 4000000 in
set_option maxRecDepth 100000 in
theorem kX6_path {l : Launch} {D : va_G} {G : z_G} {ad : Nat → Nat} {A : Nat → Prop} (hI : ∀ d, va_D A (WM G ad d)) {yd : Dt} {yx1 : Int32} {yx2 : Int32}  {rr : Int32} {dd : Dt} (h : fX6_path yd yx1 yx2 = some (rr, dd)) : z_Mi l D G A (WM G ad) yX6_path cX6_path 4 (z_rm 11 274) yd [.ref (ad 0), .int yx1, .int yx2] rr dd := by
  refine z_ofi (by decide) (Nat.le_of_ble_eq_true rfl) fun p e s m args below meth c Q hx hb hml hown hts hK hP hRet ls hl => ?_
  have hS : va_S A s.heap s.heap [] := va_S.rf
  have hl : lv_has ls 4 [(0, .ref (ad 0)), (1, .int yx1), (2, .int yx2)] := hl
  have h : (z_br (fX6_isPath yd yx1) fun yr1 => zif (yr1 = 0) (some ((-1 : Int32), yd)) (zif (yx2 = (0 : Int32)) (z_gd (z_in ((84 : Int32) + yx1) 214) (some ((yd.1 2 (z_ix ((84 : Int32) + yx1))), yd))) (zif (yx2 = (1 : Int32)) (z_bd (fX6_answersOf yd 2 yx1) fun yr2 yd3 => z_br (fX6_ones yr2) fun yr4 => some (yr4, yd3)) (zif (yx2 = (2 : Int32)) (z_bd (fX6_outOf yd 2 yx1) fun yr5 yd6 => z_br (fX6_ones yr5) fun yr7 => some (yr7, yd6)) (zif (yx2 = (3 : Int32)) (z_bd (fX6_heldOf yd 2 yx1) fun yr8 yd9 => some (yr8, yd9)) (zif (yx2 = (4 : Int32)) (z_gd (z_in ((109 : Int32) + yx1) 214) (some ((yd.1 2 (z_ix ((109 : Int32) + yx1))), yd))) (zif (yx2 = (5 : Int32)) (z_bd (fX6_doubtsOf yd 2 yx1) fun yr10 yd11 => z_br (fX6_ones yr10) fun yr12 => some (yr12, yd11)) (zif (yx2 = (6 : Int32)) (z_br (fX6_copy yd 2 3) fun yd13 => z_br (z_lp (bX6_path_132) yd13) (fun t => match t with | yd17 => z_bd (fX6_outOf yd17 3 yx1) fun yr18 yd19 => z_br (fX6_ones yr18) fun yr20 => some (yr20, yd19))) (some ((-2 : Int32), yd)))))))))) = some (rr, dd) := h
  refine lv_aload_n hx hb dX6_path_0 rfl (lv_at hl 0 rfl) ?_
  refine lv_iload_n hx hb dX6_path_1 rfl (lv_at hl 1 rfl) ?_
  obtain ⟨yr1, yhc2, h⟩ := z_brx h
  refine z_kz (z_rV (As := [.int yx1]) (rest := []) ⟨hx, hb, hml, hown, hts⟩ hK hP w_X6 rfl (kX6_isPath hI yhc2) giX6_208 ⟨rfl, rfl⟩ ndX6_isPath ⟨Nat.le_of_ble_eq_true rfl, Nat.le_of_ble_eq_true rfl⟩ rfl hl.1 rfl (Nat.le_of_ble_eq_true rfl) ⟨Nat.le_refl _, Nat.le_refl _⟩ dX6_path_2) hS (fun H locs z_yr1 hP hS => ?_)
  refine lv_if_ne (tgt := 10) hx hb dX6_path_5 (by decide) (fun yc5 => ?_) (fun yc5 => ?_)
  · have h := z_ifn yc5 h
    refine lv_iload_n hx hb dX6_path_10 rfl (lv_at hl 2 rfl) ?_
    by_cases yk11_0 : yx2 = (0 : Int32)
    · have h := z_ifp yk11_0 h
      refine lv_tableIn (off := (41)) (tgt := 52) hx hb dX6_path_11 (by rw [yk11_0]; decide) (by rw [yk11_0]; decide) (by rw [yk11_0]; rfl) (by decide) ?_
      refine lv_aload_n hx hb dX6_path_52 rfl (lv_at hl 0 rfl) ?_
      refine gt_X6_2 hx hb hts hown hK hP (hts _ wl_3_136) dX6_path_53 ?_
      refine lv_bipush (v := (84 : Int32)) hx hb dX6_path_56 (by decide) ?_
      refine lv_iload_n hx hb dX6_path_58 rfl (lv_at hl 1 rfl) ?_
      refine lv_iadd hx hb dX6_path_59 ?_
      obtain ⟨yg60, h⟩ := z_gi h
      refine al_M hx hb hK hP rfl (by decide) yg60 dX6_path_60 ?_
      exact hRet _ _ _ _ _ _ hP hS h dX6_path_61
    have h := z_ifn yk11_0 h
    by_cases yk11_1 : yx2 = (1 : Int32)
    · have h := z_ifp yk11_1 h
      refine lv_tableIn (off := (51)) (tgt := 62) hx hb dX6_path_11 (by rw [yk11_1]; decide) (by rw [yk11_1]; decide) (by rw [yk11_1]; rfl) (by decide) ?_
      refine lv_aload_n hx hb dX6_path_62 rfl (lv_at hl 0 rfl) ?_
      refine lv_aload_n hx hb dX6_path_63 rfl (lv_at hl 0 rfl) ?_
      refine gt_X6_2 hx hb hts hown hK hP (hts _ wl_3_136) dX6_path_64 ?_
      refine lv_iload_n hx hb dX6_path_67 rfl (lv_at hl 1 rfl) ?_
      obtain ⟨yr2, yd3, yhc68, h⟩ := z_bdx h
      refine z_ki (z_rV (As := [.ref (ad 2), .int yx1]) (rest := []) ⟨hx, hb, hml, hown, hts⟩ hK hP w_X6 rfl (kX6_answersOf hI rfl yhc68) giX6_144 ⟨rfl, rfl⟩ ndX6_answersOf ⟨Nat.le_of_ble_eq_true rfl, Nat.le_of_ble_eq_true rfl⟩ rfl hl.1 rfl (Nat.le_of_ble_eq_true rfl) ⟨Nat.le_refl _, Nat.le_refl _⟩ dX6_path_68) hS (fun H locs hP hS => ?_)
      obtain ⟨yr4, yhc71, h⟩ := z_brx h
      refine z_ki (z_rS (As := [.int yr2]) (rest := []) ⟨hx, hb, hml, hown, hts⟩ hK hP (kX6_ones yhc71) giX6_153 ⟨rfl, rfl⟩ ndX6_ones ⟨Nat.le_of_ble_eq_true rfl, Nat.le_of_ble_eq_true rfl⟩ rfl hl.1 rfl (Nat.le_of_ble_eq_true rfl) ⟨Nat.le_refl _, Nat.le_refl _⟩ dX6_path_71) hS (fun H locs hP hS => ?_)
      exact hRet _ _ _ _ _ _ hP hS h dX6_path_74
    have h := z_ifn yk11_1 h
    by_cases yk11_2 : yx2 = (2 : Int32)
    · have h := z_ifp yk11_2 h
      refine lv_tableIn (off := (64)) (tgt := 75) hx hb dX6_path_11 (by rw [yk11_2]; decide) (by rw [yk11_2]; decide) (by rw [yk11_2]; rfl) (by decide) ?_
      refine lv_aload_n hx hb dX6_path_75 rfl (lv_at hl 0 rfl) ?_
      refine lv_aload_n hx hb dX6_path_76 rfl (lv_at hl 0 rfl) ?_
      refine gt_X6_2 hx hb hts hown hK hP (hts _ wl_3_136) dX6_path_77 ?_
      refine lv_iload_n hx hb dX6_path_80 rfl (lv_at hl 1 rfl) ?_
      obtain ⟨yr5, yd6, yhc81, h⟩ := z_bdx h
      refine z_ki (z_rV (As := [.ref (ad 2), .int yx1]) (rest := []) ⟨hx, hb, hml, hown, hts⟩ hK hP w_X6 rfl (kX6_outOf hI rfl yhc81) giX6_150 ⟨rfl, rfl⟩ ndX6_outOf ⟨Nat.le_of_ble_eq_true rfl, Nat.le_of_ble_eq_true rfl⟩ rfl hl.1 rfl (Nat.le_of_ble_eq_true rfl) ⟨Nat.le_refl _, Nat.le_refl _⟩ dX6_path_81) hS (fun H locs hP hS => ?_)
      obtain ⟨yr7, yhc84, h⟩ := z_brx h
      refine z_ki (z_rS (As := [.int yr5]) (rest := []) ⟨hx, hb, hml, hown, hts⟩ hK hP (kX6_ones yhc84) giX6_153 ⟨rfl, rfl⟩ ndX6_ones ⟨Nat.le_of_ble_eq_true rfl, Nat.le_of_ble_eq_true rfl⟩ rfl hl.1 rfl (Nat.le_of_ble_eq_true rfl) ⟨Nat.le_refl _, Nat.le_refl _⟩ dX6_path_84) hS (fun H locs hP hS => ?_)
      exact hRet _ _ _ _ _ _ hP hS h dX6_path_87
    have h := z_ifn yk11_2 h
    by_cases yk11_3 : yx2 = (3 : Int32)
    · have h := z_ifp yk11_3 h
      refine lv_tableIn (off := (77)) (tgt := 88) hx hb dX6_path_11 (by rw [yk11_3]; decide) (by rw [yk11_3]; decide) (by rw [yk11_3]; rfl) (by decide) ?_
      refine lv_aload_n hx hb dX6_path_88 rfl (lv_at hl 0 rfl) ?_
      refine lv_aload_n hx hb dX6_path_89 rfl (lv_at hl 0 rfl) ?_
      refine gt_X6_2 hx hb hts hown hK hP (hts _ wl_3_136) dX6_path_90 ?_
      refine lv_iload_n hx hb dX6_path_93 rfl (lv_at hl 1 rfl) ?_
      obtain ⟨yr8, yd9, yhc94, h⟩ := z_bdx h
      refine z_ki (z_rV (As := [.ref (ad 2), .int yx1]) (rest := []) ⟨hx, hb, hml, hown, hts⟩ hK hP w_X6 rfl (kX6_heldOf hI rfl yhc94) giX6_157 ⟨rfl, rfl⟩ ndX6_heldOf ⟨Nat.le_of_ble_eq_true rfl, Nat.le_of_ble_eq_true rfl⟩ rfl hl.1 rfl (Nat.le_of_ble_eq_true rfl) ⟨Nat.le_refl _, Nat.le_refl _⟩ dX6_path_94) hS (fun H locs hP hS => ?_)
      exact hRet _ _ _ _ _ _ hP hS h dX6_path_97
    have h := z_ifn yk11_3 h
    by_cases yk11_4 : yx2 = (4 : Int32)
    · have h := z_ifp yk11_4 h
      refine lv_tableIn (off := (87)) (tgt := 98) hx hb dX6_path_11 (by rw [yk11_4]; decide) (by rw [yk11_4]; decide) (by rw [yk11_4]; rfl) (by decide) ?_
      refine lv_aload_n hx hb dX6_path_98 rfl (lv_at hl 0 rfl) ?_
      refine gt_X6_2 hx hb hts hown hK hP (hts _ wl_3_136) dX6_path_99 ?_
      refine lv_bipush (v := (109 : Int32)) hx hb dX6_path_102 (by decide) ?_
      refine lv_iload_n hx hb dX6_path_104 rfl (lv_at hl 1 rfl) ?_
      refine lv_iadd hx hb dX6_path_105 ?_
      obtain ⟨yg106, h⟩ := z_gi h
      refine al_M hx hb hK hP rfl (by decide) yg106 dX6_path_106 ?_
      exact hRet _ _ _ _ _ _ hP hS h dX6_path_107
    have h := z_ifn yk11_4 h
    by_cases yk11_5 : yx2 = (5 : Int32)
    · have h := z_ifp yk11_5 h
      refine lv_tableIn (off := (97)) (tgt := 108) hx hb dX6_path_11 (by rw [yk11_5]; decide) (by rw [yk11_5]; decide) (by rw [yk11_5]; rfl) (by decide) ?_
      refine lv_aload_n hx hb dX6_path_108 rfl (lv_at hl 0 rfl) ?_
      refine lv_aload_n hx hb dX6_path_109 rfl (lv_at hl 0 rfl) ?_
      refine gt_X6_2 hx hb hts hown hK hP (hts _ wl_3_136) dX6_path_110 ?_
      refine lv_iload_n hx hb dX6_path_113 rfl (lv_at hl 1 rfl) ?_
      obtain ⟨yr10, yd11, yhc114, h⟩ := z_bdx h
      refine z_ki (z_rV (As := [.ref (ad 2), .int yx1]) (rest := []) ⟨hx, hb, hml, hown, hts⟩ hK hP w_X6 rfl (kX6_doubtsOf hI rfl yhc114) giX6_147 ⟨rfl, rfl⟩ ndX6_doubtsOf ⟨Nat.le_of_ble_eq_true rfl, Nat.le_of_ble_eq_true rfl⟩ rfl hl.1 rfl (Nat.le_of_ble_eq_true rfl) ⟨Nat.le_refl _, Nat.le_refl _⟩ dX6_path_114) hS (fun H locs hP hS => ?_)
      obtain ⟨yr12, yhc117, h⟩ := z_brx h
      refine z_ki (z_rS (As := [.int yr10]) (rest := []) ⟨hx, hb, hml, hown, hts⟩ hK hP (kX6_ones yhc117) giX6_153 ⟨rfl, rfl⟩ ndX6_ones ⟨Nat.le_of_ble_eq_true rfl, Nat.le_of_ble_eq_true rfl⟩ rfl hl.1 rfl (Nat.le_of_ble_eq_true rfl) ⟨Nat.le_refl _, Nat.le_refl _⟩ dX6_path_117) hS (fun H locs hP hS => ?_)
      exact hRet _ _ _ _ _ _ hP hS h dX6_path_120
    have h := z_ifn yk11_5 h
    by_cases yk11_6 : yx2 = (6 : Int32)
    · have h := z_ifp yk11_6 h
      refine lv_tableIn (off := (110)) (tgt := 121) hx hb dX6_path_11 (by rw [yk11_6]; decide) (by rw [yk11_6]; decide) (by rw [yk11_6]; rfl) (by decide) ?_
      refine lv_aload_n hx hb dX6_path_121 rfl (lv_at hl 0 rfl) ?_
      refine gt_X6_2 hx hb hts hown hK hP (hts _ wl_3_136) dX6_path_122 ?_
      refine lv_aload_n hx hb dX6_path_125 rfl (lv_at hl 0 rfl) ?_
      refine gt_X6_3 hx hb hts hown hK hP (hts _ wl_3_137) dX6_path_126 ?_
      obtain ⟨yd13, yhc129, h⟩ := z_brx h
      refine z_kv (z_rS (As := [.ref (ad 2), .ref (ad 3)]) (rest := []) ⟨hx, hb, hml, hown, hts⟩ hK hP (kX6_copy hI rfl rfl yhc129) giX6_211 ⟨rfl, rfl⟩ ndX6_copy ⟨Nat.le_of_ble_eq_true rfl, Nat.le_of_ble_eq_true rfl⟩ rfl hl.1 rfl (Nat.le_of_ble_eq_true rfl) ⟨Nat.le_refl _, Nat.le_refl _⟩ dX6_path_129) hS (fun H locs hP hS => ?_)
      obtain ⟨yt132, hlp, h⟩ := z_brx h
      obtain ⟨yn132, hlp⟩ := z_lpx hlp
      have hE156 : ∀ (yd17 : Dt) (H : Heap) (locs : List Loc) (ls : Array Slot), yd17 = yt132 → va_P D vwCl (WM G ad yd17) H → va_S A s.heap H locs → lv_has ls 4 [(0, .ref (ad 0)), (1, .int yx1)] → W p l e (z_rm 11 274) s m args below meth c H locs 0 0 Q (F0 m 156 ls []) := by
        intro yd17 H locs ls et hP hS hl
        subst et
        have h : (z_bd (fX6_outOf yd17 3 yx1) fun yr18 yd19 => z_br (fX6_ones yr18) fun yr20 => some (yr20, yd19)) = some (rr, dd) := h
        refine lv_aload_n hx hb dX6_path_156 rfl (lv_at hl 0 rfl) ?_
        refine lv_aload_n hx hb dX6_path_157 rfl (lv_at hl 0 rfl) ?_
        refine gt_X6_3 hx hb hts hown hK hP (hts _ wl_3_137) dX6_path_158 ?_
        refine lv_iload_n hx hb dX6_path_161 rfl (lv_at hl 1 rfl) ?_
        obtain ⟨yr18, yd19, yhc162, h⟩ := z_bdx h
        refine z_ki (z_rV (As := [.ref (ad 3), .int yx1]) (rest := []) ⟨hx, hb, hml, hown, hts⟩ hK hP w_X6 rfl (kX6_outOf hI rfl yhc162) giX6_150 ⟨rfl, rfl⟩ ndX6_outOf ⟨Nat.le_of_ble_eq_true rfl, Nat.le_of_ble_eq_true rfl⟩ rfl hl.1 rfl (Nat.le_of_ble_eq_true rfl) ⟨Nat.le_refl _, Nat.le_refl _⟩ dX6_path_162) hS (fun H locs hP hS => ?_)
        obtain ⟨yr20, yhc165, h⟩ := z_brx h
        refine z_ki (z_rS (As := [.int yr18]) (rest := []) ⟨hx, hb, hml, hown, hts⟩ hK hP (kX6_ones yhc165) giX6_153 ⟨rfl, rfl⟩ ndX6_ones ⟨Nat.le_of_ble_eq_true rfl, Nat.le_of_ble_eq_true rfl⟩ rfl hl.1 rfl (Nat.le_of_ble_eq_true rfl) ⟨Nat.le_refl _, Nat.le_refl _⟩ dX6_path_165) hS (fun H locs hP hS => ?_)
        exact hRet _ _ _ _ _ _ hP hS h dX6_path_168
      have hL132 : ∀ (n : Nat) (yd14 : Dt) (H : Heap) (locs : List Loc) (ls : Array Slot), z_it (bX6_path_132) n yd14 = some yt132 → va_P D vwCl (WM G ad yd14) H → va_S A s.heap H locs → lv_has ls 4 [(0, .ref (ad 0)), (1, .int yx1)] → W p l e (z_rm 11 274) s m args below meth c H locs 0 0 Q (F0 m 132 ls []) := by
        intro n
        induction n with
        | zero => intro yd14 H locs ls hn; exact z_it0 hn
        | succ n ih =>
          intro yd14 H locs ls hn hP hS hl
          obtain ⟨yq132, h, hq1, hq2⟩ := z_itx hn
          have h : (zif ((yd14.1 3 (z_ix (81 : Int32))) = (-9 : Int32)) (some (.inr yd14)) (z_bd (fX6_closeOn yd14 3) fun yr15 yd16 => some (.inl yd16))) = some yq132 := h
          refine lv_aload_n hx hb dX6_path_132 rfl (lv_at hl 0 rfl) ?_
          refine gt_X6_3 hx hb hts hown hK hP (hts _ wl_3_137) dX6_path_133 ?_
          refine lv_bipush (v := (81 : Int32)) hx hb dX6_path_136 (by decide) ?_
          refine al_M hx hb hK hP rfl (by decide) (z_li (by decide) : vp_in (81 : Int32) 214) dX6_path_138 ?_
          refine lv_bipush (v := (-9 : Int32)) hx hb dX6_path_139 (by decide) ?_
          refine lv_icmp_eq (tgt := 156) hx hb dX6_path_141 (by decide) (fun yc141 => ?_) (fun yc141 => ?_)
          · have h := z_ifp yc141 h
            exact hE156 _ _ _ _ (hq2 _ (z_sm h).symm) hP hS (lv_sub hl [0, 1] rfl)
          · have h := z_ifn yc141 h
            refine lv_aload_n hx hb dX6_path_144 rfl (lv_at hl 0 rfl) ?_
            refine lv_aload_n hx hb dX6_path_145 rfl (lv_at hl 0 rfl) ?_
            refine gt_X6_3 hx hb hts hown hK hP (hts _ wl_3_137) dX6_path_146 ?_
            obtain ⟨yr15, yd16, yhc149, h⟩ := z_bdx h
            refine z_ki (z_rV (As := [.ref (ad 3)]) (rest := []) ⟨hx, hb, hml, hown, hts⟩ hK hP w_X6 rfl (kX6_closeOn hI rfl yhc149) giX6_178 ⟨rfl, rfl⟩ ndX6_closeOn ⟨Nat.le_of_ble_eq_true rfl, Nat.le_of_ble_eq_true rfl⟩ rfl hl.1 rfl (Nat.le_of_ble_eq_true rfl) ⟨Nat.le_refl _, Nat.le_refl _⟩ dX6_path_149) hS (fun H locs hP hS => ?_)
            refine lv_istore_n (lv' := [(3, .int yr15), (0, .ref (ad 0)), (1, .int yx1)]) hx hb dX6_path_152 rfl hl (by decide) rfl (fun ls hl => ?_)
            refine lv_goto (tgt := 132) hx hb dX6_path_153 (by decide) ?_
            exact ih _ _ _ _ (hq1 _ (z_sm h).symm) hP hS (lv_sub hl [1, 2] rfl)
      exact hL132 yn132 _ _ _ _ hlp hP hS (lv_sub hl [0, 1] rfl)
    have h := z_ifn yk11_6 h
    refine lv_tableOut (tgt := 169) hx hb dX6_path_11 (by have q0 := lv_neT yk11_0 (a := 0) rfl; have q1 := lv_neT yk11_1 (a := 1) rfl; have q2 := lv_neT yk11_2 (a := 2) rfl; have q3 := lv_neT yk11_3 (a := 3) rfl; have q4 := lv_neT yk11_4 (a := 4) rfl; have q5 := lv_neT yk11_5 (a := 5) rfl; have q6 := lv_neT yk11_6 (a := 6) rfl; omega) (by decide) ?_
    refine lv_bipush (v := (-2 : Int32)) hx hb dX6_path_169 (by decide) ?_
    exact hRet _ _ _ _ _ _ hP hS h dX6_path_171
  · have h := z_ifp yc5 h
    refine lv_iconst (v := (-1 : Int32)) hx hb dX6_path_8 (by decide) ?_
    exact hRet _ _ _ _ _ _ hP hS h dX6_path_9
noncomputable def fX6_step (yd : Dt) (yx1 : Int32) (yx2 : Int32) : Option Int32 :=
  z_br (fX6_isPath yd yx1) fun yr1 => zif (yr1 = 0) (some (-1 : Int32)) (z_gd (z_in ((84 : Int32) + yx1) 214) (z_br (fX6_in (yx2.toInt64) (0 : Int64) (((yd.1 2 (z_ix ((84 : Int32) + yx1))) - (1 : Int32)).toInt64)) fun yr2 => zif (yr2 = 0) (some (-1 : Int32)) (z_gd (z_in (((89 : Int32) + ((4 : Int32) * yx1)) + yx2) 214) (some (yd.1 2 (z_ix (((89 : Int32) + ((4 : Int32) * yx1)) + yx2)))))))
set_option maxHeartbeats 4000000 in
set_option maxRecDepth 100000 in
theorem kX6_step {l : Launch} {D : va_G} {G : z_G} {ad : Nat → Nat} {A : Nat → Prop} (hI : ∀ d, va_D A (WM G ad d)) {yd : Dt} {yx1 : Int32} {yx2 : Int32}  {rr : Int32} (h : fX6_step yd yx1 yx2 = some rr) : z_Mi l D G A (WM G ad) yX6_step cX6_step 3 (z_rm 2 46) yd [.ref (ad 0), .int yx1, .int yx2] rr yd := by
  refine z_ofi (by decide) (Nat.le_of_ble_eq_true rfl) fun p e s m args below meth c Q hx hb hml hown hts hK hP hRet ls hl => ?_
  have hS : va_S A s.heap s.heap [] := va_S.rf
  have hl : lv_has ls 3 [(0, .ref (ad 0)), (1, .int yx1), (2, .int yx2)] := hl
  have h : (z_br (fX6_isPath yd yx1) fun yr1 => zif (yr1 = 0) (some (-1 : Int32)) (z_gd (z_in ((84 : Int32) + yx1) 214) (z_br (fX6_in (yx2.toInt64) (0 : Int64) (((yd.1 2 (z_ix ((84 : Int32) + yx1))) - (1 : Int32)).toInt64)) fun yr2 => zif (yr2 = 0) (some (-1 : Int32)) (z_gd (z_in (((89 : Int32) + ((4 : Int32) * yx1)) + yx2) 214) (some (yd.1 2 (z_ix (((89 : Int32) + ((4 : Int32) * yx1)) + yx2)))))))) = some rr := h
  refine lv_aload_n hx hb dX6_step_0 rfl (lv_at hl 0 rfl) ?_
  refine lv_iload_n hx hb dX6_step_1 rfl (lv_at hl 1 rfl) ?_
  obtain ⟨yr1, yhc2, h⟩ := z_brx h
  refine z_kz (z_rV (As := [.int yx1]) (rest := []) ⟨hx, hb, hml, hown, hts⟩ hK hP w_X6 rfl (kX6_isPath hI yhc2) giX6_208 ⟨rfl, rfl⟩ ndX6_isPath ⟨Nat.le_of_ble_eq_true rfl, Nat.le_of_ble_eq_true rfl⟩ rfl hl.1 rfl (Nat.le_of_ble_eq_true rfl) ⟨Nat.le_refl _, Nat.le_refl _⟩ dX6_step_2) hS (fun H locs z_yr1 hP hS => ?_)
  refine lv_if_eq (tgt := 45) hx hb dX6_step_5 (by decide) (fun yc5 => ?_) (fun yc5 => ?_)
  · have h := z_ifp yc5 h
    refine lv_iconst (v := (-1 : Int32)) hx hb dX6_step_45 (by decide) ?_
    exact hRet _ _ _ _ _ _ hP hS (z_pair h) dX6_step_46
  · have h := z_ifn yc5 h
    refine lv_iload_n hx hb dX6_step_8 rfl (lv_at hl 2 rfl) ?_
    refine lv_i2l (v := yx2.toInt64) hx hb dX6_step_9 rfl ?_
    refine lv_lconst (v := (0 : Int64)) hx hb dX6_step_10 (by decide) ?_
    refine lv_aload_n hx hb dX6_step_11 rfl (lv_at hl 0 rfl) ?_
    refine gt_X6_2 hx hb hts hown hK hP (hts _ wl_3_136) dX6_step_12 ?_
    refine lv_bipush (v := (84 : Int32)) hx hb dX6_step_15 (by decide) ?_
    refine lv_iload_n hx hb dX6_step_17 rfl (lv_at hl 1 rfl) ?_
    refine lv_iadd hx hb dX6_step_18 ?_
    obtain ⟨yg19, h⟩ := z_gi h
    refine al_M hx hb hK hP rfl (by decide) yg19 dX6_step_19 ?_
    refine lv_iconst (v := (1 : Int32)) hx hb dX6_step_20 (by decide) ?_
    refine lv_isub hx hb dX6_step_21 ?_
    refine lv_i2l (v := ((yd.1 2 (z_ix ((84 : Int32) + yx1))) - (1 : Int32)).toInt64) hx hb dX6_step_22 rfl ?_
    obtain ⟨yr2, yhc23, h⟩ := z_brx h
    refine z_kz (z_rS (As := [.long (yx2.toInt64), .long (0 : Int64), .long (((yd.1 2 (z_ix ((84 : Int32) + yx1))) - (1 : Int32)).toInt64)]) (rest := []) ⟨hx, hb, hml, hown, hts⟩ hK hP (kX6_in yhc23) giX6_64 ⟨rfl, rfl⟩ ndX6_in ⟨Nat.le_of_ble_eq_true rfl, Nat.le_of_ble_eq_true rfl⟩ rfl hl.1 rfl (Nat.le_of_ble_eq_true rfl) ⟨Nat.le_refl _, Nat.le_refl _⟩ dX6_step_23) hS (fun H locs z_yr2 hP hS => ?_)
    refine lv_if_eq (tgt := 45) hx hb dX6_step_26 (by decide) (fun yc26 => ?_) (fun yc26 => ?_)
    · have h := z_ifp yc26 h
      refine lv_iconst (v := (-1 : Int32)) hx hb dX6_step_45 (by decide) ?_
      exact hRet _ _ _ _ _ _ hP hS (z_pair h) dX6_step_46
    · have h := z_ifn yc26 h
      refine lv_aload_n hx hb dX6_step_29 rfl (lv_at hl 0 rfl) ?_
      refine gt_X6_2 hx hb hts hown hK hP (hts _ wl_3_136) dX6_step_30 ?_
      refine lv_bipush (v := (89 : Int32)) hx hb dX6_step_33 (by decide) ?_
      refine lv_iconst (v := (4 : Int32)) hx hb dX6_step_35 (by decide) ?_
      refine lv_iload_n hx hb dX6_step_36 rfl (lv_at hl 1 rfl) ?_
      refine lv_imul hx hb dX6_step_37 ?_
      refine lv_iadd hx hb dX6_step_38 ?_
      refine lv_iload_n hx hb dX6_step_39 rfl (lv_at hl 2 rfl) ?_
      refine lv_iadd hx hb dX6_step_40 ?_
      obtain ⟨yg41, h⟩ := z_gi h
      refine al_M hx hb hK hP rfl (by decide) yg41 dX6_step_41 ?_
      refine lv_goto (tgt := 46) hx hb dX6_step_42 (by decide) ?_
      exact hRet _ _ _ _ _ _ hP hS (z_pair h) dX6_step_46
noncomputable def fX6_is (yd : Dt) (yx1 : Int32) (yx2 : Int32) : Option (Int32 × Dt) :=
  z_br (fX6_isPath yd yx1) fun yr1 => zif (yr1 = 0) (some ((-1 : Int32), yd)) (z_br (fX6_isElement yd yx2) fun yr2 => zif (yr2 = 0) (some ((-1 : Int32), yd)) (z_bd (fX6_endsAll yd 2 yx1 yx2 (0 : Int32)) fun yr3 yd4 => zif (yr3 = 0) (z_bd (fX6_endsAll yd4 2 yx1 yx2 (1 : Int32)) fun yr5 yd6 => zif (yr5 = 0) (some ((0 : Int32), yd6)) (some ((1 : Int32), yd6))) (some ((2 : Int32), yd4))))
set_option maxHeartbeats 4000000 in
set_option maxRecDepth 100000 in
theorem kX6_is {l : Launch} {D : va_G} {G : z_G} {ad : Nat → Nat} {A : Nat → Prop} (hI : ∀ d, va_D A (WM G ad d)) {yd : Dt} {yx1 : Int32} {yx2 : Int32}  {rr : Int32} {dd : Dt} (h : fX6_is yd yx1 yx2 = some (rr, dd)) : z_Mi l D G A (WM G ad) yX6_is cX6_is 3 (z_rm 5 131) yd [.ref (ad 0), .int yx1, .int yx2] rr dd := by
  refine z_ofi (by decide) (Nat.le_of_ble_eq_true rfl) fun p e s m args below meth c Q hx hb hml hown hts hK hP hRet ls hl => ?_
  have hS : va_S A s.heap s.heap [] := va_S.rf
  have hl : lv_has ls 3 [(0, .ref (ad 0)), (1, .int yx1), (2, .int yx2)] := hl
  have h : (z_br (fX6_isPath yd yx1) fun yr1 => zif (yr1 = 0) (some ((-1 : Int32), yd)) (z_br (fX6_isElement yd yx2) fun yr2 => zif (yr2 = 0) (some ((-1 : Int32), yd)) (z_bd (fX6_endsAll yd 2 yx1 yx2 (0 : Int32)) fun yr3 yd4 => zif (yr3 = 0) (z_bd (fX6_endsAll yd4 2 yx1 yx2 (1 : Int32)) fun yr5 yd6 => zif (yr5 = 0) (some ((0 : Int32), yd6)) (some ((1 : Int32), yd6))) (some ((2 : Int32), yd4))))) = some (rr, dd) := h
  refine lv_aload_n hx hb dX6_is_0 rfl (lv_at hl 0 rfl) ?_
  refine lv_iload_n hx hb dX6_is_1 rfl (lv_at hl 1 rfl) ?_
  obtain ⟨yr1, yhc2, h⟩ := z_brx h
  refine z_kz (z_rV (As := [.int yx1]) (rest := []) ⟨hx, hb, hml, hown, hts⟩ hK hP w_X6 rfl (kX6_isPath hI yhc2) giX6_208 ⟨rfl, rfl⟩ ndX6_isPath ⟨Nat.le_of_ble_eq_true rfl, Nat.le_of_ble_eq_true rfl⟩ rfl hl.1 rfl (Nat.le_of_ble_eq_true rfl) ⟨Nat.le_refl _, Nat.le_refl _⟩ dX6_is_2) hS (fun H locs z_yr1 hP hS => ?_)
  refine lv_if_eq (tgt := 16) hx hb dX6_is_5 (by decide) (fun yc5 => ?_) (fun yc5 => ?_)
  · have h := z_ifp yc5 h
    refine lv_iconst (v := (-1 : Int32)) hx hb dX6_is_16 (by decide) ?_
    exact hRet _ _ _ _ _ _ hP hS h dX6_is_17
  · have h := z_ifn yc5 h
    refine lv_aload_n hx hb dX6_is_8 rfl (lv_at hl 0 rfl) ?_
    refine lv_iload_n hx hb dX6_is_9 rfl (lv_at hl 2 rfl) ?_
    obtain ⟨yr2, yhc10, h⟩ := z_brx h
    refine z_kz (z_rV (As := [.int yx2]) (rest := []) ⟨hx, hb, hml, hown, hts⟩ hK hP w_X6 rfl (kX6_isElement hI yhc10) giX6_205 ⟨rfl, rfl⟩ ndX6_isElement ⟨Nat.le_of_ble_eq_true rfl, Nat.le_of_ble_eq_true rfl⟩ rfl hl.1 rfl (Nat.le_of_ble_eq_true rfl) ⟨Nat.le_refl _, Nat.le_refl _⟩ dX6_is_10) hS (fun H locs z_yr2 hP hS => ?_)
    refine lv_if_ne (tgt := 18) hx hb dX6_is_13 (by decide) (fun yc13 => ?_) (fun yc13 => ?_)
    · have h := z_ifn yc13 h
      refine lv_aload_n hx hb dX6_is_18 rfl (lv_at hl 0 rfl) ?_
      refine lv_aload_n hx hb dX6_is_19 rfl (lv_at hl 0 rfl) ?_
      refine gt_X6_2 hx hb hts hown hK hP (hts _ wl_3_136) dX6_is_20 ?_
      refine lv_iload_n hx hb dX6_is_23 rfl (lv_at hl 1 rfl) ?_
      refine lv_iload_n hx hb dX6_is_24 rfl (lv_at hl 2 rfl) ?_
      refine lv_iconst (v := (0 : Int32)) hx hb dX6_is_25 (by decide) ?_
      obtain ⟨yr3, yd4, yhc26, h⟩ := z_bdx h
      refine z_kz (z_rV (As := [.ref (ad 2), .int yx1, .int yx2, .int (0 : Int32)]) (rest := []) ⟨hx, hb, hml, hown, hts⟩ hK hP w_X6 rfl (kX6_endsAll hI rfl (Or.inl rfl) yhc26) giX6_141 ⟨rfl, rfl⟩ ndX6_endsAll ⟨Nat.le_of_ble_eq_true rfl, Nat.le_of_ble_eq_true rfl⟩ rfl hl.1 rfl (Nat.le_of_ble_eq_true rfl) ⟨Nat.le_refl _, Nat.le_refl _⟩ dX6_is_26) hS (fun H locs z_yr3 hP hS => ?_)
      refine lv_if_eq (tgt := 36) hx hb dX6_is_29 (by decide) (fun yc29 => ?_) (fun yc29 => ?_)
      · have h := z_ifp yc29 h
        refine lv_aload_n hx hb dX6_is_36 rfl (lv_at hl 0 rfl) ?_
        refine lv_aload_n hx hb dX6_is_37 rfl (lv_at hl 0 rfl) ?_
        refine gt_X6_2 hx hb hts hown hK hP (hts _ wl_3_136) dX6_is_38 ?_
        refine lv_iload_n hx hb dX6_is_41 rfl (lv_at hl 1 rfl) ?_
        refine lv_iload_n hx hb dX6_is_42 rfl (lv_at hl 2 rfl) ?_
        refine lv_iconst (v := (1 : Int32)) hx hb dX6_is_43 (by decide) ?_
        obtain ⟨yr5, yd6, yhc44, h⟩ := z_bdx h
        refine z_kz (z_rV (As := [.ref (ad 2), .int yx1, .int yx2, .int (1 : Int32)]) (rest := []) ⟨hx, hb, hml, hown, hts⟩ hK hP w_X6 rfl (kX6_endsAll hI rfl (Or.inr rfl) yhc44) giX6_141 ⟨rfl, rfl⟩ ndX6_endsAll ⟨Nat.le_of_ble_eq_true rfl, Nat.le_of_ble_eq_true rfl⟩ rfl hl.1 rfl (Nat.le_of_ble_eq_true rfl) ⟨Nat.le_refl _, Nat.le_refl _⟩ dX6_is_44) hS (fun H locs z_yr5 hP hS => ?_)
        refine lv_if_eq (tgt := 54) hx hb dX6_is_47 (by decide) (fun yc47 => ?_) (fun yc47 => ?_)
        · have h := z_ifp yc47 h
          refine lv_iconst (v := (0 : Int32)) hx hb dX6_is_54 (by decide) ?_
          exact hRet _ _ _ _ _ _ hP hS h dX6_is_55
        · have h := z_ifn yc47 h
          refine lv_iconst (v := (1 : Int32)) hx hb dX6_is_50 (by decide) ?_
          refine lv_goto (tgt := 55) hx hb dX6_is_51 (by decide) ?_
          exact hRet _ _ _ _ _ _ hP hS h dX6_is_55
      · have h := z_ifn yc29 h
        refine lv_iconst (v := (2 : Int32)) hx hb dX6_is_32 (by decide) ?_
        refine lv_goto (tgt := 55) hx hb dX6_is_33 (by decide) ?_
        exact hRet _ _ _ _ _ _ hP hS h dX6_is_55
    · have h := z_ifp yc13 h
      refine lv_iconst (v := (-1 : Int32)) hx hb dX6_is_16 (by decide) ?_
      exact hRet _ _ _ _ _ _ hP hS h dX6_is_17
noncomputable def fX6_ends (yd : Dt) (yx1 : Int32) (yx2 : Int32) : Option (Int32 × Dt) :=
  z_br (fX6_isPath yd yx1) fun yr1 => zif (yr1 = 0) (some ((-1 : Int32), yd)) (z_br (fX6_isElement yd yx2) fun yr2 => zif (yr2 = 0) (some ((-1 : Int32), yd)) (z_bd (fX6_endsOf yd 2 yx1 yx2 (0 : Int32)) fun yr3 yd4 => some (yr3, yd4)))
set_option maxHeartbeats 4000000 in
set_option maxRecDepth 100000 in
theorem kX6_ends {l : Launch} {D : va_G} {G : z_G} {ad : Nat → Nat} {A : Nat → Prop} (hI : ∀ d, va_D A (WM G ad d)) {yd : Dt} {yx1 : Int32} {yx2 : Int32}  {rr : Int32} {dd : Dt} (h : fX6_ends yd yx1 yx2 = some (rr, dd)) : z_Mi l D G A (WM G ad) yX6_ends cX6_ends 3 (z_rm 4 107) yd [.ref (ad 0), .int yx1, .int yx2] rr dd := by
  refine z_ofi (by decide) (Nat.le_of_ble_eq_true rfl) fun p e s m args below meth c Q hx hb hml hown hts hK hP hRet ls hl => ?_
  have hS : va_S A s.heap s.heap [] := va_S.rf
  have hl : lv_has ls 3 [(0, .ref (ad 0)), (1, .int yx1), (2, .int yx2)] := hl
  have h : (z_br (fX6_isPath yd yx1) fun yr1 => zif (yr1 = 0) (some ((-1 : Int32), yd)) (z_br (fX6_isElement yd yx2) fun yr2 => zif (yr2 = 0) (some ((-1 : Int32), yd)) (z_bd (fX6_endsOf yd 2 yx1 yx2 (0 : Int32)) fun yr3 yd4 => some (yr3, yd4)))) = some (rr, dd) := h
  refine lv_aload_n hx hb dX6_ends_0 rfl (lv_at hl 0 rfl) ?_
  refine lv_iload_n hx hb dX6_ends_1 rfl (lv_at hl 1 rfl) ?_
  obtain ⟨yr1, yhc2, h⟩ := z_brx h
  refine z_kz (z_rV (As := [.int yx1]) (rest := []) ⟨hx, hb, hml, hown, hts⟩ hK hP w_X6 rfl (kX6_isPath hI yhc2) giX6_208 ⟨rfl, rfl⟩ ndX6_isPath ⟨Nat.le_of_ble_eq_true rfl, Nat.le_of_ble_eq_true rfl⟩ rfl hl.1 rfl (Nat.le_of_ble_eq_true rfl) ⟨Nat.le_refl _, Nat.le_refl _⟩ dX6_ends_2) hS (fun H locs z_yr1 hP hS => ?_)
  refine lv_if_eq (tgt := 30) hx hb dX6_ends_5 (by decide) (fun yc5 => ?_) (fun yc5 => ?_)
  · have h := z_ifp yc5 h
    refine lv_iconst (v := (-1 : Int32)) hx hb dX6_ends_30 (by decide) ?_
    exact hRet _ _ _ _ _ _ hP hS h dX6_ends_31
  · have h := z_ifn yc5 h
    refine lv_aload_n hx hb dX6_ends_8 rfl (lv_at hl 0 rfl) ?_
    refine lv_iload_n hx hb dX6_ends_9 rfl (lv_at hl 2 rfl) ?_
    obtain ⟨yr2, yhc10, h⟩ := z_brx h
    refine z_kz (z_rV (As := [.int yx2]) (rest := []) ⟨hx, hb, hml, hown, hts⟩ hK hP w_X6 rfl (kX6_isElement hI yhc10) giX6_205 ⟨rfl, rfl⟩ ndX6_isElement ⟨Nat.le_of_ble_eq_true rfl, Nat.le_of_ble_eq_true rfl⟩ rfl hl.1 rfl (Nat.le_of_ble_eq_true rfl) ⟨Nat.le_refl _, Nat.le_refl _⟩ dX6_ends_10) hS (fun H locs z_yr2 hP hS => ?_)
    refine lv_if_eq (tgt := 30) hx hb dX6_ends_13 (by decide) (fun yc13 => ?_) (fun yc13 => ?_)
    · have h := z_ifp yc13 h
      refine lv_iconst (v := (-1 : Int32)) hx hb dX6_ends_30 (by decide) ?_
      exact hRet _ _ _ _ _ _ hP hS h dX6_ends_31
    · have h := z_ifn yc13 h
      refine lv_aload_n hx hb dX6_ends_16 rfl (lv_at hl 0 rfl) ?_
      refine lv_aload_n hx hb dX6_ends_17 rfl (lv_at hl 0 rfl) ?_
      refine gt_X6_2 hx hb hts hown hK hP (hts _ wl_3_136) dX6_ends_18 ?_
      refine lv_iload_n hx hb dX6_ends_21 rfl (lv_at hl 1 rfl) ?_
      refine lv_iload_n hx hb dX6_ends_22 rfl (lv_at hl 2 rfl) ?_
      refine lv_iconst (v := (0 : Int32)) hx hb dX6_ends_23 (by decide) ?_
      obtain ⟨yr3, yd4, yhc24, h⟩ := z_bdx h
      refine z_ki (z_rV (As := [.ref (ad 2), .int yx1, .int yx2, .int (0 : Int32)]) (rest := []) ⟨hx, hb, hml, hown, hts⟩ hK hP w_X6 rfl (kX6_endsOf hI rfl (Or.inl rfl) yhc24) giX6_137 ⟨rfl, rfl⟩ ndX6_endsOf ⟨Nat.le_of_ble_eq_true rfl, Nat.le_of_ble_eq_true rfl⟩ rfl hl.1 rfl (Nat.le_of_ble_eq_true rfl) ⟨Nat.le_refl _, Nat.le_refl _⟩ dX6_ends_24) hS (fun H locs hP hS => ?_)
      refine lv_goto (tgt := 31) hx hb dX6_ends_27 (by decide) ?_
      exact hRet _ _ _ _ _ _ hP hS h dX6_ends_31
noncomputable def jX6_out_82 (yv5 : Int32) (yv7 : Int32) : Option ((Int32 × Int32) ⊕ ((Int32) ⊕ (Unit))) :=
  z_nm (yv5 + (1 : Int32)) fun yv8 => some (.inl (yv7, yv8))
noncomputable def bX6_out_27 (yr2 : Int32) (s : Int32 × Int32) : Option ((Int32 × Int32) ⊕ ((Int32) ⊕ (Unit))) := match s with
  | (yv4, yv5) => zif ((20 : Int32) ≤ yv5) (some (.inr (.inr ()))) (zif (yv4 < 0) (some (.inr (.inr ()))) (z_br (fX6_has yr2 yv5) fun yr6 => zif (yr6 = 0) (jX6_out_82 yv5 yv4) (zif (yv4 = 0) (some (.inr (.inl yv5))) (z_nm (yv4 + (-1 : Int32)) fun yv9 => jX6_out_82 yv5 yv9))))
noncomputable def fX6_out (yd : Dt) (yx1 : Int32) (yx2 : Int32) (yx3 : Int32) : Option (Int32 × Dt) :=
  z_br (fX6_isPath yd yx1) fun yr1 => zif (yr1 = 0) (some ((-1 : Int32), yd)) (z_bd (fX6_outOf yd 2 yx1) fun yr2 yd3 => z_br (z_lp (bX6_out_27 yr2) (yx2, (0 : Int32))) (fun t => match t with | .inl yv10 => zif (yx3 = 0) (some (yv10, yd3)) (z_gd (z_in (((114 : Int32) + ((20 : Int32) * yx1)) + yv10) 214) (some ((yd3.1 2 (z_ix (((114 : Int32) + ((20 : Int32) * yx1)) + yv10))), yd3))) | .inr () => some ((-9 : Int32), yd3)))
set_option maxHeartbeats 4000000 in
set_option maxRecDepth 100000 in
theorem kX6_out {l : Launch} {D : va_G} {G : z_G} {ad : Nat → Nat} {A : Nat → Prop} (hI : ∀ d, va_D A (WM G ad d)) {yd : Dt} {yx1 : Int32} {yx2 : Int32} {yx3 : Int32} (z_yx3 : yx3 = 0 ∨ yx3 = 1) {rr : Int32} {dd : Dt} (h : fX6_out yd yx1 yx2 yx3 = some (rr, dd)) : z_Mi l D G A (WM G ad) yX6_out cX6_out 7 (z_rm 7 182) yd [.ref (ad 0), .int yx1, .int yx2, .int yx3] rr dd := by
  refine z_ofi (by decide) (Nat.le_of_ble_eq_true rfl) fun p e s m args below meth c Q hx hb hml hown hts hK hP hRet ls hl => ?_
  have hS : va_S A s.heap s.heap [] := va_S.rf
  have hl : lv_has ls 7 [(0, .ref (ad 0)), (1, .int yx1), (2, .int yx2), (3, .int yx3)] := hl
  have h : (z_br (fX6_isPath yd yx1) fun yr1 => zif (yr1 = 0) (some ((-1 : Int32), yd)) (z_bd (fX6_outOf yd 2 yx1) fun yr2 yd3 => z_br (z_lp (bX6_out_27 yr2) (yx2, (0 : Int32))) (fun t => match t with | .inl yv10 => zif (yx3 = 0) (some (yv10, yd3)) (z_gd (z_in (((114 : Int32) + ((20 : Int32) * yx1)) + yv10) 214) (some ((yd3.1 2 (z_ix (((114 : Int32) + ((20 : Int32) * yx1)) + yv10))), yd3))) | .inr () => some ((-9 : Int32), yd3)))) = some (rr, dd) := h
  refine lv_aload_n hx hb dX6_out_0 rfl (lv_at hl 0 rfl) ?_
  refine lv_iload_n hx hb dX6_out_1 rfl (lv_at hl 1 rfl) ?_
  obtain ⟨yr1, yhc2, h⟩ := z_brx h
  refine z_kz (z_rV (As := [.int yx1]) (rest := []) ⟨hx, hb, hml, hown, hts⟩ hK hP w_X6 rfl (kX6_isPath hI yhc2) giX6_208 ⟨rfl, rfl⟩ ndX6_isPath ⟨Nat.le_of_ble_eq_true rfl, Nat.le_of_ble_eq_true rfl⟩ rfl hl.1 rfl (Nat.le_of_ble_eq_true rfl) ⟨Nat.le_refl _, Nat.le_refl _⟩ dX6_out_2) hS (fun H locs z_yr1 hP hS => ?_)
  refine lv_if_ne (tgt := 10) hx hb dX6_out_5 (by decide) (fun yc5 => ?_) (fun yc5 => ?_)
  · have h := z_ifn yc5 h
    refine lv_aload_n hx hb dX6_out_10 rfl (lv_at hl 0 rfl) ?_
    refine lv_aload_n hx hb dX6_out_11 rfl (lv_at hl 0 rfl) ?_
    refine gt_X6_2 hx hb hts hown hK hP (hts _ wl_3_136) dX6_out_12 ?_
    refine lv_iload_n hx hb dX6_out_15 rfl (lv_at hl 1 rfl) ?_
    obtain ⟨yr2, yd3, yhc16, h⟩ := z_bdx h
    refine z_ki (z_rV (As := [.ref (ad 2), .int yx1]) (rest := []) ⟨hx, hb, hml, hown, hts⟩ hK hP w_X6 rfl (kX6_outOf hI rfl yhc16) giX6_150 ⟨rfl, rfl⟩ ndX6_outOf ⟨Nat.le_of_ble_eq_true rfl, Nat.le_of_ble_eq_true rfl⟩ rfl hl.1 rfl (Nat.le_of_ble_eq_true rfl) ⟨Nat.le_refl _, Nat.le_refl _⟩ dX6_out_16) hS (fun H locs hP hS => ?_)
    refine lv_istore (lv' := [(4, .int yr2), (0, .ref (ad 0)), (1, .int yx1), (2, .int yx2), (3, .int yx3)]) hx hb dX6_out_19 hl (by decide) rfl (fun ls hl => ?_)
    refine lv_iload_n hx hb dX6_out_21 rfl (lv_at hl 3 rfl) ?_
    refine lv_istore (lv' := [(5, .int yx2), (4, .int yr2), (0, .ref (ad 0)), (1, .int yx1), (2, .int yx2), (3, .int yx3)]) hx hb dX6_out_22 hl (by decide) rfl (fun ls hl => ?_)
    refine lv_iconst (v := (0 : Int32)) hx hb dX6_out_24 (by decide) ?_
    refine lv_istore (lv' := [(6, .int (0 : Int32)), (5, .int yx2), (4, .int yr2), (0, .ref (ad 0)), (1, .int yx1), (2, .int yx2), (3, .int yx3)]) hx hb dX6_out_25 hl (by decide) rfl (fun ls hl => ?_)
    obtain ⟨yt27, hlp, h⟩ := z_brx h
    obtain ⟨yn27, hlp⟩ := z_lpx hlp
    have hE54 : ∀ (yv10 : Int32) (H : Heap) (locs : List Loc) (ls : Array Slot), (.inl yv10) = yt27 → va_P D vwCl (WM G ad yd3) H → va_S A s.heap H locs → lv_has ls 7 [(0, .ref (ad 0)), (1, .int yx1), (3, .int yx3), (6, .int yv10)] → W p l e (z_rm 7 182) s m args below meth c H locs 0 0 Q (F0 m 54 ls []) := by
      intro yv10 H locs ls et hP hS hl
      subst et
      have h : (zif (yx3 = 0) (some (yv10, yd3)) (z_gd (z_in (((114 : Int32) + ((20 : Int32) * yx1)) + yv10) 214) (some ((yd3.1 2 (z_ix (((114 : Int32) + ((20 : Int32) * yx1)) + yv10))), yd3)))) = some (rr, dd) := h
      refine lv_iload_n hx hb dX6_out_54 rfl (lv_at hl 2 rfl) ?_
      refine lv_if_eq (tgt := 76) hx hb dX6_out_55 (by decide) (fun yc55 => ?_) (fun yc55 => ?_)
      · have h := z_ifp yc55 h
        refine lv_iload hx hb dX6_out_76 (lv_at hl 3 rfl) ?_
        exact hRet _ _ _ _ _ _ hP hS h dX6_out_78
      · have h := z_ifn yc55 h
        refine lv_aload_n hx hb dX6_out_58 rfl (lv_at hl 0 rfl) ?_
        refine gt_X6_2 hx hb hts hown hK hP (hts _ wl_3_136) dX6_out_59 ?_
        refine lv_bipush (v := (114 : Int32)) hx hb dX6_out_62 (by decide) ?_
        refine lv_bipush (v := (20 : Int32)) hx hb dX6_out_64 (by decide) ?_
        refine lv_iload_n hx hb dX6_out_66 rfl (lv_at hl 1 rfl) ?_
        refine lv_imul hx hb dX6_out_67 ?_
        refine lv_iadd hx hb dX6_out_68 ?_
        refine lv_iload hx hb dX6_out_69 (lv_at hl 3 rfl) ?_
        refine lv_iadd hx hb dX6_out_71 ?_
        obtain ⟨yg72, h⟩ := z_gi h
        refine al_M hx hb hK hP rfl (by decide) yg72 dX6_out_72 ?_
        refine lv_goto (tgt := 78) hx hb dX6_out_73 (by decide) ?_
        exact hRet _ _ _ _ _ _ hP hS h dX6_out_78
    have hE88 : ∀  (H : Heap) (locs : List Loc) (ls : Array Slot), (.inr ()) = yt27 → va_P D vwCl (WM G ad yd3) H → va_S A s.heap H locs → lv_has ls 7 [] → W p l e (z_rm 7 182) s m args below meth c H locs 0 0 Q (F0 m 88 ls []) := by
      intro  H locs ls et hP hS hl
      subst et
      have h : (some ((-9 : Int32), yd3)) = some (rr, dd) := h
      refine lv_bipush (v := (-9 : Int32)) hx hb dX6_out_88 (by decide) ?_
      exact hRet _ _ _ _ _ _ hP hS h dX6_out_90
    have hL27 : ∀ (n : Nat) (yv4 : Int32) (yv5 : Int32) (H : Heap) (locs : List Loc) (ls : Array Slot), z_it (bX6_out_27 yr2) n (yv4, yv5) = some yt27 → va_P D vwCl (WM G ad yd3) H → va_S A s.heap H locs → lv_has ls 7 [(0, .ref (ad 0)), (1, .int yx1), (3, .int yx3), (4, .int yr2), (5, .int yv4), (6, .int yv5)] → W p l e (z_rm 7 182) s m args below meth c H locs 0 0 Q (F0 m 27 ls []) := by
      intro n
      induction n with
      | zero => intro yv4 yv5 H locs ls hn; exact z_it0 hn
      | succ n ih =>
        intro yv4 yv5 H locs ls hn hP hS hl
        obtain ⟨yq27, h, hq1, hq2⟩ := z_itx hn
        have h : (zif ((20 : Int32) ≤ yv5) (some (.inr (.inr ()))) (zif (yv4 < 0) (some (.inr (.inr ()))) (z_br (fX6_has yr2 yv5) fun yr6 => zif (yr6 = 0) (jX6_out_82 yv5 yv4) (zif (yv4 = 0) (some (.inr (.inl yv5))) (z_nm (yv4 + (-1 : Int32)) fun yv9 => jX6_out_82 yv5 yv9))))) = some yq27 := h
        refine lv_iload hx hb dX6_out_27 (lv_at hl 5 rfl) ?_
        refine lv_bipush (v := (20 : Int32)) hx hb dX6_out_29 (by decide) ?_
        refine lv_icmp_ge (tgt := 88) hx hb dX6_out_31 (by decide) (fun yc31 => ?_) (fun yc31 => ?_)
        · have h := z_ifp yc31 h
          exact hE88  _ _ _ (hq2 _ (z_sm h).symm) hP hS (lv_sub hl [] rfl)
        · have h := z_ifn yc31 h
          refine lv_iload hx hb dX6_out_34 (lv_at hl 4 rfl) ?_
          refine lv_if_lt (tgt := 88) hx hb dX6_out_36 (by decide) (fun yc36 => ?_) (fun yc36 => ?_)
          · have h := z_ifp yc36 h
            exact hE88  _ _ _ (hq2 _ (z_sm h).symm) hP hS (lv_sub hl [] rfl)
          · have h := z_ifn yc36 h
            refine lv_iload hx hb dX6_out_39 (lv_at hl 3 rfl) ?_
            refine lv_iload hx hb dX6_out_41 (lv_at hl 5 rfl) ?_
            obtain ⟨yr6, yhc43, h⟩ := z_brx h
            refine z_kz (z_rS (As := [.int yr2, .int yv5]) (rest := []) ⟨hx, hb, hml, hown, hts⟩ hK hP (kX6_has yhc43) giX6_122 ⟨rfl, rfl⟩ ndX6_has ⟨Nat.le_of_ble_eq_true rfl, Nat.le_of_ble_eq_true rfl⟩ rfl hl.1 rfl (Nat.le_of_ble_eq_true rfl) ⟨Nat.le_refl _, Nat.le_refl _⟩ dX6_out_43) hS (fun H locs z_yr6 hP hS => ?_)
            have hJ82 : ∀ (yv7 : Int32) (H : Heap) (locs : List Loc) (ls : Array Slot), jX6_out_82 yv5 yv7 = some yq27 → va_P D vwCl (WM G ad yd3) H → va_S A s.heap H locs → lv_has ls 7 [(0, .ref (ad 0)), (1, .int yx1), (3, .int yx3), (4, .int yr2), (5, .int yv7), (6, .int yv5)] → W p l e (z_rm 7 182) s m args below meth c H locs 0 0 Q (F0 m 82 ls []) := by
              intro yv7 H locs ls h hP hS hl
              have h : (z_nm (yv5 + (1 : Int32)) fun yv8 => some (.inl (yv7, yv8))) = some yq27 := h
              obtain ⟨yv8, e_yv8, h⟩ := z_nmx h
              refine lv_iinc (v := yv8) (lv' := [(6, .int yv8), (0, .ref (ad 0)), (1, .int yx1), (3, .int yx3), (4, .int yr2), (5, .int yv7)]) hx hb dX6_out_82 hl (k := 5) rfl (by rw [e_yv8]; rfl) (by decide) rfl (fun ls hl => ?_)
              refine lv_goto (tgt := 27) hx hb dX6_out_85 (by decide) ?_
              exact ih _ _ _ _ _ (hq1 _ (z_sm h).symm) hP hS (lv_sub hl [1, 2, 3, 4, 5, 0] rfl)
            refine lv_if_eq (tgt := 82) hx hb dX6_out_46 (by decide) (fun yc46 => ?_) (fun yc46 => ?_)
            · have h := z_ifp yc46 h
              exact hJ82 _ _ _ _ h hP hS (lv_sub hl [0, 1, 2, 3, 4, 5] rfl)
            · have h := z_ifn yc46 h
              refine lv_iload hx hb dX6_out_49 (lv_at hl 4 rfl) ?_
              refine lv_if_ne (tgt := 79) hx hb dX6_out_51 (by decide) (fun yc51 => ?_) (fun yc51 => ?_)
              · have h := z_ifn yc51 h
                obtain ⟨yv9, e_yv9, h⟩ := z_nmx h
                refine lv_iinc (v := yv9) (lv' := [(5, .int yv9), (0, .ref (ad 0)), (1, .int yx1), (3, .int yx3), (4, .int yr2), (6, .int yv5)]) hx hb dX6_out_79 hl (k := 4) rfl (by rw [e_yv9]; rfl) (by decide) rfl (fun ls hl => ?_)
                exact hJ82 _ _ _ _ h hP hS (lv_sub hl [1, 2, 3, 4, 0, 5] rfl)
              · have h := z_ifp yc51 h
                exact hE54 _ _ _ _ (hq2 _ (z_sm h).symm) hP hS (lv_sub hl [0, 1, 2, 5] rfl)
    exact hL27 yn27 _ _ _ _ _ hlp hP hS (lv_sub hl [3, 4, 6, 2, 1, 0] rfl)
  · have h := z_ifp yc5 h
    refine lv_iconst (v := (-1 : Int32)) hx hb dX6_out_8 (by decide) ?_
    exact hRet _ _ _ _ _ _ hP hS h dX6_out_9
noncomputable def bX6_note_2 (s : Int32 × Dt) : Option ((Int32 × Dt) ⊕ (Dt)) := match s with
  | (yv1, yd2) => zif ((214 : Int32) ≤ yv1) (some (.inr yd2)) (z_gd (z_in yv1 214) (z_gd (z_in (((214 : Int32) * (yd2.1 0 6)) + yv1) 2996) (z_nm (z_st yd2 4 (z_ix (((214 : Int32) * (yd2.1 0 6)) + yv1)) (yd2.1 2 (z_ix yv1))) fun yd3 => z_nm (yv1 + (1 : Int32)) fun yv4 => some (.inl (yv4, yd3)))))
noncomputable def fX6_note (yd : Dt) : Option (Dt) :=
  z_br (z_lp (bX6_note_2) ((0 : Int32), yd)) (fun t => match t with | yd5 => z_nm (z_st yd5 0 6 (((yd5.1 0 6) + (1 : Int32)) - ((yd5.1 0 6) + (1 : Int32)) / (14 : Int32) * (14 : Int32))) fun yd6 => z_nm (zif ((14 : Int32) ≤ (yd6.1 0 5)) (14 : Int32) ((yd6.1 0 5) + (1 : Int32))) fun yv7 => z_nm (z_st yd6 0 5 yv7) fun yd8 => some yd8)
set_option maxHeartbeats 4000000 in
set_option maxRecDepth 100000 in
theorem kX6_note {l : Launch} {D : va_G} {G : z_G} {ad : Nat → Nat} {A : Nat → Prop} (hI : ∀ d, va_D A (WM G ad d)) {yd : Dt}   {dd : Dt} (h : fX6_note yd = some dd) : z_Mv l D G A (WM G ad) yX6_note cX6_note 2 (z_rm 0 0) yd [.ref (ad 0)] dd := by
  refine z_ofv (by decide) (Nat.le_of_ble_eq_true rfl) fun p e s m args below meth c Q hx hb hml hown hts hK hP hRet ls hl => ?_
  have hS : va_S A s.heap s.heap [] := va_S.rf
  have hl : lv_has ls 2 [(0, .ref (ad 0))] := hl
  have h : (z_br (z_lp (bX6_note_2) ((0 : Int32), yd)) (fun t => match t with | yd5 => z_nm (z_st yd5 0 6 (((yd5.1 0 6) + (1 : Int32)) - ((yd5.1 0 6) + (1 : Int32)) / (14 : Int32) * (14 : Int32))) fun yd6 => z_nm (zif ((14 : Int32) ≤ (yd6.1 0 5)) (14 : Int32) ((yd6.1 0 5) + (1 : Int32))) fun yv7 => z_nm (z_st yd6 0 5 yv7) fun yd8 => some yd8)) = some dd := h
  refine lv_iconst (v := (0 : Int32)) hx hb dX6_note_0 (by decide) ?_
  refine lv_istore_n (lv' := [(1, .int (0 : Int32)), (0, .ref (ad 0))]) hx hb dX6_note_1 rfl hl (by decide) rfl (fun ls hl => ?_)
  obtain ⟨yt2, hlp, h⟩ := z_brx h
  obtain ⟨yn2, hlp⟩ := z_lpx hlp
  have hE36 : ∀ (yd5 : Dt) (H : Heap) (locs : List Loc) (ls : Array Slot), yd5 = yt2 → va_P D vwCl (WM G ad yd5) H → va_S A s.heap H locs → lv_has ls 2 [(0, .ref (ad 0))] → W p l e (z_rm 0 0) s m args below meth c H locs 0 0 Q (F0 m 36 ls []) := by
    intro yd5 H locs ls et hP hS hl
    subst et
    have h : (z_nm (z_st yd5 0 6 (((yd5.1 0 6) + (1 : Int32)) - ((yd5.1 0 6) + (1 : Int32)) / (14 : Int32) * (14 : Int32))) fun yd6 => z_nm (zif ((14 : Int32) ≤ (yd6.1 0 5)) (14 : Int32) ((yd6.1 0 5) + (1 : Int32))) fun yv7 => z_nm (z_st yd6 0 5 yv7) fun yd8 => some yd8) = some dd := h
    refine lv_aload_n hx hb dX6_note_36 rfl (lv_at hl 0 rfl) ?_
    refine lv_aload_n hx hb dX6_note_37 rfl (lv_at hl 0 rfl) ?_
    refine gt_X6_6 hx hb hts hown hK hP (hts _ wl_3_140) dX6_note_38 ?_
    refine lv_iconst (v := (1 : Int32)) hx hb dX6_note_41 (by decide) ?_
    refine lv_iadd hx hb dX6_note_42 ?_
    refine lv_bipush (v := (14 : Int32)) hx hb dX6_note_43 (by decide) ?_
    refine lv_irem hx hb dX6_note_45 (by decide) ?_
    refine pt_X6_6 hx hb hts hown hK hP hI hS (hts _ wl_3_140) dX6_note_46 (fun H locs yd6 e_yd6 hP hS => ?_)
    have h := z_nma e_yd6 h
    refine lv_aload_n hx hb dX6_note_49 rfl (lv_at hl 0 rfl) ?_
    refine lv_aload_n hx hb dX6_note_50 rfl (lv_at hl 0 rfl) ?_
    refine gt_X6_5 hx hb hts hown hK hP (hts _ wl_3_139) dX6_note_51 ?_
    refine lv_bipush (v := (14 : Int32)) hx hb dX6_note_54 (by decide) ?_
    have hM70 : ∀ (yv7 : Int32) (H : Heap) (locs : List Loc), yv7 = (zif ((14 : Int32) ≤ (yd6.1 0 5)) (14 : Int32) ((yd6.1 0 5) + (1 : Int32))) → va_P D vwCl (WM G ad yd6) H → va_S A s.heap H locs → W p l e (z_rm 0 0) s m args below meth c H locs 0 0 Q (F0 m 70 ls [.int yv7, .ref (ad 0)]) := by
      intro yv7 H locs e_yv7 hP hS
      have h := z_nma e_yv7 h
      refine pt_X6_5 hx hb hts hown hK hP hI hS (hts _ wl_3_139) dX6_note_70 (fun H locs yd8 e_yd8 hP hS => ?_)
      have h := z_nma e_yd8 h
      exact hRet _ _ _ _ _ hP hS h dX6_note_73
    refine lv_icmp_ge (tgt := 68) hx hb dX6_note_56 (by decide) (fun yc56 => ?_) (fun yc56 => ?_)
    · refine lv_bipush (v := (14 : Int32)) hx hb dX6_note_68 (by decide) ?_
      exact hM70 _ _ _ (z_tp yc56 rfl) hP hS
    · refine lv_aload_n hx hb dX6_note_59 rfl (lv_at hl 0 rfl) ?_
      refine gt_X6_5 hx hb hts hown hK hP (hts _ wl_3_139) dX6_note_60 ?_
      refine lv_iconst (v := (1 : Int32)) hx hb dX6_note_63 (by decide) ?_
      refine lv_iadd hx hb dX6_note_64 ?_
      refine lv_goto (tgt := 70) hx hb dX6_note_65 (by decide) ?_
      exact hM70 _ _ _ (z_tn yc56 rfl) hP hS
  have hL2 : ∀ (n : Nat) (yv1 : Int32) (yd2 : Dt) (H : Heap) (locs : List Loc) (ls : Array Slot), z_it (bX6_note_2) n (yv1, yd2) = some yt2 → va_P D vwCl (WM G ad yd2) H → va_S A s.heap H locs → lv_has ls 2 [(0, .ref (ad 0)), (1, .int yv1)] → W p l e (z_rm 0 0) s m args below meth c H locs 0 0 Q (F0 m 2 ls []) := by
    intro n
    induction n with
    | zero => intro yv1 yd2 H locs ls hn; exact z_it0 hn
    | succ n ih =>
      intro yv1 yd2 H locs ls hn hP hS hl
      obtain ⟨yq2, h, hq1, hq2⟩ := z_itx hn
      have h : (zif ((214 : Int32) ≤ yv1) (some (.inr yd2)) (z_gd (z_in yv1 214) (z_gd (z_in (((214 : Int32) * (yd2.1 0 6)) + yv1) 2996) (z_nm (z_st yd2 4 (z_ix (((214 : Int32) * (yd2.1 0 6)) + yv1)) (yd2.1 2 (z_ix yv1))) fun yd3 => z_nm (yv1 + (1 : Int32)) fun yv4 => some (.inl (yv4, yd3)))))) = some yq2 := h
      refine lv_iload_n hx hb dX6_note_2 rfl (lv_at hl 1 rfl) ?_
      refine lv_sipush (v := (214 : Int32)) hx hb dX6_note_3 (by decide) ?_
      refine lv_icmp_ge (tgt := 36) hx hb dX6_note_6 (by decide) (fun yc6 => ?_) (fun yc6 => ?_)
      · have h := z_ifp yc6 h
        exact hE36 _ _ _ _ (hq2 _ (z_sm h).symm) hP hS (lv_sub hl [0] rfl)
      · have h := z_ifn yc6 h
        refine lv_aload_n hx hb dX6_note_9 rfl (lv_at hl 0 rfl) ?_
        refine gt_X6_4 hx hb hts hown hK hP (hts _ wl_3_138) dX6_note_10 ?_
        refine lv_sipush (v := (214 : Int32)) hx hb dX6_note_13 (by decide) ?_
        refine lv_aload_n hx hb dX6_note_16 rfl (lv_at hl 0 rfl) ?_
        refine gt_X6_6 hx hb hts hown hK hP (hts _ wl_3_140) dX6_note_17 ?_
        refine lv_imul hx hb dX6_note_20 ?_
        refine lv_iload_n hx hb dX6_note_21 rfl (lv_at hl 1 rfl) ?_
        refine lv_iadd hx hb dX6_note_22 ?_
        refine lv_aload_n hx hb dX6_note_23 rfl (lv_at hl 0 rfl) ?_
        refine gt_X6_2 hx hb hts hown hK hP (hts _ wl_3_136) dX6_note_24 ?_
        refine lv_iload_n hx hb dX6_note_27 rfl (lv_at hl 1 rfl) ?_
        obtain ⟨yg28, h⟩ := z_gi h
        refine al_M hx hb hK hP rfl (by decide) yg28 dX6_note_28 ?_
        obtain ⟨yg29, h⟩ := z_gi h
        refine as_M hx hb hK hP hI hS rfl (by decide) yg29 dX6_note_29 (fun H locs yd3 e_yd3 hP hS => ?_)
        have h := z_nma e_yd3 h
        obtain ⟨yv4, e_yv4, h⟩ := z_nmx h
        refine lv_iinc (v := yv4) (lv' := [(1, .int yv4), (0, .ref (ad 0))]) hx hb dX6_note_30 hl (k := 1) rfl (by rw [e_yv4]; rfl) (by decide) rfl (fun ls hl => ?_)
        refine lv_goto (tgt := 2) hx hb dX6_note_33 (by decide) ?_
        exact ih _ _ _ _ _ (hq1 _ (z_sm h).symm) hP hS (lv_sub hl [1, 0] rfl)
  exact hL2 yn2 _ _ _ _ _ hlp hP hS (lv_sub hl [1, 0] rfl)
noncomputable def fX6_open (yd : Dt) (yx1 : Int32) : Option (Int32 × Dt) :=
  z_br (fX6_in (yx1.toInt64) (0 : Int64) (4 : Int64)) fun yr1 => zif (yr1 = 0) (some ((-2 : Int32), yd)) (z_br (fX6_mayOpen yd 2) fun yr2 => zif (yr2 = 0) (some ((-3 : Int32), yd)) (zif ((yd.1 2 (z_ix (80 : Int32))) = (20 : Int32)) (some ((-4 : Int32), yd)) (z_br (fX6_note yd) fun yd3 => z_br (fX6_openOn yd3 2 yx1) fun yd4 => some (((yd4.1 2 (z_ix (80 : Int32))) - (1 : Int32)), yd4))))
set_option maxHeartbeats 4000000 in
set_option maxRecDepth 100000 in
theorem kX6_open {l : Launch} {D : va_G} {G : z_G} {ad : Nat → Nat} {A : Nat → Prop} (hI : ∀ d, va_D A (WM G ad d)) {yd : Dt} {yx1 : Int32}  {rr : Int32} {dd : Dt} (h : fX6_open yd yx1 = some (rr, dd)) : z_Mi l D G A (WM G ad) yX6_open cX6_open 2 (z_rm 11 276) yd [.ref (ad 0), .int yx1] rr dd := by
  refine z_ofi (by decide) (Nat.le_of_ble_eq_true rfl) fun p e s m args below meth c Q hx hb hml hown hts hK hP hRet ls hl => ?_
  have hS : va_S A s.heap s.heap [] := va_S.rf
  have hl : lv_has ls 2 [(0, .ref (ad 0)), (1, .int yx1)] := hl
  have h : (z_br (fX6_in (yx1.toInt64) (0 : Int64) (4 : Int64)) fun yr1 => zif (yr1 = 0) (some ((-2 : Int32), yd)) (z_br (fX6_mayOpen yd 2) fun yr2 => zif (yr2 = 0) (some ((-3 : Int32), yd)) (zif ((yd.1 2 (z_ix (80 : Int32))) = (20 : Int32)) (some ((-4 : Int32), yd)) (z_br (fX6_note yd) fun yd3 => z_br (fX6_openOn yd3 2 yx1) fun yd4 => some (((yd4.1 2 (z_ix (80 : Int32))) - (1 : Int32)), yd4))))) = some (rr, dd) := h
  refine lv_iload_n hx hb dX6_open_0 rfl (lv_at hl 1 rfl) ?_
  refine lv_i2l (v := yx1.toInt64) hx hb dX6_open_1 rfl ?_
  refine lv_lconst (v := (0 : Int64)) hx hb dX6_open_2 (by decide) ?_
  refine lv_ldc2 hx hb hown (hts _ wl_4_15) dX6_open_3 ?_
  obtain ⟨yr1, yhc6, h⟩ := z_brx h
  refine z_kz (z_rS (As := [.long (yx1.toInt64), .long (0 : Int64), .long (4 : Int64)]) (rest := []) ⟨hx, hb, hml, hown, hts⟩ hK hP (kX6_in yhc6) giX6_64 ⟨rfl, rfl⟩ ndX6_in ⟨Nat.le_of_ble_eq_true rfl, Nat.le_of_ble_eq_true rfl⟩ rfl hl.1 rfl (Nat.le_of_ble_eq_true rfl) ⟨Nat.le_refl _, Nat.le_refl _⟩ dX6_open_6) hS (fun H locs z_yr1 hP hS => ?_)
  refine lv_if_ne (tgt := 15) hx hb dX6_open_9 (by decide) (fun yc9 => ?_) (fun yc9 => ?_)
  · have h := z_ifn yc9 h
    refine lv_aload_n hx hb dX6_open_15 rfl (lv_at hl 0 rfl) ?_
    refine gt_X6_2 hx hb hts hown hK hP (hts _ wl_3_136) dX6_open_16 ?_
    obtain ⟨yr2, yhc19, h⟩ := z_brx h
    refine z_kz (z_rS (As := [.ref (ad 2)]) (rest := []) ⟨hx, hb, hml, hown, hts⟩ hK hP (kX6_mayOpen hI rfl yhc19) giX6_170 ⟨rfl, rfl⟩ ndX6_mayOpen ⟨Nat.le_of_ble_eq_true rfl, Nat.le_of_ble_eq_true rfl⟩ rfl hl.1 rfl (Nat.le_of_ble_eq_true rfl) ⟨Nat.le_refl _, Nat.le_refl _⟩ dX6_open_19) hS (fun H locs z_yr2 hP hS => ?_)
    refine lv_if_ne (tgt := 28) hx hb dX6_open_22 (by decide) (fun yc22 => ?_) (fun yc22 => ?_)
    · have h := z_ifn yc22 h
      refine lv_aload_n hx hb dX6_open_28 rfl (lv_at hl 0 rfl) ?_
      refine gt_X6_2 hx hb hts hown hK hP (hts _ wl_3_136) dX6_open_29 ?_
      refine lv_bipush (v := (80 : Int32)) hx hb dX6_open_32 (by decide) ?_
      refine al_M hx hb hK hP rfl (by decide) (z_li (by decide) : vp_in (80 : Int32) 214) dX6_open_34 ?_
      refine lv_bipush (v := (20 : Int32)) hx hb dX6_open_35 (by decide) ?_
      refine lv_icmp_ne (tgt := 43) hx hb dX6_open_37 (by decide) (fun yc37 => ?_) (fun yc37 => ?_)
      · have h := z_ifn yc37 h
        refine lv_aload_n hx hb dX6_open_43 rfl (lv_at hl 0 rfl) ?_
        obtain ⟨yd3, yhc44, h⟩ := z_brx h
        refine z_kv (z_rV (As := []) (rest := []) ⟨hx, hb, hml, hown, hts⟩ hK hP w_X6 rfl (kX6_note hI yhc44) giX6_218 ⟨rfl, rfl⟩ ndX6_note ⟨Nat.le_of_ble_eq_true rfl, Nat.le_of_ble_eq_true rfl⟩ rfl hl.1 rfl (Nat.le_of_ble_eq_true rfl) ⟨Nat.le_refl _, Nat.le_refl _⟩ dX6_open_44) hS (fun H locs hP hS => ?_)
        refine lv_aload_n hx hb dX6_open_47 rfl (lv_at hl 0 rfl) ?_
        refine lv_aload_n hx hb dX6_open_48 rfl (lv_at hl 0 rfl) ?_
        refine gt_X6_2 hx hb hts hown hK hP (hts _ wl_3_136) dX6_open_49 ?_
        refine lv_iload_n hx hb dX6_open_52 rfl (lv_at hl 1 rfl) ?_
        obtain ⟨yd4, yhc53, h⟩ := z_brx h
        refine z_kv (z_rV (As := [.ref (ad 2), .int yx1]) (rest := []) ⟨hx, hb, hml, hown, hts⟩ hK hP w_X6 rfl (kX6_openOn hI rfl yhc53) giX6_174 ⟨rfl, rfl⟩ ndX6_openOn ⟨Nat.le_of_ble_eq_true rfl, Nat.le_of_ble_eq_true rfl⟩ rfl hl.1 rfl (Nat.le_of_ble_eq_true rfl) ⟨Nat.le_refl _, Nat.le_refl _⟩ dX6_open_53) hS (fun H locs hP hS => ?_)
        refine lv_aload_n hx hb dX6_open_56 rfl (lv_at hl 0 rfl) ?_
        refine gt_X6_2 hx hb hts hown hK hP (hts _ wl_3_136) dX6_open_57 ?_
        refine lv_bipush (v := (80 : Int32)) hx hb dX6_open_60 (by decide) ?_
        refine al_M hx hb hK hP rfl (by decide) (z_li (by decide) : vp_in (80 : Int32) 214) dX6_open_62 ?_
        refine lv_iconst (v := (1 : Int32)) hx hb dX6_open_63 (by decide) ?_
        refine lv_isub hx hb dX6_open_64 ?_
        exact hRet _ _ _ _ _ _ hP hS h dX6_open_65
      · have h := z_ifp yc37 h
        refine lv_bipush (v := (-4 : Int32)) hx hb dX6_open_40 (by decide) ?_
        exact hRet _ _ _ _ _ _ hP hS h dX6_open_42
    · have h := z_ifp yc22 h
      refine lv_bipush (v := (-3 : Int32)) hx hb dX6_open_25 (by decide) ?_
      exact hRet _ _ _ _ _ _ hP hS h dX6_open_27
  · have h := z_ifp yc9 h
    refine lv_bipush (v := (-2 : Int32)) hx hb dX6_open_12 (by decide) ?_
    exact hRet _ _ _ _ _ _ hP hS h dX6_open_14
noncomputable def fX6_close (yd : Dt) : Option (Int32 × Dt) :=
  zif ((yd.1 2 (z_ix (81 : Int32))) = (-9 : Int32)) (some ((-3 : Int32), yd)) (z_br (fX6_note yd) fun yd1 => z_bd (fX6_closeOn yd1 2) fun yr2 yd3 => some (yr2, yd3))
set_option maxHeartbeats 4000000 in
set_option maxRecDepth 100000 in
theorem kX6_close {l : Launch} {D : va_G} {G : z_G} {ad : Nat → Nat} {A : Nat → Prop} (hI : ∀ d, va_D A (WM G ad d)) {yd : Dt}   {rr : Int32} {dd : Dt} (h : fX6_close yd = some (rr, dd)) : z_Mi l D G A (WM G ad) yX6_close cX6_close 1 (z_rm 11 274) yd [.ref (ad 0)] rr dd := by
  refine z_ofi (by decide) (Nat.le_of_ble_eq_true rfl) fun p e s m args below meth c Q hx hb hml hown hts hK hP hRet ls hl => ?_
  have hS : va_S A s.heap s.heap [] := va_S.rf
  have hl : lv_has ls 1 [(0, .ref (ad 0))] := hl
  have h : (zif ((yd.1 2 (z_ix (81 : Int32))) = (-9 : Int32)) (some ((-3 : Int32), yd)) (z_br (fX6_note yd) fun yd1 => z_bd (fX6_closeOn yd1 2) fun yr2 yd3 => some (yr2, yd3))) = some (rr, dd) := h
  refine lv_aload_n hx hb dX6_close_0 rfl (lv_at hl 0 rfl) ?_
  refine gt_X6_2 hx hb hts hown hK hP (hts _ wl_3_136) dX6_close_1 ?_
  refine lv_bipush (v := (81 : Int32)) hx hb dX6_close_4 (by decide) ?_
  refine al_M hx hb hK hP rfl (by decide) (z_li (by decide) : vp_in (81 : Int32) 214) dX6_close_6 ?_
  refine lv_bipush (v := (-9 : Int32)) hx hb dX6_close_7 (by decide) ?_
  refine lv_icmp_ne (tgt := 15) hx hb dX6_close_9 (by decide) (fun yc9 => ?_) (fun yc9 => ?_)
  · have h := z_ifn yc9 h
    refine lv_aload_n hx hb dX6_close_15 rfl (lv_at hl 0 rfl) ?_
    obtain ⟨yd1, yhc16, h⟩ := z_brx h
    refine z_kv (z_rV (As := []) (rest := []) ⟨hx, hb, hml, hown, hts⟩ hK hP w_X6 rfl (kX6_note hI yhc16) giX6_218 ⟨rfl, rfl⟩ ndX6_note ⟨Nat.le_of_ble_eq_true rfl, Nat.le_of_ble_eq_true rfl⟩ rfl hl.1 rfl (Nat.le_of_ble_eq_true rfl) ⟨Nat.le_refl _, Nat.le_refl _⟩ dX6_close_16) hS (fun H locs hP hS => ?_)
    refine lv_aload_n hx hb dX6_close_19 rfl (lv_at hl 0 rfl) ?_
    refine lv_aload_n hx hb dX6_close_20 rfl (lv_at hl 0 rfl) ?_
    refine gt_X6_2 hx hb hts hown hK hP (hts _ wl_3_136) dX6_close_21 ?_
    obtain ⟨yr2, yd3, yhc24, h⟩ := z_bdx h
    refine z_ki (z_rV (As := [.ref (ad 2)]) (rest := []) ⟨hx, hb, hml, hown, hts⟩ hK hP w_X6 rfl (kX6_closeOn hI rfl yhc24) giX6_178 ⟨rfl, rfl⟩ ndX6_closeOn ⟨Nat.le_of_ble_eq_true rfl, Nat.le_of_ble_eq_true rfl⟩ rfl hl.1 rfl (Nat.le_of_ble_eq_true rfl) ⟨Nat.le_refl _, Nat.le_refl _⟩ dX6_close_24) hS (fun H locs hP hS => ?_)
    exact hRet _ _ _ _ _ _ hP hS h dX6_close_27
  · have h := z_ifp yc9 h
    refine lv_bipush (v := (-3 : Int32)) hx hb dX6_close_12 (by decide) ?_
    exact hRet _ _ _ _ _ _ hP hS h dX6_close_14
noncomputable def fX6_tell (yd : Dt) (yx1 : Int32) : Option (Int32 × Dt) :=
  z_br (fX6_in (yx1.toInt64) (0 : Int64) (9 : Int64)) fun yr1 => zif (yr1 = 0) (some ((-2 : Int32), yd)) (zif ((yd.1 2 (z_ix (81 : Int32))) = (-9 : Int32)) (some ((-3 : Int32), yd)) (z_br (fX6_note yd) fun yd2 => z_bd (fX6_tellOn yd2 2 yx1) fun yr3 yd4 => some (yr3, yd4)))
set_option maxHeartbeats 4000000 in
set_option maxRecDepth 100000 in
theorem kX6_tell {l : Launch} {D : va_G} {G : z_G} {ad : Nat → Nat} {A : Nat → Prop} (hI : ∀ d, va_D A (WM G ad d)) {yd : Dt} {yx1 : Int32}  {rr : Int32} {dd : Dt} (h : fX6_tell yd yx1 = some (rr, dd)) : z_Mi l D G A (WM G ad) yX6_tell cX6_tell 2 (z_rm 11 274) yd [.ref (ad 0), .int yx1] rr dd := by
  refine z_ofi (by decide) (Nat.le_of_ble_eq_true rfl) fun p e s m args below meth c Q hx hb hml hown hts hK hP hRet ls hl => ?_
  have hS : va_S A s.heap s.heap [] := va_S.rf
  have hl : lv_has ls 2 [(0, .ref (ad 0)), (1, .int yx1)] := hl
  have h : (z_br (fX6_in (yx1.toInt64) (0 : Int64) (9 : Int64)) fun yr1 => zif (yr1 = 0) (some ((-2 : Int32), yd)) (zif ((yd.1 2 (z_ix (81 : Int32))) = (-9 : Int32)) (some ((-3 : Int32), yd)) (z_br (fX6_note yd) fun yd2 => z_bd (fX6_tellOn yd2 2 yx1) fun yr3 yd4 => some (yr3, yd4)))) = some (rr, dd) := h
  refine lv_iload_n hx hb dX6_tell_0 rfl (lv_at hl 1 rfl) ?_
  refine lv_i2l (v := yx1.toInt64) hx hb dX6_tell_1 rfl ?_
  refine lv_lconst (v := (0 : Int64)) hx hb dX6_tell_2 (by decide) ?_
  refine lv_ldc2 hx hb hown (hts _ wl_4_166) dX6_tell_3 ?_
  obtain ⟨yr1, yhc6, h⟩ := z_brx h
  refine z_kz (z_rS (As := [.long (yx1.toInt64), .long (0 : Int64), .long (9 : Int64)]) (rest := []) ⟨hx, hb, hml, hown, hts⟩ hK hP (kX6_in yhc6) giX6_64 ⟨rfl, rfl⟩ ndX6_in ⟨Nat.le_of_ble_eq_true rfl, Nat.le_of_ble_eq_true rfl⟩ rfl hl.1 rfl (Nat.le_of_ble_eq_true rfl) ⟨Nat.le_refl _, Nat.le_refl _⟩ dX6_tell_6) hS (fun H locs z_yr1 hP hS => ?_)
  refine lv_if_ne (tgt := 15) hx hb dX6_tell_9 (by decide) (fun yc9 => ?_) (fun yc9 => ?_)
  · have h := z_ifn yc9 h
    refine lv_aload_n hx hb dX6_tell_15 rfl (lv_at hl 0 rfl) ?_
    refine gt_X6_2 hx hb hts hown hK hP (hts _ wl_3_136) dX6_tell_16 ?_
    refine lv_bipush (v := (81 : Int32)) hx hb dX6_tell_19 (by decide) ?_
    refine al_M hx hb hK hP rfl (by decide) (z_li (by decide) : vp_in (81 : Int32) 214) dX6_tell_21 ?_
    refine lv_bipush (v := (-9 : Int32)) hx hb dX6_tell_22 (by decide) ?_
    refine lv_icmp_ne (tgt := 30) hx hb dX6_tell_24 (by decide) (fun yc24 => ?_) (fun yc24 => ?_)
    · have h := z_ifn yc24 h
      refine lv_aload_n hx hb dX6_tell_30 rfl (lv_at hl 0 rfl) ?_
      obtain ⟨yd2, yhc31, h⟩ := z_brx h
      refine z_kv (z_rV (As := []) (rest := []) ⟨hx, hb, hml, hown, hts⟩ hK hP w_X6 rfl (kX6_note hI yhc31) giX6_218 ⟨rfl, rfl⟩ ndX6_note ⟨Nat.le_of_ble_eq_true rfl, Nat.le_of_ble_eq_true rfl⟩ rfl hl.1 rfl (Nat.le_of_ble_eq_true rfl) ⟨Nat.le_refl _, Nat.le_refl _⟩ dX6_tell_31) hS (fun H locs hP hS => ?_)
      refine lv_aload_n hx hb dX6_tell_34 rfl (lv_at hl 0 rfl) ?_
      refine lv_aload_n hx hb dX6_tell_35 rfl (lv_at hl 0 rfl) ?_
      refine gt_X6_2 hx hb hts hown hK hP (hts _ wl_3_136) dX6_tell_36 ?_
      refine lv_iload_n hx hb dX6_tell_39 rfl (lv_at hl 1 rfl) ?_
      obtain ⟨yr3, yd4, yhc40, h⟩ := z_bdx h
      refine z_ki (z_rV (As := [.ref (ad 2), .int yx1]) (rest := []) ⟨hx, hb, hml, hown, hts⟩ hK hP w_X6 rfl (kX6_tellOn hI rfl yhc40) giX6_181 ⟨rfl, rfl⟩ ndX6_tellOn ⟨Nat.le_of_ble_eq_true rfl, Nat.le_of_ble_eq_true rfl⟩ rfl hl.1 rfl (Nat.le_of_ble_eq_true rfl) ⟨Nat.le_refl _, Nat.le_refl _⟩ dX6_tell_40) hS (fun H locs hP hS => ?_)
      exact hRet _ _ _ _ _ _ hP hS h dX6_tell_43
    · have h := z_ifp yc24 h
      refine lv_bipush (v := (-3 : Int32)) hx hb dX6_tell_27 (by decide) ?_
      exact hRet _ _ _ _ _ _ hP hS h dX6_tell_29
  · have h := z_ifp yc9 h
    refine lv_bipush (v := (-2 : Int32)) hx hb dX6_tell_12 (by decide) ?_
    exact hRet _ _ _ _ _ _ hP hS h dX6_tell_14
