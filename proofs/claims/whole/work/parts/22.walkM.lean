noncomputable def jX6_noteOut_65 (yv4 : Int32) (yv7 : Int32) (yd8 : Dt) : Option ((Int32 × Int32 × Dt) ⊕ (Int32 × Dt)) :=
  z_nm (yv4 + (1 : Int32)) fun yv9 => some (.inl (yv7, yv9, yd8))
noncomputable def bX6_noteOut_13 (yr1 : Int32) (yx2 : Int32) (ya1 : Nat) (s : Int32 × Int32 × Dt) : Option ((Int32 × Int32 × Dt) ⊕ (Int32 × Dt)) := match s with
  | (yv3, yv4, yd5) => zif ((20 : Int32) ≤ yv4) (some (.inr (yv3, yd5))) (z_br (fX6_has yr1 yv4) fun yr6 => zif (yr6 = 0) (jX6_noteOut_65 yv4 yv3 yd5) (z_gd (z_in (((114 : Int32) + ((20 : Int32) * yx2)) + yv4) 214) (zif ((yd5.1 ya1 (z_ix (((114 : Int32) + ((20 : Int32) * yx2)) + yv4))) = (-9 : Int32)) (z_gd (z_in (((114 : Int32) + ((20 : Int32) * yx2)) + yv4) 214) (z_nm (z_st yd5 ya1 (z_ix (((114 : Int32) + ((20 : Int32) * yx2)) + yv4)) (yd5.1 ya1 (z_ix (82 : Int32)))) fun yd10 => z_nm (yv3 + (1 : Int32)) fun yv11 => jX6_noteOut_65 yv4 yv11 yd10)) (jX6_noteOut_65 yv4 yv3 yd5))))
noncomputable def jX6_noteOut_106 (yx2 : Int32) (yd15 : Dt) (ya1 : Nat) (yv12 : Int32) (yv16 : Int32) : Option (Int32 × Dt) :=
  z_gd (z_in ((109 : Int32) + yx2) 214) (z_nm (z_st yd15 ya1 (z_ix ((109 : Int32) + yx2)) yv16) fun yd17 => some (yv12, yd17))
noncomputable def fX6_noteOut (yd : Dt) (ya1 : Nat) (yx2 : Int32) : Option (Int32 × Dt) :=
  z_bd (fX6_outOf yd ya1 yx2) fun yr1 yd2 => z_br (z_lp (bX6_noteOut_13 yr1 yx2 ya1) ((0 : Int32), (0 : Int32), yd2)) (fun t => match t with | (yv12, yd13) => z_bd (fX6_heldOf yd13 ya1 yx2) fun yr14 yd15 => z_gd (z_in ((109 : Int32) + yx2) 214) (zif (yr14 ≤ (yd15.1 ya1 (z_ix ((109 : Int32) + yx2)))) (z_gd (z_in ((109 : Int32) + yx2) 214) (jX6_noteOut_106 yx2 yd15 ya1 yv12 (yd15.1 ya1 (z_ix ((109 : Int32) + yx2))))) (jX6_noteOut_106 yx2 yd15 ya1 yv12 yr14)))
set_option maxHeartbeats 4000000 in
set_option maxRecDepth 100000 in
theorem kX6_noteOut {l : Launch} {D : va_G} {G : z_G} {ad : Nat → Nat} {A : Nat → Prop} (hI : ∀ d, va_D A (WM G ad d)) {yd : Dt} {ya1 : Nat} {yx2 : Int32} (yh1 : arM ya1 = 214) {rr : Int32} {dd : Dt} (h : fX6_noteOut yd ya1 yx2 = some (rr, dd)) : z_Mi l D G A (WM G ad) yX6_noteOut cX6_noteOut 6 (z_rm 8 204) yd [.ref (ad 0), .ref (ad ya1), .int yx2] rr dd := by
  refine z_ofi (by decide) (Nat.le_of_ble_eq_true rfl) fun p e s m args below meth c Q hx hb hml hown hts hK hP hRet ls hl => ?_
  have hS : va_S A s.heap s.heap [] := va_S.rf
  have hl : lv_has ls 6 [(0, .ref (ad 0)), (1, .ref (ad ya1)), (2, .int yx2)] := hl
  have h : (z_bd (fX6_outOf yd ya1 yx2) fun yr1 yd2 => z_br (z_lp (bX6_noteOut_13 yr1 yx2 ya1) ((0 : Int32), (0 : Int32), yd2)) (fun t => match t with | (yv12, yd13) => z_bd (fX6_heldOf yd13 ya1 yx2) fun yr14 yd15 => z_gd (z_in ((109 : Int32) + yx2) 214) (zif (yr14 ≤ (yd15.1 ya1 (z_ix ((109 : Int32) + yx2)))) (z_gd (z_in ((109 : Int32) + yx2) 214) (jX6_noteOut_106 yx2 yd15 ya1 yv12 (yd15.1 ya1 (z_ix ((109 : Int32) + yx2))))) (jX6_noteOut_106 yx2 yd15 ya1 yv12 yr14)))) = some (rr, dd) := h
  refine lv_aload_n hx hb dX6_noteOut_0 rfl (lv_at hl 0 rfl) ?_
  refine lv_aload_n hx hb dX6_noteOut_1 rfl (lv_at hl 1 rfl) ?_
  refine lv_iload_n hx hb dX6_noteOut_2 rfl (lv_at hl 2 rfl) ?_
  obtain ⟨yr1, yd2, yhc3, h⟩ := z_bdx h
  refine z_ki (z_rV (As := [.ref (ad ya1), .int yx2]) (rest := []) ⟨hx, hb, hml, hown, hts⟩ hK hP w_X6 rfl (kX6_outOf hI yh1 yhc3) giX6_150 ⟨rfl, rfl⟩ ndX6_outOf ⟨Nat.le_of_ble_eq_true rfl, Nat.le_of_ble_eq_true rfl⟩ rfl hl.1 rfl (Nat.le_of_ble_eq_true rfl) ⟨Nat.le_refl _, Nat.le_refl _⟩ dX6_noteOut_3) hS (fun H locs hP hS => ?_)
  refine lv_istore_n (lv' := [(3, .int yr1), (0, .ref (ad 0)), (1, .ref (ad ya1)), (2, .int yx2)]) hx hb dX6_noteOut_6 rfl hl (by decide) rfl (fun ls hl => ?_)
  refine lv_iconst (v := (0 : Int32)) hx hb dX6_noteOut_7 (by decide) ?_
  refine lv_istore (lv' := [(4, .int (0 : Int32)), (3, .int yr1), (0, .ref (ad 0)), (1, .ref (ad ya1)), (2, .int yx2)]) hx hb dX6_noteOut_8 hl (by decide) rfl (fun ls hl => ?_)
  refine lv_iconst (v := (0 : Int32)) hx hb dX6_noteOut_10 (by decide) ?_
  refine lv_istore (lv' := [(5, .int (0 : Int32)), (4, .int (0 : Int32)), (3, .int yr1), (0, .ref (ad 0)), (1, .ref (ad ya1)), (2, .int yx2)]) hx hb dX6_noteOut_11 hl (by decide) rfl (fun ls hl => ?_)
  obtain ⟨yt13, hlp, h⟩ := z_brx h
  obtain ⟨yn13, hlp⟩ := z_lpx hlp
  have hE71 : ∀ (yv12 : Int32) (yd13 : Dt) (H : Heap) (locs : List Loc) (ls : Array Slot), (yv12, yd13) = yt13 → va_P D vwCl (WM G ad yd13) H → va_S A s.heap H locs → lv_has ls 6 [(0, .ref (ad 0)), (1, .ref (ad ya1)), (2, .int yx2), (4, .int yv12)] → W p l e (z_rm 8 204) s m args below meth c H locs 0 0 Q (F0 m 71 ls []) := by
    intro yv12 yd13 H locs ls et hP hS hl
    subst et
    have h : (z_bd (fX6_heldOf yd13 ya1 yx2) fun yr14 yd15 => z_gd (z_in ((109 : Int32) + yx2) 214) (zif (yr14 ≤ (yd15.1 ya1 (z_ix ((109 : Int32) + yx2)))) (z_gd (z_in ((109 : Int32) + yx2) 214) (jX6_noteOut_106 yx2 yd15 ya1 yv12 (yd15.1 ya1 (z_ix ((109 : Int32) + yx2))))) (jX6_noteOut_106 yx2 yd15 ya1 yv12 yr14))) = some (rr, dd) := h
    refine lv_aload_n hx hb dX6_noteOut_71 rfl (lv_at hl 0 rfl) ?_
    refine lv_aload_n hx hb dX6_noteOut_72 rfl (lv_at hl 1 rfl) ?_
    refine lv_iload_n hx hb dX6_noteOut_73 rfl (lv_at hl 2 rfl) ?_
    obtain ⟨yr14, yd15, yhc74, h⟩ := z_bdx h
    refine z_ki (z_rV (As := [.ref (ad ya1), .int yx2]) (rest := []) ⟨hx, hb, hml, hown, hts⟩ hK hP w_X6 rfl (kX6_heldOf hI yh1 yhc74) giX6_157 ⟨rfl, rfl⟩ ndX6_heldOf ⟨Nat.le_of_ble_eq_true rfl, Nat.le_of_ble_eq_true rfl⟩ rfl hl.1 rfl (Nat.le_of_ble_eq_true rfl) ⟨Nat.le_refl _, Nat.le_refl _⟩ dX6_noteOut_74) hS (fun H locs hP hS => ?_)
    refine lv_istore (lv' := [(5, .int yr14), (0, .ref (ad 0)), (1, .ref (ad ya1)), (2, .int yx2), (4, .int yv12)]) hx hb dX6_noteOut_77 hl (by decide) rfl (fun ls hl => ?_)
    refine lv_aload_n hx hb dX6_noteOut_79 rfl (lv_at hl 2 rfl) ?_
    refine lv_bipush (v := (109 : Int32)) hx hb dX6_noteOut_80 (by decide) ?_
    refine lv_iload_n hx hb dX6_noteOut_82 rfl (lv_at hl 3 rfl) ?_
    refine lv_iadd hx hb dX6_noteOut_83 ?_
    refine lv_iload hx hb dX6_noteOut_84 (lv_at hl 0 rfl) ?_
    refine lv_aload_n hx hb dX6_noteOut_86 rfl (lv_at hl 2 rfl) ?_
    refine lv_bipush (v := (109 : Int32)) hx hb dX6_noteOut_87 (by decide) ?_
    refine lv_iload_n hx hb dX6_noteOut_89 rfl (lv_at hl 3 rfl) ?_
    refine lv_iadd hx hb dX6_noteOut_90 ?_
    obtain ⟨yg91, h⟩ := z_gi h
    refine al_M hx hb hK hP yh1 (by decide) yg91 dX6_noteOut_91 ?_
    have hJ106 : ∀ (yv16 : Int32) (H : Heap) (locs : List Loc) (ls : Array Slot), jX6_noteOut_106 yx2 yd15 ya1 yv12 yv16 = some (rr, dd) → va_P D vwCl (WM G ad yd15) H → va_S A s.heap H locs → lv_has ls 6 [(4, .int yv12)] → W p l e (z_rm 8 204) s m args below meth c H locs 0 0 Q (F0 m 106 ls [.int yv16, .int ((109 : Int32) + yx2), .ref (ad ya1)]) := by
      intro yv16 H locs ls h hP hS hl
      have h : (z_gd (z_in ((109 : Int32) + yx2) 214) (z_nm (z_st yd15 ya1 (z_ix ((109 : Int32) + yx2)) yv16) fun yd17 => some (yv12, yd17))) = some (rr, dd) := h
      obtain ⟨yg106, h⟩ := z_gi h
      refine as_M hx hb hK hP hI hS yh1 (by decide) yg106 dX6_noteOut_106 (fun H locs yd17 e_yd17 hP hS => ?_)
      have h := z_nma e_yd17 h
      refine lv_iload hx hb dX6_noteOut_107 (lv_at hl 0 rfl) ?_
      exact hRet _ _ _ _ _ _ hP hS h dX6_noteOut_109
    refine lv_icmp_le (tgt := 100) hx hb dX6_noteOut_92 (by decide) (fun yc92 => ?_) (fun yc92 => ?_)
    · have h := z_ifp yc92 h
      refine lv_aload_n hx hb dX6_noteOut_100 rfl (lv_at hl 2 rfl) ?_
      refine lv_bipush (v := (109 : Int32)) hx hb dX6_noteOut_101 (by decide) ?_
      refine lv_iload_n hx hb dX6_noteOut_103 rfl (lv_at hl 3 rfl) ?_
      refine lv_iadd hx hb dX6_noteOut_104 ?_
      obtain ⟨yg105, h⟩ := z_gi h
      refine al_M hx hb hK hP yh1 (by decide) yg105 dX6_noteOut_105 ?_
      exact hJ106 _ _ _ _ h hP hS (lv_sub hl [4] rfl)
    · have h := z_ifn yc92 h
      refine lv_iload hx hb dX6_noteOut_95 (lv_at hl 0 rfl) ?_
      refine lv_goto (tgt := 106) hx hb dX6_noteOut_97 (by decide) ?_
      exact hJ106 _ _ _ _ h hP hS (lv_sub hl [4] rfl)
  have hL13 : ∀ (n : Nat) (yv3 : Int32) (yv4 : Int32) (yd5 : Dt) (H : Heap) (locs : List Loc) (ls : Array Slot), z_it (bX6_noteOut_13 yr1 yx2 ya1) n (yv3, yv4, yd5) = some yt13 → va_P D vwCl (WM G ad yd5) H → va_S A s.heap H locs → lv_has ls 6 [(0, .ref (ad 0)), (1, .ref (ad ya1)), (2, .int yx2), (3, .int yr1), (4, .int yv3), (5, .int yv4)] → W p l e (z_rm 8 204) s m args below meth c H locs 0 0 Q (F0 m 13 ls []) := by
    intro n
    induction n with
    | zero => intro yv3 yv4 yd5 H locs ls hn; exact z_it0 hn
    | succ n ih =>
      intro yv3 yv4 yd5 H locs ls hn hP hS hl
      obtain ⟨yq13, h, hq1, hq2⟩ := z_itx hn
      have h : (zif ((20 : Int32) ≤ yv4) (some (.inr (yv3, yd5))) (z_br (fX6_has yr1 yv4) fun yr6 => zif (yr6 = 0) (jX6_noteOut_65 yv4 yv3 yd5) (z_gd (z_in (((114 : Int32) + ((20 : Int32) * yx2)) + yv4) 214) (zif ((yd5.1 ya1 (z_ix (((114 : Int32) + ((20 : Int32) * yx2)) + yv4))) = (-9 : Int32)) (z_gd (z_in (((114 : Int32) + ((20 : Int32) * yx2)) + yv4) 214) (z_nm (z_st yd5 ya1 (z_ix (((114 : Int32) + ((20 : Int32) * yx2)) + yv4)) (yd5.1 ya1 (z_ix (82 : Int32)))) fun yd10 => z_nm (yv3 + (1 : Int32)) fun yv11 => jX6_noteOut_65 yv4 yv11 yd10)) (jX6_noteOut_65 yv4 yv3 yd5))))) = some yq13 := h
      refine lv_iload hx hb dX6_noteOut_13 (lv_at hl 5 rfl) ?_
      refine lv_bipush (v := (20 : Int32)) hx hb dX6_noteOut_15 (by decide) ?_
      refine lv_icmp_ge (tgt := 71) hx hb dX6_noteOut_17 (by decide) (fun yc17 => ?_) (fun yc17 => ?_)
      · have h := z_ifp yc17 h
        exact hE71 _ _ _ _ _ (hq2 _ (z_sm h).symm) hP hS (lv_sub hl [0, 1, 2, 4] rfl)
      · have h := z_ifn yc17 h
        refine lv_iload_n hx hb dX6_noteOut_20 rfl (lv_at hl 3 rfl) ?_
        refine lv_iload hx hb dX6_noteOut_21 (lv_at hl 5 rfl) ?_
        obtain ⟨yr6, yhc23, h⟩ := z_brx h
        refine z_kz (z_rS (As := [.int yr1, .int yv4]) (rest := []) ⟨hx, hb, hml, hown, hts⟩ hK hP (kX6_has yhc23) giX6_122 ⟨rfl, rfl⟩ ndX6_has ⟨Nat.le_of_ble_eq_true rfl, Nat.le_of_ble_eq_true rfl⟩ rfl hl.1 rfl (Nat.le_of_ble_eq_true rfl) ⟨Nat.le_refl _, Nat.le_refl _⟩ dX6_noteOut_23) hS (fun H locs z_yr6 hP hS => ?_)
        have hJ65 : ∀ (yv7 : Int32) (yd8 : Dt) (H : Heap) (locs : List Loc) (ls : Array Slot), jX6_noteOut_65 yv4 yv7 yd8 = some yq13 → va_P D vwCl (WM G ad yd8) H → va_S A s.heap H locs → lv_has ls 6 [(0, .ref (ad 0)), (1, .ref (ad ya1)), (2, .int yx2), (3, .int yr1), (4, .int yv7), (5, .int yv4)] → W p l e (z_rm 8 204) s m args below meth c H locs 0 0 Q (F0 m 65 ls []) := by
          intro yv7 yd8 H locs ls h hP hS hl
          have h : (z_nm (yv4 + (1 : Int32)) fun yv9 => some (.inl (yv7, yv9, yd8))) = some yq13 := h
          obtain ⟨yv9, e_yv9, h⟩ := z_nmx h
          refine lv_iinc (v := yv9) (lv' := [(5, .int yv9), (0, .ref (ad 0)), (1, .ref (ad ya1)), (2, .int yx2), (3, .int yr1), (4, .int yv7)]) hx hb dX6_noteOut_65 hl (k := 5) rfl (by rw [e_yv9]; rfl) (by decide) rfl (fun ls hl => ?_)
          refine lv_goto (tgt := 13) hx hb dX6_noteOut_68 (by decide) ?_
          exact ih _ _ _ _ _ _ (hq1 _ (z_sm h).symm) hP hS (lv_sub hl [1, 2, 3, 4, 5, 0] rfl)
        refine lv_if_eq (tgt := 65) hx hb dX6_noteOut_26 (by decide) (fun yc26 => ?_) (fun yc26 => ?_)
        · have h := z_ifp yc26 h
          exact hJ65 _ _ _ _ _ h hP hS (lv_sub hl [0, 1, 2, 3, 4, 5] rfl)
        · have h := z_ifn yc26 h
          refine lv_aload_n hx hb dX6_noteOut_29 rfl (lv_at hl 1 rfl) ?_
          refine lv_bipush (v := (114 : Int32)) hx hb dX6_noteOut_30 (by decide) ?_
          refine lv_bipush (v := (20 : Int32)) hx hb dX6_noteOut_32 (by decide) ?_
          refine lv_iload_n hx hb dX6_noteOut_34 rfl (lv_at hl 2 rfl) ?_
          refine lv_imul hx hb dX6_noteOut_35 ?_
          refine lv_iadd hx hb dX6_noteOut_36 ?_
          refine lv_iload hx hb dX6_noteOut_37 (lv_at hl 5 rfl) ?_
          refine lv_iadd hx hb dX6_noteOut_39 ?_
          obtain ⟨yg40, h⟩ := z_gi h
          refine al_M hx hb hK hP yh1 (by decide) yg40 dX6_noteOut_40 ?_
          refine lv_bipush (v := (-9 : Int32)) hx hb dX6_noteOut_41 (by decide) ?_
          refine lv_icmp_ne (tgt := 65) hx hb dX6_noteOut_43 (by decide) (fun yc43 => ?_) (fun yc43 => ?_)
          · have h := z_ifn yc43 h
            exact hJ65 _ _ _ _ _ h hP hS (lv_sub hl [0, 1, 2, 3, 4, 5] rfl)
          · have h := z_ifp yc43 h
            refine lv_aload_n hx hb dX6_noteOut_46 rfl (lv_at hl 1 rfl) ?_
            refine lv_bipush (v := (114 : Int32)) hx hb dX6_noteOut_47 (by decide) ?_
            refine lv_bipush (v := (20 : Int32)) hx hb dX6_noteOut_49 (by decide) ?_
            refine lv_iload_n hx hb dX6_noteOut_51 rfl (lv_at hl 2 rfl) ?_
            refine lv_imul hx hb dX6_noteOut_52 ?_
            refine lv_iadd hx hb dX6_noteOut_53 ?_
            refine lv_iload hx hb dX6_noteOut_54 (lv_at hl 5 rfl) ?_
            refine lv_iadd hx hb dX6_noteOut_56 ?_
            refine lv_aload_n hx hb dX6_noteOut_57 rfl (lv_at hl 1 rfl) ?_
            refine lv_bipush (v := (82 : Int32)) hx hb dX6_noteOut_58 (by decide) ?_
            refine al_M hx hb hK hP yh1 (by decide) (z_li (by decide) : vp_in (82 : Int32) 214) dX6_noteOut_60 ?_
            obtain ⟨yg61, h⟩ := z_gi h
            refine as_M hx hb hK hP hI hS yh1 (by decide) yg61 dX6_noteOut_61 (fun H locs yd10 e_yd10 hP hS => ?_)
            have h := z_nma e_yd10 h
            obtain ⟨yv11, e_yv11, h⟩ := z_nmx h
            refine lv_iinc (v := yv11) (lv' := [(4, .int yv11), (0, .ref (ad 0)), (1, .ref (ad ya1)), (2, .int yx2), (3, .int yr1), (5, .int yv4)]) hx hb dX6_noteOut_62 hl (k := 4) rfl (by rw [e_yv11]; rfl) (by decide) rfl (fun ls hl => ?_)
            exact hJ65 _ _ _ _ _ h hP hS (lv_sub hl [1, 2, 3, 4, 0, 5] rfl)
  exact hL13 yn13 _ _ _ _ _ _ hlp hP hS (lv_sub hl [3, 4, 5, 2, 1, 0] rfl)
noncomputable def bX6_noteAll_12 (ya1 : Nat) (s : Int32 × Int32 × Dt) : Option ((Int32 × Int32 × Dt) ⊕ (Int32 × Dt)) := match s with
  | (yv2, yv3, yd4) => zif ((yd4.1 ya1 (z_ix (83 : Int32))) ≤ yv3) (some (.inr (yv2, yd4))) (z_bd (fX6_noteOut yd4 ya1 yv3) fun yr5 yd6 => z_nm (yv2 + yr5) fun yv7 => z_nm (yv3 + (1 : Int32)) fun yv8 => some (.inl (yv7, yv8, yd6)))
noncomputable def fX6_noteAll (yd : Dt) (ya1 : Nat) : Option (Int32 × Dt) :=
  z_nm (z_st yd ya1 (z_ix (82 : Int32)) ((yd.1 ya1 (z_ix (82 : Int32))) + (1 : Int32))) fun yd1 => z_br (z_lp (bX6_noteAll_12 ya1) ((0 : Int32), (0 : Int32), yd1)) (fun t => match t with | (yv9, yd10) => some (yv9, yd10))
set_option maxHeartbeats 4000000 in
set_option maxRecDepth 100000 in
theorem kX6_noteAll {l : Launch} {D : va_G} {G : z_G} {ad : Nat → Nat} {A : Nat → Prop} (hI : ∀ d, va_D A (WM G ad d)) {yd : Dt} {ya1 : Nat} (yh1 : arM ya1 = 214) {rr : Int32} {dd : Dt} (h : fX6_noteAll yd ya1 = some (rr, dd)) : z_Mi l D G A (WM G ad) yX6_noteAll cX6_noteAll 4 (z_rm 9 229) yd [.ref (ad 0), .ref (ad ya1)] rr dd := by
  refine z_ofi (by decide) (Nat.le_of_ble_eq_true rfl) fun p e s m args below meth c Q hx hb hml hown hts hK hP hRet ls hl => ?_
  have hS : va_S A s.heap s.heap [] := va_S.rf
  have hl : lv_has ls 4 [(0, .ref (ad 0)), (1, .ref (ad ya1))] := hl
  have h : (z_nm (z_st yd ya1 (z_ix (82 : Int32)) ((yd.1 ya1 (z_ix (82 : Int32))) + (1 : Int32))) fun yd1 => z_br (z_lp (bX6_noteAll_12 ya1) ((0 : Int32), (0 : Int32), yd1)) (fun t => match t with | (yv9, yd10) => some (yv9, yd10))) = some (rr, dd) := h
  refine lv_aload_n hx hb dX6_noteAll_0 rfl (lv_at hl 1 rfl) ?_
  refine lv_bipush (v := (82 : Int32)) hx hb dX6_noteAll_1 (by decide) ?_
  refine lv_dup2_11 hx hb dX6_noteAll_3 rfl rfl ?_
  refine al_M hx hb hK hP yh1 (by decide) (z_li (by decide) : vp_in (82 : Int32) 214) dX6_noteAll_4 ?_
  refine lv_iconst (v := (1 : Int32)) hx hb dX6_noteAll_5 (by decide) ?_
  refine lv_iadd hx hb dX6_noteAll_6 ?_
  refine as_M hx hb hK hP hI hS yh1 (by decide) (z_li (by decide) : vp_in (82 : Int32) 214) dX6_noteAll_7 (fun H locs yd1 e_yd1 hP hS => ?_)
  have h := z_nma e_yd1 h
  refine lv_iconst (v := (0 : Int32)) hx hb dX6_noteAll_8 (by decide) ?_
  refine lv_istore_n (lv' := [(2, .int (0 : Int32)), (0, .ref (ad 0)), (1, .ref (ad ya1))]) hx hb dX6_noteAll_9 rfl hl (by decide) rfl (fun ls hl => ?_)
  refine lv_iconst (v := (0 : Int32)) hx hb dX6_noteAll_10 (by decide) ?_
  refine lv_istore_n (lv' := [(3, .int (0 : Int32)), (2, .int (0 : Int32)), (0, .ref (ad 0)), (1, .ref (ad ya1))]) hx hb dX6_noteAll_11 rfl hl (by decide) rfl (fun ls hl => ?_)
  obtain ⟨yt12, hlp, h⟩ := z_brx h
  obtain ⟨yn12, hlp⟩ := z_lpx hlp
  have hE35 : ∀ (yv9 : Int32) (yd10 : Dt) (H : Heap) (locs : List Loc) (ls : Array Slot), (yv9, yd10) = yt12 → va_P D vwCl (WM G ad yd10) H → va_S A s.heap H locs → lv_has ls 4 [(2, .int yv9)] → W p l e (z_rm 9 229) s m args below meth c H locs 0 0 Q (F0 m 35 ls []) := by
    intro yv9 yd10 H locs ls et hP hS hl
    subst et
    have h : (some (yv9, yd10)) = some (rr, dd) := h
    refine lv_iload_n hx hb dX6_noteAll_35 rfl (lv_at hl 0 rfl) ?_
    exact hRet _ _ _ _ _ _ hP hS h dX6_noteAll_36
  have hL12 : ∀ (n : Nat) (yv2 : Int32) (yv3 : Int32) (yd4 : Dt) (H : Heap) (locs : List Loc) (ls : Array Slot), z_it (bX6_noteAll_12 ya1) n (yv2, yv3, yd4) = some yt12 → va_P D vwCl (WM G ad yd4) H → va_S A s.heap H locs → lv_has ls 4 [(0, .ref (ad 0)), (1, .ref (ad ya1)), (2, .int yv2), (3, .int yv3)] → W p l e (z_rm 9 229) s m args below meth c H locs 0 0 Q (F0 m 12 ls []) := by
    intro n
    induction n with
    | zero => intro yv2 yv3 yd4 H locs ls hn; exact z_it0 hn
    | succ n ih =>
      intro yv2 yv3 yd4 H locs ls hn hP hS hl
      obtain ⟨yq12, h, hq1, hq2⟩ := z_itx hn
      have h : (zif ((yd4.1 ya1 (z_ix (83 : Int32))) ≤ yv3) (some (.inr (yv2, yd4))) (z_bd (fX6_noteOut yd4 ya1 yv3) fun yr5 yd6 => z_nm (yv2 + yr5) fun yv7 => z_nm (yv3 + (1 : Int32)) fun yv8 => some (.inl (yv7, yv8, yd6)))) = some yq12 := h
      refine lv_iload_n hx hb dX6_noteAll_12 rfl (lv_at hl 3 rfl) ?_
      refine lv_aload_n hx hb dX6_noteAll_13 rfl (lv_at hl 1 rfl) ?_
      refine lv_bipush (v := (83 : Int32)) hx hb dX6_noteAll_14 (by decide) ?_
      refine al_M hx hb hK hP yh1 (by decide) (z_li (by decide) : vp_in (83 : Int32) 214) dX6_noteAll_16 ?_
      refine lv_icmp_ge (tgt := 35) hx hb dX6_noteAll_17 (by decide) (fun yc17 => ?_) (fun yc17 => ?_)
      · have h := z_ifp yc17 h
        exact hE35 _ _ _ _ _ (hq2 _ (z_sm h).symm) hP hS (lv_sub hl [2] rfl)
      · have h := z_ifn yc17 h
        refine lv_iload_n hx hb dX6_noteAll_20 rfl (lv_at hl 2 rfl) ?_
        refine lv_aload_n hx hb dX6_noteAll_21 rfl (lv_at hl 0 rfl) ?_
        refine lv_aload_n hx hb dX6_noteAll_22 rfl (lv_at hl 1 rfl) ?_
        refine lv_iload_n hx hb dX6_noteAll_23 rfl (lv_at hl 3 rfl) ?_
        obtain ⟨yr5, yd6, yhc24, h⟩ := z_bdx h
        refine z_ki (z_rV (As := [.ref (ad ya1), .int yv3]) (rest := [.int yv2]) ⟨hx, hb, hml, hown, hts⟩ hK hP w_X6 rfl (kX6_noteOut hI yh1 yhc24) giX6_160 ⟨rfl, rfl⟩ ndX6_noteOut ⟨Nat.le_of_ble_eq_true rfl, Nat.le_of_ble_eq_true rfl⟩ rfl hl.1 rfl (Nat.le_of_ble_eq_true rfl) ⟨Nat.le_refl _, Nat.le_refl _⟩ dX6_noteAll_24) hS (fun H locs hP hS => ?_)
        refine lv_iadd hx hb dX6_noteAll_27 ?_
        refine lv_topi (fun yv7 e_yv7 => ?_)
        have h := z_nma e_yv7 h
        refine lv_istore_n (lv' := [(2, .int yv7), (0, .ref (ad 0)), (1, .ref (ad ya1)), (3, .int yv3)]) hx hb dX6_noteAll_28 rfl hl (by decide) rfl (fun ls hl => ?_)
        obtain ⟨yv8, e_yv8, h⟩ := z_nmx h
        refine lv_iinc (v := yv8) (lv' := [(3, .int yv8), (2, .int yv7), (0, .ref (ad 0)), (1, .ref (ad ya1))]) hx hb dX6_noteAll_29 hl (k := 3) rfl (by rw [e_yv8]; rfl) (by decide) rfl (fun ls hl => ?_)
        refine lv_goto (tgt := 12) hx hb dX6_noteAll_32 (by decide) ?_
        exact ih _ _ _ _ _ _ (hq1 _ (z_sm h).symm) hP hS (lv_sub hl [2, 3, 1, 0] rfl)
  exact hL12 yn12 _ _ _ _ _ _ hlp hP hS (lv_sub hl [2, 3, 1, 0] rfl)
noncomputable def bX6_depthOf_4 (yd : Dt) (ya0 : Nat) (s : Int32 × Int32) : Option ((Int32 × Int32) ⊕ (Int32)) := match s with
  | (yv1, yv2) => zif (yv2 = (-9 : Int32)) (some (.inr yv1)) (z_nm (yv1 + (1 : Int32)) fun yv3 => z_gd (z_in ((20 : Int32) + yv2) 214) (z_nm (yd.1 ya0 (z_ix ((20 : Int32) + yv2))) fun yv4 => some (.inl (yv3, yv4))))
noncomputable def fX6_depthOf (yd : Dt) (ya0 : Nat) (yx1 : Int32) : Option Int32 :=
  z_br (z_lp (bX6_depthOf_4 yd ya0) ((0 : Int32), yx1)) (fun t => match t with | yv5 => some yv5)
set_option maxHeartbeats 4000000 in
set_option maxRecDepth 100000 in
theorem kX6_depthOf {l : Launch} {D : va_G} {G : z_G} {ad : Nat → Nat} {A : Nat → Prop} (hI : ∀ d, va_D A (WM G ad d)) {yd : Dt} {ya0 : Nat} {yx1 : Int32} (yh0 : arM ya0 = 214) {rr : Int32} (h : fX6_depthOf yd ya0 yx1 = some rr) : z_Mi l D G A (WM G ad) yX6_depthOf cX6_depthOf 4 (z_rm 0 0) yd [.ref (ad ya0), .int yx1] rr yd := by
  refine z_ofi (by decide) (Nat.le_of_ble_eq_true rfl) fun p e s m args below meth c Q hx hb hml hown hts hK hP hRet ls hl => ?_
  have hS : va_S A s.heap s.heap [] := va_S.rf
  have hl : lv_has ls 4 [(0, .ref (ad ya0)), (1, .int yx1)] := hl
  have h : (z_br (z_lp (bX6_depthOf_4 yd ya0) ((0 : Int32), yx1)) (fun t => match t with | yv5 => some yv5)) = some rr := h
  refine lv_iconst (v := (0 : Int32)) hx hb dX6_depthOf_0 (by decide) ?_
  refine lv_istore_n (lv' := [(2, .int (0 : Int32)), (0, .ref (ad ya0)), (1, .int yx1)]) hx hb dX6_depthOf_1 rfl hl (by decide) rfl (fun ls hl => ?_)
  refine lv_iload_n hx hb dX6_depthOf_2 rfl (lv_at hl 2 rfl) ?_
  refine lv_istore_n (lv' := [(3, .int yx1), (2, .int (0 : Int32)), (0, .ref (ad ya0)), (1, .int yx1)]) hx hb dX6_depthOf_3 rfl hl (by decide) rfl (fun ls hl => ?_)
  obtain ⟨yt4, hlp, h⟩ := z_brx h
  obtain ⟨yn4, hlp⟩ := z_lpx hlp
  have hE23 : ∀ (yv5 : Int32) (H : Heap) (locs : List Loc) (ls : Array Slot), yv5 = yt4 → va_P D vwCl (WM G ad yd) H → va_S A s.heap H locs → lv_has ls 4 [(2, .int yv5)] → W p l e (z_rm 0 0) s m args below meth c H locs 0 0 Q (F0 m 23 ls []) := by
    intro yv5 H locs ls et hP hS hl
    subst et
    have h : (some yv5) = some rr := h
    refine lv_iload_n hx hb dX6_depthOf_23 rfl (lv_at hl 0 rfl) ?_
    exact hRet _ _ _ _ _ _ hP hS (z_pair h) dX6_depthOf_24
  have hL4 : ∀ (n : Nat) (yv1 : Int32) (yv2 : Int32) (H : Heap) (locs : List Loc) (ls : Array Slot), z_it (bX6_depthOf_4 yd ya0) n (yv1, yv2) = some yt4 → va_P D vwCl (WM G ad yd) H → va_S A s.heap H locs → lv_has ls 4 [(0, .ref (ad ya0)), (2, .int yv1), (3, .int yv2)] → W p l e (z_rm 0 0) s m args below meth c H locs 0 0 Q (F0 m 4 ls []) := by
    intro n
    induction n with
    | zero => intro yv1 yv2 H locs ls hn; exact z_it0 hn
    | succ n ih =>
      intro yv1 yv2 H locs ls hn hP hS hl
      obtain ⟨yq4, h, hq1, hq2⟩ := z_itx hn
      have h : (zif (yv2 = (-9 : Int32)) (some (.inr yv1)) (z_nm (yv1 + (1 : Int32)) fun yv3 => z_gd (z_in ((20 : Int32) + yv2) 214) (z_nm (yd.1 ya0 (z_ix ((20 : Int32) + yv2))) fun yv4 => some (.inl (yv3, yv4))))) = some yq4 := h
      refine lv_iload_n hx hb dX6_depthOf_4 rfl (lv_at hl 2 rfl) ?_
      refine lv_bipush (v := (-9 : Int32)) hx hb dX6_depthOf_5 (by decide) ?_
      refine lv_icmp_eq (tgt := 23) hx hb dX6_depthOf_7 (by decide) (fun yc7 => ?_) (fun yc7 => ?_)
      · have h := z_ifp yc7 h
        exact hE23 _ _ _ _ (hq2 _ (z_sm h).symm) hP hS (lv_sub hl [1] rfl)
      · have h := z_ifn yc7 h
        obtain ⟨yv3, e_yv3, h⟩ := z_nmx h
        refine lv_iinc (v := yv3) (lv' := [(2, .int yv3), (0, .ref (ad ya0)), (3, .int yv2)]) hx hb dX6_depthOf_10 hl (k := 1) rfl (by rw [e_yv3]; rfl) (by decide) rfl (fun ls hl => ?_)
        refine lv_aload_n hx hb dX6_depthOf_13 rfl (lv_at hl 1 rfl) ?_
        refine lv_bipush (v := (20 : Int32)) hx hb dX6_depthOf_14 (by decide) ?_
        refine lv_iload_n hx hb dX6_depthOf_16 rfl (lv_at hl 2 rfl) ?_
        refine lv_iadd hx hb dX6_depthOf_17 ?_
        obtain ⟨yg18, h⟩ := z_gi h
        refine al_M hx hb hK hP yh0 (by decide) yg18 dX6_depthOf_18 ?_
        refine lv_topi (fun yv4 e_yv4 => ?_)
        have h := z_nma e_yv4 h
        refine lv_istore_n (lv' := [(3, .int yv4), (2, .int yv3), (0, .ref (ad ya0))]) hx hb dX6_depthOf_19 rfl hl (by decide) rfl (fun ls hl => ?_)
        refine lv_goto (tgt := 4) hx hb dX6_depthOf_20 (by decide) ?_
        exact ih _ _ _ _ _ (hq1 _ (z_sm h).symm) hP hS (lv_sub hl [2, 1, 0] rfl)
  exact hL4 yn4 _ _ _ _ _ hlp hP hS (lv_sub hl [2, 1, 0] rfl)
noncomputable def fX6_mayOpen (yd : Dt) (ya0 : Nat) : Option Int32 :=
  zif ((yd.1 ya0 (z_ix (80 : Int32))) = 0) (some (1 : Int32)) (zif ((yd.1 ya0 (z_ix (81 : Int32))) = (-9 : Int32)) (some (0 : Int32)) (z_br (fX6_depthOf yd ya0 (yd.1 ya0 (z_ix (81 : Int32)))) fun yr1 => zif ((8 : Int32) ≤ yr1) (some (0 : Int32)) (some (1 : Int32))))
set_option maxHeartbeats 4000000 in
set_option maxRecDepth 100000 in
theorem kX6_mayOpen {l : Launch} {D : va_G} {G : z_G} {ad : Nat → Nat} {A : Nat → Prop} (hI : ∀ d, va_D A (WM G ad d)) {yd : Dt} {ya0 : Nat} (yh0 : arM ya0 = 214) {rr : Int32} (h : fX6_mayOpen yd ya0 = some rr) : z_Mz l D G A (WM G ad) yX6_mayOpen cX6_mayOpen 1 (z_rm 1 23) yd [.ref (ad ya0)] rr yd := by
  refine z_ofz (by decide) (Nat.le_of_ble_eq_true rfl) fun p e s m args below meth c Q hx hb hml hown hts hK hP hRet ls hl => ?_
  have hS : va_S A s.heap s.heap [] := va_S.rf
  have hl : lv_has ls 1 [(0, .ref (ad ya0))] := hl
  have h : (zif ((yd.1 ya0 (z_ix (80 : Int32))) = 0) (some (1 : Int32)) (zif ((yd.1 ya0 (z_ix (81 : Int32))) = (-9 : Int32)) (some (0 : Int32)) (z_br (fX6_depthOf yd ya0 (yd.1 ya0 (z_ix (81 : Int32)))) fun yr1 => zif ((8 : Int32) ≤ yr1) (some (0 : Int32)) (some (1 : Int32))))) = some rr := h
  refine lv_aload_n hx hb dX6_mayOpen_0 rfl (lv_at hl 0 rfl) ?_
  refine lv_bipush (v := (80 : Int32)) hx hb dX6_mayOpen_1 (by decide) ?_
  refine al_M hx hb hK hP yh0 (by decide) (z_li (by decide) : vp_in (80 : Int32) 214) dX6_mayOpen_3 ?_
  refine lv_if_eq (tgt := 29) hx hb dX6_mayOpen_4 (by decide) (fun yc4 => ?_) (fun yc4 => ?_)
  · have h := z_ifp yc4 h
    refine lv_iconst (v := (1 : Int32)) hx hb dX6_mayOpen_29 (by decide) ?_
    refine lv_goto (tgt := 34) hx hb dX6_mayOpen_30 (by decide) ?_
    exact hRet _ _ _ _ _ _ hP hS (Or.inr rfl) (z_pair h) dX6_mayOpen_34
  · have h := z_ifn yc4 h
    refine lv_aload_n hx hb dX6_mayOpen_7 rfl (lv_at hl 0 rfl) ?_
    refine lv_bipush (v := (81 : Int32)) hx hb dX6_mayOpen_8 (by decide) ?_
    refine al_M hx hb hK hP yh0 (by decide) (z_li (by decide) : vp_in (81 : Int32) 214) dX6_mayOpen_10 ?_
    refine lv_bipush (v := (-9 : Int32)) hx hb dX6_mayOpen_11 (by decide) ?_
    refine lv_icmp_eq (tgt := 33) hx hb dX6_mayOpen_13 (by decide) (fun yc13 => ?_) (fun yc13 => ?_)
    · have h := z_ifp yc13 h
      refine lv_iconst (v := (0 : Int32)) hx hb dX6_mayOpen_33 (by decide) ?_
      exact hRet _ _ _ _ _ _ hP hS (Or.inl rfl) (z_pair h) dX6_mayOpen_34
    · have h := z_ifn yc13 h
      refine lv_aload_n hx hb dX6_mayOpen_16 rfl (lv_at hl 0 rfl) ?_
      refine lv_aload_n hx hb dX6_mayOpen_17 rfl (lv_at hl 0 rfl) ?_
      refine lv_bipush (v := (81 : Int32)) hx hb dX6_mayOpen_18 (by decide) ?_
      refine al_M hx hb hK hP yh0 (by decide) (z_li (by decide) : vp_in (81 : Int32) 214) dX6_mayOpen_20 ?_
      obtain ⟨yr1, yhc21, h⟩ := z_brx h
      refine z_ki (z_rS (As := [.ref (ad ya0), .int (yd.1 ya0 (z_ix (81 : Int32)))]) (rest := []) ⟨hx, hb, hml, hown, hts⟩ hK hP (kX6_depthOf hI yh0 yhc21) giX6_163 ⟨rfl, rfl⟩ ndX6_depthOf ⟨Nat.le_of_ble_eq_true rfl, Nat.le_of_ble_eq_true rfl⟩ rfl hl.1 rfl (Nat.le_of_ble_eq_true rfl) ⟨Nat.le_refl _, Nat.le_refl _⟩ dX6_mayOpen_21) hS (fun H locs hP hS => ?_)
      refine lv_bipush (v := (8 : Int32)) hx hb dX6_mayOpen_24 (by decide) ?_
      refine lv_icmp_ge (tgt := 33) hx hb dX6_mayOpen_26 (by decide) (fun yc26 => ?_) (fun yc26 => ?_)
      · have h := z_ifp yc26 h
        refine lv_iconst (v := (0 : Int32)) hx hb dX6_mayOpen_33 (by decide) ?_
        exact hRet _ _ _ _ _ _ hP hS (Or.inl rfl) (z_pair h) dX6_mayOpen_34
      · have h := z_ifn yc26 h
        refine lv_iconst (v := (1 : Int32)) hx hb dX6_mayOpen_29 (by decide) ?_
        refine lv_goto (tgt := 34) hx hb dX6_mayOpen_30 (by decide) ?_
        exact hRet _ _ _ _ _ _ hP hS (Or.inr rfl) (z_pair h) dX6_mayOpen_34
noncomputable def fX6_openOn (yd : Dt) (ya1 : Nat) (yx2 : Int32) : Option (Dt) :=
  z_nm (yd.1 ya1 (z_ix (80 : Int32))) fun yv1 => z_gd (z_in yv1 214) (z_nm (z_st yd ya1 (z_ix yv1) yx2) fun yd2 => z_gd (z_in ((20 : Int32) + yv1) 214) (z_nm (z_st yd2 ya1 (z_ix ((20 : Int32) + yv1)) (yd2.1 ya1 (z_ix (81 : Int32)))) fun yd3 => z_gd (z_in ((40 : Int32) + yv1) 214) (z_nm (z_st yd3 ya1 (z_ix ((40 : Int32) + yv1)) (1 : Int32)) fun yd4 => z_gd (z_in ((60 : Int32) + yv1) 214) (z_nm (z_st yd4 ya1 (z_ix ((60 : Int32) + yv1)) (0 : Int32)) fun yd5 => z_nm (z_st yd5 ya1 (z_ix (81 : Int32)) yv1) fun yd6 => z_nm (z_st yd6 ya1 (z_ix (80 : Int32)) ((yd6.1 ya1 (z_ix (80 : Int32))) + (1 : Int32))) fun yd7 => z_bd (fX6_noteAll yd7 ya1) fun yr8 yd9 => some yd9))))
set_option maxHeartbeats 4000000 in
set_option maxRecDepth 100000 in
theorem kX6_openOn {l : Launch} {D : va_G} {G : z_G} {ad : Nat → Nat} {A : Nat → Prop} (hI : ∀ d, va_D A (WM G ad d)) {yd : Dt} {ya1 : Nat} {yx2 : Int32} (yh1 : arM ya1 = 214) {dd : Dt} (h : fX6_openOn yd ya1 yx2 = some dd) : z_Mv l D G A (WM G ad) yX6_openOn cX6_openOn 5 (z_rm 10 252) yd [.ref (ad 0), .ref (ad ya1), .int yx2] dd := by
  refine z_ofv (by decide) (Nat.le_of_ble_eq_true rfl) fun p e s m args below meth c Q hx hb hml hown hts hK hP hRet ls hl => ?_
  have hS : va_S A s.heap s.heap [] := va_S.rf
  have hl : lv_has ls 5 [(0, .ref (ad 0)), (1, .ref (ad ya1)), (2, .int yx2)] := hl
  have h : (z_nm (yd.1 ya1 (z_ix (80 : Int32))) fun yv1 => z_gd (z_in yv1 214) (z_nm (z_st yd ya1 (z_ix yv1) yx2) fun yd2 => z_gd (z_in ((20 : Int32) + yv1) 214) (z_nm (z_st yd2 ya1 (z_ix ((20 : Int32) + yv1)) (yd2.1 ya1 (z_ix (81 : Int32)))) fun yd3 => z_gd (z_in ((40 : Int32) + yv1) 214) (z_nm (z_st yd3 ya1 (z_ix ((40 : Int32) + yv1)) (1 : Int32)) fun yd4 => z_gd (z_in ((60 : Int32) + yv1) 214) (z_nm (z_st yd4 ya1 (z_ix ((60 : Int32) + yv1)) (0 : Int32)) fun yd5 => z_nm (z_st yd5 ya1 (z_ix (81 : Int32)) yv1) fun yd6 => z_nm (z_st yd6 ya1 (z_ix (80 : Int32)) ((yd6.1 ya1 (z_ix (80 : Int32))) + (1 : Int32))) fun yd7 => z_bd (fX6_noteAll yd7 ya1) fun yr8 yd9 => some yd9))))) = some dd := h
  refine lv_aload_n hx hb dX6_openOn_0 rfl (lv_at hl 1 rfl) ?_
  refine lv_bipush (v := (80 : Int32)) hx hb dX6_openOn_1 (by decide) ?_
  refine al_M hx hb hK hP yh1 (by decide) (z_li (by decide) : vp_in (80 : Int32) 214) dX6_openOn_3 ?_
  refine lv_topi (fun yv1 e_yv1 => ?_)
  have h := z_nma e_yv1 h
  refine lv_istore_n (lv' := [(3, .int yv1), (0, .ref (ad 0)), (1, .ref (ad ya1)), (2, .int yx2)]) hx hb dX6_openOn_4 rfl hl (by decide) rfl (fun ls hl => ?_)
  refine lv_aload_n hx hb dX6_openOn_5 rfl (lv_at hl 2 rfl) ?_
  refine lv_iload_n hx hb dX6_openOn_6 rfl (lv_at hl 0 rfl) ?_
  refine lv_iload_n hx hb dX6_openOn_7 rfl (lv_at hl 3 rfl) ?_
  obtain ⟨yg8, h⟩ := z_gi h
  refine as_M hx hb hK hP hI hS yh1 (by decide) yg8 dX6_openOn_8 (fun H locs yd2 e_yd2 hP hS => ?_)
  have h := z_nma e_yd2 h
  refine lv_aload_n hx hb dX6_openOn_9 rfl (lv_at hl 2 rfl) ?_
  refine lv_bipush (v := (20 : Int32)) hx hb dX6_openOn_10 (by decide) ?_
  refine lv_iload_n hx hb dX6_openOn_12 rfl (lv_at hl 0 rfl) ?_
  refine lv_iadd hx hb dX6_openOn_13 ?_
  refine lv_aload_n hx hb dX6_openOn_14 rfl (lv_at hl 2 rfl) ?_
  refine lv_bipush (v := (81 : Int32)) hx hb dX6_openOn_15 (by decide) ?_
  refine al_M hx hb hK hP yh1 (by decide) (z_li (by decide) : vp_in (81 : Int32) 214) dX6_openOn_17 ?_
  obtain ⟨yg18, h⟩ := z_gi h
  refine as_M hx hb hK hP hI hS yh1 (by decide) yg18 dX6_openOn_18 (fun H locs yd3 e_yd3 hP hS => ?_)
  have h := z_nma e_yd3 h
  refine lv_aload_n hx hb dX6_openOn_19 rfl (lv_at hl 2 rfl) ?_
  refine lv_bipush (v := (40 : Int32)) hx hb dX6_openOn_20 (by decide) ?_
  refine lv_iload_n hx hb dX6_openOn_22 rfl (lv_at hl 0 rfl) ?_
  refine lv_iadd hx hb dX6_openOn_23 ?_
  refine lv_iconst (v := (1 : Int32)) hx hb dX6_openOn_24 (by decide) ?_
  obtain ⟨yg25, h⟩ := z_gi h
  refine as_M hx hb hK hP hI hS yh1 (by decide) yg25 dX6_openOn_25 (fun H locs yd4 e_yd4 hP hS => ?_)
  have h := z_nma e_yd4 h
  refine lv_aload_n hx hb dX6_openOn_26 rfl (lv_at hl 2 rfl) ?_
  refine lv_bipush (v := (60 : Int32)) hx hb dX6_openOn_27 (by decide) ?_
  refine lv_iload_n hx hb dX6_openOn_29 rfl (lv_at hl 0 rfl) ?_
  refine lv_iadd hx hb dX6_openOn_30 ?_
  refine lv_iconst (v := (0 : Int32)) hx hb dX6_openOn_31 (by decide) ?_
  obtain ⟨yg32, h⟩ := z_gi h
  refine as_M hx hb hK hP hI hS yh1 (by decide) yg32 dX6_openOn_32 (fun H locs yd5 e_yd5 hP hS => ?_)
  have h := z_nma e_yd5 h
  refine lv_aload_n hx hb dX6_openOn_33 rfl (lv_at hl 2 rfl) ?_
  refine lv_bipush (v := (81 : Int32)) hx hb dX6_openOn_34 (by decide) ?_
  refine lv_iload_n hx hb dX6_openOn_36 rfl (lv_at hl 0 rfl) ?_
  refine as_M hx hb hK hP hI hS yh1 (by decide) (z_li (by decide) : vp_in (81 : Int32) 214) dX6_openOn_37 (fun H locs yd6 e_yd6 hP hS => ?_)
  have h := z_nma e_yd6 h
  refine lv_aload_n hx hb dX6_openOn_38 rfl (lv_at hl 2 rfl) ?_
  refine lv_bipush (v := (80 : Int32)) hx hb dX6_openOn_39 (by decide) ?_
  refine lv_dup2_11 hx hb dX6_openOn_41 rfl rfl ?_
  refine al_M hx hb hK hP yh1 (by decide) (z_li (by decide) : vp_in (80 : Int32) 214) dX6_openOn_42 ?_
  refine lv_iconst (v := (1 : Int32)) hx hb dX6_openOn_43 (by decide) ?_
  refine lv_iadd hx hb dX6_openOn_44 ?_
  refine as_M hx hb hK hP hI hS yh1 (by decide) (z_li (by decide) : vp_in (80 : Int32) 214) dX6_openOn_45 (fun H locs yd7 e_yd7 hP hS => ?_)
  have h := z_nma e_yd7 h
  refine lv_aload_n hx hb dX6_openOn_46 rfl (lv_at hl 1 rfl) ?_
  refine lv_aload_n hx hb dX6_openOn_47 rfl (lv_at hl 2 rfl) ?_
  obtain ⟨yr8, yd9, yhc48, h⟩ := z_bdx h
  refine z_ki (z_rV (As := [.ref (ad ya1)]) (rest := []) ⟨hx, hb, hml, hown, hts⟩ hK hP w_X6 rfl (kX6_noteAll hI yh1 yhc48) giX6_166 ⟨rfl, rfl⟩ ndX6_noteAll ⟨Nat.le_of_ble_eq_true rfl, Nat.le_of_ble_eq_true rfl⟩ rfl hl.1 rfl (Nat.le_of_ble_eq_true rfl) ⟨Nat.le_refl _, Nat.le_refl _⟩ dX6_openOn_48) hS (fun H locs hP hS => ?_)
  refine lv_istore (lv' := [(4, .int yr8), (3, .int yv1), (0, .ref (ad 0)), (1, .ref (ad ya1)), (2, .int yx2)]) hx hb dX6_openOn_51 hl (by decide) rfl (fun ls hl => ?_)
  exact hRet _ _ _ _ _ hP hS h dX6_openOn_53
noncomputable def fX6_closeOn (yd : Dt) (ya1 : Nat) : Option (Int32 × Dt) :=
  z_nm (yd.1 ya1 (z_ix (81 : Int32))) fun yv1 => z_gd (z_in ((40 : Int32) + yv1) 214) (z_nm (z_st yd ya1 (z_ix ((40 : Int32) + yv1)) (0 : Int32)) fun yd2 => z_gd (z_in ((20 : Int32) + yv1) 214) (z_nm (z_st yd2 ya1 (z_ix (81 : Int32)) (yd2.1 ya1 (z_ix ((20 : Int32) + yv1)))) fun yd3 => z_bd (fX6_noteAll yd3 ya1) fun yr4 yd5 => some (yr4, yd5)))
set_option maxHeartbeats 4000000 in
set_option maxRecDepth 100000 in
theorem kX6_closeOn {l : Launch} {D : va_G} {G : z_G} {ad : Nat → Nat} {A : Nat → Prop} (hI : ∀ d, va_D A (WM G ad d)) {yd : Dt} {ya1 : Nat} (yh1 : arM ya1 = 214) {rr : Int32} {dd : Dt} (h : fX6_closeOn yd ya1 = some (rr, dd)) : z_Mi l D G A (WM G ad) yX6_closeOn cX6_closeOn 3 (z_rm 10 252) yd [.ref (ad 0), .ref (ad ya1)] rr dd := by
  refine z_ofi (by decide) (Nat.le_of_ble_eq_true rfl) fun p e s m args below meth c Q hx hb hml hown hts hK hP hRet ls hl => ?_
  have hS : va_S A s.heap s.heap [] := va_S.rf
  have hl : lv_has ls 3 [(0, .ref (ad 0)), (1, .ref (ad ya1))] := hl
  have h : (z_nm (yd.1 ya1 (z_ix (81 : Int32))) fun yv1 => z_gd (z_in ((40 : Int32) + yv1) 214) (z_nm (z_st yd ya1 (z_ix ((40 : Int32) + yv1)) (0 : Int32)) fun yd2 => z_gd (z_in ((20 : Int32) + yv1) 214) (z_nm (z_st yd2 ya1 (z_ix (81 : Int32)) (yd2.1 ya1 (z_ix ((20 : Int32) + yv1)))) fun yd3 => z_bd (fX6_noteAll yd3 ya1) fun yr4 yd5 => some (yr4, yd5)))) = some (rr, dd) := h
  refine lv_aload_n hx hb dX6_closeOn_0 rfl (lv_at hl 1 rfl) ?_
  refine lv_bipush (v := (81 : Int32)) hx hb dX6_closeOn_1 (by decide) ?_
  refine al_M hx hb hK hP yh1 (by decide) (z_li (by decide) : vp_in (81 : Int32) 214) dX6_closeOn_3 ?_
  refine lv_topi (fun yv1 e_yv1 => ?_)
  have h := z_nma e_yv1 h
  refine lv_istore_n (lv' := [(2, .int yv1), (0, .ref (ad 0)), (1, .ref (ad ya1))]) hx hb dX6_closeOn_4 rfl hl (by decide) rfl (fun ls hl => ?_)
  refine lv_aload_n hx hb dX6_closeOn_5 rfl (lv_at hl 2 rfl) ?_
  refine lv_bipush (v := (40 : Int32)) hx hb dX6_closeOn_6 (by decide) ?_
  refine lv_iload_n hx hb dX6_closeOn_8 rfl (lv_at hl 0 rfl) ?_
  refine lv_iadd hx hb dX6_closeOn_9 ?_
  refine lv_iconst (v := (0 : Int32)) hx hb dX6_closeOn_10 (by decide) ?_
  obtain ⟨yg11, h⟩ := z_gi h
  refine as_M hx hb hK hP hI hS yh1 (by decide) yg11 dX6_closeOn_11 (fun H locs yd2 e_yd2 hP hS => ?_)
  have h := z_nma e_yd2 h
  refine lv_aload_n hx hb dX6_closeOn_12 rfl (lv_at hl 2 rfl) ?_
  refine lv_bipush (v := (81 : Int32)) hx hb dX6_closeOn_13 (by decide) ?_
  refine lv_aload_n hx hb dX6_closeOn_15 rfl (lv_at hl 2 rfl) ?_
  refine lv_bipush (v := (20 : Int32)) hx hb dX6_closeOn_16 (by decide) ?_
  refine lv_iload_n hx hb dX6_closeOn_18 rfl (lv_at hl 0 rfl) ?_
  refine lv_iadd hx hb dX6_closeOn_19 ?_
  obtain ⟨yg20, h⟩ := z_gi h
  refine al_M hx hb hK hP yh1 (by decide) yg20 dX6_closeOn_20 ?_
  refine as_M hx hb hK hP hI hS yh1 (by decide) (z_li (by decide) : vp_in (81 : Int32) 214) dX6_closeOn_21 (fun H locs yd3 e_yd3 hP hS => ?_)
  have h := z_nma e_yd3 h
  refine lv_aload_n hx hb dX6_closeOn_22 rfl (lv_at hl 1 rfl) ?_
  refine lv_aload_n hx hb dX6_closeOn_23 rfl (lv_at hl 2 rfl) ?_
  obtain ⟨yr4, yd5, yhc24, h⟩ := z_bdx h
  refine z_ki (z_rV (As := [.ref (ad ya1)]) (rest := []) ⟨hx, hb, hml, hown, hts⟩ hK hP w_X6 rfl (kX6_noteAll hI yh1 yhc24) giX6_166 ⟨rfl, rfl⟩ ndX6_noteAll ⟨Nat.le_of_ble_eq_true rfl, Nat.le_of_ble_eq_true rfl⟩ rfl hl.1 rfl (Nat.le_of_ble_eq_true rfl) ⟨Nat.le_refl _, Nat.le_refl _⟩ dX6_closeOn_24) hS (fun H locs hP hS => ?_)
  exact hRet _ _ _ _ _ _ hP hS h dX6_closeOn_27
noncomputable def fX6_tellOn (yd : Dt) (ya1 : Nat) (yx2 : Int32) : Option (Int32 × Dt) :=
  z_gd (z_in ((60 : Int32) + (yd.1 ya1 (z_ix (81 : Int32)))) 214) (z_gd (z_in ((60 : Int32) + (yd.1 ya1 (z_ix (81 : Int32)))) 214) (z_nm (z_st yd ya1 (z_ix ((60 : Int32) + (yd.1 ya1 (z_ix (81 : Int32))))) ((yd.1 ya1 (z_ix ((60 : Int32) + (yd.1 ya1 (z_ix (81 : Int32)))))) ||| ((1 : Int32) <<< (yx2 &&& 31)))) fun yd1 => z_bd (fX6_noteAll yd1 ya1) fun yr2 yd3 => some (yr2, yd3)))
set_option maxHeartbeats 4000000 in
set_option maxRecDepth 100000 in
theorem kX6_tellOn {l : Launch} {D : va_G} {G : z_G} {ad : Nat → Nat} {A : Nat → Prop} (hI : ∀ d, va_D A (WM G ad d)) {yd : Dt} {ya1 : Nat} {yx2 : Int32} (yh1 : arM ya1 = 214) {rr : Int32} {dd : Dt} (h : fX6_tellOn yd ya1 yx2 = some (rr, dd)) : z_Mi l D G A (WM G ad) yX6_tellOn cX6_tellOn 3 (z_rm 10 252) yd [.ref (ad 0), .ref (ad ya1), .int yx2] rr dd := by
  refine z_ofi (by decide) (Nat.le_of_ble_eq_true rfl) fun p e s m args below meth c Q hx hb hml hown hts hK hP hRet ls hl => ?_
  have hS : va_S A s.heap s.heap [] := va_S.rf
  have hl : lv_has ls 3 [(0, .ref (ad 0)), (1, .ref (ad ya1)), (2, .int yx2)] := hl
  have h : (z_gd (z_in ((60 : Int32) + (yd.1 ya1 (z_ix (81 : Int32)))) 214) (z_gd (z_in ((60 : Int32) + (yd.1 ya1 (z_ix (81 : Int32)))) 214) (z_nm (z_st yd ya1 (z_ix ((60 : Int32) + (yd.1 ya1 (z_ix (81 : Int32))))) ((yd.1 ya1 (z_ix ((60 : Int32) + (yd.1 ya1 (z_ix (81 : Int32)))))) ||| ((1 : Int32) <<< (yx2 &&& 31)))) fun yd1 => z_bd (fX6_noteAll yd1 ya1) fun yr2 yd3 => some (yr2, yd3)))) = some (rr, dd) := h
  refine lv_aload_n hx hb dX6_tellOn_0 rfl (lv_at hl 1 rfl) ?_
  refine lv_bipush (v := (60 : Int32)) hx hb dX6_tellOn_1 (by decide) ?_
  refine lv_aload_n hx hb dX6_tellOn_3 rfl (lv_at hl 1 rfl) ?_
  refine lv_bipush (v := (81 : Int32)) hx hb dX6_tellOn_4 (by decide) ?_
  refine al_M hx hb hK hP yh1 (by decide) (z_li (by decide) : vp_in (81 : Int32) 214) dX6_tellOn_6 ?_
  refine lv_iadd hx hb dX6_tellOn_7 ?_
  refine lv_dup2_11 hx hb dX6_tellOn_8 rfl rfl ?_
  obtain ⟨yg9, h⟩ := z_gi h
  refine al_M hx hb hK hP yh1 (by decide) yg9 dX6_tellOn_9 ?_
  refine lv_iconst (v := (1 : Int32)) hx hb dX6_tellOn_10 (by decide) ?_
  refine lv_iload_n hx hb dX6_tellOn_11 rfl (lv_at hl 2 rfl) ?_
  refine lv_ishl hx hb dX6_tellOn_12 ?_
  refine lv_ior hx hb dX6_tellOn_13 ?_
  obtain ⟨yg14, h⟩ := z_gi h
  refine as_M hx hb hK hP hI hS yh1 (by decide) yg14 dX6_tellOn_14 (fun H locs yd1 e_yd1 hP hS => ?_)
  have h := z_nma e_yd1 h
  refine lv_aload_n hx hb dX6_tellOn_15 rfl (lv_at hl 0 rfl) ?_
  refine lv_aload_n hx hb dX6_tellOn_16 rfl (lv_at hl 1 rfl) ?_
  obtain ⟨yr2, yd3, yhc17, h⟩ := z_bdx h
  refine z_ki (z_rV (As := [.ref (ad ya1)]) (rest := []) ⟨hx, hb, hml, hown, hts⟩ hK hP w_X6 rfl (kX6_noteAll hI yh1 yhc17) giX6_166 ⟨rfl, rfl⟩ ndX6_noteAll ⟨Nat.le_of_ble_eq_true rfl, Nat.le_of_ble_eq_true rfl⟩ rfl hl.1 rfl (Nat.le_of_ble_eq_true rfl) ⟨Nat.le_refl _, Nat.le_refl _⟩ dX6_tellOn_17) hS (fun H locs hP hS => ?_)
  exact hRet _ _ _ _ _ _ hP hS h dX6_tellOn_20
noncomputable def jX6_eventOn_27 (yd : Dt) (ya1 : Nat) (yx2 : Int32) (yv6 : Int32) : Option (Int32 × Dt) :=
  zif (yv6 = 0) (some (yv6, yd)) (z_br (fX6_openOn yd ya1 yx2) fun yd7 => some (yv6, yd7))
noncomputable def jX6_eventOn_26 (yd : Dt) (ya1 : Nat) (yx2 : Int32) : Option (Int32 × Dt) :=
  jX6_eventOn_27 yd ya1 yx2 (0 : Int32)
noncomputable def fX6_eventOn (yd : Dt) (ya1 : Nat) (yx2 : Int32) : Option (Int32 × Dt) :=
  zif ((10 : Int32) ≤ yx2) (zif ((yd.1 ya1 (z_ix (81 : Int32))) = (-9 : Int32)) (some ((0 : Int32), yd)) (zif (yx2 = (10 : Int32)) (z_bd (fX6_closeOn yd ya1) fun yr3 yd4 => some ((1 : Int32), yd4)) (z_bd (fX6_tellOn yd ya1 (yx2 - (20 : Int32))) fun yr1 yd2 => some ((1 : Int32), yd2)))) (z_br (fX6_mayOpen yd ya1) fun yr5 => zif (yr5 = 0) (jX6_eventOn_26 yd ya1 yx2) (zif ((20 : Int32) ≤ (yd.1 ya1 (z_ix (80 : Int32)))) (jX6_eventOn_26 yd ya1 yx2) (jX6_eventOn_27 yd ya1 yx2 (1 : Int32))))
set_option maxHeartbeats 4000000 in
set_option maxRecDepth 100000 in
theorem kX6_eventOn {l : Launch} {D : va_G} {G : z_G} {ad : Nat → Nat} {A : Nat → Prop} (hI : ∀ d, va_D A (WM G ad d)) {yd : Dt} {ya1 : Nat} {yx2 : Int32} (yh1 : arM ya1 = 214) {rr : Int32} {dd : Dt} (h : fX6_eventOn yd ya1 yx2 = some (rr, dd)) : z_Mz l D G A (WM G ad) yX6_eventOn cX6_eventOn 4 (z_rm 11 276) yd [.ref (ad 0), .ref (ad ya1), .int yx2] rr dd := by
  refine z_ofz (by decide) (Nat.le_of_ble_eq_true rfl) fun p e s m args below meth c Q hx hb hml hown hts hK hP hRet ls hl => ?_
  have hS : va_S A s.heap s.heap [] := va_S.rf
  have hl : lv_has ls 4 [(0, .ref (ad 0)), (1, .ref (ad ya1)), (2, .int yx2)] := hl
  have h : (zif ((10 : Int32) ≤ yx2) (zif ((yd.1 ya1 (z_ix (81 : Int32))) = (-9 : Int32)) (some ((0 : Int32), yd)) (zif (yx2 = (10 : Int32)) (z_bd (fX6_closeOn yd ya1) fun yr3 yd4 => some ((1 : Int32), yd4)) (z_bd (fX6_tellOn yd ya1 (yx2 - (20 : Int32))) fun yr1 yd2 => some ((1 : Int32), yd2)))) (z_br (fX6_mayOpen yd ya1) fun yr5 => zif (yr5 = 0) (jX6_eventOn_26 yd ya1 yx2) (zif ((20 : Int32) ≤ (yd.1 ya1 (z_ix (80 : Int32)))) (jX6_eventOn_26 yd ya1 yx2) (jX6_eventOn_27 yd ya1 yx2 (1 : Int32))))) = some (rr, dd) := h
  refine lv_iload_n hx hb dX6_eventOn_0 rfl (lv_at hl 2 rfl) ?_
  refine lv_bipush (v := (10 : Int32)) hx hb dX6_eventOn_1 (by decide) ?_
  refine lv_icmp_ge (tgt := 40) hx hb dX6_eventOn_3 (by decide) (fun yc3 => ?_) (fun yc3 => ?_)
  · have h := z_ifp yc3 h
    refine lv_aload_n hx hb dX6_eventOn_40 rfl (lv_at hl 1 rfl) ?_
    refine lv_bipush (v := (81 : Int32)) hx hb dX6_eventOn_41 (by decide) ?_
    refine al_M hx hb hK hP yh1 (by decide) (z_li (by decide) : vp_in (81 : Int32) 214) dX6_eventOn_43 ?_
    refine lv_bipush (v := (-9 : Int32)) hx hb dX6_eventOn_44 (by decide) ?_
    refine lv_icmp_ne (tgt := 51) hx hb dX6_eventOn_46 (by decide) (fun yc46 => ?_) (fun yc46 => ?_)
    · have h := z_ifn yc46 h
      refine lv_iload_n hx hb dX6_eventOn_51 rfl (lv_at hl 2 rfl) ?_
      refine lv_bipush (v := (10 : Int32)) hx hb dX6_eventOn_52 (by decide) ?_
      refine lv_icmp_ne (tgt := 65) hx hb dX6_eventOn_54 (by decide) (fun yc54 => ?_) (fun yc54 => ?_)
      · have h := z_ifn yc54 h
        refine lv_aload_n hx hb dX6_eventOn_65 rfl (lv_at hl 0 rfl) ?_
        refine lv_aload_n hx hb dX6_eventOn_66 rfl (lv_at hl 1 rfl) ?_
        refine lv_iload_n hx hb dX6_eventOn_67 rfl (lv_at hl 2 rfl) ?_
        refine lv_bipush (v := (20 : Int32)) hx hb dX6_eventOn_68 (by decide) ?_
        refine lv_isub hx hb dX6_eventOn_70 ?_
        obtain ⟨yr1, yd2, yhc71, h⟩ := z_bdx h
        refine z_ki (z_rV (As := [.ref (ad ya1), .int (yx2 - (20 : Int32))]) (rest := []) ⟨hx, hb, hml, hown, hts⟩ hK hP w_X6 rfl (kX6_tellOn hI yh1 yhc71) giX6_181 ⟨rfl, rfl⟩ ndX6_tellOn ⟨Nat.le_of_ble_eq_true rfl, Nat.le_of_ble_eq_true rfl⟩ rfl hl.1 rfl (Nat.le_of_ble_eq_true rfl) ⟨Nat.le_refl _, Nat.le_refl _⟩ dX6_eventOn_71) hS (fun H locs hP hS => ?_)
        refine lv_istore_n (lv' := [(3, .int yr1), (0, .ref (ad 0)), (1, .ref (ad ya1)), (2, .int yx2)]) hx hb dX6_eventOn_74 rfl hl (by decide) rfl (fun ls hl => ?_)
        refine lv_iconst (v := (1 : Int32)) hx hb dX6_eventOn_75 (by decide) ?_
        exact hRet _ _ _ _ _ _ hP hS (Or.inr rfl) h dX6_eventOn_76
      · have h := z_ifp yc54 h
        refine lv_aload_n hx hb dX6_eventOn_57 rfl (lv_at hl 0 rfl) ?_
        refine lv_aload_n hx hb dX6_eventOn_58 rfl (lv_at hl 1 rfl) ?_
        obtain ⟨yr3, yd4, yhc59, h⟩ := z_bdx h
        refine z_ki (z_rV (As := [.ref (ad ya1)]) (rest := []) ⟨hx, hb, hml, hown, hts⟩ hK hP w_X6 rfl (kX6_closeOn hI yh1 yhc59) giX6_178 ⟨rfl, rfl⟩ ndX6_closeOn ⟨Nat.le_of_ble_eq_true rfl, Nat.le_of_ble_eq_true rfl⟩ rfl hl.1 rfl (Nat.le_of_ble_eq_true rfl) ⟨Nat.le_refl _, Nat.le_refl _⟩ dX6_eventOn_59) hS (fun H locs hP hS => ?_)
        refine lv_goto (tgt := 74) hx hb dX6_eventOn_62 (by decide) ?_
        refine lv_istore_n (lv' := [(3, .int yr3), (0, .ref (ad 0)), (1, .ref (ad ya1)), (2, .int yx2)]) hx hb dX6_eventOn_74 rfl hl (by decide) rfl (fun ls hl => ?_)
        refine lv_iconst (v := (1 : Int32)) hx hb dX6_eventOn_75 (by decide) ?_
        exact hRet _ _ _ _ _ _ hP hS (Or.inr rfl) h dX6_eventOn_76
    · have h := z_ifp yc46 h
      refine lv_iconst (v := (0 : Int32)) hx hb dX6_eventOn_49 (by decide) ?_
      exact hRet _ _ _ _ _ _ hP hS (Or.inl rfl) h dX6_eventOn_50
  · have h := z_ifn yc3 h
    refine lv_aload_n hx hb dX6_eventOn_6 rfl (lv_at hl 1 rfl) ?_
    obtain ⟨yr5, yhc7, h⟩ := z_brx h
    refine z_kz (z_rS (As := [.ref (ad ya1)]) (rest := []) ⟨hx, hb, hml, hown, hts⟩ hK hP (kX6_mayOpen hI yh1 yhc7) giX6_170 ⟨rfl, rfl⟩ ndX6_mayOpen ⟨Nat.le_of_ble_eq_true rfl, Nat.le_of_ble_eq_true rfl⟩ rfl hl.1 rfl (Nat.le_of_ble_eq_true rfl) ⟨Nat.le_refl _, Nat.le_refl _⟩ dX6_eventOn_7) hS (fun H locs z_yr5 hP hS => ?_)
    have hJ27 : ∀ (yv6 : Int32) (H : Heap) (locs : List Loc) (ls : Array Slot), (yv6 = 0 ∨ yv6 = 1) → jX6_eventOn_27 yd ya1 yx2 yv6 = some (rr, dd) → va_P D vwCl (WM G ad yd) H → va_S A s.heap H locs → lv_has ls 4 [(0, .ref (ad 0)), (1, .ref (ad ya1)), (2, .int yx2)] → W p l e (z_rm 11 276) s m args below meth c H locs 0 0 Q (F0 m 27 ls [.int yv6]) := by
      intro yv6 H locs ls z_yv6 h hP hS hl
      have h : (zif (yv6 = 0) (some (yv6, yd)) (z_br (fX6_openOn yd ya1 yx2) fun yd7 => some (yv6, yd7))) = some (rr, dd) := h
      refine lv_istore_n (lv' := [(3, .int yv6), (0, .ref (ad 0)), (1, .ref (ad ya1)), (2, .int yx2)]) hx hb dX6_eventOn_27 rfl hl (by decide) rfl (fun ls hl => ?_)
      refine lv_iload_n hx hb dX6_eventOn_28 rfl (lv_at hl 0 rfl) ?_
      refine lv_if_eq (tgt := 38) hx hb dX6_eventOn_29 (by decide) (fun yc29 => ?_) (fun yc29 => ?_)
      · have h := z_ifp yc29 h
        refine lv_iload_n hx hb dX6_eventOn_38 rfl (lv_at hl 0 rfl) ?_
        exact hRet _ _ _ _ _ _ hP hS z_yv6 h dX6_eventOn_39
      · have h := z_ifn yc29 h
        refine lv_aload_n hx hb dX6_eventOn_32 rfl (lv_at hl 1 rfl) ?_
        refine lv_aload_n hx hb dX6_eventOn_33 rfl (lv_at hl 2 rfl) ?_
        refine lv_iload_n hx hb dX6_eventOn_34 rfl (lv_at hl 3 rfl) ?_
        obtain ⟨yd7, yhc35, h⟩ := z_brx h
        refine z_kv (z_rV (As := [.ref (ad ya1), .int yx2]) (rest := []) ⟨hx, hb, hml, hown, hts⟩ hK hP w_X6 rfl (kX6_openOn hI yh1 yhc35) giX6_174 ⟨rfl, rfl⟩ ndX6_openOn ⟨Nat.le_of_ble_eq_true rfl, Nat.le_of_ble_eq_true rfl⟩ rfl hl.1 rfl (Nat.le_of_ble_eq_true rfl) ⟨Nat.le_refl _, Nat.le_refl _⟩ dX6_eventOn_35) hS (fun H locs hP hS => ?_)
        refine lv_iload_n hx hb dX6_eventOn_38 rfl (lv_at hl 0 rfl) ?_
        exact hRet _ _ _ _ _ _ hP hS z_yv6 h dX6_eventOn_39
    have hJ26 : ∀  (H : Heap) (locs : List Loc) (ls : Array Slot), jX6_eventOn_26 yd ya1 yx2 = some (rr, dd) → va_P D vwCl (WM G ad yd) H → va_S A s.heap H locs → lv_has ls 4 [(0, .ref (ad 0)), (1, .ref (ad ya1)), (2, .int yx2)] → W p l e (z_rm 11 276) s m args below meth c H locs 0 0 Q (F0 m 26 ls []) := by
      intro  H locs ls h hP hS hl
      have h : (jX6_eventOn_27 yd ya1 yx2 (0 : Int32)) = some (rr, dd) := h
      refine lv_iconst (v := (0 : Int32)) hx hb dX6_eventOn_26 (by decide) ?_
      exact hJ27 _ _ _ _ (Or.inl rfl) h hP hS (lv_sub hl [0, 1, 2] rfl)
    refine lv_if_eq (tgt := 26) hx hb dX6_eventOn_10 (by decide) (fun yc10 => ?_) (fun yc10 => ?_)
    · have h := z_ifp yc10 h
      exact hJ26  _ _ _ h hP hS (lv_sub hl [0, 1, 2] rfl)
    · have h := z_ifn yc10 h
      refine lv_aload_n hx hb dX6_eventOn_13 rfl (lv_at hl 1 rfl) ?_
      refine lv_bipush (v := (80 : Int32)) hx hb dX6_eventOn_14 (by decide) ?_
      refine al_M hx hb hK hP yh1 (by decide) (z_li (by decide) : vp_in (80 : Int32) 214) dX6_eventOn_16 ?_
      refine lv_bipush (v := (20 : Int32)) hx hb dX6_eventOn_17 (by decide) ?_
      refine lv_icmp_ge (tgt := 26) hx hb dX6_eventOn_19 (by decide) (fun yc19 => ?_) (fun yc19 => ?_)
      · have h := z_ifp yc19 h
        exact hJ26  _ _ _ h hP hS (lv_sub hl [0, 1, 2] rfl)
      · have h := z_ifn yc19 h
        refine lv_iconst (v := (1 : Int32)) hx hb dX6_eventOn_22 (by decide) ?_
        refine lv_goto (tgt := 27) hx hb dX6_eventOn_23 (by decide) ?_
        exact hJ27 _ _ _ _ (Or.inr rfl) h hP hS (lv_sub hl [0, 1, 2] rfl)
noncomputable def bX6_askOn_74 (yv1 : Int32) (ya1 : Nat) (s : Int32 × Dt) : Option ((Int32 × Dt) ⊕ (Dt)) := match s with
  | (yv8, yd9) => zif ((20 : Int32) ≤ yv8) (some (.inr yd9)) (z_gd (z_in (((114 : Int32) + ((20 : Int32) * yv1)) + yv8) 214) (z_nm (z_st yd9 ya1 (z_ix (((114 : Int32) + ((20 : Int32) * yv1)) + yv8)) (-9 : Int32)) fun yd10 => z_nm (yv8 + (1 : Int32)) fun yv11 => some (.inl (yv11, yd10))))
noncomputable def fX6_askOn (yd : Dt) (ya1 : Nat) (yx2 : Int32) (yx3 : Int32) (yx4 : Int32) (yx5 : Int32) (yx6 : Int32) : Option (Dt) :=
  z_nm (yd.1 ya1 (z_ix (83 : Int32))) fun yv1 => z_gd (z_in ((84 : Int32) + yv1) 214) (z_nm (z_st yd ya1 (z_ix ((84 : Int32) + yv1)) yx2) fun yd2 => z_gd (z_in ((89 : Int32) + ((4 : Int32) * yv1)) 214) (z_nm (z_st yd2 ya1 (z_ix ((89 : Int32) + ((4 : Int32) * yv1))) yx3) fun yd3 => z_gd (z_in (((89 : Int32) + ((4 : Int32) * yv1)) + (1 : Int32)) 214) (z_nm (z_st yd3 ya1 (z_ix (((89 : Int32) + ((4 : Int32) * yv1)) + (1 : Int32))) yx4) fun yd4 => z_gd (z_in (((89 : Int32) + ((4 : Int32) * yv1)) + (2 : Int32)) 214) (z_nm (z_st yd4 ya1 (z_ix (((89 : Int32) + ((4 : Int32) * yv1)) + (2 : Int32))) yx5) fun yd5 => z_gd (z_in (((89 : Int32) + ((4 : Int32) * yv1)) + (3 : Int32)) 214) (z_nm (z_st yd5 ya1 (z_ix (((89 : Int32) + ((4 : Int32) * yv1)) + (3 : Int32))) yx6) fun yd6 => z_gd (z_in ((109 : Int32) + yv1) 214) (z_nm (z_st yd6 ya1 (z_ix ((109 : Int32) + yv1)) (0 : Int32)) fun yd7 => z_br (z_lp (bX6_askOn_74 yv1 ya1) ((0 : Int32), yd7)) (fun t => match t with | yd12 => z_nm (z_st yd12 ya1 (z_ix (83 : Int32)) ((yd12.1 ya1 (z_ix (83 : Int32))) + (1 : Int32))) fun yd13 => z_bd (fX6_noteOut yd13 ya1 yv1) fun yr14 yd15 => some yd15)))))))
set_option maxHeartbeats 4000000 in
set_option maxRecDepth 100000 in
theorem kX6_askOn {l : Launch} {D : va_G} {G : z_G} {ad : Nat → Nat} {A : Nat → Prop} (hI : ∀ d, va_D A (WM G ad d)) {yd : Dt} {ya1 : Nat} {yx2 : Int32} {yx3 : Int32} {yx4 : Int32} {yx5 : Int32} {yx6 : Int32} (yh1 : arM ya1 = 214) {dd : Dt} (h : fX6_askOn yd ya1 yx2 yx3 yx4 yx5 yx6 = some dd) : z_Mv l D G A (WM G ad) yX6_askOn cX6_askOn 9 (z_rm 9 229) yd [.ref (ad 0), .ref (ad ya1), .int yx2, .int yx3, .int yx4, .int yx5, .int yx6] dd := by
  refine z_ofv (by decide) (Nat.le_of_ble_eq_true rfl) fun p e s m args below meth c Q hx hb hml hown hts hK hP hRet ls hl => ?_
  have hS : va_S A s.heap s.heap [] := va_S.rf
  have hl : lv_has ls 9 [(0, .ref (ad 0)), (1, .ref (ad ya1)), (2, .int yx2), (3, .int yx3), (4, .int yx4), (5, .int yx5), (6, .int yx6)] := hl
  have h : (z_nm (yd.1 ya1 (z_ix (83 : Int32))) fun yv1 => z_gd (z_in ((84 : Int32) + yv1) 214) (z_nm (z_st yd ya1 (z_ix ((84 : Int32) + yv1)) yx2) fun yd2 => z_gd (z_in ((89 : Int32) + ((4 : Int32) * yv1)) 214) (z_nm (z_st yd2 ya1 (z_ix ((89 : Int32) + ((4 : Int32) * yv1))) yx3) fun yd3 => z_gd (z_in (((89 : Int32) + ((4 : Int32) * yv1)) + (1 : Int32)) 214) (z_nm (z_st yd3 ya1 (z_ix (((89 : Int32) + ((4 : Int32) * yv1)) + (1 : Int32))) yx4) fun yd4 => z_gd (z_in (((89 : Int32) + ((4 : Int32) * yv1)) + (2 : Int32)) 214) (z_nm (z_st yd4 ya1 (z_ix (((89 : Int32) + ((4 : Int32) * yv1)) + (2 : Int32))) yx5) fun yd5 => z_gd (z_in (((89 : Int32) + ((4 : Int32) * yv1)) + (3 : Int32)) 214) (z_nm (z_st yd5 ya1 (z_ix (((89 : Int32) + ((4 : Int32) * yv1)) + (3 : Int32))) yx6) fun yd6 => z_gd (z_in ((109 : Int32) + yv1) 214) (z_nm (z_st yd6 ya1 (z_ix ((109 : Int32) + yv1)) (0 : Int32)) fun yd7 => z_br (z_lp (bX6_askOn_74 yv1 ya1) ((0 : Int32), yd7)) (fun t => match t with | yd12 => z_nm (z_st yd12 ya1 (z_ix (83 : Int32)) ((yd12.1 ya1 (z_ix (83 : Int32))) + (1 : Int32))) fun yd13 => z_bd (fX6_noteOut yd13 ya1 yv1) fun yr14 yd15 => some yd15)))))))) = some dd := h
  refine lv_aload_n hx hb dX6_askOn_0 rfl (lv_at hl 1 rfl) ?_
  refine lv_bipush (v := (83 : Int32)) hx hb dX6_askOn_1 (by decide) ?_
  refine al_M hx hb hK hP yh1 (by decide) (z_li (by decide) : vp_in (83 : Int32) 214) dX6_askOn_3 ?_
  refine lv_topi (fun yv1 e_yv1 => ?_)
  have h := z_nma e_yv1 h
  refine lv_istore (lv' := [(7, .int yv1), (0, .ref (ad 0)), (1, .ref (ad ya1)), (2, .int yx2), (3, .int yx3), (4, .int yx4), (5, .int yx5), (6, .int yx6)]) hx hb dX6_askOn_4 hl (by decide) rfl (fun ls hl => ?_)
  refine lv_aload_n hx hb dX6_askOn_6 rfl (lv_at hl 2 rfl) ?_
  refine lv_bipush (v := (84 : Int32)) hx hb dX6_askOn_7 (by decide) ?_
  refine lv_iload hx hb dX6_askOn_9 (lv_at hl 0 rfl) ?_
  refine lv_iadd hx hb dX6_askOn_11 ?_
  refine lv_iload_n hx hb dX6_askOn_12 rfl (lv_at hl 3 rfl) ?_
  obtain ⟨yg13, h⟩ := z_gi h
  refine as_M hx hb hK hP hI hS yh1 (by decide) yg13 dX6_askOn_13 (fun H locs yd2 e_yd2 hP hS => ?_)
  have h := z_nma e_yd2 h
  refine lv_aload_n hx hb dX6_askOn_14 rfl (lv_at hl 2 rfl) ?_
  refine lv_bipush (v := (89 : Int32)) hx hb dX6_askOn_15 (by decide) ?_
  refine lv_iconst (v := (4 : Int32)) hx hb dX6_askOn_17 (by decide) ?_
  refine lv_iload hx hb dX6_askOn_18 (lv_at hl 0 rfl) ?_
  refine lv_imul hx hb dX6_askOn_20 ?_
  refine lv_iadd hx hb dX6_askOn_21 ?_
  refine lv_iload_n hx hb dX6_askOn_22 rfl (lv_at hl 4 rfl) ?_
  obtain ⟨yg23, h⟩ := z_gi h
  refine as_M hx hb hK hP hI hS yh1 (by decide) yg23 dX6_askOn_23 (fun H locs yd3 e_yd3 hP hS => ?_)
  have h := z_nma e_yd3 h
  refine lv_aload_n hx hb dX6_askOn_24 rfl (lv_at hl 2 rfl) ?_
  refine lv_bipush (v := (89 : Int32)) hx hb dX6_askOn_25 (by decide) ?_
  refine lv_iconst (v := (4 : Int32)) hx hb dX6_askOn_27 (by decide) ?_
  refine lv_iload hx hb dX6_askOn_28 (lv_at hl 0 rfl) ?_
  refine lv_imul hx hb dX6_askOn_30 ?_
  refine lv_iadd hx hb dX6_askOn_31 ?_
  refine lv_iconst (v := (1 : Int32)) hx hb dX6_askOn_32 (by decide) ?_
  refine lv_iadd hx hb dX6_askOn_33 ?_
  refine lv_iload hx hb dX6_askOn_34 (lv_at hl 5 rfl) ?_
  obtain ⟨yg36, h⟩ := z_gi h
  refine as_M hx hb hK hP hI hS yh1 (by decide) yg36 dX6_askOn_36 (fun H locs yd4 e_yd4 hP hS => ?_)
  have h := z_nma e_yd4 h
  refine lv_aload_n hx hb dX6_askOn_37 rfl (lv_at hl 2 rfl) ?_
  refine lv_bipush (v := (89 : Int32)) hx hb dX6_askOn_38 (by decide) ?_
  refine lv_iconst (v := (4 : Int32)) hx hb dX6_askOn_40 (by decide) ?_
  refine lv_iload hx hb dX6_askOn_41 (lv_at hl 0 rfl) ?_
  refine lv_imul hx hb dX6_askOn_43 ?_
  refine lv_iadd hx hb dX6_askOn_44 ?_
  refine lv_iconst (v := (2 : Int32)) hx hb dX6_askOn_45 (by decide) ?_
  refine lv_iadd hx hb dX6_askOn_46 ?_
  refine lv_iload hx hb dX6_askOn_47 (lv_at hl 6 rfl) ?_
  obtain ⟨yg49, h⟩ := z_gi h
  refine as_M hx hb hK hP hI hS yh1 (by decide) yg49 dX6_askOn_49 (fun H locs yd5 e_yd5 hP hS => ?_)
  have h := z_nma e_yd5 h
  refine lv_aload_n hx hb dX6_askOn_50 rfl (lv_at hl 2 rfl) ?_
  refine lv_bipush (v := (89 : Int32)) hx hb dX6_askOn_51 (by decide) ?_
  refine lv_iconst (v := (4 : Int32)) hx hb dX6_askOn_53 (by decide) ?_
  refine lv_iload hx hb dX6_askOn_54 (lv_at hl 0 rfl) ?_
  refine lv_imul hx hb dX6_askOn_56 ?_
  refine lv_iadd hx hb dX6_askOn_57 ?_
  refine lv_iconst (v := (3 : Int32)) hx hb dX6_askOn_58 (by decide) ?_
  refine lv_iadd hx hb dX6_askOn_59 ?_
  refine lv_iload hx hb dX6_askOn_60 (lv_at hl 7 rfl) ?_
  obtain ⟨yg62, h⟩ := z_gi h
  refine as_M hx hb hK hP hI hS yh1 (by decide) yg62 dX6_askOn_62 (fun H locs yd6 e_yd6 hP hS => ?_)
  have h := z_nma e_yd6 h
  refine lv_aload_n hx hb dX6_askOn_63 rfl (lv_at hl 2 rfl) ?_
  refine lv_bipush (v := (109 : Int32)) hx hb dX6_askOn_64 (by decide) ?_
  refine lv_iload hx hb dX6_askOn_66 (lv_at hl 0 rfl) ?_
  refine lv_iadd hx hb dX6_askOn_68 ?_
  refine lv_iconst (v := (0 : Int32)) hx hb dX6_askOn_69 (by decide) ?_
  obtain ⟨yg70, h⟩ := z_gi h
  refine as_M hx hb hK hP hI hS yh1 (by decide) yg70 dX6_askOn_70 (fun H locs yd7 e_yd7 hP hS => ?_)
  have h := z_nma e_yd7 h
  refine lv_iconst (v := (0 : Int32)) hx hb dX6_askOn_71 (by decide) ?_
  refine lv_istore (lv' := [(8, .int (0 : Int32)), (7, .int yv1), (0, .ref (ad 0)), (1, .ref (ad ya1)), (2, .int yx2), (3, .int yx3), (4, .int yx4), (5, .int yx5), (6, .int yx6)]) hx hb dX6_askOn_72 hl (by decide) rfl (fun ls hl => ?_)
  obtain ⟨yt74, hlp, h⟩ := z_brx h
  obtain ⟨yn74, hlp⟩ := z_lpx hlp
  have hE102 : ∀ (yd12 : Dt) (H : Heap) (locs : List Loc) (ls : Array Slot), yd12 = yt74 → va_P D vwCl (WM G ad yd12) H → va_S A s.heap H locs → lv_has ls 9 [(0, .ref (ad 0)), (1, .ref (ad ya1)), (7, .int yv1)] → W p l e (z_rm 9 229) s m args below meth c H locs 0 0 Q (F0 m 102 ls []) := by
    intro yd12 H locs ls et hP hS hl
    subst et
    have h : (z_nm (z_st yd12 ya1 (z_ix (83 : Int32)) ((yd12.1 ya1 (z_ix (83 : Int32))) + (1 : Int32))) fun yd13 => z_bd (fX6_noteOut yd13 ya1 yv1) fun yr14 yd15 => some yd15) = some dd := h
    refine lv_aload_n hx hb dX6_askOn_102 rfl (lv_at hl 1 rfl) ?_
    refine lv_bipush (v := (83 : Int32)) hx hb dX6_askOn_103 (by decide) ?_
    refine lv_dup2_11 hx hb dX6_askOn_105 rfl rfl ?_
    refine al_M hx hb hK hP yh1 (by decide) (z_li (by decide) : vp_in (83 : Int32) 214) dX6_askOn_106 ?_
    refine lv_iconst (v := (1 : Int32)) hx hb dX6_askOn_107 (by decide) ?_
    refine lv_iadd hx hb dX6_askOn_108 ?_
    refine as_M hx hb hK hP hI hS yh1 (by decide) (z_li (by decide) : vp_in (83 : Int32) 214) dX6_askOn_109 (fun H locs yd13 e_yd13 hP hS => ?_)
    have h := z_nma e_yd13 h
    refine lv_aload_n hx hb dX6_askOn_110 rfl (lv_at hl 0 rfl) ?_
    refine lv_aload_n hx hb dX6_askOn_111 rfl (lv_at hl 1 rfl) ?_
    refine lv_iload hx hb dX6_askOn_112 (lv_at hl 2 rfl) ?_
    obtain ⟨yr14, yd15, yhc114, h⟩ := z_bdx h
    refine z_ki (z_rV (As := [.ref (ad ya1), .int yv1]) (rest := []) ⟨hx, hb, hml, hown, hts⟩ hK hP w_X6 rfl (kX6_noteOut hI yh1 yhc114) giX6_160 ⟨rfl, rfl⟩ ndX6_noteOut ⟨Nat.le_of_ble_eq_true rfl, Nat.le_of_ble_eq_true rfl⟩ rfl hl.1 rfl (Nat.le_of_ble_eq_true rfl) ⟨Nat.le_refl _, Nat.le_refl _⟩ dX6_askOn_114) hS (fun H locs hP hS => ?_)
    refine lv_istore (lv' := [(8, .int yr14), (0, .ref (ad 0)), (1, .ref (ad ya1)), (7, .int yv1)]) hx hb dX6_askOn_117 hl (by decide) rfl (fun ls hl => ?_)
    exact hRet _ _ _ _ _ hP hS h dX6_askOn_119
  have hL74 : ∀ (n : Nat) (yv8 : Int32) (yd9 : Dt) (H : Heap) (locs : List Loc) (ls : Array Slot), z_it (bX6_askOn_74 yv1 ya1) n (yv8, yd9) = some yt74 → va_P D vwCl (WM G ad yd9) H → va_S A s.heap H locs → lv_has ls 9 [(0, .ref (ad 0)), (1, .ref (ad ya1)), (7, .int yv1), (8, .int yv8)] → W p l e (z_rm 9 229) s m args below meth c H locs 0 0 Q (F0 m 74 ls []) := by
    intro n
    induction n with
    | zero => intro yv8 yd9 H locs ls hn; exact z_it0 hn
    | succ n ih =>
      intro yv8 yd9 H locs ls hn hP hS hl
      obtain ⟨yq74, h, hq1, hq2⟩ := z_itx hn
      have h : (zif ((20 : Int32) ≤ yv8) (some (.inr yd9)) (z_gd (z_in (((114 : Int32) + ((20 : Int32) * yv1)) + yv8) 214) (z_nm (z_st yd9 ya1 (z_ix (((114 : Int32) + ((20 : Int32) * yv1)) + yv8)) (-9 : Int32)) fun yd10 => z_nm (yv8 + (1 : Int32)) fun yv11 => some (.inl (yv11, yd10))))) = some yq74 := h
      refine lv_iload hx hb dX6_askOn_74 (lv_at hl 3 rfl) ?_
      refine lv_bipush (v := (20 : Int32)) hx hb dX6_askOn_76 (by decide) ?_
      refine lv_icmp_ge (tgt := 102) hx hb dX6_askOn_78 (by decide) (fun yc78 => ?_) (fun yc78 => ?_)
      · have h := z_ifp yc78 h
        exact hE102 _ _ _ _ (hq2 _ (z_sm h).symm) hP hS (lv_sub hl [0, 1, 2] rfl)
      · have h := z_ifn yc78 h
        refine lv_aload_n hx hb dX6_askOn_81 rfl (lv_at hl 1 rfl) ?_
        refine lv_bipush (v := (114 : Int32)) hx hb dX6_askOn_82 (by decide) ?_
        refine lv_bipush (v := (20 : Int32)) hx hb dX6_askOn_84 (by decide) ?_
        refine lv_iload hx hb dX6_askOn_86 (lv_at hl 2 rfl) ?_
        refine lv_imul hx hb dX6_askOn_88 ?_
        refine lv_iadd hx hb dX6_askOn_89 ?_
        refine lv_iload hx hb dX6_askOn_90 (lv_at hl 3 rfl) ?_
        refine lv_iadd hx hb dX6_askOn_92 ?_
        refine lv_bipush (v := (-9 : Int32)) hx hb dX6_askOn_93 (by decide) ?_
        obtain ⟨yg95, h⟩ := z_gi h
        refine as_M hx hb hK hP hI hS yh1 (by decide) yg95 dX6_askOn_95 (fun H locs yd10 e_yd10 hP hS => ?_)
        have h := z_nma e_yd10 h
        obtain ⟨yv11, e_yv11, h⟩ := z_nmx h
        refine lv_iinc (v := yv11) (lv' := [(8, .int yv11), (0, .ref (ad 0)), (1, .ref (ad ya1)), (7, .int yv1)]) hx hb dX6_askOn_96 hl (k := 3) rfl (by rw [e_yv11]; rfl) (by decide) rfl (fun ls hl => ?_)
        refine lv_goto (tgt := 74) hx hb dX6_askOn_99 (by decide) ?_
        exact ih _ _ _ _ _ (hq1 _ (z_sm h).symm) hP hS (lv_sub hl [1, 2, 3, 0] rfl)
  exact hL74 yn74 _ _ _ _ _ hlp hP hS (lv_sub hl [2, 3, 1, 0] rfl)
noncomputable def bX6_task_21 (s : Int32 × Dt) : Option ((Int32 × Dt) ⊕ (Dt)) := match s with
  | (yv4, yd5) => zif ((yd5.1 0 19) ≤ yv4) (some (.inr yd5)) (z_nm ((4 : Int32) * yv4) fun yv6 => z_gd (z_in yv4 5) (z_gd (z_in yv6 20) (z_gd (z_in (yv6 + (1 : Int32)) 20) (z_gd (z_in (yv6 + (2 : Int32)) 20) (z_gd (z_in (yv6 + (3 : Int32)) 20) (z_br (fX6_askOn yd5 2 (yd5.1 13 (z_ix yv4)) (yd5.1 14 (z_ix yv6)) (yd5.1 14 (z_ix (yv6 + (1 : Int32)))) (yd5.1 14 (z_ix (yv6 + (2 : Int32)))) (yd5.1 14 (z_ix (yv6 + (3 : Int32))))) fun yd7 => z_nm (yv4 + (1 : Int32)) fun yv8 => some (.inl (yv8, yd7))))))))
noncomputable def bX6_task_85 (s : Int32 × Dt) : Option ((Int32 × Dt) ⊕ (Dt)) := match s with
  | (yv10, yd11) => zif ((yd11.1 0 22) ≤ yv10) (some (.inr yd11)) (z_gd (z_in yv10 99) (z_bd (fX6_eventOn yd11 2 (yd11.1 15 (z_ix yv10))) fun yr12 yd13 => z_nm (yv10 + (1 : Int32)) fun yv14 => some (.inl (yv14, yd13))))
noncomputable def fX6_task (yd : Dt) : Option (Int32 × Dt) :=
  z_bd (fX6_readText yd) fun yr1 yd2 => zif (yr1 = (-9 : Int32)) (z_br (fX6_clear yd2 2) fun yd3 => z_br (z_lp (bX6_task_21) ((0 : Int32), yd3)) (fun t => match t with | yd9 => z_br (z_lp (bX6_task_85) ((0 : Int32), yd9)) (fun t => match t with | yd15 => z_nm (z_st yd15 0 5 (0 : Int32)) fun yd16 => z_nm (z_st yd16 6 (z_ix (0 : Int32)) (0 : Int32)) fun yd17 => z_nm (z_st yd17 6 (z_ix (1 : Int32)) (0 : Int32)) fun yd18 => some ((yd18.1 2 (z_ix (83 : Int32))), yd18)))) (some ((-3 : Int32), yd2))
set_option maxHeartbeats 4000000 in
set_option maxRecDepth 100000 in
theorem kX6_task {l : Launch} {D : va_G} {G : z_G} {ad : Nat → Nat} {A : Nat → Prop} (hI : ∀ d, va_D A (WM G ad d)) {yd : Dt}   {rr : Int32} {dd : Dt} (h : fX6_task yd = some (rr, dd)) : z_Mi l D G A (WM G ad) yX6_task cX6_task 3 (z_rm 12 299) yd [.ref (ad 0)] rr dd := by
  refine z_ofi (by decide) (Nat.le_of_ble_eq_true rfl) fun p e s m args below meth c Q hx hb hml hown hts hK hP hRet ls hl => ?_
  have hS : va_S A s.heap s.heap [] := va_S.rf
  have hl : lv_has ls 3 [(0, .ref (ad 0))] := hl
  have h : (z_bd (fX6_readText yd) fun yr1 yd2 => zif (yr1 = (-9 : Int32)) (z_br (fX6_clear yd2 2) fun yd3 => z_br (z_lp (bX6_task_21) ((0 : Int32), yd3)) (fun t => match t with | yd9 => z_br (z_lp (bX6_task_85) ((0 : Int32), yd9)) (fun t => match t with | yd15 => z_nm (z_st yd15 0 5 (0 : Int32)) fun yd16 => z_nm (z_st yd16 6 (z_ix (0 : Int32)) (0 : Int32)) fun yd17 => z_nm (z_st yd17 6 (z_ix (1 : Int32)) (0 : Int32)) fun yd18 => some ((yd18.1 2 (z_ix (83 : Int32))), yd18)))) (some ((-3 : Int32), yd2))) = some (rr, dd) := h
  refine lv_aload_n hx hb dX6_task_0 rfl (lv_at hl 0 rfl) ?_
  obtain ⟨yr1, yd2, yhc1, h⟩ := z_bdx h
  refine z_ki (z_rV (As := []) (rest := []) ⟨hx, hb, hml, hown, hts⟩ hK hP w_X6 rfl (kX6_readText hI yhc1) giX6_114 ⟨rfl, rfl⟩ ndX6_readText ⟨Nat.le_of_ble_eq_true rfl, Nat.le_of_ble_eq_true rfl⟩ rfl hl.1 rfl (Nat.le_of_ble_eq_true rfl) ⟨Nat.le_refl _, Nat.le_refl _⟩ dX6_task_1) hS (fun H locs hP hS => ?_)
  refine lv_bipush (v := (-9 : Int32)) hx hb dX6_task_4 (by decide) ?_
  refine lv_icmp_eq (tgt := 12) hx hb dX6_task_6 (by decide) (fun yc6 => ?_) (fun yc6 => ?_)
  · have h := z_ifp yc6 h
    refine lv_aload_n hx hb dX6_task_12 rfl (lv_at hl 0 rfl) ?_
    refine gt_X6_2 hx hb hts hown hK hP (hts _ wl_3_136) dX6_task_13 ?_
    obtain ⟨yd3, yhc16, h⟩ := z_brx h
    refine z_kv (z_rS (As := [.ref (ad 2)]) (rest := []) ⟨hx, hb, hml, hown, hts⟩ hK hP (kX6_clear hI rfl yhc16) giX6_60 ⟨rfl, rfl⟩ ndX6_clear ⟨Nat.le_of_ble_eq_true rfl, Nat.le_of_ble_eq_true rfl⟩ rfl hl.1 rfl (Nat.le_of_ble_eq_true rfl) ⟨Nat.le_refl _, Nat.le_refl _⟩ dX6_task_16) hS (fun H locs hP hS => ?_)
    refine lv_iconst (v := (0 : Int32)) hx hb dX6_task_19 (by decide) ?_
    refine lv_istore_n (lv' := [(1, .int (0 : Int32)), (0, .ref (ad 0))]) hx hb dX6_task_20 rfl hl (by decide) rfl (fun ls hl => ?_)
    obtain ⟨yt21, hlp, h⟩ := z_brx h
    obtain ⟨yn21, hlp⟩ := z_lpx hlp
    have hE83 : ∀ (yd9 : Dt) (H : Heap) (locs : List Loc) (ls : Array Slot), yd9 = yt21 → va_P D vwCl (WM G ad yd9) H → va_S A s.heap H locs → lv_has ls 3 [(0, .ref (ad 0))] → W p l e (z_rm 12 299) s m args below meth c H locs 0 0 Q (F0 m 83 ls []) := by
      intro yd9 H locs ls et hP hS hl
      subst et
      have h : (z_br (z_lp (bX6_task_85) ((0 : Int32), yd9)) (fun t => match t with | yd15 => z_nm (z_st yd15 0 5 (0 : Int32)) fun yd16 => z_nm (z_st yd16 6 (z_ix (0 : Int32)) (0 : Int32)) fun yd17 => z_nm (z_st yd17 6 (z_ix (1 : Int32)) (0 : Int32)) fun yd18 => some ((yd18.1 2 (z_ix (83 : Int32))), yd18))) = some (rr, dd) := h
      refine lv_iconst (v := (0 : Int32)) hx hb dX6_task_83 (by decide) ?_
      refine lv_istore_n (lv' := [(1, .int (0 : Int32)), (0, .ref (ad 0))]) hx hb dX6_task_84 rfl hl (by decide) rfl (fun ls hl => ?_)
      obtain ⟨yt85, hlp, h⟩ := z_brx h
      obtain ⟨yn85, hlp⟩ := z_lpx hlp
      have hE114 : ∀ (yd15 : Dt) (H : Heap) (locs : List Loc) (ls : Array Slot), yd15 = yt85 → va_P D vwCl (WM G ad yd15) H → va_S A s.heap H locs → lv_has ls 3 [(0, .ref (ad 0))] → W p l e (z_rm 12 299) s m args below meth c H locs 0 0 Q (F0 m 114 ls []) := by
        intro yd15 H locs ls et hP hS hl
        subst et
        have h : (z_nm (z_st yd15 0 5 (0 : Int32)) fun yd16 => z_nm (z_st yd16 6 (z_ix (0 : Int32)) (0 : Int32)) fun yd17 => z_nm (z_st yd17 6 (z_ix (1 : Int32)) (0 : Int32)) fun yd18 => some ((yd18.1 2 (z_ix (83 : Int32))), yd18)) = some (rr, dd) := h
        refine lv_aload_n hx hb dX6_task_114 rfl (lv_at hl 0 rfl) ?_
        refine lv_iconst (v := (0 : Int32)) hx hb dX6_task_115 (by decide) ?_
        refine pt_X6_5 hx hb hts hown hK hP hI hS (hts _ wl_3_139) dX6_task_116 (fun H locs yd16 e_yd16 hP hS => ?_)
        have h := z_nma e_yd16 h
        refine lv_aload_n hx hb dX6_task_119 rfl (lv_at hl 0 rfl) ?_
        refine gt_X6_8 hx hb hts hown hK hP (hts _ wl_3_142) dX6_task_120 ?_
        refine lv_iconst (v := (0 : Int32)) hx hb dX6_task_123 (by decide) ?_
        refine lv_iconst (v := (0 : Int32)) hx hb dX6_task_124 (by decide) ?_
        refine zs_M hx hb hK hP hI hS (z_li (by decide) : vp_in (0 : Int32) 2) dX6_task_125 (by decide) (fun H locs yd17 e_yd17 hP hS => ?_)
        have h := z_nma e_yd17 h
        refine lv_aload_n hx hb dX6_task_126 rfl (lv_at hl 0 rfl) ?_
        refine gt_X6_8 hx hb hts hown hK hP (hts _ wl_3_142) dX6_task_127 ?_
        refine lv_iconst (v := (1 : Int32)) hx hb dX6_task_130 (by decide) ?_
        refine lv_iconst (v := (0 : Int32)) hx hb dX6_task_131 (by decide) ?_
        refine zs_M hx hb hK hP hI hS (z_li (by decide) : vp_in (1 : Int32) 2) dX6_task_132 (by decide) (fun H locs yd18 e_yd18 hP hS => ?_)
        have h := z_nma e_yd18 h
        refine lv_aload_n hx hb dX6_task_133 rfl (lv_at hl 0 rfl) ?_
        refine gt_X6_2 hx hb hts hown hK hP (hts _ wl_3_136) dX6_task_134 ?_
        refine lv_bipush (v := (83 : Int32)) hx hb dX6_task_137 (by decide) ?_
        refine al_M hx hb hK hP rfl (by decide) (z_li (by decide) : vp_in (83 : Int32) 214) dX6_task_139 ?_
        exact hRet _ _ _ _ _ _ hP hS h dX6_task_140
      have hL85 : ∀ (n : Nat) (yv10 : Int32) (yd11 : Dt) (H : Heap) (locs : List Loc) (ls : Array Slot), z_it (bX6_task_85) n (yv10, yd11) = some yt85 → va_P D vwCl (WM G ad yd11) H → va_S A s.heap H locs → lv_has ls 3 [(0, .ref (ad 0)), (1, .int yv10)] → W p l e (z_rm 12 299) s m args below meth c H locs 0 0 Q (F0 m 85 ls []) := by
        intro n
        induction n with
        | zero => intro yv10 yd11 H locs ls hn; exact z_it0 hn
        | succ n ih =>
          intro yv10 yd11 H locs ls hn hP hS hl
          obtain ⟨yq85, h, hq1, hq2⟩ := z_itx hn
          have h : (zif ((yd11.1 0 22) ≤ yv10) (some (.inr yd11)) (z_gd (z_in yv10 99) (z_bd (fX6_eventOn yd11 2 (yd11.1 15 (z_ix yv10))) fun yr12 yd13 => z_nm (yv10 + (1 : Int32)) fun yv14 => some (.inl (yv14, yd13))))) = some yq85 := h
          refine lv_iload_n hx hb dX6_task_85 rfl (lv_at hl 1 rfl) ?_
          refine lv_aload_n hx hb dX6_task_86 rfl (lv_at hl 0 rfl) ?_
          refine gt_X6_22 hx hb hts hown hK hP (hts _ wl_3_156) dX6_task_87 ?_
          refine lv_icmp_ge (tgt := 114) hx hb dX6_task_90 (by decide) (fun yc90 => ?_) (fun yc90 => ?_)
          · have h := z_ifp yc90 h
            exact hE114 _ _ _ _ (hq2 _ (z_sm h).symm) hP hS (lv_sub hl [0] rfl)
          · have h := z_ifn yc90 h
            refine lv_aload_n hx hb dX6_task_93 rfl (lv_at hl 0 rfl) ?_
            refine lv_aload_n hx hb dX6_task_94 rfl (lv_at hl 0 rfl) ?_
            refine gt_X6_2 hx hb hts hown hK hP (hts _ wl_3_136) dX6_task_95 ?_
            refine lv_aload_n hx hb dX6_task_98 rfl (lv_at hl 0 rfl) ?_
            refine gt_X6_23 hx hb hts hown hK hP (hts _ wl_3_157) dX6_task_99 ?_
            refine lv_iload_n hx hb dX6_task_102 rfl (lv_at hl 1 rfl) ?_
            obtain ⟨yg103, h⟩ := z_gi h
            refine al_M hx hb hK hP rfl (by decide) yg103 dX6_task_103 ?_
            obtain ⟨yr12, yd13, yhc104, h⟩ := z_bdx h
            refine z_kz (z_rV (As := [.ref (ad 2), .int (yd11.1 15 (z_ix yv10))]) (rest := []) ⟨hx, hb, hml, hown, hts⟩ hK hP w_X6 rfl (kX6_eventOn hI rfl yhc104) giX6_188 ⟨rfl, rfl⟩ ndX6_eventOn ⟨Nat.le_of_ble_eq_true rfl, Nat.le_of_ble_eq_true rfl⟩ rfl hl.1 rfl (Nat.le_of_ble_eq_true rfl) ⟨Nat.le_refl _, Nat.le_refl _⟩ dX6_task_104) hS (fun H locs z_yr12 hP hS => ?_)
            refine lv_istore_n (lv' := [(2, .int yr12), (0, .ref (ad 0)), (1, .int yv10)]) hx hb dX6_task_107 rfl hl (by decide) rfl (fun ls hl => ?_)
            obtain ⟨yv14, e_yv14, h⟩ := z_nmx h
            refine lv_iinc (v := yv14) (lv' := [(1, .int yv14), (2, .int yr12), (0, .ref (ad 0))]) hx hb dX6_task_108 hl (k := 2) rfl (by rw [e_yv14]; rfl) (by decide) rfl (fun ls hl => ?_)
            refine lv_goto (tgt := 85) hx hb dX6_task_111 (by decide) ?_
            exact ih _ _ _ _ _ (hq1 _ (z_sm h).symm) hP hS (lv_sub hl [2, 0] rfl)
      exact hL85 yn85 _ _ _ _ _ hlp hP hS (lv_sub hl [1, 0] rfl)
    have hL21 : ∀ (n : Nat) (yv4 : Int32) (yd5 : Dt) (H : Heap) (locs : List Loc) (ls : Array Slot), z_it (bX6_task_21) n (yv4, yd5) = some yt21 → va_P D vwCl (WM G ad yd5) H → va_S A s.heap H locs → lv_has ls 3 [(0, .ref (ad 0)), (1, .int yv4)] → W p l e (z_rm 12 299) s m args below meth c H locs 0 0 Q (F0 m 21 ls []) := by
      intro n
      induction n with
      | zero => intro yv4 yd5 H locs ls hn; exact z_it0 hn
      | succ n ih =>
        intro yv4 yd5 H locs ls hn hP hS hl
        obtain ⟨yq21, h, hq1, hq2⟩ := z_itx hn
        have h : (zif ((yd5.1 0 19) ≤ yv4) (some (.inr yd5)) (z_nm ((4 : Int32) * yv4) fun yv6 => z_gd (z_in yv4 5) (z_gd (z_in yv6 20) (z_gd (z_in (yv6 + (1 : Int32)) 20) (z_gd (z_in (yv6 + (2 : Int32)) 20) (z_gd (z_in (yv6 + (3 : Int32)) 20) (z_br (fX6_askOn yd5 2 (yd5.1 13 (z_ix yv4)) (yd5.1 14 (z_ix yv6)) (yd5.1 14 (z_ix (yv6 + (1 : Int32)))) (yd5.1 14 (z_ix (yv6 + (2 : Int32)))) (yd5.1 14 (z_ix (yv6 + (3 : Int32))))) fun yd7 => z_nm (yv4 + (1 : Int32)) fun yv8 => some (.inl (yv8, yd7))))))))) = some yq21 := h
        refine lv_iload_n hx hb dX6_task_21 rfl (lv_at hl 1 rfl) ?_
        refine lv_aload_n hx hb dX6_task_22 rfl (lv_at hl 0 rfl) ?_
        refine gt_X6_19 hx hb hts hown hK hP (hts _ wl_3_153) dX6_task_23 ?_
        refine lv_icmp_ge (tgt := 83) hx hb dX6_task_26 (by decide) (fun yc26 => ?_) (fun yc26 => ?_)
        · have h := z_ifp yc26 h
          exact hE83 _ _ _ _ (hq2 _ (z_sm h).symm) hP hS (lv_sub hl [0] rfl)
        · have h := z_ifn yc26 h
          refine lv_iconst (v := (4 : Int32)) hx hb dX6_task_29 (by decide) ?_
          refine lv_iload_n hx hb dX6_task_30 rfl (lv_at hl 1 rfl) ?_
          refine lv_imul hx hb dX6_task_31 ?_
          refine lv_topi (fun yv6 e_yv6 => ?_)
          have h := z_nma e_yv6 h
          refine lv_istore_n (lv' := [(2, .int yv6), (0, .ref (ad 0)), (1, .int yv4)]) hx hb dX6_task_32 rfl hl (by decide) rfl (fun ls hl => ?_)
          refine lv_aload_n hx hb dX6_task_33 rfl (lv_at hl 1 rfl) ?_
          refine lv_aload_n hx hb dX6_task_34 rfl (lv_at hl 1 rfl) ?_
          refine gt_X6_2 hx hb hts hown hK hP (hts _ wl_3_136) dX6_task_35 ?_
          refine lv_aload_n hx hb dX6_task_38 rfl (lv_at hl 1 rfl) ?_
          refine gt_X6_20 hx hb hts hown hK hP (hts _ wl_3_154) dX6_task_39 ?_
          refine lv_iload_n hx hb dX6_task_42 rfl (lv_at hl 2 rfl) ?_
          obtain ⟨yg43, h⟩ := z_gi h
          refine al_M hx hb hK hP rfl (by decide) yg43 dX6_task_43 ?_
          refine lv_aload_n hx hb dX6_task_44 rfl (lv_at hl 1 rfl) ?_
          refine gt_X6_21 hx hb hts hown hK hP (hts _ wl_3_155) dX6_task_45 ?_
          refine lv_iload_n hx hb dX6_task_48 rfl (lv_at hl 0 rfl) ?_
          obtain ⟨yg49, h⟩ := z_gi h
          refine al_M hx hb hK hP rfl (by decide) yg49 dX6_task_49 ?_
          refine lv_aload_n hx hb dX6_task_50 rfl (lv_at hl 1 rfl) ?_
          refine gt_X6_21 hx hb hts hown hK hP (hts _ wl_3_155) dX6_task_51 ?_
          refine lv_iload_n hx hb dX6_task_54 rfl (lv_at hl 0 rfl) ?_
          refine lv_iconst (v := (1 : Int32)) hx hb dX6_task_55 (by decide) ?_
          refine lv_iadd hx hb dX6_task_56 ?_
          obtain ⟨yg57, h⟩ := z_gi h
          refine al_M hx hb hK hP rfl (by decide) yg57 dX6_task_57 ?_
          refine lv_aload_n hx hb dX6_task_58 rfl (lv_at hl 1 rfl) ?_
          refine gt_X6_21 hx hb hts hown hK hP (hts _ wl_3_155) dX6_task_59 ?_
          refine lv_iload_n hx hb dX6_task_62 rfl (lv_at hl 0 rfl) ?_
          refine lv_iconst (v := (2 : Int32)) hx hb dX6_task_63 (by decide) ?_
          refine lv_iadd hx hb dX6_task_64 ?_
          obtain ⟨yg65, h⟩ := z_gi h
          refine al_M hx hb hK hP rfl (by decide) yg65 dX6_task_65 ?_
          refine lv_aload_n hx hb dX6_task_66 rfl (lv_at hl 1 rfl) ?_
          refine gt_X6_21 hx hb hts hown hK hP (hts _ wl_3_155) dX6_task_67 ?_
          refine lv_iload_n hx hb dX6_task_70 rfl (lv_at hl 0 rfl) ?_
          refine lv_iconst (v := (3 : Int32)) hx hb dX6_task_71 (by decide) ?_
          refine lv_iadd hx hb dX6_task_72 ?_
          obtain ⟨yg73, h⟩ := z_gi h
          refine al_M hx hb hK hP rfl (by decide) yg73 dX6_task_73 ?_
          obtain ⟨yd7, yhc74, h⟩ := z_brx h
          refine z_kv (z_rV (As := [.ref (ad 2), .int (yd5.1 13 (z_ix yv4)), .int (yd5.1 14 (z_ix yv6)), .int (yd5.1 14 (z_ix (yv6 + (1 : Int32)))), .int (yd5.1 14 (z_ix (yv6 + (2 : Int32)))), .int (yd5.1 14 (z_ix (yv6 + (3 : Int32))))]) (rest := []) ⟨hx, hb, hml, hown, hts⟩ hK hP w_X6 rfl (kX6_askOn hI rfl yhc74) giX6_184 ⟨rfl, rfl⟩ ndX6_askOn ⟨Nat.le_of_ble_eq_true rfl, Nat.le_of_ble_eq_true rfl⟩ rfl hl.1 rfl (Nat.le_of_ble_eq_true rfl) ⟨Nat.le_refl _, Nat.le_refl _⟩ dX6_task_74) hS (fun H locs hP hS => ?_)
          obtain ⟨yv8, e_yv8, h⟩ := z_nmx h
          refine lv_iinc (v := yv8) (lv' := [(1, .int yv8), (2, .int yv6), (0, .ref (ad 0))]) hx hb dX6_task_77 hl (k := 2) rfl (by rw [e_yv8]; rfl) (by decide) rfl (fun ls hl => ?_)
          refine lv_goto (tgt := 21) hx hb dX6_task_80 (by decide) ?_
          exact ih _ _ _ _ _ (hq1 _ (z_sm h).symm) hP hS (lv_sub hl [2, 0] rfl)
    exact hL21 yn21 _ _ _ _ _ hlp hP hS (lv_sub hl [1, 0] rfl)
  · have h := z_ifn yc6 h
    refine lv_bipush (v := (-3 : Int32)) hx hb dX6_task_9 (by decide) ?_
    exact hRet _ _ _ _ _ _ hP hS h dX6_task_11
noncomputable def jX6_isBeginning_70 (yv3 : Int32) (yv4 : Int32) : Option ((Int32 × Int32) ⊕ (Int32)) :=
  z_nm (yv3 + (1 : Int32)) fun yv5 => some (.inl (yv4, yv5))
noncomputable def jX6_isBeginning_69 (yv3 : Int32) : Option ((Int32 × Int32) ⊕ (Int32)) :=
  jX6_isBeginning_70 yv3 (0 : Int32)
noncomputable def bX6_isBeginning_23 (yx3 : Int32) (yx1 : Int32) (yx2 : Int32) (yd : Dt) (s : Int32 × Int32) : Option ((Int32 × Int32) ⊕ (Int32)) := match s with
  | (yv2, yv3) => zif (yx3 ≤ yv3) (some (.inr yv2)) (zif (yv2 = 0) (jX6_isBeginning_69 yv3) (z_gd (z_in (((89 : Int32) + ((4 : Int32) * yx1)) + yv3) 214) (z_gd (z_in (((89 : Int32) + ((4 : Int32) * yx2)) + yv3) 214) (zif ((yd.1 2 (z_ix (((89 : Int32) + ((4 : Int32) * yx1)) + yv3))) = (yd.1 2 (z_ix (((89 : Int32) + ((4 : Int32) * yx2)) + yv3)))) (jX6_isBeginning_70 yv3 (1 : Int32)) (jX6_isBeginning_69 yv3)))))
noncomputable def fX6_isBeginning (yd : Dt) (yx1 : Int32) (yx2 : Int32) (yx3 : Int32) : Option Int32 :=
  z_gd (z_in ((84 : Int32) + yx2) 214) (z_nm (zif ((yd.1 2 (z_ix ((84 : Int32) + yx2))) < yx3) (0 : Int32) (1 : Int32)) fun yv1 => z_br (z_lp (bX6_isBeginning_23 yx3 yx1 yx2 yd) (yv1, (0 : Int32))) (fun t => match t with | yv6 => some yv6))
set_option maxHeartbeats 4000000 in
set_option maxRecDepth 100000 in
theorem kX6_isBeginning {l : Launch} {D : va_G} {G : z_G} {ad : Nat → Nat} {A : Nat → Prop} (hI : ∀ d, va_D A (WM G ad d)) {yd : Dt} {yx1 : Int32} {yx2 : Int32} {yx3 : Int32}  {rr : Int32} (h : fX6_isBeginning yd yx1 yx2 yx3 = some rr) : z_Mz l D G A (WM G ad) yX6_isBeginning cX6_isBeginning 6 (z_rm 0 0) yd [.ref (ad 0), .int yx1, .int yx2, .int yx3] rr yd := by
  refine z_ofz (by decide) (Nat.le_of_ble_eq_true rfl) fun p e s m args below meth c Q hx hb hml hown hts hK hP hRet ls hl => ?_
  have hS : va_S A s.heap s.heap [] := va_S.rf
  have hl : lv_has ls 6 [(0, .ref (ad 0)), (1, .int yx1), (2, .int yx2), (3, .int yx3)] := hl
  have h : (z_gd (z_in ((84 : Int32) + yx2) 214) (z_nm (zif ((yd.1 2 (z_ix ((84 : Int32) + yx2))) < yx3) (0 : Int32) (1 : Int32)) fun yv1 => z_br (z_lp (bX6_isBeginning_23 yx3 yx1 yx2 yd) (yv1, (0 : Int32))) (fun t => match t with | yv6 => some yv6))) = some rr := h
  refine lv_aload_n hx hb dX6_isBeginning_0 rfl (lv_at hl 0 rfl) ?_
  refine gt_X6_2 hx hb hts hown hK hP (hts _ wl_3_136) dX6_isBeginning_1 ?_
  refine lv_bipush (v := (84 : Int32)) hx hb dX6_isBeginning_4 (by decide) ?_
  refine lv_iload_n hx hb dX6_isBeginning_6 rfl (lv_at hl 2 rfl) ?_
  refine lv_iadd hx hb dX6_isBeginning_7 ?_
  obtain ⟨yg8, h⟩ := z_gi h
  refine al_M hx hb hK hP rfl (by decide) yg8 dX6_isBeginning_8 ?_
  refine lv_iload_n hx hb dX6_isBeginning_9 rfl (lv_at hl 3 rfl) ?_
  have hM18 : ∀ (yv1 : Int32) (H : Heap) (locs : List Loc), yv1 = (zif ((yd.1 2 (z_ix ((84 : Int32) + yx2))) < yx3) (0 : Int32) (1 : Int32)) → va_P D vwCl (WM G ad yd) H → va_S A s.heap H locs → W p l e (z_rm 0 0) s m args below meth c H locs 0 0 Q (F0 m 18 ls [.int yv1]) := by
    intro yv1 H locs e_yv1 hP hS
    have h := z_nma e_yv1 h
    refine lv_istore (lv' := [(4, .int yv1), (0, .ref (ad 0)), (1, .int yx1), (2, .int yx2), (3, .int yx3)]) hx hb dX6_isBeginning_18 hl (by decide) rfl (fun ls hl => ?_)
    refine lv_iconst (v := (0 : Int32)) hx hb dX6_isBeginning_20 (by decide) ?_
    refine lv_istore (lv' := [(5, .int (0 : Int32)), (4, .int yv1), (0, .ref (ad 0)), (1, .int yx1), (2, .int yx2), (3, .int yx3)]) hx hb dX6_isBeginning_21 hl (by decide) rfl (fun ls hl => ?_)
    obtain ⟨yt23, hlp, h⟩ := z_brx h
    obtain ⟨yn23, hlp⟩ := z_lpx hlp
    have hE78 : ∀ (yv6 : Int32) (H : Heap) (locs : List Loc) (ls : Array Slot), (yv6 = 0 ∨ yv6 = 1) → yv6 = yt23 → va_P D vwCl (WM G ad yd) H → va_S A s.heap H locs → lv_has ls 6 [(4, .int yv6)] → W p l e (z_rm 0 0) s m args below meth c H locs 0 0 Q (F0 m 78 ls []) := by
      intro yv6 H locs ls z_yv6 et hP hS hl
      subst et
      have h : (some yv6) = some rr := h
      refine lv_iload hx hb dX6_isBeginning_78 (lv_at hl 0 rfl) ?_
      exact hRet _ _ _ _ _ _ hP hS z_yv6 (z_pair h) dX6_isBeginning_80
    have hL23 : ∀ (n : Nat) (yv2 : Int32) (yv3 : Int32) (H : Heap) (locs : List Loc) (ls : Array Slot), (yv2 = 0 ∨ yv2 = 1) → z_it (bX6_isBeginning_23 yx3 yx1 yx2 yd) n (yv2, yv3) = some yt23 → va_P D vwCl (WM G ad yd) H → va_S A s.heap H locs → lv_has ls 6 [(0, .ref (ad 0)), (1, .int yx1), (2, .int yx2), (3, .int yx3), (4, .int yv2), (5, .int yv3)] → W p l e (z_rm 0 0) s m args below meth c H locs 0 0 Q (F0 m 23 ls []) := by
      intro n
      induction n with
      | zero => intro yv2 yv3 H locs ls z_yv2 hn; exact z_it0 hn
      | succ n ih =>
        intro yv2 yv3 H locs ls z_yv2 hn hP hS hl
        obtain ⟨yq23, h, hq1, hq2⟩ := z_itx hn
        have h : (zif (yx3 ≤ yv3) (some (.inr yv2)) (zif (yv2 = 0) (jX6_isBeginning_69 yv3) (z_gd (z_in (((89 : Int32) + ((4 : Int32) * yx1)) + yv3) 214) (z_gd (z_in (((89 : Int32) + ((4 : Int32) * yx2)) + yv3) 214) (zif ((yd.1 2 (z_ix (((89 : Int32) + ((4 : Int32) * yx1)) + yv3))) = (yd.1 2 (z_ix (((89 : Int32) + ((4 : Int32) * yx2)) + yv3)))) (jX6_isBeginning_70 yv3 (1 : Int32)) (jX6_isBeginning_69 yv3)))))) = some yq23 := h
        refine lv_iload hx hb dX6_isBeginning_23 (lv_at hl 5 rfl) ?_
        refine lv_iload_n hx hb dX6_isBeginning_25 rfl (lv_at hl 3 rfl) ?_
        refine lv_icmp_ge (tgt := 78) hx hb dX6_isBeginning_26 (by decide) (fun yc26 => ?_) (fun yc26 => ?_)
        · have h := z_ifp yc26 h
          exact hE78 _ _ _ _ z_yv2 (hq2 _ (z_sm h).symm) hP hS (lv_sub hl [4] rfl)
        · have h := z_ifn yc26 h
          refine lv_iload hx hb dX6_isBeginning_29 (lv_at hl 4 rfl) ?_
          have hJ70 : ∀ (yv4 : Int32) (H : Heap) (locs : List Loc) (ls : Array Slot), (yv4 = 0 ∨ yv4 = 1) → jX6_isBeginning_70 yv3 yv4 = some yq23 → va_P D vwCl (WM G ad yd) H → va_S A s.heap H locs → lv_has ls 6 [(0, .ref (ad 0)), (1, .int yx1), (2, .int yx2), (3, .int yx3), (5, .int yv3)] → W p l e (z_rm 0 0) s m args below meth c H locs 0 0 Q (F0 m 70 ls [.int yv4]) := by
            intro yv4 H locs ls z_yv4 h hP hS hl
            have h : (z_nm (yv3 + (1 : Int32)) fun yv5 => some (.inl (yv4, yv5))) = some yq23 := h
            refine lv_istore (lv' := [(4, .int yv4), (0, .ref (ad 0)), (1, .int yx1), (2, .int yx2), (3, .int yx3), (5, .int yv3)]) hx hb dX6_isBeginning_70 hl (by decide) rfl (fun ls hl => ?_)
            obtain ⟨yv5, e_yv5, h⟩ := z_nmx h
            refine lv_iinc (v := yv5) (lv' := [(5, .int yv5), (4, .int yv4), (0, .ref (ad 0)), (1, .int yx1), (2, .int yx2), (3, .int yx3)]) hx hb dX6_isBeginning_72 hl (k := 5) rfl (by rw [e_yv5]; rfl) (by decide) rfl (fun ls hl => ?_)
            refine lv_goto (tgt := 23) hx hb dX6_isBeginning_75 (by decide) ?_
            exact ih _ _ _ _ _ z_yv4 (hq1 _ (z_sm h).symm) hP hS (lv_sub hl [2, 3, 4, 5, 1, 0] rfl)
          have hJ69 : ∀  (H : Heap) (locs : List Loc) (ls : Array Slot), jX6_isBeginning_69 yv3 = some yq23 → va_P D vwCl (WM G ad yd) H → va_S A s.heap H locs → lv_has ls 6 [(0, .ref (ad 0)), (1, .int yx1), (2, .int yx2), (3, .int yx3), (5, .int yv3)] → W p l e (z_rm 0 0) s m args below meth c H locs 0 0 Q (F0 m 69 ls []) := by
            intro  H locs ls h hP hS hl
            have h : (jX6_isBeginning_70 yv3 (0 : Int32)) = some yq23 := h
            refine lv_iconst (v := (0 : Int32)) hx hb dX6_isBeginning_69 (by decide) ?_
            exact hJ70 _ _ _ _ (Or.inl rfl) h hP hS (lv_sub hl [0, 1, 2, 3, 4] rfl)
          refine lv_if_eq (tgt := 69) hx hb dX6_isBeginning_31 (by decide) (fun yc31 => ?_) (fun yc31 => ?_)
          · have h := z_ifp yc31 h
            exact hJ69  _ _ _ h hP hS (lv_sub hl [0, 1, 2, 3, 5] rfl)
          · have h := z_ifn yc31 h
            refine lv_aload_n hx hb dX6_isBeginning_34 rfl (lv_at hl 0 rfl) ?_
            refine gt_X6_2 hx hb hts hown hK hP (hts _ wl_3_136) dX6_isBeginning_35 ?_
            refine lv_bipush (v := (89 : Int32)) hx hb dX6_isBeginning_38 (by decide) ?_
            refine lv_iconst (v := (4 : Int32)) hx hb dX6_isBeginning_40 (by decide) ?_
            refine lv_iload_n hx hb dX6_isBeginning_41 rfl (lv_at hl 1 rfl) ?_
            refine lv_imul hx hb dX6_isBeginning_42 ?_
            refine lv_iadd hx hb dX6_isBeginning_43 ?_
            refine lv_iload hx hb dX6_isBeginning_44 (lv_at hl 5 rfl) ?_
            refine lv_iadd hx hb dX6_isBeginning_46 ?_
            obtain ⟨yg47, h⟩ := z_gi h
            refine al_M hx hb hK hP rfl (by decide) yg47 dX6_isBeginning_47 ?_
            refine lv_aload_n hx hb dX6_isBeginning_48 rfl (lv_at hl 0 rfl) ?_
            refine gt_X6_2 hx hb hts hown hK hP (hts _ wl_3_136) dX6_isBeginning_49 ?_
            refine lv_bipush (v := (89 : Int32)) hx hb dX6_isBeginning_52 (by decide) ?_
            refine lv_iconst (v := (4 : Int32)) hx hb dX6_isBeginning_54 (by decide) ?_
            refine lv_iload_n hx hb dX6_isBeginning_55 rfl (lv_at hl 2 rfl) ?_
            refine lv_imul hx hb dX6_isBeginning_56 ?_
            refine lv_iadd hx hb dX6_isBeginning_57 ?_
            refine lv_iload hx hb dX6_isBeginning_58 (lv_at hl 5 rfl) ?_
            refine lv_iadd hx hb dX6_isBeginning_60 ?_
            obtain ⟨yg61, h⟩ := z_gi h
            refine al_M hx hb hK hP rfl (by decide) yg61 dX6_isBeginning_61 ?_
            refine lv_icmp_ne (tgt := 69) hx hb dX6_isBeginning_62 (by decide) (fun yc62 => ?_) (fun yc62 => ?_)
            · have h := z_ifn yc62 h
              exact hJ69  _ _ _ h hP hS (lv_sub hl [0, 1, 2, 3, 5] rfl)
            · have h := z_ifp yc62 h
              refine lv_iconst (v := (1 : Int32)) hx hb dX6_isBeginning_65 (by decide) ?_
              refine lv_goto (tgt := 70) hx hb dX6_isBeginning_66 (by decide) ?_
              exact hJ70 _ _ _ _ (Or.inr rfl) h hP hS (lv_sub hl [0, 1, 2, 3, 5] rfl)
    exact hL23 yn23 _ _ _ _ _ (z_be e_yv1 (z_b2 (Or.inl rfl) (Or.inr rfl))) hlp hP hS (lv_sub hl [2, 3, 4, 5, 1, 0] rfl)
  refine lv_icmp_lt (tgt := 17) hx hb dX6_isBeginning_10 (by decide) (fun yc10 => ?_) (fun yc10 => ?_)
  · refine lv_iconst (v := (0 : Int32)) hx hb dX6_isBeginning_17 (by decide) ?_
    exact hM18 _ _ _ (z_tp yc10 rfl) hP hS
  · refine lv_iconst (v := (1 : Int32)) hx hb dX6_isBeginning_13 (by decide) ?_
    refine lv_goto (tgt := 18) hx hb dX6_isBeginning_14 (by decide) ?_
    exact hM18 _ _ _ (z_tn yc10 rfl) hP hS
