noncomputable def bX6_clear_2 (ya0 : Nat) (s : Int32 × Dt) : Option ((Int32 × Dt) ⊕ (Dt)) := match s with
  | (yv1, yd2) => zif ((214 : Int32) ≤ yv1) (some (.inr yd2)) (z_nm (zif ((114 : Int32) ≤ yv1) (-9 : Int32) (0 : Int32)) fun yv3 => z_gd (z_in yv1 214) (z_nm (z_st yd2 ya0 (z_ix yv1) yv3) fun yd4 => z_nm (yv1 + (1 : Int32)) fun yv5 => some (.inl (yv5, yd4))))
noncomputable def fX6_clear (yd : Dt) (ya0 : Nat) : Option (Dt) :=
  z_br (z_lp (bX6_clear_2 ya0) ((0 : Int32), yd)) (fun t => match t with | yd6 => z_nm (z_st yd6 ya0 (z_ix (81 : Int32)) (-9 : Int32)) fun yd7 => some yd7)
set_option maxHeartbeats 4000000 in
set_option maxRecDepth 100000 in
theorem kX6_clear {l : Launch} {D : va_G} {G : z_G} {ad : Nat → Nat} {A : Nat → Prop} (hI : ∀ d, va_D A (WM G ad d)) {yd : Dt} {ya0 : Nat} (yh0 : arM ya0 = 214) {dd : Dt} (h : fX6_clear yd ya0 = some dd) : z_Mv l D G A (WM G ad) yX6_clear cX6_clear 2 (z_rm 0 0) yd [.ref (ad ya0)] dd := by
  refine z_ofv (by decide) (Nat.le_of_ble_eq_true rfl) fun p e s m args below meth c Q hx hb hml hown hts hK hP hRet ls hl => ?_
  have hS : va_S A s.heap s.heap [] := va_S.rf
  have hl : lv_has ls 2 [(0, .ref (ad ya0))] := hl
  have h : (z_br (z_lp (bX6_clear_2 ya0) ((0 : Int32), yd)) (fun t => match t with | yd6 => z_nm (z_st yd6 ya0 (z_ix (81 : Int32)) (-9 : Int32)) fun yd7 => some yd7)) = some dd := h
  refine lv_iconst (v := (0 : Int32)) hx hb dX6_clear_0 (by decide) ?_
  refine lv_istore_n (lv' := [(1, .int (0 : Int32)), (0, .ref (ad ya0))]) hx hb dX6_clear_1 rfl hl (by decide) rfl (fun ls hl => ?_)
  obtain ⟨yt2, hlp, h⟩ := z_brx h
  obtain ⟨yn2, hlp⟩ := z_lpx hlp
  have hE30 : ∀ (yd6 : Dt) (H : Heap) (locs : List Loc) (ls : Array Slot), yd6 = yt2 → va_P D vwCl (WM G ad yd6) H → va_S A s.heap H locs → lv_has ls 2 [(0, .ref (ad ya0))] → W p l e (z_rm 0 0) s m args below meth c H locs 0 0 Q (F0 m 30 ls []) := by
    intro yd6 H locs ls et hP hS hl
    subst et
    have h : (z_nm (z_st yd6 ya0 (z_ix (81 : Int32)) (-9 : Int32)) fun yd7 => some yd7) = some dd := h
    refine lv_aload_n hx hb dX6_clear_30 rfl (lv_at hl 0 rfl) ?_
    refine lv_bipush (v := (81 : Int32)) hx hb dX6_clear_31 (by decide) ?_
    refine lv_bipush (v := (-9 : Int32)) hx hb dX6_clear_33 (by decide) ?_
    refine as_M hx hb hK hP hI hS yh0 (by decide) (z_li (by decide) : vp_in (81 : Int32) 214) dX6_clear_35 (fun H locs yd7 e_yd7 hP hS => ?_)
    have h := z_nma e_yd7 h
    exact hRet _ _ _ _ _ hP hS h dX6_clear_36
  have hL2 : ∀ (n : Nat) (yv1 : Int32) (yd2 : Dt) (H : Heap) (locs : List Loc) (ls : Array Slot), z_it (bX6_clear_2 ya0) n (yv1, yd2) = some yt2 → va_P D vwCl (WM G ad yd2) H → va_S A s.heap H locs → lv_has ls 2 [(0, .ref (ad ya0)), (1, .int yv1)] → W p l e (z_rm 0 0) s m args below meth c H locs 0 0 Q (F0 m 2 ls []) := by
    intro n
    induction n with
    | zero => intro yv1 yd2 H locs ls hn; exact z_it0 hn
    | succ n ih =>
      intro yv1 yd2 H locs ls hn hP hS hl
      obtain ⟨yq2, h, hq1, hq2⟩ := z_itx hn
      have h : (zif ((214 : Int32) ≤ yv1) (some (.inr yd2)) (z_nm (zif ((114 : Int32) ≤ yv1) (-9 : Int32) (0 : Int32)) fun yv3 => z_gd (z_in yv1 214) (z_nm (z_st yd2 ya0 (z_ix yv1) yv3) fun yd4 => z_nm (yv1 + (1 : Int32)) fun yv5 => some (.inl (yv5, yd4))))) = some yq2 := h
      refine lv_iload_n hx hb dX6_clear_2 rfl (lv_at hl 1 rfl) ?_
      refine lv_sipush (v := (214 : Int32)) hx hb dX6_clear_3 (by decide) ?_
      refine lv_icmp_ge (tgt := 30) hx hb dX6_clear_6 (by decide) (fun yc6 => ?_) (fun yc6 => ?_)
      · have h := z_ifp yc6 h
        exact hE30 _ _ _ _ (hq2 _ (z_sm h).symm) hP hS (lv_sub hl [0] rfl)
      · have h := z_ifn yc6 h
        refine lv_aload_n hx hb dX6_clear_9 rfl (lv_at hl 0 rfl) ?_
        refine lv_iload_n hx hb dX6_clear_10 rfl (lv_at hl 1 rfl) ?_
        refine lv_iload_n hx hb dX6_clear_11 rfl (lv_at hl 1 rfl) ?_
        refine lv_bipush (v := (114 : Int32)) hx hb dX6_clear_12 (by decide) ?_
        have hM23 : ∀ (yv3 : Int32) (H : Heap) (locs : List Loc), yv3 = (zif ((114 : Int32) ≤ yv1) (-9 : Int32) (0 : Int32)) → va_P D vwCl (WM G ad yd2) H → va_S A s.heap H locs → W p l e (z_rm 0 0) s m args below meth c H locs 0 0 Q (F0 m 23 ls [.int yv3, .int yv1, .ref (ad ya0)]) := by
          intro yv3 H locs e_yv3 hP hS
          have h := z_nma e_yv3 h
          obtain ⟨yg23, h⟩ := z_gi h
          refine as_M hx hb hK hP hI hS yh0 (by decide) yg23 dX6_clear_23 (fun H locs yd4 e_yd4 hP hS => ?_)
          have h := z_nma e_yd4 h
          obtain ⟨yv5, e_yv5, h⟩ := z_nmx h
          refine lv_iinc (v := yv5) (lv' := [(1, .int yv5), (0, .ref (ad ya0))]) hx hb dX6_clear_24 hl (k := 1) rfl (by rw [e_yv5]; rfl) (by decide) rfl (fun ls hl => ?_)
          refine lv_goto (tgt := 2) hx hb dX6_clear_27 (by decide) ?_
          exact ih _ _ _ _ _ (hq1 _ (z_sm h).symm) hP hS (lv_sub hl [1, 0] rfl)
        refine lv_icmp_ge (tgt := 21) hx hb dX6_clear_14 (by decide) (fun yc14 => ?_) (fun yc14 => ?_)
        · refine lv_bipush (v := (-9 : Int32)) hx hb dX6_clear_21 (by decide) ?_
          exact hM23 _ _ _ (z_tp yc14 rfl) hP hS
        · refine lv_iconst (v := (0 : Int32)) hx hb dX6_clear_17 (by decide) ?_
          refine lv_goto (tgt := 23) hx hb dX6_clear_18 (by decide) ?_
          exact hM23 _ _ _ (z_tn yc14 rfl) hP hS
  exact hL2 yn2 _ _ _ _ _ hlp hP hS (lv_sub hl [1, 0] rfl)
noncomputable def bX6_copy_2 (ya1 : Nat) (ya0 : Nat) (s : Int32 × Dt) : Option ((Int32 × Dt) ⊕ (Dt)) := match s with
  | (yv1, yd2) => zif ((214 : Int32) ≤ yv1) (some (.inr yd2)) (z_gd (z_in yv1 214) (z_gd (z_in yv1 214) (z_nm (z_st yd2 ya1 (z_ix yv1) (yd2.1 ya0 (z_ix yv1))) fun yd3 => z_nm (yv1 + (1 : Int32)) fun yv4 => some (.inl (yv4, yd3)))))
noncomputable def fX6_copy (yd : Dt) (ya0 : Nat) (ya1 : Nat) : Option (Dt) :=
  z_br (z_lp (bX6_copy_2 ya1 ya0) ((0 : Int32), yd)) (fun t => match t with | yd5 => some yd5)
set_option maxHeartbeats 4000000 in
set_option maxRecDepth 100000 in
theorem kX6_copy {l : Launch} {D : va_G} {G : z_G} {ad : Nat → Nat} {A : Nat → Prop} (hI : ∀ d, va_D A (WM G ad d)) {yd : Dt} {ya0 : Nat} {ya1 : Nat} (yh0 : arM ya0 = 214) (yh1 : arM ya1 = 214) {dd : Dt} (h : fX6_copy yd ya0 ya1 = some dd) : z_Mv l D G A (WM G ad) yX6_copy cX6_copy 3 (z_rm 0 0) yd [.ref (ad ya0), .ref (ad ya1)] dd := by
  refine z_ofv (by decide) (Nat.le_of_ble_eq_true rfl) fun p e s m args below meth c Q hx hb hml hown hts hK hP hRet ls hl => ?_
  have hS : va_S A s.heap s.heap [] := va_S.rf
  have hl : lv_has ls 3 [(0, .ref (ad ya0)), (1, .ref (ad ya1))] := hl
  have h : (z_br (z_lp (bX6_copy_2 ya1 ya0) ((0 : Int32), yd)) (fun t => match t with | yd5 => some yd5)) = some dd := h
  refine lv_iconst (v := (0 : Int32)) hx hb dX6_copy_0 (by decide) ?_
  refine lv_istore_n (lv' := [(2, .int (0 : Int32)), (0, .ref (ad ya0)), (1, .ref (ad ya1))]) hx hb dX6_copy_1 rfl hl (by decide) rfl (fun ls hl => ?_)
  obtain ⟨yt2, hlp, h⟩ := z_brx h
  obtain ⟨yn2, hlp⟩ := z_lpx hlp
  have hE21 : ∀ (yd5 : Dt) (H : Heap) (locs : List Loc) (ls : Array Slot), yd5 = yt2 → va_P D vwCl (WM G ad yd5) H → va_S A s.heap H locs → lv_has ls 3 [] → W p l e (z_rm 0 0) s m args below meth c H locs 0 0 Q (F0 m 21 ls []) := by
    intro yd5 H locs ls et hP hS hl
    subst et
    have h : (some yd5) = some dd := h
    exact hRet _ _ _ _ _ hP hS h dX6_copy_21
  have hL2 : ∀ (n : Nat) (yv1 : Int32) (yd2 : Dt) (H : Heap) (locs : List Loc) (ls : Array Slot), z_it (bX6_copy_2 ya1 ya0) n (yv1, yd2) = some yt2 → va_P D vwCl (WM G ad yd2) H → va_S A s.heap H locs → lv_has ls 3 [(0, .ref (ad ya0)), (1, .ref (ad ya1)), (2, .int yv1)] → W p l e (z_rm 0 0) s m args below meth c H locs 0 0 Q (F0 m 2 ls []) := by
    intro n
    induction n with
    | zero => intro yv1 yd2 H locs ls hn; exact z_it0 hn
    | succ n ih =>
      intro yv1 yd2 H locs ls hn hP hS hl
      obtain ⟨yq2, h, hq1, hq2⟩ := z_itx hn
      have h : (zif ((214 : Int32) ≤ yv1) (some (.inr yd2)) (z_gd (z_in yv1 214) (z_gd (z_in yv1 214) (z_nm (z_st yd2 ya1 (z_ix yv1) (yd2.1 ya0 (z_ix yv1))) fun yd3 => z_nm (yv1 + (1 : Int32)) fun yv4 => some (.inl (yv4, yd3)))))) = some yq2 := h
      refine lv_iload_n hx hb dX6_copy_2 rfl (lv_at hl 2 rfl) ?_
      refine lv_sipush (v := (214 : Int32)) hx hb dX6_copy_3 (by decide) ?_
      refine lv_icmp_ge (tgt := 21) hx hb dX6_copy_6 (by decide) (fun yc6 => ?_) (fun yc6 => ?_)
      · have h := z_ifp yc6 h
        exact hE21 _ _ _ _ (hq2 _ (z_sm h).symm) hP hS (lv_sub hl [] rfl)
      · have h := z_ifn yc6 h
        refine lv_aload_n hx hb dX6_copy_9 rfl (lv_at hl 1 rfl) ?_
        refine lv_iload_n hx hb dX6_copy_10 rfl (lv_at hl 2 rfl) ?_
        refine lv_aload_n hx hb dX6_copy_11 rfl (lv_at hl 0 rfl) ?_
        refine lv_iload_n hx hb dX6_copy_12 rfl (lv_at hl 2 rfl) ?_
        obtain ⟨yg13, h⟩ := z_gi h
        refine al_M hx hb hK hP yh0 (by decide) yg13 dX6_copy_13 ?_
        obtain ⟨yg14, h⟩ := z_gi h
        refine as_M hx hb hK hP hI hS yh1 (by decide) yg14 dX6_copy_14 (fun H locs yd3 e_yd3 hP hS => ?_)
        have h := z_nma e_yd3 h
        obtain ⟨yv4, e_yv4, h⟩ := z_nmx h
        refine lv_iinc (v := yv4) (lv' := [(2, .int yv4), (0, .ref (ad ya0)), (1, .ref (ad ya1))]) hx hb dX6_copy_15 hl (k := 2) rfl (by rw [e_yv4]; rfl) (by decide) rfl (fun ls hl => ?_)
        refine lv_goto (tgt := 2) hx hb dX6_copy_18 (by decide) ?_
        exact ih _ _ _ _ _ (hq1 _ (z_sm h).symm) hP hS (lv_sub hl [1, 2, 0] rfl)
  exact hL2 yn2 _ _ _ _ _ hlp hP hS (lv_sub hl [1, 2, 0] rfl)
noncomputable def fX6_in (yx0 : Int64) (yx1 : Int64) (yx2 : Int64) : Option Int32 :=
  zif ((lg_cmp yx0 yx1) < 0) (some (0 : Int32)) (zif (0 < (lg_cmp yx0 yx2)) (some (0 : Int32)) (some (1 : Int32)))
set_option maxHeartbeats 4000000 in
set_option maxRecDepth 100000 in
theorem kX6_in {l : Launch} {D : va_G} {G : z_G} {A : Nat → Prop} {w : Dt → va_W} {yd : Dt} {yx0 : Int64} {yx1 : Int64} {yx2 : Int64}  {rr : Int32} (h : fX6_in yx0 yx1 yx2 = some rr) : z_Mz l D G A (w) yX6_in cX6_in 6 (z_rm 0 0) yd [.long yx0, .long yx1, .long yx2] rr yd := by
  refine z_ofz (by decide) (Nat.le_of_ble_eq_true rfl) fun p e s m args below meth c Q hx hb hml hown hts hK hP hRet ls hl => ?_
  have hS : va_S A s.heap s.heap [] := va_S.rf
  have hl : lv_has ls 6 [(0, .long yx0), (2, .long yx1), (4, .long yx2)] := hl
  have h : (zif ((lg_cmp yx0 yx1) < 0) (some (0 : Int32)) (zif (0 < (lg_cmp yx0 yx2)) (some (0 : Int32)) (some (1 : Int32)))) = some rr := h
  refine lv_lload_n hx hb dX6_in_0 rfl (lv_at hl 0 rfl) ?_
  refine lv_lload_n hx hb dX6_in_1 rfl (lv_at hl 1 rfl) ?_
  refine W.lcmp hx hb dX6_in_2 ?_
  refine lv_if_lt (tgt := 17) hx hb dX6_in_3 (by decide) (fun yc3 => ?_) (fun yc3 => ?_)
  · have h := z_ifp yc3 h
    refine lv_iconst (v := (0 : Int32)) hx hb dX6_in_17 (by decide) ?_
    exact hRet _ _ _ _ _ _ hP hS (Or.inl rfl) (z_pair h) dX6_in_18
  · have h := z_ifn yc3 h
    refine lv_lload_n hx hb dX6_in_6 rfl (lv_at hl 0 rfl) ?_
    refine lv_lload hx hb dX6_in_7 (lv_at hl 2 rfl) ?_
    refine W.lcmp hx hb dX6_in_9 ?_
    refine lv_if_gt (tgt := 17) hx hb dX6_in_10 (by decide) (fun yc10 => ?_) (fun yc10 => ?_)
    · have h := z_ifp yc10 h
      refine lv_iconst (v := (0 : Int32)) hx hb dX6_in_17 (by decide) ?_
      exact hRet _ _ _ _ _ _ hP hS (Or.inl rfl) (z_pair h) dX6_in_18
    · have h := z_ifn yc10 h
      refine lv_iconst (v := (1 : Int32)) hx hb dX6_in_13 (by decide) ?_
      refine lv_goto (tgt := 18) hx hb dX6_in_14 (by decide) ?_
      exact hRet _ _ _ _ _ _ hP hS (Or.inr rfl) (z_pair h) dX6_in_18
noncomputable def fX6_has (yx0 : Int32) (yx1 : Int32) : Option Int32 :=
  zif (((yx0 >>> (yx1 &&& 31)) &&& (1 : Int32)) = (1 : Int32)) (some (1 : Int32)) (some (0 : Int32))
set_option maxHeartbeats 4000000 in
set_option maxRecDepth 100000 in
theorem kX6_has {l : Launch} {D : va_G} {G : z_G} {A : Nat → Prop} {w : Dt → va_W} {yd : Dt} {yx0 : Int32} {yx1 : Int32}  {rr : Int32} (h : fX6_has yx0 yx1 = some rr) : z_Mz l D G A (w) yX6_has cX6_has 2 (z_rm 0 0) yd [.int yx0, .int yx1] rr yd := by
  refine z_ofz (by decide) (Nat.le_of_ble_eq_true rfl) fun p e s m args below meth c Q hx hb hml hown hts hK hP hRet ls hl => ?_
  have hS : va_S A s.heap s.heap [] := va_S.rf
  have hl : lv_has ls 2 [(0, .int yx0), (1, .int yx1)] := hl
  have h : (zif (((yx0 >>> (yx1 &&& 31)) &&& (1 : Int32)) = (1 : Int32)) (some (1 : Int32)) (some (0 : Int32))) = some rr := h
  refine lv_iload_n hx hb dX6_has_0 rfl (lv_at hl 0 rfl) ?_
  refine lv_iload_n hx hb dX6_has_1 rfl (lv_at hl 1 rfl) ?_
  refine lv_ishr hx hb dX6_has_2 ?_
  refine lv_iconst (v := (1 : Int32)) hx hb dX6_has_3 (by decide) ?_
  refine lv_iand hx hb dX6_has_4 ?_
  refine lv_iconst (v := (1 : Int32)) hx hb dX6_has_5 (by decide) ?_
  refine lv_icmp_ne (tgt := 13) hx hb dX6_has_6 (by decide) (fun yc6 => ?_) (fun yc6 => ?_)
  · have h := z_ifn yc6 h
    refine lv_iconst (v := (0 : Int32)) hx hb dX6_has_13 (by decide) ?_
    exact hRet _ _ _ _ _ _ hP hS (Or.inl rfl) (z_pair h) dX6_has_14
  · have h := z_ifp yc6 h
    refine lv_iconst (v := (1 : Int32)) hx hb dX6_has_9 (by decide) ?_
    refine lv_goto (tgt := 14) hx hb dX6_has_10 (by decide) ?_
    exact hRet _ _ _ _ _ _ hP hS (Or.inr rfl) (z_pair h) dX6_has_14
noncomputable def bX6_ones_4 (yx0 : Int32) (s : Int32 × Int32) : Option ((Int32 × Int32) ⊕ (Int32)) := match s with
  | (yv1, yv2) => zif ((20 : Int32) ≤ yv2) (some (.inr yv1)) (z_nm (yv1 + ((yx0 >>> (yv2 &&& 31)) &&& (1 : Int32))) fun yv3 => z_nm (yv2 + (1 : Int32)) fun yv4 => some (.inl (yv3, yv4)))
noncomputable def fX6_ones (yx0 : Int32) : Option Int32 :=
  z_br (z_lp (bX6_ones_4 yx0) ((0 : Int32), (0 : Int32))) (fun t => match t with | yv5 => some yv5)
set_option maxHeartbeats 4000000 in
set_option maxRecDepth 100000 in
theorem kX6_ones {l : Launch} {D : va_G} {G : z_G} {A : Nat → Prop} {w : Dt → va_W} {yd : Dt} {yx0 : Int32}  {rr : Int32} (h : fX6_ones yx0 = some rr) : z_Mi l D G A (w) yX6_ones cX6_ones 3 (z_rm 0 0) yd [.int yx0] rr yd := by
  refine z_ofi (by decide) (Nat.le_of_ble_eq_true rfl) fun p e s m args below meth c Q hx hb hml hown hts hK hP hRet ls hl => ?_
  have hS : va_S A s.heap s.heap [] := va_S.rf
  have hl : lv_has ls 3 [(0, .int yx0)] := hl
  have h : (z_br (z_lp (bX6_ones_4 yx0) ((0 : Int32), (0 : Int32))) (fun t => match t with | yv5 => some yv5)) = some rr := h
  refine lv_iconst (v := (0 : Int32)) hx hb dX6_ones_0 (by decide) ?_
  refine lv_istore_n (lv' := [(1, .int (0 : Int32)), (0, .int yx0)]) hx hb dX6_ones_1 rfl hl (by decide) rfl (fun ls hl => ?_)
  refine lv_iconst (v := (0 : Int32)) hx hb dX6_ones_2 (by decide) ?_
  refine lv_istore_n (lv' := [(2, .int (0 : Int32)), (1, .int (0 : Int32)), (0, .int yx0)]) hx hb dX6_ones_3 rfl hl (by decide) rfl (fun ls hl => ?_)
  obtain ⟨yt4, hlp, h⟩ := z_brx h
  obtain ⟨yn4, hlp⟩ := z_lpx hlp
  have hE24 : ∀ (yv5 : Int32) (H : Heap) (locs : List Loc) (ls : Array Slot), yv5 = yt4 → va_P D vwCl (w yd) H → va_S A s.heap H locs → lv_has ls 3 [(1, .int yv5)] → W p l e (z_rm 0 0) s m args below meth c H locs 0 0 Q (F0 m 24 ls []) := by
    intro yv5 H locs ls et hP hS hl
    subst et
    have h : (some yv5) = some rr := h
    refine lv_iload_n hx hb dX6_ones_24 rfl (lv_at hl 0 rfl) ?_
    exact hRet _ _ _ _ _ _ hP hS (z_pair h) dX6_ones_25
  have hL4 : ∀ (n : Nat) (yv1 : Int32) (yv2 : Int32) (H : Heap) (locs : List Loc) (ls : Array Slot), z_it (bX6_ones_4 yx0) n (yv1, yv2) = some yt4 → va_P D vwCl (w yd) H → va_S A s.heap H locs → lv_has ls 3 [(0, .int yx0), (1, .int yv1), (2, .int yv2)] → W p l e (z_rm 0 0) s m args below meth c H locs 0 0 Q (F0 m 4 ls []) := by
    intro n
    induction n with
    | zero => intro yv1 yv2 H locs ls hn; exact z_it0 hn
    | succ n ih =>
      intro yv1 yv2 H locs ls hn hP hS hl
      obtain ⟨yq4, h, hq1, hq2⟩ := z_itx hn
      have h : (zif ((20 : Int32) ≤ yv2) (some (.inr yv1)) (z_nm (yv1 + ((yx0 >>> (yv2 &&& 31)) &&& (1 : Int32))) fun yv3 => z_nm (yv2 + (1 : Int32)) fun yv4 => some (.inl (yv3, yv4)))) = some yq4 := h
      refine lv_iload_n hx hb dX6_ones_4 rfl (lv_at hl 2 rfl) ?_
      refine lv_bipush (v := (20 : Int32)) hx hb dX6_ones_5 (by decide) ?_
      refine lv_icmp_ge (tgt := 24) hx hb dX6_ones_7 (by decide) (fun yc7 => ?_) (fun yc7 => ?_)
      · have h := z_ifp yc7 h
        exact hE24 _ _ _ _ (hq2 _ (z_sm h).symm) hP hS (lv_sub hl [1] rfl)
      · have h := z_ifn yc7 h
        refine lv_iload_n hx hb dX6_ones_10 rfl (lv_at hl 1 rfl) ?_
        refine lv_iload_n hx hb dX6_ones_11 rfl (lv_at hl 0 rfl) ?_
        refine lv_iload_n hx hb dX6_ones_12 rfl (lv_at hl 2 rfl) ?_
        refine lv_ishr hx hb dX6_ones_13 ?_
        refine lv_iconst (v := (1 : Int32)) hx hb dX6_ones_14 (by decide) ?_
        refine lv_iand hx hb dX6_ones_15 ?_
        refine lv_iadd hx hb dX6_ones_16 ?_
        refine lv_topi (fun yv3 e_yv3 => ?_)
        have h := z_nma e_yv3 h
        refine lv_istore_n (lv' := [(1, .int yv3), (0, .int yx0), (2, .int yv2)]) hx hb dX6_ones_17 rfl hl (by decide) rfl (fun ls hl => ?_)
        obtain ⟨yv4, e_yv4, h⟩ := z_nmx h
        refine lv_iinc (v := yv4) (lv' := [(2, .int yv4), (1, .int yv3), (0, .int yx0)]) hx hb dX6_ones_18 hl (k := 2) rfl (by rw [e_yv4]; rfl) (by decide) rfl (fun ls hl => ?_)
        refine lv_goto (tgt := 4) hx hb dX6_ones_21 (by decide) ?_
        exact ih _ _ _ _ _ (hq1 _ (z_sm h).symm) hP hS (lv_sub hl [2, 1, 0] rfl)
  exact hL4 yn4 _ _ _ _ _ hlp hP hS (lv_sub hl [2, 1, 0] rfl)
noncomputable def bX6_power_4 (yx1 : Int32) (yx0 : Int32) (s : Int32 × Int32) : Option ((Int32 × Int32) ⊕ (Int32)) := match s with
  | (yv1, yv2) => zif (yx1 ≤ yv2) (some (.inr yv1)) (z_nm (yv1 * yx0) fun yv3 => z_nm (yv2 + (1 : Int32)) fun yv4 => some (.inl (yv3, yv4)))
noncomputable def fX6_power (yx0 : Int32) (yx1 : Int32) : Option Int32 :=
  z_br (z_lp (bX6_power_4 yx1 yx0) ((1 : Int32), (0 : Int32))) (fun t => match t with | yv5 => some yv5)
set_option maxHeartbeats 4000000 in
set_option maxRecDepth 100000 in
theorem kX6_power {l : Launch} {D : va_G} {G : z_G} {A : Nat → Prop} {w : Dt → va_W} {yd : Dt} {yx0 : Int32} {yx1 : Int32}  {rr : Int32} (h : fX6_power yx0 yx1 = some rr) : z_Mi l D G A (w) yX6_power cX6_power 4 (z_rm 0 0) yd [.int yx0, .int yx1] rr yd := by
  refine z_ofi (by decide) (Nat.le_of_ble_eq_true rfl) fun p e s m args below meth c Q hx hb hml hown hts hK hP hRet ls hl => ?_
  have hS : va_S A s.heap s.heap [] := va_S.rf
  have hl : lv_has ls 4 [(0, .int yx0), (1, .int yx1)] := hl
  have h : (z_br (z_lp (bX6_power_4 yx1 yx0) ((1 : Int32), (0 : Int32))) (fun t => match t with | yv5 => some yv5)) = some rr := h
  refine lv_iconst (v := (1 : Int32)) hx hb dX6_power_0 (by decide) ?_
  refine lv_istore_n (lv' := [(2, .int (1 : Int32)), (0, .int yx0), (1, .int yx1)]) hx hb dX6_power_1 rfl hl (by decide) rfl (fun ls hl => ?_)
  refine lv_iconst (v := (0 : Int32)) hx hb dX6_power_2 (by decide) ?_
  refine lv_istore_n (lv' := [(3, .int (0 : Int32)), (2, .int (1 : Int32)), (0, .int yx0), (1, .int yx1)]) hx hb dX6_power_3 rfl hl (by decide) rfl (fun ls hl => ?_)
  obtain ⟨yt4, hlp, h⟩ := z_brx h
  obtain ⟨yn4, hlp⟩ := z_lpx hlp
  have hE19 : ∀ (yv5 : Int32) (H : Heap) (locs : List Loc) (ls : Array Slot), yv5 = yt4 → va_P D vwCl (w yd) H → va_S A s.heap H locs → lv_has ls 4 [(2, .int yv5)] → W p l e (z_rm 0 0) s m args below meth c H locs 0 0 Q (F0 m 19 ls []) := by
    intro yv5 H locs ls et hP hS hl
    subst et
    have h : (some yv5) = some rr := h
    refine lv_iload_n hx hb dX6_power_19 rfl (lv_at hl 0 rfl) ?_
    exact hRet _ _ _ _ _ _ hP hS (z_pair h) dX6_power_20
  have hL4 : ∀ (n : Nat) (yv1 : Int32) (yv2 : Int32) (H : Heap) (locs : List Loc) (ls : Array Slot), z_it (bX6_power_4 yx1 yx0) n (yv1, yv2) = some yt4 → va_P D vwCl (w yd) H → va_S A s.heap H locs → lv_has ls 4 [(0, .int yx0), (1, .int yx1), (2, .int yv1), (3, .int yv2)] → W p l e (z_rm 0 0) s m args below meth c H locs 0 0 Q (F0 m 4 ls []) := by
    intro n
    induction n with
    | zero => intro yv1 yv2 H locs ls hn; exact z_it0 hn
    | succ n ih =>
      intro yv1 yv2 H locs ls hn hP hS hl
      obtain ⟨yq4, h, hq1, hq2⟩ := z_itx hn
      have h : (zif (yx1 ≤ yv2) (some (.inr yv1)) (z_nm (yv1 * yx0) fun yv3 => z_nm (yv2 + (1 : Int32)) fun yv4 => some (.inl (yv3, yv4)))) = some yq4 := h
      refine lv_iload_n hx hb dX6_power_4 rfl (lv_at hl 3 rfl) ?_
      refine lv_iload_n hx hb dX6_power_5 rfl (lv_at hl 1 rfl) ?_
      refine lv_icmp_ge (tgt := 19) hx hb dX6_power_6 (by decide) (fun yc6 => ?_) (fun yc6 => ?_)
      · have h := z_ifp yc6 h
        exact hE19 _ _ _ _ (hq2 _ (z_sm h).symm) hP hS (lv_sub hl [2] rfl)
      · have h := z_ifn yc6 h
        refine lv_iload_n hx hb dX6_power_9 rfl (lv_at hl 2 rfl) ?_
        refine lv_iload_n hx hb dX6_power_10 rfl (lv_at hl 0 rfl) ?_
        refine lv_imul hx hb dX6_power_11 ?_
        refine lv_topi (fun yv3 e_yv3 => ?_)
        have h := z_nma e_yv3 h
        refine lv_istore_n (lv' := [(2, .int yv3), (0, .int yx0), (1, .int yx1), (3, .int yv2)]) hx hb dX6_power_12 rfl hl (by decide) rfl (fun ls hl => ?_)
        obtain ⟨yv4, e_yv4, h⟩ := z_nmx h
        refine lv_iinc (v := yv4) (lv' := [(3, .int yv4), (2, .int yv3), (0, .int yx0), (1, .int yx1)]) hx hb dX6_power_13 hl (k := 3) rfl (by rw [e_yv4]; rfl) (by decide) rfl (fun ls hl => ?_)
        refine lv_goto (tgt := 4) hx hb dX6_power_16 (by decide) ?_
        exact ih _ _ _ _ _ (hq1 _ (z_sm h).symm) hP hS (lv_sub hl [2, 3, 1, 0] rfl)
  exact hL4 yn4 _ _ _ _ _ hlp hP hS (lv_sub hl [2, 3, 1, 0] rfl)
noncomputable def bX6_factorial_4 (yx0 : Int32) (s : Int32 × Int32) : Option ((Int32 × Int32) ⊕ (Int32)) := match s with
  | (yv1, yv2) => zif (yx0 < yv2) (some (.inr yv1)) (z_nm (yv1 * yv2) fun yv3 => z_nm (yv2 + (1 : Int32)) fun yv4 => some (.inl (yv3, yv4)))
noncomputable def fX6_factorial (yx0 : Int32) : Option Int32 :=
  z_br (z_lp (bX6_factorial_4 yx0) ((1 : Int32), (2 : Int32))) (fun t => match t with | yv5 => some yv5)
set_option maxHeartbeats 4000000 in
set_option maxRecDepth 100000 in
theorem kX6_factorial {l : Launch} {D : va_G} {G : z_G} {A : Nat → Prop} {w : Dt → va_W} {yd : Dt} {yx0 : Int32}  {rr : Int32} (h : fX6_factorial yx0 = some rr) : z_Mi l D G A (w) yX6_factorial cX6_factorial 3 (z_rm 0 0) yd [.int yx0] rr yd := by
  refine z_ofi (by decide) (Nat.le_of_ble_eq_true rfl) fun p e s m args below meth c Q hx hb hml hown hts hK hP hRet ls hl => ?_
  have hS : va_S A s.heap s.heap [] := va_S.rf
  have hl : lv_has ls 3 [(0, .int yx0)] := hl
  have h : (z_br (z_lp (bX6_factorial_4 yx0) ((1 : Int32), (2 : Int32))) (fun t => match t with | yv5 => some yv5)) = some rr := h
  refine lv_iconst (v := (1 : Int32)) hx hb dX6_factorial_0 (by decide) ?_
  refine lv_istore_n (lv' := [(1, .int (1 : Int32)), (0, .int yx0)]) hx hb dX6_factorial_1 rfl hl (by decide) rfl (fun ls hl => ?_)
  refine lv_iconst (v := (2 : Int32)) hx hb dX6_factorial_2 (by decide) ?_
  refine lv_istore_n (lv' := [(2, .int (2 : Int32)), (1, .int (1 : Int32)), (0, .int yx0)]) hx hb dX6_factorial_3 rfl hl (by decide) rfl (fun ls hl => ?_)
  obtain ⟨yt4, hlp, h⟩ := z_brx h
  obtain ⟨yn4, hlp⟩ := z_lpx hlp
  have hE19 : ∀ (yv5 : Int32) (H : Heap) (locs : List Loc) (ls : Array Slot), yv5 = yt4 → va_P D vwCl (w yd) H → va_S A s.heap H locs → lv_has ls 3 [(1, .int yv5)] → W p l e (z_rm 0 0) s m args below meth c H locs 0 0 Q (F0 m 19 ls []) := by
    intro yv5 H locs ls et hP hS hl
    subst et
    have h : (some yv5) = some rr := h
    refine lv_iload_n hx hb dX6_factorial_19 rfl (lv_at hl 0 rfl) ?_
    exact hRet _ _ _ _ _ _ hP hS (z_pair h) dX6_factorial_20
  have hL4 : ∀ (n : Nat) (yv1 : Int32) (yv2 : Int32) (H : Heap) (locs : List Loc) (ls : Array Slot), z_it (bX6_factorial_4 yx0) n (yv1, yv2) = some yt4 → va_P D vwCl (w yd) H → va_S A s.heap H locs → lv_has ls 3 [(0, .int yx0), (1, .int yv1), (2, .int yv2)] → W p l e (z_rm 0 0) s m args below meth c H locs 0 0 Q (F0 m 4 ls []) := by
    intro n
    induction n with
    | zero => intro yv1 yv2 H locs ls hn; exact z_it0 hn
    | succ n ih =>
      intro yv1 yv2 H locs ls hn hP hS hl
      obtain ⟨yq4, h, hq1, hq2⟩ := z_itx hn
      have h : (zif (yx0 < yv2) (some (.inr yv1)) (z_nm (yv1 * yv2) fun yv3 => z_nm (yv2 + (1 : Int32)) fun yv4 => some (.inl (yv3, yv4)))) = some yq4 := h
      refine lv_iload_n hx hb dX6_factorial_4 rfl (lv_at hl 2 rfl) ?_
      refine lv_iload_n hx hb dX6_factorial_5 rfl (lv_at hl 0 rfl) ?_
      refine lv_icmp_gt (tgt := 19) hx hb dX6_factorial_6 (by decide) (fun yc6 => ?_) (fun yc6 => ?_)
      · have h := z_ifp yc6 h
        exact hE19 _ _ _ _ (hq2 _ (z_sm h).symm) hP hS (lv_sub hl [1] rfl)
      · have h := z_ifn yc6 h
        refine lv_iload_n hx hb dX6_factorial_9 rfl (lv_at hl 1 rfl) ?_
        refine lv_iload_n hx hb dX6_factorial_10 rfl (lv_at hl 2 rfl) ?_
        refine lv_imul hx hb dX6_factorial_11 ?_
        refine lv_topi (fun yv3 e_yv3 => ?_)
        have h := z_nma e_yv3 h
        refine lv_istore_n (lv' := [(1, .int yv3), (0, .int yx0), (2, .int yv2)]) hx hb dX6_factorial_12 rfl hl (by decide) rfl (fun ls hl => ?_)
        obtain ⟨yv4, e_yv4, h⟩ := z_nmx h
        refine lv_iinc (v := yv4) (lv' := [(2, .int yv4), (1, .int yv3), (0, .int yx0)]) hx hb dX6_factorial_13 hl (k := 2) rfl (by rw [e_yv4]; rfl) (by decide) rfl (fun ls hl => ?_)
        refine lv_goto (tgt := 4) hx hb dX6_factorial_16 (by decide) ?_
        exact ih _ _ _ _ _ (hq1 _ (z_sm h).symm) hP hS (lv_sub hl [2, 1, 0] rfl)
  exact hL4 yn4 _ _ _ _ _ hlp hP hS (lv_sub hl [2, 1, 0] rfl)
noncomputable def bX6_fraction_14 (s : Int32 × Int32) : Option ((Int32 × Int32) ⊕ (Int32)) := match s with
  | (yv2, yv3) => zif (yv3 = 0) (some (.inr yv2)) (z_gd (z_dc (¬ yv3 = 0)) (z_nm (yv2 - yv2 / yv3 * yv3) fun yv4 => some (.inl (yv3, yv4))))
noncomputable def fX6_fraction (yx0 : Int32) (yx1 : Int32) (yx2 : Int32) : Option Int32 :=
  z_nm (zif (0 ≤ yx0) yx0 (-yx0)) fun yv1 => z_br (z_lp (bX6_fraction_14) (yv1, yx1)) (fun t => match t with | yv5 => zif (yx2 = 0) (z_gd (z_dc (¬ yv5 = 0)) (some (yx1 / yv5))) (z_gd (z_dc (¬ yv5 = 0)) (some (yx0 / yv5))))
set_option maxHeartbeats 4000000 in
set_option maxRecDepth 100000 in
theorem kX6_fraction {l : Launch} {D : va_G} {G : z_G} {A : Nat → Prop} {w : Dt → va_W} {yd : Dt} {yx0 : Int32} {yx1 : Int32} {yx2 : Int32} (z_yx2 : yx2 = 0 ∨ yx2 = 1) {rr : Int32} (h : fX6_fraction yx0 yx1 yx2 = some rr) : z_Mi l D G A (w) yX6_fraction cX6_fraction 6 (z_rm 0 0) yd [.int yx0, .int yx1, .int yx2] rr yd := by
  refine z_ofi (by decide) (Nat.le_of_ble_eq_true rfl) fun p e s m args below meth c Q hx hb hml hown hts hK hP hRet ls hl => ?_
  have hS : va_S A s.heap s.heap [] := va_S.rf
  have hl : lv_has ls 6 [(0, .int yx0), (1, .int yx1), (2, .int yx2)] := hl
  have h : (z_nm (zif (0 ≤ yx0) yx0 (-yx0)) fun yv1 => z_br (z_lp (bX6_fraction_14) (yv1, yx1)) (fun t => match t with | yv5 => zif (yx2 = 0) (z_gd (z_dc (¬ yv5 = 0)) (some (yx1 / yv5))) (z_gd (z_dc (¬ yv5 = 0)) (some (yx0 / yv5))))) = some rr := h
  refine lv_iload_n hx hb dX6_fraction_0 rfl (lv_at hl 0 rfl) ?_
  have hM10 : ∀ (yv1 : Int32) (H : Heap) (locs : List Loc), yv1 = (zif (0 ≤ yx0) yx0 (-yx0)) → va_P D vwCl (w yd) H → va_S A s.heap H locs → W p l e (z_rm 0 0) s m args below meth c H locs 0 0 Q (F0 m 10 ls [.int yv1]) := by
    intro yv1 H locs e_yv1 hP hS
    have h := z_nma e_yv1 h
    refine lv_istore_n (lv' := [(3, .int yv1), (0, .int yx0), (1, .int yx1), (2, .int yx2)]) hx hb dX6_fraction_10 rfl hl (by decide) rfl (fun ls hl => ?_)
    refine lv_iload_n hx hb dX6_fraction_11 rfl (lv_at hl 2 rfl) ?_
    refine lv_istore (lv' := [(4, .int yx1), (3, .int yv1), (0, .int yx0), (1, .int yx1), (2, .int yx2)]) hx hb dX6_fraction_12 hl (by decide) rfl (fun ls hl => ?_)
    obtain ⟨yt14, hlp, h⟩ := z_brx h
    obtain ⟨yn14, hlp⟩ := z_lpx hlp
    have hE35 : ∀ (yv5 : Int32) (H : Heap) (locs : List Loc) (ls : Array Slot), yv5 = yt14 → va_P D vwCl (w yd) H → va_S A s.heap H locs → lv_has ls 6 [(0, .int yx0), (1, .int yx1), (2, .int yx2), (3, .int yv5)] → W p l e (z_rm 0 0) s m args below meth c H locs 0 0 Q (F0 m 35 ls []) := by
      intro yv5 H locs ls et hP hS hl
      subst et
      have h : (zif (yx2 = 0) (z_gd (z_dc (¬ yv5 = 0)) (some (yx1 / yv5))) (z_gd (z_dc (¬ yv5 = 0)) (some (yx0 / yv5)))) = some rr := h
      refine lv_iload_n hx hb dX6_fraction_35 rfl (lv_at hl 2 rfl) ?_
      refine lv_if_eq (tgt := 45) hx hb dX6_fraction_36 (by decide) (fun yc36 => ?_) (fun yc36 => ?_)
      · have h := z_ifp yc36 h
        refine lv_iload_n hx hb dX6_fraction_45 rfl (lv_at hl 1 rfl) ?_
        refine lv_iload_n hx hb dX6_fraction_46 rfl (lv_at hl 3 rfl) ?_
        obtain ⟨yg47, h⟩ := z_gp h
        refine lv_idiv hx hb dX6_fraction_47 yg47 ?_
        exact hRet _ _ _ _ _ _ hP hS (z_pair h) dX6_fraction_48
      · have h := z_ifn yc36 h
        refine lv_iload_n hx hb dX6_fraction_39 rfl (lv_at hl 0 rfl) ?_
        refine lv_iload_n hx hb dX6_fraction_40 rfl (lv_at hl 3 rfl) ?_
        obtain ⟨yg41, h⟩ := z_gp h
        refine lv_idiv hx hb dX6_fraction_41 yg41 ?_
        refine lv_goto (tgt := 48) hx hb dX6_fraction_42 (by decide) ?_
        exact hRet _ _ _ _ _ _ hP hS (z_pair h) dX6_fraction_48
    have hL14 : ∀ (n : Nat) (yv2 : Int32) (yv3 : Int32) (H : Heap) (locs : List Loc) (ls : Array Slot), z_it (bX6_fraction_14) n (yv2, yv3) = some yt14 → va_P D vwCl (w yd) H → va_S A s.heap H locs → lv_has ls 6 [(0, .int yx0), (1, .int yx1), (2, .int yx2), (3, .int yv2), (4, .int yv3)] → W p l e (z_rm 0 0) s m args below meth c H locs 0 0 Q (F0 m 14 ls []) := by
      intro n
      induction n with
      | zero => intro yv2 yv3 H locs ls hn; exact z_it0 hn
      | succ n ih =>
        intro yv2 yv3 H locs ls hn hP hS hl
        obtain ⟨yq14, h, hq1, hq2⟩ := z_itx hn
        have h : (zif (yv3 = 0) (some (.inr yv2)) (z_gd (z_dc (¬ yv3 = 0)) (z_nm (yv2 - yv2 / yv3 * yv3) fun yv4 => some (.inl (yv3, yv4))))) = some yq14 := h
        refine lv_iload hx hb dX6_fraction_14 (lv_at hl 4 rfl) ?_
        refine lv_if_eq (tgt := 35) hx hb dX6_fraction_16 (by decide) (fun yc16 => ?_) (fun yc16 => ?_)
        · have h := z_ifp yc16 h
          exact hE35 _ _ _ _ (hq2 _ (z_sm h).symm) hP hS (lv_sub hl [0, 1, 2, 3] rfl)
        · have h := z_ifn yc16 h
          refine lv_iload_n hx hb dX6_fraction_19 rfl (lv_at hl 3 rfl) ?_
          refine lv_iload hx hb dX6_fraction_20 (lv_at hl 4 rfl) ?_
          obtain ⟨yg22, h⟩ := z_gp h
          refine lv_irem hx hb dX6_fraction_22 yg22 ?_
          refine lv_topi (fun yv4 e_yv4 => ?_)
          have h := z_nma e_yv4 h
          refine lv_istore (lv' := [(5, .int yv4), (0, .int yx0), (1, .int yx1), (2, .int yx2), (3, .int yv2), (4, .int yv3)]) hx hb dX6_fraction_23 hl (by decide) rfl (fun ls hl => ?_)
          refine lv_iload hx hb dX6_fraction_25 (lv_at hl 5 rfl) ?_
          refine lv_istore_n (lv' := [(3, .int yv3), (5, .int yv4), (0, .int yx0), (1, .int yx1), (2, .int yx2), (4, .int yv3)]) hx hb dX6_fraction_27 rfl hl (by decide) rfl (fun ls hl => ?_)
          refine lv_iload hx hb dX6_fraction_28 (lv_at hl 1 rfl) ?_
          refine lv_istore (lv' := [(4, .int yv4), (3, .int yv3), (5, .int yv4), (0, .int yx0), (1, .int yx1), (2, .int yx2)]) hx hb dX6_fraction_30 hl (by decide) rfl (fun ls hl => ?_)
          refine lv_goto (tgt := 14) hx hb dX6_fraction_32 (by decide) ?_
          exact ih _ _ _ _ _ (hq1 _ (z_sm h).symm) hP hS (lv_sub hl [3, 4, 5, 1, 0] rfl)
    exact hL14 yn14 _ _ _ _ _ hlp hP hS (lv_sub hl [2, 3, 4, 1, 0] rfl)
  refine lv_if_ge (tgt := 9) hx hb dX6_fraction_1 (by decide) (fun yc1 => ?_) (fun yc1 => ?_)
  · refine lv_iload_n hx hb dX6_fraction_9 rfl (lv_at hl 0 rfl) ?_
    exact hM10 _ _ _ (z_tp yc1 rfl) hP hS
  · refine lv_iload_n hx hb dX6_fraction_4 rfl (lv_at hl 0 rfl) ?_
    refine lv_ineg hx hb dX6_fraction_5 ?_
    refine lv_goto (tgt := 10) hx hb dX6_fraction_6 (by decide) ?_
    exact hM10 _ _ _ (z_tn yc1 rfl) hP hS
noncomputable def fX6_isPath (yd : Dt) (yx1 : Int32) : Option Int32 :=
  z_br (fX6_in (yx1.toInt64) (0 : Int64) (((yd.1 2 (z_ix (83 : Int32))) - (1 : Int32)).toInt64)) fun yr1 => some yr1
set_option maxHeartbeats 4000000 in
set_option maxRecDepth 100000 in
theorem kX6_isPath {l : Launch} {D : va_G} {G : z_G} {ad : Nat → Nat} {A : Nat → Prop} (hI : ∀ d, va_D A (WM G ad d)) {yd : Dt} {yx1 : Int32}  {rr : Int32} (h : fX6_isPath yd yx1 = some rr) : z_Mz l D G A (WM G ad) yX6_isPath cX6_isPath 2 (z_rm 1 25) yd [.ref (ad 0), .int yx1] rr yd := by
  refine z_ofz (by decide) (Nat.le_of_ble_eq_true rfl) fun p e s m args below meth c Q hx hb hml hown hts hK hP hRet ls hl => ?_
  have hS : va_S A s.heap s.heap [] := va_S.rf
  have hl : lv_has ls 2 [(0, .ref (ad 0)), (1, .int yx1)] := hl
  have h : (z_br (fX6_in (yx1.toInt64) (0 : Int64) (((yd.1 2 (z_ix (83 : Int32))) - (1 : Int32)).toInt64)) fun yr1 => some yr1) = some rr := h
  refine lv_iload_n hx hb dX6_isPath_0 rfl (lv_at hl 1 rfl) ?_
  refine lv_i2l (v := yx1.toInt64) hx hb dX6_isPath_1 rfl ?_
  refine lv_lconst (v := (0 : Int64)) hx hb dX6_isPath_2 (by decide) ?_
  refine lv_aload_n hx hb dX6_isPath_3 rfl (lv_at hl 0 rfl) ?_
  refine gt_X6_2 hx hb hts hown hK hP (hts _ wl_3_136) dX6_isPath_4 ?_
  refine lv_bipush (v := (83 : Int32)) hx hb dX6_isPath_7 (by decide) ?_
  refine al_M hx hb hK hP rfl (by decide) (z_li (by decide) : vp_in (83 : Int32) 214) dX6_isPath_9 ?_
  refine lv_iconst (v := (1 : Int32)) hx hb dX6_isPath_10 (by decide) ?_
  refine lv_isub hx hb dX6_isPath_11 ?_
  refine lv_i2l (v := ((yd.1 2 (z_ix (83 : Int32))) - (1 : Int32)).toInt64) hx hb dX6_isPath_12 rfl ?_
  obtain ⟨yr1, yhc13, h⟩ := z_brx h
  refine z_kz (z_rS (As := [.long (yx1.toInt64), .long (0 : Int64), .long (((yd.1 2 (z_ix (83 : Int32))) - (1 : Int32)).toInt64)]) (rest := []) ⟨hx, hb, hml, hown, hts⟩ hK hP (kX6_in yhc13) giX6_64 ⟨rfl, rfl⟩ ndX6_in ⟨Nat.le_of_ble_eq_true rfl, Nat.le_of_ble_eq_true rfl⟩ rfl hl.1 rfl (Nat.le_of_ble_eq_true rfl) ⟨Nat.le_refl _, Nat.le_refl _⟩ dX6_isPath_13) hS (fun H locs z_yr1 hP hS => ?_)
  exact hRet _ _ _ _ _ _ hP hS z_yr1 (z_pair h) dX6_isPath_16
noncomputable def fX6_isElement (yd : Dt) (yx1 : Int32) : Option Int32 :=
  z_br (fX6_in (yx1.toInt64) (0 : Int64) (((yd.1 2 (z_ix (80 : Int32))) - (1 : Int32)).toInt64)) fun yr1 => some yr1
set_option maxHeartbeats 4000000 in
set_option maxRecDepth 100000 in
theorem kX6_isElement {l : Launch} {D : va_G} {G : z_G} {ad : Nat → Nat} {A : Nat → Prop} (hI : ∀ d, va_D A (WM G ad d)) {yd : Dt} {yx1 : Int32}  {rr : Int32} (h : fX6_isElement yd yx1 = some rr) : z_Mz l D G A (WM G ad) yX6_isElement cX6_isElement 2 (z_rm 1 25) yd [.ref (ad 0), .int yx1] rr yd := by
  refine z_ofz (by decide) (Nat.le_of_ble_eq_true rfl) fun p e s m args below meth c Q hx hb hml hown hts hK hP hRet ls hl => ?_
  have hS : va_S A s.heap s.heap [] := va_S.rf
  have hl : lv_has ls 2 [(0, .ref (ad 0)), (1, .int yx1)] := hl
  have h : (z_br (fX6_in (yx1.toInt64) (0 : Int64) (((yd.1 2 (z_ix (80 : Int32))) - (1 : Int32)).toInt64)) fun yr1 => some yr1) = some rr := h
  refine lv_iload_n hx hb dX6_isElement_0 rfl (lv_at hl 1 rfl) ?_
  refine lv_i2l (v := yx1.toInt64) hx hb dX6_isElement_1 rfl ?_
  refine lv_lconst (v := (0 : Int64)) hx hb dX6_isElement_2 (by decide) ?_
  refine lv_aload_n hx hb dX6_isElement_3 rfl (lv_at hl 0 rfl) ?_
  refine gt_X6_2 hx hb hts hown hK hP (hts _ wl_3_136) dX6_isElement_4 ?_
  refine lv_bipush (v := (80 : Int32)) hx hb dX6_isElement_7 (by decide) ?_
  refine al_M hx hb hK hP rfl (by decide) (z_li (by decide) : vp_in (80 : Int32) 214) dX6_isElement_9 ?_
  refine lv_iconst (v := (1 : Int32)) hx hb dX6_isElement_10 (by decide) ?_
  refine lv_isub hx hb dX6_isElement_11 ?_
  refine lv_i2l (v := ((yd.1 2 (z_ix (80 : Int32))) - (1 : Int32)).toInt64) hx hb dX6_isElement_12 rfl ?_
  obtain ⟨yr1, yhc13, h⟩ := z_brx h
  refine z_kz (z_rS (As := [.long (yx1.toInt64), .long (0 : Int64), .long (((yd.1 2 (z_ix (80 : Int32))) - (1 : Int32)).toInt64)]) (rest := []) ⟨hx, hb, hml, hown, hts⟩ hK hP (kX6_in yhc13) giX6_64 ⟨rfl, rfl⟩ ndX6_in ⟨Nat.le_of_ble_eq_true rfl, Nat.le_of_ble_eq_true rfl⟩ rfl hl.1 rfl (Nat.le_of_ble_eq_true rfl) ⟨Nat.le_refl _, Nat.le_refl _⟩ dX6_isElement_13) hS (fun H locs z_yr1 hP hS => ?_)
  exact hRet _ _ _ _ _ _ hP hS z_yr1 (z_pair h) dX6_isElement_16
noncomputable def fX6_write (yd : Dt) (yx1 : Int32) : Option (Int32 × Dt) :=
  z_br (fX6_in (yx1.toInt64) (0 : Int64) (255 : Int64)) fun yr1 => zif (yr1 = 0) (some ((-2 : Int32), yd)) (zif ((yd.1 0 1) = (99 : Int32)) (some ((-4 : Int32), yd)) (z_gd (z_in (yd.1 0 1) 99) (z_nm (z_st yd 1 (z_ix (yd.1 0 1)) yx1) fun yd2 => z_nm (z_st yd2 0 1 ((yd2.1 0 1) + (1 : Int32))) fun yd3 => some ((yd3.1 0 1), yd3))))
set_option maxHeartbeats 4000000 in
set_option maxRecDepth 100000 in
theorem kX6_write {l : Launch} {D : va_G} {G : z_G} {ad : Nat → Nat} {A : Nat → Prop} (hI : ∀ d, va_D A (WM G ad d)) {yd : Dt} {yx1 : Int32}  {rr : Int32} {dd : Dt} (h : fX6_write yd yx1 = some (rr, dd)) : z_Mi l D G A (WM G ad) yX6_write cX6_write 2 (z_rm 1 25) yd [.ref (ad 0), .int yx1] rr dd := by
  refine z_ofi (by decide) (Nat.le_of_ble_eq_true rfl) fun p e s m args below meth c Q hx hb hml hown hts hK hP hRet ls hl => ?_
  have hS : va_S A s.heap s.heap [] := va_S.rf
  have hl : lv_has ls 2 [(0, .ref (ad 0)), (1, .int yx1)] := hl
  have h : (z_br (fX6_in (yx1.toInt64) (0 : Int64) (255 : Int64)) fun yr1 => zif (yr1 = 0) (some ((-2 : Int32), yd)) (zif ((yd.1 0 1) = (99 : Int32)) (some ((-4 : Int32), yd)) (z_gd (z_in (yd.1 0 1) 99) (z_nm (z_st yd 1 (z_ix (yd.1 0 1)) yx1) fun yd2 => z_nm (z_st yd2 0 1 ((yd2.1 0 1) + (1 : Int32))) fun yd3 => some ((yd3.1 0 1), yd3))))) = some (rr, dd) := h
  refine lv_iload_n hx hb dX6_write_0 rfl (lv_at hl 1 rfl) ?_
  refine lv_i2l (v := yx1.toInt64) hx hb dX6_write_1 rfl ?_
  refine lv_lconst (v := (0 : Int64)) hx hb dX6_write_2 (by decide) ?_
  refine lv_ldc2 hx hb hown (hts _ wl_3_217) dX6_write_3 ?_
  obtain ⟨yr1, yhc6, h⟩ := z_brx h
  refine z_kz (z_rS (As := [.long (yx1.toInt64), .long (0 : Int64), .long (255 : Int64)]) (rest := []) ⟨hx, hb, hml, hown, hts⟩ hK hP (kX6_in yhc6) giX6_64 ⟨rfl, rfl⟩ ndX6_in ⟨Nat.le_of_ble_eq_true rfl, Nat.le_of_ble_eq_true rfl⟩ rfl hl.1 rfl (Nat.le_of_ble_eq_true rfl) ⟨Nat.le_refl _, Nat.le_refl _⟩ dX6_write_6) hS (fun H locs z_yr1 hP hS => ?_)
  refine lv_if_ne (tgt := 15) hx hb dX6_write_9 (by decide) (fun yc9 => ?_) (fun yc9 => ?_)
  · have h := z_ifn yc9 h
    refine lv_aload_n hx hb dX6_write_15 rfl (lv_at hl 0 rfl) ?_
    refine gt_X6_1 hx hb hts hown hK hP (hts _ wl_3_135) dX6_write_16 ?_
    refine lv_bipush (v := (99 : Int32)) hx hb dX6_write_19 (by decide) ?_
    refine lv_icmp_ne (tgt := 27) hx hb dX6_write_21 (by decide) (fun yc21 => ?_) (fun yc21 => ?_)
    · have h := z_ifn yc21 h
      refine lv_aload_n hx hb dX6_write_27 rfl (lv_at hl 0 rfl) ?_
      refine gt_X6_0 hx hb hts hown hK hP (hts _ wl_3_134) dX6_write_28 ?_
      refine lv_aload_n hx hb dX6_write_31 rfl (lv_at hl 0 rfl) ?_
      refine gt_X6_1 hx hb hts hown hK hP (hts _ wl_3_135) dX6_write_32 ?_
      refine lv_iload_n hx hb dX6_write_35 rfl (lv_at hl 1 rfl) ?_
      obtain ⟨yg36, h⟩ := z_gi h
      refine as_M hx hb hK hP hI hS rfl (by decide) yg36 dX6_write_36 (fun H locs yd2 e_yd2 hP hS => ?_)
      have h := z_nma e_yd2 h
      refine lv_aload_n hx hb dX6_write_37 rfl (lv_at hl 0 rfl) ?_
      refine lv_dup hx hb dX6_write_38 rfl ?_
      refine gt_X6_1 hx hb hts hown hK hP (hts _ wl_3_135) dX6_write_39 ?_
      refine lv_iconst (v := (1 : Int32)) hx hb dX6_write_42 (by decide) ?_
      refine lv_iadd hx hb dX6_write_43 ?_
      refine pt_X6_1 hx hb hts hown hK hP hI hS (hts _ wl_3_135) dX6_write_44 (fun H locs yd3 e_yd3 hP hS => ?_)
      have h := z_nma e_yd3 h
      refine lv_aload_n hx hb dX6_write_47 rfl (lv_at hl 0 rfl) ?_
      refine gt_X6_1 hx hb hts hown hK hP (hts _ wl_3_135) dX6_write_48 ?_
      exact hRet _ _ _ _ _ _ hP hS h dX6_write_51
    · have h := z_ifp yc21 h
      refine lv_bipush (v := (-4 : Int32)) hx hb dX6_write_24 (by decide) ?_
      exact hRet _ _ _ _ _ _ hP hS h dX6_write_26
  · have h := z_ifp yc9 h
    refine lv_bipush (v := (-2 : Int32)) hx hb dX6_write_12 (by decide) ?_
    exact hRet _ _ _ _ _ _ hP hS h dX6_write_14
noncomputable def fX6_wipe (yd : Dt) : Option (Int32 × Dt) :=
  z_nm (yd.1 0 1) fun yv1 => z_nm (z_st yd 0 1 (0 : Int32)) fun yd2 => some (yv1, yd2)
set_option maxHeartbeats 4000000 in
set_option maxRecDepth 100000 in
theorem kX6_wipe {l : Launch} {D : va_G} {G : z_G} {ad : Nat → Nat} {A : Nat → Prop} (hI : ∀ d, va_D A (WM G ad d)) {yd : Dt}   {rr : Int32} {dd : Dt} (h : fX6_wipe yd = some (rr, dd)) : z_Mi l D G A (WM G ad) yX6_wipe cX6_wipe 2 (z_rm 0 0) yd [.ref (ad 0)] rr dd := by
  refine z_ofi (by decide) (Nat.le_of_ble_eq_true rfl) fun p e s m args below meth c Q hx hb hml hown hts hK hP hRet ls hl => ?_
  have hS : va_S A s.heap s.heap [] := va_S.rf
  have hl : lv_has ls 2 [(0, .ref (ad 0))] := hl
  have h : (z_nm (yd.1 0 1) fun yv1 => z_nm (z_st yd 0 1 (0 : Int32)) fun yd2 => some (yv1, yd2)) = some (rr, dd) := h
  refine lv_aload_n hx hb dX6_wipe_0 rfl (lv_at hl 0 rfl) ?_
  refine gt_X6_1 hx hb hts hown hK hP (hts _ wl_3_135) dX6_wipe_1 ?_
  refine lv_topi (fun yv1 e_yv1 => ?_)
  have h := z_nma e_yv1 h
  refine lv_istore_n (lv' := [(1, .int yv1), (0, .ref (ad 0))]) hx hb dX6_wipe_4 rfl hl (by decide) rfl (fun ls hl => ?_)
  refine lv_aload_n hx hb dX6_wipe_5 rfl (lv_at hl 1 rfl) ?_
  refine lv_iconst (v := (0 : Int32)) hx hb dX6_wipe_6 (by decide) ?_
  refine pt_X6_1 hx hb hts hown hK hP hI hS (hts _ wl_3_135) dX6_wipe_7 (fun H locs yd2 e_yd2 hP hS => ?_)
  have h := z_nma e_yd2 h
  refine lv_iload_n hx hb dX6_wipe_10 rfl (lv_at hl 0 rfl) ?_
  exact hRet _ _ _ _ _ _ hP hS h dX6_wipe_11
noncomputable def jX6_takeEvent_20 (yx1 : Int32) (yd : Dt) : Option (Int32 × Dt) :=
  z_nm (zif (yx1 = (41 : Int32)) (10 : Int32) (yx1 - (28 : Int32))) fun yv2 => z_gd (z_in (yd.1 0 22) 99) (z_nm (z_st yd 15 (z_ix (yd.1 0 22)) yv2) fun yd3 => z_nm (z_st yd3 0 22 ((yd3.1 0 22) + (1 : Int32))) fun yd4 => z_nm (zif ((yd4.1 0 24) ≤ 0) (0 : Int32) (1 : Int32)) fun yv5 => z_nm (zif (yx1 = (41 : Int32)) (1 : Int32) (0 : Int32)) fun yv6 => z_nm (z_st yd4 0 24 ((yd4.1 0 24) - yv6)) fun yd7 => some (yv5, yd7))
noncomputable def fX6_takeEvent (yd : Dt) (yx1 : Int32) : Option (Int32 × Dt) :=
  z_br (fX6_in (yx1.toInt64) (48 : Int64) (57 : Int64)) fun yr1 => zif (yr1 = 0) (zif (yx1 = (41 : Int32)) (jX6_takeEvent_20 yx1 yd) (z_nm (z_st yd 0 18 (8 : Int32)) fun yd8 => zif (yx1 = (40 : Int32)) (zif ((20 : Int32) ≤ (yd8.1 0 25)) (some ((0 : Int32), yd8)) (zif ((8 : Int32) ≤ (yd8.1 0 24)) (some ((0 : Int32), yd8)) (zif ((yd8.1 0 25) = 0) (some ((1 : Int32), yd8)) (zif ((yd8.1 0 24) ≤ 0) (some ((0 : Int32), yd8)) (some ((1 : Int32), yd8)))))) (some ((0 : Int32), yd8)))) (jX6_takeEvent_20 yx1 yd)
set_option maxHeartbeats 4000000 in
set_option maxRecDepth 100000 in
theorem kX6_takeEvent {l : Launch} {D : va_G} {G : z_G} {ad : Nat → Nat} {A : Nat → Prop} (hI : ∀ d, va_D A (WM G ad d)) {yd : Dt} {yx1 : Int32}  {rr : Int32} {dd : Dt} (h : fX6_takeEvent yd yx1 = some (rr, dd)) : z_Mz l D G A (WM G ad) yX6_takeEvent cX6_takeEvent 3 (z_rm 1 25) yd [.ref (ad 0), .int yx1] rr dd := by
  refine z_ofz (by decide) (Nat.le_of_ble_eq_true rfl) fun p e s m args below meth c Q hx hb hml hown hts hK hP hRet ls hl => ?_
  have hS : va_S A s.heap s.heap [] := va_S.rf
  have hl : lv_has ls 3 [(0, .ref (ad 0)), (1, .int yx1)] := hl
  have h : (z_br (fX6_in (yx1.toInt64) (48 : Int64) (57 : Int64)) fun yr1 => zif (yr1 = 0) (zif (yx1 = (41 : Int32)) (jX6_takeEvent_20 yx1 yd) (z_nm (z_st yd 0 18 (8 : Int32)) fun yd8 => zif (yx1 = (40 : Int32)) (zif ((20 : Int32) ≤ (yd8.1 0 25)) (some ((0 : Int32), yd8)) (zif ((8 : Int32) ≤ (yd8.1 0 24)) (some ((0 : Int32), yd8)) (zif ((yd8.1 0 25) = 0) (some ((1 : Int32), yd8)) (zif ((yd8.1 0 24) ≤ 0) (some ((0 : Int32), yd8)) (some ((1 : Int32), yd8)))))) (some ((0 : Int32), yd8)))) (jX6_takeEvent_20 yx1 yd)) = some (rr, dd) := h
  refine lv_iload_n hx hb dX6_takeEvent_0 rfl (lv_at hl 1 rfl) ?_
  refine lv_i2l (v := yx1.toInt64) hx hb dX6_takeEvent_1 rfl ?_
  refine lv_ldc2 hx hb hown (hts _ wl_4_5) dX6_takeEvent_2 ?_
  refine lv_ldc2 hx hb hown (hts _ wl_4_6) dX6_takeEvent_5 ?_
  obtain ⟨yr1, yhc8, h⟩ := z_brx h
  refine z_kz (z_rS (As := [.long (yx1.toInt64), .long (48 : Int64), .long (57 : Int64)]) (rest := []) ⟨hx, hb, hml, hown, hts⟩ hK hP (kX6_in yhc8) giX6_64 ⟨rfl, rfl⟩ ndX6_in ⟨Nat.le_of_ble_eq_true rfl, Nat.le_of_ble_eq_true rfl⟩ rfl hl.1 rfl (Nat.le_of_ble_eq_true rfl) ⟨Nat.le_refl _, Nat.le_refl _⟩ dX6_takeEvent_8) hS (fun H locs z_yr1 hP hS => ?_)
  have hJ20 : ∀  (H : Heap) (locs : List Loc) (ls : Array Slot), jX6_takeEvent_20 yx1 yd = some (rr, dd) → va_P D vwCl (WM G ad yd) H → va_S A s.heap H locs → lv_has ls 3 [(0, .ref (ad 0)), (1, .int yx1)] → W p l e (z_rm 1 25) s m args below meth c H locs 0 0 Q (F0 m 20 ls []) := by
    intro  H locs ls h hP hS hl
    have h : (z_nm (zif (yx1 = (41 : Int32)) (10 : Int32) (yx1 - (28 : Int32))) fun yv2 => z_gd (z_in (yd.1 0 22) 99) (z_nm (z_st yd 15 (z_ix (yd.1 0 22)) yv2) fun yd3 => z_nm (z_st yd3 0 22 ((yd3.1 0 22) + (1 : Int32))) fun yd4 => z_nm (zif ((yd4.1 0 24) ≤ 0) (0 : Int32) (1 : Int32)) fun yv5 => z_nm (zif (yx1 = (41 : Int32)) (1 : Int32) (0 : Int32)) fun yv6 => z_nm (z_st yd4 0 24 ((yd4.1 0 24) - yv6)) fun yd7 => some (yv5, yd7))) = some (rr, dd) := h
    refine lv_aload_n hx hb dX6_takeEvent_20 rfl (lv_at hl 0 rfl) ?_
    refine gt_X6_23 hx hb hts hown hK hP (hts _ wl_3_157) dX6_takeEvent_21 ?_
    refine lv_aload_n hx hb dX6_takeEvent_24 rfl (lv_at hl 0 rfl) ?_
    refine gt_X6_22 hx hb hts hown hK hP (hts _ wl_3_156) dX6_takeEvent_25 ?_
    refine lv_iload_n hx hb dX6_takeEvent_28 rfl (lv_at hl 1 rfl) ?_
    refine lv_bipush (v := (41 : Int32)) hx hb dX6_takeEvent_29 (by decide) ?_
    have hM43 : ∀ (yv2 : Int32) (H : Heap) (locs : List Loc), yv2 = (zif (yx1 = (41 : Int32)) (10 : Int32) (yx1 - (28 : Int32))) → va_P D vwCl (WM G ad yd) H → va_S A s.heap H locs → W p l e (z_rm 1 25) s m args below meth c H locs 0 0 Q (F0 m 43 ls [.int yv2, .int (yd.1 0 22), .ref (ad 15)]) := by
      intro yv2 H locs e_yv2 hP hS
      have h := z_nma e_yv2 h
      obtain ⟨yg43, h⟩ := z_gi h
      refine as_M hx hb hK hP hI hS rfl (by decide) yg43 dX6_takeEvent_43 (fun H locs yd3 e_yd3 hP hS => ?_)
      have h := z_nma e_yd3 h
      refine lv_aload_n hx hb dX6_takeEvent_44 rfl (lv_at hl 0 rfl) ?_
      refine lv_dup hx hb dX6_takeEvent_45 rfl ?_
      refine gt_X6_22 hx hb hts hown hK hP (hts _ wl_3_156) dX6_takeEvent_46 ?_
      refine lv_iconst (v := (1 : Int32)) hx hb dX6_takeEvent_49 (by decide) ?_
      refine lv_iadd hx hb dX6_takeEvent_50 ?_
      refine pt_X6_22 hx hb hts hown hK hP hI hS (hts _ wl_3_156) dX6_takeEvent_51 (fun H locs yd4 e_yd4 hP hS => ?_)
      have h := z_nma e_yd4 h
      refine lv_aload_n hx hb dX6_takeEvent_54 rfl (lv_at hl 0 rfl) ?_
      refine gt_X6_24 hx hb hts hown hK hP (hts _ wl_3_158) dX6_takeEvent_55 ?_
      have hM66 : ∀ (yv5 : Int32) (H : Heap) (locs : List Loc), yv5 = (zif ((yd4.1 0 24) ≤ 0) (0 : Int32) (1 : Int32)) → va_P D vwCl (WM G ad yd4) H → va_S A s.heap H locs → W p l e (z_rm 1 25) s m args below meth c H locs 0 0 Q (F0 m 66 ls [.int yv5]) := by
        intro yv5 H locs e_yv5 hP hS
        have h := z_nma e_yv5 h
        refine lv_istore_n (lv' := [(2, .int yv5), (0, .ref (ad 0)), (1, .int yx1)]) hx hb dX6_takeEvent_66 rfl hl (by decide) rfl (fun ls hl => ?_)
        refine lv_aload_n hx hb dX6_takeEvent_67 rfl (lv_at hl 1 rfl) ?_
        refine lv_dup hx hb dX6_takeEvent_68 rfl ?_
        refine gt_X6_24 hx hb hts hown hK hP (hts _ wl_3_158) dX6_takeEvent_69 ?_
        refine lv_iload_n hx hb dX6_takeEvent_72 rfl (lv_at hl 2 rfl) ?_
        refine lv_bipush (v := (41 : Int32)) hx hb dX6_takeEvent_73 (by decide) ?_
        have hM83 : ∀ (yv6 : Int32) (H : Heap) (locs : List Loc), yv6 = (zif (yx1 = (41 : Int32)) (1 : Int32) (0 : Int32)) → va_P D vwCl (WM G ad yd4) H → va_S A s.heap H locs → W p l e (z_rm 1 25) s m args below meth c H locs 0 0 Q (F0 m 83 ls [.int yv6, .int (yd4.1 0 24), .ref (ad 0)]) := by
          intro yv6 H locs e_yv6 hP hS
          have h := z_nma e_yv6 h
          refine lv_isub hx hb dX6_takeEvent_83 ?_
          refine pt_X6_24 hx hb hts hown hK hP hI hS (hts _ wl_3_158) dX6_takeEvent_84 (fun H locs yd7 e_yd7 hP hS => ?_)
          have h := z_nma e_yd7 h
          refine lv_iload_n hx hb dX6_takeEvent_87 rfl (lv_at hl 0 rfl) ?_
          exact hRet _ _ _ _ _ _ hP hS (z_be e_yv5 (z_b2 (Or.inl rfl) (Or.inr rfl))) h dX6_takeEvent_88
        refine lv_icmp_ne (tgt := 82) hx hb dX6_takeEvent_75 (by decide) (fun yc75 => ?_) (fun yc75 => ?_)
        · refine lv_iconst (v := (0 : Int32)) hx hb dX6_takeEvent_82 (by decide) ?_
          exact hM83 _ _ _ (z_tn yc75 rfl) hP hS
        · refine lv_iconst (v := (1 : Int32)) hx hb dX6_takeEvent_78 (by decide) ?_
          refine lv_goto (tgt := 83) hx hb dX6_takeEvent_79 (by decide) ?_
          exact hM83 _ _ _ (z_tp yc75 rfl) hP hS
      refine lv_if_le (tgt := 65) hx hb dX6_takeEvent_58 (by decide) (fun yc58 => ?_) (fun yc58 => ?_)
      · refine lv_iconst (v := (0 : Int32)) hx hb dX6_takeEvent_65 (by decide) ?_
        exact hM66 _ _ _ (z_tp yc58 rfl) hP hS
      · refine lv_iconst (v := (1 : Int32)) hx hb dX6_takeEvent_61 (by decide) ?_
        refine lv_goto (tgt := 66) hx hb dX6_takeEvent_62 (by decide) ?_
        exact hM66 _ _ _ (z_tn yc58 rfl) hP hS
    refine lv_icmp_ne (tgt := 39) hx hb dX6_takeEvent_31 (by decide) (fun yc31 => ?_) (fun yc31 => ?_)
    · refine lv_iload_n hx hb dX6_takeEvent_39 rfl (lv_at hl 1 rfl) ?_
      refine lv_bipush (v := (28 : Int32)) hx hb dX6_takeEvent_40 (by decide) ?_
      refine lv_isub hx hb dX6_takeEvent_42 ?_
      exact hM43 _ _ _ (z_tn yc31 rfl) hP hS
    · refine lv_bipush (v := (10 : Int32)) hx hb dX6_takeEvent_34 (by decide) ?_
      refine lv_goto (tgt := 43) hx hb dX6_takeEvent_36 (by decide) ?_
      exact hM43 _ _ _ (z_tp yc31 rfl) hP hS
  refine lv_if_ne (tgt := 20) hx hb dX6_takeEvent_11 (by decide) (fun yc11 => ?_) (fun yc11 => ?_)
  · have h := z_ifn yc11 h
    exact hJ20  _ _ _ h hP hS (lv_sub hl [0, 1] rfl)
  · have h := z_ifp yc11 h
    refine lv_iload_n hx hb dX6_takeEvent_14 rfl (lv_at hl 1 rfl) ?_
    refine lv_bipush (v := (41 : Int32)) hx hb dX6_takeEvent_15 (by decide) ?_
    refine lv_icmp_ne (tgt := 89) hx hb dX6_takeEvent_17 (by decide) (fun yc17 => ?_) (fun yc17 => ?_)
    · have h := z_ifn yc17 h
      refine lv_aload_n hx hb dX6_takeEvent_89 rfl (lv_at hl 0 rfl) ?_
      refine lv_bipush (v := (8 : Int32)) hx hb dX6_takeEvent_90 (by decide) ?_
      refine pt_X6_18 hx hb hts hown hK hP hI hS (hts _ wl_3_152) dX6_takeEvent_92 (fun H locs yd8 e_yd8 hP hS => ?_)
      have h := z_nma e_yd8 h
      refine lv_iload_n hx hb dX6_takeEvent_95 rfl (lv_at hl 1 rfl) ?_
      refine lv_bipush (v := (40 : Int32)) hx hb dX6_takeEvent_96 (by decide) ?_
      refine lv_icmp_ne (tgt := 137) hx hb dX6_takeEvent_98 (by decide) (fun yc98 => ?_) (fun yc98 => ?_)
      · have h := z_ifn yc98 h
        refine lv_iconst (v := (0 : Int32)) hx hb dX6_takeEvent_137 (by decide) ?_
        exact hRet _ _ _ _ _ _ hP hS (Or.inl rfl) h dX6_takeEvent_138
      · have h := z_ifp yc98 h
        refine lv_aload_n hx hb dX6_takeEvent_101 rfl (lv_at hl 0 rfl) ?_
        refine gt_X6_25 hx hb hts hown hK hP (hts _ wl_3_159) dX6_takeEvent_102 ?_
        refine lv_bipush (v := (20 : Int32)) hx hb dX6_takeEvent_105 (by decide) ?_
        refine lv_icmp_ge (tgt := 137) hx hb dX6_takeEvent_107 (by decide) (fun yc107 => ?_) (fun yc107 => ?_)
        · have h := z_ifp yc107 h
          refine lv_iconst (v := (0 : Int32)) hx hb dX6_takeEvent_137 (by decide) ?_
          exact hRet _ _ _ _ _ _ hP hS (Or.inl rfl) h dX6_takeEvent_138
        · have h := z_ifn yc107 h
          refine lv_aload_n hx hb dX6_takeEvent_110 rfl (lv_at hl 0 rfl) ?_
          refine gt_X6_24 hx hb hts hown hK hP (hts _ wl_3_158) dX6_takeEvent_111 ?_
          refine lv_bipush (v := (8 : Int32)) hx hb dX6_takeEvent_114 (by decide) ?_
          refine lv_icmp_ge (tgt := 137) hx hb dX6_takeEvent_116 (by decide) (fun yc116 => ?_) (fun yc116 => ?_)
          · have h := z_ifp yc116 h
            refine lv_iconst (v := (0 : Int32)) hx hb dX6_takeEvent_137 (by decide) ?_
            exact hRet _ _ _ _ _ _ hP hS (Or.inl rfl) h dX6_takeEvent_138
          · have h := z_ifn yc116 h
            refine lv_aload_n hx hb dX6_takeEvent_119 rfl (lv_at hl 0 rfl) ?_
            refine gt_X6_25 hx hb hts hown hK hP (hts _ wl_3_159) dX6_takeEvent_120 ?_
            refine lv_if_eq (tgt := 133) hx hb dX6_takeEvent_123 (by decide) (fun yc123 => ?_) (fun yc123 => ?_)
            · have h := z_ifp yc123 h
              refine lv_iconst (v := (1 : Int32)) hx hb dX6_takeEvent_133 (by decide) ?_
              refine lv_goto (tgt := 138) hx hb dX6_takeEvent_134 (by decide) ?_
              exact hRet _ _ _ _ _ _ hP hS (Or.inr rfl) h dX6_takeEvent_138
            · have h := z_ifn yc123 h
              refine lv_aload_n hx hb dX6_takeEvent_126 rfl (lv_at hl 0 rfl) ?_
              refine gt_X6_24 hx hb hts hown hK hP (hts _ wl_3_158) dX6_takeEvent_127 ?_
              refine lv_if_le (tgt := 137) hx hb dX6_takeEvent_130 (by decide) (fun yc130 => ?_) (fun yc130 => ?_)
              · have h := z_ifp yc130 h
                refine lv_iconst (v := (0 : Int32)) hx hb dX6_takeEvent_137 (by decide) ?_
                exact hRet _ _ _ _ _ _ hP hS (Or.inl rfl) h dX6_takeEvent_138
              · have h := z_ifn yc130 h
                refine lv_iconst (v := (1 : Int32)) hx hb dX6_takeEvent_133 (by decide) ?_
                refine lv_goto (tgt := 138) hx hb dX6_takeEvent_134 (by decide) ?_
                exact hRet _ _ _ _ _ _ hP hS (Or.inr rfl) h dX6_takeEvent_138
    · have h := z_ifp yc17 h
      exact hJ20  _ _ _ h hP hS (lv_sub hl [0, 1] rfl)
noncomputable def fX6_takeTop (yd : Dt) (yx1 : Int32) : Option (Int32 × Dt) :=
  zif (yx1 = (113 : Int32)) (z_nm (z_st yd 0 18 (1 : Int32)) fun yd3 => z_nm (zif ((5 : Int32) ≤ (yd3.1 0 19)) (0 : Int32) (yd3.1 0 19)) fun yv4 => z_gd (z_in yv4 5) (z_nm (z_st yd3 13 (z_ix yv4) (0 : Int32)) fun yd5 => zif ((5 : Int32) ≤ (yd5.1 0 19)) (some ((0 : Int32), yd5)) (zif ((yd5.1 0 22) = 0) (some ((1 : Int32), yd5)) (some ((0 : Int32), yd5))))) (z_bd (fX6_takeEvent yd yx1) fun yr1 yd2 => some (yr1, yd2))
set_option maxHeartbeats 4000000 in
set_option maxRecDepth 100000 in
theorem kX6_takeTop {l : Launch} {D : va_G} {G : z_G} {ad : Nat → Nat} {A : Nat → Prop} (hI : ∀ d, va_D A (WM G ad d)) {yd : Dt} {yx1 : Int32}  {rr : Int32} {dd : Dt} (h : fX6_takeTop yd yx1 = some (rr, dd)) : z_Mz l D G A (WM G ad) yX6_takeTop cX6_takeTop 2 (z_rm 2 47) yd [.ref (ad 0), .int yx1] rr dd := by
  refine z_ofz (by decide) (Nat.le_of_ble_eq_true rfl) fun p e s m args below meth c Q hx hb hml hown hts hK hP hRet ls hl => ?_
  have hS : va_S A s.heap s.heap [] := va_S.rf
  have hl : lv_has ls 2 [(0, .ref (ad 0)), (1, .int yx1)] := hl
  have h : (zif (yx1 = (113 : Int32)) (z_nm (z_st yd 0 18 (1 : Int32)) fun yd3 => z_nm (zif ((5 : Int32) ≤ (yd3.1 0 19)) (0 : Int32) (yd3.1 0 19)) fun yv4 => z_gd (z_in yv4 5) (z_nm (z_st yd3 13 (z_ix yv4) (0 : Int32)) fun yd5 => zif ((5 : Int32) ≤ (yd5.1 0 19)) (some ((0 : Int32), yd5)) (zif ((yd5.1 0 22) = 0) (some ((1 : Int32), yd5)) (some ((0 : Int32), yd5))))) (z_bd (fX6_takeEvent yd yx1) fun yr1 yd2 => some (yr1, yd2))) = some (rr, dd) := h
  refine lv_iload_n hx hb dX6_takeTop_0 rfl (lv_at hl 1 rfl) ?_
  refine lv_bipush (v := (113 : Int32)) hx hb dX6_takeTop_1 (by decide) ?_
  refine lv_icmp_ne (tgt := 54) hx hb dX6_takeTop_3 (by decide) (fun yc3 => ?_) (fun yc3 => ?_)
  · have h := z_ifn yc3 h
    refine lv_aload_n hx hb dX6_takeTop_54 rfl (lv_at hl 0 rfl) ?_
    refine lv_iload_n hx hb dX6_takeTop_55 rfl (lv_at hl 1 rfl) ?_
    obtain ⟨yr1, yd2, yhc56, h⟩ := z_bdx h
    refine z_kz (z_rV (As := [.int yx1]) (rest := []) ⟨hx, hb, hml, hown, hts⟩ hK hP w_X6 rfl (kX6_takeEvent hI yhc56) giX6_92 ⟨rfl, rfl⟩ ndX6_takeEvent ⟨Nat.le_of_ble_eq_true rfl, Nat.le_of_ble_eq_true rfl⟩ rfl hl.1 rfl (Nat.le_of_ble_eq_true rfl) ⟨Nat.le_refl _, Nat.le_refl _⟩ dX6_takeTop_56) hS (fun H locs z_yr1 hP hS => ?_)
    exact hRet _ _ _ _ _ _ hP hS z_yr1 h dX6_takeTop_59
  · have h := z_ifp yc3 h
    refine lv_aload_n hx hb dX6_takeTop_6 rfl (lv_at hl 0 rfl) ?_
    refine lv_iconst (v := (1 : Int32)) hx hb dX6_takeTop_7 (by decide) ?_
    refine pt_X6_18 hx hb hts hown hK hP hI hS (hts _ wl_3_152) dX6_takeTop_8 (fun H locs yd3 e_yd3 hP hS => ?_)
    have h := z_nma e_yd3 h
    refine lv_aload_n hx hb dX6_takeTop_11 rfl (lv_at hl 0 rfl) ?_
    refine gt_X6_20 hx hb hts hown hK hP (hts _ wl_3_154) dX6_takeTop_12 ?_
    refine lv_aload_n hx hb dX6_takeTop_15 rfl (lv_at hl 0 rfl) ?_
    refine gt_X6_19 hx hb hts hown hK hP (hts _ wl_3_153) dX6_takeTop_16 ?_
    refine lv_iconst (v := (5 : Int32)) hx hb dX6_takeTop_19 (by decide) ?_
    have hM31 : ∀ (yv4 : Int32) (H : Heap) (locs : List Loc), yv4 = (zif ((5 : Int32) ≤ (yd3.1 0 19)) (0 : Int32) (yd3.1 0 19)) → va_P D vwCl (WM G ad yd3) H → va_S A s.heap H locs → W p l e (z_rm 2 47) s m args below meth c H locs 0 0 Q (F0 m 31 ls [.int yv4, .ref (ad 13)]) := by
      intro yv4 H locs e_yv4 hP hS
      have h := z_nma e_yv4 h
      refine lv_iconst (v := (0 : Int32)) hx hb dX6_takeTop_31 (by decide) ?_
      obtain ⟨yg32, h⟩ := z_gi h
      refine as_M hx hb hK hP hI hS rfl (by decide) yg32 dX6_takeTop_32 (fun H locs yd5 e_yd5 hP hS => ?_)
      have h := z_nma e_yd5 h
      refine lv_aload_n hx hb dX6_takeTop_33 rfl (lv_at hl 0 rfl) ?_
      refine gt_X6_19 hx hb hts hown hK hP (hts _ wl_3_153) dX6_takeTop_34 ?_
      refine lv_iconst (v := (5 : Int32)) hx hb dX6_takeTop_37 (by decide) ?_
      refine lv_icmp_ge (tgt := 52) hx hb dX6_takeTop_38 (by decide) (fun yc38 => ?_) (fun yc38 => ?_)
      · have h := z_ifp yc38 h
        refine lv_iconst (v := (0 : Int32)) hx hb dX6_takeTop_52 (by decide) ?_
        exact hRet _ _ _ _ _ _ hP hS (Or.inl rfl) h dX6_takeTop_53
      · have h := z_ifn yc38 h
        refine lv_aload_n hx hb dX6_takeTop_41 rfl (lv_at hl 0 rfl) ?_
        refine gt_X6_22 hx hb hts hown hK hP (hts _ wl_3_156) dX6_takeTop_42 ?_
        refine lv_if_ne (tgt := 52) hx hb dX6_takeTop_45 (by decide) (fun yc45 => ?_) (fun yc45 => ?_)
        · have h := z_ifn yc45 h
          refine lv_iconst (v := (0 : Int32)) hx hb dX6_takeTop_52 (by decide) ?_
          exact hRet _ _ _ _ _ _ hP hS (Or.inl rfl) h dX6_takeTop_53
        · have h := z_ifp yc45 h
          refine lv_iconst (v := (1 : Int32)) hx hb dX6_takeTop_48 (by decide) ?_
          refine lv_goto (tgt := 53) hx hb dX6_takeTop_49 (by decide) ?_
          exact hRet _ _ _ _ _ _ hP hS (Or.inr rfl) h dX6_takeTop_53
    refine lv_icmp_ge (tgt := 30) hx hb dX6_takeTop_20 (by decide) (fun yc20 => ?_) (fun yc20 => ?_)
    · refine lv_iconst (v := (0 : Int32)) hx hb dX6_takeTop_30 (by decide) ?_
      exact hM31 _ _ _ (z_tp yc20 rfl) hP hS
    · refine lv_aload_n hx hb dX6_takeTop_23 rfl (lv_at hl 0 rfl) ?_
      refine gt_X6_19 hx hb hts hown hK hP (hts _ wl_3_153) dX6_takeTop_24 ?_
      refine lv_goto (tgt := 31) hx hb dX6_takeTop_27 (by decide) ?_
      exact hM31 _ _ _ (z_tn yc20 rfl) hP hS
noncomputable def jX6_takeAxis_22 (yv1 : Int32) (yd : Dt) (yx1 : Int32) : Option (Int32 × Dt) :=
  zif (yv1 = (4 : Int32)) (some ((0 : Int32), yd)) (z_nm (zif (yx1 = (33 : Int32)) (1000 : Int32) (0 : Int32)) fun yv2 => z_gd (z_in (((4 : Int32) * (yd.1 0 19)) + yv1) 20) (z_nm (z_st yd 14 (z_ix (((4 : Int32) * (yd.1 0 19)) + yv1)) yv2) fun yd3 => z_gd (z_in (yd3.1 0 19) 5) (z_gd (z_in (yd3.1 0 19) 5) (z_nm (z_st yd3 13 (z_ix (yd3.1 0 19)) ((yd3.1 13 (z_ix (yd3.1 0 19))) + (1 : Int32))) fun yd4 => z_nm (z_st yd4 0 18 (2 : Int32)) fun yd5 => some ((1 : Int32), yd5)))))
noncomputable def fX6_takeAxis (yd : Dt) (yx1 : Int32) : Option (Int32 × Dt) :=
  z_gd (z_in (yd.1 0 19) 5) (z_nm (yd.1 13 (z_ix (yd.1 0 19))) fun yv1 => zif (yx1 = (47 : Int32)) (jX6_takeAxis_22 yv1 yd yx1) (zif (yx1 = (33 : Int32)) (jX6_takeAxis_22 yv1 yd yx1) (some ((0 : Int32), yd))))
set_option maxHeartbeats 4000000 in
set_option maxRecDepth 100000 in
theorem kX6_takeAxis {l : Launch} {D : va_G} {G : z_G} {ad : Nat → Nat} {A : Nat → Prop} (hI : ∀ d, va_D A (WM G ad d)) {yd : Dt} {yx1 : Int32}  {rr : Int32} {dd : Dt} (h : fX6_takeAxis yd yx1 = some (rr, dd)) : z_Mz l D G A (WM G ad) yX6_takeAxis cX6_takeAxis 3 (z_rm 0 0) yd [.ref (ad 0), .int yx1] rr dd := by
  refine z_ofz (by decide) (Nat.le_of_ble_eq_true rfl) fun p e s m args below meth c Q hx hb hml hown hts hK hP hRet ls hl => ?_
  have hS : va_S A s.heap s.heap [] := va_S.rf
  have hl : lv_has ls 3 [(0, .ref (ad 0)), (1, .int yx1)] := hl
  have h : (z_gd (z_in (yd.1 0 19) 5) (z_nm (yd.1 13 (z_ix (yd.1 0 19))) fun yv1 => zif (yx1 = (47 : Int32)) (jX6_takeAxis_22 yv1 yd yx1) (zif (yx1 = (33 : Int32)) (jX6_takeAxis_22 yv1 yd yx1) (some ((0 : Int32), yd))))) = some (rr, dd) := h
  refine lv_aload_n hx hb dX6_takeAxis_0 rfl (lv_at hl 0 rfl) ?_
  refine gt_X6_20 hx hb hts hown hK hP (hts _ wl_3_154) dX6_takeAxis_1 ?_
  refine lv_aload_n hx hb dX6_takeAxis_4 rfl (lv_at hl 0 rfl) ?_
  refine gt_X6_19 hx hb hts hown hK hP (hts _ wl_3_153) dX6_takeAxis_5 ?_
  obtain ⟨yg8, h⟩ := z_gi h
  refine al_M hx hb hK hP rfl (by decide) yg8 dX6_takeAxis_8 ?_
  refine lv_topi (fun yv1 e_yv1 => ?_)
  have h := z_nma e_yv1 h
  refine lv_istore_n (lv' := [(2, .int yv1), (0, .ref (ad 0)), (1, .int yx1)]) hx hb dX6_takeAxis_9 rfl hl (by decide) rfl (fun ls hl => ?_)
  refine lv_iload_n hx hb dX6_takeAxis_10 rfl (lv_at hl 2 rfl) ?_
  refine lv_bipush (v := (47 : Int32)) hx hb dX6_takeAxis_11 (by decide) ?_
  have hJ22 : ∀  (H : Heap) (locs : List Loc) (ls : Array Slot), jX6_takeAxis_22 yv1 yd yx1 = some (rr, dd) → va_P D vwCl (WM G ad yd) H → va_S A s.heap H locs → lv_has ls 3 [(0, .ref (ad 0)), (1, .int yx1), (2, .int yv1)] → W p l e (z_rm 0 0) s m args below meth c H locs 0 0 Q (F0 m 22 ls []) := by
    intro  H locs ls h hP hS hl
    have h : (zif (yv1 = (4 : Int32)) (some ((0 : Int32), yd)) (z_nm (zif (yx1 = (33 : Int32)) (1000 : Int32) (0 : Int32)) fun yv2 => z_gd (z_in (((4 : Int32) * (yd.1 0 19)) + yv1) 20) (z_nm (z_st yd 14 (z_ix (((4 : Int32) * (yd.1 0 19)) + yv1)) yv2) fun yd3 => z_gd (z_in (yd3.1 0 19) 5) (z_gd (z_in (yd3.1 0 19) 5) (z_nm (z_st yd3 13 (z_ix (yd3.1 0 19)) ((yd3.1 13 (z_ix (yd3.1 0 19))) + (1 : Int32))) fun yd4 => z_nm (z_st yd4 0 18 (2 : Int32)) fun yd5 => some ((1 : Int32), yd5)))))) = some (rr, dd) := h
    refine lv_iload_n hx hb dX6_takeAxis_22 rfl (lv_at hl 2 rfl) ?_
    refine lv_iconst (v := (4 : Int32)) hx hb dX6_takeAxis_23 (by decide) ?_
    refine lv_icmp_ne (tgt := 29) hx hb dX6_takeAxis_24 (by decide) (fun yc24 => ?_) (fun yc24 => ?_)
    · have h := z_ifn yc24 h
      refine lv_aload_n hx hb dX6_takeAxis_29 rfl (lv_at hl 0 rfl) ?_
      refine gt_X6_21 hx hb hts hown hK hP (hts _ wl_3_155) dX6_takeAxis_30 ?_
      refine lv_iconst (v := (4 : Int32)) hx hb dX6_takeAxis_33 (by decide) ?_
      refine lv_aload_n hx hb dX6_takeAxis_34 rfl (lv_at hl 0 rfl) ?_
      refine gt_X6_19 hx hb hts hown hK hP (hts _ wl_3_153) dX6_takeAxis_35 ?_
      refine lv_imul hx hb dX6_takeAxis_38 ?_
      refine lv_iload_n hx hb dX6_takeAxis_39 rfl (lv_at hl 2 rfl) ?_
      refine lv_iadd hx hb dX6_takeAxis_40 ?_
      refine lv_iload_n hx hb dX6_takeAxis_41 rfl (lv_at hl 1 rfl) ?_
      refine lv_bipush (v := (33 : Int32)) hx hb dX6_takeAxis_42 (by decide) ?_
      have hM54 : ∀ (yv2 : Int32) (H : Heap) (locs : List Loc), yv2 = (zif (yx1 = (33 : Int32)) (1000 : Int32) (0 : Int32)) → va_P D vwCl (WM G ad yd) H → va_S A s.heap H locs → W p l e (z_rm 0 0) s m args below meth c H locs 0 0 Q (F0 m 54 ls [.int yv2, .int (((4 : Int32) * (yd.1 0 19)) + yv1), .ref (ad 14)]) := by
        intro yv2 H locs e_yv2 hP hS
        have h := z_nma e_yv2 h
        obtain ⟨yg54, h⟩ := z_gi h
        refine as_M hx hb hK hP hI hS rfl (by decide) yg54 dX6_takeAxis_54 (fun H locs yd3 e_yd3 hP hS => ?_)
        have h := z_nma e_yd3 h
        refine lv_aload_n hx hb dX6_takeAxis_55 rfl (lv_at hl 0 rfl) ?_
        refine gt_X6_20 hx hb hts hown hK hP (hts _ wl_3_154) dX6_takeAxis_56 ?_
        refine lv_aload_n hx hb dX6_takeAxis_59 rfl (lv_at hl 0 rfl) ?_
        refine gt_X6_19 hx hb hts hown hK hP (hts _ wl_3_153) dX6_takeAxis_60 ?_
        refine lv_dup2_11 hx hb dX6_takeAxis_63 rfl rfl ?_
        obtain ⟨yg64, h⟩ := z_gi h
        refine al_M hx hb hK hP rfl (by decide) yg64 dX6_takeAxis_64 ?_
        refine lv_iconst (v := (1 : Int32)) hx hb dX6_takeAxis_65 (by decide) ?_
        refine lv_iadd hx hb dX6_takeAxis_66 ?_
        obtain ⟨yg67, h⟩ := z_gi h
        refine as_M hx hb hK hP hI hS rfl (by decide) yg67 dX6_takeAxis_67 (fun H locs yd4 e_yd4 hP hS => ?_)
        have h := z_nma e_yd4 h
        refine lv_aload_n hx hb dX6_takeAxis_68 rfl (lv_at hl 0 rfl) ?_
        refine lv_iconst (v := (2 : Int32)) hx hb dX6_takeAxis_69 (by decide) ?_
        refine pt_X6_18 hx hb hts hown hK hP hI hS (hts _ wl_3_152) dX6_takeAxis_70 (fun H locs yd5 e_yd5 hP hS => ?_)
        have h := z_nma e_yd5 h
        refine lv_iconst (v := (1 : Int32)) hx hb dX6_takeAxis_73 (by decide) ?_
        exact hRet _ _ _ _ _ _ hP hS (Or.inr rfl) h dX6_takeAxis_74
      refine lv_icmp_ne (tgt := 53) hx hb dX6_takeAxis_44 (by decide) (fun yc44 => ?_) (fun yc44 => ?_)
      · refine lv_iconst (v := (0 : Int32)) hx hb dX6_takeAxis_53 (by decide) ?_
        exact hM54 _ _ _ (z_tn yc44 rfl) hP hS
      · refine lv_sipush (v := (1000 : Int32)) hx hb dX6_takeAxis_47 (by decide) ?_
        refine lv_goto (tgt := 54) hx hb dX6_takeAxis_50 (by decide) ?_
        exact hM54 _ _ _ (z_tp yc44 rfl) hP hS
    · have h := z_ifp yc24 h
      refine lv_iconst (v := (0 : Int32)) hx hb dX6_takeAxis_27 (by decide) ?_
      exact hRet _ _ _ _ _ _ hP hS (Or.inl rfl) h dX6_takeAxis_28
  refine lv_icmp_eq (tgt := 22) hx hb dX6_takeAxis_13 (by decide) (fun yc13 => ?_) (fun yc13 => ?_)
  · have h := z_ifp yc13 h
    exact hJ22  _ _ _ h hP hS (lv_sub hl [1, 2, 0] rfl)
  · have h := z_ifn yc13 h
    refine lv_iload_n hx hb dX6_takeAxis_16 rfl (lv_at hl 2 rfl) ?_
    refine lv_bipush (v := (33 : Int32)) hx hb dX6_takeAxis_17 (by decide) ?_
    refine lv_icmp_ne (tgt := 27) hx hb dX6_takeAxis_19 (by decide) (fun yc19 => ?_) (fun yc19 => ?_)
    · have h := z_ifn yc19 h
      refine lv_iconst (v := (0 : Int32)) hx hb dX6_takeAxis_27 (by decide) ?_
      exact hRet _ _ _ _ _ _ hP hS (Or.inl rfl) h dX6_takeAxis_28
    · have h := z_ifp yc19 h
      exact hJ22  _ _ _ h hP hS (lv_sub hl [1, 2, 0] rfl)
noncomputable def jX6_takeBehind_44 (yd : Dt) (yx1 : Int32) : Option (Int32 × Dt) :=
  z_bd (fX6_takeAxis yd yx1) fun yr1 yd2 => some (yr1, yd2)
noncomputable def fX6_takeBehind (yd : Dt) (yx1 : Int32) : Option (Int32 × Dt) :=
  zif (yx1 = (46 : Int32)) (z_nm (z_st yd 0 19 ((yd.1 0 19) + (1 : Int32))) fun yd4 => z_nm (z_st yd4 0 18 (0 : Int32)) fun yd5 => some ((1 : Int32), yd5)) (zif (yx1 = (91 : Int32)) (zif ((yd.1 0 18) = (3 : Int32)) (z_nm (z_st yd 0 18 (4 : Int32)) fun yd3 => some ((1 : Int32), yd3)) (jX6_takeBehind_44 yd yx1)) (jX6_takeBehind_44 yd yx1))
set_option maxHeartbeats 4000000 in
set_option maxRecDepth 100000 in
theorem kX6_takeBehind {l : Launch} {D : va_G} {G : z_G} {ad : Nat → Nat} {A : Nat → Prop} (hI : ∀ d, va_D A (WM G ad d)) {yd : Dt} {yx1 : Int32}  {rr : Int32} {dd : Dt} (h : fX6_takeBehind yd yx1 = some (rr, dd)) : z_Mz l D G A (WM G ad) yX6_takeBehind cX6_takeBehind 2 (z_rm 1 22) yd [.ref (ad 0), .int yx1] rr dd := by
  refine z_ofz (by decide) (Nat.le_of_ble_eq_true rfl) fun p e s m args below meth c Q hx hb hml hown hts hK hP hRet ls hl => ?_
  have hS : va_S A s.heap s.heap [] := va_S.rf
  have hl : lv_has ls 2 [(0, .ref (ad 0)), (1, .int yx1)] := hl
  have h : (zif (yx1 = (46 : Int32)) (z_nm (z_st yd 0 19 ((yd.1 0 19) + (1 : Int32))) fun yd4 => z_nm (z_st yd4 0 18 (0 : Int32)) fun yd5 => some ((1 : Int32), yd5)) (zif (yx1 = (91 : Int32)) (zif ((yd.1 0 18) = (3 : Int32)) (z_nm (z_st yd 0 18 (4 : Int32)) fun yd3 => some ((1 : Int32), yd3)) (jX6_takeBehind_44 yd yx1)) (jX6_takeBehind_44 yd yx1))) = some (rr, dd) := h
  refine lv_iload_n hx hb dX6_takeBehind_0 rfl (lv_at hl 1 rfl) ?_
  refine lv_bipush (v := (46 : Int32)) hx hb dX6_takeBehind_1 (by decide) ?_
  refine lv_icmp_ne (tgt := 23) hx hb dX6_takeBehind_3 (by decide) (fun yc3 => ?_) (fun yc3 => ?_)
  · have h := z_ifn yc3 h
    refine lv_iload_n hx hb dX6_takeBehind_23 rfl (lv_at hl 1 rfl) ?_
    refine lv_bipush (v := (91 : Int32)) hx hb dX6_takeBehind_24 (by decide) ?_
    have hJ44 : ∀  (H : Heap) (locs : List Loc) (ls : Array Slot), jX6_takeBehind_44 yd yx1 = some (rr, dd) → va_P D vwCl (WM G ad yd) H → va_S A s.heap H locs → lv_has ls 2 [(0, .ref (ad 0)), (1, .int yx1)] → W p l e (z_rm 1 22) s m args below meth c H locs 0 0 Q (F0 m 44 ls []) := by
      intro  H locs ls h hP hS hl
      have h : (z_bd (fX6_takeAxis yd yx1) fun yr1 yd2 => some (yr1, yd2)) = some (rr, dd) := h
      refine lv_aload_n hx hb dX6_takeBehind_44 rfl (lv_at hl 0 rfl) ?_
      refine lv_iload_n hx hb dX6_takeBehind_45 rfl (lv_at hl 1 rfl) ?_
      obtain ⟨yr1, yd2, yhc46, h⟩ := z_bdx h
      refine z_kz (z_rV (As := [.int yx1]) (rest := []) ⟨hx, hb, hml, hown, hts⟩ hK hP w_X6 rfl (kX6_takeAxis hI yhc46) giX6_96 ⟨rfl, rfl⟩ ndX6_takeAxis ⟨Nat.le_of_ble_eq_true rfl, Nat.le_of_ble_eq_true rfl⟩ rfl hl.1 rfl (Nat.le_of_ble_eq_true rfl) ⟨Nat.le_refl _, Nat.le_refl _⟩ dX6_takeBehind_46) hS (fun H locs z_yr1 hP hS => ?_)
      exact hRet _ _ _ _ _ _ hP hS z_yr1 h dX6_takeBehind_49
    refine lv_icmp_ne (tgt := 44) hx hb dX6_takeBehind_26 (by decide) (fun yc26 => ?_) (fun yc26 => ?_)
    · have h := z_ifn yc26 h
      exact hJ44  _ _ _ h hP hS (lv_sub hl [0, 1] rfl)
    · have h := z_ifp yc26 h
      refine lv_aload_n hx hb dX6_takeBehind_29 rfl (lv_at hl 0 rfl) ?_
      refine gt_X6_18 hx hb hts hown hK hP (hts _ wl_3_152) dX6_takeBehind_30 ?_
      refine lv_iconst (v := (3 : Int32)) hx hb dX6_takeBehind_33 (by decide) ?_
      refine lv_icmp_ne (tgt := 44) hx hb dX6_takeBehind_34 (by decide) (fun yc34 => ?_) (fun yc34 => ?_)
      · have h := z_ifn yc34 h
        exact hJ44  _ _ _ h hP hS (lv_sub hl [0, 1] rfl)
      · have h := z_ifp yc34 h
        refine lv_aload_n hx hb dX6_takeBehind_37 rfl (lv_at hl 0 rfl) ?_
        refine lv_iconst (v := (4 : Int32)) hx hb dX6_takeBehind_38 (by decide) ?_
        refine pt_X6_18 hx hb hts hown hK hP hI hS (hts _ wl_3_152) dX6_takeBehind_39 (fun H locs yd3 e_yd3 hP hS => ?_)
        have h := z_nma e_yd3 h
        refine lv_iconst (v := (1 : Int32)) hx hb dX6_takeBehind_42 (by decide) ?_
        exact hRet _ _ _ _ _ _ hP hS (Or.inr rfl) h dX6_takeBehind_43
  · have h := z_ifp yc3 h
    refine lv_aload_n hx hb dX6_takeBehind_6 rfl (lv_at hl 0 rfl) ?_
    refine lv_dup hx hb dX6_takeBehind_7 rfl ?_
    refine gt_X6_19 hx hb hts hown hK hP (hts _ wl_3_153) dX6_takeBehind_8 ?_
    refine lv_iconst (v := (1 : Int32)) hx hb dX6_takeBehind_11 (by decide) ?_
    refine lv_iadd hx hb dX6_takeBehind_12 ?_
    refine pt_X6_19 hx hb hts hown hK hP hI hS (hts _ wl_3_153) dX6_takeBehind_13 (fun H locs yd4 e_yd4 hP hS => ?_)
    have h := z_nma e_yd4 h
    refine lv_aload_n hx hb dX6_takeBehind_16 rfl (lv_at hl 0 rfl) ?_
    refine lv_iconst (v := (0 : Int32)) hx hb dX6_takeBehind_17 (by decide) ?_
    refine pt_X6_18 hx hb hts hown hK hP hI hS (hts _ wl_3_152) dX6_takeBehind_18 (fun H locs yd5 e_yd5 hP hS => ?_)
    have h := z_nma e_yd5 h
    refine lv_iconst (v := (1 : Int32)) hx hb dX6_takeBehind_21 (by decide) ?_
    exact hRet _ _ _ _ _ _ hP hS (Or.inr rfl) h dX6_takeBehind_22
noncomputable def fX6_addToStep (yd : Dt) (yx1 : Int32) : Option (Dt) :=
  z_gd (z_in (yd.1 0 19) 5) (z_gd (z_in ((((4 : Int32) * (yd.1 0 19)) + (yd.1 13 (z_ix (yd.1 0 19)))) - (1 : Int32)) 20) (z_gd (z_in ((((4 : Int32) * (yd.1 0 19)) + (yd.1 13 (z_ix (yd.1 0 19)))) - (1 : Int32)) 20) (z_nm (z_st yd 14 (z_ix ((((4 : Int32) * (yd.1 0 19)) + (yd.1 13 (z_ix (yd.1 0 19)))) - (1 : Int32))) ((yd.1 14 (z_ix ((((4 : Int32) * (yd.1 0 19)) + (yd.1 13 (z_ix (yd.1 0 19)))) - (1 : Int32)))) + yx1)) fun yd1 => some yd1)))
set_option maxHeartbeats 4000000 in
set_option maxRecDepth 100000 in
theorem kX6_addToStep {l : Launch} {D : va_G} {G : z_G} {ad : Nat → Nat} {A : Nat → Prop} (hI : ∀ d, va_D A (WM G ad d)) {yd : Dt} {yx1 : Int32}  {dd : Dt} (h : fX6_addToStep yd yx1 = some dd) : z_Mv l D G A (WM G ad) yX6_addToStep cX6_addToStep 2 (z_rm 0 0) yd [.ref (ad 0), .int yx1] dd := by
  refine z_ofv (by decide) (Nat.le_of_ble_eq_true rfl) fun p e s m args below meth c Q hx hb hml hown hts hK hP hRet ls hl => ?_
  have hS : va_S A s.heap s.heap [] := va_S.rf
  have hl : lv_has ls 2 [(0, .ref (ad 0)), (1, .int yx1)] := hl
  have h : (z_gd (z_in (yd.1 0 19) 5) (z_gd (z_in ((((4 : Int32) * (yd.1 0 19)) + (yd.1 13 (z_ix (yd.1 0 19)))) - (1 : Int32)) 20) (z_gd (z_in ((((4 : Int32) * (yd.1 0 19)) + (yd.1 13 (z_ix (yd.1 0 19)))) - (1 : Int32)) 20) (z_nm (z_st yd 14 (z_ix ((((4 : Int32) * (yd.1 0 19)) + (yd.1 13 (z_ix (yd.1 0 19)))) - (1 : Int32))) ((yd.1 14 (z_ix ((((4 : Int32) * (yd.1 0 19)) + (yd.1 13 (z_ix (yd.1 0 19)))) - (1 : Int32)))) + yx1)) fun yd1 => some yd1)))) = some dd := h
  refine lv_aload_n hx hb dX6_addToStep_0 rfl (lv_at hl 0 rfl) ?_
  refine gt_X6_21 hx hb hts hown hK hP (hts _ wl_3_155) dX6_addToStep_1 ?_
  refine lv_iconst (v := (4 : Int32)) hx hb dX6_addToStep_4 (by decide) ?_
  refine lv_aload_n hx hb dX6_addToStep_5 rfl (lv_at hl 0 rfl) ?_
  refine gt_X6_19 hx hb hts hown hK hP (hts _ wl_3_153) dX6_addToStep_6 ?_
  refine lv_imul hx hb dX6_addToStep_9 ?_
  refine lv_aload_n hx hb dX6_addToStep_10 rfl (lv_at hl 0 rfl) ?_
  refine gt_X6_20 hx hb hts hown hK hP (hts _ wl_3_154) dX6_addToStep_11 ?_
  refine lv_aload_n hx hb dX6_addToStep_14 rfl (lv_at hl 0 rfl) ?_
  refine gt_X6_19 hx hb hts hown hK hP (hts _ wl_3_153) dX6_addToStep_15 ?_
  obtain ⟨yg18, h⟩ := z_gi h
  refine al_M hx hb hK hP rfl (by decide) yg18 dX6_addToStep_18 ?_
  refine lv_iadd hx hb dX6_addToStep_19 ?_
  refine lv_iconst (v := (1 : Int32)) hx hb dX6_addToStep_20 (by decide) ?_
  refine lv_isub hx hb dX6_addToStep_21 ?_
  refine lv_dup2_11 hx hb dX6_addToStep_22 rfl rfl ?_
  obtain ⟨yg23, h⟩ := z_gi h
  refine al_M hx hb hK hP rfl (by decide) yg23 dX6_addToStep_23 ?_
  refine lv_iload_n hx hb dX6_addToStep_24 rfl (lv_at hl 1 rfl) ?_
  refine lv_iadd hx hb dX6_addToStep_25 ?_
  obtain ⟨yg26, h⟩ := z_gi h
  refine as_M hx hb hK hP hI hS rfl (by decide) yg26 dX6_addToStep_26 (fun H locs yd1 e_yd1 hP hS => ?_)
  have h := z_nma e_yd1 h
  exact hRet _ _ _ _ _ hP hS h dX6_addToStep_27
noncomputable def fX6_take (yd : Dt) (yx1 : Int32) : Option (Int32 × Dt) :=
  z_nm (yx1 - (97 : Int32)) fun yv1 => z_nm (yd.1 0 18) fun yv2 => zif (yv2 = (0 : Int32)) (z_bd (fX6_takeTop yd yx1) fun yr3 yd4 => some (yr3, yd4)) (zif (yv2 = (1 : Int32)) (z_bd (fX6_takeAxis yd yx1) fun yr5 yd6 => some (yr5, yd6)) (zif (yv2 = (2 : Int32)) (z_nm (zif (yx1 = (42 : Int32)) (5 : Int32) yv1) fun yv7 => z_br (fX6_addToStep yd ((100 : Int32) * yv7)) fun yd8 => z_nm (z_st yd8 0 18 (3 : Int32)) fun yd9 => zif (yx1 = (42 : Int32)) (some ((1 : Int32), yd9)) (z_br (fX6_in (yv1.toInt64) (0 : Int64) (4 : Int64)) fun yr10 => zif (yr10 = 0) (some ((0 : Int32), yd9)) (some ((1 : Int32), yd9)))) (zif (yv2 = (3 : Int32)) (z_bd (fX6_takeBehind yd yx1) fun yr11 yd12 => some (yr11, yd12)) (zif (yv2 = (4 : Int32)) (z_nm (zif (yx1 = (61 : Int32)) (5 : Int32) (6 : Int32)) fun yv13 => z_nm (z_st yd 0 18 yv13) fun yd14 => z_nm (zif (yx1 = (61 : Int32)) (0 : Int32) (yv1 + (1 : Int32))) fun yv15 => z_br (fX6_addToStep yd14 yv15) fun yd16 => zif (yx1 = (61 : Int32)) (some ((1 : Int32), yd16)) (z_br (fX6_in (yv1.toInt64) (0 : Int64) (4 : Int64)) fun yr17 => zif (yr17 = 0) (some ((0 : Int32), yd16)) (some ((1 : Int32), yd16)))) (zif (yv2 = (5 : Int32)) (z_nm (z_st yd 0 18 (6 : Int32)) fun yd18 => z_br (fX6_addToStep yd18 ((yx1 - (48 : Int32)) + (6 : Int32))) fun yd19 => z_br (fX6_in (yx1.toInt64) (48 : Int64) (57 : Int64)) fun yr20 => some (yr20, yd19)) (zif (yv2 = (6 : Int32)) (z_nm (z_st yd 0 18 (7 : Int32)) fun yd21 => zif (yx1 = (93 : Int32)) (some ((1 : Int32), yd21)) (some ((0 : Int32), yd21))) (zif (yv2 = (7 : Int32)) (z_bd (fX6_takeBehind yd yx1) fun yr22 yd23 => some (yr22, yd23)) (z_gd (z_in (yd.1 0 22) 99) (z_nm (z_st yd 15 (z_ix (yd.1 0 22)) yv1) fun yd24 => z_nm (z_st yd24 0 22 ((yd24.1 0 22) + (1 : Int32))) fun yd25 => z_nm (z_st yd25 0 25 ((yd25.1 0 25) + (1 : Int32))) fun yd26 => z_nm (z_st yd26 0 24 ((yd26.1 0 24) + (1 : Int32))) fun yd27 => z_nm (z_st yd27 0 18 (0 : Int32)) fun yd28 => z_br (fX6_in (yv1.toInt64) (0 : Int64) (4 : Int64)) fun yr29 => some (yr29, yd28))))))))))
set_option maxHeartbeats 4000000 in
set_option maxRecDepth 100000 in
theorem kX6_take {l : Launch} {D : va_G} {G : z_G} {ad : Nat → Nat} {A : Nat → Prop} (hI : ∀ d, va_D A (WM G ad d)) {yd : Dt} {yx1 : Int32}  {rr : Int32} {dd : Dt} (h : fX6_take yd yx1 = some (rr, dd)) : z_Mz l D G A (WM G ad) yX6_take cX6_take 3 (z_rm 3 68) yd [.ref (ad 0), .int yx1] rr dd := by
  refine z_ofz (by decide) (Nat.le_of_ble_eq_true rfl) fun p e s m args below meth c Q hx hb hml hown hts hK hP hRet ls hl => ?_
  have hS : va_S A s.heap s.heap [] := va_S.rf
  have hl : lv_has ls 3 [(0, .ref (ad 0)), (1, .int yx1)] := hl
  have h : (z_nm (yx1 - (97 : Int32)) fun yv1 => z_nm (yd.1 0 18) fun yv2 => zif (yv2 = (0 : Int32)) (z_bd (fX6_takeTop yd yx1) fun yr3 yd4 => some (yr3, yd4)) (zif (yv2 = (1 : Int32)) (z_bd (fX6_takeAxis yd yx1) fun yr5 yd6 => some (yr5, yd6)) (zif (yv2 = (2 : Int32)) (z_nm (zif (yx1 = (42 : Int32)) (5 : Int32) yv1) fun yv7 => z_br (fX6_addToStep yd ((100 : Int32) * yv7)) fun yd8 => z_nm (z_st yd8 0 18 (3 : Int32)) fun yd9 => zif (yx1 = (42 : Int32)) (some ((1 : Int32), yd9)) (z_br (fX6_in (yv1.toInt64) (0 : Int64) (4 : Int64)) fun yr10 => zif (yr10 = 0) (some ((0 : Int32), yd9)) (some ((1 : Int32), yd9)))) (zif (yv2 = (3 : Int32)) (z_bd (fX6_takeBehind yd yx1) fun yr11 yd12 => some (yr11, yd12)) (zif (yv2 = (4 : Int32)) (z_nm (zif (yx1 = (61 : Int32)) (5 : Int32) (6 : Int32)) fun yv13 => z_nm (z_st yd 0 18 yv13) fun yd14 => z_nm (zif (yx1 = (61 : Int32)) (0 : Int32) (yv1 + (1 : Int32))) fun yv15 => z_br (fX6_addToStep yd14 yv15) fun yd16 => zif (yx1 = (61 : Int32)) (some ((1 : Int32), yd16)) (z_br (fX6_in (yv1.toInt64) (0 : Int64) (4 : Int64)) fun yr17 => zif (yr17 = 0) (some ((0 : Int32), yd16)) (some ((1 : Int32), yd16)))) (zif (yv2 = (5 : Int32)) (z_nm (z_st yd 0 18 (6 : Int32)) fun yd18 => z_br (fX6_addToStep yd18 ((yx1 - (48 : Int32)) + (6 : Int32))) fun yd19 => z_br (fX6_in (yx1.toInt64) (48 : Int64) (57 : Int64)) fun yr20 => some (yr20, yd19)) (zif (yv2 = (6 : Int32)) (z_nm (z_st yd 0 18 (7 : Int32)) fun yd21 => zif (yx1 = (93 : Int32)) (some ((1 : Int32), yd21)) (some ((0 : Int32), yd21))) (zif (yv2 = (7 : Int32)) (z_bd (fX6_takeBehind yd yx1) fun yr22 yd23 => some (yr22, yd23)) (z_gd (z_in (yd.1 0 22) 99) (z_nm (z_st yd 15 (z_ix (yd.1 0 22)) yv1) fun yd24 => z_nm (z_st yd24 0 22 ((yd24.1 0 22) + (1 : Int32))) fun yd25 => z_nm (z_st yd25 0 25 ((yd25.1 0 25) + (1 : Int32))) fun yd26 => z_nm (z_st yd26 0 24 ((yd26.1 0 24) + (1 : Int32))) fun yd27 => z_nm (z_st yd27 0 18 (0 : Int32)) fun yd28 => z_br (fX6_in (yv1.toInt64) (0 : Int64) (4 : Int64)) fun yr29 => some (yr29, yd28))))))))))) = some (rr, dd) := h
  refine lv_iload_n hx hb dX6_take_0 rfl (lv_at hl 1 rfl) ?_
  refine lv_bipush (v := (97 : Int32)) hx hb dX6_take_1 (by decide) ?_
  refine lv_isub hx hb dX6_take_3 ?_
  refine lv_topi (fun yv1 e_yv1 => ?_)
  have h := z_nma e_yv1 h
  refine lv_istore_n (lv' := [(2, .int yv1), (0, .ref (ad 0)), (1, .int yx1)]) hx hb dX6_take_4 rfl hl (by decide) rfl (fun ls hl => ?_)
  refine lv_aload_n hx hb dX6_take_5 rfl (lv_at hl 1 rfl) ?_
  refine gt_X6_18 hx hb hts hown hK hP (hts _ wl_3_152) dX6_take_6 ?_
  refine lv_topi (fun yv2 e_yv2 => ?_)
  have h := z_nma e_yv2 h
  by_cases yk9_0 : yv2 = (0 : Int32)
  · have h := z_ifp yk9_0 h
    refine lv_tableIn (off := (47)) (tgt := 56) hx hb dX6_take_9 (by rw [yk9_0]; decide) (by rw [yk9_0]; decide) (by rw [yk9_0]; rfl) (by decide) ?_
    refine lv_aload_n hx hb dX6_take_56 rfl (lv_at hl 1 rfl) ?_
    refine lv_iload_n hx hb dX6_take_57 rfl (lv_at hl 2 rfl) ?_
    obtain ⟨yr3, yd4, yhc58, h⟩ := z_bdx h
    refine z_kz (z_rV (As := [.int yx1]) (rest := []) ⟨hx, hb, hml, hown, hts⟩ hK hP w_X6 rfl (kX6_takeTop hI yhc58) giX6_99 ⟨rfl, rfl⟩ ndX6_takeTop ⟨Nat.le_of_ble_eq_true rfl, Nat.le_of_ble_eq_true rfl⟩ rfl hl.1 rfl (Nat.le_of_ble_eq_true rfl) ⟨Nat.le_refl _, Nat.le_refl _⟩ dX6_take_58) hS (fun H locs z_yr3 hP hS => ?_)
    exact hRet _ _ _ _ _ _ hP hS z_yr3 h dX6_take_61
  have h := z_ifn yk9_0 h
  by_cases yk9_1 : yv2 = (1 : Int32)
  · have h := z_ifp yk9_1 h
    refine lv_tableIn (off := (53)) (tgt := 62) hx hb dX6_take_9 (by rw [yk9_1]; decide) (by rw [yk9_1]; decide) (by rw [yk9_1]; rfl) (by decide) ?_
    refine lv_aload_n hx hb dX6_take_62 rfl (lv_at hl 1 rfl) ?_
    refine lv_iload_n hx hb dX6_take_63 rfl (lv_at hl 2 rfl) ?_
    obtain ⟨yr5, yd6, yhc64, h⟩ := z_bdx h
    refine z_kz (z_rV (As := [.int yx1]) (rest := []) ⟨hx, hb, hml, hown, hts⟩ hK hP w_X6 rfl (kX6_takeAxis hI yhc64) giX6_96 ⟨rfl, rfl⟩ ndX6_takeAxis ⟨Nat.le_of_ble_eq_true rfl, Nat.le_of_ble_eq_true rfl⟩ rfl hl.1 rfl (Nat.le_of_ble_eq_true rfl) ⟨Nat.le_refl _, Nat.le_refl _⟩ dX6_take_64) hS (fun H locs z_yr5 hP hS => ?_)
    exact hRet _ _ _ _ _ _ hP hS z_yr5 h dX6_take_67
  have h := z_ifn yk9_1 h
  by_cases yk9_2 : yv2 = (2 : Int32)
  · have h := z_ifp yk9_2 h
    refine lv_tableIn (off := (59)) (tgt := 68) hx hb dX6_take_9 (by rw [yk9_2]; decide) (by rw [yk9_2]; decide) (by rw [yk9_2]; rfl) (by decide) ?_
    refine lv_aload_n hx hb dX6_take_68 rfl (lv_at hl 1 rfl) ?_
    refine lv_bipush (v := (100 : Int32)) hx hb dX6_take_69 (by decide) ?_
    refine lv_iload_n hx hb dX6_take_71 rfl (lv_at hl 2 rfl) ?_
    refine lv_bipush (v := (42 : Int32)) hx hb dX6_take_72 (by decide) ?_
    have hM82 : ∀ (yv7 : Int32) (H : Heap) (locs : List Loc), yv7 = (zif (yx1 = (42 : Int32)) (5 : Int32) yv1) → va_P D vwCl (WM G ad yd) H → va_S A s.heap H locs → W p l e (z_rm 3 68) s m args below meth c H locs 0 0 Q (F0 m 82 ls [.int yv7, .int (100 : Int32), .ref (ad 0)]) := by
      intro yv7 H locs e_yv7 hP hS
      have h := z_nma e_yv7 h
      refine lv_imul hx hb dX6_take_82 ?_
      obtain ⟨yd8, yhc83, h⟩ := z_brx h
      refine z_kv (z_rV (As := [.int ((100 : Int32) * yv7)]) (rest := []) ⟨hx, hb, hml, hown, hts⟩ hK hP w_X6 rfl (kX6_addToStep hI yhc83) giX6_102 ⟨rfl, rfl⟩ ndX6_addToStep ⟨Nat.le_of_ble_eq_true rfl, Nat.le_of_ble_eq_true rfl⟩ rfl hl.1 rfl (Nat.le_of_ble_eq_true rfl) ⟨Nat.le_refl _, Nat.le_refl _⟩ dX6_take_83) hS (fun H locs hP hS => ?_)
      refine lv_aload_n hx hb dX6_take_86 rfl (lv_at hl 1 rfl) ?_
      refine lv_iconst (v := (3 : Int32)) hx hb dX6_take_87 (by decide) ?_
      refine pt_X6_18 hx hb hts hown hK hP hI hS (hts _ wl_3_152) dX6_take_88 (fun H locs yd9 e_yd9 hP hS => ?_)
      have h := z_nma e_yd9 h
      refine lv_iload_n hx hb dX6_take_91 rfl (lv_at hl 2 rfl) ?_
      refine lv_bipush (v := (42 : Int32)) hx hb dX6_take_92 (by decide) ?_
      refine lv_icmp_eq (tgt := 109) hx hb dX6_take_94 (by decide) (fun yc94 => ?_) (fun yc94 => ?_)
      · have h := z_ifp yc94 h
        refine lv_iconst (v := (1 : Int32)) hx hb dX6_take_109 (by decide) ?_
        refine lv_goto (tgt := 114) hx hb dX6_take_110 (by decide) ?_
        exact hRet _ _ _ _ _ _ hP hS (Or.inr rfl) h dX6_take_114
      · have h := z_ifn yc94 h
        refine lv_iload_n hx hb dX6_take_97 rfl (lv_at hl 0 rfl) ?_
        refine lv_i2l (v := yv1.toInt64) hx hb dX6_take_98 rfl ?_
        refine lv_lconst (v := (0 : Int64)) hx hb dX6_take_99 (by decide) ?_
        refine lv_ldc2 hx hb hown (hts _ wl_4_15) dX6_take_100 ?_
        obtain ⟨yr10, yhc103, h⟩ := z_brx h
        refine z_kz (z_rS (As := [.long (yv1.toInt64), .long (0 : Int64), .long (4 : Int64)]) (rest := []) ⟨hx, hb, hml, hown, hts⟩ hK hP (kX6_in yhc103) giX6_64 ⟨rfl, rfl⟩ ndX6_in ⟨Nat.le_of_ble_eq_true rfl, Nat.le_of_ble_eq_true rfl⟩ rfl hl.1 rfl (Nat.le_of_ble_eq_true rfl) ⟨Nat.le_refl _, Nat.le_refl _⟩ dX6_take_103) hS (fun H locs z_yr10 hP hS => ?_)
        refine lv_if_eq (tgt := 113) hx hb dX6_take_106 (by decide) (fun yc106 => ?_) (fun yc106 => ?_)
        · have h := z_ifp yc106 h
          refine lv_iconst (v := (0 : Int32)) hx hb dX6_take_113 (by decide) ?_
          exact hRet _ _ _ _ _ _ hP hS (Or.inl rfl) h dX6_take_114
        · have h := z_ifn yc106 h
          refine lv_iconst (v := (1 : Int32)) hx hb dX6_take_109 (by decide) ?_
          refine lv_goto (tgt := 114) hx hb dX6_take_110 (by decide) ?_
          exact hRet _ _ _ _ _ _ hP hS (Or.inr rfl) h dX6_take_114
    refine lv_icmp_ne (tgt := 81) hx hb dX6_take_74 (by decide) (fun yc74 => ?_) (fun yc74 => ?_)
    · refine lv_iload_n hx hb dX6_take_81 rfl (lv_at hl 0 rfl) ?_
      exact hM82 _ _ _ (z_tn yc74 rfl) hP hS
    · refine lv_iconst (v := (5 : Int32)) hx hb dX6_take_77 (by decide) ?_
      refine lv_goto (tgt := 82) hx hb dX6_take_78 (by decide) ?_
      exact hM82 _ _ _ (z_tp yc74 rfl) hP hS
  have h := z_ifn yk9_2 h
  by_cases yk9_3 : yv2 = (3 : Int32)
  · have h := z_ifp yk9_3 h
    refine lv_tableIn (off := (106)) (tgt := 115) hx hb dX6_take_9 (by rw [yk9_3]; decide) (by rw [yk9_3]; decide) (by rw [yk9_3]; rfl) (by decide) ?_
    refine lv_aload_n hx hb dX6_take_115 rfl (lv_at hl 1 rfl) ?_
    refine lv_iload_n hx hb dX6_take_116 rfl (lv_at hl 2 rfl) ?_
    obtain ⟨yr11, yd12, yhc117, h⟩ := z_bdx h
    refine z_kz (z_rV (As := [.int yx1]) (rest := []) ⟨hx, hb, hml, hown, hts⟩ hK hP w_X6 rfl (kX6_takeBehind hI yhc117) giX6_108 ⟨rfl, rfl⟩ ndX6_takeBehind ⟨Nat.le_of_ble_eq_true rfl, Nat.le_of_ble_eq_true rfl⟩ rfl hl.1 rfl (Nat.le_of_ble_eq_true rfl) ⟨Nat.le_refl _, Nat.le_refl _⟩ dX6_take_117) hS (fun H locs z_yr11 hP hS => ?_)
    exact hRet _ _ _ _ _ _ hP hS z_yr11 h dX6_take_120
  have h := z_ifn yk9_3 h
  by_cases yk9_4 : yv2 = (4 : Int32)
  · have h := z_ifp yk9_4 h
    refine lv_tableIn (off := (112)) (tgt := 121) hx hb dX6_take_9 (by rw [yk9_4]; decide) (by rw [yk9_4]; decide) (by rw [yk9_4]; rfl) (by decide) ?_
    refine lv_aload_n hx hb dX6_take_121 rfl (lv_at hl 1 rfl) ?_
    refine lv_iload_n hx hb dX6_take_122 rfl (lv_at hl 2 rfl) ?_
    refine lv_bipush (v := (61 : Int32)) hx hb dX6_take_123 (by decide) ?_
    have hM134 : ∀ (yv13 : Int32) (H : Heap) (locs : List Loc), yv13 = (zif (yx1 = (61 : Int32)) (5 : Int32) (6 : Int32)) → va_P D vwCl (WM G ad yd) H → va_S A s.heap H locs → W p l e (z_rm 3 68) s m args below meth c H locs 0 0 Q (F0 m 134 ls [.int yv13, .ref (ad 0)]) := by
      intro yv13 H locs e_yv13 hP hS
      have h := z_nma e_yv13 h
      refine pt_X6_18 hx hb hts hown hK hP hI hS (hts _ wl_3_152) dX6_take_134 (fun H locs yd14 e_yd14 hP hS => ?_)
      have h := z_nma e_yd14 h
      refine lv_aload_n hx hb dX6_take_137 rfl (lv_at hl 1 rfl) ?_
      refine lv_iload_n hx hb dX6_take_138 rfl (lv_at hl 2 rfl) ?_
      refine lv_bipush (v := (61 : Int32)) hx hb dX6_take_139 (by decide) ?_
      have hM151 : ∀ (yv15 : Int32) (H : Heap) (locs : List Loc), yv15 = (zif (yx1 = (61 : Int32)) (0 : Int32) (yv1 + (1 : Int32))) → va_P D vwCl (WM G ad yd14) H → va_S A s.heap H locs → W p l e (z_rm 3 68) s m args below meth c H locs 0 0 Q (F0 m 151 ls [.int yv15, .ref (ad 0)]) := by
        intro yv15 H locs e_yv15 hP hS
        have h := z_nma e_yv15 h
        obtain ⟨yd16, yhc151, h⟩ := z_brx h
        refine z_kv (z_rV (As := [.int yv15]) (rest := []) ⟨hx, hb, hml, hown, hts⟩ hK hP w_X6 rfl (kX6_addToStep hI yhc151) giX6_102 ⟨rfl, rfl⟩ ndX6_addToStep ⟨Nat.le_of_ble_eq_true rfl, Nat.le_of_ble_eq_true rfl⟩ rfl hl.1 rfl (Nat.le_of_ble_eq_true rfl) ⟨Nat.le_refl _, Nat.le_refl _⟩ dX6_take_151) hS (fun H locs hP hS => ?_)
        refine lv_iload_n hx hb dX6_take_154 rfl (lv_at hl 2 rfl) ?_
        refine lv_bipush (v := (61 : Int32)) hx hb dX6_take_155 (by decide) ?_
        refine lv_icmp_eq (tgt := 172) hx hb dX6_take_157 (by decide) (fun yc157 => ?_) (fun yc157 => ?_)
        · have h := z_ifp yc157 h
          refine lv_iconst (v := (1 : Int32)) hx hb dX6_take_172 (by decide) ?_
          refine lv_goto (tgt := 177) hx hb dX6_take_173 (by decide) ?_
          exact hRet _ _ _ _ _ _ hP hS (Or.inr rfl) h dX6_take_177
        · have h := z_ifn yc157 h
          refine lv_iload_n hx hb dX6_take_160 rfl (lv_at hl 0 rfl) ?_
          refine lv_i2l (v := yv1.toInt64) hx hb dX6_take_161 rfl ?_
          refine lv_lconst (v := (0 : Int64)) hx hb dX6_take_162 (by decide) ?_
          refine lv_ldc2 hx hb hown (hts _ wl_4_15) dX6_take_163 ?_
          obtain ⟨yr17, yhc166, h⟩ := z_brx h
          refine z_kz (z_rS (As := [.long (yv1.toInt64), .long (0 : Int64), .long (4 : Int64)]) (rest := []) ⟨hx, hb, hml, hown, hts⟩ hK hP (kX6_in yhc166) giX6_64 ⟨rfl, rfl⟩ ndX6_in ⟨Nat.le_of_ble_eq_true rfl, Nat.le_of_ble_eq_true rfl⟩ rfl hl.1 rfl (Nat.le_of_ble_eq_true rfl) ⟨Nat.le_refl _, Nat.le_refl _⟩ dX6_take_166) hS (fun H locs z_yr17 hP hS => ?_)
          refine lv_if_eq (tgt := 176) hx hb dX6_take_169 (by decide) (fun yc169 => ?_) (fun yc169 => ?_)
          · have h := z_ifp yc169 h
            refine lv_iconst (v := (0 : Int32)) hx hb dX6_take_176 (by decide) ?_
            exact hRet _ _ _ _ _ _ hP hS (Or.inl rfl) h dX6_take_177
          · have h := z_ifn yc169 h
            refine lv_iconst (v := (1 : Int32)) hx hb dX6_take_172 (by decide) ?_
            refine lv_goto (tgt := 177) hx hb dX6_take_173 (by decide) ?_
            exact hRet _ _ _ _ _ _ hP hS (Or.inr rfl) h dX6_take_177
      refine lv_icmp_ne (tgt := 148) hx hb dX6_take_141 (by decide) (fun yc141 => ?_) (fun yc141 => ?_)
      · refine lv_iload_n hx hb dX6_take_148 rfl (lv_at hl 0 rfl) ?_
        refine lv_iconst (v := (1 : Int32)) hx hb dX6_take_149 (by decide) ?_
        refine lv_iadd hx hb dX6_take_150 ?_
        exact hM151 _ _ _ (z_tn yc141 rfl) hP hS
      · refine lv_iconst (v := (0 : Int32)) hx hb dX6_take_144 (by decide) ?_
        refine lv_goto (tgt := 151) hx hb dX6_take_145 (by decide) ?_
        exact hM151 _ _ _ (z_tp yc141 rfl) hP hS
    refine lv_icmp_ne (tgt := 132) hx hb dX6_take_125 (by decide) (fun yc125 => ?_) (fun yc125 => ?_)
    · refine lv_bipush (v := (6 : Int32)) hx hb dX6_take_132 (by decide) ?_
      exact hM134 _ _ _ (z_tn yc125 rfl) hP hS
    · refine lv_iconst (v := (5 : Int32)) hx hb dX6_take_128 (by decide) ?_
      refine lv_goto (tgt := 134) hx hb dX6_take_129 (by decide) ?_
      exact hM134 _ _ _ (z_tp yc125 rfl) hP hS
  have h := z_ifn yk9_4 h
  by_cases yk9_5 : yv2 = (5 : Int32)
  · have h := z_ifp yk9_5 h
    refine lv_tableIn (off := (169)) (tgt := 178) hx hb dX6_take_9 (by rw [yk9_5]; decide) (by rw [yk9_5]; decide) (by rw [yk9_5]; rfl) (by decide) ?_
    refine lv_aload_n hx hb dX6_take_178 rfl (lv_at hl 1 rfl) ?_
    refine lv_bipush (v := (6 : Int32)) hx hb dX6_take_179 (by decide) ?_
    refine pt_X6_18 hx hb hts hown hK hP hI hS (hts _ wl_3_152) dX6_take_181 (fun H locs yd18 e_yd18 hP hS => ?_)
    have h := z_nma e_yd18 h
    refine lv_aload_n hx hb dX6_take_184 rfl (lv_at hl 1 rfl) ?_
    refine lv_iload_n hx hb dX6_take_185 rfl (lv_at hl 2 rfl) ?_
    refine lv_bipush (v := (48 : Int32)) hx hb dX6_take_186 (by decide) ?_
    refine lv_isub hx hb dX6_take_188 ?_
    refine lv_bipush (v := (6 : Int32)) hx hb dX6_take_189 (by decide) ?_
    refine lv_iadd hx hb dX6_take_191 ?_
    obtain ⟨yd19, yhc192, h⟩ := z_brx h
    refine z_kv (z_rV (As := [.int ((yx1 - (48 : Int32)) + (6 : Int32))]) (rest := []) ⟨hx, hb, hml, hown, hts⟩ hK hP w_X6 rfl (kX6_addToStep hI yhc192) giX6_102 ⟨rfl, rfl⟩ ndX6_addToStep ⟨Nat.le_of_ble_eq_true rfl, Nat.le_of_ble_eq_true rfl⟩ rfl hl.1 rfl (Nat.le_of_ble_eq_true rfl) ⟨Nat.le_refl _, Nat.le_refl _⟩ dX6_take_192) hS (fun H locs hP hS => ?_)
    refine lv_iload_n hx hb dX6_take_195 rfl (lv_at hl 2 rfl) ?_
    refine lv_i2l (v := yx1.toInt64) hx hb dX6_take_196 rfl ?_
    refine lv_ldc2 hx hb hown (hts _ wl_4_5) dX6_take_197 ?_
    refine lv_ldc2 hx hb hown (hts _ wl_4_6) dX6_take_200 ?_
    obtain ⟨yr20, yhc203, h⟩ := z_brx h
    refine z_kz (z_rS (As := [.long (yx1.toInt64), .long (48 : Int64), .long (57 : Int64)]) (rest := []) ⟨hx, hb, hml, hown, hts⟩ hK hP (kX6_in yhc203) giX6_64 ⟨rfl, rfl⟩ ndX6_in ⟨Nat.le_of_ble_eq_true rfl, Nat.le_of_ble_eq_true rfl⟩ rfl hl.1 rfl (Nat.le_of_ble_eq_true rfl) ⟨Nat.le_refl _, Nat.le_refl _⟩ dX6_take_203) hS (fun H locs z_yr20 hP hS => ?_)
    exact hRet _ _ _ _ _ _ hP hS z_yr20 h dX6_take_206
  have h := z_ifn yk9_5 h
  by_cases yk9_6 : yv2 = (6 : Int32)
  · have h := z_ifp yk9_6 h
    refine lv_tableIn (off := (198)) (tgt := 207) hx hb dX6_take_9 (by rw [yk9_6]; decide) (by rw [yk9_6]; decide) (by rw [yk9_6]; rfl) (by decide) ?_
    refine lv_aload_n hx hb dX6_take_207 rfl (lv_at hl 1 rfl) ?_
    refine lv_bipush (v := (7 : Int32)) hx hb dX6_take_208 (by decide) ?_
    refine pt_X6_18 hx hb hts hown hK hP hI hS (hts _ wl_3_152) dX6_take_210 (fun H locs yd21 e_yd21 hP hS => ?_)
    have h := z_nma e_yd21 h
    refine lv_iload_n hx hb dX6_take_213 rfl (lv_at hl 2 rfl) ?_
    refine lv_bipush (v := (93 : Int32)) hx hb dX6_take_214 (by decide) ?_
    refine lv_icmp_ne (tgt := 223) hx hb dX6_take_216 (by decide) (fun yc216 => ?_) (fun yc216 => ?_)
    · have h := z_ifn yc216 h
      refine lv_iconst (v := (0 : Int32)) hx hb dX6_take_223 (by decide) ?_
      exact hRet _ _ _ _ _ _ hP hS (Or.inl rfl) h dX6_take_224
    · have h := z_ifp yc216 h
      refine lv_iconst (v := (1 : Int32)) hx hb dX6_take_219 (by decide) ?_
      refine lv_goto (tgt := 224) hx hb dX6_take_220 (by decide) ?_
      exact hRet _ _ _ _ _ _ hP hS (Or.inr rfl) h dX6_take_224
  have h := z_ifn yk9_6 h
  by_cases yk9_7 : yv2 = (7 : Int32)
  · have h := z_ifp yk9_7 h
    refine lv_tableIn (off := (106)) (tgt := 115) hx hb dX6_take_9 (by rw [yk9_7]; decide) (by rw [yk9_7]; decide) (by rw [yk9_7]; rfl) (by decide) ?_
    refine lv_aload_n hx hb dX6_take_115 rfl (lv_at hl 1 rfl) ?_
    refine lv_iload_n hx hb dX6_take_116 rfl (lv_at hl 2 rfl) ?_
    obtain ⟨yr22, yd23, yhc117, h⟩ := z_bdx h
    refine z_kz (z_rV (As := [.int yx1]) (rest := []) ⟨hx, hb, hml, hown, hts⟩ hK hP w_X6 rfl (kX6_takeBehind hI yhc117) giX6_108 ⟨rfl, rfl⟩ ndX6_takeBehind ⟨Nat.le_of_ble_eq_true rfl, Nat.le_of_ble_eq_true rfl⟩ rfl hl.1 rfl (Nat.le_of_ble_eq_true rfl) ⟨Nat.le_refl _, Nat.le_refl _⟩ dX6_take_117) hS (fun H locs z_yr22 hP hS => ?_)
    exact hRet _ _ _ _ _ _ hP hS z_yr22 h dX6_take_120
  have h := z_ifn yk9_7 h
  refine lv_tableOut (tgt := 225) hx hb dX6_take_9 (by have q0 := lv_neT yk9_0 (a := 0) rfl; have q1 := lv_neT yk9_1 (a := 1) rfl; have q2 := lv_neT yk9_2 (a := 2) rfl; have q3 := lv_neT yk9_3 (a := 3) rfl; have q4 := lv_neT yk9_4 (a := 4) rfl; have q5 := lv_neT yk9_5 (a := 5) rfl; have q6 := lv_neT yk9_6 (a := 6) rfl; have q7 := lv_neT yk9_7 (a := 7) rfl; omega) (by decide) ?_
  refine lv_aload_n hx hb dX6_take_225 rfl (lv_at hl 1 rfl) ?_
  refine gt_X6_23 hx hb hts hown hK hP (hts _ wl_3_157) dX6_take_226 ?_
  refine lv_aload_n hx hb dX6_take_229 rfl (lv_at hl 1 rfl) ?_
  refine gt_X6_22 hx hb hts hown hK hP (hts _ wl_3_156) dX6_take_230 ?_
  refine lv_iload_n hx hb dX6_take_233 rfl (lv_at hl 0 rfl) ?_
  obtain ⟨yg234, h⟩ := z_gi h
  refine as_M hx hb hK hP hI hS rfl (by decide) yg234 dX6_take_234 (fun H locs yd24 e_yd24 hP hS => ?_)
  have h := z_nma e_yd24 h
  refine lv_aload_n hx hb dX6_take_235 rfl (lv_at hl 1 rfl) ?_
  refine lv_dup hx hb dX6_take_236 rfl ?_
  refine gt_X6_22 hx hb hts hown hK hP (hts _ wl_3_156) dX6_take_237 ?_
  refine lv_iconst (v := (1 : Int32)) hx hb dX6_take_240 (by decide) ?_
  refine lv_iadd hx hb dX6_take_241 ?_
  refine pt_X6_22 hx hb hts hown hK hP hI hS (hts _ wl_3_156) dX6_take_242 (fun H locs yd25 e_yd25 hP hS => ?_)
  have h := z_nma e_yd25 h
  refine lv_aload_n hx hb dX6_take_245 rfl (lv_at hl 1 rfl) ?_
  refine lv_dup hx hb dX6_take_246 rfl ?_
  refine gt_X6_25 hx hb hts hown hK hP (hts _ wl_3_159) dX6_take_247 ?_
  refine lv_iconst (v := (1 : Int32)) hx hb dX6_take_250 (by decide) ?_
  refine lv_iadd hx hb dX6_take_251 ?_
  refine pt_X6_25 hx hb hts hown hK hP hI hS (hts _ wl_3_159) dX6_take_252 (fun H locs yd26 e_yd26 hP hS => ?_)
  have h := z_nma e_yd26 h
  refine lv_aload_n hx hb dX6_take_255 rfl (lv_at hl 1 rfl) ?_
  refine lv_dup hx hb dX6_take_256 rfl ?_
  refine gt_X6_24 hx hb hts hown hK hP (hts _ wl_3_158) dX6_take_257 ?_
  refine lv_iconst (v := (1 : Int32)) hx hb dX6_take_260 (by decide) ?_
  refine lv_iadd hx hb dX6_take_261 ?_
  refine pt_X6_24 hx hb hts hown hK hP hI hS (hts _ wl_3_158) dX6_take_262 (fun H locs yd27 e_yd27 hP hS => ?_)
  have h := z_nma e_yd27 h
  refine lv_aload_n hx hb dX6_take_265 rfl (lv_at hl 1 rfl) ?_
  refine lv_iconst (v := (0 : Int32)) hx hb dX6_take_266 (by decide) ?_
  refine pt_X6_18 hx hb hts hown hK hP hI hS (hts _ wl_3_152) dX6_take_267 (fun H locs yd28 e_yd28 hP hS => ?_)
  have h := z_nma e_yd28 h
  refine lv_iload_n hx hb dX6_take_270 rfl (lv_at hl 0 rfl) ?_
  refine lv_i2l (v := yv1.toInt64) hx hb dX6_take_271 rfl ?_
  refine lv_lconst (v := (0 : Int64)) hx hb dX6_take_272 (by decide) ?_
  refine lv_ldc2 hx hb hown (hts _ wl_4_15) dX6_take_273 ?_
  obtain ⟨yr29, yhc276, h⟩ := z_brx h
  refine z_kz (z_rS (As := [.long (yv1.toInt64), .long (0 : Int64), .long (4 : Int64)]) (rest := []) ⟨hx, hb, hml, hown, hts⟩ hK hP (kX6_in yhc276) giX6_64 ⟨rfl, rfl⟩ ndX6_in ⟨Nat.le_of_ble_eq_true rfl, Nat.le_of_ble_eq_true rfl⟩ rfl hl.1 rfl (Nat.le_of_ble_eq_true rfl) ⟨Nat.le_refl _, Nat.le_refl _⟩ dX6_take_276) hS (fun H locs z_yr29 hP hS => ?_)
  exact hRet _ _ _ _ _ _ hP hS z_yr29 h dX6_take_279
