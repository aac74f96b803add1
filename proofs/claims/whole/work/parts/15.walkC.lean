noncomputable def bX5_pathsAnswering_4 (yd : Dt) (yx1 : Int32) (s : Int32 × Int32) : Option ((Int32 × Int32) ⊕ (Int32)) := match s with
  | (yv1, yv2) => zif ((yd.1 1 2) ≤ yv2) (some (.inr yv1)) (z_gd (z_in yv2 5) (z_nm (yv1 + (((yd.1 71 (z_ix yv2)) >>> (yx1 &&& 31)) &&& (1 : Int32))) fun yv3 => z_nm (yv2 + (1 : Int32)) fun yv4 => some (.inl (yv3, yv4))))
noncomputable def fX5_pathsAnswering (yd : Dt) (yx1 : Int32) : Option Int32 :=
  z_br (z_lp (bX5_pathsAnswering_4 yd yx1) ((0 : Int32), (0 : Int32))) (fun t => match t with | yv5 => some yv5)
set_option maxHeartbeats 4000000 in
set_option maxRecDepth 100000 in
theorem kX5_pathsAnswering {l : Launch} {D : va_G} {G : z_G} {ad : Nat → Nat} {A : Nat → Prop} (hI : ∀ d, va_D A (WC G ad d)) {yd : Dt} {yx1 : Int32}  {rr : Int32} (h : fX5_pathsAnswering yd yx1 = some rr) : z_Mi l D G A (WC G ad) yX5_pathsAnswering cX5_pathsAnswering 4 (z_rm 0 0) yd [.ref (ad 0), .int yx1] rr yd := by
  refine z_ofi (by decide) (Nat.le_of_ble_eq_true rfl) fun p e s m args below meth c Q hx hb hml hown hts hK hP hRet ls hl => ?_
  have hS : va_S A s.heap s.heap [] := va_S.rf
  have hl : lv_has ls 4 [(0, .ref (ad 0)), (1, .int yx1)] := hl
  have h : (z_br (z_lp (bX5_pathsAnswering_4 yd yx1) ((0 : Int32), (0 : Int32))) (fun t => match t with | yv5 => some yv5)) = some rr := h
  refine lv_iconst (v := (0 : Int32)) hx hb dX5_pathsAnswering_0 (by decide) ?_
  refine lv_istore_n (lv' := [(2, .int (0 : Int32)), (0, .ref (ad 0)), (1, .int yx1)]) hx hb dX5_pathsAnswering_1 rfl hl (by decide) rfl (fun ls hl => ?_)
  refine lv_iconst (v := (0 : Int32)) hx hb dX5_pathsAnswering_2 (by decide) ?_
  refine lv_istore_n (lv' := [(3, .int (0 : Int32)), (2, .int (0 : Int32)), (0, .ref (ad 0)), (1, .int yx1)]) hx hb dX5_pathsAnswering_3 rfl hl (by decide) rfl (fun ls hl => ?_)
  obtain ⟨yt4, hlp, h⟩ := z_brx h
  obtain ⟨yn4, hlp⟩ := z_lpx hlp
  have hE34 : ∀ (yv5 : Int32) (H : Heap) (locs : List Loc) (ls : Array Slot), yv5 = yt4 → va_P D vwCl (WC G ad yd) H → va_S A s.heap H locs → lv_has ls 4 [(2, .int yv5)] → W p l e (z_rm 0 0) s m args below meth c H locs 0 0 Q (F0 m 34 ls []) := by
    intro yv5 H locs ls et hP hS hl
    subst et
    have h : (some yv5) = some rr := h
    refine lv_iload_n hx hb dX5_pathsAnswering_34 rfl (lv_at hl 0 rfl) ?_
    exact hRet _ _ _ _ _ _ hP hS (z_pair h) dX5_pathsAnswering_35
  have hL4 : ∀ (n : Nat) (yv1 : Int32) (yv2 : Int32) (H : Heap) (locs : List Loc) (ls : Array Slot), z_it (bX5_pathsAnswering_4 yd yx1) n (yv1, yv2) = some yt4 → va_P D vwCl (WC G ad yd) H → va_S A s.heap H locs → lv_has ls 4 [(0, .ref (ad 0)), (1, .int yx1), (2, .int yv1), (3, .int yv2)] → W p l e (z_rm 0 0) s m args below meth c H locs 0 0 Q (F0 m 4 ls []) := by
    intro n
    induction n with
    | zero => intro yv1 yv2 H locs ls hn; exact z_it0 hn
    | succ n ih =>
      intro yv1 yv2 H locs ls hn hP hS hl
      obtain ⟨yq4, h, hq1, hq2⟩ := z_itx hn
      have h : (zif ((yd.1 1 2) ≤ yv2) (some (.inr yv1)) (z_gd (z_in yv2 5) (z_nm (yv1 + (((yd.1 71 (z_ix yv2)) >>> (yx1 &&& 31)) &&& (1 : Int32))) fun yv3 => z_nm (yv2 + (1 : Int32)) fun yv4 => some (.inl (yv3, yv4))))) = some yq4 := h
      refine lv_iload_n hx hb dX5_pathsAnswering_4 rfl (lv_at hl 3 rfl) ?_
      refine lv_aload_n hx hb dX5_pathsAnswering_5 rfl (lv_at hl 0 rfl) ?_
      refine gt_X5_0 hx hb hts hown hK hP (hts _ wl_1_175) dX5_pathsAnswering_6 ?_
      refine gt_X3_2 hx hb hts hown hK hP st_1 (hts _ wl_1_118) dX5_pathsAnswering_9 ?_
      refine lv_icmp_ge (tgt := 34) hx hb dX5_pathsAnswering_12 (by decide) (fun yc12 => ?_) (fun yc12 => ?_)
      · have h := z_ifp yc12 h
        exact hE34 _ _ _ _ (hq2 _ (z_sm h).symm) hP hS (lv_sub hl [2] rfl)
      · have h := z_ifn yc12 h
        refine lv_iload_n hx hb dX5_pathsAnswering_15 rfl (lv_at hl 2 rfl) ?_
        refine lv_aload_n hx hb dX5_pathsAnswering_16 rfl (lv_at hl 0 rfl) ?_
        refine gt_X5_11 hx hb hts hown hK hP (hts _ wl_1_186) dX5_pathsAnswering_17 ?_
        refine lv_iload_n hx hb dX5_pathsAnswering_20 rfl (lv_at hl 3 rfl) ?_
        obtain ⟨yg21, h⟩ := z_gi h
        refine al_C hx hb hK hP rfl (by decide) yg21 dX5_pathsAnswering_21 ?_
        refine lv_iload_n hx hb dX5_pathsAnswering_22 rfl (lv_at hl 1 rfl) ?_
        refine lv_ishr hx hb dX5_pathsAnswering_23 ?_
        refine lv_iconst (v := (1 : Int32)) hx hb dX5_pathsAnswering_24 (by decide) ?_
        refine lv_iand hx hb dX5_pathsAnswering_25 ?_
        refine lv_iadd hx hb dX5_pathsAnswering_26 ?_
        refine lv_topi (fun yv3 e_yv3 => ?_)
        have h := z_nma e_yv3 h
        refine lv_istore_n (lv' := [(2, .int yv3), (0, .ref (ad 0)), (1, .int yx1), (3, .int yv2)]) hx hb dX5_pathsAnswering_27 rfl hl (by decide) rfl (fun ls hl => ?_)
        obtain ⟨yv4, e_yv4, h⟩ := z_nmx h
        refine lv_iinc (v := yv4) (lv' := [(3, .int yv4), (2, .int yv3), (0, .ref (ad 0)), (1, .int yx1)]) hx hb dX5_pathsAnswering_28 hl (k := 3) rfl (by rw [e_yv4]; rfl) (by decide) rfl (fun ls hl => ?_)
        refine lv_goto (tgt := 4) hx hb dX5_pathsAnswering_31 (by decide) ?_
        exact ih _ _ _ _ _ (hq1 _ (z_sm h).symm) hP hS (lv_sub hl [2, 3, 1, 0] rfl)
  exact hL4 yn4 _ _ _ _ _ hlp hP hS (lv_sub hl [2, 3, 1, 0] rfl)
noncomputable def bX5_greatestDivisor_7 (s : Int32 × Int32 × Int32) : Option ((Int32 × Int32 × Int32) ⊕ (Int32)) := match s with
  | (yv1, yv2, yv3) => zif ((64 : Int32) ≤ yv3) (some (.inr yv1)) (zif (yv2 = 0) (some (.inr yv1)) (z_gd (z_dc (¬ yv2 = 0)) (z_nm (yv1 - yv1 / yv2 * yv2) fun yv4 => z_nm (yv3 + (1 : Int32)) fun yv5 => some (.inl (yv2, yv4, yv5)))))
noncomputable def fX5_greatestDivisor (yx0 : Int32) (yx1 : Int32) : Option Int32 :=
  z_br (z_lp (bX5_greatestDivisor_7) (yx0, yx1, (0 : Int32))) (fun t => match t with | yv6 => some yv6)
set_option maxHeartbeats 4000000 in
set_option maxRecDepth 100000 in
theorem kX5_greatestDivisor {l : Launch} {D : va_G} {G : z_G} {A : Nat → Prop} {w : Dt → va_W} {yd : Dt} {yx0 : Int32} {yx1 : Int32}  {rr : Int32} (h : fX5_greatestDivisor yx0 yx1 = some rr) : z_Mi l D G A (w) yX5_greatestDivisor cX5_greatestDivisor 6 (z_rm 0 0) yd [.int yx0, .int yx1] rr yd := by
  refine z_ofi (by decide) (Nat.le_of_ble_eq_true rfl) fun p e s m args below meth c Q hx hb hml hown hts hK hP hRet ls hl => ?_
  have hS : va_S A s.heap s.heap [] := va_S.rf
  have hl : lv_has ls 6 [(0, .int yx0), (1, .int yx1)] := hl
  have h : (z_br (z_lp (bX5_greatestDivisor_7) (yx0, yx1, (0 : Int32))) (fun t => match t with | yv6 => some yv6)) = some rr := h
  refine lv_iload_n hx hb dX5_greatestDivisor_0 rfl (lv_at hl 0 rfl) ?_
  refine lv_istore_n (lv' := [(2, .int yx0), (0, .int yx0), (1, .int yx1)]) hx hb dX5_greatestDivisor_1 rfl hl (by decide) rfl (fun ls hl => ?_)
  refine lv_iload_n hx hb dX5_greatestDivisor_2 rfl (lv_at hl 2 rfl) ?_
  refine lv_istore_n (lv' := [(3, .int yx1), (2, .int yx0), (0, .int yx0), (1, .int yx1)]) hx hb dX5_greatestDivisor_3 rfl hl (by decide) rfl (fun ls hl => ?_)
  refine lv_iconst (v := (0 : Int32)) hx hb dX5_greatestDivisor_4 (by decide) ?_
  refine lv_istore (lv' := [(4, .int (0 : Int32)), (3, .int yx1), (2, .int yx0), (0, .int yx0), (1, .int yx1)]) hx hb dX5_greatestDivisor_5 hl (by decide) rfl (fun ls hl => ?_)
  obtain ⟨yt7, hlp, h⟩ := z_brx h
  obtain ⟨yn7, hlp⟩ := z_lpx hlp
  have hE34 : ∀ (yv6 : Int32) (H : Heap) (locs : List Loc) (ls : Array Slot), yv6 = yt7 → va_P D vwCl (w yd) H → va_S A s.heap H locs → lv_has ls 6 [(2, .int yv6)] → W p l e (z_rm 0 0) s m args below meth c H locs 0 0 Q (F0 m 34 ls []) := by
    intro yv6 H locs ls et hP hS hl
    subst et
    have h : (some yv6) = some rr := h
    refine lv_iload_n hx hb dX5_greatestDivisor_34 rfl (lv_at hl 0 rfl) ?_
    exact hRet _ _ _ _ _ _ hP hS (z_pair h) dX5_greatestDivisor_35
  have hL7 : ∀ (n : Nat) (yv1 : Int32) (yv2 : Int32) (yv3 : Int32) (H : Heap) (locs : List Loc) (ls : Array Slot), z_it (bX5_greatestDivisor_7) n (yv1, yv2, yv3) = some yt7 → va_P D vwCl (w yd) H → va_S A s.heap H locs → lv_has ls 6 [(2, .int yv1), (3, .int yv2), (4, .int yv3)] → W p l e (z_rm 0 0) s m args below meth c H locs 0 0 Q (F0 m 7 ls []) := by
    intro n
    induction n with
    | zero => intro yv1 yv2 yv3 H locs ls hn; exact z_it0 hn
    | succ n ih =>
      intro yv1 yv2 yv3 H locs ls hn hP hS hl
      obtain ⟨yq7, h, hq1, hq2⟩ := z_itx hn
      have h : (zif ((64 : Int32) ≤ yv3) (some (.inr yv1)) (zif (yv2 = 0) (some (.inr yv1)) (z_gd (z_dc (¬ yv2 = 0)) (z_nm (yv1 - yv1 / yv2 * yv2) fun yv4 => z_nm (yv3 + (1 : Int32)) fun yv5 => some (.inl (yv2, yv4, yv5)))))) = some yq7 := h
      refine lv_iload hx hb dX5_greatestDivisor_7 (lv_at hl 2 rfl) ?_
      refine lv_bipush (v := (64 : Int32)) hx hb dX5_greatestDivisor_9 (by decide) ?_
      refine lv_icmp_ge (tgt := 34) hx hb dX5_greatestDivisor_11 (by decide) (fun yc11 => ?_) (fun yc11 => ?_)
      · have h := z_ifp yc11 h
        exact hE34 _ _ _ _ (hq2 _ (z_sm h).symm) hP hS (lv_sub hl [0] rfl)
      · have h := z_ifn yc11 h
        refine lv_iload_n hx hb dX5_greatestDivisor_14 rfl (lv_at hl 1 rfl) ?_
        refine lv_if_eq (tgt := 34) hx hb dX5_greatestDivisor_15 (by decide) (fun yc15 => ?_) (fun yc15 => ?_)
        · have h := z_ifp yc15 h
          exact hE34 _ _ _ _ (hq2 _ (z_sm h).symm) hP hS (lv_sub hl [0] rfl)
        · have h := z_ifn yc15 h
          refine lv_iload_n hx hb dX5_greatestDivisor_18 rfl (lv_at hl 0 rfl) ?_
          refine lv_iload_n hx hb dX5_greatestDivisor_19 rfl (lv_at hl 1 rfl) ?_
          obtain ⟨yg20, h⟩ := z_gp h
          refine lv_irem hx hb dX5_greatestDivisor_20 yg20 ?_
          refine lv_topi (fun yv4 e_yv4 => ?_)
          have h := z_nma e_yv4 h
          refine lv_istore (lv' := [(5, .int yv4), (2, .int yv1), (3, .int yv2), (4, .int yv3)]) hx hb dX5_greatestDivisor_21 hl (by decide) rfl (fun ls hl => ?_)
          refine lv_iload_n hx hb dX5_greatestDivisor_23 rfl (lv_at hl 2 rfl) ?_
          refine lv_istore_n (lv' := [(2, .int yv2), (5, .int yv4), (3, .int yv2), (4, .int yv3)]) hx hb dX5_greatestDivisor_24 rfl hl (by decide) rfl (fun ls hl => ?_)
          refine lv_iload hx hb dX5_greatestDivisor_25 (lv_at hl 1 rfl) ?_
          refine lv_istore_n (lv' := [(3, .int yv4), (2, .int yv2), (5, .int yv4), (4, .int yv3)]) hx hb dX5_greatestDivisor_27 rfl hl (by decide) rfl (fun ls hl => ?_)
          obtain ⟨yv5, e_yv5, h⟩ := z_nmx h
          refine lv_iinc (v := yv5) (lv' := [(4, .int yv5), (3, .int yv4), (2, .int yv2), (5, .int yv4)]) hx hb dX5_greatestDivisor_28 hl (k := 3) rfl (by rw [e_yv5]; rfl) (by decide) rfl (fun ls hl => ?_)
          refine lv_goto (tgt := 7) hx hb dX5_greatestDivisor_31 (by decide) ?_
          exact ih _ _ _ _ _ _ (hq1 _ (z_sm h).symm) hP hS (lv_sub hl [2, 1, 0] rfl)
  exact hL7 yn7 _ _ _ _ _ _ hlp hP hS (lv_sub hl [2, 1, 0] rfl)
noncomputable def fX5_inLowestTerms (yx0 : Int32) (yx1 : Int32) (yx2 : Int32) : Option Int32 :=
  z_br (fX5_greatestDivisor yx0 yx1) fun yr1 => z_nm (zif (yx2 = 0) yx1 yx0) fun yv2 => zif (yr1 ≤ 0) (some yv2) (z_gd (z_dc (¬ yr1 = 0)) (some (yv2 / yr1)))
set_option maxHeartbeats 4000000 in
set_option maxRecDepth 100000 in
theorem kX5_inLowestTerms {l : Launch} {D : va_G} {G : z_G} {A : Nat → Prop} {w : Dt → va_W} {yd : Dt} {yx0 : Int32} {yx1 : Int32} {yx2 : Int32} (z_yx2 : yx2 = 0 ∨ yx2 = 1) {rr : Int32} (h : fX5_inLowestTerms yx0 yx1 yx2 = some rr) : z_Mi l D G A (w) yX5_inLowestTerms cX5_inLowestTerms 5 (z_rm 1 25) yd [.int yx0, .int yx1, .int yx2] rr yd := by
  refine z_ofi (by decide) (Nat.le_of_ble_eq_true rfl) fun p e s m args below meth c Q hx hb hml hown hts hK hP hRet ls hl => ?_
  have hS : va_S A s.heap s.heap [] := va_S.rf
  have hl : lv_has ls 5 [(0, .int yx0), (1, .int yx1), (2, .int yx2)] := hl
  have h : (z_br (fX5_greatestDivisor yx0 yx1) fun yr1 => z_nm (zif (yx2 = 0) yx1 yx0) fun yv2 => zif (yr1 ≤ 0) (some yv2) (z_gd (z_dc (¬ yr1 = 0)) (some (yv2 / yr1)))) = some rr := h
  refine lv_iload_n hx hb dX5_inLowestTerms_0 rfl (lv_at hl 0 rfl) ?_
  refine lv_iload_n hx hb dX5_inLowestTerms_1 rfl (lv_at hl 1 rfl) ?_
  obtain ⟨yr1, yhc2, h⟩ := z_brx h
  refine z_ki (z_rS (As := [.int yx0, .int yx1]) (rest := []) ⟨hx, hb, hml, hown, hts⟩ hK hP (kX5_greatestDivisor yhc2) giX5_283 ⟨rfl, rfl⟩ ndX5_greatestDivisor ⟨Nat.le_of_ble_eq_true rfl, Nat.le_of_ble_eq_true rfl⟩ rfl hl.1 rfl (Nat.le_of_ble_eq_true rfl) ⟨Nat.le_refl _, Nat.le_refl _⟩ dX5_inLowestTerms_2) hS (fun H locs hP hS => ?_)
  refine lv_istore_n (lv' := [(3, .int yr1), (0, .int yx0), (1, .int yx1), (2, .int yx2)]) hx hb dX5_inLowestTerms_5 rfl hl (by decide) rfl (fun ls hl => ?_)
  refine lv_iload_n hx hb dX5_inLowestTerms_6 rfl (lv_at hl 3 rfl) ?_
  have hM15 : ∀ (yv2 : Int32) (H : Heap) (locs : List Loc), yv2 = (zif (yx2 = 0) yx1 yx0) → va_P D vwCl (w yd) H → va_S A s.heap H locs → W p l e (z_rm 1 25) s m args below meth c H locs 0 0 Q (F0 m 15 ls [.int yv2]) := by
    intro yv2 H locs e_yv2 hP hS
    have h := z_nma e_yv2 h
    refine lv_istore (lv' := [(4, .int yv2), (3, .int yr1), (0, .int yx0), (1, .int yx1), (2, .int yx2)]) hx hb dX5_inLowestTerms_15 hl (by decide) rfl (fun ls hl => ?_)
    refine lv_iload_n hx hb dX5_inLowestTerms_17 rfl (lv_at hl 1 rfl) ?_
    refine lv_if_le (tgt := 28) hx hb dX5_inLowestTerms_18 (by decide) (fun yc18 => ?_) (fun yc18 => ?_)
    · have h := z_ifp yc18 h
      refine lv_iload hx hb dX5_inLowestTerms_28 (lv_at hl 0 rfl) ?_
      exact hRet _ _ _ _ _ _ hP hS (z_pair h) dX5_inLowestTerms_30
    · have h := z_ifn yc18 h
      refine lv_iload hx hb dX5_inLowestTerms_21 (lv_at hl 0 rfl) ?_
      refine lv_iload_n hx hb dX5_inLowestTerms_23 rfl (lv_at hl 1 rfl) ?_
      obtain ⟨yg24, h⟩ := z_gp h
      refine lv_idiv hx hb dX5_inLowestTerms_24 yg24 ?_
      refine lv_goto (tgt := 30) hx hb dX5_inLowestTerms_25 (by decide) ?_
      exact hRet _ _ _ _ _ _ hP hS (z_pair h) dX5_inLowestTerms_30
  refine lv_if_eq (tgt := 14) hx hb dX5_inLowestTerms_7 (by decide) (fun yc7 => ?_) (fun yc7 => ?_)
  · refine lv_iload_n hx hb dX5_inLowestTerms_14 rfl (lv_at hl 2 rfl) ?_
    exact hM15 _ _ _ (z_tp yc7 rfl) hP hS
  · refine lv_iload_n hx hb dX5_inLowestTerms_10 rfl (lv_at hl 1 rfl) ?_
    refine lv_goto (tgt := 15) hx hb dX5_inLowestTerms_11 (by decide) ?_
    exact hM15 _ _ _ (z_tn yc7 rfl) hP hS
noncomputable def jX5_share_69 (yv4 : Int32) (yv6 : Int32) : Option ((Int32 × Int32) ⊕ (Int32)) :=
  z_nm (yv4 + (1 : Int32)) fun yv7 => some (.inl (yv6, yv7))
noncomputable def bX5_share_19 (yd2 : Dt) (yx1 : Int32) (s : Int32 × Int32) : Option ((Int32 × Int32) ⊕ (Int32)) := match s with
  | (yv3, yv4) => zif ((yd2.1 2 6) ≤ yv4) (some (.inr yv3)) (z_br (fX5_pathsAnswering yd2 yv4) fun yr5 => z_gd (z_in yx1 5) (zif ((((yd2.1 71 (z_ix yx1)) >>> (yv4 &&& 31)) &&& (1 : Int32)) = 0) (jX5_share_69 yv4 yv3) (zif (yr5 ≤ 0) (jX5_share_69 yv4 yv3) (z_gd (z_dc (¬ yr5 = 0)) (z_nm (yv3 + ((60 : Int32) / yr5)) fun yv8 => jX5_share_69 yv4 yv8)))))
noncomputable def fX5_share (yd : Dt) (yx1 : Int32) (yx2 : Int32) : Option (Int32 × Dt) :=
  z_br (fX5_isPath yd yx1) fun yr1 => zif (yr1 = 0) (some ((-1 : Int32), yd)) (z_br (fX5_findAnswerSets yd) fun yd2 => z_br (z_lp (bX5_share_19 yd2 yx1) ((0 : Int32), (0 : Int32))) (fun t => match t with | yv9 => z_br (fX5_inLowestTerms yv9 (60 : Int32) yx2) fun yr10 => some (yr10, yd2)))
set_option maxHeartbeats 4000000 in
set_option maxRecDepth 100000 in
theorem kX5_share {l : Launch} {D : va_G} {G : z_G} {ad : Nat → Nat} {A : Nat → Prop} (hI : ∀ d, va_D A (WC G ad d)) {yd : Dt} {yx1 : Int32} {yx2 : Int32} (z_yx2 : yx2 = 0 ∨ yx2 = 1) {rr : Int32} {dd : Dt} (h : fX5_share yd yx1 yx2 = some (rr, dd)) : z_Mi l D G A (WC G ad) yX5_share cX5_share 6 (z_rm 5 126) yd [.ref (ad 0), .int yx1, .int yx2] rr dd := by
  refine z_ofi (by decide) (Nat.le_of_ble_eq_true rfl) fun p e s m args below meth c Q hx hb hml hown hts hK hP hRet ls hl => ?_
  have hS : va_S A s.heap s.heap [] := va_S.rf
  have hl : lv_has ls 6 [(0, .ref (ad 0)), (1, .int yx1), (2, .int yx2)] := hl
  have h : (z_br (fX5_isPath yd yx1) fun yr1 => zif (yr1 = 0) (some ((-1 : Int32), yd)) (z_br (fX5_findAnswerSets yd) fun yd2 => z_br (z_lp (bX5_share_19 yd2 yx1) ((0 : Int32), (0 : Int32))) (fun t => match t with | yv9 => z_br (fX5_inLowestTerms yv9 (60 : Int32) yx2) fun yr10 => some (yr10, yd2)))) = some (rr, dd) := h
  refine lv_aload_n hx hb dX5_share_0 rfl (lv_at hl 0 rfl) ?_
  refine lv_iload_n hx hb dX5_share_1 rfl (lv_at hl 1 rfl) ?_
  obtain ⟨yr1, yhc2, h⟩ := z_brx h
  refine z_kz (z_rV (As := [.int yx1]) (rest := []) ⟨hx, hb, hml, hown, hts⟩ hK hP w_X5 rfl (kX5_isPath hI yhc2) giX5_129 ⟨rfl, rfl⟩ ndX5_isPath ⟨Nat.le_of_ble_eq_true rfl, Nat.le_of_ble_eq_true rfl⟩ rfl hl.1 rfl (Nat.le_of_ble_eq_true rfl) ⟨Nat.le_refl _, Nat.le_refl _⟩ dX5_share_2) hS (fun H locs z_yr1 hP hS => ?_)
  refine lv_if_ne (tgt := 10) hx hb dX5_share_5 (by decide) (fun yc5 => ?_) (fun yc5 => ?_)
  · have h := z_ifn yc5 h
    refine lv_aload_n hx hb dX5_share_10 rfl (lv_at hl 0 rfl) ?_
    obtain ⟨yd2, yhc11, h⟩ := z_brx h
    refine z_kv (z_rV (As := []) (rest := []) ⟨hx, hb, hml, hown, hts⟩ hK hP w_X5 rfl (kX5_findAnswerSets hI yhc11) giX5_219 ⟨rfl, rfl⟩ ndX5_findAnswerSets ⟨Nat.le_of_ble_eq_true rfl, Nat.le_of_ble_eq_true rfl⟩ rfl hl.1 rfl (Nat.le_of_ble_eq_true rfl) ⟨Nat.le_refl _, Nat.le_refl _⟩ dX5_share_11) hS (fun H locs hP hS => ?_)
    refine lv_iconst (v := (0 : Int32)) hx hb dX5_share_14 (by decide) ?_
    refine lv_istore_n (lv' := [(3, .int (0 : Int32)), (0, .ref (ad 0)), (1, .int yx1), (2, .int yx2)]) hx hb dX5_share_15 rfl hl (by decide) rfl (fun ls hl => ?_)
    refine lv_iconst (v := (0 : Int32)) hx hb dX5_share_16 (by decide) ?_
    refine lv_istore (lv' := [(4, .int (0 : Int32)), (3, .int (0 : Int32)), (0, .ref (ad 0)), (1, .int yx1), (2, .int yx2)]) hx hb dX5_share_17 hl (by decide) rfl (fun ls hl => ?_)
    obtain ⟨yt19, hlp, h⟩ := z_brx h
    obtain ⟨yn19, hlp⟩ := z_lpx hlp
    have hE75 : ∀ (yv9 : Int32) (H : Heap) (locs : List Loc) (ls : Array Slot), yv9 = yt19 → va_P D vwCl (WC G ad yd2) H → va_S A s.heap H locs → lv_has ls 6 [(2, .int yx2), (3, .int yv9)] → W p l e (z_rm 5 126) s m args below meth c H locs 0 0 Q (F0 m 75 ls []) := by
      intro yv9 H locs ls et hP hS hl
      subst et
      have h : (z_br (fX5_inLowestTerms yv9 (60 : Int32) yx2) fun yr10 => some (yr10, yd2)) = some (rr, dd) := h
      refine lv_iload_n hx hb dX5_share_75 rfl (lv_at hl 1 rfl) ?_
      refine lv_bipush (v := (60 : Int32)) hx hb dX5_share_76 (by decide) ?_
      refine lv_iload_n hx hb dX5_share_78 rfl (lv_at hl 0 rfl) ?_
      obtain ⟨yr10, yhc79, h⟩ := z_brx h
      refine z_ki (z_rS (As := [.int yv9, .int (60 : Int32), .int yx2]) (rest := []) ⟨hx, hb, hml, hown, hts⟩ hK hP (kX5_inLowestTerms z_yx2 yhc79) giX5_226 ⟨rfl, rfl⟩ ndX5_inLowestTerms ⟨Nat.le_of_ble_eq_true rfl, Nat.le_of_ble_eq_true rfl⟩ rfl hl.1 rfl (Nat.le_of_ble_eq_true rfl) ⟨Nat.le_refl _, Nat.le_refl _⟩ dX5_share_79) hS (fun H locs hP hS => ?_)
      exact hRet _ _ _ _ _ _ hP hS h dX5_share_82
    have hL19 : ∀ (n : Nat) (yv3 : Int32) (yv4 : Int32) (H : Heap) (locs : List Loc) (ls : Array Slot), z_it (bX5_share_19 yd2 yx1) n (yv3, yv4) = some yt19 → va_P D vwCl (WC G ad yd2) H → va_S A s.heap H locs → lv_has ls 6 [(0, .ref (ad 0)), (1, .int yx1), (2, .int yx2), (3, .int yv3), (4, .int yv4)] → W p l e (z_rm 5 126) s m args below meth c H locs 0 0 Q (F0 m 19 ls []) := by
      intro n
      induction n with
      | zero => intro yv3 yv4 H locs ls hn; exact z_it0 hn
      | succ n ih =>
        intro yv3 yv4 H locs ls hn hP hS hl
        obtain ⟨yq19, h, hq1, hq2⟩ := z_itx hn
        have h : (zif ((yd2.1 2 6) ≤ yv4) (some (.inr yv3)) (z_br (fX5_pathsAnswering yd2 yv4) fun yr5 => z_gd (z_in yx1 5) (zif ((((yd2.1 71 (z_ix yx1)) >>> (yv4 &&& 31)) &&& (1 : Int32)) = 0) (jX5_share_69 yv4 yv3) (zif (yr5 ≤ 0) (jX5_share_69 yv4 yv3) (z_gd (z_dc (¬ yr5 = 0)) (z_nm (yv3 + ((60 : Int32) / yr5)) fun yv8 => jX5_share_69 yv4 yv8)))))) = some yq19 := h
        refine lv_iload hx hb dX5_share_19 (lv_at hl 4 rfl) ?_
        refine lv_aload_n hx hb dX5_share_21 rfl (lv_at hl 0 rfl) ?_
        refine gt_X5_0 hx hb hts hown hK hP (hts _ wl_1_175) dX5_share_22 ?_
        refine gt_X3_0 hx hb hts hown hK hP st_1 (hts _ wl_1_114) dX5_share_25 ?_
        refine gt_X0_6 hx hb hts hown hK hP (el_st st_1) (hts _ wl_1_48) dX5_share_28 ?_
        refine lv_icmp_ge (tgt := 75) hx hb dX5_share_31 (by decide) (fun yc31 => ?_) (fun yc31 => ?_)
        · have h := z_ifp yc31 h
          exact hE75 _ _ _ _ (hq2 _ (z_sm h).symm) hP hS (lv_sub hl [2, 3] rfl)
        · have h := z_ifn yc31 h
          refine lv_aload_n hx hb dX5_share_34 rfl (lv_at hl 0 rfl) ?_
          refine lv_iload hx hb dX5_share_35 (lv_at hl 4 rfl) ?_
          obtain ⟨yr5, yhc37, h⟩ := z_brx h
          refine z_ki (z_rV (As := [.int yv4]) (rest := []) ⟨hx, hb, hml, hown, hts⟩ hK hP w_X5 rfl (kX5_pathsAnswering hI yhc37) giX5_222 ⟨rfl, rfl⟩ ndX5_pathsAnswering ⟨Nat.le_of_ble_eq_true rfl, Nat.le_of_ble_eq_true rfl⟩ rfl hl.1 rfl (Nat.le_of_ble_eq_true rfl) ⟨Nat.le_refl _, Nat.le_refl _⟩ dX5_share_37) hS (fun H locs hP hS => ?_)
          refine lv_istore (lv' := [(5, .int yr5), (0, .ref (ad 0)), (1, .int yx1), (2, .int yx2), (3, .int yv3), (4, .int yv4)]) hx hb dX5_share_40 hl (by decide) rfl (fun ls hl => ?_)
          refine lv_aload_n hx hb dX5_share_42 rfl (lv_at hl 1 rfl) ?_
          refine gt_X5_11 hx hb hts hown hK hP (hts _ wl_1_186) dX5_share_43 ?_
          refine lv_iload_n hx hb dX5_share_46 rfl (lv_at hl 2 rfl) ?_
          obtain ⟨yg47, h⟩ := z_gi h
          refine al_C hx hb hK hP rfl (by decide) yg47 dX5_share_47 ?_
          refine lv_iload hx hb dX5_share_48 (lv_at hl 5 rfl) ?_
          refine lv_ishr hx hb dX5_share_50 ?_
          refine lv_iconst (v := (1 : Int32)) hx hb dX5_share_51 (by decide) ?_
          refine lv_iand hx hb dX5_share_52 ?_
          have hJ69 : ∀ (yv6 : Int32) (H : Heap) (locs : List Loc) (ls : Array Slot), jX5_share_69 yv4 yv6 = some yq19 → va_P D vwCl (WC G ad yd2) H → va_S A s.heap H locs → lv_has ls 6 [(0, .ref (ad 0)), (1, .int yx1), (2, .int yx2), (3, .int yv6), (4, .int yv4)] → W p l e (z_rm 5 126) s m args below meth c H locs 0 0 Q (F0 m 69 ls []) := by
            intro yv6 H locs ls h hP hS hl
            have h : (z_nm (yv4 + (1 : Int32)) fun yv7 => some (.inl (yv6, yv7))) = some yq19 := h
            obtain ⟨yv7, e_yv7, h⟩ := z_nmx h
            refine lv_iinc (v := yv7) (lv' := [(4, .int yv7), (0, .ref (ad 0)), (1, .int yx1), (2, .int yx2), (3, .int yv6)]) hx hb dX5_share_69 hl (k := 4) rfl (by rw [e_yv7]; rfl) (by decide) rfl (fun ls hl => ?_)
            refine lv_goto (tgt := 19) hx hb dX5_share_72 (by decide) ?_
            exact ih _ _ _ _ _ (hq1 _ (z_sm h).symm) hP hS (lv_sub hl [1, 2, 3, 4, 0] rfl)
          refine lv_if_eq (tgt := 69) hx hb dX5_share_53 (by decide) (fun yc53 => ?_) (fun yc53 => ?_)
          · have h := z_ifp yc53 h
            exact hJ69 _ _ _ _ h hP hS (lv_sub hl [1, 2, 3, 4, 5] rfl)
          · have h := z_ifn yc53 h
            refine lv_iload hx hb dX5_share_56 (lv_at hl 0 rfl) ?_
            refine lv_if_le (tgt := 69) hx hb dX5_share_58 (by decide) (fun yc58 => ?_) (fun yc58 => ?_)
            · have h := z_ifp yc58 h
              exact hJ69 _ _ _ _ h hP hS (lv_sub hl [1, 2, 3, 4, 5] rfl)
            · have h := z_ifn yc58 h
              refine lv_iload_n hx hb dX5_share_61 rfl (lv_at hl 4 rfl) ?_
              refine lv_bipush (v := (60 : Int32)) hx hb dX5_share_62 (by decide) ?_
              refine lv_iload hx hb dX5_share_64 (lv_at hl 0 rfl) ?_
              obtain ⟨yg66, h⟩ := z_gp h
              refine lv_idiv hx hb dX5_share_66 yg66 ?_
              refine lv_iadd hx hb dX5_share_67 ?_
              refine lv_topi (fun yv8 e_yv8 => ?_)
              have h := z_nma e_yv8 h
              refine lv_istore_n (lv' := [(3, .int yv8), (5, .int yr5), (0, .ref (ad 0)), (1, .int yx1), (2, .int yx2), (4, .int yv4)]) hx hb dX5_share_68 rfl hl (by decide) rfl (fun ls hl => ?_)
              exact hJ69 _ _ _ _ h hP hS (lv_sub hl [2, 3, 4, 0, 5] rfl)
    exact hL19 yn19 _ _ _ _ _ hlp hP hS (lv_sub hl [2, 3, 4, 1, 0] rfl)
  · have h := z_ifp yc5 h
    refine lv_iconst (v := (-1 : Int32)) hx hb dX5_share_8 (by decide) ?_
    exact hRet _ _ _ _ _ _ hP hS h dX5_share_9
noncomputable def bX5_weightOf_5 (yd : Dt) (yx1 : Int32) (yx2 : Int32) (s : Int32 × Int32) : Option ((Int32 × Int32) ⊕ (Int32)) := match s with
  | (yv1, yv2) => zif ((yd.1 1 2) ≤ yv2) (some (.inr yv1)) (z_nm (zif (((yx1 >>> (yv2 &&& 31)) &&& (1 : Int32)) = 0) yx2 ((10 : Int32) - yx2)) fun yv3 => z_nm (yv1 * yv3) fun yv4 => z_nm (yv2 + (1 : Int32)) fun yv5 => some (.inl (yv4, yv5)))
noncomputable def fX5_weightOf (yd : Dt) (yx1 : Int32) (yx2 : Int32) : Option Int32 :=
  z_br (z_lp (bX5_weightOf_5 yd yx1 yx2) ((1 : Int32), (0 : Int32))) (fun t => match t with | yv6 => some yv6)
set_option maxHeartbeats 4000000 in
set_option maxRecDepth 100000 in
theorem kX5_weightOf {l : Launch} {D : va_G} {G : z_G} {ad : Nat → Nat} {A : Nat → Prop} (hI : ∀ d, va_D A (WC G ad d)) {yd : Dt} {yx1 : Int32} {yx2 : Int32}  {rr : Int32} (h : fX5_weightOf yd yx1 yx2 = some rr) : z_Mi l D G A (WC G ad) yX5_weightOf cX5_weightOf 5 (z_rm 0 0) yd [.ref (ad 0), .int yx1, .int yx2] rr yd := by
  refine z_ofi (by decide) (Nat.le_of_ble_eq_true rfl) fun p e s m args below meth c Q hx hb hml hown hts hK hP hRet ls hl => ?_
  have hS : va_S A s.heap s.heap [] := va_S.rf
  have hl : lv_has ls 5 [(0, .ref (ad 0)), (1, .int yx1), (2, .int yx2)] := hl
  have h : (z_br (z_lp (bX5_weightOf_5 yd yx1 yx2) ((1 : Int32), (0 : Int32))) (fun t => match t with | yv6 => some yv6)) = some rr := h
  refine lv_iconst (v := (1 : Int32)) hx hb dX5_weightOf_0 (by decide) ?_
  refine lv_istore_n (lv' := [(3, .int (1 : Int32)), (0, .ref (ad 0)), (1, .int yx1), (2, .int yx2)]) hx hb dX5_weightOf_1 rfl hl (by decide) rfl (fun ls hl => ?_)
  refine lv_iconst (v := (0 : Int32)) hx hb dX5_weightOf_2 (by decide) ?_
  refine lv_istore (lv' := [(4, .int (0 : Int32)), (3, .int (1 : Int32)), (0, .ref (ad 0)), (1, .int yx1), (2, .int yx2)]) hx hb dX5_weightOf_3 hl (by decide) rfl (fun ls hl => ?_)
  obtain ⟨yt5, hlp, h⟩ := z_brx h
  obtain ⟨yn5, hlp⟩ := z_lpx hlp
  have hE43 : ∀ (yv6 : Int32) (H : Heap) (locs : List Loc) (ls : Array Slot), yv6 = yt5 → va_P D vwCl (WC G ad yd) H → va_S A s.heap H locs → lv_has ls 5 [(3, .int yv6)] → W p l e (z_rm 0 0) s m args below meth c H locs 0 0 Q (F0 m 43 ls []) := by
    intro yv6 H locs ls et hP hS hl
    subst et
    have h : (some yv6) = some rr := h
    refine lv_iload_n hx hb dX5_weightOf_43 rfl (lv_at hl 0 rfl) ?_
    exact hRet _ _ _ _ _ _ hP hS (z_pair h) dX5_weightOf_44
  have hL5 : ∀ (n : Nat) (yv1 : Int32) (yv2 : Int32) (H : Heap) (locs : List Loc) (ls : Array Slot), z_it (bX5_weightOf_5 yd yx1 yx2) n (yv1, yv2) = some yt5 → va_P D vwCl (WC G ad yd) H → va_S A s.heap H locs → lv_has ls 5 [(0, .ref (ad 0)), (1, .int yx1), (2, .int yx2), (3, .int yv1), (4, .int yv2)] → W p l e (z_rm 0 0) s m args below meth c H locs 0 0 Q (F0 m 5 ls []) := by
    intro n
    induction n with
    | zero => intro yv1 yv2 H locs ls hn; exact z_it0 hn
    | succ n ih =>
      intro yv1 yv2 H locs ls hn hP hS hl
      obtain ⟨yq5, h, hq1, hq2⟩ := z_itx hn
      have h : (zif ((yd.1 1 2) ≤ yv2) (some (.inr yv1)) (z_nm (zif (((yx1 >>> (yv2 &&& 31)) &&& (1 : Int32)) = 0) yx2 ((10 : Int32) - yx2)) fun yv3 => z_nm (yv1 * yv3) fun yv4 => z_nm (yv2 + (1 : Int32)) fun yv5 => some (.inl (yv4, yv5)))) = some yq5 := h
      refine lv_iload hx hb dX5_weightOf_5 (lv_at hl 4 rfl) ?_
      refine lv_aload_n hx hb dX5_weightOf_7 rfl (lv_at hl 0 rfl) ?_
      refine gt_X5_0 hx hb hts hown hK hP (hts _ wl_1_175) dX5_weightOf_8 ?_
      refine gt_X3_2 hx hb hts hown hK hP st_1 (hts _ wl_1_118) dX5_weightOf_11 ?_
      refine lv_icmp_ge (tgt := 43) hx hb dX5_weightOf_14 (by decide) (fun yc14 => ?_) (fun yc14 => ?_)
      · have h := z_ifp yc14 h
        exact hE43 _ _ _ _ (hq2 _ (z_sm h).symm) hP hS (lv_sub hl [3] rfl)
      · have h := z_ifn yc14 h
        refine lv_iload_n hx hb dX5_weightOf_17 rfl (lv_at hl 3 rfl) ?_
        refine lv_iload_n hx hb dX5_weightOf_18 rfl (lv_at hl 1 rfl) ?_
        refine lv_iload hx hb dX5_weightOf_19 (lv_at hl 4 rfl) ?_
        refine lv_ishr hx hb dX5_weightOf_21 ?_
        refine lv_iconst (v := (1 : Int32)) hx hb dX5_weightOf_22 (by decide) ?_
        refine lv_iand hx hb dX5_weightOf_23 ?_
        have hM35 : ∀ (yv3 : Int32) (H : Heap) (locs : List Loc), yv3 = (zif (((yx1 >>> (yv2 &&& 31)) &&& (1 : Int32)) = 0) yx2 ((10 : Int32) - yx2)) → va_P D vwCl (WC G ad yd) H → va_S A s.heap H locs → W p l e (z_rm 0 0) s m args below meth c H locs 0 0 Q (F0 m 35 ls [.int yv3, .int yv1]) := by
          intro yv3 H locs e_yv3 hP hS
          have h := z_nma e_yv3 h
          refine lv_imul hx hb dX5_weightOf_35 ?_
          refine lv_topi (fun yv4 e_yv4 => ?_)
          have h := z_nma e_yv4 h
          refine lv_istore_n (lv' := [(3, .int yv4), (0, .ref (ad 0)), (1, .int yx1), (2, .int yx2), (4, .int yv2)]) hx hb dX5_weightOf_36 rfl hl (by decide) rfl (fun ls hl => ?_)
          obtain ⟨yv5, e_yv5, h⟩ := z_nmx h
          refine lv_iinc (v := yv5) (lv' := [(4, .int yv5), (3, .int yv4), (0, .ref (ad 0)), (1, .int yx1), (2, .int yx2)]) hx hb dX5_weightOf_37 hl (k := 4) rfl (by rw [e_yv5]; rfl) (by decide) rfl (fun ls hl => ?_)
          refine lv_goto (tgt := 5) hx hb dX5_weightOf_40 (by decide) ?_
          exact ih _ _ _ _ _ (hq1 _ (z_sm h).symm) hP hS (lv_sub hl [2, 3, 4, 1, 0] rfl)
        refine lv_if_eq (tgt := 34) hx hb dX5_weightOf_24 (by decide) (fun yc24 => ?_) (fun yc24 => ?_)
        · refine lv_iload_n hx hb dX5_weightOf_34 rfl (lv_at hl 2 rfl) ?_
          exact hM35 _ _ _ (z_tp yc24 rfl) hP hS
        · refine lv_bipush (v := (10 : Int32)) hx hb dX5_weightOf_27 (by decide) ?_
          refine lv_iload_n hx hb dX5_weightOf_29 rfl (lv_at hl 2 rfl) ?_
          refine lv_isub hx hb dX5_weightOf_30 ?_
          refine lv_goto (tgt := 35) hx hb dX5_weightOf_31 (by decide) ?_
          exact hM35 _ _ _ (z_tn yc24 rfl) hP hS
  exact hL5 yn5 _ _ _ _ _ hlp hP hS (lv_sub hl [2, 3, 4, 1, 0] rfl)
noncomputable def jX5_answersOfAny_32 (yv2 : Int32) (yv3 : Int32) : Option ((Int32 × Int32) ⊕ (Int32)) :=
  z_nm (yv2 + (1 : Int32)) fun yv4 => some (.inl (yv3, yv4))
noncomputable def bX5_answersOfAny_4 (yd : Dt) (yx1 : Int32) (s : Int32 × Int32) : Option ((Int32 × Int32) ⊕ (Int32)) := match s with
  | (yv1, yv2) => zif ((yd.1 1 2) ≤ yv2) (some (.inr yv1)) (zif (((yx1 >>> (yv2 &&& 31)) &&& (1 : Int32)) = 0) (jX5_answersOfAny_32 yv2 yv1) (z_gd (z_in yv2 5) (z_nm (yv1 ||| (yd.1 71 (z_ix yv2))) fun yv5 => jX5_answersOfAny_32 yv2 yv5)))
noncomputable def fX5_answersOfAny (yd : Dt) (yx1 : Int32) : Option Int32 :=
  z_br (z_lp (bX5_answersOfAny_4 yd yx1) ((0 : Int32), (0 : Int32))) (fun t => match t with | yv6 => some yv6)
set_option maxHeartbeats 4000000 in
set_option maxRecDepth 100000 in
theorem kX5_answersOfAny {l : Launch} {D : va_G} {G : z_G} {ad : Nat → Nat} {A : Nat → Prop} (hI : ∀ d, va_D A (WC G ad d)) {yd : Dt} {yx1 : Int32}  {rr : Int32} (h : fX5_answersOfAny yd yx1 = some rr) : z_Mi l D G A (WC G ad) yX5_answersOfAny cX5_answersOfAny 4 (z_rm 0 0) yd [.ref (ad 0), .int yx1] rr yd := by
  refine z_ofi (by decide) (Nat.le_of_ble_eq_true rfl) fun p e s m args below meth c Q hx hb hml hown hts hK hP hRet ls hl => ?_
  have hS : va_S A s.heap s.heap [] := va_S.rf
  have hl : lv_has ls 4 [(0, .ref (ad 0)), (1, .int yx1)] := hl
  have h : (z_br (z_lp (bX5_answersOfAny_4 yd yx1) ((0 : Int32), (0 : Int32))) (fun t => match t with | yv6 => some yv6)) = some rr := h
  refine lv_iconst (v := (0 : Int32)) hx hb dX5_answersOfAny_0 (by decide) ?_
  refine lv_istore_n (lv' := [(2, .int (0 : Int32)), (0, .ref (ad 0)), (1, .int yx1)]) hx hb dX5_answersOfAny_1 rfl hl (by decide) rfl (fun ls hl => ?_)
  refine lv_iconst (v := (0 : Int32)) hx hb dX5_answersOfAny_2 (by decide) ?_
  refine lv_istore_n (lv' := [(3, .int (0 : Int32)), (2, .int (0 : Int32)), (0, .ref (ad 0)), (1, .int yx1)]) hx hb dX5_answersOfAny_3 rfl hl (by decide) rfl (fun ls hl => ?_)
  obtain ⟨yt4, hlp, h⟩ := z_brx h
  obtain ⟨yn4, hlp⟩ := z_lpx hlp
  have hE38 : ∀ (yv6 : Int32) (H : Heap) (locs : List Loc) (ls : Array Slot), yv6 = yt4 → va_P D vwCl (WC G ad yd) H → va_S A s.heap H locs → lv_has ls 4 [(2, .int yv6)] → W p l e (z_rm 0 0) s m args below meth c H locs 0 0 Q (F0 m 38 ls []) := by
    intro yv6 H locs ls et hP hS hl
    subst et
    have h : (some yv6) = some rr := h
    refine lv_iload_n hx hb dX5_answersOfAny_38 rfl (lv_at hl 0 rfl) ?_
    exact hRet _ _ _ _ _ _ hP hS (z_pair h) dX5_answersOfAny_39
  have hL4 : ∀ (n : Nat) (yv1 : Int32) (yv2 : Int32) (H : Heap) (locs : List Loc) (ls : Array Slot), z_it (bX5_answersOfAny_4 yd yx1) n (yv1, yv2) = some yt4 → va_P D vwCl (WC G ad yd) H → va_S A s.heap H locs → lv_has ls 4 [(0, .ref (ad 0)), (1, .int yx1), (2, .int yv1), (3, .int yv2)] → W p l e (z_rm 0 0) s m args below meth c H locs 0 0 Q (F0 m 4 ls []) := by
    intro n
    induction n with
    | zero => intro yv1 yv2 H locs ls hn; exact z_it0 hn
    | succ n ih =>
      intro yv1 yv2 H locs ls hn hP hS hl
      obtain ⟨yq4, h, hq1, hq2⟩ := z_itx hn
      have h : (zif ((yd.1 1 2) ≤ yv2) (some (.inr yv1)) (zif (((yx1 >>> (yv2 &&& 31)) &&& (1 : Int32)) = 0) (jX5_answersOfAny_32 yv2 yv1) (z_gd (z_in yv2 5) (z_nm (yv1 ||| (yd.1 71 (z_ix yv2))) fun yv5 => jX5_answersOfAny_32 yv2 yv5)))) = some yq4 := h
      refine lv_iload_n hx hb dX5_answersOfAny_4 rfl (lv_at hl 3 rfl) ?_
      refine lv_aload_n hx hb dX5_answersOfAny_5 rfl (lv_at hl 0 rfl) ?_
      refine gt_X5_0 hx hb hts hown hK hP (hts _ wl_1_175) dX5_answersOfAny_6 ?_
      refine gt_X3_2 hx hb hts hown hK hP st_1 (hts _ wl_1_118) dX5_answersOfAny_9 ?_
      refine lv_icmp_ge (tgt := 38) hx hb dX5_answersOfAny_12 (by decide) (fun yc12 => ?_) (fun yc12 => ?_)
      · have h := z_ifp yc12 h
        exact hE38 _ _ _ _ (hq2 _ (z_sm h).symm) hP hS (lv_sub hl [2] rfl)
      · have h := z_ifn yc12 h
        refine lv_iload_n hx hb dX5_answersOfAny_15 rfl (lv_at hl 1 rfl) ?_
        refine lv_iload_n hx hb dX5_answersOfAny_16 rfl (lv_at hl 3 rfl) ?_
        refine lv_ishr hx hb dX5_answersOfAny_17 ?_
        refine lv_iconst (v := (1 : Int32)) hx hb dX5_answersOfAny_18 (by decide) ?_
        refine lv_iand hx hb dX5_answersOfAny_19 ?_
        have hJ32 : ∀ (yv3 : Int32) (H : Heap) (locs : List Loc) (ls : Array Slot), jX5_answersOfAny_32 yv2 yv3 = some yq4 → va_P D vwCl (WC G ad yd) H → va_S A s.heap H locs → lv_has ls 4 [(0, .ref (ad 0)), (1, .int yx1), (2, .int yv3), (3, .int yv2)] → W p l e (z_rm 0 0) s m args below meth c H locs 0 0 Q (F0 m 32 ls []) := by
          intro yv3 H locs ls h hP hS hl
          have h : (z_nm (yv2 + (1 : Int32)) fun yv4 => some (.inl (yv3, yv4))) = some yq4 := h
          obtain ⟨yv4, e_yv4, h⟩ := z_nmx h
          refine lv_iinc (v := yv4) (lv' := [(3, .int yv4), (0, .ref (ad 0)), (1, .int yx1), (2, .int yv3)]) hx hb dX5_answersOfAny_32 hl (k := 3) rfl (by rw [e_yv4]; rfl) (by decide) rfl (fun ls hl => ?_)
          refine lv_goto (tgt := 4) hx hb dX5_answersOfAny_35 (by decide) ?_
          exact ih _ _ _ _ _ (hq1 _ (z_sm h).symm) hP hS (lv_sub hl [1, 2, 3, 0] rfl)
        refine lv_if_eq (tgt := 32) hx hb dX5_answersOfAny_20 (by decide) (fun yc20 => ?_) (fun yc20 => ?_)
        · have h := z_ifp yc20 h
          exact hJ32 _ _ _ _ h hP hS (lv_sub hl [0, 1, 2, 3] rfl)
        · have h := z_ifn yc20 h
          refine lv_iload_n hx hb dX5_answersOfAny_23 rfl (lv_at hl 2 rfl) ?_
          refine lv_aload_n hx hb dX5_answersOfAny_24 rfl (lv_at hl 0 rfl) ?_
          refine gt_X5_11 hx hb hts hown hK hP (hts _ wl_1_186) dX5_answersOfAny_25 ?_
          refine lv_iload_n hx hb dX5_answersOfAny_28 rfl (lv_at hl 3 rfl) ?_
          obtain ⟨yg29, h⟩ := z_gi h
          refine al_C hx hb hK hP rfl (by decide) yg29 dX5_answersOfAny_29 ?_
          refine lv_ior hx hb dX5_answersOfAny_30 ?_
          refine lv_topi (fun yv5 e_yv5 => ?_)
          have h := z_nma e_yv5 h
          refine lv_istore_n (lv' := [(2, .int yv5), (0, .ref (ad 0)), (1, .int yx1), (3, .int yv2)]) hx hb dX5_answersOfAny_31 rfl hl (by decide) rfl (fun ls hl => ?_)
          exact hJ32 _ _ _ _ h hP hS (lv_sub hl [1, 2, 0, 3] rfl)
  exact hL4 yn4 _ _ _ _ _ hlp hP hS (lv_sub hl [2, 3, 1, 0] rfl)
noncomputable def bX5_chance_36 (yd1 : Dt) (yx2 : Int32) (yx1 : Int32) (s : Int32 × Int32 × Int32) : Option ((Int32 × Int32 × Int32) ⊕ (Int32 × Int32)) := match s with
  | (yv2, yv3, yv4) => zif (((1 : Int32) <<< ((yd1.1 1 2) &&& 31)) ≤ yv4) (some (.inr (yv2, yv3))) (z_br (fX5_weightOf yd1 yv4 yx2) fun yr5 => z_nm (yv3 + yr5) fun yv6 => z_br (fX5_answersOfAny yd1 yv4) fun yr7 => z_br (fJ6_bitCount_0f7a4 yr7) fun yr8 => z_nm (zif (yr8 < yx1) yv2 (yv2 + yr5)) fun yv9 => z_nm (yv4 + (1 : Int32)) fun yv10 => some (.inl (yv9, yv6, yv10)))
noncomputable def fX5_chance (yd : Dt) (yx1 : Int32) (yx2 : Int32) (yx3 : Int32) : Option (Int32 × Dt) :=
  zif (yx1 < 0) (some ((-2 : Int32), yd)) (zif ((20 : Int32) < yx1) (some ((-2 : Int32), yd)) (zif (yx2 < 0) (some ((-2 : Int32), yd)) (zif (yx2 ≤ (10 : Int32)) (z_br (fX5_findAnswerSets yd) fun yd1 => z_br (z_lp (bX5_chance_36 yd1 yx2 yx1) ((0 : Int32), (0 : Int32), (0 : Int32))) (fun t => match t with | (yv11, yv12) => z_br (fX5_inLowestTerms yv11 yv12 yx3) fun yr13 => some (yr13, yd1))) (some ((-2 : Int32), yd)))))
set_option maxHeartbeats 4000000 in
set_option maxRecDepth 100000 in
theorem kX5_chance {l : Launch} {D : va_G} {G : z_G} {ad : Nat → Nat} {A : Nat → Prop} (hI : ∀ d, va_D A (WC G ad d)) {yd : Dt} {yx1 : Int32} {yx2 : Int32} {yx3 : Int32} (z_yx3 : yx3 = 0 ∨ yx3 = 1) {rr : Int32} {dd : Dt} (h : fX5_chance yd yx1 yx2 yx3 = some (rr, dd)) : z_Mi l D G A (WC G ad) yX5_chance cX5_chance 8 (z_rm 5 126) yd [.ref (ad 0), .int yx1, .int yx2, .int yx3] rr dd := by
  refine z_ofi (by decide) (Nat.le_of_ble_eq_true rfl) fun p e s m args below meth c Q hx hb hml hown hts hK hP hRet ls hl => ?_
  have hS : va_S A s.heap s.heap [] := va_S.rf
  have hl : lv_has ls 8 [(0, .ref (ad 0)), (1, .int yx1), (2, .int yx2), (3, .int yx3)] := hl
  have h : (zif (yx1 < 0) (some ((-2 : Int32), yd)) (zif ((20 : Int32) < yx1) (some ((-2 : Int32), yd)) (zif (yx2 < 0) (some ((-2 : Int32), yd)) (zif (yx2 ≤ (10 : Int32)) (z_br (fX5_findAnswerSets yd) fun yd1 => z_br (z_lp (bX5_chance_36 yd1 yx2 yx1) ((0 : Int32), (0 : Int32), (0 : Int32))) (fun t => match t with | (yv11, yv12) => z_br (fX5_inLowestTerms yv11 yv12 yx3) fun yr13 => some (yr13, yd1))) (some ((-2 : Int32), yd)))))) = some (rr, dd) := h
  refine lv_iload_n hx hb dX5_chance_0 rfl (lv_at hl 1 rfl) ?_
  refine lv_if_lt (tgt := 20) hx hb dX5_chance_1 (by decide) (fun yc1 => ?_) (fun yc1 => ?_)
  · have h := z_ifp yc1 h
    refine lv_bipush (v := (-2 : Int32)) hx hb dX5_chance_20 (by decide) ?_
    exact hRet _ _ _ _ _ _ hP hS h dX5_chance_22
  · have h := z_ifn yc1 h
    refine lv_iload_n hx hb dX5_chance_4 rfl (lv_at hl 1 rfl) ?_
    refine lv_bipush (v := (20 : Int32)) hx hb dX5_chance_5 (by decide) ?_
    refine lv_icmp_gt (tgt := 20) hx hb dX5_chance_7 (by decide) (fun yc7 => ?_) (fun yc7 => ?_)
    · have h := z_ifp yc7 h
      refine lv_bipush (v := (-2 : Int32)) hx hb dX5_chance_20 (by decide) ?_
      exact hRet _ _ _ _ _ _ hP hS h dX5_chance_22
    · have h := z_ifn yc7 h
      refine lv_iload_n hx hb dX5_chance_10 rfl (lv_at hl 2 rfl) ?_
      refine lv_if_lt (tgt := 20) hx hb dX5_chance_11 (by decide) (fun yc11 => ?_) (fun yc11 => ?_)
      · have h := z_ifp yc11 h
        refine lv_bipush (v := (-2 : Int32)) hx hb dX5_chance_20 (by decide) ?_
        exact hRet _ _ _ _ _ _ hP hS h dX5_chance_22
      · have h := z_ifn yc11 h
        refine lv_iload_n hx hb dX5_chance_14 rfl (lv_at hl 2 rfl) ?_
        refine lv_bipush (v := (10 : Int32)) hx hb dX5_chance_15 (by decide) ?_
        refine lv_icmp_le (tgt := 23) hx hb dX5_chance_17 (by decide) (fun yc17 => ?_) (fun yc17 => ?_)
        · have h := z_ifp yc17 h
          refine lv_aload_n hx hb dX5_chance_23 rfl (lv_at hl 0 rfl) ?_
          obtain ⟨yd1, yhc24, h⟩ := z_brx h
          refine z_kv (z_rV (As := []) (rest := []) ⟨hx, hb, hml, hown, hts⟩ hK hP w_X5 rfl (kX5_findAnswerSets hI yhc24) giX5_219 ⟨rfl, rfl⟩ ndX5_findAnswerSets ⟨Nat.le_of_ble_eq_true rfl, Nat.le_of_ble_eq_true rfl⟩ rfl hl.1 rfl (Nat.le_of_ble_eq_true rfl) ⟨Nat.le_refl _, Nat.le_refl _⟩ dX5_chance_24) hS (fun H locs hP hS => ?_)
          refine lv_iconst (v := (0 : Int32)) hx hb dX5_chance_27 (by decide) ?_
          refine lv_istore (lv' := [(4, .int (0 : Int32)), (0, .ref (ad 0)), (1, .int yx1), (2, .int yx2), (3, .int yx3)]) hx hb dX5_chance_28 hl (by decide) rfl (fun ls hl => ?_)
          refine lv_iconst (v := (0 : Int32)) hx hb dX5_chance_30 (by decide) ?_
          refine lv_istore (lv' := [(5, .int (0 : Int32)), (4, .int (0 : Int32)), (0, .ref (ad 0)), (1, .int yx1), (2, .int yx2), (3, .int yx3)]) hx hb dX5_chance_31 hl (by decide) rfl (fun ls hl => ?_)
          refine lv_iconst (v := (0 : Int32)) hx hb dX5_chance_33 (by decide) ?_
          refine lv_istore (lv' := [(6, .int (0 : Int32)), (5, .int (0 : Int32)), (4, .int (0 : Int32)), (0, .ref (ad 0)), (1, .int yx1), (2, .int yx2), (3, .int yx3)]) hx hb dX5_chance_34 hl (by decide) rfl (fun ls hl => ?_)
          obtain ⟨yt36, hlp, h⟩ := z_brx h
          obtain ⟨yn36, hlp⟩ := z_lpx hlp
          have hE92 : ∀ (yv11 : Int32) (yv12 : Int32) (H : Heap) (locs : List Loc) (ls : Array Slot), (yv11, yv12) = yt36 → va_P D vwCl (WC G ad yd1) H → va_S A s.heap H locs → lv_has ls 8 [(3, .int yx3), (4, .int yv11), (5, .int yv12)] → W p l e (z_rm 5 126) s m args below meth c H locs 0 0 Q (F0 m 92 ls []) := by
            intro yv11 yv12 H locs ls et hP hS hl
            subst et
            have h : (z_br (fX5_inLowestTerms yv11 yv12 yx3) fun yr13 => some (yr13, yd1)) = some (rr, dd) := h
            refine lv_iload hx hb dX5_chance_92 (lv_at hl 1 rfl) ?_
            refine lv_iload hx hb dX5_chance_94 (lv_at hl 2 rfl) ?_
            refine lv_iload_n hx hb dX5_chance_96 rfl (lv_at hl 0 rfl) ?_
            obtain ⟨yr13, yhc97, h⟩ := z_brx h
            refine z_ki (z_rS (As := [.int yv11, .int yv12, .int yx3]) (rest := []) ⟨hx, hb, hml, hown, hts⟩ hK hP (kX5_inLowestTerms z_yx3 yhc97) giX5_226 ⟨rfl, rfl⟩ ndX5_inLowestTerms ⟨Nat.le_of_ble_eq_true rfl, Nat.le_of_ble_eq_true rfl⟩ rfl hl.1 rfl (Nat.le_of_ble_eq_true rfl) ⟨Nat.le_refl _, Nat.le_refl _⟩ dX5_chance_97) hS (fun H locs hP hS => ?_)
            exact hRet _ _ _ _ _ _ hP hS h dX5_chance_100
          have hL36 : ∀ (n : Nat) (yv2 : Int32) (yv3 : Int32) (yv4 : Int32) (H : Heap) (locs : List Loc) (ls : Array Slot), z_it (bX5_chance_36 yd1 yx2 yx1) n (yv2, yv3, yv4) = some yt36 → va_P D vwCl (WC G ad yd1) H → va_S A s.heap H locs → lv_has ls 8 [(0, .ref (ad 0)), (1, .int yx1), (2, .int yx2), (3, .int yx3), (4, .int yv2), (5, .int yv3), (6, .int yv4)] → W p l e (z_rm 5 126) s m args below meth c H locs 0 0 Q (F0 m 36 ls []) := by
            intro n
            induction n with
            | zero => intro yv2 yv3 yv4 H locs ls hn; exact z_it0 hn
            | succ n ih =>
              intro yv2 yv3 yv4 H locs ls hn hP hS hl
              obtain ⟨yq36, h, hq1, hq2⟩ := z_itx hn
              have h : (zif (((1 : Int32) <<< ((yd1.1 1 2) &&& 31)) ≤ yv4) (some (.inr (yv2, yv3))) (z_br (fX5_weightOf yd1 yv4 yx2) fun yr5 => z_nm (yv3 + yr5) fun yv6 => z_br (fX5_answersOfAny yd1 yv4) fun yr7 => z_br (fJ6_bitCount_0f7a4 yr7) fun yr8 => z_nm (zif (yr8 < yx1) yv2 (yv2 + yr5)) fun yv9 => z_nm (yv4 + (1 : Int32)) fun yv10 => some (.inl (yv9, yv6, yv10)))) = some yq36 := h
              refine lv_iload hx hb dX5_chance_36 (lv_at hl 6 rfl) ?_
              refine lv_iconst (v := (1 : Int32)) hx hb dX5_chance_38 (by decide) ?_
              refine lv_aload_n hx hb dX5_chance_39 rfl (lv_at hl 0 rfl) ?_
              refine gt_X5_0 hx hb hts hown hK hP (hts _ wl_1_175) dX5_chance_40 ?_
              refine gt_X3_2 hx hb hts hown hK hP st_1 (hts _ wl_1_118) dX5_chance_43 ?_
              refine lv_ishl hx hb dX5_chance_46 ?_
              refine lv_icmp_ge (tgt := 92) hx hb dX5_chance_47 (by decide) (fun yc47 => ?_) (fun yc47 => ?_)
              · have h := z_ifp yc47 h
                exact hE92 _ _ _ _ _ (hq2 _ (z_sm h).symm) hP hS (lv_sub hl [3, 4, 5] rfl)
              · have h := z_ifn yc47 h
                refine lv_aload_n hx hb dX5_chance_50 rfl (lv_at hl 0 rfl) ?_
                refine lv_iload hx hb dX5_chance_51 (lv_at hl 6 rfl) ?_
                refine lv_iload_n hx hb dX5_chance_53 rfl (lv_at hl 2 rfl) ?_
                obtain ⟨yr5, yhc54, h⟩ := z_brx h
                refine z_ki (z_rV (As := [.int yv4, .int yx2]) (rest := []) ⟨hx, hb, hml, hown, hts⟩ hK hP w_X5 rfl (kX5_weightOf hI yhc54) giX5_230 ⟨rfl, rfl⟩ ndX5_weightOf ⟨Nat.le_of_ble_eq_true rfl, Nat.le_of_ble_eq_true rfl⟩ rfl hl.1 rfl (Nat.le_of_ble_eq_true rfl) ⟨Nat.le_refl _, Nat.le_refl _⟩ dX5_chance_54) hS (fun H locs hP hS => ?_)
                refine lv_istore (lv' := [(7, .int yr5), (0, .ref (ad 0)), (1, .int yx1), (2, .int yx2), (3, .int yx3), (4, .int yv2), (5, .int yv3), (6, .int yv4)]) hx hb dX5_chance_57 hl (by decide) rfl (fun ls hl => ?_)
                refine lv_iload hx hb dX5_chance_59 (lv_at hl 6 rfl) ?_
                refine lv_iload hx hb dX5_chance_61 (lv_at hl 0 rfl) ?_
                refine lv_iadd hx hb dX5_chance_63 ?_
                refine lv_topi (fun yv6 e_yv6 => ?_)
                have h := z_nma e_yv6 h
                refine lv_istore (lv' := [(5, .int yv6), (7, .int yr5), (0, .ref (ad 0)), (1, .int yx1), (2, .int yx2), (3, .int yx3), (4, .int yv2), (6, .int yv4)]) hx hb dX5_chance_64 hl (by decide) rfl (fun ls hl => ?_)
                refine lv_aload_n hx hb dX5_chance_66 rfl (lv_at hl 2 rfl) ?_
                refine lv_iload hx hb dX5_chance_67 (lv_at hl 7 rfl) ?_
                obtain ⟨yr7, yhc69, h⟩ := z_brx h
                refine z_ki (z_rV (As := [.int yv4]) (rest := []) ⟨hx, hb, hml, hown, hts⟩ hK hP w_X5 rfl (kX5_answersOfAny hI yhc69) giX5_234 ⟨rfl, rfl⟩ ndX5_answersOfAny ⟨Nat.le_of_ble_eq_true rfl, Nat.le_of_ble_eq_true rfl⟩ rfl hl.1 rfl (Nat.le_of_ble_eq_true rfl) ⟨Nat.le_refl _, Nat.le_refl _⟩ dX5_chance_69) hS (fun H locs hP hS => ?_)
                obtain ⟨yr8, yhc72, h⟩ := z_brx h
                refine z_ki (z_rS (As := [.int yr7]) (rest := []) ⟨hx, hb, hml, hown, hts⟩ hK hP (kJ6_bitCount_0f7a4 yhc72) giX5_237 ⟨rfl, rfl⟩ ndJ6_bitCount_0f7a4 ⟨Nat.le_of_ble_eq_true rfl, Nat.le_of_ble_eq_true rfl⟩ rfl hl.1 rfl (Nat.le_of_ble_eq_true rfl) ⟨Nat.le_refl _, Nat.le_refl _⟩ dX5_chance_72) hS (fun H locs hP hS => ?_)
                refine lv_iload_n hx hb dX5_chance_75 rfl (lv_at hl 3 rfl) ?_
                have hM86 : ∀ (yv9 : Int32) (H : Heap) (locs : List Loc) (ls : Array Slot), yv9 = (zif (yr8 < yx1) yv2 (yv2 + yr5)) → va_P D vwCl (WC G ad yd1) H → va_S A s.heap H locs → lv_has ls 8 [(0, .ref (ad 0)), (1, .int yx1), (2, .int yx2), (3, .int yx3), (4, .int yv9), (5, .int yv6), (6, .int yv4)] → W p l e (z_rm 5 126) s m args below meth c H locs 0 0 Q (F0 m 86 ls []) := by
                  intro yv9 H locs ls e_yv9 hP hS hl
                  have h := z_nma e_yv9 h
                  obtain ⟨yv10, e_yv10, h⟩ := z_nmx h
                  refine lv_iinc (v := yv10) (lv' := [(6, .int yv10), (0, .ref (ad 0)), (1, .int yx1), (2, .int yx2), (3, .int yx3), (4, .int yv9), (5, .int yv6)]) hx hb dX5_chance_86 hl (k := 6) rfl (by rw [e_yv10]; rfl) (by decide) rfl (fun ls hl => ?_)
                  refine lv_goto (tgt := 36) hx hb dX5_chance_89 (by decide) ?_
                  exact ih _ _ _ _ _ _ (hq1 _ (z_sm h).symm) hP hS (lv_sub hl [1, 2, 3, 4, 5, 6, 0] rfl)
                refine lv_icmp_lt (tgt := 86) hx hb dX5_chance_76 (by decide) (fun yc76 => ?_) (fun yc76 => ?_)
                · exact hM86 _ _ _ _ (z_tp yc76 rfl) hP hS (lv_sub hl [2, 3, 4, 5, 6, 0, 7] rfl)
                · refine lv_iload hx hb dX5_chance_79 (lv_at hl 6 rfl) ?_
                  refine lv_iload hx hb dX5_chance_81 (lv_at hl 1 rfl) ?_
                  refine lv_iadd hx hb dX5_chance_83 ?_
                  refine lv_istore (lv' := [(4, .int (yv2 + yr5)), (5, .int yv6), (7, .int yr5), (0, .ref (ad 0)), (1, .int yx1), (2, .int yx2), (3, .int yx3), (6, .int yv4)]) hx hb dX5_chance_84 hl (by decide) rfl (fun ls hl => ?_)
                  exact hM86 _ _ _ _ (z_tn yc76 rfl) hP hS (lv_sub hl [3, 4, 5, 6, 0, 1, 7] rfl)
          exact hL36 yn36 _ _ _ _ _ _ hlp hP hS (lv_sub hl [3, 4, 5, 6, 2, 1, 0] rfl)
        · have h := z_ifn yc17 h
          refine lv_bipush (v := (-2 : Int32)) hx hb dX5_chance_20 (by decide) ?_
          exact hRet _ _ _ _ _ _ hP hS h dX5_chance_22
noncomputable def fX5_seed (yd : Dt) (yx1 : Int64) : Option (Int64 × Dt) :=
  z_nm (yd.2) fun yv1 => z_nm (z_sl yd yx1) fun yd2 => some (yv1, yd2)
set_option maxHeartbeats 4000000 in
set_option maxRecDepth 100000 in
theorem kX5_seed {l : Launch} {D : va_G} {G : z_G} {ad : Nat → Nat} {A : Nat → Prop} (hI : ∀ d, va_D A (WC G ad d)) {yd : Dt} {yx1 : Int64}  {rr : Int64} {dd : Dt} (h : fX5_seed yd yx1 = some (rr, dd)) : z_Ml l D G A (WC G ad) yX5_seed cX5_seed 5 (z_rm 0 0) yd [.ref (ad 0), .long yx1] rr dd := by
  refine z_ofl (by decide) (Nat.le_of_ble_eq_true rfl) fun p e s m args below meth c Q hx hb hml hown hts hK hP hRet ls hl => ?_
  have hS : va_S A s.heap s.heap [] := va_S.rf
  have hl : lv_has ls 5 [(0, .ref (ad 0)), (1, .long yx1)] := hl
  have h : (z_nm (yd.2) fun yv1 => z_nm (z_sl yd yx1) fun yd2 => some (yv1, yd2)) = some (rr, dd) := h
  refine lv_aload_n hx hb dX5_seed_0 rfl (lv_at hl 0 rfl) ?_
  refine gt_X5_16 hx hb hts hown hK hP (hts _ wl_1_191) dX5_seed_1 ?_
  refine lv_topl (fun yv1 e_yv1 => ?_)
  have h := z_nma e_yv1 h
  refine lv_lstore_n (lv' := [(3, .long yv1), (0, .ref (ad 0)), (1, .long yx1)]) hx hb dX5_seed_4 rfl hl (by decide) rfl (fun ls hl => ?_)
  refine lv_aload_n hx hb dX5_seed_5 rfl (lv_at hl 1 rfl) ?_
  refine lv_lload_n hx hb dX5_seed_6 rfl (lv_at hl 2 rfl) ?_
  refine pt_X5_16 hx hb hts hown hK hP hI hS (hts _ wl_1_191) dX5_seed_7 (fun H locs yd2 e_yd2 hP hS => ?_)
  have h := z_nma e_yd2 h
  refine lv_lload_n hx hb dX5_seed_10 rfl (lv_at hl 0 rfl) ?_
  exact hRet _ _ _ _ _ _ hP hS h dX5_seed_11
noncomputable def fX5_drawEvent (yd : Dt) (ya1 : Nat) : Option (Dt) :=
  z_nm (z_sl yd ((yd.2 * (6364136223846793005 : Int64)) + (1442695040888963407 : Int64))) fun yd1 => z_nm ((((yd1.2).toUInt64 >>> ((33 : Int32).toInt64.toUInt64 &&& Int64.toUInt64 63)).toInt64).toInt32) fun yv2 => z_nm (yv2 - yv2 / (8 : Int32) * (8 : Int32)) fun yv3 => zif ((3 : Int32) < yv3) (zif ((5 : Int32) < yv3) (z_bd (fX0_hold yd1 ya1 ((yv2 / (8 : Int32)) - (yv2 / (8 : Int32)) / (10 : Int32) * (10 : Int32))) fun yr4 yd5 => some yd5) (z_bd (fX0_leave yd1 ya1) fun yr6 yd7 => some yd7)) (z_bd (fX0_enter yd1 ya1 ((yv2 / (8 : Int32)) - (yv2 / (8 : Int32)) / (5 : Int32) * (5 : Int32))) fun yr8 yd9 => some yd9)
set_option maxHeartbeats 4000000 in
set_option maxRecDepth 100000 in
theorem kX5_drawEvent {l : Launch} {D : va_G} {G : z_G} {ad : Nat → Nat} {A : Nat → Prop} (hI : ∀ d, va_D A (WC G ad d)) {yd : Dt} {ya1 : Nat} (yh1 : isEl ya1) {dd : Dt} (h : fX5_drawEvent yd ya1 = some dd) : z_Mv l D G A (WC G ad) yX5_drawEvent cX5_drawEvent 4 (z_rm 3 62) yd [.ref (ad 0), .ref (ad ya1)] dd := by
  refine z_ofv (by decide) (Nat.le_of_ble_eq_true rfl) fun p e s m args below meth c Q hx hb hml hown hts hK hP hRet ls hl => ?_
  have hS : va_S A s.heap s.heap [] := va_S.rf
  have hl : lv_has ls 4 [(0, .ref (ad 0)), (1, .ref (ad ya1))] := hl
  have h : (z_nm (z_sl yd ((yd.2 * (6364136223846793005 : Int64)) + (1442695040888963407 : Int64))) fun yd1 => z_nm ((((yd1.2).toUInt64 >>> ((33 : Int32).toInt64.toUInt64 &&& Int64.toUInt64 63)).toInt64).toInt32) fun yv2 => z_nm (yv2 - yv2 / (8 : Int32) * (8 : Int32)) fun yv3 => zif ((3 : Int32) < yv3) (zif ((5 : Int32) < yv3) (z_bd (fX0_hold yd1 ya1 ((yv2 / (8 : Int32)) - (yv2 / (8 : Int32)) / (10 : Int32) * (10 : Int32))) fun yr4 yd5 => some yd5) (z_bd (fX0_leave yd1 ya1) fun yr6 yd7 => some yd7)) (z_bd (fX0_enter yd1 ya1 ((yv2 / (8 : Int32)) - (yv2 / (8 : Int32)) / (5 : Int32) * (5 : Int32))) fun yr8 yd9 => some yd9)) = some dd := h
  refine lv_aload_n hx hb dX5_drawEvent_0 rfl (lv_at hl 0 rfl) ?_
  refine lv_aload_n hx hb dX5_drawEvent_1 rfl (lv_at hl 0 rfl) ?_
  refine gt_X5_16 hx hb hts hown hK hP (hts _ wl_1_191) dX5_drawEvent_2 ?_
  refine lv_ldc2 hx hb hown (hts _ wl_3_115) dX5_drawEvent_5 ?_
  refine lv_lmul hx hb dX5_drawEvent_8 ?_
  refine lv_ldc2 hx hb hown (hts _ wl_3_116) dX5_drawEvent_9 ?_
  refine lv_ladd hx hb dX5_drawEvent_12 ?_
  refine pt_X5_16 hx hb hts hown hK hP hI hS (hts _ wl_1_191) dX5_drawEvent_13 (fun H locs yd1 e_yd1 hP hS => ?_)
  have h := z_nma e_yd1 h
  refine lv_aload_n hx hb dX5_drawEvent_16 rfl (lv_at hl 0 rfl) ?_
  refine gt_X5_16 hx hb hts hown hK hP (hts _ wl_1_191) dX5_drawEvent_17 ?_
  refine lv_bipush (v := (33 : Int32)) hx hb dX5_drawEvent_20 (by decide) ?_
  refine lv_lushr (v := ((yd1.2).toUInt64 >>> ((33 : Int32).toInt64.toUInt64 &&& Int64.toUInt64 63)).toInt64) hx hb dX5_drawEvent_22 rfl ?_
  refine lv_l2i (v := (((yd1.2).toUInt64 >>> ((33 : Int32).toInt64.toUInt64 &&& Int64.toUInt64 63)).toInt64).toInt32) hx hb dX5_drawEvent_23 rfl ?_
  refine lv_topi (fun yv2 e_yv2 => ?_)
  have h := z_nma e_yv2 h
  refine lv_istore_n (lv' := [(2, .int yv2), (0, .ref (ad 0)), (1, .ref (ad ya1))]) hx hb dX5_drawEvent_24 rfl hl (by decide) rfl (fun ls hl => ?_)
  refine lv_iload_n hx hb dX5_drawEvent_25 rfl (lv_at hl 0 rfl) ?_
  refine lv_bipush (v := (8 : Int32)) hx hb dX5_drawEvent_26 (by decide) ?_
  refine lv_irem hx hb dX5_drawEvent_28 (by decide) ?_
  refine lv_topi (fun yv3 e_yv3 => ?_)
  have h := z_nma e_yv3 h
  refine lv_istore_n (lv' := [(3, .int yv3), (2, .int yv2), (0, .ref (ad 0)), (1, .ref (ad ya1))]) hx hb dX5_drawEvent_29 rfl hl (by decide) rfl (fun ls hl => ?_)
  refine lv_iload_n hx hb dX5_drawEvent_30 rfl (lv_at hl 0 rfl) ?_
  refine lv_iconst (v := (3 : Int32)) hx hb dX5_drawEvent_31 (by decide) ?_
  refine lv_icmp_gt (tgt := 49) hx hb dX5_drawEvent_32 (by decide) (fun yc32 => ?_) (fun yc32 => ?_)
  · have h := z_ifp yc32 h
    refine lv_iload_n hx hb dX5_drawEvent_49 rfl (lv_at hl 0 rfl) ?_
    refine lv_iconst (v := (5 : Int32)) hx hb dX5_drawEvent_50 (by decide) ?_
    refine lv_icmp_gt (tgt := 62) hx hb dX5_drawEvent_51 (by decide) (fun yc51 => ?_) (fun yc51 => ?_)
    · have h := z_ifp yc51 h
      refine lv_aload_n hx hb dX5_drawEvent_62 rfl (lv_at hl 3 rfl) ?_
      refine lv_iload_n hx hb dX5_drawEvent_63 rfl (lv_at hl 1 rfl) ?_
      refine lv_bipush (v := (8 : Int32)) hx hb dX5_drawEvent_64 (by decide) ?_
      refine lv_idiv hx hb dX5_drawEvent_66 (by decide) ?_
      refine lv_bipush (v := (10 : Int32)) hx hb dX5_drawEvent_67 (by decide) ?_
      refine lv_irem hx hb dX5_drawEvent_69 (by decide) ?_
      obtain ⟨yr4, yd5, yhc70, h⟩ := z_bdx h
      refine z_kz (z_rV (As := [.int ((yv2 / (8 : Int32)) - (yv2 / (8 : Int32)) / (10 : Int32) * (10 : Int32))]) (rest := []) ⟨hx, hb, hml, hown, hts⟩ hK hP (w_X0 yh1) rfl (kX0_hold hI yh1 yhc70) giX5_187 ⟨rfl, rfl⟩ ndX0_hold ⟨Nat.le_of_ble_eq_true rfl, Nat.le_of_ble_eq_true rfl⟩ rfl hl.1 rfl (Nat.le_of_ble_eq_true rfl) ⟨Nat.le_refl _, Nat.le_refl _⟩ dX5_drawEvent_70) hS (fun H locs z_yr4 hP hS => ?_)
      refine lv_pop hx hb dX5_drawEvent_73 rfl ?_
      exact hRet _ _ _ _ _ hP hS h dX5_drawEvent_74
    · have h := z_ifn yc51 h
      refine lv_aload_n hx hb dX5_drawEvent_54 rfl (lv_at hl 3 rfl) ?_
      obtain ⟨yr6, yd7, yhc55, h⟩ := z_bdx h
      refine z_kz (z_rV (As := []) (rest := []) ⟨hx, hb, hml, hown, hts⟩ hK hP (w_X0 yh1) rfl (kX0_leave hI yh1 yhc55) giX5_183 ⟨rfl, rfl⟩ ndX0_leave ⟨Nat.le_of_ble_eq_true rfl, Nat.le_of_ble_eq_true rfl⟩ rfl hl.1 rfl (Nat.le_of_ble_eq_true rfl) ⟨Nat.le_refl _, Nat.le_refl _⟩ dX5_drawEvent_55) hS (fun H locs z_yr6 hP hS => ?_)
      refine lv_pop hx hb dX5_drawEvent_58 rfl ?_
      refine lv_goto (tgt := 74) hx hb dX5_drawEvent_59 (by decide) ?_
      exact hRet _ _ _ _ _ hP hS h dX5_drawEvent_74
  · have h := z_ifn yc32 h
    refine lv_aload_n hx hb dX5_drawEvent_35 rfl (lv_at hl 3 rfl) ?_
    refine lv_iload_n hx hb dX5_drawEvent_36 rfl (lv_at hl 1 rfl) ?_
    refine lv_bipush (v := (8 : Int32)) hx hb dX5_drawEvent_37 (by decide) ?_
    refine lv_idiv hx hb dX5_drawEvent_39 (by decide) ?_
    refine lv_iconst (v := (5 : Int32)) hx hb dX5_drawEvent_40 (by decide) ?_
    refine lv_irem hx hb dX5_drawEvent_41 (by decide) ?_
    obtain ⟨yr8, yd9, yhc42, h⟩ := z_bdx h
    refine z_kz (z_rV (As := [.int ((yv2 / (8 : Int32)) - (yv2 / (8 : Int32)) / (5 : Int32) * (5 : Int32))]) (rest := []) ⟨hx, hb, hml, hown, hts⟩ hK hP (w_X0 yh1) rfl (kX0_enter hI yh1 yhc42) giX5_176 ⟨rfl, rfl⟩ ndX0_enter ⟨Nat.le_of_ble_eq_true rfl, Nat.le_of_ble_eq_true rfl⟩ rfl hl.1 rfl (Nat.le_of_ble_eq_true rfl) ⟨Nat.le_refl _, Nat.le_refl _⟩ dX5_drawEvent_42) hS (fun H locs z_yr8 hP hS => ?_)
    refine lv_pop hx hb dX5_drawEvent_45 rfl ?_
    refine lv_goto (tgt := 74) hx hb dX5_drawEvent_46 (by decide) ?_
    exact hRet _ _ _ _ _ hP hS h dX5_drawEvent_74
noncomputable def bX5_drawn_27 (yx1 : Int32) (s : Int32 × Dt) : Option ((Int32 × Dt) ⊕ (Dt)) := match s with
  | (yv2, yd3) => zif (yx1 ≤ yv2) (some (.inr yd3)) (z_br (fX5_drawEvent yd3 30) fun yd4 => z_nm (yv2 + (1 : Int32)) fun yv5 => some (.inl (yv5, yd4)))
noncomputable def bX5_drawn_53 (s : Int32 × Int32 × Dt) : Option ((Int32 × Int32 × Dt) ⊕ (Int32 × Dt)) := match s with
  | (yv7, yv8, yd9) => zif ((yd9.1 29 2) ≤ yv8) (some (.inr (yv7, yd9))) (z_bd (fX5_answersOf yd9 29 yv8) fun yr10 yd11 => z_br (fJ6_bitCount_0f7a4 yr10) fun yr12 => z_nm (yv7 + yr12) fun yv13 => z_nm (yv8 + (1 : Int32)) fun yv14 => some (.inl (yv13, yv14, yd11)))
noncomputable def fX5_drawn (yd : Dt) (yx1 : Int32) : Option (Int32 × Dt) :=
  zif (yx1 < (1 : Int32)) (some ((-2 : Int32), yd)) (zif (yx1 ≤ (30 : Int32)) (z_br (fX3_copyFrom yd 29 1) fun yd1 => z_br (z_lp (bX5_drawn_27 yx1) ((0 : Int32), yd1)) (fun t => match t with | yd6 => z_br (z_lp (bX5_drawn_53) ((0 : Int32), (0 : Int32), yd6)) (fun t => match t with | (yv15, yd16) => some (yv15, yd16)))) (some ((-2 : Int32), yd)))
set_option maxHeartbeats 4000000 in
set_option maxRecDepth 100000 in
theorem kX5_drawn {l : Launch} {D : va_G} {G : z_G} {ad : Nat → Nat} {A : Nat → Prop} (hI : ∀ d, va_D A (WC G ad d)) {yd : Dt} {yx1 : Int32}  {rr : Int32} {dd : Dt} (h : fX5_drawn yd yx1 = some (rr, dd)) : z_Mi l D G A (WC G ad) yX5_drawn cX5_drawn 4 (z_rm 4 105) yd [.ref (ad 0), .int yx1] rr dd := by
  refine z_ofi (by decide) (Nat.le_of_ble_eq_true rfl) fun p e s m args below meth c Q hx hb hml hown hts hK hP hRet ls hl => ?_
  have hS : va_S A s.heap s.heap [] := va_S.rf
  have hl : lv_has ls 4 [(0, .ref (ad 0)), (1, .int yx1)] := hl
  have h : (zif (yx1 < (1 : Int32)) (some ((-2 : Int32), yd)) (zif (yx1 ≤ (30 : Int32)) (z_br (fX3_copyFrom yd 29 1) fun yd1 => z_br (z_lp (bX5_drawn_27 yx1) ((0 : Int32), yd1)) (fun t => match t with | yd6 => z_br (z_lp (bX5_drawn_53) ((0 : Int32), (0 : Int32), yd6)) (fun t => match t with | (yv15, yd16) => some (yv15, yd16)))) (some ((-2 : Int32), yd)))) = some (rr, dd) := h
  refine lv_iload_n hx hb dX5_drawn_0 rfl (lv_at hl 1 rfl) ?_
  refine lv_iconst (v := (1 : Int32)) hx hb dX5_drawn_1 (by decide) ?_
  refine lv_icmp_lt (tgt := 11) hx hb dX5_drawn_2 (by decide) (fun yc2 => ?_) (fun yc2 => ?_)
  · have h := z_ifp yc2 h
    refine lv_bipush (v := (-2 : Int32)) hx hb dX5_drawn_11 (by decide) ?_
    exact hRet _ _ _ _ _ _ hP hS h dX5_drawn_13
  · have h := z_ifn yc2 h
    refine lv_iload_n hx hb dX5_drawn_5 rfl (lv_at hl 1 rfl) ?_
    refine lv_bipush (v := (30 : Int32)) hx hb dX5_drawn_6 (by decide) ?_
    refine lv_icmp_le (tgt := 14) hx hb dX5_drawn_8 (by decide) (fun yc8 => ?_) (fun yc8 => ?_)
    · have h := z_ifp yc8 h
      refine lv_aload_n hx hb dX5_drawn_14 rfl (lv_at hl 0 rfl) ?_
      refine gt_X5_1 hx hb hts hown hK hP (hts _ wl_1_176) dX5_drawn_15 ?_
      refine lv_aload_n hx hb dX5_drawn_18 rfl (lv_at hl 0 rfl) ?_
      refine gt_X5_0 hx hb hts hown hK hP (hts _ wl_1_175) dX5_drawn_19 ?_
      obtain ⟨yd1, yhc22, h⟩ := z_brx h
      refine z_kv (z_rV (As := [.ref (ad 1)]) (rest := []) ⟨hx, hb, hml, hown, hts⟩ hK hP (w_X3 st_29) rfl (kX3_copyFrom hI st_29 st_1 yhc22) giX5_69 ⟨rfl, rfl⟩ ndX3_copyFrom ⟨Nat.le_of_ble_eq_true rfl, Nat.le_of_ble_eq_true rfl⟩ rfl hl.1 rfl (Nat.le_of_ble_eq_true rfl) ⟨Nat.le_refl _, Nat.le_refl _⟩ dX5_drawn_22) hS (fun H locs hP hS => ?_)
      refine lv_iconst (v := (0 : Int32)) hx hb dX5_drawn_25 (by decide) ?_
      refine lv_istore_n (lv' := [(2, .int (0 : Int32)), (0, .ref (ad 0)), (1, .int yx1)]) hx hb dX5_drawn_26 rfl hl (by decide) rfl (fun ls hl => ?_)
      obtain ⟨yt27, hlp, h⟩ := z_brx h
      obtain ⟨yn27, hlp⟩ := z_lpx hlp
      have hE49 : ∀ (yd6 : Dt) (H : Heap) (locs : List Loc) (ls : Array Slot), yd6 = yt27 → va_P D vwCl (WC G ad yd6) H → va_S A s.heap H locs → lv_has ls 4 [(0, .ref (ad 0))] → W p l e (z_rm 4 105) s m args below meth c H locs 0 0 Q (F0 m 49 ls []) := by
        intro yd6 H locs ls et hP hS hl
        subst et
        have h : (z_br (z_lp (bX5_drawn_53) ((0 : Int32), (0 : Int32), yd6)) (fun t => match t with | (yv15, yd16) => some (yv15, yd16))) = some (rr, dd) := h
        refine lv_iconst (v := (0 : Int32)) hx hb dX5_drawn_49 (by decide) ?_
        refine lv_istore_n (lv' := [(2, .int (0 : Int32)), (0, .ref (ad 0))]) hx hb dX5_drawn_50 rfl hl (by decide) rfl (fun ls hl => ?_)
        refine lv_iconst (v := (0 : Int32)) hx hb dX5_drawn_51 (by decide) ?_
        refine lv_istore_n (lv' := [(3, .int (0 : Int32)), (2, .int (0 : Int32)), (0, .ref (ad 0))]) hx hb dX5_drawn_52 rfl hl (by decide) rfl (fun ls hl => ?_)
        obtain ⟨yt53, hlp, h⟩ := z_brx h
        obtain ⟨yn53, hlp⟩ := z_lpx hlp
        have hE85 : ∀ (yv15 : Int32) (yd16 : Dt) (H : Heap) (locs : List Loc) (ls : Array Slot), (yv15, yd16) = yt53 → va_P D vwCl (WC G ad yd16) H → va_S A s.heap H locs → lv_has ls 4 [(2, .int yv15)] → W p l e (z_rm 4 105) s m args below meth c H locs 0 0 Q (F0 m 85 ls []) := by
          intro yv15 yd16 H locs ls et hP hS hl
          subst et
          have h : (some (yv15, yd16)) = some (rr, dd) := h
          refine lv_iload_n hx hb dX5_drawn_85 rfl (lv_at hl 0 rfl) ?_
          exact hRet _ _ _ _ _ _ hP hS h dX5_drawn_86
        have hL53 : ∀ (n : Nat) (yv7 : Int32) (yv8 : Int32) (yd9 : Dt) (H : Heap) (locs : List Loc) (ls : Array Slot), z_it (bX5_drawn_53) n (yv7, yv8, yd9) = some yt53 → va_P D vwCl (WC G ad yd9) H → va_S A s.heap H locs → lv_has ls 4 [(0, .ref (ad 0)), (2, .int yv7), (3, .int yv8)] → W p l e (z_rm 4 105) s m args below meth c H locs 0 0 Q (F0 m 53 ls []) := by
          intro n
          induction n with
          | zero => intro yv7 yv8 yd9 H locs ls hn; exact z_it0 hn
          | succ n ih =>
            intro yv7 yv8 yd9 H locs ls hn hP hS hl
            obtain ⟨yq53, h, hq1, hq2⟩ := z_itx hn
            have h : (zif ((yd9.1 29 2) ≤ yv8) (some (.inr (yv7, yd9))) (z_bd (fX5_answersOf yd9 29 yv8) fun yr10 yd11 => z_br (fJ6_bitCount_0f7a4 yr10) fun yr12 => z_nm (yv7 + yr12) fun yv13 => z_nm (yv8 + (1 : Int32)) fun yv14 => some (.inl (yv13, yv14, yd11)))) = some yq53 := h
            refine lv_iload_n hx hb dX5_drawn_53 rfl (lv_at hl 2 rfl) ?_
            refine lv_aload_n hx hb dX5_drawn_54 rfl (lv_at hl 0 rfl) ?_
            refine gt_X5_1 hx hb hts hown hK hP (hts _ wl_1_176) dX5_drawn_55 ?_
            refine gt_X3_2 hx hb hts hown hK hP st_29 (hts _ wl_1_118) dX5_drawn_58 ?_
            refine lv_icmp_ge (tgt := 85) hx hb dX5_drawn_61 (by decide) (fun yc61 => ?_) (fun yc61 => ?_)
            · have h := z_ifp yc61 h
              exact hE85 _ _ _ _ _ (hq2 _ (z_sm h).symm) hP hS (lv_sub hl [1] rfl)
            · have h := z_ifn yc61 h
              refine lv_iload_n hx hb dX5_drawn_64 rfl (lv_at hl 1 rfl) ?_
              refine lv_aload_n hx hb dX5_drawn_65 rfl (lv_at hl 0 rfl) ?_
              refine lv_aload_n hx hb dX5_drawn_66 rfl (lv_at hl 0 rfl) ?_
              refine gt_X5_1 hx hb hts hown hK hP (hts _ wl_1_176) dX5_drawn_67 ?_
              refine lv_iload_n hx hb dX5_drawn_70 rfl (lv_at hl 2 rfl) ?_
              obtain ⟨yr10, yd11, yhc71, h⟩ := z_bdx h
              refine z_ki (z_rV (As := [.ref (ad 29), .int yv8]) (rest := [.int yv7]) ⟨hx, hb, hml, hown, hts⟩ hK hP w_X5 rfl (kX5_answersOf hI st_29 yhc71) giX5_208 ⟨rfl, rfl⟩ ndX5_answersOf ⟨Nat.le_of_ble_eq_true rfl, Nat.le_of_ble_eq_true rfl⟩ rfl hl.1 rfl (Nat.le_of_ble_eq_true rfl) ⟨Nat.le_refl _, Nat.le_refl _⟩ dX5_drawn_71) hS (fun H locs hP hS => ?_)
              obtain ⟨yr12, yhc74, h⟩ := z_brx h
              refine z_ki (z_rS (As := [.int yr10]) (rest := [.int yv7]) ⟨hx, hb, hml, hown, hts⟩ hK hP (kJ6_bitCount_0f7a4 yhc74) giX5_237 ⟨rfl, rfl⟩ ndJ6_bitCount_0f7a4 ⟨Nat.le_of_ble_eq_true rfl, Nat.le_of_ble_eq_true rfl⟩ rfl hl.1 rfl (Nat.le_of_ble_eq_true rfl) ⟨Nat.le_refl _, Nat.le_refl _⟩ dX5_drawn_74) hS (fun H locs hP hS => ?_)
              refine lv_iadd hx hb dX5_drawn_77 ?_
              refine lv_topi (fun yv13 e_yv13 => ?_)
              have h := z_nma e_yv13 h
              refine lv_istore_n (lv' := [(2, .int yv13), (0, .ref (ad 0)), (3, .int yv8)]) hx hb dX5_drawn_78 rfl hl (by decide) rfl (fun ls hl => ?_)
              obtain ⟨yv14, e_yv14, h⟩ := z_nmx h
              refine lv_iinc (v := yv14) (lv' := [(3, .int yv14), (2, .int yv13), (0, .ref (ad 0))]) hx hb dX5_drawn_79 hl (k := 2) rfl (by rw [e_yv14]; rfl) (by decide) rfl (fun ls hl => ?_)
              refine lv_goto (tgt := 53) hx hb dX5_drawn_82 (by decide) ?_
              exact ih _ _ _ _ _ _ (hq1 _ (z_sm h).symm) hP hS (lv_sub hl [2, 1, 0] rfl)
        exact hL53 yn53 _ _ _ _ _ _ hlp hP hS (lv_sub hl [2, 1, 0] rfl)
      have hL27 : ∀ (n : Nat) (yv2 : Int32) (yd3 : Dt) (H : Heap) (locs : List Loc) (ls : Array Slot), z_it (bX5_drawn_27 yx1) n (yv2, yd3) = some yt27 → va_P D vwCl (WC G ad yd3) H → va_S A s.heap H locs → lv_has ls 4 [(0, .ref (ad 0)), (1, .int yx1), (2, .int yv2)] → W p l e (z_rm 4 105) s m args below meth c H locs 0 0 Q (F0 m 27 ls []) := by
        intro n
        induction n with
        | zero => intro yv2 yd3 H locs ls hn; exact z_it0 hn
        | succ n ih =>
          intro yv2 yd3 H locs ls hn hP hS hl
          obtain ⟨yq27, h, hq1, hq2⟩ := z_itx hn
          have h : (zif (yx1 ≤ yv2) (some (.inr yd3)) (z_br (fX5_drawEvent yd3 30) fun yd4 => z_nm (yv2 + (1 : Int32)) fun yv5 => some (.inl (yv5, yd4)))) = some yq27 := h
          refine lv_iload_n hx hb dX5_drawn_27 rfl (lv_at hl 2 rfl) ?_
          refine lv_iload_n hx hb dX5_drawn_28 rfl (lv_at hl 1 rfl) ?_
          refine lv_icmp_ge (tgt := 49) hx hb dX5_drawn_29 (by decide) (fun yc29 => ?_) (fun yc29 => ?_)
          · have h := z_ifp yc29 h
            exact hE49 _ _ _ _ (hq2 _ (z_sm h).symm) hP hS (lv_sub hl [0] rfl)
          · have h := z_ifn yc29 h
            refine lv_aload_n hx hb dX5_drawn_32 rfl (lv_at hl 0 rfl) ?_
            refine lv_aload_n hx hb dX5_drawn_33 rfl (lv_at hl 0 rfl) ?_
            refine gt_X5_1 hx hb hts hown hK hP (hts _ wl_1_176) dX5_drawn_34 ?_
            refine gt_X3_0 hx hb hts hown hK hP st_29 (hts _ wl_1_114) dX5_drawn_37 ?_
            obtain ⟨yd4, yhc40, h⟩ := z_brx h
            refine z_kv (z_rV (As := [.ref (ad 30)]) (rest := []) ⟨hx, hb, hml, hown, hts⟩ hK hP w_X5 rfl (kX5_drawEvent hI (el_st st_29) yhc40) giX5_246 ⟨rfl, rfl⟩ ndX5_drawEvent ⟨Nat.le_of_ble_eq_true rfl, Nat.le_of_ble_eq_true rfl⟩ rfl hl.1 rfl (Nat.le_of_ble_eq_true rfl) ⟨Nat.le_refl _, Nat.le_refl _⟩ dX5_drawn_40) hS (fun H locs hP hS => ?_)
            obtain ⟨yv5, e_yv5, h⟩ := z_nmx h
            refine lv_iinc (v := yv5) (lv' := [(2, .int yv5), (0, .ref (ad 0)), (1, .int yx1)]) hx hb dX5_drawn_43 hl (k := 2) rfl (by rw [e_yv5]; rfl) (by decide) rfl (fun ls hl => ?_)
            refine lv_goto (tgt := 27) hx hb dX5_drawn_46 (by decide) ?_
            exact ih _ _ _ _ _ (hq1 _ (z_sm h).symm) hP hS (lv_sub hl [1, 2, 0] rfl)
      exact hL27 yn27 _ _ _ _ _ hlp hP hS (lv_sub hl [1, 2, 0] rfl)
    · have h := z_ifn yc8 h
      refine lv_bipush (v := (-2 : Int32)) hx hb dX5_drawn_11 (by decide) ?_
      exact hRet _ _ _ _ _ _ hP hS h dX5_drawn_13
noncomputable def fX5_keep (yd : Dt) (yx1 : Int32) : Option (Int32 × Dt) :=
  zif (yx1 < 0) (some ((-1 : Int32), yd)) (zif (yx1 < (2 : Int32)) (z_gd (z_in yx1 2) (z_br (fX3_copyFrom yd (464 + 28 * (z_ix yx1)) 1) fun yd1 => z_gd (z_in yx1 2) (z_nm (z_st yd1 59 (z_ix yx1) (1 : Int32)) fun yd2 => some ((yd2.1 2 8), yd2)))) (some ((-1 : Int32), yd)))
set_option maxHeartbeats 4000000 in
set_option maxRecDepth 100000 in
theorem kX5_keep {l : Launch} {D : va_G} {G : z_G} {ad : Nat → Nat} {A : Nat → Prop} (hI : ∀ d, va_D A (WC G ad d)) {yd : Dt} {yx1 : Int32}  {rr : Int32} {dd : Dt} (h : fX5_keep yd yx1 = some (rr, dd)) : z_Mi l D G A (WC G ad) yX5_keep cX5_keep 2 (z_rm 3 83) yd [.ref (ad 0), .int yx1] rr dd := by
  refine z_ofi (by decide) (Nat.le_of_ble_eq_true rfl) fun p e s m args below meth c Q hx hb hml hown hts hK hP hRet ls hl => ?_
  have hS : va_S A s.heap s.heap [] := va_S.rf
  have hl : lv_has ls 2 [(0, .ref (ad 0)), (1, .int yx1)] := hl
  have h : (zif (yx1 < 0) (some ((-1 : Int32), yd)) (zif (yx1 < (2 : Int32)) (z_gd (z_in yx1 2) (z_br (fX3_copyFrom yd (464 + 28 * (z_ix yx1)) 1) fun yd1 => z_gd (z_in yx1 2) (z_nm (z_st yd1 59 (z_ix yx1) (1 : Int32)) fun yd2 => some ((yd2.1 2 8), yd2)))) (some ((-1 : Int32), yd)))) = some (rr, dd) := h
  refine lv_iload_n hx hb dX5_keep_0 rfl (lv_at hl 1 rfl) ?_
  refine lv_if_lt (tgt := 9) hx hb dX5_keep_1 (by decide) (fun yc1 => ?_) (fun yc1 => ?_)
  · have h := z_ifp yc1 h
    refine lv_iconst (v := (-1 : Int32)) hx hb dX5_keep_9 (by decide) ?_
    exact hRet _ _ _ _ _ _ hP hS h dX5_keep_10
  · have h := z_ifn yc1 h
    refine lv_iload_n hx hb dX5_keep_4 rfl (lv_at hl 1 rfl) ?_
    refine lv_iconst (v := (2 : Int32)) hx hb dX5_keep_5 (by decide) ?_
    refine lv_icmp_lt (tgt := 11) hx hb dX5_keep_6 (by decide) (fun yc6 => ?_) (fun yc6 => ?_)
    · have h := z_ifp yc6 h
      refine lv_aload_n hx hb dX5_keep_11 rfl (lv_at hl 0 rfl) ?_
      refine gt_X5_3 hx hb hts hown hK hP (hts _ wl_1_178) dX5_keep_12 ?_
      refine lv_iload_n hx hb dX5_keep_15 rfl (lv_at hl 1 rfl) ?_
      obtain ⟨yg16, h⟩ := z_gi h
      refine rl_58 hx hb hK hP yg16 dX5_keep_16 ?_
      refine lv_aload_n hx hb dX5_keep_17 rfl (lv_at hl 0 rfl) ?_
      refine gt_X5_0 hx hb hts hown hK hP (hts _ wl_1_175) dX5_keep_18 ?_
      obtain ⟨yd1, yhc21, h⟩ := z_brx h
      refine z_kv (z_rV (As := [.ref (ad 1)]) (rest := []) ⟨hx, hb, hml, hown, hts⟩ hK hP (w_X3 (st_slo yg16)) rfl (kX3_copyFrom hI (st_slo yg16) st_1 yhc21) giX5_69 ⟨rfl, rfl⟩ ndX3_copyFrom ⟨Nat.le_of_ble_eq_true rfl, Nat.le_of_ble_eq_true rfl⟩ rfl hl.1 rfl (Nat.le_of_ble_eq_true rfl) ⟨Nat.le_refl _, Nat.le_refl _⟩ dX5_keep_21) hS (fun H locs hP hS => ?_)
      refine lv_aload_n hx hb dX5_keep_24 rfl (lv_at hl 0 rfl) ?_
      refine gt_X5_4 hx hb hts hown hK hP (hts _ wl_1_179) dX5_keep_25 ?_
      refine lv_iload_n hx hb dX5_keep_28 rfl (lv_at hl 1 rfl) ?_
      refine lv_iconst (v := (1 : Int32)) hx hb dX5_keep_29 (by decide) ?_
      obtain ⟨yg30, h⟩ := z_gi h
      refine zs_C hx hb hK hP hI hS yg30 dX5_keep_30 (by decide) (fun H locs yd2 e_yd2 hP hS => ?_)
      have h := z_nma e_yd2 h
      refine lv_aload_n hx hb dX5_keep_31 rfl (lv_at hl 0 rfl) ?_
      refine gt_X5_0 hx hb hts hown hK hP (hts _ wl_1_175) dX5_keep_32 ?_
      refine gt_X3_0 hx hb hts hown hK hP st_1 (hts _ wl_1_114) dX5_keep_35 ?_
      refine gt_X0_8 hx hb hts hown hK hP (el_st st_1) (hts _ wl_1_53) dX5_keep_38 ?_
      exact hRet _ _ _ _ _ _ hP hS h dX5_keep_41
    · have h := z_ifn yc6 h
      refine lv_iconst (v := (-1 : Int32)) hx hb dX5_keep_9 (by decide) ?_
      exact hRet _ _ _ _ _ _ hP hS h dX5_keep_10
noncomputable def fX5_again (yd : Dt) (yx1 : Int32) : Option (Int32 × Dt) :=
  zif (yx1 < 0) (some ((-1 : Int32), yd)) (zif (yx1 < (2 : Int32)) (z_gd (z_in yx1 2) (zif ((yd.1 59 (z_ix yx1)) = 0) (some ((-3 : Int32), yd)) (z_gd (z_in yx1 2) (z_br (fX3_copyFrom yd 1 (464 + 28 * (z_ix yx1))) fun yd1 => z_br (fX5_forgetActions yd1) fun yd2 => some ((yd2.1 2 8), yd2))))) (some ((-1 : Int32), yd)))
set_option maxHeartbeats 4000000 in
set_option maxRecDepth 100000 in
theorem kX5_again {l : Launch} {D : va_G} {G : z_G} {ad : Nat → Nat} {A : Nat → Prop} (hI : ∀ d, va_D A (WC G ad d)) {yd : Dt} {yx1 : Int32}  {rr : Int32} {dd : Dt} (h : fX5_again yd yx1 = some (rr, dd)) : z_Mi l D G A (WC G ad) yX5_again cX5_again 2 (z_rm 3 83) yd [.ref (ad 0), .int yx1] rr dd := by
  refine z_ofi (by decide) (Nat.le_of_ble_eq_true rfl) fun p e s m args below meth c Q hx hb hml hown hts hK hP hRet ls hl => ?_
  have hS : va_S A s.heap s.heap [] := va_S.rf
  have hl : lv_has ls 2 [(0, .ref (ad 0)), (1, .int yx1)] := hl
  have h : (zif (yx1 < 0) (some ((-1 : Int32), yd)) (zif (yx1 < (2 : Int32)) (z_gd (z_in yx1 2) (zif ((yd.1 59 (z_ix yx1)) = 0) (some ((-3 : Int32), yd)) (z_gd (z_in yx1 2) (z_br (fX3_copyFrom yd 1 (464 + 28 * (z_ix yx1))) fun yd1 => z_br (fX5_forgetActions yd1) fun yd2 => some ((yd2.1 2 8), yd2))))) (some ((-1 : Int32), yd)))) = some (rr, dd) := h
  refine lv_iload_n hx hb dX5_again_0 rfl (lv_at hl 1 rfl) ?_
  refine lv_if_lt (tgt := 9) hx hb dX5_again_1 (by decide) (fun yc1 => ?_) (fun yc1 => ?_)
  · have h := z_ifp yc1 h
    refine lv_iconst (v := (-1 : Int32)) hx hb dX5_again_9 (by decide) ?_
    exact hRet _ _ _ _ _ _ hP hS h dX5_again_10
  · have h := z_ifn yc1 h
    refine lv_iload_n hx hb dX5_again_4 rfl (lv_at hl 1 rfl) ?_
    refine lv_iconst (v := (2 : Int32)) hx hb dX5_again_5 (by decide) ?_
    refine lv_icmp_lt (tgt := 11) hx hb dX5_again_6 (by decide) (fun yc6 => ?_) (fun yc6 => ?_)
    · have h := z_ifp yc6 h
      refine lv_aload_n hx hb dX5_again_11 rfl (lv_at hl 0 rfl) ?_
      refine gt_X5_4 hx hb hts hown hK hP (hts _ wl_1_179) dX5_again_12 ?_
      refine lv_iload_n hx hb dX5_again_15 rfl (lv_at hl 1 rfl) ?_
      obtain ⟨yg16, h⟩ := z_gi h
      refine zl_C hx hb hK hP yg16 dX5_again_16 ?_
      refine lv_if_ne (tgt := 23) hx hb dX5_again_17 (by decide) (fun yc17 => ?_) (fun yc17 => ?_)
      · have h := z_ifn yc17 h
        refine lv_aload_n hx hb dX5_again_23 rfl (lv_at hl 0 rfl) ?_
        refine gt_X5_0 hx hb hts hown hK hP (hts _ wl_1_175) dX5_again_24 ?_
        refine lv_aload_n hx hb dX5_again_27 rfl (lv_at hl 0 rfl) ?_
        refine gt_X5_3 hx hb hts hown hK hP (hts _ wl_1_178) dX5_again_28 ?_
        refine lv_iload_n hx hb dX5_again_31 rfl (lv_at hl 1 rfl) ?_
        obtain ⟨yg32, h⟩ := z_gi h
        refine rl_58 hx hb hK hP yg32 dX5_again_32 ?_
        obtain ⟨yd1, yhc33, h⟩ := z_brx h
        refine z_kv (z_rV (As := [.ref (ad (464 + 28 * (z_ix yx1)))]) (rest := []) ⟨hx, hb, hml, hown, hts⟩ hK hP (w_X3 st_1) rfl (kX3_copyFrom hI st_1 (st_slo yg32) yhc33) giX5_69 ⟨rfl, rfl⟩ ndX3_copyFrom ⟨Nat.le_of_ble_eq_true rfl, Nat.le_of_ble_eq_true rfl⟩ rfl hl.1 rfl (Nat.le_of_ble_eq_true rfl) ⟨Nat.le_refl _, Nat.le_refl _⟩ dX5_again_33) hS (fun H locs hP hS => ?_)
        refine lv_aload_n hx hb dX5_again_36 rfl (lv_at hl 0 rfl) ?_
        obtain ⟨yd2, yhc37, h⟩ := z_brx h
        refine z_kv (z_rV (As := []) (rest := []) ⟨hx, hb, hml, hown, hts⟩ hK hP w_X5 rfl (kX5_forgetActions hI yhc37) giX5_73 ⟨rfl, rfl⟩ ndX5_forgetActions ⟨Nat.le_of_ble_eq_true rfl, Nat.le_of_ble_eq_true rfl⟩ rfl hl.1 rfl (Nat.le_of_ble_eq_true rfl) ⟨Nat.le_refl _, Nat.le_refl _⟩ dX5_again_37) hS (fun H locs hP hS => ?_)
        refine lv_aload_n hx hb dX5_again_40 rfl (lv_at hl 0 rfl) ?_
        refine gt_X5_0 hx hb hts hown hK hP (hts _ wl_1_175) dX5_again_41 ?_
        refine gt_X3_0 hx hb hts hown hK hP st_1 (hts _ wl_1_114) dX5_again_44 ?_
        refine gt_X0_8 hx hb hts hown hK hP (el_st st_1) (hts _ wl_1_53) dX5_again_47 ?_
        exact hRet _ _ _ _ _ _ hP hS h dX5_again_50
      · have h := z_ifp yc17 h
        refine lv_bipush (v := (-3 : Int32)) hx hb dX5_again_20 (by decide) ?_
        exact hRet _ _ _ _ _ _ hP hS h dX5_again_22
    · have h := z_ifn yc6 h
      refine lv_iconst (v := (-1 : Int32)) hx hb dX5_again_9 (by decide) ?_
      exact hRet _ _ _ _ _ _ hP hS h dX5_again_10
