noncomputable def bX6_tenThousands_4 (yx0 : Int32) (s : Int64 × Int32) : Option ((Int64 × Int32) ⊕ (Int64)) := match s with
  | (yv1, yv2) => zif (yx0 ≤ yv2) (some (.inr yv1)) (z_nm (yv1 * (10000 : Int64)) fun yv3 => z_nm (yv2 + (1 : Int32)) fun yv4 => some (.inl (yv3, yv4)))
noncomputable def fX6_tenThousands (yx0 : Int32) : Option Int64 :=
  z_br (z_lp (bX6_tenThousands_4 yx0) ((1 : Int64), (0 : Int32))) (fun t => match t with | yv5 => some yv5)
set_option maxHeartbeats 4000000 in
set_option maxRecDepth 100000 in
theorem kX6_tenThousands {l : Launch} {D : va_G} {G : z_G} {A : Nat → Prop} {w : Dt → va_W} {yd : Dt} {yx0 : Int32}  {rr : Int64} (h : fX6_tenThousands yx0 = some rr) : z_Ml l D G A (w) yX6_tenThousands cX6_tenThousands 4 (z_rm 0 0) yd [.int yx0] rr yd := by
  refine z_ofl (by decide) (Nat.le_of_ble_eq_true rfl) fun p e s m args below meth c Q hx hb hml hown hts hK hP hRet ls hl => ?_
  have hS : va_S A s.heap s.heap [] := va_S.rf
  have hl : lv_has ls 4 [(0, .int yx0)] := hl
  have h : (z_br (z_lp (bX6_tenThousands_4 yx0) ((1 : Int64), (0 : Int32))) (fun t => match t with | yv5 => some yv5)) = some rr := h
  refine lv_lconst (v := (1 : Int64)) hx hb dX6_tenThousands_0 (by decide) ?_
  refine lv_lstore_n (lv' := [(1, .long (1 : Int64)), (0, .int yx0)]) hx hb dX6_tenThousands_1 rfl hl (by decide) rfl (fun ls hl => ?_)
  refine lv_iconst (v := (0 : Int32)) hx hb dX6_tenThousands_2 (by decide) ?_
  refine lv_istore_n (lv' := [(3, .int (0 : Int32)), (1, .long (1 : Int64)), (0, .int yx0)]) hx hb dX6_tenThousands_3 rfl hl (by decide) rfl (fun ls hl => ?_)
  obtain ⟨yt4, hlp, h⟩ := z_brx h
  obtain ⟨yn4, hlp⟩ := z_lpx hlp
  have hE21 : ∀ (yv5 : Int64) (H : Heap) (locs : List Loc) (ls : Array Slot), yv5 = yt4 → va_P D vwCl (w yd) H → va_S A s.heap H locs → lv_has ls 4 [(1, .long yv5)] → W p l e (z_rm 0 0) s m args below meth c H locs 0 0 Q (F0 m 21 ls []) := by
    intro yv5 H locs ls et hP hS hl
    subst et
    have h : (some yv5) = some rr := h
    refine lv_lload_n hx hb dX6_tenThousands_21 rfl (lv_at hl 0 rfl) ?_
    exact hRet _ _ _ _ _ _ hP hS (z_pair h) dX6_tenThousands_22
  have hL4 : ∀ (n : Nat) (yv1 : Int64) (yv2 : Int32) (H : Heap) (locs : List Loc) (ls : Array Slot), z_it (bX6_tenThousands_4 yx0) n (yv1, yv2) = some yt4 → va_P D vwCl (w yd) H → va_S A s.heap H locs → lv_has ls 4 [(0, .int yx0), (1, .long yv1), (3, .int yv2)] → W p l e (z_rm 0 0) s m args below meth c H locs 0 0 Q (F0 m 4 ls []) := by
    intro n
    induction n with
    | zero => intro yv1 yv2 H locs ls hn; exact z_it0 hn
    | succ n ih =>
      intro yv1 yv2 H locs ls hn hP hS hl
      obtain ⟨yq4, h, hq1, hq2⟩ := z_itx hn
      have h : (zif (yx0 ≤ yv2) (some (.inr yv1)) (z_nm (yv1 * (10000 : Int64)) fun yv3 => z_nm (yv2 + (1 : Int32)) fun yv4 => some (.inl (yv3, yv4)))) = some yq4 := h
      refine lv_iload_n hx hb dX6_tenThousands_4 rfl (lv_at hl 2 rfl) ?_
      refine lv_iload_n hx hb dX6_tenThousands_5 rfl (lv_at hl 0 rfl) ?_
      refine lv_icmp_ge (tgt := 21) hx hb dX6_tenThousands_6 (by decide) (fun yc6 => ?_) (fun yc6 => ?_)
      · have h := z_ifp yc6 h
        exact hE21 _ _ _ _ (hq2 _ (z_sm h).symm) hP hS (lv_sub hl [1] rfl)
      · have h := z_ifn yc6 h
        refine lv_lload_n hx hb dX6_tenThousands_9 rfl (lv_at hl 1 rfl) ?_
        refine lv_ldc2 hx hb hown (hts _ wl_4_174) dX6_tenThousands_10 ?_
        refine lv_lmul hx hb dX6_tenThousands_13 ?_
        refine lv_topl (fun yv3 e_yv3 => ?_)
        have h := z_nma e_yv3 h
        refine lv_lstore_n (lv' := [(1, .long yv3), (0, .int yx0), (3, .int yv2)]) hx hb dX6_tenThousands_14 rfl hl (by decide) rfl (fun ls hl => ?_)
        obtain ⟨yv4, e_yv4, h⟩ := z_nmx h
        refine lv_iinc (v := yv4) (lv' := [(3, .int yv4), (1, .long yv3), (0, .int yx0)]) hx hb dX6_tenThousands_15 hl (k := 2) rfl (by rw [e_yv4]; rfl) (by decide) rfl (fun ls hl => ?_)
        refine lv_goto (tgt := 4) hx hb dX6_tenThousands_18 (by decide) ?_
        exact ih _ _ _ _ _ (hq1 _ (z_sm h).symm) hP hS (lv_sub hl [2, 1, 0] rfl)
  exact hL4 yn4 _ _ _ _ _ hlp hP hS (lv_sub hl [2, 1, 0] rfl)
noncomputable def fX6_isStep (yx0 : Int32) : Option Int32 :=
  zif ((2 : Int32) ≤ (yx0 / (1000 : Int32))) (some (0 : Int32)) (zif ((5 : Int32) < ((yx0 / (100 : Int32)) - (yx0 / (100 : Int32)) / (10 : Int32) * (10 : Int32))) (some (0 : Int32)) (zif ((16 : Int32) ≤ (yx0 - yx0 / (100 : Int32) * (100 : Int32))) (some (0 : Int32)) (some (1 : Int32))))
set_option maxHeartbeats 4000000 in
set_option maxRecDepth 100000 in
theorem kX6_isStep {l : Launch} {D : va_G} {G : z_G} {A : Nat → Prop} {w : Dt → va_W} {yd : Dt} {yx0 : Int32}  {rr : Int32} (h : fX6_isStep yx0 = some rr) : z_Mz l D G A (w) yX6_isStep cX6_isStep 1 (z_rm 0 0) yd [.int yx0] rr yd := by
  refine z_ofz (by decide) (Nat.le_of_ble_eq_true rfl) fun p e s m args below meth c Q hx hb hml hown hts hK hP hRet ls hl => ?_
  have hS : va_S A s.heap s.heap [] := va_S.rf
  have hl : lv_has ls 1 [(0, .int yx0)] := hl
  have h : (zif ((2 : Int32) ≤ (yx0 / (1000 : Int32))) (some (0 : Int32)) (zif ((5 : Int32) < ((yx0 / (100 : Int32)) - (yx0 / (100 : Int32)) / (10 : Int32) * (10 : Int32))) (some (0 : Int32)) (zif ((16 : Int32) ≤ (yx0 - yx0 / (100 : Int32) * (100 : Int32))) (some (0 : Int32)) (some (1 : Int32))))) = some rr := h
  refine lv_iload_n hx hb dX6_isStep_0 rfl (lv_at hl 0 rfl) ?_
  refine lv_sipush (v := (1000 : Int32)) hx hb dX6_isStep_1 (by decide) ?_
  refine lv_idiv hx hb dX6_isStep_4 (by decide) ?_
  refine lv_iconst (v := (2 : Int32)) hx hb dX6_isStep_5 (by decide) ?_
  refine lv_icmp_ge (tgt := 33) hx hb dX6_isStep_6 (by decide) (fun yc6 => ?_) (fun yc6 => ?_)
  · have h := z_ifp yc6 h
    refine lv_iconst (v := (0 : Int32)) hx hb dX6_isStep_33 (by decide) ?_
    exact hRet _ _ _ _ _ _ hP hS (Or.inl rfl) (z_pair h) dX6_isStep_34
  · have h := z_ifn yc6 h
    refine lv_iload_n hx hb dX6_isStep_9 rfl (lv_at hl 0 rfl) ?_
    refine lv_bipush (v := (100 : Int32)) hx hb dX6_isStep_10 (by decide) ?_
    refine lv_idiv hx hb dX6_isStep_12 (by decide) ?_
    refine lv_bipush (v := (10 : Int32)) hx hb dX6_isStep_13 (by decide) ?_
    refine lv_irem hx hb dX6_isStep_15 (by decide) ?_
    refine lv_iconst (v := (5 : Int32)) hx hb dX6_isStep_16 (by decide) ?_
    refine lv_icmp_gt (tgt := 33) hx hb dX6_isStep_17 (by decide) (fun yc17 => ?_) (fun yc17 => ?_)
    · have h := z_ifp yc17 h
      refine lv_iconst (v := (0 : Int32)) hx hb dX6_isStep_33 (by decide) ?_
      exact hRet _ _ _ _ _ _ hP hS (Or.inl rfl) (z_pair h) dX6_isStep_34
    · have h := z_ifn yc17 h
      refine lv_iload_n hx hb dX6_isStep_20 rfl (lv_at hl 0 rfl) ?_
      refine lv_bipush (v := (100 : Int32)) hx hb dX6_isStep_21 (by decide) ?_
      refine lv_irem hx hb dX6_isStep_23 (by decide) ?_
      refine lv_bipush (v := (16 : Int32)) hx hb dX6_isStep_24 (by decide) ?_
      refine lv_icmp_ge (tgt := 33) hx hb dX6_isStep_26 (by decide) (fun yc26 => ?_) (fun yc26 => ?_)
      · have h := z_ifp yc26 h
        refine lv_iconst (v := (0 : Int32)) hx hb dX6_isStep_33 (by decide) ?_
        exact hRet _ _ _ _ _ _ hP hS (Or.inl rfl) (z_pair h) dX6_isStep_34
      · have h := z_ifn yc26 h
        refine lv_iconst (v := (1 : Int32)) hx hb dX6_isStep_29 (by decide) ?_
        refine lv_goto (tgt := 34) hx hb dX6_isStep_30 (by decide) ?_
        exact hRet _ _ _ _ _ _ hP hS (Or.inr rfl) (z_pair h) dX6_isStep_34
noncomputable def fX6_stepOf (yx0 : Int64) (yx1 : Int32) (yx2 : Int32) : Option Int32 :=
  zif (yx1 ≤ yx2) (some (0 : Int32)) (z_br (fX6_tenThousands ((yx1 - (1 : Int32)) - yx2)) fun yr1 => z_gd (z_dc (¬ yr1 = 0)) (some (((yx0 / yr1) - (yx0 / yr1) / (10000 : Int64) * (10000 : Int64)).toInt32)))
set_option maxHeartbeats 4000000 in
set_option maxRecDepth 100000 in
theorem kX6_stepOf {l : Launch} {D : va_G} {G : z_G} {A : Nat → Prop} {w : Dt → va_W} {yd : Dt} {yx0 : Int64} {yx1 : Int32} {yx2 : Int32}  {rr : Int32} (h : fX6_stepOf yx0 yx1 yx2 = some rr) : z_Mi l D G A (w) yX6_stepOf cX6_stepOf 4 (z_rm 1 23) yd [.long yx0, .int yx1, .int yx2] rr yd := by
  refine z_ofi (by decide) (Nat.le_of_ble_eq_true rfl) fun p e s m args below meth c Q hx hb hml hown hts hK hP hRet ls hl => ?_
  have hS : va_S A s.heap s.heap [] := va_S.rf
  have hl : lv_has ls 4 [(0, .long yx0), (2, .int yx1), (3, .int yx2)] := hl
  have h : (zif (yx1 ≤ yx2) (some (0 : Int32)) (z_br (fX6_tenThousands ((yx1 - (1 : Int32)) - yx2)) fun yr1 => z_gd (z_dc (¬ yr1 = 0)) (some (((yx0 / yr1) - (yx0 / yr1) / (10000 : Int64) * (10000 : Int64)).toInt32)))) = some rr := h
  refine lv_iload_n hx hb dX6_stepOf_0 rfl (lv_at hl 2 rfl) ?_
  refine lv_iload_n hx hb dX6_stepOf_1 rfl (lv_at hl 1 rfl) ?_
  refine lv_icmp_ge (tgt := 23) hx hb dX6_stepOf_2 (by decide) (fun yc2 => ?_) (fun yc2 => ?_)
  · have h := z_ifp yc2 h
    refine lv_iconst (v := (0 : Int32)) hx hb dX6_stepOf_23 (by decide) ?_
    exact hRet _ _ _ _ _ _ hP hS (z_pair h) dX6_stepOf_24
  · have h := z_ifn yc2 h
    refine lv_lload_n hx hb dX6_stepOf_5 rfl (lv_at hl 0 rfl) ?_
    refine lv_iload_n hx hb dX6_stepOf_6 rfl (lv_at hl 1 rfl) ?_
    refine lv_iconst (v := (1 : Int32)) hx hb dX6_stepOf_7 (by decide) ?_
    refine lv_isub hx hb dX6_stepOf_8 ?_
    refine lv_iload_n hx hb dX6_stepOf_9 rfl (lv_at hl 2 rfl) ?_
    refine lv_isub hx hb dX6_stepOf_10 ?_
    obtain ⟨yr1, yhc11, h⟩ := z_brx h
    refine z_kl (z_rS (As := [.int ((yx1 - (1 : Int32)) - yx2)]) (rest := [.long yx0]) ⟨hx, hb, hml, hown, hts⟩ hK hP (kX6_tenThousands yhc11) giX6_225 ⟨rfl, rfl⟩ ndX6_tenThousands ⟨Nat.le_of_ble_eq_true rfl, Nat.le_of_ble_eq_true rfl⟩ rfl hl.1 rfl (Nat.le_of_ble_eq_true rfl) ⟨Nat.le_refl _, Nat.le_refl _⟩ dX6_stepOf_11) hS (fun H locs hP hS => ?_)
    obtain ⟨yg14, h⟩ := z_gp h
    refine lv_ldiv hx hb dX6_stepOf_14 yg14 ?_
    refine lv_ldc2 hx hb hown (hts _ wl_4_174) dX6_stepOf_15 ?_
    refine lv_lrem hx hb dX6_stepOf_18 (by decide) ?_
    refine lv_l2i (v := ((yx0 / yr1) - (yx0 / yr1) / (10000 : Int64) * (10000 : Int64)).toInt32) hx hb dX6_stepOf_19 rfl ?_
    refine lv_goto (tgt := 24) hx hb dX6_stepOf_20 (by decide) ?_
    exact hRet _ _ _ _ _ _ hP hS (z_pair h) dX6_stepOf_24
noncomputable def bX6_ask_32 (yx1 : Int32) (yx2 : Int64) (s : Int32) : Option ((Int32) ⊕ ((Unit) ⊕ (Unit))) := match s with
  | yv4 => zif (yx1 ≤ yv4) (some (.inr (.inr ()))) (z_br (fX6_stepOf yx2 yx1 yv4) fun yr5 => z_br (fX6_isStep yr5) fun yr6 => zif (yr6 = 0) (some (.inr (.inl ()))) (z_nm (yv4 + (1 : Int32)) fun yv7 => some (.inl yv7)))
noncomputable def fX6_ask (yd : Dt) (yx1 : Int32) (yx2 : Int64) : Option (Int32 × Dt) :=
  z_br (fX6_in (yx1.toInt64) (1 : Int64) (4 : Int64)) fun yr1 => zif (yr1 = 0) (some ((-2 : Int32), yd)) (z_br (fX6_tenThousands yx1) fun yr2 => z_br (fX6_in yx2 (0 : Int64) (yr2 - (1 : Int64))) fun yr3 => zif (yr3 = 0) (some ((-2 : Int32), yd)) (z_br (z_lp (bX6_ask_32 yx1 yx2) (0 : Int32)) (fun t => match t with | .inl () => some ((-2 : Int32), yd) | .inr () => zif ((yd.1 2 (z_ix (83 : Int32))) = (5 : Int32)) (some ((-4 : Int32), yd)) (z_br (fX6_note yd) fun yd8 => z_br (fX6_stepOf yx2 yx1 (0 : Int32)) fun yr9 => z_br (fX6_stepOf yx2 yx1 (1 : Int32)) fun yr10 => z_br (fX6_stepOf yx2 yx1 (2 : Int32)) fun yr11 => z_br (fX6_stepOf yx2 yx1 (3 : Int32)) fun yr12 => z_br (fX6_askOn yd8 2 yx1 yr9 yr10 yr11 yr12) fun yd13 => some (((yd13.1 2 (z_ix (83 : Int32))) - (1 : Int32)), yd13)))))
set_option maxHeartbeats 4000000 in
set_option maxRecDepth 100000 in
theorem kX6_ask {l : Launch} {D : va_G} {G : z_G} {ad : Nat → Nat} {A : Nat → Prop} (hI : ∀ d, va_D A (WM G ad d)) {yd : Dt} {yx1 : Int32} {yx2 : Int64}  {rr : Int32} {dd : Dt} (h : fX6_ask yd yx1 yx2 = some (rr, dd)) : z_Mi l D G A (WM G ad) yX6_ask cX6_ask 5 (z_rm 10 257) yd [.ref (ad 0), .int yx1, .long yx2] rr dd := by
  refine z_ofi (by decide) (Nat.le_of_ble_eq_true rfl) fun p e s m args below meth c Q hx hb hml hown hts hK hP hRet ls hl => ?_
  have hS : va_S A s.heap s.heap [] := va_S.rf
  have hl : lv_has ls 5 [(0, .ref (ad 0)), (1, .int yx1), (2, .long yx2)] := hl
  have h : (z_br (fX6_in (yx1.toInt64) (1 : Int64) (4 : Int64)) fun yr1 => zif (yr1 = 0) (some ((-2 : Int32), yd)) (z_br (fX6_tenThousands yx1) fun yr2 => z_br (fX6_in yx2 (0 : Int64) (yr2 - (1 : Int64))) fun yr3 => zif (yr3 = 0) (some ((-2 : Int32), yd)) (z_br (z_lp (bX6_ask_32 yx1 yx2) (0 : Int32)) (fun t => match t with | .inl () => some ((-2 : Int32), yd) | .inr () => zif ((yd.1 2 (z_ix (83 : Int32))) = (5 : Int32)) (some ((-4 : Int32), yd)) (z_br (fX6_note yd) fun yd8 => z_br (fX6_stepOf yx2 yx1 (0 : Int32)) fun yr9 => z_br (fX6_stepOf yx2 yx1 (1 : Int32)) fun yr10 => z_br (fX6_stepOf yx2 yx1 (2 : Int32)) fun yr11 => z_br (fX6_stepOf yx2 yx1 (3 : Int32)) fun yr12 => z_br (fX6_askOn yd8 2 yx1 yr9 yr10 yr11 yr12) fun yd13 => some (((yd13.1 2 (z_ix (83 : Int32))) - (1 : Int32)), yd13)))))) = some (rr, dd) := h
  refine lv_iload_n hx hb dX6_ask_0 rfl (lv_at hl 1 rfl) ?_
  refine lv_i2l (v := yx1.toInt64) hx hb dX6_ask_1 rfl ?_
  refine lv_lconst (v := (1 : Int64)) hx hb dX6_ask_2 (by decide) ?_
  refine lv_ldc2 hx hb hown (hts _ wl_4_15) dX6_ask_3 ?_
  obtain ⟨yr1, yhc6, h⟩ := z_brx h
  refine z_kz (z_rS (As := [.long (yx1.toInt64), .long (1 : Int64), .long (4 : Int64)]) (rest := []) ⟨hx, hb, hml, hown, hts⟩ hK hP (kX6_in yhc6) giX6_64 ⟨rfl, rfl⟩ ndX6_in ⟨Nat.le_of_ble_eq_true rfl, Nat.le_of_ble_eq_true rfl⟩ rfl hl.1 rfl (Nat.le_of_ble_eq_true rfl) ⟨Nat.le_refl _, Nat.le_refl _⟩ dX6_ask_6) hS (fun H locs z_yr1 hP hS => ?_)
  refine lv_if_eq (tgt := 26) hx hb dX6_ask_9 (by decide) (fun yc9 => ?_) (fun yc9 => ?_)
  · have h := z_ifp yc9 h
    refine lv_bipush (v := (-2 : Int32)) hx hb dX6_ask_26 (by decide) ?_
    exact hRet _ _ _ _ _ _ hP hS h dX6_ask_28
  · have h := z_ifn yc9 h
    refine lv_lload_n hx hb dX6_ask_12 rfl (lv_at hl 2 rfl) ?_
    refine lv_lconst (v := (0 : Int64)) hx hb dX6_ask_13 (by decide) ?_
    refine lv_iload_n hx hb dX6_ask_14 rfl (lv_at hl 1 rfl) ?_
    obtain ⟨yr2, yhc15, h⟩ := z_brx h
    refine z_kl (z_rS (As := [.int yx1]) (rest := [.long (0 : Int64), .long yx2]) ⟨hx, hb, hml, hown, hts⟩ hK hP (kX6_tenThousands yhc15) giX6_225 ⟨rfl, rfl⟩ ndX6_tenThousands ⟨Nat.le_of_ble_eq_true rfl, Nat.le_of_ble_eq_true rfl⟩ rfl hl.1 rfl (Nat.le_of_ble_eq_true rfl) ⟨Nat.le_refl _, Nat.le_refl _⟩ dX6_ask_15) hS (fun H locs hP hS => ?_)
    refine lv_lconst (v := (1 : Int64)) hx hb dX6_ask_18 (by decide) ?_
    refine lv_lsub hx hb dX6_ask_19 ?_
    obtain ⟨yr3, yhc20, h⟩ := z_brx h
    refine z_kz (z_rS (As := [.long yx2, .long (0 : Int64), .long (yr2 - (1 : Int64))]) (rest := []) ⟨hx, hb, hml, hown, hts⟩ hK hP (kX6_in yhc20) giX6_64 ⟨rfl, rfl⟩ ndX6_in ⟨Nat.le_of_ble_eq_true rfl, Nat.le_of_ble_eq_true rfl⟩ rfl hl.1 rfl (Nat.le_of_ble_eq_true rfl) ⟨Nat.le_refl _, Nat.le_refl _⟩ dX6_ask_20) hS (fun H locs z_yr3 hP hS => ?_)
    refine lv_if_ne (tgt := 29) hx hb dX6_ask_23 (by decide) (fun yc23 => ?_) (fun yc23 => ?_)
    · have h := z_ifn yc23 h
      refine lv_iconst (v := (0 : Int32)) hx hb dX6_ask_29 (by decide) ?_
      refine lv_istore (lv' := [(4, .int (0 : Int32)), (0, .ref (ad 0)), (1, .int yx1), (2, .long yx2)]) hx hb dX6_ask_30 hl (by decide) rfl (fun ls hl => ?_)
      obtain ⟨yt32, hlp, h⟩ := z_brx h
      obtain ⟨yn32, hlp⟩ := z_lpx hlp
      have hE51 : ∀  (H : Heap) (locs : List Loc) (ls : Array Slot), (.inl ()) = yt32 → va_P D vwCl (WM G ad yd) H → va_S A s.heap H locs → lv_has ls 5 [] → W p l e (z_rm 10 257) s m args below meth c H locs 0 0 Q (F0 m 51 ls []) := by
        intro  H locs ls et hP hS hl
        subst et
        have h : (some ((-2 : Int32), yd)) = some (rr, dd) := h
        refine lv_bipush (v := (-2 : Int32)) hx hb dX6_ask_51 (by decide) ?_
        exact hRet _ _ _ _ _ _ hP hS h dX6_ask_53
      have hE60 : ∀  (H : Heap) (locs : List Loc) (ls : Array Slot), (.inr ()) = yt32 → va_P D vwCl (WM G ad yd) H → va_S A s.heap H locs → lv_has ls 5 [(0, .ref (ad 0)), (1, .int yx1), (2, .long yx2)] → W p l e (z_rm 10 257) s m args below meth c H locs 0 0 Q (F0 m 60 ls []) := by
        intro  H locs ls et hP hS hl
        subst et
        have h : (zif ((yd.1 2 (z_ix (83 : Int32))) = (5 : Int32)) (some ((-4 : Int32), yd)) (z_br (fX6_note yd) fun yd8 => z_br (fX6_stepOf yx2 yx1 (0 : Int32)) fun yr9 => z_br (fX6_stepOf yx2 yx1 (1 : Int32)) fun yr10 => z_br (fX6_stepOf yx2 yx1 (2 : Int32)) fun yr11 => z_br (fX6_stepOf yx2 yx1 (3 : Int32)) fun yr12 => z_br (fX6_askOn yd8 2 yx1 yr9 yr10 yr11 yr12) fun yd13 => some (((yd13.1 2 (z_ix (83 : Int32))) - (1 : Int32)), yd13))) = some (rr, dd) := h
        refine lv_aload_n hx hb dX6_ask_60 rfl (lv_at hl 0 rfl) ?_
        refine gt_X6_2 hx hb hts hown hK hP (hts _ wl_3_136) dX6_ask_61 ?_
        refine lv_bipush (v := (83 : Int32)) hx hb dX6_ask_64 (by decide) ?_
        refine al_M hx hb hK hP rfl (by decide) (z_li (by decide) : vp_in (83 : Int32) 214) dX6_ask_66 ?_
        refine lv_iconst (v := (5 : Int32)) hx hb dX6_ask_67 (by decide) ?_
        refine lv_icmp_ne (tgt := 74) hx hb dX6_ask_68 (by decide) (fun yc68 => ?_) (fun yc68 => ?_)
        · have h := z_ifn yc68 h
          refine lv_aload_n hx hb dX6_ask_74 rfl (lv_at hl 0 rfl) ?_
          obtain ⟨yd8, yhc75, h⟩ := z_brx h
          refine z_kv (z_rV (As := []) (rest := []) ⟨hx, hb, hml, hown, hts⟩ hK hP w_X6 rfl (kX6_note hI yhc75) giX6_218 ⟨rfl, rfl⟩ ndX6_note ⟨Nat.le_of_ble_eq_true rfl, Nat.le_of_ble_eq_true rfl⟩ rfl hl.1 rfl (Nat.le_of_ble_eq_true rfl) ⟨Nat.le_refl _, Nat.le_refl _⟩ dX6_ask_75) hS (fun H locs hP hS => ?_)
          refine lv_aload_n hx hb dX6_ask_78 rfl (lv_at hl 0 rfl) ?_
          refine lv_aload_n hx hb dX6_ask_79 rfl (lv_at hl 0 rfl) ?_
          refine gt_X6_2 hx hb hts hown hK hP (hts _ wl_3_136) dX6_ask_80 ?_
          refine lv_iload_n hx hb dX6_ask_83 rfl (lv_at hl 1 rfl) ?_
          refine lv_lload_n hx hb dX6_ask_84 rfl (lv_at hl 2 rfl) ?_
          refine lv_iload_n hx hb dX6_ask_85 rfl (lv_at hl 1 rfl) ?_
          refine lv_iconst (v := (0 : Int32)) hx hb dX6_ask_86 (by decide) ?_
          obtain ⟨yr9, yhc87, h⟩ := z_brx h
          refine z_ki (z_rS (As := [.long yx2, .int yx1, .int (0 : Int32)]) (rest := [.int yx1, .ref (ad 2), .ref (ad 0)]) ⟨hx, hb, hml, hown, hts⟩ hK hP (kX6_stepOf yhc87) giX6_229 ⟨rfl, rfl⟩ ndX6_stepOf ⟨Nat.le_of_ble_eq_true rfl, Nat.le_of_ble_eq_true rfl⟩ rfl hl.1 rfl (Nat.le_of_ble_eq_true rfl) ⟨Nat.le_refl _, Nat.le_refl _⟩ dX6_ask_87) hS (fun H locs hP hS => ?_)
          refine lv_lload_n hx hb dX6_ask_90 rfl (lv_at hl 2 rfl) ?_
          refine lv_iload_n hx hb dX6_ask_91 rfl (lv_at hl 1 rfl) ?_
          refine lv_iconst (v := (1 : Int32)) hx hb dX6_ask_92 (by decide) ?_
          obtain ⟨yr10, yhc93, h⟩ := z_brx h
          refine z_ki (z_rS (As := [.long yx2, .int yx1, .int (1 : Int32)]) (rest := [.int yr9, .int yx1, .ref (ad 2), .ref (ad 0)]) ⟨hx, hb, hml, hown, hts⟩ hK hP (kX6_stepOf yhc93) giX6_229 ⟨rfl, rfl⟩ ndX6_stepOf ⟨Nat.le_of_ble_eq_true rfl, Nat.le_of_ble_eq_true rfl⟩ rfl hl.1 rfl (Nat.le_of_ble_eq_true rfl) ⟨Nat.le_refl _, Nat.le_refl _⟩ dX6_ask_93) hS (fun H locs hP hS => ?_)
          refine lv_lload_n hx hb dX6_ask_96 rfl (lv_at hl 2 rfl) ?_
          refine lv_iload_n hx hb dX6_ask_97 rfl (lv_at hl 1 rfl) ?_
          refine lv_iconst (v := (2 : Int32)) hx hb dX6_ask_98 (by decide) ?_
          obtain ⟨yr11, yhc99, h⟩ := z_brx h
          refine z_ki (z_rS (As := [.long yx2, .int yx1, .int (2 : Int32)]) (rest := [.int yr10, .int yr9, .int yx1, .ref (ad 2), .ref (ad 0)]) ⟨hx, hb, hml, hown, hts⟩ hK hP (kX6_stepOf yhc99) giX6_229 ⟨rfl, rfl⟩ ndX6_stepOf ⟨Nat.le_of_ble_eq_true rfl, Nat.le_of_ble_eq_true rfl⟩ rfl hl.1 rfl (Nat.le_of_ble_eq_true rfl) ⟨Nat.le_refl _, Nat.le_refl _⟩ dX6_ask_99) hS (fun H locs hP hS => ?_)
          refine lv_lload_n hx hb dX6_ask_102 rfl (lv_at hl 2 rfl) ?_
          refine lv_iload_n hx hb dX6_ask_103 rfl (lv_at hl 1 rfl) ?_
          refine lv_iconst (v := (3 : Int32)) hx hb dX6_ask_104 (by decide) ?_
          obtain ⟨yr12, yhc105, h⟩ := z_brx h
          refine z_ki (z_rS (As := [.long yx2, .int yx1, .int (3 : Int32)]) (rest := [.int yr11, .int yr10, .int yr9, .int yx1, .ref (ad 2), .ref (ad 0)]) ⟨hx, hb, hml, hown, hts⟩ hK hP (kX6_stepOf yhc105) giX6_229 ⟨rfl, rfl⟩ ndX6_stepOf ⟨Nat.le_of_ble_eq_true rfl, Nat.le_of_ble_eq_true rfl⟩ rfl hl.1 rfl (Nat.le_of_ble_eq_true rfl) ⟨Nat.le_refl _, Nat.le_refl _⟩ dX6_ask_105) hS (fun H locs hP hS => ?_)
          obtain ⟨yd13, yhc108, h⟩ := z_brx h
          refine z_kv (z_rV (As := [.ref (ad 2), .int yx1, .int yr9, .int yr10, .int yr11, .int yr12]) (rest := []) ⟨hx, hb, hml, hown, hts⟩ hK hP w_X6 rfl (kX6_askOn hI rfl yhc108) giX6_184 ⟨rfl, rfl⟩ ndX6_askOn ⟨Nat.le_of_ble_eq_true rfl, Nat.le_of_ble_eq_true rfl⟩ rfl hl.1 rfl (Nat.le_of_ble_eq_true rfl) ⟨Nat.le_refl _, Nat.le_refl _⟩ dX6_ask_108) hS (fun H locs hP hS => ?_)
          refine lv_aload_n hx hb dX6_ask_111 rfl (lv_at hl 0 rfl) ?_
          refine gt_X6_2 hx hb hts hown hK hP (hts _ wl_3_136) dX6_ask_112 ?_
          refine lv_bipush (v := (83 : Int32)) hx hb dX6_ask_115 (by decide) ?_
          refine al_M hx hb hK hP rfl (by decide) (z_li (by decide) : vp_in (83 : Int32) 214) dX6_ask_117 ?_
          refine lv_iconst (v := (1 : Int32)) hx hb dX6_ask_118 (by decide) ?_
          refine lv_isub hx hb dX6_ask_119 ?_
          exact hRet _ _ _ _ _ _ hP hS h dX6_ask_120
        · have h := z_ifp yc68 h
          refine lv_bipush (v := (-4 : Int32)) hx hb dX6_ask_71 (by decide) ?_
          exact hRet _ _ _ _ _ _ hP hS h dX6_ask_73
      have hL32 : ∀ (n : Nat) (yv4 : Int32) (H : Heap) (locs : List Loc) (ls : Array Slot), z_it (bX6_ask_32 yx1 yx2) n yv4 = some yt32 → va_P D vwCl (WM G ad yd) H → va_S A s.heap H locs → lv_has ls 5 [(0, .ref (ad 0)), (1, .int yx1), (2, .long yx2), (4, .int yv4)] → W p l e (z_rm 10 257) s m args below meth c H locs 0 0 Q (F0 m 32 ls []) := by
        intro n
        induction n with
        | zero => intro yv4 H locs ls hn; exact z_it0 hn
        | succ n ih =>
          intro yv4 H locs ls hn hP hS hl
          obtain ⟨yq32, h, hq1, hq2⟩ := z_itx hn
          have h : (zif (yx1 ≤ yv4) (some (.inr (.inr ()))) (z_br (fX6_stepOf yx2 yx1 yv4) fun yr5 => z_br (fX6_isStep yr5) fun yr6 => zif (yr6 = 0) (some (.inr (.inl ()))) (z_nm (yv4 + (1 : Int32)) fun yv7 => some (.inl yv7)))) = some yq32 := h
          refine lv_iload hx hb dX6_ask_32 (lv_at hl 3 rfl) ?_
          refine lv_iload_n hx hb dX6_ask_34 rfl (lv_at hl 1 rfl) ?_
          refine lv_icmp_ge (tgt := 60) hx hb dX6_ask_35 (by decide) (fun yc35 => ?_) (fun yc35 => ?_)
          · have h := z_ifp yc35 h
            exact hE60  _ _ _ (hq2 _ (z_sm h).symm) hP hS (lv_sub hl [0, 1, 2] rfl)
          · have h := z_ifn yc35 h
            refine lv_lload_n hx hb dX6_ask_38 rfl (lv_at hl 2 rfl) ?_
            refine lv_iload_n hx hb dX6_ask_39 rfl (lv_at hl 1 rfl) ?_
            refine lv_iload hx hb dX6_ask_40 (lv_at hl 3 rfl) ?_
            obtain ⟨yr5, yhc42, h⟩ := z_brx h
            refine z_ki (z_rS (As := [.long yx2, .int yx1, .int yv4]) (rest := []) ⟨hx, hb, hml, hown, hts⟩ hK hP (kX6_stepOf yhc42) giX6_229 ⟨rfl, rfl⟩ ndX6_stepOf ⟨Nat.le_of_ble_eq_true rfl, Nat.le_of_ble_eq_true rfl⟩ rfl hl.1 rfl (Nat.le_of_ble_eq_true rfl) ⟨Nat.le_refl _, Nat.le_refl _⟩ dX6_ask_42) hS (fun H locs hP hS => ?_)
            obtain ⟨yr6, yhc45, h⟩ := z_brx h
            refine z_kz (z_rS (As := [.int yr5]) (rest := []) ⟨hx, hb, hml, hown, hts⟩ hK hP (kX6_isStep yhc45) giX6_233 ⟨rfl, rfl⟩ ndX6_isStep ⟨Nat.le_of_ble_eq_true rfl, Nat.le_of_ble_eq_true rfl⟩ rfl hl.1 rfl (Nat.le_of_ble_eq_true rfl) ⟨Nat.le_refl _, Nat.le_refl _⟩ dX6_ask_45) hS (fun H locs z_yr6 hP hS => ?_)
            refine lv_if_ne (tgt := 54) hx hb dX6_ask_48 (by decide) (fun yc48 => ?_) (fun yc48 => ?_)
            · have h := z_ifn yc48 h
              obtain ⟨yv7, e_yv7, h⟩ := z_nmx h
              refine lv_iinc (v := yv7) (lv' := [(4, .int yv7), (0, .ref (ad 0)), (1, .int yx1), (2, .long yx2)]) hx hb dX6_ask_54 hl (k := 3) rfl (by rw [e_yv7]; rfl) (by decide) rfl (fun ls hl => ?_)
              refine lv_goto (tgt := 32) hx hb dX6_ask_57 (by decide) ?_
              exact ih _ _ _ _ (hq1 _ (z_sm h).symm) hP hS (lv_sub hl [1, 2, 3, 0] rfl)
            · have h := z_ifp yc48 h
              exact hE51  _ _ _ (hq2 _ (z_sm h).symm) hP hS (lv_sub hl [] rfl)
      exact hL32 yn32 _ _ _ _ hlp hP hS (lv_sub hl [1, 2, 3, 0] rfl)
    · have h := z_ifp yc23 h
      refine lv_bipush (v := (-2 : Int32)) hx hb dX6_ask_26 (by decide) ?_
      exact hRet _ _ _ _ _ _ hP hS h dX6_ask_28
noncomputable def fX6_drop (yd : Dt) : Option (Int32 × Dt) :=
  zif ((yd.1 2 (z_ix (83 : Int32))) = 0) (some ((-3 : Int32), yd)) (z_br (fX6_note yd) fun yd1 => z_nm (z_st yd1 2 (z_ix (83 : Int32)) ((yd1.1 2 (z_ix (83 : Int32))) - (1 : Int32))) fun yd2 => some ((yd2.1 2 (z_ix (83 : Int32))), yd2))
set_option maxHeartbeats 4000000 in
set_option maxRecDepth 100000 in
theorem kX6_drop {l : Launch} {D : va_G} {G : z_G} {ad : Nat → Nat} {A : Nat → Prop} (hI : ∀ d, va_D A (WM G ad d)) {yd : Dt}   {rr : Int32} {dd : Dt} (h : fX6_drop yd = some (rr, dd)) : z_Mi l D G A (WM G ad) yX6_drop cX6_drop 1 (z_rm 1 21) yd [.ref (ad 0)] rr dd := by
  refine z_ofi (by decide) (Nat.le_of_ble_eq_true rfl) fun p e s m args below meth c Q hx hb hml hown hts hK hP hRet ls hl => ?_
  have hS : va_S A s.heap s.heap [] := va_S.rf
  have hl : lv_has ls 1 [(0, .ref (ad 0))] := hl
  have h : (zif ((yd.1 2 (z_ix (83 : Int32))) = 0) (some ((-3 : Int32), yd)) (z_br (fX6_note yd) fun yd1 => z_nm (z_st yd1 2 (z_ix (83 : Int32)) ((yd1.1 2 (z_ix (83 : Int32))) - (1 : Int32))) fun yd2 => some ((yd2.1 2 (z_ix (83 : Int32))), yd2))) = some (rr, dd) := h
  refine lv_aload_n hx hb dX6_drop_0 rfl (lv_at hl 0 rfl) ?_
  refine gt_X6_2 hx hb hts hown hK hP (hts _ wl_3_136) dX6_drop_1 ?_
  refine lv_bipush (v := (83 : Int32)) hx hb dX6_drop_4 (by decide) ?_
  refine al_M hx hb hK hP rfl (by decide) (z_li (by decide) : vp_in (83 : Int32) 214) dX6_drop_6 ?_
  refine lv_if_ne (tgt := 13) hx hb dX6_drop_7 (by decide) (fun yc7 => ?_) (fun yc7 => ?_)
  · have h := z_ifn yc7 h
    refine lv_aload_n hx hb dX6_drop_13 rfl (lv_at hl 0 rfl) ?_
    obtain ⟨yd1, yhc14, h⟩ := z_brx h
    refine z_kv (z_rV (As := []) (rest := []) ⟨hx, hb, hml, hown, hts⟩ hK hP w_X6 rfl (kX6_note hI yhc14) giX6_218 ⟨rfl, rfl⟩ ndX6_note ⟨Nat.le_of_ble_eq_true rfl, Nat.le_of_ble_eq_true rfl⟩ rfl hl.1 rfl (Nat.le_of_ble_eq_true rfl) ⟨Nat.le_refl _, Nat.le_refl _⟩ dX6_drop_14) hS (fun H locs hP hS => ?_)
    refine lv_aload_n hx hb dX6_drop_17 rfl (lv_at hl 0 rfl) ?_
    refine gt_X6_2 hx hb hts hown hK hP (hts _ wl_3_136) dX6_drop_18 ?_
    refine lv_bipush (v := (83 : Int32)) hx hb dX6_drop_21 (by decide) ?_
    refine lv_dup2_11 hx hb dX6_drop_23 rfl rfl ?_
    refine al_M hx hb hK hP rfl (by decide) (z_li (by decide) : vp_in (83 : Int32) 214) dX6_drop_24 ?_
    refine lv_iconst (v := (1 : Int32)) hx hb dX6_drop_25 (by decide) ?_
    refine lv_isub hx hb dX6_drop_26 ?_
    refine as_M hx hb hK hP hI hS rfl (by decide) (z_li (by decide) : vp_in (83 : Int32) 214) dX6_drop_27 (fun H locs yd2 e_yd2 hP hS => ?_)
    have h := z_nma e_yd2 h
    refine lv_aload_n hx hb dX6_drop_28 rfl (lv_at hl 0 rfl) ?_
    refine gt_X6_2 hx hb hts hown hK hP (hts _ wl_3_136) dX6_drop_29 ?_
    refine lv_bipush (v := (83 : Int32)) hx hb dX6_drop_32 (by decide) ?_
    refine al_M hx hb hK hP rfl (by decide) (z_li (by decide) : vp_in (83 : Int32) 214) dX6_drop_34 ?_
    exact hRet _ _ _ _ _ _ hP hS h dX6_drop_35
  · have h := z_ifp yc7 h
    refine lv_bipush (v := (-3 : Int32)) hx hb dX6_drop_10 (by decide) ?_
    exact hRet _ _ _ _ _ _ hP hS h dX6_drop_12
noncomputable def bX6_undo_38 (s : Int32 × Dt) : Option ((Int32 × Dt) ⊕ (Dt)) := match s with
  | (yv3, yd4) => zif ((214 : Int32) ≤ yv3) (some (.inr yd4)) (z_gd (z_in (((214 : Int32) * (yd4.1 0 6)) + yv3) 2996) (z_gd (z_in yv3 214) (z_nm (z_st yd4 2 (z_ix yv3) (yd4.1 4 (z_ix (((214 : Int32) * (yd4.1 0 6)) + yv3)))) fun yd5 => z_nm (yv3 + (1 : Int32)) fun yv6 => some (.inl (yv6, yd5)))))
noncomputable def fX6_undo (yd : Dt) : Option (Int32 × Dt) :=
  zif ((yd.1 0 5) = 0) (some ((-3 : Int32), yd)) (z_nm (z_st yd 0 5 ((yd.1 0 5) - (1 : Int32))) fun yd1 => z_nm (z_st yd1 0 6 ((((yd1.1 0 6) + (14 : Int32)) - (1 : Int32)) - (((yd1.1 0 6) + (14 : Int32)) - (1 : Int32)) / (14 : Int32) * (14 : Int32))) fun yd2 => z_br (z_lp (bX6_undo_38) ((0 : Int32), yd2)) (fun t => match t with | yd7 => some ((yd7.1 0 5), yd7)))
set_option maxHeartbeats 4000000 in
set_option maxRecDepth 100000 in
theorem kX6_undo {l : Launch} {D : va_G} {G : z_G} {ad : Nat → Nat} {A : Nat → Prop} (hI : ∀ d, va_D A (WM G ad d)) {yd : Dt}   {rr : Int32} {dd : Dt} (h : fX6_undo yd = some (rr, dd)) : z_Mi l D G A (WM G ad) yX6_undo cX6_undo 2 (z_rm 0 0) yd [.ref (ad 0)] rr dd := by
  refine z_ofi (by decide) (Nat.le_of_ble_eq_true rfl) fun p e s m args below meth c Q hx hb hml hown hts hK hP hRet ls hl => ?_
  have hS : va_S A s.heap s.heap [] := va_S.rf
  have hl : lv_has ls 2 [(0, .ref (ad 0))] := hl
  have h : (zif ((yd.1 0 5) = 0) (some ((-3 : Int32), yd)) (z_nm (z_st yd 0 5 ((yd.1 0 5) - (1 : Int32))) fun yd1 => z_nm (z_st yd1 0 6 ((((yd1.1 0 6) + (14 : Int32)) - (1 : Int32)) - (((yd1.1 0 6) + (14 : Int32)) - (1 : Int32)) / (14 : Int32) * (14 : Int32))) fun yd2 => z_br (z_lp (bX6_undo_38) ((0 : Int32), yd2)) (fun t => match t with | yd7 => some ((yd7.1 0 5), yd7)))) = some (rr, dd) := h
  refine lv_aload_n hx hb dX6_undo_0 rfl (lv_at hl 0 rfl) ?_
  refine gt_X6_5 hx hb hts hown hK hP (hts _ wl_3_139) dX6_undo_1 ?_
  refine lv_if_ne (tgt := 10) hx hb dX6_undo_4 (by decide) (fun yc4 => ?_) (fun yc4 => ?_)
  · have h := z_ifn yc4 h
    refine lv_aload_n hx hb dX6_undo_10 rfl (lv_at hl 0 rfl) ?_
    refine lv_dup hx hb dX6_undo_11 rfl ?_
    refine gt_X6_5 hx hb hts hown hK hP (hts _ wl_3_139) dX6_undo_12 ?_
    refine lv_iconst (v := (1 : Int32)) hx hb dX6_undo_15 (by decide) ?_
    refine lv_isub hx hb dX6_undo_16 ?_
    refine pt_X6_5 hx hb hts hown hK hP hI hS (hts _ wl_3_139) dX6_undo_17 (fun H locs yd1 e_yd1 hP hS => ?_)
    have h := z_nma e_yd1 h
    refine lv_aload_n hx hb dX6_undo_20 rfl (lv_at hl 0 rfl) ?_
    refine lv_aload_n hx hb dX6_undo_21 rfl (lv_at hl 0 rfl) ?_
    refine gt_X6_6 hx hb hts hown hK hP (hts _ wl_3_140) dX6_undo_22 ?_
    refine lv_bipush (v := (14 : Int32)) hx hb dX6_undo_25 (by decide) ?_
    refine lv_iadd hx hb dX6_undo_27 ?_
    refine lv_iconst (v := (1 : Int32)) hx hb dX6_undo_28 (by decide) ?_
    refine lv_isub hx hb dX6_undo_29 ?_
    refine lv_bipush (v := (14 : Int32)) hx hb dX6_undo_30 (by decide) ?_
    refine lv_irem hx hb dX6_undo_32 (by decide) ?_
    refine pt_X6_6 hx hb hts hown hK hP hI hS (hts _ wl_3_140) dX6_undo_33 (fun H locs yd2 e_yd2 hP hS => ?_)
    have h := z_nma e_yd2 h
    refine lv_iconst (v := (0 : Int32)) hx hb dX6_undo_36 (by decide) ?_
    refine lv_istore_n (lv' := [(1, .int (0 : Int32)), (0, .ref (ad 0))]) hx hb dX6_undo_37 rfl hl (by decide) rfl (fun ls hl => ?_)
    obtain ⟨yt38, hlp, h⟩ := z_brx h
    obtain ⟨yn38, hlp⟩ := z_lpx hlp
    have hE72 : ∀ (yd7 : Dt) (H : Heap) (locs : List Loc) (ls : Array Slot), yd7 = yt38 → va_P D vwCl (WM G ad yd7) H → va_S A s.heap H locs → lv_has ls 2 [(0, .ref (ad 0))] → W p l e (z_rm 0 0) s m args below meth c H locs 0 0 Q (F0 m 72 ls []) := by
      intro yd7 H locs ls et hP hS hl
      subst et
      have h : (some ((yd7.1 0 5), yd7)) = some (rr, dd) := h
      refine lv_aload_n hx hb dX6_undo_72 rfl (lv_at hl 0 rfl) ?_
      refine gt_X6_5 hx hb hts hown hK hP (hts _ wl_3_139) dX6_undo_73 ?_
      exact hRet _ _ _ _ _ _ hP hS h dX6_undo_76
    have hL38 : ∀ (n : Nat) (yv3 : Int32) (yd4 : Dt) (H : Heap) (locs : List Loc) (ls : Array Slot), z_it (bX6_undo_38) n (yv3, yd4) = some yt38 → va_P D vwCl (WM G ad yd4) H → va_S A s.heap H locs → lv_has ls 2 [(0, .ref (ad 0)), (1, .int yv3)] → W p l e (z_rm 0 0) s m args below meth c H locs 0 0 Q (F0 m 38 ls []) := by
      intro n
      induction n with
      | zero => intro yv3 yd4 H locs ls hn; exact z_it0 hn
      | succ n ih =>
        intro yv3 yd4 H locs ls hn hP hS hl
        obtain ⟨yq38, h, hq1, hq2⟩ := z_itx hn
        have h : (zif ((214 : Int32) ≤ yv3) (some (.inr yd4)) (z_gd (z_in (((214 : Int32) * (yd4.1 0 6)) + yv3) 2996) (z_gd (z_in yv3 214) (z_nm (z_st yd4 2 (z_ix yv3) (yd4.1 4 (z_ix (((214 : Int32) * (yd4.1 0 6)) + yv3)))) fun yd5 => z_nm (yv3 + (1 : Int32)) fun yv6 => some (.inl (yv6, yd5)))))) = some yq38 := h
        refine lv_iload_n hx hb dX6_undo_38 rfl (lv_at hl 1 rfl) ?_
        refine lv_sipush (v := (214 : Int32)) hx hb dX6_undo_39 (by decide) ?_
        refine lv_icmp_ge (tgt := 72) hx hb dX6_undo_42 (by decide) (fun yc42 => ?_) (fun yc42 => ?_)
        · have h := z_ifp yc42 h
          exact hE72 _ _ _ _ (hq2 _ (z_sm h).symm) hP hS (lv_sub hl [0] rfl)
        · have h := z_ifn yc42 h
          refine lv_aload_n hx hb dX6_undo_45 rfl (lv_at hl 0 rfl) ?_
          refine gt_X6_2 hx hb hts hown hK hP (hts _ wl_3_136) dX6_undo_46 ?_
          refine lv_iload_n hx hb dX6_undo_49 rfl (lv_at hl 1 rfl) ?_
          refine lv_aload_n hx hb dX6_undo_50 rfl (lv_at hl 0 rfl) ?_
          refine gt_X6_4 hx hb hts hown hK hP (hts _ wl_3_138) dX6_undo_51 ?_
          refine lv_sipush (v := (214 : Int32)) hx hb dX6_undo_54 (by decide) ?_
          refine lv_aload_n hx hb dX6_undo_57 rfl (lv_at hl 0 rfl) ?_
          refine gt_X6_6 hx hb hts hown hK hP (hts _ wl_3_140) dX6_undo_58 ?_
          refine lv_imul hx hb dX6_undo_61 ?_
          refine lv_iload_n hx hb dX6_undo_62 rfl (lv_at hl 1 rfl) ?_
          refine lv_iadd hx hb dX6_undo_63 ?_
          obtain ⟨yg64, h⟩ := z_gi h
          refine al_M hx hb hK hP rfl (by decide) yg64 dX6_undo_64 ?_
          obtain ⟨yg65, h⟩ := z_gi h
          refine as_M hx hb hK hP hI hS rfl (by decide) yg65 dX6_undo_65 (fun H locs yd5 e_yd5 hP hS => ?_)
          have h := z_nma e_yd5 h
          obtain ⟨yv6, e_yv6, h⟩ := z_nmx h
          refine lv_iinc (v := yv6) (lv' := [(1, .int yv6), (0, .ref (ad 0))]) hx hb dX6_undo_66 hl (k := 1) rfl (by rw [e_yv6]; rfl) (by decide) rfl (fun ls hl => ?_)
          refine lv_goto (tgt := 38) hx hb dX6_undo_69 (by decide) ?_
          exact ih _ _ _ _ _ (hq1 _ (z_sm h).symm) hP hS (lv_sub hl [1, 0] rfl)
    exact hL38 yn38 _ _ _ _ _ hlp hP hS (lv_sub hl [1, 0] rfl)
  · have h := z_ifp yc4 h
    refine lv_bipush (v := (-3 : Int32)) hx hb dX6_undo_7 (by decide) ?_
    exact hRet _ _ _ _ _ _ hP hS h dX6_undo_9
noncomputable def fX6_within (yd : Dt) (yx1 : Int32) (yx2 : Int32) : Option (Int32 × Dt) :=
  z_br (fX6_isPath yd yx1) fun yr1 => zif (yr1 = 0) (some ((-1 : Int32), yd)) (z_br (fX6_isPath yd yx2) fun yr2 => zif (yr2 = 0) (some ((-1 : Int32), yd)) (z_bd (fX6_answersOf yd 2 yx1) fun yr3 yd4 => z_bd (fX6_answersOf yd4 2 yx2) fun yr5 yd6 => zif ((yr3 &&& (yr5 ^^^ (-1 : Int32))) = 0) (some ((1 : Int32), yd6)) (some ((0 : Int32), yd6))))
set_option maxHeartbeats 4000000 in
set_option maxRecDepth 100000 in
theorem kX6_within {l : Launch} {D : va_G} {G : z_G} {ad : Nat → Nat} {A : Nat → Prop} (hI : ∀ d, va_D A (WM G ad d)) {yd : Dt} {yx1 : Int32} {yx2 : Int32}  {rr : Int32} {dd : Dt} (h : fX6_within yd yx1 yx2 = some (rr, dd)) : z_Mi l D G A (WM G ad) yX6_within cX6_within 3 (z_rm 6 155) yd [.ref (ad 0), .int yx1, .int yx2] rr dd := by
  refine z_ofi (by decide) (Nat.le_of_ble_eq_true rfl) fun p e s m args below meth c Q hx hb hml hown hts hK hP hRet ls hl => ?_
  have hS : va_S A s.heap s.heap [] := va_S.rf
  have hl : lv_has ls 3 [(0, .ref (ad 0)), (1, .int yx1), (2, .int yx2)] := hl
  have h : (z_br (fX6_isPath yd yx1) fun yr1 => zif (yr1 = 0) (some ((-1 : Int32), yd)) (z_br (fX6_isPath yd yx2) fun yr2 => zif (yr2 = 0) (some ((-1 : Int32), yd)) (z_bd (fX6_answersOf yd 2 yx1) fun yr3 yd4 => z_bd (fX6_answersOf yd4 2 yx2) fun yr5 yd6 => zif ((yr3 &&& (yr5 ^^^ (-1 : Int32))) = 0) (some ((1 : Int32), yd6)) (some ((0 : Int32), yd6))))) = some (rr, dd) := h
  refine lv_aload_n hx hb dX6_within_0 rfl (lv_at hl 0 rfl) ?_
  refine lv_iload_n hx hb dX6_within_1 rfl (lv_at hl 1 rfl) ?_
  obtain ⟨yr1, yhc2, h⟩ := z_brx h
  refine z_kz (z_rV (As := [.int yx1]) (rest := []) ⟨hx, hb, hml, hown, hts⟩ hK hP w_X6 rfl (kX6_isPath hI yhc2) giX6_208 ⟨rfl, rfl⟩ ndX6_isPath ⟨Nat.le_of_ble_eq_true rfl, Nat.le_of_ble_eq_true rfl⟩ rfl hl.1 rfl (Nat.le_of_ble_eq_true rfl) ⟨Nat.le_refl _, Nat.le_refl _⟩ dX6_within_2) hS (fun H locs z_yr1 hP hS => ?_)
  refine lv_if_eq (tgt := 16) hx hb dX6_within_5 (by decide) (fun yc5 => ?_) (fun yc5 => ?_)
  · have h := z_ifp yc5 h
    refine lv_iconst (v := (-1 : Int32)) hx hb dX6_within_16 (by decide) ?_
    exact hRet _ _ _ _ _ _ hP hS h dX6_within_17
  · have h := z_ifn yc5 h
    refine lv_aload_n hx hb dX6_within_8 rfl (lv_at hl 0 rfl) ?_
    refine lv_iload_n hx hb dX6_within_9 rfl (lv_at hl 2 rfl) ?_
    obtain ⟨yr2, yhc10, h⟩ := z_brx h
    refine z_kz (z_rV (As := [.int yx2]) (rest := []) ⟨hx, hb, hml, hown, hts⟩ hK hP w_X6 rfl (kX6_isPath hI yhc10) giX6_208 ⟨rfl, rfl⟩ ndX6_isPath ⟨Nat.le_of_ble_eq_true rfl, Nat.le_of_ble_eq_true rfl⟩ rfl hl.1 rfl (Nat.le_of_ble_eq_true rfl) ⟨Nat.le_refl _, Nat.le_refl _⟩ dX6_within_10) hS (fun H locs z_yr2 hP hS => ?_)
    refine lv_if_ne (tgt := 18) hx hb dX6_within_13 (by decide) (fun yc13 => ?_) (fun yc13 => ?_)
    · have h := z_ifn yc13 h
      refine lv_aload_n hx hb dX6_within_18 rfl (lv_at hl 0 rfl) ?_
      refine lv_aload_n hx hb dX6_within_19 rfl (lv_at hl 0 rfl) ?_
      refine gt_X6_2 hx hb hts hown hK hP (hts _ wl_3_136) dX6_within_20 ?_
      refine lv_iload_n hx hb dX6_within_23 rfl (lv_at hl 1 rfl) ?_
      obtain ⟨yr3, yd4, yhc24, h⟩ := z_bdx h
      refine z_ki (z_rV (As := [.ref (ad 2), .int yx1]) (rest := []) ⟨hx, hb, hml, hown, hts⟩ hK hP w_X6 rfl (kX6_answersOf hI rfl yhc24) giX6_144 ⟨rfl, rfl⟩ ndX6_answersOf ⟨Nat.le_of_ble_eq_true rfl, Nat.le_of_ble_eq_true rfl⟩ rfl hl.1 rfl (Nat.le_of_ble_eq_true rfl) ⟨Nat.le_refl _, Nat.le_refl _⟩ dX6_within_24) hS (fun H locs hP hS => ?_)
      refine lv_aload_n hx hb dX6_within_27 rfl (lv_at hl 0 rfl) ?_
      refine lv_aload_n hx hb dX6_within_28 rfl (lv_at hl 0 rfl) ?_
      refine gt_X6_2 hx hb hts hown hK hP (hts _ wl_3_136) dX6_within_29 ?_
      refine lv_iload_n hx hb dX6_within_32 rfl (lv_at hl 2 rfl) ?_
      obtain ⟨yr5, yd6, yhc33, h⟩ := z_bdx h
      refine z_ki (z_rV (As := [.ref (ad 2), .int yx2]) (rest := [.int yr3]) ⟨hx, hb, hml, hown, hts⟩ hK hP w_X6 rfl (kX6_answersOf hI rfl yhc33) giX6_144 ⟨rfl, rfl⟩ ndX6_answersOf ⟨Nat.le_of_ble_eq_true rfl, Nat.le_of_ble_eq_true rfl⟩ rfl hl.1 rfl (Nat.le_of_ble_eq_true rfl) ⟨Nat.le_refl _, Nat.le_refl _⟩ dX6_within_33) hS (fun H locs hP hS => ?_)
      refine lv_iconst (v := (-1 : Int32)) hx hb dX6_within_36 (by decide) ?_
      refine lv_ixor hx hb dX6_within_37 ?_
      refine lv_iand hx hb dX6_within_38 ?_
      refine lv_if_ne (tgt := 46) hx hb dX6_within_39 (by decide) (fun yc39 => ?_) (fun yc39 => ?_)
      · have h := z_ifn yc39 h
        refine lv_iconst (v := (0 : Int32)) hx hb dX6_within_46 (by decide) ?_
        exact hRet _ _ _ _ _ _ hP hS h dX6_within_47
      · have h := z_ifp yc39 h
        refine lv_iconst (v := (1 : Int32)) hx hb dX6_within_42 (by decide) ?_
        refine lv_goto (tgt := 47) hx hb dX6_within_43 (by decide) ?_
        exact hRet _ _ _ _ _ _ hP hS h dX6_within_47
    · have h := z_ifp yc13 h
      refine lv_iconst (v := (-1 : Int32)) hx hb dX6_within_16 (by decide) ?_
      exact hRet _ _ _ _ _ _ hP hS h dX6_within_17
noncomputable def fX6_judged (yd : Dt) (yx1 : Int32) (yx2 : Int32) (yx3 : Int32) : Option (Int32 × Dt) :=
  zif (yx1 = (1 : Int32)) (zif (yx2 = 0) (zif ((5 : Int32) ≤ yx3) (some ((0 : Int32), yd)) (z_bd (fX6_eventOn yd 3 yx3) fun yr1 yd2 => zif (yr1 = 0) (some ((0 : Int32), yd2)) (some ((1 : Int32), yd2)))) (some ((0 : Int32), yd))) (zif (yx1 = (2 : Int32)) (zif (yx2 = 0) (zif (yx3 = 0) (z_bd (fX6_eventOn yd 3 (10 : Int32)) fun yr3 yd4 => zif (yr3 = 0) (some ((0 : Int32), yd4)) (some ((1 : Int32), yd4))) (some ((0 : Int32), yd))) (some ((0 : Int32), yd))) (zif (yx1 = (3 : Int32)) (zif (yx2 = 0) (z_bd (fX6_eventOn yd 3 ((20 : Int32) + yx3)) fun yr5 yd6 => zif (yr5 = 0) (some ((0 : Int32), yd6)) (some ((1 : Int32), yd6))) (some ((0 : Int32), yd))) (zif (yx1 = (4 : Int32)) (z_br (fX6_isPath yd yx2) fun yr7 => zif (yr7 = 0) (some ((0 : Int32), yd)) (z_bd (fX6_answersOf yd 3 yx2) fun yr8 yd9 => z_br (fX6_ones yr8) fun yr10 => zif (yr10 = yx3) (some ((1 : Int32), yd9)) (some ((0 : Int32), yd9)))) (zif (yx1 = (5 : Int32)) (z_br (fX6_isPath yd yx2) fun yr11 => zif (yr11 = 0) (some ((0 : Int32), yd)) (z_bd (fX6_outOf yd 3 yx2) fun yr12 yd13 => z_br (fX6_ones yr12) fun yr14 => zif (yr14 = yx3) (some ((1 : Int32), yd13)) (some ((0 : Int32), yd13)))) (zif (yx1 = (6 : Int32)) (z_br (fX6_isPath yd yx2) fun yr15 => zif (yr15 = 0) (some ((0 : Int32), yd)) (z_bd (fX6_heldOf yd 3 yx2) fun yr16 yd17 => zif (yr16 = yx3) (some ((1 : Int32), yd17)) (some ((0 : Int32), yd17)))) (zif (yx1 = (7 : Int32)) (zif (yx2 = 0) (z_br (fX6_depthOf yd 3 (yd.1 3 (z_ix (81 : Int32)))) fun yr18 => zif (yr18 = yx3) (some ((1 : Int32), yd)) (some ((0 : Int32), yd))) (some ((0 : Int32), yd))) (some ((0 : Int32), yd))))))))
set_option maxHeartbeats 4000000 in
set_option maxRecDepth 100000 in
theorem kX6_judged {l : Launch} {D : va_G} {G : z_G} {ad : Nat → Nat} {A : Nat → Prop} (hI : ∀ d, va_D A (WM G ad d)) {yd : Dt} {yx1 : Int32} {yx2 : Int32} {yx3 : Int32}  {rr : Int32} {dd : Dt} (h : fX6_judged yd yx1 yx2 yx3 = some (rr, dd)) : z_Mz l D G A (WM G ad) yX6_judged cX6_judged 4 (z_rm 12 299) yd [.ref (ad 0), .int yx1, .int yx2, .int yx3] rr dd := by
  refine z_ofz (by decide) (Nat.le_of_ble_eq_true rfl) fun p e s m args below meth c Q hx hb hml hown hts hK hP hRet ls hl => ?_
  have hS : va_S A s.heap s.heap [] := va_S.rf
  have hl : lv_has ls 4 [(0, .ref (ad 0)), (1, .int yx1), (2, .int yx2), (3, .int yx3)] := hl
  have h : (zif (yx1 = (1 : Int32)) (zif (yx2 = 0) (zif ((5 : Int32) ≤ yx3) (some ((0 : Int32), yd)) (z_bd (fX6_eventOn yd 3 yx3) fun yr1 yd2 => zif (yr1 = 0) (some ((0 : Int32), yd2)) (some ((1 : Int32), yd2)))) (some ((0 : Int32), yd))) (zif (yx1 = (2 : Int32)) (zif (yx2 = 0) (zif (yx3 = 0) (z_bd (fX6_eventOn yd 3 (10 : Int32)) fun yr3 yd4 => zif (yr3 = 0) (some ((0 : Int32), yd4)) (some ((1 : Int32), yd4))) (some ((0 : Int32), yd))) (some ((0 : Int32), yd))) (zif (yx1 = (3 : Int32)) (zif (yx2 = 0) (z_bd (fX6_eventOn yd 3 ((20 : Int32) + yx3)) fun yr5 yd6 => zif (yr5 = 0) (some ((0 : Int32), yd6)) (some ((1 : Int32), yd6))) (some ((0 : Int32), yd))) (zif (yx1 = (4 : Int32)) (z_br (fX6_isPath yd yx2) fun yr7 => zif (yr7 = 0) (some ((0 : Int32), yd)) (z_bd (fX6_answersOf yd 3 yx2) fun yr8 yd9 => z_br (fX6_ones yr8) fun yr10 => zif (yr10 = yx3) (some ((1 : Int32), yd9)) (some ((0 : Int32), yd9)))) (zif (yx1 = (5 : Int32)) (z_br (fX6_isPath yd yx2) fun yr11 => zif (yr11 = 0) (some ((0 : Int32), yd)) (z_bd (fX6_outOf yd 3 yx2) fun yr12 yd13 => z_br (fX6_ones yr12) fun yr14 => zif (yr14 = yx3) (some ((1 : Int32), yd13)) (some ((0 : Int32), yd13)))) (zif (yx1 = (6 : Int32)) (z_br (fX6_isPath yd yx2) fun yr15 => zif (yr15 = 0) (some ((0 : Int32), yd)) (z_bd (fX6_heldOf yd 3 yx2) fun yr16 yd17 => zif (yr16 = yx3) (some ((1 : Int32), yd17)) (some ((0 : Int32), yd17)))) (zif (yx1 = (7 : Int32)) (zif (yx2 = 0) (z_br (fX6_depthOf yd 3 (yd.1 3 (z_ix (81 : Int32)))) fun yr18 => zif (yr18 = yx3) (some ((1 : Int32), yd)) (some ((0 : Int32), yd))) (some ((0 : Int32), yd))) (some ((0 : Int32), yd))))))))) = some (rr, dd) := h
  refine lv_iload_n hx hb dX6_judged_0 rfl (lv_at hl 1 rfl) ?_
  by_cases yk1_1 : yx1 = (1 : Int32)
  · have h := z_ifp yk1_1 h
    refine lv_tableIn (off := (43)) (tgt := 44) hx hb dX6_judged_1 (by rw [yk1_1]; decide) (by rw [yk1_1]; decide) (by rw [yk1_1]; rfl) (by decide) ?_
    refine lv_iload_n hx hb dX6_judged_44 rfl (lv_at hl 2 rfl) ?_
    refine lv_if_ne (tgt := 69) hx hb dX6_judged_45 (by decide) (fun yc45 => ?_) (fun yc45 => ?_)
    · have h := z_ifn yc45 h
      refine lv_iconst (v := (0 : Int32)) hx hb dX6_judged_69 (by decide) ?_
      exact hRet _ _ _ _ _ _ hP hS (Or.inl rfl) h dX6_judged_70
    · have h := z_ifp yc45 h
      refine lv_iload_n hx hb dX6_judged_48 rfl (lv_at hl 3 rfl) ?_
      refine lv_iconst (v := (5 : Int32)) hx hb dX6_judged_49 (by decide) ?_
      refine lv_icmp_ge (tgt := 69) hx hb dX6_judged_50 (by decide) (fun yc50 => ?_) (fun yc50 => ?_)
      · have h := z_ifp yc50 h
        refine lv_iconst (v := (0 : Int32)) hx hb dX6_judged_69 (by decide) ?_
        exact hRet _ _ _ _ _ _ hP hS (Or.inl rfl) h dX6_judged_70
      · have h := z_ifn yc50 h
        refine lv_aload_n hx hb dX6_judged_53 rfl (lv_at hl 0 rfl) ?_
        refine lv_aload_n hx hb dX6_judged_54 rfl (lv_at hl 0 rfl) ?_
        refine gt_X6_3 hx hb hts hown hK hP (hts _ wl_3_137) dX6_judged_55 ?_
        refine lv_iload_n hx hb dX6_judged_58 rfl (lv_at hl 3 rfl) ?_
        obtain ⟨yr1, yd2, yhc59, h⟩ := z_bdx h
        refine z_kz (z_rV (As := [.ref (ad 3), .int yx3]) (rest := []) ⟨hx, hb, hml, hown, hts⟩ hK hP w_X6 rfl (kX6_eventOn hI rfl yhc59) giX6_188 ⟨rfl, rfl⟩ ndX6_eventOn ⟨Nat.le_of_ble_eq_true rfl, Nat.le_of_ble_eq_true rfl⟩ rfl hl.1 rfl (Nat.le_of_ble_eq_true rfl) ⟨Nat.le_refl _, Nat.le_refl _⟩ dX6_judged_59) hS (fun H locs z_yr1 hP hS => ?_)
        refine lv_if_eq (tgt := 69) hx hb dX6_judged_62 (by decide) (fun yc62 => ?_) (fun yc62 => ?_)
        · have h := z_ifp yc62 h
          refine lv_iconst (v := (0 : Int32)) hx hb dX6_judged_69 (by decide) ?_
          exact hRet _ _ _ _ _ _ hP hS (Or.inl rfl) h dX6_judged_70
        · have h := z_ifn yc62 h
          refine lv_iconst (v := (1 : Int32)) hx hb dX6_judged_65 (by decide) ?_
          refine lv_goto (tgt := 70) hx hb dX6_judged_66 (by decide) ?_
          exact hRet _ _ _ _ _ _ hP hS (Or.inr rfl) h dX6_judged_70
  have h := z_ifn yk1_1 h
  by_cases yk1_2 : yx1 = (2 : Int32)
  · have h := z_ifp yk1_2 h
    refine lv_tableIn (off := (70)) (tgt := 71) hx hb dX6_judged_1 (by rw [yk1_2]; decide) (by rw [yk1_2]; decide) (by rw [yk1_2]; rfl) (by decide) ?_
    refine lv_iload_n hx hb dX6_judged_71 rfl (lv_at hl 2 rfl) ?_
    refine lv_if_ne (tgt := 96) hx hb dX6_judged_72 (by decide) (fun yc72 => ?_) (fun yc72 => ?_)
    · have h := z_ifn yc72 h
      refine lv_iconst (v := (0 : Int32)) hx hb dX6_judged_96 (by decide) ?_
      exact hRet _ _ _ _ _ _ hP hS (Or.inl rfl) h dX6_judged_97
    · have h := z_ifp yc72 h
      refine lv_iload_n hx hb dX6_judged_75 rfl (lv_at hl 3 rfl) ?_
      refine lv_if_ne (tgt := 96) hx hb dX6_judged_76 (by decide) (fun yc76 => ?_) (fun yc76 => ?_)
      · have h := z_ifn yc76 h
        refine lv_iconst (v := (0 : Int32)) hx hb dX6_judged_96 (by decide) ?_
        exact hRet _ _ _ _ _ _ hP hS (Or.inl rfl) h dX6_judged_97
      · have h := z_ifp yc76 h
        refine lv_aload_n hx hb dX6_judged_79 rfl (lv_at hl 0 rfl) ?_
        refine lv_aload_n hx hb dX6_judged_80 rfl (lv_at hl 0 rfl) ?_
        refine gt_X6_3 hx hb hts hown hK hP (hts _ wl_3_137) dX6_judged_81 ?_
        refine lv_bipush (v := (10 : Int32)) hx hb dX6_judged_84 (by decide) ?_
        obtain ⟨yr3, yd4, yhc86, h⟩ := z_bdx h
        refine z_kz (z_rV (As := [.ref (ad 3), .int (10 : Int32)]) (rest := []) ⟨hx, hb, hml, hown, hts⟩ hK hP w_X6 rfl (kX6_eventOn hI rfl yhc86) giX6_188 ⟨rfl, rfl⟩ ndX6_eventOn ⟨Nat.le_of_ble_eq_true rfl, Nat.le_of_ble_eq_true rfl⟩ rfl hl.1 rfl (Nat.le_of_ble_eq_true rfl) ⟨Nat.le_refl _, Nat.le_refl _⟩ dX6_judged_86) hS (fun H locs z_yr3 hP hS => ?_)
        refine lv_if_eq (tgt := 96) hx hb dX6_judged_89 (by decide) (fun yc89 => ?_) (fun yc89 => ?_)
        · have h := z_ifp yc89 h
          refine lv_iconst (v := (0 : Int32)) hx hb dX6_judged_96 (by decide) ?_
          exact hRet _ _ _ _ _ _ hP hS (Or.inl rfl) h dX6_judged_97
        · have h := z_ifn yc89 h
          refine lv_iconst (v := (1 : Int32)) hx hb dX6_judged_92 (by decide) ?_
          refine lv_goto (tgt := 97) hx hb dX6_judged_93 (by decide) ?_
          exact hRet _ _ _ _ _ _ hP hS (Or.inr rfl) h dX6_judged_97
  have h := z_ifn yk1_2 h
  by_cases yk1_3 : yx1 = (3 : Int32)
  · have h := z_ifp yk1_3 h
    refine lv_tableIn (off := (97)) (tgt := 98) hx hb dX6_judged_1 (by rw [yk1_3]; decide) (by rw [yk1_3]; decide) (by rw [yk1_3]; rfl) (by decide) ?_
    refine lv_iload_n hx hb dX6_judged_98 rfl (lv_at hl 2 rfl) ?_
    refine lv_if_ne (tgt := 121) hx hb dX6_judged_99 (by decide) (fun yc99 => ?_) (fun yc99 => ?_)
    · have h := z_ifn yc99 h
      refine lv_iconst (v := (0 : Int32)) hx hb dX6_judged_121 (by decide) ?_
      exact hRet _ _ _ _ _ _ hP hS (Or.inl rfl) h dX6_judged_122
    · have h := z_ifp yc99 h
      refine lv_aload_n hx hb dX6_judged_102 rfl (lv_at hl 0 rfl) ?_
      refine lv_aload_n hx hb dX6_judged_103 rfl (lv_at hl 0 rfl) ?_
      refine gt_X6_3 hx hb hts hown hK hP (hts _ wl_3_137) dX6_judged_104 ?_
      refine lv_bipush (v := (20 : Int32)) hx hb dX6_judged_107 (by decide) ?_
      refine lv_iload_n hx hb dX6_judged_109 rfl (lv_at hl 3 rfl) ?_
      refine lv_iadd hx hb dX6_judged_110 ?_
      obtain ⟨yr5, yd6, yhc111, h⟩ := z_bdx h
      refine z_kz (z_rV (As := [.ref (ad 3), .int ((20 : Int32) + yx3)]) (rest := []) ⟨hx, hb, hml, hown, hts⟩ hK hP w_X6 rfl (kX6_eventOn hI rfl yhc111) giX6_188 ⟨rfl, rfl⟩ ndX6_eventOn ⟨Nat.le_of_ble_eq_true rfl, Nat.le_of_ble_eq_true rfl⟩ rfl hl.1 rfl (Nat.le_of_ble_eq_true rfl) ⟨Nat.le_refl _, Nat.le_refl _⟩ dX6_judged_111) hS (fun H locs z_yr5 hP hS => ?_)
      refine lv_if_eq (tgt := 121) hx hb dX6_judged_114 (by decide) (fun yc114 => ?_) (fun yc114 => ?_)
      · have h := z_ifp yc114 h
        refine lv_iconst (v := (0 : Int32)) hx hb dX6_judged_121 (by decide) ?_
        exact hRet _ _ _ _ _ _ hP hS (Or.inl rfl) h dX6_judged_122
      · have h := z_ifn yc114 h
        refine lv_iconst (v := (1 : Int32)) hx hb dX6_judged_117 (by decide) ?_
        refine lv_goto (tgt := 122) hx hb dX6_judged_118 (by decide) ?_
        exact hRet _ _ _ _ _ _ hP hS (Or.inr rfl) h dX6_judged_122
  have h := z_ifn yk1_3 h
  by_cases yk1_4 : yx1 = (4 : Int32)
  · have h := z_ifp yk1_4 h
    refine lv_tableIn (off := (122)) (tgt := 123) hx hb dX6_judged_1 (by rw [yk1_4]; decide) (by rw [yk1_4]; decide) (by rw [yk1_4]; rfl) (by decide) ?_
    refine lv_aload_n hx hb dX6_judged_123 rfl (lv_at hl 0 rfl) ?_
    refine lv_iload_n hx hb dX6_judged_124 rfl (lv_at hl 2 rfl) ?_
    obtain ⟨yr7, yhc125, h⟩ := z_brx h
    refine z_kz (z_rV (As := [.int yx2]) (rest := []) ⟨hx, hb, hml, hown, hts⟩ hK hP w_X6 rfl (kX6_isPath hI yhc125) giX6_208 ⟨rfl, rfl⟩ ndX6_isPath ⟨Nat.le_of_ble_eq_true rfl, Nat.le_of_ble_eq_true rfl⟩ rfl hl.1 rfl (Nat.le_of_ble_eq_true rfl) ⟨Nat.le_refl _, Nat.le_refl _⟩ dX6_judged_125) hS (fun H locs z_yr7 hP hS => ?_)
    refine lv_if_eq (tgt := 151) hx hb dX6_judged_128 (by decide) (fun yc128 => ?_) (fun yc128 => ?_)
    · have h := z_ifp yc128 h
      refine lv_iconst (v := (0 : Int32)) hx hb dX6_judged_151 (by decide) ?_
      exact hRet _ _ _ _ _ _ hP hS (Or.inl rfl) h dX6_judged_152
    · have h := z_ifn yc128 h
      refine lv_aload_n hx hb dX6_judged_131 rfl (lv_at hl 0 rfl) ?_
      refine lv_aload_n hx hb dX6_judged_132 rfl (lv_at hl 0 rfl) ?_
      refine gt_X6_3 hx hb hts hown hK hP (hts _ wl_3_137) dX6_judged_133 ?_
      refine lv_iload_n hx hb dX6_judged_136 rfl (lv_at hl 2 rfl) ?_
      obtain ⟨yr8, yd9, yhc137, h⟩ := z_bdx h
      refine z_ki (z_rV (As := [.ref (ad 3), .int yx2]) (rest := []) ⟨hx, hb, hml, hown, hts⟩ hK hP w_X6 rfl (kX6_answersOf hI rfl yhc137) giX6_144 ⟨rfl, rfl⟩ ndX6_answersOf ⟨Nat.le_of_ble_eq_true rfl, Nat.le_of_ble_eq_true rfl⟩ rfl hl.1 rfl (Nat.le_of_ble_eq_true rfl) ⟨Nat.le_refl _, Nat.le_refl _⟩ dX6_judged_137) hS (fun H locs hP hS => ?_)
      obtain ⟨yr10, yhc140, h⟩ := z_brx h
      refine z_ki (z_rS (As := [.int yr8]) (rest := []) ⟨hx, hb, hml, hown, hts⟩ hK hP (kX6_ones yhc140) giX6_153 ⟨rfl, rfl⟩ ndX6_ones ⟨Nat.le_of_ble_eq_true rfl, Nat.le_of_ble_eq_true rfl⟩ rfl hl.1 rfl (Nat.le_of_ble_eq_true rfl) ⟨Nat.le_refl _, Nat.le_refl _⟩ dX6_judged_140) hS (fun H locs hP hS => ?_)
      refine lv_iload_n hx hb dX6_judged_143 rfl (lv_at hl 3 rfl) ?_
      refine lv_icmp_ne (tgt := 151) hx hb dX6_judged_144 (by decide) (fun yc144 => ?_) (fun yc144 => ?_)
      · have h := z_ifn yc144 h
        refine lv_iconst (v := (0 : Int32)) hx hb dX6_judged_151 (by decide) ?_
        exact hRet _ _ _ _ _ _ hP hS (Or.inl rfl) h dX6_judged_152
      · have h := z_ifp yc144 h
        refine lv_iconst (v := (1 : Int32)) hx hb dX6_judged_147 (by decide) ?_
        refine lv_goto (tgt := 152) hx hb dX6_judged_148 (by decide) ?_
        exact hRet _ _ _ _ _ _ hP hS (Or.inr rfl) h dX6_judged_152
  have h := z_ifn yk1_4 h
  by_cases yk1_5 : yx1 = (5 : Int32)
  · have h := z_ifp yk1_5 h
    refine lv_tableIn (off := (152)) (tgt := 153) hx hb dX6_judged_1 (by rw [yk1_5]; decide) (by rw [yk1_5]; decide) (by rw [yk1_5]; rfl) (by decide) ?_
    refine lv_aload_n hx hb dX6_judged_153 rfl (lv_at hl 0 rfl) ?_
    refine lv_iload_n hx hb dX6_judged_154 rfl (lv_at hl 2 rfl) ?_
    obtain ⟨yr11, yhc155, h⟩ := z_brx h
    refine z_kz (z_rV (As := [.int yx2]) (rest := []) ⟨hx, hb, hml, hown, hts⟩ hK hP w_X6 rfl (kX6_isPath hI yhc155) giX6_208 ⟨rfl, rfl⟩ ndX6_isPath ⟨Nat.le_of_ble_eq_true rfl, Nat.le_of_ble_eq_true rfl⟩ rfl hl.1 rfl (Nat.le_of_ble_eq_true rfl) ⟨Nat.le_refl _, Nat.le_refl _⟩ dX6_judged_155) hS (fun H locs z_yr11 hP hS => ?_)
    refine lv_if_eq (tgt := 181) hx hb dX6_judged_158 (by decide) (fun yc158 => ?_) (fun yc158 => ?_)
    · have h := z_ifp yc158 h
      refine lv_iconst (v := (0 : Int32)) hx hb dX6_judged_181 (by decide) ?_
      exact hRet _ _ _ _ _ _ hP hS (Or.inl rfl) h dX6_judged_182
    · have h := z_ifn yc158 h
      refine lv_aload_n hx hb dX6_judged_161 rfl (lv_at hl 0 rfl) ?_
      refine lv_aload_n hx hb dX6_judged_162 rfl (lv_at hl 0 rfl) ?_
      refine gt_X6_3 hx hb hts hown hK hP (hts _ wl_3_137) dX6_judged_163 ?_
      refine lv_iload_n hx hb dX6_judged_166 rfl (lv_at hl 2 rfl) ?_
      obtain ⟨yr12, yd13, yhc167, h⟩ := z_bdx h
      refine z_ki (z_rV (As := [.ref (ad 3), .int yx2]) (rest := []) ⟨hx, hb, hml, hown, hts⟩ hK hP w_X6 rfl (kX6_outOf hI rfl yhc167) giX6_150 ⟨rfl, rfl⟩ ndX6_outOf ⟨Nat.le_of_ble_eq_true rfl, Nat.le_of_ble_eq_true rfl⟩ rfl hl.1 rfl (Nat.le_of_ble_eq_true rfl) ⟨Nat.le_refl _, Nat.le_refl _⟩ dX6_judged_167) hS (fun H locs hP hS => ?_)
      obtain ⟨yr14, yhc170, h⟩ := z_brx h
      refine z_ki (z_rS (As := [.int yr12]) (rest := []) ⟨hx, hb, hml, hown, hts⟩ hK hP (kX6_ones yhc170) giX6_153 ⟨rfl, rfl⟩ ndX6_ones ⟨Nat.le_of_ble_eq_true rfl, Nat.le_of_ble_eq_true rfl⟩ rfl hl.1 rfl (Nat.le_of_ble_eq_true rfl) ⟨Nat.le_refl _, Nat.le_refl _⟩ dX6_judged_170) hS (fun H locs hP hS => ?_)
      refine lv_iload_n hx hb dX6_judged_173 rfl (lv_at hl 3 rfl) ?_
      refine lv_icmp_ne (tgt := 181) hx hb dX6_judged_174 (by decide) (fun yc174 => ?_) (fun yc174 => ?_)
      · have h := z_ifn yc174 h
        refine lv_iconst (v := (0 : Int32)) hx hb dX6_judged_181 (by decide) ?_
        exact hRet _ _ _ _ _ _ hP hS (Or.inl rfl) h dX6_judged_182
      · have h := z_ifp yc174 h
        refine lv_iconst (v := (1 : Int32)) hx hb dX6_judged_177 (by decide) ?_
        refine lv_goto (tgt := 182) hx hb dX6_judged_178 (by decide) ?_
        exact hRet _ _ _ _ _ _ hP hS (Or.inr rfl) h dX6_judged_182
  have h := z_ifn yk1_5 h
  by_cases yk1_6 : yx1 = (6 : Int32)
  · have h := z_ifp yk1_6 h
    refine lv_tableIn (off := (182)) (tgt := 183) hx hb dX6_judged_1 (by rw [yk1_6]; decide) (by rw [yk1_6]; decide) (by rw [yk1_6]; rfl) (by decide) ?_
    refine lv_aload_n hx hb dX6_judged_183 rfl (lv_at hl 0 rfl) ?_
    refine lv_iload_n hx hb dX6_judged_184 rfl (lv_at hl 2 rfl) ?_
    obtain ⟨yr15, yhc185, h⟩ := z_brx h
    refine z_kz (z_rV (As := [.int yx2]) (rest := []) ⟨hx, hb, hml, hown, hts⟩ hK hP w_X6 rfl (kX6_isPath hI yhc185) giX6_208 ⟨rfl, rfl⟩ ndX6_isPath ⟨Nat.le_of_ble_eq_true rfl, Nat.le_of_ble_eq_true rfl⟩ rfl hl.1 rfl (Nat.le_of_ble_eq_true rfl) ⟨Nat.le_refl _, Nat.le_refl _⟩ dX6_judged_185) hS (fun H locs z_yr15 hP hS => ?_)
    refine lv_if_eq (tgt := 208) hx hb dX6_judged_188 (by decide) (fun yc188 => ?_) (fun yc188 => ?_)
    · have h := z_ifp yc188 h
      refine lv_iconst (v := (0 : Int32)) hx hb dX6_judged_208 (by decide) ?_
      exact hRet _ _ _ _ _ _ hP hS (Or.inl rfl) h dX6_judged_209
    · have h := z_ifn yc188 h
      refine lv_aload_n hx hb dX6_judged_191 rfl (lv_at hl 0 rfl) ?_
      refine lv_aload_n hx hb dX6_judged_192 rfl (lv_at hl 0 rfl) ?_
      refine gt_X6_3 hx hb hts hown hK hP (hts _ wl_3_137) dX6_judged_193 ?_
      refine lv_iload_n hx hb dX6_judged_196 rfl (lv_at hl 2 rfl) ?_
      obtain ⟨yr16, yd17, yhc197, h⟩ := z_bdx h
      refine z_ki (z_rV (As := [.ref (ad 3), .int yx2]) (rest := []) ⟨hx, hb, hml, hown, hts⟩ hK hP w_X6 rfl (kX6_heldOf hI rfl yhc197) giX6_157 ⟨rfl, rfl⟩ ndX6_heldOf ⟨Nat.le_of_ble_eq_true rfl, Nat.le_of_ble_eq_true rfl⟩ rfl hl.1 rfl (Nat.le_of_ble_eq_true rfl) ⟨Nat.le_refl _, Nat.le_refl _⟩ dX6_judged_197) hS (fun H locs hP hS => ?_)
      refine lv_iload_n hx hb dX6_judged_200 rfl (lv_at hl 3 rfl) ?_
      refine lv_icmp_ne (tgt := 208) hx hb dX6_judged_201 (by decide) (fun yc201 => ?_) (fun yc201 => ?_)
      · have h := z_ifn yc201 h
        refine lv_iconst (v := (0 : Int32)) hx hb dX6_judged_208 (by decide) ?_
        exact hRet _ _ _ _ _ _ hP hS (Or.inl rfl) h dX6_judged_209
      · have h := z_ifp yc201 h
        refine lv_iconst (v := (1 : Int32)) hx hb dX6_judged_204 (by decide) ?_
        refine lv_goto (tgt := 209) hx hb dX6_judged_205 (by decide) ?_
        exact hRet _ _ _ _ _ _ hP hS (Or.inr rfl) h dX6_judged_209
  have h := z_ifn yk1_6 h
  by_cases yk1_7 : yx1 = (7 : Int32)
  · have h := z_ifp yk1_7 h
    refine lv_tableIn (off := (209)) (tgt := 210) hx hb dX6_judged_1 (by rw [yk1_7]; decide) (by rw [yk1_7]; decide) (by rw [yk1_7]; rfl) (by decide) ?_
    refine lv_iload_n hx hb dX6_judged_210 rfl (lv_at hl 2 rfl) ?_
    refine lv_if_ne (tgt := 236) hx hb dX6_judged_211 (by decide) (fun yc211 => ?_) (fun yc211 => ?_)
    · have h := z_ifn yc211 h
      refine lv_iconst (v := (0 : Int32)) hx hb dX6_judged_236 (by decide) ?_
      exact hRet _ _ _ _ _ _ hP hS (Or.inl rfl) h dX6_judged_237
    · have h := z_ifp yc211 h
      refine lv_aload_n hx hb dX6_judged_214 rfl (lv_at hl 0 rfl) ?_
      refine gt_X6_3 hx hb hts hown hK hP (hts _ wl_3_137) dX6_judged_215 ?_
      refine lv_aload_n hx hb dX6_judged_218 rfl (lv_at hl 0 rfl) ?_
      refine gt_X6_3 hx hb hts hown hK hP (hts _ wl_3_137) dX6_judged_219 ?_
      refine lv_bipush (v := (81 : Int32)) hx hb dX6_judged_222 (by decide) ?_
      refine al_M hx hb hK hP rfl (by decide) (z_li (by decide) : vp_in (81 : Int32) 214) dX6_judged_224 ?_
      obtain ⟨yr18, yhc225, h⟩ := z_brx h
      refine z_ki (z_rS (As := [.ref (ad 3), .int (yd.1 3 (z_ix (81 : Int32)))]) (rest := []) ⟨hx, hb, hml, hown, hts⟩ hK hP (kX6_depthOf hI rfl yhc225) giX6_163 ⟨rfl, rfl⟩ ndX6_depthOf ⟨Nat.le_of_ble_eq_true rfl, Nat.le_of_ble_eq_true rfl⟩ rfl hl.1 rfl (Nat.le_of_ble_eq_true rfl) ⟨Nat.le_refl _, Nat.le_refl _⟩ dX6_judged_225) hS (fun H locs hP hS => ?_)
      refine lv_iload_n hx hb dX6_judged_228 rfl (lv_at hl 3 rfl) ?_
      refine lv_icmp_ne (tgt := 236) hx hb dX6_judged_229 (by decide) (fun yc229 => ?_) (fun yc229 => ?_)
      · have h := z_ifn yc229 h
        refine lv_iconst (v := (0 : Int32)) hx hb dX6_judged_236 (by decide) ?_
        exact hRet _ _ _ _ _ _ hP hS (Or.inl rfl) h dX6_judged_237
      · have h := z_ifp yc229 h
        refine lv_iconst (v := (1 : Int32)) hx hb dX6_judged_232 (by decide) ?_
        refine lv_goto (tgt := 237) hx hb dX6_judged_233 (by decide) ?_
        exact hRet _ _ _ _ _ _ hP hS (Or.inr rfl) h dX6_judged_237
  have h := z_ifn yk1_7 h
  refine lv_tableOut (tgt := 238) hx hb dX6_judged_1 (by have q1 := lv_neT yk1_1 (a := 1) rfl; have q2 := lv_neT yk1_2 (a := 2) rfl; have q3 := lv_neT yk1_3 (a := 3) rfl; have q4 := lv_neT yk1_4 (a := 4) rfl; have q5 := lv_neT yk1_5 (a := 5) rfl; have q6 := lv_neT yk1_6 (a := 6) rfl; have q7 := lv_neT yk1_7 (a := 7) rfl; omega) (by decide) ?_
  refine lv_iconst (v := (0 : Int32)) hx hb dX6_judged_238 (by decide) ?_
  exact hRet _ _ _ _ _ _ hP hS (Or.inl rfl) h dX6_judged_239
noncomputable def bX6_thousands_4 (yx0 : Int32) (s : Int64 × Int32) : Option ((Int64 × Int32) ⊕ (Int64)) := match s with
  | (yv1, yv2) => zif (yx0 ≤ yv2) (some (.inr yv1)) (z_nm (yv1 * (1000 : Int64)) fun yv3 => z_nm (yv2 + (1 : Int32)) fun yv4 => some (.inl (yv3, yv4)))
noncomputable def fX6_thousands (yx0 : Int32) : Option Int64 :=
  z_br (z_lp (bX6_thousands_4 yx0) ((1 : Int64), (0 : Int32))) (fun t => match t with | yv5 => some yv5)
set_option maxHeartbeats 4000000 in
set_option maxRecDepth 100000 in
theorem kX6_thousands {l : Launch} {D : va_G} {G : z_G} {A : Nat → Prop} {w : Dt → va_W} {yd : Dt} {yx0 : Int32}  {rr : Int64} (h : fX6_thousands yx0 = some rr) : z_Ml l D G A (w) yX6_thousands cX6_thousands 4 (z_rm 0 0) yd [.int yx0] rr yd := by
  refine z_ofl (by decide) (Nat.le_of_ble_eq_true rfl) fun p e s m args below meth c Q hx hb hml hown hts hK hP hRet ls hl => ?_
  have hS : va_S A s.heap s.heap [] := va_S.rf
  have hl : lv_has ls 4 [(0, .int yx0)] := hl
  have h : (z_br (z_lp (bX6_thousands_4 yx0) ((1 : Int64), (0 : Int32))) (fun t => match t with | yv5 => some yv5)) = some rr := h
  refine lv_lconst (v := (1 : Int64)) hx hb dX6_thousands_0 (by decide) ?_
  refine lv_lstore_n (lv' := [(1, .long (1 : Int64)), (0, .int yx0)]) hx hb dX6_thousands_1 rfl hl (by decide) rfl (fun ls hl => ?_)
  refine lv_iconst (v := (0 : Int32)) hx hb dX6_thousands_2 (by decide) ?_
  refine lv_istore_n (lv' := [(3, .int (0 : Int32)), (1, .long (1 : Int64)), (0, .int yx0)]) hx hb dX6_thousands_3 rfl hl (by decide) rfl (fun ls hl => ?_)
  obtain ⟨yt4, hlp, h⟩ := z_brx h
  obtain ⟨yn4, hlp⟩ := z_lpx hlp
  have hE21 : ∀ (yv5 : Int64) (H : Heap) (locs : List Loc) (ls : Array Slot), yv5 = yt4 → va_P D vwCl (w yd) H → va_S A s.heap H locs → lv_has ls 4 [(1, .long yv5)] → W p l e (z_rm 0 0) s m args below meth c H locs 0 0 Q (F0 m 21 ls []) := by
    intro yv5 H locs ls et hP hS hl
    subst et
    have h : (some yv5) = some rr := h
    refine lv_lload_n hx hb dX6_thousands_21 rfl (lv_at hl 0 rfl) ?_
    exact hRet _ _ _ _ _ _ hP hS (z_pair h) dX6_thousands_22
  have hL4 : ∀ (n : Nat) (yv1 : Int64) (yv2 : Int32) (H : Heap) (locs : List Loc) (ls : Array Slot), z_it (bX6_thousands_4 yx0) n (yv1, yv2) = some yt4 → va_P D vwCl (w yd) H → va_S A s.heap H locs → lv_has ls 4 [(0, .int yx0), (1, .long yv1), (3, .int yv2)] → W p l e (z_rm 0 0) s m args below meth c H locs 0 0 Q (F0 m 4 ls []) := by
    intro n
    induction n with
    | zero => intro yv1 yv2 H locs ls hn; exact z_it0 hn
    | succ n ih =>
      intro yv1 yv2 H locs ls hn hP hS hl
      obtain ⟨yq4, h, hq1, hq2⟩ := z_itx hn
      have h : (zif (yx0 ≤ yv2) (some (.inr yv1)) (z_nm (yv1 * (1000 : Int64)) fun yv3 => z_nm (yv2 + (1 : Int32)) fun yv4 => some (.inl (yv3, yv4)))) = some yq4 := h
      refine lv_iload_n hx hb dX6_thousands_4 rfl (lv_at hl 2 rfl) ?_
      refine lv_iload_n hx hb dX6_thousands_5 rfl (lv_at hl 0 rfl) ?_
      refine lv_icmp_ge (tgt := 21) hx hb dX6_thousands_6 (by decide) (fun yc6 => ?_) (fun yc6 => ?_)
      · have h := z_ifp yc6 h
        exact hE21 _ _ _ _ (hq2 _ (z_sm h).symm) hP hS (lv_sub hl [1] rfl)
      · have h := z_ifn yc6 h
        refine lv_lload_n hx hb dX6_thousands_9 rfl (lv_at hl 1 rfl) ?_
        refine lv_ldc2 hx hb hown (hts _ wl_4_200) dX6_thousands_10 ?_
        refine lv_lmul hx hb dX6_thousands_13 ?_
        refine lv_topl (fun yv3 e_yv3 => ?_)
        have h := z_nma e_yv3 h
        refine lv_lstore_n (lv' := [(1, .long yv3), (0, .int yx0), (3, .int yv2)]) hx hb dX6_thousands_14 rfl hl (by decide) rfl (fun ls hl => ?_)
        obtain ⟨yv4, e_yv4, h⟩ := z_nmx h
        refine lv_iinc (v := yv4) (lv' := [(3, .int yv4), (1, .long yv3), (0, .int yx0)]) hx hb dX6_thousands_15 hl (k := 2) rfl (by rw [e_yv4]; rfl) (by decide) rfl (fun ls hl => ?_)
        refine lv_goto (tgt := 4) hx hb dX6_thousands_18 (by decide) ?_
        exact ih _ _ _ _ _ (hq1 _ (z_sm h).symm) hP hS (lv_sub hl [2, 1, 0] rfl)
  exact hL4 yn4 _ _ _ _ _ hlp hP hS (lv_sub hl [2, 1, 0] rfl)
noncomputable def bX6_judge_43 (yx1 : Int32) (yx2 : Int64) (s : Int32 × Dt) : Option ((Int32 × Dt) ⊕ ((Int32 × Dt) ⊕ (Dt))) := match s with
  | (yv5, yd6) => zif (yx1 ≤ yv5) (some (.inr (.inr yd6))) (z_br (fX6_thousands ((yx1 - (1 : Int32)) - yv5)) fun yr7 => z_gd (z_dc (¬ yr7 = 0)) (z_nm (((yx2 / yr7) - (yx2 / yr7) / (1000 : Int64) * (1000 : Int64)).toInt32) fun yv8 => z_bd (fX6_judged yd6 (yv8 / (100 : Int32)) ((yv8 / (10 : Int32)) - (yv8 / (10 : Int32)) / (10 : Int32) * (10 : Int32)) (yv8 - yv8 / (10 : Int32) * (10 : Int32))) fun yr9 yd10 => zif (yr9 = 0) (some (.inr (.inl (yv5, yd10)))) (z_nm (yv5 + (1 : Int32)) fun yv11 => some (.inl (yv11, yd10)))))
noncomputable def fX6_judge (yd : Dt) (yx1 : Int32) (yx2 : Int64) : Option (Int32 × Dt) :=
  z_br (fX6_in (yx1.toInt64) (1 : Int64) (4 : Int64)) fun yr1 => zif (yr1 = 0) (some ((-2 : Int32), yd)) (z_br (fX6_thousands yx1) fun yr2 => z_br (fX6_in yx2 (0 : Int64) (yr2 - (1 : Int64))) fun yr3 => zif (yr3 = 0) (some ((-2 : Int32), yd)) (z_br (fX6_copy yd 2 3) fun yd4 => z_br (z_lp (bX6_judge_43 yx1 yx2) ((0 : Int32), yd4)) (fun t => match t with | .inl (yv12, yd13) => some (yv12, yd13) | .inr yd14 => some ((-9 : Int32), yd14))))
set_option maxHeartbeats 4000000 in
set_option maxRecDepth 100000 in
theorem kX6_judge {l : Launch} {D : va_G} {G : z_G} {ad : Nat → Nat} {A : Nat → Prop} (hI : ∀ d, va_D A (WM G ad d)) {yd : Dt} {yx1 : Int32} {yx2 : Int64}  {rr : Int32} {dd : Dt} (h : fX6_judge yd yx1 yx2 = some (rr, dd)) : z_Mi l D G A (WM G ad) yX6_judge cX6_judge 6 (z_rm 13 322) yd [.ref (ad 0), .int yx1, .long yx2] rr dd := by
  refine z_ofi (by decide) (Nat.le_of_ble_eq_true rfl) fun p e s m args below meth c Q hx hb hml hown hts hK hP hRet ls hl => ?_
  have hS : va_S A s.heap s.heap [] := va_S.rf
  have hl : lv_has ls 6 [(0, .ref (ad 0)), (1, .int yx1), (2, .long yx2)] := hl
  have h : (z_br (fX6_in (yx1.toInt64) (1 : Int64) (4 : Int64)) fun yr1 => zif (yr1 = 0) (some ((-2 : Int32), yd)) (z_br (fX6_thousands yx1) fun yr2 => z_br (fX6_in yx2 (0 : Int64) (yr2 - (1 : Int64))) fun yr3 => zif (yr3 = 0) (some ((-2 : Int32), yd)) (z_br (fX6_copy yd 2 3) fun yd4 => z_br (z_lp (bX6_judge_43 yx1 yx2) ((0 : Int32), yd4)) (fun t => match t with | .inl (yv12, yd13) => some (yv12, yd13) | .inr yd14 => some ((-9 : Int32), yd14))))) = some (rr, dd) := h
  refine lv_iload_n hx hb dX6_judge_0 rfl (lv_at hl 1 rfl) ?_
  refine lv_i2l (v := yx1.toInt64) hx hb dX6_judge_1 rfl ?_
  refine lv_lconst (v := (1 : Int64)) hx hb dX6_judge_2 (by decide) ?_
  refine lv_ldc2 hx hb hown (hts _ wl_4_15) dX6_judge_3 ?_
  obtain ⟨yr1, yhc6, h⟩ := z_brx h
  refine z_kz (z_rS (As := [.long (yx1.toInt64), .long (1 : Int64), .long (4 : Int64)]) (rest := []) ⟨hx, hb, hml, hown, hts⟩ hK hP (kX6_in yhc6) giX6_64 ⟨rfl, rfl⟩ ndX6_in ⟨Nat.le_of_ble_eq_true rfl, Nat.le_of_ble_eq_true rfl⟩ rfl hl.1 rfl (Nat.le_of_ble_eq_true rfl) ⟨Nat.le_refl _, Nat.le_refl _⟩ dX6_judge_6) hS (fun H locs z_yr1 hP hS => ?_)
  refine lv_if_eq (tgt := 26) hx hb dX6_judge_9 (by decide) (fun yc9 => ?_) (fun yc9 => ?_)
  · have h := z_ifp yc9 h
    refine lv_bipush (v := (-2 : Int32)) hx hb dX6_judge_26 (by decide) ?_
    exact hRet _ _ _ _ _ _ hP hS h dX6_judge_28
  · have h := z_ifn yc9 h
    refine lv_lload_n hx hb dX6_judge_12 rfl (lv_at hl 2 rfl) ?_
    refine lv_lconst (v := (0 : Int64)) hx hb dX6_judge_13 (by decide) ?_
    refine lv_iload_n hx hb dX6_judge_14 rfl (lv_at hl 1 rfl) ?_
    obtain ⟨yr2, yhc15, h⟩ := z_brx h
    refine z_kl (z_rS (As := [.int yx1]) (rest := [.long (0 : Int64), .long yx2]) ⟨hx, hb, hml, hown, hts⟩ hK hP (kX6_thousands yhc15) giX6_238 ⟨rfl, rfl⟩ ndX6_thousands ⟨Nat.le_of_ble_eq_true rfl, Nat.le_of_ble_eq_true rfl⟩ rfl hl.1 rfl (Nat.le_of_ble_eq_true rfl) ⟨Nat.le_refl _, Nat.le_refl _⟩ dX6_judge_15) hS (fun H locs hP hS => ?_)
    refine lv_lconst (v := (1 : Int64)) hx hb dX6_judge_18 (by decide) ?_
    refine lv_lsub hx hb dX6_judge_19 ?_
    obtain ⟨yr3, yhc20, h⟩ := z_brx h
    refine z_kz (z_rS (As := [.long yx2, .long (0 : Int64), .long (yr2 - (1 : Int64))]) (rest := []) ⟨hx, hb, hml, hown, hts⟩ hK hP (kX6_in yhc20) giX6_64 ⟨rfl, rfl⟩ ndX6_in ⟨Nat.le_of_ble_eq_true rfl, Nat.le_of_ble_eq_true rfl⟩ rfl hl.1 rfl (Nat.le_of_ble_eq_true rfl) ⟨Nat.le_refl _, Nat.le_refl _⟩ dX6_judge_20) hS (fun H locs z_yr3 hP hS => ?_)
    refine lv_if_ne (tgt := 29) hx hb dX6_judge_23 (by decide) (fun yc23 => ?_) (fun yc23 => ?_)
    · have h := z_ifn yc23 h
      refine lv_aload_n hx hb dX6_judge_29 rfl (lv_at hl 0 rfl) ?_
      refine gt_X6_2 hx hb hts hown hK hP (hts _ wl_3_136) dX6_judge_30 ?_
      refine lv_aload_n hx hb dX6_judge_33 rfl (lv_at hl 0 rfl) ?_
      refine gt_X6_3 hx hb hts hown hK hP (hts _ wl_3_137) dX6_judge_34 ?_
      obtain ⟨yd4, yhc37, h⟩ := z_brx h
      refine z_kv (z_rS (As := [.ref (ad 2), .ref (ad 3)]) (rest := []) ⟨hx, hb, hml, hown, hts⟩ hK hP (kX6_copy hI rfl rfl yhc37) giX6_211 ⟨rfl, rfl⟩ ndX6_copy ⟨Nat.le_of_ble_eq_true rfl, Nat.le_of_ble_eq_true rfl⟩ rfl hl.1 rfl (Nat.le_of_ble_eq_true rfl) ⟨Nat.le_refl _, Nat.le_refl _⟩ dX6_judge_37) hS (fun H locs hP hS => ?_)
      refine lv_iconst (v := (0 : Int32)) hx hb dX6_judge_40 (by decide) ?_
      refine lv_istore (lv' := [(4, .int (0 : Int32)), (0, .ref (ad 0)), (1, .int yx1), (2, .long yx2)]) hx hb dX6_judge_41 hl (by decide) rfl (fun ls hl => ?_)
      obtain ⟨yt43, hlp, h⟩ := z_brx h
      obtain ⟨yn43, hlp⟩ := z_lpx hlp
      have hE92 : ∀ (yv12 : Int32) (yd13 : Dt) (H : Heap) (locs : List Loc) (ls : Array Slot), (.inl (yv12, yd13)) = yt43 → va_P D vwCl (WM G ad yd13) H → va_S A s.heap H locs → lv_has ls 6 [(4, .int yv12)] → W p l e (z_rm 13 322) s m args below meth c H locs 0 0 Q (F0 m 92 ls []) := by
        intro yv12 yd13 H locs ls et hP hS hl
        subst et
        have h : (some (yv12, yd13)) = some (rr, dd) := h
        refine lv_iload hx hb dX6_judge_92 (lv_at hl 0 rfl) ?_
        exact hRet _ _ _ _ _ _ hP hS h dX6_judge_94
      have hE101 : ∀ (yd14 : Dt) (H : Heap) (locs : List Loc) (ls : Array Slot), (.inr yd14) = yt43 → va_P D vwCl (WM G ad yd14) H → va_S A s.heap H locs → lv_has ls 6 [] → W p l e (z_rm 13 322) s m args below meth c H locs 0 0 Q (F0 m 101 ls []) := by
        intro yd14 H locs ls et hP hS hl
        subst et
        have h : (some ((-9 : Int32), yd14)) = some (rr, dd) := h
        refine lv_bipush (v := (-9 : Int32)) hx hb dX6_judge_101 (by decide) ?_
        exact hRet _ _ _ _ _ _ hP hS h dX6_judge_103
      have hL43 : ∀ (n : Nat) (yv5 : Int32) (yd6 : Dt) (H : Heap) (locs : List Loc) (ls : Array Slot), z_it (bX6_judge_43 yx1 yx2) n (yv5, yd6) = some yt43 → va_P D vwCl (WM G ad yd6) H → va_S A s.heap H locs → lv_has ls 6 [(0, .ref (ad 0)), (1, .int yx1), (2, .long yx2), (4, .int yv5)] → W p l e (z_rm 13 322) s m args below meth c H locs 0 0 Q (F0 m 43 ls []) := by
        intro n
        induction n with
        | zero => intro yv5 yd6 H locs ls hn; exact z_it0 hn
        | succ n ih =>
          intro yv5 yd6 H locs ls hn hP hS hl
          obtain ⟨yq43, h, hq1, hq2⟩ := z_itx hn
          have h : (zif (yx1 ≤ yv5) (some (.inr (.inr yd6))) (z_br (fX6_thousands ((yx1 - (1 : Int32)) - yv5)) fun yr7 => z_gd (z_dc (¬ yr7 = 0)) (z_nm (((yx2 / yr7) - (yx2 / yr7) / (1000 : Int64) * (1000 : Int64)).toInt32) fun yv8 => z_bd (fX6_judged yd6 (yv8 / (100 : Int32)) ((yv8 / (10 : Int32)) - (yv8 / (10 : Int32)) / (10 : Int32) * (10 : Int32)) (yv8 - yv8 / (10 : Int32) * (10 : Int32))) fun yr9 yd10 => zif (yr9 = 0) (some (.inr (.inl (yv5, yd10)))) (z_nm (yv5 + (1 : Int32)) fun yv11 => some (.inl (yv11, yd10)))))) = some yq43 := h
          refine lv_iload hx hb dX6_judge_43 (lv_at hl 3 rfl) ?_
          refine lv_iload_n hx hb dX6_judge_45 rfl (lv_at hl 1 rfl) ?_
          refine lv_icmp_ge (tgt := 101) hx hb dX6_judge_46 (by decide) (fun yc46 => ?_) (fun yc46 => ?_)
          · have h := z_ifp yc46 h
            exact hE101 _ _ _ _ (hq2 _ (z_sm h).symm) hP hS (lv_sub hl [] rfl)
          · have h := z_ifn yc46 h
            refine lv_lload_n hx hb dX6_judge_49 rfl (lv_at hl 2 rfl) ?_
            refine lv_iload_n hx hb dX6_judge_50 rfl (lv_at hl 1 rfl) ?_
            refine lv_iconst (v := (1 : Int32)) hx hb dX6_judge_51 (by decide) ?_
            refine lv_isub hx hb dX6_judge_52 ?_
            refine lv_iload hx hb dX6_judge_53 (lv_at hl 3 rfl) ?_
            refine lv_isub hx hb dX6_judge_55 ?_
            obtain ⟨yr7, yhc56, h⟩ := z_brx h
            refine z_kl (z_rS (As := [.int ((yx1 - (1 : Int32)) - yv5)]) (rest := [.long yx2]) ⟨hx, hb, hml, hown, hts⟩ hK hP (kX6_thousands yhc56) giX6_238 ⟨rfl, rfl⟩ ndX6_thousands ⟨Nat.le_of_ble_eq_true rfl, Nat.le_of_ble_eq_true rfl⟩ rfl hl.1 rfl (Nat.le_of_ble_eq_true rfl) ⟨Nat.le_refl _, Nat.le_refl _⟩ dX6_judge_56) hS (fun H locs hP hS => ?_)
            obtain ⟨yg59, h⟩ := z_gp h
            refine lv_ldiv hx hb dX6_judge_59 yg59 ?_
            refine lv_ldc2 hx hb hown (hts _ wl_4_200) dX6_judge_60 ?_
            refine lv_lrem hx hb dX6_judge_63 (by decide) ?_
            refine lv_l2i (v := ((yx2 / yr7) - (yx2 / yr7) / (1000 : Int64) * (1000 : Int64)).toInt32) hx hb dX6_judge_64 rfl ?_
            refine lv_topi (fun yv8 e_yv8 => ?_)
            have h := z_nma e_yv8 h
            refine lv_istore (lv' := [(5, .int yv8), (0, .ref (ad 0)), (1, .int yx1), (2, .long yx2), (4, .int yv5)]) hx hb dX6_judge_65 hl (by decide) rfl (fun ls hl => ?_)
            refine lv_aload_n hx hb dX6_judge_67 rfl (lv_at hl 1 rfl) ?_
            refine lv_iload hx hb dX6_judge_68 (lv_at hl 0 rfl) ?_
            refine lv_bipush (v := (100 : Int32)) hx hb dX6_judge_70 (by decide) ?_
            refine lv_idiv hx hb dX6_judge_72 (by decide) ?_
            refine lv_iload hx hb dX6_judge_73 (lv_at hl 0 rfl) ?_
            refine lv_bipush (v := (10 : Int32)) hx hb dX6_judge_75 (by decide) ?_
            refine lv_idiv hx hb dX6_judge_77 (by decide) ?_
            refine lv_bipush (v := (10 : Int32)) hx hb dX6_judge_78 (by decide) ?_
            refine lv_irem hx hb dX6_judge_80 (by decide) ?_
            refine lv_iload hx hb dX6_judge_81 (lv_at hl 0 rfl) ?_
            refine lv_bipush (v := (10 : Int32)) hx hb dX6_judge_83 (by decide) ?_
            refine lv_irem hx hb dX6_judge_85 (by decide) ?_
            obtain ⟨yr9, yd10, yhc86, h⟩ := z_bdx h
            refine z_kz (z_rV (As := [.int (yv8 / (100 : Int32)), .int ((yv8 / (10 : Int32)) - (yv8 / (10 : Int32)) / (10 : Int32) * (10 : Int32)), .int (yv8 - yv8 / (10 : Int32) * (10 : Int32))]) (rest := []) ⟨hx, hb, hml, hown, hts⟩ hK hP w_X6 rfl (kX6_judged hI yhc86) giX6_241 ⟨rfl, rfl⟩ ndX6_judged ⟨Nat.le_of_ble_eq_true rfl, Nat.le_of_ble_eq_true rfl⟩ rfl hl.1 rfl (Nat.le_of_ble_eq_true rfl) ⟨Nat.le_refl _, Nat.le_refl _⟩ dX6_judge_86) hS (fun H locs z_yr9 hP hS => ?_)
            refine lv_if_ne (tgt := 95) hx hb dX6_judge_89 (by decide) (fun yc89 => ?_) (fun yc89 => ?_)
            · have h := z_ifn yc89 h
              obtain ⟨yv11, e_yv11, h⟩ := z_nmx h
              refine lv_iinc (v := yv11) (lv' := [(4, .int yv11), (5, .int yv8), (0, .ref (ad 0)), (1, .int yx1), (2, .long yx2)]) hx hb dX6_judge_95 hl (k := 4) rfl (by rw [e_yv11]; rfl) (by decide) rfl (fun ls hl => ?_)
              refine lv_goto (tgt := 43) hx hb dX6_judge_98 (by decide) ?_
              exact ih _ _ _ _ _ (hq1 _ (z_sm h).symm) hP hS (lv_sub hl [2, 3, 4, 0] rfl)
            · have h := z_ifp yc89 h
              exact hE92 _ _ _ _ _ (hq2 _ (z_sm h).symm) hP hS (lv_sub hl [4] rfl)
      exact hL43 yn43 _ _ _ _ _ hlp hP hS (lv_sub hl [1, 2, 3, 0] rfl)
    · have h := z_ifp yc23 h
      refine lv_bipush (v := (-2 : Int32)) hx hb dX6_judge_26 (by decide) ?_
      exact hRet _ _ _ _ _ _ hP hS h dX6_judge_28
noncomputable def fX6_see (yd : Dt) (yx1 : Int32) (yx2 : Int32) : Option (Int32 × Dt) :=
  z_br (fX6_isPath yd yx1) fun yr1 => zif (yr1 = 0) (some ((-1 : Int32), yd)) (z_br (fX6_in (yx2.toInt64) (0 : Int64) (20 : Int64)) fun yr2 => zif (yr2 = 0) (some ((-2 : Int32), yd)) (zif ((yd.1 0 11) = (6 : Int32)) (some ((-4 : Int32), yd)) (z_gd (z_in (yd.1 0 11) 6) (z_nm (z_st yd 7 (z_ix (yd.1 0 11)) yx1) fun yd3 => z_gd (z_in (yd3.1 0 11) 6) (z_nm (z_st yd3 8 (z_ix (yd3.1 0 11)) yx2) fun yd4 => z_nm (z_st yd4 0 11 ((yd4.1 0 11) + (1 : Int32))) fun yd5 => some ((yd5.1 0 11), yd5))))))
set_option maxHeartbeats 4000000 in
set_option maxRecDepth 100000 in
theorem kX6_see {l : Launch} {D : va_G} {G : z_G} {ad : Nat → Nat} {A : Nat → Prop} (hI : ∀ d, va_D A (WM G ad d)) {yd : Dt} {yx1 : Int32} {yx2 : Int32}  {rr : Int32} {dd : Dt} (h : fX6_see yd yx1 yx2 = some (rr, dd)) : z_Mi l D G A (WM G ad) yX6_see cX6_see 3 (z_rm 2 46) yd [.ref (ad 0), .int yx1, .int yx2] rr dd := by
  refine z_ofi (by decide) (Nat.le_of_ble_eq_true rfl) fun p e s m args below meth c Q hx hb hml hown hts hK hP hRet ls hl => ?_
  have hS : va_S A s.heap s.heap [] := va_S.rf
  have hl : lv_has ls 3 [(0, .ref (ad 0)), (1, .int yx1), (2, .int yx2)] := hl
  have h : (z_br (fX6_isPath yd yx1) fun yr1 => zif (yr1 = 0) (some ((-1 : Int32), yd)) (z_br (fX6_in (yx2.toInt64) (0 : Int64) (20 : Int64)) fun yr2 => zif (yr2 = 0) (some ((-2 : Int32), yd)) (zif ((yd.1 0 11) = (6 : Int32)) (some ((-4 : Int32), yd)) (z_gd (z_in (yd.1 0 11) 6) (z_nm (z_st yd 7 (z_ix (yd.1 0 11)) yx1) fun yd3 => z_gd (z_in (yd3.1 0 11) 6) (z_nm (z_st yd3 8 (z_ix (yd3.1 0 11)) yx2) fun yd4 => z_nm (z_st yd4 0 11 ((yd4.1 0 11) + (1 : Int32))) fun yd5 => some ((yd5.1 0 11), yd5))))))) = some (rr, dd) := h
  refine lv_aload_n hx hb dX6_see_0 rfl (lv_at hl 0 rfl) ?_
  refine lv_iload_n hx hb dX6_see_1 rfl (lv_at hl 1 rfl) ?_
  obtain ⟨yr1, yhc2, h⟩ := z_brx h
  refine z_kz (z_rV (As := [.int yx1]) (rest := []) ⟨hx, hb, hml, hown, hts⟩ hK hP w_X6 rfl (kX6_isPath hI yhc2) giX6_208 ⟨rfl, rfl⟩ ndX6_isPath ⟨Nat.le_of_ble_eq_true rfl, Nat.le_of_ble_eq_true rfl⟩ rfl hl.1 rfl (Nat.le_of_ble_eq_true rfl) ⟨Nat.le_refl _, Nat.le_refl _⟩ dX6_see_2) hS (fun H locs z_yr1 hP hS => ?_)
  refine lv_if_ne (tgt := 10) hx hb dX6_see_5 (by decide) (fun yc5 => ?_) (fun yc5 => ?_)
  · have h := z_ifn yc5 h
    refine lv_iload_n hx hb dX6_see_10 rfl (lv_at hl 2 rfl) ?_
    refine lv_i2l (v := yx2.toInt64) hx hb dX6_see_11 rfl ?_
    refine lv_lconst (v := (0 : Int64)) hx hb dX6_see_12 (by decide) ?_
    refine lv_ldc2 hx hb hown (hts _ wl_4_209) dX6_see_13 ?_
    obtain ⟨yr2, yhc16, h⟩ := z_brx h
    refine z_kz (z_rS (As := [.long (yx2.toInt64), .long (0 : Int64), .long (20 : Int64)]) (rest := []) ⟨hx, hb, hml, hown, hts⟩ hK hP (kX6_in yhc16) giX6_64 ⟨rfl, rfl⟩ ndX6_in ⟨Nat.le_of_ble_eq_true rfl, Nat.le_of_ble_eq_true rfl⟩ rfl hl.1 rfl (Nat.le_of_ble_eq_true rfl) ⟨Nat.le_refl _, Nat.le_refl _⟩ dX6_see_16) hS (fun H locs z_yr2 hP hS => ?_)
    refine lv_if_ne (tgt := 25) hx hb dX6_see_19 (by decide) (fun yc19 => ?_) (fun yc19 => ?_)
    · have h := z_ifn yc19 h
      refine lv_aload_n hx hb dX6_see_25 rfl (lv_at hl 0 rfl) ?_
      refine gt_X6_11 hx hb hts hown hK hP (hts _ wl_3_145) dX6_see_26 ?_
      refine lv_bipush (v := (6 : Int32)) hx hb dX6_see_29 (by decide) ?_
      refine lv_icmp_ne (tgt := 37) hx hb dX6_see_31 (by decide) (fun yc31 => ?_) (fun yc31 => ?_)
      · have h := z_ifn yc31 h
        refine lv_aload_n hx hb dX6_see_37 rfl (lv_at hl 0 rfl) ?_
        refine gt_X6_9 hx hb hts hown hK hP (hts _ wl_3_143) dX6_see_38 ?_
        refine lv_aload_n hx hb dX6_see_41 rfl (lv_at hl 0 rfl) ?_
        refine gt_X6_11 hx hb hts hown hK hP (hts _ wl_3_145) dX6_see_42 ?_
        refine lv_iload_n hx hb dX6_see_45 rfl (lv_at hl 1 rfl) ?_
        obtain ⟨yg46, h⟩ := z_gi h
        refine as_M hx hb hK hP hI hS rfl (by decide) yg46 dX6_see_46 (fun H locs yd3 e_yd3 hP hS => ?_)
        have h := z_nma e_yd3 h
        refine lv_aload_n hx hb dX6_see_47 rfl (lv_at hl 0 rfl) ?_
        refine gt_X6_10 hx hb hts hown hK hP (hts _ wl_3_144) dX6_see_48 ?_
        refine lv_aload_n hx hb dX6_see_51 rfl (lv_at hl 0 rfl) ?_
        refine gt_X6_11 hx hb hts hown hK hP (hts _ wl_3_145) dX6_see_52 ?_
        refine lv_iload_n hx hb dX6_see_55 rfl (lv_at hl 2 rfl) ?_
        obtain ⟨yg56, h⟩ := z_gi h
        refine as_M hx hb hK hP hI hS rfl (by decide) yg56 dX6_see_56 (fun H locs yd4 e_yd4 hP hS => ?_)
        have h := z_nma e_yd4 h
        refine lv_aload_n hx hb dX6_see_57 rfl (lv_at hl 0 rfl) ?_
        refine lv_dup hx hb dX6_see_58 rfl ?_
        refine gt_X6_11 hx hb hts hown hK hP (hts _ wl_3_145) dX6_see_59 ?_
        refine lv_iconst (v := (1 : Int32)) hx hb dX6_see_62 (by decide) ?_
        refine lv_iadd hx hb dX6_see_63 ?_
        refine pt_X6_11 hx hb hts hown hK hP hI hS (hts _ wl_3_145) dX6_see_64 (fun H locs yd5 e_yd5 hP hS => ?_)
        have h := z_nma e_yd5 h
        refine lv_aload_n hx hb dX6_see_67 rfl (lv_at hl 0 rfl) ?_
        refine gt_X6_11 hx hb hts hown hK hP (hts _ wl_3_145) dX6_see_68 ?_
        exact hRet _ _ _ _ _ _ hP hS h dX6_see_71
      · have h := z_ifp yc31 h
        refine lv_bipush (v := (-4 : Int32)) hx hb dX6_see_34 (by decide) ?_
        exact hRet _ _ _ _ _ _ hP hS h dX6_see_36
    · have h := z_ifp yc19 h
      refine lv_bipush (v := (-2 : Int32)) hx hb dX6_see_22 (by decide) ?_
      exact hRet _ _ _ _ _ _ hP hS h dX6_see_24
  · have h := z_ifp yc5 h
    refine lv_iconst (v := (-1 : Int32)) hx hb dX6_see_8 (by decide) ?_
    exact hRet _ _ _ _ _ _ hP hS h dX6_see_9
noncomputable def fX6_unsee (yd : Dt) : Option (Int32 × Dt) :=
  z_nm (yd.1 0 11) fun yv1 => z_nm (z_st yd 0 11 (0 : Int32)) fun yd2 => some (yv1, yd2)
set_option maxHeartbeats 4000000 in
set_option maxRecDepth 100000 in
theorem kX6_unsee {l : Launch} {D : va_G} {G : z_G} {ad : Nat → Nat} {A : Nat → Prop} (hI : ∀ d, va_D A (WM G ad d)) {yd : Dt}   {rr : Int32} {dd : Dt} (h : fX6_unsee yd = some (rr, dd)) : z_Mi l D G A (WM G ad) yX6_unsee cX6_unsee 2 (z_rm 0 0) yd [.ref (ad 0)] rr dd := by
  refine z_ofi (by decide) (Nat.le_of_ble_eq_true rfl) fun p e s m args below meth c Q hx hb hml hown hts hK hP hRet ls hl => ?_
  have hS : va_S A s.heap s.heap [] := va_S.rf
  have hl : lv_has ls 2 [(0, .ref (ad 0))] := hl
  have h : (z_nm (yd.1 0 11) fun yv1 => z_nm (z_st yd 0 11 (0 : Int32)) fun yd2 => some (yv1, yd2)) = some (rr, dd) := h
  refine lv_aload_n hx hb dX6_unsee_0 rfl (lv_at hl 0 rfl) ?_
  refine gt_X6_11 hx hb hts hown hK hP (hts _ wl_3_145) dX6_unsee_1 ?_
  refine lv_topi (fun yv1 e_yv1 => ?_)
  have h := z_nma e_yv1 h
  refine lv_istore_n (lv' := [(1, .int yv1), (0, .ref (ad 0))]) hx hb dX6_unsee_4 rfl hl (by decide) rfl (fun ls hl => ?_)
  refine lv_aload_n hx hb dX6_unsee_5 rfl (lv_at hl 1 rfl) ?_
  refine lv_iconst (v := (0 : Int32)) hx hb dX6_unsee_6 (by decide) ?_
  refine pt_X6_11 hx hb hts hown hK hP hI hS (hts _ wl_3_145) dX6_unsee_7 (fun H locs yd2 e_yd2 hP hS => ?_)
  have h := z_nma e_yd2 h
  refine lv_iload_n hx hb dX6_unsee_10 rfl (lv_at hl 0 rfl) ?_
  exact hRet _ _ _ _ _ _ hP hS h dX6_unsee_11
noncomputable def jX6_which_79 (yv6 : Int32) (yv8 : Int32) (yd9 : Dt) : Option ((Int32 × Int32 × Dt) ⊕ (Int32 × Dt)) :=
  z_nm (yv6 + (1 : Int32)) fun yv10 => some (.inl (yv8, yv10, yd9))
noncomputable def jX6_which_78 (yv6 : Int32) (yd11 : Dt) : Option ((Int32 × Int32 × Dt) ⊕ (Int32 × Dt)) :=
  jX6_which_79 yv6 (0 : Int32) yd11
noncomputable def jX6_which_74 (yv6 : Int32) (yd13 : Dt) : Option ((Int32 × Int32 × Dt) ⊕ (Int32 × Dt)) :=
  jX6_which_79 yv6 (1 : Int32) yd13
noncomputable def bX6_which_19 (s : Int32 × Int32 × Dt) : Option ((Int32 × Int32 × Dt) ⊕ (Int32 × Dt)) := match s with
  | (yv5, yv6, yd7) => zif ((yd7.1 0 11) ≤ yv6) (some (.inr (yv5, yd7))) (zif (yv5 = 0) (jX6_which_78 yv6 yd7) (z_gd (z_in yv6 6) (z_br (fX6_isPath yd7 (yd7.1 7 (z_ix yv6))) fun yr12 => zif (yr12 = 0) (jX6_which_74 yv6 yd7) (z_gd (z_in yv6 6) (z_bd (fX6_answersOf yd7 2 (yd7.1 7 (z_ix yv6))) fun yr14 yd15 => z_br (fX6_ones yr14) fun yr16 => z_gd (z_in yv6 6) (zif (yr16 = (yd15.1 8 (z_ix yv6))) (jX6_which_74 yv6 yd15) (jX6_which_78 yv6 yd15)))))))
noncomputable def bX6_which_4 (s : Int32 × Int32 × Dt) : Option ((Int32 × Int32 × Dt) ⊕ (Int32 × Dt)) := match s with
  | (yv1, yv2, yd3) => zif ((5 : Int32) < yv2) (some (.inr (yv1, yd3))) (z_nm (z_st yd3 0 13 yv2) fun yd4 => z_br (z_lp (bX6_which_19) ((1 : Int32), (0 : Int32), yd4)) (fun t => match t with | (yv17, yd18) => z_nm (z_st yd18 0 13 (-9 : Int32)) fun yd19 => z_nm (zif (yv17 = 0) (0 : Int32) ((1 : Int32) <<< (yv2 &&& 31))) fun yv20 => z_nm (yv1 ||| yv20) fun yv21 => z_nm (yv2 + (1 : Int32)) fun yv22 => some (.inl (yv21, yv22, yd19))))
noncomputable def fX6_which (yd : Dt) : Option (Int32 × Dt) :=
  z_br (z_lp (bX6_which_4) ((0 : Int32), (0 : Int32), yd)) (fun t => match t with | (yv23, yd24) => some (yv23, yd24))
set_option maxHeartbeats 4000000 in
set_option maxRecDepth 100000 in
theorem kX6_which {l : Launch} {D : va_G} {G : z_G} {ad : Nat → Nat} {A : Nat → Prop} (hI : ∀ d, va_D A (WM G ad d)) {yd : Dt}   {rr : Int32} {dd : Dt} (h : fX6_which yd = some (rr, dd)) : z_Mi l D G A (WM G ad) yX6_which cX6_which 5 (z_rm 6 155) yd [.ref (ad 0)] rr dd := by
  refine z_ofi (by decide) (Nat.le_of_ble_eq_true rfl) fun p e s m args below meth c Q hx hb hml hown hts hK hP hRet ls hl => ?_
  have hS : va_S A s.heap s.heap [] := va_S.rf
  have hl : lv_has ls 5 [(0, .ref (ad 0))] := hl
  have h : (z_br (z_lp (bX6_which_4) ((0 : Int32), (0 : Int32), yd)) (fun t => match t with | (yv23, yd24) => some (yv23, yd24))) = some (rr, dd) := h
  refine lv_iconst (v := (0 : Int32)) hx hb dX6_which_0 (by decide) ?_
  refine lv_istore_n (lv' := [(1, .int (0 : Int32)), (0, .ref (ad 0))]) hx hb dX6_which_1 rfl hl (by decide) rfl (fun ls hl => ?_)
  refine lv_iconst (v := (0 : Int32)) hx hb dX6_which_2 (by decide) ?_
  refine lv_istore_n (lv' := [(2, .int (0 : Int32)), (1, .int (0 : Int32)), (0, .ref (ad 0))]) hx hb dX6_which_3 rfl hl (by decide) rfl (fun ls hl => ?_)
  obtain ⟨yt4, hlp, h⟩ := z_brx h
  obtain ⟨yn4, hlp⟩ := z_lpx hlp
  have hE112 : ∀ (yv23 : Int32) (yd24 : Dt) (H : Heap) (locs : List Loc) (ls : Array Slot), (yv23, yd24) = yt4 → va_P D vwCl (WM G ad yd24) H → va_S A s.heap H locs → lv_has ls 5 [(1, .int yv23)] → W p l e (z_rm 6 155) s m args below meth c H locs 0 0 Q (F0 m 112 ls []) := by
    intro yv23 yd24 H locs ls et hP hS hl
    subst et
    have h : (some (yv23, yd24)) = some (rr, dd) := h
    refine lv_iload_n hx hb dX6_which_112 rfl (lv_at hl 0 rfl) ?_
    exact hRet _ _ _ _ _ _ hP hS h dX6_which_113
  have hL4 : ∀ (n : Nat) (yv1 : Int32) (yv2 : Int32) (yd3 : Dt) (H : Heap) (locs : List Loc) (ls : Array Slot), z_it (bX6_which_4) n (yv1, yv2, yd3) = some yt4 → va_P D vwCl (WM G ad yd3) H → va_S A s.heap H locs → lv_has ls 5 [(0, .ref (ad 0)), (1, .int yv1), (2, .int yv2)] → W p l e (z_rm 6 155) s m args below meth c H locs 0 0 Q (F0 m 4 ls []) := by
    intro n
    induction n with
    | zero => intro yv1 yv2 yd3 H locs ls hn; exact z_it0 hn
    | succ n ih =>
      intro yv1 yv2 yd3 H locs ls hn hP hS hl
      obtain ⟨yq4, h, hq1, hq2⟩ := z_itx hn
      have h : (zif ((5 : Int32) < yv2) (some (.inr (yv1, yd3))) (z_nm (z_st yd3 0 13 yv2) fun yd4 => z_br (z_lp (bX6_which_19) ((1 : Int32), (0 : Int32), yd4)) (fun t => match t with | (yv17, yd18) => z_nm (z_st yd18 0 13 (-9 : Int32)) fun yd19 => z_nm (zif (yv17 = 0) (0 : Int32) ((1 : Int32) <<< (yv2 &&& 31))) fun yv20 => z_nm (yv1 ||| yv20) fun yv21 => z_nm (yv2 + (1 : Int32)) fun yv22 => some (.inl (yv21, yv22, yd19))))) = some yq4 := h
      refine lv_iload_n hx hb dX6_which_4 rfl (lv_at hl 2 rfl) ?_
      refine lv_iconst (v := (5 : Int32)) hx hb dX6_which_5 (by decide) ?_
      refine lv_icmp_gt (tgt := 112) hx hb dX6_which_6 (by decide) (fun yc6 => ?_) (fun yc6 => ?_)
      · have h := z_ifp yc6 h
        exact hE112 _ _ _ _ _ (hq2 _ (z_sm h).symm) hP hS (lv_sub hl [1] rfl)
      · have h := z_ifn yc6 h
        refine lv_iconst (v := (1 : Int32)) hx hb dX6_which_9 (by decide) ?_
        refine lv_istore_n (lv' := [(3, .int (1 : Int32)), (0, .ref (ad 0)), (1, .int yv1), (2, .int yv2)]) hx hb dX6_which_10 rfl hl (by decide) rfl (fun ls hl => ?_)
        refine lv_aload_n hx hb dX6_which_11 rfl (lv_at hl 1 rfl) ?_
        refine lv_iload_n hx hb dX6_which_12 rfl (lv_at hl 3 rfl) ?_
        refine pt_X6_13 hx hb hts hown hK hP hI hS (hts _ wl_3_147) dX6_which_13 (fun H locs yd4 e_yd4 hP hS => ?_)
        have h := z_nma e_yd4 h
        refine lv_iconst (v := (0 : Int32)) hx hb dX6_which_16 (by decide) ?_
        refine lv_istore (lv' := [(4, .int (0 : Int32)), (3, .int (1 : Int32)), (0, .ref (ad 0)), (1, .int yv1), (2, .int yv2)]) hx hb dX6_which_17 hl (by decide) rfl (fun ls hl => ?_)
        obtain ⟨yt19, hlp, h⟩ := z_brx h
        obtain ⟨yn19, hlp⟩ := z_lpx hlp
        have hE86 : ∀ (yv17 : Int32) (yd18 : Dt) (H : Heap) (locs : List Loc) (ls : Array Slot), (yv17, yd18) = yt19 → va_P D vwCl (WM G ad yd18) H → va_S A s.heap H locs → lv_has ls 5 [(0, .ref (ad 0)), (1, .int yv1), (2, .int yv2), (3, .int yv17)] → W p l e (z_rm 6 155) s m args below meth c H locs 0 0 Q (F0 m 86 ls []) := by
          intro yv17 yd18 H locs ls et hP hS hl
          subst et
          have h : (z_nm (z_st yd18 0 13 (-9 : Int32)) fun yd19 => z_nm (zif (yv17 = 0) (0 : Int32) ((1 : Int32) <<< (yv2 &&& 31))) fun yv20 => z_nm (yv1 ||| yv20) fun yv21 => z_nm (yv2 + (1 : Int32)) fun yv22 => some (.inl (yv21, yv22, yd19))) = some yq4 := h
          refine lv_aload_n hx hb dX6_which_86 rfl (lv_at hl 0 rfl) ?_
          refine lv_bipush (v := (-9 : Int32)) hx hb dX6_which_87 (by decide) ?_
          refine pt_X6_13 hx hb hts hown hK hP hI hS (hts _ wl_3_147) dX6_which_89 (fun H locs yd19 e_yd19 hP hS => ?_)
          have h := z_nma e_yd19 h
          refine lv_iload_n hx hb dX6_which_92 rfl (lv_at hl 1 rfl) ?_
          refine lv_iload_n hx hb dX6_which_93 rfl (lv_at hl 3 rfl) ?_
          have hM104 : ∀ (yv20 : Int32) (H : Heap) (locs : List Loc), yv20 = (zif (yv17 = 0) (0 : Int32) ((1 : Int32) <<< (yv2 &&& 31))) → va_P D vwCl (WM G ad yd19) H → va_S A s.heap H locs → W p l e (z_rm 6 155) s m args below meth c H locs 0 0 Q (F0 m 104 ls [.int yv20, .int yv1]) := by
            intro yv20 H locs e_yv20 hP hS
            have h := z_nma e_yv20 h
            refine lv_ior hx hb dX6_which_104 ?_
            refine lv_topi (fun yv21 e_yv21 => ?_)
            have h := z_nma e_yv21 h
            refine lv_istore_n (lv' := [(1, .int yv21), (0, .ref (ad 0)), (2, .int yv2), (3, .int yv17)]) hx hb dX6_which_105 rfl hl (by decide) rfl (fun ls hl => ?_)
            obtain ⟨yv22, e_yv22, h⟩ := z_nmx h
            refine lv_iinc (v := yv22) (lv' := [(2, .int yv22), (1, .int yv21), (0, .ref (ad 0)), (3, .int yv17)]) hx hb dX6_which_106 hl (k := 2) rfl (by rw [e_yv22]; rfl) (by decide) rfl (fun ls hl => ?_)
            refine lv_goto (tgt := 4) hx hb dX6_which_109 (by decide) ?_
            exact ih _ _ _ _ _ _ (hq1 _ (z_sm h).symm) hP hS (lv_sub hl [2, 1, 0] rfl)
          refine lv_if_eq (tgt := 103) hx hb dX6_which_94 (by decide) (fun yc94 => ?_) (fun yc94 => ?_)
          · refine lv_iconst (v := (0 : Int32)) hx hb dX6_which_103 (by decide) ?_
            exact hM104 _ _ _ (z_tp yc94 rfl) hP hS
          · refine lv_iconst (v := (1 : Int32)) hx hb dX6_which_97 (by decide) ?_
            refine lv_iload_n hx hb dX6_which_98 rfl (lv_at hl 2 rfl) ?_
            refine lv_ishl hx hb dX6_which_99 ?_
            refine lv_goto (tgt := 104) hx hb dX6_which_100 (by decide) ?_
            exact hM104 _ _ _ (z_tn yc94 rfl) hP hS
        have hL19 : ∀ (n : Nat) (yv5 : Int32) (yv6 : Int32) (yd7 : Dt) (H : Heap) (locs : List Loc) (ls : Array Slot), z_it (bX6_which_19) n (yv5, yv6, yd7) = some yt19 → va_P D vwCl (WM G ad yd7) H → va_S A s.heap H locs → lv_has ls 5 [(0, .ref (ad 0)), (1, .int yv1), (2, .int yv2), (3, .int yv5), (4, .int yv6)] → W p l e (z_rm 6 155) s m args below meth c H locs 0 0 Q (F0 m 19 ls []) := by
          intro n
          induction n with
          | zero => intro yv5 yv6 yd7 H locs ls hn; exact z_it0 hn
          | succ n ih =>
            intro yv5 yv6 yd7 H locs ls hn hP hS hl
            obtain ⟨yq19, h, hq1, hq2⟩ := z_itx hn
            have h : (zif ((yd7.1 0 11) ≤ yv6) (some (.inr (yv5, yd7))) (zif (yv5 = 0) (jX6_which_78 yv6 yd7) (z_gd (z_in yv6 6) (z_br (fX6_isPath yd7 (yd7.1 7 (z_ix yv6))) fun yr12 => zif (yr12 = 0) (jX6_which_74 yv6 yd7) (z_gd (z_in yv6 6) (z_bd (fX6_answersOf yd7 2 (yd7.1 7 (z_ix yv6))) fun yr14 yd15 => z_br (fX6_ones yr14) fun yr16 => z_gd (z_in yv6 6) (zif (yr16 = (yd15.1 8 (z_ix yv6))) (jX6_which_74 yv6 yd15) (jX6_which_78 yv6 yd15)))))))) = some yq19 := h
            refine lv_iload hx hb dX6_which_19 (lv_at hl 4 rfl) ?_
            refine lv_aload_n hx hb dX6_which_21 rfl (lv_at hl 0 rfl) ?_
            refine gt_X6_11 hx hb hts hown hK hP (hts _ wl_3_145) dX6_which_22 ?_
            refine lv_icmp_ge (tgt := 86) hx hb dX6_which_25 (by decide) (fun yc25 => ?_) (fun yc25 => ?_)
            · have h := z_ifp yc25 h
              exact hE86 _ _ _ _ _ (hq2 _ (z_sm h).symm) hP hS (lv_sub hl [0, 1, 2, 3] rfl)
            · have h := z_ifn yc25 h
              refine lv_iload_n hx hb dX6_which_28 rfl (lv_at hl 3 rfl) ?_
              have hJ79 : ∀ (yv8 : Int32) (yd9 : Dt) (H : Heap) (locs : List Loc) (ls : Array Slot), jX6_which_79 yv6 yv8 yd9 = some yq19 → va_P D vwCl (WM G ad yd9) H → va_S A s.heap H locs → lv_has ls 5 [(0, .ref (ad 0)), (1, .int yv1), (2, .int yv2), (4, .int yv6)] → W p l e (z_rm 6 155) s m args below meth c H locs 0 0 Q (F0 m 79 ls [.int yv8]) := by
                intro yv8 yd9 H locs ls h hP hS hl
                have h : (z_nm (yv6 + (1 : Int32)) fun yv10 => some (.inl (yv8, yv10, yd9))) = some yq19 := h
                refine lv_istore_n (lv' := [(3, .int yv8), (0, .ref (ad 0)), (1, .int yv1), (2, .int yv2), (4, .int yv6)]) hx hb dX6_which_79 rfl hl (by decide) rfl (fun ls hl => ?_)
                obtain ⟨yv10, e_yv10, h⟩ := z_nmx h
                refine lv_iinc (v := yv10) (lv' := [(4, .int yv10), (3, .int yv8), (0, .ref (ad 0)), (1, .int yv1), (2, .int yv2)]) hx hb dX6_which_80 hl (k := 4) rfl (by rw [e_yv10]; rfl) (by decide) rfl (fun ls hl => ?_)
                refine lv_goto (tgt := 19) hx hb dX6_which_83 (by decide) ?_
                exact ih _ _ _ _ _ _ (hq1 _ (z_sm h).symm) hP hS (lv_sub hl [2, 3, 4, 1, 0] rfl)
              have hJ78 : ∀ (yd11 : Dt) (H : Heap) (locs : List Loc) (ls : Array Slot), jX6_which_78 yv6 yd11 = some yq19 → va_P D vwCl (WM G ad yd11) H → va_S A s.heap H locs → lv_has ls 5 [(0, .ref (ad 0)), (1, .int yv1), (2, .int yv2), (4, .int yv6)] → W p l e (z_rm 6 155) s m args below meth c H locs 0 0 Q (F0 m 78 ls []) := by
                intro yd11 H locs ls h hP hS hl
                have h : (jX6_which_79 yv6 (0 : Int32) yd11) = some yq19 := h
                refine lv_iconst (v := (0 : Int32)) hx hb dX6_which_78 (by decide) ?_
                exact hJ79 _ _ _ _ _ h hP hS (lv_sub hl [0, 1, 2, 3] rfl)
              refine lv_if_eq (tgt := 78) hx hb dX6_which_29 (by decide) (fun yc29 => ?_) (fun yc29 => ?_)
              · have h := z_ifp yc29 h
                exact hJ78 _ _ _ _ h hP hS (lv_sub hl [0, 1, 2, 4] rfl)
              · have h := z_ifn yc29 h
                refine lv_aload_n hx hb dX6_which_32 rfl (lv_at hl 0 rfl) ?_
                refine lv_aload_n hx hb dX6_which_33 rfl (lv_at hl 0 rfl) ?_
                refine gt_X6_9 hx hb hts hown hK hP (hts _ wl_3_143) dX6_which_34 ?_
                refine lv_iload hx hb dX6_which_37 (lv_at hl 4 rfl) ?_
                obtain ⟨yg39, h⟩ := z_gi h
                refine al_M hx hb hK hP rfl (by decide) yg39 dX6_which_39 ?_
                obtain ⟨yr12, yhc40, h⟩ := z_brx h
                refine z_kz (z_rV (As := [.int (yd7.1 7 (z_ix yv6))]) (rest := []) ⟨hx, hb, hml, hown, hts⟩ hK hP w_X6 rfl (kX6_isPath hI yhc40) giX6_208 ⟨rfl, rfl⟩ ndX6_isPath ⟨Nat.le_of_ble_eq_true rfl, Nat.le_of_ble_eq_true rfl⟩ rfl hl.1 rfl (Nat.le_of_ble_eq_true rfl) ⟨Nat.le_refl _, Nat.le_refl _⟩ dX6_which_40) hS (fun H locs z_yr12 hP hS => ?_)
                have hJ74 : ∀ (yd13 : Dt) (H : Heap) (locs : List Loc) (ls : Array Slot), jX6_which_74 yv6 yd13 = some yq19 → va_P D vwCl (WM G ad yd13) H → va_S A s.heap H locs → lv_has ls 5 [(0, .ref (ad 0)), (1, .int yv1), (2, .int yv2), (4, .int yv6)] → W p l e (z_rm 6 155) s m args below meth c H locs 0 0 Q (F0 m 74 ls []) := by
                  intro yd13 H locs ls h hP hS hl
                  have h : (jX6_which_79 yv6 (1 : Int32) yd13) = some yq19 := h
                  refine lv_iconst (v := (1 : Int32)) hx hb dX6_which_74 (by decide) ?_
                  refine lv_goto (tgt := 79) hx hb dX6_which_75 (by decide) ?_
                  exact hJ79 _ _ _ _ _ h hP hS (lv_sub hl [0, 1, 2, 3] rfl)
                refine lv_if_eq (tgt := 74) hx hb dX6_which_43 (by decide) (fun yc43 => ?_) (fun yc43 => ?_)
                · have h := z_ifp yc43 h
                  exact hJ74 _ _ _ _ h hP hS (lv_sub hl [0, 1, 2, 4] rfl)
                · have h := z_ifn yc43 h
                  refine lv_aload_n hx hb dX6_which_46 rfl (lv_at hl 0 rfl) ?_
                  refine lv_aload_n hx hb dX6_which_47 rfl (lv_at hl 0 rfl) ?_
                  refine gt_X6_2 hx hb hts hown hK hP (hts _ wl_3_136) dX6_which_48 ?_
                  refine lv_aload_n hx hb dX6_which_51 rfl (lv_at hl 0 rfl) ?_
                  refine gt_X6_9 hx hb hts hown hK hP (hts _ wl_3_143) dX6_which_52 ?_
                  refine lv_iload hx hb dX6_which_55 (lv_at hl 4 rfl) ?_
                  obtain ⟨yg57, h⟩ := z_gi h
                  refine al_M hx hb hK hP rfl (by decide) yg57 dX6_which_57 ?_
                  obtain ⟨yr14, yd15, yhc58, h⟩ := z_bdx h
                  refine z_ki (z_rV (As := [.ref (ad 2), .int (yd7.1 7 (z_ix yv6))]) (rest := []) ⟨hx, hb, hml, hown, hts⟩ hK hP w_X6 rfl (kX6_answersOf hI rfl yhc58) giX6_144 ⟨rfl, rfl⟩ ndX6_answersOf ⟨Nat.le_of_ble_eq_true rfl, Nat.le_of_ble_eq_true rfl⟩ rfl hl.1 rfl (Nat.le_of_ble_eq_true rfl) ⟨Nat.le_refl _, Nat.le_refl _⟩ dX6_which_58) hS (fun H locs hP hS => ?_)
                  obtain ⟨yr16, yhc61, h⟩ := z_brx h
                  refine z_ki (z_rS (As := [.int yr14]) (rest := []) ⟨hx, hb, hml, hown, hts⟩ hK hP (kX6_ones yhc61) giX6_153 ⟨rfl, rfl⟩ ndX6_ones ⟨Nat.le_of_ble_eq_true rfl, Nat.le_of_ble_eq_true rfl⟩ rfl hl.1 rfl (Nat.le_of_ble_eq_true rfl) ⟨Nat.le_refl _, Nat.le_refl _⟩ dX6_which_61) hS (fun H locs hP hS => ?_)
                  refine lv_aload_n hx hb dX6_which_64 rfl (lv_at hl 0 rfl) ?_
                  refine gt_X6_10 hx hb hts hown hK hP (hts _ wl_3_144) dX6_which_65 ?_
                  refine lv_iload hx hb dX6_which_68 (lv_at hl 4 rfl) ?_
                  obtain ⟨yg70, h⟩ := z_gi h
                  refine al_M hx hb hK hP rfl (by decide) yg70 dX6_which_70 ?_
                  refine lv_icmp_ne (tgt := 78) hx hb dX6_which_71 (by decide) (fun yc71 => ?_) (fun yc71 => ?_)
                  · have h := z_ifn yc71 h
                    exact hJ78 _ _ _ _ h hP hS (lv_sub hl [0, 1, 2, 4] rfl)
                  · have h := z_ifp yc71 h
                    exact hJ74 _ _ _ _ h hP hS (lv_sub hl [0, 1, 2, 4] rfl)
        exact hL19 yn19 _ _ _ _ _ _ hlp hP hS (lv_sub hl [2, 3, 4, 1, 0] rfl)
  exact hL4 yn4 _ _ _ _ _ _ hlp hP hS (lv_sub hl [2, 1, 0] rfl)
