/-! CONSTRUCTOR of PathStream: the walk -/
def bfN (h i : Nat) (j : Nat) : Option Nat := if j < i then some (h + (72 + 28 * j)) else none
def slN (h i : Nat) (j : Nat) : Option Nat := if j < i then some (h + (464 + 28 * j)) else none
abbrev psO (h : Nat) : va_E := .inr (5, [.ref (h + 1), .ref (h + 29), .ref (h + 57), .ref (h + 58), .ref (h + 59), .ref (h + 60), .ref (h + 65), .ref (h + 67), .ref (h + 68), .ref (h + 69), .ref (h + 70), .ref (h + 71), .int 0, .int 0, .int 0, .int 0, .long 0])
abbrev psQ (D : va_G) (G : z_G) (h : Nat) (below : List Frame) (s : State) : State → Prop := MQ below (va_Qv (fun (_ : Unit) => True) (fun _ => XE D h 520 (psE G h)) (XA h)) #[Value.ref h] s 519 6927 (XA h)
section PI
variable {p : Program} {l : Launch} {e : Env} {s : State} {m : MethodId} {below : List Frame} {meth : Method} {c : Code} {D : va_G} {G : z_G} {h : Nat}
set_option maxHeartbeats 4000000 in
set_option maxRecDepth 100000 in
theorem ps_loop2 (hx : p.tables.exec = Jvm.exec) (hb : c.code = cX5_init) (hr : meth.sig.returnType = none) (hml : c.maxLocals = 2) (hown : s.vm.findClass RX5 = some m.cls) (hlocks : meth.locks = false) (hts : ∀ w ∈ wsG, w.before #[Value.ref h] s = true) (hK : va_K D vwCl (z_tys G) s) (hN : XN s) :
    ∀ (j i : Nat), i + j = 2 → ∀ (H : Heap) (locs : List Loc) (ls : Array Slot), H.size = h + (464 + 28 * i) → va_at D vwCl (h, psO h) H → va_at D vwCl (h + 58, .inl (G.2.2.2.2, 2, .inr (.inr (.inr (.inr (slN h i)))))) H → va_at D vwCl (h + 57, .inl (G.2.2.2.2, 14, .inr (.inr (.inr (.inr (bfN h 14)))))) H → (∀ k, 0 < k → k < 464 + 28 * i → k ≠ 57 → k ≠ 58 → va_at D vwCl (h + k, psE G h k) H) → va_S (XA h) s.heap H locs → lv_has ls 2 [(1, .int (nI i)), (0, .ref h)] →
      W p l e (xr 3 519 6927 53) s m #[Value.ref h] below meth c H locs (463 + 28 * i) (6183 + 372 * i) (psQ D G h below s) (F0 m 139 ls []) := by
  intro j
  induction j with
  | zero =>
    intro i hi H locs ls hz hO hA hA2 hE hS hl
    have : i = 2 := by omega
    subst this
    refine lv_iload_n hx hb dX5_init_139 rfl (lv_at hl 0 rfl) ?_
    refine lv_iconst (v := 2) hx hb dX5_init_140 (by decide) ?_
    refine lv_icmp_ge (tgt := 163) hx hb dX5_init_141 (by decide) (fun _ => ?_) (fun c1 => absurd (show (2 : Int32) ≤ nI 2 by decide) c1)
    refine W.vret hx hb hr (fun t ht hW => ⟨⟨(), rfl, trivial, by rw [ht]; exact hz, fun k hk => ?_⟩, hS.F ht⟩) hS.2.2 dX5_init_163
    rw [ht]
    rcases Nat.eq_zero_or_pos k with h0 | h0
    · subst h0; exact hO
    · by_cases h7 : k = 57
      · subst h7
        exact at_ext (g := fun j => some (h + (72 + 28 * j))) (fun j hj => if_pos hj) hA2
      · by_cases h8 : k = 58
        · subst h8
          exact at_ext (g := fun j => some (h + (464 + 28 * j))) (fun j hj => if_pos hj) hA
        · exact hE k h0 hk h7 h8
  | succ j ih =>
    intro i hi H locs ls hz hO hA hA2 hE hS hl
    refine lv_iload_n hx hb dX5_init_139 rfl (lv_at hl 0 rfl) ?_
    refine lv_iconst (v := 2) hx hb dX5_init_140 (by decide) ?_
    refine lv_icmp_ge (tgt := 163) hx hb dX5_init_141 (by decide) (fun c1 => ?_) (fun _ => ?_)
    · have := (nI_leI (a := 2) (b := i) (by omega) (by omega)).mp c1
      omega
    refine lv_aload_n hx hb dX5_init_144 rfl (lv_at hl 1 rfl) ?_
    refine va_get (D := D) (ci := 5) (v := .ref (h + 58)) (C := RX5) (T := TX5) (N := 17) hx hb hts inX5 hown hK (x_P1 hO) 0 rfl rfl 3 (by decide) (hts _ wl_1_178) (fun _ h9 => h9) rfl dX5_init_145 ?_
    refine lv_iload_n hx hb dX5_init_148 rfl (lv_at hl 0 rfl) ?_
    refine r_new (D := D) (G := G) (ci := 3) (fs := [.null, .null, .int 0]) (h := h + (464 + 28 * i)) hx hb hts inX3 tyX3 tyX3_ok hown (hts _ wl_1_19) (hts _ wl_1_20) (hts _ wl_1_2) hK rfl (by decide) (by show _ ≤ 519; omega) (by show _ ≤ 6927; omega) hz hS dX5_init_149 fun H1 z1 g1 o1 hS1 => ?_
    refine lv_dup hx hb dX5_init_152 rfl ?_
    refine x_after (va_runI (As := []) (rest := [.ref (h + (464 + 28 * i)), .int (nI i), .ref (h + 58)]) ⟨hx, hb, hml, hown, hts⟩ (kX3_init (l := l) (D := D) (G := G) (h := h + (464 + 28 * i))) (cwI 0 hts (gd_ws wl_1_23) rfl rfl rfl (hts _ wl_1_2) (hts _ wl_1_21) (hts _ wl_1_22) rfl (by decide +kernel) ⟨Nat.le_of_ble_eq_true rfl, Nat.le_of_ble_eq_true rfl⟩) (x_pS z1 g1 hK hN) rfl rfl hl.1 rfl (lv_room (Nat.le_of_ble_eq_true rfl)) dX5_init_153 ⟨by show _ ≤ 519; omega, by show _ ≤ 6927; omega⟩) hS1 (show h ≤ _ by omega) z1 fun H2 locs2 z2 g2 o2 hS2 => ?_
    have kp : ∀ q, q < h + (464 + 28 * i) → H2[q]? = H[q]? := fun q hq => (o2 q hq).trans (o1 q hq)
    have g20 : va_at D vwCl (h + (464 + 28 * i), .inr (3, [.ref (h + (464 + 28 * i) + 1), .ref (h + (464 + 28 * i) + 7), .int 0])) H2 := g2 0 (by omega)
    refine r_ast (D := D) (G := G) (t0 := 4) (ci := 3) (C := RX3) (T := TX3) (N := 3) hx hb hK (va_at.kept hA (kp (h + 58) (by omega))) rfl g20 rfl hS2 (show h ≤ h + 58 by omega) (show i < 2 by omega) (by omega) dX5_init_156 fun H3 locs3 z3 g3 o3 hS3 => ?_
    refine lv_iinc (v := nI (i + 1)) (lv' := [(1, .int (nI (i + 1))), (0, .ref h)]) hx hb dX5_init_157 hl (k := 0) rfl (nI_1 i) (by decide) rfl (fun ls hl => ?_)
    refine lv_goto (tgt := 139) hx hb dX5_init_160 (by decide) ?_
    refine W.widen (k := 463 + 28 * (i + 1)) (n := 6183 + 372 * (i + 1)) (by omega) (by omega) ?_
    refine ih (i + 1) (by omega) H3 locs3 ls (by rw [z3, z2]; omega) (va_at.kept (va_at.kept hO (kp h (by omega))) (o3 h (by omega))) ?_ (va_at.kept (va_at.kept hA2 (kp (h + 57) (by omega))) (o3 (h + 57) (by omega))) (fun k k0 k1 k7 k8 => ?_) hS3 hl
    · refine at_ext (fun j hj => ?_) g3
      unfold slN
      by_cases hji : j = i
      · subst hji
        rw [va_up_self, if_pos (by omega)]
      · rw [va_up_ne _ _ hji]
        by_cases hlt : j < i
        · rw [if_pos hlt, if_pos (by omega)]
        · rw [if_neg hlt, if_neg (by omega)]
    · by_cases hk : k < 464 + 28 * i
      · exact va_at.kept (va_at.kept (hE k k0 hk k7 k8) (kp (h + k) (by omega))) (o3 (h + k) (by omega))
      · have hst : isSt (464 + 28 * i) := by unfold isSt; omega
        have e := ps_st (G := G) (B := h) hst (show k - (464 + 28 * i) < 28 by omega)
        rw [show 464 + 28 * i + (k - (464 + 28 * i)) = k by omega] at e
        rw [e, show h + k = h + (464 + 28 * i) + (k - (464 + 28 * i)) by omega]
        exact va_at.kept (g2 (k - (464 + 28 * i)) (by omega)) (o3 _ (by show h + (464 + 28 * i) + (k - (464 + 28 * i)) ≠ h + 58; omega))
set_option maxHeartbeats 4000000 in
set_option maxRecDepth 100000 in
theorem ps_loop1 (hx : p.tables.exec = Jvm.exec) (hb : c.code = cX5_init) (hr : meth.sig.returnType = none) (hml : c.maxLocals = 2) (hown : s.vm.findClass RX5 = some m.cls) (hlocks : meth.locks = false) (hts : ∀ w ∈ wsG, w.before #[Value.ref h] s = true) (hK : va_K D vwCl (z_tys G) s) (hN : XN s) :
    ∀ (j i : Nat), i + j = 14 → ∀ (H : Heap) (locs : List Loc) (ls : Array Slot), H.size = h + (72 + 28 * i) → va_at D vwCl (h, psO h) H → va_at D vwCl (h + 57, .inl (G.2.2.2.2, 14, .inr (.inr (.inr (.inr (bfN h i)))))) H → va_at D vwCl (h + 58, .inl (G.2.2.2.2, 2, .inr (.inr (.inr (.inr (fun _ => none)))))) H → (∀ k, 0 < k → k < 72 + 28 * i → k ≠ 57 → k ≠ 58 → va_at D vwCl (h + k, psE G h k) H) → va_S (XA h) s.heap H locs → lv_has ls 2 [(1, .int (nI i)), (0, .ref h)] →
      W p l e (xr 3 519 6927 53) s m #[Value.ref h] below meth c H locs (71 + 28 * i) (975 + 372 * i) (psQ D G h below s) (F0 m 112 ls []) := by
  intro j
  induction j with
  | zero =>
    intro i hi H locs ls hz hO hA hA2 hE hS hl
    have : i = 14 := by omega
    subst this
    refine lv_iload_n hx hb dX5_init_112 rfl (lv_at hl 0 rfl) ?_
    refine lv_bipush (v := 14) hx hb dX5_init_113 (by decide) ?_
    refine lv_icmp_ge (tgt := 137) hx hb dX5_init_115 (by decide) (fun _ => ?_) (fun c1 => absurd (show (14 : Int32) ≤ nI 14 by decide) c1)
    refine lv_iconst (v := 0) hx hb dX5_init_137 (by decide) ?_
    refine lv_istore_n (lv' := [(1, .int (nI 0)), (0, .ref h)]) hx hb dX5_init_138 rfl hl (by decide) rfl (fun ls hl => ?_)
    refine ps_loop2 hx hb hr hml hown hlocks hts hK hN 2 0 rfl H locs ls hz hO ?_ hA hE hS hl
    exact at_ext (fun j hj => by unfold slN; rw [if_neg (by omega)]) hA2
  | succ j ih =>
    intro i hi H locs ls hz hO hA hA2 hE hS hl
    refine lv_iload_n hx hb dX5_init_112 rfl (lv_at hl 0 rfl) ?_
    refine lv_bipush (v := 14) hx hb dX5_init_113 (by decide) ?_
    refine lv_icmp_ge (tgt := 137) hx hb dX5_init_115 (by decide) (fun c1 => ?_) (fun _ => ?_)
    · have := (nI_leI (a := 14) (b := i) (by omega) (by omega)).mp c1
      omega
    refine lv_aload_n hx hb dX5_init_118 rfl (lv_at hl 1 rfl) ?_
    refine va_get (D := D) (ci := 5) (v := .ref (h + 57)) (C := RX5) (T := TX5) (N := 17) hx hb hts inX5 hown hK (x_P1 hO) 0 rfl rfl 2 (by decide) (hts _ wl_1_177) (fun _ h9 => h9) rfl dX5_init_119 ?_
    refine lv_iload_n hx hb dX5_init_122 rfl (lv_at hl 0 rfl) ?_
    refine r_new (D := D) (G := G) (ci := 3) (fs := [.null, .null, .int 0]) (h := h + (72 + 28 * i)) hx hb hts inX3 tyX3 tyX3_ok hown (hts _ wl_1_19) (hts _ wl_1_20) (hts _ wl_1_2) hK rfl (by decide) (by show _ ≤ 519; omega) (by show _ ≤ 6927; omega) hz hS dX5_init_123 fun H1 z1 g1 o1 hS1 => ?_
    refine lv_dup hx hb dX5_init_126 rfl ?_
    refine x_after (va_runI (As := []) (rest := [.ref (h + (72 + 28 * i)), .int (nI i), .ref (h + 57)]) ⟨hx, hb, hml, hown, hts⟩ (kX3_init (l := l) (D := D) (G := G) (h := h + (72 + 28 * i))) (cwI 0 hts (gd_ws wl_1_23) rfl rfl rfl (hts _ wl_1_2) (hts _ wl_1_21) (hts _ wl_1_22) rfl (by decide +kernel) ⟨Nat.le_of_ble_eq_true rfl, Nat.le_of_ble_eq_true rfl⟩) (x_pS z1 g1 hK hN) rfl rfl hl.1 rfl (lv_room (Nat.le_of_ble_eq_true rfl)) dX5_init_127 ⟨by show _ ≤ 519; omega, by show _ ≤ 6927; omega⟩) hS1 (show h ≤ _ by omega) z1 fun H2 locs2 z2 g2 o2 hS2 => ?_
    have kp : ∀ q, q < h + (72 + 28 * i) → H2[q]? = H[q]? := fun q hq => (o2 q hq).trans (o1 q hq)
    have g20 : va_at D vwCl (h + (72 + 28 * i), .inr (3, [.ref (h + (72 + 28 * i) + 1), .ref (h + (72 + 28 * i) + 7), .int 0])) H2 := g2 0 (by omega)
    refine r_ast (D := D) (G := G) (t0 := 4) (ci := 3) (C := RX3) (T := TX3) (N := 3) hx hb hK (va_at.kept hA (kp (h + 57) (by omega))) rfl g20 rfl hS2 (show h ≤ h + 57 by omega) (show i < 14 by omega) (by omega) dX5_init_130 fun H3 locs3 z3 g3 o3 hS3 => ?_
    refine lv_iinc (v := nI (i + 1)) (lv' := [(1, .int (nI (i + 1))), (0, .ref h)]) hx hb dX5_init_131 hl (k := 0) rfl (nI_1 i) (by decide) rfl (fun ls hl => ?_)
    refine lv_goto (tgt := 112) hx hb dX5_init_134 (by decide) ?_
    refine W.widen (k := 71 + 28 * (i + 1)) (n := 975 + 372 * (i + 1)) (by omega) (by omega) ?_
    refine ih (i + 1) (by omega) H3 locs3 ls (by rw [z3, z2]; omega) (va_at.kept (va_at.kept hO (kp h (by omega))) (o3 h (by omega))) ?_ (va_at.kept (va_at.kept hA2 (kp (h + 58) (by omega))) (o3 (h + 58) (by omega))) (fun k k0 k1 k7 k8 => ?_) hS3 hl
    · refine at_ext (fun j hj => ?_) g3
      unfold bfN
      by_cases hji : j = i
      · subst hji
        rw [va_up_self, if_pos (by omega)]
      · rw [va_up_ne _ _ hji]
        by_cases hlt : j < i
        · rw [if_pos hlt, if_pos (by omega)]
        · rw [if_neg hlt, if_neg (by omega)]
    · by_cases hk : k < 72 + 28 * i
      · exact va_at.kept (va_at.kept (hE k k0 hk k7 k8) (kp (h + k) (by omega))) (o3 (h + k) (by omega))
      · have hst : isSt (72 + 28 * i) := by unfold isSt; omega
        have e := ps_st (G := G) (B := h) hst (show k - (72 + 28 * i) < 28 by omega)
        rw [show 72 + 28 * i + (k - (72 + 28 * i)) = k by omega] at e
        rw [e, show h + k = h + (72 + 28 * i) + (k - (72 + 28 * i)) by omega]
        exact va_at.kept (g2 (k - (72 + 28 * i)) (by omega)) (o3 _ (by show h + (72 + 28 * i) + (k - (72 + 28 * i)) ≠ h + 57; omega))
end PI
set_option maxHeartbeats 4000000 in
set_option maxRecDepth 100000 in
theorem kX5_init {l : Launch} {D : va_G} {G : z_G} {h : Nat} : XM l D G yX5_init cX5_init 2 (xr 3 519 6927 53) h 5 [.null, .null, .null, .null, .null, .null, .null, .null, .null, .null, .null, .null, .int 0, .int 0, .int 0, .int 0, .long 0] 520 6927 (psE G h) := by
  refine x_of (by decide) (by decide) rfl fun p e s m below meth c hx hb hr hml hown hlocks hin hts hX ls hl => ?_
  obtain ⟨hz, hO, hK, hN⟩ := hX
  have hS : va_S (XA h) s.heap s.heap [] := va_S.rf
  have hE : ∀ k, 0 < k → k < 1 → va_at D vwCl (h + k, psZ G h k) s.heap := fun k k0 k1 => by omega
  refine lv_aload_n hx hb dX5_init_0 rfl (lv_at hl 0 rfl) ?_
  refine r_obj hx hb hml hl.1 hown hts wl_1_16 dX5_init_1 (Nat.le_of_ble_eq_true rfl) (Nat.le_of_ble_eq_true rfl) ?_
  refine lv_aload_n hx hb dX5_init_4 rfl (lv_at hl 0 rfl) ?_
  refine r_new (D := D) (G := G) (ci := 3) (fs := [.null, .null, .int 0]) (h := h + 1) hx hb hts inX3 tyX3 tyX3_ok hown (hts _ wl_1_19) (hts _ wl_1_20) (hts _ wl_1_2) hK rfl (by decide) (Nat.le_of_ble_eq_true rfl) (Nat.le_of_ble_eq_true rfl) hz hS dX5_init_5 fun H z1 g1 o1 hS => ?_
  have hO := va_at.kept hO (o1 h (by omega))
  have hE : ∀ k, 0 < k → k < 1 → va_at D vwCl (h + k, psZ G h k) H := fun k k0 k1 => va_at.kept (hE k k0 k1) (o1 _ (by show h + k < h + 1; omega))
  refine lv_dup hx hb dX5_init_8 rfl ?_
  refine x_afterE (n := 1) (N := 28) (E := psZ G h) (va_runI (As := []) (rest := [.ref (h + 1), .ref h]) ⟨hx, hb, hml, hown, hts⟩ (kX3_init (l := l) (D := D) (G := G) (h := h + 1)) (cwI 0 hts (gd_ws wl_1_23) rfl rfl rfl (hts _ wl_1_2) (hts _ wl_1_21) (hts _ wl_1_22) rfl (by decide +kernel) ⟨(Nat.le_of_ble_eq_true rfl), (Nat.le_of_ble_eq_true rfl)⟩) (x_pS z1 g1 hK hN) rfl rfl hl.1 rfl (lv_room (Nat.le_of_ble_eq_true rfl)) dX5_init_9 ⟨(Nat.le_of_ble_eq_true rfl), (Nat.le_of_ble_eq_true rfl)⟩) hS (Nat.le_refl h) z1 (by decide) hO hE (fun k hk => ?_) fun H locs hz hO hE hS => ?_
  · rw [psZ_n (by omega) (by omega)]; exact ps_st st_1 hk
  refine r_pf (D := D) (G := G) (ci := 5) (n := 29) (E := psZ G h) (B := h) hx hb hts inX5 tyX5 tyX5_ok nmX5 hown hK rfl hin hz hO hE hS (Nat.le_refl h) 0 (by decide) (hts _ wl_1_175) rfl rfl rfl rfl (Nat.le_of_ble_eq_true rfl) dX5_init_12 fun H locs hz hO hE hS => ?_
  refine lv_aload_n hx hb dX5_init_15 rfl (lv_at hl 0 rfl) ?_
  refine r_new (D := D) (G := G) (ci := 3) (fs := [.null, .null, .int 0]) (h := h + 29) hx hb hts inX3 tyX3 tyX3_ok hown (hts _ wl_1_19) (hts _ wl_1_20) (hts _ wl_1_2) hK rfl (by decide) (Nat.le_of_ble_eq_true rfl) (Nat.le_of_ble_eq_true rfl) hz hS dX5_init_16 fun H z1 g1 o1 hS => ?_
  have hO := va_at.kept hO (o1 h (by omega))
  have hE : ∀ k, 0 < k → k < 29 → va_at D vwCl (h + k, psZ G h k) H := fun k k0 k1 => va_at.kept (hE k k0 k1) (o1 _ (by show h + k < h + 29; omega))
  refine lv_dup hx hb dX5_init_19 rfl ?_
  refine x_afterE (n := 29) (N := 28) (E := psZ G h) (va_runI (As := []) (rest := [.ref (h + 29), .ref h]) ⟨hx, hb, hml, hown, hts⟩ (kX3_init (l := l) (D := D) (G := G) (h := h + 29)) (cwI 0 hts (gd_ws wl_1_23) rfl rfl rfl (hts _ wl_1_2) (hts _ wl_1_21) (hts _ wl_1_22) rfl (by decide +kernel) ⟨(Nat.le_of_ble_eq_true rfl), (Nat.le_of_ble_eq_true rfl)⟩) (x_pS z1 g1 hK hN) rfl rfl hl.1 rfl (lv_room (Nat.le_of_ble_eq_true rfl)) dX5_init_20 ⟨(Nat.le_of_ble_eq_true rfl), (Nat.le_of_ble_eq_true rfl)⟩) hS (Nat.le_refl h) z1 (by decide) hO hE (fun k hk => ?_) fun H locs hz hO hE hS => ?_
  · rw [psZ_n (by omega) (by omega)]; exact ps_st st_29 hk
  refine r_pf (D := D) (G := G) (ci := 5) (n := 57) (E := psZ G h) (B := h) hx hb hts inX5 tyX5 tyX5_ok nmX5 hown hK rfl hin hz hO hE hS (Nat.le_refl h) 1 (by decide) (hts _ wl_1_176) rfl rfl rfl rfl (Nat.le_of_ble_eq_true rfl) dX5_init_23 fun H locs hz hO hE hS => ?_
  refine lv_aload_n hx hb dX5_init_26 rfl (lv_at hl 0 rfl) ?_
  refine lv_bipush (v := 14) hx hb dX5_init_27 (by decide) ?_
  refine r_anew (D := D) (C := "PathStream$State") (cA := G.2.2.2.2) (N := 14) (h := h + 57) hx hb hown (hts _ wl_1_19) hN.2.2.2.2.2 (hK.2 4 _ rfl).2.choose_spec.choose_spec.2.2.2 (by decide) (by decide) (by decide) (Nat.le_of_ble_eq_true rfl) (Nat.le_of_ble_eq_true rfl) hz hS dX5_init_29 fun H z1 g1 o1 hS => ?_
  have hO := va_at.kept hO (o1 h (by omega))
  have hE : ∀ k, 0 < k → k < 58 → va_at D vwCl (h + k, psZ G h k) H := fun k k0 k1 => by
    by_cases hk : k = 57
    · subst hk; exact g1
    · exact va_at.kept (hE k k0 (by omega)) (o1 _ (by show h + k < h + 57; omega))
  have hz := z1
  refine r_pf (D := D) (G := G) (ci := 5) (n := 58) (E := psZ G h) (B := h) hx hb hts inX5 tyX5 tyX5_ok nmX5 hown hK rfl hin hz hO hE hS (Nat.le_refl h) 2 (by decide) (hts _ wl_1_177) rfl rfl rfl rfl (Nat.le_of_ble_eq_true rfl) dX5_init_32 fun H locs hz hO hE hS => ?_
  refine lv_aload_n hx hb dX5_init_35 rfl (lv_at hl 0 rfl) ?_
  refine lv_iconst (v := 2) hx hb dX5_init_36 (by decide) ?_
  refine r_anew (D := D) (C := "PathStream$State") (cA := G.2.2.2.2) (N := 2) (h := h + 58) hx hb hown (hts _ wl_1_19) hN.2.2.2.2.2 (hK.2 4 _ rfl).2.choose_spec.choose_spec.2.2.2 (by decide) (by decide) (by decide) (Nat.le_of_ble_eq_true rfl) (Nat.le_of_ble_eq_true rfl) hz hS dX5_init_37 fun H z1 g1 o1 hS => ?_
  have hO := va_at.kept hO (o1 h (by omega))
  have hE : ∀ k, 0 < k → k < 59 → va_at D vwCl (h + k, psZ G h k) H := fun k k0 k1 => by
    by_cases hk : k = 58
    · subst hk; exact g1
    · exact va_at.kept (hE k k0 (by omega)) (o1 _ (by show h + k < h + 58; omega))
  have hz := z1
  refine r_pf (D := D) (G := G) (ci := 5) (n := 59) (E := psZ G h) (B := h) hx hb hts inX5 tyX5 tyX5_ok nmX5 hown hK rfl hin hz hO hE hS (Nat.le_refl h) 3 (by decide) (hts _ wl_1_178) rfl rfl rfl rfl (Nat.le_of_ble_eq_true rfl) dX5_init_40 fun H locs hz hO hE hS => ?_
  refine lv_aload_n hx hb dX5_init_43 rfl (lv_at hl 0 rfl) ?_
  refine lv_iconst (v := 2) hx hb dX5_init_44 (by decide) ?_
  refine r_af (D := D) (G := G) (E := psZ G h) (n := 59) (L := 2) (ci := 5) (B := h) (atype := .boolean) (at_ := .boolean) (cA := G.2.1) hx hb hts inX5 tyX5 tyX5_ok nmX5 hown hK rfl hin hz (by decide) hO hE hS (Nat.le_refl h) rfl (hts _ wl_1_158) (hK.2 1 _ rfl).2 rfl (by decide) (by decide) (by decide) (Nat.le_of_ble_eq_true rfl) (Nat.le_of_ble_eq_true rfl) rfl 4 (by decide) (hts _ wl_1_179) rfl rfl rfl rfl (Nat.le_of_ble_eq_true rfl) dX5_init_45 dX5_init_47 fun H locs hz hO hE hS => ?_
  refine lv_aload_n hx hb dX5_init_50 rfl (lv_at hl 0 rfl) ?_
  refine r_new (D := D) (G := G) (ci := 1) (fs := [.null, .null, .null, .null, .int 0, .int 0]) (h := h + 60) hx hb hts inX1 tyX1 tyX1_ok hown (hts _ wl_1_128) (hts _ wl_1_129) (hts _ wl_1_5) hK rfl (by decide) (Nat.le_of_ble_eq_true rfl) (Nat.le_of_ble_eq_true rfl) hz hS dX5_init_51 fun H z1 g1 o1 hS => ?_
  have hO := va_at.kept hO (o1 h (by omega))
  have hE : ∀ k, 0 < k → k < 60 → va_at D vwCl (h + k, psZ G h k) H := fun k k0 k1 => va_at.kept (hE k k0 k1) (o1 _ (by show h + k < h + 60; omega))
  refine lv_dup hx hb dX5_init_54 rfl ?_
  refine x_afterE (n := 60) (N := 5) (E := psZ G h) (va_runIN (As := []) (rest := [.ref (h + 60), .ref h]) ⟨hx, hb, hml, hown, hts⟩ (kX1_init (l := l) (D := D) (G := G) (h := h + 60)) ⟨va_cnB 0 hts (gd_ws wl_1_132) rfl rfl rfl hN.2.2.1 (hts _ wl_1_5) (by decide +kernel) ⟨(Nat.le_of_ble_eq_true rfl), (Nat.le_of_ble_eq_true rfl)⟩, rfl, hts _ wl_1_131⟩ (x_pS z1 g1 hK hN) rfl rfl hl.1 rfl (lv_room (Nat.le_of_ble_eq_true rfl)) dX5_init_55 ⟨(Nat.le_of_ble_eq_true rfl), (Nat.le_of_ble_eq_true rfl)⟩) hS (Nat.le_refl h) z1 (by decide) hO hE (fun k hk => ?_) fun H locs hz hO hE hS => ?_
  · rw [psZ_n (by omega) (by omega)]; exact ps_60 hk
  refine r_pf (D := D) (G := G) (ci := 5) (n := 65) (E := psZ G h) (B := h) hx hb hts inX5 tyX5 tyX5_ok nmX5 hown hK rfl hin hz hO hE hS (Nat.le_refl h) 5 (by decide) (hts _ wl_1_180) rfl rfl rfl rfl (Nat.le_of_ble_eq_true rfl) dX5_init_58 fun H locs hz hO hE hS => ?_
  refine lv_aload_n hx hb dX5_init_61 rfl (lv_at hl 0 rfl) ?_
  refine r_new (D := D) (G := G) (ci := 4) (fs := [.null, .int 0, .int 0]) (h := h + 65) hx hb hts inX4 tyX4 tyX4_ok hown (hts _ wl_1_159) (hts _ wl_1_160) (hts _ wl_1_6) hK rfl (by decide) (Nat.le_of_ble_eq_true rfl) (Nat.le_of_ble_eq_true rfl) hz hS dX5_init_62 fun H z1 g1 o1 hS => ?_
  have hO := va_at.kept hO (o1 h (by omega))
  have hE : ∀ k, 0 < k → k < 65 → va_at D vwCl (h + k, psZ G h k) H := fun k k0 k1 => va_at.kept (hE k k0 k1) (o1 _ (by show h + k < h + 65; omega))
  refine lv_dup hx hb dX5_init_65 rfl ?_
  refine x_afterE (n := 65) (N := 2) (E := psZ G h) (va_runIN (As := []) (rest := [.ref (h + 65), .ref h]) ⟨hx, hb, hml, hown, hts⟩ (kX4_init (l := l) (D := D) (G := G) (h := h + 65)) ⟨va_cnB 0 hts (gd_ws wl_1_163) rfl rfl rfl hN.2.2.2.1 (hts _ wl_1_6) (by decide +kernel) ⟨(Nat.le_of_ble_eq_true rfl), (Nat.le_of_ble_eq_true rfl)⟩, rfl, hts _ wl_1_162⟩ (x_pS z1 g1 hK hN) rfl rfl hl.1 rfl (lv_room (Nat.le_of_ble_eq_true rfl)) dX5_init_66 ⟨(Nat.le_of_ble_eq_true rfl), (Nat.le_of_ble_eq_true rfl)⟩) hS (Nat.le_refl h) z1 (by decide) hO hE (fun k hk => ?_) fun H locs hz hO hE hS => ?_
  · rw [psZ_n (by omega) (by omega)]; exact ps_65 hk
  refine r_pf (D := D) (G := G) (ci := 5) (n := 67) (E := psZ G h) (B := h) hx hb hts inX5 tyX5 tyX5_ok nmX5 hown hK rfl hin hz hO hE hS (Nat.le_refl h) 6 (by decide) (hts _ wl_1_181) rfl rfl rfl rfl (Nat.le_of_ble_eq_true rfl) dX5_init_69 fun H locs hz hO hE hS => ?_
  refine lv_aload_n hx hb dX5_init_72 rfl (lv_at hl 0 rfl) ?_
  refine lv_bipush (v := 99) hx hb dX5_init_73 (by decide) ?_
  refine r_af (D := D) (G := G) (E := psZ G h) (n := 67) (L := 99) (ci := 5) (B := h) (atype := .char) (at_ := .char) (cA := G.2.2.1) hx hb hts inX5 tyX5 tyX5_ok nmX5 hown hK rfl hin hz (by decide) hO hE hS (Nat.le_refl h) rfl (hts _ wl_1_227) (hK.2 2 _ rfl).2 rfl (by decide) (by decide) (by decide) (Nat.le_of_ble_eq_true rfl) (Nat.le_of_ble_eq_true rfl) rfl 7 (by decide) (hts _ wl_1_182) rfl rfl rfl rfl (Nat.le_of_ble_eq_true rfl) dX5_init_75 dX5_init_77 fun H locs hz hO hE hS => ?_
  refine lv_aload_n hx hb dX5_init_80 rfl (lv_at hl 0 rfl) ?_
  refine lv_bipush (v := 6) hx hb dX5_init_81 (by decide) ?_
  refine r_af (D := D) (G := G) (E := psZ G h) (n := 68) (L := 6) (ci := 5) (B := h) (atype := .int) (at_ := .int) (cA := G.1) hx hb hts inX5 tyX5 tyX5_ok nmX5 hown hK rfl hin hz (by decide) hO hE hS (Nat.le_refl h) rfl (hts _ wl_1_73) (hK.2 0 _ rfl).2 rfl (by decide) (by decide) (by decide) (Nat.le_of_ble_eq_true rfl) (Nat.le_of_ble_eq_true rfl) rfl 8 (by decide) (hts _ wl_1_183) rfl rfl rfl rfl (Nat.le_of_ble_eq_true rfl) dX5_init_83 dX5_init_85 fun H locs hz hO hE hS => ?_
  refine lv_aload_n hx hb dX5_init_88 rfl (lv_at hl 0 rfl) ?_
  refine lv_bipush (v := 6) hx hb dX5_init_89 (by decide) ?_
  refine r_af (D := D) (G := G) (E := psZ G h) (n := 69) (L := 6) (ci := 5) (B := h) (atype := .int) (at_ := .int) (cA := G.1) hx hb hts inX5 tyX5 tyX5_ok nmX5 hown hK rfl hin hz (by decide) hO hE hS (Nat.le_refl h) rfl (hts _ wl_1_73) (hK.2 0 _ rfl).2 rfl (by decide) (by decide) (by decide) (Nat.le_of_ble_eq_true rfl) (Nat.le_of_ble_eq_true rfl) rfl 9 (by decide) (hts _ wl_1_184) rfl rfl rfl rfl (Nat.le_of_ble_eq_true rfl) dX5_init_91 dX5_init_93 fun H locs hz hO hE hS => ?_
  refine lv_aload_n hx hb dX5_init_96 rfl (lv_at hl 0 rfl) ?_
  refine lv_iconst (v := 4) hx hb dX5_init_97 (by decide) ?_
  refine r_af (D := D) (G := G) (E := psZ G h) (n := 70) (L := 4) (ci := 5) (B := h) (atype := .int) (at_ := .int) (cA := G.1) hx hb hts inX5 tyX5 tyX5_ok nmX5 hown hK rfl hin hz (by decide) hO hE hS (Nat.le_refl h) rfl (hts _ wl_1_73) (hK.2 0 _ rfl).2 rfl (by decide) (by decide) (by decide) (Nat.le_of_ble_eq_true rfl) (Nat.le_of_ble_eq_true rfl) rfl 10 (by decide) (hts _ wl_1_185) rfl rfl rfl rfl (Nat.le_of_ble_eq_true rfl) dX5_init_98 dX5_init_100 fun H locs hz hO hE hS => ?_
  refine lv_aload_n hx hb dX5_init_103 rfl (lv_at hl 0 rfl) ?_
  refine lv_iconst (v := 5) hx hb dX5_init_104 (by decide) ?_
  refine r_af (D := D) (G := G) (E := psZ G h) (n := 71) (L := 5) (ci := 5) (B := h) (atype := .int) (at_ := .int) (cA := G.1) hx hb hts inX5 tyX5 tyX5_ok nmX5 hown hK rfl hin hz (by decide) hO hE hS (Nat.le_refl h) rfl (hts _ wl_1_73) (hK.2 0 _ rfl).2 rfl (by decide) (by decide) (by decide) (Nat.le_of_ble_eq_true rfl) (Nat.le_of_ble_eq_true rfl) rfl 11 (by decide) (hts _ wl_1_186) rfl rfl rfl rfl (Nat.le_of_ble_eq_true rfl) dX5_init_105 dX5_init_107 fun H locs hz hO hE hS => ?_
  refine lv_iconst (v := 0) hx hb dX5_init_110 (by decide) ?_
  refine lv_istore_n (lv' := [(1, .int (nI 0)), (0, .ref h)]) hx hb dX5_init_111 rfl hl (by decide) rfl (fun ls hl => ?_)
  refine ps_loop1 hx hb hr hml hown hlocks hts hK hN 14 0 rfl H locs ls hz hO ?_ (hE 58 (by decide) (by decide)) (fun k k0 k1 k7 k8 => ?_) hS hl
  · exact at_ext (f := fun _ => none) (fun j hj => by unfold bfN; rw [if_neg (by omega)]) (hE 57 (by decide) (by decide))
  · rw [← psZ_n k7 k8]; exact hE k k0 (by omega)
