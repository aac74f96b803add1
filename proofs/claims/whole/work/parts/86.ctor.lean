/-! CONSTRUCTOR of State -/
theorem arr_ext {cA : ClassId} {n : Nat} {f g : Nat → Option Nat} (h : ∀ j, j < n → f j = g j) : vp_cell cA (n, .inr (.inr (.inr (.inr f)))) = vp_cell cA (n, .inr (.inr (.inr (.inr g)))) := by
  rw [vp_cell_q, vp_cell_q]
  unfold arrV
  congr 2
  funext j
  show va_rf (f j.val) = va_rf (g j.val)
  rw [h j.val j.isLt]
theorem at_ext {D : va_G} {a n : Nat} {cA : ClassId} {f g : Nat → Option Nat} {H : Heap} (h : ∀ j, j < n → f j = g j) (w : va_at D vwCl (a, .inl (cA, n, .inr (.inr (.inr (.inr f))))) H) : va_at D vwCl (a, .inl (cA, n, .inr (.inr (.inr (.inr g))))) H := by
  have w : H[a]? = some (vp_cell cA (n, .inr (.inr (.inr (.inr f))))) := w
  rw [arr_ext h] at w
  exact w
/-- a new State: 28 cells -/
def stE (G : z_G) (h k : Nat) : va_E := if k = 0 then .inr (3, [.ref (h + 1), .ref (h + 7), .int 0]) else if k < 7 then E0 G (h + 1) (k - 1) else if k = 7 then .inl (G.2.2.2.1, 5, .inr (.inr (.inr (.inr (fun j => some (h + 8 + 4 * j)))))) else E2 G (h + (k - k % 4)) (k % 4)
theorem stE_0 {G : z_G} {h : Nat} : stE G h 0 = .inr (3, [.ref (h + 1), .ref (h + 7), .int 0]) := rfl
theorem stE_el {G : z_G} {h k : Nat} (h0 : 0 < k) (h7 : k < 7) : stE G h k = E0 G (h + 1) (k - 1) := by
  unfold stE; rw [if_neg (by omega), if_pos h7]
theorem stE_7 {G : z_G} {h : Nat} : stE G h 7 = .inl (G.2.2.2.1, 5, .inr (.inr (.inr (.inr (fun j => some (h + 8 + 4 * j)))))) := rfl
theorem stE_pa {G : z_G} {h k i j : Nat} (hk : k = 8 + 4 * i + j) (hj : j < 4) : stE G h k = E2 G (h + 8 + 4 * i) j := by
  subst hk
  unfold stE
  rw [if_neg (by omega), if_neg (by omega), if_neg (by omega), show (8 + 4 * i + j) % 4 = j by omega, show h + (8 + 4 * i + j - j) = h + 8 + 4 * i by omega]
def pfN (h i : Nat) (j : Nat) : Option Nat := if j < i then some (h + 8 + 4 * j) else none
section SI
variable {p : Program} {l : Launch} {e : Env} {s : State} {m : MethodId} {below : List Frame} {meth : Method} {c : Code} {D : va_G} {G : z_G} {h : Nat}
set_option maxHeartbeats 4000000 in
set_option maxRecDepth 100000 in
theorem st_loop (hx : p.tables.exec = Jvm.exec) (hb : c.code = cX3_init) (hr : meth.sig.returnType = none) (hml : c.maxLocals = 2) (hown : s.vm.findClass RX3 = some m.cls) (hlocks : meth.locks = false) (hts : ∀ w ∈ wsG, w.before #[Value.ref h] s = true) (hK : va_K D vwCl (z_tys G) s) (hN : XN s) :
    ∀ (j i : Nat), i + j = 5 → ∀ (H : Heap) (locs : List Loc) (ls : Array Slot), H.size = h + (8 + 4 * i) → va_at D vwCl (h, .inr (3, [.ref (h + 1), .ref (h + 7), .int 0])) H → va_at D vwCl (h + 7, .inl (G.2.2.2.1, 5, .inr (.inr (.inr (.inr (pfN h i)))))) H → (∀ k, 0 < k → k < 8 + 4 * i → k ≠ 7 → va_at D vwCl (h + k, stE G h k) H) → va_S (XA h) s.heap H locs → lv_has ls 2 [(1, .int (nI i)), (0, .ref h)] →
      W p l e (xr 2 27 369 32) s m #[Value.ref h] below meth c H locs (7 + 4 * i) (114 + 51 * i) (MQ below (va_Qv (fun (_ : Unit) => True) (fun _ => XE D h 28 (stE G h)) (XA h)) #[Value.ref h] s 27 369 (XA h)) (F0 m 25 ls []) := by
  intro j
  induction j with
  | zero =>
    intro i hi H locs ls hz hO hA hE hS hl
    have : i = 5 := by omega
    subst this
    refine lv_iload_n hx hb dX3_init_25 rfl (lv_at hl 0 rfl) ?_
    refine lv_iconst (v := 5) hx hb dX3_init_26 (by decide) ?_
    refine lv_icmp_ge (tgt := 49) hx hb dX3_init_27 (by decide) (fun _ => ?_) (fun c1 => absurd (show (5 : Int32) ≤ nI 5 by decide) c1)
    refine W.vret hx hb hr (fun t ht hW => ⟨⟨(), rfl, trivial, by rw [ht]; exact hz, fun k hk => ?_⟩, hS.F ht⟩) hS.2.2 dX3_init_49
    rw [ht]
    rcases Nat.eq_zero_or_pos k with h0 | h0
    · subst h0; exact hO
    · by_cases h7 : k = 7
      · subst h7
        rw [stE_7]
        exact at_ext (fun j hj => if_pos hj) hA
      · exact hE k h0 hk h7
  | succ j ih =>
    intro i hi H locs ls hz hO hA hE hS hl
    refine lv_iload_n hx hb dX3_init_25 rfl (lv_at hl 0 rfl) ?_
    refine lv_iconst (v := 5) hx hb dX3_init_26 (by decide) ?_
    refine lv_icmp_ge (tgt := 49) hx hb dX3_init_27 (by decide) (fun c1 => ?_) (fun _ => ?_)
    · have := (nI_leI (a := 5) (b := i) (by omega) (by omega)).mp c1
      omega
    refine lv_aload_n hx hb dX3_init_30 rfl (lv_at hl 1 rfl) ?_
    refine va_get (D := D) (ci := 3) (v := .ref (h + 7)) (C := RX3) (T := TX3) (N := 3) hx hb hts inX3 hown hK (x_P1 hO) 0 rfl rfl 1 (by decide) (hts _ wl_1_115) (fun _ h9 => h9) rfl dX3_init_31 ?_
    refine lv_iload_n hx hb dX3_init_34 rfl (lv_at hl 0 rfl) ?_
    refine r_new (D := D) (G := G) (ci := 2) (fs := [.null, .null, .null, .int 0, .int 0, .int 0, .int 0]) (h := h + (8 + 4 * i)) hx hb hts inX2 tyX2 tyX2_ok hown (hts _ wl_1_74) (hts _ wl_1_76) (hts _ wl_1_4) hK rfl (by decide) (by show _ ≤ 27; omega) (by show _ ≤ 369; omega) hz hS dX3_init_35 fun H1 z1 g1 o1 hS1 => ?_
    refine lv_dup hx hb dX3_init_38 rfl ?_
    refine x_after (va_runIN (As := []) (rest := [.ref (h + (8 + 4 * i)), .int (nI i), .ref (h + 7)]) ⟨hx, hb, hml, hown, hts⟩ (kX2_init (l := l) (D := D) (G := G) (h := h + (8 + 4 * i))) ⟨va_cnB 0 hts (gd_ws wl_1_79) rfl rfl rfl hN.2.1 (hts _ wl_1_4) (by decide +kernel) ⟨Nat.le_of_ble_eq_true rfl, Nat.le_of_ble_eq_true rfl⟩, rfl, hts _ wl_1_78⟩ (x_pS z1 g1 hK hN) rfl rfl hl.1 rfl (lv_room (Nat.le_of_ble_eq_true rfl)) dX3_init_39 ⟨by show _ ≤ 27; omega, by show _ ≤ 369; omega⟩) hS1 (show h ≤ _ by omega) z1 fun H2 locs2 z2 g2 o2 hS2 => ?_
    have kp : ∀ q, q < h + (8 + 4 * i) → H2[q]? = H[q]? := fun q hq => (o2 q hq).trans (o1 q hq)
    have hO2 := va_at.kept hO (kp h (by omega))
    have hA2 := va_at.kept hA (kp (h + 7) (by omega))
    have g20 : va_at D vwCl (h + (8 + 4 * i), .inr (2, [.ref (h + (8 + 4 * i) + 1), .ref (h + (8 + 4 * i) + 2), .ref (h + (8 + 4 * i) + 3), .int 0, .int 0, .int 0, .int 0])) H2 := g2 0 (by omega)
    refine r_ast (D := D) (G := G) (t0 := 3) (ci := 2) (C := RX2) (T := TX2) (N := 7) hx hb hK hA2 rfl g20 rfl hS2 (show h ≤ h + 7 by omega) (show i < 5 by omega) (by omega) dX3_init_42 fun H3 locs3 z3 g3 o3 hS3 => ?_
    refine lv_iinc (v := nI (i + 1)) (lv' := [(1, .int (nI (i + 1))), (0, .ref h)]) hx hb dX3_init_43 hl (k := 0) rfl (nI_1 i) (by decide) rfl (fun ls hl => ?_)
    refine lv_goto (tgt := 25) hx hb dX3_init_46 (by decide) ?_
    refine W.widen (k := 7 + 4 * (i + 1)) (n := 114 + 51 * (i + 1)) (by omega) (by omega) ?_
    refine ih (i + 1) (by omega) H3 locs3 ls (by rw [z3, z2]; omega) (va_at.kept hO2 (o3 h (by omega))) ?_ (fun k k0 k1 k7 => ?_) hS3 hl
    · refine at_ext (fun j hj => ?_) g3
      unfold pfN
      by_cases hji : j = i
      · subst hji
        rw [va_up_self, if_pos (by omega), show h + (8 + 4 * j) = h + 8 + 4 * j by omega]
      · rw [va_up_ne _ _ hji]
        by_cases hlt : j < i
        · rw [if_pos hlt, if_pos (by omega)]
        · rw [if_neg hlt, if_neg (by omega)]
    · by_cases hk : k < 8 + 4 * i
      · exact va_at.kept (va_at.kept (hE k k0 hk k7) (kp (h + k) (by omega))) (o3 (h + k) (by omega))
      · rw [stE_pa (i := i) (j := k - (8 + 4 * i)) (by omega) (by omega), show h + k = h + (8 + 4 * i) + (k - (8 + 4 * i)) by omega, show h + 8 + 4 * i = h + (8 + 4 * i) by omega]
        exact va_at.kept (g2 (k - (8 + 4 * i)) (by omega)) (o3 _ (by show h + (8 + 4 * i) + (k - (8 + 4 * i)) ≠ h + 7; omega))
end SI
set_option maxHeartbeats 4000000 in
set_option maxRecDepth 100000 in
theorem kX3_init {l : Launch} {D : va_G} {G : z_G} {h : Nat} : XM l D G yX3_init cX3_init 2 (xr 2 27 369 32) h 3 [.null, .null, .int 0] 28 369 (stE G h) := by
  refine x_of (by decide) (by decide) rfl fun p e s m below meth c hx hb hr hml hown hlocks hin hts hX ls hl => ?_
  obtain ⟨hz, hO, hK, hN⟩ := hX
  have hS : va_S (XA h) s.heap s.heap [] := va_S.rf
  refine lv_aload_n hx hb dX3_init_0 rfl (lv_at hl 0 rfl) ?_
  refine r_obj hx hb hml hl.1 hown hts wl_1_24 dX3_init_1 (Nat.le_of_ble_eq_true rfl) (Nat.le_of_ble_eq_true rfl) ?_
  refine lv_aload_n hx hb dX3_init_4 rfl (lv_at hl 0 rfl) ?_
  refine r_new (D := D) (G := G) (ci := 0) (fs := [.null, .null, .null, .null, .null, .int 0, .int 0, .int 0, .int 0]) (h := h + 1) hx hb hts inX0 tyX0 tyX0_ok hown (hts _ wl_1_25) (hts _ wl_1_26) (hts _ wl_1_3) hK rfl (by decide) (Nat.le_of_ble_eq_true rfl) (Nat.le_of_ble_eq_true rfl) hz hS dX3_init_5 fun H1 z1 g1 o1 hS1 => ?_
  refine lv_dup hx hb dX3_init_8 rfl ?_
  refine x_after (va_runIN (As := []) (rest := [.ref (h + 1), .ref h]) ⟨hx, hb, hml, hown, hts⟩ (kX0_init (l := l) (D := D) (G := G) (h := h + 1)) ⟨va_cnB 0 hts (gd_ws wl_1_29) rfl rfl rfl hN.1 (hts _ wl_1_3) (by decide +kernel) ⟨Nat.le_of_ble_eq_true rfl, Nat.le_of_ble_eq_true rfl⟩, rfl, hts _ wl_1_28⟩ (x_pS z1 g1 hK hN) rfl rfl hl.1 rfl (lv_room (Nat.le_of_ble_eq_true rfl)) dX3_init_9 ⟨Nat.le_of_ble_eq_true rfl, Nat.le_of_ble_eq_true rfl⟩) hS1 (show h ≤ _ by omega) z1 fun H2 locs2 z2 g2 o2 hS2 => ?_
  have hO2 := va_at.kept hO ((o2 h (by omega)).trans (o1 h (by omega)))
  refine r_putF (D := D) (G := G) (ci := 3) hx hb hts inX3 tyX3 tyX3_ok nmX3 hown hK rfl hO2 hS2 (Nat.le_refl h) 0 (by decide) (hts _ wl_1_112) rfl hin rfl rfl rfl (Nat.le_of_ble_eq_true rfl) dX3_init_12 fun H3 locs3 z3 g3 o3 hS3 => ?_
  refine lv_aload_n hx hb dX3_init_15 rfl (lv_at hl 0 rfl) ?_
  refine lv_iconst (v := 5) hx hb dX3_init_16 (by decide) ?_
  refine r_anew (D := D) (C := "PathStream$Path") (cA := G.2.2.2.1) (N := 5) (h := h + 7) hx hb hown (hts _ wl_1_74) hN.2.2.2.2.1 (hK.2 3 _ rfl).2.choose_spec.choose_spec.2.2.2 (by decide) (by decide) (by decide) (Nat.le_of_ble_eq_true rfl) (Nat.le_of_ble_eq_true rfl) (by rw [z3, z2]) hS3 dX3_init_17 fun H4 z4 g4 o4 hS4 => ?_
  refine r_putF (D := D) (G := G) (ci := 3) hx hb hts inX3 tyX3 tyX3_ok nmX3 hown hK rfl (va_at.kept g3 (o4 h (by omega))) hS4 (Nat.le_refl h) 1 (by decide) (hts _ wl_1_115) rfl hin rfl rfl rfl (Nat.le_of_ble_eq_true rfl) dX3_init_20 fun H5 locs5 z5 g5 o5 hS5 => ?_
  refine lv_iconst (v := 0) hx hb dX3_init_23 (by decide) ?_
  refine lv_istore_n (lv' := [(1, .int (nI 0)), (0, .ref h)]) hx hb dX3_init_24 rfl hl (by decide) rfl (fun ls hl => ?_)
  refine st_loop hx hb hr hml hown hlocks hts hK hN 5 0 rfl H5 locs5 ls (by rw [z5, z4]) g5 ?_ (fun k k0 k1 k7 => ?_) hS5 hl
  · refine at_ext (fun j hj => ?_) (va_at.kept g4 (o5 _ (by show h + 7 ≠ h; omega)))
    unfold pfN; rw [if_neg (by omega)]
  · have hk : k < 7 := by omega
    rw [stE_el k0 hk]
    have := g2 (k - 1) (by omega)
    rw [show h + 1 + (k - 1) = h + k by omega] at this
    exact va_at.kept (va_at.kept (va_at.kept this (o3 _ (by show h + k ≠ h; omega))) (o4 _ (by show h + k < h + 7; omega))) (o5 _ (by show h + k ≠ h; omega))
