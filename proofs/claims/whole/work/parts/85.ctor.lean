/-! CONSTRUCTORS of Elements, Matcher, Path, TaskReader -/
abbrev xr (f c s n : Nat) : Room := { frames := f, cells := c, slots := s, locals := n }
section XF
variable {p : Program} {l : Launch} {e : Env} {R : Room} {s : State} {m : MethodId} {args : Array Value} {below : List Frame} {meth : Method} {c : Code} {H : Heap} {locs : List Loc} {cells slots : Nat} {Q : State → Prop}
variable {cc : ByteArray} {pc : Nat} {ls : Array Slot} {D : va_G} {G : z_G} {H0 : Heap} {index : Nat}
/-- a new array of numbers goes into a final field of the object under construction -/
theorem r_af (hx : p.tables.exec = Jvm.exec) (hb : c.code = cc) {C : String} {T : u_T} {N ci h n B : Nat} {fs : List Value} {E : Nat → va_E} (hts : ∀ w ∈ wsG, w.before args s = true) (hin : ∀ w ∈ u_ws C T N, w ∈ wsG) (ty : Nat → FieldType) (hty : ∀ k, k < N → parseFieldDescriptor (T k).2.2.1 = some (ty k)) (hnm : ∀ a, a < N → ∀ b, b < N → a ≠ b → (T a).2.1 ≠ (T b).2.1) (hown : s.vm.findClass C = some m.cls) (hK : va_K D vwCl (z_tys G) s) (hc : vwCl[ci]? = some (C, T, N)) (hin2 : meth.name = "<init>")
    (hz : H.size = h + n) (hn0 : 0 < n) (hO : va_at D vwCl (h, .inr (ci, fs)) H) (hE : ∀ k, 0 < k → k < n → va_at D vwCl (h + k, E k) H) (hS : va_S (XA B) H0 H locs) (hB : B ≤ h)
    {atype : ArrayType} {at_ : FieldType} (hat : newarray.typeOf atype = at_) (harr : (Cond.arrayClass at_).before args s = true) {cA : ClassId} (hcA : s.vm.findClass ("[" ++ at_.toString) = some cA) (hdf : defaultValue at_ = .int 0) {v : Int32} {L : Nat} (hv : ¬ v < 0) (hL : v.toNatClampNeg = L) (hbytes : L * componentBytes at_ ≤ 536870912) (hcells : cells + 1 ≤ R.cells) (hslots : slots + L ≤ R.slots) (hEn : E n = .inl (cA, L, .inl (fun _ => 0)))
    (k : Nat) (hk : k < N) (hlink : (Cond.fieldLink C index C (T k).2.1 (T k).2.2.1).before args s = true) (hfin : (T k).2.2.2 = true) (hdecl : (T k).1 = C) (hn : narrow (ty k) (.ref (h + n)) = .ref (h + n)) (hfit : fits (ty k) (.ref (h + n)) = true) (hl : k < fs.length)
    (hd1 : decode cc pc = .ok (.newarray atype, 2)) (hd2 : decode cc (pc + 2) = .ok (.putfield index, 3))
    (kk : ∀ (H1 : Heap) (locs1 : List Loc), H1.size = h + (n + 1) → va_at D vwCl (h, .inr (ci, fs.set k (.ref (h + n)))) H1 → (∀ k, 0 < k → k < n + 1 → va_at D vwCl (h + k, E k) H1) → va_S (XA B) H0 H1 locs1 → W p l e R s m args below meth c H1 locs1 (cells + 1) (slots + L) Q (F0 m (pc + 2 + 3) ls [])) : W p l e R s m args below meth c H locs cells slots Q (F0 m pc ls [.int v, .ref h]) := by
  refine r_newa (D := D) hx hb hat harr hcA hdf hv hL hbytes hcells hslots hz hS hd1 fun H1 z1 g1 o1 hS1 => ?_
  refine r_putF hx hb hts hin ty hty hnm hown hK hc (va_at.kept hO (o1 h (by omega))) hS1 (show B ≤ h from hB) k hk hlink hfin hin2 hdecl hn hfit hl hd2 fun H2 locs2 z2 g2 o2 hS2 => ?_
  refine kk H2 locs2 (by rw [z2, z1]; rfl) g2 (fun j hj0 hj => ?_) hS2
  by_cases hjn : j = n
  · subst hjn
    rw [hEn]
    exact va_at.kept g1 (o2 _ (by show h + j ≠ h; omega))
  · exact va_at.kept (va_at.kept (hE j hj0 (by omega)) (o1 _ (by show h + j < h + n; omega))) (o2 _ (by show h + j ≠ h; omega))
end XF
/-- Elements -/
def E0 (G : z_G) (h k : Nat) : va_E := if k = 0 then .inr (0, [.ref (h + 1), .ref (h + 2), .ref (h + 3), .ref (h + 4), .ref (h + 5), .int 0, .int 0, .int (-9), .int 0]) else .inl (G.1, 20, .inl (fun _ => 0))
set_option maxHeartbeats 4000000 in
set_option maxRecDepth 100000 in
theorem kX0_init {l : Launch} {D : va_G} {G : z_G} {h : Nat} : XM l D G yX0_init cX0_init 1 (xr 1 5 100 12) h 0 [.null, .null, .null, .null, .null, .int 0, .int 0, .int 0, .int 0] 6 100 (E0 G h) := by
  refine x_of (by decide) (by decide) rfl fun p e s m below meth c hx hb hr hml hown hlocks hin hts hX ls hl => ?_
  obtain ⟨hz, hO, hK, hN⟩ := hX
  have hS : va_S (XA h) s.heap s.heap [] := va_S.rf
  have hE : ∀ k, 0 < k → k < 1 → va_at D vwCl (h + k, E0 G h k) s.heap := fun k k0 k1 => by omega
  refine lv_aload_n hx hb dX0_init_0 rfl (lv_at hl 0 rfl) ?_
  refine r_obj hx hb hml hl.1 hown hts wl_1_30 dX0_init_1 (Nat.le_of_ble_eq_true rfl) (Nat.le_of_ble_eq_true rfl) ?_
  refine lv_aload_n hx hb dX0_init_4 rfl (lv_at hl 0 rfl) ?_
  refine lv_bipush (v := 20) hx hb dX0_init_5 (by decide) ?_
  refine r_af (D := D) (G := G) (E := E0 G h) (n := 1) (L := 20) (ci := 0) (B := h) (atype := .int) (at_ := .int) (cA := G.1) hx hb hts inX0 tyX0 tyX0_ok nmX0 hown hK rfl hin hz (by decide) hO hE hS (Nat.le_refl h) rfl (hts _ wl_1_73) (hK.2 0 _ rfl).2 rfl (by decide) (by decide) (by decide) (Nat.le_of_ble_eq_true rfl) (Nat.le_of_ble_eq_true rfl) rfl 0 (by decide) (hts _ wl_1_31) rfl rfl rfl rfl (Nat.le_of_ble_eq_true rfl) dX0_init_7 dX0_init_9 fun H locs hz hO hE hS => ?_
  refine lv_aload_n hx hb dX0_init_12 rfl (lv_at hl 0 rfl) ?_
  refine lv_bipush (v := 20) hx hb dX0_init_13 (by decide) ?_
  refine r_af (D := D) (G := G) (E := E0 G h) (n := 2) (L := 20) (ci := 0) (B := h) (atype := .int) (at_ := .int) (cA := G.1) hx hb hts inX0 tyX0 tyX0_ok nmX0 hown hK rfl hin hz (by decide) hO hE hS (Nat.le_refl h) rfl (hts _ wl_1_73) (hK.2 0 _ rfl).2 rfl (by decide) (by decide) (by decide) (Nat.le_of_ble_eq_true rfl) (Nat.le_of_ble_eq_true rfl) rfl 1 (by decide) (hts _ wl_1_34) rfl rfl rfl rfl (Nat.le_of_ble_eq_true rfl) dX0_init_15 dX0_init_17 fun H locs hz hO hE hS => ?_
  refine lv_aload_n hx hb dX0_init_20 rfl (lv_at hl 0 rfl) ?_
  refine lv_bipush (v := 20) hx hb dX0_init_21 (by decide) ?_
  refine r_af (D := D) (G := G) (E := E0 G h) (n := 3) (L := 20) (ci := 0) (B := h) (atype := .int) (at_ := .int) (cA := G.1) hx hb hts inX0 tyX0 tyX0_ok nmX0 hown hK rfl hin hz (by decide) hO hE hS (Nat.le_refl h) rfl (hts _ wl_1_73) (hK.2 0 _ rfl).2 rfl (by decide) (by decide) (by decide) (Nat.le_of_ble_eq_true rfl) (Nat.le_of_ble_eq_true rfl) rfl 2 (by decide) (hts _ wl_1_37) rfl rfl rfl rfl (Nat.le_of_ble_eq_true rfl) dX0_init_23 dX0_init_25 fun H locs hz hO hE hS => ?_
  refine lv_aload_n hx hb dX0_init_28 rfl (lv_at hl 0 rfl) ?_
  refine lv_bipush (v := 20) hx hb dX0_init_29 (by decide) ?_
  refine r_af (D := D) (G := G) (E := E0 G h) (n := 4) (L := 20) (ci := 0) (B := h) (atype := .int) (at_ := .int) (cA := G.1) hx hb hts inX0 tyX0 tyX0_ok nmX0 hown hK rfl hin hz (by decide) hO hE hS (Nat.le_refl h) rfl (hts _ wl_1_73) (hK.2 0 _ rfl).2 rfl (by decide) (by decide) (by decide) (Nat.le_of_ble_eq_true rfl) (Nat.le_of_ble_eq_true rfl) rfl 3 (by decide) (hts _ wl_1_39) rfl rfl rfl rfl (Nat.le_of_ble_eq_true rfl) dX0_init_31 dX0_init_33 fun H locs hz hO hE hS => ?_
  refine lv_aload_n hx hb dX0_init_36 rfl (lv_at hl 0 rfl) ?_
  refine lv_bipush (v := 20) hx hb dX0_init_37 (by decide) ?_
  refine r_af (D := D) (G := G) (E := E0 G h) (n := 5) (L := 20) (ci := 0) (B := h) (atype := .int) (at_ := .int) (cA := G.1) hx hb hts inX0 tyX0 tyX0_ok nmX0 hown hK rfl hin hz (by decide) hO hE hS (Nat.le_refl h) rfl (hts _ wl_1_73) (hK.2 0 _ rfl).2 rfl (by decide) (by decide) (by decide) (Nat.le_of_ble_eq_true rfl) (Nat.le_of_ble_eq_true rfl) rfl 4 (by decide) (hts _ wl_1_41) rfl rfl rfl rfl (Nat.le_of_ble_eq_true rfl) dX0_init_39 dX0_init_41 fun H locs hz hO hE hS => ?_
  refine lv_aload_n hx hb dX0_init_44 rfl (lv_at hl 0 rfl) ?_
  refine lv_bipush (v := (-9)) hx hb dX0_init_45 (by decide) ?_
  refine r_put (D := D) (G := G) (ci := 0) hx hb hts inX0 tyX0 tyX0_ok nmX0 hown hK rfl hO hS (Nat.le_refl h) 7 (by decide) (hts _ wl_1_49) rfl rfl rfl rfl (Nat.le_of_ble_eq_true rfl) dX0_init_47 fun H1 locs1 z2 g2 o2 hS => ?_
  have hE : ∀ k, 0 < k → k < 6 → va_at D vwCl (h + k, E0 G h k) H1 := fun k k0 k1 => va_at.kept (hE k k0 k1) (o2 _ (by show h + k ≠ h; omega))
  have hz := z2.trans hz
  have hO := g2
  refine W.vret hx hb hr (fun t ht hW => ⟨⟨(), rfl, trivial, by rw [ht]; exact hz, fun k hk => ?_⟩, hS.F ht⟩) hS.2.2 dX0_init_50
  rw [ht]
  rcases Nat.eq_zero_or_pos k with h0 | h0
  · subst h0; exact hO
  · exact hE k h0 hk
/-- Matcher -/
def E1 (G : z_G) (h k : Nat) : va_E := if k = 0 then .inr (1, [.ref (h + 1), .ref (h + 2), .ref (h + 3), .ref (h + 4), .int 0, .int 0]) else .inl (G.1, 20, .inl (fun _ => 0))
set_option maxHeartbeats 4000000 in
set_option maxRecDepth 100000 in
theorem kX1_init {l : Launch} {D : va_G} {G : z_G} {h : Nat} : XM l D G yX1_init cX1_init 1 (xr 1 4 80 12) h 1 [.null, .null, .null, .null, .int 0, .int 0] 5 80 (E1 G h) := by
  refine x_of (by decide) (by decide) rfl fun p e s m below meth c hx hb hr hml hown hlocks hin hts hX ls hl => ?_
  obtain ⟨hz, hO, hK, hN⟩ := hX
  have hS : va_S (XA h) s.heap s.heap [] := va_S.rf
  have hE : ∀ k, 0 < k → k < 1 → va_at D vwCl (h + k, E1 G h k) s.heap := fun k k0 k1 => by omega
  refine lv_aload_n hx hb dX1_init_0 rfl (lv_at hl 0 rfl) ?_
  refine r_obj hx hb hml hl.1 hown hts wl_1_133 dX1_init_1 (Nat.le_of_ble_eq_true rfl) (Nat.le_of_ble_eq_true rfl) ?_
  refine lv_aload_n hx hb dX1_init_4 rfl (lv_at hl 0 rfl) ?_
  refine lv_bipush (v := 20) hx hb dX1_init_5 (by decide) ?_
  refine r_af (D := D) (G := G) (E := E1 G h) (n := 1) (L := 20) (ci := 1) (B := h) (atype := .int) (at_ := .int) (cA := G.1) hx hb hts inX1 tyX1 tyX1_ok nmX1 hown hK rfl hin hz (by decide) hO hE hS (Nat.le_refl h) rfl (hts _ wl_1_73) (hK.2 0 _ rfl).2 rfl (by decide) (by decide) (by decide) (Nat.le_of_ble_eq_true rfl) (Nat.le_of_ble_eq_true rfl) rfl 0 (by decide) (hts _ wl_1_134) rfl rfl rfl rfl (Nat.le_of_ble_eq_true rfl) dX1_init_7 dX1_init_9 fun H locs hz hO hE hS => ?_
  refine lv_aload_n hx hb dX1_init_12 rfl (lv_at hl 0 rfl) ?_
  refine lv_bipush (v := 20) hx hb dX1_init_13 (by decide) ?_
  refine r_af (D := D) (G := G) (E := E1 G h) (n := 2) (L := 20) (ci := 1) (B := h) (atype := .int) (at_ := .int) (cA := G.1) hx hb hts inX1 tyX1 tyX1_ok nmX1 hown hK rfl hin hz (by decide) hO hE hS (Nat.le_refl h) rfl (hts _ wl_1_73) (hK.2 0 _ rfl).2 rfl (by decide) (by decide) (by decide) (Nat.le_of_ble_eq_true rfl) (Nat.le_of_ble_eq_true rfl) rfl 1 (by decide) (hts _ wl_1_136) rfl rfl rfl rfl (Nat.le_of_ble_eq_true rfl) dX1_init_15 dX1_init_17 fun H locs hz hO hE hS => ?_
  refine lv_aload_n hx hb dX1_init_20 rfl (lv_at hl 0 rfl) ?_
  refine lv_bipush (v := 20) hx hb dX1_init_21 (by decide) ?_
  refine r_af (D := D) (G := G) (E := E1 G h) (n := 3) (L := 20) (ci := 1) (B := h) (atype := .int) (at_ := .int) (cA := G.1) hx hb hts inX1 tyX1 tyX1_ok nmX1 hown hK rfl hin hz (by decide) hO hE hS (Nat.le_refl h) rfl (hts _ wl_1_73) (hK.2 0 _ rfl).2 rfl (by decide) (by decide) (by decide) (Nat.le_of_ble_eq_true rfl) (Nat.le_of_ble_eq_true rfl) rfl 2 (by decide) (hts _ wl_1_137) rfl rfl rfl rfl (Nat.le_of_ble_eq_true rfl) dX1_init_23 dX1_init_25 fun H locs hz hO hE hS => ?_
  refine lv_aload_n hx hb dX1_init_28 rfl (lv_at hl 0 rfl) ?_
  refine lv_bipush (v := 20) hx hb dX1_init_29 (by decide) ?_
  refine r_af (D := D) (G := G) (E := E1 G h) (n := 4) (L := 20) (ci := 1) (B := h) (atype := .int) (at_ := .int) (cA := G.1) hx hb hts inX1 tyX1 tyX1_ok nmX1 hown hK rfl hin hz (by decide) hO hE hS (Nat.le_refl h) rfl (hts _ wl_1_73) (hK.2 0 _ rfl).2 rfl (by decide) (by decide) (by decide) (Nat.le_of_ble_eq_true rfl) (Nat.le_of_ble_eq_true rfl) rfl 3 (by decide) (hts _ wl_1_138) rfl rfl rfl rfl (Nat.le_of_ble_eq_true rfl) dX1_init_31 dX1_init_33 fun H locs hz hO hE hS => ?_
  refine W.vret hx hb hr (fun t ht hW => ⟨⟨(), rfl, trivial, by rw [ht]; exact hz, fun k hk => ?_⟩, hS.F ht⟩) hS.2.2 dX1_init_36
  rw [ht]
  rcases Nat.eq_zero_or_pos k with h0 | h0
  · subst h0; exact hO
  · exact hE k h0 hk
/-- Path -/
def E2 (G : z_G) (h k : Nat) : va_E := if k = 0 then .inr (2, [.ref (h + 1), .ref (h + 2), .ref (h + 3), .int 0, .int 0, .int 0, .int 0]) else if k = 1 then .inl (G.1, 4, .inl (fun _ => 0)) else .inl (G.1, 20, .inl (fun _ => 0))
set_option maxHeartbeats 4000000 in
set_option maxRecDepth 100000 in
theorem kX2_init {l : Launch} {D : va_G} {G : z_G} {h : Nat} : XM l D G yX2_init cX2_init 1 (xr 1 3 44 12) h 2 [.null, .null, .null, .int 0, .int 0, .int 0, .int 0] 4 44 (E2 G h) := by
  refine x_of (by decide) (by decide) rfl fun p e s m below meth c hx hb hr hml hown hlocks hin hts hX ls hl => ?_
  obtain ⟨hz, hO, hK, hN⟩ := hX
  have hS : va_S (XA h) s.heap s.heap [] := va_S.rf
  have hE : ∀ k, 0 < k → k < 1 → va_at D vwCl (h + k, E2 G h k) s.heap := fun k k0 k1 => by omega
  refine lv_aload_n hx hb dX2_init_0 rfl (lv_at hl 0 rfl) ?_
  refine r_obj hx hb hml hl.1 hown hts wl_1_80 dX2_init_1 (Nat.le_of_ble_eq_true rfl) (Nat.le_of_ble_eq_true rfl) ?_
  refine lv_aload_n hx hb dX2_init_4 rfl (lv_at hl 0 rfl) ?_
  refine lv_iconst (v := 4) hx hb dX2_init_5 (by decide) ?_
  refine r_af (D := D) (G := G) (E := E2 G h) (n := 1) (L := 4) (ci := 2) (B := h) (atype := .int) (at_ := .int) (cA := G.1) hx hb hts inX2 tyX2 tyX2_ok nmX2 hown hK rfl hin hz (by decide) hO hE hS (Nat.le_refl h) rfl (hts _ wl_1_73) (hK.2 0 _ rfl).2 rfl (by decide) (by decide) (by decide) (Nat.le_of_ble_eq_true rfl) (Nat.le_of_ble_eq_true rfl) rfl 0 (by decide) (hts _ wl_1_81) rfl rfl rfl rfl (Nat.le_of_ble_eq_true rfl) dX2_init_6 dX2_init_8 fun H locs hz hO hE hS => ?_
  refine lv_aload_n hx hb dX2_init_11 rfl (lv_at hl 0 rfl) ?_
  refine lv_bipush (v := 20) hx hb dX2_init_12 (by decide) ?_
  refine r_af (D := D) (G := G) (E := E2 G h) (n := 2) (L := 20) (ci := 2) (B := h) (atype := .int) (at_ := .int) (cA := G.1) hx hb hts inX2 tyX2 tyX2_ok nmX2 hown hK rfl hin hz (by decide) hO hE hS (Nat.le_refl h) rfl (hts _ wl_1_73) (hK.2 0 _ rfl).2 rfl (by decide) (by decide) (by decide) (Nat.le_of_ble_eq_true rfl) (Nat.le_of_ble_eq_true rfl) rfl 1 (by decide) (hts _ wl_1_84) rfl rfl rfl rfl (Nat.le_of_ble_eq_true rfl) dX2_init_14 dX2_init_16 fun H locs hz hO hE hS => ?_
  refine lv_aload_n hx hb dX2_init_19 rfl (lv_at hl 0 rfl) ?_
  refine lv_bipush (v := 20) hx hb dX2_init_20 (by decide) ?_
  refine r_af (D := D) (G := G) (E := E2 G h) (n := 3) (L := 20) (ci := 2) (B := h) (atype := .int) (at_ := .int) (cA := G.1) hx hb hts inX2 tyX2 tyX2_ok nmX2 hown hK rfl hin hz (by decide) hO hE hS (Nat.le_refl h) rfl (hts _ wl_1_73) (hK.2 0 _ rfl).2 rfl (by decide) (by decide) (by decide) (Nat.le_of_ble_eq_true rfl) (Nat.le_of_ble_eq_true rfl) rfl 2 (by decide) (hts _ wl_1_86) rfl rfl rfl rfl (Nat.le_of_ble_eq_true rfl) dX2_init_22 dX2_init_24 fun H locs hz hO hE hS => ?_
  refine W.vret hx hb hr (fun t ht hW => ⟨⟨(), rfl, trivial, by rw [ht]; exact hz, fun k hk => ?_⟩, hS.F ht⟩) hS.2.2 dX2_init_27
  rw [ht]
  rcases Nat.eq_zero_or_pos k with h0 | h0
  · subst h0; exact hO
  · exact hE k h0 hk
/-- TaskReader -/
def E4 (G : z_G) (h k : Nat) : va_E := if k = 0 then .inr (4, [.ref (h + 1), .int 0, .int 0]) else .inl (G.1, 4, .inl (fun _ => 0))
set_option maxHeartbeats 4000000 in
set_option maxRecDepth 100000 in
theorem kX4_init {l : Launch} {D : va_G} {G : z_G} {h : Nat} : XM l D G yX4_init cX4_init 1 (xr 1 1 4 12) h 4 [.null, .int 0, .int 0] 2 4 (E4 G h) := by
  refine x_of (by decide) (by decide) rfl fun p e s m below meth c hx hb hr hml hown hlocks hin hts hX ls hl => ?_
  obtain ⟨hz, hO, hK, hN⟩ := hX
  have hS : va_S (XA h) s.heap s.heap [] := va_S.rf
  have hE : ∀ k, 0 < k → k < 1 → va_at D vwCl (h + k, E4 G h k) s.heap := fun k k0 k1 => by omega
  refine lv_aload_n hx hb dX4_init_0 rfl (lv_at hl 0 rfl) ?_
  refine r_obj hx hb hml hl.1 hown hts wl_1_164 dX4_init_1 (Nat.le_of_ble_eq_true rfl) (Nat.le_of_ble_eq_true rfl) ?_
  refine lv_aload_n hx hb dX4_init_4 rfl (lv_at hl 0 rfl) ?_
  refine lv_iconst (v := 4) hx hb dX4_init_5 (by decide) ?_
  refine r_af (D := D) (G := G) (E := E4 G h) (n := 1) (L := 4) (ci := 4) (B := h) (atype := .int) (at_ := .int) (cA := G.1) hx hb hts inX4 tyX4 tyX4_ok nmX4 hown hK rfl hin hz (by decide) hO hE hS (Nat.le_refl h) rfl (hts _ wl_1_73) (hK.2 0 _ rfl).2 rfl (by decide) (by decide) (by decide) (Nat.le_of_ble_eq_true rfl) (Nat.le_of_ble_eq_true rfl) rfl 0 (by decide) (hts _ wl_1_165) rfl rfl rfl rfl (Nat.le_of_ble_eq_true rfl) dX4_init_6 dX4_init_8 fun H locs hz hO hE hS => ?_
  refine W.vret hx hb hr (fun t ht hW => ⟨⟨(), rfl, trivial, by rw [ht]; exact hz, fun k hk => ?_⟩, hS.F ht⟩) hS.2.2 dX4_init_11
  rw [ht]
  rcases Nat.eq_zero_or_pos k with h0 | h0
  · subst h0; exact hO
  · exact hE k h0 hk
