/-! CONSTRUCTOR of the reference -/
def dM1 : Dt := (fun k j => if k = 0 ∧ j = 13 then -9 else 0, 0)
noncomputable def dM0 : Dt := (m_clear dM1 2).choose
theorem dM0_e : fX6_clear dM1 2 = some dM0 := (m_clear dM1 2).choose_spec.1
theorem dM0_2 : dM0.1 2 = clrR (dM1.1 2) := (m_clear dM1 2).choose_spec.2.1
theorem dM0_f : Fr (fun k => k = 2) dM1 dM0 := (m_clear dM1 2).choose_spec.2.2
def mdE (G : z_G) (h k : Nat) : va_E := shM G (fun i => h + i) k (dM1.1 k) 0
theorem zw_P {D : va_G} {H : Heap} {sh : Nat → (Nat → Int32) → Int64 → va_E} {N : Nat} {ad : Nat → Nat} {d : Dt} (h : ∀ k, k < N → va_at D vwCl (ad k, sh k (d.1 k) d.2) H) : va_P D vwCl (z_w sh N ad d) H := by
  intro k q hq
  by_cases hk : k < N
  · rw [z_w_get hk] at hq
    cases hq
    exact h k hk
  · rw [List.getElem?_eq_none (by simp [z_w]; omega)] at hq
    cases hq
theorem zw_D {A : Nat → Prop} {sh : Nat → (Nat → Int32) → Int64 → va_E} {N : Nat} {ad : Nat → Nat} (h1 : ∀ i j, i < N → j < N → ad i = ad j → i = j) (h2 : ∀ i, i < N → A (ad i)) (d : Dt) : va_D A (z_w sh N ad d) := by
  have key : ∀ (k : Nat) (q : Nat × va_E), (z_w sh N ad d)[k]? = some q → k < N ∧ q.1 = ad k := by
    intro k q hq
    by_cases hk : k < N
    · rw [z_w_get hk] at hq
      cases hq
      exact ⟨hk, rfl⟩
    · rw [List.getElem?_eq_none (by simp [z_w]; omega)] at hq
      cases hq
  refine ⟨fun i j p q hp hq e => ?_, fun k q hq => ?_⟩
  · obtain ⟨a1, a2⟩ := key i p hp
    obtain ⟨b1, b2⟩ := key j q hq
    exact h1 i j a1 b1 (by rw [← a2, ← b2]; exact e)
  · obtain ⟨a1, a2⟩ := key k q hq
    rw [a2]; exact h2 k a1
theorem zw_DM {G : z_G} (h : Nat) : ∀ d, va_D (XA h) (WM G (fun i => h + i) d) := fun d => zw_D (fun i j _ _ e => Nat.add_left_cancel e) (fun i _ => Nat.le_add_right h i) d
/-- a method's walk, whatever its end -/
theorem x_ofQ {l : Launch} {D : va_G} {G : z_G} {y : MethodName} {b : ByteArray} {L : Nat} {rm : Room} {h ci : Nat} {fs : List Value} {mc ms : Nat} {Qc : Array Value → State → Outcome → State → Prop} (hy : plainName y.cls = true) (hn : 1 ≤ L) (hyn : y.name = "<init>")
    (body : ∀ (p : Program) (e : Env) (s : State) (m : MethodId) (below : List Frame) (meth : Method) (c : Code), p.tables.exec = Jvm.exec → c.code = b → meth.sig.returnType = none → c.maxLocals = L → s.vm.findClass y.cls = some m.cls → meth.locks = false → meth.name = "<init>" → (∀ w ∈ wsG, w.before #[Value.ref h] s = true) → XB D G h ci fs s → ∀ ls : Array Slot, lv_has ls L [(0, .ref h)] → W p l e rm s m #[Value.ref h] below meth c s.heap [] 0 0 (MQ below Qc #[Value.ref h] s mc ms (XA h)) (F0 m 0 ls [])) : Met l y (.code y b L none :: wsG) rm (va_Pc [.ref h] (XB D G h ci fs)) Qc mc ms (XA h) := by
  refine Met.ofW (cc := b) (maxL := L) (ret := none) hy rfl ?_
  intro p e s m args below meth c s₁ B hml hv
  obtain ⟨rfl, hX⟩ := hv
  have hts0 := atoms_spec (ws := .code y b L none :: wsG) B.pre
  rw [lg_entry_eq]
  refine body p e s m below meth c B.exec B.bytes B.returns hml (findClass_of_methodNamed B.named) B.notSynchronized ?_ (fun w h => hts0 w (List.mem_cons_of_mem _ h)) hX _ (lv_entry [.ref h] hn)
  rw [← hyn]; exact (name_of_methodNamed B.named B.method).1
set_option maxHeartbeats 4000000 in
set_option maxRecDepth 100000 in
theorem kX6_init {l : Launch} {D : va_G} {G : z_G} {h : Nat} : Met l yX6_init (.code yX6_init cX6_init 1 none :: wsG) (xr 1 15 4142 21) (va_Pc [.ref h] (XB D G h 6 [.null, .int 0, .null, .null, .null, .int 0, .int 0, .null, .null, .null, .null, .int 0, .long 0, .int 0, .null, .null, .null, .null, .int 0, .int 0, .null, .null, .int 0, .null, .int 0, .int 0])) (va_Qv (fun (_ : Unit) => True) (fun _ => z_Wd D G (WM G (fun i => h + i) dM0)) (XA h)) 15 4142 (XA h) := by
  refine x_ofQ (by decide) (by decide) rfl fun p e s m below meth c hx hb hr hml hown hlocks hin hts hX ls hl => ?_
  obtain ⟨hz, hO, hK, hN⟩ := hX
  have hS : va_S (XA h) s.heap s.heap [] := va_S.rf
  have hE : ∀ k, 0 < k → k < 1 → va_at D vwCl (h + k, mdE G h k) s.heap := fun k k0 k1 => by omega
  refine lv_aload_n hx hb dX6_init_0 rfl (lv_at hl 0 rfl) ?_
  refine r_obj hx hb hml hl.1 hown hts wl_3_130 dX6_init_1 (Nat.le_of_ble_eq_true rfl) (Nat.le_of_ble_eq_true rfl) ?_
  refine lv_aload_n hx hb dX6_init_4 rfl (lv_at hl 0 rfl) ?_
  refine lv_bipush (v := 99) hx hb dX6_init_5 (by decide) ?_
  refine r_af (D := D) (G := G) (E := mdE G h) (n := 1) (L := 99) (ci := 6) (B := h) (atype := .int) (at_ := .int) (cA := G.1) hx hb hts inX6 tyX6 tyX6_ok nmX6 hown hK rfl hin hz (by decide) hO hE hS (Nat.le_refl h) rfl (hts _ wl_1_73) (hK.2 0 _ rfl).2 rfl (by decide) (by decide) (by decide) (Nat.le_of_ble_eq_true rfl) (Nat.le_of_ble_eq_true rfl) rfl 0 (by decide) (hts _ wl_3_134) rfl rfl rfl rfl (Nat.le_of_ble_eq_true rfl) dX6_init_7 dX6_init_9 fun H locs hz hO hE hS => ?_
  refine lv_aload_n hx hb dX6_init_12 rfl (lv_at hl 0 rfl) ?_
  refine lv_sipush (v := 214) hx hb dX6_init_13 (by decide) ?_
  refine r_af (D := D) (G := G) (E := mdE G h) (n := 2) (L := 214) (ci := 6) (B := h) (atype := .int) (at_ := .int) (cA := G.1) hx hb hts inX6 tyX6 tyX6_ok nmX6 hown hK rfl hin hz (by decide) hO hE hS (Nat.le_refl h) rfl (hts _ wl_1_73) (hK.2 0 _ rfl).2 rfl (by decide) (by decide) (by decide) (Nat.le_of_ble_eq_true rfl) (Nat.le_of_ble_eq_true rfl) rfl 2 (by decide) (hts _ wl_3_136) rfl rfl rfl rfl (Nat.le_of_ble_eq_true rfl) dX6_init_16 dX6_init_18 fun H locs hz hO hE hS => ?_
  refine lv_aload_n hx hb dX6_init_21 rfl (lv_at hl 0 rfl) ?_
  refine lv_sipush (v := 214) hx hb dX6_init_22 (by decide) ?_
  refine r_af (D := D) (G := G) (E := mdE G h) (n := 3) (L := 214) (ci := 6) (B := h) (atype := .int) (at_ := .int) (cA := G.1) hx hb hts inX6 tyX6 tyX6_ok nmX6 hown hK rfl hin hz (by decide) hO hE hS (Nat.le_refl h) rfl (hts _ wl_1_73) (hK.2 0 _ rfl).2 rfl (by decide) (by decide) (by decide) (Nat.le_of_ble_eq_true rfl) (Nat.le_of_ble_eq_true rfl) rfl 3 (by decide) (hts _ wl_3_137) rfl rfl rfl rfl (Nat.le_of_ble_eq_true rfl) dX6_init_25 dX6_init_27 fun H locs hz hO hE hS => ?_
  refine lv_aload_n hx hb dX6_init_30 rfl (lv_at hl 0 rfl) ?_
  refine lv_sipush (v := 2996) hx hb dX6_init_31 (by decide) ?_
  refine r_af (D := D) (G := G) (E := mdE G h) (n := 4) (L := 2996) (ci := 6) (B := h) (atype := .int) (at_ := .int) (cA := G.1) hx hb hts inX6 tyX6 tyX6_ok nmX6 hown hK rfl hin hz (by decide) hO hE hS (Nat.le_refl h) rfl (hts _ wl_1_73) (hK.2 0 _ rfl).2 rfl (by decide) (by decide) (by decide) (Nat.le_of_ble_eq_true rfl) (Nat.le_of_ble_eq_true rfl) rfl 4 (by decide) (hts _ wl_3_138) rfl rfl rfl rfl (Nat.le_of_ble_eq_true rfl) dX6_init_34 dX6_init_36 fun H locs hz hO hE hS => ?_
  refine lv_aload_n hx hb dX6_init_39 rfl (lv_at hl 0 rfl) ?_
  refine lv_sipush (v := 428) hx hb dX6_init_40 (by decide) ?_
  refine r_af (D := D) (G := G) (E := mdE G h) (n := 5) (L := 428) (ci := 6) (B := h) (atype := .int) (at_ := .int) (cA := G.1) hx hb hts inX6 tyX6 tyX6_ok nmX6 hown hK rfl hin hz (by decide) hO hE hS (Nat.le_refl h) rfl (hts _ wl_1_73) (hK.2 0 _ rfl).2 rfl (by decide) (by decide) (by decide) (Nat.le_of_ble_eq_true rfl) (Nat.le_of_ble_eq_true rfl) rfl 7 (by decide) (hts _ wl_3_141) rfl rfl rfl rfl (Nat.le_of_ble_eq_true rfl) dX6_init_43 dX6_init_45 fun H locs hz hO hE hS => ?_
  refine lv_aload_n hx hb dX6_init_48 rfl (lv_at hl 0 rfl) ?_
  refine lv_iconst (v := 2) hx hb dX6_init_49 (by decide) ?_
  refine r_af (D := D) (G := G) (E := mdE G h) (n := 6) (L := 2) (ci := 6) (B := h) (atype := .boolean) (at_ := .boolean) (cA := G.2.1) hx hb hts inX6 tyX6 tyX6_ok nmX6 hown hK rfl hin hz (by decide) hO hE hS (Nat.le_refl h) rfl (hts _ wl_1_158) (hK.2 1 _ rfl).2 rfl (by decide) (by decide) (by decide) (Nat.le_of_ble_eq_true rfl) (Nat.le_of_ble_eq_true rfl) rfl 8 (by decide) (hts _ wl_3_142) rfl rfl rfl rfl (Nat.le_of_ble_eq_true rfl) dX6_init_50 dX6_init_52 fun H locs hz hO hE hS => ?_
  refine lv_aload_n hx hb dX6_init_55 rfl (lv_at hl 0 rfl) ?_
  refine lv_bipush (v := 6) hx hb dX6_init_56 (by decide) ?_
  refine r_af (D := D) (G := G) (E := mdE G h) (n := 7) (L := 6) (ci := 6) (B := h) (atype := .int) (at_ := .int) (cA := G.1) hx hb hts inX6 tyX6 tyX6_ok nmX6 hown hK rfl hin hz (by decide) hO hE hS (Nat.le_refl h) rfl (hts _ wl_1_73) (hK.2 0 _ rfl).2 rfl (by decide) (by decide) (by decide) (Nat.le_of_ble_eq_true rfl) (Nat.le_of_ble_eq_true rfl) rfl 9 (by decide) (hts _ wl_3_143) rfl rfl rfl rfl (Nat.le_of_ble_eq_true rfl) dX6_init_58 dX6_init_60 fun H locs hz hO hE hS => ?_
  refine lv_aload_n hx hb dX6_init_63 rfl (lv_at hl 0 rfl) ?_
  refine lv_bipush (v := 6) hx hb dX6_init_64 (by decide) ?_
  refine r_af (D := D) (G := G) (E := mdE G h) (n := 8) (L := 6) (ci := 6) (B := h) (atype := .int) (at_ := .int) (cA := G.1) hx hb hts inX6 tyX6 tyX6_ok nmX6 hown hK rfl hin hz (by decide) hO hE hS (Nat.le_refl h) rfl (hts _ wl_1_73) (hK.2 0 _ rfl).2 rfl (by decide) (by decide) (by decide) (Nat.le_of_ble_eq_true rfl) (Nat.le_of_ble_eq_true rfl) rfl 10 (by decide) (hts _ wl_3_144) rfl rfl rfl rfl (Nat.le_of_ble_eq_true rfl) dX6_init_66 dX6_init_68 fun H locs hz hO hE hS => ?_
  refine lv_aload_n hx hb dX6_init_71 rfl (lv_at hl 0 rfl) ?_
  refine lv_bipush (v := 8) hx hb dX6_init_72 (by decide) ?_
  refine r_af (D := D) (G := G) (E := mdE G h) (n := 9) (L := 8) (ci := 6) (B := h) (atype := .int) (at_ := .int) (cA := G.1) hx hb hts inX6 tyX6 tyX6_ok nmX6 hown hK rfl hin hz (by decide) hO hE hS (Nat.le_refl h) rfl (hts _ wl_1_73) (hK.2 0 _ rfl).2 rfl (by decide) (by decide) (by decide) (Nat.le_of_ble_eq_true rfl) (Nat.le_of_ble_eq_true rfl) rfl 14 (by decide) (hts _ wl_3_148) rfl rfl rfl rfl (Nat.le_of_ble_eq_true rfl) dX6_init_74 dX6_init_76 fun H locs hz hO hE hS => ?_
  refine lv_aload_n hx hb dX6_init_79 rfl (lv_at hl 0 rfl) ?_
  refine lv_bipush (v := 8) hx hb dX6_init_80 (by decide) ?_
  refine r_af (D := D) (G := G) (E := mdE G h) (n := 10) (L := 8) (ci := 6) (B := h) (atype := .int) (at_ := .int) (cA := G.1) hx hb hts inX6 tyX6 tyX6_ok nmX6 hown hK rfl hin hz (by decide) hO hE hS (Nat.le_refl h) rfl (hts _ wl_1_73) (hK.2 0 _ rfl).2 rfl (by decide) (by decide) (by decide) (Nat.le_of_ble_eq_true rfl) (Nat.le_of_ble_eq_true rfl) rfl 15 (by decide) (hts _ wl_3_149) rfl rfl rfl rfl (Nat.le_of_ble_eq_true rfl) dX6_init_82 dX6_init_84 fun H locs hz hO hE hS => ?_
  refine lv_aload_n hx hb dX6_init_87 rfl (lv_at hl 0 rfl) ?_
  refine lv_bipush (v := 32) hx hb dX6_init_88 (by decide) ?_
  refine r_af (D := D) (G := G) (E := mdE G h) (n := 11) (L := 32) (ci := 6) (B := h) (atype := .int) (at_ := .int) (cA := G.1) hx hb hts inX6 tyX6 tyX6_ok nmX6 hown hK rfl hin hz (by decide) hO hE hS (Nat.le_refl h) rfl (hts _ wl_1_73) (hK.2 0 _ rfl).2 rfl (by decide) (by decide) (by decide) (Nat.le_of_ble_eq_true rfl) (Nat.le_of_ble_eq_true rfl) rfl 16 (by decide) (hts _ wl_3_150) rfl rfl rfl rfl (Nat.le_of_ble_eq_true rfl) dX6_init_90 dX6_init_92 fun H locs hz hO hE hS => ?_
  refine lv_aload_n hx hb dX6_init_95 rfl (lv_at hl 0 rfl) ?_
  refine lv_iconst (v := 5) hx hb dX6_init_96 (by decide) ?_
  refine r_af (D := D) (G := G) (E := mdE G h) (n := 12) (L := 5) (ci := 6) (B := h) (atype := .int) (at_ := .int) (cA := G.1) hx hb hts inX6 tyX6 tyX6_ok nmX6 hown hK rfl hin hz (by decide) hO hE hS (Nat.le_refl h) rfl (hts _ wl_1_73) (hK.2 0 _ rfl).2 rfl (by decide) (by decide) (by decide) (Nat.le_of_ble_eq_true rfl) (Nat.le_of_ble_eq_true rfl) rfl 17 (by decide) (hts _ wl_3_151) rfl rfl rfl rfl (Nat.le_of_ble_eq_true rfl) dX6_init_97 dX6_init_99 fun H locs hz hO hE hS => ?_
  refine lv_aload_n hx hb dX6_init_102 rfl (lv_at hl 0 rfl) ?_
  refine lv_iconst (v := 5) hx hb dX6_init_103 (by decide) ?_
  refine r_af (D := D) (G := G) (E := mdE G h) (n := 13) (L := 5) (ci := 6) (B := h) (atype := .int) (at_ := .int) (cA := G.1) hx hb hts inX6 tyX6 tyX6_ok nmX6 hown hK rfl hin hz (by decide) hO hE hS (Nat.le_refl h) rfl (hts _ wl_1_73) (hK.2 0 _ rfl).2 rfl (by decide) (by decide) (by decide) (Nat.le_of_ble_eq_true rfl) (Nat.le_of_ble_eq_true rfl) rfl 20 (by decide) (hts _ wl_3_154) rfl rfl rfl rfl (Nat.le_of_ble_eq_true rfl) dX6_init_104 dX6_init_106 fun H locs hz hO hE hS => ?_
  refine lv_aload_n hx hb dX6_init_109 rfl (lv_at hl 0 rfl) ?_
  refine lv_bipush (v := 20) hx hb dX6_init_110 (by decide) ?_
  refine r_af (D := D) (G := G) (E := mdE G h) (n := 14) (L := 20) (ci := 6) (B := h) (atype := .int) (at_ := .int) (cA := G.1) hx hb hts inX6 tyX6 tyX6_ok nmX6 hown hK rfl hin hz (by decide) hO hE hS (Nat.le_refl h) rfl (hts _ wl_1_73) (hK.2 0 _ rfl).2 rfl (by decide) (by decide) (by decide) (Nat.le_of_ble_eq_true rfl) (Nat.le_of_ble_eq_true rfl) rfl 21 (by decide) (hts _ wl_3_155) rfl rfl rfl rfl (Nat.le_of_ble_eq_true rfl) dX6_init_112 dX6_init_114 fun H locs hz hO hE hS => ?_
  refine lv_aload_n hx hb dX6_init_117 rfl (lv_at hl 0 rfl) ?_
  refine lv_bipush (v := 99) hx hb dX6_init_118 (by decide) ?_
  refine r_af (D := D) (G := G) (E := mdE G h) (n := 15) (L := 99) (ci := 6) (B := h) (atype := .int) (at_ := .int) (cA := G.1) hx hb hts inX6 tyX6 tyX6_ok nmX6 hown hK rfl hin hz (by decide) hO hE hS (Nat.le_refl h) rfl (hts _ wl_1_73) (hK.2 0 _ rfl).2 rfl (by decide) (by decide) (by decide) (Nat.le_of_ble_eq_true rfl) (Nat.le_of_ble_eq_true rfl) rfl 23 (by decide) (hts _ wl_3_157) rfl rfl rfl rfl (Nat.le_of_ble_eq_true rfl) dX6_init_120 dX6_init_122 fun H locs hz hO hE hS => ?_
  refine lv_aload_n hx hb dX6_init_125 rfl (lv_at hl 0 rfl) ?_
  refine lv_bipush (v := (-9)) hx hb dX6_init_126 (by decide) ?_
  refine r_put (D := D) (G := G) (ci := 6) hx hb hts inX6 tyX6 tyX6_ok nmX6 hown hK rfl hO hS (Nat.le_refl h) 13 (by decide) (hts _ wl_3_147) rfl rfl rfl rfl (Nat.le_of_ble_eq_true rfl) dX6_init_128 fun H1 locs1 z2 g2 o2 hS => ?_
  have hE : ∀ k, 0 < k → k < 16 → va_at D vwCl (h + k, mdE G h k) H1 := fun k k0 k1 => va_at.kept (hE k k0 k1) (o2 _ (by show h + k ≠ h; omega))
  have hz := z2.trans hz
  have hO := g2
  refine lv_aload_n hx hb dX6_init_131 rfl (lv_at hl 0 rfl) ?_
  have hO : va_at D vwCl (h, mdE G h 0) H1 := hO
  refine va_get (D := D) (ci := 6) (v := .ref (h + 2)) (C := RX6) (T := TX6) (N := 26) hx hb hts inX6 hown hK (x_P1 hO) 0 rfl rfl 2 (by decide) (hts _ wl_3_136) (fun _ h9 => h9) rfl dX6_init_132 ?_
  have hP : va_P D vwCl (WM G (fun i => h + i) dM1) H1 := zw_P fun k hk => by
    rcases Nat.eq_zero_or_pos k with h0 | h0
    · subst h0; exact hO
    · exact hE k h0 hk
  refine z_kv (w := WM G (fun i => h + i)) (d' := dM0) (A := XA h) (z_rS (w := WM G (fun i => h + i)) (d := dM1) (As := [.ref (h + 2)]) (rest := []) ⟨hx, hb, hml, hown, hts⟩ hK hP (kX6_clear (ad := fun i => h + i) (A := XA h) (ya0 := 2) (zw_DM h) rfl dM0_e) giX6_60 ⟨rfl, rfl⟩ ndX6_clear ⟨(Nat.le_of_ble_eq_true rfl), (Nat.le_of_ble_eq_true rfl)⟩ rfl hl.1 rfl (Nat.le_of_ble_eq_true rfl) ⟨(Nat.le_of_ble_eq_true rfl), (Nat.le_of_ble_eq_true rfl)⟩ dX6_init_135) hS (fun H2 locs2 hP hS => ?_)
  exact W.vret hx hb hr (fun t ht hW => ⟨⟨(), rfl, trivial, by rw [ht]; exact hP, va_K.moved hW.alike hK⟩, hS.F ht⟩) hS.2.2 dX6_init_138
