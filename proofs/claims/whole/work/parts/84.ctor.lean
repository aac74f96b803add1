/-! CONSTRUCTORS: the heap grows at its end, cell by cell; addresses are exact -/
/-- the words that a call needs beside wsG: private constructors of nest mates, arrays of objects -/
def XN (U : State) : Prop := va_Nw (.methodLinkNest RX3 11 yX0_init RX5) U ∧ va_Nw (.methodLinkNest RX3 24 yX2_init RX5) U ∧ va_Nw (.methodLinkNest RX5 32 yX1_init RX5) U ∧ va_Nw (.methodLinkNest RX5 39 yX4_init RX5) U ∧ va_AO "PathStream$Path" U ∧ va_AO "PathStream$State" U
theorem xn_warm {s U : State} (hW : s.WarmedH U.vm) (h : XN s) : XN U := ⟨va_Nw.warmM hW h.1, va_Nw.warmM hW h.2.1, va_Nw.warmM hW h.2.2.1, va_Nw.warmM hW h.2.2.2.1, va_AO.moved hW.alike h.2.2.2.2.1, va_AO.moved hW.alike h.2.2.2.2.2⟩
theorem xn_same {u U : State} (e : u.vm = U.vm) (h : XN u) : XN U := ⟨va_Nw.same rfl e h.1, va_Nw.same rfl e h.2.1, va_Nw.same rfl e h.2.2.1, va_Nw.same rfl e h.2.2.2.1, va_AO.moved (by rw [e]; exact Vm.Alike.refl _) h.2.2.2.2.1, va_AO.moved (by rw [e]; exact Vm.Alike.refl _) h.2.2.2.2.2⟩
/-- a constructor's start: its object is the last cell -/
def XB (D : va_G) (G : z_G) (h ci : Nat) (fs : List Value) (U : State) : Prop := U.heap.size = h + 1 ∧ va_at D vwCl (h, .inr (ci, fs)) U.heap ∧ va_K D vwCl (z_tys G) U ∧ XN U
/-- its end: n cells from its object on -/
def XE (D : va_G) (h n : Nat) (E : Nat → va_E) (t : State) : Prop := t.heap.size = h + n ∧ ∀ k, k < n → va_at D vwCl (h + k, E k) t.heap
abbrev XA (h : Nat) : Nat → Prop := fun q => h ≤ q
def XM (l : Launch) (D : va_G) (G : z_G) (y : MethodName) (b : ByteArray) (L : Nat) (rm : Room) (h ci : Nat) (fs : List Value) (n ms : Nat) (E : Nat → va_E) : Prop :=
  Met l y (.code y b L none :: wsG) rm (va_Pc [.ref h] (XB D G h ci fs)) (va_Qv (fun (_ : Unit) => True) (fun _ => XE D h n E) (XA h)) (n - 1) ms (XA h)
theorem x_of {l : Launch} {D : va_G} {G : z_G} {y : MethodName} {b : ByteArray} {L : Nat} {rm : Room} {h ci : Nat} {fs : List Value} {n ms : Nat} {E : Nat → va_E} (hy : plainName y.cls = true) (hn : 1 ≤ L) (hyn : y.name = "<init>")
    (body : ∀ (p : Program) (e : Env) (s : State) (m : MethodId) (below : List Frame) (meth : Method) (c : Code), p.tables.exec = Jvm.exec → c.code = b → meth.sig.returnType = none → c.maxLocals = L → s.vm.findClass y.cls = some m.cls → meth.locks = false → meth.name = "<init>" → (∀ w ∈ wsG, w.before #[Value.ref h] s = true) → XB D G h ci fs s → ∀ ls : Array Slot, lv_has ls L [(0, .ref h)] → W p l e rm s m #[Value.ref h] below meth c s.heap [] 0 0 (MQ below (va_Qv (fun (_ : Unit) => True) (fun _ => XE D h n E) (XA h)) #[Value.ref h] s (n - 1) ms (XA h)) (F0 m 0 ls [])) : XM l D G y b L rm h ci fs n ms E := by
  refine Met.ofW (cc := b) (maxL := L) (ret := none) hy rfl ?_
  intro p e s m args below meth c s₁ B hml hv
  obtain ⟨rfl, hX⟩ := hv
  have hts0 := atoms_spec (ws := .code y b L none :: wsG) B.pre
  rw [lg_entry_eq]
  refine body p e s m below meth c B.exec B.bytes B.returns hml (findClass_of_methodNamed B.named) B.notSynchronized ?_ (fun w h => hts0 w (List.mem_cons_of_mem _ h)) hX _ (lv_entry [.ref h] hn)
  rw [← hyn]; exact (name_of_methodNamed B.named B.method).1
section XR
variable {p : Program} {l : Launch} {e : Env} {R : Room} {s : State} {m : MethodId} {args : Array Value} {below : List Frame} {meth : Method} {c : Code} {H : Heap} {locs : List Loc} {cells slots : Nat} {Q : State → Prop}
variable {cc : ByteArray} {pc : Nat} {ls : Array Slot} {rest : List Value} {D : va_G} {G : z_G} {A : Nat → Prop} {H0 : Heap} {own : String} {index : Nat}
theorem xs_grow {H1 : Heap} {h : Nat} (hS : va_S A H0 H locs) (hh : H.size = h) (z : H1.size = h + 1) (o : ∀ q, q < h → H1[q]? = H[q]?) : va_S A H0 H1 locs := by
  refine ⟨Nat.le_trans hS.1 (by omega), fun q h1 h2 => ?_, hS.2.2⟩
  have := hS.1
  rw [o q (by omega)]; exact hS.2.1 q h1 h2
theorem x_P1 {q : Nat × va_E} (h : va_at D vwCl q H) : va_P D vwCl [q] H := by
  intro k x hx
  have hz : k < 1 := (List.getElem?_eq_some_iff.mp hx).1
  rw [show k = 0 by omega] at hx
  cases hx
  exact h
/-- a new array of numbers, the next cell -/
theorem r_newa (hx : p.tables.exec = Jvm.exec) (hb : c.code = cc) {atype : ArrayType} {ty : FieldType} (hty : newarray.typeOf atype = ty) (harr : (Cond.arrayClass ty).before args s = true) {cA : ClassId} (hcA : s.vm.findClass ("[" ++ ty.toString) = some cA) (hdf : defaultValue ty = .int 0) {n : Int32} {N h : Nat} (hn : ¬ n < 0) (hN : n.toNatClampNeg = N) (hbytes : N * componentBytes ty ≤ 536870912) (hcells : cells + 1 ≤ R.cells) (hslots : slots + N ≤ R.slots) (hh : H.size = h) (hS : va_S A H0 H locs) (hdg : decode cc pc = .ok (.newarray atype, 2))
    (kk : ∀ H1 : Heap, H1.size = h + 1 → va_at D vwCl (h, .inl (cA, N, .inl (fun _ => 0))) H1 → (∀ q, q < h → H1[q]? = H[q]?) → va_S A H0 H1 locs → W p l e R s m args below meth c H1 locs (cells + 1) (slots + N) Q (F0 m (pc + 2) ls (.ref h :: rest))) : W p l e R s m args below meth c H locs cells slots Q (F0 m pc ls (.int n :: rest)) := by
  subst hty
  refine va_newaK hx hb harr rfl hdg rfl hn hN hbytes hcells hslots hh fun H1 cB e1 z1 o1 _ hNm => ?_
  have hc : cB = cA := Option.some.inj (hNm.symm.trans hcA)
  subst hc
  refine kk H1 z1 ?_ o1 (xs_grow hS hh z1 o1)
  rw [hdf] at e1
  exact e1
/-- a new array of objects, the next cell -/
theorem r_anew (hx : p.tables.exec = Jvm.exec) (hb : c.code = cc) {C : String} (hown : s.vm.findClass own = some m.cls) (hcl : (Cond.classLink own index C).before args s = true) (hover : va_AO C s) {cA : ClassId} (hcA : s.vm.findClass ("[" ++ (FieldType.object C).toString) = some cA) {n : Int32} {N h : Nat} (hn : ¬ n < 0) (hN : n.toNatClampNeg = N) (hbytes : N * 4 ≤ 536870912) (hcells : cells + 1 ≤ R.cells) (hslots : slots + N ≤ R.slots) (hh : H.size = h) (hS : va_S A H0 H locs) (hdg : decode cc pc = .ok (.anewarray index, 3))
    (kk : ∀ H1 : Heap, H1.size = h + 1 → va_at D vwCl (h, .inl (cA, N, .inr (.inr (.inr (.inr (fun _ => none)))))) H1 → (∀ q, q < h → H1[q]? = H[q]?) → va_S A H0 H1 locs → W p l e R s m args below meth c H1 locs (cells + 1) (slots + N) Q (F0 m (pc + 3) ls (.ref h :: rest))) : W p l e R s m args below meth c H locs cells slots Q (F0 m pc ls (.int n :: rest)) := by
  subst hN; subst hh
  refine W.anew hx hb hown hcl (va_AO.use hover) rfl hdg rfl hn hbytes hcells hslots fun cB kA comp f1 _ _ _ => ?_
  have hc : cB = cA := Option.some.inj (f1.symm.trans hcA)
  subst hc
  have z : (H.push ({ cls := cB, slots := Array.replicate n.toNatClampNeg .null, vm := .none } : Cell)).size = H.size + 1 := Array.size_push _
  have o : ∀ q : Nat, q < H.size → (H.push ({ cls := cB, slots := Array.replicate n.toNatClampNeg .null, vm := .none } : Cell))[q]? = H[q]? := fun q hq => by rw [Array.getElem?_push, if_neg (Nat.ne_of_lt hq)]
  refine kk _ z ?_ o (xs_grow hS rfl z o)
  show _ = some (vp_cell _ _)
  rw [Array.getElem?_push_size, vp_cell_q, arrV_new]; rfl
/-- a new object, the next cell -/
theorem r_new (hx : p.tables.exec = Jvm.exec) (hb : c.code = cc) {C : String} {T : u_T} {N ci : Nat} (hts : ∀ w ∈ wsG, w.before args s = true) (hin : ∀ w ∈ u_ws C T N, w ∈ wsG) (ty : Nat → FieldType) (hty : ∀ k, k < N → parseFieldDescriptor (T k).2.2.1 = some (ty k)) (hown : s.vm.findClass own = some m.cls) (hcl : (Cond.classLink own index C).before args s = true) (hinst : (Cond.instantiable C N).before args s = true) (hini : (Cond.initialized C).before args s = true) (hK : va_K D vwCl (z_tys G) s) (hc : vwCl[ci]? = some (C, T, N)) {fs : List Value} (hfs : ∀ j, j < N → defaultValue (ty j) = vp_V fs j) {h : Nat} (hcells : cells + 1 ≤ R.cells) (hslots : slots + N ≤ R.slots) (hh : H.size = h) (hS : va_S A H0 H locs) (hdg : decode cc pc = .ok (.new index, 3))
    (kk : ∀ H1 : Heap, H1.size = h + 1 → va_at D vwCl (h, .inr (ci, fs)) H1 → (∀ q, q < h → H1[q]? = H[q]?) → va_S A H0 H1 locs → W p l e R s m args below meth c H1 locs (cells + 1) (slots + N) Q (F0 m (pc + 3) ls (.ref h :: rest))) : W p l e R s m args below meth c H locs cells slots Q (F0 m pc ls rest) := by
  have hKn := hK.1 ci _ hc
  refine W.newcK hx hb hown hcl hinst hini rfl hdg hcells hslots hKn.2.1 hh fun H1 kC hkC e1 z1 o1 => ?_
  exact kk H1 z1 ⟨_, hc, (u_born ty hts hin hKn hkC e1 hty).to hfs⟩ o1 (xs_grow hS hh z1 o1)
/-- a final field is set -/
theorem r_putF (hx : p.tables.exec = Jvm.exec) (hb : c.code = cc) {C : String} {T : u_T} {N ci a : Nat} {fs : List Value} (hts : ∀ w ∈ wsG, w.before args s = true) (hin : ∀ w ∈ u_ws C T N, w ∈ wsG) (ty : Nat → FieldType) (hty : ∀ k, k < N → parseFieldDescriptor (T k).2.2.1 = some (ty k)) (hnm : ∀ a, a < N → ∀ b, b < N → a ≠ b → (T a).2.1 ≠ (T b).2.1) (hown : s.vm.findClass C = some m.cls) (hK : va_K D vwCl (z_tys G) s) (hc : vwCl[ci]? = some (C, T, N)) (hP : va_at D vwCl (a, .inr (ci, fs)) H) (hS : va_S A H0 H locs) (hA : A a) (k : Nat) (hk : k < N) (hlink : (Cond.fieldLink C index C (T k).2.1 (T k).2.2.1).before args s = true) (hfin : (T k).2.2.2 = true) (hin2 : meth.name = "<init>") (hdecl : (T k).1 = C) {v : Value} (hn : narrow (ty k) v = v) (hfit : fits (ty k) v = true) (hl : k < fs.length) (hdg : decode cc pc = .ok (.putfield index, 3))
    (kk : ∀ (H1 : Heap) (locs1 : List Loc), H1.size = H.size → va_at D vwCl (a, .inr (ci, fs.set k v)) H1 → (∀ q, q ≠ a → H1[q]? = H[q]?) → va_S A H0 H1 locs1 → W p l e R s m args below meth c H1 locs1 cells slots Q (F0 m (pc + 3) ls rest)) : W p l e R s m args below meth c H locs cells slots Q (F0 m pc ls (v :: .ref a :: rest)) := by
  obtain ⟨r, h1, cell, q1, q2, q3, q4⟩ := hP
  have hr : r = (C, T, N) := Option.some.inj (h1.symm.trans hc)
  subst hr
  obtain ⟨hSl, hfc, kC, hkC, hkind⟩ := hK.1 ci _ hc
  obtain ⟨cf, kf, fi, f, hi, hsl⟩ := hSl k hk
  have hap := va_apart (own := C) hts hin ty hty hnm hK hc
  have hlays : (Cond.lays C (T k).1 (T k).2.1 (T k).2.2.1).before args s = true ∨ (Cond.laysFinal C (T k).1 (T k).2.1 (T k).2.2.1).before args s = true := u_lays hts hin hk
  have hst := (u_facts hfc hkC hlays hi).1
  have h6 := u_fits hfc hkC hkind hlays hi (hty k hk) hn hfit
  have hlay := hts _ (hin _ (u_in_lay hk))
  unfold u_lay at hlay
  rw [if_pos hfin] at hlay
  have hcf : m.cls = cf := by
    obtain ⟨_, _, c', _, _, _, -, -, hf', -, -, -, hown2, -⟩ := Cond.laysFinal_spec hlay
    rw [hdecl] at hown2
    have e2 := hi.symm.trans hf'
    have e3 : c' = cf := by simp at e2; exact e2.1.symm
    rw [← e3]; exact Option.some.inj (hown.symm.trans hown2)
  refine W.putFinK hx hb hown hlink (by rw [hdecl] at hi; exact hi) hst hcf hin2 (by rw [q2]; exact h6) q1 q3 (by rw [hsl]; exact k2_hasslot (q4 k hk)) rfl rfl hdg fun H1 e1 e2 e3 => ?_
  rw [hsl] at e1 ⊢
  exact kk H1 _ e2 ⟨_, hc, t_OB.to (V := updV (vp_V fs) k v) ⟨_, e1, q2, q3, t_set q4 hap hk v⟩ (fun j _ => vp_updV_set hl v j)⟩ e3 (hS.put e2 e3 hA)
/-- a field that is not final is set -/
theorem r_put (hx : p.tables.exec = Jvm.exec) (hb : c.code = cc) {C : String} {T : u_T} {N ci a : Nat} {fs : List Value} (hts : ∀ w ∈ wsG, w.before args s = true) (hin : ∀ w ∈ u_ws C T N, w ∈ wsG) (ty : Nat → FieldType) (hty : ∀ k, k < N → parseFieldDescriptor (T k).2.2.1 = some (ty k)) (hnm : ∀ a, a < N → ∀ b, b < N → a ≠ b → (T a).2.1 ≠ (T b).2.1) (hown : s.vm.findClass C = some m.cls) (hK : va_K D vwCl (z_tys G) s) (hc : vwCl[ci]? = some (C, T, N)) (hP : va_at D vwCl (a, .inr (ci, fs)) H) (hS : va_S A H0 H locs) (hA : A a) (k : Nat) (hk : k < N) (hlink : (Cond.fieldLink C index C (T k).2.1 (T k).2.2.1).before args s = true) (hfin : (T k).2.2.2 = false) (hdecl : (T k).1 = C) {v : Value} (hn : narrow (ty k) v = v) (hfit : fits (ty k) v = true) (hl : k < fs.length) (hdg : decode cc pc = .ok (.putfield index, 3))
    (kk : ∀ (H1 : Heap) (locs1 : List Loc), H1.size = H.size → va_at D vwCl (a, .inr (ci, fs.set k v)) H1 → (∀ q, q ≠ a → H1[q]? = H[q]?) → va_S A H0 H1 locs1 → W p l e R s m args below meth c H1 locs1 cells slots Q (F0 m (pc + 3) ls rest)) : W p l e R s m args below meth c H locs cells slots Q (F0 m pc ls (v :: .ref a :: rest)) := by
  obtain ⟨r, h1, cell, q1, q2, q3, q4⟩ := hP
  have hr : r = (C, T, N) := Option.some.inj (h1.symm.trans hc)
  subst hr
  obtain ⟨hSl, hfc, kC, hkC, hkind⟩ := hK.1 ci _ hc
  obtain ⟨cf, kf, fi, f, hi, hsl⟩ := hSl k hk
  have hap := va_apart (own := C) hts hin ty hty hnm hK hc
  have hst := (u_facts hfc hkC (u_lays hts hin hk) hi).1
  have hlay := hts _ (hin _ (u_in_lay hk))
  unfold u_lay at hlay
  rw [if_neg (by rw [hfin]; decide)] at hlay
  have h6 := u_store hfc hkC hkind hlay hi (hty k hk) hn hfit
  refine W.putK hx hb (f := f) ⟨hown, hlink, ⟨_, _, _, by rw [hdecl] at hi; exact hi⟩, hst⟩ (by rw [q2]; exact h6) q1 q3 (by rw [hsl]; exact k2_hasslot (q4 k hk)) rfl rfl hdg fun H1 e1 e2 e3 => ?_
  rw [hsl] at e1 ⊢
  exact kk H1 _ e2 ⟨_, hc, t_OB.to (V := updV (vp_V fs) k v) ⟨_, e1, q2, q3, t_set q4 hap hk v⟩ (fun j _ => vp_updV_set hl v j)⟩ e3 (hS.put e2 e3 hA)
/-- an object is put into an array of objects -/
theorem r_ast (hx : p.tables.exec = Jvm.exec) (hb : c.code = cc) (hK : va_K D vwCl (z_tys G) s) {a t0 ci v n : Nat} {cA : ClassId} {C : String} {T : u_T} {N : Nat} {vs : List Value} {f : Nat → Option Nat} (ha : va_at D vwCl (a, .inl (cA, n, .inr (.inr (.inr (.inr f))))) H) (ht : (z_tys G)[t0]? = some (cA, .object C)) (hv : va_at D vwCl (v, .inr (ci, vs)) H) (hc : vwCl[ci]? = some (C, T, N)) (hS : va_S A H0 H locs) (hA : A a) {i : Nat} (hi : i < n) (hn : n < 2 ^ 31) (hdg : decode cc pc = .ok (.aastore, 1))
    (kk : ∀ (H1 : Heap) (locs1 : List Loc), H1.size = H.size → va_at D vwCl (a, .inl (cA, n, .inr (.inr (.inr (.inr (va_up f i (some v))))))) H1 → (∀ q, q ≠ a → H1[q]? = H[q]?) → va_S A H0 H1 locs1 → W p l e R s m args below meth c H1 locs1 cells slots Q (F0 m (pc + 1) ls rest)) : W p l e R s m args below meth c H locs cells slots Q (F0 m pc ls (.ref v :: .int (nI i) :: .ref a :: rest)) := by
  have hin : vp_in (nI i) n := vp_in_nI hi hn
  have hix : (nI i).toNatClampNeg = i := nI_clamp (by omega)
  obtain ⟨r', hr', cellV, g1, g2, g3, -⟩ := hv
  have hcls := (hK.1 ci _ hc).2
  obtain ⟨kA, comp, k1, k2, k3, -⟩ := (hK.2 t0 _ ht).2
  have hcomp : comp = D.1 ci := Option.some.inj (k3.symm.trans hcls.1)
  subst hcomp
  obtain ⟨kC, hkC, -⟩ := id hcls.2
  have ha : H[a]? = some (vp_cell cA (n, .inr (.inr (.inr (.inr f))))) := ha
  refine W.aast hx hb ha (fun q h => by cases h) (fun h => by cases h) k1 k2 rfl hkC ⟨fun q => hin (Or.inl q), by show _ < (arrV _ _ _).slots.size; rw [arrV_size, hix]; exact hi⟩ g1 (fun q h => by rw [g3] at h; cases h) (by rw [g2]; exact hkC) (by rw [g2]; exact va_assign hcls) rfl rfl hdg fun H1 e1 z oq => ?_
  refine kk H1 _ z ?_ oq (hS.put z oq hA)
  show H1[a]? = some (vp_cell _ _)
  rw [e1, hix, vp_cell_q, vp_cell_q, arrV_store]
  congr 2
  funext q
  by_cases hq : q = i
  · subst hq; simp [updV, va_up, va_rf]
  · simp [updV, va_up, hq]
/-- a constructor of a nest mate, or another, on the last cell -/
theorem x_fb {h ci : Nat} {fs : List Value} : FrameBlind (va_Pc [.ref h] (XB D G h ci fs)) := fun a U g mk q => ⟨q.1, q.2.1, q.2.2.1, va_K.moved (u := U) (U := U.calling g mk a) (Vm.Alike.refl U.vm) q.2.2.2.1, xn_same rfl q.2.2.2.2⟩
theorem x_pS {h ci : Nat} {fs : List Value} (hz : H.size = h + 1) (hP : va_at D vwCl (h, .inr (ci, fs)) H) (hK : va_K D vwCl (z_tys G) s) (hN : XN s) : PreS s H (va_Pc [.ref h] (XB D G h ci fs)) [.ref h] := ⟨x_fb, fun U hU hW => ⟨rfl, by rw [hU]; exact hz, by rw [hU]; exact hP, va_K.moved hW.alike hK, xn_warm hW hN⟩⟩
theorem x_after {h n ms B : Nat} {E : Nat → va_E} {a : Array Value} {st0 : List Value} (hr : va_Run p l e R s m args below meth c H locs cells slots (n - 1) ms (F0 m pc ls st0) rest (va_Qv (fun (_ : Unit) => True) (fun _ => XE D h n E) (XA h) a) (XA h)) (hS : va_S (XA B) H0 H locs) (hB : B ≤ h) (hz : H.size = h + 1)
    (kk : ∀ (H1 : Heap) (locs1 : List Loc), H1.size = h + n → (∀ k, k < n → va_at D vwCl (h + k, E k) H1) → (∀ q, q < h → H1[q]? = H[q]?) → va_S (XA B) H0 H1 locs1 → W p l e R s m args below meth c H1 locs1 (cells + (n - 1)) (slots + ms) Q (F0 m (pc + 3) ls rest)) : W p l e R s m args below meth c H locs cells slots Q (F0 m pc ls st0) :=
  va_callv hr hS (fun _ _ q => Nat.le_trans hB q) (fun _ q => Nat.le_trans hB q) (fun u t H1 locs1 ht hvm hw hX hz1 hk hS1 => kk H1 locs1 (by rw [← ht]; exact hX.1) (fun k hk => by rw [← ht]; exact hX.2 k hk) (fun q hq => hk q (by omega) (fun z => by
    have z : h ≤ q := z
    omega)) hS1)
/-- Object's own constructor -/
theorem r_obj {nL idx a : Nat} (hx : p.tables.exec = Jvm.exec) (hb : c.code = cc) (hml : c.maxLocals = nL) (hsz : ls.size = nL) (hown : s.vm.findClass own = some m.cls) (hts : ∀ w ∈ wsG, w.before args s = true) (hlk : Cond.methodLink own idx objectInit ∈ wsG) (hdg : decode cc pc = .ok (.invokespecial idx, 3)) (hf : 1 ≤ R.frames) (hlo : 12 ≤ R.locals) (kk : W p l e R s m args below meth c H locs cells slots Q (F0 m (pc + 3) ls [])) : W p l e R s m args below meth c H locs cells slots Q (F0 m pc ls [.ref a]) := by
  refine W.objInit hx hb hown (hts _ hlk) (hts _ wl_1_17) (hts _ wl_1_18) rfl (by rw [hml]; exact hsz) rfl hdg hf hlo ?_
  exact W.eq (g2 := F0 m (pc + 3) ls []) rfl kk
end XR
