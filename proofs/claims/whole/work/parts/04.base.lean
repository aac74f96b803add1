theorem gd_T {own : String} {i : Nat} {y : MethodName} {b : ByteArray} {n : Nat} {r : Option FieldType} (h1 : Cond.methodLink own i y ∈ wsG) (h2 : Cond.static y ∈ wsG) (h4 : Cond.initialized y.cls ∈ wsG) (h5 : Cond.code y b n r ∈ wsG) : GoodIn wsG (va_wsS own i y (.code y b n r :: wsG)) := by
  intro w hw
  rcases List.mem_append.mp hw with h | h
  · have hm : w ∈ wsG := by
      rcases List.mem_cons.mp h with h | h
      · rw [h]; exact h1
      rcases List.mem_cons.mp h with h | h
      · rw [h]; exact h2
      rcases List.mem_cons.mp h with h | h
      · rw [h]; exact h4
      cases h
    exact ⟨hm, wsG_good _ hm⟩
  · exact gd_ws h5 w h
/-! THE DATA MEMORY: what the cells hold, by the cell's number and the place in it; one long beside it -/
abbrev Dt : Type := (Nat → Nat → Int32) × Int64
abbrev z_ix (i : Int32) : Nat := i.toNatClampNeg
def z_sg (d : Dt) (k : Nat) (g : Nat → Int32) : Dt := (fun a => if a = k then g else d.1 a, d.2)
def z_st (d : Dt) (k j : Nat) (v : Int32) : Dt := z_sg d k (upd (d.1 k) j v)
def z_sl (d : Dt) (v : Int64) : Dt := (d.1, v)
def z_cp (d : Dt) (k0 sp k1 dp n : Nat) : Dt := z_sg d k1 (va_cpy (d.1 k0) (d.1 k1) sp dp n)
noncomputable def z_dc (c : Prop) : Bool := @decide c (Classical.propDecidable c)
theorem z_dc_t {c : Prop} (h : c) : z_dc c = true := @decide_eq_true c (Classical.propDecidable c) h
theorem z_dc_v {c : Prop} (h : z_dc c = true) : c := @of_decide_eq_true c (Classical.propDecidable c) h
noncomputable def z_in (i : Int32) (n : Nat) : Bool := z_dc (vp_in i n)
noncomputable def zif {α : Type} (c : Prop) (a b : α) : α := @ite α c (Classical.propDecidable c) a b
theorem zif_p {α : Type} {c : Prop} {a b : α} (h : c) : zif c a b = a := @if_pos c (Classical.propDecidable c) h α a b
theorem zif_n {α : Type} {c : Prop} {a b : α} (h : ¬ c) : zif c a b = b := @if_neg c (Classical.propDecidable c) h α a b
def z_gd {α : Type} (b : Bool) (x : Option α) : Option α := match b with
  | true => x
  | false => none
def z_br {α β : Type} (o : Option α) (k : α → Option β) : Option β := match o with
  | none => none
  | some a => k a
def z_bd {α β : Type} (o : Option (α × Dt)) (k : α → Dt → Option β) : Option β := match o with
  | none => none
  | some q => k q.1 q.2
def z_nm {α β : Type} (e : α) (k : α → β) : β := k e
theorem z_gdx {α : Type} {b : Bool} {x : Option α} {r : α} (h : z_gd b x = some r) : b = true ∧ x = some r := by
  cases b with
  | true => exact ⟨rfl, h⟩
  | false => cases h
theorem z_gi {α : Type} {i : Int32} {n : Nat} {x : Option α} {r : α} (h : z_gd (z_in i n) x = some r) : vp_in i n ∧ x = some r := ⟨z_dc_v (z_gdx h).1, (z_gdx h).2⟩
theorem z_gp {α : Type} {c : Prop} {x : Option α} {r : α} (h : z_gd (z_dc c) x = some r) : c ∧ x = some r := ⟨z_dc_v (z_gdx h).1, (z_gdx h).2⟩
theorem z_brx {α β : Type} {o : Option α} {k : α → Option β} {r : β} (h : z_br o k = some r) : ∃ a, o = some a ∧ k a = some r := by
  cases o with
  | none => cases h
  | some a => exact ⟨a, rfl, h⟩
theorem z_bdx {α β : Type} {o : Option (α × Dt)} {k : α → Dt → Option β} {r : β} (h : z_bd o k = some r) : ∃ a d, o = some (a, d) ∧ k a d = some r := by
  cases o with
  | none => cases h
  | some q => exact ⟨q.1, q.2, rfl, h⟩
theorem z_nmx {α β : Type} {e : α} {k : α → Option β} {r : β} (h : z_nm e k = some r) : ∃ v, v = e ∧ k v = some r := ⟨e, rfl, h⟩
theorem z_nma {α β : Type} {e v : α} {k : α → Option β} {r : β} (ev : v = e) (h : z_nm e k = some r) : k v = some r := by
  subst ev; exact h
theorem z_ifp {c : Prop} {α : Type} {a b r : α} (hc : c) (h : zif c a b = r) : a = r := (zif_p hc).symm.trans h
theorem z_ifn {c : Prop} {α : Type} {a b r : α} (hc : ¬ c) (h : zif c a b = r) : b = r := (zif_n hc).symm.trans h
theorem z_sm {α : Type} {a b : α} (h : some a = some b) : a = b := Option.some.inj h
/-! loops -/
def z_it {σ τ : Type} (f : σ → Option (σ ⊕ τ)) : Nat → σ → Option τ
  | 0, _ => none
  | n + 1, s => match f s with
    | none => none
    | some (.inl s') => z_it f n s'
    | some (.inr t) => some t
noncomputable def z_lp {σ τ : Type} (f : σ → Option (σ ⊕ τ)) (s : σ) : Option τ :=
  @dite _ (∃ t n, z_it f n s = some t) (Classical.propDecidable _) (fun h => some h.choose) (fun _ => none)
theorem z_it_det {σ τ : Type} {f : σ → Option (σ ⊕ τ)} : ∀ (n k : Nat) (s : σ) (t t' : τ), z_it f n s = some t → z_it f k s = some t' → t = t' := by
  intro n
  induction n with
  | zero => intro k s t t' h; cases h
  | succ n ih =>
    intro k s t t' h h'
    cases k with
    | zero => cases h'
    | succ k =>
      unfold z_it at h h'
      cases hf : f s with
      | none => rw [hf] at h; cases h
      | some q =>
        rw [hf] at h h'
        cases q with
        | inl s' => exact ih k s' t t' h h'
        | inr x => exact (Option.some.inj h).symm.trans (Option.some.inj h')
theorem z_lpx {σ τ : Type} {f : σ → Option (σ ⊕ τ)} {s : σ} {t : τ} (h : z_lp f s = some t) : ∃ n, z_it f n s = some t := by
  by_cases hc : ∃ t n, z_it f n s = some t
  · unfold z_lp at h
    rw [dif_pos hc] at h
    have h1 := hc.choose_spec
    rw [Option.some.inj h] at h1
    exact h1
  · unfold z_lp at h
    rw [dif_neg hc] at h
    cases h
theorem z_lp_of {σ τ : Type} {f : σ → Option (σ ⊕ τ)} {s : σ} {t : τ} {n : Nat} (h : z_it f n s = some t) : z_lp f s = some t := by
  have hc : ∃ t n, z_it f n s = some t := ⟨t, n, h⟩
  unfold z_lp
  rw [dif_pos hc]
  obtain ⟨k, h1⟩ := hc.choose_spec
  rw [z_it_det _ _ _ _ _ h1 h]
theorem z_lp_eq {σ τ : Type} (f : σ → Option (σ ⊕ τ)) (s : σ) : z_lp f s = match f s with
    | none => none
    | some (.inl s') => z_lp f s'
    | some (.inr t) => some t := by
  cases hf : f s with
  | none =>
    by_cases hc : ∃ t n, z_it f n s = some t
    · obtain ⟨t, n, h⟩ := hc
      cases n with
      | zero => cases h
      | succ n => unfold z_it at h; rw [hf] at h; cases h
    · unfold z_lp
      rw [dif_neg hc]
  | some q =>
    cases q with
    | inl s' =>
      show z_lp f s = z_lp f s'
      cases h' : z_lp f s' with
      | some t =>
        obtain ⟨n, h1⟩ := z_lpx h'
        exact z_lp_of (n := n + 1) (by unfold z_it; rw [hf]; exact h1)
      | none =>
        by_cases hc : ∃ t n, z_it f n s = some t
        · obtain ⟨t, n, h⟩ := hc
          cases n with
          | zero => cases h
          | succ n =>
            unfold z_it at h; rw [hf] at h
            rw [z_lp_of h] at h'; cases h'
        · unfold z_lp
          rw [dif_neg hc]
    | inr t => exact z_lp_of (n := 1) (by unfold z_it; rw [hf])
theorem z_itx {σ τ : Type} {f : σ → Option (σ ⊕ τ)} {n : Nat} {s : σ} {t : τ} (h : z_it f (n + 1) s = some t) : ∃ q, f s = some q ∧ (∀ s', q = .inl s' → z_it f n s' = some t) ∧ (∀ t', q = .inr t' → t' = t) := by
  unfold z_it at h
  cases hf : f s with
  | none => rw [hf] at h; cases h
  | some q =>
    rw [hf] at h
    refine ⟨q, rfl, fun s' e => ?_, fun t' e => ?_⟩
    · subst e; exact h
    · subst e; exact Option.some.inj h
theorem z_it0 {σ τ : Type} {f : σ → Option (σ ⊕ τ)} {s : σ} {t : τ} {P : Prop} (h : z_it f 0 s = some t) : P := by cases h
/-! worlds -/
def z_w (sh : Nat → (Nat → Int32) → Int64 → va_E) (N : Nat) (ad : Nat → Nat) (d : Dt) : va_W := (List.range N).map (fun k => (ad k, sh k (d.1 k) d.2))
theorem z_w_get {sh : Nat → (Nat → Int32) → Int64 → va_E} {N : Nat} {ad : Nat → Nat} {d : Dt} {k : Nat} (hk : k < N) : (z_w sh N ad d)[k]? = some (ad k, sh k (d.1 k) d.2) := by
  simp [z_w, hk]
theorem z_w_set {sh : Nat → (Nat → Int32) → Int64 → va_E} {N : Nat} {ad : Nat → Nat} {d : Dt} {k : Nat} (hk : k < N) (g : Nat → Int32) : (z_w sh N ad d).set k (ad k, sh k g d.2) = z_w sh N ad (z_sg d k g) := by
  apply List.ext_getElem?
  intro i
  by_cases hi : i = k
  · subst hi
    rw [List.getElem?_set_self (by simp [z_w, hk]), z_w_get hk]
    simp [z_sg]
  · rw [List.getElem?_set_ne (Ne.symm hi)]
    by_cases hN : i < N
    · rw [z_w_get hN, z_w_get hN]
      simp [z_sg, hi]
    · simp [z_w, hN]
theorem z_w_setl {sh : Nat → (Nat → Int32) → Int64 → va_E} {N : Nat} {ad : Nat → Nat} {d : Dt} (x : Int64) (hN : 0 < N) (hx : ∀ k, 0 < k → ∀ g a b, sh k g a = sh k g b) : (z_w sh N ad d).set 0 (ad 0, sh 0 (d.1 0) x) = z_w sh N ad (z_sl d x) := by
  apply List.ext_getElem?
  intro i
  by_cases hi : i = 0
  · subst hi
    rw [List.getElem?_set_self (by simp [z_w, hN]), z_w_get hN]
    simp [z_sl]
  · rw [List.getElem?_set_ne (Ne.symm hi)]
    by_cases hN : i < N
    · rw [z_w_get hN, z_w_get hN]
      simp only [z_sl]
      rw [hx i (by omega) _ d.2 x]
    · simp [z_w, hN]
/-- the classes of the arrays: int, boolean, char, Path, State -/
abbrev z_G : Type := ClassId × ClassId × ClassId × ClassId × ClassId
abbrev z_tys (G : z_G) : List (ClassId × FieldType) := [(G.1, .int), (G.2.1, .boolean), (G.2.2.1, .char), (G.2.2.2.1, .object "PathStream$Path"), (G.2.2.2.2, .object "PathStream$State")]
def z_Wd (D : va_G) (G : z_G) (ws : va_W) (U : State) : Prop := va_P D vwCl ws U.heap ∧ va_K D vwCl (z_tys G) U
abbrev z_rm (f n : Nat) : Room := { frames := f, cells := 0, slots := 0, locals := n }
/-- contracts: an int (a boolean is 0 or 1), a long, nothing -/
def z_Mi (l : Launch) (D : va_G) (G : z_G) (A : Nat → Prop) (w : Dt → va_W) (y : MethodName) (b : ByteArray) (n : Nat) (rm : Room) (d : Dt) (av : List Value) (r : Int32) (d' : Dt) : Prop :=
  Met l y (.code y b n (some .int) :: wsG) rm (va_Pc av (z_Wd D G (w d))) (va_Qi (fun r0 (_ : Unit) => r0 = r) (fun _ => z_Wd D G (w d')) A) 0 0 A
def z_Mz (l : Launch) (D : va_G) (G : z_G) (A : Nat → Prop) (w : Dt → va_W) (y : MethodName) (b : ByteArray) (n : Nat) (rm : Room) (d : Dt) (av : List Value) (r : Int32) (d' : Dt) : Prop :=
  Met l y (.code y b n (some .boolean) :: wsG) rm (va_Pc av (z_Wd D G (w d))) (va_Qi (fun r0 (_ : Unit) => r0 = r ∧ (r = 0 ∨ r = 1)) (fun _ => z_Wd D G (w d')) A) 0 0 A
def z_Ml (l : Launch) (D : va_G) (G : z_G) (A : Nat → Prop) (w : Dt → va_W) (y : MethodName) (b : ByteArray) (n : Nat) (rm : Room) (d : Dt) (av : List Value) (r : Int64) (d' : Dt) : Prop :=
  Met l y (.code y b n (some .long) :: wsG) rm (va_Pc av (z_Wd D G (w d))) (va_Ql (fun r0 (_ : Unit) => r0 = r) (fun _ => z_Wd D G (w d')) A) 0 0 A
def z_Mv (l : Launch) (D : va_G) (G : z_G) (A : Nat → Prop) (w : Dt → va_W) (y : MethodName) (b : ByteArray) (n : Nat) (rm : Room) (d : Dt) (av : List Value) (d' : Dt) : Prop :=
  Met l y (.code y b n none :: wsG) rm (va_Pc av (z_Wd D G (w d))) (va_Qv (fun (_ : Unit) => True) (fun _ => z_Wd D G (w d')) A) 0 0 A
theorem z_of {l : Launch} {D : va_G} {G : z_G} {A : Nat → Prop} {ws : va_W} {y : MethodName} {b : ByteArray} {n : Nat} {ret : Option FieldType} {rm : Room} {av : List Value} {Qc : Array Value → State → Outcome → State → Prop}
    (hy : plainName y.cls = true) (hn : (lg_sl av).length ≤ n)
    (body : ∀ (p : Program) (e : Env) (s : State) (m : MethodId) (below : List Frame) (meth : Method) (c : Code), p.tables.exec = Jvm.exec → c.code = b → meth.sig.returnType = ret → c.maxLocals = n → s.vm.findClass y.cls = some m.cls → meth.locks = false → (∀ w ∈ wsG, w.before av.toArray s = true) → va_K D vwCl (z_tys G) s → va_P D vwCl ws s.heap → ∀ ls : Array Slot, lv_has ls n (lv_args 0 av) → W p l e rm s m av.toArray below meth c s.heap [] 0 0 (MQ below Qc av.toArray s 0 0 A) (F0 m 0 ls [])) :
    Met l y (.code y b n ret :: wsG) rm (va_Pc av (z_Wd D G ws)) Qc 0 0 A := by
  refine Met.ofW (cc := b) (maxL := n) (ret := ret) hy rfl ?_
  intro p e s m args below meth c s₁ B hml hv
  obtain ⟨rfl, hP, hK⟩ := hv
  have hts0 := atoms_spec (ws := .code y b n ret :: wsG) B.pre
  rw [lg_entry_eq]
  exact body p e s m below meth c B.exec B.bytes B.returns hml (findClass_of_methodNamed B.named) B.notSynchronized (fun w h => hts0 w (List.mem_cons_of_mem _ h)) hK hP _ (lv_entry av hn)
section ZR
variable {p : Program} {l : Launch} {e : Env} {R : Room} {s : State} {m : MethodId} {args : Array Value} {below : List Frame} {meth : Method} {c : Code} {H : Heap} {locs : List Loc} {cells slots : Nat} {Q : State → Prop}
variable {cc : ByteArray} {pc : Nat} {ls : Array Slot} {rest : List Value} {D : va_G} {G : z_G} {A : Nat → Prop} {H0 : Heap} {w : Dt → va_W} {d d' : Dt}
theorem z_iret {v r : Int32} (hx : p.tables.exec = Jvm.exec) (hb : c.code = cc) (hr : meth.sig.returnType = some .int) (hlk : meth.locks = false) (hK : va_K D vwCl (z_tys G) s) (hP : va_P D vwCl (w d) H) (hS : va_S A s.heap H locs) (h : some (v, d) = some (r, d')) (hdg : decode cc pc = .ok (.ireturn, 1)) :
    W p l e R s m args below meth c H locs 0 0 (MQ below (va_Qi (fun r0 (_ : Unit) => r0 = r) (fun _ => z_Wd D G (w d')) A) args s 0 0 A) (F0 m pc ls [.int v]) := by
  cases h
  exact W.iret (v := v) hx hb hr (fun t ht hW => ⟨⟨v, (), rfl, rfl, by rw [ht]; exact hP, va_K.moved hW.alike hK⟩, hS.F ht⟩) hS.2.2 hdg
theorem z_nb {v : Int32} (h : v = 0 ∨ v = 1) : narrow .boolean (.int v) = .int v := by
  rcases h with rfl | rfl <;> rfl
theorem z_zret {v r : Int32} (hx : p.tables.exec = Jvm.exec) (hb : c.code = cc) (hr : meth.sig.returnType = some .boolean) (hlk : meth.locks = false) (hK : va_K D vwCl (z_tys G) s) (hP : va_P D vwCl (w d) H) (hS : va_S A s.heap H locs) (hz : v = 0 ∨ v = 1) (h : some (v, d) = some (r, d')) (hdg : decode cc pc = .ok (.ireturn, 1)) :
    W p l e R s m args below meth c H locs 0 0 (MQ below (va_Qi (fun r0 (_ : Unit) => r0 = r ∧ (r = 0 ∨ r = 1)) (fun _ => z_Wd D G (w d')) A) args s 0 0 A) (F0 m pc ls [.int v]) := by
  cases h
  exact W.zret (v := v) hx hb hr (z_nb hz) (fun t ht hW => ⟨⟨v, (), rfl, ⟨rfl, hz⟩, by rw [ht]; exact hP, va_K.moved hW.alike hK⟩, hS.F ht⟩) hS.2.2 hdg
theorem z_lret {v r : Int64} (hx : p.tables.exec = Jvm.exec) (hb : c.code = cc) (hr : meth.sig.returnType = some .long) (hlk : meth.locks = false) (hK : va_K D vwCl (z_tys G) s) (hP : va_P D vwCl (w d) H) (hS : va_S A s.heap H locs) (h : some (v, d) = some (r, d')) (hdg : decode cc pc = .ok (.lreturn, 1)) :
    W p l e R s m args below meth c H locs 0 0 (MQ below (va_Ql (fun r0 (_ : Unit) => r0 = r) (fun _ => z_Wd D G (w d')) A) args s 0 0 A) (F0 m pc ls [.long v]) := by
  cases h
  exact W.lret (v := v) hx hb hr (fun t ht hW => ⟨⟨v, (), rfl, rfl, by rw [ht]; exact hP, va_K.moved hW.alike hK⟩, hS.F ht⟩) hS.2.2 hdg
theorem z_vret (hx : p.tables.exec = Jvm.exec) (hb : c.code = cc) (hr : meth.sig.returnType = none) (hlk : meth.locks = false) (hK : va_K D vwCl (z_tys G) s) (hP : va_P D vwCl (w d) H) (hS : va_S A s.heap H locs) (h : some d = some d') (hdg : decode cc pc = .ok (.return_, 1)) :
    W p l e R s m args below meth c H locs 0 0 (MQ below (va_Qv (fun (_ : Unit) => True) (fun _ => z_Wd D G (w d')) A) args s 0 0 A) (F0 m pc ls []) := by
  cases h
  exact W.vret hx hb hr (fun t ht hW => ⟨⟨(), rfl, trivial, by rw [ht]; exact hP, va_K.moved hW.alike hK⟩, hS.F ht⟩) hS.2.2 hdg
/-- the same for methods that write nothing -/
theorem z_pair {α : Type} {v r : α} {d : Dt} (h : some v = some r) : some (v, d) = some (r, d) := by cases h; rfl
theorem z_fb {av : List Value} {ws : va_W} : FrameBlind (va_Pc av (z_Wd D G ws)) := fun a U g mk q => ⟨q.1, q.2.1, va_K.moved (u := U) (U := U.calling g mk a) (Vm.Alike.refl U.vm) q.2.2⟩
theorem z_pS {As : List Value} {ws : va_W} (hK : va_K D vwCl (z_tys G) s) (hP : va_P D vwCl ws H) : PreS s H (va_Pc As (z_Wd D G ws)) As := ⟨z_fb, fun U hU hW => ⟨rfl, by rw [hU]; exact hP, va_K.moved hW.alike hK⟩⟩
theorem z_pV {As : List Value} {ws : va_W} {a k ci : Nat} {q : vw_C} {fs : List Value} (hK : va_K D vwCl (z_tys G) s) (hP : va_P D vwCl ws H) (he : ws[k]? = some (a, .inr (ci, fs))) (hc : vwCl[ci]? = some q) : PreV s H q.1 a (va_Pc (.ref a :: As) (z_Wd D G ws)) As := ⟨z_fb, va_recv hK hP hc he, fun U hU hW => ⟨rfl, by rw [hU]; exact hP, va_K.moved hW.alike hK⟩⟩
variable {a : Array Value} {rs : List Value} {st0 : List Value}
/-- behind a call -/
theorem z_ki {r : Int32} (hr : va_Run p l e R s m args below meth c H locs cells slots 0 0 (F0 m pc ls st0) rest (va_Qi (fun r0 (_ : Unit) => r0 = r) (fun _ => z_Wd D G (w d')) A a) A) (hS : va_S A H0 H locs)
    (kk : ∀ (H1 : Heap) (locs1 : List Loc), va_P D vwCl (w d') H1 → va_S A H0 H1 locs1 → W p l e R s m args below meth c H1 locs1 cells slots Q (F0 m (pc + 3) ls (.int r :: rest))) : W p l e R s m args below meth c H locs cells slots Q (F0 m pc ls st0) :=
  va_calli hr hS (fun _ _ h => h) (fun _ h => h) (fun r0 u t H1 locs1 ht hvm hw hB hz hk hS1 => by
    have hw : r0 = r := hw
    subst hw
    exact kk H1 locs1 (by rw [← ht]; exact hB.1) hS1)
theorem z_kz {r : Int32} (hr : va_Run p l e R s m args below meth c H locs cells slots 0 0 (F0 m pc ls st0) rest (va_Qi (fun r0 (_ : Unit) => r0 = r ∧ (r = 0 ∨ r = 1)) (fun _ => z_Wd D G (w d')) A a) A) (hS : va_S A H0 H locs)
    (kk : ∀ (H1 : Heap) (locs1 : List Loc), (r = 0 ∨ r = 1) → va_P D vwCl (w d') H1 → va_S A H0 H1 locs1 → W p l e R s m args below meth c H1 locs1 cells slots Q (F0 m (pc + 3) ls (.int r :: rest))) : W p l e R s m args below meth c H locs cells slots Q (F0 m pc ls st0) :=
  va_calli hr hS (fun _ _ h => h) (fun _ h => h) (fun r0 u t H1 locs1 ht hvm hw hB hz hk hS1 => by
    have hw : r0 = r ∧ (r = 0 ∨ r = 1) := hw
    obtain ⟨rfl, hw⟩ := hw
    exact kk H1 locs1 hw (by rw [← ht]; exact hB.1) hS1)
theorem z_kl {r : Int64} (hr : va_Run p l e R s m args below meth c H locs cells slots 0 0 (F0 m pc ls st0) rest (va_Ql (fun r0 (_ : Unit) => r0 = r) (fun _ => z_Wd D G (w d')) A a) A) (hS : va_S A H0 H locs)
    (kk : ∀ (H1 : Heap) (locs1 : List Loc), va_P D vwCl (w d') H1 → va_S A H0 H1 locs1 → W p l e R s m args below meth c H1 locs1 cells slots Q (F0 m (pc + 3) ls (.long r :: rest))) : W p l e R s m args below meth c H locs cells slots Q (F0 m pc ls st0) :=
  va_calll hr hS (fun _ _ h => h) (fun _ h => h) (fun r0 u t H1 locs1 ht hvm hw hB hz hk hS1 => by
    have hw : r0 = r := hw
    subst hw
    exact kk H1 locs1 (by rw [← ht]; exact hB.1) hS1)
theorem z_kv (hr : va_Run p l e R s m args below meth c H locs cells slots 0 0 (F0 m pc ls st0) rest (va_Qv (fun (_ : Unit) => True) (fun _ => z_Wd D G (w d')) A a) A) (hS : va_S A H0 H locs)
    (kk : ∀ (H1 : Heap) (locs1 : List Loc), va_P D vwCl (w d') H1 → va_S A H0 H1 locs1 → W p l e R s m args below meth c H1 locs1 cells slots Q (F0 m (pc + 3) ls rest)) : W p l e R s m args below meth c H locs cells slots Q (F0 m pc ls st0) :=
  va_callv hr hS (fun _ _ h => h) (fun _ h => h) (fun u t H1 locs1 ht hvm hw hB hz hk hS1 => kk H1 locs1 (by rw [← ht]; exact hB.1) hS1)
/-- a call's run -/
theorem z_rV {own : String} {nL n index ci k a0 mL : Nat} {y : MethodName} {b : ByteArray} {ret : Option FieldType} {rm : Room} {As : List Value} {q : vw_C} {fs : List Value} {Qc : Array Value → State → Outcome → State → Prop} {free : Addr → Prop}
    (S : CallFix p m c cc nL s args wsG own) (hK : va_K D vwCl (z_tys G) s) (hP : va_P D vwCl (w d) H) (he : (w d)[k]? = some (a0, .inr (ci, fs))) (hc : vwCl[ci]? = some q)
    (hM : Met l y (.code y b mL ret :: wsG) rm (va_Pc (.ref a0 :: As) (z_Wd D G (w d))) Qc 0 0 free)
    (hG : GoodIn wsG (wsV own index q.1 y (.code y b mL ret :: wsG))) (hrm : rm.cells = 0 ∧ rm.slots = 0)
    (hd : y.cls = q.1 ∧ y.cls ≠ "java/lang/invoke/MethodHandle" ∧ y.cls ≠ "java/lang/invoke/VarHandle" ∧ (parseMethodDescriptor y.desc).map (fun d => d.parameters.length) = some n)
    (hR : rm.frames + 1 ≤ R.frames ∧ 8 + (mL + 11) + rm.locals ≤ R.locals) (hn : As.length = n) (hsz : ls.size = nL) (hst : st0 = As.reverse ++ .ref a0 :: rest) (hW : (rest.map fun v => v.category).sum ≤ 8) (hcl : cells ≤ R.cells ∧ slots ≤ R.slots) (hdg : decode cc pc = .ok (.invokevirtual index, 3)) :
    va_Run p l e R s m args below meth c H locs cells slots 0 0 (F0 m pc ls st0) rest (Qc (Value.ref a0 :: As).toArray) free :=
  va_runV (As := As) (rest := rest) S hM (cwV n S.2.2.2.2 hG rfl hrm.1 hrm.2 hd hR) (z_pV hK hP he hc) rfl hn hsz hst (lv_room hW) hdg hcl
theorem z_rS {own : String} {nL n index mL : Nat} {y : MethodName} {b : ByteArray} {ret : Option FieldType} {rm : Room} {As : List Value} {Qc : Array Value → State → Outcome → State → Prop} {free : Addr → Prop}
    (S : CallFix p m c cc nL s args wsG own) (hK : va_K D vwCl (z_tys G) s) (hP : va_P D vwCl (w d) H)
    (hM : Met l y (.code y b mL ret :: wsG) rm (va_Pc As (z_Wd D G (w d))) Qc 0 0 free)
    (hG : GoodIn wsG (va_wsS own index y (.code y b mL ret :: wsG))) (hrm : rm.cells = 0 ∧ rm.slots = 0)
    (hd : y.cls ≠ "java/lang/invoke/MethodHandle" ∧ y.cls ≠ "java/lang/invoke/VarHandle" ∧ (parseMethodDescriptor y.desc).map (fun d => d.parameters.length) = some n)
    (hR : rm.frames + 1 ≤ R.frames ∧ 8 + (mL + 11) + rm.locals ≤ R.locals) (hn : As.length = n) (hsz : ls.size = nL) (hst : st0 = As.reverse ++ rest) (hW : (rest.map fun v => v.category).sum ≤ 8) (hcl : cells ≤ R.cells ∧ slots ≤ R.slots) (hdg : decode cc pc = .ok (.invokestatic index, 3)) :
    va_Run p l e R s m args below meth c H locs cells slots 0 0 (F0 m pc ls st0) rest (Qc As.toArray) free :=
  va_runS (As := As) (rest := rest) S hM (va_cwS n S.2.2.2.2 hG rfl hrm.1 hrm.2 hd hR) (z_pS hK hP) rfl hn hsz hst (lv_room hW) hdg hcl
end ZR
