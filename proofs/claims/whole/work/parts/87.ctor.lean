/-! CONSTRUCTOR of PathStream: the first data, and the cells -/
def dC0 : Dt := (fun k j => if (k = 2 ∨ k = 30 ∨ (73 ≤ k ∧ k < 520 ∧ (k - 73) % 28 = 0)) ∧ j = 7 then -9 else 0, 0)
def psE (G : z_G) (B k : Nat) : va_E := shC G (fun i => B + i) k (dC0.1 k) 0
def psZ (G : z_G) (B k : Nat) : va_E := if k = 57 then .inl (G.2.2.2.2, 14, .inr (.inr (.inr (.inr (fun _ => none))))) else if k = 58 then .inl (G.2.2.2.2, 2, .inr (.inr (.inr (.inr (fun _ => none))))) else psE G B k
theorem psZ_n {G : z_G} {B k : Nat} (h1 : k ≠ 57) (h2 : k ≠ 58) : psZ G B k = psE G B k := by unfold psZ; rw [if_neg h1, if_neg h2]
theorem d0_j {k j : Nat} (h : j ≠ 7) : dC0.1 k j = 0 := if_neg (fun q => h q.2)
theorem d0_el {k : Nat} (h : isEl k) : dC0.1 k 7 = -9 := if_pos ⟨h, rfl⟩
theorem d0_ne {k : Nat} (h : ¬ isEl k) (j : Nat) : dC0.1 k j = 0 := if_neg (fun q => h q.1)
theorem d0_f {k : Nat} (h : ¬ isEl k) : dC0.1 k = fun _ => 0 := funext (d0_ne h)
theorem ps_ar {G : z_G} {B k n : Nat} (h : arC k = n) (hn : 0 < n) (he : ¬ isEl k) : psE G B k = .inl (G.1, n, .inl (fun _ => 0)) := by
  unfold psE
  rw [sh_ar h hn, d0_f he]
theorem ps_st {G : z_G} {B b k : Nat} (hb : isSt b) (hk : k < 28) : psE G B (b + k) = stE G (B + b) k := by
  have nel : ∀ j, j ≠ 1 → j < 28 → ¬ isEl (b + j) := by
    intro j h1 h2 h3
    unfold isSt at hb; unfold isEl at h3
    omega
  by_cases h0 : k = 0
  · subst h0
    rw [stE_0]
    unfold psE
    rw [Nat.add_zero, sh_X3 hb, d0_j (by omega), Nat.add_assoc, Nat.add_assoc]
  · by_cases h1 : k = 1
    · subst h1
      rw [stE_el (by omega) (by omega)]
      unfold psE
      rw [sh_X0 (el_st hb), d0_j (by omega), d0_j (by omega), d0_el (el_st hb), d0_j (by omega)]
      simp only [E0, Nat.sub_self, if_true, Nat.add_assoc]
    · by_cases h7 : k < 7
      · rw [stE_el (by omega) h7, ps_ar (n := 20) ?_ (by omega) (nel k h1 hk)]
        · unfold E0; rw [if_neg (by omega)]
        · rcases (by omega : k = 2 ∨ k = 3 ∨ k = 4 ∨ k = 5 ∨ k = 6) with rfl | rfl | rfl | rfl | rfl
          · exact ar_el1 (el_st hb)
          · exact ar_el2 (el_st hb)
          · exact ar_el3 (el_st hb)
          · exact ar_el4 (el_st hb)
          · exact ar_el5 (el_st hb)
      · by_cases h77 : k = 7
        · subst h77
          rw [stE_7]
          unfold psE
          rw [sh_pp hb]
          have e : ∀ j, B + (b + 7 + 1 + 4 * j) = B + b + 8 + 4 * j := fun j => by omega
          simp only [e]
        · obtain ⟨i, j, hj, hkij⟩ : ∃ i j, j < 4 ∧ k = 8 + 4 * i + j := ⟨(k - 8) / 4, (k - 8) % 4, by omega, by omega⟩
          have hpa : isPa (b + (8 + 4 * i)) := by unfold isSt at hb; unfold isPa; omega
          rw [stE_pa hkij hj]
          by_cases j0 : j = 0
          · subst j0
            subst hkij
            have hz := d0_f (nel (8 + 4 * i + 0) (by omega) hk)
            unfold psE
            rw [hz, Nat.add_zero, sh_X2 hpa]
            unfold E2
            rw [if_pos rfl]
            simp only [Nat.add_assoc]
          · unfold E2
            rw [if_neg j0]
            by_cases j1 : j = 1
            · rw [if_pos j1, ps_ar (n := 4) ?_ (by omega) (nel k h1 hk)]
              rw [show b + k = b + (8 + 4 * i) + 1 by omega]; exact ar_pa1 hpa
            · rw [if_neg j1, ps_ar (n := 20) ?_ (by omega) (nel k h1 hk)]
              rcases (by omega : j = 2 ∨ j = 3) with h2 | h3
              · rw [show b + k = b + (8 + 4 * i) + 2 by omega]; exact ar_pa2 hpa
              · rw [show b + k = b + (8 + 4 * i) + 3 by omega]; exact ar_pa3 hpa
theorem ps_60 {G : z_G} {B k : Nat} (hk : k < 5) : psE G B (60 + k) = E1 G (B + 60) k := by
  rcases (by omega : k = 0 ∨ k = 1 ∨ k = 2 ∨ k = 3 ∨ k = 4) with rfl | rfl | rfl | rfl | rfl
  · rfl
  all_goals rfl
theorem ps_65 {G : z_G} {B k : Nat} (hk : k < 2) : psE G B (65 + k) = E4 G (B + 65) k := by
  rcases (by omega : k = 0 ∨ k = 1) with rfl | rfl
  all_goals rfl
section XP
variable {p : Program} {l : Launch} {e : Env} {R : Room} {s : State} {m : MethodId} {args : Array Value} {below : List Frame} {meth : Method} {c : Code} {H : Heap} {locs : List Loc} {cells slots : Nat} {Q : State → Prop}
variable {cc : ByteArray} {pc : Nat} {ls : Array Slot} {rest : List Value} {D : va_G} {G : z_G} {H0 : Heap} {index B : Nat}
/-- a final field of the object under construction -/
theorem r_pf (hx : p.tables.exec = Jvm.exec) (hb : c.code = cc) {C : String} {T : u_T} {N ci h n : Nat} {fs : List Value} {E : Nat → va_E} (hts : ∀ w ∈ wsG, w.before args s = true) (hin : ∀ w ∈ u_ws C T N, w ∈ wsG) (ty : Nat → FieldType) (hty : ∀ k, k < N → parseFieldDescriptor (T k).2.2.1 = some (ty k)) (hnm : ∀ a, a < N → ∀ b, b < N → a ≠ b → (T a).2.1 ≠ (T b).2.1) (hown : s.vm.findClass C = some m.cls) (hK : va_K D vwCl (z_tys G) s) (hc : vwCl[ci]? = some (C, T, N)) (hin2 : meth.name = "<init>")
    (hz : H.size = h + n) (hO : va_at D vwCl (h, .inr (ci, fs)) H) (hE : ∀ k, 0 < k → k < n → va_at D vwCl (h + k, E k) H) (hS : va_S (XA B) H0 H locs) (hB : B ≤ h)
    (k : Nat) (hk : k < N) (hlink : (Cond.fieldLink C index C (T k).2.1 (T k).2.2.1).before args s = true) (hfin : (T k).2.2.2 = true) (hdecl : (T k).1 = C) {v : Value} (hn : narrow (ty k) v = v) (hfit : fits (ty k) v = true) (hl : k < fs.length) (hd2 : decode cc pc = .ok (.putfield index, 3))
    (kk : ∀ (H1 : Heap) (locs1 : List Loc), H1.size = h + n → va_at D vwCl (h, .inr (ci, fs.set k v)) H1 → (∀ k, 0 < k → k < n → va_at D vwCl (h + k, E k) H1) → va_S (XA B) H0 H1 locs1 → W p l e R s m args below meth c H1 locs1 cells slots Q (F0 m (pc + 3) ls [])) : W p l e R s m args below meth c H locs cells slots Q (F0 m pc ls [v, .ref h]) := by
  refine r_putF hx hb hts hin ty hty hnm hown hK hc hO hS (show B ≤ h from hB) k hk hlink hfin hin2 hdecl hn hfit hl hd2 fun H2 locs2 z2 g2 o2 hS2 => ?_
  exact kk H2 locs2 (z2.trans hz) g2 (fun j hj0 hj => va_at.kept (hE j hj0 hj) (o2 _ (by show h + j ≠ h; omega))) hS2
/-- behind a constructor's call -/
theorem x_afterE {h n N ms : Nat} {o : va_E} {E E' : Nat → va_E} {a : Array Value} {st0 : List Value} (hr : va_Run p l e R s m args below meth c H locs cells slots (N - 1) ms (F0 m pc ls st0) rest (va_Qv (fun (_ : Unit) => True) (fun _ => XE D (h + n) N E') (XA (h + n)) a) (XA (h + n))) (hS : va_S (XA B) H0 H locs) (hB : B ≤ h) (hz : H.size = h + n + 1) (hn0 : 0 < n) (hO : va_at D vwCl (h, o) H) (hE : ∀ k, 0 < k → k < n → va_at D vwCl (h + k, E k) H) (hEE : ∀ k, k < N → E (n + k) = E' k)
    (kk : ∀ (H1 : Heap) (locs1 : List Loc), H1.size = h + (n + N) → va_at D vwCl (h, o) H1 → (∀ k, 0 < k → k < n + N → va_at D vwCl (h + k, E k) H1) → va_S (XA B) H0 H1 locs1 → W p l e R s m args below meth c H1 locs1 (cells + (N - 1)) (slots + ms) Q (F0 m (pc + 3) ls rest)) : W p l e R s m args below meth c H locs cells slots Q (F0 m pc ls st0) := by
  refine x_after hr hS (Nat.le_trans hB (Nat.le_add_right h n)) hz fun H1 locs1 z1 g1 o1 hS1 => ?_
  refine kk H1 locs1 (by rw [z1]; omega) (va_at.kept hO (o1 h (by omega))) (fun k k0 k1 => ?_) hS1
  by_cases hk : k < n
  · exact va_at.kept (hE k k0 hk) (o1 _ (by show h + k < h + n; omega))
  · have := g1 (k - n) (by omega)
    rw [← hEE (k - n) (by omega), show h + n + (k - n) = h + k by omega, show n + (k - n) = k by omega] at this
    exact this
end XP
