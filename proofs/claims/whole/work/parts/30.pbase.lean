/-! PURE REASONING: outcomes of the functions -/
def Ok {α : Type} (o : Option α) (P : α → Prop) : Prop := ∃ a, o = some a ∧ P a
section OK
variable {α β σ τ : Type} {P : α → Prop} {Pb : β → Prop}
theorem ok_s {a : α} (h : P a) : Ok (some a) P := ⟨a, rfl, h⟩
theorem ok_e {o : Option α} {a : α} (e : o = some a) (h : P a) : Ok o P := ⟨a, e, h⟩
theorem ok_w {Q : α → Prop} {o : Option α} (h : Ok o P) (w : ∀ a, P a → Q a) : Ok o Q := ⟨h.choose, h.choose_spec.1, w _ h.choose_spec.2⟩
theorem ok_nm {e : β} {k : β → Option α} (h : Ok (k e) P) : Ok (z_nm e k) P := h
theorem ok_gd {b : Bool} {x : Option α} (hb : b = true) (h : Ok x P) : Ok (z_gd b x) P := by subst hb; exact h
theorem ok_gi {i : Int32} {n : Nat} {x : Option α} (hb : vp_in i n) (h : Ok x P) : Ok (z_gd (z_in i n) x) P := ok_gd (z_dc_t hb) h
theorem ok_gp {c : Prop} {x : Option α} (hc : c) (h : Ok x P) : Ok (z_gd (z_dc c) x) P := ok_gd (z_dc_t hc) h
theorem ok_br {Q : β → Prop} {o : Option β} {k : β → Option α} (h : Ok o Q) (hk : ∀ b, Q b → Ok (k b) P) : Ok (z_br o k) P := by
  obtain ⟨b, rfl, hb⟩ := h
  exact hk b hb
theorem ok_bd {Q : β × Dt → Prop} {o : Option (β × Dt)} {k : β → Dt → Option α} (h : Ok o Q) (hk : ∀ b d, Q (b, d) → Ok (k b d) P) : Ok (z_bd o k) P := by
  obtain ⟨⟨b, d⟩, rfl, hb⟩ := h
  exact hk b d hb
theorem ok_re {o : Option β} {b : β} {k : β → Option α} (h : o = some b) (hk : Ok (k b) P) : Ok (z_br o k) P := by subst h; exact hk
theorem ok_de {o : Option (β × Dt)} {b : β} {d : Dt} {k : β → Dt → Option α} (h : o = some (b, d)) (hk : Ok (k b d) P) : Ok (z_bd o k) P := by subst h; exact hk
theorem ok_if {c : Prop} {a b : Option α} (ht : c → Ok a P) (hf : ¬ c → Ok b P) : Ok (zif c a b) P := by
  by_cases h : c
  · rw [zif_p h]; exact ht h
  · rw [zif_n h]; exact hf h
theorem ok_t {c : Prop} {a b : Option α} (h : c) (ht : Ok a P) : Ok (zif c a b) P := by rw [zif_p h]; exact ht
theorem ok_f {c : Prop} {a b : Option α} (h : ¬ c) (hf : Ok b P) : Ok (zif c a b) P := by rw [zif_n h]; exact hf
theorem gd_t (x : Option α) : z_gd true x = x := rfl
theorem z_nme (e : β) (k : β → α) : z_nm e k = k e := Eq.trans (Eq.refl _) (Eq.refl _)
theorem in_t {i n : Nat} (h : i < n) (hn : n < 2 ^ 31) : z_in (nI i) n = true := z_dc_t (vp_in_nI h hn)
theorem ok_lp {f : σ → Option (σ ⊕ α)} (I : Nat → σ → Prop) (hs : ∀ n s, I n s → Ok (f s) (fun q => (∃ m s', m < n ∧ q = .inl s' ∧ I m s') ∨ ∃ t, q = .inr t ∧ P t)) : ∀ n s, I n s → Ok (z_lp f s) P := by
  intro n
  induction n using Nat.strongRecOn with
  | ind n ih =>
    intro s h
    obtain ⟨q, hq, h1⟩ := hs n s h
    rw [z_lp_eq, hq]
    rcases h1 with ⟨m, s', hm, rfl, hI⟩ | ⟨t, rfl, hP⟩
    · exact ih m hm s' hI
    · exact ⟨t, rfl, hP⟩
/-- a loop that counts up to N -/
theorem ok_for {f : σ → Option (σ ⊕ α)} (N : Nat) (I : Nat → σ → Prop) (hs : ∀ i s, i < N → I i s → Ok (f s) (fun q => (∃ s', q = .inl s' ∧ I (i + 1) s') ∨ ∃ t, q = .inr t ∧ P t)) (he : ∀ s, I N s → Ok (f s) (fun q => ∃ t, q = .inr t ∧ P t)) (i : Nat) (s : σ) (hi : i ≤ N) (h : I i s) : Ok (z_lp f s) P := by
  refine ok_lp (fun n s => ∃ i, i ≤ N ∧ n = N - i ∧ I i s) ?_ (N - i) s ⟨i, hi, rfl, h⟩
  intro n s h
  obtain ⟨i, hi, rfl, h⟩ := h
  rcases Nat.lt_or_ge i N with hl | hl
  · refine ok_w (hs i s hl h) (fun q hq => ?_)
    rcases hq with ⟨s', h1, h2⟩ | h1
    · exact Or.inl ⟨N - (i + 1), s', by omega, h1, i + 1, by omega, rfl, h2⟩
    · exact Or.inr h1
  · have : i = N := by omega
    subst this
    exact ok_w (he s h) (fun q hq => Or.inr hq)
theorem ok_c {s' : σ} {P1 : σ → Prop} {P2 : α → Prop} (h : P1 s') : Ok (some (Sum.inl s' : σ ⊕ α)) (fun q => (∃ s', q = .inl s' ∧ P1 s') ∨ ∃ t, q = .inr t ∧ P2 t) := ⟨_, rfl, Or.inl ⟨s', rfl, h⟩⟩
theorem ok_x {t : α} {P1 : σ → Prop} {P2 : α → Prop} (h : P2 t) : Ok (some (Sum.inr t : σ ⊕ α)) (fun q => (∃ s', q = .inl s' ∧ P1 s') ∨ ∃ t, q = .inr t ∧ P2 t) := ⟨_, rfl, Or.inr ⟨t, rfl, h⟩⟩
theorem ok_z {t : α} {P2 : α → Prop} (h : P2 t) : Ok (some (Sum.inr t : σ ⊕ α)) (fun q => ∃ t, q = .inr t ∧ P2 t) := ⟨_, rfl, t, rfl, h⟩
end OK
/-! the memory -/
theorem st_eq (d : Dt) (k j : Nat) (v : Int32) : (z_st d k j v).1 k j = v := by simp [z_st, z_sg, upd]
theorem st_j {d : Dt} {k j j' : Nat} {v : Int32} (h : j' ≠ j) : (z_st d k j v).1 k j' = d.1 k j' := by simp [z_st, z_sg, upd, h]
theorem st_k {d : Dt} {k k' j : Nat} {v : Int32} (h : k' ≠ k) : (z_st d k j v).1 k' = d.1 k' := by simp [z_st, z_sg, h]
theorem st_if (d : Dt) (k j : Nat) (v : Int32) (k' j' : Nat) : (z_st d k j v).1 k' j' = if k' = k ∧ j' = j then v else d.1 k' j' := by
  by_cases h : k' = k
  · subst h
    by_cases h2 : j' = j
    · subst h2; rw [st_eq]; simp
    · rw [st_j h2]; simp [h2]
  · rw [st_k h]; simp [h]
theorem st_2 (d : Dt) (k j : Nat) (v : Int32) : (z_st d k j v).2 = d.2 := rfl
theorem cp_at {d : Dt} {k0 k1 n j : Nat} (h : j < n) : (z_cp d k0 0 k1 0 n).1 k1 j = d.1 k0 j := by simp [z_cp, z_sg, va_cpy, h]
theorem cp_k {d : Dt} {k0 k1 k n : Nat} (h : k ≠ k1) : (z_cp d k0 0 k1 0 n).1 k = d.1 k := by simp [z_cp, z_sg, h]
theorem cp_2 (d : Dt) (k0 k1 n : Nat) : (z_cp d k0 0 k1 0 n).2 = d.2 := rfl
theorem ix_nI {n : Nat} (h : n < 2 ^ 31) : z_ix (nI n) = n := nI_clamp h
/-! Int32 by its bits -/
def bt (x : Int32) (i : Nat) : Bool := x.toBitVec.getLsbD i
theorem b_ext {x y : Int32} (h : ∀ i, i < 32 → bt x i = bt y i) : x = y := Int32.toBitVec_inj.mp (BitVec.eq_of_getLsbD_eq (fun i hi => h i hi))
theorem b_or (x y : Int32) (i : Nat) : bt (x ||| y) i = (bt x i || bt y i) := by unfold bt; rw [Int32.toBitVec_or, BitVec.getLsbD_or]
theorem b_and (x y : Int32) (i : Nat) : bt (x &&& y) i = (bt x i && bt y i) := by unfold bt; rw [Int32.toBitVec_and, BitVec.getLsbD_and]
theorem b_xor (x y : Int32) (i : Nat) : bt (x ^^^ y) i = (bt x i ^^ bt y i) := by unfold bt; rw [Int32.toBitVec_xor, BitVec.getLsbD_xor]
theorem b_big {x : Int32} {i : Nat} (h : 32 ≤ i) : bt x i = false := BitVec.getLsbD_of_ge _ _ h
theorem b_m1 : ∀ i, i < 32 → bt (-1) i = true := by decide +kernel
theorem b_0 (i : Nat) : bt 0 i = false := BitVec.getLsbD_zero
theorem b_1 (i : Nat) : bt 1 i = decide (i = 0) := by
  rcases Nat.lt_or_ge i 32 with h | h
  · exact (by decide +kernel : ∀ i, i < 32 → bt 1 i = decide (i = 0)) i h
  · rw [b_big h, decide_eq_false (by omega)]
theorem s_l : ∀ n, n < 32 → ((nI n &&& 31).toBitVec.smod 32).toNat = n := by decide +kernel
theorem b_shl (n : Nat) (hn : n < 32) (x : Int32) {i : Nat} (hi : i < 32) : bt (x <<< (nI n &&& 31)) i = (decide (n ≤ i) && bt x (i - n)) := by
  unfold bt
  rw [Int32.toBitVec_shiftLeft]
  show (x.toBitVec <<< ((nI n &&& 31).toBitVec.smod 32).toNat).getLsbD i = _
  rw [s_l n hn, BitVec.getLsbD_shiftLeft]
  rcases Nat.lt_or_ge i n with h | h
  · simp [h, Nat.not_le.mpr h]
  · simp [hi, h, Nat.not_lt.mpr h]
theorem b_sshr (n : Nat) (hn : n < 32) (x : Int32) {i : Nat} (hi : i < 32) : bt (x >>> (nI n &&& 31)) i = if n + i < 32 then bt x (n + i) else bt x 31 := by
  unfold bt
  rw [Int32.toBitVec_shiftRight]
  show (x.toBitVec.sshiftRight ((nI n &&& 31).toBitVec.smod 32).toNat).getLsbD i = _
  rw [s_l n hn, BitVec.getLsbD_sshiftRight, BitVec.msb_eq_getLsbD_last]
  simp [hi]
theorem b_bit (x : Int32) {n : Nat} (hn : n < 32) : ((x >>> (nI n &&& 31)) &&& 1) = if bt x n then 1 else 0 := by
  apply b_ext
  intro i hi
  rw [b_and, b_1, b_sshr n hn x hi]
  by_cases h0 : i = 0
  · subst h0
    simp [hn]
    cases bt x n
    · simp [b_0]
    · simp [b_1]
  · simp [h0]
    cases bt x n
    · simp [b_0]
    · simp [b_1, h0]
theorem b_one {n : Nat} (hn : n < 32) {i : Nat} (hi : i < 32) : bt ((1 : Int32) <<< (nI n &&& 31)) i = decide (i = n) := by
  rw [b_shl n hn 1 hi, b_1]
  by_cases h : i = n
  · subst h; simp
  · simp [h]; omega
/-- the set of the i < n with f i -/
def zB (f : Nat → Bool) : Nat → Int32
  | 0 => 0
  | n + 1 => zB f n ||| (if f n then 1 <<< (nI n &&& 31) else 0)
theorem zB_s (f : Nat → Bool) (n : Nat) : zB f (n + 1) = zB f n ||| (if f n then 1 <<< (nI n &&& 31) else 0) := rfl
theorem bt_zB (f : Nat → Bool) : ∀ (n : Nat), n ≤ 32 → ∀ i, i < 32 → bt (zB f n) i = (decide (i < n) && f i)
  | 0, _, i, _ => by simp [zB, b_0]
  | n + 1, hn, i, hi => by
    unfold zB
    rw [b_or, bt_zB f n (by omega) i hi]
    by_cases h : i = n
    · subst h
      cases hf : f i
      · simp [b_0]
      · simp [b_one (show i < 32 by omega) hi]
    · cases hf : f n
      · simp [b_0]
        by_cases h2 : i < n
        · simp [h2, show i < n + 1 by omega]
        · simp [h2, show ¬ i < n + 1 by omega]
      · simp [b_one (show n < 32 by omega) hi, h]
        by_cases h2 : i < n
        · simp [h2, show i < n + 1 by omega]
        · simp [h2, show ¬ i < n + 1 by omega]
theorem zB_ext {x : Int32} {f : Nat → Bool} {n : Nat} (hn : n ≤ 32) (h : ∀ i, i < 32 → bt x i = (decide (i < n) && f i)) : x = zB f n := b_ext (fun i hi => by rw [h i hi, bt_zB f n hn i hi])
theorem zB_cong {f g : Nat → Bool} {n : Nat} (h : ∀ i, i < n → f i = g i) : zB f n = zB g n := by
  induction n with
  | zero => rfl
  | succ n ih => unfold zB; rw [ih (fun i hi => h i (by omega)), h n (by omega)]
theorem zB_inj {f g : Nat → Bool} {n : Nat} (hn : n ≤ 32) (h : zB f n = zB g n) : ∀ i, i < n → f i = g i := by
  intro i hi
  have h1 := bt_zB f n hn i (by omega)
  rw [h, bt_zB g n hn i (by omega)] at h1
  simpa [hi] using h1.symm
theorem zB_or {f g : Nat → Bool} {n : Nat} (hn : n ≤ 32) : zB f n ||| zB g n = zB (fun i => f i || g i) n := zB_ext hn (fun i hi => by
  rw [b_or, bt_zB _ _ hn i hi, bt_zB _ _ hn i hi]; cases decide (i < n) <;> simp)
theorem zB_and {f g : Nat → Bool} {n : Nat} (hn : n ≤ 32) : zB f n &&& zB g n = zB (fun i => f i && g i) n := zB_ext hn (fun i hi => by
  rw [b_and, bt_zB _ _ hn i hi, bt_zB _ _ hn i hi]; cases decide (i < n) <;> simp)
theorem zB_andn {f g : Nat → Bool} {n : Nat} (hn : n ≤ 32) : zB f n &&& (zB g n ^^^ (-1)) = zB (fun i => f i && !g i) n := zB_ext hn (fun i hi => by
  rw [b_and, b_xor, bt_zB _ _ hn i hi, bt_zB _ _ hn i hi, b_m1 i hi]; cases decide (i < n) <;> simp)
theorem zB_grow {f : Nat → Bool} {n m : Nat} (h : n ≤ m) (hf : ∀ i, n ≤ i → i < m → f i = false) : zB f m = zB f n := by
  induction m with
  | zero => rw [show n = 0 by omega]
  | succ m ih =>
    rcases Nat.lt_or_ge n (m + 1) with h1 | h1
    · rw [zB_s, ih (by omega) (fun i h2 h3 => hf i h2 (by omega)), hf m (by omega) (by omega)]
      apply b_ext
      intro i _
      rw [b_or]; simp [b_0]
    · rw [show n = m + 1 by omega]
theorem zB_bit {f : Nat → Bool} {n i : Nat} (hn : n ≤ 32) (hi : i < 32) : ((zB f n >>> (nI i &&& 31)) &&& 1) = if (decide (i < n) && f i) then 1 else 0 := by
  rw [b_bit _ hi, bt_zB _ _ hn i hi]
theorem zB_bt {f : Nat → Bool} {n i : Nat} (hn : n ≤ 32) (hi : i < n) : ((zB f n >>> (nI i &&& 31)) &&& 1) = if f i then 1 else 0 := by
  rw [zB_bit hn (by omega)]; simp [hi]
theorem zB_0 {f : Nat → Bool} {n : Nat} (hn : n ≤ 32) : zB f n = 0 ↔ ∀ i, i < n → f i = false := by
  constructor
  · intro h i hi
    have h1 := bt_zB f n hn i (by omega)
    rw [h, b_0] at h1
    simpa [hi] using h1.symm
  · intro h
    apply b_ext
    intro i hi
    rw [bt_zB f n hn i hi, b_0]
    by_cases h2 : i < n
    · simp [h2, h i h2]
    · simp [h2]
/-- how many of the i < n have f i -/
def zc (f : Nat → Bool) : Nat → Nat
  | 0 => 0
  | n + 1 => zc f n + (if f n then 1 else 0)
theorem zc_s (f : Nat → Bool) (n : Nat) : zc f (n + 1) = zc f n + (if f n then 1 else 0) := rfl
theorem zc_le (f : Nat → Bool) : ∀ n, zc f n ≤ n
  | 0 => Nat.le_refl 0
  | n + 1 => by have := zc_le f n; unfold zc; split <;> omega
theorem zc_cong {f g : Nat → Bool} {n : Nat} (h : ∀ i, i < n → f i = g i) : zc f n = zc g n := by
  induction n with
  | zero => rfl
  | succ n ih => unfold zc; rw [ih (fun i hi => h i (by omega)), h n (by omega)]
theorem zc_grow {f : Nat → Bool} {n m : Nat} (h : n ≤ m) (hf : ∀ i, n ≤ i → i < m → f i = false) : zc f m = zc f n := by
  induction m with
  | zero => rw [show n = 0 by omega]
  | succ m ih =>
    rcases Nat.lt_or_ge n (m + 1) with h1 | h1
    · rw [zc_s, ih (by omega) (fun i h2 h3 => hf i h2 (by omega)), hf m (by omega) (by omega)]; rfl
    · rw [show n = m + 1 by omega]
theorem zc_mono {f : Nat → Bool} {n m : Nat} (h : n ≤ m) : zc f n ≤ zc f m := by
  induction m with
  | zero => rw [show n = 0 by omega]; exact Nat.le_refl _
  | succ m ih =>
    rcases Nat.lt_or_ge n (m + 1) with h1 | h1
    · have := ih (by omega); rw [zc_s]; split <;> omega
    · rw [show n = m + 1 by omega]; exact Nat.le_refl _
theorem zc_add {f g : Nat → Bool} : ∀ {n : Nat}, (∀ i, i < n → ¬ (f i = true ∧ g i = true)) → zc (fun i => f i || g i) n = zc f n + zc g n
  | 0, _ => rfl
  | n + 1, h => by
    have ih := zc_add (f := f) (g := g) (n := n) (fun i hi => h i (by omega))
    have h1 := h n (by omega)
    unfold zc
    rw [ih]
    cases hf : f n <;> cases hg : g n <;> simp_all <;> omega
theorem zc_0 {f : Nat → Bool} : ∀ {n : Nat}, (∀ i, i < n → f i = false) → zc f n = 0
  | 0, _ => rfl
  | n + 1, h => by unfold zc; rw [zc_0 (fun i hi => h i (by omega)), h n (by omega)]; rfl
