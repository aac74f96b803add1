/-! numbers -/
theorem i_add (a b : Nat) : nI a + nI b = nI (a + b) := nI_add a b
theorem i_ne9 {n : Nat} (h : n < 2 ^ 31) : ¬ nI n = (-9 : Int32) := fun e => by
  have h1 : (nI n).toInt = (-9 : Int32).toInt := by rw [e]
  rw [nI_toInt h] at h1
  have h2 : (-9 : Int32).toInt = -9 := by decide
  omega
theorem i_lit (k : Nat) (n : Nat) (h : k < 2 ^ 31) (hn : n < 2 ^ 31) : nI k = nI n ↔ k = n := nI_eq h hn
theorem i_sub1 {n : Nat} (h : 0 < n) : nI n - 1 = nI (n - 1) := by
  obtain ⟨k, rfl⟩ : ∃ k, n = k + 1 := ⟨n - 1, by omega⟩
  rw [nI_pred]; rfl
/-- any of the first n -/
def zany (f : Nat → Bool) : Nat → Bool
  | 0 => false
  | n + 1 => zany f n || f n
theorem zany_s (f : Nat → Bool) (n : Nat) : zany f (n + 1) = (zany f n || f n) := rfl
theorem zany_t {f : Nat → Bool} : ∀ {n : Nat}, zany f n = true ↔ ∃ i, i < n ∧ f i = true
  | 0 => by simp [zany]
  | n + 1 => by
    rw [zany_s, Bool.or_eq_true, zany_t]
    constructor
    · rintro (⟨i, hi, h⟩ | h)
      · exact ⟨i, by omega, h⟩
      · exact ⟨n, by omega, h⟩
    · rintro ⟨i, hi, h⟩
      rcases Nat.lt_or_ge i n with h1 | h1
      · exact Or.inl ⟨i, h1, h⟩
      · rw [show n = i by omega]; exact Or.inr h
def b2i (b : Bool) : Int32 := if b then 1 else 0
theorem b2i_0 (b : Bool) : b2i b = 0 ↔ b = false := by cases b <;> simp [b2i]
/-! rows -/
abbrev Row : Type := Nat → Int32
def rpar (ρ : Row) (e : Nat) : Option Nat := if ρ (20 + e) = -9 then none else some (z_ix (ρ (20 + e)))
def rop (ρ : Row) (e : Nat) : Bool := decide (ρ (40 + e) = 1)
def rch (ρ : Row) (n e c : Nat) : Bool := zany (fun o => decide (1 ≤ o) && (decide (ρ (20 + o) = nI e) && decide (ρ o = nI c))) n
def met (ρ : Row) (n : Nat) (q : Bool) (e c : Nat) : Bool := decide (c = 0) || ((q && rop ρ e) || (if c < 6 then rch ρ n e (c - 1) else bt (ρ (60 + e)) (c - 6)))
/-- the elements of a row are in order: n of them -/
def WE (ρ : Row) (n : Nat) : Prop := ρ 80 = nI n ∧ n ≤ 20 ∧ (∀ e, e < n → ∃ c, c < 5 ∧ ρ e = nI c) ∧ (0 < n → ρ 20 = -9) ∧ (∀ e, 0 < e → e < n → ∃ a, a < e ∧ ρ (20 + e) = nI a) ∧ (∀ e, e < n → ρ (40 + e) = 0 ∨ ρ (40 + e) = 1)
theorem we_n {ρ : Row} {n : Nat} (h : WE ρ n) : ρ 80 = nI n := h.1
theorem we_20 {ρ : Row} {n : Nat} (h : WE ρ n) : n ≤ 20 := h.2.1
theorem rpar_0 {ρ : Row} {n : Nat} (h : WE ρ n) (hn : 0 < n) : rpar ρ 0 = none := by
  unfold rpar; rw [if_pos (h.2.2.2.1 hn)]
theorem rpar_p {ρ : Row} {n : Nat} (h : WE ρ n) {e : Nat} (h0 : 0 < e) (he : e < n) : ∃ a, a < e ∧ ρ (20 + e) = nI a ∧ rpar ρ e = some a := by
  obtain ⟨a, ha, hr⟩ := h.2.2.2.2.1 e h0 he
  have h20 := we_20 h
  refine ⟨a, ha, hr, ?_⟩
  unfold rpar
  rw [hr, if_neg (i_ne9 (by omega)), ix_nI (by omega)]
def Fr (K : Nat → Prop) (d d' : Dt) : Prop := (∀ k, ¬ K k → d'.1 k = d.1 k) ∧ d'.2 = d.2
theorem fr_r {K : Nat → Prop} {d : Dt} : Fr K d d := ⟨fun _ _ => rfl, rfl⟩
theorem fr_t {K : Nat → Prop} {d d' d'' : Dt} (h1 : Fr K d d') (h2 : Fr K d' d'') : Fr K d d'' := ⟨fun k hk => (h2.1 k hk).trans (h1.1 k hk), h2.2.trans h1.2⟩
theorem fr_st {K : Nat → Prop} {d : Dt} {k j : Nat} {v : Int32} (h : K k) : Fr K d (z_st d k j v) := ⟨fun k' hk => st_k (fun e => hk (e ▸ h)), rfl⟩
theorem fr_w {K K' : Nat → Prop} {d d' : Dt} (h : Fr K d d') (w : ∀ k, K k → K' k) : Fr K' d d' := ⟨fun k hk => h.1 k (fun q => hk (w k q)), h.2⟩
/-! the reference's small functions -/
theorem m_has (x : Int32) {i : Nat} (hi : i < 32) : fX6_has x (nI i) = some (b2i (bt x i)) := by
  unfold fX6_has
  rw [b_bit x hi]
  cases bt x i
  · exact zif_n (by decide)
  · exact zif_p rfl
theorem m_ones {f : Nat → Bool} {n : Nat} (hn : n ≤ 20) : fX6_ones (zB f n) = some (nI (zc f n)) := by
  have key : Ok (z_lp (bX6_ones_4 (zB f n)) (0, 0)) (fun t => t = nI (zc f n)) := by
    refine ok_for 20 (fun i s => s = (nI (zc (fun k => decide (k < n) && f k) i), nI i)) ?_ ?_ 0 _ (by omega) rfl
    · rintro i s hi rfl
      refine ok_f (fun h => ?_) (ok_nm (ok_nm (ok_c ?_)))
      · have := (nI_leI (a := 20) (b := i) (by omega) (by omega)).mp h
        omega
      · rw [zB_bit (by omega) (by omega), zc_s]
        cases hf : (decide (i < n) && f i) <;> simp
        · exact nI_1 i
        · exact ⟨nI_1 _, nI_1 i⟩
    · rintro s rfl
      unfold bX6_ones_4
      refine ok_t (show (20 : Int32) ≤ nI 20 by decide) (ok_z ?_)
      rw [zc_grow hn (fun i h1 h2 => by simp [show ¬ i < n by omega])]
      exact congrArg nI (zc_cong (fun i hi => by simp [hi]))
  obtain ⟨a, h1, rfl⟩ := key
  unfold fX6_ones
  rw [h1]; rfl

theorem m_child {d : Dt} {a n e : Nat} (h : WE (d.1 a) n) (he : e < n) : fX6_childNames d a (nI e) = some (zB (rch (d.1 a) n e) 5) := by
  have h20 := we_20 h
  have key : Ok (z_lp (bX6_childNames_4 d a (nI e)) (0, 1)) (fun t => t = zB (rch (d.1 a) n e) 5) := by
    have hz : (0 : Int32) = zB (rch (d.1 a) 1 e) 5 := by
      symm; rw [zB_0 (by omega)]; intro i hi; simp [rch, zany]
    rw [hz]
    refine ok_for n (fun i s => s = (zB (rch (d.1 a) i e) 5, nI i)) ?_ ?_ 1 _ (by omega) rfl
    · rintro i s hi rfl
      unfold bX6_childNames_4
      have e80 : d.1 a (z_ix (80 : Int32)) = nI n := h.1
      refine ok_f ?_ ?_
      · rw [e80, nI_leI (by omega) (by omega)]; omega
      · rw [show (20 : Int32) + nI i = nI (20 + i) from nI_add 20 i, ix_nI (by omega)]
        refine ok_gi (vp_in_nI (by omega) (by omega)) ?_
        obtain ⟨c, hc, hcr⟩ := h.2.2.1 i hi
        have step : ∀ b : Bool, (b = (decide (1 ≤ i) && decide (d.1 a (20 + i) = nI e))) → zB (rch (d.1 a) i e) 5 ||| (if b then (1 : Int32) <<< (nI c &&& 31) else 0) = zB (rch (d.1 a) (i + 1) e) 5 := by
          intro b hb
          apply b_ext
          intro k hk
          rw [b_or, bt_zB _ _ (by omega) k hk, bt_zB _ _ (by omega) k hk]
          have e1 : rch (d.1 a) (i + 1) e k = (rch (d.1 a) i e k || (b && decide (c = k))) := by
            show (zany _ i || _) = _
            dsimp only
            rw [hcr, hb]
            have : decide (nI c = nI k) = decide (c = k) := by rw [decide_eq_decide]; exact nI_eq (by omega) (by omega)
            rw [this, Bool.and_assoc]; rfl
          rw [e1]
          cases b
          · simp [b_0]
          · simp only [if_true, b_one (show c < 32 by omega) hk]
            by_cases hkc : k = c
            · subst hkc; simp [hc]
            · simp [hkc, Ne.symm hkc]
        by_cases hp : d.1 a (20 + i) = nI e
        · refine ok_t hp (ok_gi (vp_in_nI (by omega) (by omega)) ?_)
          unfold jX6_childNames_32
          refine ok_nm (ok_nm (ok_c ?_))
          have h0 : 1 ≤ i := by
            rcases Nat.eq_zero_or_pos i with h0 | h0
            · subst h0
              rw [show d.1 a (20 + 0) = -9 from h.2.2.2.1 (by omega)] at hp
              exact absurd hp.symm (i_ne9 (by omega))
            · exact h0
          rw [ix_nI (by omega), hcr]
          have := step true (by simp [h0, hp])
          simp only [if_true] at this
          rw [this]
          exact congrArg (fun z => (zB (rch (d.1 a) (i + 1) e) 5, z)) (nI_1 i)
        · refine ok_f hp ?_
          unfold jX6_childNames_32
          refine ok_nm (ok_nm (ok_c ?_))
          have := step false (by simp [hp])
          simp only [Bool.false_eq_true, if_false] at this
          rw [this]
          exact congrArg (fun z => (zB (rch (d.1 a) (i + 1) e) 5, z)) (nI_1 i)
    · rintro s rfl
      unfold bX6_childNames_4
      have e80 : d.1 a (z_ix (80 : Int32)) = nI n := h.1
      exact ok_t (by rw [e80, nI_leI (by omega) (by omega)]; omega) (ok_z rfl)
  obtain ⟨t, h1, rfl⟩ := key
  unfold fX6_childNames
  rw [h1]; rfl
theorem m_isMet {d : Dt} {a n e c : Nat} (q : Bool) (h : WE (d.1 a) n) (he : e < n) (hc : c < 16) : fX6_isMet d a (nI c) (nI e) (b2i q) = some (b2i (met (d.1 a) n q e c)) := by
  have h20 := we_20 h
  have tail : ∀ (h0 : ¬ c = 0) (hq : (q && rop (d.1 a) e) = false), jX6_isMet_21 (nI c) (nI e) d a = some (b2i (met (d.1 a) n q e c)) := by
    intro h0 hq
    unfold jX6_isMet_21 met
    rw [hq]
    by_cases h6 : c < 6
    · rw [zif_n (show ¬ (6 : Int32) ≤ nI c from fun z => by have := (nI_leI (a := 6) (b := c) (by omega) (by omega)).mp z; omega), m_child h he]
      show z_br (fX6_has _ _) _ = _
      rw [i_sub1 (by omega), m_has _ (by omega), bt_zB _ _ (by omega) _ (by omega)]
      simp [h0, h6, show c - 1 < 5 by omega, z_br]
    · rw [zif_p (show (6 : Int32) ≤ nI c from (nI_leI (a := 6) (b := c) (by omega) (by omega)).mpr (by omega)), show (60 : Int32) + nI e = nI (60 + e) from nI_add 60 e]
      have hg : z_in (nI (60 + e)) 214 = true := in_t (by omega) (by omega)
      rw [hg]
      show z_br (fX6_has _ _) _ = _
      rw [show nI c - (6 : Int32) = nI (c - 6) from pk_sub (a := c) (b := 6) (by omega), m_has _ (by omega), ix_nI (by omega)]
      simp [h0, h6, z_br]
  unfold fX6_isMet
  by_cases h0 : c = 0
  · subst h0
    rw [zif_p (show nI 0 = 0 from nI_0)]
    simp [met, b2i]
  · rw [zif_n (nI_ne0 (by omega) (by omega))]
    cases q
    · rw [zif_p (show b2i false = 0 from rfl)]
      exact tail h0 rfl
    · rw [zif_n (show ¬ b2i true = 0 by decide), show (40 : Int32) + nI e = nI (40 + e) from nI_add 40 e]
      have hg : z_in (nI (40 + e)) 214 = true := in_t (by omega) (by omega)
      rw [hg]
      show zif _ _ _ = _
      rw [ix_nI (by omega)]
      by_cases ho : d.1 a (40 + e) = 1
      · rw [zif_p ho]
        simp [met, rop, ho, b2i]
      · rw [zif_n ho]
        exact tail h0 (by simp [rop, ho])
