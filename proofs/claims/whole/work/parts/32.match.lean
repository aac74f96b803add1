/-! the way to an element -/
def dep (ρ : Row) (e : Nat) : Nat := match rpar ρ e with
  | none => 1
  | some a => if h : a < e then dep ρ a + 1 else 1
termination_by e
theorem dep_n {ρ : Row} {e : Nat} (h : rpar ρ e = none) : dep ρ e = 1 := by unfold dep; rw [h]
theorem dep_p {ρ : Row} {e a : Nat} (h : rpar ρ e = some a) (ha : a < e) : dep ρ e = dep ρ a + 1 := by rw [dep, h]; simp [ha]
theorem dep_1 {ρ : Row} {e : Nat} : 1 ≤ dep ρ e := by
  rw [dep]
  split
  · omega
  · split <;> omega
def wy (ρ : Row) (e k : Nat) : Nat := if k + 1 = dep ρ e then e else match rpar ρ e with
  | none => e
  | some a => if h : a < e then wy ρ a k else e
termination_by e
theorem wy_t {ρ : Row} {e k : Nat} (h : k + 1 = dep ρ e) : wy ρ e k = e := by rw [wy, if_pos h]
theorem wy_p {ρ : Row} {e a k : Nat} (h : ¬ k + 1 = dep ρ e) (hp : rpar ρ e = some a) (ha : a < e) : wy ρ e k = wy ρ a k := by rw [wy, if_neg h, hp]; simp [ha]
/-- an element is the first, or has a parent before it -/
theorem we_c {ρ : Row} {n e : Nat} (h : WE ρ n) (he : e < n) : (e = 0 ∧ rpar ρ e = none ∧ ρ (20 + e) = -9) ∨ ∃ a, a < e ∧ rpar ρ e = some a ∧ ρ (20 + e) = nI a ∧ 0 < e := by
  rcases Nat.eq_zero_or_pos e with h0 | h0
  · subst h0; exact Or.inl ⟨rfl, rpar_0 h he, h.2.2.2.1 he⟩
  · obtain ⟨a, h1, h2, h3⟩ := rpar_p h h0 he
    exact Or.inr ⟨a, h1, h3, h2, h0⟩
theorem wy_all {ρ : Row} {n : Nat} (h : WE ρ n) : ∀ e, e < n → ∀ k, k < dep ρ e → wy ρ e k ≤ e ∧ dep ρ (wy ρ e k) = k + 1 := by
  intro e
  induction e using Nat.strongRecOn with
  | ind e ih =>
    intro he k hk
    by_cases ht : k + 1 = dep ρ e
    · rw [wy_t ht]; exact ⟨Nat.le_refl _, ht.symm⟩
    · rcases we_c h he with ⟨-, h2, -⟩ | ⟨a, h1, h2, -, -⟩
      · rw [dep_n h2] at hk ht; omega
      · rw [wy_p ht h2 h1]
        rw [dep_p h2 h1] at hk ht
        have := ih a h1 (by omega) k (by omega)
        exact ⟨by omega, this.2⟩
theorem wy_par {ρ : Row} {n : Nat} (h : WE ρ n) : ∀ e, e < n → ∀ k, k + 1 < dep ρ e → rpar ρ (wy ρ e (k + 1)) = some (wy ρ e k) ∧ wy ρ e k < wy ρ e (k + 1) := by
  intro e
  induction e using Nat.strongRecOn with
  | ind e ih =>
    intro he k hk
    rcases we_c h he with ⟨-, h2, -⟩ | ⟨a, h1, h2, -, -⟩
    · rw [dep_n h2] at hk; omega
    · have hd := dep_p h2 h1
      by_cases ht : k + 1 + 1 = dep ρ e
      · rw [wy_t ht, wy_p (by omega) h2 h1, wy_t (by omega)]
        exact ⟨h2, h1⟩
      · rw [wy_p ht h2 h1, wy_p (by omega) h2 h1]
        exact ih a h1 (by omega) k (by omega)
theorem wy_0 {ρ : Row} {n e : Nat} (h : WE ρ n) (he : e < n) : wy ρ e 0 = 0 := by
  have h1 := wy_all h e he 0 dep_1
  rcases we_c h (show wy ρ e 0 < n by omega) with ⟨h2, -, -⟩ | ⟨a, h2, h3, -, -⟩
  · exact h2
  · rw [dep_p h3 h2] at h1
    have := dep_1 (ρ := ρ) (e := a)
    omega
theorem g214 {k : Nat} (h : k < 214) : z_in (nI k) 214 = true := in_t h (by omega)
theorem g_of {k n : Nat} (h : k < n) (hn : n < 2 ^ 31) : z_in (nI k) n = true := in_t h hn
theorem m_dep9 {d : Dt} {a : Nat} {k : Int32} : bX6_depthOf_4 d a (k, -9) = some (.inr k) := by
  unfold bX6_depthOf_4
  dsimp only
  rw [zif_p rfl]
theorem m_dep_lp {d : Dt} {a n : Nat} (h : WE (d.1 a) n) : ∀ e, e < n → ∀ acc : Int32, z_lp (bX6_depthOf_4 d a) (acc, nI e) = some (acc + nI (dep (d.1 a) e)) := by
  have h20 := we_20 h
  intro e
  induction e using Nat.strongRecOn with
  | ind e ih =>
    intro he acc
    have hb : bX6_depthOf_4 d a (acc, nI e) = some (.inl (acc + 1, d.1 a (20 + e))) := by
      unfold bX6_depthOf_4
      show zif _ _ _ = _
      rw [zif_n (i_ne9 (by omega)), show (20 : Int32) + nI e = nI (20 + e) from nI_add 20 e, g214 (by omega), ix_nI (by omega)]
      rfl
    rw [z_lp_eq, hb]
    show z_lp _ _ = _
    rcases we_c h he with ⟨-, h2, h3⟩ | ⟨x, h1, h2, h3, -⟩
    · rw [h3, dep_n h2, z_lp_eq, m_dep9]
      rfl
    · rw [h3, ih x h1 (by omega), dep_p h2 h1, ← nI_1]
      congr 1
      rw [Int32.add_assoc, Int32.add_comm 1]
theorem m_depth {d : Dt} {a n e : Nat} (h : WE (d.1 a) n) (he : e < n) : fX6_depthOf d a (nI e) = some (nI (dep (d.1 a) e)) := by
  unfold fX6_depthOf
  rw [m_dep_lp h e he]
  show some _ = _
  rw [Int32.zero_add]
theorem m_depth9 {d : Dt} {a : Nat} : fX6_depthOf d a (-9) = some 0 := by
  unfold fX6_depthOf
  rw [z_lp_eq, m_dep9]
  rfl
theorem m_way5 {d : Dt} {a n : Nat} (h : WE (d.1 a) n) : ∀ e, e < n → ∀ acc : Int32, z_lp (bX6_layWay_5 d a) (acc, nI e) = some (acc + nI (dep (d.1 a) e)) := m_dep_lp h
theorem m_way33_9 {a : Nat} {k : Int32} {d : Dt} : bX6_layWay_33 a (k, -9, d) = some (.inr d) := by
  unfold bX6_layWay_33
  dsimp only
  rw [zif_p rfl]
theorem a20 (e : Nat) : (20 : Int32) + nI e = nI (20 + e) := nI_add 20 e
theorem m_way33_a {a : Nat} {k e : Int32} {d : Dt} (h9 : ¬ e = -9) (h1 : z_in (k + (-1 : Int32)) 8 = true) (h2 : z_in ((20 : Int32) + e) 214 = true) : bX6_layWay_33 a (k, e, d) = some (.inl (k + (-1 : Int32), (z_st d 9 (z_ix (k + (-1 : Int32))) e).1 a (z_ix ((20 : Int32) + e)), z_st d 9 (z_ix (k + (-1 : Int32))) e)) := by
  unfold bX6_layWay_33
  dsimp only
  rw [zif_n h9]
  simp only [z_nme, h1, h2, gd_t]
theorem m_way33_s {a : Nat} (ha : a ≠ 9) {k e : Nat} (hk : k < 8) (he : e < 20) {d : Dt} : bX6_layWay_33 a (nI (k + 1), nI e, d) = some (.inl (nI k, d.1 a (20 + e), z_st d 9 k (nI e))) := by
  have h1 : z_in (nI k) 8 = true := g_of hk (by omega)
  have h2 : z_in (nI (20 + e)) 214 = true := g214 (by omega)
  have h3 : z_ix (nI k) = k := ix_nI (by omega)
  have h4 : z_ix (nI (20 + e)) = 20 + e := ix_nI (by omega)
  have h5 : (z_st d 9 k (nI e)).1 a = d.1 a := st_k ha
  rw [m_way33_a (i_ne9 (by omega)) (by rw [pk_m1]; exact h1) (by rw [a20]; exact h2), pk_m1, a20, h3, h4, h5]
theorem m_way33 {a n : Nat} (ha : a ≠ 9) : ∀ e, ∀ d : Dt, WE (d.1 a) n → e < n → ∀ D, dep (d.1 a) e = D → D ≤ 8 → ∃ d', z_lp (bX6_layWay_33 a) (nI D, nI e, d) = some d' ∧ Fr (fun k => k = 9) d d' ∧ (∀ k, k < D → d'.1 9 k = nI (wy (d.1 a) e k)) ∧ (∀ k, D ≤ k → d'.1 9 k = d.1 9 k) := by
  intro e
  induction e using Nat.strongRecOn with
  | ind e ih =>
    intro d h he D hD h8
    have h20 := we_20 h
    have h1 := dep_1 (ρ := d.1 a) (e := e)
    rw [hD] at h1
    obtain ⟨k, rfl⟩ : ∃ k, D = k + 1 := ⟨D - 1, by omega⟩
    rw [z_lp_eq, m_way33_s ha (by omega) (by omega)]
    show ∃ d', z_lp (bX6_layWay_33 a) (nI k, d.1 a (20 + e), z_st d 9 k (nI e)) = some d' ∧ _
    have hk : (z_st d 9 k (nI e)).1 a = d.1 a := st_k ha
    rcases we_c h he with ⟨-, h2, h3⟩ | ⟨x, hx, h2, h3, -⟩
    · rw [h3]
      have hd := dep_n h2
      refine ⟨z_st d 9 k (nI e), ?_, fr_st rfl, ?_, ?_⟩
      · rw [z_lp_eq, m_way33_9]
      · intro j hj
        rw [show j = k by omega, st_eq, wy_t hD.symm]
      · intro j hj
        exact st_j (by omega)
    · have hd := dep_p h2 hx
      rw [h3]
      obtain ⟨d', e1, e2, e3, e4⟩ := ih x hx (z_st d 9 k (nI e)) (by rw [hk]; exact h) (by omega) k (by rw [hk]; omega) (by omega)
      rw [hk] at e3
      refine ⟨d', e1, fr_t (fr_st rfl) e2, ?_, ?_⟩
      · intro j hj
        by_cases hj2 : j < k
        · rw [e3 j hj2, wy_p (by omega) h2 hx]
        · rw [e4 j (by omega), show j = k by omega, st_eq, wy_t hD.symm]
      · intro j hj
        rw [e4 j (by omega), st_j (by omega)]
theorem m_layWay {d : Dt} {a n e : Nat} (ha : a ≠ 9) (h : WE (d.1 a) n) (he : e < n) (h8 : dep (d.1 a) e ≤ 8) : ∃ d', fX6_layWay d a (nI e) = some (nI (dep (d.1 a) e), d') ∧ Fr (fun k => k = 9) d d' ∧ ∀ k, k < dep (d.1 a) e → d'.1 9 k = nI (wy (d.1 a) e k) := by
  obtain ⟨d', e1, e2, e3, -⟩ := m_way33 ha e d h he _ rfl h8
  refine ⟨d', ?_, e2, e3⟩
  unfold fX6_layWay
  rw [m_way5 h e he, Int32.zero_add]
  show z_br (z_lp _ _) _ = _
  rw [e1]; rfl
