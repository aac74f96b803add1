/-! THE PUBLIC METHODS: what is asked of paths -/
section MT
variable {d : Dt} {b a n m B p : Nat} {ρ : Row}
theorem c_mt (hb : isSt b) (hS : StR d b ρ n m) (hI : Inv0 ρ n m B) (hp : p < m) : ∃ d', fX1_match d (b + 1) (b + 8 + 4 * p) = some d' ∧ d'.1 60 4 = zB (aB ρ n p) n ∧ d'.1 60 5 = zB (dB ρ n p) n ∧ (∀ e, e < n → d'.1 61 e = zB (sS ρ n false (rcd ρ p) (rts ρ p) e) (rL ρ p)) ∧ Fr Km d d' := by
  have hm := hI.2.2.2.1
  exact c_match (st_el hb) (st_pa hb (by omega)) hS.1 hI.1 (hS.2.2 p hp).1
theorem m_ans (ha : a ≠ 9 ∧ a ≠ 10) (hot : d.1 0 13 = -9) (hI : Inv0 (d.1 a) n m B) (hp : p < m) : ∃ d', fX6_answersOf d a (nI p) = some (zB (aB (d.1 a) n p) n, d') ∧ Fr K9 d d' :=
  m_answersOf ha hI.1 hI.2.1 (hI.2.2.2.2.1 p hp) (by have := hI.2.2.2.1; omega) (ts_std hot)
theorem m_dbt (ha : a ≠ 9 ∧ a ≠ 10) (hot : d.1 0 13 = -9) (hI : Inv0 (d.1 a) n m B) (hp : p < m) : ∃ d', fX6_doubtsOf d a (nI p) = some (zB (dB (d.1 a) n p) n, d') ∧ Fr K9 d d' :=
  m_doubtsOf ha hI.1 hI.2.1 (hI.2.2.2.2.1 p hp) (by have := hI.2.2.2.1; omega) (ts_std hot)
theorem m_out (ha : a ≠ 9 ∧ a ≠ 10) (hot : d.1 0 13 = -9) (hI : Inv0 (d.1 a) n m B) (hp : p < m) : ∃ d', fX6_outOf d a (nI p) = some (zB (oB (d.1 a) n p) n, d') ∧ Fr K9 d d' :=
  m_outOf ha hI.1 hI.2.1 (hI.2.2.2.2.1 p hp) (by have := hI.2.2.2.1; omega) (ts_std hot)
theorem m_held (ha : a ≠ 9 ∧ a ≠ 10) (hot : d.1 0 13 = -9) (hI : Inv0 (d.1 a) n m B) (hp : p < m) : ∃ d', fX6_heldOf d a (nI p) = some (nI (heldN (d.1 a) n p), d') ∧ Fr K9 d d' :=
  m_heldOf ha hI.1 hI.2.1 (hI.2.2.2.2.1 p hp) (by have := hI.2.2.2.1; omega) (ts_std hot)
theorem wh_oB (hW : InvW ρ n m) (hp : p < m) (hn : n ≤ 20) : ∀ e, e < n → whO ρ p e = oB ρ n p e := fun e he => by
  rw [hW p hp e (by omega)]; unfold oN; simp [he]
theorem wh_cnt (hW : InvW ρ n m) (hp : p < m) (hn : n ≤ 20) : zc (whO ρ p) 20 = zc (oB ρ n p) n := by
  rw [zc_grow hn (fun e h1 h2 => by rw [hW p hp e h2]; unfold oN; simp [show ¬ e < n by omega])]
  exact zc_cong (wh_oB hW hp hn)
end MT
section AS
variable {dc dm : Dt} {B : Nat}
theorem frm_9 {dm dm' : Dt} (h : Fr K9 dm dm') : FrM dm dm' := frm_of (fr_w h (fun k hk => k9_sm hk))
theorem frc_m {dc dc' : Dt} (h : Fr Km dc dc') : Fr Sc dc dc' := fr_w h (fun k hk => km_sc hk)
theorem p_within (h : Rel dc dm B) (x y : Int32) : Sim (fX5_within dc x y) (fX6_within dm x y) B := by
  obtain ⟨n, m, s1, s2⟩ := id h.1
  have hot := h.2.2.2.2.2.2
  have h83 := s2.1.2.2.1
  have hm5 := s2.1.2.2.2.1
  unfold fX5_within fX6_within fX5_answersOf
  rcases is_cases x (m := m) (by omega) with ⟨p, hp, rfl⟩ | hx
  · rw [c_isPath1 s1.2.1 hp hm5, m_isPath1 h83 hp hm5, br_s, br_s, z10, z10]
    rcases is_cases y (m := m) (by omega) with ⟨q, hq, rfl⟩ | hy
    · rw [c_isPath1 s1.2.1 hq hm5, m_isPath1 h83 hq hm5, br_s, br_s, z10, z10]
      obtain ⟨d1, e1, e2, -, -, f1⟩ := c_mt st1 s1 s2.1 hp
      obtain ⟨g1, k1, k2⟩ := m_ans (a := 2) (by omega) hot s2.1 hp
      have s1' := str_fr hm5 s1 f1 (fun k hk => by omega)
      have eq2 : g1.1 2 = dm.1 2 := k2.1 2 (by omega)
      have eq0 : g1.1 0 = dm.1 0 := k2.1 0 (by omega)
      obtain ⟨d2, e3, e4, -, -, f2⟩ := c_mt st1 s1' s2.1 hq
      obtain ⟨g2, k3, k4⟩ := m_ans (d := g1) (a := 2) (by omega) (by rw [eq0]; exact hot) (by rw [eq2]; exact s2.1) hq
      rw [eq2] at k3
      rw [in_t (show p < 5 by omega) (by omega), gd_t, ix_nI (by omega), e1, br_s, bd_s, in_t (show q < 5 by omega) (by omega), gd_t, ix_nI (by omega), e3, br_s, bd_s, k1, bd_s, k3, bd_s, e2, e4]
      have hR := rel_fr h (fr_t (frc_m f1) (frc_m f2)) (frm_t (frm_9 k2) (frm_9 k4))
      by_cases hz : zB (aB (dm.1 2) n p) n &&& (zB (aB (dm.1 2) n q) n ^^^ (-1)) = 0
      · rw [zif_p hz, zif_p hz]; exact ⟨_, _, _, rfl, rfl, hR⟩
      · rw [zif_n hz, zif_n hz]; exact ⟨_, _, _, rfl, rfl, hR⟩
    · rw [c_isPath0 s1.2.1 hy, m_isPath0 h83 hm5 hy, br_s, br_s, z00, z00]
      exact ⟨_, _, _, rfl, rfl, h⟩
  · rw [c_isPath0 s1.2.1 hx, m_isPath0 h83 hm5 hx, br_s, br_s, z00, z00]
    exact ⟨_, _, _, rfl, rfl, h⟩
theorem p_step (h : Rel dc dm B) (x y : Int32) : ∃ r, fX5_step dc x y = some r ∧ fX6_step dm x y = some r := by
  obtain ⟨n, m, s1, s2⟩ := id h.1
  have h83 := s2.1.2.2.1
  have hm5 := s2.1.2.2.2.1
  unfold fX5_step fX6_step
  rcases is_cases x (m := m) (by omega) with ⟨p, hp, rfl⟩ | hx
  · rw [c_isPath1 s1.2.1 hp hm5, m_isPath1 h83 hp hm5, br_s, br_s, z10, z10]
    obtain ⟨⟨q1, q2, q3, q4⟩, -⟩ := s1.2.2 p hp
    obtain ⟨r1, r2, r3, r4⟩ := s2.1.2.2.2.2.1 p hp
    rw [show (84 : Int32) + nI p = nI (84 + p) from nI_add 84 p, in_t (show 84 + p < 214 by omega) (by omega), gd_t, ix_nI (show 84 + p < 2 ^ 31 by omega), r1, in_t (show p < 5 by omega) (by omega), gd_t, gd_t, ix_nI (show p < 2 ^ 31 by omega), show dc.1 (9 + 4 * p) 3 = nI (rL (dm.1 2) p) from q1]
    rcases is_cases y (m := rL (dm.1 2) p) (by omega) with ⟨i, hi, rfl⟩ | hy
    · rw [zif_n (nI_pos (by omega)), zif_p ((nI_ltI (by omega) (by omega)).mpr hi), in_t (show i < 4 by omega) (by omega), gd_t, ix_nI (by omega), in_p hi (by omega), br_s, z10, a4p, nI_add, in_t (show 89 + 4 * p + i < 214 by omega) (by omega), gd_t, ix_nI (by omega)]
      refine ⟨_, rfl, ?_⟩
      rw [show dc.1 (9 + 4 * p + 1) i = nI (rcd (dm.1 2) p i) from (q4 i hi).1, (r4 i hi).1]
    · rw [in_n (by omega) hy, br_s, z00]
      refine ⟨_, ?_, rfl⟩
      by_cases h0 : y < 0
      · rw [zif_p h0]
      · rw [zif_n h0, zif_n (Int32.not_lt.mpr (hy.resolve_left h0))]
  · rw [c_isPath0 s1.2.1 hx, m_isPath0 h83 hm5 hx, br_s, br_s, z00, z00]
    exact ⟨_, rfl, rfl⟩
theorem p_ends (h : Rel dc dm B) (x y : Int32) : Sim (fX5_ends dc x y) (fX6_ends dm x y) B := by
  obtain ⟨n, m, s1, s2⟩ := id h.1
  have hot := h.2.2.2.2.2.2
  have h83 := s2.1.2.2.1
  have hm5 := s2.1.2.2.2.1
  have h80 := s2.1.1.1
  have h20 := we_20 s2.1.1
  have hc80 : dc.1 2 6 = nI n := s1.1.2.1.trans h80
  unfold fX5_ends fX6_ends
  rcases is_cases x (m := m) (by omega) with ⟨p, hp, rfl⟩ | hx
  · rw [c_isPath1 s1.2.1 hp hm5, m_isPath1 h83 hp hm5, br_s, br_s, z10, z10]
    rcases is_cases y (m := n) (by omega) with ⟨e, he, rfl⟩ | hy
    · rw [c_isEl1 hc80 he h20, m_isEl1 h80 he h20, br_s, br_s, z10, z10]
      obtain ⟨d1, e1, -, -, e4, f1⟩ := c_mt st1 s1 s2.1 hp
      obtain ⟨g1, k1, k2⟩ := m_endsOf (q := false) (d := dm) (a := 2) (by omega) s2.1.1 s2.1.2.1 (s2.1.2.2.2.2.1 p hp) (show p < 5 by omega) (ts_std hot) he
      rw [show b2i false = (0 : Int32) from rfl] at k1
      rw [in_t (show p < 5 by omega) (by omega), gd_t, ix_nI (by omega), show fX1_match dc 2 (9 + 4 * p) = some d1 from e1, br_s, in_t (show e < 20 by omega) (by omega), gd_t, ix_nI (by omega), k1, bd_s, e4 e he]
      exact ⟨_, _, _, rfl, rfl, rel_fr h (frc_m f1) (frm_9 k2)⟩
    · rw [c_isEl0 hc80 hy, m_isEl0 h80 h20 hy, br_s, br_s, z00, z00]
      exact ⟨_, _, _, rfl, rfl, h⟩
  · rw [c_isPath0 s1.2.1 hx, m_isPath0 h83 hm5 hx, br_s, br_s, z00, z00]
    exact ⟨_, _, _, rfl, rfl, h⟩
end AS
