/-! path, out, element, about, keeping -/
section AT
variable {dc dm : Dt} {B : Nat}
theorem p_path (hB : B + 9 < 2 ^ 31) (h : Rel dc dm B) (x y : Int32) : Sim (fX5_path dc x y) (fX6_path dm x y) B := by
  obtain ⟨n, m, s1, s2⟩ := id h.1
  have hot := h.2.2.2.2.2.2
  have h83 := s2.1.2.2.1
  have hm5 := s2.1.2.2.2.1
  have h20 := we_20 s2.1.1
  unfold fX5_path fX6_path
  rcases is_cases x (m := m) (by omega) with ⟨p, hp, rfl⟩ | hx
  · rw [c_isPath1 s1.2.1 hp hm5, m_isPath1 h83 hp hm5, br_s, br_s, z10, z10]
    rcases is_cases y (m := 7) (by omega) with ⟨w, hw, rfl⟩ | hy
    · obtain ⟨d1, e1, f1⟩ := c_number (B := B) st1 s1 s2 hp w (by omega)
      rw [zif_n (nI_pos (by omega)), zif_p (show nI w ≤ (6 : Int32) from (nI_leI (b := 6) (by omega) (by omega)).mpr (by omega)), e1, bd_s]
      have r1 := (s2.1.2.2.2.2.1 p hp).1
      have hc : w = 0 ∨ w = 1 ∨ w = 2 ∨ w = 3 ∨ w = 4 ∨ w = 5 ∨ w = 6 := by omega
      rcases hc with rfl | rfl | rfl | rfl | rfl | rfl | rfl
      · rw [zif_p (show nI 0 = (0 : Int32) from rfl), show (84 : Int32) + nI p = nI (84 + p) from nI_add 84 p, in_t (show 84 + p < 214 by omega) (by omega), gd_t, ix_nI (by omega), r1]
        exact ⟨_, _, _, rfl, rfl, rel_fr h (frc_m f1) (frm_of fr_r)⟩
      · rw [zif_n (show ¬ nI 1 = (0 : Int32) by decide), zif_p (show nI 1 = (1 : Int32) from rfl)]
        obtain ⟨g1, k1, k2⟩ := m_ans (a := 2) (by omega) hot s2.1 hp
        rw [k1, bd_s, m_ones h20, br_s]
        exact ⟨_, _, _, rfl, rfl, rel_fr h (frc_m f1) (frm_9 k2)⟩
      · rw [zif_n (show ¬ nI 2 = (0 : Int32) by decide), zif_n (show ¬ nI 2 = (1 : Int32) by decide), zif_p (show nI 2 = (2 : Int32) from rfl)]
        obtain ⟨g1, k1, k2⟩ := m_out (a := 2) (by omega) hot s2.1 hp
        rw [k1, bd_s, m_ones h20, br_s]
        exact ⟨_, _, _, rfl, rfl, rel_fr h (frc_m f1) (frm_9 k2)⟩
      · rw [zif_n (show ¬ nI 3 = (0 : Int32) by decide), zif_n (show ¬ nI 3 = (1 : Int32) by decide), zif_n (show ¬ nI 3 = (2 : Int32) by decide), zif_p (show nI 3 = (3 : Int32) from rfl)]
        obtain ⟨g1, k1, k2⟩ := m_held (a := 2) (by omega) hot s2.1 hp
        rw [k1, bd_s]
        exact ⟨_, _, _, rfl, rfl, rel_fr h (frc_m f1) (frm_9 k2)⟩
      · rw [zif_n (show ¬ nI 4 = (0 : Int32) by decide), zif_n (show ¬ nI 4 = (1 : Int32) by decide), zif_n (show ¬ nI 4 = (2 : Int32) by decide), zif_n (show ¬ nI 4 = (3 : Int32) by decide), zif_p (show nI 4 = (4 : Int32) from rfl), a109, in_t (show 109 + p < 214 by omega) (by omega), gd_t, ix_nI (by omega)]
        exact ⟨_, _, _, rfl, rfl, rel_fr h (frc_m f1) (frm_of fr_r)⟩
      · rw [zif_n (show ¬ nI 5 = (0 : Int32) by decide), zif_n (show ¬ nI 5 = (1 : Int32) by decide), zif_n (show ¬ nI 5 = (2 : Int32) by decide), zif_n (show ¬ nI 5 = (3 : Int32) by decide), zif_n (show ¬ nI 5 = (4 : Int32) by decide), zif_p (show nI 5 = (5 : Int32) from rfl)]
        obtain ⟨g1, k1, k2⟩ := m_dbt (a := 2) (by omega) hot s2.1 hp
        rw [k1, bd_s, m_ones h20, br_s]
        exact ⟨_, _, _, rfl, rfl, rel_fr h (frc_m f1) (frm_9 k2)⟩
      · rw [zif_n (show ¬ nI 6 = (0 : Int32) by decide), zif_n (show ¬ nI 6 = (1 : Int32) by decide), zif_n (show ¬ nI 6 = (2 : Int32) by decide), zif_n (show ¬ nI 6 = (3 : Int32) by decide), zif_n (show ¬ nI 6 = (4 : Int32) by decide), zif_n (show ¬ nI 6 = (5 : Int32) by decide), zif_p (show nI 6 = (6 : Int32) from rfl)]
        obtain ⟨g1, k1, k2, k3⟩ := m_copy dm (show 2 ≠ 3 by omega)
        have hI3 : InvS (g1.1 3) n m B := invs_a2 k2 s2
        have hot1 : g1.1 0 13 = -9 := by rw [k3.1 0 (by omega)]; exact hot
        obtain ⟨g2, k4, k5, ⟨B', k6⟩, k7, k8⟩ := m_shut hB hot1 hI3.1
        obtain ⟨g3, k9, k10⟩ := m_out (d := g2) (a := 3) (by omega) (by rw [k8.1 0 (by omega)]; exact hot1) k6 hp
        have hset : zB (oB (g2.1 3) n p) n = zB (aB (dm.1 2) n p) n := zB_cong (fun e he => by
          rw [shut_oB k6 k5 he, k7 p hp e he, ag_aB (a2_ag k2) h20 (by omega) (s2.1.2.2.2.2.1 p hp) (by omega)])
        rw [k1, br_s, k4, br_s]
        show Sim _ (z_bd (fX6_outOf g2 3 (nI p)) _) B
        rw [k9, hset, bd_s, m_ones h20, br_s]
        refine ⟨_, _, _, rfl, rfl, rel_fr h (frc_m f1) (frm_t (frm_of (fr_w k3 (fun k hk => Or.inl hk))) (frm_t (frm_of (fr_w k8 (fun k hk => hk.elim k9_sm (fun z => Or.inl z)))) (frm_9 k10)))⟩
    · refine ⟨-2, dc, dm, ?_, ?_, h⟩
      · by_cases h0 : y < 0
        · rw [zif_p h0]
        · rw [zif_n h0, zif_n]
          have := hy.resolve_left h0
          obtain ⟨j, hj, rfl⟩ := nI_of h0
          have h2 := (nI_leI (a := 7) (by omega) hj).mp this
          exact fun z => by have := (nI_leI (b := 6) hj (by omega)).mp z; omega
      · have ne : ∀ w, w < 7 → ¬ y = nI w := fun w hw z => by
          subst z
          rcases hy with hy | hy
          · exact nI_pos (by omega) hy
          · have := (nI_leI (a := 7) (by omega) (by omega)).mp hy; omega
        rw [zif_n (show ¬ y = (0 : Int32) from ne 0 (by omega)), zif_n (show ¬ y = (1 : Int32) from ne 1 (by omega)), zif_n (show ¬ y = (2 : Int32) from ne 2 (by omega)), zif_n (show ¬ y = (3 : Int32) from ne 3 (by omega)), zif_n (show ¬ y = (4 : Int32) from ne 4 (by omega)), zif_n (show ¬ y = (5 : Int32) from ne 5 (by omega)), zif_n (show ¬ y = (6 : Int32) from ne 6 (by omega))]
  · rw [c_isPath0 s1.2.1 hx, m_isPath0 h83 hm5 hx, br_s, br_s, z00, z00]
    exact ⟨_, _, _, rfl, rfl, h⟩
end AT
