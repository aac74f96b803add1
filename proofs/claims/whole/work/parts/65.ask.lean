section AQ
variable {dc dm : Dt} {B : Nat}
theorem p_ask (hB : B < 2 ^ 31) (h : Rel dc dm B) (x : Int32) (y : Int64) : Sim (fX5_ask dc x y) (fX6_ask dm x y) B := by
  unfold fX5_ask fX6_ask
  by_cases hx : x < 1 ∨ (4 : Int32) < x
  · rw [show fX6_in x.toInt64 1 4 = some 0 from in_0i (a := 1) (b := 4) hx, br_s, z00]
    refine ⟨-2, dc, dm, ?_, rfl, h⟩
    by_cases h1 : x < 1
    · rw [zif_p h1]
    · rw [zif_n h1, zif_p (hx.resolve_left h1)]
  · obtain ⟨nn, hn, hn4, rfl⟩ : ∃ nn, 1 ≤ nn ∧ nn ≤ 4 ∧ x = nI nn := by
      have h1 : ¬ x < 0 := fun z => hx (Or.inl (Int32.lt_trans z (by decide)))
      obtain ⟨j, hj, rfl⟩ := nI_of h1
      refine ⟨j, ?_, ?_, rfl⟩
      · rcases Nat.eq_zero_or_pos j with h0 | h0
        · subst h0; exact absurd (Or.inl (by decide)) hx
        · exact h0
      · rcases Nat.lt_or_ge 4 j with h0 | h0
        · exact absurd (Or.inr ((nI_ltI (a := 4) (by omega) hj).mpr h0)) hx
        · exact h0
    rw [zif_n (fun z => hx (Or.inl z)), zif_n (fun z => hx (Or.inr z)), show fX6_in (nI nn).toInt64 1 4 = some 1 from in_1i (a := 1) (b := 4) ((nI_leI (a := 1) (by omega) (by omega)).mpr (by omega)) ((nI_leI (b := 4) (by omega) (by omega)).mpr (by omega)), br_s, z10, m_tenth (by omega), br_s]
    rcases in_row (bs := 10000) (n := nn) (Or.inr rfl) (by omega) y with ⟨v, hv, rfl, hi⟩ | ⟨hi, hy⟩
    · rw [hi, br_s, z10]
      have hv63 : v < 2 ^ 63 := by have := pw_4 (bs := 10000) (k := nn) (Or.inr rfl) (by omega); omega
      obtain ⟨dc2, e1, e2, e3⟩ := c_splits (d := dc) (bs := 10000) hv63 hn (by omega) (by omega) (by omega)
      rw [show fX5_splits dc (lN v) 10000 (nI nn) = _ from e1, bd_s, show b2i (decide (v < 10000 ^ nn)) = 1 by simp [hv, b2i], z10]
      have f2 : Fr Sc dc dc2 := fr_w e3 (fun k hk => by subst hk; unfold Sc; omega)
      have hR2 := rel_fr h f2 (frm_of fr_r)
      have e2' : ∀ i, i < nn → dc2.1 70 i = nI (cdN v nn i) := fun i hi => by rw [e2 i hi]; unfold cdN; rw [if_pos hi]
      obtain ⟨t, l1, l2⟩ := m_allC hv63 hn4
      rw [c_allC hn4 e2', br_s, l1, br_s]
      rcases bool2 (allC v nn) with ha | ha
      · rw [ha] at l2
        rw [if_neg (by decide)] at l2
        subst l2
        rw [ha, zif_p (show b2i false = 0 from rfl)]
        exact ⟨_, _, _, rfl, rfl, hR2⟩
      · rw [ha, if_pos rfl] at l2
        subst l2
        rw [ha, zif_n (show ¬ b2i true = 0 by decide)]
        have hcds := allC_cds hn hn4 ha
        obtain ⟨n, m, s1, s2⟩ := id hR2.1
        have hm5 := s2.1.2.2.2.1
        rw [s1.2.1]
        show Sim _ (zif (dm.1 2 83 = 5) _ _) B
        rw [s2.1.2.2.1]
        by_cases hm : m < 5
        · rw [zif_p (show nI m < (5 : Int32) from (nI_ltI (b := 5) (by omega) (by omega)).mpr hm), zif_n (show ¬ nI m = (5 : Int32) from fun z => by have := (nI_eq (b := 5) (by omega) (by omega)).mp z; omega)]
          obtain ⟨dc4, dm4, r1, r2, r3, r4, r5⟩ := rec_both hR2
          obtain ⟨n', m', s1', s2'⟩ := id r3.1
          have em : m' = m := (nI_eq (by have := s2'.1.2.2.2.1; omega) (by omega)).mp (s2'.1.2.2.1.symm.trans (by rw [r4]; exact s2.1.2.2.1))
          subst em
          have h20 := we_20 s2'.1.1
          obtain ⟨dc6, a1, a2, a3⟩ := c_addPath (c := cdN v nn) (src := 70) st1 (by omega) h20 hm hcds s1' (fun i hi => by rw [r5 70 (by omega) (by omega)]; exact e2' i hi)
          have hA := ask_inv hm hcds s2'.1
          obtain ⟨dc8, b1, b2, b3⟩ := c_emitOne st1 (show m' < m' + 1 by omega) (inv01 hA hB) a2 (ask_rdy hm)
          obtain ⟨dm13, g1, g2, g3⟩ := m_askOn (a := 2) (c := cdN v nn) (by omega) r3.2.2.2.2.2.2 hB hm hcds s2'.1
          rw [r1, r2, br_s, br_s, z_nme, s1'.2.1, a1, br_s, b1, bd_s, show fX6_stepOf (lN v) (nI nn) 0 = _ from m_stepOf hv63 hn4 (i := 0) (by omega), br_s, show fX6_stepOf (lN v) (nI nn) 1 = _ from m_stepOf hv63 hn4 (i := 1) (by omega), br_s, show fX6_stepOf (lN v) (nI nn) 2 = _ from m_stepOf hv63 hn4 (i := 2) (by omega), br_s, show fX6_stepOf (lN v) (nI nn) 3 = _ from m_stepOf hv63 hn4 (i := 3) (by omega), br_s, g1, br_s]
          have hIS := ask_invs hB hm hcds s2'
          have h83 : dm13.1 2 (z_ix (83 : Int32)) = nI (m' + 1) := by
            show dm13.1 2 83 = _
            rw [g2]; exact hIS.1.2.2.1
          rw [h83, nI_pred]
          refine ⟨_, _, _, rfl, rfl, rel_now (Nat.le_refl _) r3 (fr_t (fr_w a3 (fun k hk => Or.inr ⟨hk.1, by have := hk.2; omega⟩)) (fr_w b3 (fun k hk => ks_now hk))) (fr_w g3 (fun k hk => ka_now hk)) ⟨n', m' + 1, ?_, ?_⟩⟩
          · rw [g2]; exact b2
          · rw [g2]; exact hIS
        · rw [zif_n (show ¬ nI m < (5 : Int32) from fun z => by have := (nI_ltI (b := 5) (by omega) (by omega)).mp z; omega), zif_p (show nI m = (5 : Int32) by rw [show m = 5 by omega]; rfl)]
          exact ⟨_, _, _, rfl, rfl, hR2⟩
    · rw [hi, br_s, z00]
      rcases hy with hy | ⟨v, hv, rfl, hv2⟩
      · rw [c_splitsN hy, bd_s, z00]
        exact ⟨_, _, _, rfl, rfl, h⟩
      · obtain ⟨dc2, e1, e2, e3⟩ := c_splits (d := dc) (bs := 10000) hv hn (by omega) (by omega) (by omega)
        rw [show fX5_splits dc (lN v) 10000 (nI nn) = _ from e1, bd_s, show b2i (decide (v < 10000 ^ nn)) = 0 by simp [Nat.not_lt.mpr hv2, b2i], z00]
        exact ⟨_, _, _, rfl, rfl, rel_fr h (fr_w e3 (fun k hk => by subst hk; unfold Sc; omega)) (frm_of fr_r)⟩
end AQ
