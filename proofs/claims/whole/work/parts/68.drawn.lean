section DY
variable {dc dm : Dt} {n m B : Nat}
theorem d_end (N : Int32) (d : Dt) : bX6_drawn_28 N (N, d) = some (.inr d) := by
  unfold bX6_drawn_28
  exact zif_p (Int32.le_refl N)
theorem sl_fr {K : Nat → Prop} {d d1 d2 : Dt} (h1 : Fr K d (z_sl d1 d.2)) (h2 : Fr K d1 (z_sl d2 d1.2)) : Fr K d (z_sl d2 d.2) := ⟨fun k hk => (show d2.1 k = d1.1 k from h2.1 k hk).trans (h1.1 k hk), rfl⟩
theorem d_loop {N : Nat} (hN : N < 100) (hB : B + N < 2 ^ 31) : ∀ (k i : Nat) (dc dm : Dt) (n : Nat), i + k = N → DR dc dm n m (B + i) → ∃ dc' dm' n', z_lp (bX5_drawn_27 (nI N)) (nI i, dc) = some dc' ∧ z_lp (bX6_drawn_28 (nI N)) (nI i, dm) = some dm' ∧ DR dc' dm' n' m (B + N) ∧ Fr Sc dc (z_sl dc' dc.2) ∧ Fr Sm dm (z_sl dm' dm.2) := by
  intro k
  induction k with
  | zero =>
    intro i dc dm n hi h
    have : i = N := by omega
    subst this
    refine ⟨dc, dm, n, ?_, ?_, h, ⟨fun _ _ => rfl, rfl⟩, ⟨fun _ _ => rfl, rfl⟩⟩
    · have hb : bX5_drawn_27 (nI i) (nI i, dc) = some (.inr dc) := by
        unfold bX5_drawn_27
        exact zif_p (Int32.le_refl _)
      rw [z_lp_eq, hb]
    · rw [z_lp_eq, d_end]
  | succ k ih =>
    intro i dc dm n hi h
    obtain ⟨dc1, dm1, n1, q1, q2, q3, q4, q5⟩ := d_draw (B := B + i) (by omega) h (N := N) (i := i) (by omega) (by omega)
    obtain ⟨dc', dm', n', w1, w2, w3, w4, w5⟩ := ih (i + 1) dc1 dm1 n1 (by omega) q3
    have hb : bX5_drawn_27 (nI N) (nI i, dc) = some (.inl (nI (i + 1), dc1)) := by
      unfold bX5_drawn_27
      refine (zif_n (fun z => by have := (nI_leI (by omega) (by omega)).mp z; omega)).trans ?_
      rw [q1, br_s, z_nme, show nI i + (1 : Int32) = nI (i + 1) from nI_1 i]
    refine ⟨dc', dm', n', ?_, ?_, w3, sl_fr q4 w4, sl_fr q5 w5⟩
    · rw [z_lp_eq, hb]; exact w1
    · rw [z_lp_eq, q2]; exact w2
def sumA (ρ : Row) (n : Nat) : Nat → Nat
  | 0 => 0
  | p + 1 => sumA ρ n p + zc (aB ρ n p) n
theorem d_sumC (h : DR dc dm n m B) : ∃ d', z_lp bX5_drawn_53 (0, 0, dc) = some (nI (sumA (dm.1 3) n m), d') ∧ Fr Km dc d' := by
  obtain ⟨h1, h2, h3, h4, h5, h6⟩ := h
  have hm5 := h4.2.2.2.1
  have h20 := we_20 h4.1
  have key : Ok (z_lp bX5_drawn_53 (0, 0, dc)) (fun t => t.1 = nI (sumA (dm.1 3) n m) ∧ Fr Km dc t.2) := by
    refine ok_for m (fun p s => ∃ d9, s = (nI (sumA (dm.1 3) n p), nI p, d9) ∧ Fr Km dc d9) ?_ ?_ 0 _ (by omega) ⟨dc, rfl, fr_r⟩
    · rintro p s hp ⟨d9, rfl, hf⟩
      have hpa : isPa (37 + 4 * p) := st_pa st29 (show p < 5 by omega)
      unfold bX5_drawn_53
      refine ok_f (by rw [hf.1 29 (by omega), h2, nI_leI (by omega) (by omega)]; omega) ?_
      obtain ⟨d1, e1, e2, -, -, f1⟩ := c_match (d := d9) (st_el st29) hpa (elr_fr h1 hf (fun k hk => by omega)) h4.1 (psr_fr (h3 p hp) hf (fun k hk => by omega))
      have ea : fX5_answersOf d9 29 (nI p) = some (zB (aB (dm.1 3) n p) n, d1) := by
        unfold fX5_answersOf
        rw [in_t (show p < 5 by omega) (by omega), gd_t, ix_nI (by omega), show fX1_match d9 (29 + 1) (29 + 8 + 4 * p) = some d1 from e1, br_s, e2]; rfl
      refine ok_de ea (ok_re (c_bits h20) (ok_nm (ok_nm (ok_c ⟨d1, ?_, fr_t hf f1⟩))))
      rw [nI_add, show nI p + (1 : Int32) = nI (p + 1) from nI_1 p]; rfl
    · rintro s ⟨d9, rfl, hf⟩
      unfold bX5_drawn_53
      exact ok_t (by rw [hf.1 29 (by omega), h2, nI_leI (by omega) (by omega)]; omega) (ok_z ⟨rfl, hf⟩)
  obtain ⟨⟨x, d'⟩, k1, k2, k3⟩ := key
  dsimp only at k2 k3
  subst k2
  exact ⟨d', k1, k3⟩
theorem d_sumM (h : DR dc dm n m B) : ∃ d', z_lp bX6_drawn_125 (0, 0, dm) = some (nI (sumA (dm.1 3) n m), d') ∧ Fr K9 dm d' := by
  obtain ⟨h1, h2, h3, h4, h5, h6⟩ := h
  have hm5 := h4.2.2.2.1
  have h20 := we_20 h4.1
  have key : Ok (z_lp bX6_drawn_125 (0, 0, dm)) (fun t => t.1 = nI (sumA (dm.1 3) n m) ∧ Fr K9 dm t.2) := by
    refine ok_for m (fun p s => ∃ d9, s = (nI (sumA (dm.1 3) n p), nI p, d9) ∧ Fr K9 dm d9) ?_ ?_ 0 _ (by omega) ⟨dm, rfl, fr_r⟩
    · rintro p s hp ⟨d9, rfl, hf⟩
      have e3 : d9.1 3 = dm.1 3 := hf.1 3 (by omega)
      unfold bX6_drawn_125
      refine ok_f (by rw [show d9.1 3 (z_ix (83 : Int32)) = nI m by rw [e3]; exact h4.2.2.1, nI_leI (by omega) (by omega)]; omega) ?_
      obtain ⟨g1, k1, k2⟩ := m_ans (d := d9) (a := 3) (by omega) (by rw [hf.1 0 (by omega)]; exact h5) (by rw [e3]; exact h4) hp
      rw [e3] at k1
      refine ok_de k1 (ok_re (m_ones h20) (ok_nm (ok_nm (ok_c ⟨g1, ?_, fr_t hf k2⟩))))
      rw [nI_add, show nI p + (1 : Int32) = nI (p + 1) from nI_1 p]; rfl
    · rintro s ⟨d9, rfl, hf⟩
      have e3 : d9.1 3 = dm.1 3 := hf.1 3 (by omega)
      unfold bX6_drawn_125
      exact ok_t (by rw [show d9.1 3 (z_ix (83 : Int32)) = nI m by rw [e3]; exact h4.2.2.1, nI_leI (by omega) (by omega)]; omega) (ok_z ⟨rfl, hf⟩)
  obtain ⟨⟨x, d'⟩, k1, k2, k3⟩ := key
  dsimp only at k2 k3
  subst k2
  exact ⟨d', k1, k3⟩
end DY
section DZ
variable {dc dm : Dt} {B : Nat}
theorem rel_sl (h : Rel dc dm B) (v : Int64) : Rel (z_sl dc v) (z_sl dm v) B := by
  obtain ⟨h1, h2, h3, h4, h5, h6, h7⟩ := h
  exact ⟨h1, h2, h3, h4, h5, rfl, h7⟩
theorem p_drawn (hB : B + 30 < 2 ^ 31) (h : Rel dc dm B) (x : Int32) : Sim (fX5_drawn dc x) (fX6_drawn dm x) B := by
  unfold fX5_drawn fX6_drawn
  by_cases hx : x < 1 ∨ (30 : Int32) < x
  · rw [show fX6_in x.toInt64 1 30 = some 0 from in_0i (a := 1) (b := 30) hx, br_s, z00]
    refine ⟨-2, dc, dm, ?_, rfl, h⟩
    by_cases h1 : x < 1
    · rw [zif_p h1]
    · rw [zif_n h1, zif_n (Int32.not_le.mpr (hx.resolve_left h1))]
  · obtain ⟨N, hN, hN4, rfl⟩ : ∃ nn, 1 ≤ nn ∧ nn ≤ 30 ∧ x = nI nn := by
      have h1 : ¬ x < 0 := fun z => hx (Or.inl (Int32.lt_trans z (by decide)))
      obtain ⟨j, hj, rfl⟩ := nI_of h1
      refine ⟨j, ?_, ?_, rfl⟩
      · rcases Nat.eq_zero_or_pos j with h0 | h0
        · subst h0; exact absurd (Or.inl (by decide)) hx
        · exact h0
      · rcases Nat.lt_or_ge 30 j with h0 | h0
        · exact absurd (Or.inr ((nI_ltI (a := 30) (by omega) hj).mpr h0)) hx
        · exact h0
    rw [zif_n (fun z => hx (Or.inl z)), zif_p (Int32.not_lt.mp (fun z => hx (Or.inr z))), show fX6_in (nI N).toInt64 1 30 = some 1 from in_1i (a := 1) (b := 30) ((nI_leI (a := 1) (by omega) (by omega)).mpr (by omega)) ((nI_leI (b := 30) (by omega) (by omega)).mpr (by omega)), br_s, z10]
    obtain ⟨dc3, c1, c2, c3⟩ := sti_copy (b0 := 29) (by omega) h.1
    obtain ⟨dm4, m1, m2, m3⟩ := m_copy dm (show 2 ≠ 3 by omega)
    obtain ⟨n', m', s1, s2⟩ := sti_a2 m2 c2
    have hD : DR dc3 dm4 n' m' (B + 0) := ⟨s1.1, s1.2.1, fun p hp => (s1.2.2 p hp).1, s2.1, by rw [m3.1 0 (by omega)]; exact h.2.2.2.2.2.2, by rw [c3.2, m3.2]; exact h.2.2.2.2.2.1⟩
    obtain ⟨dc6, dm6, n6, w1, w2, w3, w4, w5⟩ := d_loop (N := N) (by omega) (by omega) N 0 dc3 dm4 n' (by omega) hD
    obtain ⟨dc7, v1, v2⟩ := d_sumC w3
    obtain ⟨dm7, u1, u2⟩ := d_sumM w3
    rw [c1, br_s, m1, br_s, show z_lp (bX5_drawn_27 (nI N)) (0, dc3) = _ from w1, show z_lp (bX6_drawn_28 (nI N)) (0, dm4) = _ from w2, br_s, br_s]
    show Sim (z_br (z_lp bX5_drawn_53 (0, 0, dc6)) _) (z_br (z_lp bX6_drawn_125 (0, 0, dm6)) _) B
    rw [v1, u1, br_s, br_s]
    refine ⟨_, dc7, dm7, rfl, rfl, ?_⟩
    have f1 : Fr Sc dc (z_sl dc7 dc.2) := ⟨fun k hk => by
      show dc7.1 k = dc.1 k
      rw [v2.1 k (fun z => hk (km_sc z)), show dc6.1 k = dc3.1 k from w4.1 k hk, c3.1 k (fun z => hk (by unfold Sc; unfold Kt at z; omega))], rfl⟩
    have f2 : Fr Sm dm (z_sl dm7 dm.2) := ⟨fun k hk => by
      show dm7.1 k = dm.1 k
      rw [u2.1 k (fun z => hk (k9_sm z)), show dm6.1 k = dm4.1 k from w5.1 k hk, m3.1 k (fun z => hk (Or.inl z))], rfl⟩
    have hr := rel_sl (rel_fr h f1 (frm_of f2)) dc7.2
    have e : dc7.2 = dm7.2 := by rw [v2.2, u2.2]; exact w3.2.2.2.2.2
    have e2 : z_sl (z_sl dm7 dm.2) dc7.2 = dm7 := by rw [e]; rfl
    rw [e2] at hr
    exact hr
end DZ
