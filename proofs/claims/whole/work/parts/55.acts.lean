/-! dropping, undoing, keeping -/
section DR
variable {dc dm : Dt} {B : Nat}
theorem drop_al (ρ : Row) (v : Int32) : Al ρ (upd ρ 83 v) := fun j hj => up_n (by omega)
theorem drop_agp (ρ : Row) (v : Int32) (p : Nat) : Agp ρ (upd ρ 83 v) p := ⟨up_n (by omega), fun i _ => up_n (by omega), up_n (by omega), fun e _ => up_n (by omega)⟩
theorem drop_inv {ρ : Row} {n m : Nat} (hI : InvS ρ n (m + 1) B) : InvS (upd ρ 83 (nI m)) n m B := by
  obtain ⟨⟨h1, h2, h3, h4, h5, h6, c, hc, h7⟩, hW⟩ := hI
  have h20 := we_20 h1
  have al := drop_al ρ (nI m)
  refine ⟨⟨al_we al h1, fun e he => by rw [(al_dw al e (by omega)).1]; exact h2 e he, up_e _ _ _, by omega, fun p hp => agp_PR (drop_agp ρ _ p) (h5 p (by omega)), al_ho al h20 h6, c, hc, by rw [al 82 (by omega)]; exact h7⟩, fun p hp e he => ?_⟩
  rw [al_oN al (drop_agp ρ _ p) h20 (h5 p (by omega)) he, ← hW p (by omega) e he]
  unfold whO; rw [up_n (by omega)]
theorem p_drop (h : Rel dc dm B) : Sim (fX5_drop dc) (fX6_drop dm) B := by
  obtain ⟨n, m, s1, s2⟩ := id h.1
  have hm5 := s2.1.2.2.2.1
  unfold fX5_drop fX6_drop
  rw [s1.2.1, show dm.1 2 (z_ix (83 : Int32)) = nI m from s2.1.2.2.1]
  rcases Nat.eq_zero_or_pos m with h0 | h0
  · subst h0
    rw [zif_n (show ¬ (0 : Int32) < nI 0 by decide), zif_p (show nI 0 = 0 from rfl)]
    exact ⟨_, _, _, rfl, rfl, h⟩
  · rw [zif_p (show (0 : Int32) < nI m from (nI_ltI (a := 0) (by omega) (by omega)).mpr h0), zif_n (nI_ne0 h0 (by omega))]
    obtain ⟨dc2, dm2, r1, r2, r3, r4, r5⟩ := rec_both h
    obtain ⟨n', m', s1', s2'⟩ := id r3.1
    have em : m' = m := (nI_eq (by have := s2'.1.2.2.2.1; omega) (by omega)).mp (s2'.1.2.2.1.symm.trans (by rw [r4]; exact s2.1.2.2.1))
    subst em
    obtain ⟨k, rfl⟩ : ∃ k, m' = k + 1 := ⟨m' - 1, by omega⟩
    rw [r1, r2, br_s, br_s, z_nme, z_nme]
    have e1 : dc2.1 1 2 - 1 = nI k := by rw [s1'.2.1, nI_pred]
    have e2 : dm2.1 2 (z_ix (83 : Int32)) - 1 = nI k := by rw [show dm2.1 2 (z_ix (83 : Int32)) = nI (k + 1) from s2'.1.2.2.1, nI_pred]
    rw [e1, e2]
    have hrow : (z_st dm2 2 (z_ix (83 : Int32)) (nI k)).1 2 = upd (dm2.1 2) 83 (nI k) := st_u _ _ _ _
    have hI' := drop_inv (m := k) s2'
    refine ⟨nI k, _, _, by rw [st_eq], by rw [st_eq], rel_now (Nat.le_refl _) r3 (fr_st (Or.inr ⟨by omega, by omega⟩)) (fr_st (Or.inr rfl)) ⟨n', k, ?_, by rw [hrow]; exact hI'⟩⟩
    rw [hrow]
    have fs : Fr (fun k => k = 1) dc2 (z_st dc2 1 2 (nI k)) := fr_st rfl
    exact ⟨elr_al (we_20 s2'.1.1) (drop_al _ _) (elr_fr s1'.1 fs (fun k hk => by omega)), st_eq _ _ _ _, fun p hp => par_ag (par_fr (s1'.2.2 p (by omega)) fs (fun k hk => by omega)) (drop_agp _ _ p)⟩
theorem m_undoL {d : Dt} {x : Nat} (hx : x < 14) (h6 : d.1 0 6 = nI x) : ∃ d', z_lp bX6_undo_38 (0, d) = some d' ∧ (∀ j, j < 214 → d'.1 2 j = d.1 4 (214 * x + j)) ∧ Fr (fun k => k = 2) d d' := by
  have key : Ok (z_lp bX6_undo_38 (0, d)) (fun t => (∀ j, j < 214 → t.1 2 j = d.1 4 (214 * x + j)) ∧ Fr (fun k => k = 2) d t) := by
    refine ok_for 214 (fun i s => ∃ d2, s = (nI i, d2) ∧ (∀ j, j < i → d2.1 2 j = d.1 4 (214 * x + j)) ∧ Fr (fun k => k = 2) d d2) ?_ ?_ 0 _ (by omega) ⟨d, rfl, fun j hj => by omega, fr_r⟩
    · rintro i s hi ⟨d2, rfl, h2, hf⟩
      unfold bX6_undo_38
      refine ok_f (by rw [le214 (by omega)]; omega) ?_
      rw [hf.1 0 (by omega), h6, show (214 : Int32) * nI x = nI (214 * x) from pk_mul 214 x, nI_add]
      refine ok_gi (vp_in_nI (by omega) (by omega)) (ok_gi (vp_in_nI (by omega) (by omega)) (ok_nm (ok_nm (ok_c ⟨_, congrArg (fun z => (z, _)) (nI_1 i), fun j hj => ?_, fr_t hf (fr_st rfl)⟩))))
      rw [ix_nI (by omega), ix_nI (by omega), hf.1 4 (by omega)]
      by_cases hji : j = i
      · subst hji; rw [st_eq]
      · rw [st_j (by omega)]; exact h2 j (by omega)
    · rintro s ⟨d2, rfl, h2, hf⟩
      unfold bX6_undo_38
      exact ok_t (by rw [le214 (by omega)]; omega) (ok_z ⟨h2, hf⟩)
  obtain ⟨d', k1, k2, k3⟩ := key
  exact ⟨d', k1, k2, k3⟩
theorem p_undo (h : Rel dc dm B) : Sim (fX5_undo dc) (fX6_undo dm) B := by
  have hR := h
  obtain ⟨h1, h2, ⟨k, x, a1, a2, a3, a4, a5, a6, a7⟩, h4, h5, h6, h7⟩ := h
  unfold fX5_undo fX6_undo
  rw [a3, a4]
  rcases Nat.eq_zero_or_pos k with h0 | h0
  · subst h0
    rw [zif_n (show ¬ (0 : Int32) < nI 0 by decide), zif_p (show nI 0 = 0 from rfl)]
    exact ⟨_, _, _, rfl, rfl, hR⟩
  · rw [zif_p (show (0 : Int32) < nI k from (nI_ltI (a := 0) (by omega) (by omega)).mpr h0), zif_n (nI_ne0 h0 (by omega))]
    generalize hy : (x + 13) % 14 = y
    have hy14 : y < 14 := by omega
    have c1 : zif (nI x ≤ 0) (13 : Int32) (nI x - 1) = nI y := by
      rcases Nat.eq_zero_or_pos x with hx | hx
      · subst hx; rw [zif_p (by decide), ← hy]; rfl
      · rw [zif_n (nI_nle hx (by omega)), i_sub1 hx, show y = x - 1 by omega]
    have c2 : nI x + (14 : Int32) - (1 : Int32) - (nI x + (14 : Int32) - (1 : Int32)) / (14 : Int32) * (14 : Int32) = nI y := by
      rw [show nI x + (14 : Int32) = nI (x + 14) from nI_add x 14, i_sub1 (by omega), show nI (x + 14 - 1) - nI (x + 14 - 1) / (14 : Int32) * (14 : Int32) = nI ((x + 14 - 1) % 14) from pk_rem (d := 14) (by omega) (by omega) (by omega), show (x + 14 - 1) % 14 = y by omega]
    simp only [z_nme]
    rw [a5, c1, st_eq, in_t hy14 (by omega), gd_t, ix_nI (by omega), st_j (show 6 ≠ 5 by omega), a6, c2, i_sub1 h0]
    have w0 := a7 0 h0
    rw [show (x + 13 - 0) % 14 = y by omega] at w0
    have fc : Fr (fun k => k = 0) dc (z_st dc 0 14 (nI y)) := fr_st rfl
    obtain ⟨dc3, e1, e2, e3⟩ := sti_copy (b0 := 1) (by omega) (sti_fr w0 fc (fun k hk => by omega))
    obtain ⟨dm7, g1, g2, g3⟩ := m_undoL (d := z_st (z_st dm 0 5 (nI (k - 1))) 0 6 (nI y)) hy14 (by rw [st_eq])
    rw [e1, br_s, g1, br_s]
    have q13 : dc3.1 0 13 = nI k := by rw [e3.1 0 (by omega), st_j (by omega)]; exact a3
    have q5 : dm7.1 0 5 = nI (k - 1) := by rw [g3.1 0 (by omega), st_j (by omega), st_eq]
    rw [q13, i_sub1 h0, st_eq, q5]
    have m0 : ∀ k, 1 ≤ k → k ≠ 2 → dm7.1 k = dm.1 k := fun k b1 b2 => by rw [g3.1 k b2, st_k (by omega), st_k (by omega)]
    refine ⟨_, _, _, rfl, rfl, ?_, ?_, ⟨k - 1, y, by omega, by omega, by rw [st_eq], q5, ?_, ?_, fun j hj => ?_⟩, ?_, ?_, ?_, ?_⟩
    · refine sti_fr (sti_a2 (fun i hi => ?_) e2) (fr_st (K := fun k => k = 0) rfl) (fun k hk => by omega)
      rw [g2 i hi, st_k (by omega), st_k (by omega)]; rfl
    · refine relT_k h2 ?_ ?_ ?_ (m0 1 (by omega) (by omega))
      · rw [st_j (by omega), e3.1 0 (by omega), st_j (by omega)]
      · rw [st_k (by omega), e3.1 67 (by omega), st_k (by omega)]
      · rw [g3.1 0 (by omega), st_j (by omega), st_j (by omega)]
    · rw [st_j (by omega), e3.1 0 (by omega), st_eq]
    · rw [g3.1 0 (by omega), st_eq]
    · rw [show (y + 13 - j) % 14 = (x + 13 - (j + 1)) % 14 by omega, m0 4 (by omega) (by omega)]
      exact sti_fr (sti_fr (sti_fr (a7 (j + 1) (by omega)) fc (fun k hk => by omega)) e3 (fun k hk => by omega)) (fr_st (K := fun k => k = 0) rfl) (fun k hk => by omega)
    · refine relK_k h4 ?_ (fun k b1 b2 => ?_) ?_ (m0 6 (by omega) (by omega)) (m0 5 (by omega) (by omega))
      · rw [st_k (by omega), e3.1 59 (by omega), st_k (by omega)]
      · rw [st_k (by omega), e3.1 k (by omega), st_k (by omega)]
      · exact e3.2
    · refine relO_k h5 ?_ ?_ ?_ ?_ (m0 7 (by omega) (by omega)) (m0 8 (by omega) (by omega))
      · rw [st_j (by omega), e3.1 0 (by omega), st_j (by omega)]
      · rw [st_k (by omega), e3.1 68 (by omega), st_k (by omega)]
      · rw [st_k (by omega), e3.1 69 (by omega), st_k (by omega)]
      · rw [g3.1 0 (by omega), st_j (by omega), st_j (by omega)]
    · rw [g3.2]; exact e3.2.trans h6
    · rw [g3.1 0 (by omega), st_j (by omega), st_j (by omega)]; exact h7
end DR
