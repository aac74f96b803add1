def agrB (dm : Dt) (n m t i : Nat) : Bool := if z_ix (dm.1 7 i) < m then decide (nI (zc (ansB (dm.1 2) n (rL (dm.1 2) (z_ix (dm.1 7 i))) (rcd (dm.1 2) (z_ix (dm.1 7 i))) (tsO (dm.1 2) (z_ix (dm.1 7 i)) t)) n) = dm.1 8 i) else true
def allA (dm : Dt) (n m t o : Nat) : Bool := !zany (fun i => !agrB dm n m t i) o
section WI
variable {dc dm : Dt} {n m B t o : Nat}
theorem c_agrees (hS : StR dc 1 (dm.1 2) n m) (hI : Inv0 (dm.1 2) n m B) (ht : t < 6) (ho : o ≤ 6) (h15 : dc.1 0 15 = nI o) (hq : ∀ i, i < o → ∃ q, q < 5 ∧ dc.1 68 i = nI q ∧ dm.1 7 i = nI q ∧ dc.1 69 i = dm.1 8 i) : ∃ d', fX5_agreesWithAll dc (nI t) = some (b2i (allA dm n m t o), d') ∧ Fr Sc dc d' := by
  have hm5 := hI.2.2.2.1
  have key : Ok (z_lp (bX5_agreesWithAll_2 (nI t)) (0, dc)) (fun u => ∃ d', u = (if allA dm n m t o = true then .inr d' else .inl d') ∧ Fr Sc dc d') := by
    refine ok_for o (fun i s => ∃ d2, s = (nI i, d2) ∧ zany (fun i => !agrB dm n m t i) i = false ∧ Fr Sc dc d2) ?_ ?_ 0 _ (by omega) ⟨dc, rfl, rfl, fr_r⟩
    · rintro i s hi ⟨d2, rfl, hz, hf⟩
      have c0 : d2.1 0 = dc.1 0 := hf.1 0 (by unfold Sc; omega)
      have c68 : d2.1 68 = dc.1 68 := hf.1 68 (by unfold Sc; omega)
      have hS2 := str_fr hm5 hS hf (fun k hk => by unfold Sc; omega)
      obtain ⟨q, hq5, u1, u2, u3⟩ := hq i hi
      have hix : z_ix (dm.1 7 i) = q := by rw [u2, ix_nI (by omega)]
      unfold bX5_agreesWithAll_2
      refine ok_f (by rw [c0, h15, nI_leI (by omega) (by omega)]; omega) (ok_gi (vp_in_nI (by omega) (by omega)) (ok_nm ?_))
      rw [ix_nI (by omega), c68, u1]
      have st : ∀ b, agrB dm n m t i = b → zany (fun i => !agrB dm n m t i) (i + 1) = !b := fun b hb => by rw [zany_s, hz, hb]; rfl
      by_cases hqm : q < m
      · rw [c_isPath1 hS2.2.1 hqm hm5]
        refine ok_re rfl ?_
        rw [z10]
        obtain ⟨d8, g1, g2⟩ := c_lastT (t := t) hS2 hI hqm ht
        have f8 := fr_t hf g2
        refine ok_de g1 (ok_gi (vp_in_nI (by omega) (by omega)) ?_)
        rw [f8.1 69 (by unfold Sc; omega), u3]
        have ha : agrB dm n m t i = decide (nI (zc (ansB (dm.1 2) n (rL (dm.1 2) q) (rcd (dm.1 2) q) (tsO (dm.1 2) q t)) n) = dm.1 8 i) := by
          unfold agrB; rw [hix, if_pos hqm]
        by_cases he : nI (zc (ansB (dm.1 2) n (rL (dm.1 2) q) (rcd (dm.1 2) q) (tsO (dm.1 2) q t)) n) = dm.1 8 i
        · refine ok_t he ?_
          unfold jX5_agreesWithAll_42
          exact ok_nm (ok_c ⟨d8, congrArg (fun z => (z, d8)) (nI_1 i), st true (by rw [ha]; simp [he]), f8⟩)
        · refine ok_f he (ok_x ⟨d8, ?_, f8⟩)
          have : zany (fun i => !agrB dm n m t i) o = true := zany_t.mpr ⟨i, hi, by rw [ha]; simp [he]⟩
          unfold allA; rw [this]; rfl
      · rw [c_isPath0 hS2.2.1 (Or.inr ((nI_leI (by omega) (by omega)).mpr (by omega)))]
        refine ok_re rfl ?_
        rw [z00]
        unfold jX5_agreesWithAll_42
        exact ok_nm (ok_c ⟨d2, congrArg (fun z => (z, d2)) (nI_1 i), st true (by unfold agrB; rw [hix, if_neg hqm]), hf⟩)
    · rintro s ⟨d2, rfl, hz, hf⟩
      unfold bX5_agreesWithAll_2
      refine ok_t (by rw [show d2.1 0 = dc.1 0 from hf.1 0 (by unfold Sc; omega), h15, nI_leI (by omega) (by omega)]; omega) (ok_z ⟨d2, ?_, hf⟩)
      unfold allA; rw [hz]; rfl
  obtain ⟨u, k1, d', rfl, k3⟩ := key
  refine ⟨d', ?_, k3⟩
  unfold fX5_agreesWithAll
  rw [k1, br_s]
  rcases bool2 (allA dm n m t o) with he | he <;> simp [he, b2i]
theorem m_agrees (hI : Inv0 (dm.1 2) n m B) (hot : dm.1 0 13 = nI t) (ht : t < 6) (ho : o ≤ 6) (h11 : dm.1 0 11 = nI o) (hq : ∀ i, i < o → ∃ q, q < 5 ∧ dm.1 7 i = nI q) : ∃ d', z_lp bX6_which_19 (1, 0, dm) = some (b2i (allA dm n m t o), d') ∧ Fr K9 dm d' := by
  have hm5 := hI.2.2.2.1
  have h20 := we_20 hI.1
  have key : Ok (z_lp bX6_which_19 (1, 0, dm)) (fun u => u.1 = b2i (allA dm n m t o) ∧ Fr K9 dm u.2) := by
    refine ok_for o (fun i s => ∃ d2, s = (b2i (!zany (fun i => !agrB dm n m t i) i), nI i, d2) ∧ Fr K9 dm d2) ?_ ?_ 0 _ (by omega) ⟨dm, rfl, fr_r⟩
    · rintro i s hi ⟨d2, rfl, hf⟩
      have c0 : d2.1 0 = dm.1 0 := hf.1 0 (by omega)
      have c2 : d2.1 2 = dm.1 2 := hf.1 2 (by omega)
      have c7 : d2.1 7 = dm.1 7 := hf.1 7 (by omega)
      have fin : ∀ (b : Bool) (d9 : Dt), zany (fun i => !agrB dm n m t i) (i + 1) = !b → Fr K9 dm d9 → Ok (jX6_which_79 (nI i) (b2i b) d9) (fun q => (∃ s', q = .inl s' ∧ ∃ d2, s' = (b2i (!zany (fun i => !agrB dm n m t i) (i + 1)), nI (i + 1), d2) ∧ Fr K9 dm d2) ∨ ∃ u, q = .inr u ∧ (u.1 = b2i (allA dm n m t o) ∧ Fr K9 dm u.2)) := by
        intro b d9 hb hf9
        unfold jX6_which_79
        refine ok_nm (ok_c ⟨d9, ?_, hf9⟩)
        rw [hb, show nI i + (1 : Int32) = nI (i + 1) from nI_1 i, Bool.not_not]
      unfold bX6_which_19
      refine ok_f (by rw [c0, h11, nI_leI (by omega) (by omega)]; omega) ?_
      rcases bool2 (zany (fun i => !agrB dm n m t i) i) with hz | hz
      · rw [hz]
        refine ok_f (show ¬ b2i true = 0 by decide) (ok_gi (vp_in_nI (by omega) (by omega)) ?_)
        obtain ⟨q, hq5, u2⟩ := hq i hi
        have hix : z_ix (dm.1 7 i) = q := by rw [u2, ix_nI (by omega)]
        rw [ix_nI (by omega), c7, u2]
        by_cases hqm : q < m
        · rw [m_isPath1 (by rw [c2]; exact hI.2.2.1) hqm hm5]
          refine ok_re rfl ?_
          rw [z10]
          refine ok_gi (vp_in_nI (by omega) (by omega)) ?_
          obtain ⟨d8, g1, g2⟩ := m_lastT (dm := d2) (t := t) (by rw [c0]; exact hot) ht (by rw [c2]; exact hI) hqm
          rw [c2] at g1
          have f8 := fr_t hf g2
          refine ok_de g1 (ok_re (m_ones h20) (ok_gi (vp_in_nI (by omega) (by omega)) ?_))
          rw [f8.1 8 (by omega)]
          have ha : agrB dm n m t i = decide (nI (zc (ansB (dm.1 2) n (rL (dm.1 2) q) (rcd (dm.1 2) q) (tsO (dm.1 2) q t)) n) = dm.1 8 i) := by
            unfold agrB; rw [hix, if_pos hqm]
          by_cases he : nI (zc (ansB (dm.1 2) n (rL (dm.1 2) q) (rcd (dm.1 2) q) (tsO (dm.1 2) q t)) n) = dm.1 8 i
          · refine ok_t he ?_
            unfold jX6_which_74
            exact fin true d8 (by rw [zany_s, hz, ha]; simp [he]) f8
          · refine ok_f he ?_
            unfold jX6_which_78
            exact fin false d8 (by rw [zany_s, hz, ha]; simp [he]) f8
        · rw [m_isPath0 (by rw [c2]; exact hI.2.2.1) hm5 (Or.inr ((nI_leI (by omega) (by omega)).mpr (by omega)))]
          refine ok_re rfl ?_
          rw [z00]
          unfold jX6_which_74
          exact fin true d2 (by rw [zany_s, hz]; unfold agrB; rw [hix, if_neg hqm]; rfl) hf
      · rw [hz]
        refine ok_t (show b2i false = 0 from rfl) ?_
        unfold jX6_which_78
        exact fin false d2 (by rw [zany_s, hz]; rfl) hf
    · rintro s ⟨d2, rfl, hf⟩
      unfold bX6_which_19
      exact ok_t (by rw [show d2.1 0 = dm.1 0 from hf.1 0 (by omega), h11, nI_leI (by omega) (by omega)]; omega) (ok_z ⟨rfl, hf⟩)
  obtain ⟨⟨x, d'⟩, k1, k2, k3⟩ := key
  dsimp only at k2 k3
  subst k2
  exact ⟨d', k1, k3⟩
end WI
