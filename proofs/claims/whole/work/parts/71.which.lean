section WJ
variable {dc dm : Dt} {B : Nat}
theorem lt5 {c : Nat} (h : c < 2 ^ 31) : (5 : Int32) < nI c ↔ 5 < c := nI_ltI (a := 5) (by omega) h
theorem allA_cong {d d' : Dt} (h2 : d'.1 2 = d.1 2) (h7 : d'.1 7 = d.1 7) (h8 : d'.1 8 = d.1 8) (n m t o : Nat) : allA d' n m t o = allA d n m t o := by
  unfold allA agrB
  rw [h2, h7, h8]
theorem p_which (h : Rel dc dm B) : Sim (fX5_which dc) (fX6_which dm) B := by
  have hR := h
  obtain ⟨h1, h2, h3, h4, ⟨o, o1, o2, o3, o4⟩, h6, h7⟩ := h
  obtain ⟨n, m, s1, s2⟩ := id h1
  have hm5 := s2.1.2.2.2.1
  have keyC : Ok (z_lp bX5_which_4 (0, 0, dc)) (fun u => u.1 = zB (fun t => allA dm n m t o) 6 ∧ Fr Sc dc u.2) := by
    refine ok_for 6 (fun t s => ∃ d3, s = (zB (fun t => allA dm n m t o) t, nI t, d3) ∧ Fr Sc dc d3) ?_ ?_ 0 _ (by omega) ⟨dc, rfl, fr_r⟩
    · rintro t s ht ⟨d3, rfl, hf⟩
      unfold bX5_which_4
      refine ok_f (by rw [lt5 (by omega)]; omega) ?_
      obtain ⟨d5, g1, g2⟩ := c_agrees (dc := d3) (dm := dm) (o := o) (str_fr hm5 s1 hf (fun k hk => by unfold Sc; omega)) s2.1 ht o1 (by rw [hf.1 0 (by unfold Sc; omega)]; exact o2) (fun i hi => by rw [hf.1 68 (by unfold Sc; omega), hf.1 69 (by unfold Sc; omega)]; exact o4 i hi)
      refine ok_de g1 (ok_nm (ok_nm (ok_c ⟨d5, ?_, fr_t hf g2⟩)))
      rw [show nI t + (1 : Int32) = nI (t + 1) from nI_1 t, zB_s]
      rcases bool2 (allA dm n m t o) with he | he
      · rw [he, zif_p (show b2i false = 0 from rfl)]; simp [or_0]
      · rw [he, zif_n (show ¬ b2i true = 0 by decide)]; simp
    · rintro s ⟨d3, rfl, hf⟩
      unfold bX5_which_4
      exact ok_t (by rw [lt5 (by omega)]; omega) (ok_z ⟨rfl, hf⟩)
  have keyM : Ok (z_lp bX6_which_4 (0, 0, dm)) (fun u => u.1 = zB (fun t => allA dm n m t o) 6 ∧ Fr K9 dm u.2) := by
    refine ok_for 6 (fun t s => ∃ d3, s = (zB (fun t => allA dm n m t o) t, nI t, d3) ∧ Fr K9 dm d3) ?_ ?_ 0 _ (by omega) ⟨dm, rfl, fr_r⟩
    · rintro t s ht ⟨d3, rfl, hf⟩
      have c0 : d3.1 0 = dm.1 0 := hf.1 0 (by omega)
      have e2 : (z_st d3 0 13 (nI t)).1 2 = dm.1 2 := by rw [st_k (by omega)]; exact hf.1 2 (by omega)
      have e7 : (z_st d3 0 13 (nI t)).1 7 = dm.1 7 := by rw [st_k (by omega)]; exact hf.1 7 (by omega)
      have e8 : (z_st d3 0 13 (nI t)).1 8 = dm.1 8 := by rw [st_k (by omega)]; exact hf.1 8 (by omega)
      unfold bX6_which_4
      refine ok_f (by rw [lt5 (by omega)]; omega) (ok_nm ?_)
      obtain ⟨d18, g1, g2⟩ := m_agrees (dm := z_st d3 0 13 (nI t)) (n := n) (m := m) (B := B) (t := t) (o := o) (by rw [e2]; exact s2.1) (by rw [st_eq]) ht o1 (by rw [st_j (by omega), c0]; exact o3) (fun i hi => by
        obtain ⟨q, u1, u2, u3, u4⟩ := o4 i hi
        exact ⟨q, u1, by rw [e7]; exact u3⟩)
      rw [allA_cong e2 e7 e8] at g1
      refine ok_re g1 ?_
      refine ok_nm (ok_nm (ok_nm (ok_nm (ok_c ⟨z_st d18 0 13 (-9), ?_, ⟨fun k hk => ?_, ?_⟩⟩))))
      · rw [show nI t + (1 : Int32) = nI (t + 1) from nI_1 t, zB_s]
        rcases bool2 (allA dm n m t o) with he | he
        · rw [he, zif_p (show b2i false = 0 from rfl)]; simp
        · rw [he, zif_n (show ¬ b2i true = 0 by decide)]; simp
      · by_cases hk0 : k = 0
        · subst hk0
          funext j
          by_cases hj : j = 13
          · subst hj; rw [st_eq]; exact h7.symm
          · rw [st_j hj, g2.1 0 hk, st_j hj, c0]
        · rw [st_k hk0, g2.1 k hk, st_k hk0, hf.1 k hk]
      · rw [show (z_st d18 0 13 (-9)).2 = d18.2 from rfl, g2.2]; exact hf.2
    · rintro s ⟨d3, rfl, hf⟩
      unfold bX6_which_4
      exact ok_t (by rw [lt5 (by omega)]; omega) (ok_z ⟨rfl, hf⟩)
  obtain ⟨⟨x, dc'⟩, k1, k2, k3⟩ := keyC
  obtain ⟨⟨y, dm'⟩, l1, l2, l3⟩ := keyM
  dsimp only at k2 k3 l2 l3
  subst k2; subst l2
  unfold fX5_which fX6_which
  rw [k1, br_s, l1, br_s]
  exact ⟨_, _, _, rfl, rfl, rel_fr hR k3 (frm_9 l3)⟩
end WJ
