/-! reading: the letters of a path -/
section RP
variable {em : Bool} {base : Row} {dc dm dc1 dm1 : Dt} {ρ : Row} {n m k K L : Nat} {c : Nat → Nat}
theorem i4m {m : Nat} : (4 : Int32) * nI m = nI (4 * m) := pk_mul 4 m
theorem ax_step (x : Int32) (h19 : dm.1 0 19 = nI m) (hP : PS dc dm m L c) : (fX4_takesAxis dc x = some (0, dc) ∧ fX6_takeAxis dm x = some (0, dm)) ∨ (L < 4 ∧ ∃ a, (a = 0 ∨ a = 1000) ∧ fX4_takesAxis dc x = some (1, z_st (z_st (z_st dc 66 L (nI a)) 65 1 (nI (L + 1))) 65 2 4) ∧ fX6_takeAxis dm x = some (1, z_st (z_st (z_st dm 14 (4 * m + L) (nI a)) 13 m (nI (L + 1))) 0 18 2)) := by
  obtain ⟨hm, hL, h1, h2, h3, h4⟩ := hP
  unfold fX4_takesAxis jX4_takesAxis_12 fX6_takeAxis
  rw [h19, in_t (by omega) (by omega), gd_t, z_nme, ix_nI (by omega), h2]
  have body : ∀ a : Nat, zif (x = (33 : Int32)) (1000 : Int32) (0 : Int32) = nI a → (jX4_takesAxis_17 dc x 1 = some (0, dc) ∧ jX6_takeAxis_22 (nI L) dm x = some (0, dm)) ∨ (L < 4 ∧ jX4_takesAxis_17 dc x 1 = some (1, z_st (z_st (z_st dc 66 L (nI a)) 65 1 (nI (L + 1))) 65 2 4) ∧ jX6_takeAxis_22 (nI L) dm x = some (1, z_st (z_st (z_st dm 14 (4 * m + L) (nI a)) 13 m (nI (L + 1))) 0 18 2)) := by
    intro a ha
    unfold jX4_takesAxis_17 jX6_takeAxis_22
    rw [z10, h1]
    by_cases h : L < 4
    · right
      refine ⟨h, ?_, ?_⟩
      · rw [zif_p (show nI L < (4 : Int32) from (nI_ltI (b := 4) (by omega) (by omega)).mpr h), ha, z_nme, in_t h (by omega), gd_t, z_nme, z_nme, ix_nI (by omega), st_k (show (65 : Nat) ≠ 66 by omega), h1, nI_1, bd_id, go_1]
      · rw [zif_n (show ¬ nI L = (4 : Int32) from fun z => by have := (nI_eq (b := 4) (by omega) (by omega)).mp z; omega), ha, z_nme, h19, i4m, nI_add, in_t (by omega) (by omega), gd_t, z_nme, st_k (show (0 : Nat) ≠ 14 by omega), h19, in_t (by omega) (by omega), gd_t, gd_t, z_nme, z_nme, ix_nI (by omega), ix_nI (by omega), st_k (show (13 : Nat) ≠ 14 by omega), h2, nI_1]
    · left
      refine ⟨zif_n (fun z => h ((nI_ltI (b := 4) (by omega) (by omega)).mp z)), zif_p ?_⟩
      rw [show L = 4 by omega]; rfl
  by_cases h47 : x = (47 : Int32)
  · rw [zif_p h47, zif_p h47]
    rcases body 0 (zif_n (by rw [h47]; decide)) with h | ⟨h5, h6, h7⟩
    · exact Or.inl h
    · exact Or.inr ⟨h5, 0, Or.inl rfl, h6, h7⟩
  · rw [zif_n h47, zif_n h47]
    by_cases h33 : x = (33 : Int32)
    · rw [zif_p h33, zif_p h33]
      rcases body 1000 (zif_p h33) with h | ⟨h5, h6, h7⟩
      · exact Or.inl h
      · exact Or.inr ⟨h5, 1000, Or.inr rfl, h6, h7⟩
    · rw [zif_n h33, zif_n h33]
      left
      unfold jX4_takesAxis_17
      exact ⟨z00, rfl⟩
/-- after an axis -/
theorem ax_ro (x : Int32) (h : RD em base dc dm ρ n m 0) (hP : PS dc dm m L c) (hg : ∀ i, i < L → Gd (c i)) : RO em base dc dm K (fX4_takesAxis dc x) (fX6_takeAxis dm x) := by
  rcases ax_step x h.2.2.1 hP with ⟨h1, h2⟩ | ⟨hL, a, ha, h1, h2⟩
  · exact ro_0 fr_r frm_r h1 h2
  · obtain ⟨p1, p2, p3, p4, p5, p6⟩ := hP
    have hf : Fr Kr dc (z_st (z_st (z_st dc 66 L (nI a)) 65 1 (nI (L + 1))) 65 2 4) := fr_t (fr_t (fr_st (Or.inr rfl)) (fr_st (Or.inl rfl))) (fr_st (Or.inl rfl))
    refine ro_1 hf (frm_t (frm_t (frm_st sm14) (frm_st sm13)) (frm_0 (by omega))) h1 h2 ?_
    refine ⟨ρ, n, m, 0, by omega, ?_, Or.inr (Or.inr (Or.inl ⟨rfl, L, fun i => if i = L then a else c i, ?_, Or.inl ⟨st_eq _ _ _ _, st_eq _ _ _ _, ?_⟩⟩))⟩
    · refine rd_keep h hf ?_ ?_ ?_ ?_ (fun i hi => ?_) (fun i hi => ?_) ?_
      · rw [st_j (by omega), st_k (by omega), st_k (by omega)]
      · rw [st_j (by omega), st_k (by omega), st_k (by omega)]
      · rw [st_j (by omega), st_k (by omega), st_k (by omega)]
      · rw [st_j (by omega), st_k (by omega), st_k (by omega)]
      · rw [st_k (by omega), st_j (by omega), st_k (by omega)]
      · rw [st_k (by omega), st_k (by omega), st_j (by omega)]
      · rw [st_k (by omega), st_k (by omega), st_k (by omega)]
    · refine ⟨p1, by omega, ?_, ?_, fun i hi => ⟨?_, ?_⟩, fun i hi => ?_⟩
      · rw [st_j (by omega), st_eq]
      · rw [st_k (by omega), st_eq]
      · rw [st_k (by omega), st_k (by omega)]
        dsimp only
        by_cases hi2 : i = L
        · rw [if_pos hi2, hi2, st_eq]
        · rw [if_neg hi2, st_j hi2]; exact (p5 i (by omega)).1
      · rw [st_k (by omega), st_k (by omega)]
        dsimp only
        by_cases hi2 : i = L
        · rw [if_pos hi2, hi2, st_eq]
        · rw [if_neg hi2, st_j (by omega)]; exact (p5 i (by omega)).2
      · dsimp only
        rw [if_neg (show ¬ i = L by omega)]; exact hg i (by omega)
    · dsimp only
      rw [if_pos rfl]; exact ha
/-- more comes to the last step -/
theorem add_c {v w : Int32} (h1 : dc.1 65 1 = nI (L + 1)) (hL : L < 4) : fX4_addsToStep dc 1 v w = some (1, z_st (z_st dc 66 L (dc.1 66 L + v)) 65 2 w) := by
  unfold fX4_addsToStep jX4_addsToStep_26
  rw [z10, h1, zif_n (nI_nle (by omega) (by omega)), i_sub1 (by omega), show L + 1 - 1 = L by omega, in_t hL (by omega), gd_t, gd_t, z_nme, ix_nI (by omega), bd_id, go_1]
theorem add_c0 {v w : Int32} : fX4_addsToStep dc 0 v w = some (0, dc) := by
  unfold fX4_addsToStep jX4_addsToStep_26
  rw [z00, bd_id, go_0]
theorem add_m {v : Int32} (h19 : dm.1 0 19 = nI m) (hm : m < 5) (h2 : dm.1 13 m = nI (L + 1)) (hL : L < 4) : fX6_addToStep dm v = some (z_st dm 14 (4 * m + L) (dm.1 14 (4 * m + L) + v)) := by
  unfold fX6_addToStep
  rw [h19, in_t hm (by omega), gd_t, ix_nI (by omega), h2, i4m, nI_add, i_sub1 (by omega), show 4 * m + (L + 1) - 1 = 4 * m + L by omega, in_t (by omega) (by omega), gd_t, gd_t, z_nme, ix_nI (by omega)]
/-- both sides have added v to the last step, and go on -/
theorem add_rx {v q w : Nat} (hd : dm1.1 0 18 = nI q) (hc1 : dc1 = z_st (z_st dc 66 L (dc.1 66 L + nI v)) 65 2 (nI w)) (hm1 : ∀ i, dm1.1 14 i = if i = 4 * m + L then dm.1 14 (4 * m + L) + nI v else dm.1 14 i) (hm0 : ∀ j, j ≠ 18 → dm1.1 0 j = dm.1 0 j) (hmk : ∀ k, k ≠ 0 → k ≠ 14 → dm1.1 k = dm.1 k)
    (h : RD em base dc dm ρ n m 0) (hP : PS dc dm m (L + 1) c) (hg : Gd (c L + v)) (hqw : (((c L + v) % 100 = 0 ∧ ((q = 3 ∧ w = 5) ∨ (q = 4 ∧ w = 6) ∨ (q = 5 ∧ w = 7))) ∨ (q = 6 ∧ w = 8) ∨ (q = 7 ∧ w = 9))) : RX em base dc1 dm1 (K + 1) := by
  obtain ⟨p1, p2, p3, p4, p5, p6⟩ := hP
  have hf : Fr Kr dc dc1 := by rw [hc1]; exact fr_t (fr_st (Or.inr rfl)) (fr_st (Or.inl rfl))
  have hw : dc1.1 65 2 = nI w := by rw [hc1, st_eq]
  refine ⟨ρ, n, m, 0, by omega, ?_, Or.inr (Or.inr (Or.inl ⟨rfl, L, fun i => if i = L then c L + v else c i, ?_, Or.inr ⟨?_, ?_⟩⟩))⟩
  · refine rd_keep h hf (hm0 _ (by omega)) (hm0 _ (by omega)) (hm0 _ (by omega)) (hm0 _ (by omega)) (fun i hi => ?_) (fun i hi => ?_) ?_
    · rw [hmk 13 (by omega) (by omega)]
    · rw [hm1, if_neg (by omega)]
    · rw [hmk 15 (by omega) (by omega)]
  · refine ⟨p1, by omega, ?_, ?_, fun i hi => ⟨?_, ?_⟩, fun i hi => ?_⟩
    · rw [hc1, st_j (by omega), st_k (by omega)]; exact p3
    · rw [hmk 13 (by omega) (by omega)]; exact p4
    · rw [hc1, st_k (by omega)]
      dsimp only
      by_cases hi2 : i = L
      · rw [if_pos hi2, hi2, st_eq, (p5 L (by omega)).1, nI_add]
      · rw [if_neg hi2, st_j hi2]; exact (p5 i (by omega)).1
    · rw [hm1]
      dsimp only
      by_cases hi2 : i = L
      · rw [if_pos hi2, hi2, if_pos rfl, (p5 L (by omega)).2, nI_add]
      · rw [if_neg hi2, if_neg (by omega)]; exact (p5 i (by omega)).2
    · dsimp only
      rw [if_neg (show ¬ i = L by omega)]; exact p6 i (by omega)
  · dsimp only
    rw [if_pos rfl]; exact hg
  · dsimp only
    rw [if_pos rfl, hd, hw]
    rcases hqw with ⟨h1, ⟨rfl, rfl⟩ | ⟨rfl, rfl⟩ | ⟨rfl, rfl⟩⟩ | ⟨rfl, rfl⟩ | ⟨rfl, rfl⟩
    · exact Or.inl ⟨h1, Or.inl ⟨rfl, rfl⟩⟩
    · exact Or.inl ⟨h1, Or.inr (Or.inl ⟨rfl, rfl⟩)⟩
    · exact Or.inl ⟨h1, Or.inr (Or.inr ⟨rfl, rfl⟩)⟩
    · exact Or.inr (Or.inl ⟨rfl, rfl⟩)
    · exact Or.inr (Or.inr ⟨rfl, rfl⟩)
theorem add_fr {v w : Int32} : Fr Kr dc (z_st (z_st dc 66 L v) 65 2 w) := fr_t (fr_st (Or.inr rfl)) (fr_st (Or.inl rfl))
theorem nI_lt0 {v : Nat} (h : v < 2 ^ 31) : ¬ nI v < (0 : Int32) := fun z => by
  have := (nI_ltI (b := 0) h (by omega)).mp z
  omega
/-- the two memories of the reference: first the part, then the step; or the other way round -/
theorem ad_1 {v q : Int32} : (∀ i, (z_st (z_st dm 14 (4 * m + L) (dm.1 14 (4 * m + L) + v)) 0 18 q).1 14 i = if i = 4 * m + L then dm.1 14 (4 * m + L) + v else dm.1 14 i) ∧ (∀ j, j ≠ 18 → (z_st (z_st dm 14 (4 * m + L) (dm.1 14 (4 * m + L) + v)) 0 18 q).1 0 j = dm.1 0 j) ∧ (∀ k, k ≠ 0 → k ≠ 14 → (z_st (z_st dm 14 (4 * m + L) (dm.1 14 (4 * m + L) + v)) 0 18 q).1 k = dm.1 k) := by
  refine ⟨fun i => ?_, fun j hj => ?_, fun k h1 h2 => ?_⟩
  · rw [st_k (show (14 : Nat) ≠ 0 by omega), st_if]
    by_cases h : i = 4 * m + L
    · rw [if_pos ⟨rfl, h⟩, if_pos h]
    · rw [if_neg (fun q => h q.2), if_neg h]
  · rw [st_j hj, st_k (show (0 : Nat) ≠ 14 by omega)]
  · rw [st_k h1, st_k h2]
theorem ad_2 {v q : Int32} : (∀ i, (z_st (z_st dm 0 18 q) 14 (4 * m + L) (dm.1 14 (4 * m + L) + v)).1 14 i = if i = 4 * m + L then dm.1 14 (4 * m + L) + v else dm.1 14 i) ∧ (∀ j, j ≠ 18 → (z_st (z_st dm 0 18 q) 14 (4 * m + L) (dm.1 14 (4 * m + L) + v)).1 0 j = dm.1 0 j) ∧ (∀ k, k ≠ 0 → k ≠ 14 → (z_st (z_st dm 0 18 q) 14 (4 * m + L) (dm.1 14 (4 * m + L) + v)).1 k = dm.1 k) := by
  refine ⟨fun i => ?_, fun j hj => ?_, fun k h1 h2 => ?_⟩
  · rw [st_if, st_k (show (14 : Nat) ≠ 0 by omega)]
    by_cases h : i = 4 * m + L
    · rw [if_pos ⟨rfl, h⟩, if_pos h]
    · rw [if_neg (fun q => h q.2), if_neg h]
  · rw [st_k (show (0 : Nat) ≠ 14 by omega), st_j hj]
  · rw [st_k h2, st_k h1]
/-- the test -/
theorem rd_test {x : Nat} (hx : x < 256) (h : RD em base dc dm ρ n m 0) (hP : PS dc dm m (L + 1) c) (h18 : dm.1 0 18 = 2) (h65 : dc.1 65 2 = 4) (hc : c L = 0 ∨ c L = 1000) : RO em base dc dm K (fX4_takes dc (nI x) 29) (fX6_take dm (nI x)) := by
  have hP' := hP
  obtain ⟨p1, p2, p3, p4, p5, p6⟩ := hP'
  rw [tk_4 h65]
  unfold fX6_take
  rw [z_nme, z_nme, h18, zif_n (show ¬ (2 : Int32) = 0 by decide), zif_n (show ¬ (2 : Int32) = 1 by decide), zif_p (show (2 : Int32) = 2 from rfl), z_nme, add_m h.2.2.1 p1 p4 (by omega), br_s, z_nme]
  unfold fX4_takesTest jX4_takesTest_14
  by_cases h42 : nI x = (42 : Int32)
  · rw [zif_p h42, zif_p h42, zif_p h42, z_nme, zif_n (show ¬ (5 : Int32) < 0 by decide), bd_id, add_c p3 (by omega)]
    obtain ⟨a1, a2, a3⟩ := ad_1 (dm := dm) (m := m) (L := L) (v := nI 500) (q := 3)
    refine ro_1 add_fr (frm_t (frm_st sm14) (frm_0 (by omega))) rfl rfl ?_
    refine add_rx (v := 500) (q := 3) (w := 5) (st_eq _ _ _ _) rfl a1 a2 a3 h hP ?_ (Or.inl ⟨?_, Or.inl ⟨rfl, rfl⟩⟩)
    · unfold Gd; omega
    · omega
  · rw [zif_n h42, zif_n h42, zif_n h42]
    rcases nm_cases hx with ⟨v, hv, e1, e2, e3⟩ | ⟨e2, e3⟩
    · rw [e2, br_s, z_nme, zif_n (nI_lt0 (by omega)), bd_id, add_c p3 (by omega), e3, br_s, z10, e1, show nI v * (100 : Int32) = nI (v * 100) from pk_mul v 100, show (100 : Int32) * nI v = nI (100 * v) from pk_mul 100 v, Nat.mul_comm 100 v]
      obtain ⟨a1, a2, a3⟩ := ad_1 (dm := dm) (m := m) (L := L) (v := nI (v * 100)) (q := 3)
      refine ro_1 add_fr (frm_t (frm_st sm14) (frm_0 (by omega))) rfl rfl ?_
      refine add_rx (v := v * 100) (q := 3) (w := 5) (st_eq _ _ _ _) rfl a1 a2 a3 h hP ?_ (Or.inl ⟨?_, Or.inl ⟨rfl, rfl⟩⟩)
      · unfold Gd; omega
      · omega
    · rw [e2, br_s, z_nme, zif_p (show (-9 : Int32) < 0 by decide), bd_id, add_c0, e3, br_s, z00]
      exact ro_0 fr_r (frm_t (frm_st sm14) (frm_0 (by omega))) rfl rfl
/-- behind the bracket -/
theorem rd_cond {x : Nat} (hx : x < 256) (h : RD em base dc dm ρ n m 0) (hP : PS dc dm m (L + 1) c) (h18 : dm.1 0 18 = 4) (h65 : dc.1 65 2 = 6) (hc : Gd (c L)) (hc0 : c L % 100 = 0) : RO em base dc dm K (fX4_takes dc (nI x) 29) (fX6_take dm (nI x)) := by
  have hP' := hP
  obtain ⟨p1, p2, p3, p4, p5, p6⟩ := hP'
  unfold Gd at hc
  rw [tk_6 h65]
  unfold fX6_take
  rw [z_nme, z_nme, h18, zif_n (show ¬ (4 : Int32) = 0 by decide), zif_n (show ¬ (4 : Int32) = 1 by decide), zif_n (show ¬ (4 : Int32) = 2 by decide), zif_n (show ¬ (4 : Int32) = 3 by decide), zif_p (show (4 : Int32) = 4 from rfl), z_nme, z_nme, z_nme]
  have am : ∀ q v : Int32, fX6_addToStep (z_st dm 0 18 q) v = some (z_st (z_st dm 0 18 q) 14 (4 * m + L) (dm.1 14 (4 * m + L) + v)) := by
    intro q v
    rw [add_m (m := m) (L := L) (by rw [st_j (by omega)]; exact h.2.2.1) p1 (by rw [st_k (by omega)]; exact p4) (by omega), st_k (by omega)]
  rw [am, br_s]
  by_cases h61 : nI x = (61 : Int32)
  · rw [zif_p h61, zif_p h61, zif_p h61, zif_p h61, go_1]
    obtain ⟨a1, a2, a3⟩ := ad_2 (dm := dm) (m := m) (L := L) (v := nI 0) (q := 5)
    refine ro_1 (fr_st (Or.inl rfl)) (frm_t (frm_0 (by omega)) (frm_st sm14)) rfl rfl ?_
    have hself : z_st dc 65 2 (7 : Int32) = z_st (z_st dc 66 L (dc.1 66 L + nI 0)) 65 2 (nI 7) := by
      have : z_st dc 66 L (dc.1 66 L + nI 0) = dc := by
        refine Prod.ext (funext fun a => funext fun b => ?_) rfl
        rw [st_if]
        by_cases hab : a = 66 ∧ b = L
        · rw [if_pos hab, hab.1, hab.2, nI_0, Int32.add_zero]
        · rw [if_neg hab]
      rw [this]; rfl
    refine add_rx (v := 0) (q := 5) (w := 7) ?_ hself a1 a2 a3 h hP ?_ (Or.inl ⟨?_, Or.inr (Or.inr ⟨rfl, rfl⟩)⟩)
    · rw [st_k (by omega), st_eq]; rfl
    · unfold Gd; omega
    · omega
  · rw [zif_n h61, zif_n h61, zif_n h61, zif_n h61]
    unfold fX4_takesChildName
    rcases nm_cases hx with ⟨v, hv, e1, e2, e3⟩ | ⟨e2, e3⟩
    · rw [e2, br_s, z_nme, zif_n (nI_lt0 (by omega)), bd_id, add_c p3 (by omega), e3, br_s, z10, e1, show (1 : Int32) + nI v = nI (1 + v) from nI_add 1 v, nI_1, Nat.add_comm 1 v]
      obtain ⟨a1, a2, a3⟩ := ad_2 (dm := dm) (m := m) (L := L) (v := nI (v + 1)) (q := 6)
      refine ro_1 add_fr (frm_t (frm_0 (by omega)) (frm_st sm14)) rfl rfl ?_
      refine add_rx (v := v + 1) (q := 6) (w := 8) ?_ rfl a1 a2 a3 h hP ?_ (Or.inr (Or.inl ⟨rfl, rfl⟩))
      · rw [st_k (by omega), st_eq]; rfl
      · unfold Gd; omega
    · rw [e2, br_s, z_nme, zif_p (show (-9 : Int32) < 0 by decide), bd_id, add_c0, e3, br_s, z00]
      exact ro_0 fr_r (frm_t (frm_0 (by omega)) (frm_st sm14)) rfl rfl
/-- the digit of a condition -/
theorem rd_fig {x : Nat} (hx : x < 256) (h : RD em base dc dm ρ n m 0) (hP : PS dc dm m (L + 1) c) (h18 : dm.1 0 18 = 5) (h65 : dc.1 65 2 = 7) (hc : Gd (c L)) (hc0 : c L % 100 = 0) : RO em base dc dm K (fX4_takes dc (nI x) 29) (fX6_take dm (nI x)) := by
  have hP' := hP
  obtain ⟨p1, p2, p3, p4, p5, p6⟩ := hP'
  unfold Gd at hc
  rw [tk_7 h65]
  unfold fX6_take fX4_takesFigure
  rw [z_nme, z_nme, h18, zif_n (show ¬ (5 : Int32) = 0 by decide), zif_n (show ¬ (5 : Int32) = 1 by decide), zif_n (show ¬ (5 : Int32) = 2 by decide), zif_n (show ¬ (5 : Int32) = 3 by decide), zif_n (show ¬ (5 : Int32) = 4 by decide), zif_p (show (5 : Int32) = 5 from rfl), z_nme, add_m (m := m) (L := L) (by rw [st_j (by omega)]; exact h.2.2.1) p1 (by rw [st_k (by omega)]; exact p4) (by omega), st_k (show (14 : Nat) ≠ 0 by omega), br_s]
  rcases fg_cases hx with ⟨f, hf, e1, e2, e3⟩ | ⟨e2, e3, -⟩
  · rw [e2, br_s, z_nme, zif_n (nI_lt0 (by omega)), bd_id, add_c p3 (by omega), e3, br_s, show nI x - (48 : Int32) = nI (x - 48) from pk_sub (b := 48) (by omega), show nI (x - 48) + (6 : Int32) = nI (x - 48 + 6) from nI_add _ 6, show (6 : Int32) + nI f = nI (6 + f) from nI_add 6 f, show x - 48 + 6 = 6 + f by omega]
    obtain ⟨a1, a2, a3⟩ := ad_2 (dm := dm) (m := m) (L := L) (v := nI (6 + f)) (q := 6)
    refine ro_1 add_fr (frm_t (frm_0 (by omega)) (frm_st sm14)) rfl rfl ?_
    refine add_rx (v := 6 + f) (q := 6) (w := 8) ?_ rfl a1 a2 a3 h hP ?_ (Or.inr (Or.inl ⟨rfl, rfl⟩))
    · rw [st_k (by omega), st_eq]; rfl
    · unfold Gd; omega
  · rw [e2, br_s, z_nme, zif_p (show (-9 : Int32) < 0 by decide), bd_id, add_c0, e3, br_s]
    exact ro_0 fr_r (frm_t (frm_0 (by omega)) (frm_st sm14)) rfl rfl
/-- only the phase and the part change -/
theorem ph_rx {q w : Nat} (h : RD em base dc dm ρ n m 0) (hP : PS dc dm m (L + 1) c) (hc : Gd (c L)) (hqw : ((c L % 100 = 0 ∧ ((q = 3 ∧ w = 5) ∨ (q = 4 ∧ w = 6) ∨ (q = 5 ∧ w = 7))) ∨ (q = 6 ∧ w = 8) ∨ (q = 7 ∧ w = 9))) : RX em base (z_st dc 65 2 (nI w)) (z_st dm 0 18 (nI q)) (K + 1) := by
  obtain ⟨p1, p2, p3, p4, p5, p6⟩ := hP
  refine ⟨ρ, n, m, 0, by omega, ?_, Or.inr (Or.inr (Or.inl ⟨rfl, L, c, ?_, Or.inr ⟨hc, ?_⟩⟩))⟩
  · exact rd_keep h (fr_st (Or.inl rfl)) (st_j (by omega)) (st_j (by omega)) (st_j (by omega)) (st_j (by omega)) (fun i hi => by rw [st_k (by omega)]) (fun i hi => by rw [st_k (by omega)]) (st_k (by omega))
  · refine ⟨p1, p2, by rw [st_j (by omega)]; exact p3, by rw [st_k (by omega)]; exact p4, fun i hi => ?_, p6⟩
    rw [st_k (by omega), st_k (by omega)]; exact p5 i hi
  · rw [st_eq, st_eq]
    rcases hqw with ⟨h1, ⟨rfl, rfl⟩ | ⟨rfl, rfl⟩ | ⟨rfl, rfl⟩⟩ | ⟨rfl, rfl⟩ | ⟨rfl, rfl⟩
    · exact Or.inl ⟨h1, Or.inl ⟨rfl, rfl⟩⟩
    · exact Or.inl ⟨h1, Or.inr (Or.inl ⟨rfl, rfl⟩)⟩
    · exact Or.inl ⟨h1, Or.inr (Or.inr ⟨rfl, rfl⟩)⟩
    · exact Or.inr (Or.inl ⟨rfl, rfl⟩)
    · exact Or.inr (Or.inr ⟨rfl, rfl⟩)
/-- the closing bracket -/
theorem rd_brk {x : Nat} (h : RD em base dc dm ρ n m 0) (hP : PS dc dm m (L + 1) c) (h18 : dm.1 0 18 = 6) (h65 : dc.1 65 2 = 8) (hc : Gd (c L)) : RO em base dc dm K (fX4_takes dc (nI x) 29) (fX6_take dm (nI x)) := by
  rw [tk_8 h65, mk_6 h18]
  by_cases h93 : nI x = (93 : Int32)
  · rw [zif_p h93, zif_p h93, go_1]
    exact ro_1 (fr_st (Or.inl rfl)) (frm_0 (by omega)) rfl rfl (ph_rx (q := 7) (w := 9) h hP hc (Or.inr (Or.inr ⟨rfl, rfl⟩)))
  · rw [zif_n h93, zif_n h93, go_0]
    exact ro_0 fr_r (frm_0 (by omega)) rfl rfl
/-- behind a step -/
theorem rd_next {x : Int32} (h : RD em base dc dm ρ n m 0) (hP : PS dc dm m (L + 1) c) (hc : Gd (c L)) (hx : ¬ (x = (91 : Int32) ∧ dm.1 0 18 = 3)) : RO em base dc dm K (fX4_takesNextStep dc x 29) (fX6_takeBehind dm x) := by
  have hP' := hP
  obtain ⟨p1, p2, p3, p4, p5, p6⟩ := hP'
  have hg : ∀ i, i < L + 1 → Gd (c i) := by
    intro i hi
    by_cases hi2 : i = L
    · rw [hi2]; exact hc
    · exact p6 i (by omega)
  unfold fX4_takesNextStep fX6_takeBehind jX6_takeBehind_44
  by_cases h46 : x = (46 : Int32)
  · rw [zif_p h46, zif_p h46, p3, z_nme, z_nme, h.2.2.1, nI_1]
    obtain ⟨h1, h2, h3, h4, h5, h6, h7⟩ := h
    have hcx : ∃ c' : Nat → Nat, (∀ i, i < L + 1 → c' i = c i) ∧ ∀ i, i < 4 → dm.1 14 (4 * m + i) = nI (c' i) := by
      refine ⟨fun i => if i < L + 1 then c i else (nI_all (dm.1 14 (4 * m + i))).choose, fun i hi => if_pos hi, fun i hi => ?_⟩
      dsimp only
      by_cases hi2 : i < L + 1
      · rw [if_pos hi2]; exact (p5 i hi2).2
      · rw [if_neg hi2]; exact (nI_all (dm.1 14 (4 * m + i))).choose_spec
    obtain ⟨c', hc1, hc2⟩ := hcx
    have hcd : Cds (L + 1) c' := ⟨by omega, p2, fun i hi => by rw [hc1 i hi]; exact hg i hi⟩
    obtain ⟨d1, e1, e2, e3⟩ := c_addPath (src := 66) st29 (Or.inr (by omega)) (we_20 h2.1) p1 hcd h1 (fun i hi => by rw [hc1 i hi]; exact (p5 i hi).1)
    rw [e1, br_s, bd_id, go_1]
    have hf : Fr Sc dc (z_st d1 65 2 1) := fr_t (fr_w e3 (fun k hk => by unfold Sc; omega)) (fr_st sc65)
    have hE : (z_st d1 65 2 (1 : Int32)).1 30 8 = dc.1 30 8 := by
      rw [st_k (by omega), e2.1.2.2.2.1, h1.1.2.2.2.1]
      exact ask_lo (by omega)
    refine ⟨_, _, hf, frm_t (frm_0 (by omega)) (frm_0 (by omega)), Or.inr ⟨rfl, rfl, Or.inl ⟨hE, ?_⟩⟩⟩
    refine ⟨askN ρ m (L + 1) c', n, m + 1, 0, by omega, ⟨?_, ask_inv p1 hcd h2, ?_, ?_, ?_, ?_, ?_⟩, Or.inl ⟨st_eq _ _ _ _, Or.inl ⟨rfl, st_eq _ _ _ _⟩⟩⟩
    · exact str_fr (K := Kr) (by omega) e2 (fr_st (Or.inl rfl)) (fun k hk => by omega)
    · rw [st_j (by omega), st_eq]
    · rw [st_j (by omega), st_j (by omega)]; exact h4
    · rw [st_j (by omega), st_j (by omega), h5]
      have hH := h2.2.2.2.2.2.1
      have h81 : askN ρ m (L + 1) c' 81 = ρ 81 := ask_lo (by omega)
      have hn := we_20 h2.1
      rcases ho_cases hH with hz | ⟨y, hy, hz⟩
      · rw [cdep_n hz, cdep_n (h81.trans hz)]
      · rw [cdep_h hz (by omega), cdep_h (h81.trans hz) (by omega), (al_dw ask_al y (by omega)).1]
    · rw [st_j (by omega), st_j (by omega)]; exact h6
    · intro e
      obtain ⟨w1, w2, w3⟩ := h7 e
      subst w2
      have hp : PthP base ((z_st (z_st dm 0 19 (nI (m + 1))) 0 18 0).1 13) ((z_st (z_st dm 0 19 (nI (m + 1))) 0 18 0).1 14) (m + 1) (askN ρ m (L + 1) c') := by
        rw [st_k (by omega), st_k (by omega), st_k (by omega), st_k (by omega)]
        exact ⟨ρ, L + 1, c', w3, p1, hcd, p4, hc2, rfl⟩
      exact ⟨(pth_inv hp).2, rfl, hp⟩
  · rw [zif_n h46, zif_n h46]
    have tail : RO em base dc dm K (fX4_takesAxis dc x) (fX6_takeAxis dm x) := ax_ro x h hP hg
    by_cases h91 : x = (91 : Int32)
    · rw [zif_p h91, zif_n (fun z => hx ⟨h91, z⟩), bd_id, bd_id]; exact tail
    · rw [zif_n h91, bd_id, bd_id]; exact tail
end RP
