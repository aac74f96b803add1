section CH
variable {dc dm : Dt} {n m B : Nat}
theorem bit_z {S p : Nat} (hp : p < 32) : ((nI S >>> (nI p &&& 31)) &&& (1 : Int32)) = 0 ↔ S.testBit p = false := by
  rw [b_bit _ hp, bt_nI S p hp]
  cases S.testBit p <;> simp
theorem c_weight {S x : Nat} (h2 : dc.1 1 2 = nI m) (hm : m ≤ 5) (hx : x ≤ 10) : fX5_weightOf dc (nI S) (nI x) = some (nI (wgt x S m)) := by
  have key : Ok (z_lp (bX5_weightOf_5 dc (nI S) (nI x)) (1, 0)) (fun t => t = nI (wgt x S m)) := by
    refine ok_for m (fun p s => s = (nI (wgt x S p), nI p)) ?_ ?_ 0 _ (by omega) rfl
    · rintro p s hp rfl
      unfold bX5_weightOf_5
      refine ok_f (by rw [h2, nI_leI (by omega) (by omega)]; omega) (ok_nm (ok_nm (ok_nm (ok_c ?_))))
      rw [show (10 : Int32) - nI x = nI (10 - x) from pk_sub (a := 10) hx, show nI p + (1 : Int32) = nI (p + 1) from nI_1 p]
      rcases bool2 (S.testBit p) with hb | hb
      · rw [zif_p ((bit_z (by omega)).mpr hb), pk_mul]
        show _ = (nI (wgt x S p * (if S.testBit p then 10 - x else x)), _)
        rw [hb]; rfl
      · rw [zif_n (fun z => by rw [(bit_z (by omega)).mp z] at hb; cases hb), pk_mul]
        show _ = (nI (wgt x S p * (if S.testBit p then 10 - x else x)), _)
        rw [hb]; rfl
    · rintro s rfl
      unfold bX5_weightOf_5
      exact ok_t (by rw [h2, nI_leI (by omega) (by omega)]; omega) (ok_z rfl)
  obtain ⟨t, k1, rfl⟩ := key
  unfold fX5_weightOf
  rw [k1, br_s]
theorem c_any {S : Nat} {ρ : Row} (h2 : dc.1 1 2 = nI m) (hm : m ≤ 5) (hn : n ≤ 20) (h71 : ∀ p, p < m → dc.1 71 p = zB (aB ρ n p) n) : fX5_answersOfAny dc (nI S) = some (zB (uni ρ n m S) n) := by
  have key : Ok (z_lp (bX5_answersOfAny_4 dc (nI S)) (0, 0)) (fun t => t = zB (uni ρ n m S) n) := by
    have z0 : (0 : Int32) = zB (fun e => zany (fun p => S.testBit p && aB ρ n p e) 0) n := ((zB_0 (by omega)).mpr (fun _ _ => rfl)).symm
    refine ok_for m (fun p s => s = (zB (fun e => zany (fun p => S.testBit p && aB ρ n p e) p) n, nI p)) ?_ ?_ 0 _ (by omega) (congrArg (fun z => (z, (0 : Int32))) z0)
    · rintro p s hp rfl
      unfold bX5_answersOfAny_4
      refine ok_f (by rw [h2, nI_leI (by omega) (by omega)]; omega) ?_
      rcases bool2 (S.testBit p) with hb | hb
      · refine ok_t ((bit_z (by omega)).mpr hb) ?_
        unfold jX5_answersOfAny_32
        refine ok_nm (ok_c ?_)
        rw [show nI p + (1 : Int32) = nI (p + 1) from nI_1 p]
        exact congrArg (fun z => (z, nI (p + 1))) (zB_cong (fun e _ => by rw [zany_s, hb]; simp))
      · refine ok_f (fun z => by rw [(bit_z (by omega)).mp z] at hb; cases hb) (ok_gi (vp_in_nI (by omega) (by omega)) (ok_nm ?_))
        unfold jX5_answersOfAny_32
        refine ok_nm (ok_c ?_)
        rw [ix_nI (by omega), h71 p hp, zB_or (by omega), show nI p + (1 : Int32) = nI (p + 1) from nI_1 p]
        exact congrArg (fun z => (z, nI (p + 1))) (zB_cong (fun e _ => by rw [zany_s, hb]; simp))
    · rintro s rfl
      unfold bX5_answersOfAny_4
      exact ok_t (by rw [h2, nI_leI (by omega) (by omega)]; omega) (ok_z rfl)
  obtain ⟨t, k1, rfl⟩ := key
  unfold fX5_answersOfAny
  rw [k1, br_s]
def favN (ρ : Row) (n m v x S : Nat) : Nat := if wth ρ n m S < v then 0 else wgt x S m
theorem pw32 (hm : m ≤ 5) : 0 < 2 ^ m ∧ 2 ^ m ≤ 32 := by
  have : m = 0 ∨ m = 1 ∨ m = 2 ∨ m = 3 ∨ m = 4 ∨ m = 5 := by omega
  rcases this with rfl | rfl | rfl | rfl | rfl | rfl <;> decide
theorem sum_le {f g : Nat → Nat} : ∀ {k : Nat}, (∀ i, i < k → f i ≤ g i) → sumN f k ≤ sumN g k
  | 0, _ => Nat.le_refl _
  | k + 1, h => Nat.add_le_add (sum_le (fun i hi => h i (by omega))) (h k (by omega))
theorem fav_le {ρ : Row} {v x : Nat} (hm : m ≤ 5) (hx : x ≤ 10) : sumN (favN ρ n m v x) (2 ^ m) ≤ 10 ^ m := by
  rw [← wgt_sum m hm x hx]
  refine sum_le (fun S _ => ?_)
  unfold favN; split <;> omega
theorem p10 (hm : m ≤ 5) : 0 < 10 ^ m ∧ 10 ^ m < 2 ^ 30 := by
  have : m = 0 ∨ m = 1 ∨ m = 2 ∨ m = 3 ∨ m = 4 ∨ m = 5 := by omega
  rcases this with rfl | rfl | rfl | rfl | rfl | rfl <;> decide
theorem p_chance (h : Rel dc dm B) (v x u : Int32) : Sim (fX5_chance dc v x u) (fX6_chance dm v x u) B := by
  obtain ⟨n, m, s1, s2⟩ := id h.1
  have hot := h.2.2.2.2.2.2
  have hm5 := s2.1.2.2.2.1
  have h20 := we_20 s2.1.1
  unfold fX5_chance fX6_chance
  rcases is_cases v (m := 21) (by omega) with ⟨w, hw, rfl⟩ | hv
  · rw [zif_n (nI_pos (by omega)), zif_n (show ¬ (20 : Int32) < nI w from fun z => by have := (nI_ltI (a := 20) (by omega) (by omega)).mp z; omega), show fX6_in (nI w).toInt64 0 20 = some 1 from in_p (m := 21) hw (by omega), br_s, z10]
    rcases is_cases x (m := 11) (by omega) with ⟨y, hy, rfl⟩ | hx
    · rw [zif_n (nI_pos (by omega)), zif_p (show nI y ≤ (10 : Int32) from (nI_leI (b := 10) (by omega) (by omega)).mpr (by omega)), show fX6_in (nI y).toInt64 0 10 = some 1 from in_p (m := 11) hy (by omega), br_s, z10]
      obtain ⟨dc1, c1, c2, c3⟩ := c_find s1 s2.1
      obtain ⟨dm4, m1, m2, m3⟩ := m_lay hot s2.1
      have hS1 := str_fr hm5 s1 c3 (fun k hk => by unfold Sc; omega)
      obtain ⟨pw0, pw1⟩ := pw32 hm5
      obtain ⟨t0, t1⟩ := p10 hm5
      have keyC : Ok (z_lp (bX5_chance_36 dc1 (nI y) (nI w)) (0, 0, 0)) (fun t => t = (nI (sumN (favN (dm.1 2) n m w y) (2 ^ m)), nI (10 ^ m))) := by
        refine ok_for (2 ^ m) (fun S s => s = (nI (sumN (favN (dm.1 2) n m w y) S), nI (sumN (fun S => wgt y S m) S), nI S)) ?_ ?_ 0 _ (Nat.zero_le _) rfl
        · rintro S s hS rfl
          unfold bX5_chance_36
          refine ok_f (by rw [hS1.2.1, pow_sh m hm5, nI_leI (by omega) (by omega)]; omega) ?_
          refine ok_re (c_weight hS1.2.1 hm5 (by omega)) (ok_nm (ok_re (c_any hS1.2.1 hm5 h20 c2) (ok_re (c_bits h20) (ok_nm (ok_nm (ok_c ?_))))))
          have hwl : zc (uni (dm.1 2) n m S) n ≤ n := zc_le _ _
          rw [show nI S + (1 : Int32) = nI (S + 1) from nI_1 S, nI_add, nI_add]
          show _ = (nI (sumN (favN (dm.1 2) n m w y) S + favN (dm.1 2) n m w y S), nI (sumN (fun S => wgt y S m) S + wgt y S m), _)
          by_cases hlt : zc (uni (dm.1 2) n m S) n < w
          · rw [zif_p ((nI_ltI (by omega) (by omega)).mpr hlt)]
            unfold favN wth; rw [if_pos hlt]; rfl
          · rw [zif_n (fun z => hlt ((nI_ltI (by omega) (by omega)).mp z))]
            unfold favN wth; rw [if_neg hlt]
        · rintro s rfl
          unfold bX5_chance_36
          refine ok_t (by rw [hS1.2.1, pow_sh m hm5, nI_leI (by omega) (by omega)]; omega) (ok_z ?_)
          rw [wgt_sum m hm5 y (by omega)]
      have keyM : Ok (z_lp (bX6_chance_46 (nI m) dm4 (nI w) (nI y)) (0, 0)) (fun t => t = nI (sumN (favN (dm.1 2) n m w y) (2 ^ m))) := by
        refine ok_for (2 ^ m) (fun S s => s = (nI (sumN (favN (dm.1 2) n m w y) S), nI S)) ?_ ?_ 0 _ (Nat.zero_le _) rfl
        · rintro S s hS rfl
          have hwl : wth (dm.1 2) n m S ≤ n := zc_le _ _
          have hpc := pc_le m hm5 S hS
          unfold bX6_chance_46
          refine ok_f (by rw [pow_sh m hm5, nI_leI (by omega) (by omega)]; omega) (ok_gi (vp_in_nI (by omega) (by omega)) ?_)
          rw [ix_nI (by omega), m2 S hS]
          by_cases hlt : wth (dm.1 2) n m S < w
          · refine ok_t ((nI_ltI (by omega) (by omega)).mpr hlt) ?_
            unfold jX6_chance_97
            refine ok_nm (ok_nm (ok_c ?_))
            rw [show nI S + (1 : Int32) = nI (S + 1) from nI_1 S, show ∀ k : Nat, nI k + (0 : Int32) = nI (k + 0) from fun k => nI_add k 0]
            show _ = (nI (sumN (favN (dm.1 2) n m w y) S + favN (dm.1 2) n m w y S), _)
            rw [show favN (dm.1 2) n m w y S = 0 from if_pos hlt]
          · refine ok_f (fun z => hlt ((nI_ltI (by omega) (by omega)).mp z)) ?_
            refine ok_re (m_onesS (by omega)) ?_
            rw [show (10 : Int32) - nI y = nI (10 - y) from pk_sub (a := 10) (by omega)]
            refine ok_re (m_pow _ (by omega)) (ok_re (m_onesS (by omega)) ?_)
            rw [pk_sub hpc]
            refine ok_re (m_pow _ (by omega)) ?_
            unfold jX6_chance_97
            refine ok_nm (ok_nm (ok_c ?_))
            rw [pk_mul, ← wgt_pc m hm5 y (by omega) S hS, show nI S + (1 : Int32) = nI (S + 1) from nI_1 S, nI_add]
            show _ = (nI (sumN (favN (dm.1 2) n m w y) S + favN (dm.1 2) n m w y S), _)
            rw [show favN (dm.1 2) n m w y S = wgt y S m from if_neg hlt]
        · rintro s rfl
          unfold bX6_chance_46
          exact ok_t (by rw [pow_sh m hm5, nI_leI (by omega) (by omega)]; omega) (ok_z rfl)
      obtain ⟨tC, k1, rfl⟩ := keyC
      obtain ⟨tM, l1, rfl⟩ := keyM
      have hfav := fav_le (ρ := dm.1 2) (n := n) (v := w) (x := y) hm5 (by omega)
      rw [c1, br_s, k1, br_s, z_nme, show dm.1 2 (z_ix (83 : Int32)) = nI m from s2.1.2.2.1, m1, br_s, l1, br_s]
      show Sim (z_br (fX5_inLowestTerms (nI (sumN (favN (dm.1 2) n m w y) (2 ^ m))) (nI (10 ^ m)) u) _) (z_br (fX6_power (nI 10) (nI m)) _) B
      rw [c_low (by omega) t0 (by omega) t1 u, br_s, m_pow 10 (by omega), br_s, m_frac (by omega) t0 (by omega) u, br_s]
      exact ⟨_, _, _, rfl, rfl, rel_fr h c3 (frm_of m3)⟩
    · rw [show fX6_in x.toInt64 0 10 = some 0 from in_n (m := 11) (by omega) hx, br_s, z00]
      refine ⟨-2, dc, dm, ?_, rfl, h⟩
      by_cases h0 : x < 0
      · rw [zif_p h0]
      · rw [zif_n h0, zif_n]
        obtain ⟨j, hj, rfl⟩ := nI_of h0
        have h2 := (nI_leI (a := 11) (by omega) hj).mp (hx.resolve_left h0)
        exact fun z => by have := (nI_leI (b := 10) hj (by omega)).mp z; omega
  · rw [show fX6_in v.toInt64 0 20 = some 0 from in_n (m := 21) (by omega) hv, br_s, z00]
    refine ⟨-2, dc, dm, ?_, rfl, h⟩
    by_cases h0 : v < 0
    · rw [zif_p h0]
    · rw [zif_n h0, zif_p]
      obtain ⟨j, hj, rfl⟩ := nI_of h0
      have h2 := (nI_leI (a := 21) (by omega) hj).mp (hv.resolve_left h0)
      exact (nI_ltI (a := 20) (by omega) hj).mpr (by omega)
end CH
