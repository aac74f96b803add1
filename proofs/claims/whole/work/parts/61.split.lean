/-! numbers cut into parts -/
section SP
variable {v n bs : Nat} {d : Dt}
theorem m1_sub (x : Int32) : x + (-1 : Int32) = x - 1 := (Int32.sub_eq_add_neg (a := x) (b := 1)).symm
theorem dv_s (v bs j : Nat) : v / bs ^ j / bs = v / bs ^ (j + 1) := by rw [Nat.div_div_eq_div_mul, Nat.pow_succ]
theorem c_splitsN {x : Int64} {bs n : Int32} (h : x < 0) : fX5_splits d x bs n = some (0, d) := by
  unfold fX5_splits
  rw [zif_p ((lg_lt _ _).mpr h)]
theorem c_splits (hv : v < 2 ^ 63) (hn : 1 ≤ n) (hn4 : n ≤ 4) (hb : 2 ≤ bs) (hb2 : bs < 2 ^ 31) : ∃ d', fX5_splits d (lN v) (nI bs) (nI n) = some (b2i (decide (v < bs ^ n)), d') ∧ (∀ i, i < n → d'.1 70 i = nI (v / bs ^ (n - 1 - i) % bs)) ∧ Fr (fun k => k = 70) d d' := by
  have hlit : (0 : Int64) = lN 0 := rfl
  have hbne : ¬ (nI bs).toInt64 = 0 := by
    rw [nI_l hb2, hlit, pk_lEQ (by omega) (by omega)]; omega
  have key : Ok (z_lp (bX5_splits_32 (nI bs)) (lN v, nI n - 1, d)) (fun t => t.1 = lN (v / bs ^ n) ∧ (∀ i, i < n → t.2.1 70 i = nI (v / bs ^ (n - 1 - i) % bs)) ∧ Fr (fun k => k = 70) d t.2) := by
    refine ok_for n (fun j s => ∃ d4, s = (lN (v / bs ^ j), nI (n - j) - 1, d4) ∧ (∀ i, i < n → n - j ≤ i → d4.1 70 i = nI (v / bs ^ (n - 1 - i) % bs)) ∧ Fr (fun k => k = 70) d d4) ?_ ?_ 0 _ (by omega) ⟨d, by rw [Nat.pow_zero, Nat.div_one]; rfl, fun i h1 h2 => by omega, fr_r⟩
    · rintro j s hj ⟨d4, rfl, h4, hf⟩
      have hle : v / bs ^ j < 2 ^ 63 := Nat.lt_of_le_of_lt (Nat.div_le_self _ _) hv
      unfold bX5_splits_32
      rw [i_sub1 (by omega)]
      refine ok_f (nI_pos (by omega)) (ok_gp hbne (ok_gi (vp_in_nI (by omega) (by omega)) (ok_nm (ok_gp hbne (ok_nm (ok_nm ?_))))))
      rw [ix_nI (by omega), nI_l hb2, pk_lRem hle (by omega) (by omega), lN_i, pk_lDiv hle (by omega) (by omega), dv_s, m1_sub]
      refine ok_c ⟨z_st d4 70 (n - j - 1) (nI (v / bs ^ j % bs)), ?_, fun i h1 h2 => ?_, fr_t hf (fr_st rfl)⟩
      · rw [show n - j - 1 = n - (j + 1) by omega]
      · by_cases hi : i = n - j - 1
        · subst hi
          rw [st_eq, show n - 1 - (n - j - 1) = j by omega]
        · rw [st_j hi]; exact h4 i h1 (by omega)
    · rintro s ⟨d4, rfl, h4, hf⟩
      unfold bX5_splits_32
      rw [Nat.sub_self]
      exact ok_t (by decide) (ok_z ⟨rfl, fun i hi => h4 i hi (by omega), hf⟩)
  obtain ⟨⟨r, d'⟩, k1, k2, k3, k4⟩ := key
  dsimp only at k2 k3 k4
  subst k2
  refine ⟨d', ?_, k3, k4⟩
  unfold fX5_splits
  have hpos : ¬ lN v < 0 := by rw [hlit, pk_lLT hv (by omega)]; omega
  rw [zif_n (by rw [lg_lt]; exact hpos), zif_n (show ¬ nI bs < (2 : Int32) from fun z => by have := (nI_ltI (b := 2) hb2 (by omega)).mp z; omega), zif_p (show nI n ≤ (4 : Int32) from (nI_leI (b := 4) (by omega) (by omega)).mpr hn4), z_nme, k1, br_s]
  show zif (lg_cmp (lN (v / bs ^ n)) 0 = 0) _ _ = _
  have hz : lg_cmp (lN (v / bs ^ n)) 0 = 0 ↔ v < bs ^ n := by
    rw [lg_eq, hlit, pk_lEQ (Nat.lt_of_le_of_lt (Nat.div_le_self _ _) hv) (by omega), Nat.div_eq_zero_iff]
    have : ¬ bs ^ n = 0 := Nat.pos_iff_ne_zero.mp (Nat.pow_pos (by omega))
    omega
  by_cases h : v < bs ^ n
  · rw [zif_p (hz.mpr h)]; simp [h, b2i]
  · rw [zif_n (fun z => h (hz.mp z))]; simp [h, b2i]
theorem m_thou {k : Nat} (hk : k ≤ 4) : fX6_thousands (nI k) = some (lN (1000 ^ k)) := by
  have key : Ok (z_lp (bX6_thousands_4 (nI k)) (1, 0)) (fun t => t = lN (1000 ^ k)) := by
    refine ok_for k (fun i s => s = (lN (1000 ^ i), nI i)) ?_ ?_ 0 _ (by omega) rfl
    · rintro i s hi rfl
      unfold bX6_thousands_4
      refine ok_f (by rw [nI_leI (by omega) (by omega)]; omega) (ok_nm (ok_nm (ok_c ?_)))
      rw [show lN (1000 ^ i) * (1000 : Int64) = lN (1000 ^ i * 1000) from lN_mul _ 1000, Nat.pow_succ, show nI i + (1 : Int32) = nI (i + 1) from nI_1 i]
    · rintro s rfl
      unfold bX6_thousands_4
      exact ok_t (by rw [nI_leI (by omega) (by omega)]; omega) (ok_z rfl)
  obtain ⟨t, k1, rfl⟩ := key
  unfold fX6_thousands
  rw [k1, br_s]
theorem m_tenth {k : Nat} (hk : k ≤ 4) : fX6_tenThousands (nI k) = some (lN (10000 ^ k)) := by
  have key : Ok (z_lp (bX6_tenThousands_4 (nI k)) (1, 0)) (fun t => t = lN (10000 ^ k)) := by
    refine ok_for k (fun i s => s = (lN (10000 ^ i), nI i)) ?_ ?_ 0 _ (by omega) rfl
    · rintro i s hi rfl
      unfold bX6_tenThousands_4
      refine ok_f (by rw [nI_leI (by omega) (by omega)]; omega) (ok_nm (ok_nm (ok_c ?_)))
      rw [show lN (10000 ^ i) * (10000 : Int64) = lN (10000 ^ i * 10000) from lN_mul _ 10000, Nat.pow_succ, show nI i + (1 : Int32) = nI (i + 1) from nI_1 i]
    · rintro s rfl
      unfold bX6_tenThousands_4
      exact ok_t (by rw [nI_leI (by omega) (by omega)]; omega) (ok_z rfl)
  obtain ⟨t, k1, rfl⟩ := key
  unfold fX6_tenThousands
  rw [k1, br_s]
theorem pw_4 {bs k : Nat} (hb : bs = 1000 ∨ bs = 10000) (hk : k ≤ 4) : 0 < bs ^ k ∧ bs ^ k < 2 ^ 62 := by
  have hk' : k = 0 ∨ k = 1 ∨ k = 2 ∨ k = 3 ∨ k = 4 := by omega
  rcases hb with rfl | rfl <;> rcases hk' with rfl | rfl | rfl | rfl | rfl <;> decide
/-- a row of n parts is taken, or it isn't -/
theorem in_row {bs n : Nat} (hb : bs = 1000 ∨ bs = 10000) (hn : n ≤ 4) (x : Int64) : (∃ v, v < bs ^ n ∧ x = lN v ∧ fX6_in x 0 (lN (bs ^ n) - 1) = some 1) ∨ (fX6_in x 0 (lN (bs ^ n) - 1) = some 0 ∧ (x < 0 ∨ ∃ v, v < 2 ^ 63 ∧ x = lN v ∧ bs ^ n ≤ v)) := by
  obtain ⟨p1, p2⟩ := pw_4 hb hn
  have e : lN (bs ^ n) - 1 = lN (bs ^ n - 1) := lN_sub (b := 1) p1
  rw [e]
  by_cases h0 : x < 0
  · exact Or.inr ⟨in_0 (Or.inl h0), Or.inl h0⟩
  · obtain ⟨v, hv, rfl⟩ := pk_lOf h0
    rcases Nat.lt_or_ge v (bs ^ n) with h | h
    · exact Or.inl ⟨v, h, rfl, in_1 (Int64.not_lt.mp h0) ((pk_lLE hv (by omega)).mpr (by omega))⟩
    · exact Or.inr ⟨in_0 (Or.inr ((pk_lLT (by omega) hv).mpr (by omega))), Or.inr ⟨v, hv, rfl, h⟩⟩
end SP
