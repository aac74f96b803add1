/-! THE PUBLIC METHODS: ask -/
section AK
variable {d : Dt} {a n m B L : Nat} {c : Nat → Nat}
theorem m_askOn (ha : a ≠ 9 ∧ a ≠ 10 ∧ a ≠ 0) (hot : d.1 0 13 = -9) (hB : B < 2 ^ 31) (hm : m < 5) (hc : Cds L c) (hI : Inv0 (d.1 a) n m B) : ∃ d', fX6_askOn d a (nI L) (nI (c 0)) (nI (c 1)) (nI (c 2)) (nI (c 3)) = some d' ∧ d'.1 a = noteR (askN (d.1 a) m L c) n m ∧ Fr (Ka a) d d' := by
  have h83 := hI.2.2.1
  unfold fX6_askOn
  simp only [z_nme]
  rw [show d.1 a (z_ix (83 : Int32)) = nI m from h83, show (84 : Int32) + nI m = nI (84 + m) from nI_add 84 m, a4p, show nI (89 + 4 * m) + (1 : Int32) = nI (89 + 4 * m + 1) from nI_add _ 1, show nI (89 + 4 * m) + (2 : Int32) = nI (89 + 4 * m + 2) from nI_add _ 2, show nI (89 + 4 * m) + (3 : Int32) = nI (89 + 4 * m + 3) from nI_add _ 3, a109, in_t (show 84 + m < 214 by omega) (by omega), in_t (show 89 + 4 * m < 214 by omega) (by omega), in_t (show 89 + 4 * m + 1 < 214 by omega) (by omega), in_t (show 89 + 4 * m + 2 < 214 by omega) (by omega), in_t (show 89 + 4 * m + 3 < 214 by omega) (by omega), in_t (show 109 + m < 214 by omega) (by omega)]
  simp only [gd_t, ix_nI (show 84 + m < 2 ^ 31 by omega), ix_nI (show 89 + 4 * m < 2 ^ 31 by omega), ix_nI (show 89 + 4 * m + 1 < 2 ^ 31 by omega), ix_nI (show 89 + 4 * m + 2 < 2 ^ 31 by omega), ix_nI (show 89 + 4 * m + 3 < 2 ^ 31 by omega), ix_nI (show 109 + m < 2 ^ 31 by omega)]
  generalize hd7 : z_st (z_st (z_st (z_st (z_st (z_st d a (84 + m) (nI L)) a (89 + 4 * m) (nI (c 0))) a (89 + 4 * m + 1) (nI (c 1))) a (89 + 4 * m + 2) (nI (c 2))) a (89 + 4 * m + 3) (nI (c 3))) a (109 + m) 0 = d7
  have hrow : d7.1 a = upd (upd (upd (upd (upd (upd (d.1 a) (84 + m) (nI L)) (89 + 4 * m) (nI (c 0))) (89 + 4 * m + 1) (nI (c 1))) (89 + 4 * m + 2) (nI (c 2))) (89 + 4 * m + 3) (nI (c 3))) (109 + m) 0 := by
    rw [← hd7]; simp only [st_u]
  have hf7 : Fr (Ka a) d d7 := by
    rw [← hd7]
    exact fr_t (fr_t (fr_t (fr_t (fr_t (fr_st (Or.inr rfl)) (fr_st (Or.inr rfl))) (fr_st (Or.inr rfl))) (fr_st (Or.inr rfl))) (fr_st (Or.inr rfl))) (fr_st (Or.inr rfl))
  have key : Ok (z_lp (bX6_askOn_74 (nI m) a) (0, d7)) (fun t => (∀ j, t.1 a j = if 114 + 20 * m ≤ j ∧ j < 114 + 20 * m + 20 then -9 else d7.1 a j) ∧ Fr (Ka a) d t) := by
    refine ok_for 20 (fun i s => ∃ d9, s = (nI i, d9) ∧ (∀ j, d9.1 a j = if 114 + 20 * m ≤ j ∧ j < 114 + 20 * m + i then -9 else d7.1 a j) ∧ Fr (Ka a) d d9) ?_ ?_ 0 _ (by omega) ⟨d7, rfl, fun j => by rw [if_neg (by omega)], hf7⟩
    · rintro i s hi ⟨d9, rfl, h9, hf⟩
      unfold bX6_askOn_74
      refine ok_f (by rw [le20 (by omega)]; omega) ?_
      rw [a114]
      refine ok_gi (vp_in_nI (by omega) (by omega)) (ok_nm (ok_nm (ok_c ⟨z_st d9 a (114 + 20 * m + i) (-9), ?_, fun j => ?_, fr_t hf (fr_st (Or.inr rfl))⟩)))
      · rw [ix_nI (by omega), show nI i + (1 : Int32) = nI (i + 1) from nI_1 i]
      · by_cases hj : j = 114 + 20 * m + i
        · subst hj; rw [st_eq, if_pos (by omega)]
        · rw [st_j hj, h9 j]
          by_cases hj2 : 114 + 20 * m ≤ j ∧ j < 114 + 20 * m + i
          · rw [if_pos hj2, if_pos (by omega)]
          · rw [if_neg hj2, if_neg (by omega)]
    · rintro s ⟨d9, rfl, h9, hf⟩
      unfold bX6_askOn_74
      exact ok_t (by rw [le20 (by omega)]; omega) (ok_z ⟨h9, hf⟩)
  obtain ⟨d12, k1, k2, k3⟩ := key
  rw [k1, br_s]
  have h12 : d12.1 a 83 = nI m := by
    rw [k2 83, if_neg (by omega), hrow]
    unfold upd
    rw [if_neg (by omega), if_neg (by omega), if_neg (by omega), if_neg (by omega), if_neg (by omega), if_neg (by omega)]; exact h83
  have hfin : (z_st d12 a 83 (nI m + 1)).1 a = askN (d.1 a) m L c := by
    rw [st_u]
    funext j
    unfold upd askN askR
    by_cases hj : j = 83
    · rw [if_pos hj, if_pos hj]; exact nI_1 m
    · rw [if_neg hj, if_neg hj, k2 j, hrow]; rfl
  have hfr13 : Fr (Ka a) d (z_st d12 a 83 (nI m + 1)) := fr_t k3 (fr_st (Or.inr rfl))
  have hI2 := ask_inv hm hc hI
  obtain ⟨h1, h2, h3, h4, h5, h6⟩ := inv01 hI2 hB
  obtain ⟨d15, e1, e2, e3⟩ := m_noteOut (d := z_st d12 a 83 (nI m + 1)) (n := n) (p := m) ha (by rw [hfin]; exact h1) (by rw [hfin]; exact h2) (by rw [hfin]; exact h5 m (by omega)) hm (by rw [hfr13.1 0 (by omega)]; exact hot) (by rw [hfin]; exact h6)
  refine ⟨d15, ?_, by rw [e2, hfin], fr_t hfr13 e3⟩
  rw [show d12.1 a (z_ix (83 : Int32)) = nI m from h12]
  show z_bd (fX6_noteOut (z_st d12 a 83 (nI m + 1)) a (nI m)) _ = _
  rw [e1, bd_s]
end AK
/-! the codes in a number -/
def okC (c : Nat) : Bool := decide (c < 2000) && (decide (c / 100 % 10 ≤ 5) && decide (c % 100 < 16))
def cdN (v n i : Nat) : Nat := if i < n then v / 10000 ^ (n - 1 - i) % 10000 else 0
section CD
variable {v n : Nat}
theorem cdN_lt {i : Nat} : cdN v n i < 10000 := by unfold cdN; split <;> omega
theorem m_stepOf (hv : v < 2 ^ 63) (hn : n ≤ 4) {i : Nat} (hi : i < 4) : fX6_stepOf (lN v) (nI n) (nI i) = some (nI (cdN v n i)) := by
  unfold fX6_stepOf cdN
  by_cases h : i < n
  · obtain ⟨p1, p2⟩ := pw_4 (bs := 10000) (k := n - 1 - i) (Or.inr rfl) (by omega)
    have hne : ¬ lN (10000 ^ (n - 1 - i)) = 0 := fun z => by
      have := (pk_lEQ (b := 0) (by omega) (by omega)).mp z; omega
    rw [zif_n (fun z => by have := (nI_leI (by omega) (by omega)).mp z; omega), i_sub1 (by omega), pk_sub (by omega), m_tenth (by omega), br_s, z_dc_t hne, gd_t, pk_lDiv hv p1 (by omega), show lN (v / 10000 ^ (n - 1 - i)) - lN (v / 10000 ^ (n - 1 - i)) / (10000 : Int64) * (10000 : Int64) = lN (v / 10000 ^ (n - 1 - i) % 10000) from pk_lRem (b := 10000) (Nat.lt_of_le_of_lt (Nat.div_le_self _ _) hv) (by omega) (by omega), lN_i, if_pos h]
  · rw [zif_p ((nI_leI (by omega) (by omega)).mpr (by omega)), if_neg h]; rfl
theorem m_isStep {c : Nat} (hc : c < 10000) : fX6_isStep (nI c) = some (b2i (okC c)) := by
  unfold fX6_isStep okC
  rw [show nI c / (1000 : Int32) = nI (c / 1000) from pk_div (d := 1000) (by omega) (by omega) (by omega), show nI c / (100 : Int32) = nI (c / 100) from pk_div (d := 100) (by omega) (by omega) (by omega), show nI (c / 100) - nI (c / 100) / (10 : Int32) * (10 : Int32) = nI (c / 100 % 10) from pk_rem (d := 10) (by omega) (by omega) (by omega), show nI c - nI (c / 100) * (100 : Int32) = nI (c % 100) by rw [← show nI c / (100 : Int32) = nI (c / 100) from pk_div (d := 100) (by omega) (by omega) (by omega)]; exact pk_rem (d := 100) (by omega) (by omega) (by omega)]
  by_cases h1 : c < 2000
  · rw [zif_n (show ¬ (2 : Int32) ≤ nI (c / 1000) from fun z => by have := (nI_leI (a := 2) (by omega) (by omega)).mp z; omega)]
    by_cases h2 : c / 100 % 10 ≤ 5
    · rw [zif_n (show ¬ (5 : Int32) < nI (c / 100 % 10) from fun z => by have := (nI_ltI (a := 5) (by omega) (by omega)).mp z; omega)]
      by_cases h3 : c % 100 < 16
      · rw [zif_n (show ¬ (16 : Int32) ≤ nI (c % 100) from fun z => by have := (nI_leI (a := 16) (by omega) (by omega)).mp z; omega)]; simp [h1, h2, h3, b2i]
      · rw [zif_p (show (16 : Int32) ≤ nI (c % 100) from (nI_leI (a := 16) (by omega) (by omega)).mpr (by omega))]; simp [h3, b2i]
    · rw [zif_p (show (5 : Int32) < nI (c / 100 % 10) from (nI_ltI (a := 5) (by omega) (by omega)).mpr (by omega))]; simp [h2, b2i]
  · rw [zif_p (show (2 : Int32) ≤ nI (c / 1000) from (nI_leI (a := 2) (by omega) (by omega)).mpr (by omega))]; simp [h1, b2i]
def allC (v n : Nat) : Bool := !zany (fun i => !okC (cdN v n i)) n
theorem m_allC (hv : v < 2 ^ 63) (hn : n ≤ 4) : Ok (z_lp (bX6_ask_32 (nI n) (lN v)) 0) (fun t => t = if allC v n = true then .inr () else .inl ()) := by
  refine ok_for n (fun i s => s = nI i ∧ zany (fun i => !okC (cdN v n i)) i = false) ?_ ?_ 0 _ (by omega) ⟨rfl, rfl⟩
  · rintro i s hi ⟨rfl, hz⟩
    unfold bX6_ask_32
    refine ok_f (by rw [nI_leI (by omega) (by omega)]; omega) ?_
    refine ok_re (m_stepOf hv hn (by omega)) (ok_re (m_isStep cdN_lt) ?_)
    rcases bool2 (okC (cdN v n i)) with he | he
    · rw [he]
      refine ok_t (show b2i false = 0 from rfl) (ok_x ?_)
      have : zany (fun i => !okC (cdN v n i)) n = true := zany_t.mpr ⟨i, hi, by rw [he]; rfl⟩
      unfold allC; rw [this]; rfl
    · rw [he]
      refine ok_f (show ¬ b2i true = 0 by decide) (ok_nm (ok_c ⟨nI_1 i, ?_⟩))
      rw [zany_s, hz, he]; rfl
  · rintro s ⟨rfl, hz⟩
    unfold bX6_ask_32
    refine ok_t (by rw [nI_leI (by omega) (by omega)]; omega) (ok_z ?_)
    unfold allC; rw [hz]; rfl
theorem c_allC {d : Dt} (hn : n ≤ 4) (hd : ∀ i, i < n → d.1 70 i = nI (cdN v n i)) : fX5_partsAreSteps d (nI n) = some (b2i (allC v n)) := by
  have key : Ok (z_lp (bX5_partsAreSteps_2 (nI n) d) 0) (fun t => t = if allC v n = true then .inr () else .inl ()) := by
    refine ok_for n (fun i s => s = nI i ∧ zany (fun i => !okC (cdN v n i)) i = false) ?_ ?_ 0 _ (by omega) ⟨rfl, rfl⟩
    · rintro i s hi ⟨rfl, hz⟩
      unfold bX5_partsAreSteps_2
      have hc : cdN v n i < 10000 := cdN_lt
      refine ok_f (by rw [nI_leI (by omega) (by omega)]; omega) (ok_gi (vp_in_nI (by omega) (by omega)) (ok_nm (ok_gi (vp_in_nI (by omega) (by omega)) (ok_nm (ok_gi (vp_in_nI (by omega) (by omega)) (ok_nm ?_))))))
      rw [ix_nI (by omega), hd i hi]
      generalize hcc : cdN v n i = c at hc
      rw [show nI c / (1000 : Int32) = nI (c / 1000) from pk_div (d := 1000) (by omega) (by omega) (by omega), show nI c - nI c / (100 : Int32) * (100 : Int32) = nI (c % 100) from pk_rem (d := 100) (by omega) (by omega) (by omega), show nI c / (100 : Int32) = nI (c / 100) from pk_div (d := 100) (by omega) (by omega) (by omega), show nI (c / 100) - nI (c / 100) / (10 : Int32) * (10 : Int32) = nI (c / 100 % 10) from pk_rem (d := 10) (by omega) (by omega) (by omega)]
      have bad : okC c = false → (if allC v n = true then (Sum.inr () : Unit ⊕ Unit) else .inl ()) = .inl () := fun he => by
        have : zany (fun i => !okC (cdN v n i)) n = true := zany_t.mpr ⟨i, hi, by rw [hcc, he]; rfl⟩
        unfold allC; rw [this]; rfl
      by_cases h1 : c < 2000
      · refine ok_f (show ¬ (1 : Int32) < nI (c / 1000) from fun z => by have := (nI_ltI (a := 1) (by omega) (by omega)).mp z; omega) ?_
        by_cases h2 : c / 100 % 10 ≤ 5
        · refine ok_f (show ¬ (5 : Int32) < nI (c / 100 % 10) from fun z => by have := (nI_ltI (a := 5) (by omega) (by omega)).mp z; omega) ?_
          by_cases h3 : c % 100 < 16
          · refine ok_t (show nI (c % 100) < (16 : Int32) from (nI_ltI (b := 16) (by omega) (by omega)).mpr h3) (ok_nm (ok_c ⟨nI_1 i, ?_⟩))
            rw [zany_s, hz, hcc]; simp [okC, h1, h2, h3]
          · exact ok_f (show ¬ nI (c % 100) < (16 : Int32) from fun z => h3 ((nI_ltI (b := 16) (by omega) (by omega)).mp z)) (ok_x (bad (by simp [okC, h3])).symm)
        · exact ok_t (show (5 : Int32) < nI (c / 100 % 10) from (nI_ltI (a := 5) (by omega) (by omega)).mpr (by omega)) (ok_x (bad (by simp [okC, h2])).symm)
      · exact ok_t (show (1 : Int32) < nI (c / 1000) from (nI_ltI (a := 1) (by omega) (by omega)).mpr (by omega)) (ok_x (bad (by simp [okC, h1])).symm)
    · rintro s ⟨rfl, hz⟩
      unfold bX5_partsAreSteps_2
      refine ok_t (by rw [nI_leI (by omega) (by omega)]; omega) (ok_z ?_)
      unfold allC; rw [hz]; rfl
  obtain ⟨t, k1, rfl⟩ := key
  unfold fX5_partsAreSteps
  rw [k1, br_s]
  rcases bool2 (allC v n) with he | he <;> simp [he, b2i]
theorem allC_cds (hn1 : 1 ≤ n) (hn : n ≤ 4) (h : allC v n = true) : Cds n (cdN v n) := by
  refine ⟨hn1, hn, fun i hi => ?_⟩
  have : okC (cdN v n i) = true := by
    rcases bool2 (okC (cdN v n i)) with he | he
    · have : zany (fun i => !okC (cdN v n i)) n = true := zany_t.mpr ⟨i, hi, by rw [he]; rfl⟩
      unfold allC at h; rw [this] at h; cases h
    · exact he
  unfold okC at this
  simp only [Bool.and_eq_true, decide_eq_true_eq] at this
  exact ⟨this.1, this.2.2, this.2.1⟩
end CD
