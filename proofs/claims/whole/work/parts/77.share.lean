section SH
variable {dc dm : Dt} {n m B : Nat}
theorem or_nI : ∀ S, S < 32 → ∀ p, p < 5 → (nI S ||| ((1 : Int32) <<< (nI p &&& 31))) = nI (S ||| 2 ^ p) := by decide +kernel
theorem or_bit (S p q : Nat) : (S ||| 2 ^ p).testBit q = (S.testBit q || decide (p = q)) := by
  rw [Nat.testBit_or, Nat.testBit_two_pow]
theorem uni_or {ρ : Row} {S p e : Nat} (hp : p < m) : uni ρ n m (S ||| 2 ^ p) e = (uni ρ n m S e || aB ρ n p e) := by
  unfold uni
  rw [Bool.eq_iff_iff, Bool.or_eq_true, zany_t, zany_t]
  constructor
  · rintro ⟨q, hq, h⟩
    rw [or_bit, Bool.and_eq_true, Bool.or_eq_true] at h
    rcases h.1 with h1 | h1
    · exact Or.inl ⟨q, hq, by rw [h1, h.2]; rfl⟩
    · right
      rw [show p = q from of_decide_eq_true h1]; exact h.2
  · rintro (⟨q, hq, h⟩ | h)
    · rw [Bool.and_eq_true] at h
      exact ⟨q, hq, by rw [or_bit, h.1, h.2]; rfl⟩
    · exact ⟨p, hp, by rw [or_bit, h]; simp⟩
theorem wth_or {ρ : Row} {S p : Nat} (hp : p < m) : wth ρ n m (S ||| 2 ^ p) = wth ρ n m S + zc (fun e => aB ρ n p e && !uni ρ n m S e) n := by
  unfold wth
  rw [← zc_add (f := uni ρ n m S) (g := fun e => aB ρ n p e && !uni ρ n m S e) (fun e _ h => by
    rw [h.1] at h; simp at h)]
  refine zc_cong (fun e _ => ?_)
  rw [uni_or hp]
  cases uni ρ n m S e <;> simp
def moreS (ρ : Row) (n m p S : Nat) : Nat := if S.testBit p then 0 else fcN (pcN S) * fcN (m - 1 - pcN S) * zc (fun e => aB ρ n p e && !uni ρ n m S e) n
def sixE (ρ : Row) (n m p e : Nat) : Nat := if aB ρ n p e then 60 / zc (fun q => aB ρ n q e) m else 0
theorem more_six {ρ : Row} {p : Nat} (hm : m ≤ 5) (hp : p < m) : sumN (moreS ρ n m p) (2 ^ m) * 60 = sumN (sixE ρ n m p) n * fcN m := by
  have e1 : sumN (moreS ρ n m p) (2 ^ m) = sumN (fun S => (if S.testBit p then 0 else fcN (pcN S) * fcN (m - 1 - pcN S)) * zc (fun e => aB ρ n p e && !uni ρ n m S e) n) (2 ^ m) :=
    sum_cong (fun S _ => by unfold moreS; cases S.testBit p <;> simp)
  rw [e1, sum_swap (t := fun S => if S.testBit p then 0 else fcN (pcN S) * fcN (m - 1 - pcN S)) (g := fun S e => aB ρ n p e && !uni ρ n m S e) n, ← sum_mul, ← sum_mul]
  refine sum_cong (fun e _ => ?_)
  unfold sixE
  rcases bool2 (aB ρ n p e) with ha | ha
  · rw [if_neg (by rw [ha]; decide), Nat.zero_mul]
    rw [sum_cong (g := fun _ => 0) (fun S _ => by rw [ha]; simp), sum_0, Nat.zero_mul]
  · rw [if_pos ha, ← ordF_eq (f := fun q => aB ρ n q e) hm hp ha]
    congr 1
    unfold ordF
    refine sum_cong (fun S _ => ?_)
    rw [ha]
    have hu : zany (fun q => S.testBit q && aB ρ n q e) m = uni ρ n m S e := rfl
    rw [hu]
    cases S.testBit p <;> cases uni ρ n m S e <;> simp
theorem fc_bd (hm : m ≤ 5) : 0 < fcN m ∧ fcN m ≤ 120 := by
  have : m = 0 ∨ m = 1 ∨ m = 2 ∨ m = 3 ∨ m = 4 ∨ m = 5 := by omega
  rcases this with rfl | rfl | rfl | rfl | rfl | rfl <;> decide
theorem six_le {ρ : Row} {p : Nat} : ∀ k, sumN (sixE ρ n m p) k ≤ 60 * k
  | 0 => Nat.le_refl _
  | k + 1 => by
    have := six_le (ρ := ρ) (p := p) k
    have h2 : sixE ρ n m p k ≤ 60 := by
      unfold sixE; split
      · exact Nat.div_le_self _ _
      · omega
    show sumN (sixE ρ n m p) k + sixE ρ n m p k ≤ _
    omega
theorem c_cntP {ρ : Row} {e : Nat} (h2 : dc.1 1 2 = nI m) (hm : m ≤ 5) (hn : n ≤ 20) (he : e < n) (h71 : ∀ p, p < m → dc.1 71 p = zB (aB ρ n p) n) : fX5_pathsAnswering dc (nI e) = some (nI (zc (fun q => aB ρ n q e) m)) := by
  have key : Ok (z_lp (bX5_pathsAnswering_4 dc (nI e)) (0, 0)) (fun t => t = nI (zc (fun q => aB ρ n q e) m)) := by
    refine ok_for m (fun p s => s = (nI (zc (fun q => aB ρ n q e) p), nI p)) ?_ ?_ 0 _ (by omega) rfl
    · rintro p s hp rfl
      unfold bX5_pathsAnswering_4
      refine ok_f (by rw [h2, nI_leI (by omega) (by omega)]; omega) (ok_gi (vp_in_nI (by omega) (by omega)) (ok_nm (ok_nm (ok_c ?_))))
      rw [ix_nI (by omega), h71 p hp, zB_bt (by omega) he, zc_s, show nI p + (1 : Int32) = nI (p + 1) from nI_1 p]
      cases aB ρ n p e
      · simp
      · simp only [if_true]; rw [show ∀ k : Nat, nI k + (1 : Int32) = nI (k + 1) from nI_1]
    · rintro s rfl
      unfold bX5_pathsAnswering_4
      exact ok_t (by rw [h2, nI_leI (by omega) (by omega)]; omega) (ok_z rfl)
  obtain ⟨t, k1, rfl⟩ := key
  unfold fX5_pathsAnswering
  rw [k1, br_s]
theorem p_share (h : Rel dc dm B) (x u : Int32) : Sim (fX5_share dc x u) (fX6_share dm x u) B := by
  obtain ⟨n, m, s1, s2⟩ := id h.1
  have hot := h.2.2.2.2.2.2
  have h83 := s2.1.2.2.1
  have hm5 := s2.1.2.2.2.1
  have h80 := s2.1.1.1
  have h20 := we_20 s2.1.1
  unfold fX5_share fX6_share
  rcases is_cases x (m := m) (by omega) with ⟨p, hp, rfl⟩ | hx
  · rw [c_isPath1 s1.2.1 hp hm5, m_isPath1 h83 hp hm5, br_s, br_s, z10, z10]
    obtain ⟨dc2, c1, c2, c3⟩ := c_find s1 s2.1
    obtain ⟨dm3, m1, m2, m3⟩ := m_lay hot s2.1
    have hS1 := str_fr hm5 s1 c3 (fun k hk => by unfold Sc; omega)
    obtain ⟨pw0, pw1⟩ := pw32 hm5
    have keyC : Ok (z_lp (bX5_share_19 dc2 (nI p)) (0, 0)) (fun t => t = nI (sumN (sixE (dm.1 2) n m p) n)) := by
      refine ok_for n (fun e s => s = (nI (sumN (sixE (dm.1 2) n m p) e), nI e)) ?_ ?_ 0 _ (by omega) rfl
      · rintro e s he rfl
        unfold bX5_share_19
        have hcl : zc (fun q => aB (dm.1 2) n q e) m ≤ m := zc_le _ _
        refine ok_f (by rw [show dc2.1 2 6 = nI n from hS1.1.2.1.trans h80, nI_leI (by omega) (by omega)]; omega) (ok_re (c_cntP hS1.2.1 hm5 h20 he c2) (ok_gi (vp_in_nI (by omega) (by omega)) ?_))
        rw [ix_nI (by omega), c2 p hp, zB_bt (by omega) he]
        have fin : ∀ k, k = sixE (dm.1 2) n m p e → Ok (jX5_share_69 (nI e) (nI (sumN (sixE (dm.1 2) n m p) e + k))) (fun q => (∃ s', q = .inl s' ∧ s' = (nI (sumN (sixE (dm.1 2) n m p) (e + 1)), nI (e + 1))) ∨ ∃ t, q = .inr t ∧ t = nI (sumN (sixE (dm.1 2) n m p) n)) := by
          intro k hk
          unfold jX5_share_69
          refine ok_nm (ok_c ?_)
          rw [hk, show nI e + (1 : Int32) = nI (e + 1) from nI_1 e]; rfl
        rcases bool2 (aB (dm.1 2) n p e) with ha | ha
        · rw [ha]
          refine ok_t rfl ?_
          exact fin 0 (by unfold sixE; rw [ha]; rfl)
        · rw [ha]
          have hpos : 0 < zc (fun q => aB (dm.1 2) n q e) m := Nat.lt_of_le_of_lt (Nat.zero_le _) (zc_lt (f := fun q => aB (dm.1 2) n q e) hp ha)
          refine ok_f (show ¬ (if true = true then (1 : Int32) else 0) = 0 by decide) (ok_f (nI_nle hpos (by omega)) (ok_gp (nI_ne0 hpos (by omega)) (ok_nm ?_)))
          rw [show (60 : Int32) / nI (zc (fun q => aB (dm.1 2) n q e) m) = nI (60 / zc (fun q => aB (dm.1 2) n q e) m) from pk_div (a := 60) (by omega) hpos (by omega), nI_add]
          exact fin _ (by unfold sixE; rw [ha]; rfl)
      · rintro s rfl
        unfold bX5_share_19
        exact ok_t (by rw [show dc2.1 2 6 = nI n from hS1.1.2.1.trans h80, nI_leI (by omega) (by omega)]; omega) (ok_z rfl)
    have keyM : Ok (z_lp (bX6_share_28 (nI m) (nI p) dm3) (0, 0)) (fun t => t = nI (sumN (moreS (dm.1 2) n m p) (2 ^ m))) := by
      refine ok_for (2 ^ m) (fun S s => s = (nI (sumN (moreS (dm.1 2) n m p) S), nI S)) ?_ ?_ 0 _ (Nat.zero_le _) rfl
      · rintro S s hS rfl
        unfold bX6_share_28
        refine ok_f (by rw [pow_sh m hm5, nI_leI (by omega) (by omega)]; omega) (ok_re (m_has _ (by omega)) ?_)
        rw [bt_nI S p (by omega)]
        have fin : ∀ k, k = moreS (dm.1 2) n m p S → Ok (jX6_share_92 (nI S) (nI (sumN (moreS (dm.1 2) n m p) S + k))) (fun q => (∃ s', q = .inl s' ∧ s' = (nI (sumN (moreS (dm.1 2) n m p) (S + 1)), nI (S + 1))) ∨ ∃ t, q = .inr t ∧ t = nI (sumN (moreS (dm.1 2) n m p) (2 ^ m))) := by
          intro k hk
          unfold jX6_share_92
          refine ok_nm (ok_c ?_)
          rw [hk, show nI S + (1 : Int32) = nI (S + 1) from nI_1 S]; rfl
        rcases bool2 (S.testBit p) with hb | hb
        · rw [hb]
          have hpc := pc_lt m hm5 p hp S hS hb
          have hor : S ||| 2 ^ p < 2 ^ m := Nat.or_lt_two_pow hS (Nat.pow_lt_pow_right (by omega) hp)
          have hd := wth_or (n := n) (m := m) (ρ := dm.1 2) (S := S) hp
          refine ok_t (show b2i false = 0 from rfl) (ok_re (m_onesS (by omega)) (ok_re (m_fact (by omega)) ?_))
          rw [i_sub1 (show 0 < m by omega), pk_sub hpc]
          refine ok_re (m_fact (by omega)) ?_
          rw [or_nI S (by omega) p (by omega)]
          refine ok_gi (vp_in_nI (by omega) (by omega)) (ok_gi (vp_in_nI (by omega) (by omega)) (ok_nm ?_))
          rw [ix_nI (by omega), ix_nI (by omega), m2 _ hor, m2 S hS, pk_sub (by omega), hd, show wth (dm.1 2) n m S + zc (fun e => aB (dm.1 2) n p e && !uni (dm.1 2) n m S e) n - wth (dm.1 2) n m S = zc (fun e => aB (dm.1 2) n p e && !uni (dm.1 2) n m S e) n by omega, pk_mul, pk_mul, nI_add]
          exact fin _ (by unfold moreS; rw [hb]; rfl)
        · rw [hb]
          refine ok_f (show ¬ b2i true = 0 by decide) ?_
          exact fin 0 (by unfold moreS; rw [hb]; rfl)
      · rintro s rfl
        unfold bX6_share_28
        exact ok_t (by rw [pow_sh m hm5, nI_leI (by omega) (by omega)]; omega) (ok_z rfl)
    obtain ⟨tC, k1, rfl⟩ := keyC
    obtain ⟨tM, l1, rfl⟩ := keyM
    have hms := more_six (n := n) (ρ := dm.1 2) hm5 hp
    have hsl := six_le (n := n) (m := m) (ρ := dm.1 2) (p := p) n
    obtain ⟨f0, f1⟩ := fc_bd hm5
    have hml : sumN (moreS (dm.1 2) n m p) (2 ^ m) < 2 ^ 31 := by
      have : sumN (sixE (dm.1 2) n m p) n * fcN m ≤ 1200 * 120 := Nat.mul_le_mul (by omega) f1
      omega
    obtain ⟨q1, q2⟩ := gcd_low f0 (show 0 < 60 by omega) hms
    rw [c1, br_s, k1, br_s, z_nme, show dm.1 2 (z_ix (83 : Int32)) = nI m from h83, m1, br_s, l1, br_s]
    show Sim (z_br (fX5_inLowestTerms (nI (sumN (sixE (dm.1 2) n m p) n)) (nI 60) u) _) (z_br (fX6_factorial (nI m)) _) B
    rw [c_low (by omega) (by omega) (by omega) (by omega) u, br_s, m_fact (by omega), br_s, m_frac hml f0 (by omega) u, br_s, q1, q2]
    exact ⟨_, _, _, rfl, rfl, rel_fr h c3 (frm_of m3)⟩
  · rw [c_isPath0 s1.2.1 hx, m_isPath0 h83 hm5 hx, br_s, br_s, z00, z00]
    exact ⟨_, _, _, rfl, rfl, h⟩
end SH
