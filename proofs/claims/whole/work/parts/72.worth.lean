/-! sets of paths -/
theorem bt_nI (S i : Nat) (hi : i < 32) : bt (nI S) i = S.testBit i := by
  show (BitVec.ofNat 32 S).getLsbD i = _
  rw [BitVec.getLsbD_ofNat]; simp [hi]
theorem pow_sh : ∀ m, m ≤ 5 → ((1 : Int32) <<< (nI m &&& 31)) = nI (2 ^ m) := by decide
/-- what any path of S answers -/
def uni (ρ : Row) (n m S e : Nat) : Bool := zany (fun p => S.testBit p && aB ρ n p e) m
def wth (ρ : Row) (n m S : Nat) : Nat := zc (uni ρ n m S) n
section WO
variable {dc dm : Dt} {n m B : Nat}
theorem c_ansOf {ρ : Row} {p : Nat} (hS : StR dc 1 ρ n m) (hI : Inv0 ρ n m B) (hp : p < m) : ∃ d', fX5_answersOf dc 1 (nI p) = some (zB (aB ρ n p) n, d') ∧ Fr Km dc d' := by
  have hm5 := hI.2.2.2.1
  obtain ⟨d1, e1, e2, -, -, f1⟩ := c_mt st1 hS hI hp
  refine ⟨d1, ?_, f1⟩
  unfold fX5_answersOf
  rw [in_t (show p < 5 by omega) (by omega), gd_t, ix_nI (by omega), e1, br_s, e2]
theorem c_find {ρ : Row} (hS : StR dc 1 ρ n m) (hI : Inv0 ρ n m B) : ∃ d', fX5_findAnswerSets dc = some d' ∧ (∀ p, p < m → d'.1 71 p = zB (aB ρ n p) n) ∧ Fr Sc dc d' := by
  have hm5 := hI.2.2.2.1
  have key : Ok (z_lp bX5_findAnswerSets_2 (0, dc)) (fun u => (∀ p, p < m → u.1 71 p = zB (aB ρ n p) n) ∧ Fr Sc dc u) := by
    refine ok_for m (fun p s => ∃ d2, s = (nI p, d2) ∧ (∀ q, q < p → d2.1 71 q = zB (aB ρ n q) n) ∧ Fr Sc dc d2) ?_ ?_ 0 _ (by omega) ⟨dc, rfl, fun q hq => by omega, fr_r⟩
    · rintro p s hp ⟨d2, rfl, h2, hf⟩
      have hS2 := str_fr hm5 hS hf (fun k hk => by unfold Sc; omega)
      obtain ⟨d4, e1, f1⟩ := c_ansOf hS2 hI hp
      unfold bX5_findAnswerSets_2
      refine ok_f (by rw [hS2.2.1, nI_leI (by omega) (by omega)]; omega) (ok_de e1 (ok_gi (vp_in_nI (by omega) (by omega)) (ok_nm (ok_nm (ok_c ⟨z_st d4 71 p (zB (aB ρ n p) n), ?_, fun q hq => ?_, fr_t hf (fr_t (frc_m f1) (fr_st (by unfold Sc; omega)))⟩)))))
      · rw [ix_nI (by omega), show nI p + (1 : Int32) = nI (p + 1) from nI_1 p]
      · by_cases hqp : q = p
        · subst hqp; rw [st_eq]
        · rw [st_j hqp, f1.1 71 (by omega)]; exact h2 q (by omega)
    · rintro s ⟨d2, rfl, h2, hf⟩
      have hS2 := str_fr hm5 hS hf (fun k hk => by unfold Sc; omega)
      unfold bX5_findAnswerSets_2
      exact ok_t (by rw [hS2.2.1, nI_leI (by omega) (by omega)]; omega) (ok_z ⟨h2, hf⟩)
  obtain ⟨d', k1, k2, k3⟩ := key
  refine ⟨d', ?_, k2, k3⟩
  unfold fX5_findAnswerSets
  rw [k1, br_s]
theorem m_lay (hot : dm.1 0 13 = -9) (hI : Inv0 (dm.1 2) n m B) : ∃ d', fX6_layWorth dm = some d' ∧ (∀ S, S < 2 ^ m → d'.1 11 S = nI (wth (dm.1 2) n m S)) ∧ Fr Sm dm d' := by
  have hm5 := hI.2.2.2.1
  have h20 := we_20 hI.1
  have h83 : dm.1 2 (z_ix (83 : Int32)) = nI m := hI.2.2.1
  have key1 : Ok (z_lp (bX6_layWorth_10 (nI m)) (0, dm)) (fun u => (∀ p, p < m → u.1 12 p = zB (aB (dm.1 2) n p) n) ∧ Fr Sm dm u) := by
    refine ok_for m (fun p s => ∃ d3, s = (nI p, d3) ∧ (∀ q, q < p → d3.1 12 q = zB (aB (dm.1 2) n q) n) ∧ Fr Sm dm d3) ?_ ?_ 0 _ (by omega) ⟨dm, rfl, fun q hq => by omega, fr_r⟩
    · rintro p s hp ⟨d3, rfl, h3, hf⟩
      have c2 : d3.1 2 = dm.1 2 := hf.1 2 (by unfold Sm; omega)
      obtain ⟨d5, e1, f1⟩ := m_ans (d := d3) (a := 2) (by omega) (by rw [hf.1 0 (by unfold Sm; omega)]; exact hot) (by rw [c2]; exact hI) hp
      rw [c2] at e1
      unfold bX6_layWorth_10
      refine ok_f (by rw [nI_leI (by omega) (by omega)]; omega) (ok_de e1 (ok_gi (vp_in_nI (by omega) (by omega)) (ok_nm (ok_nm (ok_c ⟨z_st d5 12 p (zB (aB (dm.1 2) n p) n), ?_, fun q hq => ?_, fr_t hf (fr_t (fr_w f1 (fun k hk => k9_sm hk)) (fr_st (by unfold Sm; omega)))⟩)))))
      · rw [ix_nI (by omega), show nI p + (1 : Int32) = nI (p + 1) from nI_1 p]
      · by_cases hqp : q = p
        · subst hqp; rw [st_eq]
        · rw [st_j hqp, f1.1 12 (by omega)]; exact h3 q (by omega)
    · rintro s ⟨d3, rfl, h3, hf⟩
      unfold bX6_layWorth_10
      exact ok_t (by rw [nI_leI (by omega) (by omega)]; omega) (ok_z ⟨h3, hf⟩)
  obtain ⟨d8, k1, k2, k3⟩ := key1
  have hpw : 2 ^ m ≤ 32 := by
    have : m = 0 ∨ m = 1 ∨ m = 2 ∨ m = 3 ∨ m = 4 ∨ m = 5 := by omega
    rcases this with rfl | rfl | rfl | rfl | rfl | rfl <;> decide
  have key2 : Ok (z_lp (bX6_layWorth_38 (nI m)) (0, d8)) (fun u => (∀ S, S < 2 ^ m → u.1 11 S = nI (wth (dm.1 2) n m S)) ∧ Fr (fun k => k = 11) d8 u) := by
    refine ok_for (2 ^ m) (fun S s => ∃ d10, s = (nI S, d10) ∧ (∀ T, T < S → d10.1 11 T = nI (wth (dm.1 2) n m T)) ∧ Fr (fun k => k = 11) d8 d10) ?_ ?_ 0 _ (Nat.zero_le _) ⟨d8, rfl, fun q hq => by omega, fr_r⟩
    · rintro S s hS ⟨d10, rfl, h10, hf⟩
      unfold bX6_layWorth_38
      refine ok_f (by rw [pow_sh m hm5, nI_leI (by omega) (by omega)]; omega) ?_
      have inner : Ok (z_lp (bX6_layWorth_50 (nI m) (nI S) d10) (0, 0)) (fun u => u = zB (uni (dm.1 2) n m S) n) := by
        have z0 : (0 : Int32) = zB (fun e => zany (fun p => S.testBit p && aB (dm.1 2) n p e) 0) n := ((zB_0 (by omega)).mpr (fun _ _ => rfl)).symm
        refine ok_for m (fun p s => s = (zB (fun e => zany (fun p => S.testBit p && aB (dm.1 2) n p e) p) n, nI p)) ?_ ?_ 0 _ (by omega) (congrArg (fun z => (z, (0 : Int32))) z0)
        · rintro p s hp rfl
          unfold bX6_layWorth_50
          refine ok_f (by rw [nI_leI (by omega) (by omega)]; omega) ?_
          refine ok_re (m_has _ (by omega)) ?_
          rw [bt_nI S p (by omega)]
          have stp : ∀ b, S.testBit p = b → zB (fun e => zany (fun p => S.testBit p && aB (dm.1 2) n p e) p) n ||| (if b = true then zB (aB (dm.1 2) n p) n else 0) = zB (fun e => zany (fun p => S.testBit p && aB (dm.1 2) n p e) (p + 1)) n := by
            intro b hb
            cases b
            · simp only [Bool.false_eq_true, if_false, or_0]
              exact zB_cong (fun e _ => by rw [zany_s, hb]; simp)
            · simp only [if_true]
              rw [zB_or (by omega)]
              exact zB_cong (fun e _ => by rw [zany_s, hb]; simp)
          rcases bool2 (S.testBit p) with hb | hb
          · rw [hb]
            refine ok_t (show b2i false = 0 from rfl) ?_
            unfold jX6_layWorth_77
            refine ok_nm (ok_nm (ok_c ?_))
            have := stp false hb
            simp only [Bool.false_eq_true, if_false] at this
            rw [this, show nI p + (1 : Int32) = nI (p + 1) from nI_1 p]
          · rw [hb]
            refine ok_f (show ¬ b2i true = 0 by decide) (ok_gi (vp_in_nI (by omega) (by omega)) ?_)
            unfold jX6_layWorth_77
            refine ok_nm (ok_nm (ok_c ?_))
            rw [ix_nI (by omega), hf.1 12 (by omega), k2 p hp]
            have := stp true hb
            simp only [if_true] at this
            rw [this, show nI p + (1 : Int32) = nI (p + 1) from nI_1 p]
        · rintro s rfl
          unfold bX6_layWorth_50
          exact ok_t (by rw [nI_leI (by omega) (by omega)]; omega) (ok_z rfl)
      refine ok_br inner (fun u hu => ?_)
      subst hu
      refine ok_re (m_ones h20) (ok_gi (vp_in_nI (by omega) (by omega)) (ok_nm (ok_nm (ok_c ⟨z_st d10 11 S (nI (wth (dm.1 2) n m S)), ?_, fun T hT => ?_, fr_t hf (fr_st rfl)⟩))))
      · rw [ix_nI (by omega), show nI S + (1 : Int32) = nI (S + 1) from nI_1 S]; rfl
      · by_cases hTS : T = S
        · subst hTS; rw [st_eq]
        · rw [st_j hTS]; exact h10 T (by omega)
    · rintro s ⟨d10, rfl, h10, hf⟩
      unfold bX6_layWorth_38
      exact ok_t (by rw [pow_sh m hm5, nI_leI (by omega) (by omega)]; omega) (ok_z ⟨h10, hf⟩)
  obtain ⟨d21, j1, j2, j3⟩ := key2
  refine ⟨d21, ?_, j2, fr_t k3 (fr_w j3 (fun k hk => by unfold Sm; omega))⟩
  unfold fX6_layWorth
  rw [z_nme, h83, k1, br_s]
  show z_br (z_lp (bX6_layWorth_38 (nI m)) (0, d8)) _ = _
  rw [j1, br_s]
end WO
