/-! THE CLASS: copying, clearing, adding a path -/
theorem fr_cp {K : Nat → Prop} {d : Dt} {k0 k1 n : Nat} (h : K k1) : Fr K d (z_cp d k0 0 k1 0 n) := ⟨fun k hk => cp_k (fun e => hk (e ▸ h)), rfl⟩
theorem c_clearEl {d : Dt} {el : Nat} {ρ : Row} (h80 : ρ 80 = nI 0) (h81 : ρ 81 = -9) (h82 : ρ 82 = 0) : ∃ d', fX0_clear d el = some d' ∧ ElR d' el ρ 0 ∧ Fr (Ke el) d d' := by
  refine ⟨z_st (z_st (z_st (z_st d el 5 0) el 6 0) el 7 (-9)) el 8 0, ?_, ⟨?_, ?_, ?_, ?_, fun e he => by omega⟩, ?_⟩
  · unfold fX0_clear; simp only [z_nme]
  · simp (disch := omega) only [st_k, st_j, st_eq]; rfl
  · simp (disch := omega) only [st_k, st_j, st_eq, h80]; rfl
  · simp (disch := omega) only [st_k, st_j, st_eq, h81]
  · simp (disch := omega) only [st_k, st_j, st_eq, h82]
  · refine fr_t (fr_t (fr_t (fr_st ?_) (fr_st ?_)) (fr_st ?_)) (fr_st ?_) <;> exact ⟨by omega, by omega⟩
theorem c_clear {d : Dt} {b : Nat} {ρ : Row} (h80 : ρ 80 = nI 0) (h81 : ρ 81 = -9) (h82 : ρ 82 = 0) : ∃ d', fX3_clear d b = some d' ∧ StR d' b ρ 0 0 ∧ Fr (Ks b) d d' := by
  obtain ⟨d1, e1, h1, f1⟩ := c_clearEl (d := d) (el := b + 1) h80 h81 h82
  refine ⟨z_st d1 b 2 0, ?_, ⟨elr_fr h1 (fr_st (K := fun k => k = b) rfl) (fun k hk => by omega), by rw [st_eq]; rfl, fun p hp => by omega⟩, fr_t (fr_w f1 (fun k hk => Or.inr (by have := hk.1; have := hk.2; omega))) (fr_st (Or.inr ⟨by omega, by omega⟩))⟩
  unfold fX3_clear
  rw [e1, br_s, z_nme]
theorem c_copyEl {d : Dt} {a0 a1 n : Nat} {ρ : Row} (hn : n ≤ 20) (hd : a0 + 5 < a1 ∨ a1 + 5 < a0) (hw : ρ 80 = nI n) (hE : ElR d a1 ρ n) : ∃ d', fX0_copyFrom d a0 a1 = some d' ∧ ElR d' a0 ρ n ∧ Fr (Ke a0) d d' := by
  obtain ⟨E1, E2, E3, E4, E5⟩ := hE
  rw [hw] at E2
  have ixn : z_ix (nI n) = n := ix_nI (by omega)
  have gd : z_dc (¬ nI n < 0 ∧ n ≤ 20 ∧ n ≤ 20) = true := z_dc_t ⟨nI_pos (by omega), hn, hn⟩
  refine ⟨z_st (z_st (z_st (z_st (z_cp (z_cp (z_cp (z_cp (z_cp d (a1 + 1) 0 (a0 + 1) 0 n) (a1 + 2) 0 (a0 + 2) 0 n) (a1 + 3) 0 (a0 + 3) 0 n) (a1 + 4) 0 (a0 + 4) 0 n) (a1 + 5) 0 (a0 + 5) 0 n) a0 5 (d.1 a1 5)) a0 6 (nI n)) a0 7 (d.1 a1 7)) a0 8 (d.1 a1 8), ?_, ⟨?_, ?_, ?_, ?_, fun e he => ?_⟩, ?_⟩
  · unfold fX0_copyFrom
    simp (disch := omega) only [z_nme, st_k, st_j, st_eq, cp_k, E2, ixn, gd, gd_t]
  · simp (disch := omega) only [st_k, st_j, st_eq, E1]
  · simp (disch := omega) only [st_k, st_j, st_eq, hw]
  · simp (disch := omega) only [st_k, st_j, st_eq, E3]
  · simp (disch := omega) only [st_k, st_j, st_eq, E4]
  · obtain ⟨q1, q2, q3, q4, q5⟩ := E5 e he
    simp (disch := omega) only [st_k, cp_k, cp_at]
    exact ⟨q1, q2, q3, q4, q5⟩
  · refine fr_t (fr_t (fr_t (fr_t (fr_t (fr_t (fr_t (fr_t (fr_cp ?_) (fr_cp ?_)) (fr_cp ?_)) (fr_cp ?_)) (fr_cp ?_)) (fr_st ?_)) (fr_st ?_)) (fr_st ?_)) (fr_st ?_) <;> exact ⟨by omega, by omega⟩
theorem zc20 {ρ : Row} {p : Nat} : zc (whO ρ p) 20 ≤ 20 := zc_le _ _
abbrev Kq (pa : Nat) : Nat → Prop := fun k => pa ≤ k ∧ k ≤ pa + 3
theorem c_copyPa {d : Dt} {a0 a1 p : Nat} {ρ : Row} (hd : a0 + 3 < a1 ∨ a1 + 3 < a0) (hP : PaR d a1 ρ p) : ∃ d', fX2_copyFrom d a0 a1 = some d' ∧ PaR d' a0 ρ p ∧ Fr (Kq a0) d d' := by
  obtain ⟨⟨q1, q2, q3, q4⟩, h2, h3, h4, h5⟩ := hP
  have hz := zc20 (ρ := ρ) (p := p)
  generalize hL : rL ρ p = L at *
  generalize hw : zc (whO ρ p) 20 = w at *
  have ixL : z_ix (nI L) = L := ix_nI (by omega)
  have ixw : z_ix (nI w) = w := ix_nI (by omega)
  have gL : z_dc (¬ nI L < 0 ∧ L ≤ 4 ∧ L ≤ 4) = true := z_dc_t ⟨nI_pos (by omega), q3, q3⟩
  have gw : z_dc (¬ nI w < 0 ∧ w ≤ 20 ∧ w ≤ 20) = true := z_dc_t ⟨nI_pos (by omega), hz, hz⟩
  refine ⟨z_st (z_st (z_st (z_st (z_cp (z_cp (z_cp d (a1 + 1) 0 (a0 + 1) 0 L) (a1 + 2) 0 (a0 + 2) 0 w) (a1 + 3) 0 (a0 + 3) 0 w) a0 3 (nI L)) a0 4 (nI w)) a0 5 (d.1 a1 5)) a0 6 (d.1 a1 6), ?_, ⟨⟨?_, by rw [hL]; exact q2, by rw [hL]; exact q3, fun i hi => ?_⟩, ?_, ?_, fun e he hwe => ?_, ?_⟩, ?_⟩
  · unfold fX2_copyFrom
    simp (disch := omega) only [z_nme, st_k, st_j, st_eq, cp_k, q1, h3, ixL, ixw, gL, gw, gd_t]
  · simp (disch := omega) only [st_k, st_j, st_eq, hL]
  · rw [hL] at hi
    simp (disch := omega) only [st_k, cp_k, cp_at]
    exact q4 i hi
  · simp (disch := omega) only [st_k, st_j, st_eq, h2]
  · simp (disch := omega) only [st_k, st_j, st_eq, hw]
  · have hlt := zc_lt he hwe
    rw [hw] at hlt
    simp (disch := omega) only [st_k, cp_k, cp_at]
    exact h4 e he hwe
  · simp (disch := omega) only [st_k, st_j, st_eq, h5]
  · refine fr_t (fr_t (fr_t (fr_t (fr_t (fr_t (fr_cp ?_) (fr_cp ?_)) (fr_cp ?_)) (fr_st ?_)) (fr_st ?_)) (fr_st ?_)) (fr_st ?_) <;> exact ⟨by omega, by omega⟩
abbrev Kt (b : Nat) : Nat → Prop := fun k => b ≤ k ∧ k < b + 28
theorem c_copy {d : Dt} {b0 b1 n m : Nat} {ρ : Row} (hn : n ≤ 20) (hm : m ≤ 5) (hd : b0 + 28 ≤ b1 ∨ b1 + 28 ≤ b0) (hw : ρ 80 = nI n) (hS : StR d b1 ρ n m) : ∃ d', fX3_copyFrom d b0 b1 = some d' ∧ StR d' b0 ρ n m ∧ Fr (Kt b0) d d' := by
  obtain ⟨s1, s2, s3⟩ := hS
  obtain ⟨d1, e1, hE1, f1⟩ := c_copyEl (a0 := b0 + 1) (a1 := b1 + 1) hn (by omega) hw s1
  have f1' : Fr (Kt b0) d d1 := fr_w f1 (fun k hk => ⟨by have := hk.1; omega, by have := hk.2; omega⟩)
  have key : Ok (z_lp (bX3_copyFrom_21 b0 b1) (0, z_st d1 b0 2 (nI m))) (fun t => StR t b0 ρ n m ∧ Fr (Kt b0) d t) := by
    refine ok_for m (fun p s => ∃ d4, s = (nI p, d4) ∧ (ElR d4 (b0 + 1) ρ n ∧ d4.1 b0 2 = nI m ∧ ∀ q, q < p → PaR d4 (b0 + 8 + 4 * q) ρ q) ∧ Fr (Kt b0) d d4) ?_ ?_ 0 _ (by omega) ⟨_, rfl, ⟨elr_fr hE1 (fr_st (K := fun k => k = b0) rfl) (fun k hk => by omega), by rw [st_eq], fun q hq => by omega⟩, fr_t f1' (fr_st ⟨by omega, by omega⟩)⟩
    · rintro p s hp ⟨d4, rfl, ⟨g1, g2, g3⟩, hf⟩
      unfold bX3_copyFrom_21
      refine ok_f (by rw [g2, nI_leI (by omega) (by omega)]; omega) (ok_gi (vp_in_nI (by omega) (by omega)) (ok_gi (vp_in_nI (by omega) (by omega)) ?_))
      rw [ix_nI (by omega)]
      obtain ⟨d5, e5, hP5, f5⟩ := c_copyPa (d := d4) (a0 := b0 + 8 + 4 * p) (a1 := b1 + 8 + 4 * p) (by omega) (par_fr (s3 p hp) hf (fun k hk => by omega))
      refine ok_re e5 (ok_nm (ok_c ⟨d5, congrArg (fun z => (z, d5)) (nI_1 p), ⟨elr_fr g1 f5 (fun k hk => by omega), by rw [f5.1 b0 (by omega)]; exact g2, fun q hq => ?_⟩, fr_t hf (fr_w f5 (fun k hk => ⟨by have := hk.1; omega, by have := hk.2; omega⟩))⟩))
      by_cases hqp : q = p
      · subst hqp; exact hP5
      · exact par_fr (g3 q (by omega)) f5 (fun k hk => by omega)
    · rintro s ⟨d4, rfl, g, hf⟩
      unfold bX3_copyFrom_21
      exact ok_t (by rw [g.2.1, nI_leI (by omega) (by omega)]; omega) (ok_z ⟨g, hf⟩)
  obtain ⟨d', k1, k2, k3⟩ := key
  refine ⟨d', ?_, k2, k3⟩
  unfold fX3_copyFrom
  rw [e1, br_s, z_nme, f1.1 b1 (by omega), s2, k1, br_s]
theorem str_fr {d d' : Dt} {K : Nat → Prop} {b n m : Nat} {ρ : Row} (hm : m ≤ 5) (h : StR d b ρ n m) (hf : Fr K d d') (hK : ∀ k, k < 28 → ¬ K (b + k)) : StR d' b ρ n m := by
  obtain ⟨h1, h2, h3⟩ := h
  refine ⟨elr_fr h1 hf (fun k hk => ?_), by rw [hf.1 b (hK 0 (by omega))]; exact h2, fun p hp => par_fr (h3 p hp) hf (fun k hk => ?_)⟩
  · rw [show b + 1 + k = b + (1 + k) by omega]; exact hK _ (by omega)
  · rw [show b + 8 + 4 * p + k = b + (8 + 4 * p + k) by omega]; exact hK _ (by omega)
/-! a path is added -/
def askR (ρ : Row) (m L : Nat) (c0 c1 c2 c3 : Int32) : Row := fun j => if j = 83 then nI (m + 1) else if 114 + 20 * m ≤ j ∧ j < 114 + 20 * m + 20 then -9 else if j = 109 + m then 0 else if j = 89 + 4 * m + 3 then c3 else if j = 89 + 4 * m + 2 then c2 else if j = 89 + 4 * m + 1 then c1 else if j = 89 + 4 * m then c0 else if j = 84 + m then nI L else ρ j
theorem ask_agp {ρ : Row} {m L p : Nat} {c0 c1 c2 c3 : Int32} (hm : m < 5) (hp : p < m) : Agp ρ (askR ρ m L c0 c1 c2 c3) p := by
  refine ⟨?_, fun i hi => ?_, ?_, fun e he => ?_⟩ <;> unfold askR <;> repeat rw [if_neg (by omega)]
theorem ask_lo {ρ : Row} {m L j : Nat} {c0 c1 c2 c3 : Int32} (hj : j < 83) : askR ρ m L c0 c1 c2 c3 j = ρ j := by
  unfold askR; repeat rw [if_neg (by omega)]
theorem c_begin {d : Dt} {pa src L : Nat} (h1 : 1 ≤ L) (h4 : L ≤ 4) (hs : src + 3 < pa ∨ pa + 3 < src) : ∃ d', fX2_begin d pa src (nI L) = some d' ∧ d'.1 pa 3 = nI L ∧ (∀ i, i < L → d'.1 (pa + 1) i = d.1 src i) ∧ d'.1 pa 4 = 0 ∧ d'.1 pa 5 = 0 ∧ d'.1 pa 6 = 0 ∧ Fr (Kq pa) d d' := by
  have e4 : (if (4 : Int32) < (4 : Int32) then (4 : Int32) else (4 : Int32)) = 4 := by decide
  have eL : (if (0 : Int32) < (if (4 : Int32) < nI L then (4 : Int32) else nI L) then (if (4 : Int32) < nI L then (4 : Int32) else nI L) else (0 : Int32)) = nI L := by
    rw [if_neg (show ¬ (4 : Int32) < nI L from fun z => by have := (nI_ltI (a := 4) (by omega) (by omega)).mp z; omega), if_pos (show (0 : Int32) < nI L from (nI_ltI (a := 0) (b := L) (by omega) (by omega)).mpr (by omega))]
  have ixL : z_ix (nI L) = L := ix_nI (by omega)
  have gL : z_dc (¬ nI L < 0 ∧ L ≤ 4 ∧ L ≤ 4) = true := z_dc_t ⟨nI_pos (by omega), h4, h4⟩
  refine ⟨z_st (z_st (z_st (z_cp (z_st d pa 3 (nI L)) src 0 (pa + 1) 0 L) pa 4 0) pa 5 0) pa 6 0, ?_, ?_, fun i hi => ?_, ?_, ?_, ?_, ?_⟩
  · unfold fX2_begin
    rw [e4, eL]
    simp (disch := omega) only [z_nme, st_k, st_j, st_eq, cp_k, ixL, gL, gd_t]
  · simp (disch := omega) only [st_k, st_j, st_eq, cp_k]
  · simp (disch := omega) only [st_k, st_j, st_eq, cp_k, cp_at]
  · simp (disch := omega) only [st_k, st_j, st_eq, cp_k]
  · simp (disch := omega) only [st_k, st_j, st_eq, cp_k]
  · simp (disch := omega) only [st_k, st_j, st_eq, cp_k]
  · refine fr_t (fr_t (fr_t (fr_t (fr_st ?_) (fr_cp ?_)) (fr_st ?_)) (fr_st ?_)) (fr_st ?_) <;> exact ⟨by omega, by omega⟩
