/-! THE PUBLIC METHODS: which -/
def tsO (ρ : Row) (p t i : Nat) : Nat := if i = rL ρ p - 1 then t else rcd ρ p i / 100 % 10
theorem sS_c {ρ : Row} {n : Nat} {q : Bool} {cd ts cd' ts' : Nat → Nat} {L : Nat} (hL : 0 < L) (h0 : ∀ i, i < L → (1000 ≤ cd' i ↔ 1000 ≤ cd i)) (h1 : ∀ i, i < L → cd' i % 100 = cd i % 100) (h2 : ∀ i, i < L → ts' i = ts i) (e i : Nat) (hi : i < L) : sS ρ n q cd' ts' e i = sS ρ n q cd ts e i :=
  (mS_fc (L := L) (fun i hi => by unfold deepB; exact decide_eq_decide.mpr (h0 i hi)) (fun e i hi => by unfold fitB; rw [h1 i hi, h2 i hi]) hL e i hi).1
section WH
variable {d dc dm : Dt} {n m B p t : Nat} {ρ : Row}
theorem c_lastT (hS : StR d 1 ρ n m) (hI : Inv0 ρ n m B) (hp : p < m) (ht : t < 6) : ∃ d', fX5_answersWithLastTest d (nI p) (nI t) = some (nI (zc (ansB ρ n (rL ρ p) (rcd ρ p) (tsO ρ p t)) n), d') ∧ Fr Sc d d' := by
  have hm5 := hI.2.2.2.1
  have h20 := we_20 hI.1
  obtain ⟨d1, e1, e2, e3⟩ := c_copyPa (d := d) (a0 := 37) (a1 := 9 + 4 * p) (by omega) (hS.2.2 p hp)
  obtain ⟨q1, q2, q3, q4⟩ := e2.1
  generalize hL : rL ρ p = L at *
  obtain ⟨w1, w2, w3, w4⟩ := q4 (L - 1) (by omega)
  generalize hc : rcd ρ p (L - 1) = c at *
  -- the changed code
  have hcode : nI c - (nI c / (100 : Int32) - nI c / (100 : Int32) / (10 : Int32) * (10 : Int32)) * (100 : Int32) + nI t * (100 : Int32) = nI (c - c / 100 % 10 * 100 + t * 100) := by
    rw [i_div100 w2, i_rem10 (by omega), show nI (c / 100 % 10) * (100 : Int32) = nI (c / 100 % 10 * 100) from pk_mul _ 100, show nI t * (100 : Int32) = nI (t * 100) from pk_mul _ 100, pk_sub (by omega), nI_add]
  have hset : fX2_setLastTest d1 37 (nI t) = some (z_st d1 38 (L - 1) (nI (c - c / 100 % 10 * 100 + t * 100))) := by
    unfold fX2_setLastTest
    rw [q1, zif_n (nI_nle (by omega) (by omega)), i_sub1 (by omega), in_t (show L - 1 < 4 by omega) (by omega), gd_t, z_nme, gd_t, z_nme, ix_nI (by omega), show d1.1 (37 + 1) (L - 1) = nI c from w1, hcode]
  have fs : Fr (fun k => k = 38) d1 (z_st d1 38 (L - 1) (nI (c - c / 100 % 10 * 100 + t * 100))) := fr_st rfl
  have hE : ElR (z_st d1 38 (L - 1) (nI (c - c / 100 % 10 * 100 + t * 100))) 2 ρ n := elr_fr (elr_fr hS.1 e3 (fun k hk => by omega)) fs (fun k hk => by omega)
  let cd' : Nat → Nat := fun i => if i = L - 1 then c - c / 100 % 10 * 100 + t * 100 else rcd ρ p i
  have hP : PsR (z_st d1 38 (L - 1) (nI (c - c / 100 % 10 * 100 + t * 100))) 37 L cd' := by
    refine ⟨by rw [st_k (by omega)]; exact q1, q2, q3, fun i hi => ?_⟩
    show (z_st d1 38 (L - 1) (nI (c - c / 100 % 10 * 100 + t * 100))).1 38 i = nI (if i = L - 1 then _ else _) ∧ (if i = L - 1 then _ else _) < 2000 ∧ (if i = L - 1 then _ else _) % 100 < 16 ∧ (if i = L - 1 then _ else _) / 100 % 10 ≤ 5
    by_cases hi1 : i = L - 1
    · subst hi1
      rw [if_pos rfl, st_eq]
      refine ⟨rfl, ?_, ?_, ?_⟩ <;> omega
    · rw [if_neg hi1, st_j hi1]; exact q4 i hi
  obtain ⟨d3, g1, g2, -, -, g5⟩ := c_match (el := 2) (pa := 37) (st_el st1) (st_pa (p := 0) st29 (by omega)) hE hI.1 hP
  have hset2 : zB (ansB ρ n L cd' (tsC cd')) n = zB (ansB ρ n L (rcd ρ p) (tsO ρ p t)) n := zB_cong (fun e he => by
    unfold ansB
    refine sS_c (L := L) (by omega) (fun i hi => ?_) (fun i hi => ?_) (fun i hi => ?_) e (L - 1) (by omega)
    · show 1000 ≤ (if i = L - 1 then _ else _) ↔ _
      by_cases hi1 : i = L - 1
      · subst hi1; rw [if_pos rfl, hc]; omega
      · rw [if_neg hi1]
    · show (if i = L - 1 then _ else _) % 100 = _
      by_cases hi1 : i = L - 1
      · subst hi1; rw [if_pos rfl, hc]; omega
      · rw [if_neg hi1]
    · show (if i = L - 1 then _ else _) / 100 % 10 = tsO ρ p t i
      unfold tsO
      rw [hL]
      by_cases hi1 : i = L - 1
      · subst hi1; rw [if_pos rfl, if_pos rfl]; omega
      · rw [if_neg hi1, if_neg hi1])
  refine ⟨d3, ?_, fr_t (fr_w e3 (fun k hk => by unfold Sc; have := hk.1; have := hk.2; omega)) (fr_t (fr_w fs (fun k hk => by unfold Sc; omega)) (frc_m g5))⟩
  unfold fX5_answersWithLastTest
  rw [in_t (show p < 5 by omega) (by omega), gd_t, ix_nI (show p < 2 ^ 31 by omega), show (37 : Nat) + 4 * z_ix (0 : Int32) = 37 from rfl, e1, br_s, hset, br_s, g1, br_s, g2, hset2, c_bits h20, br_s]
theorem m_lastT (hot : dm.1 0 13 = nI t) (ht : t < 6) (hI : Inv0 (dm.1 2) n m B) (hp : p < m) : ∃ d', fX6_answersOf dm 2 (nI p) = some (zB (ansB (dm.1 2) n (rL (dm.1 2) p) (rcd (dm.1 2) p) (tsO (dm.1 2) p t)) n, d') ∧ Fr K9 dm d' :=
  m_answersOf (by omega) hI.1 hI.2.1 (hI.2.2.2.2.1 p hp) (by have := hI.2.2.2.1; omega) (Or.inr ⟨t, ht, hot, fun i _ => rfl⟩)
end WH
