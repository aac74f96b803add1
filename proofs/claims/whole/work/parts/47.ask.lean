/-! rows that agree below 83 -/
def Al (ρ ρ' : Row) : Prop := ∀ j, j < 83 → ρ' j = ρ j
section AL
variable {ρ ρ' : Row} {n p : Nat}
theorem al_we (h : Al ρ ρ') (w : WE ρ n) : WE ρ' n := by
  obtain ⟨h1, h2, h3, h4, h5, h6⟩ := w
  refine ⟨by rw [h 80 (by omega)]; exact h1, h2, fun e he => ?_, fun h0 => by rw [h 20 (by omega)]; exact h4 h0, fun e h0 he => ?_, fun e he => ?_⟩
  · rw [h e (by omega)]; exact h3 e he
  · rw [h (20 + e) (by omega)]; exact h5 e h0 he
  · rw [h (40 + e) (by omega)]; exact h6 e he
theorem al_par (h : Al ρ ρ') {e : Nat} (he : e < 20) : rpar ρ' e = rpar ρ e := by unfold rpar; rw [h (20 + e) (by omega)]
theorem al_op (h : Al ρ ρ') {e : Nat} (he : e < 20) : rop ρ' e = rop ρ e := by unfold rop; rw [h (40 + e) (by omega)]
theorem al_ch (h : Al ρ ρ') (hn : n ≤ 20) {e c : Nat} : rch ρ' n e c = rch ρ n e c := zany_cong (fun i hi => by rw [h (20 + i) (by omega), h i (by omega)])
theorem al_met (h : Al ρ ρ') (hn : n ≤ 20) {q : Bool} {e c : Nat} (he : e < 20) : met ρ' n q e c = met ρ n q e c := by
  unfold met; rw [al_op h he, al_ch h hn, h (60 + e) (by omega)]
theorem al_dw (h : Al ρ ρ') : ∀ e, e < 20 → dep ρ' e = dep ρ e ∧ ∀ k, wy ρ' e k = wy ρ e k := dw_cong (fun e he => al_par h he)
theorem al_S (h : Al ρ ρ') (hn : n ≤ 20) {q : Bool} {cd ts : Nat → Nat} {e : Nat} (he : e < 20) : sS ρ' n q cd ts e = sS ρ n q cd ts e := by
  unfold sS
  exact congrArg Prod.fst (mS_cong (N := 20) (fun e he => al_par h he) (fun e he i => by unfold fitB; rw [h e (by omega), al_met h hn he]) e he)
theorem al_ans (h : Al ρ ρ') (hn : n ≤ 20) {L : Nat} {cd ts : Nat → Nat} {e : Nat} (he : e < 20) : ansB ρ' n L cd ts e = ansB ρ n L cd ts e := by unfold ansB; rw [al_S h hn he]
theorem al_dbt (h : Al ρ ρ') (hn : n ≤ 20) {L : Nat} {cd ts : Nat → Nat} {e : Nat} (he : e < 20) : dbtB ρ' n L cd ts e = dbtB ρ n L cd ts e := by unfold dbtB posB; rw [al_ans h hn he, al_S h hn he]
theorem al_out (h : Al ρ ρ') (hn : n ≤ 20) {L : Nat} {cd ts : Nat → Nat} {e : Nat} (he : e < 20) : outB ρ' n L cd ts e = outB ρ n L cd ts e := by
  unfold outB; rw [al_ans h hn he, zany_cong (fun i hi => al_dbt h hn (show i < 20 by omega))]
theorem al_oN (h : Al ρ ρ') (ha : Agp ρ ρ' p) (hn : n ≤ 20) (w : PR ρ p) {e : Nat} (he : e < 20) : oN ρ' n p e = oN ρ n p e := by
  obtain ⟨-, h2, h3, -⟩ := w
  have hL : rL ρ' p = rL ρ p := by unfold rL; rw [ha.1]
  have hc : ∀ i, i < rL ρ p → rcd ρ' p i = rcd ρ p i := fun i hi => by unfold rcd; rw [ha.2.1 i (by omega)]
  unfold oN oB
  rw [hL, al_out h hn he, out_L h2 hc (ts := rts ρ p) (fun i hi => by unfold rts; rw [hc i hi]) e]
theorem al_ho (h : Al ρ ρ') (hn : n ≤ 20) (w : HO ρ n) : HO ρ' n := by
  rcases w with ⟨g1, g2⟩ | ⟨x, hx, g1, g2⟩
  · exact Or.inl ⟨by rw [h 81 (by omega)]; exact g1, fun e he => by rw [al_op h (by omega)]; exact g2 e he⟩
  · refine Or.inr ⟨x, hx, by rw [h 81 (by omega)]; exact g1, fun e he => ?_⟩
    rw [al_op h (by omega), (al_dw h x (by omega)).1, g2 e he]
    simp only [(al_dw h x (show x < 20 by omega)).2]
theorem elr_al {d : Dt} {el : Nat} (hn : n ≤ 20) (h : Al ρ ρ') (w : ElR d el ρ n) : ElR d el ρ' n := by
  obtain ⟨h1, h2, h3, h4, h5⟩ := w
  refine ⟨?_, by rw [h 80 (by omega)]; exact h2, by rw [h 81 (by omega)]; exact h3, by rw [h 82 (by omega)]; exact h4, fun e he => ?_⟩
  · rw [h1]; exact zB_cong (fun e he => (al_op h (by omega)).symm)
  · obtain ⟨g1, g2, g3, g4, g5⟩ := h5 e he
    refine ⟨by rw [h e (by omega)]; exact g1, by rw [h (20 + e) (by omega)]; exact g2, by rw [(al_dw h e (by omega)).1]; exact g3, by rw [h (60 + e) (by omega)]; exact g4, ?_⟩
    rw [g5]; exact zB_cong (fun c _ => (al_ch h hn).symm)
theorem agp_PR (ha : Agp ρ ρ' p) (w : PR ρ p) : PR ρ' p := by
  obtain ⟨h1, h2, h3, h4⟩ := w
  have hL : rL ρ' p = rL ρ p := by unfold rL; rw [ha.1]
  unfold PR
  rw [hL]
  refine ⟨by rw [ha.1]; exact h1, h2, h3, fun i hi => ?_⟩
  have : rcd ρ' p i = rcd ρ p i := by unfold rcd; rw [ha.2.1 i (by omega)]
  rw [this, ha.2.1 i (by omega)]; exact h4 i hi
end AL
/-! asking on a row -/
section ASK
variable {ρ : Row} {n m B L : Nat} {c : Nat → Nat}
abbrev askN (ρ : Row) (m L : Nat) (c : Nat → Nat) : Row := askR ρ m L (nI (c 0)) (nI (c 1)) (nI (c 2)) (nI (c 3))
theorem ask_al : Al ρ (askN ρ m L c) := fun j hj => ask_lo hj
theorem ask_83 : askN ρ m L c 83 = nI (m + 1) := by unfold askN askR; rw [if_pos rfl]
theorem ask_L (hm : m < 5) : askN ρ m L c (84 + m) = nI L := by
  unfold askN askR; rw [if_neg (by omega), if_neg (by omega), if_neg (by omega), if_neg (by omega), if_neg (by omega), if_neg (by omega), if_neg (by omega), if_pos rfl]
theorem ask_c (hm : m < 5) : ∀ i, i < 4 → askN ρ m L c (89 + 4 * m + i) = nI (c i) := by
  intro i hi
  unfold askN askR
  rw [if_neg (by omega), if_neg (by omega), if_neg (by omega)]
  have : i = 0 ∨ i = 1 ∨ i = 2 ∨ i = 3 := by omega
  rcases this with rfl | rfl | rfl | rfl
  · rw [if_neg (by omega), if_neg (by omega), if_neg (by omega), if_pos (by omega)]
  · rw [if_neg (by omega), if_neg (by omega), if_pos rfl]
  · rw [if_neg (by omega), if_pos rfl]
  · rw [if_pos rfl]
theorem ask_pk (hm : m < 5) : askN ρ m L c (109 + m) = 0 := by
  unfold askN askR; rw [if_neg (by omega), if_neg (by omega), if_pos rfl]
theorem ask_w (hm : m < 5) {e : Nat} (he : e < 20) : askN ρ m L c (114 + 20 * m + e) = -9 := by
  unfold askN askR; rw [if_neg (by omega), if_pos (by omega)]
/-- codes of steps -/
def Cds (L : Nat) (c : Nat → Nat) : Prop := 1 ≤ L ∧ L ≤ 4 ∧ ∀ i, i < L → c i < 2000 ∧ c i % 100 < 16 ∧ c i / 100 % 10 ≤ 5
theorem ask_rL (hm : m < 5) (hL : L ≤ 4) : rL (askN ρ m L c) m = L := by unfold rL; rw [ask_L hm, ix_nI (by omega)]
theorem ask_rcd (hm : m < 5) {i : Nat} (hi : i < 4) (hc : c i < 2000) : rcd (askN ρ m L c) m i = c i := by unfold rcd; rw [ask_c hm i hi, ix_nI (by omega)]
theorem ask_PR (hm : m < 5) (hc : Cds L c) : PR (askN ρ m L c) m := by
  obtain ⟨h1, h4, h5⟩ := hc
  unfold PR
  rw [ask_rL hm h4]
  refine ⟨ask_L hm, h1, h4, fun i hi => ?_⟩
  obtain ⟨g1, g2, g3⟩ := h5 i hi
  rw [ask_rcd hm (by omega) g1]
  refine ⟨ask_c hm i (by omega), ?_, ?_, ?_⟩ <;> assumption
theorem ask_inv (hm : m < 5) (hc : Cds L c) (hI : Inv0 ρ n m B) : Inv0 (askN ρ m L c) n (m + 1) B := by
  obtain ⟨h1, h2, h3, h4, h5, h6, k, hk, h7⟩ := hI
  have h20 := we_20 h1
  refine ⟨al_we ask_al h1, fun e he => by rw [(al_dw ask_al e (by omega)).1]; exact h2 e he, ask_83, hm, fun p hp => ?_, al_ho ask_al h20 h6, k, hk, by rw [ask_al 82 (by omega)]; exact h7⟩
  by_cases hpm : p = m
  · subst hpm; exact ask_PR hm hc
  · exact agp_PR (ask_agp hm (by omega)) (h5 p (by omega))
theorem ask_wh (hm : m < 5) {e : Nat} (he : e < 20) : whO (askN ρ m L c) m e = false := by unfold whO; rw [ask_w hm he]; rfl
theorem ask_rdy (hm : m < 5) : Rdy (askN ρ m L c) n m := ⟨fun e he h => absurd h (by rw [ask_wh hm he]; decide), fun e x he h => absurd h (by rw [ask_wh hm he]; decide)⟩
theorem ask_invs (hB : B < 2 ^ 31) (hm : m < 5) (hc : Cds L c) (hI : InvS ρ n m B) : InvS (noteR (askN ρ m L c) n m) n (m + 1) B := by
  obtain ⟨hI, hW⟩ := hI
  have h20 := we_20 hI.1
  have hA := ask_inv hm hc hI
  have hcl : ¬ askN ρ m L c 82 = -9 := (inv01 hA hB).2.2.2.2.2
  refine ⟨ag_inv0 noteR_ag hA, fun p hp e he => ?_⟩
  have ho : oN (noteR (askN ρ m L c) n m) n p e = oN (askN ρ m L c) n p e := by
    unfold oN; rw [ag_oB noteR_ag h20 (by omega) (hA.2.2.2.2.1 p hp) he]
  rw [ho]
  by_cases hpm : p = m
  · subst hpm
    rw [noteR_wh he hcl]
    unfold rdB
    rw [ask_wh hm he]; simp
  · have hap := ask_agp (ρ := ρ) (L := L) (c0 := nI (c 0)) (c1 := nI (c 1)) (c2 := nI (c 2)) (c3 := nI (c 3)) hm (show p < m by omega)
    rw [al_oN ask_al hap h20 (hI.2.2.2.2.1 p (by omega)) he, ← hW p (by omega) e he]
    unfold whO
    rw [(note_agp (ρ := askN ρ m L c) (n := n) hm (show p < 5 by omega) hpm).2.2.2 e he, show askN ρ m L c (114 + 20 * p + e) = _ from hap.2.2.2 e he]
theorem ask_note0 (hm : m < 5) : noteR (askN ρ m L c) 0 m = askN ρ m L c := by
  funext j
  unfold noteR
  have hz : heldN (askN ρ m L c) 0 m = 0 := rfl
  by_cases hj : j = 109 + m
  · rw [if_pos hj, hj, hz, ask_pk hm]; rfl
  · rw [if_neg hj]
    unfold wrR oN
    simp
theorem c_addPath {d : Dt} {b src : Nat} (hb : isSt b) (hs : src + 3 < b ∨ b + 28 ≤ src) (hn : n ≤ 20) (hm : m < 5) (hc : Cds L c) (hS : StR d b ρ n m) (hd : ∀ i, i < L → d.1 src i = nI (c i)) : ∃ d', fX3_addPath d b src (nI L) = some d' ∧ StR d' b (askN ρ m L c) n (m + 1) ∧ Fr (Kt b) d d' := by
  obtain ⟨s1, s2, s3⟩ := hS
  obtain ⟨h1, h4, h5⟩ := hc
  obtain ⟨d1, e1, g3, g1, g4, g5, g6, f1⟩ := c_begin (d := d) (pa := b + 8 + 4 * m) (src := src) h1 h4 (by omega)
  have fs : Fr (fun k => k = b) d1 (z_st d1 b 2 (nI m + 1)) := fr_st rfl
  have g2 : d1.1 b 2 = nI m := by rw [f1.1 b (by omega)]; exact s2
  refine ⟨z_st d1 b 2 (nI m + 1), ?_, ⟨?_, ?_, fun p hp => ?_⟩, fr_t (fr_w f1 (fun k hk => ⟨by have := hk.1; omega, by have := hk.2; omega⟩)) (fr_st ⟨by omega, by omega⟩)⟩
  · unfold fX3_addPath
    rw [s2, zif_n (by rw [le5 (by omega)]; omega), in_t hm (by omega), gd_t, ix_nI (by omega), e1, br_s, z_nme, g2]
  · exact elr_al hn ask_al (elr_fr (elr_fr s1 f1 (fun k hk => by omega)) fs (fun k hk => by omega))
  · rw [st_eq]; exact nI_1 m
  · by_cases hpm : p = m
    · subst hpm
      have hz : zB (whO (askN ρ p L c) p) 20 = 0 := (zB_0 (by omega)).mpr (fun e he => ask_wh hm he)
      have hz2 : zc (whO (askN ρ p L c) p) 20 = 0 := zc_0 (fun e he => ask_wh hm he)
      refine par_fr (d := d1) ⟨⟨by rw [ask_rL hm h4]; exact g3, by rw [ask_rL hm h4]; exact h1, by rw [ask_rL hm h4]; exact h4, fun i hi => ?_⟩, by rw [hz]; exact g5, by rw [hz2]; exact g4, fun e he hw => ?_, by rw [ask_pk hm]; exact g6⟩ fs (fun k hk => by omega)
      · rw [ask_rL hm h4] at hi
        obtain ⟨q1, q2, q3⟩ := h5 i hi
        rw [ask_rcd hm (by omega) q1, g1 i hi, hd i hi]
        exact ⟨rfl, q1, q2, q3⟩
      · rw [ask_wh hm he] at hw; cases hw
    · exact par_ag (par_fr (par_fr (s3 p (by omega)) f1 (fun k hk => by omega)) fs (fun k hk => by omega)) (ask_agp hm (by omega))
end ASK
