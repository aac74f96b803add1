/-! rows that agree below 109 -/
def Ag (ρ ρ' : Row) : Prop := ∀ j, j < 109 → ρ' j = ρ j
theorem zany_cong {f g : Nat → Bool} {n : Nat} (h : ∀ i, i < n → f i = g i) : zany f n = zany g n := by
  induction n with
  | zero => rfl
  | succ n ih => rw [zany_s, zany_s, ih (fun i hi => h i (by omega)), h n (by omega)]
section AG
variable {ρ ρ' : Row} {n : Nat}
theorem ag_we (h : Ag ρ ρ') (w : WE ρ n) : WE ρ' n := by
  obtain ⟨h1, h2, h3, h4, h5, h6⟩ := w
  refine ⟨by rw [h 80 (by omega)]; exact h1, h2, fun e he => ?_, fun h0 => by rw [h 20 (by omega)]; exact h4 h0, fun e h0 he => ?_, fun e he => ?_⟩
  · rw [h e (by omega)]; exact h3 e he
  · rw [h (20 + e) (by omega)]; exact h5 e h0 he
  · rw [h (40 + e) (by omega)]; exact h6 e he
theorem ag_par (h : Ag ρ ρ') {e : Nat} (he : e < 20) : rpar ρ' e = rpar ρ e := by unfold rpar; rw [h (20 + e) (by omega)]
theorem ag_op (h : Ag ρ ρ') {e : Nat} (he : e < 20) : rop ρ' e = rop ρ e := by unfold rop; rw [h (40 + e) (by omega)]
theorem ag_ch (h : Ag ρ ρ') (hn : n ≤ 20) {e c : Nat} : rch ρ' n e c = rch ρ n e c := zany_cong (fun i hi => by rw [h (20 + i) (by omega), h i (by omega)])
theorem ag_met (h : Ag ρ ρ') (hn : n ≤ 20) {q : Bool} {e c : Nat} (he : e < 20) : met ρ' n q e c = met ρ n q e c := by
  unfold met; rw [ag_op h he, ag_ch h hn, h (60 + e) (by omega)]
theorem mS_cong {par par' : Nat → Option Nat} {deep : Nat → Bool} {fits fits' : Nat → Nat → Bool} {N : Nat} (hp : ∀ e, e < N → par' e = par e) (hf : ∀ e, e < N → ∀ i, fits' e i = fits e i) : ∀ e, e < N → mS par' deep fits' e = mS par deep fits e := by
  intro e
  induction e using Nat.strongRecOn with
  | ind e ih =>
    intro he
    rw [mS, mS, hp e he]
    cases hpe : par e with
    | none => simp only [hf e he]
    | some a =>
      by_cases ha : a < e
      · simp only [ha, hf e he, ih a ha (by omega)]
      · simp [ha]
theorem ag_dep (h : Ag ρ ρ') : ∀ e, e < 20 → dep ρ' e = dep ρ e := by
  intro e
  induction e using Nat.strongRecOn with
  | ind e ih =>
    intro he
    rw [dep, dep, ag_par h he]
    cases rpar ρ e with
    | none => rfl
    | some a =>
      by_cases ha : a < e
      · simp only [ha, ih a ha (by omega)]
      · simp [ha]
theorem ag_S (h : Ag ρ ρ') (hn : n ≤ 20) {q : Bool} {cd ts : Nat → Nat} {e : Nat} (he : e < 20) : sS ρ' n q cd ts e = sS ρ n q cd ts e := by
  unfold sS
  exact congrArg Prod.fst (mS_cong (N := 20) (fun e he => ag_par h he) (fun e he i => by unfold fitB; rw [h e (by omega), ag_met h hn he]) e he)
theorem ag_ans (h : Ag ρ ρ') (hn : n ≤ 20) {L : Nat} {cd ts : Nat → Nat} {e : Nat} (he : e < 20) : ansB ρ' n L cd ts e = ansB ρ n L cd ts e := by unfold ansB; rw [ag_S h hn he]
theorem ag_dbt (h : Ag ρ ρ') (hn : n ≤ 20) {L : Nat} {cd ts : Nat → Nat} {e : Nat} (he : e < 20) : dbtB ρ' n L cd ts e = dbtB ρ n L cd ts e := by unfold dbtB posB; rw [ag_ans h hn he, ag_S h hn he]
theorem ag_out (h : Ag ρ ρ') (hn : n ≤ 20) {L : Nat} {cd ts : Nat → Nat} {e : Nat} (he : e < 20) : outB ρ' n L cd ts e = outB ρ n L cd ts e := by
  unfold outB; rw [ag_ans h hn he, zany_cong (fun i hi => ag_dbt h hn (show i < 20 by omega))]
theorem ag_t {ρ'' : Row} (h : Ag ρ ρ') (h' : Ag ρ' ρ'') : Ag ρ ρ'' := fun j hj => (h' j hj).trans (h j hj)
end AG
/-! the path of a row, read off it -/
def rL (ρ : Row) (p : Nat) : Nat := z_ix (ρ (84 + p))
def rcd (ρ : Row) (p i : Nat) : Nat := z_ix (ρ (89 + 4 * p + i))
def rts (ρ : Row) (p i : Nat) : Nat := rcd ρ p i / 100 % 10
def PR (ρ : Row) (p : Nat) : Prop := PW ρ p (rL ρ p) (rcd ρ p)
abbrev aB (ρ : Row) (n p : Nat) : Nat → Bool := ansB ρ n (rL ρ p) (rcd ρ p) (rts ρ p)
abbrev qB (ρ : Row) (n p : Nat) : Nat → Bool := posB ρ n (rL ρ p) (rcd ρ p) (rts ρ p)
abbrev dB (ρ : Row) (n p : Nat) : Nat → Bool := dbtB ρ n (rL ρ p) (rcd ρ p) (rts ρ p)
abbrev oB (ρ : Row) (n p : Nat) : Nat → Bool := outB ρ n (rL ρ p) (rcd ρ p) (rts ρ p)
theorem ts_std {ρ : Row} {p : Nat} {ot : Int32} (h : ot = -9) : TS ot (rL ρ p) (rcd ρ p) (rts ρ p) := Or.inl ⟨h, fun _ _ => rfl⟩
theorem ag_rL {ρ ρ' : Row} (h : Ag ρ ρ') {p : Nat} (hp : p < 5) : rL ρ' p = rL ρ p := by unfold rL; rw [h _ (by omega)]
theorem ag_PR {ρ ρ' : Row} (h : Ag ρ ρ') {p : Nat} (hp : p < 5) (w : PR ρ p) : PR ρ' p := by
  have hl := ag_rL h hp
  obtain ⟨h1, h2, h3, h4⟩ := w
  unfold PR
  rw [hl]
  refine ⟨by rw [h _ (by omega)]; exact h1, h2, h3, fun i hi => ?_⟩
  have : rcd ρ' p i = rcd ρ p i := by unfold rcd; rw [h _ (by omega)]
  rw [this, h _ (by omega)]; exact h4 i hi
theorem mS_fc {par : Nat → Option Nat} {deep deep' : Nat → Bool} {fits fits' : Nat → Nat → Bool} {L : Nat} (hd : ∀ i, i < L → deep' i = deep i) (hf : ∀ e i, i < L → fits' e i = fits e i) (hL : 0 < L) : ∀ e i, i < L → (mS par deep' fits' e).1 i = (mS par deep fits e).1 i ∧ (mS par deep' fits' e).2 i = (mS par deep fits e).2 i := by
  intro e
  induction e using Nat.strongRecOn with
  | ind e ih =>
    intro i hi
    cases hpe : par e with
    | none =>
      have h1 := mS_n (deep := deep') (fits := fits') hpe i
      have h2 := mS_n (deep := deep) (fits := fits) hpe i
      rw [h1.1, h1.2, h2.1, h2.2, hf e i hi, hd 0 hL]; exact ⟨rfl, rfl⟩
    | some a =>
      by_cases ha : a < e
      · have h1 := mS_p (deep := deep') (fits := fits') hpe ha i
        have h2 := mS_p (deep := deep) (fits := fits) hpe ha i
        rw [h1.1, h1.2, h2.1, h2.2, hf e i hi, hd 0 hL, hd i hi, (ih a ha i hi).1, (ih a ha i hi).2]
        by_cases h0 : i = 0
        · simp [h0]
        · rw [(ih a ha (i - 1) (by omega)).1, (ih a ha (i - 1) (by omega)).2]; exact ⟨rfl, rfl⟩
      · rw [mS, mS, hpe]; simp [ha]
/-- only the codes and tests below L matter -/
theorem sS_L {ρ : Row} {n : Nat} {q : Bool} {cd ts cd' ts' : Nat → Nat} {L : Nat} (hL : 0 < L) (h1 : ∀ i, i < L → cd' i = cd i) (h2 : ∀ i, i < L → ts' i = ts i) (e i : Nat) (hi : i < L) : sS ρ n q cd' ts' e i = sS ρ n q cd ts e i :=
  (mS_fc (L := L) (fun i hi => by unfold deepB; rw [h1 i hi]) (fun e i hi => by unfold fitB; rw [h1 i hi, h2 i hi]) hL e i hi).1
theorem ans_L {ρ : Row} {n : Nat} {cd ts cd' ts' : Nat → Nat} {L : Nat} (hL : 0 < L) (h1 : ∀ i, i < L → cd' i = cd i) (h2 : ∀ i, i < L → ts' i = ts i) (e : Nat) : ansB ρ n L cd' ts' e = ansB ρ n L cd ts e := sS_L hL h1 h2 e _ (by omega)
theorem pos_L {ρ : Row} {n : Nat} {cd ts cd' ts' : Nat → Nat} {L : Nat} (hL : 0 < L) (h1 : ∀ i, i < L → cd' i = cd i) (h2 : ∀ i, i < L → ts' i = ts i) (e : Nat) : posB ρ n L cd' ts' e = posB ρ n L cd ts e := sS_L hL h1 h2 e _ (by omega)
theorem dbt_L {ρ : Row} {n : Nat} {cd ts cd' ts' : Nat → Nat} {L : Nat} (hL : 0 < L) (h1 : ∀ i, i < L → cd' i = cd i) (h2 : ∀ i, i < L → ts' i = ts i) (e : Nat) : dbtB ρ n L cd' ts' e = dbtB ρ n L cd ts e := by unfold dbtB; rw [pos_L hL h1 h2, ans_L hL h1 h2]
theorem out_L {ρ : Row} {n : Nat} {cd ts cd' ts' : Nat → Nat} {L : Nat} (hL : 0 < L) (h1 : ∀ i, i < L → cd' i = cd i) (h2 : ∀ i, i < L → ts' i = ts i) (e : Nat) : outB ρ n L cd' ts' e = outB ρ n L cd ts e := by
  unfold outB; rw [ans_L hL h1 h2, zany_cong (fun i _ => dbt_L hL h1 h2 i)]
section AG2
variable {ρ ρ' : Row} {n p : Nat}
theorem ag_rcd (h : Ag ρ ρ') (hp : p < 5) {i : Nat} (hi : i < 4) : rcd ρ' p i = rcd ρ p i := by unfold rcd; rw [h _ (by omega)]
theorem ag_aB (h : Ag ρ ρ') (hn : n ≤ 20) (hp : p < 5) (w : PR ρ p) {e : Nat} (he : e < 20) : aB ρ' n p e = aB ρ n p e := by
  unfold aB
  rw [ag_rL h hp, ag_ans h hn he]
  obtain ⟨-, h2, h3, -⟩ := w
  exact ans_L h2 (fun i hi => ag_rcd h hp (by omega)) (fun i hi => by unfold rts; rw [ag_rcd h hp (by omega)]) e
theorem ag_dB (h : Ag ρ ρ') (hn : n ≤ 20) (hp : p < 5) (w : PR ρ p) {e : Nat} (he : e < 20) : dB ρ' n p e = dB ρ n p e := by
  unfold dB
  rw [ag_rL h hp, ag_dbt h hn he]
  obtain ⟨-, h2, h3, -⟩ := w
  exact dbt_L h2 (fun i hi => ag_rcd h hp (by omega)) (fun i hi => by unfold rts; rw [ag_rcd h hp (by omega)]) e
theorem ag_oB (h : Ag ρ ρ') (hn : n ≤ 20) (hp : p < 5) (w : PR ρ p) {e : Nat} (he : e < 20) : oB ρ' n p e = oB ρ n p e := by
  unfold oB
  rw [ag_rL h hp, ag_out h hn he]
  obtain ⟨-, h2, h3, -⟩ := w
  exact out_L h2 (fun i hi => ag_rcd h hp (by omega)) (fun i hi => by unfold rts; rw [ag_rcd h hp (by omega)]) e
end AG2
/-! what is noted of a path -/
def heldN (ρ : Row) (n p : Nat) : Nat := zc (fun e => aB ρ n p e && !oB ρ n p e) n + zc (dB ρ n p) n
def wrR (ρ : Row) (O : Nat → Bool) (p k : Nat) : Row := fun j => if 114 + 20 * p ≤ j ∧ j < 114 + 20 * p + k ∧ O (j - (114 + 20 * p)) = true ∧ ρ j = -9 then ρ 82 else ρ j
def oN (ρ : Row) (n p e : Nat) : Bool := decide (e < n) && oB ρ n p e
def pkR (a b : Int32) : Int32 := if a < b then b else a
def noteR (ρ : Row) (n p : Nat) : Row := fun j => if j = 109 + p then pkR (ρ (109 + p)) (nI (heldN ρ n p)) else wrR ρ (oN ρ n p) p 20 j
def cntN (ρ : Row) (n p : Nat) : Nat := zc (fun e => oN ρ n p e && decide (ρ (114 + 20 * p + e) = -9)) 20
theorem noteR_ag {ρ : Row} {n p : Nat} : Ag ρ (noteR ρ n p) := fun j hj => by
  unfold noteR wrR
  rw [if_neg (by omega), if_neg (by omega)]
theorem a114 (p e : Nat) : (114 : Int32) + (20 : Int32) * nI p + nI e = nI (114 + 20 * p + e) := by
  rw [show (20 : Int32) * nI p = nI (20 * p) from pk_mul 20 p, show (114 : Int32) + nI (20 * p) = nI (114 + 20 * p) from nI_add 114 _, nI_add]
theorem a109 (p : Nat) : (109 : Int32) + nI p = nI (109 + p) := nI_add 109 p
theorem le20 {c : Nat} (h : c < 2 ^ 31) : (20 : Int32) ≤ nI c ↔ 20 ≤ c := nI_leI (a := 20) (by omega) h
theorem i_pk (a b : Int32) : zif (b ≤ a) a b = pkR a b := by
  unfold pkR
  by_cases h : b ≤ a
  · rw [zif_p h, if_neg (Int32.not_lt.mpr h)]
  · rw [zif_n h, if_pos (Int32.not_le.mp h)]
theorem m_noteOut {d : Dt} {a n p : Nat} (ha : a ≠ 9 ∧ a ≠ 10 ∧ a ≠ 0) (h : WE (d.1 a) n) (hD : ∀ e, e < n → dep (d.1 a) e ≤ 8) (hP : PR (d.1 a) p) (hp5 : p < 5) (hot : d.1 0 13 = -9) (hc : ¬ d.1 a 82 = -9) : ∃ d', fX6_noteOut d a (nI p) = some (nI (cntN (d.1 a) n p), d') ∧ d'.1 a = noteR (d.1 a) n p ∧ Fr (fun k => K9 k ∨ k = a) d d' := by
  have h20 := we_20 h
  obtain ⟨d2, e1, f1⟩ := m_outOf ⟨ha.1, ha.2.1⟩ h hD hP hp5 (ts_std hot)
  have hr : d2.1 a = d.1 a := f1.1 a (by omega)
  have f1' : Fr (fun k => K9 k ∨ k = a) d d2 := fr_w f1 (fun k hk => Or.inl hk)
  have hO : ∀ e, e < 20 → bt (zB (oB (d.1 a) n p) n) e = oN (d.1 a) n p e := fun e he => bt_zB _ _ (by omega) e (by omega)
  have key : Ok (z_lp (bX6_noteOut_13 (zB (oB (d.1 a) n p) n) (nI p) a) (0, 0, d2)) (fun t => t.1 = nI (cntN (d.1 a) n p) ∧ t.2.1 a = wrR (d.1 a) (oN (d.1 a) n p) p 20 ∧ Fr (fun k => K9 k ∨ k = a) d t.2) := by
    refine ok_for 20 (fun e s => ∃ d5, s = (nI (zc (fun e => oN (d.1 a) n p e && decide (d.1 a (114 + 20 * p + e) = -9)) e), nI e, d5) ∧ d5.1 a = wrR (d.1 a) (oN (d.1 a) n p) p e ∧ Fr (fun k => K9 k ∨ k = a) d d5) ?_ ?_ 0 _ (by omega) ⟨d2, rfl, ?_, f1'⟩
    · rintro e s he ⟨d5, rfl, hd5, hf⟩
      unfold bX6_noteOut_13
      refine ok_f (by rw [le20 (by omega)]; omega) ?_
      rw [m_has _ (by omega), hO e he]
      refine ok_re rfl ?_
      have hat : d5.1 a (114 + 20 * p + e) = d.1 a (114 + 20 * p + e) := by rw [hd5]; unfold wrR; rw [if_neg (by omega)]
      have h82 : d5.1 a (z_ix (82 : Int32)) = d.1 a 82 := by
        show d5.1 a 82 = _
        rw [hd5]; unfold wrR; rw [if_neg (by omega)]
      have same : oN (d.1 a) n p e = false ∨ ¬ d.1 a (114 + 20 * p + e) = -9 → wrR (d.1 a) (oN (d.1 a) n p) p e = wrR (d.1 a) (oN (d.1 a) n p) p (e + 1) := by
        intro hor
        funext j
        unfold wrR
        by_cases hj : j = 114 + 20 * p + e
        · subst hj
          rw [if_neg (by omega), if_neg]
          rintro ⟨-, -, g1, g2⟩
          rw [show 114 + 20 * p + e - (114 + 20 * p) = e by omega] at g1
          rcases hor with g | g
          · rw [g] at g1; cases g1
          · exact g g2
        · by_cases hj2 : 114 + 20 * p ≤ j ∧ j < 114 + 20 * p + e
          · have : (j < 114 + 20 * p + e) = (j < 114 + 20 * p + (e + 1)) := propext ⟨fun _ => by omega, fun _ => by omega⟩
            simp only [this]
          · rw [if_neg (fun z => hj2 ⟨z.1, z.2.1⟩), if_neg (fun z => by omega)]
      cases ho : oN (d.1 a) n p e
      · refine ok_t (show b2i false = 0 from rfl) ?_
        unfold jX6_noteOut_65
        refine ok_nm (ok_c ⟨d5, ?_, by rw [hd5]; exact same (Or.inl ho), hf⟩)
        rw [zc_s, ho, show nI e + (1 : Int32) = nI (e + 1) from nI_1 e]; rfl
      · refine ok_f (show ¬ b2i true = 0 by decide) ?_
        rw [a114]
        refine ok_gi (vp_in_nI (by omega) (by omega)) ?_
        rw [ix_nI (by omega), hat]
        by_cases hw : d.1 a (114 + 20 * p + e) = -9
        · refine ok_t hw (ok_gi (vp_in_nI (by omega) (by omega)) (ok_nm (ok_nm ?_)))
          unfold jX6_noteOut_65
          refine ok_nm (ok_c ⟨z_st d5 a (114 + 20 * p + e) (d5.1 a (z_ix (82 : Int32))), ?_, ?_, fr_t hf (fr_st (Or.inr rfl))⟩)
          · rw [zc_s, ho, hw, show nI e + (1 : Int32) = nI (e + 1) from nI_1 e]
            simp only [decide_true, Bool.and_self, if_true]
            rw [show ∀ m : Nat, nI m + (1 : Int32) = nI (m + 1) from nI_1]
          · funext j
            by_cases hj : j = 114 + 20 * p + e
            · subst hj
              rw [st_eq, h82]
              unfold wrR
              rw [if_pos ⟨by omega, by omega, by rw [show 114 + 20 * p + e - (114 + 20 * p) = e by omega]; exact ho, hw⟩]
            · rw [st_j hj, hd5]
              unfold wrR
              by_cases hj2 : 114 + 20 * p ≤ j ∧ j < 114 + 20 * p + e
              · have : (j < 114 + 20 * p + e) = (j < 114 + 20 * p + (e + 1)) := propext ⟨fun _ => by omega, fun _ => by omega⟩
                simp only [this]
              · rw [if_neg (fun z => hj2 ⟨z.1, z.2.1⟩), if_neg (fun z => by omega)]
        · refine ok_f hw ?_
          unfold jX6_noteOut_65
          refine ok_nm (ok_c ⟨d5, ?_, by rw [hd5]; exact same (Or.inr hw), hf⟩)
          rw [zc_s, show nI e + (1 : Int32) = nI (e + 1) from nI_1 e]
          simp [hw]
    · rintro s ⟨d5, rfl, hd5, hf⟩
      unfold bX6_noteOut_13
      exact ok_t (by rw [le20 (by omega)]; omega) (ok_z ⟨rfl, hd5, hf⟩)
    · rw [hr]; funext j; unfold wrR; rw [if_neg (by omega)]
  obtain ⟨⟨x, d13⟩, k1, hx, k2, k3⟩ := key
  dsimp only at hx k2 k3
  subst hx
  have hag : Ag (d.1 a) (d13.1 a) := fun j hj => by rw [k2]; unfold wrR; rw [if_neg (by omega)]
  have hr0 : d13.1 0 = d.1 0 := k3.1 0 (by omega)
  obtain ⟨d15, e2, f2⟩ := m_heldOf (d := d13) (p := p) ⟨ha.1, ha.2.1⟩ (ag_we hag h) (fun e he => by rw [ag_dep hag e (by omega)]; exact hD e he) (ag_PR hag hp5 hP) hp5 (by rw [hr0]; exact ts_std hot)
  have hh : zc (fun e => ansB (d13.1 a) n (rL (d13.1 a) p) (rcd (d13.1 a) p) (rts (d13.1 a) p) e && !outB (d13.1 a) n (rL (d13.1 a) p) (rcd (d13.1 a) p) (rts (d13.1 a) p) e) n + zc (dbtB (d13.1 a) n (rL (d13.1 a) p) (rcd (d13.1 a) p) (rts (d13.1 a) p)) n = heldN (d.1 a) n p := by
    unfold heldN
    congr 1
    · exact zc_cong (fun e he => by rw [show ansB (d13.1 a) n (rL (d13.1 a) p) (rcd (d13.1 a) p) (rts (d13.1 a) p) e = aB (d.1 a) n p e from ag_aB hag h20 hp5 hP (by omega), show outB (d13.1 a) n (rL (d13.1 a) p) (rcd (d13.1 a) p) (rts (d13.1 a) p) e = oB (d.1 a) n p e from ag_oB hag h20 hp5 hP (by omega)])
    · exact zc_cong (fun e he => ag_dB hag h20 hp5 hP (by omega))
  rw [hh] at e2
  have hr15 : d15.1 a = wrR (d.1 a) (oN (d.1 a) n p) p 20 := (f2.1 a (by omega)).trans k2
  have hpk : d15.1 a (109 + p) = d.1 a (109 + p) := by rw [hr15]; unfold wrR; rw [if_neg (by omega)]
  refine ⟨z_st d15 a (109 + p) (pkR (d.1 a (109 + p)) (nI (heldN (d.1 a) n p))), ?_, ?_, ?_⟩
  · unfold fX6_noteOut
    rw [show outB (d.1 a) n (rL (d.1 a) p) (rcd (d.1 a) p) (rts (d.1 a) p) = oB (d.1 a) n p from rfl] at e1
    rw [e1, bd_s, k1, br_s]
    show z_bd (fX6_heldOf d13 a (nI p)) _ = _
    rw [e2, bd_s, a109, in_t (by omega) (by omega), gd_t, ix_nI (by omega), hpk, gd_t]
    unfold jX6_noteOut_106
    rw [a109, in_t (by omega) (by omega), gd_t, gd_t, ix_nI (by omega), z_nme, z_nme, ← i_pk]
    by_cases hle : nI (heldN (d.1 a) n p) ≤ d.1 a (109 + p)
    · rw [zif_p hle, zif_p hle]
    · rw [zif_n hle, zif_n hle]
  · funext j
    by_cases hj : j = 109 + p
    · subst hj; rw [st_eq]; unfold noteR; rw [if_pos rfl]
    · rw [st_j hj, hr15]; unfold noteR; rw [if_neg hj]
  · exact fr_t k3 (fr_t (fr_w f2 (fun k hk => Or.inl hk)) (fr_st (Or.inr rfl)))
