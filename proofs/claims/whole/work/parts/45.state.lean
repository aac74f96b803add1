/-! THE CLASS: a state, and what it emits -/
theorem par_fr {d d' : Dt} {K : Nat → Prop} {pa p : Nat} {ρ : Row} (h : PaR d pa ρ p) (hf : Fr K d d') (hK : ∀ k, k ≤ 3 → ¬ K (pa + k)) : PaR d' pa ρ p := by
  obtain ⟨h1, h2, h3, h4, h5⟩ := h
  have e0 : d'.1 pa = d.1 pa := hf.1 pa (hK 0 (by omega))
  refine ⟨psr_fr h1 hf (fun k hk => hK k (by omega)), by rw [e0]; exact h2, by rw [e0]; exact h3, fun e he hw => ?_, by rw [e0]; exact h5⟩
  rw [hf.1 _ (hK 2 (by omega)), hf.1 _ (hK 3 (by omega))]
  exact h4 e he hw
/-- rows that agree where path p is -/
def Agp (ρ ρ' : Row) (p : Nat) : Prop := ρ' (84 + p) = ρ (84 + p) ∧ (∀ i, i < 4 → ρ' (89 + 4 * p + i) = ρ (89 + 4 * p + i)) ∧ ρ' (109 + p) = ρ (109 + p) ∧ ∀ e, e < 20 → ρ' (114 + 20 * p + e) = ρ (114 + 20 * p + e)
theorem par_ag {d : Dt} {pa p : Nat} {ρ ρ' : Row} (h : PaR d pa ρ p) (ha : Agp ρ ρ' p) : PaR d pa ρ' p := by
  obtain ⟨⟨q1, q2, q3, q4⟩, h2, h3, h4, h5⟩ := h
  obtain ⟨a1, a2, a3, a4⟩ := ha
  have hL : rL ρ' p = rL ρ p := by unfold rL; rw [a1]
  have hw : ∀ e, e < 20 → whO ρ' p e = whO ρ p e := fun e he => by unfold whO; rw [a4 e he]
  refine ⟨⟨by rw [hL]; exact q1, by rw [hL]; exact q2, by rw [hL]; exact q3, fun i hi => ?_⟩, ?_, ?_, fun e he hwe => ?_, ?_⟩
  · rw [hL] at hi
    have : rcd ρ' p i = rcd ρ p i := by unfold rcd; rw [a2 i (by omega)]
    rw [this]; exact q4 i hi
  · rw [zB_cong hw]; exact h2
  · rw [zc_cong hw]; exact h3
  · rw [hw e he] at hwe
    rw [zc_cong (fun i hi => hw i (by omega)), a4 e he]; exact h4 e he hwe
  · rw [a3]; exact h5
theorem note_agp {ρ : Row} {n p q : Nat} (hp : p < 5) (hq : q < 5) (hne : q ≠ p) : Agp ρ (noteR ρ n p) q := by
  refine ⟨noteR_ag _ (by omega), fun i hi => noteR_ag _ (by omega), ?_, fun e he => ?_⟩
  · unfold noteR wrR; rw [if_neg (by omega), if_neg (by omega)]
  · unfold noteR wrR; rw [if_neg (by omega), if_neg (by omega)]
def StR (d : Dt) (b : Nat) (ρ : Row) (n m : Nat) : Prop := ElR d (b + 1) ρ n ∧ d.1 b 2 = nI m ∧ ∀ p, p < m → PaR d (b + 8 + 4 * p) ρ p
theorem st_el {b : Nat} (h : isSt b) : isEl (b + 1) := by unfold isSt at h; unfold isEl; omega
theorem st_pa {b p : Nat} (h : isSt b) (hp : p < 5) : isPa (b + 8 + 4 * p) := by unfold isSt at h; unfold isPa; omega
theorem st_out {b : Nat} (h : isSt b) : b + 28 ≤ 57 ∨ 72 ≤ b := by unfold isSt at h; omega
abbrev Ks (b : Nat) : Nat → Prop := fun k => Km k ∨ (b ≤ k ∧ k < b + 28)
/-- before the notes of path p: what is out is right, and in order -/
def Rdy (ρ : Row) (n p : Nat) : Prop := (∀ e, e < 20 → whO ρ p e = true → oN ρ n p e = true) ∧ ∀ e x, e < 20 → whO ρ p e = true → x < e → oN ρ n p x = true → whO ρ p x = true
theorem c_emitOne {d : Dt} {b n m p : Nat} {ρ : Row} (hb : isSt b) (hp : p < m) (hI : Inv1 ρ n m) (hS : StR d b ρ n m) (hR : Rdy ρ n p) : ∃ d', fX3_emitOne d b (nI p) = some (nI (cntN ρ n p), d') ∧ StR d' b (noteR ρ n p) n m ∧ Fr (Ks b) d d' := by
  obtain ⟨h1, h2, h3, h4, h5, h6⟩ := hI
  have h20 := we_20 h1
  obtain ⟨s1, s2, s3⟩ := hS
  have hpa := st_pa hb (show p < 5 by omega)
  have hout := st_out hb
  obtain ⟨d1, e1, g4, g5, -, f1⟩ := c_match (st_el hb) hpa s1 h1 (s3 p hp).1
  have hP1 := par_fr (s3 p hp) f1 (pa_out hpa)
  obtain ⟨d2, e2, hP2, f2⟩ := c_emit hpa h20 (show p < 5 by omega) hP1 h6 g4 g5 hR.1 hR.2
  have f1' : Fr (Ks b) d d1 := fr_w f1 (fun k hk => Or.inl hk)
  have f2' : Fr (Ks b) d1 d2 := fr_w f2 (fun k hk => Or.inr (by rcases hk with rfl | rfl | rfl <;> omega))
  have hE1 := elr_fr s1 f1 (el_out (st_el hb))
  refine ⟨d2, ?_, ⟨?_, ?_, fun q hq => ?_⟩, fr_t f1' f2'⟩
  · unfold fX3_emitOne
    rw [in_t (show p < 5 by omega) (by omega), gd_t, ix_nI (by omega), e1, br_s, gd_t, hE1.2.2.2.1, e2, bd_s]
  · exact elr_ag h20 noteR_ag (elr_fr hE1 f2 (fun k hk => by omega))
  · rw [f2.1 b (by omega), f1.1 b (by omega)]; exact s2
  · by_cases hqp : q = p
    · subst hqp; exact hP2
    · refine par_ag (par_fr (par_fr (s3 q hq) f1 (pa_out (st_pa hb (by omega)))) f2 (fun k hk => by omega)) (note_agp (by omega) (by omega) hqp)
theorem rdy_ag {ρ ρ' : Row} {n p : Nat} (hn : n ≤ 20) (hp : p < 5) (w : PR ρ p) (h : Ag ρ ρ') (ha : Agp ρ ρ' p) (hR : Rdy ρ n p) : Rdy ρ' n p := by
  have hw : ∀ e, e < 20 → whO ρ' p e = whO ρ p e := fun e he => by unfold whO; rw [ha.2.2.2 e he]
  have ho : ∀ e, e < 20 → oN ρ' n p e = oN ρ n p e := fun e he => by unfold oN; rw [ag_oB h hn hp w he]
  refine ⟨fun e he => ?_, fun e x he h1 h2 h3 => ?_⟩
  · rw [hw e he, ho e he]; exact hR.1 e he
  · rw [hw e he] at h1
    rw [ho x (by omega)] at h3
    rw [hw x (by omega)]
    exact hR.2 e x he h1 h2 h3
theorem agp_r {ρ : Row} {p : Nat} : Agp ρ ρ p := ⟨rfl, fun _ _ => rfl, rfl, fun _ _ => rfl⟩
theorem agp_t {ρ ρ' ρ'' : Row} {p : Nat} (h : Agp ρ ρ' p) (h' : Agp ρ' ρ'' p) : Agp ρ ρ'' p := ⟨h'.1.trans h.1, fun i hi => (h'.2.1 i hi).trans (h.2.1 i hi), h'.2.2.1.trans h.2.2.1, fun e he => (h'.2.2.2 e he).trans (h.2.2.2 e he)⟩
theorem notes_agp {ρ : Row} {n q : Nat} (hq : q < 5) : ∀ m, m ≤ q → Agp ρ (notesR ρ n m) q
  | 0, _ => agp_r
  | m + 1, h => agp_t (notes_agp hq m (by omega)) (note_agp (by omega) hq (by omega))
theorem c_emitAll {d : Dt} {b n m : Nat} {ρ : Row} (hb : isSt b) (hI : Inv1 ρ n m) (hS : StR d b ρ n m) (hR : ∀ p, p < m → Rdy ρ n p) : ∃ d', fX3_emitAll d b = some (nI (cntS ρ n m), d') ∧ StR d' b (notesR ρ n m) n m ∧ Fr (Ks b) d d' := by
  have h20 := we_20 hI.1
  have hm5 := hI.2.2.2.1
  have key : Ok (z_lp (bX3_emitAll_4 b) (0, 0, d)) (fun t => t.1 = nI (cntS ρ n m) ∧ StR t.2 b (notesR ρ n m) n m ∧ Fr (Ks b) d t.2) := by
    refine ok_for m (fun p s => ∃ d3, s = (nI (cntS ρ n p), nI p, d3) ∧ StR d3 b (notesR ρ n p) n m ∧ Fr (Ks b) d d3) ?_ ?_ 0 _ (by omega) ⟨d, rfl, hS, fr_r⟩
    · rintro p s hp ⟨d3, rfl, hs, hf⟩
      unfold bX3_emitAll_4
      refine ok_f (by rw [hs.2.1, nI_leI (by omega) (by omega)]; omega) ?_
      obtain ⟨d5, e1, e2, e3⟩ := c_emitOne hb hp (ag_inv1 (notes_ag p) hI) hs (rdy_ag h20 (by omega) (hI.2.2.2.2.1 p hp) (notes_ag p) (notes_agp (by omega) p (Nat.le_refl _)) (hR p hp))
      refine ok_de e1 (ok_nm (ok_nm (ok_c ⟨d5, ?_, e2, fr_t hf e3⟩)))
      rw [nI_add, show nI p + (1 : Int32) = nI (p + 1) from nI_1 p]; rfl
    · rintro s ⟨d3, rfl, hs, hf⟩
      unfold bX3_emitAll_4
      exact ok_t (by rw [hs.2.1, nI_leI (by omega) (by omega)]; omega) (ok_z ⟨rfl, hs, hf⟩)
  obtain ⟨⟨x, d'⟩, k1, hx, k2, k3⟩ := key
  dsimp only at hx k2 k3
  subst hx
  refine ⟨d', ?_, k2, k3⟩
  unfold fX3_emitAll
  rw [k1, br_s]
/-- after the notes: just what is out is noted -/
def InvW (ρ : Row) (n m : Nat) : Prop := ∀ p, p < m → ∀ e, e < 20 → whO ρ p e = oN ρ n p e
theorem rdy_of {ρ ρ1 : Row} {n n1 m p : Nat} (hn : n ≤ n1) (hW : InvW ρ n m) (hM : Mono ρ n ρ1 n1 m) (hp : p < m) (hk : ∀ e, e < 20 → ρ1 (114 + 20 * p + e) = ρ (114 + 20 * p + e)) : Rdy ρ1 n1 p := by
  have hw : ∀ e, e < 20 → whO ρ1 p e = oN ρ n p e := fun e he => by
    rw [← hW p hp e he]; unfold whO; rw [hk e he]
  have spl : ∀ {ρ n e}, oN ρ n p e = true ↔ e < n ∧ oB ρ n p e = true := fun {ρ n e} => by unfold oN; simp
  refine ⟨fun e he h => ?_, fun e x he h1 h2 h3 => ?_⟩
  · rw [hw e he, spl] at h
    rw [spl]; exact ⟨by omega, out_stay hM hp h.1 h.2⟩
  · rw [hw e he, spl] at h1
    rw [spl] at h3
    rw [hw x (by omega), spl]
    exact ⟨by omega, out_first hM hp h1.1 h1.2 h2 h3.2⟩
theorem notes_wh {ρ : Row} {n m p e : Nat} (hn : n ≤ 20) (hm : m ≤ 5) (hPR : ∀ p, p < m → PR ρ p) (hp : p < m) (he : e < 20) (hc : ¬ ρ 82 = -9) (hR : Rdy ρ n p) : whO (notesR ρ n m) p e = oN ρ n p e := by
  have at1 : whO (notesR ρ n (p + 1)) p e = oN ρ n p e := by
    show whO (noteR (notesR ρ n p) n p) p e = _
    have hag := notes_ag (ρ := ρ) (n := n) p
    rw [noteR_wh he (by rw [hag 82 (by omega)]; exact hc)]
    have h1 : whO (notesR ρ n p) p e = whO ρ p e := by unfold whO; rw [(notes_agp (ρ := ρ) (n := n) (show p < 5 by omega) p (Nat.le_refl _)).2.2.2 e he]
    have h2 : oN (notesR ρ n p) n p e = oN ρ n p e := by unfold oN; rw [ag_oB hag hn (by omega) (hPR p hp) he]
    unfold rdB
    rw [h1, h2]
    have := hR.1 e he
    cases hw : whO ρ p e
    · simp
    · rw [this hw]; rfl
  have later : ∀ k, p + 1 + k ≤ 5 → whO (notesR ρ n (p + 1 + k)) p e = oN ρ n p e := by
    intro k
    induction k with
    | zero => intro _; exact at1
    | succ k ih =>
      intro hk
      rw [← ih (by omega)]
      show whO (noteR (notesR ρ n (p + 1 + k)) n (p + 1 + k)) p e = _
      unfold whO
      rw [(note_agp (ρ := notesR ρ n (p + 1 + k)) (n := n) (show p + 1 + k < 5 by omega) (show p < 5 by omega) (by omega)).2.2.2 e he]
  have := later (m - (p + 1)) (by omega)
  rw [show p + 1 + (m - (p + 1)) = m by omega] at this
  exact this
theorem notes_w {ρ : Row} {n m : Nat} (hI : Inv1 ρ n m) (hR : ∀ p, p < m → Rdy ρ n p) : InvW (notesR ρ n m) n m := by
  obtain ⟨h1, h2, h3, h4, h5, h6⟩ := hI
  have h20 := we_20 h1
  intro p hp e he
  rw [notes_wh h20 h4 h5 hp he h6 (hR p hp)]
  unfold oN; rw [ag_oB (notes_ag m) h20 (by omega) (h5 p hp) he]
theorem ag_inv0 {ρ ρ' : Row} {n m B : Nat} (h : Ag ρ ρ') (w : Inv0 ρ n m B) : Inv0 ρ' n m B := by
  obtain ⟨h1, h2, h3, h4, h5, h6, c, hc, h7⟩ := w
  have h20 := we_20 h1
  have hpar : ∀ e, e < n → rpar ρ' e = rpar ρ e := fun e he => ag_par h (by omega)
  have dw := dw_cong hpar
  refine ⟨ag_we h h1, fun e he => by rw [ag_dep h e (by omega)]; exact h2 e he, by rw [h 83 (by omega)]; exact h3, h4, fun p hp => ag_PR h (by omega) (h5 p hp), ?_, c, hc, by rw [h 82 (by omega)]; exact h7⟩
  rcases h6 with ⟨g1, g2⟩ | ⟨x, hx, g1, g2⟩
  · exact Or.inl ⟨by rw [h 81 (by omega)]; exact g1, fun e he => by rw [ag_op h (by omega)]; exact g2 e he⟩
  · refine Or.inr ⟨x, hx, by rw [h 81 (by omega)]; exact g1, fun e he => ?_⟩
    rw [ag_op h (by omega), (dw x hx).1, g2 e he]
    simp only [(dw x hx).2]
/-- all that is kept of a state's row -/
def InvS (ρ : Row) (n m B : Nat) : Prop := Inv0 ρ n m B ∧ InvW ρ n m
/-- an event's notes, on both sides -/
theorem ev_both {ρ ρ1 : Row} {n n1 m B : Nat} (hB : B + 1 < 2 ^ 31) (hn : n ≤ n1) (hI : InvS ρ n m B) (h1 : Inv0 ρ1 n1 m (B + 1)) (hM : Mono ρ n ρ1 n1 m) (hk : ∀ j, 109 ≤ j → ρ1 j = ρ j) : (∀ p, p < m → Rdy ρ1 n1 p) ∧ InvS (notesR ρ1 n1 m) n1 m (B + 1) := by
  have hR : ∀ p, p < m → Rdy ρ1 n1 p := fun p hp => rdy_of hn hI.2 hM hp (fun e he => hk _ (by omega))
  exact ⟨hR, ag_inv0 (notes_ag m) h1, notes_w (inv01 h1 hB) hR⟩
