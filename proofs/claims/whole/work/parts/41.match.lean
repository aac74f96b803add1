section CN
variable {d : Dt} {el pa n L e : Nat} {ρ : Row} {cd : Nat → Nat}
theorem rows_par (hw : WE ρ n) (he : e < n) : (rpar ρ e = none ∧ ρ (20 + e) < 0) ∨ ∃ x, x < e ∧ rpar ρ e = some x ∧ ρ (20 + e) = nI x := by
  rcases we_c hw he with ⟨-, h1, h2⟩ | ⟨x, hx, h1, h2, -⟩
  · exact Or.inl ⟨h1, by rw [h2]; decide⟩
  · exact Or.inr ⟨x, hx, h1, h2⟩
/-- what the matcher holds of the elements before e -/
def MH (d : Dt) (ρ : Row) (n L : Nat) (cd : Nat → Nat) (e : Nat) : Prop := ∀ x, x < e → d.1 61 x = zB (sS ρ n false cd (tsC cd) x) L ∧ d.1 62 x = zB (sS ρ n true cd (tsC cd) x) L ∧ d.1 63 x = zB (sAr ρ n false cd (tsC cd) x) L ∧ d.1 64 x = zB (sAr ρ n true cd (tsC cd) x) L
theorem c_look (hw : WE ρ n) (he : e < n) (hL4 : L ≤ 4) (hM : MH d ρ n L cd e) : ∃ d', fX1_lookAround d (nI e) (ρ (20 + e)) = some d' ∧ (d'.1 63 e = zB (sAr ρ n false cd (tsC cd) e) L ∧ d'.1 64 e = zB (sAr ρ n true cd (tsC cd) e) L) ∧ MH d' ρ n L cd e ∧ Fr (fun k => k = 63 ∨ k = 64) d d' := by
  have h20 := we_20 hw
  have fin : ∀ a b : Int32, a = zB (sAr ρ n false cd (tsC cd) e) L → b = zB (sAr ρ n true cd (tsC cd) e) L → ∃ d', some (z_st (z_st d 63 e a) 64 e b) = some d' ∧ (d'.1 63 e = zB (sAr ρ n false cd (tsC cd) e) L ∧ d'.1 64 e = zB (sAr ρ n true cd (tsC cd) e) L) ∧ MH d' ρ n L cd e ∧ Fr (fun k => k = 63 ∨ k = 64) d d' := by
    intro a b ha hb
    refine ⟨_, rfl, ⟨by rw [st_k (by omega), st_eq, ha], by rw [st_eq, hb]⟩, fun x hx => ?_, fr_t (fr_st (Or.inl rfl)) (fr_st (Or.inr rfl))⟩
    obtain ⟨h1, h2, h3, h4⟩ := hM x hx
    refine ⟨by rw [st_k (by omega), st_k (by omega)]; exact h1, by rw [st_k (by omega), st_k (by omega)]; exact h2, by rw [st_k (by omega), st_j (by omega)]; exact h3, by rw [st_j (by omega), st_k (by omega)]; exact h4⟩
  unfold fX1_lookAround jX1_lookAround_13 jX1_lookAround_14 jX1_lookAround_41 jX1_lookAround_68
  simp only [z_nme]
  rw [in_t (show e < 20 by omega) (by omega), gd_t, gd_t, gd_t, ix_nI (by omega)]
  simp only [gd_t]
  rcases rows_par hw he with ⟨h1, h2⟩ | ⟨x, hx, h1, h2⟩
  · rw [zif_p h2, zif_p trivial, zif_p trivial]
    have z : ∀ q, (0 : Int32) = zB (sAr ρ n q cd (tsC cd) e) L := fun q => by
      symm; rw [zB_0 (by omega)]; intro i _; exact (mS_n h1 i).2
    exact fin 0 0 (z false) (z true)
  · obtain ⟨g1, g2, g3, g4⟩ := hM x hx
    rw [h2, zif_n (nI_pos (by omega)), zif_n (by rw [nI_leI (by omega) (by omega)]; omega), zif_n (by decide), zif_n (by decide), in_t (show x < 20 by omega) (by omega), ix_nI (by omega)]
    simp only [gd_t]
    rw [st_k (show 62 ≠ 63 by omega), st_k (show 64 ≠ 63 by omega), g1, g2, g3, g4, zB_or (by omega), zB_or (by omega)]
    have z : ∀ q, zB (fun i => sS ρ n q cd (tsC cd) x i || sAr ρ n q cd (tsC cd) x i) L = zB (sAr ρ n q cd (tsC cd) e) L := fun q => zB_cong (fun i _ => ((mS_p h1 hx i).2).symm)
    exact fin _ _ (z false) (z true)
theorem c_open {d : Dt} {el n e : Nat} {ρ : Row} (h : ElR d el ρ n) (hn : n ≤ 20) (he : e < n) : zif ((((d.1 el 5) >>> ((nI e) &&& 31)) &&& (1 : Int32)) = 0) (0 : Int32) 1 = b2i (rop ρ e) := by
  rw [h.1, zB_bt (by omega) he]
  cases rop ρ e
  · rw [zif_p (by simp)]; rfl
  · rw [zif_n (by simp)]; rfl
theorem c_matchEl (h : ElR d el ρ n) (hw : WE ρ n) (hP : PsR d pa L cd) (he : e < n) (hM : MH d ρ n L cd e) (h63 : d.1 63 e = zB (sAr ρ n false cd (tsC cd) e) L) (h64 : d.1 64 e = zB (sAr ρ n true cd (tsC cd) e) L) :
    ∃ d', fX1_matchElement d el (nI e) pa = some d' ∧ MH d' ρ n L cd (e + 1) ∧ Fr (fun k => k = 61 ∨ k = 62) d d' := by
  have h20 := we_20 hw
  obtain ⟨fu, ef, hfu⟩ := c_ful h h20 he
  have h60 : ∀ sp pp : Int32, (sp = 0 ∧ rpar ρ e = none ∨ ∃ x, x < e ∧ rpar ρ e = some x ∧ sp = zB (sS ρ n false cd (tsC cd) x) L) → (pp = 0 ∧ rpar ρ e = none ∨ ∃ x, x < e ∧ rpar ρ e = some x ∧ pp = zB (sS ρ n true cd (tsC cd) x) L) → ∃ d', jX1_matchElement_60 d el (nI e) pa sp pp = some d' ∧ MH d' ρ n L cd (e + 1) ∧ Fr (fun k => k = 61 ∨ k = 62) d d' := by
    intro sp pp hs hp
    obtain ⟨t, et, rfl⟩ := c_me96 h hw hP he hfu hs hp h63 h64
    refine ⟨z_st (z_st d 61 e (zB (sS ρ n false cd (tsC cd) e) L)) 62 e (zB (sS ρ n true cd (tsC cd) e) L), ?_, fun x hx => ?_, fr_t (fr_st (Or.inl rfl)) (fr_st (Or.inr rfl))⟩
    · unfold jX1_matchElement_60
      rw [z_nme, c_open h h20 he, ef, br_s, et, br_s]
      show z_gd _ _ = _
      simp only [z_nme]
      rw [in_t (show e < 20 by omega) (by omega), ix_nI (by omega)]
      simp only [gd_t]
    · rcases Nat.lt_or_ge x e with hl | hl
      · obtain ⟨g1, g2, g3, g4⟩ := hM x hl
        exact ⟨by rw [st_k (by omega), st_j (by omega)]; exact g1, by rw [st_j (by omega), st_k (by omega)]; exact g2, by rw [st_k (by omega), st_k (by omega)]; exact g3, by rw [st_k (by omega), st_k (by omega)]; exact g4⟩
      · have : x = e := by omega
        subst this
        exact ⟨by rw [st_k (by omega), st_eq], by rw [st_eq], by rw [st_k (by omega), st_k (by omega)]; exact h63, by rw [st_k (by omega), st_k (by omega)]; exact h64⟩
  unfold fX1_matchElement jX1_matchElement_23 jX1_matchElement_24 jX1_matchElement_42
  have h2e := (h.2.2.2.2 e he).2.1
  simp only [z_nme]
  rw [in_t (show e < 20 by omega) (by omega), gd_t, ix_nI (by omega), h2e]
  rcases rows_par hw he with ⟨h1, h2⟩ | ⟨x, hx, h1, h2⟩
  · rw [zif_p h2, zif_p trivial, zif_p trivial]
    exact h60 0 0 (Or.inl ⟨rfl, h1⟩) (Or.inl ⟨rfl, h1⟩)
  · obtain ⟨g1, g2, g3, g4⟩ := hM x hx
    rw [h2, zif_n (nI_pos (by omega)), zif_n (by rw [nI_leI (by omega) (by omega)]; omega), zif_n (by decide), zif_n (by decide), in_t (show x < 20 by omega) (by omega), ix_nI (by omega)]
    simp only [gd_t]
    rw [g1, g2]
    exact h60 _ _ (Or.inr ⟨x, hx, h1, rfl⟩) (Or.inr ⟨x, hx, h1, rfl⟩)
theorem c_note (he : e < 20) (hL1 : 1 ≤ L) (hL4 : L ≤ 4) (h61 : d.1 61 e = zB (sS ρ n false cd (tsC cd) e) L) (h62 : d.1 62 e = zB (sS ρ n true cd (tsC cd) e) L) (ha : d.1 60 4 = zB (ansB ρ n L cd (tsC cd)) e) (hb : d.1 60 5 = zB (dbtB ρ n L cd (tsC cd)) e) : ∃ d', fX1_note d (nI e) (nI L) = some d' ∧ d'.1 60 4 = zB (ansB ρ n L cd (tsC cd)) (e + 1) ∧ d'.1 60 5 = zB (dbtB ρ n L cd (tsC cd)) (e + 1) ∧ Fr (fun k => k = 60) d d' := by
  unfold fX1_note
  simp only [z_nme]
  rw [in_t (show e < 20 by omega) (by omega), ix_nI (by omega)]
  simp only [gd_t]
  rw [h61, h62, c_pre _ (by omega), c_pre _ (by omega), br_s, br_s, bt_zB _ _ (by omega) _ (by omega), bt_zB _ _ (by omega) _ (by omega), ha, hb]
  simp only [show 0 < L by omega, show L - 1 < L by omega, decide_true, Bool.true_and]
  have hA : ansB ρ n L cd (tsC cd) e = sS ρ n false cd (tsC cd) e (L - 1) := rfl
  have hB : dbtB ρ n L cd (tsC cd) e = (sS ρ n true cd (tsC cd) e (L - 1) && !sS ρ n false cd (tsC cd) e (L - 1)) := rfl
  cases hs : sS ρ n false cd (tsC cd) e (L - 1)
  · rw [zif_p (show b2i false = 0 from rfl)]
    rw [hs] at hA hB
    cases ht : sS ρ n true cd (tsC cd) e (L - 1)
    · rw [zif_p (show b2i false = 0 from rfl)]
      rw [ht] at hB
      refine ⟨d, rfl, ?_, ?_, fr_r⟩
      · rw [zB_s, hA, ha]; simp [or_0]
      · rw [zB_s, hB, hb]; simp [or_0]
    · rw [zif_n (show ¬ b2i true = 0 by decide)]
      rw [ht] at hB
      refine ⟨_, rfl, ?_, ?_, fr_st rfl⟩
      · rw [st_j (by omega), zB_s, hA, ha]; simp [or_0]
      · rw [st_eq, zB_s, hB]; simp
  · rw [zif_n (show ¬ b2i true = 0 by decide)]
    rw [hs] at hA hB
    refine ⟨_, rfl, ?_, ?_, fr_st rfl⟩
    · rw [st_eq, zB_s, hA]; simp
    · rw [st_j (by omega), zB_s, hB, hb]; simp [or_0]
theorem el_out (h : isEl el) : (∀ k, k ≤ 5 → ¬ (60 ≤ el + k ∧ el + k ≤ 64)) := by unfold isEl at h; intro k hk; omega
theorem pa_out (h : isPa pa) : (∀ k, k ≤ 3 → ¬ (60 ≤ pa + k ∧ pa + k ≤ 64)) := by unfold isPa at h; intro k hk; omega
theorem elr_fr {d d' : Dt} {K : Nat → Prop} (h : ElR d el ρ n) (hf : Fr K d d') (hK : ∀ k, k ≤ 5 → ¬ K (el + k)) : ElR d' el ρ n := by
  obtain ⟨h1, h2, h3, h4, h5⟩ := h
  have e0 : d'.1 el = d.1 el := hf.1 el (hK 0 (by omega))
  refine ⟨by rw [e0]; exact h1, by rw [e0]; exact h2, by rw [e0]; exact h3, by rw [e0]; exact h4, fun e he => ?_⟩
  rw [hf.1 _ (hK 1 (by omega)), hf.1 _ (hK 2 (by omega)), hf.1 _ (hK 3 (by omega)), hf.1 _ (hK 4 (by omega)), hf.1 _ (hK 5 (by omega))]
  exact h5 e he
theorem psr_fr {d d' : Dt} {K : Nat → Prop} (h : PsR d pa L cd) (hf : Fr K d d') (hK : ∀ k, k ≤ 1 → ¬ K (pa + k)) : PsR d' pa L cd := by
  obtain ⟨h1, h2, h3, h4⟩ := h
  refine ⟨by rw [show d'.1 pa = d.1 pa from hf.1 pa (hK 0 (by omega))]; exact h1, h2, h3, fun i hi => ?_⟩
  rw [hf.1 _ (hK 1 (by omega))]; exact h4 i hi
theorem c_match (hel : isEl el) (hpa : isPa pa) (h : ElR d el ρ n) (hw : WE ρ n) (hP : PsR d pa L cd) : ∃ d', fX1_match d el pa = some d' ∧ d'.1 60 4 = zB (ansB ρ n L cd (tsC cd)) n ∧ d'.1 60 5 = zB (dbtB ρ n L cd (tsC cd)) n ∧ (∀ e, e < n → d'.1 61 e = zB (sS ρ n false cd (tsC cd) e) L) ∧ Fr Km d d' := by
  have h20 := we_20 hw
  have hko := el_out hel
  have hkp := pa_out hpa
  have key : Ok (z_lp (bX1_match_12 el pa) (0, z_st (z_st d 60 4 0) 60 5 0)) (fun t => t.1 60 4 = zB (ansB ρ n L cd (tsC cd)) n ∧ t.1 60 5 = zB (dbtB ρ n L cd (tsC cd)) n ∧ (∀ e, e < n → t.1 61 e = zB (sS ρ n false cd (tsC cd) e) L) ∧ Fr Km d t) := by
    refine ok_for n (fun e s => ∃ d4, s = (nI e, d4) ∧ d4.1 60 4 = zB (ansB ρ n L cd (tsC cd)) e ∧ d4.1 60 5 = zB (dbtB ρ n L cd (tsC cd)) e ∧ MH d4 ρ n L cd e ∧ Fr Km d d4) ?_ ?_ 0 _ (by omega) ⟨_, rfl, by rw [st_j (by omega), st_eq]; rfl, by rw [st_eq]; rfl, fun x hx => by omega, fr_t (fr_st (by omega)) (fr_st (by omega))⟩
    · rintro e s he ⟨d4, rfl, h4, h5, hM, hf⟩
      have hE := elr_fr h hf hko
      have hPs := psr_fr hP hf (fun k hk => hkp k (by omega))
      unfold bX1_match_12
      refine ok_f (by rw [hE.2.1, hw.1, nI_leI (by omega) (by omega)]; omega) (ok_gi (vp_in_nI (by omega) (by omega)) ?_)
      rw [ix_nI (by omega), (hE.2.2.2.2 e he).2.1]
      obtain ⟨d5, e1, ⟨g63, g64⟩, hM5, f5⟩ := c_look hw he hP.2.2.1 hM
      refine ok_re e1 ?_
      have f5' : Fr Km d4 d5 := fr_w f5 (fun k hk => by rcases hk with rfl | rfl <;> exact ⟨by omega, by omega⟩)
      have hE5 := elr_fr hE f5' hko
      have hP5 := psr_fr hPs f5' (fun k hk => hkp k (by omega))
      obtain ⟨d6, e2, hM6, f6⟩ := c_matchEl hE5 hw hP5 he hM5 g63 g64
      refine ok_re e2 ?_
      have f6' : Fr Km d5 d6 := fr_w f6 (fun k hk => by rcases hk with rfl | rfl <;> exact ⟨by omega, by omega⟩)
      have hP6 := psr_fr hP5 f6' (fun k hk => hkp k (by omega))
      rw [hP6.1]
      have a6 : d6.1 60 = d4.1 60 := (f6.1 60 (by omega)).trans (f5.1 60 (by omega))
      obtain ⟨d7, e3, g4, g5, f7⟩ := c_note (d := d6) (e := e) (by omega) hP.2.1 hP.2.2.1 (hM6 e (by omega)).1 (hM6 e (by omega)).2.1 (by rw [a6]; exact h4) (by rw [a6]; exact h5)
      refine ok_re e3 (ok_nm (ok_c ⟨d7, congrArg (fun z => (z, d7)) (nI_1 e), g4, g5, fun x hx => ?_, fr_t hf (fr_t f5' (fr_t f6' (fr_w f7 (fun k hk => by rw [hk]; exact ⟨by omega, by omega⟩))))⟩))
      rw [f7.1 61 (by omega), f7.1 62 (by omega), f7.1 63 (by omega), f7.1 64 (by omega)]
      exact hM6 x hx
    · rintro s ⟨d4, rfl, h4, h5, hM, hf⟩
      have hE := elr_fr h hf hko
      unfold bX1_match_12
      exact ok_t (by rw [hE.2.1, hw.1, nI_leI (by omega) (by omega)]; omega) (ok_z ⟨h4, h5, fun e he => (hM e he).1, hf⟩)
  obtain ⟨d', k1, k2, k3, k4, k5⟩ := key
  refine ⟨d', ?_, k2, k3, k4, k5⟩
  unfold fX1_match
  rw [z_nme, z_nme, k1, br_s]
end CN
