def whO (ρ : Row) (p e : Nat) : Bool := decide (¬ ρ (114 + 20 * p + e) = -9)
/-- the class's path holds a row's -/
def PaR (d : Dt) (pa : Nat) (ρ : Row) (p : Nat) : Prop := PsR d pa (rL ρ p) (rcd ρ p) ∧ d.1 pa 5 = zB (whO ρ p) 20 ∧ d.1 pa 4 = nI (zc (whO ρ p) 20) ∧ (∀ e, e < 20 → whO ρ p e = true → d.1 (pa + 2) (zc (whO ρ p) e) = nI e ∧ d.1 (pa + 3) (zc (whO ρ p) e) = ρ (114 + 20 * p + e)) ∧ d.1 pa 6 = ρ (109 + p)
abbrev Kp (pa : Nat) : Nat → Prop := fun k => k = pa ∨ k = pa + 2 ∨ k = pa + 3
theorem zc_lt {f : Nat → Bool} {e n : Nat} (he : e < n) (hf : f e = true) : zc f e < zc f n := by
  have h1 := zc_mono (f := f) (show e + 1 ≤ n by omega)
  rw [zc_s, hf] at h1
  simp at h1; omega
/-- what is emitted now -/
def rdB (ρ : Row) (n p e : Nat) : Bool := oN ρ n p e && !whO ρ p e
theorem rd_cnt {ρ : Row} {n p : Nat} : zc (rdB ρ n p) 20 = cntN ρ n p := by
  unfold cntN rdB whO
  exact zc_cong (fun i _ => by by_cases h : ρ (114 + 20 * p + i) = -9 <;> simp [h])
theorem oN_zany {f : Nat → Bool} {n i : Nat} (hi : i < n) : zany (fun j => decide (j < n) && f j) (i + 1) = zany f (i + 1) := zany_cong (fun j hj => by simp [show j < n by omega])
theorem c_ready {ρ : Row} {n p : Nat} (hn : n ≤ 20) : (zB (aB ρ n p) n &&& (zB (whO ρ p) 20 ^^^ (-1))) &&& ((zB (dB ρ n p) n &&& (-(zB (dB ρ n p) n))) - 1) = zB (rdB ρ n p) 20 := by
  apply zB_ext (by omega)
  intro i hi
  rw [b_and, b_and, b_xor, bt_zB _ _ (by omega) i hi, bt_zB _ _ (by omega) i hi, b_m1 i hi, b_low _ (by omega) hi]
  unfold rdB oN
  by_cases h1 : i < n
  · rw [oN_zany h1]
    have e : oB ρ n p i = (aB ρ n p i && !zany (dB ρ n p) (i + 1)) := rfl
    rw [e]
    simp only [h1, show i < 20 by omega, decide_true, Bool.true_and]
    cases aB ρ n p i <;> cases whO ρ p i <;> cases zany (dB ρ n p) (i + 1) <;> rfl
  · simp [h1]
theorem c_buf {ρ : Row} {n p : Nat} {W : Nat → Bool} (hn : n ≤ 20) (hW : ∀ e, e < n → W e = oB ρ n p e) : zB (dB ρ n p) n ||| (zB (aB ρ n p) n &&& (zB W 20 ^^^ (-1))) = zB (fun e => dB ρ n p e || (aB ρ n p e && !oB ρ n p e)) n := by
  apply zB_ext (by omega)
  intro i hi
  rw [b_or, b_and, b_xor, bt_zB _ _ (by omega) i hi, bt_zB _ _ (by omega) i hi, bt_zB _ _ (by omega) i hi, b_m1 i hi]
  by_cases h1 : i < n
  · simp only [h1, show i < 20 by omega, decide_true, Bool.true_and, hW i h1]
    simp
  · simp [h1]
theorem held_eq {ρ : Row} {n p : Nat} : zc (fun e => dB ρ n p e || (aB ρ n p e && !oB ρ n p e)) n = heldN ρ n p := by
  rw [zc_add (f := dB ρ n p) (g := fun e => aB ρ n p e && !oB ρ n p e) (fun i _ h => by
    have h1 : dB ρ n p i = (qB ρ n p i && !aB ρ n p i) := rfl
    rw [h1] at h
    simp only [Bool.and_eq_true, Bool.not_eq_true'] at h
    rw [h.1.2] at h
    exact absurd h.2.1 (by decide))]
  unfold heldN
  omega
theorem noteR_wh {ρ : Row} {n p e : Nat} (he : e < 20) (hc : ¬ ρ 82 = -9) : whO (noteR ρ n p) p e = (whO ρ p e || rdB ρ n p e) := by
  unfold rdB whO noteR wrR
  rw [if_neg (by omega)]
  by_cases h : 114 + 20 * p ≤ 114 + 20 * p + e ∧ 114 + 20 * p + e < 114 + 20 * p + 20 ∧ oN ρ n p (114 + 20 * p + e - (114 + 20 * p)) = true ∧ ρ (114 + 20 * p + e) = -9
  · rw [if_pos h]
    have h3 := h.2.2.1
    rw [show 114 + 20 * p + e - (114 + 20 * p) = e by omega] at h3
    simp [hc, h3, h.2.2.2]
  · rw [if_neg h]
    rw [show 114 + 20 * p + e - (114 + 20 * p) = e by omega] at h
    cases ho : oN ρ n p e
    · simp
    · by_cases hw : ρ (114 + 20 * p + e) = -9
      · exact absurd ⟨by omega, by omega, ho, hw⟩ h
      · simp [hw]
theorem noteR_val {ρ : Row} {n p e : Nat} (he : e < 20) : noteR ρ n p (114 + 20 * p + e) = if rdB ρ n p e = true then ρ 82 else ρ (114 + 20 * p + e) := by
  unfold rdB whO noteR wrR
  rw [if_neg (by omega), show 114 + 20 * p + e - (114 + 20 * p) = e by omega]
  by_cases hr : (oN ρ n p e && !decide (¬ρ (114 + 20 * p + e) = -9)) = true
  · rw [if_pos hr]
    simp only [Bool.and_eq_true, Bool.not_eq_true', decide_eq_false_iff_not, Decidable.not_not] at hr
    rw [if_pos ⟨by omega, by omega, hr.1, hr.2⟩]
  · rw [if_neg hr, if_neg]
    rintro ⟨-, -, g1, g2⟩
    exact hr (by simp [g1, g2])
theorem c_emit {d : Dt} {pa n p : Nat} {ρ : Row} (hpa : isPa pa) (hn : n ≤ 20) (hp : p < 5) (hR : PaR d pa ρ p) (hc : ¬ ρ 82 = -9) (hA : d.1 60 4 = zB (aB ρ n p) n) (hB : d.1 60 5 = zB (dB ρ n p) n)
    (hS : ∀ e, e < 20 → whO ρ p e = true → oN ρ n p e = true) (hF : ∀ e x, e < 20 → whO ρ p e = true → x < e → oN ρ n p x = true → whO ρ p x = true) : ∃ d', fX2_emit d pa (ρ 82) = some (nI (cntN ρ n p), d') ∧ PaR d' pa (noteR ρ n p) p ∧ Fr (Kp pa) d d' := by
  obtain ⟨hPs, hO, hN, hE, hK⟩ := hR
  have hdis : ∀ i, i < 20 → ¬ (whO ρ p i = true ∧ rdB ρ n p i = true) := fun i _ h => by
    unfold rdB at h
    rw [h.1] at h
    simp at h
  have htot : zc (whO ρ p) 20 + zc (rdB ρ n p) 20 ≤ 20 := by
    rw [← zc_add hdis]; exact zc_le _ _
  have h60 : pa ≠ 60 ∧ pa + 2 ≠ 60 ∧ pa + 3 ≠ 60 := by unfold isPa at hpa; omega
  generalize hw0 : zc (whO ρ p) 20 = w0 at *
  have key : Ok (z_lp (bX2_emit_34 pa (zB (rdB ρ n p) 20) (ρ 82)) (0, 0, d)) (fun t => t.1 = nI (zc (rdB ρ n p) 20) ∧ t.2.1 pa 4 = nI (w0 + zc (rdB ρ n p) 20) ∧ (∀ x, x < 20 → rdB ρ n p x = true → t.2.1 (pa + 2) (w0 + zc (rdB ρ n p) x) = nI x ∧ t.2.1 (pa + 3) (w0 + zc (rdB ρ n p) x) = ρ 82) ∧ (∀ j, j < w0 → t.2.1 (pa + 2) j = d.1 (pa + 2) j ∧ t.2.1 (pa + 3) j = d.1 (pa + 3) j) ∧ (∀ j, j ≠ 4 → t.2.1 pa j = d.1 pa j) ∧ Fr (Kp pa) d t.2) := by
    refine ok_for 20 (fun e s => ∃ d5, s = (nI (zc (rdB ρ n p) e), nI e, d5) ∧ d5.1 pa 4 = nI (w0 + zc (rdB ρ n p) e) ∧ (∀ x, x < e → rdB ρ n p x = true → d5.1 (pa + 2) (w0 + zc (rdB ρ n p) x) = nI x ∧ d5.1 (pa + 3) (w0 + zc (rdB ρ n p) x) = ρ 82) ∧ (∀ j, j < w0 → d5.1 (pa + 2) j = d.1 (pa + 2) j ∧ d5.1 (pa + 3) j = d.1 (pa + 3) j) ∧ (∀ j, j ≠ 4 → d5.1 pa j = d.1 pa j) ∧ Fr (Kp pa) d d5) ?_ ?_ 0 _ (by omega) ⟨d, rfl, hN, fun x hx => by omega, fun j _ => ⟨rfl, rfl⟩, fun j _ => rfl, fr_r⟩
    · rintro e s he ⟨d5, rfl, g4, g5, g6, g7, hf⟩
      have hle := zc_mono (f := rdB ρ n p) (show e ≤ 20 by omega)
      unfold bX2_emit_34
      refine ok_f (by rw [le20 (by omega)]; omega) ?_
      rw [g4]
      by_cases hfull : 20 ≤ w0 + zc (rdB ρ n p) e
      · refine ok_t ((le20 (by omega)).mpr hfull) (ok_x ?_)
        have heq : zc (rdB ρ n p) e = zc (rdB ρ n p) 20 := by omega
        refine ⟨by rw [heq], by rw [← heq]; exact g4, fun x hx hr => ?_, g6, g7, hf⟩
        rcases Nat.lt_or_ge x e with hl | hl
        · exact g5 x hl hr
        · have h1 := zc_mono (f := rdB ρ n p) hl
          have h2 := zc_lt hx hr
          omega
      · refine ok_f (fun z => hfull ((le20 (by omega)).mp z)) ?_
        rw [zB_bt (by omega) he]
        cases hr : rdB ρ n p e
        · refine ok_t (by simp) ?_
          unfold jX2_emit_94
          refine ok_nm (ok_c ⟨d5, ?_, ?_, fun x hx hrx => ?_, g6, g7, hf⟩)
          · rw [zc_s, hr, show nI e + (1 : Int32) = nI (e + 1) from nI_1 e]; rfl
          · rw [zc_s, hr]; exact g4
          · rcases Nat.lt_or_ge x e with hl | hl
            · exact g5 x hl hrx
            · rw [show x = e by omega, hr] at hrx; cases hrx
        · refine ok_f (by simp) (ok_gi (vp_in_nI (by omega) (by omega)) (ok_nm ?_))
          rw [ix_nI (by omega)]
          have q1 : (z_st d5 (pa + 2) (w0 + zc (rdB ρ n p) e) (nI e)).1 pa 4 = nI (w0 + zc (rdB ρ n p) e) := by rw [st_k (by omega)]; exact g4
          rw [q1]
          refine ok_gi (vp_in_nI (by omega) (by omega)) (ok_nm (ok_nm (ok_nm ?_)))
          rw [ix_nI (by omega)]
          unfold jX2_emit_94
          refine ok_nm (ok_c ⟨z_st (z_st (z_st d5 (pa + 2) (w0 + zc (rdB ρ n p) e) (nI e)) (pa + 3) (w0 + zc (rdB ρ n p) e) (ρ 82)) pa 4 (nI (w0 + zc (rdB ρ n p) e) + 1), ?_, ?_, fun x hx hrx => ?_, fun j hj => ?_, fun j hj => ?_, ?_⟩)
          · rw [zc_s, hr, show nI e + (1 : Int32) = nI (e + 1) from nI_1 e]
            simp only [if_true]
            rw [show ∀ m : Nat, nI m + (1 : Int32) = nI (m + 1) from nI_1]
            rw [st_k (show pa ≠ pa + 3 by omega), q1, show ∀ m : Nat, nI m + (1 : Int32) = nI (m + 1) from nI_1]
          · rw [st_eq, zc_s, hr]
            exact nI_1 _
          · rcases Nat.lt_or_ge x e with hl | hl
            · have := zc_lt hl hrx
              rw [st_k (by omega), st_k (by omega), st_j (by omega), st_k (by omega), st_j (by omega), st_k (by omega)]
              exact g5 x hl hrx
            · have : x = e := by omega
              subst this
              rw [st_k (by omega), st_k (by omega), st_eq, st_k (by omega), st_eq]
              exact ⟨rfl, rfl⟩
          · rw [st_k (by omega), st_k (by omega), st_j (by omega), st_k (by omega), st_j (by omega), st_k (by omega)]
            exact g6 j hj
          · rw [st_j hj, st_k (by omega), st_k (by omega)]
            exact g7 j hj
          · exact fr_t hf (fr_t (fr_t (fr_st (Or.inr (Or.inl rfl))) (fr_st (Or.inr (Or.inr rfl)))) (fr_st (Or.inl rfl)))
    · rintro s ⟨d5, rfl, g4, g5, g6, g7, hf⟩
      unfold bX2_emit_34
      exact ok_t (by rw [le20 (by omega)]; omega) (ok_z ⟨rfl, g4, g5, g6, g7, hf⟩)
  obtain ⟨⟨x, d14⟩, k1, hx, k4, k5, k6, k7, k8⟩ := key
  dsimp only at hx k4 k5 k6 k7 k8
  subst hx
  have hWn : ∀ e, e < 20 → whO (noteR ρ n p) p e = (whO ρ p e || rdB ρ n p e) := fun e he => noteR_wh he hc
  have hWo : ∀ e, e < n → whO (noteR ρ n p) p e = oB ρ n p e := fun e he => by
    rw [hWn e (by omega)]
    have h1 := hS e (by omega)
    have h2 : oN ρ n p e = oB ρ n p e := by unfold oN; simp [he]
    unfold rdB
    rw [h2] at h1 ⊢
    cases hw : whO ρ p e
    · simp
    · rw [h1 hw]; rfl
  have hset : zB (whO ρ p) 20 ||| zB (rdB ρ n p) 20 = zB (whO (noteR ρ n p) p) 20 := by
    rw [zB_or (by omega)]
    exact zB_cong (fun e he => (hWn e he).symm)
  have e15 : (z_st d14 pa 5 (d14.1 pa 5 ||| zB (rdB ρ n p) 20)) = z_st d14 pa 5 (zB (whO (noteR ρ n p) p) 20) := by
    rw [k7 5 (by omega), hO, hset]
  generalize hd15 : z_st d14 pa 5 (zB (whO (noteR ρ n p) p) 20) = d15 at e15
  have hbuf : fX2_bufferSize d15 pa = some (nI (heldN ρ n p)) := by
    unfold fX2_bufferSize
    have a1 : d15.1 60 = d.1 60 := by rw [← hd15, st_k (by omega)]; exact k8.1 60 (by omega)
    have a2 : d15.1 pa 5 = zB (whO (noteR ρ n p) p) 20 := by rw [← hd15, st_eq]
    rw [a1, hA, hB, a2, c_buf hn hWo, c_bits hn, br_s, held_eq]
  have hpk : d15.1 pa 6 = ρ (109 + p) := by rw [← hd15, st_j (by omega), k7 6 (by omega)]; exact hK
  refine ⟨z_st d15 pa 6 (pkR (ρ (109 + p)) (nI (heldN ρ n p))), ?_, ⟨?_, ?_, ?_, fun e he hwe => ?_, ?_⟩, ?_⟩
  · unfold fX2_emit
    rw [z_nme, z_nme, hA, hB, hO, c_ready hn, k1, br_s]
    show z_nm _ _ = _
    rw [z_nme, e15, hbuf, br_s, z_nme, hpk, ← rd_cnt]; rfl
  · have hag : Ag ρ (noteR ρ n p) := noteR_ag
    obtain ⟨p1, p2, p3, p4⟩ := hPs
    rw [ag_rL hag hp]
    refine ⟨?_, p2, p3, fun i hi => ?_⟩
    · rw [st_j (by omega), ← hd15, st_j (by omega), k7 3 (by omega)]; exact p1
    · rw [ag_rcd hag hp (by omega), st_k (by omega), ← hd15, st_k (by omega), k8.1 (pa + 1) (by omega)]; exact p4 i hi
  · rw [st_j (by omega), ← hd15, st_eq]
  · rw [st_j (by omega), ← hd15, st_j (by omega), k4, zc_cong hWn, zc_add hdis, hw0]
  · rw [st_k (by omega), ← hd15, st_k (by omega), st_k (by omega), st_k (by omega), noteR_val he]
    have hz : zc (whO (noteR ρ n p) p) e = zc (whO ρ p) e + zc (rdB ρ n p) e := by
      rw [zc_cong (fun i hi => hWn i (by omega)), zc_add (fun i hi => hdis i (by omega))]
    rw [hz]
    rw [hWn e he, Bool.or_eq_true] at hwe
    rcases hwe with hwe | hwe
    · have z0 : zc (rdB ρ n p) e = 0 := zc_0 (fun x hx => by
        rcases bool2 (rdB ρ n p x) with g | g
        · exact g
        · unfold rdB at g
          simp only [Bool.and_eq_true, Bool.not_eq_true'] at g
          rw [hF e x he hwe hx g.1] at g
          exact absurd g.2 (by decide))
      have hlt := zc_lt (f := whO ρ p) he hwe
      have hrd : ¬ rdB ρ n p e = true := fun z => hdis e he ⟨hwe, z⟩
      rw [z0, Nat.add_zero, if_neg hrd, (k6 _ (by omega)).1, (k6 _ (by omega)).2]
      exact hE e he hwe
    · have z0 : zc (whO ρ p) e = w0 := by
        rw [← hw0]
        refine (zc_grow (show e ≤ 20 by omega) (fun x h1 h2 => ?_)).symm
        rcases bool2 (whO ρ p x) with g | g
        · exact g
        · by_cases hxe : x = e
          · subst hxe; exact absurd ⟨g, hwe⟩ (hdis x he)
          · have hon : oN ρ n p e = true := by unfold rdB at hwe; rw [Bool.and_eq_true] at hwe; exact hwe.1
            have := hF x e h2 g (by omega) hon
            exact absurd ⟨this, hwe⟩ (hdis e he)
      rw [z0, if_pos hwe]
      exact k5 e he hwe
  · rw [st_eq]; unfold noteR; rw [if_pos rfl]
  · refine fr_t k8 (fr_t ?_ (fr_st (Or.inl rfl)))
    rw [← hd15]; exact fr_st (Or.inl rfl)
