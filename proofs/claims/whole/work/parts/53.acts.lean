/-! THE PUBLIC METHODS: acts -/
section AC
variable {dc dc' dm dm' : Dt} {B : Nat}
theorem rel_now {B' : Nat} (hB : B ≤ B') (h : Rel dc dm B) (hc : Fr (fun k => Sc k ∨ (1 ≤ k ∧ k < 29)) dc dc') (hm : Fr (fun k => Sm k ∨ k = 2) dm dm') (hs : StI dc' 1 (dm'.1 2) B') : Rel dc' dm' B' := by
  obtain ⟨h1, h2, h3, h4, h5, h6, h7⟩ := h
  have c0 : dc'.1 0 = dc.1 0 := hc.1 0 (by unfold Sc; omega)
  have m1 : ∀ k, k ≤ 8 → k ≠ 3 → k ≠ 2 → dm'.1 k = dm.1 k := fun k a2 a3 a4 => hm.1 k (by unfold Sm; omega)
  have m0 := m1 0 (by omega) (by omega) (by omega)
  refine ⟨hs, ?_, relA_m hB ?_, relK_m hB ?_, ?_, by rw [hc.2, hm.2]; exact h6, by rw [m0]; exact h7⟩
  · exact relT_k h2 (by rw [c0]) (hc.1 67 (by unfold Sc; omega)) (by rw [m0]) (m1 1 (by omega) (by omega) (by omega))
  · exact relA_k h3 (by rw [c0]) (by rw [c0]) (fun k a1 a2 => hc.1 k (by unfold Sc; omega)) hc.2 (by rw [m0]) (by rw [m0]) (m1 4 (by omega) (by omega) (by omega))
  · exact relK_k h4 (hc.1 59 (by unfold Sc; omega)) (fun k a1 a2 => hc.1 k (by unfold Sc; omega)) hc.2 (m1 6 (by omega) (by omega) (by omega)) (m1 5 (by omega) (by omega) (by omega))
  · exact relO_k h5 (by rw [c0]) (hc.1 68 (by unfold Sc; omega)) (hc.1 69 (by unfold Sc; omega)) (by rw [m0]) (m1 7 (by omega) (by omega) (by omega)) (m1 8 (by omega) (by omega) (by omega))
theorem m_note {d : Dt} {k x : Nat} (hk : k ≤ 14) (hx : x < 14) (h5 : d.1 0 5 = nI k) (h6 : d.1 0 6 = nI x) : ∃ d', fX6_note d = some d' ∧ (∀ j, j < 214 → d'.1 4 (214 * x + j) = d.1 2 j) ∧ (∀ i, (i < 214 * x ∨ 214 * x + 214 ≤ i) → d'.1 4 i = d.1 4 i) ∧ d'.1 0 6 = nI ((x + 1) % 14) ∧ d'.1 0 5 = nI (min 14 (k + 1)) ∧ (∀ j, j ≠ 5 → j ≠ 6 → d'.1 0 j = d.1 0 j) ∧ Fr (fun k => k = 4 ∨ k = 0) d d' := by
  have key : Ok (z_lp bX6_note_2 (0, d)) (fun t => (∀ j, j < 214 → t.1 4 (214 * x + j) = d.1 2 j) ∧ (∀ i, (i < 214 * x ∨ 214 * x + 214 ≤ i) → t.1 4 i = d.1 4 i) ∧ Fr (fun k => k = 4) d t) := by
    refine ok_for 214 (fun i s => ∃ d2, s = (nI i, d2) ∧ (∀ j, j < i → d2.1 4 (214 * x + j) = d.1 2 j) ∧ (∀ i, (i < 214 * x ∨ 214 * x + 214 ≤ i) → d2.1 4 i = d.1 4 i) ∧ Fr (fun k => k = 4) d d2) ?_ ?_ 0 _ (by omega) ⟨d, rfl, fun j hj => by omega, fun _ _ => rfl, fr_r⟩
    · rintro i s hi ⟨d2, rfl, h2, h3, hf⟩
      unfold bX6_note_2
      have e6 : (214 : Int32) * d2.1 0 6 + nI i = nI (214 * x + i) := by
        rw [hf.1 0 (by omega), h6, show (214 : Int32) * nI x = nI (214 * x) from pk_mul 214 x, nI_add]
      refine ok_f (by rw [le214 (by omega)]; omega) (ok_gi (vp_in_nI (by omega) (by omega)) ?_)
      rw [e6]
      refine (ok_gi (vp_in_nI (by omega) (by omega)) (ok_nm (ok_nm (ok_c ⟨_, congrArg (fun z => (z, _)) (nI_1 i), fun j hj => ?_, fun j hj => ?_, fr_t hf (fr_st rfl)⟩))))
      · rw [ix_nI (by omega), ix_nI (by omega), hf.1 2 (by omega)]
        by_cases hji : j = i
        · subst hji; rw [st_eq]
        · rw [st_j (by omega)]; exact h2 j (by omega)
      · rw [ix_nI (by omega), st_j (by omega)]; exact h3 j hj
    · rintro s ⟨d2, rfl, h2, h3, hf⟩
      unfold bX6_note_2
      exact ok_t (by rw [le214 (by omega)]; omega) (ok_z ⟨h2, h3, hf⟩)
  obtain ⟨d2, k1, k2, k3, k4⟩ := key
  have g6 : d2.1 0 6 = nI x := by rw [k4.1 0 (by omega)]; exact h6
  have g5 : d2.1 0 5 = nI k := by rw [k4.1 0 (by omega)]; exact h5
  refine ⟨z_st (z_st d2 0 6 (nI ((x + 1) % 14))) 0 5 (nI (min 14 (k + 1))), ?_, fun j hj => ?_, fun i hi => ?_, ?_, ?_, fun j a1 a2 => ?_, ?_⟩
  · unfold fX6_note
    rw [k1, br_s]
    simp only [z_nme, g6]
    rw [show nI x + (1 : Int32) = nI (x + 1) from nI_1 x, show nI (x + 1) - nI (x + 1) / (14 : Int32) * (14 : Int32) = nI ((x + 1) % 14) from pk_rem (d := 14) (by omega) (by omega) (by omega), st_j (show 5 ≠ 6 by omega), g5]
    rcases Nat.lt_or_ge k 14 with hl | hl
    · rw [zif_n (show ¬ (14 : Int32) ≤ nI k from fun z => by have := (nI_leI (a := 14) (by omega) (by omega)).mp z; omega), show nI k + (1 : Int32) = nI (k + 1) from nI_1 k, show min 14 (k + 1) = k + 1 by omega]
    · rw [zif_p (show (14 : Int32) ≤ nI k from (nI_leI (a := 14) (by omega) (by omega)).mpr hl), show min 14 (k + 1) = 14 by omega]; rfl
  · simp (disch := omega) only [st_k]; exact k2 j hj
  · simp (disch := omega) only [st_k]; exact k3 i hi
  · simp (disch := omega) only [st_j, st_eq]
  · simp (disch := omega) only [st_j, st_eq]
  · simp (disch := omega) only [st_j]; rw [k4.1 0 (by omega)]
  · exact fr_t (fr_w k4 (fun k hk => Or.inl hk)) (fr_t (fr_st (Or.inr rfl)) (fr_st (Or.inr rfl)))
theorem c_record {d : Dt} {k x : Nat} {ρ : Row} (hk : k ≤ 14) (hx : x < 14) (h5 : d.1 0 13 = nI k) (h6 : d.1 0 14 = nI x) (w : StI d 1 ρ B) : ∃ d', fX5_recordAction d = some d' ∧ StI d' (72 + 28 * x) ρ B ∧ d'.1 0 14 = nI ((x + 1) % 14) ∧ d'.1 0 13 = nI (min 14 (k + 1)) ∧ (∀ j, j ≠ 13 → j ≠ 14 → d'.1 0 j = d.1 0 j) ∧ Fr (fun k => Kt (72 + 28 * x) k ∨ k = 0) d d' := by
  obtain ⟨d1, e1, e2, e3⟩ := sti_copy (b0 := 72 + 28 * x) (by omega) w
  have g6 : d1.1 0 14 = nI x := by rw [e3.1 0 (by omega)]; exact h6
  have g5 : d1.1 0 13 = nI k := by rw [e3.1 0 (by omega)]; exact h5
  have fs : ∀ u v : Int32, Fr (fun k => k = 0) d1 (z_st (z_st d1 0 14 u) 0 13 v) := fun u v => fr_t (fr_st rfl) (fr_st rfl)
  have fs1 : ∀ u : Int32, Fr (fun k => k = 0) d1 (z_st d1 0 14 u) := fun u => fr_st rfl
  have e3' : Fr (fun k => Kt (72 + 28 * x) k ∨ k = 0) d d1 := fr_w e3 (fun k hk => Or.inl hk)
  have hm : zif ((13 : Int32) ≤ nI x) (0 : Int32) (nI x + 1) = nI ((x + 1) % 14) := by
    rcases Nat.lt_or_ge x 13 with hl | hl
    · rw [zif_n (show ¬ (13 : Int32) ≤ nI x from fun z => by have := (nI_leI (a := 13) (by omega) (by omega)).mp z; omega), show (x + 1) % 14 = x + 1 by omega]; exact nI_1 x
    · rw [zif_p (show (13 : Int32) ≤ nI x from (nI_leI (a := 13) (by omega) (by omega)).mpr hl), show (x + 1) % 14 = 0 by omega]; rfl
  unfold fX5_recordAction
  rw [h6, in_t hx (by omega), gd_t, ix_nI (by omega), e1, br_s]
  simp only [z_nme, g6, hm]
  rw [st_j (show 13 ≠ 14 by omega), g5]
  rcases Nat.lt_or_ge k 14 with hl | hl
  · rw [zif_n (show ¬ (14 : Int32) ≤ nI k from fun z => by have := (nI_leI (a := 14) (by omega) (by omega)).mp z; omega), show nI k + (1 : Int32) = nI (k + 1) from nI_1 k, show min 14 (k + 1) = k + 1 by omega]
    refine ⟨_, rfl, sti_fr e2 (fs _ _) (fun k hk => by omega), ?_, ?_, fun j a1 a2 => ?_, fr_t e3' (fr_w (fs _ _) (fun k hk => Or.inr hk))⟩
    · simp (disch := omega) only [st_j, st_eq]
    · simp (disch := omega) only [st_j, st_eq]
    · simp (disch := omega) only [st_j]; rw [e3.1 0 (by omega)]
  · rw [zif_p (show (14 : Int32) ≤ nI k from (nI_leI (a := 14) (by omega) (by omega)).mpr hl), show min 14 (k + 1) = 14 by omega]
    refine ⟨_, rfl, sti_fr e2 (fs1 _) (fun k hk => by omega), ?_, ?_, fun j a1 a2 => ?_, fr_t e3' (fr_w (fs1 _) (fun k hk => Or.inr hk))⟩
    · simp (disch := omega) only [st_j, st_eq]
    · simp (disch := omega) only [st_j, st_eq]
      rw [g5, show k = 14 by omega]
    · simp (disch := omega) only [st_j]; rw [e3.1 0 (by omega)]
theorem rec_both (h : Rel dc dm B) : ∃ dc' dm', fX5_recordAction dc = some dc' ∧ fX6_note dm = some dm' ∧ Rel dc' dm' B ∧ dm'.1 2 = dm.1 2 ∧ (∀ k, 1 ≤ k → k < 72 → dc'.1 k = dc.1 k) := by
  obtain ⟨h1, h2, ⟨k, x, a1, a2, a3, a4, a5, a6, a7⟩, h4, h5, h6, h7⟩ := h
  obtain ⟨dc', c1, c2, c3, c4, c5, c6⟩ := c_record a1 a2 a3 a5 h1
  obtain ⟨dm', m1, m2, m3, m4, m5, m6, m7⟩ := m_note a1 a2 a4 a6
  have fc : ∀ k, 1 ≤ k → k < 72 → dc'.1 k = dc.1 k := fun k b1 b2 => c6.1 k (by omega)
  have fm : ∀ k, 1 ≤ k → k ≠ 4 → dm'.1 k = dm.1 k := fun k b1 b2 => m7.1 k (by omega)
  refine ⟨dc', dm', c1, m1, ⟨?_, ?_, ⟨min 14 (k + 1), (x + 1) % 14, by omega, by omega, c4, m5, c3, m4, fun j hj => ?_⟩, ?_, ?_, by rw [c6.2, m7.2]; exact h6, by rw [m6 13 (by omega) (by omega)]; exact h7⟩, fm 2 (by omega) (by omega), fc⟩
  · rw [fm 2 (by omega) (by omega)]
    exact sti_fr h1 c6 (fun k hk => by omega)
  · exact relT_k h2 (c5 12 (by omega) (by omega)) (fc 67 (by omega) (by omega)) (m6 1 (by omega) (by omega)) (fm 1 (by omega) (by omega))
  · rcases Nat.eq_zero_or_pos j with hj0 | hj0
    · subst hj0
      rw [show ((x + 1) % 14 + 13 - 0) % 14 = x by omega]
      exact sti_a2 (fun i hi => m2 i hi) c2
    · rw [show ((x + 1) % 14 + 13 - j) % 14 = (x + 13 - (j - 1)) % 14 by omega]
      refine sti_fr (sti_a2 (fun i hi => ?_) (a7 (j - 1) (by omega))) c6 (fun k hk => by omega)
      exact m3 _ (by omega)
  · refine relK_k h4 (fc 59 (by omega) (by omega)) (fun k b1 b2 => c6.1 k (by omega)) c6.2 (fm 6 (by omega) (by omega)) (fm 5 (by omega) (by omega))
  · exact relO_k h5 (c5 15 (by omega) (by omega)) (fc 68 (by omega) (by omega)) (fc 69 (by omega) (by omega)) (m6 11 (by omega) (by omega)) (fm 7 (by omega) (by omega)) (fm 8 (by omega) (by omega))
end AC
