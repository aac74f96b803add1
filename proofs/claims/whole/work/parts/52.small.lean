/-! THE PUBLIC METHODS: those of the text, of what is seen, of the seed -/
theorem nar_c : ∀ c, c < 256 → vp_nar .char (((nI c).toUInt32 % 65536).toInt32) = nI c := by decide +kernel
section SM
variable {dc dm : Dt} {B : Nat}
theorem p_write (h : Rel dc dm B) (x : Int32) : Sim (fX5_write dc x) (fX6_write dm x) B := by
  obtain ⟨h1, ⟨len, t1, t2, t3, t4⟩, h3, h4, h5, h6, h7⟩ := h
  have h : Rel dc dm B := ⟨h1, ⟨len, t1, t2, t3, t4⟩, h3, h4, h5, h6, h7⟩
  unfold fX5_write fX6_write
  rcases is_cases x (m := 256) (by omega) with ⟨c, hc, rfl⟩ | hx
  · rw [zif_n (nI_pos (by omega)), zif_p (show nI c ≤ (255 : Int32) from (nI_leI (b := 255) (by omega) (by omega)).mpr (by omega)), show fX6_in (nI c).toInt64 0 255 = some 1 from in_1i (a := 0) (b := 255) (nI_pos' (by omega)) ((nI_leI (b := 255) (by omega) (by omega)).mpr (by omega)), br_s, z10, t2, t3]
    by_cases hl : len < 99
    · rw [zif_p (show nI len < (99 : Int32) from (nI_ltI (b := 99) (by omega) (by omega)).mpr hl), zif_n (show ¬ nI len = (99 : Int32) from fun z => by have := (nI_eq (b := 99) (by omega) (by omega)).mp z; omega), in_t hl (by omega), gd_t, gd_t, ix_nI (by omega)]
      simp (disch := omega) only [z_nme, st_k, st_j, st_eq, t2, t3, nar_c c hc]
      refine ⟨_, _, _, rfl, rfl, ?_⟩
      refine ⟨sti_fr (K := fun k => k = 67 ∨ k = 0) h1 (fr_t (fr_st (Or.inl rfl)) (fr_st (Or.inr rfl))) (fun k hk => by omega), ⟨len + 1, by omega, ?_, ?_, fun i hi => ?_⟩, ?_, ?_, ?_, h6, ?_⟩
      · rw [st_eq]; exact nI_1 len
      · rw [st_eq]; exact nI_1 len
      · simp (disch := omega) only [st_k]
        by_cases hil : i = len
        · subst hil
          exact ⟨c, hc, by rw [st_eq], by rw [st_eq]⟩
        · rw [st_j hil, st_j hil]; exact t4 i (by omega)
      · refine relA_k h3 ?_ ?_ (fun k a1 a2 => ?_) rfl ?_ ?_ ?_ <;> simp (disch := omega) only [st_k, st_j]
      · refine relK_k h4 ?_ (fun k a1 a2 => ?_) rfl ?_ ?_ <;> simp (disch := omega) only [st_k, st_j]
      · refine relO_k h5 ?_ ?_ ?_ ?_ ?_ ?_ <;> simp (disch := omega) only [st_k, st_j]
      · simp (disch := omega) only [st_k, st_j, h7]
    · have : len = 99 := by omega
      subst this
      rw [zif_n (show ¬ nI 99 < (99 : Int32) by decide), zif_p (show nI 99 = (99 : Int32) from rfl)]
      exact ⟨_, _, _, rfl, rfl, h⟩
  · rw [show fX6_in x.toInt64 0 255 = some 0 from in_n (m := 256) (by omega) hx, br_s, z00]
    refine ⟨-2, dc, dm, ?_, rfl, h⟩
    by_cases h0 : x < 0
    · rw [zif_p h0]
    · rw [zif_n h0, zif_n]
      have := hx.resolve_left h0
      obtain ⟨j, hj, rfl⟩ := nI_of h0
      have h2 := (nI_leI (a := 256) (by omega) hj).mp this
      exact fun z => by have := (nI_leI (b := 255) hj (by omega)).mp z; omega
theorem p_wipe (h : Rel dc dm B) : Sim (fX5_wipe dc) (fX6_wipe dm) B := by
  obtain ⟨h1, ⟨len, t1, t2, t3, t4⟩, h3, h4, h5, h6, h7⟩ := h
  unfold fX5_wipe fX6_wipe
  simp only [z_nme, t2, t3]
  refine ⟨_, _, _, rfl, rfl, sti_fr (K := fun k => k = 0) h1 (fr_st rfl) (fun k hk => by omega), ⟨0, by omega, by rw [st_eq]; rfl, by rw [st_eq]; rfl, fun i hi => by omega⟩, ?_, ?_, ?_, h6, ?_⟩
  · refine relA_k h3 ?_ ?_ (fun k a1 a2 => ?_) rfl ?_ ?_ ?_ <;> simp (disch := omega) only [st_k, st_j]
  · refine relK_k h4 ?_ (fun k a1 a2 => ?_) rfl ?_ ?_ <;> simp (disch := omega) only [st_k, st_j]
  · refine relO_k h5 ?_ ?_ ?_ ?_ ?_ ?_ <;> simp (disch := omega) only [st_k, st_j]
  · simp (disch := omega) only [st_k, st_j, h7]
theorem p_unsee (h : Rel dc dm B) : Sim (fX5_unsee dc) (fX6_unsee dm) B := by
  obtain ⟨h1, h2, h3, h4, ⟨o, o1, o2, o3, o4⟩, h6, h7⟩ := h
  unfold fX5_unsee fX6_unsee
  simp only [z_nme, o2, o3]
  refine ⟨_, _, _, rfl, rfl, sti_fr (K := fun k => k = 0) h1 (fr_st rfl) (fun k hk => by omega), ?_, ?_, ?_, ⟨0, by omega, by rw [st_eq]; rfl, by rw [st_eq]; rfl, fun i hi => by omega⟩, h6, ?_⟩
  · refine relT_k h2 ?_ ?_ ?_ ?_ <;> simp (disch := omega) only [st_k, st_j]
  · refine relA_k h3 ?_ ?_ (fun k a1 a2 => ?_) rfl ?_ ?_ ?_ <;> simp (disch := omega) only [st_k, st_j]
  · refine relK_k h4 ?_ (fun k a1 a2 => ?_) rfl ?_ ?_ <;> simp (disch := omega) only [st_k, st_j]
  · simp (disch := omega) only [st_k, st_j, h7]
theorem sti_2 {d : Dt} {b : Nat} {ρ : Row} {v : Int64} (w : StI d b ρ B) : StI (z_sl d v) b ρ B := w
theorem p_seed (h : Rel dc dm B) (v : Int64) : Sim (fX5_seed dc v) (fX6_seed dm v) B := by
  obtain ⟨h1, h2, h3, h4, h5, h6, h7⟩ := h
  unfold fX5_seed fX6_seed
  simp only [z_nme, h6]
  exact ⟨_, _, _, rfl, rfl, h1, h2, h3, h4, h5, rfl, h7⟩
theorem p_see (h : Rel dc dm B) (x v : Int32) : Sim (fX5_see dc x v) (fX6_see dm x v) B := by
  have hR := h
  obtain ⟨h1, h2, h3, h4, ⟨o, o1, o2, o3, o4⟩, h6, h7⟩ := h
  obtain ⟨n, m, s1, s2⟩ := id h1
  have h83 := s2.1.2.2.1
  have hm5 := s2.1.2.2.2.1
  unfold fX5_see fX6_see
  rcases is_cases x (m := m) (by omega) with ⟨p, hp, rfl⟩ | hx
  · rw [c_isPath1 s1.2.1 hp hm5, m_isPath1 h83 hp hm5, br_s, br_s, z10, z10]
    rcases is_cases v (m := 21) (by omega) with ⟨c, hc, rfl⟩ | hv
    · rw [zif_n (nI_pos (by omega)), zif_p (show nI c ≤ (20 : Int32) from (nI_leI (b := 20) (by omega) (by omega)).mpr (by omega)), show fX6_in (nI c).toInt64 0 20 = some 1 from in_1i (a := 0) (b := 20) (nI_pos' (by omega)) ((nI_leI (b := 20) (by omega) (by omega)).mpr (by omega)), br_s, z10, o2, o3]
      by_cases hl : o < 6
      · rw [zif_p (show nI o < (6 : Int32) from (nI_ltI (b := 6) (by omega) (by omega)).mpr hl), zif_n (show ¬ nI o = (6 : Int32) from fun z => by have := (nI_eq (b := 6) (by omega) (by omega)).mp z; omega), in_t hl (by omega), gd_t, gd_t, ix_nI (by omega)]
        simp (disch := omega) only [z_nme, st_k, st_j, st_eq, o2, o3, in_t hl (show 6 < 2 ^ 31 by omega), gd_t, ix_nI]
        refine ⟨_, _, _, rfl, rfl, ?_⟩
        refine ⟨sti_fr (K := fun k => k = 68 ∨ k = 69 ∨ k = 0) h1 (fr_t (fr_t (fr_st (Or.inl rfl)) (fr_st (Or.inr (Or.inl rfl)))) (fr_st (Or.inr (Or.inr rfl)))) (fun k hk => by omega), ?_, ?_, ?_, ⟨o + 1, by omega, ?_, ?_, fun i hi => ?_⟩, h6, ?_⟩
        · refine relT_k h2 ?_ ?_ ?_ ?_ <;> simp (disch := omega) only [st_k, st_j]
        · refine relA_k h3 ?_ ?_ (fun k a1 a2 => ?_) rfl ?_ ?_ ?_ <;> simp (disch := omega) only [st_k, st_j]
        · refine relK_k h4 ?_ (fun k a1 a2 => ?_) rfl ?_ ?_ <;> simp (disch := omega) only [st_k, st_j]
        · rw [st_eq]; exact nI_1 o
        · rw [st_eq]; exact nI_1 o
        · simp (disch := omega) only [st_k]
          by_cases hil : i = o
          · subst hil
            exact ⟨p, by omega, by rw [st_eq], by rw [st_eq], by rw [st_eq, st_eq]⟩
          · rw [st_j hil, st_j hil, st_j hil, st_j hil]; exact o4 i (by omega)
        · simp (disch := omega) only [st_k, st_j, h7]
      · have : o = 6 := by omega
        subst this
        rw [zif_n (show ¬ nI 6 < (6 : Int32) by decide), zif_p (show nI 6 = (6 : Int32) from rfl)]
        exact ⟨_, _, _, rfl, rfl, hR⟩
    · rw [show fX6_in v.toInt64 0 20 = some 0 from in_n (m := 21) (by omega) hv, br_s, z00]
      refine ⟨-2, dc, dm, ?_, rfl, hR⟩
      by_cases h0 : v < 0
      · rw [zif_p h0]
      · rw [zif_n h0, zif_n]
        have := hv.resolve_left h0
        obtain ⟨j, hj, rfl⟩ := nI_of h0
        have h2 := (nI_leI (a := 21) (by omega) hj).mp this
        exact fun z => by have := (nI_leI (b := 20) hj (by omega)).mp z; omega
  · rw [c_isPath0 s1.2.1 hx, m_isPath0 h83 hm5 hx, br_s, br_s, z00, z00]
    exact ⟨_, _, _, rfl, rfl, hR⟩
end SM
