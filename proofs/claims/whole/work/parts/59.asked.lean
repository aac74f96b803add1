/-! out, element, keeping -/
theorem zif_s {α : Type} {c : Prop} {x y : Option α} (hx : ∃ r, x = some r) (hy : ∃ r, y = some r) : ∃ r, zif c x y = some r := by
  by_cases h : c
  · rw [zif_p h]; exact hx
  · rw [zif_n h]; exact hy
theorem both_s {α : Type} {o : Option α} (h : ∃ r, o = some r) : ∃ r, o = some r ∧ o = some r := by
  obtain ⟨r, hr⟩ := h
  exact ⟨r, hr, hr⟩
section AU
variable {dc dm : Dt} {B : Nat}
theorem m_outL {ρ : Row} {n p i : Nat} (hn : n ≤ 20) (hi : i < 2 ^ 31) : Ok (z_lp (bX6_out_27 (zB (oB ρ n p) n)) (nI i, 0)) (fun t => (∃ e, e < 20 ∧ t = .inl (nI e) ∧ oN ρ n p e = true ∧ zc (oN ρ n p) e = i) ∨ (t = .inr () ∧ zc (oN ρ n p) 20 ≤ i)) := by
  refine ok_for 20 (fun e s => s = (nI (i - zc (oN ρ n p) e), nI e) ∧ zc (oN ρ n p) e ≤ i) ?_ ?_ 0 _ (by omega) ⟨rfl, Nat.zero_le _⟩
  · rintro e s he ⟨rfl, hz⟩
    unfold bX6_out_27
    refine ok_f (by rw [le20 (by omega)]; omega) (ok_f (nI_pos (by omega)) ?_)
    rw [m_has _ (by omega), bt_zB _ _ (by omega) e (by omega), show (decide (e < n) && oB ρ n p e) = oN ρ n p e from rfl]
    refine ok_re rfl ?_
    rcases bool2 (oN ρ n p e) with ho | ho
    · rw [ho]
      refine ok_t (show b2i false = 0 from rfl) ?_
      unfold jX6_out_82
      refine ok_nm (ok_c ⟨?_, ?_⟩)
      · rw [zc_s, ho, show nI e + (1 : Int32) = nI (e + 1) from nI_1 e]; rfl
      · rw [zc_s, ho]; exact hz
    · rw [ho]
      refine ok_f (show ¬ b2i true = 0 by decide) ?_
      by_cases h0 : zc (oN ρ n p) e = i
      · refine ok_t (by rw [h0, Nat.sub_self]; rfl) (ok_x (Or.inl ⟨e, he, rfl, ho, h0⟩))
      · refine ok_f (nI_ne0 (by omega) (by omega)) (ok_nm ?_)
        unfold jX6_out_82
        refine ok_nm (ok_c ⟨?_, ?_⟩)
        · rw [zc_s, ho, show nI e + (1 : Int32) = nI (e + 1) from nI_1 e]
          simp only [if_true]
          obtain ⟨k, hk⟩ : ∃ k, i - zc (oN ρ n p) e = k + 1 := ⟨i - zc (oN ρ n p) e - 1, by omega⟩
          rw [hk, pk_m1, show i - (zc (oN ρ n p) e + 1) = k by omega]
        · rw [zc_s, ho]; simp only [if_true]; omega
  · rintro s ⟨rfl, hz⟩
    unfold bX6_out_27
    exact ok_t (by rw [le20 (by omega)]; omega) (ok_z (Or.inr ⟨rfl, hz⟩))
theorem p_out (h : Rel dc dm B) (x y w : Int32) : ∃ r dm', fX5_out dc x y w = some r ∧ fX6_out dm x y w = some (r, dm') ∧ Rel dc dm' B := by
  obtain ⟨n, m, s1, s2⟩ := id h.1
  have hot := h.2.2.2.2.2.2
  have h83 := s2.1.2.2.1
  have hm5 := s2.1.2.2.2.1
  have h20 := we_20 s2.1.1
  unfold fX5_out fX6_out
  rcases is_cases x (m := m) (by omega) with ⟨p, hp, rfl⟩ | hx
  · rw [c_isPath1 s1.2.1 hp hm5, m_isPath1 h83 hp hm5, br_s, br_s, z10, z10, in_t (show p < 5 by omega) (by omega), gd_t, ix_nI (show p < 2 ^ 31 by omega)]
    obtain ⟨g1, k1, k2⟩ := m_out (a := 2) (by omega) hot s2.1 hp
    have hR := rel_fr h fr_r (frm_9 k2)
    obtain ⟨-, q2, q3, q4, -⟩ := s1.2.2 p hp
    rw [k1, bd_s, show dc.1 (9 + 4 * p) 4 = nI (zc (whO (dm.1 2) p) 20) from q3]
    have hWc : ∀ e, e ≤ 20 → zc (whO (dm.1 2) p) e = zc (oN (dm.1 2) n p) e := fun e he => zc_cong (fun i hi => s2.2 p hp i (by omega))
    have hz20 := zc_le (whO (dm.1 2) p) 20
    by_cases h0 : y < 0
    · rw [zif_p h0]
      refine ⟨-9, g1, rfl, ?_, hR⟩
      have : z_lp (bX6_out_27 (zB (oB (dm.1 2) n p) n)) (y, 0) = some (.inr ()) := by
        have hb : bX6_out_27 (zB (oB (dm.1 2) n p) n) (y, 0) = some (.inr (.inr ())) := by
          unfold bX6_out_27
          show zif ((20 : Int32) ≤ 0) _ (zif (y < 0) _ _) = _
          rw [zif_n (show ¬ (20 : Int32) ≤ 0 by decide), zif_p h0]
        rw [z_lp_eq, hb]
      rw [this, br_s]
    · rw [zif_n h0]
      obtain ⟨i, hi, rfl⟩ := nI_of h0
      obtain ⟨t, t1, t2⟩ := m_outL (ρ := dm.1 2) (n := n) (p := p) h20 hi
      rw [t1, br_s]
      rcases t2 with ⟨e, he, rfl, t3, t4⟩ | ⟨rfl, t3⟩
      · have hwe : whO (dm.1 2) p e = true := by rw [s2.2 p hp e he]; exact t3
        have hlt := zc_lt (f := whO (dm.1 2) p) he hwe
        have hce : zc (whO (dm.1 2) p) e = i := by rw [hWc e (by omega)]; exact t4
        obtain ⟨u1, u2⟩ := q4 e he hwe
        rw [hce] at u1 u2 hlt
        rw [zif_p ((nI_ltI hi (by omega)).mpr hlt), in_t (show i < 20 by omega) (by omega), gd_t, gd_t, ix_nI hi, show dc.1 (9 + 4 * p + 2) i = nI e from u1, show dc.1 (9 + 4 * p + 3) i = _ from u2]
        show ∃ r dm', _ ∧ zif (w = 0) (some (nI e, g1)) (z_gd (z_in ((114 : Int32) + (20 : Int32) * nI p + nI e) 214) (some ((g1.1 2 (z_ix ((114 : Int32) + (20 : Int32) * nI p + nI e))), g1))) = _ ∧ _
        rw [a114, in_t (show 114 + 20 * p + e < 214 by omega) (by omega), gd_t, ix_nI (by omega), k2.1 2 (by omega)]
        by_cases hw : w = 0
        · rw [zif_p hw, zif_p hw]; exact ⟨_, _, rfl, rfl, hR⟩
        · rw [zif_n hw, zif_n hw]; exact ⟨_, _, rfl, rfl, hR⟩
      · rw [← hWc 20 (by omega)] at t3
        rw [zif_n (show ¬ nI i < nI (zc (whO (dm.1 2) p) 20) from fun z => by have := (nI_ltI hi (by omega)).mp z; omega)]
        exact ⟨_, _, rfl, rfl, hR⟩
  · rw [c_isPath0 s1.2.1 hx, m_isPath0 h83 hm5 hx, br_s, br_s, z00, z00]
    exact ⟨_, _, rfl, rfl, h⟩
theorem p_element (h : Rel dc dm B) (x y : Int32) : ∃ r, fX5_element dc x y = some r ∧ fX6_element dm x y = some r := by
  obtain ⟨n, m, s1, s2⟩ := id h.1
  have h80 := s2.1.1.1
  have h20 := we_20 s2.1.1
  have hc80 : dc.1 2 6 = nI n := s1.1.2.1.trans h80
  unfold fX5_element fX6_element
  rcases is_cases x (m := n) (by omega) with ⟨e, he, rfl⟩ | hx
  · rw [c_isEl1 hc80 he h20, m_isEl1 h80 he h20, br_s, br_s, z10, z10, in_t (show e < 20 by omega) (by omega), in_t (show e < 214 by omega) (by omega), a20, a40, a60, in_t (show 20 + e < 214 by omega) (by omega), in_t (show 40 + e < 214 by omega) (by omega), in_t (show 60 + e < 214 by omega) (by omega)]
    simp only [gd_t, ix_nI (show e < 2 ^ 31 by omega), ix_nI (show 20 + e < 2 ^ 31 by omega), ix_nI (show 40 + e < 2 ^ 31 by omega), ix_nI (show 60 + e < 2 ^ 31 by omega)]
    obtain ⟨q1, q2, q3, q4, q5⟩ := s1.1.2.2.2.2 e he
    rw [show dc.1 3 e = _ from q1, show dc.1 4 e = _ from q2, show dc.1 5 e = _ from q3, show dc.1 6 e = _ from q4, show dc.1 7 e = _ from q5, show dc.1 2 5 = _ from s1.1.1, zB_bt (by omega) he, m_depth s2.1.1 he, m_child s2.1.1 he, br_s, br_s]
    have ho : (if rop (dm.1 2) e = true then (1 : Int32) else 0) = dm.1 2 (40 + e) := by
      unfold rop
      rcases s2.1.1.2.2.2.2.2 e he with g | g <;> rw [g] <;> rfl
    rw [ho]
    exact both_s (zif_s ⟨_, rfl⟩ (zif_s ⟨_, rfl⟩ (zif_s ⟨_, rfl⟩ (zif_s ⟨_, rfl⟩ (zif_s ⟨_, rfl⟩ (zif_s ⟨_, rfl⟩ ⟨_, rfl⟩))))))
  · rw [c_isEl0 hc80 hx, m_isEl0 h80 h20 hx, br_s, br_s, z00, z00]
    exact ⟨_, rfl, rfl⟩
theorem m_keepL {d : Dt} {x : Nat} (hx : x < 2) : ∃ d', z_lp (bX6_keep_21 (nI x)) (0, d) = some d' ∧ (∀ j, j < 214 → d'.1 5 (214 * x + j) = d.1 2 j) ∧ (∀ i, (i < 214 * x ∨ 214 * x + 214 ≤ i) → d'.1 5 i = d.1 5 i) ∧ Fr (fun k => k = 5) d d' := by
  have key : Ok (z_lp (bX6_keep_21 (nI x)) (0, d)) (fun t => (∀ j, j < 214 → t.1 5 (214 * x + j) = d.1 2 j) ∧ (∀ i, (i < 214 * x ∨ 214 * x + 214 ≤ i) → t.1 5 i = d.1 5 i) ∧ Fr (fun k => k = 5) d t) := by
    refine ok_for 214 (fun i s => ∃ d2, s = (nI i, d2) ∧ (∀ j, j < i → d2.1 5 (214 * x + j) = d.1 2 j) ∧ (∀ i, (i < 214 * x ∨ 214 * x + 214 ≤ i) → d2.1 5 i = d.1 5 i) ∧ Fr (fun k => k = 5) d d2) ?_ ?_ 0 _ (by omega) ⟨d, rfl, fun j hj => by omega, fun _ _ => rfl, fr_r⟩
    · rintro i s hi ⟨d2, rfl, h2, h3, hf⟩
      unfold bX6_keep_21
      refine ok_f (by rw [le214 (by omega)]; omega) (ok_gi (vp_in_nI (by omega) (by omega)) ?_)
      rw [show (214 : Int32) * nI x = nI (214 * x) from pk_mul 214 x, nI_add]
      refine (ok_gi (vp_in_nI (by omega) (by omega)) (ok_nm (ok_nm (ok_c ⟨_, congrArg (fun z => (z, _)) (nI_1 i), fun j hj => ?_, fun j hj => ?_, fr_t hf (fr_st rfl)⟩))))
      · rw [ix_nI (by omega), ix_nI (by omega), hf.1 2 (by omega)]
        by_cases hji : j = i
        · subst hji; rw [st_eq]
        · rw [st_j (by omega)]; exact h2 j (by omega)
      · rw [ix_nI (by omega), st_j (by omega)]; exact h3 j hj
    · rintro s ⟨d2, rfl, h2, h3, hf⟩
      unfold bX6_keep_21
      exact ok_t (by rw [le214 (by omega)]; omega) (ok_z ⟨h2, h3, hf⟩)
  obtain ⟨d', k1, k2, k3, k4⟩ := key
  exact ⟨d', k1, k2, k3, k4⟩
theorem m_againL {d : Dt} {x : Nat} (hx : x < 2) : ∃ d', z_lp (bX6_again_26 (nI x)) (0, d) = some d' ∧ (∀ j, j < 214 → d'.1 2 j = d.1 5 (214 * x + j)) ∧ Fr (fun k => k = 2) d d' := by
  have key : Ok (z_lp (bX6_again_26 (nI x)) (0, d)) (fun t => (∀ j, j < 214 → t.1 2 j = d.1 5 (214 * x + j)) ∧ Fr (fun k => k = 2) d t) := by
    refine ok_for 214 (fun i s => ∃ d2, s = (nI i, d2) ∧ (∀ j, j < i → d2.1 2 j = d.1 5 (214 * x + j)) ∧ Fr (fun k => k = 2) d d2) ?_ ?_ 0 _ (by omega) ⟨d, rfl, fun j hj => by omega, fr_r⟩
    · rintro i s hi ⟨d2, rfl, h2, hf⟩
      unfold bX6_again_26
      refine ok_f (by rw [le214 (by omega)]; omega) ?_
      rw [show (214 : Int32) * nI x = nI (214 * x) from pk_mul 214 x, nI_add]
      refine ok_gi (vp_in_nI (by omega) (by omega)) (ok_gi (vp_in_nI (by omega) (by omega)) (ok_nm (ok_nm (ok_c ⟨_, congrArg (fun z => (z, _)) (nI_1 i), fun j hj => ?_, fr_t hf (fr_st rfl)⟩))))
      rw [ix_nI (by omega), ix_nI (by omega), hf.1 5 (by omega)]
      by_cases hji : j = i
      · subst hji; rw [st_eq]
      · rw [st_j (by omega)]; exact h2 j (by omega)
    · rintro s ⟨d2, rfl, h2, hf⟩
      unfold bX6_again_26
      exact ok_t (by rw [le214 (by omega)]; omega) (ok_z ⟨h2, hf⟩)
  obtain ⟨d', k1, k2, k3⟩ := key
  exact ⟨d', k1, k2, k3⟩
theorem p_keep (h : Rel dc dm B) (x : Int32) : Sim (fX5_keep dc x) (fX6_keep dm x) B := by
  have hR := h
  obtain ⟨h1, h2, h3, h4, h5, h6, h7⟩ := h
  unfold fX5_keep fX6_keep
  rcases is_cases x (m := 2) (by omega) with ⟨s, hs, rfl⟩ | hx
  · rw [zif_n (nI_pos (by omega)), zif_p (show nI s < (2 : Int32) from (nI_ltI (b := 2) (by omega) (by omega)).mpr hs), show fX6_in (nI s).toInt64 0 1 = some 1 from in_p (m := 2) hs (by omega), br_s, z10, in_t hs (by omega), gd_t, gd_t, ix_nI (by omega)]
    obtain ⟨dc1, e1, e2, e3⟩ := sti_copy (b0 := 464 + 28 * s) (by omega) h1
    obtain ⟨dm7, g1, g2, g3, g4⟩ := m_keepL (d := z_st dm 6 s 1) hs
    rw [e1, br_s, gd_t, z_nme, z_nme, g1, br_s]
    have m0 : ∀ k, k ≠ 5 → k ≠ 6 → dm7.1 k = dm.1 k := fun k b1 b2 => by rw [g4.1 k b1, st_k (by omega)]
    obtain ⟨n, m, s1, s2⟩ := id h1
    have ec : (z_st dc1 59 s 1).1 2 8 = dm7.1 2 (z_ix (82 : Int32)) := by
      rw [st_k (by omega), e3.1 2 (by omega), m0 2 (by omega) (by omega)]; exact s1.1.2.2.2.1
    rw [ec]
    have fc : Fr (fun k => Kt (464 + 28 * s) k ∨ k = 59) dc (z_st dc1 59 s 1) := fr_t (fr_w e3 (fun k hk => Or.inl hk)) (fr_st (Or.inr rfl))
    refine ⟨_, _, _, rfl, rfl, ?_, ?_, ?_, fun t ht => ?_, ?_, ?_, ?_⟩
    · rw [m0 2 (by omega) (by omega)]; exact sti_fr h1 fc (fun k hk => by omega)
    · refine relT_k h2 ?_ ?_ ?_ (m0 1 (by omega) (by omega))
      · rw [fc.1 0 (by omega)]
      · rw [fc.1 67 (by omega)]
      · rw [m0 0 (by omega) (by omega)]
    · exact relA_k h3 (by rw [fc.1 0 (by omega)]) (by rw [fc.1 0 (by omega)]) (fun k b1 b2 => fc.1 k (by omega)) fc.2 (by rw [m0 0 (by omega) (by omega)]) (by rw [m0 0 (by omega) (by omega)]) (m0 4 (by omega) (by omega))
    · by_cases hts : t = s
      · subst hts
        refine Or.inr ⟨st_eq _ _ _ _, by rw [g4.1 6 (by omega), st_eq], sti_fr (sti_a2 (fun i hi => ?_) e2) (fr_st (K := fun k => k = 59) rfl) (fun k hk => by omega)⟩
        show dm7.1 5 (214 * t + i) = _
        rw [g2 i hi, st_k (by omega)]
      · have c59 : (z_st dc1 59 s 1).1 59 t = dc.1 59 t := by rw [st_j hts, e3.1 59 (by omega)]
        have m6 : dm7.1 6 t = dm.1 6 t := by rw [g4.1 6 (by omega), st_j hts]
        rw [c59, m6]
        rcases h4 t ht with q | ⟨q1, q2, q3⟩
        · exact Or.inl q
        · refine Or.inr ⟨q1, q2, sti_fr (sti_a2 (fun i hi => ?_) q3) fc (fun k hk => by omega)⟩
          show dm7.1 5 (214 * t + i) = _
          rw [g3 _ (by omega), st_k (by omega)]; rfl
    · refine relO_k h5 ?_ ?_ ?_ ?_ (m0 7 (by omega) (by omega)) (m0 8 (by omega) (by omega))
      · rw [fc.1 0 (by omega)]
      · rw [fc.1 68 (by omega)]
      · rw [fc.1 69 (by omega)]
      · rw [m0 0 (by omega) (by omega)]
    · rw [g4.2]; exact fc.2.trans h6
    · rw [m0 0 (by omega) (by omega)]; exact h7
  · rw [show fX6_in x.toInt64 0 1 = some 0 from in_n (m := 2) (by omega) hx, br_s, z00]
    refine ⟨-1, dc, dm, ?_, rfl, hR⟩
    by_cases h0 : x < 0
    · rw [zif_p h0]
    · rw [zif_n h0, zif_n (show ¬ x < (2 : Int32) from Int32.not_lt.mpr (hx.resolve_left h0))]
theorem p_again (h : Rel dc dm B) (x : Int32) : Sim (fX5_again dc x) (fX6_again dm x) B := by
  have hR := h
  obtain ⟨h1, h2, h3, h4, h5, h6, h7⟩ := h
  unfold fX5_again fX6_again fX5_forgetActions
  rcases is_cases x (m := 2) (by omega) with ⟨s, hs, rfl⟩ | hx
  · rw [zif_n (nI_pos (by omega)), zif_p (show nI s < (2 : Int32) from (nI_ltI (b := 2) (by omega) (by omega)).mpr hs), show fX6_in (nI s).toInt64 0 1 = some 1 from in_p (m := 2) hs (by omega), br_s, z10, in_t hs (by omega), gd_t, gd_t, gd_t, ix_nI (by omega)]
    rcases h4 s hs with ⟨q1, q2⟩ | ⟨q1, q2, q3⟩
    · rw [q1, q2, z00, z00]
      exact ⟨_, _, _, rfl, rfl, hR⟩
    · rw [q1, q2, z10, z10]
      obtain ⟨dc1, e1, e2, e3⟩ := sti_copy (b0 := 1) (by omega) q3
      obtain ⟨dm6, g1, g2, g3⟩ := m_againL (d := dm) hs
      rw [e1, br_s, z_nme, br_s, g1, br_s]
      show Sim _ (z_nm _ _) B
      rw [z_nme]
      have e2' : StI dc1 1 (dm6.1 2) B := sti_a2 (fun i hi => g2 i hi) e2
      obtain ⟨n, m, s1, s2⟩ := id e2'
      have ec : (z_st dc1 0 13 0).1 2 8 = (z_st dm6 0 5 0).1 2 (z_ix (82 : Int32)) := by
        rw [st_k (by omega), st_k (by omega)]; exact s1.1.2.2.2.1
      rw [ec]
      refine ⟨_, _, _, rfl, rfl, ?_, ?_, ?_, ?_, ?_, ?_, ?_⟩
      · rw [st_k (by omega)]; exact sti_fr e2' (fr_st (K := fun k => k = 0) rfl) (fun k hk => by omega)
      · refine relT_k h2 ?_ ?_ ?_ ?_
        · rw [st_j (by omega), e3.1 0 (by omega)]
        · rw [st_k (by omega), e3.1 67 (by omega)]
        · rw [st_j (by omega), g3.1 0 (by omega)]
        · rw [st_k (by omega), g3.1 1 (by omega)]
      · obtain ⟨k, y, a1, a2, a3, a4, a5, a6, a7⟩ := h3
        refine ⟨0, y, by omega, a2, by rw [st_eq]; rfl, by rw [st_eq]; rfl, ?_, ?_, fun j hj => by omega⟩
        · rw [st_j (by omega), e3.1 0 (by omega)]; exact a5
        · rw [st_j (by omega), g3.1 0 (by omega)]; exact a6
      · refine relK_k h4 ?_ (fun k b1 b2 => ?_) e3.2 ?_ ?_
        · rw [st_k (by omega), e3.1 59 (by omega)]
        · rw [st_k (by omega), e3.1 k (by omega)]
        · rw [st_k (by omega), g3.1 6 (by omega)]
        · rw [st_k (by omega), g3.1 5 (by omega)]
      · refine relO_k h5 ?_ ?_ ?_ ?_ ?_ ?_
        · rw [st_j (by omega), e3.1 0 (by omega)]
        · rw [st_k (by omega), e3.1 68 (by omega)]
        · rw [st_k (by omega), e3.1 69 (by omega)]
        · rw [st_j (by omega), g3.1 0 (by omega)]
        · rw [st_k (by omega), g3.1 7 (by omega)]
        · rw [st_k (by omega), g3.1 8 (by omega)]
      · exact (e3.2.trans h6).trans g3.2.symm
      · rw [st_j (by omega), g3.1 0 (by omega)]; exact h7
  · rw [show fX6_in x.toInt64 0 1 = some 0 from in_n (m := 2) (by omega) hx, br_s, z00]
    refine ⟨-1, dc, dm, ?_, rfl, hR⟩
    by_cases h0 : x < 0
    · rw [zif_p h0]
    · rw [zif_n h0, zif_n (show ¬ x < (2 : Int32) from Int32.not_lt.mpr (hx.resolve_left h0))]
end AU
