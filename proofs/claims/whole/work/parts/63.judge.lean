section JV
variable {dc dm : Dt} {n m B : Nat}
theorem m_is3 (h : TR dc dm n m B) {p : Nat} (hp : p < m) : fX6_isPath dm (nI p) = some 1 := m_isPath1 h.2.2.2 hp h.2.1.1.2.2.2.1
theorem m_is30 (h : TR dc dm n m B) {p : Nat} (hp10 : p < 10) (hp : ¬ p < m) : fX6_isPath dm (nI p) = some 0 := m_isPath0 h.2.2.2 h.2.1.1.2.2.2.1 (Or.inr ((nI_leI (by have := h.2.1.1.2.2.2.1; omega) (by omega)).mpr (by omega)))
theorem nne {k : Nat} {c : Nat} (h : k ≠ c) (hk : k < 2 ^ 31) (hc : c < 2 ^ 31) : ¬ nI k = nI c := fun z => h ((nI_eq hk hc).mp z)
theorem j_judged (hB : B + 1 < 2 ^ 31) (h : TR dc dm n m B) (k s t : Nat) (hk : k < 10) (hs : s < 10) (ht : t < 10) : JO dc dm m (B + 1) (fX5_comesTrue dc (nI k) (nI s) (nI t)) (fX6_judged dm (nI k) (nI s) (nI t)) := by
  obtain ⟨h1, h2, h3, h4⟩ := id h
  have hw := h2.1.1
  have h20 := we_20 hw
  have hH := h2.1.2.2.2.2.2.1
  unfold fX5_comesTrue fX6_judged
  have ne : ∀ c, k ≠ c → c < 2 ^ 31 → ¬ nI k = nI c := fun c hc hc2 => nne hc (by omega) hc2
  by_cases k1 : k = 1
  · subst k1
    rw [zif_p (show nI 1 = (1 : Int32) from rfl), zif_p (show nI 1 = (1 : Int32) from rfl)]
    by_cases hs0 : s = 0
    · subst hs0
      rw [zif_p (show nI 0 = 0 from rfl), zif_p (show nI 0 = 0 from rfl)]
      exact j_open hB h t ht
    · rw [zif_n (nI_ne0 (by omega) (by omega)), zif_n (nI_ne0 (by omega) (by omega))]
      exact jo_no (r := false) h
  rw [zif_n (show ¬ nI k = (1 : Int32) from ne 1 k1 (by omega)), zif_n (show ¬ nI k = (1 : Int32) from ne 1 k1 (by omega))]
  by_cases k2 : k = 2
  · subst k2
    rw [zif_p (show nI 2 = (2 : Int32) from rfl), zif_p (show nI 2 = (2 : Int32) from rfl)]
    by_cases hs0 : s = 0
    · subst hs0
      rw [zif_p (show nI 0 = 0 from rfl), zif_p (show nI 0 = 0 from rfl)]
      by_cases ht0 : t = 0
      · subst ht0
        rw [zif_p (show nI 0 = 0 from rfl), zif_p (show nI 0 = 0 from rfl)]
        exact j_close hB h
      · rw [zif_n (nI_ne0 (by omega) (by omega)), zif_n (nI_ne0 (by omega) (by omega))]
        exact jo_no (r := false) h
    · rw [zif_n (nI_ne0 (by omega) (by omega)), zif_n (nI_ne0 (by omega) (by omega))]
      exact jo_no (r := false) h
  rw [zif_n (show ¬ nI k = (2 : Int32) from ne 2 k2 (by omega)), zif_n (show ¬ nI k = (2 : Int32) from ne 2 k2 (by omega))]
  by_cases k3 : k = 3
  · subst k3
    rw [zif_p (show nI 3 = (3 : Int32) from rfl), zif_p (show nI 3 = (3 : Int32) from rfl)]
    by_cases hs0 : s = 0
    · subst hs0
      rw [zif_p (show nI 0 = 0 from rfl), zif_p (show nI 0 = 0 from rfl)]
      exact j_tell hB h t ht
    · rw [zif_n (nI_ne0 (by omega) (by omega)), zif_n (nI_ne0 (by omega) (by omega))]
      exact jo_no (r := false) h
  rw [zif_n (show ¬ nI k = (3 : Int32) from ne 3 k3 (by omega)), zif_n (show ¬ nI k = (3 : Int32) from ne 3 k3 (by omega))]
  by_cases k4 : k = 4
  · subst k4
    rw [zif_p (show nI 4 = (4 : Int32) from rfl), zif_p (show nI 4 = (4 : Int32) from rfl)]
    refine j_num h s t 1 hs (Or.inl rfl) _ (fun hp => ?_) (fun hp => ?_)
    · obtain ⟨g1, q1, q2⟩ := m_ans (a := 3) (by omega) h3 h2.1 hp
      refine ⟨g1, fun _ _ => ?_, q2⟩
      rw [m_is3 h hp, br_s, z10, q1, bd_s, m_ones h20, br_s]; rfl
    · rw [m_is30 h hs hp, br_s, z00]
  rw [zif_n (show ¬ nI k = (4 : Int32) from ne 4 k4 (by omega)), zif_n (show ¬ nI k = (4 : Int32) from ne 4 k4 (by omega))]
  by_cases k5 : k = 5
  · subst k5
    rw [zif_p (show nI 5 = (5 : Int32) from rfl), zif_p (show nI 5 = (5 : Int32) from rfl)]
    refine j_num h s t 2 hs (Or.inr (Or.inl rfl)) _ (fun hp => ?_) (fun hp => ?_)
    · obtain ⟨g1, q1, q2⟩ := m_out (a := 3) (by omega) h3 h2.1 hp
      refine ⟨g1, fun _ _ => ?_, q2⟩
      rw [m_is3 h hp, br_s, z10, q1, bd_s, m_ones h20, br_s]; rfl
    · rw [m_is30 h hs hp, br_s, z00]
  rw [zif_n (show ¬ nI k = (5 : Int32) from ne 5 k5 (by omega)), zif_n (show ¬ nI k = (5 : Int32) from ne 5 k5 (by omega))]
  by_cases k6 : k = 6
  · subst k6
    rw [zif_p (show nI 6 = (6 : Int32) from rfl), zif_p (show nI 6 = (6 : Int32) from rfl)]
    refine j_num h s t 3 hs (Or.inr (Or.inr rfl)) _ (fun hp => ?_) (fun hp => ?_)
    · obtain ⟨g1, q1, q2⟩ := m_held (a := 3) (by omega) h3 h2.1 hp
      refine ⟨g1, fun _ _ => ?_, q2⟩
      rw [m_is3 h hp, br_s, z10, q1, bd_s]; rfl
    · rw [m_is30 h hs hp, br_s, z00]
  rw [zif_n (show ¬ nI k = (6 : Int32) from ne 6 k6 (by omega)), zif_n (show ¬ nI k = (6 : Int32) from ne 6 k6 (by omega))]
  by_cases k7 : k = 7
  · subst k7
    rw [zif_p (show nI 7 = (7 : Int32) from rfl), zif_p (show nI 7 = (7 : Int32) from rfl)]
    by_cases hs0 : s = 0
    · subst hs0
      rw [zif_p (show nI 0 = 0 from rfl), zif_p (show nI 0 = 0 from rfl), show fX0_currentDepth dc 30 = _ from c_depth (el := 29 + 1) h1.1 h20 hH, br_s, show dm.1 3 (z_ix (81 : Int32)) = dm.1 3 81 from rfl, m_curd hw hH, br_s]
      obtain ⟨r, hr⟩ := zif_b (d := dc) (c := nI (cdep (dm.1 3)) = nI t)
      rw [hr, hr]
      exact jo_no h
    · rw [zif_n (nI_ne0 (by omega) (by omega)), zif_n (nI_ne0 (by omega) (by omega))]
      exact jo_no (r := false) h
  rw [zif_n (show ¬ nI k = (7 : Int32) from ne 7 k7 (by omega)), zif_n (show ¬ nI k = (7 : Int32) from ne 7 k7 (by omega))]
  exact jo_no (r := false) h
theorem j_loop {v nn : Nat} (hnn : nn ≤ 4) (hv : v < 1000 ^ nn) (hB : B + 4 < 2 ^ 31) : ∀ (k i : Nat) (dc dm : Dt) (n : Nat), i + k = nn → TR dc dm n m (B + i) → (∀ i, i < nn → dc.1 70 i = nI (v / 1000 ^ (nn - 1 - i) % 1000)) → ∃ dc' dm', ((∃ x, z_lp (bX5_judge_39 (nI nn)) (nI i, dc) = some (.inl (x, dc')) ∧ z_lp (bX6_judge_43 (nI nn) (lN v)) (nI i, dm) = some (.inl (x, dm'))) ∨ (z_lp (bX5_judge_39 (nI nn)) (nI i, dc) = some (.inr dc') ∧ z_lp (bX6_judge_43 (nI nn) (lN v)) (nI i, dm) = some (.inr dm'))) ∧ Fr Sc dc dc' ∧ Fr Sm dm dm' := by
  intro k
  have hv63 : v < 2 ^ 63 := by have := pw_4 (Or.inl rfl) hnn; omega
  induction k with
  | zero =>
    intro i dc dm n hi h hp
    have : i = nn := by omega
    subst this
    refine ⟨dc, dm, Or.inr ⟨?_, ?_⟩, fr_r, fr_r⟩
    · have hb : bX5_judge_39 (nI i) (nI i, dc) = some (.inr (.inr dc)) := by
        unfold bX5_judge_39
        show zif (nI i ≤ nI i) _ _ = _
        rw [zif_p ((nI_leI (by omega) (by omega)).mpr (Nat.le_refl _))]
      rw [z_lp_eq, hb]
    · have hb : bX6_judge_43 (nI i) (lN v) (nI i, dm) = some (.inr (.inr dm)) := by
        unfold bX6_judge_43
        show zif (nI i ≤ nI i) _ _ = _
        rw [zif_p ((nI_leI (by omega) (by omega)).mpr (Nat.le_refl _))]
      rw [z_lp_eq, hb]
  | succ k ih =>
    intro i dc dm n hi h hp
    generalize hc : v / 1000 ^ (nn - 1 - i) % 1000 = c
    have hc1 : c < 1000 := by omega
    have hpi : dc.1 70 i = nI c := by rw [hp i (by omega), hc]
    obtain ⟨p1, p2⟩ := pw_4 (k := nn - 1 - i) (Or.inl rfl) (by omega)
    obtain ⟨r, dc1, dm1, n1, q1, q2, q3, q4, q5⟩ := j_judged (B := B + i) (by omega) h (c / 100) (c / 10 % 10) (c % 10) (by omega) (by omega) (by omega)
    have e100 : nI c / (100 : Int32) = nI (c / 100) := pk_div (d := 100) (by omega) (by omega) (by omega)
    have e10 : nI c / (10 : Int32) = nI (c / 10) := pk_div (d := 10) (by omega) (by omega) (by omega)
    have er : ∀ y, y < 2000 → nI y - nI y / (10 : Int32) * (10 : Int32) = nI (y % 10) := fun y hy => pk_rem (d := 10) (by omega) (by omega) (by omega)
    have hcl : bX5_judge_39 (nI nn) (nI i, dc) = if r = true then some (.inl (nI (i + 1), dc1)) else some (.inr (.inl (nI i, dc1))) := by
      unfold bX5_judge_39
      show zif (nI nn ≤ nI i) _ (z_gd (z_in (nI i) 4) _) = _
      rw [zif_n (fun z => by have := (nI_leI (by omega) (by omega)).mp z; omega), in_t (show i < 4 by omega) (by omega), gd_t, gd_t, gd_t, ix_nI (by omega), hpi, e100, er c (by omega), e10, er (c / 10) (by omega), q1, bd_s]
      cases r
      · rw [zif_p (show b2i false = 0 from rfl)]; rfl
      · rw [zif_n (show ¬ b2i true = 0 by decide), z_nme, show nI i + (1 : Int32) = nI (i + 1) from nI_1 i]; rfl
    have hml : bX6_judge_43 (nI nn) (lN v) (nI i, dm) = if r = true then some (.inl (nI (i + 1), dm1)) else some (.inr (.inl (nI i, dm1))) := by
      unfold bX6_judge_43
      show zif (nI nn ≤ nI i) _ (z_br (fX6_thousands (nI nn - (1 : Int32) - nI i)) _) = _
      rw [zif_n (fun z => by have := (nI_leI (by omega) (by omega)).mp z; omega), i_sub1 (by omega), pk_sub (by omega), m_thou (by omega), br_s]
      have hne : ¬ lN (1000 ^ (nn - 1 - i)) = 0 := fun z => by
        have := (pk_lEQ (b := 0) (by omega) (by omega)).mp z; omega
      rw [z_dc_t hne, gd_t, z_nme, pk_lDiv hv63 p1 (by omega), show lN (v / 1000 ^ (nn - 1 - i)) - lN (v / 1000 ^ (nn - 1 - i)) / (1000 : Int64) * (1000 : Int64) = lN (v / 1000 ^ (nn - 1 - i) % 1000) from pk_lRem (b := 1000) (Nat.lt_of_le_of_lt (Nat.div_le_self _ _) hv63) (by omega) (by omega), lN_i, hc, e100, er c (by omega), e10, er (c / 10) (by omega), q2, bd_s]
      cases r
      · rw [zif_p (show b2i false = 0 from rfl)]; rfl
      · rw [zif_n (show ¬ b2i true = 0 by decide), z_nme, show nI i + (1 : Int32) = nI (i + 1) from nI_1 i]; rfl
    have fc1 : Fr Sc dc dc1 := fr_w q4 (fun k hk => hk.1)
    cases r
    · refine ⟨dc1, dm1, Or.inl ⟨nI i, ?_, ?_⟩, fc1, q5⟩
      · rw [z_lp_eq, hcl]; rfl
      · rw [z_lp_eq, hml]; rfl
    · have hp1 : ∀ i, i < nn → dc1.1 70 i = nI (v / 1000 ^ (nn - 1 - i) % 1000) := fun i hi => by
        rw [q4.1 70 (by omega)]; exact hp i hi
      obtain ⟨dc', dm', w1, w2, w3⟩ := ih (i + 1) dc1 dm1 n1 (by omega) q3 hp1
      refine ⟨dc', dm', ?_, fr_t fc1 w2, fr_t q5 w3⟩
      have l1 : z_lp (bX5_judge_39 (nI nn)) (nI i, dc) = z_lp (bX5_judge_39 (nI nn)) (nI (i + 1), dc1) := by rw [z_lp_eq, hcl]; rfl
      have l2 : z_lp (bX6_judge_43 (nI nn) (lN v)) (nI i, dm) = z_lp (bX6_judge_43 (nI nn) (lN v)) (nI (i + 1), dm1) := by rw [z_lp_eq, hml]; rfl
      rw [l1, l2]; exact w1
end JV
section JW
variable {dc dm : Dt} {B : Nat}
theorem p_judge (hB : B + 4 < 2 ^ 31) (h : Rel dc dm B) (x : Int32) (y : Int64) : Sim (fX5_judge dc x y) (fX6_judge dm x y) B := by
  unfold fX5_judge fX6_judge
  have no : x < 1 ∨ (4 : Int32) < x → Sim (zif (x < (1 : Int32)) (some ((-2 : Int32), dc)) (zif ((4 : Int32) < x) (some ((-2 : Int32), dc)) (z_bd (fX5_splits dc y (1000 : Int32) x) fun yr1 yd2 => zif (yr1 = 0) (some ((-2 : Int32), yd2)) (z_br (fX3_copyFrom yd2 29 1) fun yd3 => z_br (z_lp (bX5_judge_39 x) ((0 : Int32), yd3)) (fun t => match t with | .inl (yv9, yd10) => some (yv9, yd10) | .inr yd11 => some ((-9 : Int32), yd11)))))) (z_br (fX6_in (x.toInt64) (1 : Int64) (4 : Int64)) fun yr1 => zif (yr1 = 0) (some ((-2 : Int32), dm)) (z_br (fX6_thousands x) fun yr2 => z_br (fX6_in y (0 : Int64) (yr2 - (1 : Int64))) fun yr3 => zif (yr3 = 0) (some ((-2 : Int32), dm)) (z_br (fX6_copy dm 2 3) fun yd4 => z_br (z_lp (bX6_judge_43 x y) ((0 : Int32), yd4)) (fun t => match t with | .inl (yv12, yd13) => some (yv12, yd13) | .inr yd14 => some ((-9 : Int32), yd14))))) B := by
    intro hx
    rw [show fX6_in x.toInt64 1 4 = some 0 from in_0i (a := 1) (b := 4) hx, br_s, z00]
    refine ⟨-2, dc, dm, ?_, rfl, h⟩
    by_cases h1 : x < 1
    · rw [zif_p h1]
    · rw [zif_n h1, zif_p (hx.resolve_left h1)]
  rcases is_cases x (m := 5) (by omega) with ⟨nn, hn, rfl⟩ | hx
  · rcases Nat.eq_zero_or_pos nn with h0 | h0
    · subst h0; exact no (Or.inl (by decide))
    · clear no
      rw [zif_n (show ¬ nI nn < (1 : Int32) from fun z => by have := (nI_ltI (b := 1) (by omega) (by omega)).mp z; omega), zif_n (show ¬ (4 : Int32) < nI nn from fun z => by have := (nI_ltI (a := 4) (by omega) (by omega)).mp z; omega), show fX6_in (nI nn).toInt64 1 4 = some 1 from in_1i (a := 1) (b := 4) ((nI_leI (a := 1) (by omega) (by omega)).mpr (by omega)) ((nI_leI (b := 4) (by omega) (by omega)).mpr (by omega)), br_s, z10, m_thou (by omega), br_s]
      rcases in_row (bs := 1000) (n := nn) (Or.inl rfl) (by omega) y with ⟨v, hv, rfl, hi⟩ | ⟨hi, hy⟩
      · rw [hi, br_s, z10]
        have hv63 : v < 2 ^ 63 := by have := pw_4 (bs := 1000) (k := nn) (Or.inl rfl) (by omega); omega
        obtain ⟨dc2, e1, e2, e3⟩ := c_splits (d := dc) (bs := 1000) hv63 h0 (by omega) (by omega) (by omega)
        rw [show fX5_splits dc (lN v) 1000 (nI nn) = _ from e1, bd_s, show b2i (decide (v < 1000 ^ nn)) = 1 by simp [hv, b2i], z10]
        have f2 : Fr Sc dc dc2 := fr_w e3 (fun k hk => by subst hk; unfold Sc; omega)
        have hR2 := rel_fr h f2 (frm_of fr_r)
        obtain ⟨dc3, c1, c2, c3⟩ := sti_copy (b0 := 29) (by omega) hR2.1
        obtain ⟨dm4, m1, m2, m3⟩ := m_copy dm (show 2 ≠ 3 by omega)
        rw [c1, br_s, m1, br_s]
        have c2' : StI dc3 29 (dm4.1 3) B := sti_a2 m2 c2
        obtain ⟨n', m', s1, s2⟩ := c2'
        have hTR : TR dc3 dm4 n' m' (B + 0) := ⟨s1, s2, by rw [m3.1 0 (by omega)]; exact h.2.2.2.2.2.2, by rw [m3.1 2 (by omega), ← m2 83 (by omega)]; exact s2.1.2.2.1⟩
        obtain ⟨dc', dm', w1, w2, w3⟩ := j_loop (v := v) (nn := nn) (by omega) hv hB nn 0 dc3 dm4 n' (by omega) hTR (fun i hi => by rw [c3.1 70 (by omega)]; exact e2 i hi)
        have f3 : Fr Sc dc2 dc3 := fr_w c3 (fun k hk => by unfold Sc; unfold Kt at hk; omega)
        have hRel := rel_fr h (fr_t f2 (fr_t f3 w2)) (frm_of (fr_t (fr_w m3 (fun k hk => Or.inl hk)) w3))
        rcases w1 with ⟨x, l1, l2⟩ | ⟨l1, l2⟩
        · rw [show z_lp (bX5_judge_39 (nI nn)) (0, dc3) = _ from l1, show z_lp (bX6_judge_43 (nI nn) (lN v)) (0, dm4) = _ from l2, br_s, br_s]
          exact ⟨x, dc', dm', rfl, rfl, hRel⟩
        · rw [show z_lp (bX5_judge_39 (nI nn)) (0, dc3) = _ from l1, show z_lp (bX6_judge_43 (nI nn) (lN v)) (0, dm4) = _ from l2, br_s, br_s]
          exact ⟨-9, dc', dm', rfl, rfl, hRel⟩
      · rw [hi, br_s, z00]
        rcases hy with hy | ⟨v, hv, rfl, hv2⟩
        · rw [c_splitsN hy, bd_s, z00]
          exact ⟨_, _, _, rfl, rfl, h⟩
        · obtain ⟨dc2, e1, e2, e3⟩ := c_splits (d := dc) (bs := 1000) hv h0 (by omega) (by omega) (by omega)
          rw [show fX5_splits dc (lN v) 1000 (nI nn) = _ from e1, bd_s, show b2i (decide (v < 1000 ^ nn)) = 0 by simp [Nat.not_lt.mpr hv2, b2i], z00]
          exact ⟨_, _, _, rfl, rfl, rel_fr h (fr_w e3 (fun k hk => by subst hk; unfold Sc; omega)) (frm_of fr_r)⟩
  · refine no ?_
    by_cases h0 : x < 0
    · exact Or.inl (Int32.lt_trans h0 (by decide))
    · right
      obtain ⟨j, hj, rfl⟩ := nI_of h0
      have := (nI_leI (a := 5) (by omega) hj).mp (hx.resolve_left h0)
      exact (nI_ltI (a := 4) (by omega) hj).mpr (by omega)
end JW
