/-! THE PUBLIC METHODS: task -/
section TK
variable {base : Row} {g13 g14 g15 : Nat → Int32} {dc dm : Dt} {B : Nat}
theorem m_clear (d : Dt) (a : Nat) : ∃ d', fX6_clear d a = some d' ∧ d'.1 a = clrR (d.1 a) ∧ Fr (fun k => k = a) d d' := by
  have key : Ok (z_lp (bX6_clear_2 a) (0, d)) (fun t => (∀ j, t.1 a j = if j < 214 then (if j < 114 then 0 else -9) else d.1 a j) ∧ Fr (fun k => k = a) d t) := by
    refine ok_for 214 (fun i s => ∃ d2, s = (nI i, d2) ∧ (∀ j, d2.1 a j = if j < i then (if j < 114 then 0 else -9) else d.1 a j) ∧ Fr (fun k => k = a) d d2) ?_ ?_ 0 _ (by omega) ⟨d, rfl, fun j => by rw [if_neg (by omega)], fr_r⟩
    · rintro i s hi ⟨d2, rfl, h1, h2⟩
      unfold bX6_clear_2
      refine ok_f (by rw [le214 (by omega)]; omega) (ok_nm (ok_gi (vp_in_nI (by omega) (by omega)) (ok_nm (ok_nm (ok_c ?_)))))
      rw [nI_1, ix_nI (by omega)]
      refine ⟨_, rfl, fun j => ?_, fr_t h2 (fr_st rfl)⟩
      by_cases hj : j = i
      · subst hj
        rw [st_eq, if_pos (by omega)]
        by_cases h114 : j < 114
        · rw [if_pos h114]
          exact zif_n (fun z => by have := (nI_leI (a := 114) (by omega) (by omega)).mp z; omega)
        · rw [if_neg h114]
          exact zif_p ((nI_leI (a := 114) (by omega) (by omega)).mpr (by omega))
      · rw [st_j hj, h1 j]
        by_cases hj2 : j < i
        · rw [if_pos hj2, if_pos (show j < i + 1 by omega)]
        · rw [if_neg hj2, if_neg (show ¬ j < i + 1 by omega)]
    · rintro s ⟨d2, rfl, h1, h2⟩
      unfold bX6_clear_2
      exact ok_t (by rw [le214 (by omega)]; omega) (ok_z ⟨h1, h2⟩)
  obtain ⟨t, k1, k2, k3⟩ := key
  unfold fX6_clear
  rw [k1, br_s, z_nme]
  refine ⟨_, rfl, ?_, fr_t k3 (fr_st rfl)⟩
  show (z_st t a 81 (-9)).1 a = _
  rw [st_u]
  funext j
  unfold clrR
  by_cases hj : j = 81
  · subst hj
    rw [up_e, if_pos (by omega), if_pos rfl]
  · rw [up_n hj, k2 j, if_neg hj]
theorem pth_run {M : Nat} (hM : M ≤ 5) : ∀ {p : Nat} {ρ : Row}, PthP base g13 g14 p ρ → p ≤ M → ∀ d : Dt, d.1 2 = clrR base → d.1 13 = g13 → d.1 14 = g14 → d.1 0 13 = -9 → d.1 0 19 = nI M → ∃ d', z_lp bX6_task_21 (0, d) = z_lp bX6_task_21 (nI p, d') ∧ d'.1 2 = ρ ∧ Fr (Ka 2) d d'
  | 0, ρ, h, _, d, e1, _, _, _, _ => ⟨d, rfl, e1.trans (show ρ = clrR base from h).symm, fr_r⟩
  | p + 1, ρ, h, hp, d, e1, e2, e3, e4, e5 => by
    obtain ⟨ρ0, L, c, a1, a2, a3, a4, a5, a6⟩ := h
    obtain ⟨d', r1, r2, r3⟩ := pth_run hM a1 (by omega) d e1 e2 e3 e4 e5
    have hz : d'.1 0 = d.1 0 := r3.1 0 (by omega)
    have h13 : d'.1 13 = g13 := by rw [r3.1 13 (by omega)]; exact e2
    have h14 : d'.1 14 = g14 := by rw [r3.1 14 (by omega)]; exact e3
    obtain ⟨d'', s1, s2, s3⟩ := m_askOn (d := d') (a := 2) (n := 0) (m := p) (B := 0) (by omega) (by rw [hz]; exact e4) (by omega) a2 a3 (by rw [r2]; exact (pth_inv a1).1)
    have body : bX6_task_21 (nI p, d') = some (.inl (nI (p + 1), d'')) := by
      unfold bX6_task_21
      dsimp only
      rw [hz, e5, zif_n (by rw [nI_leI (by omega) (by omega)]; omega), z_nme, i4m, in_t (by omega) (by omega), gd_t, in_t (by omega) (by omega), gd_t, show nI (4 * p) + (1 : Int32) = nI (4 * p + 1) from nI_add _ 1, show nI (4 * p) + (2 : Int32) = nI (4 * p + 2) from nI_add _ 2, show nI (4 * p) + (3 : Int32) = nI (4 * p + 3) from nI_add _ 3, in_t (by omega) (by omega), gd_t, in_t (by omega) (by omega), gd_t, in_t (by omega) (by omega), gd_t, ix_nI (by omega), ix_nI (by omega), ix_nI (by omega), ix_nI (by omega), ix_nI (by omega), h13, h14, a4, show g14 (4 * p) = nI (c 0) from a5 0 (by omega), a5 1 (by omega), a5 2 (by omega), a5 3 (by omega), s1, br_s, z_nme, nI_1]
    have q := z_lp_eq bX6_task_21 (nI p, d')
    rw [body] at q
    refine ⟨d'', r1.trans q, ?_, fr_t r3 s3⟩
    rw [s2, r2, ask_note0 a2, a6]
theorem ev_run {m M : Nat} (hM : M ≤ 99) : ∀ {k n : Nat} {ρ : Row}, EvP base g13 g14 g15 m k n ρ → k ≤ M → ∀ (d : Dt) (ρ0 : Row), PthP base g13 g14 m ρ0 → (∀ ρ1, PthP base g13 g14 m ρ1 → ρ1 = ρ0) → d.1 2 = ρ0 → d.1 15 = g15 → d.1 0 13 = -9 → d.1 0 22 = nI M → ∃ d', z_lp bX6_task_85 (0, d) = z_lp bX6_task_85 (nI k, d') ∧ d'.1 2 = ρ ∧ Fr (Ka 2) d d'
  | 0, n, ρ, h, _, d, ρ0, _, hu, e1, _, _, _ => ⟨d, rfl, e1.trans (hu ρ h.2).symm, fr_r⟩
  | k + 1, n, ρ, h, hk, d, ρ0, hp, hu, e1, e3, e4, e5 => by
    obtain ⟨n0, ρx, a1, a2⟩ := h
    obtain ⟨d', r1, r2, r3⟩ := ev_run hM a1 (by omega) d ρ0 hp hu e1 e3 e4 e5
    have hI := evp_inv (by omega) a1
    have hw := hI.1.1
    have h20 := we_20 hw
    have hH := hI.1.2.2.2.2.2.1
    have hz : d'.1 0 = d.1 0 := r3.1 0 (by omega)
    have h15 : d'.1 15 = g15 := by rw [r3.1 15 (by omega)]; exact e3
    have hot : d'.1 0 13 = -9 := by rw [hz]; exact e4
    have one : ∃ r d'', fX6_eventOn d' 2 (g15 k) = some (r, d'') ∧ d''.1 2 = ρ ∧ Fr (Ka 2) d' d'' := by
      unfold fX6_eventOn jX6_eventOn_26 jX6_eventOn_27
      rcases a2 with ⟨v, hv, g, hMy, rfl, rfl⟩ | ⟨x, hx, hz2, g, rfl, rfl⟩ | ⟨x, f, hx, hf, hz2, g, rfl, rfl⟩
      · obtain ⟨i1, -⟩ := op_inv hI.1 hMy hv
        obtain ⟨hn, hmb⟩ := (may_iff hH h20).mp hMy
        rw [← r2] at i1 hw hH hmb
        obtain ⟨dm', s1, s2, s3⟩ := m_openOn (d := d') (v := nI v) (a := 2) (by omega) hot hw.1 hn (inv01 i1 (by omega))
        rw [g, zif_n (show ¬ (10 : Int32) ≤ nI v from fun z => by have := (le10 (by omega)).mp z; omega), m_mayOpen hw hH, br_s, show d'.1 2 (z_ix (80 : Int32)) = nI n0 from hw.1, z00, z10, hmb, zif_n (show ¬ b2i true = 0 by decide), zif_n (show ¬ (20 : Int32) ≤ nI n0 from fun z => by have := (le20 (by omega)).mp z; omega), s1, br_s]
        exact ⟨_, dm', rfl, by rw [s2, r2], s3⟩
      · obtain ⟨i1, -⟩ := cl_inv hI.1 hz2 (by omega)
        rw [← r2] at i1 hz2
        obtain ⟨dm', s1, s2, s3⟩ := m_closeOn (d := d') (a := 2) (by omega) hot hz2 (by omega) (inv01 i1 (by omega))
        rw [g, zif_p (show (10 : Int32) ≤ 10 by decide), zif_p (show (10 : Int32) = 10 from rfl), show d'.1 2 (z_ix (81 : Int32)) = nI x from hz2, zif_n (i_ne9 (by omega)), s1, bd_s]
        exact ⟨_, dm', rfl, by rw [s2, r2], s3⟩
      · obtain ⟨i1, -⟩ := te_inv hI.1 hz2 (by omega) hf
        rw [← r2] at i1 hz2
        obtain ⟨dm', s1, s2, s3⟩ := m_tellOn (d := d') (a := 2) (by omega) hot hz2 (by omega) (inv01 i1 (by omega))
        rw [g, zif_p (show (10 : Int32) ≤ nI (20 + f) from (le10 (by omega)).mpr (by omega)), zif_n (show ¬ nI (20 + f) = (10 : Int32) from fun z => by have := (nI_eq (b := 10) (by omega) (by omega)).mp z; omega), show nI (20 + f) - (20 : Int32) = nI (20 + f - 20) from pk_sub (b := 20) (by omega), show 20 + f - 20 = f by omega, show d'.1 2 (z_ix (81 : Int32)) = nI x from hz2, zif_n (i_ne9 (by omega)), s1, bd_s]
        exact ⟨_, dm', rfl, by rw [s2, r2], s3⟩
    obtain ⟨r, d'', s1, s2, s3⟩ := one
    have body : bX6_task_85 (nI k, d') = some (.inl (nI (k + 1), d'')) := by
      unfold bX6_task_85
      dsimp only
      rw [hz, e5, zif_n (by rw [nI_leI (by omega) (by omega)]; omega), in_t (by omega) (by omega), gd_t, ix_nI (by omega), h15, s1, bd_s, z_nme, nI_1]
    have q := z_lp_eq bX6_task_85 (nI k, d')
    rw [body] at q
    exact ⟨d'', r1.trans q, s2, fr_t r3 s3⟩
theorem ask_uq {ρ0 : Row} {p L L' : Nat} {c c' : Nat → Nat} (h : nI L = nI L') (hc : ∀ i, i < 4 → nI (c i) = nI (c' i)) : askN ρ0 p L c = askN ρ0 p L' c' := by
  unfold askN askR
  rw [h, hc 0 (by omega), hc 1 (by omega), hc 2 (by omega), hc 3 (by omega)]
theorem pth_u : ∀ {p : Nat} {ρ ρ' : Row}, PthP base g13 g14 p ρ → PthP base g13 g14 p ρ' → ρ' = ρ
  | 0, ρ, ρ', h, h' => (show ρ' = clrR base from h').trans (show ρ = clrR base from h).symm
  | p + 1, ρ, ρ', h, h' => by
    obtain ⟨ρ0, L, c, a1, a2, a3, a4, a5, a6⟩ := h
    obtain ⟨ρ1, L', c', b1, b2, b3, b4, b5, b6⟩ := h'
    rw [a6, b6, pth_u a1 b1]
    exact ask_uq (b4.symm.trans a4) (fun i hi => (b5 i hi).symm.trans (a5 i hi))
theorem evp_pth {m : Nat} : ∀ {k n : Nat} {ρ : Row}, EvP base g13 g14 g15 m k n ρ → ∃ ρ0, PthP base g13 g14 m ρ0
  | 0, n, ρ, h => ⟨ρ, h.2⟩
  | k + 1, n, ρ, h => by
    obtain ⟨n0, ρ0, a1, -⟩ := h
    exact evp_pth a1
theorem c_slots (d : Dt) : ∃ d', z_lp bX5_task_30 (0, d) = some d' ∧ d'.1 59 0 = 0 ∧ d'.1 59 1 = 0 ∧ Fr (fun k => k = 59) d d' := by
  have key : Ok (z_lp bX5_task_30 (0, d)) (fun t => (∀ s, s < 2 → t.1 59 s = 0) ∧ Fr (fun k => k = 59) d t) := by
    refine ok_for 2 (fun i s => ∃ d2, s = (nI i, d2) ∧ (∀ s, s < i → d2.1 59 s = 0) ∧ Fr (fun k => k = 59) d d2) ?_ ?_ 0 _ (by omega) ⟨d, rfl, fun j hj => by omega, fr_r⟩
    · rintro i s hi ⟨d2, rfl, h1, h2⟩
      unfold bX5_task_30
      refine ok_f (fun z => by have := (nI_leI (a := 2) (by omega) (by omega)).mp z; omega) (ok_gi (vp_in_nI (by omega) (by omega)) (ok_nm (ok_nm (ok_c ?_))))
      rw [nI_1, ix_nI (by omega)]
      refine ⟨_, rfl, fun j hj => ?_, fr_t h2 (fr_st rfl)⟩
      by_cases hj2 : j = i
      · rw [hj2, st_eq]
      · rw [st_j hj2]; exact h1 j (by omega)
    · rintro s ⟨d2, rfl, h1, h2⟩
      unfold bX5_task_30
      exact ok_t (by decide) (ok_z ⟨h1, h2⟩)
  obtain ⟨t, k1, k2, k3⟩ := key
  exact ⟨t, k1, k2 0 (by omega), k2 1 (by omega), k3⟩
theorem p_task (h : Rel dc dm B) : Sim (fX5_task dc) (fX6_task dm) (B + 99) := by
  obtain ⟨r, dc', dm', e1, e2, e3, e4, e5⟩ := rd_both h true
  unfold fX5_task fX6_task
  rw [show fX5_readTask dc (1 : Int32) = _ from e1, e2, bd_s, bd_s]
  have hR := rel_fr h e3 e4
  by_cases hr : r = -9
  · rw [zif_p hr, zif_p hr]
    obtain ⟨ρ, n, m, k, hk, hD⟩ := e5 hr
    obtain ⟨h1, h2, h3, h4, h5, h6, h7⟩ := hD
    obtain ⟨w1, w2⟩ := h7 rfl
    have hm5 := h2.2.2.2.1
    have hb : dm'.1 2 = dm.1 2 := e4.1 2 (by unfold Sm; omega) (by omega)
    -- the reference
    obtain ⟨dm3, m1, m2, m3⟩ := m_clear dm' 2
    rw [hb] at m2
    obtain ⟨ρ0, hp0⟩ := evp_pth w2
    have z3 : dm3.1 0 = dm'.1 0 := m3.1 0 (by omega)
    have ot : dm'.1 0 13 = -9 := hR.2.2.2.2.2.2
    obtain ⟨dm9, n1, n2, n3⟩ := pth_run (M := m) hm5 hp0 (Nat.le_refl _) dm3 m2 (m3.1 13 (by omega)) (m3.1 14 (by omega)) (by rw [z3]; exact ot) (by rw [z3]; exact h3)
    have z9 : dm9.1 0 = dm'.1 0 := by rw [n3.1 0 (by omega)]; exact z3
    have l9 : z_lp bX6_task_21 (nI m, dm9) = some dm9 := by
      have : bX6_task_21 (nI m, dm9) = some (.inr dm9) := by
        unfold bX6_task_21
        exact zif_p (by rw [z9, h3, nI_leI (by omega) (by omega)]; omega)
      rw [z_lp_eq, this]
    obtain ⟨dm15, o1, o2, o3⟩ := ev_run (M := k) hk w2 (Nat.le_refl _) dm9 ρ0 hp0 (fun ρ1 q => pth_u hp0 q) n2 (by rw [n3.1 15 (by omega), m3.1 15 (by omega)]) (by rw [z9]; exact ot) (by rw [z9]; exact h4)
    have z15 : dm15.1 0 = dm'.1 0 := by rw [o3.1 0 (by omega)]; exact z9
    have l15 : z_lp bX6_task_85 (nI k, dm15) = some dm15 := by
      have : bX6_task_85 (nI k, dm15) = some (.inr dm15) := by
        unfold bX6_task_85
        exact zif_p (by rw [z15, h4, nI_leI (by omega) (by omega)]; omega)
      rw [z_lp_eq, this]
    rw [m1, br_s, n1, l9, br_s]
    dsimp only
    rw [o1, l15, br_s]
    simp only [z_nme]
    have fm : Fr (Ka 2) dm' dm15 := fr_t (fr_w m3 (fun k hk => Or.inr hk)) (fr_t n3 o3)
    generalize hm18 : z_st (z_st (z_st dm15 0 5 (0 : Int32)) 6 (z_ix (0 : Int32)) (0 : Int32)) 6 (z_ix (1 : Int32)) (0 : Int32) = dm18
    have hm18 : z_st (z_st (z_st dm15 0 5 (0 : Int32)) 6 0 (0 : Int32)) 6 1 (0 : Int32) = dm18 := hm18
    -- the class
    have hS : StI dc' 29 ρ k := ⟨n, m, h1, h2, w1⟩
    obtain ⟨dc3, c1, c2, c3⟩ := sti_copy (b0 := 1) (b := 29) (Or.inl (by omega)) hS
    unfold fX5_forgetActions
    rw [c1, br_s, z_nme, br_s]
    obtain ⟨dc9, s1, s2, s3, s4⟩ := c_slots (z_st dc3 0 13 0)
    rw [s1, br_s]
    try dsimp only
    have cf : ∀ k, k ≠ 0 → k ≠ 59 → (29 ≤ k ∨ k < 1) → dc9.1 k = dc'.1 k := by
      intro k k1 k2 k3
      rw [s4.1 k k2, st_k k1, c3.1 k (by omega)]
    have c0 : ∀ j, j ≠ 13 → dc9.1 0 j = dc'.1 0 j := by
      intro j hj
      rw [s4.1 0 (by omega), st_j hj, c3.1 0 (by omega)]
    have c13 : dc9.1 0 13 = 0 := by rw [s4.1 0 (by omega), st_eq]
    have cl : dc9.2 = dc'.2 := by rw [s4.2, st_2, c3.2]
    have mf : ∀ k, k ≠ 0 → k ≠ 6 → k ≠ 2 → k ≠ 9 → k ≠ 10 → dm18.1 k = dm'.1 k := by
      intro k k1 k2 k3 k4 k5
      rw [← hm18, st_k k2, st_k k2, st_k k1, fm.1 k (by omega)]
    have m0 : ∀ j, j ≠ 5 → dm18.1 0 j = dm'.1 0 j := by
      intro j hj
      rw [← hm18, st_k (by omega), st_k (by omega), st_j hj, z15]
    have m5 : dm18.1 0 5 = 0 := by rw [← hm18, st_k (by omega), st_k (by omega), st_eq]
    have m2r : dm18.1 2 = ρ := by rw [← hm18, st_k (by omega), st_k (by omega), st_k (by omega)]; exact o2
    have ml : dm18.2 = dm'.2 := by rw [← hm18, st_2, st_2, st_2, fm.2]
    have hS9 : StI dc9 1 ρ k := sti_fr (K := fun k => k = 59 ∨ k = 0) c2 (fr_t (fr_st (Or.inr rfl)) (fr_w s4 (fun k hk => Or.inl hk))) (fun k hk => by omega)
    obtain ⟨q1, q2, q3, q4, q5, q6, q7⟩ := hR
    have a1 : dc9.1 1 2 = nI m := by
      rw [s4.1 1 (by omega), st_k (by omega)]
      obtain ⟨n', m', u1, u2⟩ := c2
      rw [u1.2.1]
      exact u2.1.2.2.1.symm.trans h2.2.2.1
    have a2 : dm18.1 2 (z_ix (83 : Int32)) = nI m := by rw [m2r]; exact h2.2.2.1
    rw [a1, a2]
    refine ⟨nI m, dc9, dm18, rfl, rfl, ?_, ?_, ?_, ?_, ?_, ?_, ?_⟩
    · rw [m2r]; exact sti_m (by omega) hS9
    · exact relT_k q2 (c0 12 (by omega)) (cf 67 (by omega) (by omega) (by omega)) (m0 1 (by omega)) (mf 1 (by omega) (by omega) (by omega) (by omega) (by omega))
    · obtain ⟨k', x, x1, x2, x3, x4, x5, x6, x7⟩ := q3
      exact ⟨0, x, by omega, x2, c13, m5, (c0 14 (by omega)).trans x5, (m0 6 (by omega)).trans x6, fun j hj => by omega⟩
    · intro s hs
      left
      have t0 : dm18.1 6 0 = 0 := by rw [← hm18, st_j (by omega), st_eq]
      have t1 : dm18.1 6 1 = 0 := by rw [← hm18, st_eq]
      rcases (by omega : s = 0 ∨ s = 1) with rfl | rfl
      · exact ⟨s2, t0⟩
      · exact ⟨s3, t1⟩
    · exact relO_k q5 (c0 15 (by omega)) (cf 68 (by omega) (by omega) (by omega)) (cf 69 (by omega) (by omega) (by omega)) (m0 11 (by omega)) (mf 7 (by omega) (by omega) (by omega) (by omega) (by omega)) (mf 8 (by omega) (by omega) (by omega) (by omega) (by omega))
    · rw [cl, ml]; exact q6
    · rw [m0 13 (by omega)]; exact q7
  · rw [zif_n hr, zif_n hr]
    exact ⟨_, _, _, rfl, rfl, rel_m (by omega) hR⟩
end TK
