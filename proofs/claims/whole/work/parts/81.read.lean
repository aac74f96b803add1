/-! reading: events, and any letter -/
section RE
variable {em : Bool} {base : Row} {dc dm dc1 dm1 : Dt} {ρ : Row} {n m k K L : Nat} {c : Nat → Nat}
theorem ke_sc {k : Nat} (h : Ke 30 k) : Sc k := by unfold Sc; omega
theorem ks_sc {k : Nat} (h : Ks 29 k) : Sc k := by unfold Sc; omega
theorem ev_fin {ρ1 : Row} {n1 : Nat} {oc om : Option (Int32 × Dt)} (hK : k ≤ K) (hk : k < 99) (h : RD em base dc dm ρ n m k) (hE : ElR dc1 30 ρ1 n1) (hf : Fr (Ke 30) dc dc1) (h1 : Inv0 ρ1 n1 m (k + 1)) (hM : Mono ρ n ρ1 n1 m) (hn : n ≤ n1) (hh : ∀ j, 83 ≤ j → ρ1 j = ρ j) (h82 : ρ1 82 = ρ 82 + 1)
    (m18 : dm1.1 0 18 = 0) (m19 : dm1.1 0 19 = nI m) (m22 : dm1.1 0 22 = nI (k + 1)) (m24 : dm1.1 0 24 = nI (cdep ρ1)) (m25 : dm1.1 0 25 = nI n1) (g13 : dm1.1 13 = dm.1 13) (g14 : dm1.1 14 = dm.1 14) (g15 : ∀ i, i < k → dm1.1 15 i = dm.1 15 i) (hfm : FrM dm dm1)
    (hev : EvP base (dm1.1 13) (dm1.1 14) (dm1.1 15) m k n ρ → EvP base (dm1.1 13) (dm1.1 14) (dm1.1 15) m (k + 1) n1 (notesR ρ1 n1 m))
    (hoc : oc = some (1, z_st dc1 65 2 2)) (hom : om = some (1, dm1)) : RO em base dc dm K oc om := by
  obtain ⟨h2, h3, h4, h5, h6, h7, h8⟩ := h
  have hm5 := h1.2.2.2.1
  have h20 := we_20 h1.1
  have hE' : ElR (z_st dc1 65 2 2) 30 ρ1 n1 := elr_fr (K := Kr) hE (fr_st (Or.inl rfl)) (fun k hk => by omega)
  refine ⟨z_st dc1 65 2 2, dm1, fr_t (fr_w hf (fun _ => ke_sc)) (fr_st sc65), hfm, Or.inr ⟨hoc, hom, Or.inr ⟨?_, ?_⟩⟩⟩
  · obtain ⟨cl, hcl, hc2⟩ := h3.2.2.2.2.2.2
    rw [hE'.2.2.2.1, h82, h2.1.2.2.2.1, hc2, nI_1, nI_eq (by omega) (by omega)]; omega
  · cases em with
    | false =>
      left
      refine ⟨rfl, ρ1, n1, m, k + 1, by omega, ⟨⟨hE', ?_, fun p hp => ?_⟩, h1, m19, m22, m24, m25, fun e => by cases e⟩, Or.inl ⟨m18, Or.inr ⟨by omega, st_eq _ _ _ _⟩⟩⟩
      · rw [st_k (by omega), hf.1 29 (by omega)]; exact h2.2.1
      · exact par_fr (K := fun k => Kr k ∨ Ke 30 k) (par_ag (h2.2.2 p hp) (hi_agp hh)) (fr_t (fr_w hf (fun _ q => Or.inr q)) (fr_st (Or.inl (Or.inl rfl)))) (fun k hk => by omega)
    | true =>
      right
      obtain ⟨w1, w2⟩ := h8 rfl
      have hf' : Fr (Ke (29 + 1)) (z_st dc 65 2 2) (z_st dc1 65 2 2) := by
        refine ⟨fun k hk => ?_, hf.2⟩
        by_cases h65 : k = 65
        · rw [h65, st_u, st_u, hf.1 65 (by omega)]
        · rw [st_k h65, st_k h65, hf.1 k hk]
      obtain ⟨dc2, e1, e2, e3, e4⟩ := ev_c (dc := z_st dc 65 2 2) (dc1 := z_st dc1 65 2 2) (b := 29) st29 (by omega) hn (str_fr (K := Kr) (by omega) h2 (fr_st (Or.inl rfl)) (fun k hk => by omega)) ⟨h3, w1⟩ h1 hM hh hE' hf'
      obtain ⟨dc2', e1', -, e4'⟩ := c_emitAll (d := z_st dc1 65 2 2) (b := 29) (n := n1) (m := m) (ρ := ρ1) st29 (inv01 h1 (by omega)) ⟨hE', by rw [st_k (by omega), hf.1 29 (by omega)]; exact h2.2.1, fun p hp => par_fr (K := fun k => Kr k ∨ Ke 30 k) (par_ag (h2.2.2 p hp) (hi_agp hh)) (fr_t (fr_w hf (fun _ q => Or.inr q)) (fr_st (Or.inl (Or.inl rfl)))) (fun k hk => by omega)⟩ (ev_both (by omega) hn ⟨h3, w1⟩ h1 hM (fun j hj => hh j (by omega))).1
      have : dc2' = dc2 := by
        rw [e1] at e1'
        exact ((Prod.mk.inj (Option.some.inj e1')).2).symm
      subst this
      refine ⟨rfl, _, dc2', e1, fr_w e4' (fun _ => ks_sc), notesR ρ1 n1 m, n1, m, k + 1, by omega, ⟨e2, e3.1, m19, m22, ?_, m25, fun _ => ⟨e3.2, ?_⟩⟩, Or.inl ⟨m18, Or.inr ⟨by omega, ?_⟩⟩⟩
      · rw [m24, cdep_ag h1.2.2.2.2.2.1 h20 (notes_ag m)]
      · refine hev ?_
        rw [g13, g14]
        exact ev_pc (fun _ _ => rfl) (fun _ _ => rfl) g15 w2
      · rw [e4'.1 65 (by omega), st_eq]
theorem clk_82 {ρ1 ρ2 : Row} (h : ρ2 82 = ρ1 82) : clkR ρ2 82 = ρ1 82 + 1 := by
  unfold clkR; rw [up_e, h]
/-- the reference's memory behind an event -/
theorem m_ev20 {x v : Int32} (h22 : dm.1 0 22 = nI k) (hk : k < 99) (hv : zif (x = (41 : Int32)) (10 : Int32) (x - (28 : Int32)) = v) {D e : Nat} (h24 : dm.1 0 24 = nI D) (hD : D < 100) (hz : zif (x = (41 : Int32)) (1 : Int32) (0 : Int32) = nI e) : jX6_takeEvent_20 x dm = some (zif (nI D ≤ 0) 0 1, z_st (z_st (z_st dm 15 k v) 0 22 (nI (k + 1))) 0 24 (nI D - nI e)) := by
  unfold jX6_takeEvent_20
  rw [hv, z_nme, h22, in_t hk (by omega), gd_t, z_nme, z_nme, ix_nI (by omega), st_k (show (0 : Nat) ≠ 15 by omega), h22, nI_1, st_j (show (24 : Nat) ≠ 22 by omega), st_k (show (0 : Nat) ≠ 15 by omega), h24, z_nme, hz, z_nme, z_nme]
theorem frm_ev {v a b : Int32} : FrM dm (z_st (z_st (z_st dm 15 k v) 0 22 a) 0 24 b) := frm_t (frm_t (frm_st sm15) (frm_0 (by omega))) (frm_0 (by omega))
theorem i_pos {D : Nat} (h0 : 0 < D) (h : D < 2 ^ 31) : zif (nI D ≤ 0) (0 : Int32) 1 = 1 := zif_n (nI_nle h0 h)
theorem rd_ev {x : Nat} (hx : x < 256) (hK : k ≤ K) (hk : k < 99) (h18 : dm.1 0 18 = 0) (h : RD em base dc dm ρ n m k) : RO em base dc dm K (fX4_takesEvent dc (nI x) 30) (fX6_takeEvent dm (nI x)) := by
  have h' := h
  obtain ⟨h1, h2, h3, h4, h5, h6, h7⟩ := h'
  have hw := h2.1
  have h20 := we_20 hw
  have hH := h2.2.2.2.2.2.1
  obtain ⟨hd8, hd0⟩ := cdep_0 h2
  unfold fX4_takesEvent fX6_takeEvent
  simp only [bd_id]
  by_cases h40 : x = 40
  · subst h40
    rw [zif_p (show nI 40 = (40 : Int32) from rfl), show fX6_in ((nI 40).toInt64) (48 : Int64) (57 : Int64) = some 0 from in_0i (x := 40) (a := 48) (b := 57) (Or.inl (by decide)), br_s, z00, zif_n (show ¬ nI 40 = (41 : Int32) by decide), z_nme, zif_p (show nI 40 = (40 : Int32) from rfl)]
    have e24 : (z_st dm 0 18 (8 : Int32)).1 0 24 = nI (cdep ρ) := by rw [st_j (by omega)]; exact h5
    have e25 : (z_st dm 0 18 (8 : Int32)).1 0 25 = nI n := by rw [st_j (by omega)]; exact h6
    rw [e24, e25, c_refuse h1.1 hw hH, br_s, z_nme]
    have hmr := may_rd h2
    by_cases hM : May ρ n
    · obtain ⟨a1, a2⟩ := (may_iff hH h20).mp hM
      obtain ⟨-, a3, a4⟩ := hmr.mp hM
      rw [if_pos a2, if_pos a1, zif_p (show (-9 : Int32) = -9 from rfl), go_1, zif_n (show ¬ (20 : Int32) ≤ nI n from fun z => by have := (le20 (by omega)).mp z; omega), zif_n (show ¬ (8 : Int32) ≤ nI (cdep ρ) from fun z => by have := (nI_leI (a := 8) (by omega) (by omega)).mp z; omega)]
      have fin : zif (nI n = 0) (some ((1 : Int32), z_st dm 0 18 (8 : Int32))) (zif (nI (cdep ρ) ≤ 0) (some ((0 : Int32), z_st dm 0 18 (8 : Int32))) (some ((1 : Int32), z_st dm 0 18 (8 : Int32)))) = some (1, z_st dm 0 18 8) := by
        by_cases hn0 : n = 0
        · rw [hn0]; exact zif_p rfl
        · rw [zif_n (nI_ne0 (by omega) (by omega)), zif_n (nI_nle (by omega) (by omega))]
      rw [fin]
      refine ro_1 (fr_st (Or.inl rfl)) (frm_0 (by omega)) rfl rfl ⟨ρ, n, m, k, by omega, ?_, Or.inr (Or.inr (Or.inr ⟨st_eq _ _ _ _, st_eq _ _ _ _, hM⟩))⟩
      exact rd_keep h (fr_st (Or.inl rfl)) (st_j (by omega)) (st_j (by omega)) (st_j (by omega)) (st_j (by omega)) (fun i hi => by rw [st_k (by omega)]) (fun i hi => by rw [st_k (by omega)]) (st_k (by omega))
    · have hno : ¬ (n < 20 ∧ cdep ρ < 8 ∧ (n = 0 ∨ 0 < cdep ρ)) := fun z => hM (hmr.mpr z)
      have hno2 : ¬ (n < 20 ∧ mayB ρ n = true) := fun z => hM ((may_iff hH h20).mpr z)
      have ea : (if mayB ρ n = true then if n < 20 then (-9 : Int32) else -4 else -3) ≠ -9 := by
        by_cases hb : mayB ρ n = true
        · rw [if_pos hb, if_neg (fun z => hno2 ⟨z, hb⟩)]; decide
        · rw [if_neg hb]; decide
      rw [zif_n ea, go_0]
      refine ro_0 fr_r (frm_0 (j := 18) (v := 8) (by omega)) rfl ?_
      by_cases hn20 : n < 20
      · rw [zif_n (show ¬ (20 : Int32) ≤ nI n from fun z => by have := (le20 (by omega)).mp z; omega)]
        by_cases hd : cdep ρ < 8
        · rw [zif_n (show ¬ (8 : Int32) ≤ nI (cdep ρ) from fun z => by have := (nI_leI (a := 8) (by omega) (by omega)).mp z; omega), zif_n (nI_ne0 (by omega) (by omega)), zif_p (show nI (cdep ρ) ≤ 0 by rw [show cdep ρ = 0 by omega]; decide)]
        · rw [zif_p (show (8 : Int32) ≤ nI (cdep ρ) from (nI_leI (a := 8) (by omega) (by omega)).mpr (by omega))]
      · rw [zif_p (show (20 : Int32) ≤ nI n from (le20 (by omega)).mpr (by omega))]
  · have n40 : ¬ nI x = (40 : Int32) := fun z => h40 ((nI_eq (b := 40) (by omega) (by omega)).mp z)
    rw [zif_n n40]
    by_cases h41 : x = 41
    · subst h41
      rw [zif_p (show nI 41 = (41 : Int32) from rfl), zif_p (show nI 41 = (41 : Int32) from rfl), show fX6_in ((nI 41).toInt64) (48 : Int64) (57 : Int64) = some 0 from in_0i (x := 41) (a := 48) (b := 57) (Or.inl (by decide)), br_s, z00, m_ev20 (x := nI 41) (v := 10) (e := 1) h4 hk (zif_p rfl) h5 (by omega) (zif_p rfl)]
      rcases ho_cases hH with hz | ⟨y, hy, hz⟩
      · rw [c_leave0 h1.1 hz, bd_s, go_0, hd0.mpr hz, zif_p (show nI 0 ≤ 0 by decide)]
        exact ro_0 fr_r frm_ev rfl rfl
      · have hpos : 0 < cdep ρ := by
          have : ¬ cdep ρ = 0 := fun z => i_ne9 (by omega) (hz.symm.trans (hd0.mp z))
          omega
        obtain ⟨i1, i2⟩ := cl_inv h2 hz (by omega)
        obtain ⟨d1, e1, e2, e3⟩ := c_leave h1.1 h2 hz (by omega)
        rw [e1, bd_s, go_1, i_pos hpos (by omega), show nI (cdep ρ) - nI 1 = nI (cdep ρ - 1) from pk_sub (by omega)]
        refine ev_fin hK hk h e2 e3 i1 i2 (Nat.le_refl _) (fun j hj => close_hi (by omega) hj) (clk_82 (by unfold closeR; rw [up_n (by omega), up_n (by omega)])) ?_ ?_ ?_ ?_ ?_ ?_ ?_ (fun i hi => ?_) frm_ev ?_ rfl rfl
        · rw [st_j (by omega), st_j (by omega), st_k (by omega)]; exact h18
        · rw [st_j (by omega), st_j (by omega), st_k (by omega)]; exact h3
        · rw [st_j (by omega), st_eq]
        · rw [st_eq, cdep_cl h2 hz hy]
        · rw [st_j (by omega), st_j (by omega), st_k (by omega)]; exact h6
        · rw [st_k (by omega), st_k (by omega), st_k (by omega)]
        · rw [st_k (by omega), st_k (by omega), st_k (by omega)]
        · rw [st_k (by omega), st_k (by omega), st_j (by omega)]
        · intro hp
          exact ⟨n, ρ, hp, Or.inr (Or.inl ⟨y, hy, hz, by rw [st_k (by omega), st_k (by omega), st_eq], rfl, rfl⟩)⟩
    · have n41 : ¬ nI x = (41 : Int32) := fun z => h41 ((nI_eq (b := 41) (by omega) (by omega)).mp z)
      rw [zif_n n41, zif_n n41]
      rcases fg_cases hx with ⟨f, hf, e1, e2, e3⟩ | ⟨e2, e3, -⟩
      · rw [e2, br_s, e3, br_s, z10, m_ev20 (x := nI x) (v := nI (20 + f)) (e := 0) h4 hk (by rw [zif_n n41, show nI x - (28 : Int32) = nI (x - 28) from pk_sub (b := 28) (by omega), show x - 28 = 20 + f by omega]) h5 (by omega) (zif_n n41)]
        rcases ho_cases hH with hz | ⟨y, hy, hz⟩
        · rw [c_hold0 h1.1 (Or.inr (Or.inr hz)), bd_s, go_0, hd0.mpr hz, zif_p (show nI 0 ≤ 0 by decide)]
          exact ro_0 fr_r frm_ev rfl rfl
        · have hpos : 0 < cdep ρ := by
            have : ¬ cdep ρ = 0 := fun z => i_ne9 (by omega) (hz.symm.trans (hd0.mp z))
            omega
          obtain ⟨i1, i2⟩ := te_inv h2 hz (by omega) hf
          obtain ⟨d1, g1, g2, g3⟩ := c_hold h1.1 h2 hz (by omega) hf
          rw [g1, bd_s, go_1, i_pos hpos (by omega), show nI (cdep ρ) - nI 0 = nI (cdep ρ - 0) from pk_sub (by omega)]
          refine ev_fin hK hk h g2 g3 i1 i2 (Nat.le_refl _) (fun j hj => tell_hi (by omega) hj) (clk_82 (by unfold tellR; rw [up_n (by omega)])) ?_ ?_ ?_ ?_ ?_ ?_ ?_ (fun i hi => ?_) frm_ev ?_ rfl rfl
          · rw [st_j (by omega), st_j (by omega), st_k (by omega)]; exact h18
          · rw [st_j (by omega), st_j (by omega), st_k (by omega)]; exact h3
          · rw [st_j (by omega), st_eq]
          · rw [st_eq, cdep_te h2 hz hy]; rfl
          · rw [st_j (by omega), st_j (by omega), st_k (by omega)]; exact h6
          · rw [st_k (by omega), st_k (by omega), st_k (by omega)]
          · rw [st_k (by omega), st_k (by omega), st_k (by omega)]
          · rw [st_k (by omega), st_k (by omega), st_j (by omega)]
          · intro hp
            exact ⟨n, ρ, hp, Or.inr (Or.inr ⟨y, f, hy, hf, hz, by rw [st_k (by omega), st_k (by omega), st_eq], rfl, rfl⟩)⟩
      · rw [e2, br_s, e3, br_s, z00, z_nme, zif_n n40, c_hold0 h1.1 (Or.inl (by decide)), bd_s, go_0]
        exact ro_0 fr_r (frm_0 (by omega)) rfl rfl
/-- the name of an element -/
theorem rd_name {x : Nat} (hx : x < 256) (hK : k ≤ K) (hk : k < 99) (h : RD em base dc dm ρ n m k) (h18 : dm.1 0 18 = 8) (h65 : dc.1 65 2 = 10) (hM : May ρ n) : RO em base dc dm K (fX4_takes dc (nI x) 29) (fX6_take dm (nI x)) := by
  have h' := h
  obtain ⟨h1, h2, h3, h4, h5, h6, h7⟩ := h'
  have hw := h2.1
  have h20 := we_20 hw
  have hH := h2.2.2.2.2.2.1
  obtain ⟨hd8, hd0⟩ := cdep_0 h2
  rw [tk_10 h65]
  unfold fX6_take
  rw [z_nme, z_nme, h18, zif_n (show ¬ (8 : Int32) = 0 by decide), zif_n (show ¬ (8 : Int32) = 1 by decide), zif_n (show ¬ (8 : Int32) = 2 by decide), zif_n (show ¬ (8 : Int32) = 3 by decide), zif_n (show ¬ (8 : Int32) = 4 by decide), zif_n (show ¬ (8 : Int32) = 5 by decide), zif_n (show ¬ (8 : Int32) = 6 by decide), zif_n (show ¬ (8 : Int32) = 7 by decide), h4, in_t hk (by omega), gd_t, z_nme, z_nme, z_nme, z_nme, z_nme, ix_nI (by omega)]
  have e22 : (z_st dm 15 k (nI x - (97 : Int32))).1 0 22 + 1 = nI (k + 1) := by rw [st_k (by omega), h4, nI_1]
  rw [e22]
  have e25 : (z_st (z_st dm 15 k (nI x - (97 : Int32))) 0 22 (nI (k + 1))).1 0 25 + 1 = nI (n + 1) := by rw [st_j (by omega), st_k (by omega), h6, nI_1]
  rw [e25]
  have e24 : (z_st (z_st (z_st dm 15 k (nI x - (97 : Int32))) 0 22 (nI (k + 1))) 0 25 (nI (n + 1))).1 0 24 + 1 = nI (cdep ρ + 1) := by rw [st_j (by omega), st_j (by omega), st_k (by omega), h5, nI_1]
  rw [e24]
  have hfm : ∀ v : Int32, FrM dm (z_st (z_st (z_st (z_st (z_st dm 15 k v) 0 22 (nI (k + 1))) 0 25 (nI (n + 1))) 0 24 (nI (cdep ρ + 1))) 0 18 0) := fun v => frm_t (frm_t (frm_t (frm_t (frm_st sm15) (frm_0 (by omega))) (frm_0 (by omega))) (frm_0 (by omega))) (frm_0 (by omega))
  rcases nm_cases hx with ⟨v, hv, e1, e2, e3⟩ | ⟨e2, e3⟩
  · obtain ⟨i1, i2⟩ := op_inv h2 hM hv
    obtain ⟨d1, g1, g2, g3⟩ := c_enter h1.1 h2 hM hv
    rw [e2, e3, br_s, br_s, g1, bd_s, go_1, e1]
    refine ev_fin hK hk h g2 g3 i1 i2 (by omega) (fun j hj => open_hi hM.1 hj) (clk_82 (op_lo (by have := hM.1; omega) (by have := hM.1; omega) (by have := hM.1; omega) (by have := hM.1; omega) (by omega) (by omega))) (st_eq _ _ _ _) ?_ ?_ ?_ ?_ ?_ ?_ (fun i hi => ?_) (hfm _) ?_ rfl rfl
    · rw [st_j (by omega), st_j (by omega), st_j (by omega), st_j (by omega), st_k (by omega)]; exact h3
    · rw [st_j (by omega), st_j (by omega), st_j (by omega), st_eq]
    · rw [st_j (by omega), st_eq, cdep_op h2 hM]
    · rw [st_j (by omega), st_j (by omega), st_eq]
    · rw [st_k (by omega), st_k (by omega), st_k (by omega), st_k (by omega), st_k (by omega)]
    · rw [st_k (by omega), st_k (by omega), st_k (by omega), st_k (by omega), st_k (by omega)]
    · rw [st_k (by omega), st_k (by omega), st_k (by omega), st_k (by omega), st_j (by omega)]
    · intro hp
      exact ⟨n, ρ, hp, Or.inl ⟨v, hv, by rw [st_k (by omega), st_k (by omega), st_k (by omega), st_k (by omega), st_eq], hM, rfl, rfl⟩⟩
  · rw [e2, e3, br_s, br_s, c_enter0 h1.1 hw hH (Or.inl (by decide)), bd_s, go_0]
    exact ro_0 fr_r (hfm _) rfl rfl
/-- any letter -/
theorem rd_any {x : Nat} (hx : x < 256) (hK : k ≤ K) (hk : k < 99) (h : RD em base dc dm ρ n m k) (hp : Ph dc dm ρ n m k) : RO em base dc dm K (fX4_takes dc (nI x) 29) (fX6_take dm (nI x)) := by
  rcases hp with ⟨h18, hph⟩ | ⟨hk0, h18, h65, hP⟩ | ⟨hk0, L, c, hP, hph⟩ | ⟨h18, h65, hM⟩
  · rw [mk_0 h18]
    unfold fX6_takeTop
    rw [bd_id]
    have hev := rd_ev (K := K) hx hK hk h18 h
    have hm5 := h.2.1.2.2.2.1
    have e19 : (z_st dm 0 18 (1 : Int32)).1 0 19 = nI m := by rw [st_j (by omega)]; exact h.2.2.1
    by_cases hq : nI x = (113 : Int32)
    · have hxq : x = 113 := (nI_eq (b := 113) (by omega) (by omega)).mp hq
      rw [zif_p hq, z_nme, e19, z_nme]
      rcases hph with ⟨hk0, h65⟩ | ⟨hk0, h65⟩
      · rw [tk_1 h65, zif_p hq]
        unfold fX4_beginsPath
        rw [z_nme, z_nme, st_k (show (29 : Nat) ≠ 65 by omega), h.1.2.1, bd_id]
        by_cases hm : m < 5
        · have n5 : ¬ (5 : Int32) ≤ nI m := fun z => by have := (le5 (by omega)).mp z; omega
          rw [zif_n n5, zif_n n5, in_t hm (by omega), gd_t, z_nme, ix_nI (by omega), st_k (show (0 : Nat) ≠ 13 by omega), e19, zif_n n5, st_j (show (22 : Nat) ≠ 18 by omega), h.2.2.2.1, hk0, zif_p (show nI 0 = 0 from rfl), go_1]
          subst hk0
          have hf : Fr Kr dc (z_st (z_st dc 65 1 0) 65 2 3) := fr_t (fr_st (Or.inl rfl)) (fr_st (Or.inl rfl))
          refine ro_1 hf (frm_t (frm_0 (by omega)) (frm_st sm13)) rfl rfl ⟨ρ, n, m, 0, by omega, ?_, Or.inr (Or.inl ⟨rfl, ?_, st_eq _ _ _ _, hm, by omega, ?_, st_eq _ _ _ _, fun i hi => by omega, fun i hi => by omega⟩)⟩
          · refine rd_keep h hf ?_ ?_ ?_ ?_ (fun i hi => ?_) (fun i hi => ?_) ?_
            · rw [st_k (by omega), st_j (by omega)]
            · rw [st_k (by omega), st_j (by omega)]
            · rw [st_k (by omega), st_j (by omega)]
            · rw [st_k (by omega), st_j (by omega)]
            · rw [st_j (by omega), st_k (by omega)]
            · rw [st_k (by omega), st_k (by omega)]
            · rw [st_k (by omega), st_k (by omega)]
          · rw [st_k (by omega), st_eq]
          · rw [st_j (by omega), st_eq]; rfl
        · have y5 : (5 : Int32) ≤ nI m := (le5 (by omega)).mpr (by omega)
          rw [zif_p y5, zif_p y5, show z_in (0 : Int32) 5 = true from in_t (i := 0) (by omega) (by omega), gd_t, z_nme, st_k (show (0 : Nat) ≠ 13 by omega), e19, zif_p y5, go_0]
          exact ro_0 (fr_st sc65) (frm_t (frm_0 (by omega)) (frm_st sm13)) rfl rfl
      · have hc : fX4_takes dc (nI x) 29 = some (0, dc) := by
          rw [tk_2 h65]
          unfold fX4_takesEvent
          simp only [bd_id]
          rw [hxq, zif_n (show ¬ nI 113 = (40 : Int32) by decide), zif_n (show ¬ nI 113 = (41 : Int32) by decide)]
          rcases fg_cases (c := 113) (by omega) with ⟨f, hf, e1, -⟩ | ⟨e2, -⟩
          · omega
          · rw [e2, br_s, c_hold0 h.1.1 (Or.inl (by decide)), bd_s, go_0]
        have key : ∀ v : Nat, v < 5 → zif ((5 : Int32) ≤ nI m) (0 : Int32) (nI m) = nI v → RO em base dc dm K (fX4_takes dc (nI x) 29) (z_gd (z_in (zif ((5 : Int32) ≤ nI m) (0 : Int32) (nI m)) 5) (z_nm (z_st (z_st dm 0 18 (1 : Int32)) 13 (z_ix (zif ((5 : Int32) ≤ nI m) (0 : Int32) (nI m))) (0 : Int32)) fun yd5 => zif ((5 : Int32) ≤ (yd5.1 0 19)) (some ((0 : Int32), yd5)) (zif ((yd5.1 0 22) = 0) (some ((1 : Int32), yd5)) (some ((0 : Int32), yd5))))) := by
          intro v hv e
          rw [e, in_t hv (by omega), gd_t, z_nme, ix_nI (by omega), st_k (show (0 : Nat) ≠ 13 by omega), e19, st_j (show (22 : Nat) ≠ 18 by omega), h.2.2.2.1, zif_n (nI_ne0 hk0 (by omega))]
          refine ro_0 fr_r (frm_t (frm_0 (j := 18) (v := 1) (by omega)) (frm_st (j := v) (v := 0) sm13)) hc ?_
          by_cases y5 : (5 : Int32) ≤ nI m
          · rw [zif_p y5]
          · rw [zif_n y5]
        by_cases y5 : (5 : Int32) ≤ nI m
        · exact key 0 (by omega) (zif_p y5)
        · exact key m (by have : ¬ 5 ≤ m := fun z => y5 ((le5 (by omega)).mpr z)
                          omega) (zif_n y5)
    · rw [zif_n hq]
      rcases hph with ⟨hk0, h65⟩ | ⟨hk0, h65⟩
      · rw [tk_1 h65, zif_n hq]; exact hev
      · rw [tk_2 h65]; exact hev
  · subst hk0
    rw [mk_1 h18, tk_3 h65]
    exact ax_ro _ h hP (fun i hi => by omega)
  · subst hk0
    rcases hph with ⟨h18, h65, hc⟩ | ⟨hg, ⟨hc0, ⟨h18, h65⟩ | ⟨h18, h65⟩ | ⟨h18, h65⟩⟩ | ⟨h18, h65⟩ | ⟨h18, h65⟩⟩
    · exact rd_test hx h hP h18 h65 hc
    · rw [tk_5 h65, mk_3 h18]
      by_cases h91 : nI x = (91 : Int32)
      · have hxq : x = 91 := (nI_eq (b := 91) (by omega) (by omega)).mp h91
        unfold fX6_takeBehind
        rw [zif_p h91, zif_n (show ¬ nI x = (46 : Int32) by rw [hxq]; decide), zif_p h91, zif_p h18, z_nme, go_1]
        exact ro_1 (fr_st (Or.inl rfl)) (frm_0 (by omega)) rfl rfl (ph_rx (q := 4) (w := 6) h hP hg (Or.inl ⟨hc0, Or.inr (Or.inl ⟨rfl, rfl⟩)⟩))
      · rw [zif_n h91]
        exact rd_next h hP hg (fun z => h91 z.1)
    · exact rd_cond hx h hP h18 h65 hg hc0
    · exact rd_fig hx h hP h18 h65 hg hc0
    · exact rd_brk h hP h18 h65 hg
    · rw [tk_9 h65, mk_7 h18]
      exact rd_next h hP hg (fun z => by rw [h18] at z; exact absurd z.2 (by decide))
  · exact rd_name hx hK hk h h18 h65 hM
end RE
