/-! reading a text: fault -/
section RF
variable {em : Bool} {base : Row} {dc dm : Dt} {B : Nat}
theorem rd_loop {len : Nat} (hl : len ≤ 99) (em : Bool) (base : Row) : ∀ (j i : Nat) (dc dm : Dt), i + j = len → dc.1 0 12 = nI len → dm.1 0 1 = nI len → (∀ i, i < len → ∃ c, c < 256 ∧ dc.1 67 i = nI c ∧ dm.1 1 i = nI c) → RX em base dc dm i →
    (∃ q dc' dm', q < len ∧ z_lp (bX5_readTask_16 (b2i em)) (nI i, dc) = some (.inl (nI q, dc')) ∧ z_lp bX6_readText_47 (nI i, dm) = some (.inl (nI q, dm')) ∧ Fr Sc dc dc' ∧ FrM dm dm') ∨ (∃ dc' dm', z_lp (bX5_readTask_16 (b2i em)) (nI i, dc) = some (.inr dc') ∧ z_lp bX6_readText_47 (nI i, dm) = some (.inr dm') ∧ RX em base dc' dm' len ∧ Fr Sc dc dc' ∧ FrM dm dm') := by
  intro j
  induction j with
  | zero =>
    intro i dc dm hij h1 h2 h3 hR
    have : i = len := by omega
    subst this
    right
    have a1 : bX5_readTask_16 (b2i em) (nI i, dc) = some (.inr (.inr dc)) := by
      unfold bX5_readTask_16
      exact zif_p (by rw [h1, nI_leI (by omega) (by omega)]; omega)
    have a2 : bX6_readText_47 (nI i, dm) = some (.inr (.inr dm)) := by
      unfold bX6_readText_47
      exact zif_p (by rw [h2, nI_leI (by omega) (by omega)]; omega)
    refine ⟨dc, dm, ?_, ?_, hR, fr_r, frm_r⟩
    · rw [z_lp_eq, a1]
    · rw [z_lp_eq, a2]
  | succ j ih =>
    intro i dc dm hij h1 h2 h3 hR
    obtain ⟨x, hx, x1, x2⟩ := h3 i (by omega)
    obtain ⟨ρ, n, m, k, hk, hD, hP⟩ := hR
    obtain ⟨dc1, dm1, f1, f2, ho⟩ := rd_any (K := i) hx hk (by omega) hD hP
    have c1 : dc1.1 0 12 = nI len := by rw [f1.1 0 (by unfold Sc; omega)]; exact h1
    have c2 : dm1.1 0 1 = nI len := by rw [f2.2.1 1 (by omega)]; exact h2
    have c3 : ∀ i, i < len → ∃ c, c < 256 ∧ dc1.1 67 i = nI c ∧ dm1.1 1 i = nI c := by
      intro i hi
      rw [f1.1 67 (by unfold Sc; omega), f2.1 1 (by unfold Sm; omega) (by omega)]; exact h3 i hi
    have bc : bX5_readTask_16 (b2i em) (nI i, dc) = z_bd (fX4_takes dc (nI x) 29) fun yr6 yd7 => zif (yr6 = 0) (some (.inr (.inl (nI i, yd7)))) (zif (b2i em = 0) (jX5_readTask_87 (nI i) yd7) (zif ((yd7.1 30 8) = dc.1 30 8) (jX5_readTask_87 (nI i) yd7) (z_bd (fX3_emitAll yd7 29) fun yr10 yd11 => jX5_readTask_87 (nI i) yd11))) := by
      unfold bX5_readTask_16
      dsimp only
      rw [zif_n (by rw [h1, nI_leI (by omega) (by omega)]; omega), z_nme, in_t (by omega) (by omega), gd_t, ix_nI (by omega), x1]
    have bm : bX6_readText_47 (nI i, dm) = z_bd (fX6_take dm (nI x)) fun yr8 yd9 => zif (yr8 = 0) (some (.inr (.inl (nI i, yd9)))) (some (.inl (nI (i + 1), yd9))) := by
      unfold bX6_readText_47
      dsimp only
      rw [zif_n (by rw [h2, nI_leI (by omega) (by omega)]; omega), in_t (by omega) (by omega), gd_t, ix_nI (by omega), x2]
      simp only [z_nme, nI_1]
    have j87 : ∀ d : Dt, jX5_readTask_87 (nI i) d = some (.inl (nI (i + 1), d)) := by
      intro d
      unfold jX5_readTask_87
      rw [z_nme, nI_1]
    have go : ∀ dc2 : Dt, bX5_readTask_16 (b2i em) (nI i, dc) = some (.inl (nI (i + 1), dc2)) → bX6_readText_47 (nI i, dm) = some (.inl (nI (i + 1), dm1)) → Fr Sc dc1 dc2 → RX em base dc2 dm1 (i + 1) → (∃ q dc' dm', q < len ∧ z_lp (bX5_readTask_16 (b2i em)) (nI i, dc) = some (.inl (nI q, dc')) ∧ z_lp bX6_readText_47 (nI i, dm) = some (.inl (nI q, dm')) ∧ Fr Sc dc dc' ∧ FrM dm dm') ∨ (∃ dc' dm', z_lp (bX5_readTask_16 (b2i em)) (nI i, dc) = some (.inr dc') ∧ z_lp bX6_readText_47 (nI i, dm) = some (.inr dm') ∧ RX em base dc' dm' len ∧ Fr Sc dc dc' ∧ FrM dm dm') := by
      intro dc2 e1 e2 f3 hR2
      have r1 := z_lp_eq (bX5_readTask_16 (b2i em)) (nI i, dc)
      have r2 := z_lp_eq bX6_readText_47 (nI i, dm)
      rw [e1] at r1
      rw [e2] at r2
      have r1 : z_lp (bX5_readTask_16 (b2i em)) (nI i, dc) = z_lp (bX5_readTask_16 (b2i em)) (nI (i + 1), dc2) := r1
      have r2 : z_lp bX6_readText_47 (nI i, dm) = z_lp bX6_readText_47 (nI (i + 1), dm1) := r2
      rw [r1, r2]
      rcases ih (i + 1) dc2 dm1 (by omega) (by rw [f3.1 0 (by unfold Sc; omega)]; exact c1) c2 (fun i hi => by rw [f3.1 67 (by unfold Sc; omega)]; exact c3 i hi) hR2 with ⟨q, dc', dm', g1, g2, g3, g4, g5⟩ | ⟨dc', dm', g2, g3, g6, g4, g5⟩
      · exact Or.inl ⟨q, dc', dm', g1, g2, g3, fr_t f1 (fr_t f3 g4), frm_t f2 g5⟩
      · exact Or.inr ⟨dc', dm', g2, g3, g6, fr_t f1 (fr_t f3 g4), frm_t f2 g5⟩
    rcases ho with ⟨o1, o2⟩ | ⟨o1, o2, o3⟩
    · left
      rw [o1, bd_s, z00] at bc
      rw [o2, bd_s, z00] at bm
      refine ⟨i, dc1, dm1, by omega, ?_, ?_, f1, f2⟩
      · rw [z_lp_eq, bc]
      · rw [z_lp_eq, bm]
    · rw [o1, bd_s, z10, j87] at bc
      rw [o2, bd_s, z10] at bm
      cases em with
      | false =>
        rw [zif_p (show b2i false = 0 from rfl)] at bc
        rcases o3 with ⟨-, hR2⟩ | ⟨-, ⟨-, hR2⟩ | ⟨e, -⟩⟩
        · exact go dc1 bc bm fr_r hR2
        · exact go dc1 bc bm fr_r hR2
        · cases e
      | true =>
        rw [zif_n (show ¬ b2i true = 0 by decide)] at bc
        rcases o3 with ⟨hc, hR2⟩ | ⟨hc, ⟨e, -⟩ | ⟨-, r, dc2, g1, g2, hR2⟩⟩
        · rw [zif_p hc] at bc
          exact go dc1 bc bm fr_r hR2
        · cases e
        · rw [zif_n hc, g1, bd_s, j87] at bc
          exact go dc2 bc bm g2 hR2
/-- both sides read the text -/
theorem rd_both (h : Rel dc dm B) (em : Bool) : ∃ r dc' dm', fX5_readTask dc (b2i em) = some (r, dc') ∧ fX6_readText dm = some (r, dm') ∧ Fr Sc dc dc' ∧ FrM dm dm' ∧ (r = -9 → ∃ ρ n m k, k ≤ 99 ∧ RD em (dm.1 2) dc' dm' ρ n m k) := by
  obtain ⟨len, hl, t1, t2, t3⟩ := h.2.1
  obtain ⟨d1, e1, e2, e3⟩ := c_clear (d := dc) (b := 29) (ρ := clrR (dm.1 2)) rfl rfl rfl
  have f1 : Fr Sc dc d1 := fr_w e3 (fun _ => ks_sc)
  unfold fX5_readTask fX6_readText fX4_begin
  simp only [z_nme]
  rw [e1, br_s, br_s]
  generalize hd2 : z_st (z_st d1 65 2 (0 : Int32)) 65 1 (0 : Int32) = d2
  generalize hm5 : z_st (z_st (z_st (z_st (z_st dm 0 18 (0 : Int32)) 0 19 (0 : Int32)) 0 22 (0 : Int32)) 0 24 (0 : Int32)) 0 25 (0 : Int32) = dm5
  have f2 : Fr Sc dc d2 := by rw [← hd2]; exact fr_t f1 (fr_t (fr_st sc65) (fr_st sc65))
  have g2 : FrM dm dm5 := by rw [← hm5]; exact frm_t (frm_t (frm_t (frm_t (frm_0 (by omega)) (frm_0 (by omega))) (frm_0 (by omega))) (frm_0 (by omega))) (frm_0 (by omega))
  have a1 : d2.1 0 12 = nI len := by rw [f2.1 0 (by unfold Sc; omega)]; exact t1
  have a2 : dm5.1 0 1 = nI len := by rw [g2.2.1 1 (by omega)]; exact t2
  have a65 : d2.1 65 2 = 0 := by rw [← hd2, st_j (by omega), st_eq]
  have a3 : ∀ i, i < len → ∃ c, c < 256 ∧ d2.1 67 i = nI c ∧ dm5.1 1 i = nI c := by
    intro i hi
    rw [f2.1 67 (by unfold Sc; omega), g2.1 1 (by unfold Sm; omega) (by omega)]; exact t3 i hi
  rw [a2]
  by_cases hz : len = 0
  · subst hz
    have b1 : z_lp (bX5_readTask_16 (b2i em)) (0, d2) = some (.inr d2) := by
      rw [z_lp_eq]
      have : bX5_readTask_16 (b2i em) (0, d2) = some (.inr (.inr d2)) := by
        unfold bX5_readTask_16
        exact zif_p (by rw [a1]; decide)
      rw [this]
    rw [b1, br_s]
    dsimp only
    unfold fX4_mayEnd
    rw [a65, zif_n (show ¬ (0 : Int32) = 1 by decide), zif_n (show ¬ (0 : Int32) = 2 by decide), br_s, z00, a1, zif_p (show nI 0 = 0 from rfl)]
    exact ⟨_, _, _, rfl, rfl, f2, g2, fun e => absurd e (by decide)⟩
  · obtain ⟨x, hx, x1, x2⟩ := a3 0 (by omega)
    have bc : bX5_readTask_16 (b2i em) (0, d2) = z_bd (fX4_takes d2 (nI x) 29) fun yr6 yd7 => zif (yr6 = 0) (some (.inr (.inl (0, yd7)))) (zif (b2i em = 0) (jX5_readTask_87 0 yd7) (zif ((yd7.1 30 8) = d2.1 30 8) (jX5_readTask_87 0 yd7) (z_bd (fX3_emitAll yd7 29) fun yr10 yd11 => jX5_readTask_87 0 yd11))) := by
      unfold bX5_readTask_16
      dsimp only
      rw [zif_n (show ¬ d2.1 0 12 ≤ (0 : Int32) by rw [a1]; exact nI_nle (by omega) (by omega)), z_nme, show z_in (0 : Int32) 99 = true from in_t (i := 0) (by omega) (by omega), gd_t, show d2.1 67 (z_ix (0 : Int32)) = nI x from x1]
    rw [tk_0 a65] at bc
    rw [zif_n (nI_ne0 (by omega) (by omega)), show dm5.1 1 (z_ix (0 : Int32)) = nI x from x2]
    by_cases h68 : nI x = (68 : Int32)
    · rw [zif_p h68, go_1, bd_s, z10] at bc
      have j87 : ∀ d : Dt, jX5_readTask_87 0 d = some (.inl (1, d)) := by
        intro d
        unfold jX5_readTask_87
        rw [z_nme]; rfl
      rw [st_k (show (30 : Nat) ≠ 65 by omega), zif_p (show d2.1 30 8 = d2.1 30 8 from rfl), j87] at bc
      have bc : bX5_readTask_16 (b2i em) (0, d2) = some (.inl (1, z_st d2 65 2 1)) := by
        rw [bc]
        by_cases hq : b2i em = 0
        · exact zif_p hq
        · exact zif_n hq
      have r1 := z_lp_eq (bX5_readTask_16 (b2i em)) (0, d2)
      rw [bc] at r1
      have r1 : z_lp (bX5_readTask_16 (b2i em)) (0, d2) = z_lp (bX5_readTask_16 (b2i em)) (nI 1, z_st d2 65 2 1) := r1
      have hR : RX em (dm.1 2) (z_st d2 65 2 1) dm5 1 := by
        refine ⟨clrR (dm.1 2), 0, 0, 0, by omega, ⟨?_, inv_clr.1, ?_, ?_, ?_, ?_, fun _ => ⟨inv_clr.2, rfl, rfl⟩⟩, Or.inl ⟨?_, Or.inl ⟨rfl, st_eq _ _ _ _⟩⟩⟩
        · rw [← hd2]
          exact str_fr (K := Kr) (by omega) e2 (fr_t (fr_t (fr_st (Or.inl rfl)) (fr_st (Or.inl rfl))) (fr_st (Or.inl rfl))) (fun k hk => by omega)
        · rw [← hm5, st_j (by omega), st_j (by omega), st_j (by omega), st_eq]; rfl
        · rw [← hm5, st_j (by omega), st_j (by omega), st_eq]; rfl
        · rw [← hm5, st_j (by omega), st_eq, cdep_n rfl]; rfl
        · rw [← hm5, st_eq]; rfl
        · rw [← hm5, st_j (by omega), st_j (by omega), st_j (by omega), st_j (by omega), st_eq]
      rw [zif_p h68, r1]
      rcases rd_loop hl em (dm.1 2) (len - 1) 1 (z_st d2 65 2 1) dm5 (by omega) (by rw [st_k (by omega)]; exact a1) a2 (fun i hi => by rw [st_k (by omega)]; exact a3 i hi) hR with ⟨q, dc', dm', q1, q2, q3, q4, q5⟩ | ⟨dc', dm', q2, q3, q6, q4, q5⟩
      · rw [q2, br_s, show z_lp bX6_readText_47 ((1 : Int32), dm5) = _ from q3, br_s]
        exact ⟨_, _, _, rfl, rfl, fr_t f2 (fr_t (fr_st sc65) q4), frm_t g2 q5, fun e => absurd e (i_ne9 (by omega))⟩
      · rw [q2, br_s, show z_lp bX6_readText_47 ((1 : Int32), dm5) = _ from q3, br_s]
        dsimp only
        obtain ⟨ρ, n, m, k, hk, hD, hP⟩ := q6
        have l1 : dc'.1 0 12 = nI len := by rw [q4.1 0 (by unfold Sc; omega), st_k (by omega)]; exact a1
        have l2 : dm'.1 0 1 = nI len := by rw [q5.2.1 1 (by omega)]; exact a2
        have fin : (dm'.1 0 18 = 0 ∧ fX4_mayEnd dc' = some 1) ∨ (¬ dm'.1 0 18 = 0 ∧ fX4_mayEnd dc' = some 0) := by
          unfold fX4_mayEnd
          have big : ∀ w : Int32, dc'.1 65 2 = w → ¬ w = 1 → ¬ w = 2 → zif ((dc'.1 65 2) = (1 : Int32)) (some (1 : Int32)) (zif ((dc'.1 65 2) = (2 : Int32)) (some (1 : Int32)) (some (0 : Int32))) = some 0 := by
            intro w e1 e2 e3
            rw [e1, zif_n e2, zif_n e3]
          rcases hP with ⟨h18, ⟨-, h65⟩ | ⟨-, h65⟩⟩ | ⟨-, h18, h65, -⟩ | ⟨-, L, c, -, ⟨h18, h65, -⟩ | ⟨-, ⟨-, ⟨h18, h65⟩ | ⟨h18, h65⟩ | ⟨h18, h65⟩⟩ | ⟨h18, h65⟩ | ⟨h18, h65⟩⟩⟩ | ⟨h18, h65, -⟩
          · exact Or.inl ⟨h18, zif_p h65⟩
          · exact Or.inl ⟨h18, by rw [h65, zif_n (show ¬ (2 : Int32) = 1 by decide), zif_p (show (2 : Int32) = 2 from rfl)]⟩
          all_goals exact Or.inr ⟨by rw [h18]; decide, big _ h65 (by decide) (by decide)⟩
        rcases fin with ⟨p1, p2⟩ | ⟨p1, p2⟩
        · rw [p2, br_s, z10, zif_p p1]
          exact ⟨_, _, _, rfl, rfl, fr_t f2 (fr_t (fr_st sc65) q4), frm_t g2 q5, fun _ => ⟨ρ, n, m, k, by omega, hD⟩⟩
        · rw [p2, br_s, z00, zif_n p1, l1, l2]
          exact ⟨_, _, _, rfl, rfl, fr_t f2 (fr_t (fr_st sc65) q4), frm_t g2 q5, fun e => absurd e (i_ne9 (by omega))⟩
    · rw [zif_n h68, go_0, bd_s, z00] at bc
      have r1 : z_lp (bX5_readTask_16 (b2i em)) (0, d2) = some (.inl (0, d2)) := by rw [z_lp_eq, bc]
      rw [r1, br_s, zif_n h68]
      exact ⟨_, _, _, rfl, rfl, f2, g2, fun e => absurd e (by decide)⟩
theorem p_fault (h : Rel dc dm B) : Sim (fX5_fault dc) (fX6_fault dm) B := by
  obtain ⟨r, dc', dm', e1, e2, e3, e4, -⟩ := rd_both h false
  unfold fX5_fault fX6_fault
  rw [bd_id, bd_id]
  exact ⟨r, dc', dm', e1, e2, rel_fr h e3 e4⟩
end RF
