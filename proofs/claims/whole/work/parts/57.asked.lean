/-! closing all -/
theorem close_aB {ρ : Row} {n m B x p e : Nat} (hI : Inv0 ρ n m B) (hx : x < 20) (hp : p < m) (he : e < n) : aB (clkR (closeR ρ x)) n p e = aB ρ n p e := by
  have h20 := we_20 hI.1
  generalize hr : clkR (closeR ρ x) = ρ1
  have lo : ∀ j, j ≠ 40 + x → j ≠ 81 → j ≠ 82 → ρ1 j = ρ j := fun j a1 a2 a3 => by
    rw [← hr, clk_n a3]; unfold closeR; rw [up_n a2, up_n a1]
  obtain ⟨-, h2, h3, -⟩ := hI.2.2.2.2.1 p hp
  have hm := hI.2.2.2.1
  have hL : rL ρ1 p = rL ρ p := by unfold rL; rw [lo _ (by omega) (by omega) (by omega)]
  have hc : ∀ i, i < rL ρ p → rcd ρ1 p i = rcd ρ p i := fun i hi => by unfold rcd; rw [lo _ (by omega) (by omega) (by omega)]
  unfold aB
  rw [hL, ans_L h2 hc (ts := rts ρ p) (fun i hi => by unfold rts; rw [hc i hi]) e]
  unfold ansB sS
  refine congrFun (congrArg Prod.fst (mS_cong (N := n) (fun e he => by unfold rpar; rw [lo _ (by omega) (by omega) (by omega)]) (fun e he i => ?_) e he)) _
  unfold fitB met
  rw [lo e (by omega) (by omega) (by omega), lo (60 + e) (by omega) (by omega) (by omega)]
  have hch : ∀ c, rch ρ1 n e c = rch ρ n e c := fun c => zany_cong (fun i hi => by rw [lo (20 + i) (by omega) (by omega) (by omega), lo i (by omega) (by omega) (by omega)])
  rw [hch]; simp
theorem shut_oB {ρ : Row} {n m B p e : Nat} (hI : Inv0 ρ n m B) (h81 : ρ 81 = -9) (he : e < n) : oB ρ n p e = aB ρ n p e := by
  have h20 := we_20 hI.1
  have hop : ∀ e, e < n → rop ρ e = false := by
    rcases hI.2.2.2.2.2.1 with ⟨-, g⟩ | ⟨x, hx, g, -⟩
    · exact g
    · rw [h81] at g; exact absurd g.symm (i_ne9 (by omega))
  have hq : ∀ e, e < n → posB ρ n (rL ρ p) (rcd ρ p) (rts ρ p) e = ansB ρ n (rL ρ p) (rcd ρ p) (rts ρ p) e := fun e he => by
    unfold posB ansB sS
    refine congrFun (congrArg Prod.fst (mS_cong (N := n) (fun e he => rfl) (fun e he i => ?_) e he)) _
    unfold fitB met
    rw [hop e he]; simp
  cases ha : aB ρ n p e with
  | false => unfold oB outB; rw [show ansB ρ n (rL ρ p) (rcd ρ p) (rts ρ p) e = false from ha]; rfl
  | true => exact out_iff.mpr ⟨ha, fun x hx hp => by rw [← hq x (by omega)]; exact hp⟩
theorem m_shut {d : Dt} {n m B : Nat} (hB : B + 9 < 2 ^ 31) (hot : d.1 0 13 = -9) (hI : Inv0 (d.1 3) n m B) : ∃ d', z_lp bX6_path_132 d = some d' ∧ d'.1 3 81 = -9 ∧ (∃ B', Inv0 (d'.1 3) n m B') ∧ (∀ p, p < m → ∀ e, e < n → aB (d'.1 3) n p e = aB (d.1 3) n p e) ∧ Fr (Ka 3) d d' := by
  have hc8 : cdep (d.1 3) ≤ 8 := by
    rcases ho_cases hI.2.2.2.2.2.1 with h | ⟨x, hx, h⟩
    · rw [cdep_n h]; omega
    · have := we_20 hI.1
      rw [cdep_h h (by omega)]; exact hI.2.1 x hx
  have key : Ok (z_lp bX6_path_132 d) (fun t => t.1 3 81 = -9 ∧ (∃ B', Inv0 (t.1 3) n m B') ∧ (∀ p, p < m → ∀ e, e < n → aB (t.1 3) n p e = aB (d.1 3) n p e) ∧ Fr (Ka 3) d t) := by
    refine ok_lp (fun k s => k = cdep (s.1 3) ∧ k ≤ 8 ∧ Inv0 (s.1 3) n m (B + 8 - k) ∧ (∀ p, p < m → ∀ e, e < n → aB (s.1 3) n p e = aB (d.1 3) n p e) ∧ Fr (Ka 3) d s) ?_ (cdep (d.1 3)) d ⟨rfl, hc8, inv0_m (by omega) hI, fun _ _ _ _ => rfl, fr_r⟩
    rintro k s ⟨hk, hk8, hI', hA, hf⟩
    have h20 := we_20 hI'.1
    unfold bX6_path_132
    rcases ho_cases hI'.2.2.2.2.2.1 with h | ⟨x, hx, h⟩
    · exact ok_t (show s.1 3 81 = -9 from h) ⟨_, rfl, Or.inr ⟨s, rfl, h, ⟨_, hI'⟩, hA, hf⟩⟩
    · refine ok_f (show ¬ s.1 3 81 = -9 by rw [h]; exact i_ne9 (by omega)) ?_
      have hd1 := dep_1 (ρ := s.1 3) (e := x)
      have hkd : k = dep (s.1 3) x := by rw [hk, cdep_h h (by omega)]
      obtain ⟨i1, i2⟩ := cl_inv hI' h (by omega)
      have hot' : s.1 0 13 = -9 := by rw [hf.1 0 (by omega)]; exact hot
      obtain ⟨s', g1, g2, g3⟩ := m_closeOn (a := 3) (by omega) hot' h (by omega) (inv01 i1 (by omega))
      refine ok_de g1 ⟨_, rfl, Or.inl ⟨k - 1, s', by omega, rfl, ?_, by omega, ?_, fun p hp e he => ?_, fr_t hf g3⟩⟩
      · -- the depth goes down by one
        have hag : Ag (clkR (closeR (s.1 3) x)) (s'.1 3) := by rw [g2]; exact notes_ag m
        have r81 : s'.1 3 81 = s.1 3 (20 + x) := by rw [hag 81 (by omega), clk_n (by omega)]; unfold closeR; rw [up_e]
        have hpar : ∀ e, e < n → rpar (s'.1 3) e = rpar (s.1 3) e := fun e he => by
          unfold rpar; rw [hag (20 + e) (by omega), clk_n (by omega)]; unfold closeR; rw [up_n (by omega), up_n (by omega)]
        have dw := dw_cong hpar
        rcases we_c hI'.1 hx with ⟨q0, q1, q2⟩ | ⟨y, hy, q1, q2, -⟩
        · rw [cdep_n (by rw [r81]; exact q2), hkd, dep_n q1]
        · rw [cdep_h (by rw [r81]; exact q2) (by omega), (dw y (by omega)).1, hkd, dep_p q1 hy]; omega
      · rw [g2]; exact inv0_m (by omega) (ag_inv0 (notes_ag m) i1)
      · have hm := hI'.2.2.2.1
        rw [g2, ag_aB (notes_ag m) h20 (by omega) (i1.2.2.2.2.1 p hp) (by omega), close_aB hI' (by omega) hp he]
        exact hA p hp e he
  obtain ⟨d', k1, k2, k3, k4, k5⟩ := key
  exact ⟨d', k1, k2, k3, k4, k5⟩
section AS
variable {dc dm : Dt} {B : Nat}
theorem p_is (h : Rel dc dm B) (x y : Int32) : Sim (fX5_is dc x y) (fX6_is dm x y) B := by
  obtain ⟨n, m, s1, s2⟩ := id h.1
  have hot := h.2.2.2.2.2.2
  have h83 := s2.1.2.2.1
  have hm5 := s2.1.2.2.2.1
  have h80 := s2.1.1.1
  have h20 := we_20 s2.1.1
  have hc80 : dc.1 2 6 = nI n := s1.1.2.1.trans h80
  unfold fX5_is fX6_is
  rcases is_cases x (m := m) (by omega) with ⟨p, hp, rfl⟩ | hx
  · rw [c_isPath1 s1.2.1 hp hm5, m_isPath1 h83 hp hm5, br_s, br_s, z10, z10]
    rcases is_cases y (m := n) (by omega) with ⟨e, he, rfl⟩ | hy
    · rw [c_isEl1 hc80 he h20, m_isEl1 h80 he h20, br_s, br_s, z10, z10]
      obtain ⟨d1, e1, e2, e3, -, f1⟩ := c_mt st1 s1 s2.1 hp
      obtain ⟨g1, k1, k2⟩ := m_endsAll (q := false) (d := dm) (a := 2) (by omega) s2.1.1 s2.1.2.1 (s2.1.2.2.2.2.1 p hp) (show p < 5 by omega) (ts_std hot) he
      have eq2 : g1.1 2 = dm.1 2 := k2.1 2 (by omega)
      have eq0 : g1.1 0 = dm.1 0 := k2.1 0 (by omega)
      obtain ⟨g2, k3, k4⟩ := m_endsAll (q := true) (d := g1) (a := 2) (by omega) (by rw [eq2]; exact s2.1.1) (by rw [eq2]; exact s2.1.2.1) (by rw [eq2]; exact s2.1.2.2.2.2.1 p hp) (show p < 5 by omega) (by rw [eq0]; exact ts_std hot) he
      rw [eq2] at k3
      rw [show b2i false = (0 : Int32) from rfl] at k1
      rw [show b2i true = (1 : Int32) from rfl] at k3
      rw [in_t (show p < 5 by omega) (by omega), gd_t, ix_nI (by omega), show fX1_match dc 2 (9 + 4 * p) = some d1 from e1, br_s, k1, bd_s, e2, e3, zB_bt (by omega) he, zB_bt (by omega) he]
      have hA : aB (dm.1 2) n p e = sS (dm.1 2) n false (rcd (dm.1 2) p) (rts (dm.1 2) p) e (rL (dm.1 2) p - 1) := rfl
      have hD : dB (dm.1 2) n p e = (sS (dm.1 2) n true (rcd (dm.1 2) p) (rts (dm.1 2) p) e (rL (dm.1 2) p - 1) && !sS (dm.1 2) n false (rcd (dm.1 2) p) (rts (dm.1 2) p) e (rL (dm.1 2) p - 1)) := rfl
      rw [hA, hD]
      rcases bool2 (sS (dm.1 2) n false (rcd (dm.1 2) p) (rts (dm.1 2) p) e (rL (dm.1 2) p - 1)) with hs | hs
      · rw [hs, zif_p (show (if false = true then (1 : Int32) else 0) = 0 from rfl), zif_p (show b2i false = 0 from rfl), k3, bd_s]
        have hR := rel_fr h (frc_m f1) (frm_t (frm_9 k2) (frm_9 k4))
        rcases bool2 (sS (dm.1 2) n true (rcd (dm.1 2) p) (rts (dm.1 2) p) e (rL (dm.1 2) p - 1)) with ht | ht
        · rw [ht, zif_p (show b2i false = 0 from rfl)]; exact ⟨_, _, _, rfl, rfl, hR⟩
        · rw [ht, zif_n (show ¬ b2i true = 0 by decide)]; exact ⟨_, _, _, rfl, rfl, hR⟩
      · rw [hs, zif_n (show ¬ (if true = true then (1 : Int32) else 0) = 0 by decide), zif_n (show ¬ b2i true = 0 by decide)]
        exact ⟨_, _, _, rfl, rfl, rel_fr h (frc_m f1) (frm_9 k2)⟩
    · rw [c_isEl0 hc80 hy, m_isEl0 h80 h20 hy, br_s, br_s, z00, z00]
      exact ⟨_, _, _, rfl, rfl, h⟩
  · rw [c_isPath0 s1.2.1 hx, m_isPath0 h83 hm5 hx, br_s, br_s, z00, z00]
    exact ⟨_, _, _, rfl, rfl, h⟩
theorem c_number {d : Dt} {b n m p : Nat} {ρ : Row} (hb : isSt b) (hS : StR d b ρ n m) (hI : InvS ρ n m B) (hp : p < m) (w : Nat) (hw : w ≤ 6) : ∃ d', fX5_pathNumber d b (nI p) (nI w) = some ((if w = 0 then nI (rL ρ p) else if w = 2 then nI (zc (oB ρ n p) n) else if w = 3 then nI (heldN ρ n p) else if w = 4 then ρ (109 + p) else if w = 5 then nI (zc (dB ρ n p) n) else nI (zc (aB ρ n p) n)), d') ∧ Fr Km d d' := by
  have hm5 := hI.1.2.2.2.1
  have h20 := we_20 hI.1.1
  obtain ⟨d1, e1, e2, e3, -, f1⟩ := c_mt hb hS hI.1 hp
  have hpa := pa_out (st_pa hb (show p < 5 by omega))
  have hP := par_fr (hS.2.2 p hp) f1 hpa
  refine ⟨d1, ?_, f1⟩
  unfold fX5_pathNumber
  rw [in_t (show p < 5 by omega) (by omega), gd_t, ix_nI (show p < 2 ^ 31 by omega), e1, br_s, hP.1.1, hP.2.2.1, hP.2.2.2.2, wh_cnt hI.2 hp h20]
  have hbuf : fX2_bufferSize d1 (b + 8 + 4 * p) = some (nI (heldN ρ n p)) := by
    unfold fX2_bufferSize
    rw [e2, e3, hP.2.1, c_buf h20 (wh_oB hI.2 hp h20), c_bits h20, br_s, held_eq]
  rw [hbuf, e2, e3, c_bits h20, c_bits h20, br_s, br_s, br_s]
  have hc : w = 0 ∨ w = 1 ∨ w = 2 ∨ w = 3 ∨ w = 4 ∨ w = 5 ∨ w = 6 := by omega
  rcases hc with rfl | rfl | rfl | rfl | rfl | rfl | rfl
  · rw [zif_p (show nI 0 = (0 : Int32) from rfl)]; rfl
  · rw [zif_n (show ¬ nI 1 = (0 : Int32) by decide), zif_n (show ¬ nI 1 = (2 : Int32) by decide), zif_n (show ¬ nI 1 = (3 : Int32) by decide), zif_n (show ¬ nI 1 = (4 : Int32) by decide), zif_n (show ¬ nI 1 = (5 : Int32) by decide)]; rfl
  · rw [zif_n (show ¬ nI 2 = (0 : Int32) by decide), zif_p (show nI 2 = (2 : Int32) from rfl)]; rfl
  · rw [zif_n (show ¬ nI 3 = (0 : Int32) by decide), zif_n (show ¬ nI 3 = (2 : Int32) by decide), zif_p (show nI 3 = (3 : Int32) from rfl)]; rfl
  · rw [zif_n (show ¬ nI 4 = (0 : Int32) by decide), zif_n (show ¬ nI 4 = (2 : Int32) by decide), zif_n (show ¬ nI 4 = (3 : Int32) by decide), zif_p (show nI 4 = (4 : Int32) from rfl)]; rfl
  · rw [zif_n (show ¬ nI 5 = (0 : Int32) by decide), zif_n (show ¬ nI 5 = (2 : Int32) by decide), zif_n (show ¬ nI 5 = (3 : Int32) by decide), zif_n (show ¬ nI 5 = (4 : Int32) by decide), zif_p (show nI 5 = (5 : Int32) from rfl)]; rfl
  · rw [zif_n (show ¬ nI 6 = (0 : Int32) by decide), zif_n (show ¬ nI 6 = (2 : Int32) by decide), zif_n (show ¬ nI 6 = (3 : Int32) by decide), zif_n (show ¬ nI 6 = (4 : Int32) by decide), zif_n (show ¬ nI 6 = (5 : Int32) by decide)]; rfl
end AS
