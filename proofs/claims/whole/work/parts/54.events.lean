/-! events on both sides -/
theorem clk_hi {ρ : Row} {j : Nat} (h : 83 ≤ j) : clkR ρ j = ρ j := clk_n (by omega)
theorem open_hi {ρ : Row} {n j : Nat} {v : Int32} (hn : n < 20) (h : 83 ≤ j) : clkR (openR ρ n v) j = ρ j := by rw [clk_hi h, op_lo (by omega) (by omega) (by omega) (by omega) (by omega) (by omega)]
theorem close_hi {ρ : Row} {x j : Nat} (hx : x < 20) (h : 83 ≤ j) : clkR (closeR ρ x) j = ρ j := by rw [clk_hi h]; unfold closeR; rw [up_n (by omega), up_n (by omega)]
theorem tell_hi {ρ : Row} {x f j : Nat} (hx : x < 20) (h : 83 ≤ j) : clkR (tellR ρ x f) j = ρ j := by rw [clk_hi h]; unfold tellR; rw [up_n (by omega)]
theorem hi_agp {ρ ρ' : Row} {p : Nat} (h : ∀ j, 83 ≤ j → ρ' j = ρ j) : Agp ρ ρ' p := ⟨h _ (by omega), fun i _ => h _ (by omega), h _ (by omega), fun e _ => h _ (by omega)⟩
section EV
variable {dc dm : Dt} {b a n m B : Nat}
theorem ev_c {ρ ρ1 : Row} {n1 : Nat} {dc1 : Dt} (hb : isSt b) (hB : B + 1 < 2 ^ 31) (hn : n ≤ n1) (hS : StR dc b ρ n m) (hI : InvS ρ n m B) (h1 : Inv0 ρ1 n1 m (B + 1)) (hM : Mono ρ n ρ1 n1 m) (hk : ∀ j, 83 ≤ j → ρ1 j = ρ j) (hE : ElR dc1 (b + 1) ρ1 n1) (hf : Fr (Ke (b + 1)) dc dc1) : ∃ dc2, fX3_emitAll dc1 b = some (nI (cntS ρ1 n1 m), dc2) ∧ StR dc2 b (notesR ρ1 n1 m) n1 m ∧ InvS (notesR ρ1 n1 m) n1 m (B + 1) ∧ Fr (Ks b) dc dc2 := by
  obtain ⟨hR, hI2⟩ := ev_both hB hn hI h1 hM (fun j hj => hk j (by omega))
  have hS1 : StR dc1 b ρ1 n1 m := ⟨hE, by rw [hf.1 b (by omega)]; exact hS.2.1, fun p hp => par_ag (par_fr (hS.2.2 p hp) hf (fun k hk => by omega)) (hi_agp hk)⟩
  obtain ⟨dc2, e1, e2, e3⟩ := c_emitAll hb (inv01 h1 hB) hS1 hR
  exact ⟨dc2, e1, e2, hI2, fr_t (fr_w hf (fun k hk => Or.inr ⟨by have := hk.1; omega, by have := hk.2; omega⟩)) e3⟩
theorem both_open {v : Nat} (hb : isSt b) (ha : a ≠ 9 ∧ a ≠ 10 ∧ a ≠ 0) (hot : dm.1 0 13 = -9) (hB : B + 1 < 2 ^ 31) (hS : StR dc b (dm.1 a) n m) (hI : InvS (dm.1 a) n m B) (hM : May (dm.1 a) n) (hv : v < 5) : ∃ r dc1 dc2 dm', fX0_enter dc (b + 1) (nI v) = some (1, dc1) ∧ fX3_emitAll dc1 b = some (r, dc2) ∧ fX6_openOn dm a (nI v) = some dm' ∧ StR dc2 b (dm'.1 a) (n + 1) m ∧ InvS (dm'.1 a) (n + 1) m (B + 1) ∧ dm'.1 a 81 = nI n ∧ Fr (Ke (b + 1)) dc dc1 ∧ Fr (Ks b) dc dc2 ∧ Fr (Ka a) dm dm' := by
  obtain ⟨i1, i2⟩ := op_inv hI.1 hM hv
  have hn := hM.1
  obtain ⟨dc1, e1, e2, e3⟩ := c_enter hS.1 hI.1 hM hv
  obtain ⟨dc2, f1, f2, f3, f4⟩ := ev_c hb hB (by omega) hS hI i1 i2 (fun j hj => open_hi hn hj) e2 e3
  obtain ⟨dm', g1, g2, g3⟩ := m_openOn (v := nI v) ha hot hI.1.1.1 hn (inv01 i1 hB)
  refine ⟨_, dc1, dc2, dm', e1, f1, g1, by rw [g2]; exact f2, by rw [g2]; exact f3, ?_, e3, f4, g3⟩
  rw [g2, notes_ag m 81 (by omega), clk_n (by omega), op_81]
theorem both_close {x : Nat} (hb : isSt b) (ha : a ≠ 9 ∧ a ≠ 10 ∧ a ≠ 0) (hot : dm.1 0 13 = -9) (hB : B + 1 < 2 ^ 31) (hS : StR dc b (dm.1 a) n m) (hI : InvS (dm.1 a) n m B) (hh : dm.1 a 81 = nI x) (hx : x < 20) : ∃ r dc1 dc2 dm', fX0_leave dc (b + 1) = some (1, dc1) ∧ fX3_emitAll dc1 b = some (r, dc2) ∧ fX6_closeOn dm a = some (r, dm') ∧ StR dc2 b (dm'.1 a) n m ∧ InvS (dm'.1 a) n m (B + 1) ∧ Fr (Ke (b + 1)) dc dc1 ∧ Fr (Ks b) dc dc2 ∧ Fr (Ka a) dm dm' := by
  obtain ⟨i1, i2⟩ := cl_inv hI.1 hh hx
  obtain ⟨dc1, e1, e2, e3⟩ := c_leave hS.1 hI.1 hh hx
  obtain ⟨dc2, f1, f2, f3, f4⟩ := ev_c hb hB (Nat.le_refl _) hS hI i1 i2 (fun j hj => close_hi hx hj) e2 e3
  obtain ⟨dm', g1, g2, g3⟩ := m_closeOn ha hot hh hx (inv01 i1 hB)
  exact ⟨_, dc1, dc2, dm', e1, f1, g1, by rw [g2]; exact f2, by rw [g2]; exact f3, e3, f4, g3⟩
theorem both_tell {x f : Nat} (hb : isSt b) (ha : a ≠ 9 ∧ a ≠ 10 ∧ a ≠ 0) (hot : dm.1 0 13 = -9) (hB : B + 1 < 2 ^ 31) (hS : StR dc b (dm.1 a) n m) (hI : InvS (dm.1 a) n m B) (hh : dm.1 a 81 = nI x) (hx : x < 20) (hf : f < 10) : ∃ r dc1 dc2 dm', fX0_hold dc (b + 1) (nI f) = some (1, dc1) ∧ fX3_emitAll dc1 b = some (r, dc2) ∧ fX6_tellOn dm a (nI f) = some (r, dm') ∧ StR dc2 b (dm'.1 a) n m ∧ InvS (dm'.1 a) n m (B + 1) ∧ Fr (Ke (b + 1)) dc dc1 ∧ Fr (Ks b) dc dc2 ∧ Fr (Ka a) dm dm' := by
  obtain ⟨i1, i2⟩ := te_inv hI.1 hh hx hf
  obtain ⟨dc1, e1, e2, e3⟩ := c_hold hS.1 hI.1 hh hx hf
  obtain ⟨dc2, f1, f2, f3, f4⟩ := ev_c hb hB (Nat.le_refl _) hS hI i1 i2 (fun j hj => tell_hi hx hj) e2 e3
  obtain ⟨dm', g1, g2, g3⟩ := m_tellOn ha hot hh hx (inv01 i1 hB)
  exact ⟨_, dc1, dc2, dm', e1, f1, g1, by rw [g2]; exact f2, by rw [g2]; exact f3, e3, f4, g3⟩
theorem m_mayOpen {d : Dt} (hw : WE (d.1 a) n) (hH : HO (d.1 a) n) : fX6_mayOpen d a = some (b2i (mayB (d.1 a) n)) := by
  have h20 := we_20 hw
  unfold fX6_mayOpen
  rw [show d.1 a (z_ix (80 : Int32)) = nI n from hw.1, show d.1 a (z_ix (81 : Int32)) = d.1 a 81 from rfl]
  by_cases h0 : n = 0
  · rw [zif_p (by rw [h0]; rfl)]
    unfold mayB; simp [h0, b2i]
  · rw [zif_n (nI_ne0 (by omega) (by omega))]
    rcases ho_cases hH with h | ⟨x, hx, h⟩
    · rw [h, zif_p rfl]
      unfold mayB; rw [h]; simp [h0, b2i]
    · rw [h, zif_n (i_ne9 (by omega)), m_depth hw hx, br_s]
      have hd := dep_le (d.1 a) x
      have hmb : mayB (d.1 a) n = decide (dep (d.1 a) x < 8) := by
        unfold mayB; rw [cdep_h h (by omega), h]; simp [h0, i_ne9 (show x < 2 ^ 31 by omega)]
      rw [hmb]
      by_cases h8 : dep (d.1 a) x < 8
      · rw [zif_n (show ¬ (8 : Int32) ≤ nI (dep (d.1 a) x) from fun z => by have := (nI_leI (a := 8) (by omega) (by omega)).mp z; omega)]; simp [h8, b2i]
      · rw [zif_p (show (8 : Int32) ≤ nI (dep (d.1 a) x) from (nI_leI (a := 8) (by omega) (by omega)).mpr (by omega))]; simp [h8, b2i]
end EV
section PA
variable {dc dm : Dt} {B : Nat}
theorem ks_now {k : Nat} (h : Ks 1 k) : Sc k ∨ (1 ≤ k ∧ k < 29) := by
  rcases h with h | h
  · exact Or.inl (km_sc h)
  · exact Or.inr (by omega)
theorem ka_now {k : Nat} (h : Ka 2 k) : Sm k ∨ k = 2 := h.imp k9_sm id
theorem rel_ev {dc1 dm1 : Dt} {n m : Nat} (h : Rel dc dm B) (hc : Fr (Ks 1) dc dc1) (hm : Fr (Ka 2) dm dm1) (hS : StR dc1 1 (dm1.1 2) n m) (hI : InvS (dm1.1 2) n m (B + 1)) : Rel dc1 dm1 (B + 1) :=
  rel_now (by omega) h (fr_w hc (fun k hk => ks_now hk)) (fr_w hm (fun k hk => ka_now hk)) ⟨n, m, hS, hI⟩
theorem st1 : isSt 1 := Or.inl rfl
theorem st29 : isSt 29 := Or.inr (Or.inl rfl)
theorem p_open (hB : B + 1 < 2 ^ 31) (h : Rel dc dm B) (x : Int32) : Sim (fX5_open dc x) (fX6_open dm x) (B + 1) := by
  obtain ⟨n, m, s1, s2⟩ := id h.1
  have hw := s2.1.1
  have h20 := we_20 hw
  have hH := s2.1.2.2.2.2.2.1
  have hM := rel_m (show B ≤ B + 1 by omega) h
  unfold fX5_open fX6_open
  rcases is_cases x (m := 5) (by omega) with ⟨v, hv, rfl⟩ | hx
  · rw [zif_n (nI_pos (by omega)), zif_p (show nI v < (5 : Int32) from (nI_ltI (b := 5) (by omega) (by omega)).mpr hv), show fX6_in (nI v).toInt64 0 4 = some 1 from in_p (m := 5) hv (by omega), br_s, z10, c_refuse s1.1 hw hH, m_mayOpen hw hH, br_s, br_s]
    rcases bool2 (mayB (dm.1 2) n) with hb | hb
    · rw [hb, if_neg (by decide), zif_n (by decide), zif_p (show b2i false = 0 from rfl)]
      exact ⟨_, _, _, rfl, rfl, hM⟩
    · rw [hb, if_pos rfl, zif_n (show ¬ b2i true = 0 by decide), show dm.1 2 (z_ix (80 : Int32)) = nI n from hw.1]
      by_cases hn : n < 20
      · rw [if_pos hn, zif_p rfl, zif_n (show ¬ nI n = (20 : Int32) from fun z => by have := (nI_eq (b := 20) (by omega) (by omega)).mp z; omega)]
        obtain ⟨dc2, dm2, r1, r2, r3, r4, r5⟩ := rec_both h
        obtain ⟨n', m', s1', s2'⟩ := id r3.1
        have en : n' = n := (nI_eq (by have := we_20 s2'.1.1; omega) (by omega)).mp (s2'.1.1.1.symm.trans (by rw [r4]; exact hw.1))
        subst en
        obtain ⟨r, dc4, dc6, dm4, q1, q2, q3, q4, q5, q6, q7, q8, q9⟩ := both_open (v := v) st1 (by omega) r3.2.2.2.2.2.2 hB s1' s2' (by rw [r4]; exact (may_iff hH h20).mpr ⟨hn, hb⟩) hv
        rw [r1, r2, br_s, br_s, q1, q3, bd_s, br_s, q2, bd_s]
        refine ⟨_, _, _, rfl, ?_, rel_ev r3 q8 q9 q4 q5⟩
        rw [q4.1.2.2.1, q6, show dm4.1 2 (z_ix (80 : Int32)) = nI (n' + 1) from q5.1.1.1, nI_pred]
      · rw [if_neg hn, zif_n (by decide), zif_p (show nI n = (20 : Int32) by rw [show n = 20 by omega]; rfl)]
        exact ⟨_, _, _, rfl, rfl, hM⟩
  · rw [show fX6_in x.toInt64 0 4 = some 0 from in_n (m := 5) (by omega) hx, br_s, z00]
    refine ⟨-2, dc, dm, ?_, rfl, hM⟩
    by_cases h0 : x < 0
    · rw [zif_p h0]
    · rw [zif_n h0, zif_n (show ¬ x < (5 : Int32) from Int32.not_lt.mpr (hx.resolve_left h0))]
theorem p_close (hB : B + 1 < 2 ^ 31) (h : Rel dc dm B) : Sim (fX5_close dc) (fX6_close dm) (B + 1) := by
  obtain ⟨n, m, s1, s2⟩ := id h.1
  have hw := s2.1.1
  have h20 := we_20 hw
  have hH := s2.1.2.2.2.2.2.1
  unfold fX5_close fX6_close
  rw [s1.1.2.2.1, show dm.1 2 (z_ix (81 : Int32)) = dm.1 2 81 from rfl]
  rcases ho_cases hH with hz | ⟨x, hx, hz⟩
  · rw [hz, zif_n (by decide), zif_p rfl]
    exact ⟨_, _, _, rfl, rfl, rel_m (by omega) h⟩
  · rw [hz, zif_p (nI_pos' (by omega)), zif_n (i_ne9 (by omega))]
    obtain ⟨dc2, dm2, r1, r2, r3, r4, r5⟩ := rec_both h
    obtain ⟨n', m', s1', s2'⟩ := id r3.1
    obtain ⟨r, dc4, dc6, dm4, q1, q2, q3, q4, q5, q6, q7, q8⟩ := both_close (x := x) st1 (by omega) r3.2.2.2.2.2.2 hB s1' s2' (by rw [r4]; exact hz) (by omega)
    rw [r1, r2, br_s, br_s, q1, q3, bd_s, bd_s, q2, bd_s]
    exact ⟨_, _, _, rfl, rfl, rel_ev r3 q7 q8 q4 q5⟩
theorem p_tell (hB : B + 1 < 2 ^ 31) (h : Rel dc dm B) (v : Int32) : Sim (fX5_tell dc v) (fX6_tell dm v) (B + 1) := by
  obtain ⟨n, m, s1, s2⟩ := id h.1
  have hw := s2.1.1
  have h20 := we_20 hw
  have hH := s2.1.2.2.2.2.2.1
  have hM := rel_m (show B ≤ B + 1 by omega) h
  unfold fX5_tell fX6_tell
  rcases is_cases v (m := 10) (by omega) with ⟨f, hf, rfl⟩ | hx
  · rw [zif_n (nI_pos (by omega)), zif_p (show nI f < (10 : Int32) from (nI_ltI (b := 10) (by omega) (by omega)).mpr hf), show fX6_in (nI f).toInt64 0 9 = some 1 from in_p (m := 10) hf (by omega), br_s, z10, s1.1.2.2.1, show dm.1 2 (z_ix (81 : Int32)) = dm.1 2 81 from rfl]
    rcases ho_cases hH with hz | ⟨x, hx, hz⟩
    · rw [hz, zif_n (by decide), zif_p rfl]
      exact ⟨_, _, _, rfl, rfl, hM⟩
    · rw [hz, zif_p (nI_pos' (by omega)), zif_n (i_ne9 (by omega))]
      obtain ⟨dc2, dm2, r1, r2, r3, r4, r5⟩ := rec_both h
      obtain ⟨n', m', s1', s2'⟩ := id r3.1
      obtain ⟨r, dc4, dc6, dm4, q1, q2, q3, q4, q5, q6, q7, q8⟩ := both_tell (x := x) (f := f) st1 (by omega) r3.2.2.2.2.2.2 hB s1' s2' (by rw [r4]; exact hz) (by omega) hf
      rw [r1, r2, br_s, br_s, q1, q3, bd_s, bd_s, q2, bd_s]
      exact ⟨_, _, _, rfl, rfl, rel_ev r3 q7 q8 q4 q5⟩
  · rw [show fX6_in v.toInt64 0 9 = some 0 from in_n (m := 10) (by omega) hx, br_s, z00]
    refine ⟨-2, dc, dm, ?_, rfl, hM⟩
    by_cases h0 : v < 0
    · rw [zif_p h0]
    · rw [zif_n h0, zif_n (show ¬ v < (10 : Int32) from Int32.not_lt.mpr (hx.resolve_left h0))]
end PA
