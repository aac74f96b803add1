/-! THE PUBLIC METHODS: drawn -/
theorem d_rnd (x : Int64) : ∃ w, w < 2 ^ 31 ∧ ((x.toUInt64 >>> ((33 : Int32).toInt64.toUInt64 &&& Int64.toUInt64 63)).toInt64).toInt32 = nI w := by
  have hs : ((33 : Int32).toInt64.toUInt64 &&& Int64.toUInt64 63) = 33 := by decide
  rw [hs]
  refine ⟨(x.toUInt64 >>> 33).toNat, ?_, ?_⟩
  · rw [UInt64.toNat_shiftRight, Nat.shiftRight_eq_div_pow]
    have := x.toUInt64.toNat_lt
    have e : (33 : UInt64).toNat % 64 = 33 := by decide
    rw [e]; omega
  · generalize x.toUInt64 >>> 33 = u
    unfold nI
    apply Int32.toBitVec_inj.mp
    apply BitVec.eq_of_toNat_eq
    have h1 : ((u.toInt64).toInt32).toBitVec = u.toBitVec.signExtend 32 := rfl
    have h2 : (Int32.ofNat u.toNat).toBitVec = BitVec.ofNat 32 u.toNat := rfl
    rw [h1, h2]
    rw [BitVec.signExtend_eq_setWidth_of_le _ (by omega), BitVec.toNat_setWidth, BitVec.toNat_ofNat]; rfl
def DR (dc dm : Dt) (n m B : Nat) : Prop := ElR dc 30 (dm.1 3) n ∧ dc.1 29 2 = nI m ∧ (∀ p, p < m → PsR dc (37 + 4 * p) (rL (dm.1 3) p) (rcd (dm.1 3) p)) ∧ Inv0 (dm.1 3) n m B ∧ dm.1 0 13 = -9 ∧ dc.2 = dm.2
section DW
variable {dc dm : Dt} {n m B : Nat}
theorem psr_ag {pa p : Nat} {ρ ρ' : Row} (hp : p < 5) (h : ∀ j, 83 ≤ j → j < 109 → ρ' j = ρ j) (w : PsR dc pa (rL ρ p) (rcd ρ p)) : PsR dc pa (rL ρ' p) (rcd ρ' p) := by
  obtain ⟨h1, h2, h3, h4⟩ := w
  have hL : rL ρ' p = rL ρ p := by unfold rL; rw [h _ (by omega) (by omega)]
  rw [hL]
  refine ⟨h1, h2, h3, fun i hi => ?_⟩
  have : rcd ρ' p i = rcd ρ p i := by unfold rcd; rw [h _ (by omega) (by omega)]
  rw [this]; exact h4 i hi
theorem dr_step {dc1 dm1 : Dt} {ρ1 : Row} {n1 : Nat} (h : DR dc dm n m B) (hf : Fr (Ke 30) dc dc1) (hE : ElR dc1 30 ρ1 n1) (hr : dm1.1 3 = notesR ρ1 n1 m) (hg : Fr (Ka 3) dm dm1) (hI : Inv0 ρ1 n1 m (B + 1)) (hk : ∀ j, 83 ≤ j → ρ1 j = dm.1 3 j) : DR dc1 dm1 n1 m (B + 1) := by
  obtain ⟨h1, h2, h3, h4, h5, h6⟩ := h
  have hm5 := h4.2.2.2.1
  have hn := we_20 hI.1
  refine ⟨by rw [hr]; exact elr_ag hn (notes_ag m) hE, by rw [hf.1 29 (by omega)]; exact h2, fun p hp => ?_, by rw [hr]; exact ag_inv0 (notes_ag m) hI, by rw [hg.1 0 (by omega)]; exact h5, by rw [hf.2, hg.2]; exact h6⟩
  refine psr_ag (by omega) (fun j g1 g2 => ?_) (psr_fr (h3 p hp) hf (fun k hk => by omega))
  rw [hr, notes_ag m j (by omega), hk j g1]
theorem dr_m (h : DR dc dm n m B) : DR dc dm n m (B + 1) := ⟨h.1, h.2.1, h.2.2.1, inv0_m (by omega) h.2.2.2.1, h.2.2.2.2⟩
/-- an event drawn, on both sides -/
def DO (dc dm : Dt) (m B : Nat) (oc om : Option (Int32 × Dt)) : Prop := ∃ rc rm dc' dm' n', oc = some (rc, dc') ∧ om = some (rm, dm') ∧ DR dc' dm' n' m B ∧ Fr (Ke 30) dc dc' ∧ Fr (Ka 3) dm dm'
theorem do_no {r s : Int32} (h : DR dc dm n m B) : DO dc dm m (B + 1) (some (r, dc)) (some (s, dm)) := ⟨r, s, dc, dm, n, rfl, rfl, dr_m h, fr_r, fr_r⟩
theorem d_open (hB : B + 1 < 2 ^ 31) (h : DR dc dm n m B) {v : Nat} (hv : v < 5) : DO dc dm m (B + 1) (fX0_enter dc 30 (nI v)) (fX6_eventOn dm 3 (nI v)) := by
  obtain ⟨h1, h2, h3, h4, h5, h6⟩ := id h
  have hw := h4.1
  have h20 := we_20 hw
  have hH := h4.2.2.2.2.2.1
  unfold fX6_eventOn jX6_eventOn_26 jX6_eventOn_27
  rw [zif_n (show ¬ (10 : Int32) ≤ nI v from fun z => by have := (le10 (by omega)).mp z; omega), m_mayOpen hw hH, br_s, show dm.1 3 (z_ix (80 : Int32)) = nI n from hw.1, z00, z10]
  by_cases hM : May (dm.1 3) n
  · obtain ⟨hn, hmb⟩ := (may_iff hH h20).mp hM
    obtain ⟨i1, -⟩ := op_inv h4 hM hv
    obtain ⟨dc1, e1, e2, e3⟩ := c_enter h1 h4 hM hv
    obtain ⟨dm', g1, g2, g3⟩ := m_openOn (v := nI v) (a := 3) (by omega) h5 hw.1 hn (inv01 i1 hB)
    rw [e1, hmb, zif_n (show ¬ b2i true = 0 by decide), zif_n (show ¬ (20 : Int32) ≤ nI n from fun z => by have := (le20 (by omega)).mp z; omega), g1, br_s]
    exact ⟨_, _, dc1, dm', n + 1, rfl, rfl, dr_step h e3 e2 g2 g3 i1 (fun j hj => open_hi hn hj), e3, g3⟩
  · rw [c_enter0 h1 hw hH (Or.inr (Or.inr hM))]
    rcases bool2 (mayB (dm.1 3) n) with hmb | hmb
    · rw [hmb, zif_p (show b2i false = 0 from rfl)]
      exact do_no h
    · have hn : ¬ n < 20 := fun z => hM ((may_iff hH h20).mpr ⟨z, hmb⟩)
      rw [hmb, zif_n (show ¬ b2i true = 0 by decide), zif_p (show (20 : Int32) ≤ nI n from (le20 (by omega)).mpr (by omega))]
      exact do_no h
theorem d_close (hB : B + 1 < 2 ^ 31) (h : DR dc dm n m B) : DO dc dm m (B + 1) (fX0_leave dc 30) (fX6_eventOn dm 3 (10 : Int32)) := by
  obtain ⟨h1, h2, h3, h4, h5, h6⟩ := id h
  have hw := h4.1
  have h20 := we_20 hw
  have hH := h4.2.2.2.2.2.1
  unfold fX6_eventOn
  rw [zif_p (show (10 : Int32) ≤ 10 by decide), zif_p (show (10 : Int32) = 10 from rfl), show dm.1 3 (z_ix (81 : Int32)) = dm.1 3 81 from rfl]
  rcases ho_cases hH with hz | ⟨x, hx, hz⟩
  · rw [c_leave0 h1 hz, zif_p hz]
    exact do_no h
  · obtain ⟨i1, -⟩ := cl_inv h4 hz (by omega)
    obtain ⟨dc1, e1, e2, e3⟩ := c_leave h1 h4 hz (by omega)
    obtain ⟨dm', g1, g2, g3⟩ := m_closeOn (a := 3) (by omega) h5 hz (by omega) (inv01 i1 hB)
    rw [e1, zif_n (by rw [hz]; exact i_ne9 (by omega)), g1, bd_s]
    exact ⟨_, _, dc1, dm', n, rfl, rfl, dr_step h e3 e2 g2 g3 i1 (fun j hj => close_hi (by omega) hj), e3, g3⟩
theorem d_tell (hB : B + 1 < 2 ^ 31) (h : DR dc dm n m B) {f : Nat} (hf : f < 10) : DO dc dm m (B + 1) (fX0_hold dc 30 (nI f)) (fX6_eventOn dm 3 ((20 : Int32) + nI f)) := by
  obtain ⟨h1, h2, h3, h4, h5, h6⟩ := id h
  have hw := h4.1
  have h20 := we_20 hw
  have hH := h4.2.2.2.2.2.1
  unfold fX6_eventOn
  rw [show (20 : Int32) + nI f = nI (20 + f) from nI_add 20 f, zif_p (show (10 : Int32) ≤ nI (20 + f) from (le10 (by omega)).mpr (by omega)), zif_n (show ¬ nI (20 + f) = (10 : Int32) from fun z => by have := (nI_eq (b := 10) (by omega) (by omega)).mp z; omega), show nI (20 + f) - (20 : Int32) = nI (20 + f - 20) from pk_sub (b := 20) (by omega), show 20 + f - 20 = f by omega, show dm.1 3 (z_ix (81 : Int32)) = dm.1 3 81 from rfl]
  rcases ho_cases hH with hz | ⟨x, hx, hz⟩
  · rw [c_hold0 h1 (Or.inr (Or.inr hz)), zif_p hz]
    exact do_no h
  · obtain ⟨i1, -⟩ := te_inv h4 hz (by omega) hf
    obtain ⟨dc1, e1, e2, e3⟩ := c_hold h1 h4 hz (by omega) hf
    obtain ⟨dm', g1, g2, g3⟩ := m_tellOn (a := 3) (by omega) h5 hz (by omega) (inv01 i1 hB)
    rw [e1, zif_n (by rw [hz]; exact i_ne9 (by omega)), g1, bd_s]
    exact ⟨_, _, dc1, dm', n, rfl, rfl, dr_step h e3 e2 g2 g3 i1 (fun j hj => tell_hi (by omega) hj), e3, g3⟩
theorem fr_sl {K : Nat → Prop} {d d' : Dt} {v : Int64} (h : Fr K (z_sl d v) d') : Fr K d (z_sl d' d.2) := ⟨fun k hk => h.1 k hk, rfl⟩
end DW
