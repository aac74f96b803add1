/-! THE PUBLIC METHODS: judge -/
def TR (dc dm : Dt) (n m B : Nat) : Prop := StR dc 29 (dm.1 3) n m ∧ InvS (dm.1 3) n m B ∧ dm.1 0 13 = -9 ∧ dm.1 2 83 = nI m
theorem b2_id (r : Bool) (d : Dt) : zif (b2i r = 0) (some ((0 : Int32), d)) (some ((1 : Int32), d)) = some (b2i r, d) := by
  cases r
  · rw [zif_p (show b2i false = 0 from rfl)]; rfl
  · rw [zif_n (show ¬ b2i true = 0 by decide)]; rfl
section JU
variable {dc dm : Dt} {n m B : Nat}
theorem ks29 {k : Nat} (h : Ks 29 k) : Sc k := by
  rcases h with h | h
  · exact km_sc h
  · unfold Sc; omega
theorem ka3 {k : Nat} (h : Ka 3 k) : Sm k := h.elim k9_sm (fun z => Or.inl z)
theorem tr_m {B' : Nat} (hB : B ≤ B') (h : TR dc dm n m B) : TR dc dm n m B' := ⟨h.1, ⟨inv0_m hB h.2.1.1, h.2.1.2⟩, h.2.2⟩
/-- the outcome of a part of a judgement, on both sides -/
def JO (dc dm : Dt) (m B : Nat) (oc om : Option (Int32 × Dt)) : Prop := ∃ r dc' dm' n', oc = some (b2i r, dc') ∧ om = some (b2i r, dm') ∧ TR dc' dm' n' m B ∧ Fr (fun k => Sc k ∧ k ≠ 70) dc dc' ∧ Fr Sm dm dm'
theorem jo_no {r : Bool} (h : TR dc dm n m B) : JO dc dm m (B + 1) (some (b2i r, dc)) (some (b2i r, dm)) := ⟨r, dc, dm, n, rfl, rfl, tr_m (by omega) h, fr_r, fr_r⟩
theorem ks29' {k : Nat} (h : Ks 29 k) : Sc k ∧ k ≠ 70 := ⟨ks29 h, by rcases h with h | h <;> omega⟩
theorem j_open (hB : B + 1 < 2 ^ 31) (h : TR dc dm n m B) (v : Nat) (hv : v < 10) : JO dc dm m (B + 1) (z_bd (fX0_enter dc 30 (nI v)) fun yr1 yd2 => z_bd (fX5_emitsAfter yd2 yr1) fun yr3 yd4 => zif (yr3 = 0) (some ((0 : Int32), yd4)) (some ((1 : Int32), yd4))) (zif ((5 : Int32) ≤ nI v) (some ((0 : Int32), dm)) (z_bd (fX6_eventOn dm 3 (nI v)) fun yr1 yd2 => zif (yr1 = 0) (some ((0 : Int32), yd2)) (some ((1 : Int32), yd2)))) := by
  obtain ⟨h1, h2, h3, h4⟩ := id h
  have hw := h2.1.1
  have h20 := we_20 hw
  have hH := h2.1.2.2.2.2.2.1
  by_cases h5 : v < 5
  · rw [zif_n (show ¬ (5 : Int32) ≤ nI v from fun z => by have := (le5 (by omega)).mp z; omega)]
    unfold fX6_eventOn jX6_eventOn_26 jX6_eventOn_27
    rw [zif_n (show ¬ (10 : Int32) ≤ nI v from fun z => by have := (le10 (by omega)).mp z; omega), m_mayOpen hw hH, br_s, show dm.1 3 (z_ix (80 : Int32)) = nI n from hw.1, z00, z10]
    by_cases hM : May (dm.1 3) n
    · obtain ⟨hn, hmb⟩ := (may_iff hH h20).mp hM
      obtain ⟨r, dc1, dc2, dm', q1, q2, q3, q4, q5, -, -, q8, q9⟩ := both_open (v := v) st29 (by omega) h3 hB h1 h2 hM h5
      rw [show fX0_enter dc 30 (nI v) = some (1, dc1) from q1, bd_s, hmb, zif_n (show ¬ b2i true = 0 by decide), zif_n (show ¬ (20 : Int32) ≤ nI n from fun z => by have := (le20 (by omega)).mp z; omega), q3, br_s, bd_s, z10]
      unfold fX5_emitsAfter
      rw [z10, q2, bd_s, bd_s, z10]
      refine ⟨true, dc2, dm', n + 1, rfl, rfl, ⟨q4, q5, ?_, ?_⟩, fr_w q8 (fun k hk => ks29' hk), fr_w q9 (fun k hk => ka3 hk)⟩
      · rw [q9.1 0 (by omega)]; exact h3
      · rw [q9.1 2 (by omega)]; exact h4
    · have e0 : fX0_enter dc 30 (nI v) = some (0, dc) := c_enter0 (el := 29 + 1) h1.1 hw hH (Or.inr (Or.inr hM))
      rw [e0, bd_s]
      unfold fX5_emitsAfter
      rw [z00, bd_s, z00]
      rcases bool2 (mayB (dm.1 3) n) with hmb | hmb
      · rw [hmb, zif_p (show b2i false = 0 from rfl), bd_s, z00]
        exact jo_no (r := false) h
      · have hn : ¬ n < 20 := fun z => hM ((may_iff hH h20).mpr ⟨z, hmb⟩)
        rw [hmb, zif_n (show ¬ b2i true = 0 by decide), zif_p (show (20 : Int32) ≤ nI n from (le20 (by omega)).mpr (by omega)), bd_s, z00]
        exact jo_no (r := false) h
  · rw [zif_p (show (5 : Int32) ≤ nI v from (le5 (by omega)).mpr (by omega))]
    have e0 : fX0_enter dc 30 (nI v) = some (0, dc) := c_enter0 (el := 29 + 1) h1.1 hw hH (Or.inr (Or.inl ((le5 (by omega)).mpr (by omega))))
    rw [e0, bd_s]
    unfold fX5_emitsAfter
    rw [z00, bd_s, z00]
    exact jo_no (r := false) h
theorem j_close (hB : B + 1 < 2 ^ 31) (h : TR dc dm n m B) : JO dc dm m (B + 1) (z_bd (fX0_leave dc 30) fun yr5 yd6 => z_bd (fX5_emitsAfter yd6 yr5) fun yr7 yd8 => zif (yr7 = 0) (some ((0 : Int32), yd8)) (some ((1 : Int32), yd8))) (z_bd (fX6_eventOn dm 3 (10 : Int32)) fun yr3 yd4 => zif (yr3 = 0) (some ((0 : Int32), yd4)) (some ((1 : Int32), yd4))) := by
  obtain ⟨h1, h2, h3, h4⟩ := id h
  have hw := h2.1.1
  have h20 := we_20 hw
  have hH := h2.1.2.2.2.2.2.1
  unfold fX6_eventOn
  rw [zif_p (show (10 : Int32) ≤ 10 by decide), zif_p (show (10 : Int32) = 10 from rfl), show dm.1 3 (z_ix (81 : Int32)) = dm.1 3 81 from rfl]
  rcases ho_cases hH with hz | ⟨x, hx, hz⟩
  · have e0 : fX0_leave dc 30 = some (0, dc) := c_leave0 (el := 29 + 1) h1.1 hz
    rw [e0, bd_s, zif_p hz, bd_s, z00]
    unfold fX5_emitsAfter
    rw [z00, bd_s, z00]
    exact jo_no (r := false) h
  · obtain ⟨r, dc1, dc2, dm', q1, q2, q3, q4, q5, -, q8, q9⟩ := both_close (x := x) st29 (by omega) h3 hB h1 h2 hz (by omega)
    rw [show fX0_leave dc 30 = some (1, dc1) from q1, bd_s, zif_n (by rw [hz]; exact i_ne9 (by omega)), q3, bd_s, bd_s, z10]
    unfold fX5_emitsAfter
    rw [z10, q2, bd_s, bd_s, z10]
    refine ⟨true, dc2, dm', n, rfl, rfl, ⟨q4, q5, ?_, ?_⟩, fr_w q8 (fun k hk => ks29' hk), fr_w q9 (fun k hk => ka3 hk)⟩
    · rw [q9.1 0 (by omega)]; exact h3
    · rw [q9.1 2 (by omega)]; exact h4
theorem j_tell (hB : B + 1 < 2 ^ 31) (h : TR dc dm n m B) (f : Nat) (hf : f < 10) : JO dc dm m (B + 1) (z_bd (fX0_hold dc 30 (nI f)) fun yr9 yd10 => z_bd (fX5_emitsAfter yd10 yr9) fun yr11 yd12 => zif (yr11 = 0) (some ((0 : Int32), yd12)) (some ((1 : Int32), yd12))) (z_bd (fX6_eventOn dm 3 ((20 : Int32) + nI f)) fun yr5 yd6 => zif (yr5 = 0) (some ((0 : Int32), yd6)) (some ((1 : Int32), yd6))) := by
  obtain ⟨h1, h2, h3, h4⟩ := id h
  have hw := h2.1.1
  have h20 := we_20 hw
  have hH := h2.1.2.2.2.2.2.1
  unfold fX6_eventOn
  rw [show (20 : Int32) + nI f = nI (20 + f) from nI_add 20 f, zif_p (show (10 : Int32) ≤ nI (20 + f) from (le10 (by omega)).mpr (by omega)), zif_n (show ¬ nI (20 + f) = (10 : Int32) from fun z => by have := (nI_eq (b := 10) (by omega) (by omega)).mp z; omega), show nI (20 + f) - (20 : Int32) = nI (20 + f - 20) from pk_sub (b := 20) (by omega), show 20 + f - 20 = f by omega, show dm.1 3 (z_ix (81 : Int32)) = dm.1 3 81 from rfl]
  rcases ho_cases hH with hz | ⟨x, hx, hz⟩
  · have e0 : fX0_hold dc 30 (nI f) = some (0, dc) := c_hold0 (el := 29 + 1) h1.1 (Or.inr (Or.inr hz))
    rw [e0, bd_s, zif_p hz, bd_s, z00]
    unfold fX5_emitsAfter
    rw [z00, bd_s, z00]
    exact jo_no (r := false) h
  · obtain ⟨r, dc1, dc2, dm', q1, q2, q3, q4, q5, -, q8, q9⟩ := both_tell (x := x) (f := f) st29 (by omega) h3 hB h1 h2 hz (by omega) hf
    rw [show fX0_hold dc 30 (nI f) = some (1, dc1) from q1, bd_s, zif_n (by rw [hz]; exact i_ne9 (by omega)), q3, bd_s, bd_s, z10]
    unfold fX5_emitsAfter
    rw [z10, q2, bd_s, bd_s, z10]
    refine ⟨true, dc2, dm', n, rfl, rfl, ⟨q4, q5, ?_, ?_⟩, fr_w q8 (fun k hk => ks29' hk), fr_w q9 (fun k hk => ka3 hk)⟩
    · rw [q9.1 0 (by omega)]; exact h3
    · rw [q9.1 2 (by omega)]; exact h4
theorem km_70 {k : Nat} (h : Km k) : Sc k ∧ k ≠ 70 := ⟨km_sc h, by unfold Km at h; omega⟩
/-- comparing an answer with a figure -/
theorem zif_b {c : Prop} {d : Dt} : ∃ r : Bool, ∀ d : Dt, zif c (some ((1 : Int32), d)) (some ((0 : Int32), d)) = some (b2i r, d) := by
  by_cases h : c
  · exact ⟨true, fun d => by rw [zif_p h]; rfl⟩
  · exact ⟨false, fun d => by rw [zif_n h]; rfl⟩
theorem tr_fr {dc' dm' : Dt} (h : TR dc dm n m B) (fc : Fr Km dc dc') (fm : Fr K9 dm dm') : TR dc' dm' n m B := by
  obtain ⟨h1, h2, h3, h4⟩ := h
  refine ⟨?_, ?_, ?_, ?_⟩
  · rw [fm.1 3 (by omega)]; exact str_fr h2.1.2.2.2.1 h1 fc (fun k hk => by omega)
  · rw [fm.1 3 (by omega)]; exact h2
  · rw [fm.1 0 (by omega)]; exact h3
  · rw [fm.1 2 (by omega)]; exact h4
theorem j_num (h : TR dc dm n m B) (p t w : Nat) (hp : p < 10) (hw : w = 1 ∨ w = 2 ∨ w = 3) (om : Option (Int32 × Dt)) (hom : p < m → ∃ dm', (∀ x : Int32, x = nI t ∨ True → om = zif ((if w = 2 then nI (zc (oB (dm.1 3) n p) n) else if w = 3 then nI (heldN (dm.1 3) n p) else nI (zc (aB (dm.1 3) n p) n)) = nI t) (some ((1 : Int32), dm')) (some ((0 : Int32), dm'))) ∧ Fr K9 dm dm') (hom0 : ¬ p < m → om = some (0, dm)) : JO dc dm m (B + 1) (zif ((dc.1 29 2) ≤ nI p) (some ((0 : Int32), dc)) (z_bd (fX5_pathNumber dc 29 (nI p) (nI w)) fun yr13 yd14 => zif (yr13 = nI t) (some ((1 : Int32), yd14)) (some ((0 : Int32), yd14)))) om := by
  obtain ⟨h1, h2, h3, h4⟩ := id h
  have hm5 := h2.1.2.2.2.1
  rw [h1.2.1]
  by_cases hpm : p < m
  · rw [zif_n (show ¬ nI m ≤ nI p from fun z => by have := (nI_leI (by omega) (by omega)).mp z; omega)]
    obtain ⟨d1, e1, f1⟩ := c_number st29 h1 h2 hpm w (by omega)
    obtain ⟨dm', g1, g2⟩ := hom hpm
    rw [e1, bd_s, g1 0 (Or.inr trivial)]
    have ew : (if w = 0 then nI (rL (dm.1 3) p) else if w = 2 then nI (zc (oB (dm.1 3) n p) n) else if w = 3 then nI (heldN (dm.1 3) n p) else if w = 4 then (dm.1 3) (109 + p) else if w = 5 then nI (zc (dB (dm.1 3) n p) n) else nI (zc (aB (dm.1 3) n p) n)) = (if w = 2 then nI (zc (oB (dm.1 3) n p) n) else if w = 3 then nI (heldN (dm.1 3) n p) else nI (zc (aB (dm.1 3) n p) n)) := by
      rcases hw with rfl | rfl | rfl <;> rfl
    rw [ew]
    obtain ⟨r, hr⟩ := zif_b (d := dc) (c := (if w = 2 then nI (zc (oB (dm.1 3) n p) n) else if w = 3 then nI (heldN (dm.1 3) n p) else nI (zc (aB (dm.1 3) n p) n)) = nI t)
    rw [hr, hr]
    exact ⟨r, d1, dm', n, rfl, rfl, tr_m (by omega) (tr_fr h f1 g2), fr_w f1 (fun k hk => km_70 hk), fr_w g2 (fun k hk => k9_sm hk)⟩
  · rw [zif_p (show nI m ≤ nI p from (nI_leI (by omega) (by omega)).mpr (by omega)), hom0 hpm]
    exact jo_no (r := false) h
end JU
