/-! reading: what both readers hold between two letters -/
def Gd (x : Nat) : Prop := x < 2000 ∧ x % 100 < 16 ∧ x / 100 % 10 ≤ 5
def RD (em : Bool) (base : Row) (dc dm : Dt) (ρ : Row) (n m k : Nat) : Prop := StR dc 29 ρ n m ∧ Inv0 ρ n m k ∧ dm.1 0 19 = nI m ∧ dm.1 0 22 = nI k ∧ dm.1 0 24 = nI (cdep ρ) ∧ dm.1 0 25 = nI n ∧ (em = true → InvW ρ n m ∧ EvP base (dm.1 13) (dm.1 14) (dm.1 15) m k n ρ)
def PS (dc dm : Dt) (m L : Nat) (c : Nat → Nat) : Prop := m < 5 ∧ L ≤ 4 ∧ dc.1 65 1 = nI L ∧ dm.1 13 m = nI L ∧ (∀ i, i < L → dc.1 66 i = nI (c i) ∧ dm.1 14 (4 * m + i) = nI (c i)) ∧ ∀ i, i + 1 < L → Gd (c i)
def Ph (dc dm : Dt) (ρ : Row) (n m k : Nat) : Prop :=
  (dm.1 0 18 = 0 ∧ ((k = 0 ∧ dc.1 65 2 = 1) ∨ (0 < k ∧ dc.1 65 2 = 2)))
  ∨ (k = 0 ∧ dm.1 0 18 = 1 ∧ dc.1 65 2 = 3 ∧ PS dc dm m 0 (fun _ => 0))
  ∨ (k = 0 ∧ ∃ L c, PS dc dm m (L + 1) c ∧ ((dm.1 0 18 = 2 ∧ dc.1 65 2 = 4 ∧ (c L = 0 ∨ c L = 1000)) ∨ (Gd (c L) ∧ ((c L % 100 = 0 ∧ ((dm.1 0 18 = 3 ∧ dc.1 65 2 = 5) ∨ (dm.1 0 18 = 4 ∧ dc.1 65 2 = 6) ∨ (dm.1 0 18 = 5 ∧ dc.1 65 2 = 7))) ∨ (dm.1 0 18 = 6 ∧ dc.1 65 2 = 8) ∨ (dm.1 0 18 = 7 ∧ dc.1 65 2 = 9)))))
  ∨ (dm.1 0 18 = 8 ∧ dc.1 65 2 = 10 ∧ May ρ n)
def RX (em : Bool) (base : Row) (dc dm : Dt) (K : Nat) : Prop := ∃ ρ n m k, k ≤ K ∧ RD em base dc dm ρ n m k ∧ Ph dc dm ρ n m k
def RO (em : Bool) (base : Row) (dc dm : Dt) (K : Nat) (oc om : Option (Int32 × Dt)) : Prop := ∃ dc1 dm1, Fr Sc dc dc1 ∧ FrM dm dm1 ∧ ((oc = some (0, dc1) ∧ om = some (0, dm1)) ∨ (oc = some (1, dc1) ∧ om = some (1, dm1) ∧
    ((dc1.1 30 8 = dc.1 30 8 ∧ RX em base dc1 dm1 (K + 1)) ∨ (¬ dc1.1 30 8 = dc.1 30 8 ∧ ((em = false ∧ RX em base dc1 dm1 (K + 1)) ∨ (em = true ∧ ∃ r dc2, fX3_emitAll dc1 29 = some (r, dc2) ∧ Fr Sc dc1 dc2 ∧ RX em base dc2 dm1 (K + 1)))))))
section RD
variable {em : Bool} {base : Row} {dc dm dc1 dm1 : Dt} {ρ : Row} {n m k K : Nat}
theorem sc65 : Sc 65 := by unfold Sc; omega
theorem sc66 : Sc 66 := by unfold Sc; omega
theorem sm13 : Sm 13 := by unfold Sm; omega
theorem sm14 : Sm 14 := by unfold Sm; omega
theorem sm15 : Sm 15 := by unfold Sm; omega
theorem frm_r {d : Dt} : FrM d d := ⟨fun _ _ _ => rfl, fun _ _ => rfl, rfl⟩
theorem frm_st {d : Dt} {a j : Nat} {v : Int32} (h : Sm a) : FrM d (z_st d a j v) := frm_of (fr_st h)
theorem frm_0 {d : Dt} {j : Nat} {v : Int32} (h : 14 ≤ j) : FrM d (z_st d 0 j v) := ⟨fun k _ h2 => st_k h2, fun i hi => st_j (by omega), rfl⟩
abbrev Kr : Nat → Prop := fun k => k = 65 ∨ k = 66
theorem rd_keep (h : RD em base dc dm ρ n m k) (hf : Fr Kr dc dc1) (m19 : dm1.1 0 19 = dm.1 0 19) (m22 : dm1.1 0 22 = dm.1 0 22) (m24 : dm1.1 0 24 = dm.1 0 24) (m25 : dm1.1 0 25 = dm.1 0 25)
    (g13 : ∀ i, i < m → dm1.1 13 i = dm.1 13 i) (g14 : ∀ i, i < 4 * m → dm1.1 14 i = dm.1 14 i) (g15 : dm1.1 15 = dm.1 15) : RD em base dc1 dm1 ρ n m k := by
  obtain ⟨h1, h2, h3, h4, h5, h6, h7⟩ := h
  refine ⟨str_fr h2.2.2.2.1 h1 hf (fun k hk => by omega), h2, m19.trans h3, m22.trans h4, m24.trans h5, m25.trans h6, fun e => ⟨(h7 e).1, ?_⟩⟩
  exact ev_pc g13 g14 (fun i _ => by rw [g15]) (h7 e).2
theorem ro_0 {oc om : Option (Int32 × Dt)} (hf : Fr Sc dc dc1) (hm : FrM dm dm1) (h1 : oc = some (0, dc1)) (h2 : om = some (0, dm1)) : RO em base dc dm K oc om := ⟨dc1, dm1, hf, hm, Or.inl ⟨h1, h2⟩⟩
theorem kr_sc {k : Nat} (h : Kr k) : Sc k := by unfold Sc; omega
theorem ro_1 {oc om : Option (Int32 × Dt)} (hf : Fr Kr dc dc1) (hm : FrM dm dm1) (h1 : oc = some (1, dc1)) (h2 : om = some (1, dm1)) (h : RX em base dc1 dm1 (K + 1)) : RO em base dc dm K oc om := ⟨dc1, dm1, fr_w hf (fun _ => kr_sc), hm, Or.inr ⟨h1, h2, Or.inl ⟨by rw [hf.1 30 (by omega)], h⟩⟩⟩
/-! the classes' words by phase and part -/
theorem tk_0 {x : Int32} (h : dc.1 65 2 = 0) : fX4_takes dc x 29 = fX4_goesOn dc (zif (x = (68 : Int32)) (1 : Int32) (0 : Int32)) (1 : Int32) := by
  unfold fX4_takes
  rw [z_nme, h, zif_p (show (0 : Int32) = 0 from rfl), z_nme, bd_id]
theorem tk_1 {x : Int32} (h : dc.1 65 2 = 1) : fX4_takes dc x 29 = zif (x = (113 : Int32)) (fX4_beginsPath dc 29) (fX4_takesEvent dc x 30) := by
  unfold fX4_takes
  rw [z_nme, h, zif_n (show ¬ (1 : Int32) = 0 by decide), zif_p (show (1 : Int32) = 1 from rfl), bd_id, bd_id]
theorem tk_2 {x : Int32} (h : dc.1 65 2 = 2) : fX4_takes dc x 29 = fX4_takesEvent dc x 30 := by
  unfold fX4_takes
  rw [z_nme, h, zif_n (show ¬ (2 : Int32) = 0 by decide), zif_n (show ¬ (2 : Int32) = 1 by decide), zif_p (show (2 : Int32) = 2 from rfl), bd_id]
theorem tk_3 {x : Int32} (h : dc.1 65 2 = 3) : fX4_takes dc x 29 = fX4_takesAxis dc x := by
  unfold fX4_takes
  rw [z_nme, h, zif_n (show ¬ (3 : Int32) = 0 by decide), zif_n (show ¬ (3 : Int32) = 1 by decide), zif_n (show ¬ (3 : Int32) = 2 by decide), zif_p (show (3 : Int32) = 3 from rfl), bd_id]
theorem tk_4 {x : Int32} (h : dc.1 65 2 = 4) : fX4_takes dc x 29 = fX4_takesTest dc x := by
  unfold fX4_takes
  rw [z_nme, h, zif_n (show ¬ (4 : Int32) = 0 by decide), zif_n (show ¬ (4 : Int32) = 1 by decide), zif_n (show ¬ (4 : Int32) = 2 by decide), zif_n (show ¬ (4 : Int32) = 3 by decide), zif_p (show (4 : Int32) = 4 from rfl), bd_id]
theorem tk_5 {x : Int32} (h : dc.1 65 2 = 5) : fX4_takes dc x 29 = zif (x = (91 : Int32)) (fX4_goesOn dc (1 : Int32) (6 : Int32)) (fX4_takesNextStep dc x 29) := by
  unfold fX4_takes
  rw [z_nme, h, zif_n (show ¬ (5 : Int32) = 0 by decide), zif_n (show ¬ (5 : Int32) = 1 by decide), zif_n (show ¬ (5 : Int32) = 2 by decide), zif_n (show ¬ (5 : Int32) = 3 by decide), zif_n (show ¬ (5 : Int32) = 4 by decide), zif_p (show (5 : Int32) = 5 from rfl), bd_id, bd_id]
theorem tk_6 {x : Int32} (h : dc.1 65 2 = 6) : fX4_takes dc x 29 = zif (x = (61 : Int32)) (fX4_goesOn dc (1 : Int32) (7 : Int32)) (fX4_takesChildName dc x) := by
  unfold fX4_takes
  rw [z_nme, h, zif_n (show ¬ (6 : Int32) = 0 by decide), zif_n (show ¬ (6 : Int32) = 1 by decide), zif_n (show ¬ (6 : Int32) = 2 by decide), zif_n (show ¬ (6 : Int32) = 3 by decide), zif_n (show ¬ (6 : Int32) = 4 by decide), zif_n (show ¬ (6 : Int32) = 5 by decide), zif_p (show (6 : Int32) = 6 from rfl), bd_id, bd_id]
theorem tk_7 {x : Int32} (h : dc.1 65 2 = 7) : fX4_takes dc x 29 = fX4_takesFigure dc x := by
  unfold fX4_takes
  rw [z_nme, h, zif_n (show ¬ (7 : Int32) = 0 by decide), zif_n (show ¬ (7 : Int32) = 1 by decide), zif_n (show ¬ (7 : Int32) = 2 by decide), zif_n (show ¬ (7 : Int32) = 3 by decide), zif_n (show ¬ (7 : Int32) = 4 by decide), zif_n (show ¬ (7 : Int32) = 5 by decide), zif_n (show ¬ (7 : Int32) = 6 by decide), zif_p (show (7 : Int32) = 7 from rfl), bd_id]
theorem tk_8 {x : Int32} (h : dc.1 65 2 = 8) : fX4_takes dc x 29 = fX4_goesOn dc (zif (x = (93 : Int32)) (1 : Int32) (0 : Int32)) (9 : Int32) := by
  unfold fX4_takes
  rw [z_nme, h, zif_n (show ¬ (8 : Int32) = 0 by decide), zif_n (show ¬ (8 : Int32) = 1 by decide), zif_n (show ¬ (8 : Int32) = 2 by decide), zif_n (show ¬ (8 : Int32) = 3 by decide), zif_n (show ¬ (8 : Int32) = 4 by decide), zif_n (show ¬ (8 : Int32) = 5 by decide), zif_n (show ¬ (8 : Int32) = 6 by decide), zif_n (show ¬ (8 : Int32) = 7 by decide), zif_p (show (8 : Int32) = 8 from rfl), z_nme, bd_id]
theorem tk_9 {x : Int32} (h : dc.1 65 2 = 9) : fX4_takes dc x 29 = fX4_takesNextStep dc x 29 := by
  unfold fX4_takes
  rw [z_nme, h, zif_n (show ¬ (9 : Int32) = 0 by decide), zif_n (show ¬ (9 : Int32) = 1 by decide), zif_n (show ¬ (9 : Int32) = 2 by decide), zif_n (show ¬ (9 : Int32) = 3 by decide), zif_n (show ¬ (9 : Int32) = 4 by decide), zif_n (show ¬ (9 : Int32) = 5 by decide), zif_n (show ¬ (9 : Int32) = 6 by decide), zif_n (show ¬ (9 : Int32) = 7 by decide), zif_n (show ¬ (9 : Int32) = 8 by decide), zif_p (show (9 : Int32) = 9 from rfl), bd_id]
theorem tk_10 {x : Int32} (h : dc.1 65 2 = 10) : fX4_takes dc x 29 = z_br (fX4_nameOf x) fun yr30 => z_bd (fX0_enter dc 30 yr30) fun yr31 yd32 => fX4_goesOn yd32 yr31 (2 : Int32) := by
  unfold fX4_takes
  rw [z_nme, h, zif_n (show ¬ (10 : Int32) = 0 by decide), zif_n (show ¬ (10 : Int32) = 1 by decide), zif_n (show ¬ (10 : Int32) = 2 by decide), zif_n (show ¬ (10 : Int32) = 3 by decide), zif_n (show ¬ (10 : Int32) = 4 by decide), zif_n (show ¬ (10 : Int32) = 5 by decide), zif_n (show ¬ (10 : Int32) = 6 by decide), zif_n (show ¬ (10 : Int32) = 7 by decide), zif_n (show ¬ (10 : Int32) = 8 by decide), zif_n (show ¬ (10 : Int32) = 9 by decide), zif_p (show (10 : Int32) = 10 from rfl)]
  simp only [bd_id]
theorem mk_0 {x : Int32} (h : dm.1 0 18 = 0) : fX6_take dm x = fX6_takeTop dm x := by
  unfold fX6_take
  rw [z_nme, z_nme, h, zif_p (show (0 : Int32) = 0 from rfl), bd_id]
theorem mk_1 {x : Int32} (h : dm.1 0 18 = 1) : fX6_take dm x = fX6_takeAxis dm x := by
  unfold fX6_take
  rw [z_nme, z_nme, h, zif_n (show ¬ (1 : Int32) = 0 by decide), zif_p (show (1 : Int32) = 1 from rfl), bd_id]
theorem mk_3 {x : Int32} (h : dm.1 0 18 = 3) : fX6_take dm x = fX6_takeBehind dm x := by
  unfold fX6_take
  rw [z_nme, z_nme, h, zif_n (show ¬ (3 : Int32) = 0 by decide), zif_n (show ¬ (3 : Int32) = 1 by decide), zif_n (show ¬ (3 : Int32) = 2 by decide), zif_p (show (3 : Int32) = 3 from rfl), bd_id]
theorem mk_6 {x : Int32} (h : dm.1 0 18 = 6) : fX6_take dm x = zif (x = (93 : Int32)) (some ((1 : Int32), z_st dm 0 18 7)) (some ((0 : Int32), z_st dm 0 18 7)) := by
  unfold fX6_take
  rw [z_nme, z_nme, h, zif_n (show ¬ (6 : Int32) = 0 by decide), zif_n (show ¬ (6 : Int32) = 1 by decide), zif_n (show ¬ (6 : Int32) = 2 by decide), zif_n (show ¬ (6 : Int32) = 3 by decide), zif_n (show ¬ (6 : Int32) = 4 by decide), zif_n (show ¬ (6 : Int32) = 5 by decide), zif_p (show (6 : Int32) = 6 from rfl), z_nme]
theorem mk_7 {x : Int32} (h : dm.1 0 18 = 7) : fX6_take dm x = fX6_takeBehind dm x := by
  unfold fX6_take
  rw [z_nme, z_nme, h, zif_n (show ¬ (7 : Int32) = 0 by decide), zif_n (show ¬ (7 : Int32) = 1 by decide), zif_n (show ¬ (7 : Int32) = 2 by decide), zif_n (show ¬ (7 : Int32) = 3 by decide), zif_n (show ¬ (7 : Int32) = 4 by decide), zif_n (show ¬ (7 : Int32) = 5 by decide), zif_n (show ¬ (7 : Int32) = 6 by decide), zif_p (show (7 : Int32) = 7 from rfl), bd_id]
end RD
