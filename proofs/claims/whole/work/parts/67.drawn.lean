def nxR (x : Int64) : Int64 := (x * (6364136223846793005 : Int64)) + (1442695040888963407 : Int64)
noncomputable def drM (i : Int32) (yd5 : Dt) : Option ((Int32 × Dt) ⊕ Dt) := z_nm ((((yd5.2).toUInt64 >>> ((33 : Int32).toInt64.toUInt64 &&& Int64.toUInt64 63)).toInt64).toInt32) fun yv6 => z_nm (yv6 - yv6 / (8 : Int32) * (8 : Int32)) fun yv7 => zif ((4 : Int32) ≤ yv7) (zif ((6 : Int32) ≤ yv7) (jX6_drawn_101 yd5 i ((20 : Int32) + ((yv6 / (8 : Int32)) - (yv6 / (8 : Int32)) / (10 : Int32) * (10 : Int32)))) (jX6_drawn_101 yd5 i (10 : Int32))) (jX6_drawn_101 yd5 i ((yv6 / (8 : Int32)) - (yv6 / (8 : Int32)) / (5 : Int32) * (5 : Int32)))
noncomputable def drC (ya1 : Nat) (yd1 : Dt) : Option Dt := z_nm ((((yd1.2).toUInt64 >>> ((33 : Int32).toInt64.toUInt64 &&& Int64.toUInt64 63)).toInt64).toInt32) fun yv2 => z_nm (yv2 - yv2 / (8 : Int32) * (8 : Int32)) fun yv3 => zif ((3 : Int32) < yv3) (zif ((5 : Int32) < yv3) (z_bd (fX0_hold yd1 ya1 ((yv2 / (8 : Int32)) - (yv2 / (8 : Int32)) / (10 : Int32) * (10 : Int32))) fun yr4 yd5 => some yd5) (z_bd (fX0_leave yd1 ya1) fun yr6 yd7 => some yd7)) (z_bd (fX0_enter yd1 ya1 ((yv2 / (8 : Int32)) - (yv2 / (8 : Int32)) / (5 : Int32) * (5 : Int32))) fun yr8 yd9 => some yd9)
theorem dr_mx (N i : Int32) (d : Dt) (h : ¬ N ≤ i) (o : Option ((Int32 × Dt) ⊕ Dt)) (ho : ∀ x, x = nxR d.2 → z_nm (z_sl d x) (fun yd5 => z_nm ((((yd5.2).toUInt64 >>> ((33 : Int32).toInt64.toUInt64 &&& Int64.toUInt64 63)).toInt64).toInt32) fun yv6 => z_nm (yv6 - yv6 / (8 : Int32) * (8 : Int32)) fun yv7 => zif ((4 : Int32) ≤ yv7) (zif ((6 : Int32) ≤ yv7) (jX6_drawn_101 yd5 i ((20 : Int32) + ((yv6 / (8 : Int32)) - (yv6 / (8 : Int32)) / (10 : Int32) * (10 : Int32)))) (jX6_drawn_101 yd5 i (10 : Int32))) (jX6_drawn_101 yd5 i ((yv6 / (8 : Int32)) - (yv6 / (8 : Int32)) / (5 : Int32) * (5 : Int32)))) = o) : bX6_drawn_28 N (i, d) = o := by
  unfold bX6_drawn_28
  exact (zif_n h).trans (ho _ rfl)
theorem dr_m28 (N i : Int32) (d : Dt) (h : ¬ N ≤ i) (o : Option ((Int32 × Dt) ⊕ Dt)) (ho : ∀ x, x = nxR d.2 → drM i (z_sl d x) = o) : bX6_drawn_28 N (i, d) = o := by
  refine dr_mx N i d h o (fun x hx => ?_)
  rw [z_nme]
  have := ho x hx
  unfold drM at this
  exact this
theorem dr_cx (d : Dt) (ya1 : Nat) (o : Option Dt) (ho : ∀ x, x = nxR d.2 → z_nm (z_sl d x) (fun yd1 => z_nm ((((yd1.2).toUInt64 >>> ((33 : Int32).toInt64.toUInt64 &&& Int64.toUInt64 63)).toInt64).toInt32) fun yv2 => z_nm (yv2 - yv2 / (8 : Int32) * (8 : Int32)) fun yv3 => zif ((3 : Int32) < yv3) (zif ((5 : Int32) < yv3) (z_bd (fX0_hold yd1 ya1 ((yv2 / (8 : Int32)) - (yv2 / (8 : Int32)) / (10 : Int32) * (10 : Int32))) fun yr4 yd5 => some yd5) (z_bd (fX0_leave yd1 ya1) fun yr6 yd7 => some yd7)) (z_bd (fX0_enter yd1 ya1 ((yv2 / (8 : Int32)) - (yv2 / (8 : Int32)) / (5 : Int32) * (5 : Int32))) fun yr8 yd9 => some yd9)) = o) : fX5_drawEvent d ya1 = o := by
  unfold fX5_drawEvent
  exact ho _ rfl
theorem dr_c28 (d : Dt) (el : Nat) (o : Option Dt) (ho : ∀ x, x = nxR d.2 → drC el (z_sl d x) = o) : fX5_drawEvent d el = o := by
  refine dr_cx d el o (fun x hx => ?_)
  rw [z_nme]
  have := ho x hx
  unfold drC at this
  exact this
section DX
variable {dc dm : Dt} {n m B : Nat}
theorem d_drawx (hB : B + 1 < 2 ^ 31) (h : DR dc dm n m B) {i : Nat} (x : Int64) : ∃ dc' dm' n', drC 30 (z_sl dc x) = some dc' ∧ drM (nI i) (z_sl dm x) = some (.inl (nI (i + 1), dm')) ∧ DR dc' dm' n' m (B + 1) ∧ Fr Sc dc (z_sl dc' dc.2) ∧ Fr Sm dm (z_sl dm' dm.2) := by
  obtain ⟨w, hw, ew⟩ := d_rnd x
  have h' : DR (z_sl dc x) (z_sl dm x) n m B := ⟨h.1, h.2.1, h.2.2.1, h.2.2.2.1, h.2.2.2.2.1, rfl⟩
  have e8 : nI w / (8 : Int32) = nI (w / 8) := pk_div (d := 8) hw (by omega) (by omega)
  have r8 : nI w - nI (w / 8) * (8 : Int32) = nI (w % 8) := by rw [← e8]; exact pk_rem (d := 8) hw (by omega) (by omega)
  have r5 : nI (w / 8) - nI (w / 8) / (5 : Int32) * (5 : Int32) = nI (w / 8 % 5) := pk_rem (d := 5) (by omega) (by omega) (by omega)
  have r10 : nI (w / 8) - nI (w / 8) / (10 : Int32) * (10 : Int32) = nI (w / 8 % 10) := pk_rem (d := 10) (by omega) (by omega) (by omega)
  unfold drC drM jX6_drawn_101
  simp only [z_nme]
  rw [show (z_sl dc x).2 = x from rfl, show (z_sl dm x).2 = x from rfl, ew, e8, r8, r5, r10]
  have fin : ∀ oc om, DO (z_sl dc x) (z_sl dm x) m (B + 1) oc om → ∃ dc' dm' n', (z_bd oc fun _ d => some d) = some dc' ∧ (z_bd om fun (_ : Int32) d => some (Sum.inl (nI i + (1 : Int32), d) : (Int32 × Dt) ⊕ Dt)) = some (.inl (nI (i + 1), dm')) ∧ DR dc' dm' n' m (B + 1) ∧ Fr Sc dc (z_sl dc' dc.2) ∧ Fr Sm dm (z_sl dm' dm.2) := by
    rintro oc om ⟨rc, rm, dc', dm', n', rfl, rfl, q1, q2, q3⟩
    refine ⟨dc', dm', n', by rw [bd_s], by rw [bd_s, show nI i + (1 : Int32) = nI (i + 1) from nI_1 i], q1, ?_, ?_⟩
    · exact fr_sl (fr_w q2 (fun k hk => by unfold Sc; have := hk.1; have := hk.2; omega))
    · exact fr_sl (fr_w q3 (fun k hk => ka3 hk))
  by_cases k3 : w % 8 ≤ 3
  · rw [zif_n (show ¬ (3 : Int32) < nI (w % 8) from fun z => by have := (nI_ltI (a := 3) (by omega) (by omega)).mp z; omega), zif_n (show ¬ (4 : Int32) ≤ nI (w % 8) from fun z => by have := (nI_leI (a := 4) (by omega) (by omega)).mp z; omega)]
    exact fin _ _ (d_open hB h' (by omega))
  · rw [zif_p (show (3 : Int32) < nI (w % 8) from (nI_ltI (a := 3) (by omega) (by omega)).mpr (by omega)), zif_p (show (4 : Int32) ≤ nI (w % 8) from (nI_leI (a := 4) (by omega) (by omega)).mpr (by omega))]
    by_cases k5 : w % 8 ≤ 5
    · rw [zif_n (show ¬ (5 : Int32) < nI (w % 8) from fun z => by have := (nI_ltI (a := 5) (by omega) (by omega)).mp z; omega), zif_n (show ¬ (6 : Int32) ≤ nI (w % 8) from fun z => by have := (nI_leI (a := 6) (by omega) (by omega)).mp z; omega)]
      exact fin _ _ (d_close hB h')
    · rw [zif_p (show (5 : Int32) < nI (w % 8) from (nI_ltI (a := 5) (by omega) (by omega)).mpr (by omega)), zif_p (show (6 : Int32) ≤ nI (w % 8) from (nI_leI (a := 6) (by omega) (by omega)).mpr (by omega))]
      exact fin _ _ (d_tell hB h' (by omega))
theorem d_draw (hB : B + 1 < 2 ^ 31) (h : DR dc dm n m B) {N i : Nat} (hN : N < 2 ^ 31) (hi : i < N) : ∃ dc' dm' n', fX5_drawEvent dc 30 = some dc' ∧ bX6_drawn_28 (nI N) (nI i, dm) = some (.inl (nI (i + 1), dm')) ∧ DR dc' dm' n' m (B + 1) ∧ Fr Sc dc (z_sl dc' dc.2) ∧ Fr Sm dm (z_sl dm' dm.2) := by
  obtain ⟨dc', dm', n', q1, q2, q3⟩ := d_drawx hB h (i := i) (nxR dm.2)
  refine ⟨dc', dm', n', dr_c28 _ _ _ (fun x hx => ?_), dr_m28 _ _ _ (fun z => by have := (nI_leI hN (by omega)).mp z; omega) _ (fun x hx => ?_), q3⟩
  · rw [hx, h.2.2.2.2.2]; exact q1
  · rw [hx]; exact q2
end DX
