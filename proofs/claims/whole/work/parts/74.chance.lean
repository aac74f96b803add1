/-! weights -/
def pcN (S : Nat) : Nat := zc (fun i => S.testBit i) 5
def wgt (x : Nat) (S : Nat) : Nat → Nat
  | 0 => 1
  | p + 1 => wgt x S p * (if S.testBit p then 10 - x else x)
def sumN (f : Nat → Nat) : Nat → Nat
  | 0 => 0
  | k + 1 => sumN f k + f k
theorem wgt_pc : ∀ m, m ≤ 5 → ∀ x, x ≤ 10 → ∀ S, S < 2 ^ m → wgt x S m = (10 - x) ^ pcN S * x ^ (m - pcN S) := by decide +kernel
theorem wgt_sum : ∀ m, m ≤ 5 → ∀ x, x ≤ 10 → sumN (fun S => wgt x S m) (2 ^ m) = 10 ^ m := by decide +kernel
theorem pc_le : ∀ m, m ≤ 5 → ∀ S, S < 2 ^ m → pcN S ≤ m := by decide +kernel
theorem m_onesS {S : Nat} (hS : S < 32) : fX6_ones (nI S) = some (nI (pcN S)) := by
  have e : nI S = zB (fun i => S.testBit i) 5 := zB_ext (by omega) (fun i hi => by
    rw [bt_nI S i hi]
    by_cases h5 : i < 5
    · simp [h5]
    · have : S.testBit i = false := Nat.testBit_lt_two_pow (Nat.lt_of_lt_of_le (show S < 2 ^ 5 from hS) (Nat.pow_le_pow_right (show 0 < 2 by decide) (show 5 ≤ i by omega)))
      simp [h5, this])
  rw [e, m_ones (by omega)]; rfl
theorem m_pow (x : Nat) {k : Nat} (hk : k < 2 ^ 31) : fX6_power (nI x) (nI k) = some (nI (x ^ k)) := by
  have key : Ok (z_lp (bX6_power_4 (nI k) (nI x)) (1, 0)) (fun t => t = nI (x ^ k)) := by
    refine ok_for k (fun i s => s = (nI (x ^ i), nI i)) ?_ ?_ 0 _ (by omega) rfl
    · rintro i s hi rfl
      unfold bX6_power_4
      refine ok_f (by rw [nI_leI (by omega) (by omega)]; omega) (ok_nm (ok_nm (ok_c ?_)))
      rw [pk_mul, Nat.pow_succ, show nI i + (1 : Int32) = nI (i + 1) from nI_1 i]
    · rintro s rfl
      unfold bX6_power_4
      exact ok_t (by rw [nI_leI (by omega) (by omega)]; omega) (ok_z rfl)
  obtain ⟨t, k1, rfl⟩ := key
  unfold fX6_power
  rw [k1, br_s]
