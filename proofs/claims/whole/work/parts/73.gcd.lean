/-! lowest terms -/
theorem gcd_low {a b c d : Nat} (hb : 0 < b) (hd : 0 < d) (h : a * d = c * b) : a / Nat.gcd a b = c / Nat.gcd c d ∧ b / Nat.gcd a b = d / Nat.gcd c d := by
  have hg : 0 < Nat.gcd a b := Nat.gcd_pos_of_pos_right _ hb
  have hh : 0 < Nat.gcd c d := Nat.gcd_pos_of_pos_right _ hd
  have e : Nat.gcd a b * d = Nat.gcd c d * b := by
    rw [← Nat.gcd_mul_right, ← Nat.gcd_mul_right, h, Nat.mul_comm b d]
  have pos : 0 < Nat.gcd a b * d := Nat.mul_pos hg hd
  have ea : a / Nat.gcd a b * Nat.gcd a b = a := Nat.div_mul_cancel (Nat.gcd_dvd_left a b)
  have eb : b / Nat.gcd a b * Nat.gcd a b = b := Nat.div_mul_cancel (Nat.gcd_dvd_right a b)
  have ec : c / Nat.gcd c d * Nat.gcd c d = c := Nat.div_mul_cancel (Nat.gcd_dvd_left c d)
  have ed : d / Nat.gcd c d * Nat.gcd c d = d := Nat.div_mul_cancel (Nat.gcd_dvd_right c d)
  constructor
  · apply Nat.eq_of_mul_eq_mul_right pos
    rw [← Nat.mul_assoc, ea, e, ← Nat.mul_assoc, ec, h]
  · apply Nat.eq_of_mul_eq_mul_right pos
    rw [← Nat.mul_assoc, eb, e, ← Nat.mul_assoc, ed, Nat.mul_comm]
theorem m_gcd : ∀ (b a : Nat), a < 2 ^ 31 → b < 2 ^ 31 → z_lp bX6_fraction_14 (nI a, nI b) = some (nI (Nat.gcd a b)) := by
  intro b
  induction b using Nat.strongRecOn with
  | ind b ih =>
    intro a ha hb
    rcases Nat.eq_zero_or_pos b with h0 | h0
    · subst h0
      have hs : bX6_fraction_14 (nI a, nI 0) = some (.inr (nI a)) := by
        unfold bX6_fraction_14
        exact zif_p rfl
      rw [z_lp_eq, hs, Nat.gcd_zero_right]
    · have hne := nI_ne0 h0 hb
      have hs : bX6_fraction_14 (nI a, nI b) = some (.inl (nI b, nI (a % b))) := by
        unfold bX6_fraction_14
        refine (zif_n hne).trans ?_
        rw [z_dc_t hne, gd_t, z_nme, pk_rem ha h0 hb]
      have hlt := Nat.mod_lt a h0
      rw [z_lp_eq, hs]
      show z_lp bX6_fraction_14 (nI b, nI (a % b)) = _
      rw [ih (a % b) hlt b hb (by omega), Nat.gcd_comm a b, Nat.gcd_rec b a, Nat.gcd_comm (a % b) b]
theorem c_gcd : ∀ (k a b i : Nat), a < 2 ^ 31 → b < 2 ^ 31 → b < 2 ^ k → i + 2 * k + 2 ≤ 64 → z_lp bX5_greatestDivisor_7 (nI a, nI b, nI i) = some (nI (Nat.gcd a b)) := by
  have stop : ∀ (a i : Nat), z_lp bX5_greatestDivisor_7 (nI a, nI 0, nI i) = some (nI a) := by
    intro a i
    by_cases hi : (64 : Int32) ≤ nI i
    · have hs : bX5_greatestDivisor_7 (nI a, nI 0, nI i) = some (.inr (nI a)) := by
        unfold bX5_greatestDivisor_7
        exact zif_p hi
      rw [z_lp_eq, hs]
    · have hs : bX5_greatestDivisor_7 (nI a, nI 0, nI i) = some (.inr (nI a)) := by
        unfold bX5_greatestDivisor_7
        exact (zif_n hi).trans (zif_p rfl)
      rw [z_lp_eq, hs]
  have step : ∀ (a b i : Nat), a < 2 ^ 31 → b < 2 ^ 31 → 0 < b → i < 64 → z_lp bX5_greatestDivisor_7 (nI a, nI b, nI i) = z_lp bX5_greatestDivisor_7 (nI b, nI (a % b), nI (i + 1)) := by
    intro a b i ha hb h0 hi
    have hne := nI_ne0 h0 hb
    have hs : bX5_greatestDivisor_7 (nI a, nI b, nI i) = some (.inl (nI b, nI (a % b), nI (i + 1))) := by
      unfold bX5_greatestDivisor_7
      refine (zif_n (show ¬ (64 : Int32) ≤ nI i from fun z => by have := (nI_leI (a := 64) (by omega) (by omega)).mp z; omega)).trans ((zif_n hne).trans ?_)
      rw [z_dc_t hne, gd_t, z_nme, z_nme, pk_rem ha h0 hb, show nI i + (1 : Int32) = nI (i + 1) from nI_1 i]
    rw [z_lp_eq, hs]
  intro k
  induction k with
  | zero =>
    intro a b i ha hb hk hi
    have : b = 0 := by omega
    subst this
    rw [stop, Nat.gcd_zero_right]
  | succ k ih =>
    intro a b i ha hb hk hi
    rcases Nat.eq_zero_or_pos b with h0 | h0
    · subst h0; rw [stop, Nat.gcd_zero_right]
    · have hlt := Nat.mod_lt a h0
      rw [step a b i ha hb h0 (by omega), Nat.gcd_comm a b, Nat.gcd_rec b a]
      rcases Nat.eq_zero_or_pos (a % b) with h1 | h1
      · rw [h1, stop, Nat.gcd_zero_left]
      · generalize hr : a % b = r at *
        have hlt2 := Nat.mod_lt b h1
        rw [step b r (i + 1) hb (by omega) h1 (by omega), Nat.gcd_rec r b, Nat.gcd_comm (b % r) r]
        refine ih r (b % r) (i + 1 + 1) (by omega) (by omega) ?_ (by omega)
        have hdm := Nat.div_add_mod b r
        have hq : 1 ≤ b / r := Nat.div_pos (by omega) h1
        have hmul : r ≤ r * (b / r) := Nat.le_mul_of_pos_right r hq
        have : 2 ^ (k + 1) = 2 * 2 ^ k := by rw [Nat.pow_succ, Nat.mul_comm]
        omega
theorem m_frac {a b : Nat} (ha : a < 2 ^ 31) (hb0 : 0 < b) (hb : b < 2 ^ 31) (u : Int32) : fX6_fraction (nI a) (nI b) u = some (zif (u = 0) (nI (b / Nat.gcd a b)) (nI (a / Nat.gcd a b))) := by
  have hg : 0 < Nat.gcd a b := Nat.gcd_pos_of_pos_right _ hb0
  have hgl : Nat.gcd a b < 2 ^ 31 := Nat.lt_of_le_of_lt (Nat.gcd_le_right a hb0) hb
  have hne := nI_ne0 hg hgl
  unfold fX6_fraction
  rw [z_nme, zif_p (nI_pos' ha), m_gcd b a ha hb, br_s]
  show zif (u = 0) _ _ = _
  rw [z_dc_t hne, gd_t, gd_t, pk_div hb hg hgl, pk_div ha hg hgl]
  by_cases h : u = 0
  · rw [zif_p h, zif_p h]
  · rw [zif_n h, zif_n h]
theorem c_low {a b : Nat} (ha : a < 2 ^ 31) (hb0 : 0 < b) (hb : b < 2 ^ 31) (hb2 : b < 2 ^ 30) (u : Int32) : fX5_inLowestTerms (nI a) (nI b) u = some (zif (u = 0) (nI (b / Nat.gcd a b)) (nI (a / Nat.gcd a b))) := by
  have hg : 0 < Nat.gcd a b := Nat.gcd_pos_of_pos_right _ hb0
  have hgl : Nat.gcd a b < 2 ^ 31 := Nat.lt_of_le_of_lt (Nat.gcd_le_right a hb0) hb
  have hne := nI_ne0 hg hgl
  have hgd : fX5_greatestDivisor (nI a) (nI b) = some (nI (Nat.gcd a b)) := by
    unfold fX5_greatestDivisor
    rw [show z_lp bX5_greatestDivisor_7 (nI a, nI b, 0) = _ from c_gcd 30 a b 0 ha hb hb2 (by omega), br_s]
  unfold fX5_inLowestTerms
  rw [hgd, br_s, z_nme, zif_n (nI_nle hg hgl), z_dc_t hne, gd_t]
  by_cases h : u = 0
  · rw [zif_p h, zif_p h, pk_div hb hg hgl]
  · rw [zif_n h, zif_n h, pk_div ha hg hgl]
