/-! shares -/
def fcN : Nat → Nat
  | 0 => 1
  | k + 1 => fcN k * (k + 1)
theorem m_fact {k : Nat} (hk : k < 100) : fX6_factorial (nI k) = some (nI (fcN k)) := by
  have key : Ok (z_lp (bX6_factorial_4 (nI k)) (1, 2)) (fun t => t = nI (fcN k)) := by
    rcases Nat.eq_zero_or_pos k with h0 | h0
    · subst h0
      have hs : bX6_factorial_4 (nI 0) (1, 2) = some (.inr 1) := by
        unfold bX6_factorial_4
        exact zif_p (by decide)
      rw [z_lp_eq, hs]; exact ⟨_, rfl, rfl⟩
    · refine ok_for (k - 1) (fun i s => s = (nI (fcN (i + 1)), nI (i + 2))) ?_ ?_ 0 _ (by omega) rfl
      · rintro i s hi rfl
        unfold bX6_factorial_4
        refine ok_f (fun z => by have := (nI_ltI (by omega) (by omega)).mp z; omega) (ok_nm (ok_nm (ok_c ?_)))
        rw [pk_mul, show nI (i + 2) + (1 : Int32) = nI (i + 2 + 1) from nI_1 _]; rfl
      · rintro s rfl
        unfold bX6_factorial_4
        exact ok_t ((nI_ltI (by omega) (by omega)).mpr (by omega)) (ok_z (by rw [show k - 1 + 1 = k by omega]))
  obtain ⟨t, k1, rfl⟩ := key
  unfold fX6_factorial
  rw [k1, br_s]
theorem sum_add {f g : Nat → Nat} : ∀ k, sumN (fun i => f i + g i) k = sumN f k + sumN g k
  | 0 => rfl
  | k + 1 => by show sumN (fun i => f i + g i) k + (f k + g k) = (sumN f k + f k) + (sumN g k + g k); rw [sum_add k]; omega
theorem sum_cong {f g : Nat → Nat} : ∀ {k : Nat}, (∀ i, i < k → f i = g i) → sumN f k = sumN g k
  | 0, _ => rfl
  | k + 1, h => by show sumN f k + f k = sumN g k + g k; rw [sum_cong (fun i hi => h i (by omega)), h k (by omega)]
theorem sum_0 : ∀ k, sumN (fun _ => 0) k = 0
  | 0 => rfl
  | k + 1 => by show sumN (fun _ => 0) k + 0 = 0; rw [sum_0 k]
theorem sum_swap {t : Nat → Nat} {g : Nat → Nat → Bool} {K : Nat} : ∀ n, sumN (fun S => t S * zc (g S) n) K = sumN (fun e => sumN (fun S => if g S e then t S else 0) K) n
  | 0 => by show sumN (fun S => t S * 0) K = 0; exact sum_0 K
  | n + 1 => by
    show _ = sumN (fun e => sumN (fun S => if g S e then t S else 0) K) n + sumN (fun S => if g S n then t S else 0) K
    rw [← sum_swap n, ← sum_add]
    refine sum_cong (fun S _ => ?_)
    rw [zc_s, Nat.mul_add]
    cases g S n <;> simp
theorem sum_mul {f : Nat → Nat} {c : Nat} : ∀ k, sumN (fun i => f i * c) k = sumN f k * c
  | 0 => by show 0 = 0 * c; rw [Nat.zero_mul]
  | k + 1 => by show sumN (fun i => f i * c) k + f k * c = (sumN f k + f k) * c; rw [sum_mul k, Nat.add_mul]
/-- one element's part, in all orders -/
def ordA (m p A : Nat) : Nat := sumN (fun S => if S.testBit p || zany (fun q => S.testBit q && A.testBit q) m then 0 else fcN (pcN S) * fcN (m - 1 - pcN S)) (2 ^ m)
theorem ord_eq : ∀ m, m ≤ 5 → ∀ p, p < m → ∀ A, A < 2 ^ m → A.testBit p = true → ordA m p A * 60 = 60 / zc (fun q => A.testBit q) m * fcN m := by decide +kernel
theorem pc_lt : ∀ m, m ≤ 5 → ∀ p, p < m → ∀ S, S < 2 ^ m → S.testBit p = false → pcN S ≤ m - 1 := by decide +kernel
def mkA (f : Nat → Bool) : Nat → Nat
  | 0 => 0
  | q + 1 => mkA f q + (if f q then 2 ^ q else 0)
theorem mkA_lt (f : Nat → Bool) : ∀ m, mkA f m < 2 ^ m
  | 0 => by show 0 < 1; omega
  | m + 1 => by
    have := mkA_lt f m
    show mkA f m + _ < 2 ^ (m + 1)
    rw [Nat.pow_succ]; split <;> omega
theorem mkA_bit (f : Nat → Bool) : ∀ m q, q < m → (mkA f m).testBit q = f q
  | m + 1, q, hq => by
    have hlt := mkA_lt f m
    show (mkA f m + (if f m then 2 ^ m else 0)).testBit q = f q
    by_cases hqm : q = m
    · subst hqm
      cases f q
      · simp [Nat.testBit_lt_two_pow hlt]
      · simp only [if_true]
        rw [Nat.add_comm, Nat.testBit_two_pow_add_eq, Nat.testBit_lt_two_pow hlt]; rfl
    · have ih := mkA_bit f m q (by omega)
      cases f m
      · simpa using ih
      · simp only [if_true]
        rw [Nat.add_comm, Nat.testBit_two_pow_add_gt (by omega)]; exact ih
/-- the same, by what the paths answer -/
def ordF (m p : Nat) (f : Nat → Bool) : Nat := sumN (fun S => if S.testBit p || zany (fun q => S.testBit q && f q) m then 0 else fcN (pcN S) * fcN (m - 1 - pcN S)) (2 ^ m)
theorem ordF_eq {m p : Nat} {f : Nat → Bool} (hm : m ≤ 5) (hp : p < m) (hf : f p = true) : ordF m p f * 60 = 60 / zc f m * fcN m := by
  have h := ord_eq m hm p hp (mkA f m) (mkA_lt f m) (by rw [mkA_bit f m p hp]; exact hf)
  have e1 : ordA m p (mkA f m) = ordF m p f := by
    unfold ordA ordF
    refine sum_cong (fun S _ => ?_)
    rw [zany_cong (fun q hq => by rw [mkA_bit f m q hq])]
  rw [e1, zc_cong (fun q hq => mkA_bit f m q hq)] at h
  exact h
