/-! counting bits as the library does -/
theorem nx_and (a b : Nat) : nI a &&& nI b = nI (a &&& b) := by
  apply Int32.toBitVec_inj.1
  show BitVec.ofNat 32 a &&& BitVec.ofNat 32 b = BitVec.ofNat 32 (a &&& b)
  apply BitVec.eq_of_getLsbD_eq
  intro i hi
  simp [hi]
theorem nx_or (a b : Nat) : nI a ||| nI b = nI (a ||| b) := by
  apply Int32.toBitVec_inj.1
  show BitVec.ofNat 32 a ||| BitVec.ofNat 32 b = BitVec.ofNat 32 (a ||| b)
  apply BitVec.eq_of_getLsbD_eq
  intro i hi
  simp [hi]
def pop : Nat → Nat → Nat
  | 0, _ => 0
  | k + 1, x => x % 2 + pop k (x / 2)
theorem pop_s (k x : Nat) : pop (k + 1) x = x % 2 + pop k (x / 2) := rfl
theorem pop_split : ∀ (k j x : Nat), pop (k + j) x = pop k (x % 2 ^ k) + pop j (x / 2 ^ k)
  | 0, j, x => by simp [pop]
  | k + 1, j, x => by
    have ih := pop_split k j (x / 2)
    rw [show k + 1 + j = (k + j) + 1 by omega]
    rw [pop_s, pop_s, ih]
    have e1 : x % 2 ^ (k + 1) % 2 = x % 2 := by
      rw [Nat.pow_succ]; exact Nat.mod_mul_left_mod x (2 ^ k) 2
    have e2 : x % 2 ^ (k + 1) / 2 = x / 2 % 2 ^ k := by
      rw [Nat.pow_succ, Nat.mul_comm, Nat.mod_mul_right_div_self]
    have e3 : x / 2 / 2 ^ k = x / 2 ^ (k + 1) := by
      rw [Nat.div_div_eq_div_mul, Nat.pow_succ, Nat.mul_comm]
    rw [e1, e2, e3]
    omega
theorem land8 (x m M : Nat) (hm : m < 256) : x &&& (m + 256 * M) = (x % 256 &&& m) + 256 * (x / 256 &&& M) := by
  have h1 : x = 2 ^ 8 * (x / 256) + x % 256 := by omega
  have hlt : x % 256 &&& m < 2 ^ 8 := Nat.lt_of_le_of_lt Nat.and_le_right (by omega)
  apply Nat.eq_of_testBit_eq
  intro i
  rw [Nat.testBit_and, show (x % 256 &&& m) + 256 * (x / 256 &&& M) = 2 ^ 8 * (x / 256 &&& M) + (x % 256 &&& m) by omega, Nat.testBit_two_pow_mul_add _ hlt, show m + 256 * M = 2 ^ 8 * M + m by omega, Nat.testBit_two_pow_mul_add _ (show m < 2 ^ 8 by omega)]
  rw [show x.testBit i = (2 ^ 8 * (x / 256) + x % 256).testBit i by rw [← h1], Nat.testBit_two_pow_mul_add _ (show x % 256 < 2 ^ 8 by omega)]
  by_cases hi : i < 8
  · simp [hi, Nat.testBit_and]
  · simp [hi, Nat.testBit_and]
def q1 (a : Nat) : Nat := a - (a / 2 &&& 85)
def q2 (a : Nat) : Nat := (q1 a &&& 51) + (q1 a / 4 &&& 51)
def r1 (c : Nat) : Nat := c - (c / 2 &&& 21845)
def r2 (c : Nat) : Nat := (r1 c &&& 13107) + (r1 c / 4 &&& 13107)
theorem qa : ∀ a, a < 256 → (a / 2 &&& 85) ≤ a ∧ q1 a < 256 ∧ q2 a ≤ 68 ∧ q2 a % 16 ≤ 4 ∧ (q2 a + q2 a / 16) % 16 = pop 8 a ∧ pop 8 a ≤ 8 := by decide +kernel
theorem qb : ∀ a, a < 256 → ∀ t, t < 2 → ((a / 2 + 128 * t) &&& 85) = (a / 2 &&& 85) := by decide +kernel
theorem qc : ∀ a, a < 256 → ∀ t, t < 4 → ((a / 4 + 64 * t) &&& 51) = (a / 4 &&& 51) := by decide +kernel
theorem qr : ∀ c, c < 16 → (c / 2 &&& 21845) ≤ c ∧ r1 c < 16 ∧ r2 c ≤ 4 ∧ ((r2 c + r2 c / 16) &&& 3855) = pop 4 c ∧ pop 4 c ≤ 4 := by decide +kernel
theorem qf (x : Nat) : x &&& 15 = x % 16 := Nat.and_two_pow_sub_one_eq_mod x 4
theorem g_1 {x : Nat} (hx : x < 1048576) : x - (x / 2 &&& 1431655765) = q1 (x % 256) + 256 * (q1 (x / 256 % 256) + 256 * r1 (x / 65536)) := by
  have e1 : (x / 2 &&& 1431655765) = (x / 2 % 256 &&& 85) + 256 * (x / 2 / 256 &&& 5592405) := land8 (x / 2) 85 5592405 (by omega)
  have e2 : (x / 2 / 256 &&& 5592405) = (x / 2 / 256 % 256 &&& 85) + 256 * (x / 2 / 256 / 256 &&& 21845) := land8 (x / 2 / 256) 85 21845 (by omega)
  have a1 : x / 2 % 256 = x % 256 / 2 + 128 * (x / 256 % 256 % 2) := by omega
  have a2 : x / 2 / 256 % 256 = x / 256 % 256 / 2 + 128 * (x / 65536 % 2) := by omega
  have a3 : x / 2 / 256 / 256 = x / 65536 / 2 := by omega
  rw [e1, e2, a1, a2, a3, qb _ (Nat.mod_lt _ (by omega)) _ (Nat.mod_lt _ (by omega)), qb _ (Nat.mod_lt _ (by omega)) _ (Nat.mod_lt _ (by omega))]
  have b1 := (qa (x % 256) (Nat.mod_lt _ (by omega))).1
  have b2 := (qa (x / 256 % 256) (Nat.mod_lt _ (by omega))).1
  have b3 := (qr (x / 65536) (by omega)).1
  unfold q1 r1
  omega
theorem g_2 {a b c : Nat} (ha : a < 256) (hb : b < 256) (hc : c < 16) : ((a + 256 * (b + 256 * c)) &&& 858993459) + ((a + 256 * (b + 256 * c)) / 4 &&& 858993459) = ((a &&& 51) + (a / 4 &&& 51)) + 256 * (((b &&& 51) + (b / 4 &&& 51)) + 256 * ((c &&& 13107) + (c / 4 &&& 13107))) := by
  have l : ∀ x, (x &&& 858993459) = (x % 256 &&& 51) + 256 * ((x / 256 % 256 &&& 51) + 256 * (x / 256 / 256 &&& 13107)) := fun x => by
    have e1 : (x &&& 858993459) = (x % 256 &&& 51) + 256 * (x / 256 &&& 3355443) := land8 x 51 3355443 (by omega)
    have e2 : (x / 256 &&& 3355443) = (x / 256 % 256 &&& 51) + 256 * (x / 256 / 256 &&& 13107) := land8 (x / 256) 51 13107 (by omega)
    rw [e1, e2]
  rw [l, l]
  have a1 : (a + 256 * (b + 256 * c)) % 256 = a := by omega
  have a2 : (a + 256 * (b + 256 * c)) / 256 % 256 = b := by omega
  have a3 : (a + 256 * (b + 256 * c)) / 256 / 256 = c := by omega
  have a4 : (a + 256 * (b + 256 * c)) / 4 % 256 = a / 4 + 64 * (b % 4) := by omega
  have a5 : (a + 256 * (b + 256 * c)) / 4 / 256 % 256 = b / 4 + 64 * (c % 4) := by omega
  have a6 : (a + 256 * (b + 256 * c)) / 4 / 256 / 256 = c / 4 := by omega
  rw [a1, a2, a3, a4, a5, a6, qc a ha _ (Nat.mod_lt _ (by omega)), qc b hb _ (Nat.mod_lt _ (by omega))]
  omega
theorem g_3 {a b c : Nat} (ha : a ≤ 68) (ha2 : a % 16 ≤ 4) (hb : b ≤ 68) (hb2 : b % 16 ≤ 4) (hc : c ≤ 4) : ((a + 256 * (b + 256 * c)) + (a + 256 * (b + 256 * c)) / 16) &&& 252645135 = (a + a / 16) % 16 + 256 * ((b + b / 16) % 16 + 256 * ((c + c / 16) &&& 3855)) := by
  have l : ∀ x, (x &&& 252645135) = (x % 256 &&& 15) + 256 * ((x / 256 % 256 &&& 15) + 256 * (x / 256 / 256 &&& 3855)) := fun x => by
    have e1 : (x &&& 252645135) = (x % 256 &&& 15) + 256 * (x / 256 &&& 986895) := land8 x 15 986895 (by omega)
    have e2 : (x / 256 &&& 986895) = (x / 256 % 256 &&& 15) + 256 * (x / 256 / 256 &&& 3855) := land8 (x / 256) 15 3855 (by omega)
    rw [e1, e2]
  rw [l]
  have hz : (a + 256 * (b + 256 * c)) / 16 = a / 16 + 16 * b + 4096 * c := by omega
  have hs : (a + 256 * (b + 256 * c)) + (a + 256 * (b + 256 * c)) / 16 = (a + a / 16 + 16 * (b % 16)) + 256 * ((b + b / 16 + 16 * (c % 16)) + 256 * (c + c / 16)) := by omega
  have l1 : a + a / 16 + 16 * (b % 16) < 256 := by omega
  have l2 : b + b / 16 + 16 * (c % 16) < 256 := by omega
  rw [hs]
  have a1 : ((a + a / 16 + 16 * (b % 16)) + 256 * ((b + b / 16 + 16 * (c % 16)) + 256 * (c + c / 16))) % 256 = a + a / 16 + 16 * (b % 16) := by omega
  have a2 : ((a + a / 16 + 16 * (b % 16)) + 256 * ((b + b / 16 + 16 * (c % 16)) + 256 * (c + c / 16))) / 256 % 256 = b + b / 16 + 16 * (c % 16) := by omega
  have a3 : ((a + a / 16 + 16 * (b % 16)) + 256 * ((b + b / 16 + 16 * (c % 16)) + 256 * (c + c / 16))) / 256 / 256 = c + c / 16 := by omega
  rw [a1, a2, a3, qf, qf]
  omega
theorem u1 {x : Nat} (h : x < 2 ^ 32) : ((nI x).toUInt32 >>> ((1 : Int32).toUInt32 &&& Int32.toUInt32 31)).toInt32 = nI (x / 2) := pk_ushrN (k := 1) h 1 (by decide)
theorem u2 {x : Nat} (h : x < 2 ^ 32) : ((nI x).toUInt32 >>> ((2 : Int32).toUInt32 &&& Int32.toUInt32 31)).toInt32 = nI (x / 4) := pk_ushrN (k := 2) h 2 (by decide)
theorem u4 {x : Nat} (h : x < 2 ^ 32) : ((nI x).toUInt32 >>> ((4 : Int32).toUInt32 &&& Int32.toUInt32 31)).toInt32 = nI (x / 16) := pk_ushrN (k := 4) h 4 (by decide)
theorem u8 {x : Nat} (h : x < 2 ^ 32) : ((nI x).toUInt32 >>> ((8 : Int32).toUInt32 &&& Int32.toUInt32 31)).toInt32 = nI (x / 256) := pk_ushrN (k := 8) h 8 (by decide)
theorem u16 {x : Nat} (h : x < 2 ^ 32) : ((nI x).toUInt32 >>> ((16 : Int32).toUInt32 &&& Int32.toUInt32 31)).toInt32 = nI (x / 65536) := pk_ushrN (k := 16) h 16 (by decide)
theorem k_2 {y : Nat} (h : y < 2 ^ 32) : (nI y &&& (858993459 : Int32)) + (((nI y).toUInt32 >>> ((2 : Int32).toUInt32 &&& Int32.toUInt32 31)).toInt32 &&& (858993459 : Int32)) = nI ((y &&& 858993459) + (y / 4 &&& 858993459)) := by
  rw [u2 h, show nI y &&& (858993459 : Int32) = nI (y &&& 858993459) from nx_and _ _, show nI (y / 4) &&& (858993459 : Int32) = nI (y / 4 &&& 858993459) from nx_and _ _, nI_add]
theorem k_3 {z : Nat} (h : z < 2 ^ 32) : ((nI z + ((nI z).toUInt32 >>> ((4 : Int32).toUInt32 &&& Int32.toUInt32 31)).toInt32) &&& (252645135 : Int32)) = nI ((z + z / 16) &&& 252645135) := by
  rw [u4 h, nI_add]; exact nx_and _ _
theorem k_4 {z : Nat} (h : z < 2 ^ 32) : nI z + ((nI z).toUInt32 >>> ((8 : Int32).toUInt32 &&& Int32.toUInt32 31)).toInt32 = nI (z + z / 256) := by
  rw [u8 h, nI_add]
theorem k_5 {z : Nat} (h : z < 2 ^ 32) : nI z + ((nI z).toUInt32 >>> ((16 : Int32).toUInt32 &&& Int32.toUInt32 31)).toInt32 = nI (z + z / 65536) := by
  rw [u16 h, nI_add]
theorem k_6 (z : Nat) : nI z &&& (63 : Int32) = nI (z % 64) := by
  rw [show nI z &&& (63 : Int32) = nI (z &&& 63) from nx_and _ _, show z &&& 63 = z % 64 from Nat.and_two_pow_sub_one_eq_mod z 6]
theorem bc_nat {x : Nat} (hx : x < 1048576) : fJ6_bitCount_0f7a4 (nI x) = some (nI (pop 20 x)) := by
  unfold fJ6_bitCount_0f7a4
  simp only [z_nme]
  have k1 : nI x - (nI (x / 2) &&& (1431655765 : Int32)) = nI (x - (x / 2 &&& 1431655765)) := by
    rw [show nI (x / 2) &&& (1431655765 : Int32) = nI (x / 2 &&& 1431655765) from nx_and _ _]
    exact pk_sub (Nat.le_trans Nat.and_le_left (Nat.div_le_self x 2))
  rw [u1 (by omega), k1, g_1 hx]
  obtain ⟨-, a2, a3, a4, a5, a6⟩ := qa (x % 256) (Nat.mod_lt _ (by omega))
  obtain ⟨-, b2, b3, b4, b5, b6⟩ := qa (x / 256 % 256) (Nat.mod_lt _ (by omega))
  obtain ⟨-, c2, c3, c4, c5⟩ := qr (x / 65536) (by omega)
  have hp : pop 20 x = pop 8 (x % 256) + (pop 8 (x / 256 % 256) + pop 4 (x / 65536)) := by
    rw [show 20 = 8 + 12 by rfl, pop_split 8 12 x, show 12 = 8 + 4 by rfl, pop_split 8 4]
    simp only [show (2 : Nat) ^ 8 = 256 by rfl, Nat.div_div_eq_div_mul]
  have e2 := g_2 a2 b2 c2
  rw [show (q1 (x % 256) &&& 51) + (q1 (x % 256) / 4 &&& 51) = q2 (x % 256) from rfl, show (q1 (x / 256 % 256) &&& 51) + (q1 (x / 256 % 256) / 4 &&& 51) = q2 (x / 256 % 256) from rfl, show (r1 (x / 65536) &&& 13107) + (r1 (x / 65536) / 4 &&& 13107) = r2 (x / 65536) from rfl] at e2
  have e3 := g_3 a3 a4 b3 b4 c3
  rw [a5, b5, c4] at e3
  rw [hp, k_2 (by omega), e2, k_3 (by omega), e3]
  generalize pop 8 (x % 256) = A at *
  generalize pop 8 (x / 256 % 256) = B at *
  generalize pop 4 (x / 65536) = C at *
  rw [k_4 (by omega), k_5 (by omega), k_6]
  congr 2
  have f1 : (A + 256 * (B + 256 * C)) / 256 = B + 256 * C := by omega
  rw [f1]
  have f2 : (A + 256 * (B + 256 * C) + (B + 256 * C)) / 65536 = C := by omega
  rw [f2]
  omega
/-! sets as numbers -/
def bn (f : Nat → Bool) : Nat → Nat
  | 0 => 0
  | n + 1 => bn f n + (if f n then 2 ^ n else 0)
theorem bn_lt (f : Nat → Bool) : ∀ n, bn f n < 2 ^ n
  | 0 => by simp [bn]
  | n + 1 => by
    have := bn_lt f n
    show bn f n + _ < _
    rw [Nat.pow_succ]
    split <;> omega
theorem zB_bn (f : Nat → Bool) : ∀ n, n ≤ 31 → zB f n = nI (bn f n)
  | 0, _ => rfl
  | n + 1, h => by
    rw [zB_s, zB_bn f n (by omega)]
    show _ = nI (bn f n + _)
    cases f n
    · simp [or_0]
    · simp only [if_true]
      have e1 : (1 : Int32) <<< (nI n &&& 31) = nI (2 ^ n) := by
        apply b_ext
        intro i hi
        rw [b_one (by omega) hi]
        show _ = (BitVec.ofNat 32 (2 ^ n)).getLsbD i
        rw [BitVec.getLsbD_ofNat, Nat.testBit_two_pow]
        simp [hi, eq_comm]
      rw [e1, nx_or]
      congr 1
      have h2 := Nat.two_pow_add_eq_or_of_lt (bn_lt f n) 1
      rw [Nat.mul_one] at h2
      rw [Nat.or_comm, ← h2, Nat.add_comm]
theorem bn_shift (f : Nat → Bool) : ∀ n, bn f (n + 1) = (if f 0 then 1 else 0) + 2 * bn (fun i => f (i + 1)) n
  | 0 => by simp [bn]
  | n + 1 => by
    show bn f (n + 1) + (if f (n + 1) = true then 2 ^ (n + 1) else 0) = _ + 2 * (bn (fun i => f (i + 1)) n + (if f (n + 1) = true then 2 ^ n else 0))
    rw [bn_shift f n, Nat.pow_succ]
    generalize (if f 0 = true then 1 else 0) = z
    by_cases hf : f (n + 1) = true
    · rw [if_pos hf, if_pos hf]; omega
    · rw [if_neg hf, if_neg hf]; omega
theorem zc_shift (f : Nat → Bool) : ∀ n, zc f (n + 1) = (if f 0 then 1 else 0) + zc (fun i => f (i + 1)) n
  | 0 => by simp [zc]
  | n + 1 => by
    rw [zc_s, zc_shift f n, zc_s]
    omega
theorem pop_bn : ∀ (n : Nat) (f : Nat → Bool), pop n (bn f n) = zc f n
  | 0, f => rfl
  | n + 1, f => by
    have ih := pop_bn n (fun i => f (i + 1))
    rw [pop_s, bn_shift, zc_shift]
    have e1 : ((if f 0 = true then 1 else 0) + 2 * bn (fun i => f (i + 1)) n) % 2 = if f 0 = true then 1 else 0 := by split <;> omega
    have e2 : ((if f 0 = true then 1 else 0) + 2 * bn (fun i => f (i + 1)) n) / 2 = bn (fun i => f (i + 1)) n := by split <;> omega
    rw [e1, e2, ih]
theorem c_bits {f : Nat → Bool} {n : Nat} (hn : n ≤ 20) : fJ6_bitCount_0f7a4 (zB f n) = some (nI (zc f n)) := by
  have e1 : zB f n = zB (fun i => decide (i < n) && f i) 20 := by
    rw [zB_grow (m := 20) hn (fun i h1 _ => by simp [show ¬ i < n by omega])]
    exact zB_cong (fun i hi => by simp [hi])
  have e2 : zc f n = zc (fun i => decide (i < n) && f i) 20 := by
    rw [zc_grow (m := 20) hn (fun i h1 _ => by simp [show ¬ i < n by omega])]
    exact zc_cong (fun i hi => by simp [hi])
  rw [e1, e2, zB_bn _ 20 (by omega), bc_nat (bn_lt _ 20), pop_bn]
/-! the bits below the lowest one -/
theorem b_neg (x : Int32) {i : Nat} (hi : i < 32) : bt (-x) i = (bt x i ^^ decide (∃ j, j < i ∧ bt x j = true)) := by
  unfold bt
  rw [Int32.toBitVec_neg, BitVec.getLsbD_neg]
  simp [hi]
theorem b_dec : ∀ k, k < 32 → ∀ i, i < 32 → bt (((1 : Int32) <<< (nI k &&& 31)) - 1) i = decide (i < k) := by decide +kernel
theorem b_low (f : Nat → Bool) {n : Nat} (hn : n ≤ 32) {i : Nat} (hi : i < 32) : bt ((zB f n &&& (-(zB f n))) - 1) i = !zany (fun j => decide (j < n) && f j) (i + 1) := by
  by_cases he : ∃ k, k < n ∧ f k = true
  · obtain ⟨k, ⟨hk, hfk⟩, hmin⟩ := pk_least (fun k => k < n ∧ f k = true) he
    have e1 : zB f n &&& (-(zB f n)) = (1 : Int32) <<< (nI k &&& 31) := by
      apply b_ext
      intro j hj
      rw [b_and, b_neg _ hj, b_one (by omega) hj, bt_zB _ _ hn j hj]
      by_cases hjk : j = k
      · subst hjk
        have : ¬ ∃ x, x < j ∧ bt (zB f n) x = true := by
          rintro ⟨x, hx, hb⟩
          rw [bt_zB _ _ hn x (by omega)] at hb
          simp only [Bool.and_eq_true, decide_eq_true_eq] at hb
          exact hmin x hx hb
        simp [this, hk, hfk]
      · by_cases hlt : j < k
        · have : (decide (j < n) && f j) = false := by
            rcases bool2 (decide (j < n) && f j) with g | g
            · exact g
            · simp only [Bool.and_eq_true, decide_eq_true_eq] at g
              exact absurd g (hmin j hlt)
          rw [this]; simp [hjk]
        · have : ∃ x, x < j ∧ bt (zB f n) x = true := ⟨k, by omega, by rw [bt_zB _ _ hn k (by omega)]; simp [hk, hfk]⟩
          simp [this, hjk]
    rw [e1, b_dec k (by omega) i hi]
    by_cases hik : i < k
    · have : zany (fun j => decide (j < n) && f j) (i + 1) = false := by
        rcases bool2 (zany (fun j => decide (j < n) && f j) (i + 1)) with g | g
        · exact g
        · obtain ⟨x, hx, hb⟩ := zany_t.mp g
          simp only [Bool.and_eq_true, decide_eq_true_eq] at hb
          exact absurd hb (hmin x (by omega))
      rw [this]; simp [hik]
    · have : zany (fun j => decide (j < n) && f j) (i + 1) = true := zany_t.mpr ⟨k, by omega, by simp [hk, hfk]⟩
      rw [this]; simp [hik]
  · have h0 : zB f n = 0 := (zB_0 hn).mpr (fun i hi => by
      rcases bool2 (f i) with g | g
      · exact g
      · exact absurd ⟨i, hi, g⟩ he)
    rw [h0, show ((0 : Int32) &&& (-0)) - 1 = -1 by decide, b_m1 i hi]
    have : zany (fun j => decide (j < n) && f j) (i + 1) = false := by
      rcases bool2 (zany (fun j => decide (j < n) && f j) (i + 1)) with g | g
      · exact g
      · obtain ⟨x, hx, hb⟩ := zany_t.mp g
        simp only [Bool.and_eq_true, decide_eq_true_eq] at hb
        exact absurd ⟨x, hb⟩ he
    rw [this]; rfl
