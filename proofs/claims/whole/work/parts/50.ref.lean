/-! THE REFERENCE: its small functions -/
theorem lg_lt (x y : Int64) : lg_cmp x y < 0 ↔ x < y := by
  unfold lg_cmp
  by_cases h : x > y
  · rw [if_pos h]
    exact ⟨fun z => absurd z (by decide), fun z => absurd (Int64.lt_trans z h) Int64.lt_irrefl⟩
  · rw [if_neg h]
    by_cases e : x = y
    · rw [if_pos e]
      exact ⟨fun z => absurd z (by decide), fun z => absurd (e ▸ z) Int64.lt_irrefl⟩
    · rw [if_neg e]
      refine ⟨fun _ => ?_, fun _ => by decide⟩
      rw [Int64.lt_iff_toInt_lt]
      have h1 : ¬ y.toInt < x.toInt := fun z => h (Int64.lt_iff_toInt_lt.mpr z)
      have h2 : ¬ x.toInt = y.toInt := fun z => e (Int64.toInt_inj.mp z)
      omega
theorem lg_gt (x y : Int64) : 0 < lg_cmp x y ↔ y < x := by
  unfold lg_cmp
  by_cases h : x > y
  · rw [if_pos h]
    exact ⟨fun _ => h, fun _ => by decide⟩
  · rw [if_neg h]
    refine ⟨fun z => ?_, fun z => absurd z h⟩
    by_cases e : x = y
    · rw [if_pos e] at z; exact absurd z (by decide)
    · rw [if_neg e] at z; exact absurd z (by decide)
theorem lg_eq (x y : Int64) : lg_cmp x y = 0 ↔ x = y := by
  unfold lg_cmp
  by_cases h : x > y
  · rw [if_pos h]
    exact ⟨fun z => absurd z (by decide), fun z => absurd (z ▸ h) Int64.lt_irrefl⟩
  · rw [if_neg h]
    by_cases e : x = y
    · rw [if_pos e]; exact ⟨fun _ => e, fun _ => rfl⟩
    · rw [if_neg e]; exact ⟨fun z => absurd z (by decide), fun z => absurd z e⟩
theorem in_1 {x y z : Int64} (h1 : y ≤ x) (h2 : x ≤ z) : fX6_in x y z = some 1 := by
  unfold fX6_in
  rw [zif_n (by rw [lg_lt]; exact Int64.not_lt.mpr h1), zif_n (by rw [lg_gt]; exact Int64.not_lt.mpr h2)]
theorem in_0 {x y z : Int64} (h : x < y ∨ z < x) : fX6_in x y z = some 0 := by
  unfold fX6_in
  by_cases h1 : x < y
  · rw [zif_p ((lg_lt _ _).mpr h1)]
  · rw [zif_n (by rw [lg_lt]; exact h1), zif_p ((lg_gt _ _).mpr (h.resolve_left h1))]
theorem in_1i {x a b : Int32} (h1 : a ≤ x) (h2 : x ≤ b) : fX6_in x.toInt64 a.toInt64 b.toInt64 = some 1 := in_1 (Int32.toInt64_le.mpr h1) (Int32.toInt64_le.mpr h2)
theorem in_0i {x a b : Int32} (h : x < a ∨ b < x) : fX6_in x.toInt64 a.toInt64 b.toInt64 = some 0 := in_0 (h.imp Int32.toInt64_lt.mpr Int32.toInt64_lt.mpr)
/-- a number is one of the first m, or it isn't -/
theorem is_cases (x : Int32) {m : Nat} (hm : m < 2 ^ 31) : (∃ p, p < m ∧ x = nI p) ∨ (x < 0 ∨ nI m ≤ x) := by
  by_cases h0 : x < 0
  · exact Or.inr (Or.inl h0)
  · obtain ⟨j, hj, rfl⟩ := nI_of h0
    rcases Nat.lt_or_ge j m with h | h
    · exact Or.inl ⟨j, h, rfl⟩
    · exact Or.inr (Or.inr ((nI_leI hm hj).mpr h))
theorem i_lt_toInt {x y : Int32} : x < y ↔ x.toInt < y.toInt := Int32.lt_iff_toInt_lt
theorem i_le_toInt {x y : Int32} : x ≤ y ↔ x.toInt ≤ y.toInt := Int32.le_iff_toInt_le
theorem in_p {p m : Nat} (hp : p < m) (hm : m < 2 ^ 31) : fX6_in (nI p).toInt64 0 (nI m - 1).toInt64 = some 1 := by
  rw [i_sub1 (by omega)]
  exact in_1i (a := 0) (nI_pos' (by omega)) ((nI_leI (by omega) (by omega)).mpr (by omega))
theorem in_n {x : Int32} {m : Nat} (hm : m < 2 ^ 31) (h : x < 0 ∨ nI m ≤ x) : fX6_in x.toInt64 0 (nI m - 1).toInt64 = some 0 := by
  by_cases h0 : x < 0
  · exact in_0i (a := 0) (Or.inl h0)
  · have h1 := h.resolve_left h0
    rcases Nat.eq_zero_or_pos m with hz | hz
    · subst hz
      refine in_0i (a := 0) (Or.inr ?_)
      have e : nI 0 - 1 = (-1 : Int32) := by decide
      rw [e, i_lt_toInt]
      have : ¬ x.toInt < 0 := fun z => h0 (i_lt_toInt.mpr z)
      have e2 : (-1 : Int32).toInt = -1 := by decide
      omega
    · rw [i_sub1 hz]
      refine in_0i (a := 0) (Or.inr ?_)
      obtain ⟨j, hj, rfl⟩ := nI_of h0
      have := (nI_leI hm hj).mp h1
      exact (nI_ltI (by omega) hj).mpr (by omega)
theorem m_isPath1 {d : Dt} {p m : Nat} (h : d.1 2 83 = nI m) (hp : p < m) (hm : m ≤ 5) : fX6_isPath d (nI p) = some 1 := by
  unfold fX6_isPath
  rw [show d.1 2 (z_ix (83 : Int32)) = nI m from h, in_p hp (by omega), br_s]
theorem m_isPath0 {d : Dt} {x : Int32} {m : Nat} (h : d.1 2 83 = nI m) (hm : m ≤ 5) (hx : x < 0 ∨ nI m ≤ x) : fX6_isPath d x = some 0 := by
  unfold fX6_isPath
  rw [show d.1 2 (z_ix (83 : Int32)) = nI m from h, in_n (by omega) hx, br_s]
theorem m_isEl1 {d : Dt} {e n : Nat} (h : d.1 2 80 = nI n) (he : e < n) (hn : n ≤ 20) : fX6_isElement d (nI e) = some 1 := by
  unfold fX6_isElement
  rw [show d.1 2 (z_ix (80 : Int32)) = nI n from h, in_p he (by omega), br_s]
theorem m_isEl0 {d : Dt} {x : Int32} {n : Nat} (h : d.1 2 80 = nI n) (hn : n ≤ 20) (hx : x < 0 ∨ nI n ≤ x) : fX6_isElement d x = some 0 := by
  unfold fX6_isElement
  rw [show d.1 2 (z_ix (80 : Int32)) = nI n from h, in_n (by omega) hx, br_s]
theorem c_isPath1 {d : Dt} {p m : Nat} (h : d.1 1 2 = nI m) (hp : p < m) (hm : m ≤ 5) : fX5_isPath d (nI p) = some 1 := by
  unfold fX5_isPath
  rw [h, zif_n (nI_pos (by omega)), zif_n (by rw [nI_leI (by omega) (by omega)]; omega)]
theorem c_isPath0 {d : Dt} {x : Int32} {m : Nat} (h : d.1 1 2 = nI m) (hx : x < 0 ∨ nI m ≤ x) : fX5_isPath d x = some 0 := by
  unfold fX5_isPath
  rw [h]
  by_cases h0 : x < 0
  · rw [zif_p h0]
  · rw [zif_n h0, zif_p (hx.resolve_left h0)]
theorem c_isEl1 {d : Dt} {e n : Nat} (h : d.1 2 6 = nI n) (he : e < n) (hn : n ≤ 20) : fX5_isElement d (nI e) = some 1 := by
  unfold fX5_isElement
  rw [h, zif_n (nI_pos (by omega)), zif_n (by rw [nI_leI (by omega) (by omega)]; omega)]
theorem c_isEl0 {d : Dt} {x : Int32} {n : Nat} (h : d.1 2 6 = nI n) (hx : x < 0 ∨ nI n ≤ x) : fX5_isElement d x = some 0 := by
  unfold fX5_isElement
  rw [h]
  by_cases h0 : x < 0
  · rw [zif_p h0]
  · rw [zif_n h0, zif_p (hx.resolve_left h0)]
/-! rows copied -/
theorem le214 {c : Nat} (h : c < 2 ^ 31) : (214 : Int32) ≤ nI c ↔ 214 ≤ c := nI_leI (a := 214) (by omega) h
theorem m_copy (d : Dt) {a0 a1 : Nat} (ha : a0 ≠ a1) : ∃ d', fX6_copy d a0 a1 = some d' ∧ (∀ j, j < 214 → d'.1 a1 j = d.1 a0 j) ∧ Fr (fun k => k = a1) d d' := by
  have key : Ok (z_lp (bX6_copy_2 a1 a0) (0, d)) (fun t => (∀ j, j < 214 → t.1 a1 j = d.1 a0 j) ∧ Fr (fun k => k = a1) d t) := by
    refine ok_for 214 (fun i s => ∃ d2, s = (nI i, d2) ∧ (∀ j, j < i → d2.1 a1 j = d.1 a0 j) ∧ Fr (fun k => k = a1) d d2) ?_ ?_ 0 _ (by omega) ⟨d, rfl, fun j hj => by omega, fr_r⟩
    · rintro i s hi ⟨d2, rfl, h2, hf⟩
      unfold bX6_copy_2
      refine ok_f (by rw [le214 (by omega)]; omega) (ok_gi (vp_in_nI (by omega) (by omega)) (ok_gi (vp_in_nI (by omega) (by omega)) (ok_nm (ok_nm (ok_c ⟨_, congrArg (fun z => (z, _)) (nI_1 i), fun j hj => ?_, fr_t hf (fr_st rfl)⟩)))))
      rw [ix_nI (by omega), hf.1 a0 ha]
      by_cases hji : j = i
      · subst hji; rw [st_eq]
      · rw [st_j hji]; exact h2 j (by omega)
    · rintro s ⟨d2, rfl, h2, hf⟩
      unfold bX6_copy_2
      exact ok_t (by rw [le214 (by omega)]; omega) (ok_z ⟨h2, hf⟩)
  obtain ⟨d', k1, k2, k3⟩ := key
  refine ⟨d', ?_, k2, k3⟩
  unfold fX6_copy
  rw [k1, br_s]
