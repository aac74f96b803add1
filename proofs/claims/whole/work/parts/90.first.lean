/-! AT FIRST both sides hold alike -/
theorem m0_n {k : Nat} (h : k ≠ 2) : dM0.1 k = dM1.1 k := dM0_f.1 k h
theorem rel_0 : Rel dC0 dM0 0 := by
  have m0 : ∀ j, j ≠ 13 → dM0.1 0 j = 0 := by
    intro j hj
    rw [m0_n (by omega)]
    exact if_neg (fun q => hj q.2)
  refine ⟨⟨0, 0, ⟨⟨rfl, ?_, ?_, ?_, fun e he => by omega⟩, rfl, fun p hp => by omega⟩, ?_⟩, ⟨0, by omega, rfl, m0 1 (by omega), fun i hi => by omega⟩, ⟨0, 0, by omega, by omega, rfl, m0 5 (by omega), rfl, m0 6 (by omega), fun j hj => by omega⟩, ?_, ⟨0, by omega, rfl, m0 11 (by omega), fun i hi => by omega⟩, ?_, ?_⟩
  · rw [dM0_2]; rfl
  · rw [dM0_2]; rfl
  · rw [dM0_2]; rfl
  · rw [dM0_2]; exact inv_clr
  · intro s hs
    left
    refine ⟨?_, ?_⟩
    · exact d0_ne (by unfold isEl; omega) s
    · rw [m0_n (by omega)]
      rfl
  · exact dM0_f.2.symm
  · rw [m0_n (by omega)]; rfl
