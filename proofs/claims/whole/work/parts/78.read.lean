/-! THE PUBLIC METHODS: fault, task: letters, and what has been read -/
theorem bd_id {o : Option (Int32 × Dt)} : z_bd o (fun r d => some (r, d)) = o := by
  cases o with
  | none => rfl
  | some q => rfl
theorem go_1 (d : Dt) (v : Int32) : fX4_goesOn d 1 v = some (1, z_st d 65 2 v) := by
  unfold fX4_goesOn
  rw [z10, z_nme]
theorem go_0 (d : Dt) (v : Int32) : fX4_goesOn d 0 v = some (0, d) := by
  unfold fX4_goesOn
  rw [z00]
theorem nI_all (x : Int32) : ∃ k, x = nI k := by
  refine ⟨x.toBitVec.toNat, ?_⟩
  apply Int32.toBitVec_inj.mp
  apply BitVec.eq_of_toNat_eq
  have h2 : (nI x.toBitVec.toNat).toBitVec = BitVec.ofNat 32 x.toBitVec.toNat := rfl
  rw [h2, BitVec.toNat_ofNat, Nat.mod_eq_of_lt x.toBitVec.isLt]
theorem nm_cases {c : Nat} (hc : c < 256) : (∃ v, v < 5 ∧ nI c - (97 : Int32) = nI v ∧ fX4_nameOf (nI c) = some (nI v) ∧ fX6_in ((nI c - (97 : Int32)).toInt64) (0 : Int64) (4 : Int64) = some 1) ∨ (fX4_nameOf (nI c) = some (-9) ∧ fX6_in ((nI c - (97 : Int32)).toInt64) (0 : Int64) (4 : Int64) = some 0) := by
  unfold fX4_nameOf
  by_cases h1 : c < 97
  · right
    refine ⟨zif_p ((nI_ltI (b := 97) (by omega) (by omega)).mpr h1), ?_⟩
    have hlt : ∀ c, c < 97 → nI c - (97 : Int32) < 0 := by decide +kernel
    exact in_0i (a := 0) (b := 4) (Or.inl (hlt c h1))
  · by_cases h2 : 101 < c
    · right
      refine ⟨by rw [zif_n (show ¬ nI c < (97 : Int32) from fun z => h1 ((nI_ltI (b := 97) (by omega) (by omega)).mp z)), zif_p (show (101 : Int32) < nI c from (nI_ltI (a := 101) (by omega) (by omega)).mpr h2)], ?_⟩
      rw [show nI c - (97 : Int32) = nI (c - 97) from pk_sub (b := 97) (by omega)]
      exact in_0i (a := 0) (b := 4) (Or.inr ((nI_ltI (a := 4) (by omega) (by omega)).mpr (by omega)))
    · left
      have e : nI c - (97 : Int32) = nI (c - 97) := pk_sub (b := 97) (by omega)
      refine ⟨c - 97, by omega, e, ?_, ?_⟩
      · rw [zif_n (show ¬ nI c < (97 : Int32) from fun z => h1 ((nI_ltI (b := 97) (by omega) (by omega)).mp z)), zif_n (show ¬ (101 : Int32) < nI c from fun z => h2 ((nI_ltI (a := 101) (by omega) (by omega)).mp z)), e]
      · rw [e]
        exact in_1i (a := 0) (b := 4) ((nI_leI (a := 0) (by omega) (by omega)).mpr (by omega)) ((nI_leI (b := 4) (by omega) (by omega)).mpr (by omega))
theorem fg_cases {c : Nat} (hc : c < 256) : (∃ f, f < 10 ∧ c = 48 + f ∧ fX4_figureOf (nI c) = some (nI f) ∧ fX6_in ((nI c).toInt64) (48 : Int64) (57 : Int64) = some 1) ∨ (fX4_figureOf (nI c) = some (-9) ∧ fX6_in ((nI c).toInt64) (48 : Int64) (57 : Int64) = some 0 ∧ (c < 48 ∨ 57 < c)) := by
  unfold fX4_figureOf
  by_cases h1 : c < 48
  · right
    have h := (nI_ltI (b := 48) (show c < 2 ^ 31 by omega) (by omega)).mpr h1
    exact ⟨zif_p h, in_0i (a := 48) (b := 57) (Or.inl h), Or.inl h1⟩
  · by_cases h2 : 57 < c
    · right
      have h : (57 : Int32) < nI c := (nI_ltI (a := 57) (b := c) (by omega) (by omega)).mpr h2
      exact ⟨by rw [zif_n (show ¬ nI c < (48 : Int32) from fun z => h1 ((nI_ltI (b := 48) (by omega) (by omega)).mp z)), zif_p h], in_0i (a := 48) (b := 57) (Or.inr h), Or.inr h2⟩
    · left
      refine ⟨c - 48, by omega, by omega, ?_, ?_⟩
      · rw [zif_n (show ¬ nI c < (48 : Int32) from fun z => h1 ((nI_ltI (b := 48) (by omega) (by omega)).mp z)), zif_n (show ¬ (57 : Int32) < nI c from fun z => h2 ((nI_ltI (a := 57) (by omega) (by omega)).mp z)), show nI c - (48 : Int32) = nI (c - 48) from pk_sub (b := 48) (by omega)]
      · exact in_1i (a := 48) (b := 57) ((nI_leI (a := 48) (by omega) (by omega)).mpr (by omega)) ((nI_leI (b := 57) (by omega) (by omega)).mpr (by omega))
/-! the depth of the current element -/
section CD
variable {ρ ρ' : Row} {n m B : Nat}
theorem cdep_ag (hH : HO ρ n) (hn : n ≤ 20) (h : Ag ρ ρ') : cdep ρ' = cdep ρ := by
  have h81 : ρ' 81 = ρ 81 := h 81 (by omega)
  rcases ho_cases hH with hz | ⟨x, hx, hz⟩
  · rw [cdep_n hz, cdep_n (h81.trans hz)]
  · rw [cdep_h hz (by omega), cdep_h (h81.trans hz) (by omega), ag_dep h x (by omega)]
theorem cdep_op {v : Nat} (hI : Inv0 ρ n m B) (hM : May ρ n) : cdep (clkR (openR ρ n (nI v))) = cdep ρ + 1 := by
  have hn := hM.1
  have h81 : clkR (openR ρ n (nI v)) 81 = nI n := by rw [clk_n (by omega)]; exact op_81
  have h20 : clkR (openR ρ n (nI v)) (20 + n) = ρ 81 := by rw [clk_n (by omega)]; exact op_20 hn
  rw [cdep_h h81 (by omega)]
  rcases ho_cases hI.2.2.2.2.2.1 with hz | ⟨x, hx, hz⟩
  · rw [cdep_n hz]
    exact dep_n (by unfold rpar; rw [h20, if_pos hz])
  · rw [cdep_h hz (by omega)]
    have hr : rpar (clkR (openR ρ n (nI v))) n = some x := by unfold rpar; rw [h20, hz, if_neg (i_ne9 (by omega)), ix_nI (by omega)]
    rw [dep_p hr hx, (dw_cong (op_par (x := nI v) hI.1 hn) x hx).1]
theorem cdep_cl {x : Nat} (hI : Inv0 ρ n m B) (hz : ρ 81 = nI x) (hx : x < n) : cdep (clkR (closeR ρ x)) = cdep ρ - 1 := by
  have hn := we_20 hI.1
  have h81 : clkR (closeR ρ x) 81 = ρ (20 + x) := by rw [clk_n (by omega)]; exact up_e _ _ _
  have hp : ∀ e, e < 20 → rpar (clkR (closeR ρ x)) e = rpar ρ e := by
    intro e he
    unfold rpar
    rw [clk_n (by omega)]
    unfold closeR
    rw [up_n (by omega), up_n (by omega)]
  rw [cdep_h hz (by omega)]
  rcases we_c hI.1 hx with ⟨h0, h1, h2⟩ | ⟨a, ha, h1, h2, h3⟩
  · rw [cdep_n (h81.trans h2), dep_n h1]
  · rw [cdep_h (h81.trans h2) (by omega), (dw_cong hp a (by omega)).1, dep_p h1 ha]; omega
theorem cdep_te {x f : Nat} (hI : Inv0 ρ n m B) (hz : ρ 81 = nI x) (hx : x < n) : cdep (clkR (tellR ρ x f)) = cdep ρ := by
  have hn := we_20 hI.1
  have h81 : clkR (tellR ρ x f) 81 = ρ 81 := by rw [clk_n (by omega)]; exact up_n (by omega)
  have hp : ∀ e, e < 20 → rpar (clkR (tellR ρ x f)) e = rpar ρ e := by
    intro e he
    unfold rpar
    rw [clk_n (by omega)]
    unfold tellR
    rw [up_n (by omega)]
  rw [cdep_h hz (by omega), cdep_h (h81.trans hz) (by omega), (dw_cong hp x (by omega)).1]
theorem cdep_0 (hI : Inv0 ρ n m B) : cdep ρ ≤ 8 ∧ (cdep ρ = 0 ↔ ρ 81 = -9) := by
  have hn := we_20 hI.1
  rcases ho_cases hI.2.2.2.2.2.1 with hz | ⟨x, hx, hz⟩
  · rw [cdep_n hz]; exact ⟨by omega, fun _ => hz, fun _ => rfl⟩
  · rw [cdep_h hz (by omega)]
    have h1 := dep_1 (ρ := ρ) (e := x)
    exact ⟨hI.2.1 x hx, fun h => by omega, fun h => absurd (hz.symm.trans h) (i_ne9 (by omega))⟩
/-- the reference's own test whether an element may be opened -/
theorem may_rd (hI : Inv0 ρ n m B) : May ρ n ↔ n < 20 ∧ cdep ρ < 8 ∧ (n = 0 ∨ 0 < cdep ρ) := by
  have hn := we_20 hI.1
  obtain ⟨h8, h0⟩ := cdep_0 hI
  constructor
  · rintro ⟨h1, ⟨h2, h3⟩ | ⟨x, hx, hz, hd⟩⟩
    · rw [cdep_n h3]; exact ⟨h1, by omega, Or.inl h2⟩
    · rw [cdep_h hz (by omega)]
      have := dep_1 (ρ := ρ) (e := x)
      exact ⟨h1, hd, Or.inr (by omega)⟩
  · rintro ⟨h1, h2, h3⟩
    refine ⟨h1, ?_⟩
    rcases ho_cases hI.2.2.2.2.2.1 with hz | ⟨x, hx, hz⟩
    · left
      rcases h3 with h3 | h3
      · exact ⟨h3, hz⟩
      · rw [cdep_n hz] at h3; omega
    · right
      rw [cdep_h hz (by omega)] at h2
      exact ⟨x, hx, hz, h2⟩
end CD
/-! what the reference has read: the rows that it spells -/
def clrR (base : Row) : Row := fun j => if j < 214 then (if j = 81 then -9 else if j < 114 then 0 else -9) else base j
def PthP (base : Row) (g13 g14 : Nat → Int32) : Nat → Row → Prop
  | 0, ρ => ρ = clrR base
  | p + 1, ρ => ∃ ρ0 L c, PthP base g13 g14 p ρ0 ∧ p < 5 ∧ Cds L c ∧ g13 p = nI L ∧ (∀ i, i < 4 → g14 (4 * p + i) = nI (c i)) ∧ ρ = askN ρ0 p L c
def EvP (base : Row) (g13 g14 g15 : Nat → Int32) (m : Nat) : Nat → Nat → Row → Prop
  | 0, n, ρ => n = 0 ∧ PthP base g13 g14 m ρ
  | k + 1, n, ρ => ∃ n0 ρ0, EvP base g13 g14 g15 m k n0 ρ0 ∧ ((∃ v, v < 5 ∧ g15 k = nI v ∧ May ρ0 n0 ∧ n = n0 + 1 ∧ ρ = notesR (clkR (openR ρ0 n0 (nI v))) (n0 + 1) m) ∨ (∃ x, x < n0 ∧ ρ0 81 = nI x ∧ g15 k = 10 ∧ n = n0 ∧ ρ = notesR (clkR (closeR ρ0 x)) n0 m) ∨ (∃ x f, x < n0 ∧ f < 10 ∧ ρ0 81 = nI x ∧ g15 k = nI (20 + f) ∧ n = n0 ∧ ρ = notesR (clkR (tellR ρ0 x f)) n0 m))
section PE
variable {base : Row} {g13 g14 g15 h13 h14 h15 : Nat → Int32}
theorem pth_c : ∀ {p : Nat} {ρ : Row}, (∀ i, i < p → h13 i = g13 i) → (∀ i, i < 4 * p → h14 i = g14 i) → PthP base g13 g14 p ρ → PthP base h13 h14 p ρ
  | 0, ρ, _, _, h => h
  | p + 1, ρ, h1, h2, h => by
    obtain ⟨ρ0, L, c, a1, a2, a3, a4, a5, a6⟩ := h
    exact ⟨ρ0, L, c, pth_c (fun i hi => h1 i (by omega)) (fun i hi => h2 i (by omega)) a1, a2, a3, (h1 p (by omega)).trans a4, fun i hi => (h2 _ (by omega)).trans (a5 i hi), a6⟩
theorem ev_pc {m : Nat} (h1 : ∀ i, i < m → h13 i = g13 i) (h2 : ∀ i, i < 4 * m → h14 i = g14 i) : ∀ {k n : Nat} {ρ : Row}, (∀ i, i < k → h15 i = g15 i) → EvP base g13 g14 g15 m k n ρ → EvP base h13 h14 h15 m k n ρ
  | 0, n, ρ, _, h => ⟨h.1, pth_c h1 h2 h.2⟩
  | k + 1, n, ρ, h3, h => by
    obtain ⟨n0, ρ0, a1, a2⟩ := h
    have e := h3 k (by omega)
    refine ⟨n0, ρ0, ev_pc h1 h2 (fun i hi => h3 i (by omega)) a1, ?_⟩
    rw [e]; exact a2
theorem inv_clr : InvS (clrR base) 0 0 0 := by
  refine ⟨⟨⟨rfl, by omega, fun e he => by omega, fun h => by omega, fun e h1 h2 => by omega, fun e he => by omega⟩, fun e he => by omega, rfl, by omega, fun p hp => by omega, Or.inl ⟨rfl, fun e he => by omega⟩, 0, Nat.le_refl 0, rfl⟩, fun p hp => by omega⟩
theorem pth_inv : ∀ {p : Nat} {ρ : Row}, PthP base g13 g14 p ρ → InvS ρ 0 p 0
  | 0, ρ, h => by rw [show ρ = clrR base from h]; exact inv_clr
  | p + 1, ρ, h => by
    obtain ⟨ρ0, L, c, a1, a2, a3, a4, a5, a6⟩ := h
    have := ask_invs (L := L) (c := c) (by omega) a2 a3 (pth_inv a1)
    rw [ask_note0 a2] at this
    rw [a6]; exact this
theorem evp_inv {m : Nat} : ∀ {k n : Nat} {ρ : Row}, k + 1 < 2 ^ 31 → EvP base g13 g14 g15 m k n ρ → InvS ρ n m k
  | 0, n, ρ, _, h => by rw [h.1]; exact pth_inv h.2
  | k + 1, n, ρ, hk, h => by
    obtain ⟨n0, ρ0, a1, a2⟩ := h
    have hI := evp_inv (by omega) a1
    have hn := we_20 hI.1.1
    rcases a2 with ⟨v, hv, -, hM, rfl, rfl⟩ | ⟨x, hx, hz, -, rfl, rfl⟩ | ⟨x, f, hx, hf, hz, -, rfl, rfl⟩
    · obtain ⟨i1, i2⟩ := op_inv hI.1 hM hv
      exact (ev_both (by omega) (by omega) hI i1 i2 (fun j hj => open_hi hM.1 (by omega))).2
    · obtain ⟨i1, i2⟩ := cl_inv hI.1 hz (by omega)
      exact (ev_both (by omega) (by omega) hI i1 i2 (fun j hj => close_hi (by omega) (by omega))).2
    · obtain ⟨i1, i2⟩ := te_inv hI.1 hz (by omega) hf
      exact (ev_both (by omega) (by omega) hI i1 i2 (fun j hj => tell_hi (by omega) (by omega))).2
end PE
