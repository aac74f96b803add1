theorem clk_n {ρ : Row} {j : Nat} (h : j ≠ 82) : clkR ρ j = ρ j := up_n h
theorem cb_clk {ρ ρ1 : Row} {B : Nat} (h : CB ρ B) (h1 : ρ1 82 = ρ 82) : CB (clkR ρ1) (B + 1) := by
  obtain ⟨c, hc, h2⟩ := h
  refine ⟨c + 1, by omega, ?_⟩
  unfold clkR; rw [up_e, h1, h2]; exact nI_1 c
/-! opening -/
section OP
variable {ρ : Row} {n m B : Nat} {v : Nat}
theorem op_lo {j : Nat} {x : Int32} (h1 : j ≠ n) (h2 : j ≠ 20 + n) (h3 : j ≠ 40 + n) (h4 : j ≠ 60 + n) (h5 : j ≠ 81) (h6 : j ≠ 80) : openR ρ n x j = ρ j := by
  unfold openR; rw [up_n h6, up_n h5, up_n h4, up_n h3, up_n h2, up_n h1]
theorem op_n {x : Int32} (hn : n < 20) : openR ρ n x n = x := by
  unfold openR; rw [up_n (by omega), up_n (by omega), up_n (by omega), up_n (by omega), up_n (by omega), up_e]
theorem op_20 {x : Int32} (hn : n < 20) : openR ρ n x (20 + n) = ρ 81 := by
  unfold openR; rw [up_n (by omega), up_n (by omega), up_n (by omega), up_n (by omega), up_e]
theorem op_40 {x : Int32} (hn : n < 20) : openR ρ n x (40 + n) = 1 := by
  unfold openR; rw [up_n (by omega), up_n (by omega), up_n (by omega), up_e]
theorem op_60 {x : Int32} (hn : n < 20) : openR ρ n x (60 + n) = 0 := by
  unfold openR; rw [up_n (by omega), up_n (by omega), up_e]
theorem op_81 {x : Int32} : openR ρ n x 81 = nI n := by
  unfold openR; rw [up_n (by omega), up_e]
theorem op_80 {x : Int32} : openR ρ n x 80 = nI (n + 1) := by
  unfold openR; rw [up_e]
/-- an element can be opened -/
def May (ρ : Row) (n : Nat) : Prop := n < 20 ∧ ((n = 0 ∧ ρ 81 = -9) ∨ ∃ h, h < n ∧ ρ 81 = nI h ∧ dep ρ h < 8)
theorem op_par {x : Int32} (h : WE ρ n) (hn : n < 20) : ∀ e, e < n → rpar (clkR (openR ρ n x)) e = rpar ρ e := by
  intro e he
  unfold rpar
  rw [clk_n (by omega), op_lo (by omega) (by omega) (by omega) (by omega) (by omega) (by omega)]
theorem op_inv (hI : Inv0 ρ n m B) (hM : May ρ n) (hv : v < 5) : Inv0 (clkR (openR ρ n (nI v))) (n + 1) m (B + 1) ∧ Mono ρ n (clkR (openR ρ n (nI v))) (n + 1) m := by
  obtain ⟨h1, h2, h3, h4, h5, h6, h7⟩ := hI
  obtain ⟨hn, hM⟩ := hM
  generalize hr : clkR (openR ρ n (nI v)) = ρ1
  have lo : ∀ j, j ≠ n → j ≠ 20 + n → j ≠ 40 + n → j ≠ 60 + n → j ≠ 81 → j ≠ 80 → j ≠ 82 → ρ1 j = ρ j := fun j a1 a2 a3 a4 a5 a6 a7 => by rw [← hr, clk_n a7, op_lo a1 a2 a3 a4 a5 a6]
  have r_n : ρ1 n = nI v := by rw [← hr, clk_n (by omega), op_n hn]
  have r_20 : ρ1 (20 + n) = ρ 81 := by rw [← hr, clk_n (by omega), op_20 hn]
  have r_40 : ρ1 (40 + n) = 1 := by rw [← hr, clk_n (by omega), op_40 hn]
  have r_81 : ρ1 81 = nI n := by rw [← hr, clk_n (by omega), op_81]
  have r_80 : ρ1 80 = nI (n + 1) := by rw [← hr, clk_n (by omega), op_80]
  have par : ∀ e, e < n → rpar ρ1 e = rpar ρ e := by rw [← hr]; exact op_par h1 hn
  have dw := dw_cong par
  have we : WE ρ1 (n + 1) := by
    obtain ⟨w1, w2, w3, w4, w5, w6⟩ := h1
    refine ⟨r_80, by omega, fun e he => ?_, fun _ => ?_, fun e h0 he => ?_, fun e he => ?_⟩
    · rcases Nat.lt_or_ge e n with h | h
      · rw [lo e (by omega) (by omega) (by omega) (by omega) (by omega) (by omega) (by omega)]; exact w3 e h
      · rw [show e = n by omega]; exact ⟨v, hv, r_n⟩
    · rcases Nat.eq_zero_or_pos n with h | h
      · subst h
        rcases hM with ⟨-, h8⟩ | ⟨x, hx, -⟩
        · exact r_20.trans h8
        · omega
      · rw [lo 20 (by omega) (by omega) (by omega) (by omega) (by omega) (by omega) (by omega)]; exact w4 h
    · rcases Nat.lt_or_ge e n with h | h
      · rw [lo (20 + e) (by omega) (by omega) (by omega) (by omega) (by omega) (by omega) (by omega)]; exact w5 e h0 h
      · rw [show e = n by omega, r_20]
        rcases hM with ⟨h8, -⟩ | ⟨x, hx, h8, -⟩
        · omega
        · exact ⟨x, hx, h8⟩
    · rcases Nat.lt_or_ge e n with h | h
      · rw [lo (40 + e) (by omega) (by omega) (by omega) (by omega) (by omega) (by omega) (by omega)]; exact w6 e h
      · rw [show e = n by omega]; exact Or.inr r_40
  have op : ∀ e, e < n → rop ρ1 e = rop ρ e := fun e he => by
    unfold rop
    rw [lo (40 + e) (by omega) (by omega) (by omega) (by omega) (by omega) (by omega) (by omega)]
  have opn : rop ρ1 n = true := by unfold rop; rw [r_40]; rfl
  have h20 := we_20 h1
  -- the depth of the new one, and its way
  have newd : (n = 0 ∧ dep ρ1 n = 1) ∨ ∃ x, x < n ∧ ρ 81 = nI x ∧ rpar ρ1 n = some x ∧ dep ρ1 n = dep ρ x + 1 ∧ dep ρ x < 8 := by
    rcases hM with ⟨h8, h9⟩ | ⟨x, hx, h8, h9⟩
    · left
      refine ⟨h8, dep_n ?_⟩
      subst h8
      exact rpar_0 we (by omega)
    · right
      have hp : rpar ρ1 n = some x := by
        unfold rpar; rw [r_20, h8, if_neg (i_ne9 (by omega)), ix_nI (by omega)]
      exact ⟨x, hx, h8, hp, by rw [dep_p hp hx, (dw x hx).1], h9⟩
  refine ⟨⟨we, fun e he => ?_, ?_, h4, fun p hp => ?_, ?_, ?_⟩, ?_⟩
  · rcases Nat.lt_or_ge e n with h | h
    · rw [(dw e h).1]; exact h2 e h
    · rw [show e = n by omega]
      rcases newd with ⟨-, h8⟩ | ⟨x, -, -, -, h8, h9⟩ <;> omega
  · rw [lo 83 (by omega) (by omega) (by omega) (by omega) (by omega) (by omega) (by omega)]; exact h3
  · exact pr_keep (by omega) (fun j g1 g2 => lo j (by omega) (by omega) (by omega) (by omega) (by omega) (by omega) (by omega)) (h5 p hp)
  · refine Or.inr ⟨n, by omega, r_81, fun e he => ?_⟩
    rcases newd with ⟨h8, h9⟩ | ⟨x, hx, h8, hp, h9, -⟩
    · subst h8
      have : e = 0 := by omega
      subst this
      rw [h9]
      exact ⟨fun _ => ⟨0, by omega, wy_t h9.symm⟩, fun _ => opn⟩
    · have hold := (ho_here h6 h20 h8 (by omega)).2.2
      rw [h9]
      rcases Nat.lt_or_ge e n with hl | hl
      · rw [op e hl, hold e hl]
        constructor
        · rintro ⟨k, hk, hw⟩
          refine ⟨k, by omega, ?_⟩
          rw [wy_p (by omega) hp hx, (dw x hx).2, hw]
        · rintro ⟨k, hk, hw⟩
          by_cases hkt : k = dep ρ x
          · rw [wy_t (by omega)] at hw; omega
          · refine ⟨k, by omega, ?_⟩
            rw [wy_p (by omega) hp hx, (dw x hx).2] at hw
            exact hw
      · have : e = n := by omega
        subst this
        exact ⟨fun _ => ⟨dep ρ x, by omega, wy_t (by omega)⟩, fun _ => opn⟩
  · rw [← hr]; exact cb_clk h7 (op_lo (by omega) (by omega) (by omega) (by omega) (by omega) (by omega))
  · refine mono_of h4 h5 (fun j g1 g2 => lo j (by omega) (by omega) (by omega) (by omega) (by omega) (by omega) (by omega)) par (fun e he => lo e (by omega) (by omega) (by omega) (by omega) (by omega) (by omega) (by omega)) ?_
    intro e he c hc
    have hch : ∀ c, rch ρ1 (n + 1) e c = (rch ρ n e c || (decide (1 ≤ n) && (decide (ρ 81 = nI e) && decide (nI v = nI c)))) := by
      intro c
      unfold rch
      rw [zany_s, r_20, r_n]
      congr 1
      exact zany_cong (fun i hi => by rw [lo (20 + i) (by omega) (by omega) (by omega) (by omega) (by omega) (by omega) (by omega), lo i (by omega) (by omega) (by omega) (by omega) (by omega) (by omega) (by omega)])
    have h60 : ρ1 (60 + e) = ρ (60 + e) := lo (60 + e) (by omega) (by omega) (by omega) (by omega) (by omega) (by omega) (by omega)
    constructor
    · intro h
      unfold met at h ⊢
      simp only [Bool.false_and, Bool.false_or, Bool.or_eq_true] at h ⊢
      rcases h with h | h
      · exact Or.inl h
      · right
        by_cases h6c : c < 6
        · rw [if_pos h6c] at h ⊢
          rw [hch, h]; rfl
        · rw [if_neg h6c] at h ⊢
          rw [h60]; exact h
    · intro h
      unfold met at h ⊢
      simp only [Bool.true_and, Bool.or_eq_true] at h ⊢
      rw [op e he] at h
      rcases h with h | h | h
      · exact Or.inl h
      · exact Or.inr (Or.inl h)
      · by_cases h6c : c < 6
        · rw [if_pos h6c] at h ⊢
          rw [hch, Bool.or_eq_true] at h
          rcases h with h | h
          · exact Or.inr (Or.inr h)
          · simp only [Bool.and_eq_true, decide_eq_true_eq] at h
            exact Or.inr (Or.inl (ho_here h6 h20 h.2.1 (by omega)).2.1)
        · rw [if_neg h6c] at h ⊢
          rw [h60] at h
          exact Or.inr (Or.inr h)
end OP
/-! closing, giving a digit -/
section CT
variable {ρ : Row} {n m B h f : Nat}
theorem cl_inv (hI : Inv0 ρ n m B) (hh : ρ 81 = nI h) (hh20 : h < 20) : Inv0 (clkR (closeR ρ h)) n m (B + 1) ∧ Mono ρ n (clkR (closeR ρ h)) n m := by
  obtain ⟨h1, h2, h3, h4, h5, h6, h7⟩ := hI
  have h20 := we_20 h1
  obtain ⟨hhn, hho, hold⟩ := ho_here h6 h20 hh hh20
  generalize hr : clkR (closeR ρ h) = ρ1
  have lo : ∀ j, j ≠ 40 + h → j ≠ 81 → j ≠ 82 → ρ1 j = ρ j := fun j a1 a2 a3 => by
    rw [← hr, clk_n a3]; unfold closeR; rw [up_n a2, up_n a1]
  have r_81 : ρ1 81 = ρ (20 + h) := by rw [← hr, clk_n (by omega)]; unfold closeR; rw [up_e]
  have r_40 : ρ1 (40 + h) = 0 := by rw [← hr, clk_n (by omega)]; unfold closeR; rw [up_n (by omega), up_e]
  have par : ∀ e, e < n → rpar ρ1 e = rpar ρ e := fun e he => by unfold rpar; rw [lo (20 + e) (by omega) (by omega) (by omega)]
  have dw := dw_cong par
  have op : ∀ e, e < n → (rop ρ1 e = true ↔ rop ρ e = true ∧ e ≠ h) := fun e he => by
    by_cases g : e = h
    · subst g; unfold rop; rw [r_40]; simp
    · unfold rop; rw [lo (40 + e) (by omega) (by omega) (by omega)]; simp [g]
  have we : WE ρ1 n := by
    obtain ⟨w1, w2, w3, w4, w5, w6⟩ := h1
    refine ⟨by rw [lo 80 (by omega) (by omega) (by omega)]; exact w1, w2, fun e he => ?_, fun h0 => ?_, fun e h0 he => ?_, fun e he => ?_⟩
    · rw [lo e (by omega) (by omega) (by omega)]; exact w3 e he
    · rw [lo 20 (by omega) (by omega) (by omega)]; exact w4 h0
    · rw [lo (20 + e) (by omega) (by omega) (by omega)]; exact w5 e h0 he
    · by_cases g : e = h
      · subst g; exact Or.inl r_40
      · rw [lo (40 + e) (by omega) (by omega) (by omega)]; exact w6 e he
  refine ⟨⟨we, fun e he => ?_, ?_, h4, fun p hp => ?_, ?_, ?_⟩, ?_⟩
  · rw [(dw e he).1]; exact h2 e he
  · rw [lo 83 (by omega) (by omega) (by omega)]; exact h3
  · exact pr_keep (by omega) (fun j g1 g2 => lo j (by omega) (by omega) (by omega)) (h5 p hp)
  · rcases we_c h1 hhn with ⟨g0, g1, g2⟩ | ⟨x, hx, g1, g2, -⟩
    · refine Or.inl ⟨by rw [r_81, g2], fun e he => ?_⟩
      rcases bool2 (rop ρ1 e) with g | g
      · exact g
      · obtain ⟨q1, q2⟩ := (op e he).mp g
        obtain ⟨k, hk, hw⟩ := (hold e he).mp q1
        rw [dep_n g1] at hk
        have : k = 0 := by omega
        subst this
        rw [wy_t (dep_n g1).symm] at hw
        exact absurd hw.symm q2
    · refine Or.inr ⟨x, by omega, by rw [r_81, g2], fun e he => ?_⟩
      rw [op e he, hold e he, (dw x (by omega)).1, dep_p g1 hx]
      constructor
      · rintro ⟨⟨k, hk, hw⟩, hne⟩
        by_cases hkt : k = dep ρ x
        · rw [wy_t (by rw [dep_p g1 hx, hkt])] at hw; exact absurd hw.symm hne
        · refine ⟨k, by omega, ?_⟩
          rw [wy_p (by rw [dep_p g1 hx]; omega) g1 hx] at hw
          rw [(dw x (by omega)).2]; exact hw
      · rintro ⟨k, hk, hw⟩
        rw [(dw x (by omega)).2] at hw
        refine ⟨⟨k, by omega, ?_⟩, ?_⟩
        · rw [wy_p (by rw [dep_p g1 hx]; omega) g1 hx]; exact hw
        · have := (wy_all h1 x (by omega) k hk).1
          omega
  · rw [← hr]
    refine cb_clk h7 ?_
    unfold closeR; rw [up_n (by omega), up_n (by omega)]
  · refine mono_of h4 h5 (fun j g1 g2 => lo j (by omega) (by omega) (by omega)) par (fun e he => lo e (by omega) (by omega) (by omega)) ?_
    intro e he c hc
    have hch : ∀ c, rch ρ1 n e c = rch ρ n e c := fun c => zany_cong (fun i hi => by rw [lo (20 + i) (by omega) (by omega) (by omega), lo i (by omega) (by omega) (by omega)])
    have h60 : ρ1 (60 + e) = ρ (60 + e) := lo (60 + e) (by omega) (by omega) (by omega)
    constructor
    · intro g
      unfold met at g ⊢
      rw [hch, h60]
      simp only [Bool.false_and, Bool.false_or] at g ⊢
      exact g
    · intro g
      unfold met at g ⊢
      rw [hch, h60] at g
      simp only [Bool.true_and, Bool.or_eq_true] at g ⊢
      rcases g with g | g | g
      · exact Or.inl g
      · exact Or.inr (Or.inl ((op e he).mp g).1)
      · exact Or.inr (Or.inr g)
theorem te_inv (hI : Inv0 ρ n m B) (hh : ρ 81 = nI h) (hh20 : h < 20) (hf : f < 10) : Inv0 (clkR (tellR ρ h f)) n m (B + 1) ∧ Mono ρ n (clkR (tellR ρ h f)) n m := by
  obtain ⟨h1, h2, h3, h4, h5, h6, h7⟩ := hI
  have h20 := we_20 h1
  obtain ⟨hhn, hho, hold⟩ := ho_here h6 h20 hh hh20
  generalize hr : clkR (tellR ρ h f) = ρ1
  have lo : ∀ j, j ≠ 60 + h → j ≠ 82 → ρ1 j = ρ j := fun j a1 a3 => by
    rw [← hr, clk_n a3]; unfold tellR; rw [up_n a1]
  have r_60 : ρ1 (60 + h) = ρ (60 + h) ||| ((1 : Int32) <<< (nI f &&& 31)) := by rw [← hr, clk_n (by omega)]; unfold tellR; rw [up_e]
  have par : ∀ e, e < n → rpar ρ1 e = rpar ρ e := fun e he => by unfold rpar; rw [lo (20 + e) (by omega) (by omega)]
  have dw := dw_cong par
  have op : ∀ e, e < n → rop ρ1 e = rop ρ e := fun e he => by unfold rop; rw [lo (40 + e) (by omega) (by omega)]
  have we : WE ρ1 n := by
    obtain ⟨w1, w2, w3, w4, w5, w6⟩ := h1
    refine ⟨by rw [lo 80 (by omega) (by omega)]; exact w1, w2, fun e he => ?_, fun h0 => ?_, fun e h0 he => ?_, fun e he => ?_⟩
    · rw [lo e (by omega) (by omega)]; exact w3 e he
    · rw [lo 20 (by omega) (by omega)]; exact w4 h0
    · rw [lo (20 + e) (by omega) (by omega)]; exact w5 e h0 he
    · rw [lo (40 + e) (by omega) (by omega)]; exact w6 e he
  refine ⟨⟨we, fun e he => ?_, ?_, h4, fun p hp => ?_, ?_, ?_⟩, ?_⟩
  · rw [(dw e he).1]; exact h2 e he
  · rw [lo 83 (by omega) (by omega)]; exact h3
  · exact pr_keep (by omega) (fun j g1 g2 => lo j (by omega) (by omega)) (h5 p hp)
  · refine Or.inr ⟨h, hhn, by rw [lo 81 (by omega) (by omega)]; exact hh, fun e he => ?_⟩
    rw [op e he, hold e he, (dw h hhn).1]
    simp only [(dw h hhn).2]
  · rw [← hr]
    refine cb_clk h7 ?_
    unfold tellR; rw [up_n (by omega)]
  · refine mono_of h4 h5 (fun j g1 g2 => lo j (by omega) (by omega)) par (fun e he => lo e (by omega) (by omega)) ?_
    intro e he c hc
    have hch : ∀ c, rch ρ1 n e c = rch ρ n e c := fun c => zany_cong (fun i hi => by rw [lo (20 + i) (by omega) (by omega), lo i (by omega) (by omega)])
    by_cases g : e = h
    · subst g
      constructor
      · intro g
        unfold met at g ⊢
        rw [hch, r_60, b_or]
        simp only [Bool.false_and, Bool.false_or, Bool.or_eq_true] at g ⊢
        rcases g with g | g
        · exact Or.inl g
        · right
          by_cases h6c : c < 6
          · rw [if_pos h6c] at g ⊢; exact g
          · rw [if_neg h6c] at g ⊢; rw [g]; rfl
      · intro _
        unfold met
        rw [hho]; simp
    · have h60 : ρ1 (60 + e) = ρ (60 + e) := lo (60 + e) (by omega) (by omega)
      unfold met
      rw [hch, h60, op e he]
      exact ⟨fun h => h, fun h => h⟩
end CT
