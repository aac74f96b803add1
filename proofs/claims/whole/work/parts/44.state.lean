/-! THE CLASS: its elements -/
theorem elr_ag {d : Dt} {el n : Nat} {ρ ρ' : Row} (hn : n ≤ 20) (h : Ag ρ ρ') (w : ElR d el ρ n) : ElR d el ρ' n := by
  obtain ⟨h1, h2, h3, h4, h5⟩ := w
  refine ⟨?_, by rw [h 80 (by omega)]; exact h2, by rw [h 81 (by omega)]; exact h3, by rw [h 82 (by omega)]; exact h4, fun e he => ?_⟩
  · rw [h1]; exact zB_cong (fun e he => (ag_op h (by omega)).symm)
  · obtain ⟨g1, g2, g3, g4, g5⟩ := h5 e he
    refine ⟨by rw [h e (by omega)]; exact g1, by rw [h (20 + e) (by omega)]; exact g2, by rw [ag_dep h e (by omega)]; exact g3, by rw [h (60 + e) (by omega)]; exact g4, ?_⟩
    rw [g5]; exact zB_cong (fun c _ => (ag_ch h hn).symm)
theorem dep_le (ρ : Row) : ∀ e, dep ρ e ≤ e + 1 := by
  intro e
  induction e using Nat.strongRecOn with
  | ind e ih =>
    rw [dep]
    cases rpar ρ e with
    | none => simp
    | some a =>
      by_cases ha : a < e
      · have := ih a ha
        simp [ha]; omega
      · simp [ha]
theorem lt8 {c : Nat} (h : c < 2 ^ 31) : nI c < (8 : Int32) ↔ c < 8 := nI_ltI (b := 8) h (by omega)
theorem lt20 {c : Nat} (h : c < 2 ^ 31) : nI c < (20 : Int32) ↔ c < 20 := nI_ltI (b := 20) h (by omega)
theorem le5 {c : Nat} (h : c < 2 ^ 31) : (5 : Int32) ≤ nI c ↔ 5 ≤ c := nI_leI (a := 5) (by omega) h
theorem le10 {c : Nat} (h : c < 2 ^ 31) : (10 : Int32) ≤ nI c ↔ 10 ≤ c := nI_leI (a := 10) (by omega) h
theorem ho_cases {ρ : Row} {n : Nat} (h : HO ρ n) : ρ 81 = -9 ∨ ∃ x, x < n ∧ ρ 81 = nI x := by
  rcases h with ⟨h1, -⟩ | ⟨x, hx, h1, -⟩
  · exact Or.inl h1
  · exact Or.inr ⟨x, hx, h1⟩
def cdep (ρ : Row) : Nat := if ρ 81 = -9 then 0 else dep ρ (z_ix (ρ 81))
theorem cdep_n {ρ : Row} (h : ρ 81 = -9) : cdep ρ = 0 := if_pos h
theorem cdep_h {ρ : Row} {x : Nat} (h : ρ 81 = nI x) (hx : x < 20) : cdep ρ = dep ρ x := by
  unfold cdep; rw [h, if_neg (i_ne9 (by omega)), ix_nI (by omega)]
section EL
variable {d : Dt} {el n m B : Nat} {ρ : Row}
theorem c_depth (hE : ElR d el ρ n) (hn : n ≤ 20) (hH : HO ρ n) : fX0_currentDepth d el = some (nI (cdep ρ)) := by
  unfold fX0_currentDepth
  rw [hE.2.2.1]
  rcases ho_cases hH with h | ⟨x, hx, h⟩
  · rw [cdep_n h, h, zif_n (by decide)]; rfl
  · rw [cdep_h h (by omega), h, zif_p (nI_pos' (by omega)), in_t (by omega) (by omega), gd_t, ix_nI (by omega), (hE.2.2.2.2 x hx).2.2.1]
def mayB (ρ : Row) (n : Nat) : Bool := decide (n = 0) || (!decide (ρ 81 = -9) && decide (cdep ρ < 8))
theorem may_iff (hH : HO ρ n) (hn : n ≤ 20) : May ρ n ↔ n < 20 ∧ mayB ρ n = true := by
  unfold May mayB
  refine and_congr_right (fun h20 => ?_)
  rcases ho_cases hH with h | ⟨x, hx, h⟩
  · rw [h]
    simp only [decide_true, Bool.not_true, Bool.false_and, Bool.or_false, decide_eq_true_eq, and_true]
    constructor
    · rintro (h1 | ⟨y, hy, h1, -⟩)
      · exact h1
      · exact absurd h1.symm (i_ne9 (by omega))
    · exact fun h1 => Or.inl h1
  · rw [cdep_h h (by omega), h]
    simp only [i_ne9 (show x < 2 ^ 31 by omega), decide_false, Bool.not_false, Bool.true_and, Bool.or_eq_true, decide_eq_true_eq, and_false, false_or]
    constructor
    · rintro ⟨y, hy, h1, h2⟩
      have := (nI_eq (by omega) (by omega)).mp h1
      subst this
      exact Or.inr h2
    · rintro (h1 | h1)
      · omega
      · exact ⟨x, hx, rfl, h1⟩
theorem c_refuse (hE : ElR d el ρ n) (hw : WE ρ n) (hH : HO ρ n) : fX0_openRefusal d el = some (if mayB ρ n = true then (if n < 20 then -9 else -4) else -3) := by
  have h20 := we_20 hw
  have h19 : (mayB ρ n = decide (cdep ρ < 8)) → jX0_openRefusal_19 d el 0 = some (if mayB ρ n = true then (if n < 20 then -9 else -4) else -3) := by
    intro hm
    unfold jX0_openRefusal_19
    rw [zif_p rfl, c_depth hE h20 hH, br_s, hE.2.1, hw.1, hm]
    have hcd : cdep ρ < 2 ^ 31 := by
      rcases ho_cases hH with h | ⟨x, hx, h⟩
      · rw [cdep_n h]; omega
      · rw [cdep_h h (by omega)]
        have := dep_le ρ x
        omega
    by_cases h8 : cdep ρ < 8
    · rw [zif_p ((lt8 hcd).mpr h8)]
      simp only [h8, decide_true, if_true]
      by_cases hn : n < 20
      · rw [zif_p ((lt20 (by omega)).mpr hn), if_pos hn]
      · rw [zif_n (fun z => hn ((lt20 (by omega)).mp z)), if_neg hn]
    · rw [zif_n (fun z => h8 ((lt8 hcd).mp z))]
      simp [h8]
  unfold fX0_openRefusal jX0_openRefusal_18
  rw [hE.2.1, hw.1, hE.2.2.1]
  by_cases h0 : n = 0
  · rw [zif_p (by rw [h0]; decide)]
    refine h19 ?_
    have : cdep ρ = 0 := by
      rcases ho_cases hH with h | ⟨x, hx, h⟩
      · exact cdep_n h
      · omega
    unfold mayB; rw [this]; simp [h0]
  · rw [zif_n (nI_nle (by omega) (by omega))]
    rcases ho_cases hH with h | ⟨x, hx, h⟩
    · rw [h, zif_n (by decide)]
      unfold jX0_openRefusal_19
      rw [zif_n (by decide)]
      have : mayB ρ n = false := by unfold mayB; rw [h]; simp [h0]
      rw [this]; simp
    · rw [h, zif_p (nI_pos' (by omega))]
      refine h19 ?_
      unfold mayB; rw [h]; simp [h0, i_ne9 (show x < 2 ^ 31 by omega)]
abbrev Ke (el : Nat) : Nat → Prop := fun k => el ≤ k ∧ k ≤ el + 5
/-- the child names when v comes under h -/
theorem ch_grow {ρ ρ1 : Row} {n v : Nat} (hn : n < 20) (hv : v < 5) (hw : WE ρ n) (hH : HO ρ n) (h20 : ρ1 (20 + n) = ρ 81) (hnn : ρ1 n = nI v) (hlo : ∀ i, i < n → ρ1 (20 + i) = ρ (20 + i) ∧ ρ1 i = ρ i) (e c : Nat) (he : e < 20) (hc : c < 32) : rch ρ1 (n + 1) e c = (rch ρ n e c || (decide (ρ 81 = nI e) && decide (v = c))) := by
  unfold rch
  rw [zany_s, h20, hnn]
  congr 1
  · exact zany_cong (fun i hi => by rw [(hlo i hi).1, (hlo i hi).2])
  · have : decide (nI v = nI c) = decide (v = c) := by rw [decide_eq_decide]; exact nI_eq (by omega) (by omega)
    rw [this]
    rcases Nat.eq_zero_or_pos n with h0 | h0
    · subst h0
      rcases ho_cases hH with h | ⟨x, hx, h⟩
      · rw [h]
        simp [show ¬ (-9 : Int32) = nI e from fun z => i_ne9 (by omega) z.symm]
      · omega
    · simp [show 1 ≤ n by omega]
theorem c_enter0 {v : Int32} (hE : ElR d el ρ n) (hw : WE ρ n) (hH : HO ρ n) (h : v < 0 ∨ 5 ≤ v ∨ ¬ May ρ n) : fX0_enter d el v = some (0, d) := by
  unfold fX0_enter
  by_cases h1 : v < 0
  · rw [zif_p h1]
  · rw [zif_n h1]
    by_cases h2 : 5 ≤ v
    · rw [zif_p h2]
    · rw [zif_n h2, c_refuse hE hw hH, br_s]
      rcases h with h | h | h
      · exact absurd h h1
      · exact absurd h h2
      · rw [may_iff hH (we_20 hw)] at h
        rw [zif_n]
        by_cases hm : mayB ρ n = true
        · rw [if_pos hm, if_neg (fun z => h ⟨z, hm⟩)]; decide
        · rw [if_neg hm]; decide
theorem c_enter {v : Nat} (hE : ElR d el ρ n) (hI : Inv0 ρ n m B) (hM : May ρ n) (hv : v < 5) : ∃ d', fX0_enter d el (nI v) = some (1, d') ∧ ElR d' el (clkR (openR ρ n (nI v))) (n + 1) ∧ Fr (Ke el) d d' := by
  obtain ⟨hw, hD, -, -, -, hH, -⟩ := hI
  have h20 := we_20 hw
  have hmi := (may_iff hH h20).mp hM
  have hn := hmi.1
  generalize hr : clkR (openR ρ n (nI v)) = ρ1
  have lo : ∀ j, j ≠ n → j ≠ 20 + n → j ≠ 40 + n → j ≠ 60 + n → j ≠ 81 → j ≠ 80 → j ≠ 82 → ρ1 j = ρ j := fun j a1 a2 a3 a4 a5 a6 a7 => by rw [← hr, clk_n a7, op_lo a1 a2 a3 a4 a5 a6]
  have r_n : ρ1 n = nI v := by rw [← hr, clk_n (by omega), op_n hn]
  have r_20 : ρ1 (20 + n) = ρ 81 := by rw [← hr, clk_n (by omega), op_20 hn]
  have r_40 : ρ1 (40 + n) = 1 := by rw [← hr, clk_n (by omega), op_40 hn]
  have r_60 : ρ1 (60 + n) = 0 := by rw [← hr, clk_n (by omega), op_60 hn]
  have r_81 : ρ1 81 = nI n := by rw [← hr, clk_n (by omega), op_81]
  have r_80 : ρ1 80 = nI (n + 1) := by rw [← hr, clk_n (by omega), op_80]
  have r_82 : ρ1 82 = ρ 82 + 1 := by rw [← hr]; unfold clkR; rw [up_e, op_lo (by omega) (by omega) (by omega) (by omega) (by omega) (by omega)]
  have par : ∀ e, e < n → rpar ρ1 e = rpar ρ e := by rw [← hr]; exact op_par hw hn
  have dw := dw_cong par
  have op : ∀ e, e < n → rop ρ1 e = rop ρ e := fun e he => by
    unfold rop
    rw [lo (40 + e) (by omega) (by omega) (by omega) (by omega) (by omega) (by omega) (by omega)]
  have opn : rop ρ1 n = true := by unfold rop; rw [r_40]; rfl
  have dnew : dep ρ1 n = cdep ρ + 1 := by
    rcases ho_cases hH with h | ⟨x, hx, h⟩
    · rw [cdep_n h]
      refine dep_n ?_
      unfold rpar; rw [r_20, h, if_pos rfl]
    · rw [cdep_h h (by omega), ← (dw x hx).1]
      refine dep_p ?_ hx
      unfold rpar; rw [r_20, h, if_neg (i_ne9 (by omega)), ix_nI (by omega)]
  have chg := fun e c he hc => ch_grow (ρ1 := ρ1) hn hv hw hH r_20 r_n (fun i hi => ⟨lo (20 + i) (by omega) (by omega) (by omega) (by omega) (by omega) (by omega) (by omega), lo i (by omega) (by omega) (by omega) (by omega) (by omega) (by omega) (by omega)⟩) e c he hc
  have h42 : ∀ d2 : Dt, Fr (Ke el) d d2 → (∀ k, k ≠ el + 5 → d2.1 k = d.1 k) → (∀ e, e < n → d2.1 (el + 5) e = zB (rch ρ1 (n + 1) e) 5) → ∃ d', jX0_enter_42 el (nI v) d2 = some (1, d') ∧ ElR d' el ρ1 (n + 1) ∧ Fr (Ke el) d d' := by
    intro d2 hf h2 h5
    obtain ⟨E1, E2, E3, E4, E5⟩ := hE
    have g5 : d2.1 el 5 = zB (rop ρ) n := by rw [h2 el (by omega)]; exact E1
    have g6 : d2.1 el 6 = nI n := by rw [h2 el (by omega), E2]; exact hw.1
    have g7 : d2.1 el 7 = ρ 81 := by rw [h2 el (by omega)]; exact E3
    have g8 : d2.1 el 8 = ρ 82 := by rw [h2 el (by omega)]; exact E4
    have hdp : fX0_currentDepth (z_st (z_st d2 (el + 1) n (nI v)) (el + 2) n (ρ 81)) el = some (nI (cdep ρ)) := by
      unfold fX0_currentDepth
      rw [st_k (show el ≠ el + 2 by omega), st_k (show el ≠ el + 1 by omega), st_k (show el + 3 ≠ el + 2 by omega), st_k (show el + 3 ≠ el + 1 by omega), g7]
      rcases ho_cases hH with h | ⟨x, hx, h⟩
      · rw [cdep_n h, h, zif_n (by decide)]; rfl
      · rw [cdep_h h (by omega), h, zif_p (nI_pos' (by omega)), in_t (by omega) (by omega), gd_t, ix_nI (by omega), h2 _ (by omega), (E5 x hx).2.2.1]
    have nin : z_in (nI n) 20 = true := in_t hn (by omega)
    have ixn : z_ix (nI n) = n := ix_nI (by omega)
    refine ⟨z_st (z_st (z_st (z_st (z_st (z_st (z_st (z_st (z_st d2 (el + 1) n (nI v)) (el + 2) n (ρ 81)) (el + 3) n (nI (cdep ρ) + 1)) (el + 4) n 0) (el + 5) n 0) el 5 (zB (rop ρ) n ||| ((1 : Int32) <<< (nI n &&& 31)))) el 7 (nI n)) el 6 (nI n + 1)) el 8 (ρ 82 + 1), ?_, ⟨?_, ?_, ?_, ?_, fun e he => ?_⟩, ?_⟩
    · unfold jX0_enter_42
      simp (disch := omega) only [z_nme, st_k, st_j, st_eq, g5, g6, g7, g8, nin, ixn, gd_t, hdp, br_s]
    · simp (disch := omega) only [st_k, st_j, st_eq]
      rw [zB_s, opn]
      simp only [if_true]
      rw [zB_cong (fun e he => (op e he).symm)]
    · simp (disch := omega) only [st_k, st_j, st_eq, r_80]
      exact nI_1 n
    · simp (disch := omega) only [st_k, st_j, st_eq, r_81]
    · simp (disch := omega) only [st_k, st_j, st_eq, r_82]
    · rcases Nat.lt_or_ge e n with hl | hl
      · simp (disch := omega) only [st_k, st_j, st_eq]
        obtain ⟨q1, q2, q3, q4, q5⟩ := E5 e hl
        rw [h2 (el + 1) (by omega), h2 (el + 2) (by omega), h2 (el + 3) (by omega), h2 (el + 4) (by omega), lo e (by omega) (by omega) (by omega) (by omega) (by omega) (by omega) (by omega), lo (20 + e) (by omega) (by omega) (by omega) (by omega) (by omega) (by omega) (by omega), lo (60 + e) (by omega) (by omega) (by omega) (by omega) (by omega) (by omega) (by omega), (dw e hl).1]
        exact ⟨q1, q2, q3, q4, h5 e hl⟩
      · have : e = n := by omega
        subst this
        simp (disch := omega) only [st_k, st_j, st_eq]
        refine ⟨r_n.symm, r_20.symm, ?_, r_60.symm, ?_⟩
        · rw [dnew]; exact nI_1 _
        · symm
          rw [zB_0 (by omega)]
          intro c hc
          rw [chg e c hn (by omega)]
          rcases bool2 (rch ρ e e c || (decide (ρ 81 = nI e) && decide (v = c))) with g | g
          · exact g
          · exfalso
            rw [Bool.or_eq_true] at g
            rcases g with g | g
            · obtain ⟨i, hi, g1⟩ := zany_t.mp g
              simp only [Bool.and_eq_true, decide_eq_true_eq] at g1
              obtain ⟨a, ha, g2⟩ := hw.2.2.2.2.1 i (by omega) hi
              rw [g2] at g1
              have := (nI_eq (by omega) (by omega)).mp g1.2.1
              omega
            · simp only [Bool.and_eq_true, decide_eq_true_eq] at g
              rcases ho_cases hH with h | ⟨x, hx, h⟩
              · rw [h] at g; exact absurd g.1.symm (i_ne9 (by omega))
              · rw [h] at g
                have := (nI_eq (by omega) (by omega)).mp g.1
                omega
    · refine fr_t hf ?_
      refine fr_t (fr_t (fr_t (fr_t (fr_t (fr_t (fr_t (fr_t (fr_st ?_) (fr_st ?_)) (fr_st ?_)) (fr_st ?_)) (fr_st ?_)) (fr_st ?_)) (fr_st ?_)) (fr_st ?_)) (fr_st ?_) <;> exact ⟨by omega, by omega⟩
  unfold fX0_enter
  rw [zif_n (nI_pos (by omega)), zif_n (by rw [le5 (by omega)]; omega), c_refuse hE hw hH, br_s, if_pos hmi.2, if_pos hn, zif_p rfl, hE.2.2.1]
  rcases ho_cases hH with h | ⟨x, hx, h⟩
  · rw [h, zif_p (by decide)]
    refine h42 d fr_r (fun _ _ => rfl) (fun e he => ?_)
    rw [(hE.2.2.2.2 e he).2.2.2.2]
    refine zB_cong (fun c hc => ?_)
    rw [chg e c (by omega) (by omega), h]
    simp [show ¬ (-9 : Int32) = nI e from fun z => i_ne9 (by omega) z.symm]
  · rw [h, zif_n (nI_pos (by omega)), in_t (by omega) (by omega), gd_t, gd_t, z_nme, ix_nI (by omega)]
    refine h42 _ (fr_st ⟨by omega, by omega⟩) (fun k hk => st_k hk) (fun e he => ?_)
    by_cases hex : e = x
    · subst hex
      rw [st_eq, (hE.2.2.2.2 e he).2.2.2.2]
      apply zB_ext (by omega)
      intro c hc
      rw [b_or, bt_zB _ _ (by omega) c hc, b_one (by omega) hc, chg e c (by omega) hc, h]
      by_cases hcv : c = v
      · subst hcv; simp [hv]
      · simp [hcv, Ne.symm hcv]
    · rw [st_j hex, (hE.2.2.2.2 e he).2.2.2.2]
      refine zB_cong (fun c hc => ?_)
      rw [chg e c (by omega) (by omega), h]
      have : ¬ nI x = nI e := fun z => hex ((nI_eq (by omega) (by omega)).mp z).symm
      simp [this]
theorem c_leave0 (hE : ElR d el ρ n) (h : ρ 81 = -9) : fX0_leave d el = some (0, d) := by
  unfold fX0_leave
  rw [hE.2.2.1, h, zif_n (by decide)]
theorem c_leave {x : Nat} (hE : ElR d el ρ n) (hI : Inv0 ρ n m B) (h : ρ 81 = nI x) (hx : x < 20) : ∃ d', fX0_leave d el = some (1, d') ∧ ElR d' el (clkR (closeR ρ x)) n ∧ Fr (Ke el) d d' := by
  obtain ⟨hw, hD, -, -, -, hH, -⟩ := hI
  have h20 := we_20 hw
  obtain ⟨hxn, -, -⟩ := ho_here hH h20 h hx
  obtain ⟨E1, E2, E3, E4, E5⟩ := hE
  generalize hr : clkR (closeR ρ x) = ρ1
  have lo : ∀ j, j ≠ 40 + x → j ≠ 81 → j ≠ 82 → ρ1 j = ρ j := fun j a1 a2 a3 => by
    rw [← hr, clk_n a3]; unfold closeR; rw [up_n a2, up_n a1]
  have r_81 : ρ1 81 = ρ (20 + x) := by rw [← hr, clk_n (by omega)]; unfold closeR; rw [up_e]
  have r_82 : ρ1 82 = ρ 82 + 1 := by rw [← hr]; unfold clkR closeR; rw [up_e, up_n (by omega), up_n (by omega)]
  have r_40 : ρ1 (40 + x) = 0 := by rw [← hr, clk_n (by omega)]; unfold closeR; rw [up_n (by omega), up_e]
  have par : ∀ e, e < n → rpar ρ1 e = rpar ρ e := fun e he => by unfold rpar; rw [lo (20 + e) (by omega) (by omega) (by omega)]
  have dw := dw_cong par
  have xin : z_in (nI x) 20 = true := in_t hx (by omega)
  have ixx : z_ix (nI x) = x := ix_nI (by omega)
  have q7 : d.1 el 7 = nI x := E3.trans h
  refine ⟨z_st (z_st (z_st d el 5 (zB (rop ρ) n &&& (((1 : Int32) <<< (nI x &&& 31)) ^^^ (-1)))) el 7 (ρ (20 + x))) el 8 (ρ 82 + 1), ?_, ⟨?_, ?_, ?_, ?_, fun e he => ?_⟩, ?_⟩
  · unfold fX0_leave
    have q2 := (E5 x hxn).2.1
    rw [q7, zif_p (nI_pos' (by omega))]
    simp (disch := omega) only [z_nme, st_k, st_j, st_eq, E1, E4, q7, xin, ixx, gd_t, q2]
  · simp (disch := omega) only [st_k, st_j, st_eq]
    apply zB_ext (by omega)
    intro i hi
    rw [b_and, b_xor, bt_zB _ _ (by omega) i hi, b_one (by omega) hi, b_m1 i hi]
    by_cases hix : i = x
    · subst hix; unfold rop; rw [r_40]; simp
    · rcases Nat.lt_or_ge i n with hl | hl
      · unfold rop; rw [lo (40 + i) (by omega) (by omega) (by omega)]; simp [hix]
      · simp [show ¬ i < n by omega]
  · simp (disch := omega) only [st_k, st_j, st_eq, E2, lo]
  · simp (disch := omega) only [st_k, st_j, st_eq, r_81]
  · simp (disch := omega) only [st_k, st_j, st_eq, r_82]
  · simp (disch := omega) only [st_k, st_j, st_eq, lo, (dw e he).1]
    obtain ⟨q1, q2, q3, q4, q5⟩ := E5 e he
    refine ⟨q1, q2, q3, q4, ?_⟩
    rw [q5]
    refine zB_cong (fun c _ => ?_)
    exact (zany_cong (fun i hi => by rw [lo (20 + i) (by omega) (by omega) (by omega), lo i (by omega) (by omega) (by omega)])).symm
  · refine fr_t (fr_t (fr_st ?_) (fr_st ?_)) (fr_st ?_) <;> exact ⟨by omega, by omega⟩
theorem c_hold0 {v : Int32} (hE : ElR d el ρ n) (h : v < 0 ∨ 10 ≤ v ∨ ρ 81 = -9) : fX0_hold d el v = some (0, d) := by
  unfold fX0_hold
  by_cases h1 : v < 0
  · rw [zif_p h1]
  · rw [zif_n h1]
    by_cases h2 : 10 ≤ v
    · rw [zif_p h2]
    · rw [zif_n h2]
      rcases h with h | h | h
      · exact absurd h h1
      · exact absurd h h2
      · rw [hE.2.2.1, h, zif_n (by decide)]
theorem c_hold {x f : Nat} (hE : ElR d el ρ n) (hI : Inv0 ρ n m B) (h : ρ 81 = nI x) (hx : x < 20) (hf : f < 10) : ∃ d', fX0_hold d el (nI f) = some (1, d') ∧ ElR d' el (clkR (tellR ρ x f)) n ∧ Fr (Ke el) d d' := by
  obtain ⟨hw, hD, -, -, -, hH, -⟩ := hI
  have h20 := we_20 hw
  obtain ⟨hxn, -, -⟩ := ho_here hH h20 h hx
  obtain ⟨E1, E2, E3, E4, E5⟩ := hE
  generalize hr : clkR (tellR ρ x f) = ρ1
  have lo : ∀ j, j ≠ 60 + x → j ≠ 82 → ρ1 j = ρ j := fun j a1 a3 => by
    rw [← hr, clk_n a3]; unfold tellR; rw [up_n a1]
  have r_82 : ρ1 82 = ρ 82 + 1 := by rw [← hr]; unfold clkR tellR; rw [up_e, up_n (by omega)]
  have r_60 : ρ1 (60 + x) = ρ (60 + x) ||| ((1 : Int32) <<< (nI f &&& 31)) := by rw [← hr, clk_n (by omega)]; unfold tellR; rw [up_e]
  have par : ∀ e, e < n → rpar ρ1 e = rpar ρ e := fun e he => by unfold rpar; rw [lo (20 + e) (by omega) (by omega)]
  have dw := dw_cong par
  have xin : z_in (nI x) 20 = true := in_t hx (by omega)
  have ixx : z_ix (nI x) = x := ix_nI (by omega)
  have q7 : d.1 el 7 = nI x := E3.trans h
  have q4 := (E5 x hxn).2.2.2.1
  refine ⟨z_st (z_st d (el + 4) x (ρ (60 + x) ||| ((1 : Int32) <<< (nI f &&& 31)))) el 8 (ρ 82 + 1), ?_, ⟨?_, ?_, ?_, ?_, fun e he => ?_⟩, ?_⟩
  · unfold fX0_hold
    rw [q7, zif_n (nI_pos (by omega)), zif_n (by rw [le10 (by omega)]; omega), zif_p (nI_pos' (by omega))]
    simp (disch := omega) only [z_nme, st_k, st_j, st_eq, E4, q7, xin, ixx, gd_t, q4]
  · simp (disch := omega) only [st_k, st_j, st_eq, E1]
    exact zB_cong (fun e he => by unfold rop; rw [lo (40 + e) (by omega) (by omega)])
  · simp (disch := omega) only [st_k, st_j, st_eq, E2, lo]
  · simp (disch := omega) only [st_k, st_j, st_eq, E3, lo]
  · simp (disch := omega) only [st_k, st_j, st_eq, r_82]
  · obtain ⟨q1, q2, q3, q4, q5⟩ := E5 e he
    have qc : zB (rch ρ n e) 5 = zB (rch ρ1 n e) 5 := zB_cong (fun c _ => (zany_cong (fun i hi => by rw [lo (20 + i) (by omega) (by omega), lo i (by omega) (by omega)])).symm)
    rw [← qc, (dw e he).1, lo e (by omega) (by omega), lo (20 + e) (by omega) (by omega)]
    simp (disch := omega) only [st_k]
    refine ⟨q1, q2, q3, ?_, q5⟩
    by_cases hex : e = x
    · subst hex; rw [st_eq, r_60]
    · rw [st_j hex, lo (60 + e) (by omega) (by omega)]; exact q4
  · refine fr_t (fr_st ?_) (fr_st ?_) <;> exact ⟨by omega, by omega⟩
end EL
