/-! events keep the rows in order; what is out stays out -/
def HO (ρ : Row) (n : Nat) : Prop := (ρ 81 = -9 ∧ ∀ e, e < n → rop ρ e = false) ∨ ∃ h, h < n ∧ ρ 81 = nI h ∧ ∀ e, e < n → (rop ρ e = true ↔ ∃ k, k < dep ρ h ∧ wy ρ h k = e)
def CB (ρ : Row) (B : Nat) : Prop := ∃ c, c ≤ B ∧ ρ 82 = nI c
def Inv0 (ρ : Row) (n m B : Nat) : Prop := WE ρ n ∧ (∀ e, e < n → dep ρ e ≤ 8) ∧ ρ 83 = nI m ∧ m ≤ 5 ∧ (∀ p, p < m → PR ρ p) ∧ HO ρ n ∧ CB ρ B
theorem inv01 {ρ : Row} {n m B : Nat} (h : Inv0 ρ n m B) (hB : B < 2 ^ 31) : Inv1 ρ n m := by
  obtain ⟨h1, h2, h3, h4, h5, -, c, hc, h7⟩ := h
  exact ⟨h1, h2, h3, h4, h5, by rw [h7]; exact i_ne9 (by omega)⟩
theorem dw_cong {ρ ρ' : Row} {N : Nat} (hp : ∀ e, e < N → rpar ρ' e = rpar ρ e) : ∀ e, e < N → dep ρ' e = dep ρ e ∧ ∀ k, wy ρ' e k = wy ρ e k := by
  intro e
  induction e using Nat.strongRecOn with
  | ind e ih =>
    intro he
    have hd : dep ρ' e = dep ρ e := by
      rw [dep, dep, hp e he]
      cases rpar ρ e with
      | none => rfl
      | some a =>
        by_cases ha : a < e
        · simp only [ha, (ih a ha (by omega)).1]
        · simp [ha]
    refine ⟨hd, fun k => ?_⟩
    rw [wy, wy, hp e he, hd]
    by_cases hk : k + 1 = dep ρ e
    · rw [if_pos hk, if_pos hk]
    · rw [if_neg hk, if_neg hk]
      cases rpar ρ e with
      | none => rfl
      | some a =>
        by_cases ha : a < e
        · simp only [ha, (ih a ha (by omega)).2 k]
        · simp [ha]
theorem ho_here {ρ : Row} {n h : Nat} (hw : HO ρ n) (hn : n ≤ 20) (hh : ρ 81 = nI h) (hh20 : h < 20) : h < n ∧ rop ρ h = true ∧ ∀ e, e < n → (rop ρ e = true ↔ ∃ k, k < dep ρ h ∧ wy ρ h k = e) := by
  rcases hw with ⟨h1, -⟩ | ⟨x, hx, h1, h2⟩
  · rw [hh] at h1; exact absurd h1 (i_ne9 (by omega))
  · rw [hh] at h1
    have := (nI_eq (by omega) (by omega)).mp h1
    subst this
    have hd := dep_1 (ρ := ρ) (e := h)
    exact ⟨hx, (h2 h hx).mpr ⟨dep ρ h - 1, by omega, wy_t (by omega)⟩, h2⟩
theorem mS_mono {par par' : Nat → Option Nat} {deep : Nat → Bool} {fits fits' : Nat → Nat → Bool} {N : Nat} (hp : ∀ e, e < N → par' e = par e) (hf : ∀ e, e < N → ∀ i, fits e i = true → fits' e i = true) : ∀ e, e < N → ∀ i, ((mS par deep fits e).1 i = true → (mS par' deep fits' e).1 i = true) ∧ ((mS par deep fits e).2 i = true → (mS par' deep fits' e).2 i = true) := by
  intro e
  induction e using Nat.strongRecOn with
  | ind e ih =>
    intro he i
    cases hpe : par e with
    | none =>
      have h1 := mS_n (deep := deep) (fits := fits) hpe i
      have h2 := mS_n (deep := deep) (fits := fits') ((hp e he).trans hpe) i
      rw [h1.1, h1.2, h2.1, h2.2]
      refine ⟨fun h => ?_, fun h => h⟩
      rw [Bool.and_eq_true] at h ⊢
      exact ⟨hf e he i h.1, h.2⟩
    | some a =>
      by_cases ha : a < e
      · have h1 := mS_p (deep := deep) (fits := fits) hpe ha i
        have h2 := mS_p (deep := deep) (fits := fits') ((hp e he).trans hpe) ha i
        rw [h1.1, h1.2, h2.1, h2.2]
        refine ⟨fun h => ?_, fun h => ?_⟩
        · rw [Bool.and_eq_true] at h ⊢
          refine ⟨hf e he i h.1, ?_⟩
          have h3 := h.2
          by_cases h0 : i = 0
          · rw [if_pos h0] at h3 ⊢; exact h3
          · rw [if_neg h0] at h3 ⊢
            have ih1 := ih a ha (by omega) (i - 1)
            by_cases hd : deep i = true
            · rw [if_pos hd] at h3 ⊢
              rw [Bool.or_eq_true] at h3 ⊢
              exact h3.imp ih1.1 ih1.2
            · rw [if_neg hd] at h3 ⊢
              exact ih1.1 h3
        · rw [Bool.or_eq_true] at h ⊢
          have ih1 := ih a ha (by omega) i
          exact h.imp ih1.1 ih1.2
      · have h1 : mS par deep fits e = (fun _ => false, fun _ => false) := by rw [mS, hpe]; simp [ha]
        rw [h1]
        exact ⟨fun h => absurd h Bool.false_ne_true, fun h => absurd h Bool.false_ne_true⟩
theorem met_q {ρ : Row} {n e c : Nat} (h : met ρ n false e c = true) : met ρ n true e c = true := by
  unfold met at h ⊢
  simp only [Bool.false_and, Bool.false_or, Bool.true_and, Bool.or_eq_true] at h ⊢
  rcases h with h | h
  · exact Or.inl h
  · exact Or.inr (Or.inr h)
theorem ans_pos {ρ : Row} {n L : Nat} {cd ts : Nat → Nat} {e : Nat} (h : ansB ρ n L cd ts e = true) : posB ρ n L cd ts e = true :=
  (mS_mono (N := e + 1) (fun _ _ => rfl) (fun e _ i hf => by unfold fitB at hf ⊢; rw [Bool.and_eq_true] at hf ⊢; exact ⟨hf.1, met_q hf.2⟩) e (by omega) (L - 1)).1 h
/-- of a row to the next: answers stay, possible ones were possible -/
def Mono (ρ : Row) (n : Nat) (ρ1 : Row) (n1 m : Nat) : Prop := ∀ p, p < m → ∀ e, e < n → (aB ρ n p e = true → aB ρ1 n1 p e = true) ∧ (qB ρ1 n1 p e = true → qB ρ n p e = true)
theorem out_iff {ρ : Row} {n L : Nat} {cd ts : Nat → Nat} {e : Nat} : outB ρ n L cd ts e = true ↔ ansB ρ n L cd ts e = true ∧ ∀ x, x ≤ e → (posB ρ n L cd ts x = true → ansB ρ n L cd ts x = true) := by
  unfold outB
  rw [Bool.and_eq_true, Bool.not_eq_true']
  refine and_congr_right (fun _ => ?_)
  constructor
  · intro h x hx hp
    cases ha : ansB ρ n L cd ts x with
    | true => rfl
    | false =>
      have : zany (dbtB ρ n L cd ts) (e + 1) = true := zany_t.mpr ⟨x, by omega, by unfold dbtB; rw [hp, ha]; rfl⟩
      rw [h] at this; cases this
  · intro h
    rcases bool2 (zany (dbtB ρ n L cd ts) (e + 1)) with g | g
    · exact g
    · obtain ⟨x, hx, hd⟩ := zany_t.mp g
      unfold dbtB at hd
      rw [Bool.and_eq_true, Bool.not_eq_true'] at hd
      rw [h x (by omega) hd.1] at hd
      cases hd.2
theorem out_stay {ρ ρ1 : Row} {n n1 m p e : Nat} (h : Mono ρ n ρ1 n1 m) (hp : p < m) (he : e < n) (ho : oB ρ n p e = true) : oB ρ1 n1 p e = true := by
  obtain ⟨h1, h2⟩ := out_iff.mp ho
  exact out_iff.mpr ⟨(h p hp e he).1 h1, fun x hx hq => (h p hp x (by omega)).1 (h2 x hx ((h p hp x (by omega)).2 hq))⟩
theorem out_first {ρ ρ1 : Row} {n n1 m p e x : Nat} (h : Mono ρ n ρ1 n1 m) (hp : p < m) (he : e < n) (ho : oB ρ n p e = true) (hx : x < e) (ho1 : oB ρ1 n1 p x = true) : oB ρ n p x = true := by
  obtain ⟨h1, h2⟩ := out_iff.mp ho
  obtain ⟨h3, -⟩ := out_iff.mp ho1
  refine out_iff.mpr ⟨h2 x (by omega) ((h p hp x (by omega)).2 (ans_pos h3)), fun y hy => h2 y (by omega)⟩
/-- rows with the same paths and, for the old elements, the same parents, names: by their fulfilled conditions -/
theorem mono_of {ρ ρ1 : Row} {n n1 m : Nat} (hm : m ≤ 5) (hPR : ∀ p, p < m → PR ρ p) (hs : ∀ j, 83 ≤ j → j < 109 → ρ1 j = ρ j) (hpar : ∀ e, e < n → rpar ρ1 e = rpar ρ e) (hnm : ∀ e, e < n → ρ1 e = ρ e)
    (hf : ∀ e, e < n → ∀ c, c < 16 → (met ρ n false e c = true → met ρ1 n1 false e c = true) ∧ (met ρ1 n1 true e c = true → met ρ n true e c = true)) : Mono ρ n ρ1 n1 m := by
  intro p hp e he
  obtain ⟨h1, h2, h3, h4⟩ := hPR p hp
  have hL : rL ρ1 p = rL ρ p := by unfold rL; rw [hs _ (by omega) (by omega)]
  have hcd : ∀ i, i < rL ρ p → rcd ρ1 p i = rcd ρ p i := fun i hi => by unfold rcd; rw [hs _ (by omega) (by omega)]
  have hts : ∀ i, i < rL ρ p → rts ρ1 p i = rts ρ p i := fun i hi => by unfold rts; rw [hcd i hi]
  have ea : aB ρ1 n1 p e = ansB ρ1 n1 (rL ρ p) (rcd ρ p) (rts ρ p) e := by unfold aB; rw [hL]; exact ans_L h2 hcd hts e
  have eq : qB ρ1 n1 p e = posB ρ1 n1 (rL ρ p) (rcd ρ p) (rts ρ p) e := by unfold qB; rw [hL]; exact pos_L h2 hcd hts e
  -- conditions beyond the path's steps are taken as they are below 16
  have red : ∀ (ρ : Row) (n : Nat) (q : Bool) (e i : Nat), i < rL ρ p → True := fun _ _ _ _ _ _ => trivial
  rw [ea, eq]
  let cd' : Nat → Nat := fun i => if i < rL ρ p then rcd ρ p i else 0
  have hc16 : ∀ i, cd' i % 100 < 16 := fun i => by
    show (if i < rL ρ p then rcd ρ p i else 0) % 100 < 16
    split
    · rename_i hi; exact (h4 i hi).2.2.1
    · omega
  have hcd' : ∀ i, i < rL ρ p → cd' i = rcd ρ p i := fun i hi => if_pos hi
  have a1 : aB ρ n p e = ansB ρ n (rL ρ p) cd' (rts ρ p) e := (ans_L h2 hcd' (fun _ _ => rfl) e).symm
  have a2 : ansB ρ1 n1 (rL ρ p) (rcd ρ p) (rts ρ p) e = ansB ρ1 n1 (rL ρ p) cd' (rts ρ p) e := (ans_L h2 hcd' (fun _ _ => rfl) e).symm
  have a3 : qB ρ n p e = posB ρ n (rL ρ p) cd' (rts ρ p) e := (pos_L h2 hcd' (fun _ _ => rfl) e).symm
  have a4 : posB ρ1 n1 (rL ρ p) (rcd ρ p) (rts ρ p) e = posB ρ1 n1 (rL ρ p) cd' (rts ρ p) e := (pos_L h2 hcd' (fun _ _ => rfl) e).symm
  rw [a1, a2, a3, a4]
  refine ⟨fun h => ?_, fun h => ?_⟩
  · exact (mS_mono (N := n) (fun e he => hpar e he) (fun e he i hfi => by
      unfold fitB at hfi ⊢
      rw [Bool.and_eq_true] at hfi ⊢
      rw [hnm e he]
      exact ⟨hfi.1, (hf e he _ (hc16 i)).1 hfi.2⟩) e he _).1 h
  · exact (mS_mono (N := n) (fun e he => (hpar e he).symm) (fun e he i hfi => by
      unfold fitB at hfi ⊢
      rw [Bool.and_eq_true] at hfi ⊢
      rw [hnm e he] at hfi
      exact ⟨hfi.1, (hf e he _ (hc16 i)).2 hfi.2⟩) e he _).1 h
theorem pr_keep {ρ ρ1 : Row} {p : Nat} (hp : p < 5) (hs : ∀ j, 83 ≤ j → j < 109 → ρ1 j = ρ j) (w : PR ρ p) : PR ρ1 p := by
  obtain ⟨h1, h2, h3, h4⟩ := w
  have hL : rL ρ1 p = rL ρ p := by unfold rL; rw [hs _ (by omega) (by omega)]
  unfold PR
  rw [hL]
  refine ⟨by rw [hs _ (by omega) (by omega)]; exact h1, h2, h3, fun i hi => ?_⟩
  have : rcd ρ1 p i = rcd ρ p i := by unfold rcd; rw [hs _ (by omega) (by omega)]
  rw [this, hs _ (by omega) (by omega)]; exact h4 i hi
