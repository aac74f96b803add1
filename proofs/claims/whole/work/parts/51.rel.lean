/-! WHAT THE TWO SIDES HOLD ALIKE -/
theorem z10 {α : Type} {a b : α} : zif ((1 : Int32) = 0) a b = b := zif_n (by decide)
theorem z00 {α : Type} {a b : α} : zif ((0 : Int32) = 0) a b = a := zif_p rfl
def rowAt (g : Nat → Int32) (k : Nat) : Row := fun j => g (214 * k + j)
def StI (d : Dt) (b : Nat) (ρ : Row) (B : Nat) : Prop := ∃ n m, StR d b ρ n m ∧ InvS ρ n m B
section STI
variable {d d' : Dt} {b B : Nat} {ρ ρ' : Row}
theorem a2_agp {p : Nat} (h : ∀ j, j < 214 → ρ' j = ρ j) (hp : p < 5) : Agp ρ ρ' p := ⟨h _ (by omega), fun i hi => h _ (by omega), h _ (by omega), fun e he => h _ (by omega)⟩
theorem a2_al (h : ∀ j, j < 214 → ρ' j = ρ j) : Al ρ ρ' := fun j hj => h j (by omega)
theorem a2_ag (h : ∀ j, j < 214 → ρ' j = ρ j) : Ag ρ ρ' := fun j hj => h j (by omega)
theorem invs_a2 {n m : Nat} (h : ∀ j, j < 214 → ρ' j = ρ j) (w : InvS ρ n m B) : InvS ρ' n m B := by
  obtain ⟨w1, w2⟩ := w
  have h20 := we_20 w1.1
  have h4 := w1.2.2.2.1
  refine ⟨ag_inv0 (a2_ag h) w1, fun p hp e he => ?_⟩
  rw [al_oN (a2_al h) (a2_agp h (by omega)) h20 (w1.2.2.2.2.1 p hp) he, ← w2 p hp e he]
  unfold whO
  rw [h _ (by omega)]
theorem str_a2 {n m : Nat} (hn : n ≤ 20) (hm : m ≤ 5) (h : ∀ j, j < 214 → ρ' j = ρ j) (w : StR d b ρ n m) : StR d b ρ' n m :=
  ⟨elr_ag hn (a2_ag h) w.1, w.2.1, fun p hp => par_ag (w.2.2 p hp) (a2_agp h (by omega))⟩
theorem sti_a2 (h : ∀ j, j < 214 → ρ' j = ρ j) (w : StI d b ρ B) : StI d b ρ' B := by
  obtain ⟨n, m, w1, w2⟩ := w
  exact ⟨n, m, str_a2 (we_20 w2.1.1) w2.1.2.2.2.1 h w1, invs_a2 h w2⟩
theorem sti_fr {K : Nat → Prop} (w : StI d b ρ B) (hf : Fr K d d') (hK : ∀ k, k < 28 → ¬ K (b + k)) : StI d' b ρ B := by
  obtain ⟨n, m, w1, w2⟩ := w
  exact ⟨n, m, str_fr w2.1.2.2.2.1 w1 hf hK, w2⟩
theorem inv0_m {n m B' : Nat} (hB : B ≤ B') (w : Inv0 ρ n m B) : Inv0 ρ n m B' := by
  obtain ⟨h1, h2, h3, h4, h5, h6, c, hc, h7⟩ := w
  exact ⟨h1, h2, h3, h4, h5, h6, c, by omega, h7⟩
theorem sti_m {B' : Nat} (hB : B ≤ B') (w : StI d b ρ B) : StI d b ρ B' := by
  obtain ⟨n, m, w1, w2⟩ := w
  exact ⟨n, m, w1, inv0_m hB w2.1, w2.2⟩
theorem sti_copy {b0 : Nat} (hd : b0 + 28 ≤ b ∨ b + 28 ≤ b0) (w : StI d b ρ B) : ∃ d', fX3_copyFrom d b0 b = some d' ∧ StI d' b0 ρ B ∧ Fr (Kt b0) d d' := by
  obtain ⟨n, m, w1, w2⟩ := w
  obtain ⟨d', e1, e2, e3⟩ := c_copy (we_20 w2.1.1) w2.1.2.2.2.1 hd w2.1.1.1 w1
  exact ⟨d', e1, ⟨n, m, e2, w2⟩, e3⟩
end STI
def RelT (dc dm : Dt) : Prop := ∃ len, len ≤ 99 ∧ dc.1 0 12 = nI len ∧ dm.1 0 1 = nI len ∧ ∀ i, i < len → ∃ c, c < 256 ∧ dc.1 67 i = nI c ∧ dm.1 1 i = nI c
def RelA (dc dm : Dt) (B : Nat) : Prop := ∃ k x, k ≤ 14 ∧ x < 14 ∧ dc.1 0 13 = nI k ∧ dm.1 0 5 = nI k ∧ dc.1 0 14 = nI x ∧ dm.1 0 6 = nI x ∧ ∀ j, j < k → StI dc (72 + 28 * ((x + 13 - j) % 14)) (rowAt (dm.1 4) ((x + 13 - j) % 14)) B
def RelK (dc dm : Dt) (B : Nat) : Prop := ∀ s, s < 2 → (dc.1 59 s = 0 ∧ dm.1 6 s = 0) ∨ (dc.1 59 s = 1 ∧ dm.1 6 s = 1 ∧ StI dc (464 + 28 * s) (rowAt (dm.1 5) s) B)
def RelO (dc dm : Dt) : Prop := ∃ o, o ≤ 6 ∧ dc.1 0 15 = nI o ∧ dm.1 0 11 = nI o ∧ ∀ i, i < o → ∃ q, q < 5 ∧ dc.1 68 i = nI q ∧ dm.1 7 i = nI q ∧ dc.1 69 i = dm.1 8 i
def Rel (dc dm : Dt) (B : Nat) : Prop := StI dc 1 (dm.1 2) B ∧ RelT dc dm ∧ RelA dc dm B ∧ RelK dc dm B ∧ RelO dc dm ∧ dc.2 = dm.2 ∧ dm.1 0 13 = -9
/-- the scratch cells of the class, of the reference -/
def Sc (k : Nat) : Prop := (29 ≤ k ∧ k < 57) ∨ (60 ≤ k ∧ k ≤ 66) ∨ k = 70 ∨ k = 71
def Sm (k : Nat) : Prop := k = 3 ∨ (9 ≤ k ∧ k ≤ 15)
def FrM (dm dm' : Dt) : Prop := (∀ k, ¬ Sm k → k ≠ 0 → dm'.1 k = dm.1 k) ∧ (∀ j, j < 14 → dm'.1 0 j = dm.1 0 j) ∧ dm'.2 = dm.2
theorem frm_of {dm dm' : Dt} (h : Fr Sm dm dm') : FrM dm dm' := ⟨fun k hk _ => h.1 k hk, fun j _ => by rw [h.1 0 (by unfold Sm; omega)], h.2⟩
theorem frm_t {dm dm' dm'' : Dt} (h : FrM dm dm') (h' : FrM dm' dm'') : FrM dm dm'' := ⟨fun k h1 h2 => (h'.1 k h1 h2).trans (h.1 k h1 h2), fun j hj => (h'.2.1 j hj).trans (h.2.1 j hj), h'.2.2.trans h.2.2⟩
section REL
variable {dc dc' dm dm' : Dt} {B : Nat}
theorem relT_k (h : RelT dc dm) (c0 : dc'.1 0 12 = dc.1 0 12) (c1 : dc'.1 67 = dc.1 67) (m0 : dm'.1 0 1 = dm.1 0 1) (m1 : dm'.1 1 = dm.1 1) : RelT dc' dm' := by
  obtain ⟨len, h1, h2, h3, h4⟩ := h
  exact ⟨len, h1, c0.trans h2, m0.trans h3, fun i hi => by rw [c1, m1]; exact h4 i hi⟩
theorem relA_k (h : RelA dc dm B) (c0 : dc'.1 0 13 = dc.1 0 13) (c1 : dc'.1 0 14 = dc.1 0 14) (c2 : ∀ k, 72 ≤ k → k < 464 → dc'.1 k = dc.1 k) (cl : dc'.2 = dc.2) (m0 : dm'.1 0 5 = dm.1 0 5) (m1 : dm'.1 0 6 = dm.1 0 6) (m2 : dm'.1 4 = dm.1 4) : RelA dc' dm' B := by
  obtain ⟨k, x, h1, h2, h3, h4, h5, h6, h7⟩ := h
  refine ⟨k, x, h1, h2, c0.trans h3, m0.trans h4, c1.trans h5, m1.trans h6, fun j hj => ?_⟩
  rw [m2]
  exact sti_fr (K := fun k => ¬ (72 ≤ k ∧ k < 464)) (h7 j hj) ⟨fun k hk => by have := Decidable.not_not.mp hk; exact c2 k this.1 this.2, cl⟩ (fun k hk => by omega)
theorem relK_k (h : RelK dc dm B) (c0 : dc'.1 59 = dc.1 59) (c2 : ∀ k, 464 ≤ k → k < 520 → dc'.1 k = dc.1 k) (cl : dc'.2 = dc.2) (m0 : dm'.1 6 = dm.1 6) (m2 : dm'.1 5 = dm.1 5) : RelK dc' dm' B := by
  intro s hs
  rw [c0, m0, m2]
  rcases h s hs with h1 | ⟨h1, h2, h3⟩
  · exact Or.inl h1
  · exact Or.inr ⟨h1, h2, sti_fr (K := fun k => ¬ (464 ≤ k ∧ k < 520)) h3 ⟨fun k hk => by have := Decidable.not_not.mp hk; exact c2 k this.1 this.2, cl⟩ (fun k hk => by omega)⟩
theorem relO_k (h : RelO dc dm) (c0 : dc'.1 0 15 = dc.1 0 15) (c1 : dc'.1 68 = dc.1 68) (c2 : dc'.1 69 = dc.1 69) (m0 : dm'.1 0 11 = dm.1 0 11) (m1 : dm'.1 7 = dm.1 7) (m2 : dm'.1 8 = dm.1 8) : RelO dc' dm' := by
  obtain ⟨o, h1, h2, h3, h4⟩ := h
  exact ⟨o, h1, c0.trans h2, m0.trans h3, fun i hi => by rw [c1, c2, m1, m2]; exact h4 i hi⟩
theorem relA_m {B' : Nat} (hB : B ≤ B') (h : RelA dc dm B) : RelA dc dm B' := by
  obtain ⟨k, x, h1, h2, h3, h4, h5, h6, h7⟩ := h
  exact ⟨k, x, h1, h2, h3, h4, h5, h6, fun j hj => sti_m hB (h7 j hj)⟩
theorem relK_m {B' : Nat} (hB : B ≤ B') (h : RelK dc dm B) : RelK dc dm B' := by
  intro s hs
  rcases h s hs with h1 | ⟨h1, h2, h3⟩
  · exact Or.inl h1
  · exact Or.inr ⟨h1, h2, sti_m hB h3⟩
theorem rel_m {B' : Nat} (hB : B ≤ B') (h : Rel dc dm B) : Rel dc dm B' := by
  obtain ⟨h1, h2, h3, h4, h5, h6, h7⟩ := h
  exact ⟨sti_m hB h1, h2, relA_m hB h3, relK_m hB h4, h5, h6, h7⟩
theorem rel_fr (h : Rel dc dm B) (hc : Fr Sc dc dc') (hm : FrM dm dm') : Rel dc' dm' B := by
  obtain ⟨h1, h2, h3, h4, h5, h6, h7⟩ := h
  have c0 : dc'.1 0 = dc.1 0 := hc.1 0 (by unfold Sc; omega)
  have m1 : ∀ k, 1 ≤ k → k ≤ 8 → k ≠ 3 → dm'.1 k = dm.1 k := fun k a1 a2 a3 => hm.1 k (by unfold Sm; omega) (by omega)
  refine ⟨?_, ?_, ?_, ?_, ?_, by rw [hc.2, hm.2.2]; exact h6, by rw [hm.2.1 13 (by omega)]; exact h7⟩
  · rw [m1 2 (by omega) (by omega) (by omega)]
    exact sti_fr h1 hc (fun k hk => by unfold Sc; omega)
  · exact relT_k h2 (by rw [c0]) (hc.1 67 (by unfold Sc; omega)) (hm.2.1 1 (by omega)) (m1 1 (by omega) (by omega) (by omega))
  · exact relA_k h3 (by rw [c0]) (by rw [c0]) (fun k a1 a2 => hc.1 k (by unfold Sc; omega)) hc.2 (hm.2.1 5 (by omega)) (hm.2.1 6 (by omega)) (m1 4 (by omega) (by omega) (by omega))
  · exact relK_k h4 (hc.1 59 (by unfold Sc; omega)) (fun k a1 a2 => hc.1 k (by unfold Sc; omega)) hc.2 (m1 6 (by omega) (by omega) (by omega)) (m1 5 (by omega) (by omega) (by omega))
  · exact relO_k h5 (by rw [c0]) (hc.1 68 (by unfold Sc; omega)) (hc.1 69 (by unfold Sc; omega)) (hm.2.1 11 (by omega)) (m1 7 (by omega) (by omega) (by omega)) (m1 8 (by omega) (by omega) (by omega))
end REL
theorem km_sc {k : Nat} (h : Km k) : Sc k := by unfold Km at h; unfold Sc; omega
theorem k9_sm {k : Nat} (h : K9 k) : Sm k := by unfold K9 at h; unfold Sm; omega
/-- both sides answer alike, and hold alike again -/
def Sim {r : Type} (oc om : Option (r × Dt)) (B : Nat) : Prop := ∃ x dc dm, oc = some (x, dc) ∧ om = some (x, dm) ∧ Rel dc dm B
