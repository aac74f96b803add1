theorem st_u (d : Dt) (k j : Nat) (v : Int32) : (z_st d k j v).1 k = upd (d.1 k) j v := by simp [z_st, z_sg]
theorem up_e (f : Nat → Int32) (k : Nat) (x : Int32) : upd f k x k = x := if_pos rfl
theorem up_n {f : Nat → Int32} {k j : Nat} {x : Int32} (h : j ≠ k) : upd f k x j = f j := if_neg h
def clkR (ρ : Row) : Row := upd ρ 82 (ρ 82 + 1)
def notesR (ρ : Row) (n : Nat) : Nat → Row
  | 0 => ρ
  | p + 1 => noteR (notesR ρ n p) n p
def cntS (ρ : Row) (n : Nat) : Nat → Nat
  | 0 => 0
  | p + 1 => cntS ρ n p + cntN (notesR ρ n p) n p
theorem notes_ag {ρ : Row} {n : Nat} : ∀ m, Ag ρ (notesR ρ n m)
  | 0 => fun _ _ => rfl
  | m + 1 => ag_t (notes_ag m) noteR_ag
/-- a row whose elements and paths are in order, with its clock -/
def Inv1 (ρ : Row) (n m : Nat) : Prop := WE ρ n ∧ (∀ e, e < n → dep ρ e ≤ 8) ∧ ρ 83 = nI m ∧ m ≤ 5 ∧ (∀ p, p < m → PR ρ p) ∧ ¬ ρ 82 = -9
theorem ag_inv1 {ρ ρ' : Row} {n m : Nat} (h : Ag ρ ρ') (w : Inv1 ρ n m) : Inv1 ρ' n m := by
  obtain ⟨h1, h2, h3, h4, h5, h6⟩ := w
  have h20 := we_20 h1
  exact ⟨ag_we h h1, fun e he => by rw [ag_dep h e (by omega)]; exact h2 e he, by rw [h 83 (by omega)]; exact h3, h4, fun p hp => ag_PR h (by omega) (h5 p hp), by rw [h 82 (by omega)]; exact h6⟩
abbrev Ka (a : Nat) : Nat → Prop := fun k => K9 k ∨ k = a
theorem m_noteAll {d : Dt} {a n m : Nat} (ha : a ≠ 9 ∧ a ≠ 10 ∧ a ≠ 0) (hot : d.1 0 13 = -9) (hI : Inv1 (clkR (d.1 a)) n m) : ∃ d', fX6_noteAll d a = some (nI (cntS (clkR (d.1 a)) n m), d') ∧ d'.1 a = notesR (clkR (d.1 a)) n m ∧ Fr (Ka a) d d' := by
  have key : Ok (z_lp (bX6_noteAll_12 a) (0, 0, z_st d a 82 (d.1 a 82 + 1))) (fun t => t.1 = nI (cntS (clkR (d.1 a)) n m) ∧ t.2.1 a = notesR (clkR (d.1 a)) n m ∧ Fr (Ka a) d t.2) := by
    refine ok_for m (fun p s => ∃ d4, s = (nI (cntS (clkR (d.1 a)) n p), nI p, d4) ∧ d4.1 a = notesR (clkR (d.1 a)) n p ∧ Fr (Ka a) d d4) ?_ ?_ 0 _ (by omega) ⟨_, rfl, st_u _ _ _ _, fr_st (Or.inr rfl)⟩
    · rintro p s hp ⟨d4, rfl, hd4, hf⟩
      have hag : Ag (clkR (d.1 a)) (d4.1 a) := by rw [hd4]; exact notes_ag p
      obtain ⟨h1, h2, h3, h4, h5, h6⟩ := ag_inv1 hag hI
      have hr0 : d4.1 0 = d.1 0 := hf.1 0 (by omega)
      unfold bX6_noteAll_12
      refine ok_f (by rw [show d4.1 a (z_ix (83 : Int32)) = nI m from h3, nI_leI (by omega) (by omega)]; omega) ?_
      obtain ⟨d6, e1, e2, e3⟩ := m_noteOut ha h1 h2 (h5 p hp) (by omega) (by rw [hr0]; exact hot) h6
      refine ok_de e1 (ok_nm (ok_nm (ok_c ⟨d6, ?_, by rw [e2, hd4]; rfl, fr_t hf e3⟩)))
      rw [nI_add, show nI p + (1 : Int32) = nI (p + 1) from nI_1 p, hd4]; rfl
    · rintro s ⟨d4, rfl, hd4, hf⟩
      have hag : Ag (clkR (d.1 a)) (d4.1 a) := by rw [hd4]; exact notes_ag m
      obtain ⟨h1, h2, h3, h4, h5, h6⟩ := ag_inv1 hag hI
      unfold bX6_noteAll_12
      exact ok_t (by rw [show d4.1 a (z_ix (83 : Int32)) = nI m from h3, nI_leI (by omega) (by omega)]; omega) (ok_z ⟨rfl, hd4, hf⟩)
  obtain ⟨⟨x, d'⟩, k1, hx, k2, k3⟩ := key
  dsimp only at hx k2 k3
  subst hx
  refine ⟨d', ?_, k2, k3⟩
  unfold fX6_noteAll
  rw [z_nme]
  show z_br (z_lp (bX6_noteAll_12 a) (0, 0, z_st d a 82 (d.1 a 82 + 1))) _ = _
  rw [k1]; rfl
/-! the events on rows -/
def openR (ρ : Row) (n : Nat) (v : Int32) : Row := upd (upd (upd (upd (upd (upd ρ n v) (20 + n) (ρ 81)) (40 + n) 1) (60 + n) 0) 81 (nI n)) 80 (nI (n + 1))
def closeR (ρ : Row) (h : Nat) : Row := upd (upd ρ (40 + h) 0) 81 (ρ (20 + h))
def tellR (ρ : Row) (h f : Nat) : Row := upd ρ (60 + h) (ρ (60 + h) ||| ((1 : Int32) <<< (nI f &&& 31)))
theorem a40 (e : Nat) : (40 : Int32) + nI e = nI (40 + e) := nI_add 40 e
theorem a60 (e : Nat) : (60 : Int32) + nI e = nI (60 + e) := nI_add 60 e
theorem m_openOn {d : Dt} {a n m : Nat} {v : Int32} (ha : a ≠ 9 ∧ a ≠ 10 ∧ a ≠ 0) (hot : d.1 0 13 = -9) (hn : d.1 a 80 = nI n) (hn20 : n < 20) (hI : Inv1 (clkR (openR (d.1 a) n v)) (n + 1) m) : ∃ d', fX6_openOn d a v = some d' ∧ d'.1 a = notesR (clkR (openR (d.1 a) n v)) (n + 1) m ∧ Fr (Ka a) d d' := by
  unfold fX6_openOn
  simp only [z_nme]
  rw [show d.1 a (z_ix (80 : Int32)) = nI n from hn, in_t (by omega) (by omega), gd_t, a20, in_t (by omega) (by omega), gd_t, a40, in_t (by omega) (by omega), gd_t, a60, in_t (by omega) (by omega), gd_t]
  simp only [ix_nI (show n < 2 ^ 31 by omega), ix_nI (show 20 + n < 2 ^ 31 by omega), ix_nI (show 40 + n < 2 ^ 31 by omega), ix_nI (show 60 + n < 2 ^ 31 by omega)]
  generalize hd7 : z_st (z_st (z_st (z_st (z_st (z_st d a n v) a (20 + n) ((z_st d a n v).1 a (z_ix (81 : Int32)))) a (40 + n) 1) a (60 + n) 0) a (z_ix (81 : Int32)) (nI n)) a (z_ix (80 : Int32)) ((z_st (z_st (z_st (z_st (z_st d a n v) a (20 + n) ((z_st d a n v).1 a (z_ix (81 : Int32)))) a (40 + n) 1) a (60 + n) 0) a (z_ix (81 : Int32)) (nI n)).1 a (z_ix (80 : Int32)) + 1) = d7
  have hrow : d7.1 a = openR (d.1 a) n v := by
    have e1 : (z_st (z_st (z_st (z_st (z_st d a n v) a (20 + n) ((z_st d a n v).1 a (z_ix (81 : Int32)))) a (40 + n) 1) a (60 + n) 0) a (z_ix (81 : Int32)) (nI n)).1 a (z_ix (80 : Int32)) + 1 = nI (n + 1) := by
      show (z_st (z_st (z_st (z_st (z_st d a n v) a (20 + n) _) a (40 + n) 1) a (60 + n) 0) a 81 (nI n)).1 a 80 + 1 = _
      rw [st_j (by omega), st_j (by omega), st_j (by omega), st_j (by omega), st_j (by omega), hn]
      exact nI_1 n
    rw [e1] at hd7
    have e2 : (z_st d a n v).1 a (z_ix (81 : Int32)) = d.1 a 81 := st_j (show 81 ≠ n by omega)
    rw [e2] at hd7
    rw [← hd7]
    simp only [st_u]
    rfl
  have hfr : Fr (Ka a) d d7 := by
    rw [← hd7]
    exact fr_t (fr_t (fr_t (fr_t (fr_t (fr_st (Or.inr rfl)) (fr_st (Or.inr rfl))) (fr_st (Or.inr rfl))) (fr_st (Or.inr rfl))) (fr_st (Or.inr rfl))) (fr_st (Or.inr rfl))
  obtain ⟨d', e1, e2, e3⟩ := m_noteAll (d := d7) (n := n + 1) (m := m) ha (by rw [hfr.1 0 (by omega)]; exact hot) (by rw [hrow]; exact hI)
  refine ⟨d', ?_, by rw [e2, hrow], fr_t hfr e3⟩
  rw [e1, bd_s]
theorem m_closeOn {d : Dt} {a n m h : Nat} (ha : a ≠ 9 ∧ a ≠ 10 ∧ a ≠ 0) (hot : d.1 0 13 = -9) (hh : d.1 a 81 = nI h) (hh20 : h < 20) (hI : Inv1 (clkR (closeR (d.1 a) h)) n m) : ∃ d', fX6_closeOn d a = some (nI (cntS (clkR (closeR (d.1 a) h)) n m), d') ∧ d'.1 a = notesR (clkR (closeR (d.1 a) h)) n m ∧ Fr (Ka a) d d' := by
  unfold fX6_closeOn
  simp only [z_nme]
  rw [show d.1 a (z_ix (81 : Int32)) = nI h from hh, a40, in_t (by omega) (by omega), gd_t, a20, in_t (by omega) (by omega), gd_t, ix_nI (by omega), ix_nI (by omega)]
  generalize hd7 : z_st (z_st d a (40 + h) 0) a (z_ix (81 : Int32)) ((z_st d a (40 + h) 0).1 a (20 + h)) = d7
  have hrow : d7.1 a = closeR (d.1 a) h := by
    rw [st_j (show 20 + h ≠ 40 + h by omega)] at hd7
    rw [← hd7]
    simp only [st_u]
    rfl
  have hfr : Fr (Ka a) d d7 := by
    rw [← hd7]
    exact fr_t (fr_st (Or.inr rfl)) (fr_st (Or.inr rfl))
  obtain ⟨d', e1, e2, e3⟩ := m_noteAll (d := d7) (n := n) (m := m) ha (by rw [hfr.1 0 (by omega)]; exact hot) (by rw [hrow]; exact hI)
  rw [hrow] at e1 e2
  refine ⟨d', ?_, e2, fr_t hfr e3⟩
  rw [e1, bd_s]
theorem m_tellOn {d : Dt} {a n m h f : Nat} (ha : a ≠ 9 ∧ a ≠ 10 ∧ a ≠ 0) (hot : d.1 0 13 = -9) (hh : d.1 a 81 = nI h) (hh20 : h < 20) (hI : Inv1 (clkR (tellR (d.1 a) h f)) n m) : ∃ d', fX6_tellOn d a (nI f) = some (nI (cntS (clkR (tellR (d.1 a) h f)) n m), d') ∧ d'.1 a = notesR (clkR (tellR (d.1 a) h f)) n m ∧ Fr (Ka a) d d' := by
  unfold fX6_tellOn
  simp only [z_nme]
  rw [show d.1 a (z_ix (81 : Int32)) = nI h from hh, a60, in_t (by omega) (by omega), gd_t, gd_t, ix_nI (by omega)]
  generalize hd7 : z_st d a (60 + h) (d.1 a (60 + h) ||| ((1 : Int32) <<< (nI f &&& 31))) = d7
  have hrow : d7.1 a = tellR (d.1 a) h f := by
    rw [← hd7, st_u]; rfl
  have hfr : Fr (Ka a) d d7 := by
    rw [← hd7]
    exact fr_st (Or.inr rfl)
  obtain ⟨d', e1, e2, e3⟩ := m_noteAll (d := d7) (n := n) (m := m) ha (by rw [hfr.1 0 (by omega)]; exact hot) (by rw [hrow]; exact hI)
  rw [hrow] at e1 e2
  refine ⟨d', ?_, e2, fr_t hfr e3⟩
  rw [e1, bd_s]
