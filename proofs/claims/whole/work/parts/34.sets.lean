theorem bd_s {α β : Type} {a : α} {d : Dt} {k : α → Dt → Option β} : z_bd (some (a, d)) k = k a d := Eq.trans (Eq.refl _) (Eq.refl _)
theorem br_s {α β : Type} {a : α} {k : α → Option β} : z_br (some a) k = k a := Eq.trans (Eq.refl _) (Eq.refl _)
theorem bool2 (b : Bool) : b = false ∨ b = true := by cases b <;> simp
abbrev K9 : Nat → Prop := fun k => k = 9 ∨ k = 10
section EO
variable {d : Dt} {a n p L e : Nat} {q : Bool} {cd ts : Nat → Nat}
theorem m_endsOf (ha : a ≠ 9 ∧ a ≠ 10) (h : WE (d.1 a) n) (hD : ∀ e, e < n → dep (d.1 a) e ≤ 8) (hP : PW (d.1 a) p L cd) (hp5 : p < 5) (hT : TS (d.1 0 13) L cd ts) (he : e < n) : ∃ d', fX6_endsOf d a (nI p) (nI e) (b2i q) = some (zB (sS (d.1 a) n q cd ts e) L, d') ∧ Fr K9 d d' := by
  obtain ⟨hL, hL1, hL4, hst⟩ := id hP
  obtain ⟨d2, e1, f1, w1⟩ := m_layWay ha.1 h he (hD e he)
  have h20 := we_20 h
  have hD1 := dep_1 (ρ := d.1 a) (e := e)
  have hD8 := hD e he
  have hwn : ∀ k, k < dep (d.1 a) e → wy (d.1 a) e k < n := fun k hk => Nat.lt_of_le_of_lt (wy_all h e he k hk).1 he
  have hw0 := wy_0 h he
  have hwp := wy_par h e he
  generalize hDe : dep (d.1 a) e = D at *
  have htop : wy (d.1 a) e (D - 1) = e := wy_t (by omega)
  generalize hwe : (fun k => wy (d.1 a) e k) = wv at *
  have hwv : ∀ k, wy (d.1 a) e k = wv k := fun k => by rw [← hwe]
  simp only [hwv] at *
  have key : Ok (z_lp (bX6_endsOf_14 (nI D) a (nI p) (b2i q)) (0, 0, d2)) (fun t => Fr K9 d t ∧ t.1 10 (D - 1) = zB (sS (d.1 a) n q cd ts e) L) := by
    refine ok_for D (fun k s => ∃ ab d5, s = (ab, nI k, d5) ∧ Fr K9 d d5 ∧ (∀ j, j < D → d5.1 9 j = nI (wv j)) ∧ (∀ j, j < k → d5.1 10 j = zB (sS (d.1 a) n q cd ts (wv j)) L) ∧ (k < D → ab = zB (fun j => decide (j < L) && sAr (d.1 a) n q cd ts (wv k) j) 4)) ?_ ?_ 0 _ (by omega) ?_
    · rintro k s hk ⟨ab, d5, rfl, hf, hw, hen, hab⟩
      unfold bX6_endsOf_14
      refine ok_f (by rw [nI_leI (by omega) (by omega)]; omega) (ok_gi (vp_in_nI (by omega) (by omega)) ?_)
      rw [ix_nI (by omega), hw k hk]
      have hr : d5.1 a = d.1 a := hf.1 a (by omega)
      have hr0 : d5.1 0 = d.1 0 := hf.1 0 (by omega)
      have hE : fX6_endsAt d5 a (nI p) (nI (wv k)) (nI k) ab (b2i q) = some (zB (sS (d5.1 a) n q cd ts (wv k)) L) := by
        refine m_endsAt (by rw [hr]; exact h) (by rw [hr]; exact hP) hp5 (by rw [hr0]; exact hT) (hwn k hk) (by omega) _ (hab hk) (fun j hj => by rw [hr]; simp [hj]) (fun h0 => ?_) (fun h0 => ?_)
        · subst h0; rw [hr, hw0]; exact rpar_0 h (by omega)
        · obtain ⟨m, rfl⟩ : ∃ m, k = m + 1 := ⟨k - 1, by omega⟩
          have := hwp m (by omega)
          refine ⟨wv m, this.2, by rw [hr]; exact this.1, ?_⟩
          rw [hr]; exact hen m (by omega)
      rw [hr] at hE
      rw [hE]
      refine ok_re rfl (ok_gi (vp_in_nI (by omega) (by omega)) (ok_nm (ok_gi (vp_in_nI (by omega) (by omega)) (ok_nm (ok_nm (ok_c ?_))))))
      refine ⟨_, _, congrArg (fun z => (_, z, _)) (nI_1 k), fr_t hf (fr_st (Or.inr rfl)), fun j hj => by rw [st_k (by omega)]; exact hw j hj, fun j hj => ?_, fun hk1 => ?_⟩
      · rcases Nat.lt_or_ge j k with h1 | h1
        · rw [st_j (by omega)]; exact hen j h1
        · rw [show j = k by omega, st_eq]
      · rw [st_eq, hab hk]
        have hg : zB (sS (d.1 a) n q cd ts (wv k)) L = zB (fun j => decide (j < L) && sS (d.1 a) n q cd ts (wv k) j) 4 := by
          rw [zB_grow (m := 4) hL4 (fun i h1 _ => by simp [show ¬ i < L by omega])]
          exact zB_cong (fun i hi => by simp [hi])
        rw [hg, zB_or (by omega)]
        have h3 := hwp k hk1
        refine zB_cong (fun i _ => ?_)
        have h4 : sAr (d.1 a) n q cd ts (wv (k + 1)) i = (sS (d.1 a) n q cd ts (wv k) i || sAr (d.1 a) n q cd ts (wv k) i) := (mS_p h3.1 h3.2 i).2
        rw [h4]
        cases decide (i < L) <;> simp [Bool.or_comm]
    · rintro s ⟨ab, d5, rfl, hf, hw, hen, -⟩
      unfold bX6_endsOf_14
      refine ok_t (by rw [nI_leI (by omega) (by omega)]; omega) (ok_z ⟨hf, ?_⟩)
      rw [hen (D - 1) (by omega), htop]
    · refine ⟨0, d2, rfl, fr_w f1 (fun k hk => Or.inl hk), w1, fun j hj => by omega, fun _ => ?_⟩
      symm
      rw [zB_0 (by omega)]
      intro i hi
      rw [hw0]
      have : sAr (d.1 a) n q cd ts 0 i = false := (mS_n (rpar_0 h (by omega)) i).2
      rw [this]; simp
  obtain ⟨d', k1, k2, k3⟩ := key
  refine ⟨d', ?_, k2⟩
  unfold fX6_endsOf
  rw [e1]
  show z_br (z_lp _ _) _ = _
  rw [k1]
  show z_gd _ _ = _
  rw [i_sub1 (by omega), in_t (by omega) (by omega), gd_t, ix_nI (by omega), k3]
theorem m_endsAll (ha : a ≠ 9 ∧ a ≠ 10) (h : WE (d.1 a) n) (hD : ∀ e, e < n → dep (d.1 a) e ≤ 8) (hP : PW (d.1 a) p L cd) (hp5 : p < 5) (hT : TS (d.1 0 13) L cd ts) (he : e < n) : ∃ d', fX6_endsAll d a (nI p) (nI e) (b2i q) = some (b2i (sS (d.1 a) n q cd ts e (L - 1)), d') ∧ Fr K9 d d' := by
  obtain ⟨d', e1, e2⟩ := m_endsOf (q := q) ha h hD hP hp5 hT he
  refine ⟨d', ?_, e2⟩
  obtain ⟨hL, hL1, hL4, hst⟩ := hP
  unfold fX6_endsAll
  rw [e1]
  show z_gd _ _ = _
  rw [a84, in_t (by omega) (by omega), gd_t, ix_nI (by omega), e2.1 a (by omega), hL, i_sub1 (by omega), m_has _ (by omega), bt_zB _ _ (by omega) _ (by omega)]
  simp [show L - 1 < L by omega, z_br]
end EO
/-- what a path answers, what is in doubt, what is out -/
def ansB (ρ : Row) (n L : Nat) (cd ts : Nat → Nat) (e : Nat) : Bool := sS ρ n false cd ts e (L - 1)
def posB (ρ : Row) (n L : Nat) (cd ts : Nat → Nat) (e : Nat) : Bool := sS ρ n true cd ts e (L - 1)
def dbtB (ρ : Row) (n L : Nat) (cd ts : Nat → Nat) (e : Nat) : Bool := posB ρ n L cd ts e && !ansB ρ n L cd ts e
def outB (ρ : Row) (n L : Nat) (cd ts : Nat → Nat) (e : Nat) : Bool := ansB ρ n L cd ts e && !zany (dbtB ρ n L cd ts) (e + 1)
section SO
variable {d : Dt} {a n p L : Nat} {cd ts : Nat → Nat}
theorem e80 {ρ : Row} {n : Nat} (h : WE ρ n) : ρ (z_ix (80 : Int32)) = nI n := h.1
theorem m_answersOf (ha : a ≠ 9 ∧ a ≠ 10) (h : WE (d.1 a) n) (hD : ∀ e, e < n → dep (d.1 a) e ≤ 8) (hP : PW (d.1 a) p L cd) (hp5 : p < 5) (hT : TS (d.1 0 13) L cd ts) : ∃ d', fX6_answersOf d a (nI p) = some (zB (ansB (d.1 a) n L cd ts) n, d') ∧ Fr K9 d d' := by
  have h20 := we_20 h
  have key : Ok (z_lp (bX6_answersOf_5 a (nI p)) (0, 0, d)) (fun t => t.1 = zB (ansB (d.1 a) n L cd ts) n ∧ Fr K9 d t.2) := by
    refine ok_for n (fun e s => ∃ d3, s = (zB (ansB (d.1 a) n L cd ts) e, nI e, d3) ∧ Fr K9 d d3) ?_ ?_ 0 _ (by omega) ⟨d, rfl, fr_r⟩
    · rintro e s he ⟨d3, rfl, hf⟩
      have hr : d3.1 a = d.1 a := hf.1 a (by omega)
      have hr0 : d3.1 0 = d.1 0 := hf.1 0 (by omega)
      unfold bX6_answersOf_5
      refine ok_f (by rw [hr, e80 h, nI_leI (by omega) (by omega)]; omega) ?_
      obtain ⟨d5, e1, e2⟩ := m_endsAll (d := d3) (q := false) ha (by rw [hr]; exact h) (by rw [hr]; exact hD) (by rw [hr]; exact hP) hp5 (by rw [hr0]; exact hT) he
      rw [hr] at e1
      refine ok_de (show fX6_endsAll d3 a (nI p) (nI e) (0 : Int32) = _ from e1) (ok_nm (ok_nm (ok_nm (ok_c ⟨d5, ?_, fr_t hf e2⟩))))
      rw [zB_s, show nI e + (1 : Int32) = nI (e + 1) from nI_1 e]
      unfold ansB
      cases sS (d.1 a) n false cd ts e (L - 1)
      · rw [zif_p (show b2i false = 0 from rfl)]; rfl
      · rw [zif_n (show ¬ b2i true = 0 by decide)]; rfl
    · rintro s ⟨d3, rfl, hf⟩
      have hr : d3.1 a = d.1 a := hf.1 a (by omega)
      unfold bX6_answersOf_5
      exact ok_t (by rw [hr, e80 h, nI_leI (by omega) (by omega)]; omega) (ok_z ⟨rfl, hf⟩)
  obtain ⟨⟨x, d'⟩, k1, rfl, k2⟩ := key
  refine ⟨d', ?_, k2⟩
  unfold fX6_answersOf
  rw [k1]; rfl
theorem m_doubtsOf (ha : a ≠ 9 ∧ a ≠ 10) (h : WE (d.1 a) n) (hD : ∀ e, e < n → dep (d.1 a) e ≤ 8) (hP : PW (d.1 a) p L cd) (hp5 : p < 5) (hT : TS (d.1 0 13) L cd ts) : ∃ d', fX6_doubtsOf d a (nI p) = some (zB (dbtB (d.1 a) n L cd ts) n, d') ∧ Fr K9 d d' := by
  have h20 := we_20 h
  have key : Ok (z_lp (bX6_doubtsOf_5 a (nI p)) (0, 0, d)) (fun t => t.1 = zB (dbtB (d.1 a) n L cd ts) n ∧ Fr K9 d t.2) := by
    refine ok_for n (fun e s => ∃ d3, s = (zB (dbtB (d.1 a) n L cd ts) e, nI e, d3) ∧ Fr K9 d d3) ?_ ?_ 0 _ (by omega) ⟨d, rfl, fr_r⟩
    · rintro e s he ⟨d3, rfl, hf⟩
      have hr : d3.1 a = d.1 a := hf.1 a (by omega)
      have hr0 : d3.1 0 = d.1 0 := hf.1 0 (by omega)
      unfold bX6_doubtsOf_5
      refine ok_f (by rw [hr, e80 h, nI_leI (by omega) (by omega)]; omega) ?_
      obtain ⟨d5, e1, e2⟩ := m_endsAll (d := d3) (q := true) ha (by rw [hr]; exact h) (by rw [hr]; exact hD) (by rw [hr]; exact hP) hp5 (by rw [hr0]; exact hT) he
      rw [hr] at e1
      refine ok_de (show fX6_endsAll d3 a (nI p) (nI e) (1 : Int32) = _ from e1) ?_
      have fin : ∀ (b : Bool) (dd : Dt), Fr K9 d dd → dbtB (d.1 a) n L cd ts e = b → Ok (jX6_doubtsOf_47 (zB (dbtB (d.1 a) n L cd ts) e) (nI e) (if b then (1 : Int32) <<< (nI e &&& 31) else 0) dd) (fun q => (∃ s', q = .inl s' ∧ ∃ d3, s' = (zB (dbtB (d.1 a) n L cd ts) (e + 1), nI (e + 1), d3) ∧ Fr K9 d d3) ∨ ∃ t, q = .inr t ∧ (t.1 = zB (dbtB (d.1 a) n L cd ts) n ∧ Fr K9 d t.2)) := by
        intro b dd hdd hb
        unfold jX6_doubtsOf_47
        refine ok_nm (ok_nm (ok_c ⟨dd, ?_, hdd⟩))
        rw [zB_s, hb, show nI e + (1 : Int32) = nI (e + 1) from nI_1 e]
      have fin0 := fun dd h1 h2 => fin false dd h1 h2
      simp only [Bool.false_eq_true, if_false] at fin0
      cases hps : sS (d.1 a) n true cd ts e (L - 1)
      · refine ok_t (show b2i false = 0 from rfl) ?_
        exact fin0 d5 (fr_t hf e2) (by unfold dbtB posB; rw [hps]; rfl)
      · refine ok_f (show ¬ b2i true = 0 by decide) ?_
        have hr5 : d5.1 a = d.1 a := (e2.1 a (by omega)).trans hr
        have hr50 : d5.1 0 = d.1 0 := (e2.1 0 (by omega)).trans hr0
        obtain ⟨d6, e3, e4⟩ := m_endsAll (d := d5) (q := false) ha (by rw [hr5]; exact h) (by rw [hr5]; exact hD) (by rw [hr5]; exact hP) hp5 (by rw [hr50]; exact hT) he
        rw [hr5] at e3
        refine ok_de (show fX6_endsAll d5 a (nI p) (nI e) (0 : Int32) = _ from e3) ?_
        cases han : sS (d.1 a) n false cd ts e (L - 1)
        · refine ok_t (show b2i false = 0 from rfl) ?_
          have := fin true d6 (fr_t hf (fr_t e2 e4)) (by unfold dbtB posB ansB; rw [hps, han]; rfl)
          simpa using this
        · refine ok_f (show ¬ b2i true = 0 by decide) ?_
          exact fin0 d6 (fr_t hf (fr_t e2 e4)) (by unfold dbtB posB ansB; rw [hps, han]; rfl)
    · rintro s ⟨d3, rfl, hf⟩
      have hr : d3.1 a = d.1 a := hf.1 a (by omega)
      unfold bX6_doubtsOf_5
      exact ok_t (by rw [hr, e80 h, nI_leI (by omega) (by omega)]; omega) (ok_z ⟨rfl, hf⟩)
  obtain ⟨⟨x, d'⟩, k1, rfl, k2⟩ := key
  refine ⟨d', ?_, k2⟩
  unfold fX6_doubtsOf
  rw [k1]; rfl
theorem m_outOf (ha : a ≠ 9 ∧ a ≠ 10) (h : WE (d.1 a) n) (hD : ∀ e, e < n → dep (d.1 a) e ≤ 8) (hP : PW (d.1 a) p L cd) (hp5 : p < 5) (hT : TS (d.1 0 13) L cd ts) : ∃ d', fX6_outOf d a (nI p) = some (zB (outB (d.1 a) n L cd ts) n, d') ∧ Fr K9 d d' := by
  have h20 := we_20 h
  obtain ⟨d2, e1, f1⟩ := m_answersOf ha h hD hP hp5 hT
  have hr : d2.1 a = d.1 a := f1.1 a (by omega)
  have hr0 : d2.1 0 = d.1 0 := f1.1 0 (by omega)
  obtain ⟨d4, e2, f2⟩ := m_doubtsOf (d := d2) ha (by rw [hr]; exact h) (by rw [hr]; exact hD) (by rw [hr]; exact hP) hp5 (by rw [hr0]; exact hT)
  rw [hr] at e2
  have hr4 : d4.1 a = d.1 a := (f2.1 a (by omega)).trans hr
  have key : Ok (z_lp (bX6_outOf_24 d4 a (zB (ansB (d.1 a) n L cd ts) n) (zB (dbtB (d.1 a) n L cd ts) n)) (0, 1, 0)) (fun t => t = zB (outB (d.1 a) n L cd ts) n) := by
    refine ok_for n (fun e s => s = (zB (outB (d.1 a) n L cd ts) e, b2i (!zany (dbtB (d.1 a) n L cd ts) e), nI e)) ?_ ?_ 0 _ (by omega) rfl
    · rintro e s he rfl
      unfold bX6_outOf_24
      refine ok_f (by rw [hr4, e80 h, nI_leI (by omega) (by omega)]; omega) ?_
      have j79 : ∀ (b : Bool) (v : Int32), outB (d.1 a) n L cd ts e = b → v = b2i (!zany (dbtB (d.1 a) n L cd ts) (e + 1)) → Ok (jX6_outOf_79 (zB (outB (d.1 a) n L cd ts) e) (nI e) v (if b then (1 : Int32) <<< (nI e &&& 31) else 0)) (fun q => (∃ s', q = .inl s' ∧ s' = (zB (outB (d.1 a) n L cd ts) (e + 1), b2i (!zany (dbtB (d.1 a) n L cd ts) (e + 1)), nI (e + 1))) ∨ ∃ t, q = .inr t ∧ t = zB (outB (d.1 a) n L cd ts) n) := by
        intro b v hb hv
        unfold jX6_outOf_79
        refine ok_nm (ok_nm (ok_c ?_))
        rw [zB_s, hb, hv, show nI e + (1 : Int32) = nI (e + 1) from nI_1 e]
      have j79f := fun v h1 h2 => j79 false v h1 h2
      simp only [Bool.false_eq_true, if_false] at j79f
      have j53 : ∀ v : Int32, v = b2i (!zany (dbtB (d.1 a) n L cd ts) (e + 1)) → Ok (jX6_outOf_53 (zB (outB (d.1 a) n L cd ts) e) (nI e) (zB (ansB (d.1 a) n L cd ts) n) v) (fun q => (∃ s', q = .inl s' ∧ s' = (zB (outB (d.1 a) n L cd ts) (e + 1), b2i (!zany (dbtB (d.1 a) n L cd ts) (e + 1)), nI (e + 1))) ∨ ∃ t, q = .inr t ∧ t = zB (outB (d.1 a) n L cd ts) n) := by
        intro v hv
        unfold jX6_outOf_53 jX6_outOf_78
        rcases bool2 (zany (dbtB (d.1 a) n L cd ts) (e + 1)) with hz | hz
        · rw [hz] at hv
          refine ok_f (by rw [hv]; decide) ?_
          rw [m_has _ (by omega), bt_zB _ _ (by omega) _ (by omega)]
          refine ok_re rfl ?_
          cases hn : ansB (d.1 a) n L cd ts e
          · refine ok_t (by simp [b2i]) ?_
            exact j79f v (by unfold outB; rw [hn]; rfl) (by rw [hz]; exact hv)
          · refine ok_f (by simp [b2i, he]) ?_
            have := j79 true v (by unfold outB; rw [hn, hz]; rfl) (by rw [hz]; exact hv)
            simpa using this
        · rw [hz] at hv
          refine ok_t (by rw [hv]; decide) ?_
          exact j79f v (by unfold outB; rw [hz]; simp) (by rw [hz]; exact hv)
      unfold jX6_outOf_52
      cases hz : zany (dbtB (d.1 a) n L cd ts) e
      · refine ok_f (by decide) ?_
        rw [m_has _ (by omega), bt_zB _ _ (by omega) _ (by omega)]
        refine ok_re rfl ?_
        cases hdb : dbtB (d.1 a) n L cd ts e
        · refine ok_t (by simp [b2i]) (j53 1 ?_)
          rw [zany_s, hz, hdb]; rfl
        · refine ok_f (by simp [b2i, he]) (j53 0 ?_)
          rw [zany_s, hz, hdb]; rfl
      · refine ok_t (by decide) (j53 0 ?_)
        rw [zany_s, hz]; rfl
    · rintro s rfl
      unfold bX6_outOf_24
      exact ok_t (by rw [hr4, e80 h, nI_leI (by omega) (by omega)]; omega) (ok_z rfl)
  obtain ⟨x, k1, rfl⟩ := key
  refine ⟨d4, ?_, fr_t f1 f2⟩
  unfold fX6_outOf
  rw [e1, bd_s, e2, bd_s, k1]; rfl
theorem m_heldOf (ha : a ≠ 9 ∧ a ≠ 10) (h : WE (d.1 a) n) (hD : ∀ e, e < n → dep (d.1 a) e ≤ 8) (hP : PW (d.1 a) p L cd) (hp5 : p < 5) (hT : TS (d.1 0 13) L cd ts) : ∃ d', fX6_heldOf d a (nI p) = some (nI (zc (fun e => ansB (d.1 a) n L cd ts e && !outB (d.1 a) n L cd ts e) n + zc (dbtB (d.1 a) n L cd ts) n), d') ∧ Fr K9 d d' := by
  have h20 := we_20 h
  obtain ⟨d2, e1, f1⟩ := m_answersOf ha h hD hP hp5 hT
  have hr : d2.1 a = d.1 a := f1.1 a (by omega)
  have hr0 : d2.1 0 = d.1 0 := f1.1 0 (by omega)
  obtain ⟨d4, e2, f2⟩ := m_outOf (d := d2) ha (by rw [hr]; exact h) (by rw [hr]; exact hD) (by rw [hr]; exact hP) hp5 (by rw [hr0]; exact hT)
  rw [hr] at e2
  have hr4 : d4.1 a = d.1 a := (f2.1 a (by omega)).trans hr
  have hr40 : d4.1 0 = d.1 0 := (f2.1 0 (by omega)).trans hr0
  obtain ⟨d7, e3, f3⟩ := m_doubtsOf (d := d4) ha (by rw [hr4]; exact h) (by rw [hr4]; exact hD) (by rw [hr4]; exact hP) hp5 (by rw [hr40]; exact hT)
  rw [hr4] at e3
  refine ⟨d7, ?_, fr_t f1 (fr_t f2 f3)⟩
  unfold fX6_heldOf
  rw [e1, bd_s, e2, bd_s, zB_andn (by omega), m_ones h20, br_s, e3, bd_s, m_ones h20, br_s, nI_add]
end SO
