/-! THE CLASS: its matcher -/
theorem or_0 (x : Int32) : x ||| 0 = x := b_ext (fun i _ => by rw [b_or, b_0, Bool.or_false])
theorem zB_if {f : Nat → Bool} {i : Nat} {b : Bool} (h : f i = b) : (if b then zB f i ||| ((1 : Int32) <<< (nI i &&& 31)) else zB f i) = zB f (i + 1) := by
  rw [zB_s, h]
  cases b
  · simp [or_0]
  · simp
theorem c_pre (x : Int32) {i : Nat} (hi : i < 32) : fX1_hasPrefix x (nI i) = some (b2i (decide (0 < i) && bt x (i - 1))) := by
  unfold fX1_hasPrefix
  by_cases h0 : i = 0
  · subst h0; rw [zif_p (by decide)]; rfl
  · rw [zif_n (nI_nle (by omega) (by omega)), i_sub1 (by omega), b_bit x (by omega)]
    cases bt x (i - 1)
    · rw [zif_p (by simp)]; simp [b2i]
    · rw [zif_n (by simp)]; simp [b2i]; omega
section ME
variable {i : Nat} (hi : i < 4)
theorem me_299 {v12 v13 : Int32} : jX1_matchElement_299 (nI i) v12 v13 = some (.inl (v12, v13, nI (i + 1))) := by
  unfold jX1_matchElement_299
  rw [z_nme, show nI i + (1 : Int32) = nI (i + 1) from nI_1 i]
theorem me_265 {v16 v5 v8 v17 v19 v20 : Int32} (hi : i < 4) {F O S : Bool} (h16 : v16 = b2i F) (h5 : v5 = b2i O) (h17 : v17 = b2i S) : jX1_matchElement_265 v16 v5 (nI i) v8 v17 v19 v20 = some (.inl (v20, (if (F || O) && (S || (decide (0 < i) && bt v19 (i - 1))) then v8 ||| ((1 : Int32) <<< (nI i &&& 31)) else v8), nI (i + 1))) := by
  have h275 : jX1_matchElement_275 v17 v19 (nI i) v20 v8 = some (.inl (v20, (if (S || (decide (0 < i) && bt v19 (i - 1))) then v8 ||| ((1 : Int32) <<< (nI i &&& 31)) else v8), nI (i + 1))) := by
    unfold jX1_matchElement_275 jX1_matchElement_290
    subst h17
    rw [z_nme, me_299, me_299, c_pre _ (by omega), br_s]
    cases S
    · rw [zif_p (show b2i false = 0 from rfl)]
      cases (decide (0 < i) && bt v19 (i - 1))
      · rw [zif_p (show b2i false = 0 from rfl)]; simp
      · rw [zif_n (show ¬ b2i true = 0 by decide)]; simp
    · rw [zif_n (show ¬ b2i true = 0 by decide)]; simp
  unfold jX1_matchElement_265
  rw [h275, me_299]
  subst h16; subst h5
  cases F
  · rw [zif_p (show b2i false = 0 from rfl)]
    cases O
    · rw [zif_p (show b2i false = 0 from rfl)]; simp
    · rw [zif_n (show ¬ b2i true = 0 by decide)]; simp
  · rw [zif_n (show ¬ b2i true = 0 by decide)]; simp
theorem me_234 {v16 v5 v8 v17 v7 v18 v19 : Int32} (hi : i < 4) {F O S : Bool} (h16 : v16 = b2i F) (h5 : v5 = b2i O) (h17 : v17 = b2i S) : jX1_matchElement_234 v16 v5 (nI i) v8 v17 v7 v18 v19 = some (.inl ((if F && (S || (decide (0 < i) && bt v18 (i - 1))) then v7 ||| ((1 : Int32) <<< (nI i &&& 31)) else v7), (if (F || O) && (S || (decide (0 < i) && bt v19 (i - 1))) then v8 ||| ((1 : Int32) <<< (nI i &&& 31)) else v8), nI (i + 1))) := by
  unfold jX1_matchElement_234 jX1_matchElement_256
  rw [z_nme, me_265 hi h16 h5 h17, me_265 hi h16 h5 h17, c_pre _ (by omega), br_s]
  subst h16; subst h17
  cases F
  · rw [zif_p (show b2i false = 0 from rfl)]; simp
  · rw [zif_n (show ¬ b2i true = 0 by decide)]
    cases S
    · rw [zif_p (show b2i false = 0 from rfl)]
      cases (decide (0 < i) && bt v18 (i - 1))
      · rw [zif_p (show b2i false = 0 from rfl)]; simp
      · rw [zif_n (show ¬ b2i true = 0 by decide)]; simp
    · rw [zif_n (show ¬ b2i true = 0 by decide)]; simp
end ME
theorem b_sh1 (x : Int32) {i : Nat} (hi : i < 32) : bt (x <<< ((1 : Int32) &&& 31)) i = (decide (1 ≤ i) && bt x (i - 1)) := b_shl 1 (by omega) x hi
theorem b_sh6 (x : Int32) {i : Nat} (hi : i < 32) : bt (x <<< ((6 : Int32) &&& 31)) i = (decide (6 ≤ i) && bt x (i - 6)) := b_shl 6 (by omega) x hi
/-- the class's elements hold a row's -/
def ElR (d : Dt) (el : Nat) (ρ : Row) (n : Nat) : Prop := d.1 el 5 = zB (rop ρ) n ∧ d.1 el 6 = ρ 80 ∧ d.1 el 7 = ρ 81 ∧ d.1 el 8 = ρ 82 ∧ ∀ e, e < n → d.1 (el + 1) e = ρ e ∧ d.1 (el + 2) e = ρ (20 + e) ∧ d.1 (el + 3) e = nI (dep ρ e) ∧ d.1 (el + 4) e = ρ (60 + e) ∧ d.1 (el + 5) e = zB (rch ρ n e) 5
def PsR (d : Dt) (pa L : Nat) (cd : Nat → Nat) : Prop := d.1 pa 3 = nI L ∧ 1 ≤ L ∧ L ≤ 4 ∧ ∀ i, i < L → d.1 (pa + 1) i = nI (cd i) ∧ cd i < 2000 ∧ cd i % 100 < 16 ∧ cd i / 100 % 10 ≤ 5
theorem met_t {ρ : Row} {n e c : Nat} : met ρ n true e c = (met ρ n false e c || rop ρ e) := by
  unfold met
  cases decide (c = 0) <;> cases rop ρ e <;> simp
theorem c_ful {d : Dt} {el n e : Nat} {ρ : Row} (h : ElR d el ρ n) (hn : n ≤ 20) (he : e < n) : ∃ x, fX0_fulfilled d el (nI e) = some x ∧ ∀ c, c < 16 → bt x c = met ρ n false e c := by
  obtain ⟨-, -, -, -, h5⟩ := h
  obtain ⟨-, -, -, h6, h7⟩ := h5 e he
  refine ⟨_, by unfold fX0_fulfilled; rw [in_t (by omega) (by omega), gd_t, gd_t, ix_nI (by omega)], fun c hc => ?_⟩
  rw [b_or, b_or, b_1, b_sh1 _ (by omega), b_sh6 _ (by omega), h6, h7]
  unfold met
  by_cases h0 : c = 0
  · subst h0; simp
  · by_cases hc6 : c < 6
    · rw [bt_zB _ _ (by omega) _ (by omega)]
      simp [h0, hc6, show ¬ 6 ≤ c by omega, show 1 ≤ c by omega, show c - 1 < 5 by omega]
    · rw [bt_zB _ _ (by omega) _ (by omega)]
      simp [h0, hc6, show 6 ≤ c by omega, show ¬ c - 1 < 5 by omega]
abbrev Km : Nat → Prop := fun k => 60 ≤ k ∧ k ≤ 64
section CM
variable {d : Dt} {el pa n L e : Nat} {ρ : Row} {cd : Nat → Nat}
abbrev tsC (cd : Nat → Nat) : Nat → Nat := fun i => cd i / 100 % 10
theorem c_me96 (h : ElR d el ρ n) (hw : WE ρ n) (hP : PsR d pa L cd) (he : e < n) {fu sp pp : Int32} (hfu : ∀ c, c < 16 → bt fu c = met ρ n false e c)
    (hs : sp = 0 ∧ rpar ρ e = none ∨ ∃ x, x < e ∧ rpar ρ e = some x ∧ sp = zB (sS ρ n false cd (tsC cd) x) L) (hp : pp = 0 ∧ rpar ρ e = none ∨ ∃ x, x < e ∧ rpar ρ e = some x ∧ pp = zB (sS ρ n true cd (tsC cd) x) L)
    (h63 : d.1 63 e = zB (sAr ρ n false cd (tsC cd) e) L) (h64 : d.1 64 e = zB (sAr ρ n true cd (tsC cd) e) L) :
    Ok (z_lp (bX1_matchElement_96 d pa fu (nI e) (b2i (rop ρ e)) pp sp el) (0, 0, 0)) (fun t => t = (zB (sS ρ n false cd (tsC cd) e) L, zB (sS ρ n true cd (tsC cd) e) L)) := by
  have h20 := we_20 hw
  obtain ⟨hL, hL1, hL4, hst⟩ := hP
  obtain ⟨-, -, -, -, h5⟩ := h
  have hnm := (h5 e he).1
  refine ok_for L (fun i s => s = (zB (sS ρ n false cd (tsC cd) e) i, zB (sS ρ n true cd (tsC cd) e) i, nI i)) ?_ ?_ 0 _ (by omega) rfl
  · rintro i s hi rfl
    unfold bX1_matchElement_96
    refine ok_f (by rw [hL, nI_leI (by omega) (by omega)]; omega) (ok_gi (vp_in_nI (by omega) (by omega)) (ok_nm (ok_nm ?_)))
    obtain ⟨hc1, hc2, hc3, hc4⟩ := hst i hi
    rw [ix_nI (by omega), hc1, i_div100 hc2, i_rem10 (by omega)]
    -- the bit of step i, surely or possibly
    have bitq : ∀ (q : Bool) (bp : Int32), (bp = 0 ∧ rpar ρ e = none ∨ ∃ x, x < e ∧ rpar ρ e = some x ∧ bp = zB (sS ρ n q cd (tsC cd) x) L) → sS ρ n q cd (tsC cd) e i = (fitB ρ n q cd (tsC cd) e i && ((decide (i = 0) && (decide (1000 ≤ cd i) || decide (e = 0))) || (decide (0 < i) && bt (if 1000 ≤ cd i then zB (sAr ρ n q cd (tsC cd) e) L else bp) (i - 1)))) := by
      intro q bp hbp
      rcases we_c hw he with ⟨h0, h1, -⟩ | ⟨x, hx, h1, -, h0⟩
      · have g := fun j => mS_n (deep := deepB cd) (fits := fitB ρ n q cd (tsC cd)) h1 j
        show (mS _ _ _ e).1 i = _
        rw [(g i).1]
        congr 1
        by_cases hi0 : i = 0
        · subst hi0; simp [deepB]
        · have hb0 : bp = 0 := by
            rcases hbp with ⟨g1, -⟩ | ⟨x, -, g1, -⟩
            · exact g1
            · rw [h1] at g1; cases g1
          have har : sAr ρ n q cd (tsC cd) e (i - 1) = false := (g (i - 1)).2
          by_cases hdp : 1000 ≤ cd i
          · rw [if_pos hdp, bt_zB _ _ (by omega) _ (by omega), har]; simp [hi0]
          · rw [if_neg hdp, hb0, b_0]; simp [hi0]
      · have g := fun j => mS_p (deep := deepB cd) (fits := fitB ρ n q cd (tsC cd)) h1 hx j
        show (mS _ _ _ e).1 i = _
        rw [(g i).1]
        congr 1
        by_cases hi0 : i = 0
        · subst hi0; simp [deepB]
        · have hbx : bp = zB (sS ρ n q cd (tsC cd) x) L := by
            rcases hbp with ⟨-, g1⟩ | ⟨y, -, g1, g2⟩
            · rw [h1] at g1; cases g1
            · rw [h1] at g1; cases g1; exact g2
          have har : sAr ρ n q cd (tsC cd) e (i - 1) = _ := (g (i - 1)).2
          by_cases hdp : 1000 ≤ cd i
          · rw [if_pos hdp, bt_zB _ _ (by omega) _ (by omega), har]
            simp [hi0, deepB, hdp, show i - 1 < L by omega, show 0 < i by omega]
          · rw [if_neg hdp, hbx, bt_zB _ _ (by omega) _ (by omega)]
            simp [hi0, deepB, hdp, show i - 1 < L by omega, show 0 < i by omega]
            rfl
    have hsF := bitq false sp hs
    have hsT := bitq true pp hp
    have hft : ∀ q, fitB ρ n q cd (tsC cd) e i = ((decide (cd i / 100 % 10 = 5) || decide (ρ e = nI (cd i / 100 % 10))) && met ρ n q e (cd i % 100)) := fun q => rfl
    have h144 : (decide (cd i / 100 % 10 = 5) || decide (ρ e = nI (cd i / 100 % 10))) = true → jX1_matchElement_144 (nI (cd i)) fu (nI i) (nI e) (b2i (rop ρ e)) (zB (sS ρ n true cd (tsC cd) e) i) (zB (sS ρ n false cd (tsC cd) e) i) pp d sp = some (.inl (zB (sS ρ n false cd (tsC cd) e) (i + 1), zB (sS ρ n true cd (tsC cd) e) (i + 1), nI (i + 1))) := by
      intro hT
      unfold jX1_matchElement_144
      rw [z_nme, z_nme, i_rem100 hc2, b_bit fu (by omega), hfu _ hc3]
      have e15 : zif (nI (cd i) < (1000 : Int32)) (0 : Int32) 1 = b2i (decide (1000 ≤ cd i)) := by
        by_cases hdp : 1000 ≤ cd i
        · rw [zif_n (fun z => by have := (lt1000 (by omega)).mp z; omega)]; simp [b2i, hdp]
        · rw [zif_p ((lt1000 (by omega)).mpr (by omega))]; simp [b2i, hdp]
      have e16 : zif ((if met ρ n false e (cd i % 100) = true then (1 : Int32) else 0) = 0) (0 : Int32) 1 = b2i (met ρ n false e (cd i % 100)) := by
        cases met ρ n false e (cd i % 100)
        · rw [zif_p (by simp)]; rfl
        · rw [zif_n (by simp)]; rfl
      rw [e15, e16]
      -- both kinds of start
      have h198 : ∀ S : Bool, S = (decide (i = 0) && (decide (1000 ≤ cd i) || decide (e = 0))) → jX1_matchElement_198 (b2i (decide (1000 ≤ cd i))) (b2i (met ρ n false e (cd i % 100))) (b2i (rop ρ e)) (nI i) (zB (sS ρ n true cd (tsC cd) e) i) (zB (sS ρ n false cd (tsC cd) e) i) pp (nI e) d sp (b2i S) = some (.inl (zB (sS ρ n false cd (tsC cd) e) (i + 1), zB (sS ρ n true cd (tsC cd) e) (i + 1), nI (i + 1))) := by
        intro S hS
        rw [hft, hT] at hsF hsT
        rw [met_t] at hsT
        unfold jX1_matchElement_198 jX1_matchElement_216
        rw [in_t (show e < 20 by omega) (by omega), gd_t, gd_t, gd_t, ix_nI (by omega), h63, h64]
        by_cases hdp : 1000 ≤ cd i
        · rw [if_pos hdp] at hsF hsT
          simp only [hdp, decide_true]
          rw [zif_n (show ¬ b2i true = 0 by decide), zif_n (show ¬ b2i true = 0 by decide), me_234 (by omega) rfl rfl rfl, zB_if (by rw [hsF, hS]; simp [hdp]), zB_if (by rw [hsT, hS]; simp [hdp])]
        · rw [if_neg hdp] at hsF hsT
          simp only [hdp, decide_false]
          rw [zif_p (show b2i false = 0 from rfl), zif_p (show b2i false = 0 from rfl), me_234 (by omega) rfl rfl rfl, zB_if (by rw [hsF, hS]; simp [hdp]), zB_if (by rw [hsT, hS]; simp [hdp])]
      unfold jX1_matchElement_193 jX1_matchElement_197
      by_cases hi0 : i = 0
      · subst hi0
        rw [zif_p nI_0]
        by_cases hdp : 1000 ≤ cd 0
        · rw [zif_n (by simp [hdp, b2i])]
          exact h198 true (by simp [hdp])
        · rw [zif_p (by simp [hdp, b2i])]
          by_cases he0 : e = 0
          · rw [zif_p (by rw [he0]; exact nI_0)]
            exact h198 true (by simp [he0])
          · rw [zif_n (nI_ne0 (by omega) (by omega))]
            exact h198 false (by simp [hdp, he0])
      · rw [zif_n (nI_ne0 (by omega) (by omega))]
        exact h198 false (by simp [hi0])
    by_cases h5t : cd i / 100 % 10 = 5
    · refine ok_t (by rw [h5t]; rfl) ?_
      rw [h144 (by simp [h5t])]
      exact ok_c rfl
    · refine ok_f (show ¬ nI (cd i / 100 % 10) = (5 : Int32) from fun z => h5t ((nI_eq (b := 5) (by omega) (by omega)).mp z)) (ok_gi (vp_in_nI (by omega) (by omega)) ?_)
      rw [ix_nI (by omega), hnm]
      by_cases hn : nI (cd i / 100 % 10) = ρ e
      · refine ok_t hn ?_
        rw [h144 (by simp [hn])]
        exact ok_c rfl
      · refine ok_f hn ?_
        rw [me_299]
        refine ok_c ?_
        have hno : ∀ q, fitB ρ n q cd (tsC cd) e i = false := fun q => by rw [hft]; simp [h5t, Ne.symm hn]
        rw [hno] at hsF hsT
        rw [zB_s, zB_s, hsF, hsT]
        simp [or_0]
  · rintro s rfl
    unfold bX1_matchElement_96
    exact ok_t (by rw [hL, nI_leI (by omega) (by omega)]; omega) (ok_z rfl)
end CM
