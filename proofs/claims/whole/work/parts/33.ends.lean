/-! what an element ends: (of itself, of those around it) -/
def mS (par : Nat → Option Nat) (deep : Nat → Bool) (fits : Nat → Nat → Bool) (e : Nat) : (Nat → Bool) × (Nat → Bool) := match par e with
  | none => (fun i => fits e i && (decide (i = 0) && (deep 0 || decide (e = 0))), fun _ => false)
  | some a => if h : a < e then (fun i => fits e i && (if i = 0 then (deep 0 || decide (e = 0)) else if deep i then ((mS par deep fits a).1 (i - 1) || (mS par deep fits a).2 (i - 1)) else (mS par deep fits a).1 (i - 1)), fun i => (mS par deep fits a).1 i || (mS par deep fits a).2 i)
    else (fun _ => false, fun _ => false)
termination_by e
section MS
variable {par : Nat → Option Nat} {deep : Nat → Bool} {fits : Nat → Nat → Bool}
theorem mS_n {e : Nat} (h : par e = none) (i : Nat) : (mS par deep fits e).1 i = (fits e i && (decide (i = 0) && (deep 0 || decide (e = 0)))) ∧ (mS par deep fits e).2 i = false := by
  rw [mS, h]; exact ⟨rfl, rfl⟩
theorem mS_p {e a : Nat} (h : par e = some a) (ha : a < e) (i : Nat) : (mS par deep fits e).1 i = (fits e i && (if i = 0 then (deep 0 || decide (e = 0)) else if deep i then ((mS par deep fits a).1 (i - 1) || (mS par deep fits a).2 (i - 1)) else (mS par deep fits a).1 (i - 1))) ∧ (mS par deep fits e).2 i = ((mS par deep fits a).1 i || (mS par deep fits a).2 i) := by
  rw [mS, h]; simp [ha]
end MS
def fitB (ρ : Row) (n : Nat) (q : Bool) (cd ts : Nat → Nat) (e i : Nat) : Bool := (decide (ts i = 5) || decide (ρ e = nI (ts i))) && met ρ n q e (cd i % 100)
def deepB (cd : Nat → Nat) (i : Nat) : Bool := decide (1000 ≤ cd i)
def sS (ρ : Row) (n : Nat) (q : Bool) (cd ts : Nat → Nat) (e : Nat) : Nat → Bool := (mS (rpar ρ) (deepB cd) (fitB ρ n q cd ts) e).1
def sAr (ρ : Row) (n : Nat) (q : Bool) (cd ts : Nat → Nat) (e : Nat) : Nat → Bool := (mS (rpar ρ) (deepB cd) (fitB ρ n q cd ts) e).2
/-- a path: L steps with the codes cd -/
def PW (ρ : Row) (p L : Nat) (cd : Nat → Nat) : Prop := ρ (84 + p) = nI L ∧ 1 ≤ L ∧ L ≤ 4 ∧ ∀ i, i < L → ρ (89 + 4 * p + i) = nI (cd i) ∧ cd i < 2000 ∧ cd i % 100 < 16 ∧ cd i / 100 % 10 ≤ 5
/-- the tests that are looked for -/
def TS (ot : Int32) (L : Nat) (cd ts : Nat → Nat) : Prop := (ot = -9 ∧ ∀ i, i < L → ts i = cd i / 100 % 10) ∨ ∃ t, t < 6 ∧ ot = nI t ∧ ∀ i, i < L → ts i = if i = L - 1 then t else cd i / 100 % 10
theorem a4p (p : Nat) : (89 : Int32) + (4 : Int32) * nI p = nI (89 + 4 * p) := by
  rw [show (4 : Int32) * nI p = nI (4 * p) from pk_mul 4 p]; exact nI_add 89 (4 * p)
theorem a84 (p : Nat) : (84 : Int32) + nI p = nI (84 + p) := nI_add 84 p
theorem i_div100 {c : Nat} (h : c < 2000) : nI c / (100 : Int32) = nI (c / 100) := pk_div (a := c) (d := 100) (by omega) (by omega) (by omega)
theorem i_rem100 {c : Nat} (h : c < 2000) : nI c - nI c / (100 : Int32) * (100 : Int32) = nI (c % 100) := pk_rem (a := c) (d := 100) (by omega) (by omega) (by omega)
theorem i_rem10 {c : Nat} (h : c < 2000) : nI c - nI c / (10 : Int32) * (10 : Int32) = nI (c % 10) := pk_rem (a := c) (d := 10) (by omega) (by omega) (by omega)
theorem le1000 {c : Nat} (h : c < 2 ^ 31) : (1000 : Int32) ≤ nI c ↔ 1000 ≤ c := nI_leI (a := 1000) (by omega) h
theorem lt1000 {c : Nat} (h : c < 2 ^ 31) : nI c < (1000 : Int32) ↔ c < 1000 := nI_ltI (b := 1000) h (by omega)
section EA
variable {d : Dt} {a n p L e k : Nat} {q : Bool} {cd ts : Nat → Nat} {ab : Int32}
/-- the last piece of a step: it is added, or not -/
theorem ea_206 {v2 : Int32} {i : Nat} {f : Nat → Bool} (hv : v2 = zB f i) (b : Bool) (hb : f i = b) : jX6_endsAt_206 v2 (nI i) (if b then (1 : Int32) <<< (nI i &&& 31) else 0) = some (.inl (zB f (i + 1), nI (i + 1))) := by
  unfold jX6_endsAt_206
  simp only [z_nme]
  rw [hv, zB_s, hb, show nI i + (1 : Int32) = nI (i + 1) from nI_1 i]
theorem ea_205 {v2 : Int32} {i : Nat} {f : Nat → Bool} (hv : v2 = zB f i) (hb : f i = false) : jX6_endsAt_205 v2 (nI i) = some (.inl (zB f (i + 1), nI (i + 1))) := by
  have := ea_206 hv false hb
  unfold jX6_endsAt_205
  simpa using this
theorem ea_186 {v2 v6 v7 : Int32} {i : Nat} {f : Nat → Bool} (hv : v2 = zB f i) (b6 b7 : Bool) (h6 : v6 = b2i b6) (h7 : v7 = b2i b7) (hb : f i = (b6 && b7)) : jX6_endsAt_186 v6 v2 (nI i) v7 = some (.inl (zB f (i + 1), nI (i + 1))) := by
  unfold jX6_endsAt_186
  subst h6; subst h7
  cases b6
  · rw [zif_p (by decide)]; exact ea_205 hv (by rw [hb]; rfl)
  · rw [zif_n (by decide)]
    cases b7
    · rw [zif_p (by decide)]; exact ea_205 hv (by rw [hb]; rfl)
    · rw [zif_n (by decide)]
      have := ea_206 hv true (by rw [hb]; rfl)
      simpa using this
theorem ea_104 {v2 v4 v6 : Int32} {i c : Nat} {f : Nat → Bool} (hv : v2 = zB f i) (b6 : Bool) (h6 : v6 = b2i b6) (hi : i < 4) (hk : k ≤ 8) (he : e < 20) (h4 : v4 = nI c) (hc : c < 2000) (pr ar : Nat → Bool) (hab : ab = zB ar 4)
    (hp : 0 < k → d.1 10 (k - 1) = zB pr 4) (hp0 : k = 0 → ∀ j, pr j = false)
    (hb : f i = (b6 && (if i = 0 then (decide (1000 ≤ c) || decide (e = 0)) else if 1000 ≤ c then ar (i - 1) else pr (i - 1)))) : jX6_endsAt_104 (nI i) v4 v2 (nI e) (nI k) d ab v6 = some (.inl (zB f (i + 1), nI (i + 1))) := by
  unfold jX6_endsAt_104
  subst h4
  by_cases h0 : i = 0
  · subst h0
    rw [zif_p nI_0]
    unfold jX6_endsAt_123 jX6_endsAt_128
    by_cases h1 : 1000 ≤ c
    · rw [zif_p ((le1000 (by omega)).mpr h1)]
      exact ea_186 hv b6 true h6 rfl (by rw [hb]; simp [h1])
    · rw [zif_n (fun z => h1 ((le1000 (by omega)).mp z))]
      by_cases h2 : e = 0
      · subst h2; rw [zif_p nI_0]
        exact ea_186 hv b6 true h6 rfl (by rw [hb]; simp)
      · rw [zif_n (nI_ne0 (by omega) (by omega))]
        exact ea_186 hv b6 false h6 rfl (by rw [hb]; simp [h1, h2])
  · rw [zif_n (nI_ne0 (by omega) (by omega))]
    unfold jX6_endsAt_183 jX6_endsAt_184
    by_cases h1 : 1000 ≤ c
    · rw [zif_n (fun z => by have := (lt1000 (by omega)).mp z; omega), i_sub1 (by omega), m_has _ (by omega)]
      show jX6_endsAt_186 _ _ _ _ = _
      rw [hab, bt_zB _ _ (by omega) _ (by omega)]
      exact ea_186 hv b6 (ar (i - 1)) h6 (by simp [show i - 1 < 4 by omega]) (by rw [hb]; simp [h0, h1])
    · rw [zif_p ((lt1000 (by omega)).mpr (by omega))]
      by_cases h2 : k = 0
      · subst h2
        rw [zif_p (show nI 0 ≤ 0 by decide)]
        exact ea_186 hv b6 false h6 rfl (by rw [hb]; simp [h0, h1, hp0 rfl])
      · rw [zif_n (nI_nle (by omega) (by omega)), i_sub1 (by omega), i_sub1 (by omega), in_t (by omega) (by omega), gd_t, ix_nI (by omega), hp (by omega), m_has _ (by omega), bt_zB _ _ (by omega) _ (by omega)]
        show zif _ _ _ = _
        cases hpr : pr (i - 1)
        · rw [zif_p (by simp [b2i])]
          exact ea_186 hv b6 false h6 rfl (by rw [hb]; simp [h0, h1, hpr])
        · rw [zif_n (by simp [b2i, show i - 1 < 4 by omega])]
          exact ea_186 hv b6 true h6 rfl (by rw [hb]; simp [h0, h1, hpr])
end EA
section EB
variable {d : Dt} {a n p L e k : Nat} {q : Bool} {cd ts : Nat → Nat} {ab : Int32}
theorem ea_67 {v2 v4 : Int32} {i c t : Nat} {f : Nat → Bool} (h : WE (d.1 a) n) (he : e < n) (hv : v2 = zB f i) (hi : i < 4) (hk : k ≤ 8) (h4 : v4 = nI c) (hc : c < 2000) (hc2 : c % 100 < 16) (ht : t ≤ 5) (pr ar : Nat → Bool) (hab : ab = zB ar 4)
    (hp : 0 < k → d.1 10 (k - 1) = zB pr 4) (hp0 : k = 0 → ∀ j, pr j = false)
    (hb : f i = (((decide (t = 5) || decide (d.1 a e = nI t)) && met (d.1 a) n q e (c % 100)) && (if i = 0 then (decide (1000 ≤ c) || decide (e = 0)) else if 1000 ≤ c then ar (i - 1) else pr (i - 1)))) : jX6_endsAt_67 d a v4 (nI e) (b2i q) (nI i) v2 (nI k) ab (nI t) = some (.inl (zB f (i + 1), nI (i + 1))) := by
  have h20 := we_20 h
  have h83 : (decide (t = 5) || decide (d.1 a e = nI t)) = true → jX6_endsAt_83 d a v4 (nI e) (b2i q) (nI i) v2 (nI k) ab = some (.inl (zB f (i + 1), nI (i + 1))) := by
    intro hT
    rw [hT] at hb
    unfold jX6_endsAt_83
    rw [h4, i_rem100 hc, m_isMet q h he hc2]
    show zif _ _ _ = _
    unfold jX6_endsAt_103
    cases hm : met (d.1 a) n q e (c % 100)
    · rw [zif_p (show b2i false = 0 from rfl)]
      exact ea_104 hv false rfl hi hk (by omega) rfl hc pr ar hab hp hp0 (by rw [hb, hm]; rfl)
    · rw [zif_n (by decide)]
      exact ea_104 hv true rfl hi hk (by omega) rfl hc pr ar hab hp hp0 (by rw [hb, hm]; rfl)
  unfold jX6_endsAt_67
  by_cases h5 : t = 5
  · subst h5
    rw [zif_p (show nI 5 = (5 : Int32) from rfl)]
    exact h83 (by simp)
  · rw [zif_n (show ¬ nI t = (5 : Int32) from fun z => h5 ((nI_eq (b := 5) (by omega) (by omega)).mp z)), in_t (by omega) (by omega), gd_t, ix_nI (by omega)]
    by_cases hn : nI t = d.1 a e
    · rw [zif_p hn]
      exact h83 (by simp [hn])
    · rw [zif_n hn]
      unfold jX6_endsAt_103
      exact ea_104 hv false rfl hi hk (by omega) h4 hc pr ar hab hp hp0 (by rw [hb]; simp [h5, Ne.symm hn])
theorem m_endsAt (h : WE (d.1 a) n) (hP : PW (d.1 a) p L cd) (hp5 : p < 5) (hT : TS (d.1 0 13) L cd ts) (he : e < n) (hk : k ≤ 8) (ar : Nat → Bool) (hab : ab = zB ar 4) (har : ∀ j, j < L → ar j = sAr (d.1 a) n q cd ts e j)
    (hk0 : k = 0 → rpar (d.1 a) e = none) (hk1 : 0 < k → ∃ x, x < e ∧ rpar (d.1 a) e = some x ∧ d.1 10 (k - 1) = zB (sS (d.1 a) n q cd ts x) L) : fX6_endsAt d a (nI p) (nI e) (nI k) ab (b2i q) = some (zB (sS (d.1 a) n q cd ts e) L) := by
  obtain ⟨hL, hL1, hL4, hst⟩ := hP
  have key : Ok (z_lp (bX6_endsAt_14 (nI L) (nI p) d a (nI e) (b2i q) (nI k) ab) (0, 0)) (fun t => t = zB (sS (d.1 a) n q cd ts e) L) := by
    refine ok_for L (fun i s => s = (zB (sS (d.1 a) n q cd ts e) i, nI i)) ?_ ?_ 0 _ (by omega) rfl
    · rintro i s hi rfl
      unfold bX6_endsAt_14
      refine ok_f (by rw [nI_leI (by omega) (by omega)]; omega) ?_
      rw [a4p, show nI (89 + 4 * p) + nI i = nI (89 + 4 * p + i) from nI_add _ _]
      refine ok_gi (vp_in_nI (by omega) (by omega)) (ok_nm ?_)
      rw [ix_nI (by omega)]
      obtain ⟨hc1, hc2, hc3, hc4⟩ := hst i hi
      -- the parent's set, to four places
      obtain ⟨pr, hpr, hpr0, hprS⟩ : ∃ pr : Nat → Bool, (0 < k → d.1 10 (k - 1) = zB pr 4) ∧ (k = 0 → ∀ j, pr j = false) ∧ (∀ x, rpar (d.1 a) e = some x → x < e → ∀ j, j < L → pr j = sS (d.1 a) n q cd ts x j) := by
        rcases Nat.eq_zero_or_pos k with h0 | h0
        · exact ⟨fun _ => false, fun z => by omega, fun _ _ => rfl, fun x hx => by rw [hk0 h0] at hx; cases hx⟩
        · obtain ⟨x, hx, hpx, hdx⟩ := hk1 h0
          refine ⟨fun j => decide (j < L) && sS (d.1 a) n q cd ts x j, fun _ => ?_, fun z => by omega, fun y hy _ j hj => ?_⟩
          · rw [hdx, zB_grow (m := 4) hL4 (fun i h1 _ => by simp [show ¬ i < L by omega])]
            exact zB_cong (fun i hi => by simp [hi])
          · rw [hpx] at hy; cases hy; simp [hj]
      have fin : ∀ t, t ≤ 5 → ts i = t → jX6_endsAt_67 d a (d.1 a (89 + 4 * p + i)) (nI e) (b2i q) (nI i) (zB (sS (d.1 a) n q cd ts e) i) (nI k) ab (nI t) = some (.inl (zB (sS (d.1 a) n q cd ts e) (i + 1), nI (i + 1))) := by
        intro t ht htt
        refine ea_67 h he rfl (by omega) hk hc1 hc2 hc3 ht pr ar hab hpr hpr0 ?_
        have hf : fitB (d.1 a) n q cd ts e i = ((decide (t = 5) || decide (d.1 a e = nI t)) && met (d.1 a) n q e (cd i % 100)) := by unfold fitB; rw [htt]
        rcases we_c h he with ⟨h0, h1, -⟩ | ⟨x, hx, h1, -, h0⟩
        · have := (mS_n (deep := deepB cd) (fits := fitB (d.1 a) n q cd ts) h1 i).1
          show (mS _ _ _ e).1 i = _
          rw [this, hf]
          congr 1
          by_cases hi0 : i = 0
          · subst hi0; simp [deepB]
          · simp only [hi0, decide_false, Bool.false_and, if_false]
            have h2 : ar (i - 1) = false := (har (i - 1) (by omega)).trans (mS_n h1 (i - 1)).2
            have h3 : pr (i - 1) = false := by
              rcases Nat.eq_zero_or_pos k with hk' | hk'
              · exact hpr0 hk' _
              · obtain ⟨x, -, hx, -⟩ := hk1 hk'
                rw [h1] at hx; cases hx
            rw [h2, h3]; simp
        · have hq := mS_p (deep := deepB cd) (fits := fitB (d.1 a) n q cd ts) h1 hx
          show (mS _ _ _ e).1 i = _
          rw [(hq i).1, hf]
          congr 1
          by_cases hi0 : i = 0
          · subst hi0; simp [deepB]
          · simp only [hi0, if_false]
            have h2 : ar (i - 1) = _ := (har (i - 1) (by omega)).trans (hq (i - 1)).2
            have h3 := hprS x h1 hx (i - 1) (by omega)
            rw [h2, h3]
            unfold sS
            by_cases hdp : 1000 ≤ cd i
            · rw [if_pos hdp, if_pos (show deepB cd i = true from decide_eq_true hdp)]
            · rw [if_neg hdp, if_neg (show ¬ deepB cd i = true by simp [deepB, hdp])]
      have h59 : ts i = cd i / 100 % 10 → Ok (jX6_endsAt_59 d a (d.1 a (89 + 4 * p + i)) (nI e) (b2i q) (nI i) (zB (sS (d.1 a) n q cd ts e) i) (nI k) ab) (fun q' => (∃ s', q' = .inl s' ∧ s' = (zB (sS (d.1 a) n q cd ts e) (i + 1), nI (i + 1))) ∨ ∃ t, q' = .inr t ∧ t = zB (sS (d.1 a) n q cd ts e) L) := by
        intro ht
        unfold jX6_endsAt_59
        have e1 : d.1 a (89 + 4 * p + i) / (100 : Int32) - d.1 a (89 + 4 * p + i) / (100 : Int32) / (10 : Int32) * (10 : Int32) = nI (cd i / 100 % 10) := by
          rw [hc1, i_div100 hc2, i_rem10 (by omega)]
        rw [e1, fin _ hc4 ht]
        exact ok_c rfl
      by_cases hl : i = L - 1
      · refine ok_t (by rw [i_sub1 (by omega), hl]) ?_
        rcases hT with ⟨ho, ht⟩ | ⟨t, ht6, ho, ht⟩
        · exact ok_t ho (h59 (ht i hi))
        · refine ok_f (by rw [ho]; exact i_ne9 (by omega)) ?_
          rw [ho, fin t (by omega) (by rw [ht i hi, if_pos hl])]
          exact ok_c rfl
      · refine ok_f (by rw [i_sub1 (by omega), nI_eq (by omega) (by omega)]; exact hl) ?_
        rcases hT with ⟨ho, ht⟩ | ⟨t, ht6, ho, ht⟩
        · exact h59 (ht i hi)
        · exact h59 (by rw [ht i hi, if_neg hl])
    · rintro s rfl
      unfold bX6_endsAt_14
      exact ok_t (by rw [nI_leI (by omega) (by omega)]; omega) (ok_z rfl)
  obtain ⟨t, h1, rfl⟩ := key
  unfold fX6_endsAt
  rw [a84, in_t (by omega) (by omega), gd_t, z_nme, ix_nI (by omega), hL, h1]
  rfl
end EB
