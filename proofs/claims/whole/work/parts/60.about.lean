/-! beginnings of paths -/
def eqP (ρ : Row) (q p l : Nat) : Bool := !zany (fun i => !decide (ρ (89 + 4 * p + i) = ρ (89 + 4 * q + i))) l
def blB (ρ : Row) (q p l : Nat) : Bool := decide (l ≤ rL ρ q) && eqP ρ q p l
def newB (ρ : Row) (p l : Nat) : Bool := !zany (fun q => blB ρ q p l) p
def cntL (ρ : Row) (p k : Nat) : Nat := zc (fun i => newB ρ p (i + 1)) k
def totP (ρ : Row) : Nat → Nat
  | 0 => 0
  | p + 1 => totP ρ p + cntL ρ p (rL ρ p)
section PX
variable {d : Dt} {b n m B : Nat} {ρ : Row}
theorem c_cell (hS : StR d b ρ n m) (hI : Inv0 ρ n m B) {q i : Nat} (hq : q < m) (hi : i < rL ρ q) : d.1 (b + 8 + 4 * q + 1) i = ρ (89 + 4 * q + i) := by
  rw [((hS.2.2 q hq).1.2.2.2 i hi).1]
  exact ((hI.2.2.2.2.1 q hq).2.2.2 i hi).1.symm
theorem c_begins (hS : StR d b ρ n m) (hI : Inv0 ρ n m B) {q p l : Nat} (hq : q < m) (hp : p < m) (hl : l ≤ rL ρ p) : fX2_beginsLike d (b + 8 + 4 * q) (b + 8 + 4 * p) (nI l) = some (b2i (blB ρ q p l)) := by
  have hLq := (hI.2.2.2.2.1 q hq).2.2.1
  have hLp := (hI.2.2.2.2.1 p hp).2.2.1
  unfold fX2_beginsLike
  rw [(hS.2.2 q hq).1.1, (hS.2.2 p hp).1.1]
  unfold blB
  by_cases h : l ≤ rL ρ q
  · rw [zif_n (show ¬ nI (rL ρ q) < nI l from fun z => by have := (nI_ltI (by omega) (by omega)).mp z; omega), zif_p ((nI_leI (by omega) (by omega)).mpr hl)]
    have key : Ok (z_lp (bX2_beginsLike_20 (nI l) d (b + 8 + 4 * q) (b + 8 + 4 * p)) 0) (fun t => t = if eqP ρ q p l = true then .inr () else .inl ()) := by
      refine ok_for l (fun i s => s = nI i ∧ zany (fun i => !decide (ρ (89 + 4 * p + i) = ρ (89 + 4 * q + i))) i = false) ?_ ?_ 0 _ (by omega) ⟨rfl, rfl⟩
      · rintro i s hi ⟨rfl, hz⟩
        unfold bX2_beginsLike_20
        refine ok_f (by rw [nI_leI (by omega) (by omega)]; omega) (ok_gi (vp_in_nI (by omega) (by omega)) (ok_gi (vp_in_nI (by omega) (by omega)) ?_))
        rw [ix_nI (by omega), c_cell hS hI hq (by omega), c_cell hS hI hp (by omega)]
        by_cases he : ρ (89 + 4 * q + i) = ρ (89 + 4 * p + i)
        · refine ok_t he (ok_nm (ok_c ⟨nI_1 i, ?_⟩))
          rw [zany_s, hz, he]; simp
        · refine ok_f he (ok_x ?_)
          have : zany (fun i => !decide (ρ (89 + 4 * p + i) = ρ (89 + 4 * q + i))) l = true := zany_t.mpr ⟨i, hi, by simp [Ne.symm he]⟩
          unfold eqP; rw [this]; rfl
      · rintro s ⟨rfl, hz⟩
        unfold bX2_beginsLike_20
        refine ok_t (by rw [nI_leI (by omega) (by omega)]; omega) (ok_z ?_)
        unfold eqP; rw [hz]; rfl
    obtain ⟨t, k1, rfl⟩ := key
    rw [k1, br_s]
    rcases bool2 (eqP ρ q p l) with he | he <;> simp [he, h, b2i]
  · rw [zif_p ((nI_ltI (by omega) (by omega)).mpr (by omega))]
    simp [h, b2i]
theorem c_earlier (hS : StR d b ρ n m) (hI : Inv0 ρ n m B) {p l : Nat} (hp : p < m) (hl : l ≤ rL ρ p) : fX3_earlierBeginsLike d b (nI p) (nI l) = some (b2i (!newB ρ p l)) := by
  have hm5 := hI.2.2.2.1
  have key : Ok (z_lp (bX3_earlierBeginsLike_2 (nI p) d b (nI l)) 0) (fun t => t = if newB ρ p l = true then .inr () else .inl ()) := by
    refine ok_for p (fun q s => s = nI q ∧ zany (fun q => blB ρ q p l) q = false) ?_ ?_ 0 _ (by omega) ⟨rfl, rfl⟩
    · rintro q s hq ⟨rfl, hz⟩
      unfold bX3_earlierBeginsLike_2
      refine ok_f (by rw [nI_leI (by omega) (by omega)]; omega) (ok_gi (vp_in_nI (by omega) (by omega)) (ok_gi (vp_in_nI (by omega) (by omega)) ?_))
      rw [ix_nI (show q < 2 ^ 31 by omega), ix_nI (show p < 2 ^ 31 by omega), c_begins hS hI (by omega) hp hl]
      refine ok_re rfl ?_
      rcases bool2 (blB ρ q p l) with he | he
      · rw [he]
        refine ok_t (show b2i false = 0 from rfl) (ok_nm (ok_c ⟨nI_1 q, ?_⟩))
        rw [zany_s, hz, he]; rfl
      · rw [he]
        refine ok_f (show ¬ b2i true = 0 by decide) (ok_x ?_)
        have : zany (fun q => blB ρ q p l) p = true := zany_t.mpr ⟨q, hq, he⟩
        unfold newB; rw [this]; rfl
    · rintro s ⟨rfl, hz⟩
      unfold bX3_earlierBeginsLike_2
      refine ok_t (by rw [nI_leI (by omega) (by omega)]; omega) (ok_z ?_)
      unfold newB; rw [hz]; rfl
  obtain ⟨t, k1, rfl⟩ := key
  unfold fX3_earlierBeginsLike
  rw [k1, br_s]
  rcases bool2 (newB ρ p l) with he | he <;> simp [he, b2i]
theorem cntL_s (ρ : Row) (p k : Nat) : cntL ρ p (k + 1) = cntL ρ p k + (if newB ρ p (k + 1) then 1 else 0) := rfl
theorem c_prefixes (hS : StR d b ρ n m) (hI : Inv0 ρ n m B) : fX3_differentPrefixes d b = some (nI (totP ρ m)) := by
  have hm5 := hI.2.2.2.1
  have key : Ok (z_lp (bX3_differentPrefixes_4 d b) (0, 0)) (fun t => t = nI (totP ρ m)) := by
    refine ok_for m (fun p s => s = (nI (totP ρ p), nI p)) ?_ ?_ 0 _ (by omega) rfl
    · rintro p s hp rfl
      have hL4 := (hI.2.2.2.2.1 p hp).2.2.1
      unfold bX3_differentPrefixes_4
      refine ok_f (by rw [hS.2.1, nI_leI (by omega) (by omega)]; omega) ?_
      have inner : Ok (z_lp (bX3_differentPrefixes_14 (nI p) d b) (nI (totP ρ p), 1)) (fun t => t = nI (totP ρ p + cntL ρ p (rL ρ p))) := by
        refine ok_for (rL ρ p) (fun i s => s = (nI (totP ρ p + cntL ρ p i), nI (i + 1))) ?_ ?_ 0 _ (by omega) rfl
        · rintro i s hi rfl
          unfold bX3_differentPrefixes_14
          refine ok_gi (vp_in_nI (by omega) (by omega)) ?_
          rw [ix_nI (by omega), (hS.2.2 p hp).1.1]
          refine ok_f (fun z => by have := (nI_ltI (by omega) (by omega)).mp z; omega) ?_
          rw [c_earlier hS hI hp (show i + 1 ≤ rL ρ p by omega)]
          refine ok_re rfl ?_
          rcases bool2 (newB ρ p (i + 1)) with he | he
          · rw [he]
            refine ok_f (show ¬ b2i true = 0 by decide) ?_
            unfold jX3_differentPrefixes_39
            refine ok_nm (ok_c ?_)
            rw [cntL_s, he, show nI (i + 1) + (1 : Int32) = nI (i + 1 + 1) from nI_1 _]; rfl
          · rw [he]
            refine ok_t (show b2i false = 0 from rfl) (ok_nm ?_)
            unfold jX3_differentPrefixes_39
            refine ok_nm (ok_c ?_)
            rw [cntL_s, he, show nI (i + 1) + (1 : Int32) = nI (i + 1 + 1) from nI_1 _]
            simp only [if_true]
            rw [show nI (totP ρ p + cntL ρ p i) + (1 : Int32) = nI (totP ρ p + cntL ρ p i + 1) from nI_1 _, Nat.add_assoc]
        · rintro s rfl
          unfold bX3_differentPrefixes_14
          refine ok_gi (vp_in_nI (by omega) (by omega)) ?_
          rw [ix_nI (by omega), (hS.2.2 p hp).1.1]
          exact ok_t ((nI_ltI (by omega) (by omega)).mpr (by omega)) (ok_z rfl)
      refine ok_br inner (fun t ht => ?_)
      subst ht
      exact ok_nm (ok_c (by rw [show nI p + (1 : Int32) = nI (p + 1) from nI_1 p]; rfl))
    · rintro s rfl
      unfold bX3_differentPrefixes_4
      exact ok_t (by rw [hS.2.1, nI_leI (by omega) (by omega)]; omega) (ok_z rfl)
  obtain ⟨t, k1, rfl⟩ := key
  unfold fX3_differentPrefixes
  rw [k1, br_s]
end PX
section PY
variable {d : Dt} {n m B : Nat}
theorem m_begins (hI : Inv0 (d.1 2) n m B) {q p l : Nat} (hq : q < m) (hp : p < m) (hl : l ≤ 4) : fX6_isBeginning d (nI p) (nI q) (nI l) = some (b2i (blB (d.1 2) q p l)) := by
  have hm5 := hI.2.2.2.1
  have hLq := (hI.2.2.2.2.1 q hq).2.2.1
  unfold fX6_isBeginning
  rw [show (84 : Int32) + nI q = nI (84 + q) from nI_add 84 q, in_t (show 84 + q < 214 by omega) (by omega), gd_t, ix_nI (by omega), (hI.2.2.2.2.1 q hq).1, z_nme]
  have e0 : zif (nI (rL (d.1 2) q) < nI l) (0 : Int32) 1 = b2i (decide (l ≤ rL (d.1 2) q)) := by
    by_cases h : l ≤ rL (d.1 2) q
    · rw [zif_n (fun z => by have := (nI_ltI (by omega) (by omega)).mp z; omega)]; simp [h, b2i]
    · rw [zif_p ((nI_ltI (by omega) (by omega)).mpr (by omega))]; simp [h, b2i]
  rw [e0]
  have key : Ok (z_lp (bX6_isBeginning_23 (nI l) (nI p) (nI q) d) (b2i (decide (l ≤ rL (d.1 2) q)), 0)) (fun t => t = b2i (blB (d.1 2) q p l)) := by
    refine ok_for l (fun i s => s = (b2i (decide (l ≤ rL (d.1 2) q) && eqP (d.1 2) q p i), nI i)) ?_ ?_ 0 _ (by omega) (by simp [eqP, zany]; rfl)
    · rintro i s hi rfl
      unfold bX6_isBeginning_23
      refine ok_f (by rw [nI_leI (by omega) (by omega)]; omega) ?_
      have es : eqP (d.1 2) q p (i + 1) = (eqP (d.1 2) q p i && decide (d.1 2 (89 + 4 * p + i) = d.1 2 (89 + 4 * q + i))) := by
        unfold eqP; rw [zany_s]; simp
      rcases bool2 (decide (l ≤ rL (d.1 2) q) && eqP (d.1 2) q p i) with hb | hb
      · rw [hb]
        refine ok_t (show b2i false = 0 from rfl) ?_
        unfold jX6_isBeginning_69 jX6_isBeginning_70
        refine ok_nm (ok_c ?_)
        rw [es, ← Bool.and_assoc, hb, show nI i + (1 : Int32) = nI (i + 1) from nI_1 i]; rfl
      · rw [hb]
        refine ok_f (show ¬ b2i true = 0 by decide) ?_
        rw [a4p, a4p, nI_add, nI_add]
        refine ok_gi (vp_in_nI (by omega) (by omega)) (ok_gi (vp_in_nI (by omega) (by omega)) ?_)
        rw [ix_nI (by omega), ix_nI (by omega)]
        by_cases he : d.1 2 (89 + 4 * p + i) = d.1 2 (89 + 4 * q + i)
        · refine ok_t he ?_
          unfold jX6_isBeginning_70
          refine ok_nm (ok_c ?_)
          rw [es, ← Bool.and_assoc, hb, show nI i + (1 : Int32) = nI (i + 1) from nI_1 i]; simp [he, b2i]
        · refine ok_f he ?_
          unfold jX6_isBeginning_69 jX6_isBeginning_70
          refine ok_nm (ok_c ?_)
          rw [es, ← Bool.and_assoc, hb, show nI i + (1 : Int32) = nI (i + 1) from nI_1 i]; simp [he, b2i]
    · rintro s rfl
      unfold bX6_isBeginning_23
      exact ok_t (by rw [nI_leI (by omega) (by omega)]; omega) (ok_z rfl)
  obtain ⟨t, k1, rfl⟩ := key
  rw [k1, br_s]
theorem m_fresh (hI : Inv0 (d.1 2) n m B) {p l : Nat} (hp : p < m) (hl : l ≤ 4) : Ok (z_lp (bX6_shared_36 (nI p) d (nI l)) (1, 0)) (fun t => t = b2i (newB (d.1 2) p l)) := by
  have hm5 := hI.2.2.2.1
  refine ok_for p (fun q s => s = (b2i (!zany (fun q => blB (d.1 2) q p l) q), nI q)) ?_ ?_ 0 _ (by omega) rfl
  · rintro q s hq rfl
    unfold bX6_shared_36
    refine ok_f (by rw [nI_leI (by omega) (by omega)]; omega) ?_
    rcases bool2 (zany (fun q => blB (d.1 2) q p l) q) with hz | hz
    · rw [hz]
      refine ok_f (show ¬ b2i true = 0 by decide) ?_
      rw [m_begins hI (by omega) hp hl]
      refine ok_re rfl ?_
      rcases bool2 (blB (d.1 2) q p l) with he | he
      · rw [he]
        refine ok_t (show b2i false = 0 from rfl) ?_
        unfold jX6_shared_63
        refine ok_nm (ok_c ?_)
        rw [zany_s, hz, he, show nI q + (1 : Int32) = nI (q + 1) from nI_1 q]; rfl
      · rw [he]
        refine ok_f (show ¬ b2i true = 0 by decide) ?_
        unfold jX6_shared_62 jX6_shared_63
        refine ok_nm (ok_c ?_)
        rw [zany_s, hz, he, show nI q + (1 : Int32) = nI (q + 1) from nI_1 q]; rfl
    · rw [hz]
      refine ok_t (show b2i false = 0 from rfl) ?_
      unfold jX6_shared_62 jX6_shared_63
      refine ok_nm (ok_c ?_)
      rw [zany_s, hz, show nI q + (1 : Int32) = nI (q + 1) from nI_1 q]; rfl
  · rintro s rfl
    unfold bX6_shared_36
    exact ok_t (by rw [nI_leI (by omega) (by omega)]; omega) (ok_z rfl)
theorem m_shared (hI : Inv0 (d.1 2) n m B) : fX6_shared d = some (nI (totP (d.1 2) m)) := by
  have hm5 := hI.2.2.2.1
  have key : Ok (z_lp (bX6_shared_4 d) (0, 0)) (fun t => t = nI (totP (d.1 2) m)) := by
    refine ok_for m (fun p s => s = (nI (totP (d.1 2) p), nI p)) ?_ ?_ 0 _ (by omega) rfl
    · rintro p s hp rfl
      have hL4 := (hI.2.2.2.2.1 p hp).2.2.1
      unfold bX6_shared_4
      refine ok_f (by rw [show d.1 2 (z_ix (83 : Int32)) = nI m from hI.2.2.1, nI_leI (by omega) (by omega)]; omega) ?_
      have inner : Ok (z_lp (bX6_shared_17 (nI p) d) (nI (totP (d.1 2) p), 1)) (fun t => t = nI (totP (d.1 2) p + cntL (d.1 2) p (rL (d.1 2) p))) := by
        refine ok_for (rL (d.1 2) p) (fun i s => s = (nI (totP (d.1 2) p + cntL (d.1 2) p i), nI (i + 1))) ?_ ?_ 0 _ (by omega) rfl
        · rintro i s hi rfl
          unfold bX6_shared_17
          dsimp only
          rw [show (84 : Int32) + nI p = nI (84 + p) from nI_add 84 p]
          refine ok_gi (vp_in_nI (by omega) (by omega)) ?_
          rw [ix_nI (by omega), (hI.2.2.2.2.1 p hp).1]
          refine ok_f (fun z => by have := (nI_ltI (by omega) (by omega)).mp z; omega) ?_
          refine ok_br (m_fresh hI hp (show i + 1 ≤ 4 by omega)) (fun t ht => ?_)
          subst ht
          refine ok_nm (ok_nm (ok_nm (ok_c ?_)))
          rw [cntL_s, show nI (i + 1) + (1 : Int32) = nI (i + 1 + 1) from nI_1 _]
          rcases bool2 (newB (d.1 2) p (i + 1)) with he | he
          · rw [he, zif_p (show b2i false = 0 from rfl)]
            rw [show nI (totP (d.1 2) p + cntL (d.1 2) p i) + (0 : Int32) = nI (totP (d.1 2) p + cntL (d.1 2) p i + 0) from nI_add _ 0]; rfl
          · rw [he, zif_n (show ¬ b2i true = 0 by decide), show nI (totP (d.1 2) p + cntL (d.1 2) p i) + (1 : Int32) = nI (totP (d.1 2) p + cntL (d.1 2) p i + 1) from nI_1 _, Nat.add_assoc]; rfl
        · rintro s rfl
          unfold bX6_shared_17
          dsimp only
          rw [show (84 : Int32) + nI p = nI (84 + p) from nI_add 84 p]
          refine ok_gi (vp_in_nI (by omega) (by omega)) ?_
          rw [ix_nI (by omega), (hI.2.2.2.2.1 p hp).1]
          exact ok_t ((nI_ltI (by omega) (by omega)).mpr (by omega)) (ok_z rfl)
      refine ok_br inner (fun t ht => ?_)
      subst ht
      exact ok_nm (ok_c (by rw [show nI p + (1 : Int32) = nI (p + 1) from nI_1 p]; rfl))
    · rintro s rfl
      unfold bX6_shared_4
      exact ok_t (by rw [show d.1 2 (z_ix (83 : Int32)) = nI m from hI.2.2.1, nI_leI (by omega) (by omega)]; omega) (ok_z rfl)
  obtain ⟨t, k1, rfl⟩ := key
  unfold fX6_shared
  rw [k1, br_s]
theorem m_curd {a : Nat} (hw : WE (d.1 a) n) (hH : HO (d.1 a) n) : fX6_depthOf d a (d.1 a 81) = some (nI (cdep (d.1 a))) := by
  have h20 := we_20 hw
  rcases ho_cases hH with h | ⟨x, hx, h⟩
  · rw [cdep_n h, h, m_depth9]; rfl
  · rw [cdep_h h (by omega), h, m_depth hw hx]
theorem p_about {dc dm : Dt} {B : Nat} (h : Rel dc dm B) (x : Int32) : ∃ r, fX5_about dc x = some r ∧ fX6_about dm x = some r := by
  obtain ⟨h1, ⟨len, t1, t2, t3, t4⟩, ⟨k, y, a1, a2, a3, a4, a5⟩, h4, ⟨o, o1, o2, o3, o4⟩, h6, h7⟩ := h
  obtain ⟨n, m, s1, s2⟩ := id h1
  have h20 := we_20 s2.1.1
  have hH := s2.1.2.2.2.2.2.1
  unfold fX5_about fX6_about
  rw [s1.2.1, show dm.1 2 (z_ix (83 : Int32)) = nI m from s2.1.2.2.1, show dc.1 2 6 = dm.1 2 80 from s1.1.2.1, show dc.1 2 7 = dm.1 2 81 from s1.1.2.2.1, show dc.1 2 8 = dm.1 2 82 from s1.1.2.2.2.1, show fX0_currentDepth dc 2 = _ from c_depth s1.1 h20 hH, show dm.1 2 (z_ix (81 : Int32)) = dm.1 2 81 from rfl, m_curd s2.1.1 hH, c_prefixes s1 s2.1, m_shared s2.1, a3, a4, o2, o3, t2, t3, br_s, br_s]
  exact both_s (zif_s ⟨_, rfl⟩ (zif_s ⟨_, rfl⟩ (zif_s ⟨_, rfl⟩ (zif_s ⟨_, rfl⟩ (zif_s ⟨_, rfl⟩ (zif_s ⟨_, rfl⟩ (zif_s ⟨_, rfl⟩ (zif_s ⟨_, rfl⟩ (zif_s ⟨_, rfl⟩ ⟨_, rfl⟩)))))))))
end PY
