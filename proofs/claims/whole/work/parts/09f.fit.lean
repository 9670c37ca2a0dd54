/-! regions of uses; what outlives what; what fits -/
def rn (T : gSt) : Nat := (T.1 71 0).toNatClampNeg
abbrev Rg (T : gSt) : Prop := T.1 71 0 = nI (rn T) ∧ rn T ≤ 12
def lvS (T : gSt) (p : Nat) : gSt := if (rgAtS T (rn T) p).1 7 0 = 0 ∧ isLv (rgAtS T (rn T) p) (rgAtR T (rn T) p) = 0 then flT (rgAtS T (rn T) p) 5 (T.1 47 p) else rgAtS T (rn T) p
def waT : Nat → gSt → Nat → Nat → Int32 → Int32 × gSt
  | 0, T, _, _, all => (all, T)
  | m + 1, T, u, k, all => if T.1 7 0 = 0 then waT m (rgAtS T (rn T) (u + k)) u (k + 1) (all ||| (rgAtR T (rn T) (u + k) <<< (((10 : Int32) * nI k) &&& 31))) else (all, T)
def inC (T : gSt) (r : Int32) : Nat → Int32 → Int32
  | 0, _ => 0
  | f + 1, c => if c ≤ 0 then (if c = r then 1 else 0) else if c = r then 1 else inC T r f (T.1 74 c.toNatClampNeg)
def dOv (T : gSt) (r s : Int32) : Int32 := if r = s then 1 else if r = 0 then 1 else if r < 4 ∧ 0 < s ∧ s < 4 then (if ((T.1 76 0 >>> (((4 : Int32) * r + s) &&& 31)) &&& 1) = 1 then 1 else 0) else if s < 4 then 0 else if isLv T r = 0 then 0 else if 4 ≤ r then inC T r 13 (T.1 74 s.toNatClampNeg) else 1
/-- each region lies inside one that was opened ahead of it -/
abbrev Ri (T : gSt) : Prop := ∀ c, c < 12 → T.1 74 c = 0 ∨ ∃ e, T.1 74 c = nI e ∧ e < c
def rC (s : Int32) : Prop := s < 4 ∨ ∃ e, s = nI e ∧ e < 12
def mfI (T : gSt) (x y : Int32) : Int32 := if x = 0 ∨ y = 0 then (if x = y then 0 else 4) else if x = -2 then (if T.1 66 y.toNatClampNeg = 2 then 0 else 4) else if x = -1 then 4 else if (T.1 66 x.toNatClampNeg = T.1 66 y.toNatClampNeg ∨ T.1 66 x.toNatClampNeg = 1 ∧ T.1 66 y.toNatClampNeg = 2) ∧ ¬ sameC T x y = 0 then (if dOv T (T.1 67 x.toNatClampNeg) (T.1 67 y.toNatClampNeg) = 0 then 5 else 0) else 4
def ftS (T : gSt) (x y p : Int32) : gSt := if T.1 7 0 = 0 ∧ ¬ mfI T x y ≤ 0 then failS T (mfI T x y) p else T
section FT
variable {nf d : Nat} {T : gSt} {n p u m : Nat} {r s x y q : Int32}
theorem flT_o {a b : Int32} {k : Nat} (h : k ≠ 7) (h2 : k ≠ 8) : (flT T a b).1 k = T.1 k := by
  unfold flT failS
  split
  · rw [sI_ne h2, sI_ne h]
  · rfl
theorem flT_j {a b : Int32} : (flT T a b).2 = T.2 := by
  unfold flT failS
  split <;> rfl
theorem rgAtS_o {k : Nat} (h : k ≠ 7) (h2 : k ≠ 8) (h3 : k ≠ 48) : (rgAtS T n p).1 k = T.1 k := by
  unfold rgAtS
  split
  · rw [sI_ne h3]
  · rw [sI_ne h3, flT_o h h2]
theorem rgAtS_j : (rgAtS T n p).2 = T.2 := by
  unfold rgAtS
  split
  · rfl
  · exact flT_j
theorem x_lvAt (hR : Rg T) (hnf : 5000 ≤ nf) (hp : p < 4000) : RR nf (d + 3) 55 T [nI p] [] = some (rgAtR T (rn T) p, 0, lvS T p) := by
  have zp : inb (nI p) 4000 := nin (by omega) (by omega)
  have cp : (nI p).toNatClampNeg = p := nc (by omega)
  rw [e_Model_liveRegionAt nf (d + 2)]
  unfold rb_Model_liveRegionAt lvS
  rw [x_rgAt hR.1 hR.2 hnf hp]
  simp only [bi, x_bad, bdI_0]
  by_cases h : (rgAtS T (rn T) p).1 7 0 = 0
  · rw [if_pos h, x_isLv]
    simp only
    by_cases h2 : isLv (rgAtS T (rn T) p) (rgAtR T (rn T) p) = 0
    · rw [if_pos h2, if_pos ⟨h, h2⟩]
      simp only [gd, if_pos zp, cp, x_fail]
      rw [rgAtS_o (k := 47) (by omega) (by omega) (by omega)]
    · rw [if_neg h2, if_neg (fun z => h2 z.2)]
  · rw [if_neg h, if_neg (fun z => h z.1)]
theorem Rg.at (hR : Rg T) : Rg (rgAtS T n p) := by
  unfold Rg rn
  rw [rgAtS_o (k := 71) (by omega) (by omega) (by omega)]
  exact hR
theorem wth_l (hnf : 5000 ≤ nf) (hm : m ≤ 3) : ∀ (k fl i : Nat) (all : Int32) (T : gSt), Rg T → u + m ≤ 4000 → i + k = m → k < fl → rl_Model_withAt_5 (RR nf (d + 2)) nf fl T (nI u) (nI m) all (nI i) = some ((waT k T u i all).1, 0, (waT k T u i all).2) := by
  intro k
  induction k with
  | zero =>
    intro fl i all T hR hu hi hf
    obtain ⟨fl', rfl⟩ : ∃ g, fl = g + 1 := ⟨fl - 1, by omega⟩
    rw [rl_Model_withAt_5, if_pos ((nI_leI (by omega) (by omega)).mpr (by omega))]
    rfl
  | succ k ih =>
    intro fl i all T hR hu hi hf
    obtain ⟨fl', rfl⟩ : ∃ g, fl = g + 1 := ⟨fl - 1, by omega⟩
    rw [rl_Model_withAt_5, if_neg (fun h => by have := (nI_leI (a := m) (b := i) (by omega) (by omega)).mp h; omega)]
    simp only [bi, x_bad, bdI_0]
    rw [waT]
    by_cases h : T.1 7 0 = 0
    · rw [if_pos h, if_pos h, nI_add, x_rgAt hR.1 hR.2 hnf (by omega)]
      simp only [vK, nI_1]
      exact ih fl' (i + 1) _ _ hR.at hu (by omega) (by omega)
    · rw [if_neg h, if_neg h]
theorem x_wth (hR : Rg T) (hnf : 5000 ≤ nf) (hm : m ≤ 3) (hu : u + m ≤ 4000) : RR nf (d + 3) 56 T [nI u, nI m] [] = some ((waT m T u 0 0).1, 0, (waT m T u 0 0).2) := by
  rw [e_Model_withAt nf (d + 2)]
  unfold rb_Model_withAt
  exact wth_l hnf hm m nf 0 0 T hR hu (by omega) (by omega)
theorem inC_l (hI : Ri T) : ∀ (k fl f : Nat) (c : Int32), (c ≤ 0 ∨ ∃ e, c = nI e ∧ e < k) → k ≤ 12 → k < fl → k < f → rl_Model_doesOutlive_76 (RR nf d) nf fl T r c = some (inC T r f c, 0, T) := by
  intro k
  induction k with
  | zero =>
    intro fl f c hc hk hfl hf
    obtain ⟨fl', rfl⟩ : ∃ g, fl = g + 1 := ⟨fl - 1, by omega⟩
    obtain ⟨f', rfl⟩ : ∃ g, f = g + 1 := ⟨f - 1, by omega⟩
    rw [rl_Model_doesOutlive_76, inC]
    have c0 : c ≤ 0 := by
      rcases hc with hc | ⟨e, _, h⟩
      · exact hc
      · omega
    rw [if_pos c0, if_pos c0]
    by_cases h : c = r
    · rw [if_pos h, if_pos h]
    · rw [if_neg h, if_neg h]
  | succ k ih =>
    intro fl f c hc hk hfl hf
    obtain ⟨fl', rfl⟩ : ∃ g, fl = g + 1 := ⟨fl - 1, by omega⟩
    obtain ⟨f', rfl⟩ : ∃ g, f = g + 1 := ⟨f - 1, by omega⟩
    rw [rl_Model_doesOutlive_76, inC]
    by_cases c0 : c ≤ 0
    · rw [if_pos c0, if_pos c0]
      by_cases h : c = r
      · rw [if_pos h, if_pos h]
      · rw [if_neg h, if_neg h]
    · rw [if_neg c0, if_neg c0]
      by_cases h : c = r
      · rw [if_pos h, if_pos h, if_pos h]
      · rw [if_neg h, if_neg h]
        rcases hc with hc | ⟨e, rfl, he⟩
        · exact absurd hc c0
        have ze : inb (nI e) 12 := nin (by omega) (by omega)
        have ce : (nI e).toNatClampNeg = e := nc (by omega)
        simp only [gd, if_pos ze, ce, vK]
        refine ih fl' f' _ ?_ (by omega) (by omega) (by omega)
        rcases hI e (by omega) with h0 | ⟨e2, h1, h2⟩
        · left; rw [h0]; decide
        · right; exact ⟨e2, h1, by omega⟩
theorem x_dOv (hI : Ri T) (hs : rC s) (hnf : 5000 ≤ nf) : RR nf (d + 2) 58 T [r, s] [] = some (dOv T r s, 0, T) := by
  rw [e_Model_doesOutlive nf (d + 1)]
  have hj : ¬ (r < 4 ∧ 0 < s ∧ s < 4) → ¬ r = s → ¬ r = 0 → rj_Model_doesOutlive_47 (RR nf (d + 1)) nf T r s = some (dOv T r s, 0, T) := by
    intro h1 h2 h3
    unfold rj_Model_doesOutlive_47 dOv
    rw [if_neg h2, if_neg h3, if_neg h1, x_isLv]
    simp only [bi]
    by_cases h4 : s < 4
    · rw [if_pos h4, if_pos h4]
    · rw [if_neg h4, if_neg h4]
      by_cases h5 : isLv T r = 0
      · rw [if_pos h5, if_pos h5]
      · rw [if_neg h5, if_neg h5]
        by_cases h6 : 4 ≤ r
        · rw [if_pos h6, if_pos h6]
          rcases hs with hs | ⟨e, rfl, he⟩
          · exact absurd hs h4
          have ze : inb (nI e) 12 := nin (by omega) (by omega)
          have ce : (nI e).toNatClampNeg = e := nc (by omega)
          simp only [gd, if_pos ze, ce, vK]
          refine inC_l hI 12 nf 13 _ ?_ (by omega) (by omega) (by omega)
          rcases hI e (by omega) with h0 | ⟨e2, h1, h2⟩
          · left; rw [h0]; decide
          · right; exact ⟨e2, h1, by omega⟩
        · rw [if_neg h6, if_neg h6]
  unfold rb_Model_doesOutlive
  by_cases h2 : r = s
  · rw [if_pos h2]
    unfold dOv
    rw [if_pos h2]
  rw [if_neg h2]
  by_cases h3 : r = 0
  · rw [if_pos h3]
    unfold dOv
    rw [if_neg h2, if_pos h3]
  rw [if_neg h3]
  by_cases h4 : 4 ≤ r
  · rw [if_pos h4]
    exact hj (fun z => absurd z.1 (Int32.not_lt.mpr h4)) h2 h3
  rw [if_neg h4]
  by_cases h5 : s ≤ 0
  · rw [if_pos h5]
    exact hj (fun z => absurd z.2.1 (Int32.not_lt.mpr h5)) h2 h3
  rw [if_neg h5]
  by_cases h6 : 4 ≤ s
  · rw [if_pos h6]
    exact hj (fun z => absurd z.2.2 (Int32.not_lt.mpr h6)) h2 h3
  rw [if_neg h6]
  unfold dOv
  rw [if_neg h2, if_neg h3, if_pos (show r < 4 ∧ 0 < s ∧ s < 4 from ⟨Int32.not_le.mp h4, Int32.not_le.mp h5, Int32.not_le.mp h6⟩)]
  by_cases h7 : ((T.1 76 0 >>> (((4 : Int32) * r + s) &&& 31)) &&& 1) = 1
  · rw [if_pos h7, if_pos h7]
  · rw [if_neg h7, if_neg h7]
theorem sameC_01 : sameC T x y = 0 ∨ sameC T x y = 1 := by
  unfold sameC
  split
  · exact Or.inr rfl
  · exact Or.inl rfl
/-- a type that may stand in a question of fitting -/
def tF (x : Int32) : Prop := x = -2 ∨ x = -1 ∨ x = 0 ∨ inb x 6000
theorem x_mf (hI : Ri T) (hx : tF x) (hy : y = 0 ∨ inb y 6000) (hc : inb y 6000 → ¬ y = 0 → rC (T.1 67 y.toNatClampNeg)) (hnf : 5000 ≤ nf) : RR nf (d + 3) 59 T [x, y] [] = some (mfI T x y, 0, T) := by
  rw [e_Model_misfit nf (d + 2)]
  unfold rb_Model_misfit
  by_cases h0 : x = 0
  · rw [if_pos h0]
    unfold mfI
    rw [if_pos (Or.inl h0)]
    by_cases h : x = y
    · rw [if_pos h, if_pos h]
    · rw [if_neg h, if_neg h]
  rw [if_neg h0]
  by_cases h1 : y = 0
  · rw [if_pos h1]
    unfold mfI
    rw [if_pos (Or.inr h1)]
    by_cases h : x = y
    · rw [if_pos h, if_pos h]
    · rw [if_neg h, if_neg h]
  rw [if_neg h1]
  have iy : inb y 6000 := hy.resolve_left h1
  have n01 : ¬ (x = 0 ∨ y = 0) := fun z => z.elim h0 h1
  by_cases h2 : x = -2
  · rw [if_pos h2]
    unfold mfI
    rw [if_neg n01, if_pos h2]
    simp only [gd, if_pos iy]
    by_cases h : T.1 66 y.toNatClampNeg = 2
    · rw [if_pos h, if_pos h]
    · rw [if_neg h, if_neg h]
  rw [if_neg h2]
  by_cases h3 : x = -1
  · rw [if_pos h3]
    unfold mfI
    rw [if_neg n01, if_neg h2, if_pos h3]
  rw [if_neg h3]
  have ix : inb x 6000 := by
    rcases hx with hx | hx | hx | hx
    · exact absurd hx h2
    · exact absurd hx h3
    · exact absurd hx h0
    · exact hx
  have j0 : ¬ (T.1 66 x.toNatClampNeg = T.1 66 y.toNatClampNeg ∨ T.1 66 x.toNatClampNeg = 1 ∧ T.1 66 y.toNatClampNeg = 2) → rj_Model_misfit_88 (RR nf (d + 2)) nf T x y 0 = some (mfI T x y, 0, T) := by
    intro z
    unfold rj_Model_misfit_88 mfI
    rw [if_pos rfl, if_neg n01, if_neg h2, if_neg h3, if_neg (fun w => z w.1)]
  have j1 : (T.1 66 x.toNatClampNeg = T.1 66 y.toNatClampNeg ∨ T.1 66 x.toNatClampNeg = 1 ∧ T.1 66 y.toNatClampNeg = 2) → rj_Model_misfit_88 (RR nf (d + 2)) nf T x y 1 = some (mfI T x y, 0, T) := by
    intro z
    unfold rj_Model_misfit_88 mfI
    rw [if_neg (by decide), if_neg n01, if_neg h2, if_neg h3, x_sameC ix iy]
    simp only [bi]
    by_cases hs : sameC T x y = 0
    · rw [if_pos hs, if_neg (fun w => w.2 hs)]
    · rw [if_neg hs, if_pos ⟨z, hs⟩]
      simp only [gd, if_pos ix, if_pos iy]
      rw [x_dOv hI (hc iy h1) hnf]
      simp only
      by_cases h : dOv T (T.1 67 x.toNatClampNeg) (T.1 67 y.toNatClampNeg) = 0
      · rw [if_pos h, if_pos h]
      · rw [if_neg h, if_neg h]
  simp only [gd, if_pos ix, if_pos iy]
  by_cases h4 : T.1 66 x.toNatClampNeg = T.1 66 y.toNatClampNeg
  · rw [if_pos h4]
    exact j1 (Or.inl h4)
  rw [if_neg h4]
  by_cases h5 : T.1 66 x.toNatClampNeg = 1
  · rw [if_pos h5]
    by_cases h6 : T.1 66 y.toNatClampNeg = 2
    · rw [if_pos h6]
      exact j1 (Or.inr ⟨h5, h6⟩)
    · rw [if_neg h6]
      exact j0 (fun z => z.elim h4 (fun w => h6 w.2))
  · rw [if_neg h5]
    exact j0 (fun z => z.elim h4 (fun w => h5 w.1))
theorem x_fit (hI : Ri T) (hx : T.1 7 0 = 0 → tF x) (hy : T.1 7 0 = 0 → y = 0 ∨ inb y 6000) (hc : T.1 7 0 = 0 → inb y 6000 → ¬ y = 0 → rC (T.1 67 y.toNatClampNeg)) (hnf : 5000 ≤ nf) : RR nf (d + 4) 60 T [x, y, q] [] = some (0, 0, ftS T x y q) := by
  rw [e_Model_fit nf (d + 3)]
  unfold rb_Model_fit ftS
  simp only [x_bad, bi, bdI_0]
  by_cases h : T.1 7 0 = 0
  · rw [if_pos h, x_mf hI (hx h) (hy h) (hc h) hnf]
    simp only
    by_cases h2 : mfI T x y ≤ 0
    · rw [if_pos h2, if_neg (fun z => z.2 h2)]
    · rw [if_neg h2, if_pos ⟨h, h2⟩, q_fail0 h]
  · rw [if_neg h, if_neg (fun z => h z.1)]
end FT
