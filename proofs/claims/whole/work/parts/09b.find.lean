/-! what the reference's searches answer -/
section FN
variable {nf d : Nat} {T : gSt} {n t c : Nat} {w : Int64}
theorem nI_sub1 {k : Nat} : nI (k + 1) + (-1) = nI k := by rw [← nI_1, Int32.add_assoc, show (1 : Int32) + (-1) = 0 from by decide, Int32.add_zero]
def isTi (T : gSt) (w : Int64) (i : Nat) : Bool := decide (¬ (2 : Int32) ≤ T.1 12 i) && decide (T.2 13 i = w)
def isFu (T : gSt) (w : Int64) (i : Nat) : Bool := decide (T.1 12 i = 2) && decide (T.2 13 i = w)
def isFi (T : gSt) (c : Nat) (w : Int64) (k : Nat) : Bool := decide (T.2 21 (c + k) = w)
def isVa (T : gSt) (w : Int64) (k : Nat) : Bool := decide (T.2 78 k = w)
def isRg (T : gSt) (w : Int64) (k : Nat) : Bool := decide (T.2 72 k = w)
theorem title_l (hn : T.1 11 0 = nI n) (h2 : n ≤ 24) : ∀ (k fl i : Nat), i + k = n → k < fl → rl_Model_findTitle_2 (RR nf d) nf fl T w (nI i) = some (ff (isTi T w) i k, 0, T) := by
  intro k
  induction k with
  | zero =>
    intro fl i hi hf
    obtain ⟨fl', rfl⟩ : ∃ g, fl = g + 1 := ⟨fl - 1, by omega⟩
    rw [rl_Model_findTitle_2, if_pos (by rw [hn]; exact (nI_leI (by omega) (by omega)).mpr (by omega))]
    rfl
  | succ k ih =>
    intro fl i hi hf
    obtain ⟨fl', rfl⟩ : ∃ g, fl = g + 1 := ⟨fl - 1, by omega⟩
    have z1 : inb (nI i) 24 := nin (by omega) (by omega)
    have c1 : (nI i).toNatClampNeg = i := nc (by omega)
    rw [rl_Model_findTitle_2, if_neg (by rw [hn]; exact fun h => by have := (nI_leI (a := n) (b := i) (by omega) (by omega)).mp h; omega)]
    simp only [gd, vK, c1, if_pos z1, nI_1, lg_cmp_eq]
    rw [ih fl' (i + 1) (by omega) (by omega)]
    show _ = some (if isTi T w i = true then nI i else ff (isTi T w) (i + 1) k, 0, T)
    by_cases h1 : (2 : Int32) ≤ T.1 12 i
    · rw [if_pos h1, if_neg (show ¬ isTi T w i = true by unfold isTi; simp [h1])]
    · rw [if_neg h1]
      by_cases h3 : T.2 13 i = w
      · rw [if_pos h3, if_pos (show isTi T w i = true by unfold isTi; simp only [h3, decide_true, Bool.and_true, decide_eq_true_eq]; exact h1)]
      · rw [if_neg h3, if_neg (show ¬ isTi T w i = true by unfold isTi; simp [h3])]
theorem x_title (hn : T.1 11 0 = nI n) (h2 : n ≤ 24) (hnf : 5000 ≤ nf) : RR nf (d + 1) 48 T [] [w] = some (ff (isTi T w) 0 n, 0, T) := by
  rw [e_Model_findTitle]
  unfold rb_Model_findTitle
  exact title_l hn h2 n nf 0 (by omega) (by omega)
theorem fun_l (hn : T.1 11 0 = nI n) (h2 : n ≤ 24) : ∀ (k fl i : Nat), i + k = n → k < fl → rl_Model_findFun_2 (RR nf d) nf fl T w (nI i) = some (ff (isFu T w) i k, 0, T) := by
  intro k
  induction k with
  | zero =>
    intro fl i hi hf
    obtain ⟨fl', rfl⟩ : ∃ g, fl = g + 1 := ⟨fl - 1, by omega⟩
    rw [rl_Model_findFun_2, if_pos (by rw [hn]; exact (nI_leI (by omega) (by omega)).mpr (by omega))]
    rfl
  | succ k ih =>
    intro fl i hi hf
    obtain ⟨fl', rfl⟩ : ∃ g, fl = g + 1 := ⟨fl - 1, by omega⟩
    have z1 : inb (nI i) 24 := nin (by omega) (by omega)
    have c1 : (nI i).toNatClampNeg = i := nc (by omega)
    rw [rl_Model_findFun_2, if_neg (by rw [hn]; exact fun h => by have := (nI_leI (a := n) (b := i) (by omega) (by omega)).mp h; omega)]
    simp only [gd, vK, c1, if_pos z1, nI_1, lg_cmp_eq]
    rw [ih fl' (i + 1) (by omega) (by omega)]
    show _ = some (if isFu T w i = true then nI i else ff (isFu T w) (i + 1) k, 0, T)
    by_cases h1 : T.1 12 i = 2
    · rw [if_pos h1]
      by_cases h3 : T.2 13 i = w
      · rw [if_pos h3, if_pos (show isFu T w i = true by unfold isFu; simp [h1, h3])]
      · rw [if_neg h3, if_neg (show ¬ isFu T w i = true by unfold isFu; simp [h3])]
    · rw [if_neg h1, if_neg (show ¬ isFu T w i = true by unfold isFu; simp [h1])]
theorem x_fun (hn : T.1 11 0 = nI n) (h2 : n ≤ 24) (hnf : 5000 ≤ nf) : RR nf (d + 1) 49 T [] [w] = some (ff (isFu T w) 0 n, 0, T) := by
  rw [e_Model_findFun]
  unfold rb_Model_findFun
  exact fun_l hn h2 n nf 0 (by omega) (by omega)
theorem fld_l (ht : t < 24) (h18 : T.1 18 t = nI c) (hn : T.1 19 t = nI n) (h2 : c + n ≤ 220) : ∀ (k fl i : Nat), i + k = n → k < fl → rl_Model_findField_3 (RR nf d) nf fl T (nI t) w (nI i) = some (ff (isFi T c w) i k, 0, T) := by
  have zt : inb (nI t) 24 := nin (by omega) (by omega)
  have ct : (nI t).toNatClampNeg = t := nc (by omega)
  intro k
  induction k with
  | zero =>
    intro fl i hi hf
    obtain ⟨fl', rfl⟩ : ∃ g, fl = g + 1 := ⟨fl - 1, by omega⟩
    rw [rl_Model_findField_3]
    simp only [gd, ct, if_pos zt]
    rw [if_pos (by rw [hn]; exact (nI_leI (by omega) (by omega)).mpr (by omega))]
    rfl
  | succ k ih =>
    intro fl i hi hf
    obtain ⟨fl', rfl⟩ : ∃ g, fl = g + 1 := ⟨fl - 1, by omega⟩
    have z1 : inb (nI (c + i)) 220 := nin (by omega) (by omega)
    have c1 : (nI (c + i)).toNatClampNeg = c + i := nc (by omega)
    rw [rl_Model_findField_3]
    simp only [gd, vK, ct, if_pos zt, h18, nI_add, c1, if_pos z1, nI_1, lg_cmp_eq]
    rw [if_neg (by rw [hn]; exact fun h => by have := (nI_leI (a := n) (b := i) (by omega) (by omega)).mp h; omega)]
    rw [ih fl' (i + 1) (by omega) (by omega)]
    show _ = some (if isFi T c w i = true then nI i else ff (isFi T c w) (i + 1) k, 0, T)
    by_cases h3 : T.2 21 (c + i) = w
    · rw [if_pos h3, if_pos (show isFi T c w i = true by unfold isFi; simp [h3])]
    · rw [if_neg h3, if_neg (show ¬ isFi T c w i = true by unfold isFi; simp [h3])]
theorem x_fld (ht : t < 24) (h18 : T.1 18 t = nI c) (hn : T.1 19 t = nI n) (h2 : c + n ≤ 220) (hnf : 5000 ≤ nf) : RR nf (d + 1) 50 T [nI t] [w] = some (ff (isFi T c w) 0 n, 0, T) := by
  rw [e_Model_findField]
  unfold rb_Model_findField
  exact fld_l ht h18 hn h2 n nf 0 (by omega) (by omega)
theorem var_l : ∀ (k fl : Nat), k ≤ 20 → k < fl → rl_Model_findVar_7 (RR nf d) nf fl T w (nI k + (-1)) = some (fd (isVa T w) k, 0, T) := by
  intro k
  induction k with
  | zero =>
    intro fl hk hf
    obtain ⟨fl', rfl⟩ : ∃ g, fl = g + 1 := ⟨fl - 1, by omega⟩
    rw [rl_Model_findVar_7, if_pos (by decide)]
    rfl
  | succ k ih =>
    intro fl hk hf
    obtain ⟨fl', rfl⟩ : ∃ g, fl = g + 1 := ⟨fl - 1, by omega⟩
    have z1 : inb (nI k) 20 := nin (by omega) (by omega)
    have c1 : (nI k).toNatClampNeg = k := nc (by omega)
    rw [nI_sub1, rl_Model_findVar_7, if_neg (nI_pos (by omega))]
    simp only [gd, vK, c1, if_pos z1, lg_cmp_eq]
    rw [ih fl' (by omega) (by omega), fd]
    by_cases h3 : T.2 78 k = w
    · rw [if_pos h3, if_pos (by unfold isVa; simp [h3])]
    · rw [if_neg h3, if_neg (by unfold isVa; simp [h3])]
theorem x_var (hn : T.1 77 0 = nI n) (h2 : n ≤ 20) (hnf : 5000 ≤ nf) : RR nf (d + 1) 51 T [] [w] = some (fd (isVa T w) n, 0, T) := by
  rw [e_Model_findVar]
  unfold rb_Model_findVar vK
  rw [hn, Int32.sub_eq_add_neg]
  exact var_l n nf h2 (by omega)
/-- the region a name means: -1 if none -/
def rgV (T : gSt) (w : Int64) : Nat → Int32
  | 0 => -1
  | k + 1 => if isRg T w k = true then T.1 73 k else rgV T w k
theorem reg_l : ∀ (k fl : Nat), k ≤ 12 → k < fl → rl_Model_findRegion_17 (RR nf d) nf fl T w (nI k + (-1)) = some (rgV T w k, 0, T) := by
  intro k
  induction k with
  | zero =>
    intro fl hk hf
    obtain ⟨fl', rfl⟩ : ∃ g, fl = g + 1 := ⟨fl - 1, by omega⟩
    rw [rl_Model_findRegion_17, if_pos (by decide)]
    rfl
  | succ k ih =>
    intro fl hk hf
    obtain ⟨fl', rfl⟩ : ∃ g, fl = g + 1 := ⟨fl - 1, by omega⟩
    have z1 : inb (nI k) 12 := nin (by omega) (by omega)
    have c1 : (nI k).toNatClampNeg = k := nc (by omega)
    rw [nI_sub1, rl_Model_findRegion_17, if_neg (nI_pos (by omega))]
    simp only [gd, vK, c1, if_pos z1, lg_cmp_eq]
    rw [ih fl' (by omega) (by omega), rgV]
    by_cases h3 : T.2 72 k = w
    · rw [if_pos h3, if_pos (by unfold isRg; simp [h3])]
    · rw [if_neg h3, if_neg (by unfold isRg; simp [h3])]
theorem x_reg (hn : T.1 71 0 = nI n) (h2 : n ≤ 12) (hnf : 5000 ≤ nf) : RR nf (d + 1) 52 T [] [w] = some (if w = 72 then 0 else rgV T w n, 0, T) := by
  rw [e_Model_findRegion]
  unfold rb_Model_findRegion vK
  simp only [lg_cmp_eq]
  by_cases h : w = 72
  · rw [if_pos h, if_pos h]
  · rw [if_neg h, if_neg h, hn, Int32.sub_eq_add_neg]
    exact reg_l n nf h2 (by omega)
end FN
