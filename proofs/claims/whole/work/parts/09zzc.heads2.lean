/-! heads: regions that are told twice -/
def dpR (T : gSt) (it j : Nat) : Nat → Nat → Int32 → Int32
  | 0, _, f => f
  | k + 1, q, f => dpR T it j k (q + 1) (if f = 0 then (if T.2 16 (3 * it + q) = T.2 16 (3 * it + j) then 1 else 0) else 1)
def drS (T : gSt) (it j : Nat) : gSt := if dpR T it j j 0 (if T.2 16 (3 * it + j) = 72 then 1 else 0) = 0 then T else flT T 2 (T.1 17 (3 * it + j))
def drL (it : Nat) : Nat → Nat → gSt → gSt
  | 0, _, T => T
  | k + 1, j, T => if T.1 7 0 = 0 then drL it k (j + 1) (drS T it j) else T
section HE
variable {nf d : Nat} {T T' : gSt} {X : Lx} {it r k j : Nat} {f : Int32} {rec : gSt → Int32 → Int32 → gR}
theorem e3i (it j : Nat) : (3 : Int32) * nI it + nI j = nI (3 * it + j) := by
  rw [show (3 : Int32) = nI 3 from rfl, nI_mul]
  exact (Int32.ofNat_add _ _).symm
theorem l_96 (hit : it < 24) (hj : j < 3) : ∀ (k q fl : Nat) (f : Int32), q + k = j → k < fl → rl_Model_checkHead_96 (RR nf (d + 1)) nf rec fl T (nI it) (nI j) f (nI q) = rec (if dpR T it j k q f = 0 then T else flT T 2 (T.1 17 (3 * it + j))) (nI it) (nI (j + 1)) := by
  have z3 : ∀ q, q ≤ j → inb (nI (3 * it + q)) 72 := fun q hq => nin (by omega) (by omega)
  have c3 : ∀ q, q ≤ j → (nI (3 * it + q)).toNatClampNeg = 3 * it + q := fun q hq => nc (by omega)
  intro k
  induction k with
  | zero =>
    intro q fl f hq hf
    obtain ⟨fl', rfl⟩ : ∃ q, fl = q + 1 := ⟨fl - 1, by omega⟩
    obtain rfl : q = j := by omega
    rw [rl_Model_checkHead_96, if_pos (Int32.le_refl _), dpR]
    by_cases c : f = 0
    · rw [if_pos c, if_pos c, vK, nI_1]
    · rw [if_neg c, if_neg c, e3i, gd, if_pos (z3 _ (by omega)), c3 _ (by omega), x_fail, bis, vK, nI_1]
  | succ k ih =>
    intro q fl f hq hf
    obtain ⟨fl', rfl⟩ : ∃ q, fl = q + 1 := ⟨fl - 1, by omega⟩
    have hlt : ¬ nI j ≤ nI q := fun z => by
      have := (nI_leI (by omega) (by omega)).mp z
      omega
    rw [rl_Model_checkHead_96, if_neg hlt, dpR]
    by_cases c : f = 0
    · rw [if_pos c, if_pos c, e3i, e3i, gd, if_pos (z3 _ (by omega)), gd, if_pos (z3 _ (by omega)), c3 _ (by omega), c3 _ (by omega)]
      by_cases c2 : T.2 16 (3 * it + q) = T.2 16 (3 * it + j)
      · rw [if_pos c2, if_pos (by rw [lg_cmp_eq]; exact c2), vK, nI_1]
        exact ih (q + 1) fl' 1 (by omega) (by omega)
      · rw [if_neg c2, if_neg (by rw [lg_cmp_eq]; exact c2), vK, nI_1]
        exact ih (q + 1) fl' 0 (by omega) (by omega)
    · rw [if_neg c, if_neg c, vK, nI_1]
      exact ih (q + 1) fl' 1 (by omega) (by omega)
theorem drS_o (g : Nat) (h : g ≠ 7) (h2 : g ≠ 8) : (drS T it j).1 g = T.1 g := by
  unfold drS
  generalize dpR T it j j 0 (if T.2 16 (3 * it + j) = 72 then 1 else 0) = z
  split
  · rfl
  · exact flT_o h h2
theorem drL_o (g : Nat) (h : g ≠ 7) (h2 : g ≠ 8) : ∀ (k j : Nat) (T : gSt), (drL it k j T).1 g = T.1 g := by
  intro k
  induction k with
  | zero => intro j T; rfl
  | succ k ih =>
    intro j T
    rw [drL]
    split
    · rw [ih, drS_o g h h2]
    · rfl
theorem l_52 (hnf : 5000 ≤ nf) (hit : it < 24) (hr : r ≤ 3) : ∀ (k j fl : Nat) (T : gSt), j + k = r → k < fl → T.1 15 it = nI r → rl_Model_checkHead_52 (RR nf (d + 1)) nf fl T (nI it) (nI j) = rl_Model_checkHead_178 (RR nf (d + 1)) nf nf (sgS it (drL it k j T)) (nI it) 0 := by
  have zi : inb (nI it) 24 := nin (by omega) (by omega)
  have ci : (nI it).toNatClampNeg = it := nc (by omega)
  intro k
  induction k with
  | zero =>
    intro j fl T hj hf h15
    obtain ⟨fl', rfl⟩ : ∃ q, fl = q + 1 := ⟨fl - 1, by omega⟩
    obtain rfl : j = r := by omega
    rw [rl_Model_checkHead_52, gd, if_pos zi, ci, h15, if_pos (Int32.le_refl _), x_sg hnf hit hr h15, bis]
    rfl
  | succ k ih =>
    intro j fl T hj hf h15
    obtain ⟨fl', rfl⟩ : ∃ q, fl = q + 1 := ⟨fl - 1, by omega⟩
    have hlt : ¬ nI r ≤ nI j := fun q => by
      have := (nI_leI (by omega) (by omega)).mp q
      omega
    have z3 : inb (nI (3 * it + j)) 72 := nin (by omega) (by omega)
    have c3 : (nI (3 * it + j)).toNatClampNeg = 3 * it + j := nc (by omega)
    have i2 := ih (j + 1) fl' (drS T it j) (by omega) (by omega) (by rw [drS_o 15 (by omega) (by omega)]; exact h15)
    rw [rl_Model_checkHead_52, gd, if_pos zi, ci, h15, if_neg hlt, drL]
    by_cases c : T.1 7 0 = 0
    · rw [if_pos c, x_bd0 c, bis, if_pos rfl, e3i, gd, if_pos z3, c3]
      unfold drS at i2 ⊢
      by_cases c2 : T.2 16 (3 * it + j) = 72
      · rw [if_pos (by rw [lg_cmp_eq]; exact c2)]
        rw [if_pos c2] at i2 ⊢
        have l := l_96 (nf := nf) (d := d) (T := T) (j := j) (rec := rl_Model_checkHead_52 (RR nf (d + 1)) nf fl') hit (by omega) j 0 nf 1 (by omega) (by omega)
        rw [show nI 0 = (0 : Int32) from rfl] at l
        rw [l]
        exact i2
      · rw [if_neg (by rw [lg_cmp_eq]; exact c2)]
        rw [if_neg c2] at i2 ⊢
        have l := l_96 (nf := nf) (d := d) (T := T) (j := j) (rec := rl_Model_checkHead_52 (RR nf (d + 1)) nf fl') hit (by omega) j 0 nf 0 (by omega) (by omega)
        rw [show nI 0 = (0 : Int32) from rfl] at l
        rw [l]
        exact i2
    · rw [if_neg c, x_bd1 c, bis, if_neg (by decide), x_sg hnf hit hr h15, bis]
end HE
