/-! heads: the regions of an item are in sight -/
def sgL (it : Nat) : Nat → Nat → gSt → gSt
  | 0, _, T => T
  | k + 1, j, T => sgL it k (j + 1) (sI (sI (sJ T 72 j (T.2 16 (3 * it + j))) 73 j (nI (j + 1))) 71 0 (nI (j + 1)))
def sgS (it : Nat) (T : gSt) : gSt := sgL it (T.1 15 it).toNatClampNeg 0 (sI T 71 0 0)
section HD
variable {nf d : Nat} {T T' : gSt} {X : Lx} {it r k j : Nat}
theorem sgL_o (g : Nat) (h : g ≠ 73) (h2 : g ≠ 71) : ∀ (k j : Nat) (T : gSt), (sgL it k j T).1 g = T.1 g := by
  intro k
  induction k with
  | zero => intro j T; rfl
  | succ k ih =>
    intro j T
    rw [sgL, ih, sI_ne h2, sI_ne h, sJ_i]
theorem sgL_2 (g : Nat) (h : g ≠ 72) : ∀ (k j : Nat) (T : gSt), (sgL it k j T).2 g = T.2 g := by
  intro k
  induction k with
  | zero => intro j T; rfl
  | succ k ih =>
    intro j T
    rw [sgL, ih]
    show (sJ T 72 j (T.2 16 (3 * it + j))).2 g = T.2 g
    exact sJ_ne h
theorem sgL_n : ∀ (k j : Nat) (T : gSt), T.1 71 0 = nI j → (sgL it k j T).1 71 0 = nI (j + k) := by
  intro k
  induction k with
  | zero => intro j T h; exact h
  | succ k ih =>
    intro j T h
    rw [sgL, ih _ _ sI_v]
    rw [Nat.add_right_comm, Nat.add_assoc]
theorem sgL_73 : ∀ (k j : Nat) (T : gSt), (∀ q, q < j → T.1 73 q = nI (q + 1)) → ∀ q, q < j + k → (sgL it k j T).1 73 q = nI (q + 1) := by
  intro k
  induction k with
  | zero => intro j T h q hq; exact h q hq
  | succ k ih =>
    intro j T h q hq
    rw [sgL]
    refine ih (j + 1) _ (fun z hz => ?_) q (by omega)
    rw [sI_ne (by omega), sI_at, sJ_i]
    by_cases c : z = j
    · rw [c]; simp [upd]
    · have := h z (by omega)
      simp [upd, c, this]
theorem er_sgL : ∀ (k j : Nat) (T : gSt), er (sgL it k j T) = sgL it k j (er T) := by
  intro k
  induction k with
  | zero => intro j T; rfl
  | succ k ih =>
    intro j T
    rw [sgL, sgL, ih, er_w rfl, er_w rfl]
    rfl
theorem er_sg : er (sgS it T) = sgS it (er T) := by
  unfold sgS
  rw [er_sgL, er_w rfl]
  rfl
theorem sg_l (hit : it < 24) (hr : r ≤ 3) : ∀ (k j fl : Nat) (T : gSt), j + k = r → k < fl → T.1 15 it = nI r → T.1 71 0 = nI j → rl_Model_seeRegions_7 (RR nf d) nf fl T (nI it) (nI j) = some (0, 0, sgL it k j T) := by
  have zi : inb (nI it) 24 := nin (by omega) (by omega)
  have ci : (nI it).toNatClampNeg = it := nc (by omega)
  intro k
  induction k with
  | zero =>
    intro j fl T hj hf h15 _
    obtain ⟨fl', rfl⟩ : ∃ q, fl = q + 1 := ⟨fl - 1, by omega⟩
    obtain rfl : j = r := by omega
    rw [rl_Model_seeRegions_7, gd, if_pos zi, ci, h15, if_pos (Int32.le_refl _)]
    rfl
  | succ k ih =>
    intro j fl T hj hf h15 h71
    obtain ⟨fl', rfl⟩ : ∃ q, fl = q + 1 := ⟨fl - 1, by omega⟩
    have hlt : ¬ nI r ≤ nI j := fun q => by
      have := (nI_leI (by omega) (by omega)).mp q
      omega
    have e3 : (3 : Int32) * nI it + nI j = nI (3 * it + j) := by
      rw [show (3 : Int32) = nI 3 from rfl, nI_mul]
      exact (Int32.ofNat_add _ _).symm
    have z3 : inb (nI (3 * it + j)) 72 := nin (by omega) (by omega)
    have c3 : (nI (3 * it + j)).toNatClampNeg = 3 * it + j := nc (by omega)
    have zj : inb (nI j) 12 := nin (by omega) (by omega)
    have cj : (nI j).toNatClampNeg = j := nc (by omega)
    rw [rl_Model_seeRegions_7, gd, if_pos zi, ci, h15, if_neg hlt, e3, gd, if_pos z3, c3, gd, h71, if_pos zj, cj, stK]
    have k1 : (sJ T 72 j (T.2 16 (3 * it + j))).1 71 0 = nI j := by rw [sJ_i]; exact h71
    rw [gd, k1, if_pos zj, cj, stK, nI_1]
    have k2 : (sI (sJ T 72 j (T.2 16 (3 * it + j))) 73 j (nI (j + 1))).1 71 0 = nI j := by rw [sI_ne (by omega)]; exact k1
    rw [k2, stK, nI_1, vK, sgL]
    refine ih (j + 1) fl' _ (by omega) (by omega) ?_ sI_v
    rw [sI_ne (by omega), sI_ne (by omega), sJ_i]
    exact h15
theorem x_sg (hnf : 5000 ≤ nf) (hit : it < 24) (hr : r ≤ 3) (h15 : T.1 15 it = nI r) : RR nf (d + 1) 61 T [nI it] [] = some (0, 0, sgS it T) := by
  rw [e_Model_seeRegions]
  unfold rb_Model_seeRegions sgS
  rw [stK, h15, nc (by omega)]
  have := sg_l (nf := nf) (d := d) hit hr r 0 nf (sI T 71 0 0) (by omega) (by omega) (by rw [sI_ne (by omega)]; exact h15) (by rw [sI_v]; rfl)
  rw [show nI 0 = (0 : Int32) from rfl] at this
  exact this
end HD
