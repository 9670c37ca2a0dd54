/-! small questions to the list of types -/
section TQ
variable {nf d : Nat} {T : gSt} {n : Nat} {x y : Int32}
/-- a number of a type: none above 0 that isn't in the list -/
def tOk (n : Nat) (x : Int32) : Prop := x ≤ 0 ∨ ∃ p, x = nI p ∧ 1 ≤ p ∧ p < n
theorem tOk.inr (h : tOk n x) (hn : n ≤ 6000) (hx : ¬ x ≤ 0) : inb x 6000 := by
  rcases h with h | ⟨p, rfl, h1, h2⟩
  · exact absurd h hx
  · exact nin (by omega) (by omega)
theorem tOk.up {m : Nat} (h : tOk n x) (hm : n ≤ m) : tOk m x := by
  rcases h with h | ⟨p, e, h1, h2⟩
  · exact Or.inl h
  · exact Or.inr ⟨p, e, h1, by omega⟩
def isPt (T : gSt) (x : Int32) : Int32 := if x ≤ 0 then 0 else if 3 ≤ T.1 66 x.toNatClampNeg then 0 else 1
def isRo (T : gSt) (x : Int32) : Int32 := if x ≤ 0 then 0 else if T.1 66 x.toNatClampNeg = 3 then 1 else 0
def isTd (T : gSt) (x : Int32) : Int32 := if isPt T x = 0 then 0 else if T.1 69 x.toNatClampNeg < 0 then 0 else 1
def ptOf (x k : Int32) : Int32 := (x >>> ((10 * k) &&& 31)) &&& 1023
theorem x_part : RR nf (d + 1) 42 T [x, y] [] = some (ptOf x y, 0, T) := rfl
theorem x_isPt (h : tOk n x) (hn : n ≤ 6000) : RR nf (d + 1) 44 T [x] [] = some (isPt T x, 0, T) := by
  rw [e_Model_isPointer]
  unfold rb_Model_isPointer isPt
  by_cases hx : x ≤ 0
  · rw [if_pos hx, if_pos hx]
  · rw [if_neg hx, if_neg hx]
    simp only [gd, if_pos (tOk.inr h hn hx)]
    by_cases h3 : 3 ≤ T.1 66 x.toNatClampNeg
    · rw [if_pos h3, if_pos h3]
    · rw [if_neg h3, if_neg h3]
theorem x_isRo (h : tOk n x) (hn : n ≤ 6000) : RR nf (d + 1) 45 T [x] [] = some (isRo T x, 0, T) := by
  rw [e_Model_isRow]
  unfold rb_Model_isRow isRo
  by_cases hx : x ≤ 0
  · rw [if_pos hx, if_pos hx]
  · rw [if_neg hx, if_neg hx]
    simp only [gd, if_pos (tOk.inr h hn hx)]
    by_cases h3 : T.1 66 x.toNatClampNeg = 3
    · rw [if_pos h3, if_pos h3]
    · rw [if_neg h3, if_neg h3]
theorem isPt_pos (h : ¬ isPt T x = 0) : ¬ x ≤ 0 := fun hx => h (by unfold isPt; rw [if_pos hx])
theorem x_isTd (h : tOk n x) (hn : n ≤ 6000) : RR nf (d + 2) 46 T [x] [] = some (isTd T x, 0, T) := by
  rw [e_Model_isTitled nf (d + 1)]
  unfold rb_Model_isTitled isTd
  rw [x_isPt h hn]
  simp only [bi]
  by_cases h0 : isPt T x = 0
  · rw [if_pos h0, if_pos h0]
  · rw [if_neg h0, if_neg h0]
    simp only [gd, if_pos (tOk.inr h hn (isPt_pos h0))]
    by_cases h3 : T.1 69 x.toNatClampNeg < 0
    · rw [if_pos h3, if_pos h3]
    · rw [if_neg h3, if_neg h3]
def sameC (T : gSt) (x y : Int32) : Int32 := if T.1 68 x.toNatClampNeg = T.1 68 y.toNatClampNeg ∧ T.1 69 x.toNatClampNeg = T.1 69 y.toNatClampNeg ∧ T.1 70 x.toNatClampNeg = T.1 70 y.toNatClampNeg then 1 else 0
theorem x_sameC (h : inb x 6000) (h2 : inb y 6000) : RR nf (d + 1) 47 T [x, y] [] = some (sameC T x y, 0, T) := by
  rw [e_Model_sameCell]
  unfold rb_Model_sameCell sameC
  simp only [gd, if_pos h, if_pos h2]
  by_cases a1 : T.1 68 x.toNatClampNeg = T.1 68 y.toNatClampNeg
  · rw [if_pos a1]
    by_cases a2 : T.1 69 x.toNatClampNeg = T.1 69 y.toNatClampNeg
    · rw [if_pos a2]
      by_cases a3 : T.1 70 x.toNatClampNeg = T.1 70 y.toNatClampNeg
      · rw [if_pos a3, if_pos ⟨a1, a2, a3⟩]
      · rw [if_neg a3, if_neg (fun q => a3 q.2.2)]
    · rw [if_neg a2, if_neg (fun q => a2 q.2.1)]
  · rw [if_neg a1, if_neg (fun q => a1 q.1)]
end TQ
