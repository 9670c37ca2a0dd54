/-! instructions and the types of what they find and leave -/
/-- row p of the list of types: a pointer or ROW -/
def rowP (Sf : gSt) (x : Int32) (p : Nat) : Prop := x = nI p ∧ 1 ≤ p ∧ p < cn Sf
/-- a value of type x may go where y is wanted -/
def fitT (Sf S : gSt) (x y : Int32) : Prop := (x = 0 ∧ y = 0) ∨ (x = -2 ∧ ∃ q, rowP Sf y q ∧ Sf.1 66 q = 2) ∨ ∃ p q, rowP Sf x p ∧ rowP Sf y q ∧ (Sf.1 66 p = Sf.1 66 q ∨ (Sf.1 66 p = 1 ∧ Sf.1 66 q = 2)) ∧ Sf.1 68 p = Sf.1 68 q ∧ Sf.1 69 p = Sf.1 69 q ∧ Sf.1 70 p = Sf.1 70 q ∧ ¬ dOv S (Sf.1 67 p) (Sf.1 67 q) = 0
/-- .. where a type is wanted that depends on the REGIONS -/
def FtG (Sf S : gSt) (x : Int32) (F : (Nat → Nat) → List Nat) : Prop := ∃ y, tV Sf y ∧ fitT Sf S x y ∧ ∀ ρ, gty Sf ρ y = F ρ
/-- arguments for the parts of item t, from the last one down -/
def AgT (Sf S : gSt) (c : Nat) (w : Int32) (ts : List Int32) : Prop := ∀ q, q < ts.length → FtG Sf S (ts.getD q 0) (fun ρ => gty Sf (chρ ρ w) (Sf.1 24 (c + q)))
/-- a new type: pointer to CELL x -/
def newP (Sf : gSt) (x : Int32) (z : T5) : Prop := ∃ q, rowP Sf x q ∧ rwT Sf q = z
/-- a part of an item: number f of those from c on -/
def fldP (Sf : gSt) (t f c : Nat) : Prop := ∃ m, Sf.1 18 t = nI c ∧ Sf.1 19 t = nI m ∧ f < m ∧ c + m ≤ 220 ∧ m ≤ 8
/-- a pointer through which a field is asked for: type p, item t -/
def thrP (Sf S : gSt) (x : Int32) (p t : Nat) : Prop := rowP Sf x p ∧ (Sf.1 66 p = 1 ∨ Sf.1 66 p = 2) ∧ Sf.1 69 p = nI t ∧ t < inn Sf ∧ ¬ isLv S (Sf.1 67 p) = 0
/-- a pointer to a CELL without a title -/
def celP (Sf S : gSt) (x : Int32) (p : Nat) : Prop := rowP Sf x p ∧ (Sf.1 66 p = 1 ∨ Sf.1 66 p = 2) ∧ Sf.1 69 p < 0 ∧ ¬ isLv S (Sf.1 67 p) = 0
def rwP (Sf S : gSt) (x : Int32) (p : Nat) : Prop := rowP Sf x p ∧ Sf.1 66 p = 3 ∧ Sf.1 69 p < 0 ∧ ¬ isLv S (Sf.1 67 p) = 0
def lvR (S : gSt) (r : Int32) : Prop := rC2 r ∧ ¬ isLv S r = 0
/-- a REGION in sight -/
def sght (S : gSt) (c : Nat) : Prop := c = 0 ∨ (c < 12 ∧ ∃ k, k < rn S ∧ S.1 73 k = nI c)
/-- e REGIONS, all in sight -/
def sgW (S : gSt) (w : Int32) (e : Nat) : Prop := ∀ k, k < e → ∃ c, ptOf w (nI k) = nI c ∧ sght S c
/-- a VAR in sight that has a value: row u, slot s -/
def vaP (S : gSt) (u s : Nat) : Prop := u < vn S ∧ S.1 79 u = nI s ∧ s < 20 ∧ fi (S.1 81 0) s = true ∧ u < 20
/-- what instruction j finds on the stack (the last one first) and what it leaves -/
def tyJ (Sf S : gSt) (j : T5) (st st' : List Int32) : Prop :=
  if j.1 = 1 ∨ j.1 = 3 then st' = 0 :: st
  else if j.1 = 2 then st' = -2 :: st
  else if j.1 = 4 then st' = 0 :: st ∧ j.2.1 = S.1 87 0 ∧ ¬ S.1 87 0 = 0
  else if j.1 = 5 then st' = j.2.2.1 :: st ∧ ∃ u s, vaP S u s ∧ j.2.1 = nI s ∧ (j.2.2.1 = S.1 80 u ∨ (fi (S.1 82 0) s = true ∧ ∃ p, rowP Sf (S.1 80 u) p ∧ Sf.1 66 p = 2 ∧ newP Sf j.2.2.1 (1, Sf.1 67 p, Sf.1 68 p, Sf.1 69 p, Sf.1 70 p)))
  else if j.1 = 6 then ∃ s0 p t f c, st = j.2.2.1 :: s0 ∧ st' = j.2.2.2.1 :: s0 ∧ thrP Sf S j.2.2.1 p t ∧ j.2.1 = nI f ∧ fldP Sf t f c ∧ tV Sf j.2.2.2.1 ∧ ∀ ρ, gty Sf ρ j.2.2.2.1 = gty Sf (chρ ρ (Sf.1 70 p)) (Sf.1 24 (c + f))
  else if j.1 = 7 then ∃ s0 p t f c, st = j.2.2.1 :: s0 ∧ st' = j.2.2.2.2 :: s0 ∧ thrP Sf S j.2.2.1 p t ∧ ¬ Sf.1 12 t = 1 ∧ j.2.1 = nI f ∧ fldP Sf t f c ∧ tV Sf j.2.2.2.1 ∧ (∀ ρ, gty Sf ρ j.2.2.2.1 = gty Sf (chρ ρ (Sf.1 70 p)) (Sf.1 24 (c + f))) ∧ newP Sf j.2.2.2.2 (1, Sf.1 67 p, j.2.2.2.1, -1, 0)
  else if j.1 = 8 then ∃ s0 p, st = 0 :: j.2.1 :: s0 ∧ st' = j.2.2.1 :: s0 ∧ rwP Sf S j.2.1 p ∧ j.2.2.1 = Sf.1 68 p
  else if j.1 = 9 then ∃ s0 p, st = 0 :: j.2.2.1 :: s0 ∧ st' = j.2.2.2.2 :: s0 ∧ rwP Sf S j.2.2.1 p ∧ j.2.2.2.1 = Sf.1 68 p ∧ newP Sf j.2.2.2.2 (1, Sf.1 67 p, Sf.1 68 p, -1, 0)
  else if j.1 = 10 then ∃ s0 p, st = j.2.2.1 :: s0 ∧ st' = j.2.2.2.1 :: s0 ∧ celP Sf S j.2.2.1 p ∧ j.2.2.2.1 = Sf.1 68 p
  else if j.1 = 11 then ∃ s0 p t f c, st = j.2.2.1 :: s0 ∧ st' = 0 :: s0 ∧ thrP Sf S j.2.2.1 p t ∧ Sf.1 12 t = 1 ∧ j.2.1 = nI f ∧ fldP Sf t f c
  else if j.1 = 12 then ∃ s0 p, st = j.2.1 :: s0 ∧ st' = j.2.2.1 :: s0 ∧ rowP Sf j.2.1 p ∧ (Sf.1 66 p = 1 ∨ Sf.1 66 p = 2) ∧ newP Sf j.2.2.1 (1, Sf.1 67 p, Sf.1 68 p, Sf.1 69 p, Sf.1 70 p)
  else if j.1 = 13 then ∃ s0 p, st = j.2.1 :: s0 ∧ st' = 0 :: s0 ∧ rowP Sf j.2.1 p ∧ Sf.1 66 p = 3
  else if j.1 = 14 then ∃ s0, st = j.2.2.1 :: s0 ∧ st' = j.2.2.2.1 :: s0 ∧ tV Sf j.2.2.1 ∧ lvR S j.2.1 ∧ newP Sf j.2.2.2.1 (1, j.2.1, j.2.2.1, -1, 0)
  else if j.1 = 15 then ∃ s0, st = j.2.2.1 :: 0 :: s0 ∧ st' = j.2.2.2.1 :: s0 ∧ tV Sf j.2.2.1 ∧ lvR S j.2.1 ∧ newP Sf j.2.2.2.1 (3, j.2.1, j.2.2.1, -1, 0)
  else if j.1 = 16 then ∃ s0 ts t w c e, st = ts.reverse ++ s0 ∧ st' = j.2.2.1 :: s0 ∧ lvR S j.2.1 ∧ newP Sf j.2.2.1 (1, j.2.1, -1, nI t, w) ∧ t < inn Sf ∧ PK w 3 ∧ (Sf.1 15 t = nI e ∧ e ≤ 3 ∧ sgW S w e) ∧ Sf.1 12 t = 0 ∧ Sf.1 18 t = nI c ∧ Sf.1 19 t = nI ts.length ∧ (ts.length ≤ 8 ∧ c < 1000) ∧ AgT Sf S c w ts
  else if j.1 = 17 then ∃ s0 x t w f c e, st = x :: s0 ∧ st' = j.2.2.1 :: s0 ∧ lvR S j.2.1 ∧ newP Sf j.2.2.1 (1, j.2.1, -1, nI t, w) ∧ t < inn Sf ∧ PK w 3 ∧ (Sf.1 15 t = nI e ∧ e ≤ 3 ∧ sgW S w e) ∧ Sf.1 12 t = 1 ∧ j.2.2.2.1 = nI f ∧ fldP Sf t f c ∧ FtG Sf S x (fun ρ => gty Sf (chρ ρ w) (Sf.1 24 (c + f)))
  else if j.1 = 18 then ∃ s0 ts t c e, st = ts.reverse ++ s0 ∧ st' = (if j.2.2.2.1 = -1 then s0 else j.2.2.2.1 :: s0) ∧ j.2.1 = nI t ∧ t < inn Sf ∧ Sf.1 12 t = 2 ∧ PK j.2.2.1 3 ∧ sgW S j.2.2.1 e ∧ j.2.2.2.2 = nI e ∧ e ≤ 3 ∧ Sf.1 15 t = nI e ∧ Sf.1 18 t = nI c ∧ Sf.1 19 t = nI ts.length ∧ (ts.length ≤ 8 ∧ c < 1000) ∧ AgT Sf S c j.2.2.1 ts ∧ (∀ k, k < e → fi (Sf.1 30 t) (k + 1) = false → ¬ isLv S (ptOf j.2.2.1 (nI k)) = 0) ∧ (∀ k, k < (Sf.1 31 t).toNatClampNeg → ¬ dOv S (ptOf j.2.2.1 (roI Sf t (Sf.2 32 (6 * t + 2 * k)) - 1)) (ptOf j.2.2.1 (roI Sf t (Sf.2 32 (6 * t + 2 * k + 1)) - 1)) = 0) ∧ (if 0 ≤ Sf.1 25 t then tV Sf j.2.2.2.1 ∧ ∀ ρ, gty Sf ρ j.2.2.2.1 = gty Sf (chρ ρ j.2.2.1) (Sf.1 26 t) else j.2.2.2.1 = -1)
  else j.1 = 19 ∧ ∃ s0, st = j.2.2.2.1 :: j.2.2.1 :: s0 ∧ st' = j.2.2.2.2 :: s0 ∧ ((j.2.2.2.2 = j.2.2.1 ∧ j.2.2.2.1 = 0 ∧ ∃ p, rowP Sf j.2.2.1 p ∧ Sf.1 66 p = 3) ∨ (j.2.1 = 256 ∧ j.2.2.2.2 = 0 ∧ (j.2.2.1 = -2 ∨ ∃ p, rowP Sf j.2.2.1 p ∧ (Sf.1 66 p = 1 ∨ Sf.1 66 p = 2)) ∧ (j.2.2.2.1 = -2 ∨ ∃ p, rowP Sf j.2.2.2.1 p ∧ (Sf.1 66 p = 1 ∨ Sf.1 66 p = 2)) ∧ (∀ p q, rowP Sf j.2.2.1 p → rowP Sf j.2.2.2.1 q → Sf.1 68 p = Sf.1 68 q ∧ Sf.1 69 p = Sf.1 69 q ∧ Sf.1 70 p = Sf.1 70 q ∧ ¬ isLv S (Sf.1 67 p) = 0 ∧ ¬ isLv S (Sf.1 67 q) = 0)) ∨ (j.2.2.2.2 = 0 ∧ j.2.2.1 = 0 ∧ j.2.2.2.1 = 0))
section TYQ
variable {S Sf : gSt} {j : T5} {st st' : List Int32}
theorem tyJ_1 (h : j.1 = 1 ∨ j.1 = 3) : tyJ Sf S j st st' = (st' = 0 :: st) := by
  unfold tyJ
  rw [if_pos h]
theorem tyJ_2 (h : j.1 = 2) : tyJ Sf S j st st' = (st' = -2 :: st) := by
  unfold tyJ
  rw [if_neg (by rw [h]; decide), if_pos h]
theorem tyJ_4 (h : j.1 = 4) : tyJ Sf S j st st' = (st' = 0 :: st ∧ j.2.1 = S.1 87 0 ∧ ¬ S.1 87 0 = 0) := by
  unfold tyJ
  rw [if_neg (by rw [h]; decide), if_neg (by rw [h]; decide), if_pos h]
theorem tyJ_5 (h : j.1 = 5) : tyJ Sf S j st st' = (st' = j.2.2.1 :: st ∧ ∃ u s, vaP S u s ∧ j.2.1 = nI s ∧ (j.2.2.1 = S.1 80 u ∨ (fi (S.1 82 0) s = true ∧ ∃ p, rowP Sf (S.1 80 u) p ∧ Sf.1 66 p = 2 ∧ newP Sf j.2.2.1 (1, Sf.1 67 p, Sf.1 68 p, Sf.1 69 p, Sf.1 70 p)))) := by
  unfold tyJ
  rw [if_neg (by rw [h]; decide), if_neg (by rw [h]; decide), if_neg (by rw [h]; decide), if_pos h]
theorem tyJ_6 (h : j.1 = 6) : tyJ Sf S j st st' = (∃ s0 p t f c, st = j.2.2.1 :: s0 ∧ st' = j.2.2.2.1 :: s0 ∧ thrP Sf S j.2.2.1 p t ∧ j.2.1 = nI f ∧ fldP Sf t f c ∧ tV Sf j.2.2.2.1 ∧ ∀ ρ, gty Sf ρ j.2.2.2.1 = gty Sf (chρ ρ (Sf.1 70 p)) (Sf.1 24 (c + f))) := by
  unfold tyJ
  rw [if_neg (by rw [h]; decide), if_neg (by rw [h]; decide), if_neg (by rw [h]; decide), if_neg (by rw [h]; decide), if_pos h]
theorem tyJ_7 (h : j.1 = 7) : tyJ Sf S j st st' = (∃ s0 p t f c, st = j.2.2.1 :: s0 ∧ st' = j.2.2.2.2 :: s0 ∧ thrP Sf S j.2.2.1 p t ∧ ¬ Sf.1 12 t = 1 ∧ j.2.1 = nI f ∧ fldP Sf t f c ∧ tV Sf j.2.2.2.1 ∧ (∀ ρ, gty Sf ρ j.2.2.2.1 = gty Sf (chρ ρ (Sf.1 70 p)) (Sf.1 24 (c + f))) ∧ newP Sf j.2.2.2.2 (1, Sf.1 67 p, j.2.2.2.1, -1, 0)) := by
  unfold tyJ
  rw [if_neg (by rw [h]; decide), if_neg (by rw [h]; decide), if_neg (by rw [h]; decide), if_neg (by rw [h]; decide), if_neg (by rw [h]; decide), if_pos h]
theorem tyJ_8 (h : j.1 = 8) : tyJ Sf S j st st' = (∃ s0 p, st = 0 :: j.2.1 :: s0 ∧ st' = j.2.2.1 :: s0 ∧ rwP Sf S j.2.1 p ∧ j.2.2.1 = Sf.1 68 p) := by
  unfold tyJ
  rw [if_neg (by rw [h]; decide), if_neg (by rw [h]; decide), if_neg (by rw [h]; decide), if_neg (by rw [h]; decide), if_neg (by rw [h]; decide), if_neg (by rw [h]; decide), if_pos h]
theorem tyJ_9 (h : j.1 = 9) : tyJ Sf S j st st' = (∃ s0 p, st = 0 :: j.2.2.1 :: s0 ∧ st' = j.2.2.2.2 :: s0 ∧ rwP Sf S j.2.2.1 p ∧ j.2.2.2.1 = Sf.1 68 p ∧ newP Sf j.2.2.2.2 (1, Sf.1 67 p, Sf.1 68 p, -1, 0)) := by
  unfold tyJ
  rw [if_neg (by rw [h]; decide), if_neg (by rw [h]; decide), if_neg (by rw [h]; decide), if_neg (by rw [h]; decide), if_neg (by rw [h]; decide), if_neg (by rw [h]; decide), if_neg (by rw [h]; decide), if_pos h]
theorem tyJ_10 (h : j.1 = 10) : tyJ Sf S j st st' = (∃ s0 p, st = j.2.2.1 :: s0 ∧ st' = j.2.2.2.1 :: s0 ∧ celP Sf S j.2.2.1 p ∧ j.2.2.2.1 = Sf.1 68 p) := by
  unfold tyJ
  rw [if_neg (by rw [h]; decide), if_neg (by rw [h]; decide), if_neg (by rw [h]; decide), if_neg (by rw [h]; decide), if_neg (by rw [h]; decide), if_neg (by rw [h]; decide), if_neg (by rw [h]; decide), if_neg (by rw [h]; decide), if_pos h]
theorem tyJ_11 (h : j.1 = 11) : tyJ Sf S j st st' = (∃ s0 p t f c, st = j.2.2.1 :: s0 ∧ st' = 0 :: s0 ∧ thrP Sf S j.2.2.1 p t ∧ Sf.1 12 t = 1 ∧ j.2.1 = nI f ∧ fldP Sf t f c) := by
  unfold tyJ
  rw [if_neg (by rw [h]; decide), if_neg (by rw [h]; decide), if_neg (by rw [h]; decide), if_neg (by rw [h]; decide), if_neg (by rw [h]; decide), if_neg (by rw [h]; decide), if_neg (by rw [h]; decide), if_neg (by rw [h]; decide), if_neg (by rw [h]; decide), if_pos h]
theorem tyJ_12 (h : j.1 = 12) : tyJ Sf S j st st' = (∃ s0 p, st = j.2.1 :: s0 ∧ st' = j.2.2.1 :: s0 ∧ rowP Sf j.2.1 p ∧ (Sf.1 66 p = 1 ∨ Sf.1 66 p = 2) ∧ newP Sf j.2.2.1 (1, Sf.1 67 p, Sf.1 68 p, Sf.1 69 p, Sf.1 70 p)) := by
  unfold tyJ
  rw [if_neg (by rw [h]; decide), if_neg (by rw [h]; decide), if_neg (by rw [h]; decide), if_neg (by rw [h]; decide), if_neg (by rw [h]; decide), if_neg (by rw [h]; decide), if_neg (by rw [h]; decide), if_neg (by rw [h]; decide), if_neg (by rw [h]; decide), if_neg (by rw [h]; decide), if_pos h]
theorem tyJ_13 (h : j.1 = 13) : tyJ Sf S j st st' = (∃ s0 p, st = j.2.1 :: s0 ∧ st' = 0 :: s0 ∧ rowP Sf j.2.1 p ∧ Sf.1 66 p = 3) := by
  unfold tyJ
  rw [if_neg (by rw [h]; decide), if_neg (by rw [h]; decide), if_neg (by rw [h]; decide), if_neg (by rw [h]; decide), if_neg (by rw [h]; decide), if_neg (by rw [h]; decide), if_neg (by rw [h]; decide), if_neg (by rw [h]; decide), if_neg (by rw [h]; decide), if_neg (by rw [h]; decide), if_neg (by rw [h]; decide), if_pos h]
theorem tyJ_14 (h : j.1 = 14) : tyJ Sf S j st st' = (∃ s0, st = j.2.2.1 :: s0 ∧ st' = j.2.2.2.1 :: s0 ∧ tV Sf j.2.2.1 ∧ lvR S j.2.1 ∧ newP Sf j.2.2.2.1 (1, j.2.1, j.2.2.1, -1, 0)) := by
  unfold tyJ
  rw [if_neg (by rw [h]; decide), if_neg (by rw [h]; decide), if_neg (by rw [h]; decide), if_neg (by rw [h]; decide), if_neg (by rw [h]; decide), if_neg (by rw [h]; decide), if_neg (by rw [h]; decide), if_neg (by rw [h]; decide), if_neg (by rw [h]; decide), if_neg (by rw [h]; decide), if_neg (by rw [h]; decide), if_neg (by rw [h]; decide), if_pos h]
theorem tyJ_15 (h : j.1 = 15) : tyJ Sf S j st st' = (∃ s0, st = j.2.2.1 :: 0 :: s0 ∧ st' = j.2.2.2.1 :: s0 ∧ tV Sf j.2.2.1 ∧ lvR S j.2.1 ∧ newP Sf j.2.2.2.1 (3, j.2.1, j.2.2.1, -1, 0)) := by
  unfold tyJ
  rw [if_neg (by rw [h]; decide), if_neg (by rw [h]; decide), if_neg (by rw [h]; decide), if_neg (by rw [h]; decide), if_neg (by rw [h]; decide), if_neg (by rw [h]; decide), if_neg (by rw [h]; decide), if_neg (by rw [h]; decide), if_neg (by rw [h]; decide), if_neg (by rw [h]; decide), if_neg (by rw [h]; decide), if_neg (by rw [h]; decide), if_neg (by rw [h]; decide), if_pos h]
theorem tyJ_16 (h : j.1 = 16) : tyJ Sf S j st st' = (∃ s0 ts t w c e, st = ts.reverse ++ s0 ∧ st' = j.2.2.1 :: s0 ∧ lvR S j.2.1 ∧ newP Sf j.2.2.1 (1, j.2.1, -1, nI t, w) ∧ t < inn Sf ∧ PK w 3 ∧ (Sf.1 15 t = nI e ∧ e ≤ 3 ∧ sgW S w e) ∧ Sf.1 12 t = 0 ∧ Sf.1 18 t = nI c ∧ Sf.1 19 t = nI ts.length ∧ (ts.length ≤ 8 ∧ c < 1000) ∧ AgT Sf S c w ts) := by
  unfold tyJ
  rw [if_neg (by rw [h]; decide), if_neg (by rw [h]; decide), if_neg (by rw [h]; decide), if_neg (by rw [h]; decide), if_neg (by rw [h]; decide), if_neg (by rw [h]; decide), if_neg (by rw [h]; decide), if_neg (by rw [h]; decide), if_neg (by rw [h]; decide), if_neg (by rw [h]; decide), if_neg (by rw [h]; decide), if_neg (by rw [h]; decide), if_neg (by rw [h]; decide), if_neg (by rw [h]; decide), if_pos h]
theorem tyJ_17 (h : j.1 = 17) : tyJ Sf S j st st' = (∃ s0 x t w f c e, st = x :: s0 ∧ st' = j.2.2.1 :: s0 ∧ lvR S j.2.1 ∧ newP Sf j.2.2.1 (1, j.2.1, -1, nI t, w) ∧ t < inn Sf ∧ PK w 3 ∧ (Sf.1 15 t = nI e ∧ e ≤ 3 ∧ sgW S w e) ∧ Sf.1 12 t = 1 ∧ j.2.2.2.1 = nI f ∧ fldP Sf t f c ∧ FtG Sf S x (fun ρ => gty Sf (chρ ρ w) (Sf.1 24 (c + f)))) := by
  unfold tyJ
  rw [if_neg (by rw [h]; decide), if_neg (by rw [h]; decide), if_neg (by rw [h]; decide), if_neg (by rw [h]; decide), if_neg (by rw [h]; decide), if_neg (by rw [h]; decide), if_neg (by rw [h]; decide), if_neg (by rw [h]; decide), if_neg (by rw [h]; decide), if_neg (by rw [h]; decide), if_neg (by rw [h]; decide), if_neg (by rw [h]; decide), if_neg (by rw [h]; decide), if_neg (by rw [h]; decide), if_neg (by rw [h]; decide), if_pos h]
theorem tyJ_18 (h : j.1 = 18) : tyJ Sf S j st st' = (∃ s0 ts t c e, st = ts.reverse ++ s0 ∧ st' = (if j.2.2.2.1 = -1 then s0 else j.2.2.2.1 :: s0) ∧ j.2.1 = nI t ∧ t < inn Sf ∧ Sf.1 12 t = 2 ∧ PK j.2.2.1 3 ∧ sgW S j.2.2.1 e ∧ j.2.2.2.2 = nI e ∧ e ≤ 3 ∧ Sf.1 15 t = nI e ∧ Sf.1 18 t = nI c ∧ Sf.1 19 t = nI ts.length ∧ (ts.length ≤ 8 ∧ c < 1000) ∧ AgT Sf S c j.2.2.1 ts ∧ (∀ k, k < e → fi (Sf.1 30 t) (k + 1) = false → ¬ isLv S (ptOf j.2.2.1 (nI k)) = 0) ∧ (∀ k, k < (Sf.1 31 t).toNatClampNeg → ¬ dOv S (ptOf j.2.2.1 (roI Sf t (Sf.2 32 (6 * t + 2 * k)) - 1)) (ptOf j.2.2.1 (roI Sf t (Sf.2 32 (6 * t + 2 * k + 1)) - 1)) = 0) ∧ (if 0 ≤ Sf.1 25 t then tV Sf j.2.2.2.1 ∧ ∀ ρ, gty Sf ρ j.2.2.2.1 = gty Sf (chρ ρ j.2.2.1) (Sf.1 26 t) else j.2.2.2.1 = -1)) := by
  unfold tyJ
  rw [if_neg (by rw [h]; decide), if_neg (by rw [h]; decide), if_neg (by rw [h]; decide), if_neg (by rw [h]; decide), if_neg (by rw [h]; decide), if_neg (by rw [h]; decide), if_neg (by rw [h]; decide), if_neg (by rw [h]; decide), if_neg (by rw [h]; decide), if_neg (by rw [h]; decide), if_neg (by rw [h]; decide), if_neg (by rw [h]; decide), if_neg (by rw [h]; decide), if_neg (by rw [h]; decide), if_neg (by rw [h]; decide), if_neg (by rw [h]; decide), if_pos h]
theorem tyJ_19 (h : j.1 = 19) : tyJ Sf S j st st' = (∃ s0, st = j.2.2.2.1 :: j.2.2.1 :: s0 ∧ st' = j.2.2.2.2 :: s0 ∧ ((j.2.2.2.2 = j.2.2.1 ∧ j.2.2.2.1 = 0 ∧ ∃ p, rowP Sf j.2.2.1 p ∧ Sf.1 66 p = 3) ∨ (j.2.1 = 256 ∧ j.2.2.2.2 = 0 ∧ (j.2.2.1 = -2 ∨ ∃ p, rowP Sf j.2.2.1 p ∧ (Sf.1 66 p = 1 ∨ Sf.1 66 p = 2)) ∧ (j.2.2.2.1 = -2 ∨ ∃ p, rowP Sf j.2.2.2.1 p ∧ (Sf.1 66 p = 1 ∨ Sf.1 66 p = 2)) ∧ (∀ p q, rowP Sf j.2.2.1 p → rowP Sf j.2.2.2.1 q → Sf.1 68 p = Sf.1 68 q ∧ Sf.1 69 p = Sf.1 69 q ∧ Sf.1 70 p = Sf.1 70 q ∧ ¬ isLv S (Sf.1 67 p) = 0 ∧ ¬ isLv S (Sf.1 67 q) = 0)) ∨ (j.2.2.2.2 = 0 ∧ j.2.2.1 = 0 ∧ j.2.2.2.1 = 0))) := by
  unfold tyJ
  rw [if_neg (by rw [h]; decide), if_neg (by rw [h]; decide), if_neg (by rw [h]; decide), if_neg (by rw [h]; decide), if_neg (by rw [h]; decide), if_neg (by rw [h]; decide), if_neg (by rw [h]; decide), if_neg (by rw [h]; decide), if_neg (by rw [h]; decide), if_neg (by rw [h]; decide), if_neg (by rw [h]; decide), if_neg (by rw [h]; decide), if_neg (by rw [h]; decide), if_neg (by rw [h]; decide), if_neg (by rw [h]; decide), if_neg (by rw [h]; decide), if_neg (by rw [h]; decide)]
  exact propext ⟨fun w => w.2, fun w => ⟨h, w⟩⟩
end TYQ
/-- how many words lie on the stack -/
def wsl (Sf : gSt) : List Int32 → Nat
  | [] => 0
  | x :: l => wS Sf x + wsl Sf l
/-- a row of instructions, with at most B words and L values on the stack -/
def TyL (Sf S : gSt) (B L : Nat) : List T5 → List Int32 → List Int32 → Prop
  | [], st, st' => st' = st
  | j :: ks, st, st' => ∃ s1, tyJ Sf S j st s1 ∧ wsl Sf s1 ≤ B ∧ s1.length ≤ L ∧ TyL Sf S B L ks s1 st'
def psh (x : Int32) (st : List Int32) : List Int32 := if x = -1 then st else x :: st
section TJ0
variable {S Sf T T' T1 : gSt} {X : Lx} {p q k m n t u c e f s B L : Nat} {x y w r : Int32} {st s0 s1 s2 : List Int32} {js ks : List T5} {j z : T5} {ρ : Nat → Nat}
theorem TyL.ap : ∀ (ks l2 : List T5) (st s1 s2 : List Int32), TyL Sf S B L ks st s1 → TyL Sf S B L l2 s1 s2 → TyL Sf S B L (ks ++ l2) st s2 := by
  intro ks
  induction ks with
  | nil => intro l2 st s1 s2 h h2; rw [show s1 = st from h] at h2; exact h2
  | cons j ks ih =>
    intro l2 st s1 s2 h h2
    obtain ⟨a, b1, b2, b3, b4⟩ := h
    exact ⟨a, b1, b2, b3, ih l2 a s1 s2 b4 h2⟩
theorem TyL.one (h : tyJ Sf S j st s1) (h1 : wsl Sf s1 ≤ B) (h2 : s1.length ≤ L) : TyL Sf S B L [j] st s1 := ⟨s1, h, h1, h2, rfl⟩
theorem wS_3 : wS S x ≤ 3 := by unfold wS; split <;> omega
theorem wS_1 : 1 ≤ wS S x := by unfold wS; split <;> omega
theorem wsl_ap : ∀ (a b : List Int32), wsl Sf (a ++ b) = wsl Sf a + wsl Sf b := by
  intro a
  induction a with
  | nil => intro b; show wsl Sf b = 0 + wsl Sf b; omega
  | cons x a ih => intro b; show wS Sf x + wsl Sf (a ++ b) = wS Sf x + wsl Sf a + wsl Sf b; rw [ih]; omega
theorem wsl_le : ∀ (a : List Int32), wsl Sf a ≤ 3 * a.length := by
  intro a
  induction a with
  | nil => exact Nat.le_refl _
  | cons x a ih => rw [List.length_cons]; have := wS_3 (S := Sf) (x := x); show wS Sf x + wsl Sf a ≤ _; omega
theorem FW.row (h : FW T Sf) (g : Tg T) (c : cn Sf < 6000) (hp : p < cn T) : rwT Sf p = rwT T p := (h.2.1 g).2.2 c p hp
theorem FW.cnle (h : FW T Sf) (g : Tg T) : cn T ≤ cn Sf := (h.2.1 g).2.1
theorem FE.fw (h : FE T T') : FW T T' := (FS.fe h).fw
theorem FW.tv (h : FW T Sf) (g : Tg T) (hv : tV T x) : tV Sf x := hv.up (h.cnle g)
theorem rowP.up (h : FW T Sf) (g : Tg T) (hv : rowP T x p) : rowP Sf x p := ⟨hv.1, hv.2.1, Nat.lt_of_lt_of_le hv.2.2 (h.cnle g)⟩
theorem tV.row (h : tV T x) : x = 0 ∨ ∃ p, rowP T x p := by
  rcases h with h | ⟨p, h⟩
  · exact Or.inl h
  · exact Or.inr ⟨p, h⟩
theorem isLv_fe (h : FE S T) : isLv T r = isLv S r := by
  unfold isLv
  rw [h.1 75 (by omega)]
theorem inC_fe (h : FE S T) : ∀ (n : Nat) (y : Int32), inC T r n y = inC S r n y := by
  intro n
  induction n with
  | zero => intro y; rfl
  | succ n ih =>
    intro y
    unfold inC
    simp only [ih, h.1 74 (by omega)]
theorem dOv_fe (h : FE S T) : dOv T r x = dOv S r x := by
  unfold dOv
  rw [isLv_fe h, h.1 76 (by omega), h.1 74 (by omega), inC_fe h]
theorem row66 (h : Rws T) (hp : rowP T x p) : T.1 66 p = 1 ∨ T.1 66 p = 2 ∨ T.1 66 p = 3 := (h p hp.2.1 hp.2.2).1
theorem rowP.cl (h : rowP T x p) (hc : cn T ≤ 6000) : x.toNatClampNeg = p := by
  have := h.2.2
  rw [h.1, nc (by omega)]
theorem rowP.np (h : rowP T x p) (hc : cn T ≤ 6000) : ¬ x ≤ 0 := by
  have := h.2.2
  rw [h.1]
  exact nI_np (by omega) h.2.1
/-- what the check of a fit tells -/
theorem mf_fit (hc : cn Sf < 6000) (g : Tg T) (hF : FW T Sf) (hE : FE S T) (hR : Rws T) (hx : tR T x) (hy : tV T y) (h : mfI T x y ≤ 0) : fitT Sf S x y := by
  have h6 : cn T < 6000 := hF.lt g hc
  unfold mfI at h
  by_cases c1 : x = 0 ∨ y = 0
  · rw [if_pos c1] at h
    by_cases c2 : x = y
    · left
      rcases c1 with c1 | c1
      · exact ⟨c1, by rw [← c2]; exact c1⟩
      · exact ⟨by rw [c2]; exact c1, c1⟩
    · rw [if_neg c2] at h
      exact absurd h (by decide)
  rw [if_neg c1] at h
  obtain ⟨q, hq⟩ := (tV.row hy).resolve_left (fun e => c1 (Or.inr e))
  have eq := hq.cl (by omega)
  rw [eq] at h
  obtain ⟨r1, r2, r3, r4, r5⟩ := row5 (hF.row g hc hq.2.2)
  by_cases c2 : x = -2
  · rw [if_pos c2] at h
    by_cases c3 : T.1 66 q = 2
    · exact Or.inr (Or.inl ⟨c2, q, hq.up hF g, by rw [r1]; exact c3⟩)
    · rw [if_neg c3] at h
      exact absurd h (by decide)
  rw [if_neg c2] at h
  by_cases c3 : x = -1
  · rw [if_pos c3] at h
    exact absurd h (by decide)
  rw [if_neg c3] at h
  have hx' : ∃ p, rowP T x p := by
    rcases hx with e | e | e | e
    · exact absurd e c3
    · exact absurd e c2
    · exact absurd e (fun w => c1 (Or.inl w))
    · exact e
  obtain ⟨p, hp⟩ := hx'
  have ep := hp.cl (by omega)
  rw [ep] at h
  obtain ⟨s1, s2, s3, s4, s5⟩ := row5 (hF.row g hc hp.2.2)
  by_cases c4 : (T.1 66 p = T.1 66 q ∨ T.1 66 p = 1 ∧ T.1 66 q = 2) ∧ ¬ sameC T x y = 0
  · rw [if_pos c4] at h
    by_cases c5 : dOv T (T.1 67 p) (T.1 67 q) = 0
    · rw [if_pos c5] at h
      exact absurd h (by decide)
    · right; right
      have sc := c4.2
      unfold sameC at sc
      rw [ep, eq] at sc
      by_cases c6 : T.1 68 p = T.1 68 q ∧ T.1 69 p = T.1 69 q ∧ T.1 70 p = T.1 70 q
      · refine ⟨p, q, hp.up hF g, hq.up hF g, by rw [r1, s1]; exact c4.1, by rw [r3, s3]; exact c6.1, by rw [r4, s4]; exact c6.2.1, by rw [r5, s5]; exact c6.2.2, ?_⟩
        rw [r2, s2, ← dOv_fe hE]
        exact c5
      · rw [if_neg c6] at sc
        exact absurd rfl sc
  · rw [if_neg c4] at h
    exact absurd h (by decide)
theorem ft_okT (h : (ftS T x y w).1 7 0 = 0) : mfI T x y ≤ 0 ∧ ftS T x y w = T ∧ T.1 7 0 = 0 := by
  unfold ftS at h ⊢
  by_cases c : T.1 7 0 = 0 ∧ ¬ mfI T x y ≤ 0
  · rw [if_pos c] at h
    have e1 : failS T (mfI T x y) w = flT T (mfI T x y) w := by
      unfold flT
      rw [if_pos c.1]
    rw [e1] at h
    exact absurd h (flT_bad (fun e => c.2 (by rw [e]; decide)))
  · rw [if_neg c] at h ⊢
    exact ⟨Decidable.byContradiction fun q => c ⟨h, q⟩, rfl, h⟩
/-- a type told with the REGIONS w, as the last state has it -/
theorem gty_c (hc : cn Sf < 6000) (hRf : Rws Sf) (hC : Ck T) (hw : PK w 3) (hv : tV T x) (hd : dOk T 7 x) (hF : FW (chT 7 T x w).2 Sf) : gty Sf ρ (chT 7 T x w).1 = gty Sf (chρ ρ w) x := by
  have fc := FE.ch (w := w) 7 T x
  have g := fc.tg hC.1
  have c1 := hF.lt g hc
  exact gty_ch hw hRf (by omega) 7 T x hC.1 hC.2.1 hv hd c1 (hF.cnle g) (fun p hp => hF.row g hc hp) (by rw [hF.1 15 (by omega) (by omega) (by omega), fc.1 15 (by omega)])
/-- a type that was kept -/
theorem new_k (hc : cn Sf < 6000) (hC : Ck T) (hz : rwOk T (cn T) z) (hF : FW (knS T z) Sf) : newP Sf (knR T z) z := by
  have g := (FE.kn (T := T) (z := z)).tg hC.1
  obtain ⟨_, q, k1, k2, k3, k4⟩ := hC.kn hz (hF.lt g hc)
  exact ⟨q, ⟨k1, k2, Nat.lt_of_lt_of_le k3 (hF.cnle g)⟩, (hF.row g hc k3).trans k4⟩
theorem sght_fe (h : FE S T) : sght T c ↔ sght S c := by
  unfold sght
  rw [h.ern, h.1 73 (by omega)]
theorem rgQ_sg (hC : Cst T) (h : 0 ≤ rgQ X T q) : ∃ c, srR X T q = nI c ∧ sght T c := by
  have key : ∀ (w : Int64) (n : Nat), n ≤ rn T → rgV T w n = -1 ∨ ∃ c, rgV T w n = nI c ∧ c < 12 ∧ ∃ k, k < rn T ∧ T.1 73 k = nI c := by
    intro w n
    induction n with
    | zero => intro _; exact Or.inl rfl
    | succ n ih =>
      intro hn
      rw [rgV]
      by_cases c : isRg T w n = true
      · rw [if_pos c]
        obtain ⟨r, e, hr⟩ := hC.1.2 n (by omega)
        exact Or.inr ⟨r, e, hr, n, by omega, e⟩
      · rw [if_neg c]
        exact ih (by omega)
  unfold srR
  rw [if_pos h]
  unfold rgQ at h ⊢
  by_cases c : xN X q = 72
  · rw [if_pos c]
    exact ⟨0, rfl, Or.inl rfl⟩
  · rw [if_neg c] at h ⊢
    rcases key (xN X q) (rn T) (Nat.le_refl _) with k | ⟨c, k1, k2, k3⟩
    · rw [k] at h
      exact absurd h (by decide)
    · exact ⟨c, k1, Or.inr ⟨k2, k3⟩⟩
theorem wa_sg : ∀ (m k : Nat) (T : gSt) (w : Int32), Ck T → cn T < 6000 → k + m ≤ 3 → PK w k → sgW T w k → (waX X m T q k w).2.1 7 0 = 0 → sgW T (waX X m T q k w).1 (k + m) := by
  intro m
  induction m with
  | zero => intro k T w _ _ _ _ h _; exact h
  | succ m ih =>
    intro k T w hC hc hk hp hs hf
    have h0 : T.1 7 0 = 0 := (FE.wa (X := X) (q := q) (m + 1) k T w).ok hf
    rw [waX, if_pos h0] at hf ⊢
    have h1 : (srS X T (q + k)).1 7 0 = 0 := (FE.wa (X := X) (q := q) m (k + 1) _ _).ok hf
    have hr : 0 ≤ rgQ X T (q + k) := Decidable.byContradiction fun z => by
      unfold srS at h1
      rw [if_neg z] at h1
      exact absurd h1 (flT_bad (by decide))
    have e1 : srS X T (q + k) = T := by unfold srS; rw [if_pos hr]
    rw [e1] at hf ⊢
    obtain ⟨c, c1, c2⟩ := rgQ_sg hC.2.2 hr
    obtain ⟨s1, s2, s3⟩ := hp.st (show k < 3 by omega) (rg_ok (X := X) (q := q + k) hC.2.2)
    rw [show k + (m + 1) = k + 1 + m by omega]
    refine ih (k + 1) T _ hC hc (by omega) s1 (fun j hj => ?_) hf
    by_cases e : j = k
    · subst e
      exact ⟨c, by rw [s2]; exact c1, c2⟩
    · obtain ⟨c', d1, d2⟩ := hs j (by omega)
      exact ⟨c', by rw [s3 j (by omega)]; exact d1, d2⟩
end TJ0
