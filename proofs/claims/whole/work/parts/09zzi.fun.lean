/-! a fun: what is known as its BLOCK begins -/
def fwS (it j : Nat) (T : gSt) : gSt := sI T 76 0 (T.1 76 0 ||| ((1 : Int32) <<< (((4 : Int32) * roI T it (T.2 32 (6 * it + 2 * j)) + roI T it (T.2 32 (6 * it + 2 * j + 1))) &&& 31)))
def fwL (it : Nat) : Nat → Nat → gSt → gSt
  | 0, _, T => T
  | k + 1, j, T => fwL it k (j + 1) (fwS it j T)
def cl1 (a b c : Int32) (T : gSt) : gSt := if (((T.1 76 0 >>> (((4 : Int32) * b + a) &&& 31)) &&& (T.1 76 0 >>> (((4 : Int32) * a + c) &&& 31))) &&& 1) = 1 then sI T 76 0 (T.1 76 0 ||| ((1 : Int32) <<< (((4 : Int32) * b + c) &&& 31))) else T
def cl2 (a b : Int32) (T : gSt) : gSt := cl1 a b 3 (cl1 a b 2 (cl1 a b 1 T))
def cl3 (a : Int32) (T : gSt) : gSt := cl2 a 3 (cl2 a 2 (cl2 a 1 T))
def clS (T : gSt) : gSt := cl3 3 (cl3 2 (cl3 1 T))
def zrS (T : gSt) : gSt := sI (sI (sI (sI (sI (sI (sI T 77 0 0) 81 0 0) 82 0 0) 83 0 1) 84 0 0) 86 0 0) 87 0 0
def paS (c j : Nat) (T : gSt) : gSt := sI (seS T (T.2 21 (c + j)) (nI j) (T.1 24 (c + j))) 81 0 ((seS T (T.2 21 (c + j)) (nI j) (T.1 24 (c + j))).1 81 0 ||| ((1 : Int32) <<< (nI j &&& 31)))
def paL (c : Nat) : Nat → Nat → gSt → gSt
  | 0, _, T => T
  | k + 1, j, T => paL c k (j + 1) (paS c j T)
def fn0 (it : Nat) (T : gSt) : gSt := sgS it (sI T 64 0 (nI it))
def fnA (it : Nat) (T : gSt) : gSt := sI (sI (fn0 it T) 75 0 (((15 : Int32) >>> (((3 : Int32) - (fn0 it T).1 15 it) &&& 31)) &&& ((fn0 it T).1 30 it ^^^ (-1)))) 76 0 0
def fnB (it w : Nat) (T : gSt) : gSt := zrS (clS (fwL it w 0 (fnA it T)))
/-- as the BLOCK begins -/
def fnC (it c n w : Nat) (T : gSt) : gSt := paL c n 0 (fnB it w T)
def fnE (it : Nat) (T : gSt) : gSt := if T.1 7 0 = 0 then (if T.1 25 it < 0 then T else if T.1 83 0 = 0 then T else flT T 8 (T.1 57 (T.1 34 it).toNatClampNeg)) else T
def fnS (X : Lx) (it c n w : Nat) (b : Tr) (T : gSt) : gSt := fnE it (stS X it b 0 0 0 (fnC it c n w T))
/-- what the start of a fun leaves as it was -/
def FQ (T T' : gSt) : Prop := (∀ k, k ≠ 64 → k ≤ 70 → T'.1 k = T.1 k) ∧ (∀ k, k < 72 → T'.2 k = T.2 k) ∧ T'.1 74 = T.1 74 ∧ (∀ k, anF k = true → T'.1 k = T.1 k)
section FNN
variable {nf d : Nat} {T T' T1 S S' : gSt} {X : Lx} {it r k j c n m w i f fl : Nat} {x y x1 x2 x3 x4 : Int32} {nm : Int64} {F : gF} {r1 : gSt → Int32 → Int32 → gR} {r2 : gSt → Int32 → Int32 → Int32 → gR}
theorem FQ.rf : FQ T T := ⟨fun _ _ _ => rfl, fun _ _ => rfl, rfl, fun _ _ => rfl⟩
theorem FQ.tr (h : FQ T T') (h2 : FQ T' T1) : FQ T T1 := ⟨fun k a b => (h2.1 k a b).trans (h.1 k a b), fun k a => (h2.2.1 k a).trans (h.2.1 k a), h2.2.2.1.trans h.2.2.1, fun k a => (h2.2.2.2 k a).trans (h.2.2.2 k a)⟩
theorem anF_64 (h : k = 64 ∨ k = 71 ∨ k = 72 ∨ k = 73 ∨ (75 ≤ k ∧ k ≤ 87)) : anF k = false := by unfold anF; simp; omega
theorem FQ.wr (h : k = 64 ∨ k = 71 ∨ k = 72 ∨ k = 73 ∨ (75 ≤ k ∧ k ≤ 87)) : FQ T (sI T k j x) := ⟨fun g a b => sI_ne (by omega), fun _ _ => rfl, sI_ne (by omega), fun g a => sI_ne (fun e => by rw [e, anF_64 h] at a; exact absurd a (by decide))⟩
theorem FQ.wj {v : Int64} (h : 72 ≤ k) : FQ T (sJ T k j v) := ⟨fun g _ _ => rfl, fun g a => sJ_ne (by omega), rfl, fun _ _ => rfl⟩
theorem FQ.sgl : ∀ (k j : Nat) (T : gSt), FQ T (sgL it k j T) := by
  intro k
  induction k with
  | zero => intro j T; exact FQ.rf
  | succ k ih =>
    intro j T
    rw [sgL]
    refine FQ.tr ?_ (ih _ _)
    exact (FQ.wj (by omega)).tr ((FQ.wr (by omega)).tr (FQ.wr (by omega)))
theorem FQ.sg : FQ T (sgS it T) := (FQ.wr (by omega)).tr (FQ.sgl _ _ _)
theorem FQ.n0 : FQ T (fn0 it T) := (FQ.wr (by omega)).tr FQ.sg
theorem FQ.nA : FQ T (fnA it T) := (FQ.n0.tr (FQ.wr (by omega))).tr (FQ.wr (by omega))
theorem FQ.fw : ∀ (k j : Nat) (T : gSt), FQ T (fwL it k j T) := by
  intro k
  induction k with
  | zero => intro j T; exact FQ.rf
  | succ k ih =>
    intro j T
    rw [fwL]
    exact FQ.tr (FQ.wr (by omega)) (ih _ _)
theorem FQ.c1 {a b c : Int32} : FQ T (cl1 a b c T) := by
  unfold cl1
  split
  · exact FQ.wr (by omega)
  · exact FQ.rf
theorem FQ.c2 {a b : Int32} : FQ T (cl2 a b T) := (FQ.c1.tr FQ.c1).tr FQ.c1
theorem FQ.c3 {a : Int32} : FQ T (cl3 a T) := (FQ.c2.tr FQ.c2).tr FQ.c2
theorem FQ.cl : FQ T (clS T) := (FQ.c3.tr FQ.c3).tr FQ.c3
theorem FQ.zr : FQ T (zrS T) := ((((((FQ.wr (by omega)).tr (FQ.wr (by omega))).tr (FQ.wr (by omega))).tr (FQ.wr (by omega))).tr (FQ.wr (by omega))).tr (FQ.wr (by omega))).tr (FQ.wr (by omega))
theorem FQ.nB : FQ T (fnB it w T) := ((FQ.nA.tr (FQ.fw _ _ _)).tr FQ.cl).tr FQ.zr
theorem FQ.see {sl t : Int32} : FQ T (seS T nm sl t) := (((FQ.wj (by omega)).tr (FQ.wr (by omega))).tr (FQ.wr (by omega))).tr (FQ.wr (by omega))
theorem FQ.pa1 : FQ T (paS c j T) := FQ.see.tr (FQ.wr (by omega))
theorem FQ.pa : ∀ (k j : Nat) (T : gSt), FQ T (paL c k j T) := by
  intro k
  induction k with
  | zero => intro j T; exact FQ.rf
  | succ k ih =>
    intro j T
    rw [paL]
    exact FQ.pa1.tr (ih _ _)
theorem FQ.nC : FQ T (fnC it c n w T) := FQ.nB.tr (FQ.pa _ _ _)
-- the notes play no part
theorem er_fwL : ∀ (k j : Nat) (T : gSt), er (fwL it k j T) = fwL it k j (er T) := by
  intro k
  induction k with
  | zero => intro j T; rfl
  | succ k ih =>
    intro j T
    rw [fwL, fwL, ih]
    congr 1
    unfold fwS
    rw [er_w rfl]
    rfl
theorem er_cl1 {a b c : Int32} : er (cl1 a b c T) = cl1 a b c (er T) := by
  unfold cl1
  have e : (er T).1 76 0 = T.1 76 0 := rfl
  rw [e]
  split
  · exact er_w rfl
  · rfl
theorem er_cl2 {a b : Int32} : er (cl2 a b T) = cl2 a b (er T) := by unfold cl2; rw [er_cl1, er_cl1, er_cl1]
theorem er_cl3 {a : Int32} : er (cl3 a T) = cl3 a (er T) := by unfold cl3; rw [er_cl2, er_cl2, er_cl2]
theorem er_clS : er (clS T) = clS (er T) := by unfold clS; rw [er_cl3, er_cl3, er_cl3]
theorem er_zrS : er (zrS T) = zrS (er T) := by
  unfold zrS
  rw [er_w rfl, er_w rfl, er_w rfl, er_w rfl, er_w rfl, er_w rfl, er_w rfl]
theorem er_paL : ∀ (k j : Nat) (T : gSt), er (paL c k j T) = paL c k j (er T) := by
  intro k
  induction k with
  | zero => intro j T; rfl
  | succ k ih =>
    intro j T
    rw [paL, paL, ih]
    congr 1
    unfold paS
    rw [er_w rfl, er_see]
    rfl
theorem er_fn0 : er (fn0 it T) = fn0 it (er T) := by
  unfold fn0
  rw [er_sg, er_w rfl]
theorem er_fnA : er (fnA it T) = fnA it (er T) := by
  unfold fnA
  rw [er_w rfl, er_w rfl, er_fn0]
  have e1 : (fn0 it (er T)).1 15 it = (fn0 it T).1 15 it := by rw [← er_fn0]; rfl
  have e2 : (fn0 it (er T)).1 30 it = (fn0 it T).1 30 it := by rw [← er_fn0]; rfl
  rw [e1, e2]
theorem er_fnC : er (fnC it c n w T) = fnC it c n w (er T) := by
  unfold fnC fnB
  rw [er_paL, er_zrS, er_clS, er_fwL, er_fnA]
theorem er_fnE : er (fnE it T) = fnE it (er T) := by
  unfold fnE
  have e1 : (er T).1 7 0 = T.1 7 0 := rfl
  have e2 : (er T).1 25 it = T.1 25 it := rfl
  have e3 : (er T).1 83 0 = T.1 83 0 := rfl
  have e4 : (er T).1 57 ((er T).1 34 it).toNatClampNeg = T.1 57 (T.1 34 it).toNatClampNeg := rfl
  rw [e1, e2, e3, e4]
  split
  · split
    · rfl
    · split
      · rfl
      · exact er_fl
  · rfl
-- the walk
theorem l_41 (hnf : 5000 ≤ nf) (hit : it < 24) (hr : r ≤ 3) (hw : w ≤ 3) : ∀ (k j fl : Nat) (T : gSt), j + k = w → k < fl → T.1 31 it = nI w → T.1 15 it = nI r → rl_Model_checkFun_41 (RR nf (d + 1)) nf fl T (nI it) (nI j) = rl_Model_checkFun_111 (RR nf (d + 1)) nf nf (fwL it k j T) (nI it) 1 := by
  have zi : inb (nI it) 24 := nin (by omega) (by omega)
  have ci : (nI it).toNatClampNeg = it := nc (by omega)
  intro k
  induction k with
  | zero =>
    intro j fl T hj hf h31 h15
    obtain ⟨fl', rfl⟩ : ∃ q, fl = q + 1 := ⟨fl - 1, by omega⟩
    obtain rfl : j = w := by omega
    rw [rl_Model_checkFun_41, gd, if_pos zi, ci, h31, if_pos (Int32.le_refl _)]
    rfl
  | succ k ih =>
    intro j fl T hj hf h31 h15
    obtain ⟨fl', rfl⟩ : ∃ q, fl = q + 1 := ⟨fl - 1, by omega⟩
    have hlt : ¬ nI w ≤ nI j := fun q => by
      have := (nI_leI (by omega) (by omega)).mp q
      omega
    have z6 : inb (nI (6 * it + 2 * j)) 144 := nin (by omega) (by omega)
    have c6 : (nI (6 * it + 2 * j)).toNatClampNeg = 6 * it + 2 * j := nc (by omega)
    have z7 : inb (nI (6 * it + 2 * j + 1)) 144 := nin (by omega) (by omega)
    have c7 : (nI (6 * it + 2 * j + 1)).toNatClampNeg = 6 * it + 2 * j + 1 := nc (by omega)
    have e2 : (2 : Int32) * nI j = nI (2 * j) := by rw [show (2 : Int32) = nI 2 from rfl, nI_mul]
    have i2 := ih (j + 1) fl' (fwS it j T) (by omega) (by omega) (by unfold fwS; rw [sI_ne (by omega)]; exact h31) (by unfold fwS; rw [sI_ne (by omega)]; exact h15)
    rw [rl_Model_checkFun_41, gd, if_pos zi, ci, h31, if_neg hlt, fwL, e2, e6i, gd, if_pos z6, c6, x_roI hit h15 hr hnf, bis, nI_1, gd, if_pos z7, c7, x_roI hit h15 hr hnf, bis, stK, vK, nI_1]
    exact i2
theorem s_126 (h : ¬ 4 ≤ x4) : rl_Model_checkFun_126 F nf r1 r2 (n + 1) T x1 x2 x3 x4 = rl_Model_checkFun_126 F nf r1 r2 n (cl1 x2 x3 x4 T) x1 x2 x3 (x4 + 1) := by
  rw [rl_Model_checkFun_126, if_neg h]
  unfold cl1
  split <;> rfl
theorem e_126 : rl_Model_checkFun_126 F nf r1 r2 (n + 4) T x1 x2 x3 1 = r2 (cl2 x2 x3 T) x1 x2 (x3 + 1) := by
  rw [s_126 (by decide), s_126 (by decide), s_126 (by decide), rl_Model_checkFun_126, if_pos (by decide)]
  rfl
theorem s_118 (hnf : 4 ≤ nf) (h : ¬ 4 ≤ x3) : rl_Model_checkFun_118 F nf r1 (n + 1) T x1 x2 x3 = rl_Model_checkFun_118 F nf r1 n (cl2 x2 x3 T) x1 x2 (x3 + 1) := by
  rw [rl_Model_checkFun_118, if_neg h]
  obtain ⟨q, rfl⟩ : ∃ q, nf = q + 4 := ⟨nf - 4, by omega⟩
  rw [e_126]
theorem e_118 (hnf : 4 ≤ nf) : rl_Model_checkFun_118 F nf r1 (n + 4) T x1 x2 1 = r1 (cl3 x2 T) x1 (x2 + 1) := by
  rw [s_118 hnf (by decide), s_118 hnf (by decide), s_118 hnf (by decide), rl_Model_checkFun_118, if_pos (by decide)]
  rfl
theorem s_111 (hnf : 4 ≤ nf) (h : ¬ 4 ≤ x2) : rl_Model_checkFun_111 F nf (n + 1) T x1 x2 = rl_Model_checkFun_111 F nf n (cl3 x2 T) x1 (x2 + 1) := by
  rw [rl_Model_checkFun_111, if_neg h]
  have : ∀ q, nf = q + 4 → rl_Model_checkFun_118 F nf (rl_Model_checkFun_111 F nf n) nf T x1 x2 1 = rl_Model_checkFun_111 F nf n (cl3 x2 T) x1 (x2 + 1) := by
    intro q hq
    have e := e_118 (F := F) (r1 := rl_Model_checkFun_111 F nf n) (n := q) (T := T) (x1 := x1) (x2 := x2) hnf
    rw [← hq] at e
    exact e
  exact this (nf - 4) (by omega)
theorem e_111 (hnf : 4 ≤ nf) : rl_Model_checkFun_111 F nf nf T x1 1 = rl_Model_checkFun_232 F nf nf (zrS (clS T)) x1 0 := by
  have : ∀ q, nf = q + 4 → rl_Model_checkFun_111 F nf (q + 4) T x1 1 = rl_Model_checkFun_232 F nf nf (zrS (clS T)) x1 0 := by
    intro q _
    rw [s_111 hnf (by decide), s_111 hnf (by decide), s_111 hnf (by decide), rl_Model_checkFun_111, if_pos (by decide)]
    rfl
  have t := this (nf - 4) (by omega)
  rw [show nf - 4 + 4 = nf by omega] at t
  exact t
theorem l_232 (hit : it < 24) (hcm : c + m ≤ 220) (hm : m ≤ 8) : ∀ (k j fl : Nat) (T : gSt), j + k = m → k < fl → T.1 19 it = nI m → T.1 18 it = nI c → T.1 77 0 = nI j → rl_Model_checkFun_232 (RR nf (d + 1)) nf fl T (nI it) (nI j) = rl_Model_checkFun_232 (RR nf (d + 1)) nf (fl - k) (paL c k j T) (nI it) (nI m) := by
  have zi : inb (nI it) 24 := nin (by omega) (by omega)
  have ci : (nI it).toNatClampNeg = it := nc (by omega)
  intro k
  induction k with
  | zero =>
    intro j fl T hj hf _ _ _
    obtain rfl : j = m := by omega
    rfl
  | succ k ih =>
    intro j fl T hj hf h19 h18 h77
    obtain ⟨fl', rfl⟩ : ∃ q, fl = q + 1 := ⟨fl - 1, by omega⟩
    have hlt : ¬ nI m ≤ nI j := fun q => by
      have := (nI_leI (by omega) (by omega)).mp q
      omega
    have hv : vn T = j := by unfold vn; rw [h77, nc (by omega)]
    have zc : inb (nI (c + j)) 220 := nin (by omega) (by omega)
    have cc : (nI (c + j)).toNatClampNeg = c + j := nc (by omega)
    have ec : nI c + nI j = nI (c + j) := (Int32.ofNat_add _ _).symm
    have i2 := ih (j + 1) fl' (paS c j T) (by omega) (by omega) (by rw [FQ.pa1.1 19 (by omega) (by omega)]; exact h19) (by rw [FQ.pa1.1 18 (by omega) (by omega)]; exact h18) (by unfold paS; rw [sI_ne (by omega)]; unfold seS; rw [rdI, if_pos ⟨rfl, rfl⟩, hv])
    rw [rl_Model_checkFun_232, gd, if_pos zi, ci, h19, if_neg hlt, gd, if_pos zi, h18, ec, gd, if_pos zc, gd, if_pos zi, gd, if_pos zc, cc, x_see (by rw [hv]; exact h77) (by omega), bis, stK, vK, nI_1, paL]
    rw [show fl' + 1 - (k + 1) = fl' - k by omega]
    exact i2
end FNN
