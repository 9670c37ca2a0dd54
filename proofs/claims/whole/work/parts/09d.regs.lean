/-! regions in sight -/
section RG
variable {nf d : Nat} {T : gSt} {n p : Nat} {x y : Int32}
def flT (T : gSt) (a b : Int32) : gSt := if T.1 7 0 = 0 then failS T a b else T
theorem x_fail : RR nf (d + 1) 13 T [x, y] [] = some (0, 0, flT T x y) := by
  unfold flT
  by_cases h : T.1 7 0 = 0
  · rw [if_pos h, q_fail0 h]
  · rw [if_neg h, q_fail1 h]
/-- the region that the use p names, of n in sight: -1 if none -/
def rgN (T : gSt) (n p : Nat) : Int32 := if T.2 46 p = 72 then 0 else rgV T (T.2 46 p) n
def rgAtS (T : gSt) (n p : Nat) : gSt := if 0 ≤ rgN T n p then sI T 48 p (rgN T n p) else sI (flT T 3 (T.1 47 p)) 48 p 0
def rgAtR (T : gSt) (n p : Nat) : Int32 := if 0 ≤ rgN T n p then rgN T n p else 0
theorem x_rgAt (hn : T.1 71 0 = nI n) (h2 : n ≤ 12) (hnf : 5000 ≤ nf) (hp : p < 4000) : RR nf (d + 2) 53 T [nI p] [] = some (rgAtR T n p, 0, rgAtS T n p) := by
  have zp : inb (nI p) 4000 := nin (by omega) (by omega)
  have cp : (nI p).toNatClampNeg = p := nc (by omega)
  rw [e_Model_regionAt nf (d + 1)]
  unfold rb_Model_regionAt
  simp only [gd, if_pos zp, cp]
  rw [x_reg hn h2 hnf]
  unfold rgAtR rgAtS
  have hr : rgN T n p = if T.2 46 p = 72 then 0 else rgV T (T.2 46 p) n := rfl
  rw [← hr]
  simp only [bi]
  unfold rj_Model_regionAt_26
  simp only [gd, if_pos zp, cp, stK]
  by_cases h : 0 ≤ rgN T n p
  · rw [if_pos h, if_pos h, if_pos h, if_pos h, sI_v]
  · rw [if_neg h, if_neg h, if_neg h, x_fail]
    simp only [bi]
    rw [if_neg h, sI_v]
def isLv (T : gSt) (r : Int32) : Int32 := if ((T.1 75 0 >>> (r &&& 31)) &&& 1) = 1 then 1 else 0
theorem x_isLv : RR nf (d + 1) 54 T [x] [] = some (isLv T x, 0, T) := by
  rw [e_Model_isLive]
  unfold rb_Model_isLive isLv
  by_cases h : ((T.1 75 0 >>> (x &&& 31)) &&& 1) = 1
  · rw [if_pos h, if_pos h]
  · rw [if_neg h, if_neg h]
end RG
