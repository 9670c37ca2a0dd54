/-! small things of STEPS -/
def seS (T : gSt) (w : Int64) (sl t : Int32) : gSt := sI (sI (sI (sJ T 78 (vn T) w) 79 (vn T) sl) 80 (vn T) t) 77 0 (nI (vn T + 1))
def spS (T : gSt) : gSt := sI (sI (sI T 83 0 0) 81 0 (-1)) 82 0 (-1)
def gvS (T : gSt) (sl t e has : Int32) : gSt := sI (sI T 81 0 (if has = 0 then T.1 81 0 &&& ((1 <<< (sl &&& 31)) ^^^ (-1)) else T.1 81 0 ||| (1 <<< (sl &&& 31)))) 82 0 (if ¬ has = 0 ∧ ¬ t ≤ 0 ∧ tf T 66 t = 2 ∧ ¬ e ≤ 0 ∧ tf T 66 e = 1 then T.1 82 0 ||| (1 <<< (sl &&& 31)) else T.1 82 0 &&& ((1 <<< (sl &&& 31)) ^^^ (-1)))
def kwS (T : gSt) (sl : Int32) : gSt := if sl < 0 then T else sI T 82 0 (T.1 82 0 ||| (1 <<< (sl &&& 31)))
/-- the slot of a var that may be null; -1 if it isn't one -/
def akV (T : gSt) (nm : Int64) : Int32 := if fd (isVa T nm) (vn T) < 0 then -1 else if tf T 80 (fd (isVa T nm) (vn T)) ≤ 0 then -1 else if tf T 66 (tf T 80 (fd (isVa T nm) (vn T))) = 2 then tf T 79 (fd (isVa T nm) (vn T)) else -1
def rsS (T : gSt) (st kw lv rc : Int32) : gSt := sI (sI (sI (sI T 81 0 st) 82 0 kw) 75 0 lv) 83 0 rc
def mtS (T : gSt) (st kw lv rc p : Int32) : gSt :=
  if ¬ T.1 83 0 = 0 ∧ ¬ rc = 0 then (if T.1 75 0 = lv then sI (sI T 81 0 (T.1 81 0 &&& st)) 82 0 (T.1 82 0 &&& kw) else sI (sI (flT T 8 p) 81 0 (T.1 81 0 &&& st)) 82 0 (T.1 82 0 &&& kw))
  else if ¬ rc = 0 ∨ T.1 83 0 = 0 then rsS T st kw lv rc else T
section ST
variable {nf d : Nat} {T T' T1 S : gSt} {X : Lx} {m n p u i k e l : Nat} {x y r t sl has : Int32} {nm : Int64}
theorem x_see (hv : T.1 77 0 = nI (vn T)) (hn : vn T < 20) : RR nf (d + 1) 66 T [sl, t] [nm] = some (0, 0, seS T nm sl t) := by
  rw [e_Model_see_JII]
  unfold rb_Model_see_JII seS
  have z : inb (nI (vn T)) 20 := nin (by omega) (by omega)
  have cz : (nI (vn T)).toNatClampNeg = vn T := nc (by omega)
  have h1 : (sJ T 78 (vn T) nm).1 77 0 = nI (vn T) := hv
  have h2 : (sI (sJ T 78 (vn T) nm) 79 (vn T) sl).1 77 0 = nI (vn T) := by rw [sI_ne (by omega)]; exact h1
  have h3 : (sI (sI (sJ T 78 (vn T) nm) 79 (vn T) sl) 80 (vn T) t).1 77 0 = nI (vn T) := by rw [sI_ne (by omega)]; exact h2
  simp only [gd, stK, hv, cz, h1, h2, h3, if_pos z, nI_1]
theorem x_stop : RR nf (d + 1) 67 T [] [] = some (0, 0, spS T) := rfl
theorem x_give (ht : ¬ t ≤ 0 → inb t 6000) (hy : ¬ y ≤ 0 → inb y 6000) : RR nf (d + 1) 72 T [sl, t, y, has] [] = some (0, 0, gvS T sl t y has) := by
  rw [e_Model_give]
  have key : ∀ z : Int32, z = (if has = 0 then T.1 81 0 &&& ((1 <<< (sl &&& 31)) ^^^ (-1)) else T.1 81 0 ||| (1 <<< (sl &&& 31))) → rj_Model_give_30 (RR nf d) nf T t y has (1 <<< (sl &&& 31)) z = some (0, 0, gvS T sl t y has) := by
    intro z hz
    unfold rj_Model_give_30 gvS tf
    have o82 : (sI T 81 0 z).1 82 0 = T.1 82 0 := by rw [sI_ne (by omega)]
    have o66 : ∀ j, (sI T 81 0 z).1 66 j = T.1 66 j := fun j => by rw [sI_ne (by omega)]
    simp only [stK, gd, o82, o66]
    rw [← hz]
    by_cases c1 : has = 0
    · rw [if_pos c1, if_neg (fun q => q.1 c1)]
    rw [if_neg c1]
    by_cases c2 : t ≤ 0
    · rw [if_pos c2, if_neg (fun q => q.2.1 c2)]
    rw [if_neg c2, if_pos (ht c2)]
    by_cases c3 : T.1 66 t.toNatClampNeg = 2
    · rw [if_pos c3]
      by_cases c4 : y ≤ 0
      · rw [if_pos c4, if_neg (fun q => q.2.2.2.1 c4)]
      rw [if_neg c4, if_pos (hy c4)]
      by_cases c5 : T.1 66 y.toNatClampNeg = 1
      · rw [if_pos c5, if_pos ⟨c1, c2, c3, c4, c5⟩]
      · rw [if_neg c5, if_neg (fun q => c5 q.2.2.2.2)]
    · rw [if_neg c3, if_neg (fun q => c3 q.2.2.1)]
  unfold rb_Model_give
  simp only [vK]
  by_cases c1 : has = 0
  · rw [if_pos c1]
    exact key _ (by rw [if_pos c1])
  · rw [if_neg c1]
    exact key _ (by rw [if_neg c1])
theorem x_know : RR nf (d + 1) 75 T [sl] [] = some (0, 0, kwS T sl) := by
  rw [e_Model_knowing]
  unfold rb_Model_knowing kwS
  by_cases c : sl < 0
  · rw [if_pos c, if_pos c]
  · rw [if_neg c, if_neg c]
    rfl
theorem x_ask68 (hC : Ck (er T)) (hc : cn T < 6000) (hm : m < 8200) (hnf : 5000 ≤ nf) : rj_Model_asked_68 (RR nf (d + 1)) nf T (nI m) = some (if T.1 50 m = 4 then akV T (T.2 56 m) else -1, 0, T) := by
  have zm : inb (nI m) 8200 := nin (by omega) (by omega)
  have cm : (nI m).toNatClampNeg = m := nc (by omega)
  have hv := hC.2.2.2.2.2
  have hv1 : T.1 77 0 = nI (vn T) := hv.1
  have hv2 : vn T ≤ 20 := hv.2.1
  unfold rj_Model_asked_68
  simp only [gd, if_pos zm, cm]
  by_cases c1 : T.1 50 m = 4
  · rw [if_pos c1, if_pos c1, x_var hv1 hv2 hnf, bis]
    unfold akV
    by_cases c2 : fd (isVa T (T.2 56 m)) (vn T) < 0
    · rw [if_pos c2, if_pos c2]
    rw [if_neg c2, if_neg c2]
    obtain ⟨j, j1, j2, j3⟩ := var_ok hC (show 0 ≤ fd (isVa (er T) (T.2 56 m)) (vn (er T)) from Int32.not_lt.mp c2)
    have j1' : j < vn T := j1
    have j2' : fd (isVa T (T.2 56 m)) (vn T) = nI j := j2
    have zj : inb (nI j) 20 := nin (by omega) (by omega)
    have cj : (nI j).toNatClampNeg = j := nc (by omega)
    rw [j2']
    unfold tf
    simp only [if_pos zj, cj]
    by_cases c3 : T.1 80 j ≤ 0
    · rw [if_pos c3, if_pos c3]
    rw [if_neg c3, if_neg c3]
    have j4 : tR (er T) (T.1 80 j) := Or.inr (Or.inr j3)
    rw [if_pos (j4.ok.inr (by omega) c3)]
    by_cases c4 : T.1 66 (T.1 80 j).toNatClampNeg = 2
    · rw [if_pos c4, if_pos c4]
    · rw [if_neg c4, if_neg c4]
  · rw [if_neg c1, if_neg c1]
theorem x_meet {st kw lv rc p : Int32} (hr : rc = 0 ∨ rc = 1) : RR nf (d + 2) 78 T [st, kw, lv, rc, p] [] = some (0, 0, mtS T st kw lv rc p) := by
  rw [e_Model_meet nf (d + 1)]
  have key : ¬ (¬ T.1 83 0 = 0 ∧ ¬ rc = 0) → rj_Model_meet_51 (RR nf (d + 1)) nf T st kw lv rc = some (0, 0, mtS T st kw lv rc p) := by
    intro h
    unfold rj_Model_meet_51 mtS rsS
    rw [if_neg h]
    by_cases c1 : rc = 0
    · rw [if_pos c1]
      by_cases c2 : T.1 83 0 = 0
      · rw [if_pos c2, if_pos (Or.inr c2)]
        simp only [stK, gd, if_pos hr]
      · rw [if_neg c2, if_neg (fun q => q.elim (fun z => z c1) c2)]
    · rw [if_neg c1, if_pos (Or.inl c1)]
      simp only [stK, gd, if_pos hr]
  unfold rb_Model_meet
  by_cases c1 : T.1 83 0 = 0
  · rw [if_pos c1]
    exact key (fun q => q.1 c1)
  rw [if_neg c1]
  by_cases c2 : rc = 0
  · rw [if_pos c2]
    exact key (fun q => q.2 c2)
  rw [if_neg c2]
  unfold mtS
  rw [if_pos (show ¬ T.1 83 0 = 0 ∧ ¬ rc = 0 from ⟨c1, c2⟩)]
  by_cases c3 : T.1 75 0 = lv
  · rw [if_pos c3, if_pos c3]
    simp only [stK]
    rw [sI_ne (g' := 82) (by omega)]
  · rw [if_neg c3, if_neg c3, x_fail, bis]
    simp only [stK]
    rw [sI_ne (g' := 82) (by omega), flT_o (by omega) (by omega), flT_o (by omega) (by omega)]
end ST
