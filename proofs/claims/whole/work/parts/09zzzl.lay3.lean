/-! the code of EXPRS: behind a left part -/
section LYB
variable {nf d : Nat} {T T' T1 T2 S : gSt} {X : Lx} {n n' m k p q u lo hi a b c s fr fl i e g : Nat} {x y z w ty tl t0 : Int32} {j l : T5} {js ks l0 l2 : List T5} {t ta tb : Tr}
theorem tR.tk (h : tR T x) : tOk (cn T) x := by
  rcases h with h | h | h | ⟨p, e, p1, p2⟩
  · left; rw [h]; decide
  · left; rw [h]; decide
  · left; rw [h]; decide
  · right; exact ⟨p, e, p1, p2⟩
theorem x_wo (h : tOk n x) (hn : n ≤ 6000) : RR nf (d + 2) 102 T [x] [] = some (wdO T x, 0, T) := by
  rw [e_Model_wordsOf nf (d + 1)]
  unfold rb_Model_wordsOf wdO
  rw [x_isRo h hn, bis]
  by_cases c : isRo T x = 0
  · rw [if_pos c, if_pos c]
  · rw [if_neg c, if_neg c]
theorem jGs.lft (h : jGs T (js ++ ks)) : jGs T js := fun j hj => h j (List.mem_append.mpr (Or.inl hj))
theorem jGs.rgt (h : jGs T (js ++ ks)) : jGs T ks := fun j hj => h j (List.mem_append.mpr (Or.inr hj))
theorem jGs.one (h : jGs T [j]) : jG T j := h j (List.mem_singleton.mpr rfl)
theorem ksE_1 (h : ¬ j.1 = 7) : ksE [j] = [j] := ksE_n (js := []) h
theorem kGo.one (h : ¬ j.1 = 7) : kGo [j] := kGo.nx (js := []) kGo.nl h
theorem LyR.n1 {o a1 b1 c1 d1 p q r v : Int32} (h : ¬ o = 18) (e : (p, q, r, v) = rB T (j1 o a1 b1 c1 d1)) : LyR T (ly T n p q r v) n [j1 o a1 b1 c1 d1] := LyR.one h e
theorem ksE_j {o a1 b1 c1 d1 : Int32} (h : ¬ o = 7) : ksE (js ++ [j1 o a1 b1 c1 d1]) = ksE js ++ [j1 o a1 b1 c1 d1] := ksE_n h
theorem kGo.nj {o a1 b1 c1 d1 : Int32} (hg : kGo js) (h : ¬ o = 7) : kGo (js ++ [j1 o a1 b1 c1 d1]) := hg.nx h
theorem lb_14 (hm : m < 8200) (h50 : T.1 50 m = 14) (h52 : T.1 52 m = nI q) (hq : q < 8200) (h60 : T.1 60 q = tl) (hj : jG T (j1 6 (T.1 61 m) tl ty 0)) (hP : LyP T s n) (hn : n < 12000) : wp (RR nf (d + 2) 104 T [nI m] []) (fun _ _ T' => LyR T T' n [j1 6 (T.1 61 m) tl ty 0]) := by
  have zm : inb (nI m) 8200 := nin (by omega) (by omega)
  have cm : (nI m).toNatClampNeg = m := nc (by omega)
  have zq : inb (nI q) 8200 := nin (by omega) (by omega)
  have cq : (nI q).toNatClampNeg = q := nc (by omega)
  obtain ⟨p, u, rfl, p1, p2, p3, p4⟩ := hj.1 (Or.inl rfl)
  have h5 := hP.2.2.2.2
  have h4 := hP.2.2.2.1
  have zp : inb (nI p) 6000 := nin (by omega) (by omega)
  have cp : (nI p).toNatClampNeg = p := nc (by omega)
  have zu : inb (nI u) 24 := nin (by omega) (by omega)
  rw [e_Model_layBehind nf (d + 1)]
  unfold rb_Model_layBehind
  simp only [gd, if_pos zm, cm, h50]
  rw [if_neg (by decide), if_pos trivial, h52, if_pos zq, cq, h60, if_pos zp, cp, p3, if_pos zu, x_lay hP.2.1 hn, bis]
  refine wp_some (LyR.n1 (by decide) ?_)
  show _ = (6, T.1 61 m, T.1 12 (tf T 69 (nI p)).toNatClampNeg, 0)
  unfold tf
  rw [cp, p3]
theorem lb_16 (hm : m < 8200) (h50 : T.1 50 m = 16) (hP : LyP T s n) (hn : n < 12000) : wp (RR nf (d + 2) 104 T [nI m] []) (fun _ _ T' => LyR T T' n [j1 10 0 tl ty 0]) := by
  have zm : inb (nI m) 8200 := nin (by omega) (by omega)
  have cm : (nI m).toNatClampNeg = m := nc (by omega)
  rw [e_Model_layBehind nf (d + 1)]
  unfold rb_Model_layBehind
  simp only [gd, if_pos zm, cm, h50]
  rw [if_neg (by decide), if_neg (by decide), if_neg (by decide), if_pos trivial, x_lay hP.2.1 hn, bis]
  exact wp_some (LyR.n1 (by decide) rfl)
theorem lb_17 (hm : m < 8200) (h50 : T.1 50 m = 17) (hP : LyP T s n) (hn : n < 12000) : wp (RR nf (d + 2) 104 T [nI m] []) (fun _ _ T' => LyR T T' n [j1 11 (T.1 61 m) tl ty 0]) := by
  have zm : inb (nI m) 8200 := nin (by omega) (by omega)
  have cm : (nI m).toNatClampNeg = m := nc (by omega)
  rw [e_Model_layBehind nf (d + 1)]
  unfold rb_Model_layBehind
  simp only [gd, if_pos zm, cm, h50]
  rw [if_neg (by decide), if_neg (by decide), if_neg (by decide), if_neg (by decide), if_pos trivial, x_lay hP.2.1 hn, bis]
  exact wp_some (LyR.n1 (by decide) rfl)
theorem lb_15 (hm : m < 8200) (h50 : T.1 50 m = 15) (h53 : T.1 53 m = z) (hn : n + ks.length < 12000) (h : wp (RR nf (d + 1) 103 T [z] []) (fun _ _ T' => LyR T T' n ks)) : wp (RR nf (d + 2) 104 T [nI m] []) (fun _ _ T' => LyR T T' n (ks ++ [j1 8 tl ty 0 0])) := by
  have zm : inb (nI m) 8200 := nin (by omega) (by omega)
  have cm : (nI m).toNatClampNeg = m := nc (by omega)
  obtain ⟨r, v, T1, e1, w1⟩ := h
  rw [e_Model_layBehind nf (d + 1)]
  unfold rb_Model_layBehind
  simp only [gd, if_pos zm, cm, h50]
  rw [if_neg (by decide), if_neg (by decide), if_pos trivial, h53, e1, bis, x_lay w1.1.2.1 hn, bis]
  exact wp_some (LyR.tr w1 (LyR.n1 (by decide) rfl))
theorem lb_13 {o : Int32} (hm : m < 8200) (h50 : T.1 50 m = 13) (h53 : T.1 53 m = z) (h54 : T.1 54 m = o) (h52 : T.1 52 m = nI q) (hq : q < 8200) (h60 : T.1 60 q = tl) (h6m : T.1 60 m = ty) (hj : tR T ty) (hcn : cn T ≤ 6000) (hn : n + ks.length < 12000) (h : wp (RR nf (d + 1) 103 T [z] []) (fun _ _ T' => LyR T T' n ks)) : wp (RR nf (d + 2) 104 T [nI m] []) (fun _ _ T' => LyR T T' n (ks ++ [j1 19 o tl x ty])) := by
  have zm : inb (nI m) 8200 := nin (by omega) (by omega)
  have cm : (nI m).toNatClampNeg = m := nc (by omega)
  have zq : inb (nI q) 8200 := nin (by omega) (by omega)
  have cq : (nI q).toNatClampNeg = q := nc (by omega)
  obtain ⟨r, v, T1, e1, w1⟩ := h
  have ec : cn T1 = cn T := by unfold cn; rw [w1.1.o (by omega)]
  have tk : tOk (cn T1) ty := by rw [ec]; exact hj.tk
  have eR : isRo T1 ty = isRo T ty := by unfold isRo; rw [w1.1.o (k := 66) (by omega)]
  rw [e_Model_layBehind nf (d + 1)]
  unfold rb_Model_layBehind
  simp only [gd, if_pos zm, cm, h50]
  rw [if_pos trivial, h53, e1, bis, w1.1.o (k := 60) (by omega), h6m, x_isRo tk (by omega), bis, w1.1.o (k := 54) (by omega), h54, w1.1.o (k := 52) (by omega), h52, if_pos zq, cq, w1.1.o (k := 60) (by omega), h60]
  by_cases c : isRo T1 ty = 0
  · rw [if_pos c]
    by_cases c2 : o = 256
    · rw [if_pos c2]
      by_cases c3 : tl = 0
      · rw [if_pos c3, x_lay w1.1.2.1 hn, bis]
        refine wp_some (LyR.tr w1 (LyR.n1 (by decide) ?_))
        show _ = if isRo T1 ty = 0 then (if o = 256 ∧ ¬ tl = 0 then ((21 : Int32), (0 : Int32), (0 : Int32), (0 : Int32)) else (19, o, 0, 0)) else (20, 0, 0, 0)
        rw [if_pos c, if_neg (fun w => w.2 c3)]
      · rw [if_neg c3, x_lay w1.1.2.1 hn, bis]
        refine wp_some (LyR.tr w1 (LyR.n1 (by decide) ?_))
        show _ = if isRo T1 ty = 0 then (if o = 256 ∧ ¬ tl = 0 then ((21 : Int32), (0 : Int32), (0 : Int32), (0 : Int32)) else (19, o, 0, 0)) else (20, 0, 0, 0)
        rw [if_pos c, if_pos ⟨c2, c3⟩]
    · rw [if_neg c2, x_lay w1.1.2.1 hn, bis]
      refine wp_some (LyR.tr w1 (LyR.n1 (by decide) ?_))
      show _ = if isRo T1 ty = 0 then (if o = 256 ∧ ¬ tl = 0 then ((21 : Int32), (0 : Int32), (0 : Int32), (0 : Int32)) else (19, o, 0, 0)) else (20, 0, 0, 0)
      rw [if_pos c, if_neg (fun w => c2 w.1)]
  · rw [if_neg c, x_lay w1.1.2.1 hn, bis]
    refine wp_some (LyR.tr w1 (LyR.n1 (by decide) ?_))
    show _ = if isRo T1 ty = 0 then (if o = 256 ∧ ¬ tl = 0 then ((21 : Int32), (0 : Int32), (0 : Int32), (0 : Int32)) else (19, o, 0, 0)) else (20, 0, 0, 0)
    rw [if_neg c]
end LYB
