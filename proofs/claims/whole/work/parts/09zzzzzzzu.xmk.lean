/-! makes counted ahead of a check or behind it: all the same -/
def mkC (C : ChR) : ChR := (C.1, C.2.1, C.2.2.1, mkS C.2.2.2)
section CYU
variable {T T' S : gSt} {X : Lx} {k i j n m q e f : Nat} {x y v w a b r s pl pr : Int32} {z : T5} {nm : Int64} {A B : ChF} {ta tb : Tr} {js : List T5}
theorem mk_i (h : k ≠ 91) : (mkS T).1 k = T.1 k := by
  unfold mkS
  rw [sI_ne h]
theorem mk_w (h : k ≠ 91) : mkS (sI T k i v) = sI (mkS T) k i v := by
  refine Prod.ext ?_ rfl
  funext g j
  unfold mkS
  simp only [rdI]
  by_cases c : g = 91 ∧ j = 0
  · rw [if_pos c, if_neg (fun h2 => h h2.1.symm), if_neg (show ¬ (g = k ∧ j = i) from fun h2 => h (h2.1.symm.trans c.1)), if_pos c]
  · rw [if_neg c, if_neg c]
theorem mk_2 : (mkS T).2 = T.2 := rfl
theorem mI_7 : (mkS T).1 7 = T.1 7 := mk_i (by omega)
theorem mI_8 : (mkS T).1 8 = T.1 8 := mk_i (by omega)
theorem mI_11 : (mkS T).1 11 = T.1 11 := mk_i (by omega)
theorem mI_12 : (mkS T).1 12 = T.1 12 := mk_i (by omega)
theorem mI_15 : (mkS T).1 15 = T.1 15 := mk_i (by omega)
theorem mI_18 : (mkS T).1 18 = T.1 18 := mk_i (by omega)
theorem mI_19 : (mkS T).1 19 = T.1 19 := mk_i (by omega)
theorem mI_24 : (mkS T).1 24 = T.1 24 := mk_i (by omega)
theorem mI_25 : (mkS T).1 25 = T.1 25 := mk_i (by omega)
theorem mI_26 : (mkS T).1 26 = T.1 26 := mk_i (by omega)
theorem mI_30 : (mkS T).1 30 = T.1 30 := mk_i (by omega)
theorem mI_31 : (mkS T).1 31 = T.1 31 := mk_i (by omega)
theorem mI_65 : (mkS T).1 65 = T.1 65 := mk_i (by omega)
theorem mI_66 : (mkS T).1 66 = T.1 66 := mk_i (by omega)
theorem mI_67 : (mkS T).1 67 = T.1 67 := mk_i (by omega)
theorem mI_68 : (mkS T).1 68 = T.1 68 := mk_i (by omega)
theorem mI_69 : (mkS T).1 69 = T.1 69 := mk_i (by omega)
theorem mI_70 : (mkS T).1 70 = T.1 70 := mk_i (by omega)
theorem mI_71 : (mkS T).1 71 = T.1 71 := mk_i (by omega)
theorem mI_73 : (mkS T).1 73 = T.1 73 := mk_i (by omega)
theorem mI_74 : (mkS T).1 74 = T.1 74 := mk_i (by omega)
theorem mI_75 : (mkS T).1 75 = T.1 75 := mk_i (by omega)
theorem mI_76 : (mkS T).1 76 = T.1 76 := mk_i (by omega)
theorem mI_77 : (mkS T).1 77 = T.1 77 := mk_i (by omega)
theorem mI_79 : (mkS T).1 79 = T.1 79 := mk_i (by omega)
theorem mI_80 : (mkS T).1 80 = T.1 80 := mk_i (by omega)
theorem mI_81 : (mkS T).1 81 = T.1 81 := mk_i (by omega)
theorem mI_82 : (mkS T).1 82 = T.1 82 := mk_i (by omega)
theorem mI_87 : (mkS T).1 87 = T.1 87 := mk_i (by omega)
theorem mI_88 : (mkS T).1 88 = T.1 88 := mk_i (by omega)
theorem mI_89 : (mkS T).1 89 = T.1 89 := mk_i (by omega)
theorem mI_90 : (mkS T).1 90 = T.1 90 := mk_i (by omega)
theorem mk_cn : cn (mkS T) = cn T := by
  unfold cn
  rw [mI_65]
theorem mk_fl : flT (mkS T) a b = mkS (flT T a b) := by
  unfold flT failS
  rw [mI_7]
  by_cases h : T.1 7 0 = 0
  · rw [if_pos h, if_pos h, mk_w (by omega), mk_w (by omega)]
  · rw [if_neg h, if_neg h]
theorem mk_ad : adT (mkS T) n z = mkS (adT T n z) := by
  unfold adT
  rw [mk_w (by omega), mk_w (by omega), mk_w (by omega), mk_w (by omega), mk_w (by omega), mk_w (by omega)]
theorem mk_eqT : eqT (mkS T) z = eqT T z := by
  funext p
  unfold eqT rwT
  simp only [mk_2, mI_7, mI_8, mI_11, mI_12, mI_15, mI_18, mI_19, mI_24, mI_25, mI_26, mI_30, mI_31, mI_65, mI_66, mI_67, mI_68, mI_69, mI_70, mI_71, mI_73, mI_74, mI_75, mI_76, mI_77, mI_79, mI_80, mI_81, mI_82, mI_87, mI_88, mI_89, mI_90]
theorem mk_knF : knF (mkS T) z = knF T z := by
  unfold knF
  rw [mk_eqT, mk_cn]
theorem mk_knR : knR (mkS T) z = knR T z := by
  unfold knR
  rw [mk_knF, mI_65]
theorem mk_knS : knS (mkS T) z = mkS (knS T z) := by
  unfold knS
  rw [mk_knF, mk_cn]
  by_cases h : knF T z = -1
  · rw [if_pos h, if_pos h]
    by_cases h2 : cn T < 6000
    · rw [if_pos h2, if_pos h2, mk_ad]
    · rw [if_neg h2, if_neg h2, mk_w (by omega)]
  · rw [if_neg h, if_neg h]
theorem mk_chT : ∀ (f : Nat) (T : gSt) (x : Int32), chT f (mkS T) x w = ((chT f T x w).1, mkS (chT f T x w).2) := by
  intro f
  induction f with
  | zero => intro T x; rfl
  | succ f ih =>
    intro T x
    rw [chT, chT]
    simp only [mk_2, mI_7, mI_8, mI_11, mI_12, mI_15, mI_18, mI_19, mI_24, mI_25, mI_26, mI_30, mI_31, mI_65, mI_66, mI_67, mI_68, mI_69, mI_70, mI_71, mI_73, mI_74, mI_75, mI_76, mI_77, mI_79, mI_80, mI_81, mI_82, mI_87, mI_88, mI_89, mI_90, ih, kn, mk_knR, mk_knS]
    by_cases h : 0 < x
    · simp only [if_pos h]
      by_cases h2 : 0 ≤ T.1 69 x.toNatClampNeg
      · simp only [if_pos h2]
      · simp only [if_neg h2]
    · simp only [if_neg h]
theorem mk_rgV : ∀ n, rgV (mkS T) nm n = rgV T nm n := by
  intro n
  induction n with
  | zero => rfl
  | succ n ih =>
    rw [rgV, rgV, ih]
    simp only [mk_2, mI_7, mI_8, mI_11, mI_12, mI_15, mI_18, mI_19, mI_24, mI_25, mI_26, mI_30, mI_31, mI_65, mI_66, mI_67, mI_68, mI_69, mI_70, mI_71, mI_73, mI_74, mI_75, mI_76, mI_77, mI_79, mI_80, mI_81, mI_82, mI_87, mI_88, mI_89, mI_90, isRg]
    rfl
theorem mk_rn : rn (mkS T) = rn T := by
  unfold rn
  rw [mI_71]
theorem mk_rgQ : rgQ X (mkS T) q = rgQ X T q := by
  unfold rgQ
  rw [mk_rgV, mk_rn]
theorem mk_srR : srR X (mkS T) q = srR X T q := by
  unfold srR
  rw [mk_rgQ]
theorem mk_srS : srS X (mkS T) q = mkS (srS X T q) := by
  unfold srS
  rw [mk_rgQ, mk_fl]
  split <;> rfl
theorem mk_isLv : isLv (mkS T) x = isLv T x := by
  unfold isLv
  simp only [mk_2, mI_7, mI_8, mI_11, mI_12, mI_15, mI_18, mI_19, mI_24, mI_25, mI_26, mI_30, mI_31, mI_65, mI_66, mI_67, mI_68, mI_69, mI_70, mI_71, mI_73, mI_74, mI_75, mI_76, mI_77, mI_79, mI_80, mI_81, mI_82, mI_87, mI_88, mI_89, mI_90]
theorem mk_slS : slS X (mkS T) q = mkS (slS X T q) := by
  unfold slS
  rw [mk_srS, mk_srR, mI_7, mk_isLv, mk_fl]
  split <;> rfl
theorem mk_waX : ∀ (m k : Nat) (T : gSt) (all : Int32), waX X m (mkS T) q k all = ((waX X m T q k all).1, mkS (waX X m T q k all).2) := by
  intro m
  induction m with
  | zero => intro k T all; rfl
  | succ m ih =>
    intro k T all
    rw [waX, waX, mI_7]
    by_cases h : T.1 7 0 = 0
    · rw [if_pos h, if_pos h, mk_srS, mk_srR, ih]
    · rw [if_neg h, if_neg h]
theorem mk_inC : ∀ (f : Nat) (c : Int32), inC (mkS T) r f c = inC T r f c := inC_eq mI_74
theorem mk_isPt : isPt (mkS T) x = isPt T x := by
  unfold isPt
  rw [mI_66]
theorem mk_isRo : isRo (mkS T) x = isRo T x := by
  unfold isRo
  rw [mI_66]
theorem mk_isTd : isTd (mkS T) x = isTd T x := by
  unfold isTd
  rw [mk_isPt, mI_69]
theorem mk_sameC : sameC (mkS T) x y = sameC T x y := by
  unfold sameC
  rw [mI_68, mI_69, mI_70]
theorem mk_dOv : dOv (mkS T) r s = dOv T r s := by
  unfold dOv
  rw [mI_76, mk_isLv, mk_inC, mI_74]
theorem mk_mfI : mfI (mkS T) x y = mfI T x y := by
  unfold mfI
  simp only [mI_66, mI_67, mk_sameC, mk_dOv]
theorem mk_ftS : ftS (mkS T) x y v = mkS (ftS T x y v) := by
  unfold ftS failS
  rw [mI_7, mk_mfI]
  by_cases h : T.1 7 0 = 0 ∧ ¬ mfI T x y ≤ 0
  · rw [if_pos h, if_pos h, mk_w (by omega), mk_w (by omega)]
  · rw [if_neg h, if_neg h]
theorem mk_tf (h : k ≠ 91) : tf (mkS T) k x = tf T k x := by
  unfold tf
  rw [mk_i h]
theorem mk_vn : vn (mkS T) = vn T := by
  unfold vn
  rw [mI_77]
theorem mk_inn : inn (mkS T) = inn T := by
  unfold inn
  rw [mI_11]
theorem mk_isVa : isVa (mkS T) nm = isVa T nm := rfl
theorem mk_isFi : isFi (mkS T) n nm = isFi T n nm := rfl
theorem mk_isFu : isFu (mkS T) nm = isFu T nm := by
  funext p
  unfold isFu
  rw [mI_12, mk_2]
theorem mk_isTi : isTi (mkS T) nm = isTi T nm := by
  funext p
  unfold isTi
  rw [mI_12, mk_2]
theorem mk_nmC : nmC (mkS T) nm pl = ((nmC T nm pl).1, (nmC T nm pl).2.1, mkS (nmC T nm pl).2.2) := by
  unfold nmC
  simp only [mk_isVa, mk_vn, mI_81, mI_82, mk_tf (show 79 ≠ 91 by omega), mk_tf (show 80 ≠ 91 by omega), mk_tf (show 66 ≠ 91 by omega), mk_tf (show 67 ≠ 91 by omega), mk_tf (show 68 ≠ 91 by omega), mk_tf (show 69 ≠ 91 by omega), mk_tf (show 70 ≠ 91 by omega), mk_knR, mk_knS, mk_fl]
  repeat' split
  all_goals rfl
theorem mk_thOk : thOk (mkS T) x y = thOk T x y := by
  unfold thOk
  simp only [mk_isPt, mk_isTd, mI_12, mk_tf (show 69 ≠ 91 by omega)]
theorem mk_fnF : fnF (mkS T) x nm = fnF T x nm := by
  unfold fnF
  rw [mk_isFi, mI_18, mI_19]
theorem mk_fty : fty (mkS T) x y = fty T x y := by
  unfold fty
  rw [mI_24, mI_18]
theorem mk_nuS : nuS (mkS T) x = mkS (nuS T x) := by
  unfold nuS
  rw [mk_w (by omega), mI_88, mk_tf (by omega)]
theorem mk_tgS : tgS (mkS T) x = mkS (tgS T x) := by
  unfold tgS
  rw [mk_w (by omega), mI_90, mI_12]
theorem mk_thC : thC (mkS T) x y nm pl pr = ((thC T x y nm pl pr).1, (thC T x y nm pl pr).2.1, mkS (thC T x y nm pl pr).2.2) := by
  unfold thC
  simp only [mk_thOk, mk_isLv, mk_tf (show 67 ≠ 91 by omega), mk_tf (show 68 ≠ 91 by omega), mk_tf (show 69 ≠ 91 by omega), mk_tf (show 70 ≠ 91 by omega), mk_fnF, mk_nuS, mk_tgS, mk_fty, mk_chT, mk_fl]
  repeat' split
  all_goals rfl
theorem mk_ixC : ixC (mkS T) x y pl pr = ((ixC T x y pl pr).1, mkS (ixC T x y pl pr).2) := by
  unfold ixC
  simp only [mk_isRo, mk_isLv, mk_tf (show 67 ≠ 91 by omega), mk_tf (show 68 ≠ 91 by omega), mk_fl, mI_89, ← mk_w (show 89 ≠ 91 by omega)]
  repeat' split
  all_goals rfl
theorem mk_opC : opC (mkS T) v x y pl pr = ((opC T v x y pl pr).1, mkS (opC T v x y pl pr).2) := by
  unfold opC
  simp only [mk_isRo, mk_isPt, mk_sameC, mk_dOv, mk_isLv, mk_tf (show 67 ≠ 91 by omega), mk_fl]
  repeat' split
  all_goals rfl
theorem mk_cdd : ∀ (m k : Nat) (T : gSt), cddS X x w q m k (mkS T) = mkS (cddS X x w q m k T) := by
  intro m
  induction m with
  | zero => intro k T; rfl
  | succ m ih =>
    intro k T
    rw [cddS, cddS, mI_7, mI_30, mk_isLv, mk_fl]
    by_cases h : T.1 7 0 = 0
    · rw [if_pos h, if_pos h]
      by_cases h2 : ((T.1 30 x.toNatClampNeg >>> ((nI k + 1) &&& 31)) &&& 1) = 0 ∧ isLv T (ptOf w (nI k)) = 0
      · rw [if_pos h2, if_pos h2, ih]
      · rw [if_neg h2, if_neg h2, ih]
    · rw [if_neg h, if_neg h]
theorem mk_roI : roI (mkS T) n nm = roI T n nm := by
  have : isRi (mkS T) n nm = isRi T n nm := rfl
  unfold roI
  rw [this, mI_15]
theorem mk_cwh : ∀ (m k : Nat) (T : gSt), cwhS X x w q m k (mkS T) = mkS (cwhS X x w q m k T) := by
  intro m
  induction m with
  | zero => intro k T; rfl
  | succ m ih =>
    intro k T
    rw [cwhS, cwhS, mI_7, mk_2, mk_roI, mk_roI, mk_dOv, mk_fl]
    by_cases h : T.1 7 0 = 0
    · rw [if_pos h, if_pos h, ← ih]
      congr 1
      split <;> rfl
    · rw [if_neg h, if_neg h]
theorem mk_er : erR (mkS T) = mkC (erR T) := rfl
theorem mk_if {c : Prop} [Decidable c] {P Q : ChR} : mkC (if c then P else Q) = if c then mkC P else mkC Q := by
  split <;> rfl
theorem mk_ift {c : Prop} [Decidable c] {P Q : gSt} : mkS (if c then P else Q) = if c then mkS P else mkS Q := by
  split <;> rfl
theorem mk_agC (hA : ∀ f w S, A f w (mkS S) = mkC (A f w S)) (hB : ∀ f w S, B f w (mkS S) = mkC (B f w S)) : agC X A B ta f w (mkS S) = mkC (agC X A B ta f w S) := by
  unfold agC
  simp only [hA, mkC, mI_7, mI_24, mk_chT, mk_ftS, hB]
  split <;> rfl
theorem mk_clD (hA : ∀ f w S, A f w (mkS S) = mkC (A f w S)) : clD X A ta i e x w (mkS S) = (mkC (clD X A ta i e x w S).1, mkS (clD X A ta i e x w S).2) := by
  unfold clD
  dsimp only
  rw [mI_19, mk_fl, ← mk_ift]
  generalize (if nI (lenT ta) = S.1 19 x.toNatClampNeg then S else flT S 7 (nI (xP X i))) = S1
  rw [mI_7, mI_18, hA, mk_er, ← mk_if]
  generalize (if S1.1 7 0 = 0 then A (S1.1 18 x.toNatClampNeg).toNatClampNeg w S1 else erR S1) = C
  dsimp only [mkC]
  rw [mI_31, mk_cdd, mk_cwh]
theorem mk_clC (hA : ∀ f w S, A f w (mkS S) = mkC (A f w S)) : clC X A ta i e (mkS S) = mkC (clC X A ta i e S) := by
  unfold clC
  dsimp only
  rw [mk_isFu, mk_inn, mI_15, mk_fl, mk_fl, ← mk_ift, ← mk_ift]
  generalize ff (isFu S (xN X i)) 0 (inn S) = fi
  generalize (if 0 ≤ fi then if S.1 15 fi.toNatClampNeg = nI e then S else flT S 7 (nI (xP X i)) else flT S 3 (nI (xP X i))) = S1
  rw [mI_7, mk_waX]
  dsimp only
  generalize waX X (if S1.1 7 0 = 0 then e else 0) S1 (i + 1) 0 0 = W
  rw [mI_7, mk_clD hA]
  dsimp only
  generalize clD X A ta i e fi W.1 W.2 = D
  rw [mI_7, mI_25, mI_26, mk_chT]
  dsimp only [mkC]
  by_cases h : W.2.1 7 0 = 0
  · simp only [if_pos h]
    by_cases h2 : D.2.1 7 0 = 0
    · simp only [if_pos h2]
      by_cases h3 : 0 ≤ D.2.1 25 fi.toNatClampNeg
      · simp only [if_pos h3]
      · simp only [if_neg h3]
    · simp only [if_neg h2]
      rfl
  · simp only [if_neg h]
    rfl
theorem mk_nwD (hA : ∀ f w S, A f w (mkS S) = mkC (A f w S)) : nwD X A ta i e r x w (mkS S) = mkC (nwD X A ta i e r x w S) := by
  unfold nwD
  by_cases h49 : xK X (i + 3 + e) = 49
  · simp only [if_pos h49, show ¬ (1 : Int32) = 0 by decide, if_false, mI_12, mk_fl]
    by_cases h12 : S.1 12 x.toNatClampNeg = 1
    · simp only [if_pos h12, mI_7, hA, mkC, mk_fnF, mk_fty, mk_chT, mk_ftS, mk_fl, mk_knR, mk_knS]
      repeat' split
      all_goals rfl
    · simp only [if_neg h12, mI_7, hA, mkC, mk_fnF, mk_fty, mk_chT, mk_ftS, mk_fl, mk_knR, mk_knS]
      repeat' split
      all_goals rfl
  · simp only [if_neg h49, if_true, mI_12, mI_19, mk_fl]
    by_cases h12 : S.1 12 x.toNatClampNeg = 0
    · simp only [if_pos h12]
      by_cases hl : nI (lenT ta) = S.1 19 x.toNatClampNeg
      · simp only [if_pos hl, mI_7, mI_18, hA, mkC, mk_knR, mk_knS]
        repeat' split
        all_goals rfl
      · simp only [if_neg hl, mI_7, mI_18, hA, mkC, mk_knR, mk_knS]
        repeat' split
        all_goals rfl
    · simp only [if_neg h12, mI_7, mI_18, hA, mkC, mk_knR, mk_knS]
      repeat' split
      all_goals rfl
theorem mk_nwC (hA : ∀ f w S, A f w (mkS S) = mkC (A f w S)) : nwC X A ta i e (mkS S) = mkC (nwC X A ta i e S) := by
  unfold nwC
  dsimp only
  rw [mk_slS, mk_srR]
  generalize slS X S (i + 1) = S0
  rw [mI_7, mk_isTi, mk_inn, mI_15, mk_fl, mk_fl, ← mk_ift, ← mk_ift]
  generalize ff (isTi S0 (xN X (i + 2))) 0 (inn S0) = ti
  generalize (if 0 ≤ ti then if S0.1 15 ti.toNatClampNeg = nI e then S0 else flT S0 7 (nI (xP X (i + 2))) else flT S0 3 (nI (xP X (i + 2)))) = S1
  rw [mk_waX]
  dsimp only
  rw [mI_7, mk_nwD hA, mk_er, ← mk_if, mk_er, ← mk_if]
theorem mk_mdC (hA : ∀ f w S, A f w (mkS S) = mkC (A f w S)) : mdC X A ta x r js (mkS S) = mkC (mdC X A ta x r js S) := by
  unfold mdC
  simp only [hA, mkC, mI_7, mk_fl]
  by_cases c : (A 0 0 S).2.2.2.1 7 0 = 0 ∧ ¬ 0 ≤ (A 0 0 S).1
  · simp only [if_pos c, mI_7, mk_knR, mk_knS]
    split <;> rfl
  · simp only [if_neg c, mI_7, mk_knR, mk_knS]
    split <;> rfl
theorem mk_rwC (hA : ∀ f w S, A f w (mkS S) = mkC (A f w S)) (hB : ∀ f w S, B f w (mkS S) = mkC (B f w S)) : rwC X A B ta tb i (mkS S) = mkC (rwC X A B ta tb i S) := by
  unfold rwC
  simp only [mk_slS, mk_srR, mI_7, hA, mkC, mk_fl]
  by_cases c : (A 0 0 (slS X S (i + 1))).2.2.2.1 7 0 = 0 ∧ ¬ (A 0 0 (slS X S (i + 1))).1 = 0
  · simp only [if_pos c, mk_mdC hB]
    split <;> rfl
  · simp only [if_neg c, mk_mdC hB]
    split <;> rfl
theorem mk_anC (hA : ∀ f w S, A f w (mkS S) = mkC (A f w S)) : anC X A ta (mkS S) = mkC (anC X A ta S) := by
  unfold anC
  simp only [hA, mk_fl, mkC, mI_7, mI_12, mk_tf (show 69 ≠ 91 by omega), mk_tf (show 67 ≠ 91 by omega), mk_knR, mk_knS]
  repeat' split
  all_goals rfl
theorem mk_nnC (hA : ∀ f w S, A f w (mkS S) = mkC (A f w S)) : nnC X A ta (mkS S) = mkC (nnC X A ta S) := by
  unfold nnC
  simp only [hA, mk_fl, mkC, mI_7, mk_isPt, mk_nuS, mk_tf (show 66 ≠ 91 by omega), mk_tf (show 67 ≠ 91 by omega), mk_tf (show 68 ≠ 91 by omega), mk_tf (show 69 ≠ 91 by omega), mk_tf (show 70 ≠ 91 by omega), mk_knR, mk_knS]
  repeat' split
  all_goals rfl
theorem mk_szC (hA : ∀ f w S, A f w (mkS S) = mkC (A f w S)) : szC X A ta (mkS S) = mkC (szC X A ta S) := by
  unfold szC
  simp only [hA, mk_fl, mkC, mI_7, mk_isRo]
  repeat' split
  all_goals rfl
theorem mk_lfC : lfC X i (mkS S) = mkC (lfC X i S) := by
  unfold lfC
  simp only [mI_87, mk_fl, mk_nmC]
  repeat' split
  all_goals rfl
theorem mk_tlC (hA : ∀ f w S, A f w (mkS S) = mkC (A f w S)) : tlC X A ta i (mkS S) = mkC (tlC X A ta i S) := by
  unfold tlC
  simp only [hA, mkC, mI_7, mk_thC]
  split <;> rfl
theorem mk_exC (hA : ∀ f w S, A f w (mkS S) = mkC (A f w S)) (hB : ∀ f w S, B f w (mkS S) = mkC (B f w S)) : exC X A B ta tb (mkS S) = mkC (exC X A B ta tb S) := by
  unfold exC
  simp only [hA, hB, mkC, mI_7, mk_ixC]
  repeat' split
  all_goals rfl
theorem mk_bnC (hA : ∀ f w S, A f w (mkS S) = mkC (A f w S)) (hB : ∀ f w S, B f w (mkS S) = mkC (B f w S)) : bnC X A B ta tb x (mkS S) = mkC (bnC X A B ta tb x S) := by
  unfold bnC
  simp only [hA, hB, mkC, mI_7, mk_opC]
  repeat' split
  all_goals rfl
theorem chk_mk (tr : Tr) : ∀ (f : Nat) (w : Int32) (S : gSt), chk X tr f w (mkS S) = mkC (chk X tr f w S) := by
  induction tr using Tr_ind with
  | hz t hz =>
    intro f w S
    unfold chk
    split
    · exact absurd rfl (hz _ _ _ _ _)
    · rfl
  | h k i e ta tb ihA ihB =>
    intro f w S
    rw [chk_n, chk_n, mI_7]
    by_cases h : S.1 7 0 = 0
    · rw [if_pos h, if_pos h]
      unfold chN clLv
      simp only [mk_lfC, ihA, mk_tlC ihA, mk_exC ihA ihB, mk_bnC ihA ihB, mk_clC ihA, mk_nwC ihA, mk_slS, mk_srR, mk_mdC ihA, mk_rwC ihA ihB, mk_nnC ihA, mk_szC ihA, mk_anC ihA, mk_agC ihA ihB, ← mk_if]
    · rw [if_neg h, if_neg h]
      rfl
end CYU
