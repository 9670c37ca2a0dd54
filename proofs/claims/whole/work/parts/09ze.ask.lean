/-! questions: which var is asked for, which are given -/
/-- the token of a leaf, through parentheses -/
def lfI : Tr → Nat
  | .add (.add (.var k) (.add (.var i) (.var _))) (.add a _) => if k = 2 then lfI a else i
  | _ => 0
def isZ : Tr → Bool
  | .num _ => true
  | _ => false
def akY (X : Lx) (t : Tr) (T : gSt) : Int32 := if tkd X t = 4 then akV T (xN X (lfI t)) else -1
def akN (X : Lx) : Tr → gSt → Int32
  | .add (.add (.var k) (.add (.var _) (.var e))) (.add a b), T => if k = 2 then akN X a T else if k = 5 ∧ chK e = 256 ∧ tkd X a = 4 ∧ tkd X b = 1 then akV T (xN X (lfI a)) else -1
  | _, _ => -1
def cnT (T : gSt) (r pl : Int32) : gSt := if T.1 7 0 = 0 ∧ ¬ r = 0 ∧ isPt T r = 0 then flT T 4 pl else T
section AK
variable {nf d : Nat} {T T' T1 S : gSt} {X : Lx} {m n p u i k e l lo hi a b : Nat} {x y r t sl has pl : Int32} {nm : Int64} {P : Int32 → gSt → Prop} {ta tb : Tr}
/-- a condition -/
theorem x_cond (hn : n < 8200) (h51 : T.1 51 n = pl) (hB : wp (RR nf (d + 1) 86 T [nI n] []) (fun r _ T' => P r T')) (hP : ∀ r T', P r T' → Bh T T' ∧ (T'.1 7 0 = 0 → tR (er T') r)) : wp (RR nf (d + 2) 76 T [nI n] []) (fun _ _ T' => ∃ r1 T1, P r1 T1 ∧ T' = cnT T1 r1 pl) := by
  have zn : inb (nI n) 8200 := nin (by omega) (by omega)
  have cn' : (nI n).toNatClampNeg = n := nc (by omega)
  rw [e_Model_checkCondition nf (d + 1)]
  unfold rb_Model_checkCondition
  refine wp_bi hB ?_
  intro r1 _ T1 hp
  obtain ⟨⟨hS, hC, hc⟩, h2⟩ := hP r1 T1 hp
  have o51 : T1.1 51 n = pl := by rw [hS.1 51 (by omega) rfl]; exact h51
  refine wp_mono (R := fun _ _ T' => T' = cnT T1 r1 pl) ?_ (fun r _ T' q => ⟨r1, T1, hp, q⟩)
  unfold cnT
  by_cases c0 : T1.1 7 0 = 0
  · refine wp_be (x_bd0 c0) (wp_t rfl ?_)
    by_cases c1 : r1 = 0
    · rw [if_neg (show ¬ (T1.1 7 0 = 0 ∧ ¬ r1 = 0 ∧ isPt T1 r1 = 0) from fun q => q.2.1 c1)]
      exact wp_t c1 (wp_some rfl)
    · refine wp_f c1 (wp_be (x_isPt (h2 c0).ok (by omega)) ?_)
      by_cases c2 : isPt T1 r1 = 0
      · rw [if_pos (show T1.1 7 0 = 0 ∧ ¬ r1 = 0 ∧ isPt T1 r1 = 0 from ⟨c0, c1, c2⟩)]
        refine wp_t c2 (wp_gd zn ?_)
        rw [cn', o51]
        exact wp_be x_fail (wp_some rfl)
      · rw [if_neg (show ¬ (T1.1 7 0 = 0 ∧ ¬ r1 = 0 ∧ isPt T1 r1 = 0) from fun q => c2 q.2.2)]
        exact wp_f c2 (wp_some rfl)
  · rw [if_neg (show ¬ (T1.1 7 0 = 0 ∧ ¬ r1 = 0 ∧ isPt T1 r1 = 0) from fun q => c0 q.1)]
    exact wp_be (x_bd1 c0) (wp_f (by decide) (wp_some rfl))
theorem RepM_nm (t : Tr) : ∀ (lo hi a b : Nat) (x : Int32), RepM X T t lo hi x → Wf X t false a b → tkd X t = 4 → ∃ m, x = nI m ∧ m < hi ∧ T.2 56 m = xN X (lfI t) := by
  induction t using Tr_ind with
  | hz t hz =>
    intro lo hi a b x h hw
    unfold Wf at hw
    split at hw
    · rename_i k i e a b
      exact absurd rfl (hz k i e a b)
    · exact absurd hw.1 (by decide)
    · exact hw.elim
  | h k i e ta tb ihA ihB =>
    intro lo hi a b x h hw ht
    have key : tkd X (tD k i e ta tb) = if k = 2 then tkd X ta else if k = 1 then (if xK X i = 5 then 0 else if xK X i = 27 then 1 else if xK X i = 34 then 2 else if xK X i = 35 then 3 else 4) else if k = 3 then (if xK X i = 49 then 14 else if xK X i = 61 then 16 else 17) else if k = 4 then 15 else if k = 5 then 13 else if k = 6 then 5 else if k = 7 then (if xK X (i + 3 + e) = 49 then 7 else 6) else if k = 8 then (if xK X i = 29 then 8 else if xK X i = 30 then 9 else if xK X i = 31 then 11 else 12) else if k = 9 then 10 else 30 := rfl
    by_cases c2 : k = 2
    · subst c2
      rw [Wf_n] at hw
      unfold WfN at hw
      rw [if_neg (by decide), if_neg (by omega), if_pos rfl] at hw
      obtain ⟨c1, e1, e2, e3⟩ := hw
      rw [key, if_pos rfl] at ht
      exact ihA lo hi _ _ x h e2 ht
    by_cases c1 : k = 1
    · subst c1
      rw [RepM_n] at h
      unfold RpN at h
      rw [if_pos rfl] at h
      obtain ⟨h1, h2, h3, h4⟩ := h
      rw [key, if_neg (by omega), if_pos rfl] at ht
      refine ⟨lo, h1, by omega, ?_⟩
      by_cases g1 : xK X i = 5
      · rw [if_pos g1] at ht; omega
      rw [if_neg g1] at ht h4
      by_cases g2 : xK X i = 27
      · rw [if_pos g2] at ht; omega
      rw [if_neg g2] at ht h4
      by_cases g3 : xK X i = 34
      · rw [if_pos g3] at ht; omega
      rw [if_neg g3] at ht h4
      by_cases g4 : xK X i = 35
      · rw [if_pos g4] at ht; omega
      rw [if_neg g4] at h4
      exact h4.2.1
    exfalso
    rw [key, if_neg c2, if_neg c1] at ht
    revert ht
    (repeat' split) <;> omega
theorem x_askY (hC : Ck (er T)) (hc : cn T < 6000) (hnf : 5000 ≤ nf) {t : Tr} (hR : RepM X T t lo hi x) (hhi : hi ≤ 8200) (hw : Wf X t false a b) : RR nf (d + 2) 74 T [x, 0] [] = some (akY X t T, 0, T) := by
  obtain ⟨m, m1, m2, m3, m4, m5⟩ := RepM_nd t _ _ _ _ _ hR hw
  rw [e_Model_asked nf (d + 1)]
  unfold rb_Model_asked
  rw [if_pos rfl, m1, x_ask68 hC hc (by omega) hnf]
  unfold akY
  have t30 := tkd_lt (X := X) t
  by_cases c : tkd X t = 4
  · obtain ⟨m', m1', m2', m3'⟩ := RepM_nm t _ _ _ _ _ hR hw c
    have em : m = m' := nI_inj (by omega) (by omega) (m1.symm.trans m1')
    subst em
    rw [if_pos c, if_pos (show T.1 50 m = 4 by rw [m5, c]; rfl), m3']
  · rw [if_neg c, if_neg (show ¬ T.1 50 m = 4 from fun h => c (nI_inj (by omega) (by omega) (m5.symm.trans h)))]
theorem akN_n {T : gSt} : akN X (tD k i e ta tb) T = if k = 2 then akN X ta T else if k = 5 ∧ chK e = 256 ∧ tkd X ta = 4 ∧ tkd X tb = 1 then akV T (xN X (lfI ta)) else -1 := rfl
theorem x_askN (hC : Ck (er T)) (hc : cn T < 6000) (hnf : 5000 ≤ nf) (t : Tr) : ∀ (lo hi a b : Nat) (x : Int32), RepM X T t lo hi x → hi ≤ 8200 → Wf X t false a b → RR nf (d + 2) 74 T [x, 1] [] = some (akN X t T, 0, T) := by
  induction t using Tr_ind with
  | hz t hz =>
    intro lo hi a b x h hhi hw
    unfold Wf at hw
    split at hw
    · rename_i k i e a b
      exact absurd rfl (hz k i e a b)
    · exact absurd hw.1 (by decide)
    · exact hw.elim
  | h k i e ta tb ihA ihB =>
    intro lo hi a b x h hhi hw
    have hw0 := hw
    have hR0 := h
    rw [akN_n]
    by_cases c2 : k = 2
    · subst c2
      rw [Wf_n] at hw
      unfold WfN at hw
      rw [if_neg (by decide), if_neg (by omega), if_pos rfl] at hw
      obtain ⟨c1, e1, e2, e3⟩ := hw
      rw [if_pos rfl]
      exact ihA lo hi _ _ x h hhi e2
    rw [if_neg c2]
    obtain ⟨m, m1, m2, m3, m4, m5⟩ := RepM_nd _ _ _ _ _ _ h hw
    have zm : inb (nI m) 8200 := nin (by omega) (by omega)
    have cm : (nI m).toNatClampNeg = m := nc (by omega)
    rw [e_Model_asked nf (d + 1)]
    unfold rb_Model_asked
    rw [if_neg (by decide), m1]
    simp only [gd, if_pos zm, cm]
    have t30 := tkd_lt (X := X) (tD k i e ta tb)
    by_cases c5 : ¬ k = 5
    · have h13 : ¬ T.1 50 m = 13 := by
        intro h
        have := nI_inj (b := 13) (by omega) (by omega) (m5.symm.trans h)
        have key : tkd X (tD k i e ta tb) = if k = 2 then tkd X ta else if k = 1 then (if xK X i = 5 then 0 else if xK X i = 27 then 1 else if xK X i = 34 then 2 else if xK X i = 35 then 3 else 4) else if k = 3 then (if xK X i = 49 then 14 else if xK X i = 61 then 16 else 17) else if k = 4 then 15 else if k = 5 then 13 else if k = 6 then 5 else if k = 7 then (if xK X (i + 3 + e) = 49 then 7 else 6) else if k = 8 then (if xK X i = 29 then 8 else if xK X i = 30 then 9 else if xK X i = 31 then 11 else 12) else if k = 9 then 10 else 30 := rfl
        rw [key, if_neg c2] at this
        revert this
        (repeat' split) <;> omega
      rw [if_neg h13, if_neg (fun q => c5 q.1)]
    have c5 := Decidable.not_not.mp c5
    subst c5
    rw [RepM_n] at h
    unfold RpN at h
    simp only [if_neg (show ¬ (5 = 1) by omega), if_neg (show ¬ (5 = 2) by omega), if_neg (show ¬ (5 = 3) by omega), if_neg (show ¬ (5 = 4) by omega), if_pos (rfl : 5 = 5)] at h
    obtain ⟨m', y, z, r1, r2, r3, r4, r5, r6, r7, r8, r9, r10⟩ := h
    have em : m' = m := nI_inj (by omega) (by omega) (r1.symm.trans m1)
    subst em
    rw [Wf_n] at hw
    unfold WfN at hw
    simp only [if_neg (show ¬ (false = true) by decide), if_neg (show ¬ (5 = 1) by omega), if_neg (show ¬ (5 = 2) by omega), if_neg (show ¬ (5 = 3) by omega), if_neg (show ¬ (5 = 4) by omega), if_pos (rfl : 5 = 5)] at hw
    obtain ⟨w1, w2⟩ := hw
    obtain ⟨ml, a1, a2, a3, a4, a5⟩ := RepM_nd ta _ _ _ _ _ r4 w1
    obtain ⟨mr, b1, b2, b3, b4, b5⟩ := RepM_nd tb _ _ _ _ _ r5 w2
    have zl : inb (nI ml) 8200 := nin (by omega) (by omega)
    have cl : (nI ml).toNatClampNeg = ml := nc (by omega)
    have zr : inb (nI mr) 8200 := nin (by omega) (by omega)
    have cr : (nI mr).toNatClampNeg = mr := nc (by omega)
    have tl := tkd_lt (X := X) ta
    have tr := tkd_lt (X := X) tb
    rw [if_pos r9, r10]
    by_cases g1 : chK e = 256
    · rw [if_pos g1, r7, a1]
      simp only [if_pos zl, cl]
      by_cases g2 : tkd X ta = 4
      · rw [if_pos (show T.1 50 ml = 4 by rw [a5, g2]; rfl), r8, b1]
        simp only [if_pos zr, cr]
        by_cases g3 : tkd X tb = 1
        · rw [if_pos (show T.1 50 mr = 1 by rw [b5, g3]; rfl)]
          simp only [vK]
          rw [x_ask68 hC hc (by omega) hnf, if_pos (show T.1 50 ml = 4 by rw [a5, g2]; rfl), if_pos (show True ∧ chK e = 256 ∧ tkd X ta = 4 ∧ tkd X tb = 1 from ⟨trivial, g1, g2, g3⟩)]
          obtain ⟨m2', n1, n2, n3⟩ := RepM_nm ta _ _ _ _ _ r4 w1 g2
          have em2 : ml = m2' := nI_inj (by omega) (by omega) (a1.symm.trans n1)
          subst em2
          rw [n3]
        · rw [if_neg (show ¬ T.1 50 mr = 1 from fun h => g3 (nI_inj (b := 1) (by omega) (by omega) (b5.symm.trans h))), if_neg (fun q => g3 q.2.2.2)]
      · rw [if_neg (show ¬ T.1 50 ml = 4 from fun h => g2 (nI_inj (b := 4) (by omega) (by omega) (a5.symm.trans h))), if_neg (fun q => g2 q.2.2.1)]
    · rw [if_neg g1, if_neg (fun q => g1 q.2.1)]
end AK
