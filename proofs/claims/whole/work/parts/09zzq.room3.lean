/-! room for types: EXPRS -/
def cwN (X : Lx) (A B : Nat) (zb : Bool) (k i e : Nat) : Nat :=
  if k = 1 then (if xK X i = 27 then 4 else 1) else if k = 2 then A + 2 else if k = 3 then A + (if xK X i = 61 then 1 else 2)
  else if k = 4 then A + B + 2 else if k = 5 then A + B + 1 else if k = 6 then A + e + 3
  else if k = 7 then (if xK X (i + 3 + e) = 49 then A + e + 7 else A + e + 5)
  else if k = 8 then (if xK X i = 29 then A + 4 else if xK X i = 30 then A + B + 5 else A + 3)
  else if k = 9 then A + 1 else (if zb = true then A else A + B + 1)
/-- the least number of characters that an EXPR takes -/
def cw (X : Lx) : Tr → Nat
  | .add (.add (.var k) (.add (.var i) (.var e))) (.add a b) => cwN X (cw X a) (cw X b) (isZ b) k i e
  | _ => 0
def RBq (X : Lx) (t : Tr) (T : gSt) (R : ChR) : Prop := (R.2.2.2.1 7 0 = 0 → cn R.2.2.2 < 6000 → pot R.2.2.2 + off R.2.2.2 R.1 ≤ pot T + 3 * cw X t + 1 ∧ (tkd X t = 14 → pot R.2.2.2 + 9 ≤ pot T + 3 * cw X t + 2 * dpt R.2.2.2 7 R.1 ∧ dpt R.2.2.2 7 R.1 ≤ 5) ∧ (tkd X t = 15 → pot R.2.2.2 + 6 ≤ pot T + 3 * cw X t)) ∧ pot R.2.2.2 ≤ pot T + 3 * cw X t + 11
def RAq (X : Lx) (t : Tr) (T : gSt) (R : ChR) : Prop := (R.2.2.2.1 7 0 = 0 → cn R.2.2.2 < 6000 → pot R.2.2.2 ≤ pot T + 3 * cw X t + (if isZ t = true then 0 else 3)) ∧ pot R.2.2.2 ≤ pot T + 3 * cw X t + 11
def agD (T : gSt) (f : Nat) (t : Tr) : Prop := ∀ j, j < lenT t → dpt T 7 (T.1 24 (f + j)) ≤ 5
def RF (X : Lx) (t : Tr) : Prop := ∀ (m : Bool) (lo hi f : Nat) (w : Int32) (T : gSt), Wb X t m lo hi → Ck T → Hq T → T.1 7 0 = 0 → cn T < 6000 → (m = true → agOk T f w t ∧ agD T f t) → (m = false → RBq X t T (chk X t f w T)) ∧ (m = true → RAq X t T (chk X t f w T))
section RM3
variable {T T' T1 S S' Sa : gSt} {X : Lx} {p q k m n f v i e lo hi lo' hi' : Nat} {x y w r s a b : Int32} {z : T5} {nm : Int64} {ta tb t : Tr} {R R' : ChR}
theorem cw_n : cw X (tD k i e ta tb) = cwN X (cw X ta) (cw X tb) (isZ tb) k i e := rfl
theorem aH.up (hc : cn T ≤ cn T') (hr : ∀ p, p < cn T → rwT T' p = rwT T p) : ∀ (f : Nat) (x : Int32), aH T f x → aH T' f x := by
  intro f
  induction f with
  | zero => intro x _; trivial
  | succ f ih =>
    intro x h hx
    obtain ⟨p, e, h1, h2, h3, h4, h5, h6⟩ := h hx
    have r := row5 (hr p h2)
    refine ⟨p, e, h1, by omega, fun q q1 q2 => by rw [hr q (by omega), hr p h2]; exact h3 q q1 q2, by rw [r.2.1]; exact h4, by rw [r.2.2.2.2]; exact h5, ?_⟩
    rw [r.2.2.2.1, r.2.2.1]
    by_cases c : 0 ≤ T.1 69 p
    · rw [if_pos c] at h6 ⊢; exact h6
    · rw [if_neg c] at h6 ⊢; exact ⟨h6.1, ih _ h6.2⟩
theorem Hq.fe (hq : Hq T) (h : Ck T) (hF : FE T T') (hc : cn T' < 6000) : Hq T' := by
  intro t ht c m h18 h19 hcm
  rw [hF.einn] at ht
  rw [hF.1 18 (by omega)] at h18
  rw [hF.1 19 (by omega)] at h19
  have t3 := hF.2.2.1 h.1
  obtain ⟨q1, q2⟩ := hq t ht c m h18 h19 hcm
  obtain ⟨c', m', r', w', b1, b2, b3, b4, b5, b6, b7, b8, b9, b10, b11⟩ := h.2.2.2.2.1.2.2 t ht
  have e1 : c' = c := nI_inj (by omega) (by omega) (b1.symm.trans h18)
  have e2 : m' = m := nI_inj (by omega) (by omega) (b2.symm.trans h19)
  subst e1 e2
  refine ⟨fun f hf => ?_, fun h25 => ?_⟩
  · rw [hF.1 24 (by omega), dpt_fe hF h.1 h.2.1 hc (b9 f hf).1]
    exact q1 f hf
  · rw [hF.1 25 (by omega)] at h25
    rw [hF.1 26 (by omega), hF.1 15 (by omega), dpt_fe hF h.1 h.2.1 hc (b10 h25).1]
    exact ⟨(q2 h25).1, fun z => aH.up t3.2.1 (t3.2.2 hc) _ _ ((q2 h25).2 z)⟩
theorem ff_fst {p : Nat → Bool} : ∀ (d i k : Nat), (∀ q, i ≤ q → q < i + d → ¬ p q = true) → p (i + d) = true → d < k → ff p i k = nI (i + d) := by
  intro d
  induction d with
  | zero => intro i k _ h hk; exact ff_yes h hk
  | succ d ih =>
    intro i k h1 h2 hk
    rw [ff_no (h1 i (by omega) (by omega)) (by omega), ih (i + 1) (k - 1) (fun q a b => h1 q (by omega) (by omega)) (by rw [Nat.add_right_comm]; exact h2) (by omega)]
    congr 1
    omega
theorem kn_fst (hg : Tg T) (h1 : 1 ≤ p) (h2 : p < cn T) (h3 : ∀ q, 1 ≤ q → q < p → rwT T q ≠ rwT T p) : knR T (rwT T p) = nI p ∧ knS T (rwT T p) = T := by
  have b := hg.2.2
  have e : knF T (rwT T p) = nI p := by
    unfold knF
    have := ff_fst (p := eqT T (rwT T p)) (p - 1) 1 (cn T - 1) (fun q a b => by unfold eqT; exact fun z => h3 q a (by omega) (of_decide_eq_true z)) (by rw [show 1 + (p - 1) = p by omega]; unfold eqT; exact decide_eq_true rfl) (by omega)
    rw [this, show 1 + (p - 1) = p by omega]
  have ne : ¬ knF T (rwT T p) = -1 := by rw [e]; exact nI_m1 (by omega)
  unfold knR knS
  rw [if_neg ne, if_neg ne]
  exact ⟨e, rfl⟩
/-- a type without REGIONS, told with none: the same -/
theorem ch_0 : ∀ (f : Nat) (x : Int32), Tg T → dOk T f x → aH T f x → chT f T x 0 = (x, T) := by
  intro f
  induction f with
  | zero => intro x _ _ _; rfl
  | succ f ih =>
    intro x hg hd ha
    rw [chT]
    by_cases hx : 0 < x
    · rw [if_pos hx]
      obtain ⟨p, rfl, h1, h2, h3, h4, h5, h6⟩ := ha hx
      have b := hg.2.2
      have cp : (nI p).toNatClampNeg = p := nc (by omega)
      obtain ⟨p', ep, d1, d2, d3⟩ := hd hx
      have e1 : p' = p := nI_inj (by omega) (by omega) ep.symm
      subst e1
      rw [cp]
      have w0 : ∀ r : Fin 4, chW 0 0 r.1 0 0 = 0 := by decide
      by_cases h9 : 0 ≤ T.1 69 p'
      · rw [if_pos h9] at h6 d3 ⊢
        obtain ⟨t, rr, t1, t2, t3, t4⟩ := d3
        have e2 : (T.1 15 (T.1 69 p').toNatClampNeg).toNatClampNeg = rr := by rw [t1, nc (by omega), t3, nc (by omega)]
        have e3 : ((T.1 66 p', chP 0 (T.1 67 p'), -1, T.1 69 p', chW 0 (T.1 70 p') (T.1 15 (T.1 69 p').toNatClampNeg).toNatClampNeg 0 0) : T5) = rwT T p' := by
          rw [e2, h4, h5, w0 ⟨rr, by omega⟩]
          unfold rwT
          rw [h4, h5, h6]
          rfl
        rw [e3]
        have k := kn_fst hg h1 h2 h3
        exact Prod.ext k.1 k.2
      · rw [if_neg h9] at h6 d3 ⊢
        have i := ih (T.1 68 p') hg d3 h6.2
        rw [i]
        have e3 : ((T.1 66 p', chP 0 (T.1 67 p'), T.1 68 p', -1, 0) : T5) = rwT T p' := by
          unfold rwT
          rw [h4, h5, h6.1]
          rfl
        show kn T (T.1 66 p', chP 0 (T.1 67 p'), T.1 68 p', -1, 0) = _
        rw [e3]
        have k := kn_fst hg h1 h2 h3
        exact Prod.ext k.1 k.2
    · rw [if_neg hx]
/-- the way stops at a fault, or where there is no room: no more is made -/
theorem rb_bd (hbound : pot Sa ≤ pot T + 3 * cw X t + 11) (hb : ¬ Sa.1 7 0 = 0 → R'.2.2.2 = Sa) (hF : FE Sa R'.2.2.2) (hg : Tg Sa) (hm : Sa.1 7 0 = 0 → cn Sa < 6000 → RBq X t T R') : RBq X t T R' := by
  by_cases c7 : Sa.1 7 0 = 0
  · by_cases c6 : cn Sa < 6000
    · exact hm c7 c6
    · have := (hF.2.2.1 hg).2.1
      refine ⟨fun _ q => by omega, ?_⟩
      rw [pot_o2 hF hg c6]
      exact hbound
  · have e := hb c7
    refine ⟨fun q => absurd (by rw [e] at q; exact q) c7, ?_⟩
    rw [e]
    exact hbound
theorem ra_bd (hbound : pot Sa ≤ pot T + 3 * cw X t + 11) (hb : ¬ Sa.1 7 0 = 0 → R'.2.2.2 = Sa) (hF : FE Sa R'.2.2.2) (hg : Tg Sa) (hm : Sa.1 7 0 = 0 → cn Sa < 6000 → RAq X t T R') : RAq X t T R' := by
  by_cases c7 : Sa.1 7 0 = 0
  · by_cases c6 : cn Sa < 6000
    · exact hm c7 c6
    · have := (hF.2.2.1 hg).2.1
      refine ⟨fun _ q => by omega, ?_⟩
      rw [pot_o2 hF hg c6]
      exact hbound
  · have e := hb c7
    refine ⟨fun q => absurd (by rw [e] at q; exact q) c7, ?_⟩
    rw [e]
    exact hbound
/-- a fault is told here -/
theorem rb_f (hbound : pot S ≤ pot T + 3 * cw X t + 11) (hf : ¬ S.1 7 0 = 0) : RBq X t T (erR S) := ⟨fun q => absurd q hf, hbound⟩
theorem nm_m2 (h : Ck T) (hc : cn T < 6000) (h0 : (nmC T nm x).2.2.1 7 0 = 0) (hc2 : cn (nmC T nm x).2.2 < 6000) : ¬ (nmC T nm x).1 = -2 := by
  unfold nmC at h0 hc2 ⊢
  by_cases c1 : 0 ≤ fd (isVa T nm) (vn T)
  · simp only [if_pos c1] at h0 hc2 ⊢
    obtain ⟨j, hj, ej, vj⟩ := var_ok h c1
    have e80 : tf T 80 (fd (isVa T nm) (vn T)) = T.1 80 j := by unfold tf; rw [ej, nc (by have := h.2.2.2.2.2.2.1; omega)]
    rw [e80] at h0 hc2 ⊢
    split
    · simp
    · rename_i c2
      simp only [if_neg c2] at h0 hc2
      split
      · rename_i c3
        simp only [if_pos c3] at h0 hc2
        rcases vj with v0 | ⟨p, ep, p1, p2⟩
        · rw [v0] at c3
          exact absurd c3.1 (by decide)
        · have t1 := tf_row h.1 p2
          rw [ep, t1.2.1, t1.2.2.1, t1.2.2.2.1, t1.2.2.2.2] at hc2 ⊢
          have k := (h.kn (h.sol p1 p2) hc2)
          obtain ⟨q, k1, k2, k3, k4⟩ := k.2
          exact tR_m2 k.1.1 (Or.inr ⟨q, k1, k2, k3⟩)
      · exact tR_m2 h.1 vj
  · simp only [if_neg c1] at h0
    exact absurd h0 (flT_bad (by decide))
theorem rm_lf (h : Ck T) (hc : cn T < 6000) : RBq X (tD 1 i e ta tb) T (lfC X i T) := by
  have c1 : cw X (tD 1 i e ta tb) = if xK X i = 27 then 4 else 1 := rfl
  have tk : tkd X (tD 1 i e ta tb) = (if xK X i = 5 then 0 else if xK X i = 27 then 1 else if xK X i = 34 then 2 else if xK X i = 35 then 3 else 4) := rfl
  have t14 : ¬ tkd X (tD 1 i e ta tb) = 14 ∧ ¬ tkd X (tD 1 i e ta tb) = 15 := by
    rw [tk]
    repeat' split
    all_goals omega
  have key : ∀ R : ChR, pot R.2.2.2 ≤ pot T → (R.2.2.2.1 7 0 = 0 → cn R.2.2.2 < 6000 → off R.2.2.2 R.1 ≤ 3 * cw X (tD 1 i e ta tb) + 1) → RBq X (tD 1 i e ta tb) T R := fun R h1 h2 => ⟨fun a b => ⟨by have := h2 a b; omega, fun q => absurd q t14.1, fun q => absurd q t14.2⟩, by omega⟩
  unfold lfC
  by_cases k5 : xK X i = 5
  · rw [if_pos k5]
    refine key _ (Nat.le_refl _) (fun _ _ => ?_)
    show off T 0 ≤ _
    rw [off_i (by decide) (by decide), c1]
    split <;> omega
  rw [if_neg k5]
  by_cases k27 : xK X i = 27
  · rw [if_pos k27]
    refine key _ (Nat.le_refl _) (fun _ _ => ?_)
    show off T (-2) ≤ _
    rw [c1, if_pos k27]
    unfold off
    rw [if_pos rfl]
    omega
  rw [if_neg k27]
  by_cases k34 : xK X i = 34
  · rw [if_pos k34]
    refine key _ (Nat.le_refl _) (fun _ _ => ?_)
    show off T 0 ≤ _
    rw [off_i (by decide) (by decide), c1]
    split <;> omega
  rw [if_neg k34]
  by_cases k35 : xK X i = 35
  · rw [if_pos k35]
    split
    · exact key _ (by show pot (flT _ _ _) ≤ _; rw [pot_fl]; exact Nat.le_refl _) (fun a => absurd a (flT_bad (by decide)))
    · refine key _ (Nat.le_refl _) (fun _ _ => ?_)
      show off T 0 ≤ _
      rw [off_i (by decide) (by decide), c1]
      split <;> omega
  rw [if_neg k35]
  refine key _ (rm_nm h hc) (fun a b => ?_)
  have := off_le (T := (nmC T (xN X i) (nI (xP X i))).2.2) (nm_m2 h hc a b)
  rw [c1, if_neg k27]
  exact this
theorem tkd_n : tkd X (tD k i e ta tb) = (if k = 2 then tkd X ta else if k = 1 then (if xK X i = 5 then 0 else if xK X i = 27 then 1 else if xK X i = 34 then 2 else if xK X i = 35 then 3 else 4) else if k = 3 then (if xK X i = 49 then 14 else if xK X i = 61 then 16 else 17) else if k = 4 then 15 else if k = 5 then 13 else if k = 6 then 5 else if k = 7 then (if xK X (i + 3 + e) = 49 then 7 else 6) else if k = 8 then (if xK X i = 29 then 8 else if xK X i = 30 then 9 else if xK X i = 31 then 11 else 12) else if k = 9 then 10 else 30) := rfl
theorem rm_tl (hA : RF X ta) (hw : Wb X ta false lo hi) (h : Ck T) (hq : Hq T) (h0 : T.1 7 0 = 0) (hc : cn T < 6000) : RBq X (tD 3 i e ta tb) T (tlC X (chk X ta) ta i T) := by
  have hs := (hA false lo hi 0 0 T hw h hq h0 hc (fun e => absurd e (by decide))).1 rfl
  have hfe := chk_fe (X := X) ta 0 0 T
  have c1 : cw X (tD 3 i e ta tb) = cw X ta + (if xK X i = 61 then 1 else 2) := rfl
  have tk : tkd X (tD 3 i e ta tb) = (if xK X i = 49 then 14 else if xK X i = 61 then 16 else 17) := rfl
  have cle : cw X ta + 1 ≤ cw X (tD 3 i e ta tb) := by rw [c1]; split <;> omega
  unfold tlC
  generalize hR : chk X ta 0 0 T = R at *
  dsimp only
  refine rb_bd (Sa := R.2.2.2) (by have := hs.2; omega) (fun q => by rw [if_neg q]; rfl) ?_ (hfe.tg h.1) (fun c7 c6 => ?_)
  · split
    · exact FE.th
    · exact FE.rf
  · rw [if_pos c7]
    have hv := iv_ex0 (chk_inv ta) hw h (by rw [hR]; exact c6)
    rw [hR] at hv
    have s1 := (hs.1 c7 c6).1
    have th := rm_th (r := tlK X i) (x := plT X ta) (y := nI (xP X (i + 1))) (nm := xN X (i + 1)) hv.1 (hq.fe h hfe c6) (hv.2 c7).1 c6
    generalize hC : thC R.2.2.2 (tlK X i) R.1 (xN X (i + 1)) (plT X ta) (nI (xP X (i + 1))) = C at th ⊢
    have bd : pot C.2.2 ≤ pot R.2.2.2 + 10 := by
      by_cases g : C.2.2.1 7 0 = 0 ∧ cn C.2.2 < 6000
      · have th2 := th.2 g.1 g.2 c7
        by_cases z1 : tlK X i = 16
        · have := (th2.1 z1).1; omega
        · by_cases z2 : tlK X i = 17
          · have := (th2.2.2.1 z2).1; omega
          · have := th2.2.2.2 z1 z2; omega
      · exact th.1 g
    refine ⟨fun g7 g6 => ?_, by show pot C.2.2 ≤ _; omega⟩
    have th2 := th.2 g7 g6 c7
    show pot C.2.2 + off C.2.2 C.1 ≤ _ ∧ (_ → pot C.2.2 + 9 ≤ _ + 2 * dpt C.2.2 7 C.1 ∧ dpt C.2.2 7 C.1 ≤ 5) ∧ (_ → pot C.2.2 + 6 ≤ _)
    by_cases k49 : xK X i = 49
    · have kk : tlK X i = 14 := by unfold tlK; rw [if_pos k49]
      have o4 := th2.2.1 (by rw [kk]; decide)
      have d := th2.2.2.2 (by rw [kk]; decide) (by rw [kk]; decide)
      have c2 : cw X (tD 3 i e ta tb) = cw X ta + 2 := by rw [c1, if_neg (by omega)]
      refine ⟨?_, fun _ => ⟨by omega, d.2.1⟩, fun q => by rw [tk, if_pos k49] at q; omega⟩
      by_cases c0 : 0 < C.1
      · rw [off_p c0]
        repeat' split
        all_goals omega
      · have d0 : dpt C.2.2 7 C.1 = 0 := by rw [dpt, if_neg c0]
        rw [off_i d.2.2 c0]
        omega
    · by_cases k61 : xK X i = 61
      · have kk : tlK X i = 16 := by unfold tlK; rw [if_neg k49, if_pos k61]
        have d := th2.1 kk
        have c2 : cw X (tD 3 i e ta tb) = cw X ta + 1 := by rw [c1, if_pos k61]
        exact ⟨by omega, fun q => by rw [tk, if_neg k49, if_pos k61] at q; omega, fun q => by rw [tk, if_neg k49, if_pos k61] at q; omega⟩
      · have kk : tlK X i = 17 := by unfold tlK; rw [if_neg k49, if_neg k61]
        have d := th2.2.2.1 kk
        have o4 := th2.2.1 (by rw [kk]; decide)
        have c2 : cw X (tD 3 i e ta tb) = cw X ta + 2 := by rw [c1, if_neg k61]
        refine ⟨?_, fun q => by rw [tk, if_neg k49, if_neg k61] at q; omega, fun q => by rw [tk, if_neg k49, if_neg k61] at q; omega⟩
        rw [d.2, off_i (by decide) (by decide)]
        omega
end RM3
