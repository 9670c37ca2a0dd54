/-! what the notes of an EXPR without a fault hold: calls, new; every EXPR -/
section JGH
variable {T T' T1 S : gSt} {X : Lx} {p q k m n f v i e lo hi lo' hi' u : Nat} {x y w r s a b pl : Int32} {z j : T5} {js ks : List T5} {nm : Int64} {ta tb t : Tr} {R R' : ChR}
theorem j_clD (hl : lenT ta < 100000) (hA : JF X ta) (hw : Wb X ta true lo hi) (h : Ck T) (h0 : T.1 7 0 = 0) (hu : u < inn T) (hp : PK w 3) (hc : cn (clD X (chk X ta) ta i e (nI u) w T).2 < 6000) (hf : (clD X (chk X ta) ta i e (nI u) w T).2.1 7 0 = 0) : jGs (clD X (chk X ta) ta i e (nI u) w T).2 (clD X (chk X ta) ta i e (nI u) w T).1.2.2.1 ∧ amT X ta := by
  have h24 := h.2.2.2.2.1.2.1
  have cu : (nI u).toNatClampNeg = u := nc (by omega)
  unfold clD at hc hf ⊢
  dsimp only at hc hf ⊢
  rw [cu] at hc hf ⊢
  by_cases c1 : nI (lenT ta) = T.1 19 u
  · simp only [if_pos c1, if_pos h0] at hc hf ⊢
    have fa := chk_fe (X := X) ta (T.1 18 u).toNatClampNeg w T
    have ga := fa.tg h.1
    have fd : FE (chk X ta (T.1 18 u).toNatClampNeg w T).2.2.2 (cwhS X (nI u) w (i + 1) ((chk X ta (T.1 18 u).toNatClampNeg w T).2.2.2.1 31 u).toNatClampNeg 0 (cddS X (nI u) w (i + 1) e 0 (chk X ta (T.1 18 u).toNatClampNeg w T).2.2.2)) := (FE.cd _ _ _).tr (FE.cw _ _ _)
    have c3 := fd.lt ga hc
    have jA := hA true lo hi _ w T hw h h0 (fun _ => ag_it h hu c1 hl hp) c3 (fd.ok hf)
    exact ⟨jA.1.fe fd ga hc, jA.2⟩
  · have hb : ¬ (flT T 7 (nI (xP X i))).1 7 0 = 0 := flT_bad (by decide)
    simp only [if_neg c1, if_neg hb] at hf
    have fd : FE (flT T 7 (nI (xP X i))) (cwhS X (nI u) w (i + 1) ((erR (flT T 7 (nI (xP X i)))).2.2.2.1 31 u).toNatClampNeg 0 (cddS X (nI u) w (i + 1) e 0 (erR (flT T 7 (nI (xP X i)))).2.2.2)) := (FE.cd _ _ _).tr (FE.cw _ _ _)
    exact absurd (fd.ok hf) hb
theorem j_cl (hl : lenT ta < 100000) (he : e ≤ 3) (hA : JF X ta) (hw : Wb X ta true lo hi) (h : Ck T) (h0 : T.1 7 0 = 0) (hc0 : cn T < 6000) (hc : cn (clC X (chk X ta) ta i e T).2.2.2 < 6000) (hf : (clC X (chk X ta) ta i e T).2.2.2.1 7 0 = 0) : jGs (clC X (chk X ta) ta i e T).2.2.2 (clC X (chk X ta) ta i e T).2.2.1 ∧ amT X ta := by
  unfold clC at hc hf ⊢
  dsimp only at hc hf ⊢
  by_cases c1 : 0 ≤ ff (isFu T (xN X i)) 0 (inn T)
  · obtain ⟨u, u1, u2, cu⟩ := fu_ok h c1
    simp only [if_pos c1] at hc hf ⊢
    rw [u1] at hc hf ⊢
    simp only [cu] at hc hf ⊢
    by_cases c5 : T.1 15 u = nI e
    · simp only [if_pos c5, if_pos h0] at hc hf ⊢
      have w1 := Ck.wa (X := X) (q := i + 1) e 0 T 0 h hc0 (by omega) PK.zr
      have wF := FE.wa (X := X) (q := i + 1) e 0 T 0
      generalize waX X e T (i + 1) 0 0 = W at *
      by_cases c2 : W.2.1 7 0 = 0
      · simp only [if_pos c2] at hc hf ⊢
        have hu' : u < inn W.2 := by rw [wF.einn]; exact u2
        have dF := (fe_clD (X := X) (ta := ta) (i := i) (e := e) (fi := nI u) (all := W.1) (T := W.2) (chk_fe (X := X) ta)).2
        have dJ := j_clD (i := i) (e := e) hl hA hw w1.1 c2 hu' w1.2.2
        generalize clD X (chk X ta) ta i e (nI u) W.1 W.2 = D at *
        have gD := dF.tg w1.1.1
        by_cases c3 : D.2.1 7 0 = 0
        · simp only [if_pos c3] at hc hf ⊢
          by_cases c4 : 0 ≤ D.2.1 25 u
          · simp only [if_pos c4] at hc hf ⊢
            have fch := FE.ch (w := W.1) 7 D.2 (D.2.1 26 u)
            have jD := dJ (fch.lt gD hc) c3
            exact ⟨(jD.1.fe fch gD hc).ap (jGs.sn (jG.n1 (by decide) (by decide) (by decide))), jD.2⟩
          · simp only [if_neg c4] at hc hf ⊢
            have jD := dJ hc c3
            exact ⟨jD.1.ap (jGs.sn (jG.n1 (by decide) (by decide) (by decide))), jD.2⟩
        · simp only [if_neg c3] at hf
          exact absurd hf c3
      · simp only [if_neg c2] at hf
        exact absurd hf c2
    · have hb : ¬ (flT T 7 (nI (xP X i))).1 7 0 = 0 := flT_bad (by decide)
      simp only [if_neg c5, if_neg hb, waX_bad hb] at hf
      exact absurd hf hb
  · have hb : ¬ (flT T 3 (nI (xP X i))).1 7 0 = 0 := flT_bad (by decide)
    simp only [if_neg c1, if_neg hb, waX_bad hb] at hf
    exact absurd hf hb
theorem j_nwD (hl : ¬ xK X (i + 3 + e) = 49 → lenT ta < 100000) (hr : rC2 r) (hA : JF X ta) (hw : if xK X (i + 3 + e) = 49 then Wb X ta false lo hi else Wb X ta true lo hi) (h : Ck T) (h0 : T.1 7 0 = 0) (hc0 : cn T < 6000) (hu : u < inn T) (hp : PK w 3) (hc : cn (nwD X (chk X ta) ta i e r (nI u) w T).2.2.2 < 6000) (hf : (nwD X (chk X ta) ta i e r (nI u) w T).2.2.2.1 7 0 = 0) : jGs (nwD X (chk X ta) ta i e r (nI u) w T).2.2.2 (nwD X (chk X ta) ta i e r (nI u) w T).2.2.1 ∧ amT X ta := by
  have h24 := h.2.2.2.2.1.2.1
  have cu : (nI u).toNatClampNeg = u := nc (by omega)
  have row : ∀ S, Ck S → u < inn S → rwOk S (cn S) (1, r, -1, nI u, w) := fun S hS hi => ⟨Or.inl rfl, hr, hp, fun e => absurd e (by decide : ¬ (1 : Int32) = 3), by
    show (if 0 ≤ nI u then _ else _)
    rw [if_pos (show (0 : Int32) ≤ nI u from (nI_leI (a := 0) (b := u) (by omega) (by omega)).mpr (by omega))]
    exact ⟨u, rfl, hi⟩⟩
  have fin : ∀ (S : gSt) (o c d : Int32), (o = 16 ∨ o = 17) → FE T S → Ck S → cn (knS (mkS S) (1, r, -1, nI u, w)) < 6000 → jG (knS (mkS S) (1, r, -1, nI u, w)) (j1 o r (knR (mkS S) (1, r, -1, nI u, w)) c d) := by
    intro S o c d ho hF hS hcS
    have c3 : cn (mkS S) < 6000 := FE.kn.lt (FE.mk.tg hS.1) hcS
    have c4 := c3
    rw [cn_mk] at c4
    have hm := hS.mk c4
    have hin : u < inn (mkS S) := by rw [(hF.tr FE.mk).einn]; exact hu
    obtain ⟨k1, q, k2, k3, k4, k5⟩ := hm.kn (row _ hm hin) hcS
    refine ⟨fun _ => ⟨q, u, k2, k3, k4, (rwT_g k5).2.2.2.1, by rw [FE.kn.einn]; exact hin⟩, fun z => ?_, fun z => ?_⟩
    · exact absurd z (by show ¬ (o = 14 ∨ o = 15); rcases ho with rfl | rfl <;> decide)
    · exact absurd z (by show ¬ o = 19; rcases ho with rfl | rfl <;> decide)
  unfold nwD at hc hf ⊢
  dsimp only at hc hf ⊢
  rw [cu] at hc hf ⊢
  by_cases c0 : xK X (i + 3 + e) = 49
  · simp only [if_pos c0] at hc hf hw ⊢
    have n10 : ¬ (1 : Int32) = 0 := by decide
    simp only [if_neg n10] at hc hf ⊢
    by_cases c1 : T.1 12 u = 1
    · simp only [if_pos c1, if_pos h0] at hc hf ⊢
      by_cases c3 : 0 ≤ fnF T (nI u) (xN X (i + 3 + e + 1))
      · simp only [if_pos c3] at hc hf ⊢
        obtain ⟨c, m, j, f1, f2, f3, f4, f5, f6, f7, f8⟩ := fld_ok h hc0 hu c3
        have fa := chk_fe (X := X) ta 0 0 T
        have ga := fa.tg h.1
        have e6 : fty (chk X ta 0 0 T).2.2.2 (nI u) (fnF T (nI u) (xN X (i + 3 + e + 1))) = T.1 24 (c + j) := by
          rw [f5, ← f6]
          unfold fty
          rw [fa.1 24 (by omega), fa.1 18 (by omega)]
        rw [e6] at hc hf ⊢
        have f2' := FE.ch (w := w) 7 (chk X ta 0 0 T).2.2.2 (T.1 24 (c + j))
        have g2 := f2'.tg ga
        have f3' := FE.ft (T := (chT 7 (chk X ta 0 0 T).2.2.2 (T.1 24 (c + j)) w).2) (x := (chk X ta 0 0 T).1) (y := (chT 7 (chk X ta 0 0 T).2.2.2 (T.1 24 (c + j)) w).1) (v := plT X ta)
        have g3 := f3'.tg g2
        by_cases c4 : (ftS (chT 7 (chk X ta 0 0 T).2.2.2 (T.1 24 (c + j)) w).2 (chk X ta 0 0 T).1 (chT 7 (chk X ta 0 0 T).2.2.2 (T.1 24 (c + j)) w).1 (plT X ta)).1 7 0 = 0
        · simp only [if_pos c4] at hc hf ⊢
          have fk : FE (ftS (chT 7 (chk X ta 0 0 T).2.2.2 (T.1 24 (c + j)) w).2 (chk X ta 0 0 T).1 (chT 7 (chk X ta 0 0 T).2.2.2 (T.1 24 (c + j)) w).1 (plT X ta)) (knS (mkS (ftS (chT 7 (chk X ta 0 0 T).2.2.2 (T.1 24 (c + j)) w).2 (chk X ta 0 0 T).1 (chT 7 (chk X ta 0 0 T).2.2.2 (T.1 24 (c + j)) w).1 (plT X ta))) (1, r, -1, nI u, w)) := FE.mk.tr FE.kn
          have hcf := fk.lt g3 hc
          have c5 := f3'.lt g2 hcf
          have c6 := f2'.lt ga c5
          have i1 := iv_ex0 (chk_inv ta) hw h c6
          have i2 := i1.1.ch hp (f7.fe fa h.1) (f8.fe fa h.1 c6) c5
          have i3 := i2.1.ft hcf
          have jA := hA false lo hi 0 0 T hw h h0 (fun e => absurd e (by decide)) c6 (f2'.ok (f3'.ok c4))
          exact ⟨(jA.1.fe (f2'.tr (f3'.tr fk)) ga hc).ap (jGs.sn (fin _ _ _ _ (Or.inr rfl) (fa.tr (f2'.tr f3')) i3 hc)), jA.2⟩
        · simp only [if_neg c4] at hf
          exact absurd hf c4
      · simp only [if_neg c3] at hf
        exact absurd hf (flT_bad (by decide))
    · have hb : ¬ (flT T 7 (nI (xP X (i + 3 + e)))).1 7 0 = 0 := flT_bad (by decide)
      simp only [if_neg c1, if_neg hb] at hf
      exact absurd hf hb
  · simp only [if_neg c0] at hc hf hw ⊢
    simp only [↓reduceIte] at hc hf ⊢
    by_cases c1 : T.1 12 u = 0
    · simp only [if_pos c1] at hc hf ⊢
      by_cases c2 : nI (lenT ta) = T.1 19 u
      · simp only [if_pos c2, if_pos h0] at hc hf ⊢
        have fa := chk_fe (X := X) ta (T.1 18 u).toNatClampNeg w T
        have ga := fa.tg h.1
        by_cases c4 : (chk X ta (T.1 18 u).toNatClampNeg w T).2.2.2.1 7 0 = 0
        · simp only [if_pos c4] at hc hf ⊢
          have fk : FE (chk X ta (T.1 18 u).toNatClampNeg w T).2.2.2 (knS (mkS (chk X ta (T.1 18 u).toNatClampNeg w T).2.2.2) (1, r, -1, nI u, w)) := FE.mk.tr FE.kn
          have hcf := fk.lt ga hc
          have i1 := (chk_inv (X := X) ta true lo hi _ w T hw h (fun _ => ag_it h hu c2 (hl c0) hp) hcf).1
          have jA := hA true lo hi _ w T hw h h0 (fun _ => ag_it h hu c2 (hl c0) hp) hcf c4
          exact ⟨(jA.1.fe fk ga hc).ap (jGs.sn (fin _ _ _ _ (Or.inl rfl) fa i1 hc)), jA.2⟩
        · simp only [if_neg c4] at hf
          exact absurd hf c4
      · have hb : ¬ (flT T 7 (nI (xP X (i + 2)))).1 7 0 = 0 := flT_bad (by decide)
        simp only [if_neg c2, if_neg hb] at hf
        exact absurd hf hb
    · have hb : ¬ (flT T 7 (nI (xP X (i + 3 + e)))).1 7 0 = 0 := flT_bad (by decide)
      simp only [if_neg c1, if_neg hb] at hf
      exact absurd hf hb
theorem j_nw (hl : ¬ xK X (i + 3 + e) = 49 → lenT ta < 100000) (he : e ≤ 3) (hA : JF X ta) (hw : if xK X (i + 3 + e) = 49 then Wb X ta false lo hi else Wb X ta true lo hi) (h : Ck T) (hc0 : cn T < 6000) (hc : cn (nwC X (chk X ta) ta i e T).2.2.2 < 6000) (hf : (nwC X (chk X ta) ta i e T).2.2.2.1 7 0 = 0) : jGs (nwC X (chk X ta) ta i e T).2.2.2 (nwC X (chk X ta) ta i e T).2.2.1 ∧ amT X ta := by
  have hr : rC2 (srR X T (i + 1)) := rg_ok h.2.2
  have h0 : Ck (slS X T (i + 1)) := h.sl hc0
  have c00 : cn (slS X T (i + 1)) < 6000 := by rw [cn_sl]; exact hc0
  unfold nwC at hc hf ⊢
  dsimp only at hc hf ⊢
  generalize srR X T (i + 1) = r at *
  generalize slS X T (i + 1) = T0 at *
  by_cases c0 : T0.1 7 0 = 0
  · simp only [if_pos c0] at hc hf ⊢
    by_cases c1 : 0 ≤ ff (isTi T0 (xN X (i + 2))) 0 (inn T0)
    · obtain ⟨u, u1, u2, cu⟩ := ti_ok h0 c1
      simp only [if_pos c1] at hc hf ⊢
      rw [u1] at hc hf ⊢
      simp only [cu] at hc hf ⊢
      by_cases c2 : T0.1 15 u = nI e
      · simp only [if_pos c2] at hc hf ⊢
        have w1 := Ck.wa (X := X) (q := i + 3) e 0 T0 0 h0 c00 (by omega) PK.zr
        have wF := FE.wa (X := X) (q := i + 3) e 0 T0 0
        generalize waX X e T0 (i + 3) 0 0 = W at *
        by_cases c3 : W.2.1 7 0 = 0
        · simp only [if_pos c3] at hc hf ⊢
          exact j_nwD hl hr hA hw w1.1 c3 (by rw [w1.2.1]; exact c00) (by rw [wF.einn]; exact u2) w1.2.2 hc hf
        · simp only [if_neg c3] at hf
          exact absurd hf c3
      · have hb : ¬ (flT T0 7 (nI (xP X (i + 2)))).1 7 0 = 0 := flT_bad (by decide)
        simp only [if_neg c2, waX_bad hb, if_neg hb] at hf
        exact absurd hf hb
    · have hb : ¬ (flT T0 3 (nI (xP X (i + 2)))).1 7 0 = 0 := flT_bad (by decide)
      simp only [if_neg c1, waX_bad hb, if_neg hb] at hf
      exact absurd hf hb
  · simp only [if_neg c0] at hf
    exact absurd hf c0
/-- every EXPR without a fault -/
theorem chk_jg (t : Tr) : JF X t := by
  induction t using Tr_ind with
  | hz t hz =>
    intro m lo hi f w T hw h h0 _ _ _
    rw [chk_nz hz]
    refine ⟨jGs.nl, ?_⟩
    unfold amT
    split
    · exact absurd rfl (hz _ _ _ _ _)
    · trivial
  | h k i e a b ihA ihB =>
    intro m lo hi f w T hw h h0 hg hc hf
    rw [chk_n, if_pos h0] at hc hf ⊢
    have hc0 : cn T < 6000 := (fe_n (chk_fe (X := X) a) (chk_fe (X := X) b)).lt h.1 hc
    obtain ⟨hw, hb⟩ := hw
    rw [Wf_n] at hw
    rw [amT_n]
    cases m with
    | true =>
      obtain ⟨hk, b1, c1, h1, h2, h3⟩ := WfN.lst hw
      have l3 := (Wf_le b true _ _ h3).2 rfl
      subst hk
      have := j_ag ihA ihB ⟨h2, by omega⟩ ⟨h3, hb⟩ h h0 (hg rfl) hc hf
      exact ⟨this.1, fun _ => this.2.1, fun _ => this.2.2, fun q => by omega⟩
    | false =>
      unfold WfN at hw
      rw [if_neg (by decide)] at hw
      unfold chN at hc hf ⊢
      by_cases c : k = 1
      · simp only [if_pos c]
        subst c
        exact ⟨j_lf, fun q => absurd rfl q, fun q => by omega, fun q => by omega⟩
      simp only [if_neg c] at hw hc hf ⊢
      clear c
      by_cases c : k = 2
      · simp only [if_pos c] at hw hc hf ⊢
        subst c
        obtain ⟨c1, h1, h2, h3⟩ := hw
        have := ihA false _ _ 0 0 T ⟨h2, by omega⟩ h h0 (fun e => absurd e (by decide)) hc hf
        exact ⟨this.1, fun _ => this.2, fun q => by omega, fun q => by omega⟩
      simp only [if_neg c] at hw hc hf ⊢
      clear c
      by_cases c : k = 3
      · simp only [if_pos c] at hw hc hf ⊢
        subst c
        have := j_tl ihA ⟨hw.1, by omega⟩ h h0 hc hf
        exact ⟨this.1, fun _ => this.2, fun q => by omega, fun q => by omega⟩
      simp only [if_neg c] at hw hc hf ⊢
      clear c
      by_cases c : k = 4
      · simp only [if_pos c] at hw hc hf ⊢
        subst c
        obtain ⟨h1, c1, h2, h3⟩ := hw
        have := (Wf_le b false _ _ h2).1 rfl
        have := j_ex ihA ihB ⟨h1, by omega⟩ ⟨h2, by omega⟩ h h0 hc hf
        exact ⟨this.1, fun _ => this.2.1, fun _ => this.2.2, fun q => by omega⟩
      simp only [if_neg c] at hw hc hf ⊢
      clear c
      by_cases c : k = 5
      · simp only [if_pos c] at hw hc hf ⊢
        subst c
        have := (Wf_le b false _ _ hw.2).1 rfl
        have := j_bn ihA ihB ⟨hw.1, by omega⟩ ⟨hw.2, by omega⟩ h h0 hc hf
        exact ⟨this.1, fun _ => this.2.1, fun _ => this.2.2, fun q => by omega⟩
      simp only [if_neg c] at hw hc hf ⊢
      clear c
      by_cases c : k = 6
      · simp only [if_pos c] at hw hc hf ⊢
        subst c
        obtain ⟨h1, h2, c1, h3, h4⟩ := hw
        have := (Wf_le a true _ _ h3).2 rfl
        have := j_cl (i := i) (by omega) h2 ihA ⟨h3, by omega⟩ h h0 hc0 hc hf
        exact ⟨this.1, fun _ => this.2, fun q => by omega, fun q => by omega⟩
      simp only [if_neg c] at hw hc hf ⊢
      clear c
      by_cases c : k = 7
      · simp only [if_pos c] at hw hc hf ⊢
        subst c
        obtain ⟨h1, h2, c1, h3, h4⟩ := hw
        have hl : (¬ xK X (i + 3 + e) = 49 → lenT a < 100000) ∧ (if xK X (i + 3 + e) = 49 then Wb X a false (i + 3 + e + 3) c1 else Wb X a true (i + 3 + e + 1) c1) := by
          by_cases c : xK X (i + 3 + e) = 49
          · rw [if_pos c] at h3 ⊢
            exact ⟨fun q => absurd c q, h3, by omega⟩
          · rw [if_neg c] at h3 ⊢
            have := (Wf_le a true _ _ h3).2 rfl
            exact ⟨fun _ => by omega, h3, by omega⟩
        have hw2 : if xK X (i + 3 + e) = 49 then Wb X a false (if xK X (i + 3 + e) = 49 then i + 3 + e + 3 else i + 3 + e + 1) c1 else Wb X a true (if xK X (i + 3 + e) = 49 then i + 3 + e + 3 else i + 3 + e + 1) c1 := by
          have hl2 := hl.2
          by_cases c : xK X (i + 3 + e) = 49
          · simp only [if_pos c] at hl2 ⊢
            exact hl2
          · simp only [if_neg c] at hl2 ⊢
            exact hl2
        have := j_nw hl.1 h2 ihA hw2 h hc0 hc hf
        exact ⟨this.1, fun _ => this.2, fun q => by omega, fun q => by omega⟩
      simp only [if_neg c] at hw hc hf ⊢
      clear c
      by_cases c : k = 8
      · simp only [if_pos c] at hw hc hf ⊢
        subst c
        obtain ⟨h1, h2⟩ := hw
        by_cases k29 : xK X i = 29
        · simp only [if_pos k29] at h2 hc hf ⊢
          obtain ⟨c, h2, h3⟩ := h2
          unfold clLv at hc hf ⊢
          dsimp only at hc hf ⊢
          have fsl : FE T (slS X T (i + 1)) := FE.sl
          have fm : FE (slS X T (i + 1)) (mdC X (chk X a) a 1 (srR X T (i + 1)) [] (slS X T (i + 1))).2.2.2 := fe_md (chk_fe a)
          have := j_md (js := []) (r := srR X T (i + 1)) (Or.inl rfl) ihA ⟨h2, by omega⟩ (h.sl hc0) (fm.ok hf) jGs.nl hc hf
          exact ⟨this.1, fun _ => this.2, fun q => by omega, fun q => by omega⟩
        simp only [if_neg k29] at h2 hc hf ⊢
        by_cases k30 : xK X i = 30
        · simp only [if_pos k30] at h2 hc hf ⊢
          obtain ⟨c, d, h2, h3, h4⟩ := h2
          have := (Wf_le b false _ _ h3).1 rfl
          have := j_rw (i := i) ihA ihB ⟨h2, by omega⟩ ⟨h3, by omega⟩ h hc0 hc hf
          exact ⟨this.1, fun _ => this.2.1, fun _ => this.2.2, fun q => by omega⟩
        simp only [if_neg k30] at h2 hc hf ⊢
        obtain ⟨c, h2, h3⟩ := h2
        by_cases k31 : xK X i = 31
        · simp only [if_pos k31] at hc hf ⊢
          have := j_nn ihA ⟨h2, by omega⟩ h h0 hc hf
          exact ⟨this.1, fun _ => this.2, fun q => by omega, fun q => by omega⟩
        · simp only [if_neg k31] at hc hf ⊢
          have := j_sz ihA ⟨h2, by omega⟩ h h0 hc hf
          exact ⟨this.1, fun _ => this.2, fun q => by omega, fun q => by omega⟩
      simp only [if_neg c] at hw hc hf ⊢
      clear c
      by_cases c : k = 9
      · simp only [if_pos c] at hw hc hf ⊢
        subst c
        have := j_an ihA ⟨hw.2, by omega⟩ h h0 hc hf
        exact ⟨this.1, fun _ => this.2.1, fun q => by omega, fun _ => this.2.2⟩
      simp only [if_neg c] at hw
end JGH
