/-! the instructions of an EXPR have their types: calls, new; every EXPR -/
section TJ4
variable {S Sf T T' T1 : gSt} {X : Lx} {p q k m n t u c e f s B L i lo hi lo' hi' mm mo : Nat} {x y w r pl pn sg v kd fi' all : Int32} {st s0 s1 s2 : List Int32} {js ks : List T5} {j z : T5} {ρ : Nat → Nat} {nm : Int64} {ta tb tr : Tr} {R : ChR}
theorem fi_b (hn : n < 32) : ((x >>> (nI n &&& 31)) &&& 1) = 0 ↔ fi x n = false := by
  have h1 := fi_sr (x := x) hn
  constructor
  · intro h
    cases e : fi x n with
    | false => rfl
    | true =>
      rw [e] at h1
      have : ((x >>> (nI n &&& 31)) &&& 1) = 1 := h1.mpr rfl
      rw [h] at this
      exact absurd this (by decide)
  · intro h
    rcases and1 (x >>> (nI n &&& 31)) with e | e
    · exact e
    · rw [h1.mp e] at h
      exact absurd h (by decide)
theorem cdd_ok : ∀ (m k : Nat) (T : gSt), k + m ≤ 3 → (cddS X fi' all q m k T).1 7 0 = 0 → cddS X fi' all q m k T = T ∧ ∀ j, k ≤ j → j < k + m → fi (T.1 30 fi'.toNatClampNeg) (j + 1) = false → ¬ isLv T (ptOf all (nI j)) = 0 := by
  intro m
  induction m with
  | zero => intro k T _ _; exact ⟨rfl, fun j h1 h2 => by omega⟩
  | succ m ih =>
    intro k T hk h
    have h0 : T.1 7 0 = 0 := (FE.cd (m + 1) k T).ok h
    rw [cddS, if_pos h0] at h ⊢
    have hb : ((T.1 30 fi'.toNatClampNeg >>> ((nI k + 1) &&& 31)) &&& 1) = 0 ↔ fi (T.1 30 fi'.toNatClampNeg) (k + 1) = false := by
      rw [nI_1]
      exact fi_b (by omega)
    by_cases c : ((T.1 30 fi'.toNatClampNeg >>> ((nI k + 1) &&& 31)) &&& 1) = 0 ∧ isLv T (ptOf all (nI k)) = 0
    · rw [if_pos c] at h
      exact absurd ((FE.cd m (k + 1) _).ok h) (flT_bad (by decide))
    · rw [if_neg c] at h ⊢
      obtain ⟨i1, i2⟩ := ih (k + 1) T (by omega) h
      refine ⟨i1, fun j h1 h2 h3 => ?_⟩
      by_cases e : j = k
      · subst e
        exact fun w => c ⟨hb.mpr h3, w⟩
      · exact i2 j (by omega) (by omega) h3
theorem cwh_ok : ∀ (m k : Nat) (T : gSt), (cwhS X fi' all q m k T).1 7 0 = 0 → cwhS X fi' all q m k T = T ∧ ∀ j, k ≤ j → j < k + m → ¬ dOv T (ptOf all (roI T fi'.toNatClampNeg (T.2 32 (6 * fi'.toNatClampNeg + 2 * j)) - 1)) (ptOf all (roI T fi'.toNatClampNeg (T.2 32 (6 * fi'.toNatClampNeg + 2 * j + 1)) - 1)) = 0 := by
  intro m
  induction m with
  | zero => intro k T _; exact ⟨rfl, fun j h1 h2 => by omega⟩
  | succ m ih =>
    intro k T h
    have h0 : T.1 7 0 = 0 := (FE.cw (m + 1) k T).ok h
    rw [cwhS, if_pos h0] at h ⊢
    by_cases c : dOv T (ptOf all (roI T fi'.toNatClampNeg (T.2 32 (6 * fi'.toNatClampNeg + 2 * k)) - 1)) (ptOf all (roI T fi'.toNatClampNeg (T.2 32 (6 * fi'.toNatClampNeg + 2 * k + 1)) - 1)) = 0
    · rw [if_pos c] at h
      exact absurd ((FE.cw m (k + 1) _).ok h) (flT_bad (by decide))
    · rw [if_neg c] at h ⊢
      obtain ⟨i1, i2⟩ := ih (k + 1) T h
      refine ⟨i1, fun j h1 h2 => ?_⟩
      by_cases e : j = k
      · subst e
        exact c
      · exact i2 j (by omega) (by omega)
theorem roI_fw (h : FW T Sf) (h2 : Sf.2 16 = T.2 16) : roI Sf t nm = roI T t nm := by
  have e : isRi Sf t nm = isRi T t nm := by
    funext q
    unfold isRi
    rw [h2]
  unfold roI
  rw [e, h.1 15 (by omega) (by omega) (by omega)]
/-- what comes behind the arguments of a call -/
theorem ty_clD (hc : cn Sf < 6000) (hRf : Rws Sf) (hj : Sf.2 16 = S.2 16 ∧ Sf.2 32 = S.2 32) (he : e ≤ 3) (hl : lenT ta < 100000) (hA : TyA X Sf S ta) (hw : Wb X ta true lo hi) (hC : Ck T) (h0 : T.1 7 0 = 0) (hE : FE S T) (hu : u < inn T) (hp : PK w 3) (hf : (clD X (chk X ta) ta i e (nI u) w T).2.1 7 0 = 0) (hF : FW (clD X (chk X ta) ta i e (nI u) w T).2 Sf) (hx : XG X ta mm 2) : (clD X (chk X ta) ta i e (nI u) w T).2 = (clD X (chk X ta) ta i e (nI u) w T).1.2.2.2 ∧ Ck (clD X (chk X ta) ta i e (nI u) w T).2 ∧ kGo (clD X (chk X ta) ta i e (nI u) w T).1.2.2.1 ∧ ∃ (ts : List Int32) (c : Nat), ts.length = lenT ta ∧ (ts.length ≤ 8 ∧ c < 1000) ∧ Sf.1 18 u = nI c ∧ Sf.1 19 u = nI ts.length ∧ AgT Sf S c w ts ∧ (∀ k, k < e → fi (Sf.1 30 u) (k + 1) = false → ¬ isLv S (ptOf w (nI k)) = 0) ∧ (∀ k, k < (Sf.1 31 u).toNatClampNeg → ¬ dOv S (ptOf w (roI Sf u (Sf.2 32 (6 * u + 2 * k)) - 1)) (ptOf w (roI Sf u (Sf.2 32 (6 * u + 2 * k + 1)) - 1)) = 0) ∧ ∀ (B L : Nat) (st : List Int32), wsl Sf st + 3 * lenT ta + NW mm 1 ≤ B + 3 → st.length + lenT ta + NL mm 1 ≤ L + 1 → TyL Sf S B L (ksE (clD X (chk X ta) ta i e (nI u) w T).1.2.2.1) st (ts.reverse ++ st) := by
  have h24 := hC.2.2.2.2.1.2.1
  have cu : (nI u).toNatClampNeg = u := nc (by omega)
  unfold clD at hf hF ⊢
  dsimp only at hf hF ⊢
  rw [cu] at hf hF ⊢
  by_cases c1 : nI (lenT ta) = T.1 19 u
  · simp only [if_pos c1, if_pos h0] at hf hF ⊢
    have fa := chk_fe (X := X) ta (T.1 18 u).toNatClampNeg w T
    have ga := fa.tg hC.1
    have ag := ag_it hC hu c1 hl hp
    generalize hR : chk X ta (T.1 18 u).toNatClampNeg w T = R at *
    obtain ⟨w1, w2⟩ := cwh_ok _ _ _ hf
    rw [w1] at hf hF
    obtain ⟨d1, d2⟩ := cdd_ok e 0 R.2.2.2 (by omega) hf
    rw [d1] at hf hF w1 w2
    rw [cu] at d2 w2
    have hca := hF.lt ga hc
    have iv := (chk_inv (X := X) ta true lo hi (T.1 18 u).toNatClampNeg w T hw hC (fun _ => ag) (by rw [hR]; exact hca)).1
    rw [hR] at iv
    have EA := hA lo hi mm (T.1 18 u).toNatClampNeg w T hw hC h0 hE ag (by rw [hR]; exact hf) (by rw [hR]; exact hF) hx
    rw [hR] at EA
    obtain ⟨k1, ts, b1, b2, b3⟩ := EA
    obtain ⟨c, m, r, w', m1, m2, m3, m4, _⟩ := hC.2.2.2.2.1.2.2 u hu
    have hTF : FW T Sf := fa.fw.tr hF
    have hET := hE.tr fa
    have el : lenT ta = m := nI_inj (by omega) (by omega) (by rw [c1, m2])
    have e18 : (T.1 18 u).toNatClampNeg = c := by rw [m1, nc (by omega)]
    rw [d1, w1]
    refine ⟨rfl, iv, k1, ts, c, b1, ⟨by omega, by omega⟩, by rw [hTF.1 18 (by omega) (by omega) (by omega)]; exact m1, by rw [hTF.1 19 (by omega) (by omega) (by omega), b1]; exact c1.symm, by rw [← e18]; exact b2, fun k hk hb => ?_, fun k hk => ?_, b3⟩
    · rw [hTF.1 30 (by omega) (by omega) (by omega), ← fa.1 30 (by omega)] at hb
      rw [← isLv_fe hET]
      exact d2 k (by omega) (by omega) hb
    · rw [hTF.1 31 (by omega) (by omega) (by omega), ← fa.1 31 (by omega)] at hk
      have := w2 k (by omega) (by omega)
      have e2 : R.2.2.2.2 = S.2 := hET.2.1
      rw [dOv_fe hET, e2, ← hj.2, ← roI_fw hF (by rw [e2]; exact hj.1), ← roI_fw hF (by rw [e2]; exact hj.1)] at this
      exact this
  · have hb : ¬ (flT T 7 (nI (xP X i))).1 7 0 = 0 := flT_bad (by decide)
    simp only [if_neg c1, if_neg hb] at hf
    have fd : FE (flT T 7 (nI (xP X i))) (cwhS X (nI u) w (i + 1) ((erR (flT T 7 (nI (xP X i)))).2.2.2.1 31 u).toNatClampNeg 0 (cddS X (nI u) w (i + 1) e 0 (erR (flT T 7 (nI (xP X i)))).2.2.2)) := (FE.cd _ _ _).tr (FE.cw _ _ _)
    exact absurd (fd.ok hf) hb
theorem ty_cl (hc : cn Sf < 6000) (hRf : Rws Sf) (hj : Sf.2 16 = S.2 16 ∧ Sf.2 32 = S.2 32) (he : e ≤ 3) (hl : lenT ta < 100000) (hA : TyA X Sf S ta) (hw : Wb X ta true lo hi) (hC : Ck T) (h0 : T.1 7 0 = 0) (hE : FE S T) (hf : (clC X (chk X ta) ta i e T).2.2.2.1 7 0 = 0) (hF : FW (clC X (chk X ta) ta i e T).2.2.2 Sf) (hm : lenT ta = 0 ∨ 1 ≤ mm) (hx : XG X ta (mm - 1) 2) (hk : ¬ (tkd X tr = 14 ∨ tkd X tr = 15 ∨ tkd X tr = 16)) : TyE X Sf S tr (clC X (chk X ta) ta i e T) mm mo := by
  have fcl : FE T (clC X (chk X ta) ta i e T).2.2.2 := fe_cl (chk_fe ta)
  have hc0 : cn T < 6000 := (fcl.fw.tr hF).lt hC.1 hc
  unfold clC at hf hF ⊢
  dsimp only at hf hF ⊢
  by_cases c1 : 0 ≤ ff (isFu T (xN X i)) 0 (inn T)
  · have hfu : ∃ u, ff (isFu T (xN X i)) 0 (inn T) = nI u ∧ u < inn T ∧ (nI u).toNatClampNeg = u ∧ T.1 12 u = 2 := by
      have h24 := hC.2.2.2.2.1.2.1
      rcases ff_val (p := isFu T (xN X i)) (k := inn T) (i := 0) with h | ⟨j, j1, j2, j3, j4⟩
      · rw [h] at c1; exact absurd c1 (by decide)
      · refine ⟨j, j4, by omega, nc (by omega), ?_⟩
        unfold isFu at j3
        rw [Bool.and_eq_true] at j3
        exact of_decide_eq_true j3.1
    obtain ⟨u, u1, u2, cu, u12⟩ := hfu
    simp only [if_pos c1] at hf hF ⊢
    rw [u1] at hf hF ⊢
    simp only [cu] at hf hF ⊢
    by_cases c5 : T.1 15 u = nI e
    · simp only [if_pos c5, if_pos h0] at hf hF ⊢
      have w1 := Ck.wa (X := X) (q := i + 1) e 0 T 0 hC hc0 (by omega) PK.zr
      have wF := FE.wa (X := X) (q := i + 1) e 0 T 0
      have wG := wa_sg (X := X) (q := i + 1) e 0 T 0 hC hc0 (by omega) PK.zr (fun k hk => absurd hk (Nat.not_lt_zero _))
      rw [Nat.zero_add] at wG
      generalize waX X e T (i + 1) 0 0 = W at *
      by_cases c2 : W.2.1 7 0 = 0
      · simp only [if_pos c2] at hf hF ⊢
        have hu' : u < inn W.2 := by rw [wF.einn]; exact u2
        have dF := (fe_clD (X := X) (ta := ta) (i := i) (e := e) (fi := nI u) (all := W.1) (T := W.2) (chk_fe (X := X) ta)).2
        have dT := ty_clD (i := i) (e := e) (mm := mm - 1) hc hRf hj he hl hA hw w1.1 c2 (hE.tr wF) hu' w1.2.2
        generalize clD X (chk X ta) ta i e (nI u) W.1 W.2 = D at *
        have gD := dF.tg w1.1.1
        by_cases c3 : D.2.1 7 0 = 0
        · simp only [if_pos c3] at hf hF ⊢
          have fin : ∀ (v : Int32) (Tz : gSt), FE D.2 Tz → FW Tz Sf → (if 0 ≤ D.2.1 25 u then tV Sf v ∧ ∀ ρ, gty Sf ρ v = gty Sf (chρ ρ W.1) (D.2.1 26 u) else v = -1) → TyE X Sf S tr (v, 0, D.1.2.2.1 ++ [j1 18 (nI u) W.1 v (nI e)], Tz) mm mo := by
            intro v Tz fz Fz hv
            have FD := fz.fw.tr Fz
            obtain ⟨_, _, k1, ts, c, b1, b2, b3, b4, b5, b6, b7, b8⟩ := dT c3 FD hx
            have n7 : ¬ (j1 18 (nI u) W.1 v (nI e)).1 = 7 := by show ¬ (18 : Int32) = 7; decide
            refine tk_noJ hk (k1.nx n7) (fun B L st hB hL => ?_)
            have E1 := b8 B L st (by
              rcases hm with h | h
              · rw [h]; unfold NW at *; omega
              · unfold NW at *; omega) (by
              rcases hm with h | h
              · rw [h]; unfold NL at *; omega
              · unfold NL at *; omega)
            show TyL Sf S B L (ksE (D.1.2.2.1 ++ [j1 18 (nI u) W.1 v (nI e)])) st (psh v st)
            rw [ksE_n n7]
            have FT := (wF.tr dF).fw.tr FD
            have n3 := NW_3 (mm := mm) (mo := mo)
            have n1 := NL_1 (mm := mm) (mo := mo)
            refine TyL.ap _ _ _ _ _ E1 (TyL.one ?_ ?_ ?_)
            · rw [tyJ_18 rfl]
              refine ⟨st, ts, u, c, e, rfl, rfl, rfl, by rw [FT.einn]; exact u2, by rw [FT.1 12 (by omega) (by omega) (by omega)]; exact u12, w1.2.2, fun k hk => (by obtain ⟨c', d1, d2⟩ := wG c2 k hk; exact ⟨c', d1, (sght_fe hE).mp d2⟩), rfl, he, by rw [FT.1 15 (by omega) (by omega) (by omega)]; exact c5, b3, b4, b2, b5, b6, b7, ?_⟩
              rw [FD.1 25 (by omega) (by omega) (by omega), FD.1 26 (by omega) (by omega) (by omega)]
              exact hv
            · unfold psh
              split
              · omega
              · exact wsl_c (by omega)
            · unfold psh
              split
              · omega
              · rw [List.length_cons]; omega
          by_cases c4 : 0 ≤ D.2.1 25 u
          · simp only [if_pos c4] at hf hF ⊢
            have fch := FE.ch (w := W.1) 7 D.2 (D.2.1 26 u)
            have gch := fch.tg gD
            have hD := dT c3 (fch.fw.tr hF) hx
            have hu2 : u < inn D.2 := by rw [dF.einn]; exact hu'
            obtain ⟨c', m', r', w', m1, m2, m3, m4, m5, m6, m7, m8, m9, m10, m11⟩ := hD.2.1.2.2.2.2.1.2.2 u hu2
            have ch := hD.2.1.ch w1.2.2 (m10 c4).1 (m10 c4).2 (hF.lt gch hc)
            refine fin _ _ fch hF ?_
            rw [if_pos c4]
            exact ⟨hF.tv gch ch.2, fun ρ => gty_c hc hRf hD.2.1 w1.2.2 (m10 c4).1 (m10 c4).2 hF⟩
          · simp only [if_neg c4] at hf hF ⊢
            refine fin _ _ FE.rf hF ?_
            rw [if_neg c4]
        · simp only [if_neg c3] at hf
          exact absurd hf c3
      · simp only [if_neg c2] at hf
        exact absurd hf c2
    · have hb : ¬ (flT T 7 (nI (xP X i))).1 7 0 = 0 := flT_bad (by decide)
      simp only [if_neg c5, if_neg hb, waX_bad hb] at hf
      exact absurd hf hb
  · have hb : ¬ (flT T 3 (nI (xP X i))).1 7 0 = 0 := flT_bad (by decide)
    simp only [if_neg c1, if_neg hb, waX_bad hb] at hf
    exact absurd hf hb
theorem ty_nwD (hc : cn Sf < 6000) (hRf : Rws Sf) (hl : ¬ xK X (i + 3 + e) = 49 → lenT ta < 100000) (hr : rC2 r) (hlv : ¬ isLv S r = 0) (hA : TyX X Sf S ta) (hA2 : TyA X Sf S ta) (hw : if xK X (i + 3 + e) = 49 then Wb X ta false lo hi else Wb X ta true lo hi) (hC : Ck T) (h0 : T.1 7 0 = 0) (hE : FE S T) (hu : u < inn T) (h15 : T.1 15 u = nI e) (he : e ≤ 3) (hsg : sgW S w e) (hp : PK w 3) (hf : (nwD X (chk X ta) ta i e r (nI u) w T).2.2.2.1 7 0 = 0) (hF : FW (nwD X (chk X ta) ta i e r (nI u) w T).2.2.2 Sf) (hm : (¬ xK X (i + 3 + e) = 49 ∧ lenT ta = 0) ∨ 1 ≤ mm) (hx : if xK X (i + 3 + e) = 49 then XG X ta (mm - 1) 1 else XG X ta (mm - 1) 2) (hk : ¬ (tkd X tr = 14 ∨ tkd X tr = 15 ∨ tkd X tr = 16)) : TyE X Sf S tr (nwD X (chk X ta) ta i e r (nI u) w T) mm mo := by
  have h24 := hC.2.2.2.2.1.2.1
  have cu : (nI u).toNatClampNeg = u := nc (by omega)
  have fnw : FE T (nwD X (chk X ta) ta i e r (nI u) w T).2.2.2 := fe_nwD (chk_fe ta)
  have hc0 : cn T < 6000 := (fnw.fw.tr hF).lt hC.1 hc
  have row : ∀ S, Ck S → u < inn S → rwOk S (cn S) (1, r, -1, nI u, w) := fun S hS hi => ⟨Or.inl rfl, hr, hp, fun e => absurd e (by decide : ¬ (1 : Int32) = 3), by
    show (if 0 ≤ nI u then _ else _)
    rw [if_pos (show (0 : Int32) ≤ nI u from (nI_leI (a := 0) (b := u) (by omega) (by omega)).mpr (by omega))]
    exact ⟨u, rfl, hi⟩⟩
  have fin : ∀ (Q : gSt), FE T Q → Ck Q → FW (knS (mkS Q) (1, r, -1, nI u, w)) Sf → newP Sf (knR (mkS Q) (1, r, -1, nI u, w)) (1, r, -1, nI u, w) := by
    intro Q hFQ hQ hFQ2
    have fk : FE Q (knS (mkS Q) (1, r, -1, nI u, w)) := FE.mk.tr FE.kn
    have c4 := (fk.fw.tr hFQ2).lt hQ.1 hc
    exact new_k hc (hQ.mk c4) (row _ (hQ.mk c4) (by rw [(hFQ.tr FE.mk).einn]; exact hu)) hFQ2
  have n3 := NW_3 (mm := mm) (mo := mo)
  have n1 := NL_1 (mm := mm) (mo := mo)
  unfold nwD at hf hF ⊢
  dsimp only at hf hF ⊢
  rw [cu] at hf hF ⊢
  by_cases c0 : xK X (i + 3 + e) = 49
  · simp only [if_pos c0] at hf hF hw hx ⊢
    have hm1 : 1 ≤ mm := hm.resolve_left (fun h => h.1 c0)
    have n10 : ¬ (1 : Int32) = 0 := by decide
    simp only [if_neg n10] at hf hF ⊢
    by_cases c1 : T.1 12 u = 1
    · simp only [if_pos c1, if_pos h0] at hf hF ⊢
      by_cases c3 : 0 ≤ fnF T (nI u) (xN X (i + 3 + e + 1))
      · simp only [if_pos c3] at hf hF ⊢
        obtain ⟨c, m, j, f1, f2, f3, f4, f5, f6, f7, f8⟩ := fld_ok hC hc0 hu c3
        have fa := chk_fe (X := X) ta 0 0 T
        have ga := fa.tg hC.1
        have e6 : fty (chk X ta 0 0 T).2.2.2 (nI u) (fnF T (nI u) (xN X (i + 3 + e + 1))) = T.1 24 (c + j) := by
          rw [f5, ← f6]
          unfold fty
          rw [fa.1 24 (by omega), fa.1 18 (by omega)]
        rw [e6] at hf hF ⊢
        have f2' := FE.ch (w := w) 7 (chk X ta 0 0 T).2.2.2 (T.1 24 (c + j))
        have g2 := f2'.tg ga
        have f3' := FE.ft (T := (chT 7 (chk X ta 0 0 T).2.2.2 (T.1 24 (c + j)) w).2) (x := (chk X ta 0 0 T).1) (y := (chT 7 (chk X ta 0 0 T).2.2.2 (T.1 24 (c + j)) w).1) (v := plT X ta)
        have g3 := f3'.tg g2
        by_cases c4 : (ftS (chT 7 (chk X ta 0 0 T).2.2.2 (T.1 24 (c + j)) w).2 (chk X ta 0 0 T).1 (chT 7 (chk X ta 0 0 T).2.2.2 (T.1 24 (c + j)) w).1 (plT X ta)).1 7 0 = 0
        · simp only [if_pos c4] at hf hF ⊢
          obtain ⟨q1, q2, q3⟩ := ft_okT c4
          rw [q2] at hf hF ⊢
          have fk : FE (chT 7 (chk X ta 0 0 T).2.2.2 (T.1 24 (c + j)) w).2 (knS (mkS (chT 7 (chk X ta 0 0 T).2.2.2 (T.1 24 (c + j)) w).2) (1, r, -1, nI u, w)) := FE.mk.tr FE.kn
          have F2 := fk.fw.tr hF
          have FA := f2'.fw.tr F2
          have c5 := F2.lt g2 hc
          have c6 := FA.lt ga hc
          have cA := f2'.ok q3
          have i1 := iv_ex0 (chk_inv ta) hw hC c6
          have i2 := i1.1.ch hp (f7.fe fa hC.1) (f8.fe fa hC.1 c6) c5
          have EA := hA lo hi (mm - 1) 1 T (by omega) hw hC h0 hE cA FA hx
          have fit := mf_fit hc g2 F2 ((hE.tr fa).tr f2') i2.1.2.1 ((i1.2 cA).1.fe f2' ga) i2.2 q1
          have nw := fin _ (fa.tr f2') i2.1 hF
          have gt : ∀ ρ, gty Sf ρ (chT 7 (chk X ta 0 0 T).2.2.2 (T.1 24 (c + j)) w).1 = gty Sf (chρ ρ w) (Sf.1 24 (c + j)) := fun ρ => by
            rw [gty_c hc hRf i1.1 hp (f7.fe fa hC.1) (f8.fe fa hC.1 c6) F2, FA.1 24 (by omega) (by omega) (by omega), fa.1 24 (by omega)]
          have ftg : FtG Sf S (chk X ta 0 0 T).1 (fun ρ => gty Sf (chρ ρ w) (Sf.1 24 (c + j))) := ⟨_, F2.tv g2 i2.2, fit, gt⟩
          have nR : ¬ (chk X ta 0 0 T).1 = -1 := by
            rcases fit with h | h | ⟨p, q, h, _⟩
            · rw [h.1]; decide
            · rw [h.1]; decide
            · exact h.n1 (by omega)
          have FT := (fa.tr f2').fw.tr F2
          generalize knR (mkS (chT 7 (chk X ta 0 0 T).2.2.2 (T.1 24 (c + j)) w).2) (1, r, -1, nI u, w) = v at *
          have n7 : ¬ (j1 17 r v (fnF T (nI u) (xN X (i + 3 + e + 1))) 0).1 = 7 := by show ¬ (17 : Int32) = 7; decide
          have nv : ¬ v = -1 := by obtain ⟨q, hq, _⟩ := nw; exact hq.n1 (by omega)
          obtain ⟨m', m1, m2⟩ := it_m8 hC hu
          have em : m = m' := nI_inj (by omega) (by omega) (by rw [← f2, m1])
          refine tk_noJ hk (EA.1.nx n7) (fun B L st hB hL => ?_)
          have E1 := EA.2.1 B L st (by unfold NW at *; omega) (by unfold NL at *; omega)
          rw [psh_n nR] at E1
          refine ty_ap1 (by omega) (by omega) E1 n7 ?_ nv
          rw [tyJ_17 rfl]
          exact ⟨st, _, u, w, j, c, e, rfl, rfl, ⟨hr, hlv⟩, nw, by rw [FT.einn]; exact hu, hp, ⟨by rw [FT.1 15 (by omega) (by omega) (by omega)]; exact h15, he, hsg⟩, by rw [FT.1 12 (by omega) (by omega) (by omega)]; exact c1, f5, ⟨m, by rw [FT.1 18 (by omega) (by omega) (by omega)]; exact f1, by rw [FT.1 19 (by omega) (by omega) (by omega)]; exact f2, f4, f3, by omega⟩, ftg⟩
        · simp only [if_neg c4] at hf
          exact absurd hf c4
      · simp only [if_neg c3] at hf
        exact absurd hf (flT_bad (by decide))
    · have hb : ¬ (flT T 7 (nI (xP X (i + 3 + e)))).1 7 0 = 0 := flT_bad (by decide)
      simp only [if_neg c1, if_neg hb] at hf
      exact absurd hf hb
  · simp only [if_neg c0] at hf hF hw hx ⊢
    simp only [↓reduceIte] at hf hF ⊢
    by_cases c1 : T.1 12 u = 0
    · simp only [if_pos c1] at hf hF ⊢
      by_cases c2 : nI (lenT ta) = T.1 19 u
      · simp only [if_pos c2, if_pos h0] at hf hF ⊢
        have fa := chk_fe (X := X) ta (T.1 18 u).toNatClampNeg w T
        have ga := fa.tg hC.1
        have ag := ag_it hC hu c2 (hl c0) hp
        by_cases c4 : (chk X ta (T.1 18 u).toNatClampNeg w T).2.2.2.1 7 0 = 0
        · simp only [if_pos c4] at hf hF ⊢
          have fk : FE (chk X ta (T.1 18 u).toNatClampNeg w T).2.2.2 (knS (mkS (chk X ta (T.1 18 u).toNatClampNeg w T).2.2.2) (1, r, -1, nI u, w)) := FE.mk.tr FE.kn
          have FA := fk.fw.tr hF
          have hcf := FA.lt ga hc
          have i1 := (chk_inv (X := X) ta true lo hi _ w T hw hC (fun _ => ag) hcf).1
          obtain ⟨k1, ts, b1, b2, b3⟩ := hA2 lo hi (mm - 1) _ w T hw hC h0 hE ag c4 FA hx
          have nw := fin _ fa i1 hF
          have FT := fa.fw.tr FA
          generalize knR (mkS (chk X ta (T.1 18 u).toNatClampNeg w T).2.2.2) (1, r, -1, nI u, w) = v at *
          have n7 : ¬ (j1 16 r v 0 0).1 = 7 := by show ¬ (16 : Int32) = 7; decide
          have nv : ¬ v = -1 := by obtain ⟨q, hq, _⟩ := nw; exact hq.n1 (by omega)
          obtain ⟨c, m, r', w', m1, m2, m3, m4, _⟩ := hC.2.2.2.2.1.2.2 u hu
          have el : lenT ta = m := nI_inj (by have := hl c0; omega) (by omega) (by rw [c2, m2])
          have e18 : (T.1 18 u).toNatClampNeg = c := by rw [m1, nc (by omega)]
          refine tk_noJ hk (k1.nx n7) (fun B L st hB hL => ?_)
          have E1 := b3 B L st (by
            rcases hm with h | h
            · rw [h.2]; unfold NW at *; omega
            · unfold NW at *; omega) (by
            rcases hm with h | h
            · rw [h.2]; unfold NL at *; omega
            · unfold NL at *; omega)
          refine ty_ap1 (by omega) (by omega) E1 n7 ?_ nv
          rw [tyJ_16 rfl]
          exact ⟨st, ts, u, w, c, e, rfl, rfl, ⟨hr, hlv⟩, nw, by rw [FT.einn]; exact hu, hp, ⟨by rw [FT.1 15 (by omega) (by omega) (by omega)]; exact h15, he, hsg⟩, by rw [FT.1 12 (by omega) (by omega) (by omega)]; exact c1, by rw [FT.1 18 (by omega) (by omega) (by omega)]; exact m1, by rw [FT.1 19 (by omega) (by omega) (by omega), b1]; exact c2.symm, ⟨by omega, by omega⟩, by rw [← e18]; exact b2⟩
        · simp only [if_neg c4] at hf
          exact absurd hf c4
      · have hb : ¬ (flT T 7 (nI (xP X (i + 2)))).1 7 0 = 0 := flT_bad (by decide)
        simp only [if_neg c2, if_neg hb] at hf
        exact absurd hf hb
    · have hb : ¬ (flT T 7 (nI (xP X (i + 3 + e)))).1 7 0 = 0 := flT_bad (by decide)
      simp only [if_neg c1, if_neg hb] at hf
      exact absurd hf hb
theorem ty_nw (hc : cn Sf < 6000) (hRf : Rws Sf) (hl : ¬ xK X (i + 3 + e) = 49 → lenT ta < 100000) (he : e ≤ 3) (hA : TyX X Sf S ta) (hA2 : TyA X Sf S ta) (hw : if xK X (i + 3 + e) = 49 then Wb X ta false lo hi else Wb X ta true lo hi) (hC : Ck T) (hE : FE S T) (hf : (nwC X (chk X ta) ta i e T).2.2.2.1 7 0 = 0) (hF : FW (nwC X (chk X ta) ta i e T).2.2.2 Sf) (hm : (¬ xK X (i + 3 + e) = 49 ∧ lenT ta = 0) ∨ 1 ≤ mm) (hx : if xK X (i + 3 + e) = 49 then XG X ta (mm - 1) 1 else XG X ta (mm - 1) 2) (hk : ¬ (tkd X tr = 14 ∨ tkd X tr = 15 ∨ tkd X tr = 16)) : TyE X Sf S tr (nwC X (chk X ta) ta i e T) mm mo := by
  have hr : rC2 (srR X T (i + 1)) := rg_ok hC.2.2
  have fnw : FE T (nwC X (chk X ta) ta i e T).2.2.2 := fe_nw (chk_fe ta)
  have hc0 : cn T < 6000 := (fnw.fw.tr hF).lt hC.1 hc
  unfold nwC at hf hF ⊢
  dsimp only at hf hF ⊢
  by_cases c0 : (slS X T (i + 1)).1 7 0 = 0
  · obtain ⟨s1, s2, s3⟩ := sl_ok c0
    rw [s1] at c0
    simp only [s1, if_pos c0] at hf hF ⊢
    rw [isLv_fe hE] at s2
    generalize srR X T (i + 1) = r at *
    by_cases c1 : 0 ≤ ff (isTi T (xN X (i + 2))) 0 (inn T)
    · obtain ⟨u, u1, u2, cu⟩ := ti_ok hC c1
      simp only [if_pos c1] at hf hF ⊢
      rw [u1] at hf hF ⊢
      simp only [cu] at hf hF ⊢
      by_cases c2 : T.1 15 u = nI e
      · simp only [if_pos c2] at hf hF ⊢
        have w1 := Ck.wa (X := X) (q := i + 3) e 0 T 0 hC hc0 (by omega) PK.zr
        have wF := FE.wa (X := X) (q := i + 3) e 0 T 0
        have wG := wa_sg (X := X) (q := i + 3) e 0 T 0 hC hc0 (by omega) PK.zr (fun k hk => absurd hk (Nat.not_lt_zero _))
        rw [Nat.zero_add] at wG
        generalize waX X e T (i + 3) 0 0 = W at *
        by_cases c3 : W.2.1 7 0 = 0
        · simp only [if_pos c3] at hf hF ⊢
          exact ty_nwD hc hRf hl hr s2 hA hA2 hw w1.1 c3 (hE.tr wF) (by rw [wF.einn]; exact u2) (by rw [wF.1 15 (by omega)]; exact c2) he (fun k hk => (by obtain ⟨c', d1, d2⟩ := wG c3 k hk; exact ⟨c', d1, (sght_fe hE).mp d2⟩)) w1.2.2 hf hF hm hx hk
        · simp only [if_neg c3] at hf
          exact absurd hf c3
      · have hb : ¬ (flT T 7 (nI (xP X (i + 2)))).1 7 0 = 0 := flT_bad (by decide)
        simp only [if_neg c2, waX_bad hb, if_neg hb] at hf
        exact absurd hf hb
    · have hb : ¬ (flT T 3 (nI (xP X (i + 2)))).1 7 0 = 0 := flT_bad (by decide)
      simp only [if_neg c1, waX_bad hb, if_neg hb] at hf
      exact absurd hf hb
  · simp only [if_neg c0] at hf
    exact absurd hf c0
end TJ4
