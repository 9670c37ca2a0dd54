/-! room for types: calls, new, every EXPR -/
section RM7
variable {T T' T1 S S' Sa : gSt} {X : Lx} {p q k m n f v i e lo hi lo' hi' u : Nat} {x y w r s a b pl : Int32} {z : T5} {nm : Int64} {ta tb t : Tr} {R R' : ChR}
theorem rm_cl (hl : lenT ta < 100000) (he : e ≤ 3) (hA : RF X ta) (hw : Wb X ta true lo hi) (h : Ck T) (hq : Hq T) (h0 : T.1 7 0 = 0) (hc : cn T < 6000) : RBq X (tD 6 i e ta tb) T (clC X (chk X ta) ta i e T) := by
  have cw1 : cw X (tD 6 i e ta tb) = cw X ta + e + 3 := rfl
  have tk : tkd X (tD 6 i e ta tb) = 5 := rfl
  unfold clC
  dsimp only
  by_cases c1 : 0 ≤ ff (isFu T (xN X i)) 0 (inn T)
  · obtain ⟨u, u1, u2, cu⟩ := fu_ok h c1
    simp only [if_pos c1]
    rw [u1]
    simp only [cu]
    by_cases c5 : T.1 15 u = nI e
    · simp only [if_pos c5, if_pos h0]
      have w1 := Ck.wa (X := X) (q := i + 1) e 0 T 0 h hc (by omega) PK.zr
      have wF := FE.wa (X := X) (q := i + 1) e 0 T 0
      have wp := pot_wa (X := X) (q := i + 1) e 0 T 0
      have we : e = 0 → (waX X e T (i + 1) 0 0).1 = 0 := fun z => by subst z; rfl
      generalize waX X e T (i + 1) 0 0 = W at *
      have dF := (fe_clD (X := X) (ta := ta) (i := i) (e := e) (fi := nI u) (all := W.1) (T := W.2) (chk_fe (X := X) ta)).2
      have allF : FE W.2 (if W.2.1 7 0 = 0 then (if (clD X (chk X ta) ta i e (nI u) W.1 W.2).2.1 7 0 = 0 then (if 0 ≤ (clD X (chk X ta) ta i e (nI u) W.1 W.2).2.1 25 u then ((chT 7 (clD X (chk X ta) ta i e (nI u) W.1 W.2).2 ((clD X (chk X ta) ta i e (nI u) W.1 W.2).2.1 26 u) W.1).1, 0, (clD X (chk X ta) ta i e (nI u) W.1 W.2).1.2.2.1 ++ [j1 18 (nI u) W.1 (chT 7 (clD X (chk X ta) ta i e (nI u) W.1 W.2).2 ((clD X (chk X ta) ta i e (nI u) W.1 W.2).2.1 26 u) W.1).1 (nI e)], (chT 7 (clD X (chk X ta) ta i e (nI u) W.1 W.2).2 ((clD X (chk X ta) ta i e (nI u) W.1 W.2).2.1 26 u) W.1).2) else (-1, 0, (clD X (chk X ta) ta i e (nI u) W.1 W.2).1.2.2.1 ++ [j1 18 (nI u) W.1 (-1) (nI e)], (clD X (chk X ta) ta i e (nI u) W.1 W.2).2)) else erR (clD X (chk X ta) ta i e (nI u) W.1 W.2).2) else erR W.2 : ChR).2.2.2 := by
        split
        · split
          · split
            · exact dF.tr (FE.ch _ _ _)
            · exact dF
          · exact dF
        · exact FE.rf
      refine rb_bd (Sa := W.2) (by omega) (fun q => by rw [if_neg q]; rfl) allF (wF.tg h.1) (fun c7 c6 => ?_)
      rw [if_pos c7]
      have hu' : u < inn W.2 := by rw [wF.einn]; exact u2
      have hqW := hq.fe h wF c6
      have D1 := rm_clD (i := i) (e := e) hl hA hw w1.1 hqW c7 c6 hu' w1.2.2
      have dI := iv_clD (i := i) (e := e) hl (chk_inv ta) hw w1.1 hu' w1.2.2
      generalize clD X (chk X ta) ta i e (nI u) W.1 W.2 = D at *
      refine rb_bd (Sa := D.2) (by have := D1.2; omega) (fun q => by rw [if_neg q]; rfl) ?_ (dF.tg w1.1.1) (fun d7 d6 => ?_)
      · split
        · split
          · exact FE.ch _ _ _
          · exact FE.rf
        · exact FE.rf
      rw [if_pos d7]
      have pd := D1.1 d7 d6
      have ckD := dI d6
      have hqD := hqW.fe w1.1 dF d6
      by_cases c4 : 0 ≤ D.2.1 25 u
      · rw [if_pos c4]
        have hu2 : u < inn D.2 := by rw [dF.einn]; exact hu'
        obtain ⟨c, m, r, w', b1, b2, b3, b4, b5, b6, b7, b8, b9, b10, b11⟩ := ckD.2.2.2.2.1.2.2 u hu2
        obtain ⟨q5, q0⟩ := (hqD u hu2 c m b1 b2 b4).2 c4
        have hF := FE.ch (w := W.1) 7 D.2 (D.2.1 26 u)
        have k1 := ch_cn (w := W.1) 7 D.2 (D.2.1 26 u) ckD.1
        have p1 := pot_add hF ckD.1 (show Vv _ from ckD.2.2.2.2.2.2.2) d6 k1
        have p0 : e = 0 → pot (chT 7 D.2 (D.2.1 26 u) W.1).2 = pot D.2 := by
          intro z
          have e15 : D.2.1 15 u = 0 := by
            rw [(wF.tr dF).1 15 (by omega), c5, z]
            rfl
          rw [we z, ch_0 7 _ ckD.1 (b10 c4).2 (q0 e15)]
        refine ⟨fun g7 g6 => ⟨?_, fun q => by rw [tk] at q; omega, fun q => by rw [tk] at q; omega⟩, by show pot (chT 7 D.2 (D.2.1 26 u) W.1).2 ≤ _; omega⟩
        show pot (chT 7 D.2 (D.2.1 26 u) W.1).2 + off (chT 7 D.2 (D.2.1 26 u) W.1).2 (chT 7 D.2 (D.2.1 26 u) W.1).1 ≤ _
        have hd := ch_dp w1.2.2 7 D.2 (D.2.1 26 u) ckD.1 ckD.2.1 (b10 c4).1 (b10 c4).2 g6
        have ckC := ckD.ch w1.2.2 (b10 c4).1 (b10 c4).2 g6
        have m2 := tR_m2 ckC.1.1 ckC.2
        have o4 := off_le (T := (chT 7 D.2 (D.2.1 26 u) W.1).2) m2
        by_cases z : e = 0
        · have := p0 z
          omega
        · by_cases c0 : 0 < (chT 7 D.2 (D.2.1 26 u) W.1).1
          · rw [off_p c0, hd]
            repeat' split
            all_goals omega
          · have d0 : dpt (chT 7 D.2 (D.2.1 26 u) W.1).2 7 (chT 7 D.2 (D.2.1 26 u) W.1).1 = 0 := by rw [dpt, if_neg c0]
            rw [off_i m2 c0]
            omega
      · rw [if_neg c4]
        refine ⟨fun g7 g6 => ⟨?_, fun q => by rw [tk] at q; omega, fun q => by rw [tk] at q; omega⟩, by show pot D.2 ≤ _; omega⟩
        show pot D.2 + off D.2 (-1) ≤ _
        rw [off_i (by decide) (by decide)]
        omega
    · have hb : ¬ (flT T 7 (nI (xP X i))).1 7 0 = 0 := flT_bad (by decide)
      simp only [if_neg c5, if_neg hb, waX_bad hb]
      exact rb_f (by rw [pot_fl]; omega) hb
  · simp only [if_neg c1]
    have hb : ¬ (flT T 3 (nI (xP X i))).1 7 0 = 0 := flT_bad (by decide)
    simp only [if_neg hb, waX_bad hb]
    exact rb_f (by rw [pot_fl]; omega) hb
theorem rm_nwD (hl : ¬ xK X (i + 3 + e) = 49 → lenT ta < 100000) (hr : rC2 r) (hA : RF X ta) (hw : if xK X (i + 3 + e) = 49 then Wb X ta false lo hi else Wb X ta true lo hi) (h : Ck T) (hq : Hq T) (hc0 : cn T < 6000) (h0 : T.1 7 0 = 0) (hu : u < inn T) (hp : PK w 3) : RBq X (tD 7 i e ta tb) T (nwD X (chk X ta) ta i e r (nI u) w T) := by
  have h24 := h.2.2.2.2.1.2.1
  have cu : (nI u).toNatClampNeg = u := nc (by omega)
  have cw1 : cw X (tD 7 i e ta tb) = if xK X (i + 3 + e) = 49 then cw X ta + e + 7 else cw X ta + e + 5 := rfl
  have tk : ¬ tkd X (tD 7 i e ta tb) = 14 ∧ ¬ tkd X (tD 7 i e ta tb) = 15 := by
    have : tkd X (tD 7 i e ta tb) = if xK X (i + 3 + e) = 49 then 7 else 6 := rfl
    rw [this]
    split <;> omega
  have row : ∀ S, Ck S → u < inn S → rwOk S (cn S) (1, r, -1, nI u, w) := fun S hS hi => ⟨Or.inl rfl, hr, hp, fun e => absurd e (by decide : ¬ (1 : Int32) = 3), by
    show (if 0 ≤ nI u then _ else _)
    rw [if_pos (show (0 : Int32) ≤ nI u from (nI_leI (a := 0) (b := u) (by omega) (by omega)).mpr (by omega))]
    exact ⟨u, rfl, hi⟩⟩
  -- the new thing's own type, at the end
  have fin : ∀ (S : gSt) (js : List T5), FE T S → Ck S → cn S < 6000 → pot S + 6 ≤ pot T + 3 * cw X (tD 7 i e ta tb) + 1 → RBq X (tD 7 i e ta tb) T (knR (mkS S) (1, r, -1, nI u, w), 0, js, knS (mkS S) (1, r, -1, nI u, w)) := by
    intro S js hF hS hcS hn
    have ck1 := hS.mk hcS
    have k1 := cn_kn1 (z := (1, r, -1, nI u, w)) ck1.1
    have p1 := pot_add (k := 1) (FE.kn (z := (1, r, -1, nI u, w))) ck1.1 (show Vv _ from ck1.2.2.2.2.2.2.2) (by rw [cn_mk]; exact hcS) k1
    rw [pot_mk] at p1
    refine ⟨fun g7 g6 => ⟨?_, fun q => absurd q tk.1, fun q => absurd q tk.2⟩, by show pot (knS (mkS S) (1, r, -1, nI u, w)) ≤ _; omega⟩
    show pot (knS (mkS S) (1, r, -1, nI u, w)) + off (knS (mkS S) (1, r, -1, nI u, w)) (knR (mkS S) (1, r, -1, nI u, w)) ≤ _
    have kk := ck1.kn (row _ ck1 (by rw [(hF.tr FE.mk).einn]; exact hu)) g6
    obtain ⟨q, q1, q2, q3, q4⟩ := kk.2
    have := off_le (T := knS (mkS S) (1, r, -1, nI u, w)) (tR_m2 kk.1.1 (Or.inr ⟨q, q1, q2, q3⟩))
    omega
  unfold nwD
  dsimp only
  rw [cu]
  by_cases c0 : xK X (i + 3 + e) = 49
  · simp only [if_pos c0] at hw cw1 ⊢
    have n10 : ¬ (1 : Int32) = 0 := by decide
    simp only [if_neg n10]
    by_cases c1 : T.1 12 u = 1
    · simp only [if_pos c1, if_pos h0]
      by_cases c3 : 0 ≤ fnF T (nI u) (xN X (i + 3 + e + 1))
      · simp only [if_pos c3]
        obtain ⟨c, m, j, f1, f2, f3, f4, f5, f6, f7, f8⟩ := fld_ok h hc0 hu c3
        have hs := (hA false lo hi 0 0 T hw h hq h0 hc0 (fun e => absurd e (by decide))).1 rfl
        have fa := chk_fe (X := X) ta 0 0 T
        have e6 : fty (chk X ta 0 0 T).2.2.2 (nI u) (fnF T (nI u) (xN X (i + 3 + e + 1))) = T.1 24 (c + j) := by
          rw [f5, ← f6]
          unfold fty
          rw [fa.1 24 (by omega), fa.1 18 (by omega)]
        rw [e6]
        have hvv := iv_ex0 (chk_inv ta) hw h
        generalize chk X ta 0 0 T = R at *
        have g1 := fa.tg h.1
        have fF : FE R.2.2.2 (ftS (chT 7 R.2.2.2 (T.1 24 (c + j)) w).2 R.1 (chT 7 R.2.2.2 (T.1 24 (c + j)) w).1 (plT X ta)) := (FE.ch _ _ _).tr FE.ft
        have bad7 : ¬ R.2.2.2.1 7 0 = 0 → pot R.2.2.2 ≤ pot T + 3 * cw X ta + 11 := fun _ => hs.2
        by_cases c7 : R.2.2.2.1 7 0 = 0
        · by_cases c6 : cn R.2.2.2 < 6000
          · have hv := hvv c6
            have s1 := (hs.1 c7 c6).1
            have d5 : dpt R.2.2.2 7 (T.1 24 (c + j)) ≤ 5 := by
              rw [dpt_fe fa h.1 h.2.1 c6 f7]
              exact (hq u hu c m f1 f2 f3).1 j f4
            have fit := arg_fit (pl := plT X ta) hv.1 c6 (hv.2 c7).1 hp (f7.fe fa h.1) (f8.fe fa h.1 c6) d5
            have ckT : cn (ftS (chT 7 R.2.2.2 (T.1 24 (c + j)) w).2 R.1 (chT 7 R.2.2.2 (T.1 24 (c + j)) w).1 (plT X ta)) < 6000 → Ck (ftS (chT 7 R.2.2.2 (T.1 24 (c + j)) w).2 R.1 (chT 7 R.2.2.2 (T.1 24 (c + j)) w).1 (plT X ta)) := fun c3 => (hv.1.ch hp (f7.fe fa h.1) (f8.fe fa h.1 c6) (FE.ft.lt ((FE.ch _ _ _).tg hv.1.1) c3)).1.ft c3
            generalize ftS (chT 7 R.2.2.2 (T.1 24 (c + j)) w).2 R.1 (chT 7 R.2.2.2 (T.1 24 (c + j)) w).1 (plT X ta) = T2 at *
            refine rb_bd (Sa := T2) (by have := fit.1; omega) (fun q => by rw [if_neg q]; rfl) ?_ (fF.tg g1) (fun d7 d6 => ?_)
            · split
              · exact FE.mk.tr FE.kn
              · exact FE.rf
            rw [if_pos d7]
            exact fin T2 _ (fa.tr fF) (ckT d6) d6 (by have := fit.1; omega)
          · have fall : FE R.2.2.2 (if (ftS (chT 7 R.2.2.2 (T.1 24 (c + j)) w).2 R.1 (chT 7 R.2.2.2 (T.1 24 (c + j)) w).1 (plT X ta)).1 7 0 = 0 then (knR (mkS (ftS (chT 7 R.2.2.2 (T.1 24 (c + j)) w).2 R.1 (chT 7 R.2.2.2 (T.1 24 (c + j)) w).1 (plT X ta))) (1, r, -1, nI u, w), 0, R.2.2.1 ++ [j1 17 r (knR (mkS (ftS (chT 7 R.2.2.2 (T.1 24 (c + j)) w).2 R.1 (chT 7 R.2.2.2 (T.1 24 (c + j)) w).1 (plT X ta))) (1, r, -1, nI u, w)) (fnF T (nI u) (xN X (i + 3 + e + 1))) 0], knS (mkS (ftS (chT 7 R.2.2.2 (T.1 24 (c + j)) w).2 R.1 (chT 7 R.2.2.2 (T.1 24 (c + j)) w).1 (plT X ta))) (1, r, -1, nI u, w)) else erR (ftS (chT 7 R.2.2.2 (T.1 24 (c + j)) w).2 R.1 (chT 7 R.2.2.2 (T.1 24 (c + j)) w).1 (plT X ta)) : ChR).2.2.2 := by
              split
              · exact fF.tr (FE.mk.tr FE.kn)
              · exact fF
            have := (fall.2.2.1 g1).2.1
            refine ⟨fun _ q => by omega, ?_⟩
            rw [pot_o2 fall g1 c6]
            have := hs.2
            omega
        · have fb : ∀ y x : Int32, ftS (chT 7 R.2.2.2 (T.1 24 (c + j)) w).2 x y (plT X ta) = (chT 7 R.2.2.2 (T.1 24 (c + j)) w).2 := by
            intro y x
            unfold ftS
            rw [if_neg (fun z => (FE.ch (w := w) 7 R.2.2.2 (T.1 24 (c + j))).2.2.2 c7 z.1)]
          have nb := (FE.ch (w := w) 7 R.2.2.2 (T.1 24 (c + j))).2.2.2 c7
          rw [fb, if_neg nb]
          refine rb_f ?_ nb
          have hf := FE.ch (w := w) 7 R.2.2.2 (T.1 24 (c + j))
          have k1 := ch_cn (w := w) 7 R.2.2.2 (T.1 24 (c + j)) g1
          by_cases c6 : cn R.2.2.2 < 6000
          · have hv := hvv c6
            have d5 : dpt R.2.2.2 7 (T.1 24 (c + j)) ≤ 5 := by
              rw [dpt_fe fa h.1 h.2.1 c6 f7]
              exact (hq u hu c m f1 f2 f3).1 j f4
            have := pot_add (k := 5) hf g1 (show Vv _ from hv.1.2.2.2.2.2.2.2) c6 (by omega)
            have := hs.2
            omega
          · rw [pot_o2 hf g1 c6]
            have := hs.2
            omega
      · simp only [if_neg c3]
        exact rb_f (by rw [pot_fl]; omega) (flT_bad (by decide))
    · simp only [if_neg c1]
      have hb : ¬ (flT T 7 (nI (xP X (i + 3 + e)))).1 7 0 = 0 := flT_bad (by decide)
      simp only [if_neg hb]
      exact rb_f (by rw [pot_fl]; omega) hb
  · simp only [if_neg c0] at hw cw1 ⊢
    simp only [↓reduceIte]
    by_cases c1 : T.1 12 u = 0
    · simp only [if_pos c1]
      by_cases c2 : nI (lenT ta) = T.1 19 u
      · simp only [if_pos c2, if_pos h0]
        have hs := (hA true lo hi (T.1 18 u).toNatClampNeg w T hw h hq h0 hc0 (fun _ => ⟨ag_it h hu c2 (hl c0) hp, ag_d h hq hu c2 (hl c0)⟩)).2 rfl
        have fa := chk_fe (X := X) ta (T.1 18 u).toNatClampNeg w T
        have i1 := fun hcf => (chk_inv (X := X) ta true lo hi _ w T hw h (fun _ => ag_it h hu c2 (hl c0) hp) hcf).1
        generalize chk X ta (T.1 18 u).toNatClampNeg w T = R at *
        refine rb_bd (Sa := R.2.2.2) (by have := hs.2; omega) (fun q => by rw [if_neg q]; rfl) ?_ (fa.tg h.1) (fun c7 c6 => ?_)
        · split
          · exact FE.mk.tr FE.kn
          · exact FE.rf
        rw [if_pos c7]
        refine fin R.2.2.2 _ fa (i1 c6) c6 ?_
        have := hs.1 c7 c6
        split at this <;> omega
      · simp only [if_neg c2]
        have hb : ¬ (flT T 7 (nI (xP X (i + 2)))).1 7 0 = 0 := flT_bad (by decide)
        simp only [if_neg hb]
        exact rb_f (by rw [pot_fl]; omega) hb
    · simp only [if_neg c1]
      have hb : ¬ (flT T 7 (nI (xP X (i + 3 + e)))).1 7 0 = 0 := flT_bad (by decide)
      simp only [if_neg hb]
      exact rb_f (by rw [pot_fl]; omega) hb
theorem rm_nw (hl : ¬ xK X (i + 3 + e) = 49 → lenT ta < 100000) (he : e ≤ 3) (hA : RF X ta) (hw : if xK X (i + 3 + e) = 49 then Wb X ta false lo hi else Wb X ta true lo hi) (h : Ck T) (hq : Hq T) (hc0 : cn T < 6000) : RBq X (tD 7 i e ta tb) T (nwC X (chk X ta) ta i e T) := by
  have hr : rC2 (srR X T (i + 1)) := rg_ok h.2.2
  have h0 : Ck (slS X T (i + 1)) := h.sl hc0
  have f0 : FE T (slS X T (i + 1)) := FE.sl
  have c00 : cn (slS X T (i + 1)) < 6000 := by rw [cn_sl]; exact hc0
  have p0 : pot (slS X T (i + 1)) = pot T := pot_sl
  have hq0 := hq.fe h f0 c00
  unfold nwC
  dsimp only
  generalize srR X T (i + 1) = r at *
  generalize slS X T (i + 1) = T0 at *
  by_cases c0 : T0.1 7 0 = 0
  · simp only [if_pos c0]
    by_cases c1 : 0 ≤ ff (isTi T0 (xN X (i + 2))) 0 (inn T0)
    · obtain ⟨u, u1, u2, cu⟩ := ti_ok h0 c1
      simp only [if_pos c1]
      rw [u1]
      simp only [cu]
      by_cases c2 : T0.1 15 u = nI e
      · simp only [if_pos c2]
        have w1 := Ck.wa (X := X) (q := i + 3) e 0 T0 0 h0 c00 (by omega) PK.zr
        have wF := FE.wa (X := X) (q := i + 3) e 0 T0 0
        have wp := pot_wa (X := X) (q := i + 3) e 0 T0 0
        generalize waX X e T0 (i + 3) 0 0 = W at *
        have cW : cn W.2 < 6000 := by rw [w1.2.1]; exact c00
        by_cases c3 : W.2.1 7 0 = 0
        · simp only [if_pos c3]
          have := rm_nwD (tb := tb) hl hr hA hw w1.1 (hq0.fe h0 wF cW) cW c3 (by rw [wF.einn]; exact u2) w1.2.2
          unfold RBq at this ⊢
          rw [wp, p0] at this
          exact this
        · simp only [if_neg c3]
          exact rb_f (by omega) c3
      · have hb : ¬ (flT T0 7 (nI (xP X (i + 2)))).1 7 0 = 0 := flT_bad (by decide)
        simp only [if_neg c2, waX_bad hb, if_neg hb]
        exact rb_f (by rw [pot_fl]; omega) hb
    · have hb : ¬ (flT T0 3 (nI (xP X (i + 2)))).1 7 0 = 0 := flT_bad (by decide)
      simp only [if_neg c1, waX_bad hb, if_neg hb]
      exact rb_f (by rw [pot_fl]; omega) hb
  · simp only [if_neg c0]
    exact rb_f (by omega) c0
end RM7
