/-! the instructions of an EXPR have their types: cell, row, &, arguments -/
section TJ3
variable {S Sf T T' T1 : gSt} {X : Lx} {p q k m n t u c e f s B L i lo hi lo' hi' mm mo : Nat} {x y w r pl pn sg v kd : Int32} {st s0 s1 s2 : List Int32} {js ks : List T5} {j z : T5} {ρ : Nat → Nat} {nm : Int64} {ta tb tr : Tr} {R : ChR}
theorem sl_ok (h : (slS X T q).1 7 0 = 0) : slS X T q = T ∧ ¬ isLv T (srR X T q) = 0 ∧ 0 ≤ rgQ X T q := by
  unfold slS at h ⊢
  by_cases c : (srS X T q).1 7 0 = 0 ∧ isLv (srS X T q) (srR X T q) = 0
  · rw [if_pos c] at h
    exact absurd h (flT_bad (by decide))
  · rw [if_neg c] at h ⊢
    have h2 : ¬ isLv (srS X T q) (srR X T q) = 0 := fun e => c ⟨h, e⟩
    unfold srS at h h2 ⊢
    by_cases c2 : 0 ≤ rgQ X T q
    · rw [if_pos c2] at h2 ⊢
      exact ⟨rfl, h2, c2⟩
    · rw [if_neg c2] at h
      exact absurd h (flT_bad (by decide))
theorem ty_md (hkd : kd = 1 ∨ kd = 3) (hc : cn Sf < 6000) (hr : rC2 r) (hl : ¬ isLv S r = 0) (hA : TyX X Sf S ta) (hw : Wb X ta false lo hi) (hC : Ck T) (h0 : T.1 7 0 = 0) (hE : FE S T) (hP : kGo js ∧ ∀ (B L : Nat) (st : List Int32), wsl Sf st + NW mm mo ≤ B → st.length + NL mm mo ≤ L → TyL Sf S B L (ksE js) st (if kd = 3 then 0 :: st else st)) (hf : (mdC X (chk X ta) ta kd r js T).2.2.2.1 7 0 = 0) (hF : FW (mdC X (chk X ta) ta kd r js T).2.2.2 Sf) (hm : 1 ≤ mm) (hx : XG X ta (mm - 1) 1) (hk : ¬ (tkd X tr = 14 ∨ tkd X tr = 15 ∨ tkd X tr = 16)) : TyE X Sf S tr (mdC X (chk X ta) ta kd r js T) mm mo := by
  have fa := chk_fe (X := X) ta 0 0 T
  have ga := fa.tg hC.1
  unfold mdC at hf hF ⊢
  dsimp only at hf hF ⊢
  generalize hT1 : (if (chk X ta 0 0 T).2.2.2.1 7 0 = 0 ∧ ¬ 0 ≤ (chk X ta 0 0 T).1 then flT (chk X ta 0 0 T).2.2.2 4 (plT X ta) else (chk X ta 0 0 T).2.2.2) = T1 at *
  have f1 : FE (chk X ta 0 0 T).2.2.2 T1 := by
    rw [← hT1]
    split
    · exact FE.fl (by decide)
    · exact FE.rf
  by_cases c1 : T1.1 7 0 = 0
  · simp only [if_pos c1] at hf hF ⊢
    have c0 := f1.ok c1
    have c2 : 0 ≤ (chk X ta 0 0 T).1 := Decidable.byContradiction fun q => by
      rw [if_pos ⟨c0, q⟩] at hT1
      rw [← hT1] at c1
      exact absurd c1 (flT_bad (by decide))
    have e1 : T1 = (chk X ta 0 0 T).2.2.2 := by rw [← hT1, if_neg (fun w => w.2 c2)]
    subst e1
    have fk : FE (chk X ta 0 0 T).2.2.2 (knS (mkS (chk X ta 0 0 T).2.2.2) (kd, r, (chk X ta 0 0 T).1, -1, 0)) := FE.mk.tr FE.kn
    have FA := fk.fw.tr hF
    have hcA := FA.lt ga hc
    have hv := iv_ex0 (chk_inv ta) hw hC hcA
    have EA := hA lo hi (mm - 1) 1 T (by omega) hw hC h0 hE c0 FA hx
    clear hT1 f1
    generalize chk X ta 0 0 T = R at *
    have tvR : tV R.2.2.2 R.1 := by
      rcases (hv.2 c0).1 with z | z | z
      · rw [z] at c2; exact absurd c2 (by decide)
      · rw [z] at c2; exact absurd c2 (by decide)
      · exact z
    have hn : Ck (mkS R.2.2.2) := hv.1.mk hcA
    have row : rwOk (mkS R.2.2.2) (cn (mkS R.2.2.2)) (kd, r, R.1, -1, 0) := by
      refine ⟨?_, hr, PK.zr.up, fun _ => (by decide : ¬ (0 : Int32) ≤ -1), ?_⟩
      · rcases hkd with h | h <;> rw [h]
        · exact Or.inl rfl
        · exact Or.inr (Or.inr rfl)
      · show (if (0 : Int32) ≤ -1 then _ else R.1 = 0 ∨ ∃ q, R.1 = nI q ∧ 1 ≤ q ∧ q < cn (mkS R.2.2.2))
        rw [if_neg (by decide), cn_mk]
        exact tvR
    have nw := new_k hc hn row hF
    generalize knR (mkS R.2.2.2) (kd, r, R.1, -1, 0) = v at *
    have n7 : ¬ (j1 (if kd = 3 then 15 else 14) r R.1 v 0).1 = 7 := by
      show ¬ (if kd = 3 then (15 : Int32) else 14) = 7
      split <;> decide
    have nv : ¬ v = -1 := by obtain ⟨q, hq, _⟩ := nw; exact hq.n1 (by omega)
    have nR : ¬ R.1 = -1 := fun e => by rw [e] at c2; exact absurd c2 (by decide)
    refine tk_noJ hk ((hP.1.ap EA.1).nx n7) (fun B L st hB hL => ?_)
    have E0 := hP.2 B L st hB hL
    have w3 := wsl_c3 (Sf := Sf) (x := 0) (st := st)
    have E1 := EA.2.1 B L (if kd = 3 then 0 :: st else st) (by split <;> unfold NW at * <;> omega) (by
      split
      · rw [List.length_cons]; unfold NL at *; omega
      · unfold NL at *; omega)
    rw [psh_n nR] at E1
    have E3 : TyL Sf S B L (ksE (js ++ R.2.2.1)) st (R.1 :: (if kd = 3 then 0 :: st else st)) := by
      rw [ksE_ap EA.1]
      exact TyL.ap _ _ _ _ _ E0 E1
    refine ty_ap1 (by have := NW_3 (mm := mm) (mo := mo); omega) (by have := NL_1 (mm := mm) (mo := mo); omega) E3 n7 ?_ nv
    rcases hkd with h | h
    · subst h
      rw [tyJ_14 rfl]
      exact ⟨st, rfl, rfl, FA.tv ga tvR, ⟨hr, hl⟩, nw⟩
    · subst h
      rw [tyJ_15 rfl]
      exact ⟨st, rfl, rfl, FA.tv ga tvR, ⟨hr, hl⟩, nw⟩
  · simp only [if_neg c1] at hf
    exact absurd hf c1
theorem ty_rw (hc : cn Sf < 6000) (hA : TyX X Sf S ta) (hB : TyX X Sf S tb) (hw : Wb X ta false lo hi) (hw2 : Wb X tb false lo' hi') (hC : Ck T) (hE : FE S T) (hf : (rwC X (chk X ta) (chk X tb) ta tb i T).2.2.2.1 7 0 = 0) (hF : FW (rwC X (chk X ta) (chk X tb) ta tb i T).2.2.2 Sf) (hm : 1 ≤ mm) (hx : XG X ta (mm - 1) 1) (hx2 : XG X tb (mm - 1) 1) (hk : ¬ (tkd X tr = 14 ∨ tkd X tr = 15 ∨ tkd X tr = 16)) : TyE X Sf S tr (rwC X (chk X ta) (chk X tb) ta tb i T) mm mo := by
  have hrr : rC2 (srR X T (i + 1)) := rg_ok hC.2.2
  unfold rwC at hf hF ⊢
  dsimp only at hf hF ⊢
  by_cases c0 : (slS X T (i + 1)).1 7 0 = 0
  · obtain ⟨s1, s2, s3⟩ := sl_ok c0
    rw [s1] at c0
    simp only [s1, if_pos c0] at hf hF ⊢
    rw [isLv_fe hE] at s2
    generalize srR X T (i + 1) = r at *
    have fa := chk_fe (X := X) ta 0 0 T
    have ga := fa.tg hC.1
    generalize hT1 : (if (chk X ta 0 0 T).2.2.2.1 7 0 = 0 ∧ ¬ (chk X ta 0 0 T).1 = 0 then flT (chk X ta 0 0 T).2.2.2 4 (plT X ta) else (chk X ta 0 0 T).2.2.2) = T1 at *
    have f1 : FE (chk X ta 0 0 T).2.2.2 T1 := by
      rw [← hT1]
      split
      · exact FE.fl (by decide)
      · exact FE.rf
    have fm : FE T1 (mdC X (chk X tb) tb 3 r (chk X ta 0 0 T).2.2.1 T1).2.2.2 := fe_md (chk_fe tb)
    have c1 : T1.1 7 0 = 0 := fm.ok hf
    have c2 := f1.ok c1
    have c3 : (chk X ta 0 0 T).1 = 0 := Decidable.byContradiction fun q => by
      rw [if_pos ⟨c2, q⟩] at hT1
      rw [← hT1] at c1
      exact absurd c1 (flT_bad (by decide))
    have e1 : T1 = (chk X ta 0 0 T).2.2.2 := by rw [← hT1, if_neg (fun w => w.2 c3)]
    subst e1
    have FA := fm.fw.tr hF
    have hv := iv_ex0 (chk_inv ta) hw hC (FA.lt ga hc)
    have EA := hA lo hi (mm - 1) 1 T (by omega) hw hC c0 hE c2 FA hx
    refine ty_md (Or.inr rfl) hc hrr s2 hB hw2 hv.1 c2 (hE.tr fa) ⟨EA.1, fun B L st hB hL => ?_⟩ hf hF hm hx2 hk
    have E1 := EA.2.1 B L st (by unfold NW at *; omega) (by unfold NL at *; omega)
    rw [c3, psh_n (by decide)] at E1
    rw [if_pos rfl]
    exact E1
  · simp only [if_neg c0] at hf
    exact absurd hf c0
/-- & T -/
theorem ty_an (hc : cn Sf < 6000) (hA : TyX X Sf S ta) (hw : Wb X ta false lo hi) (hC : Ck T) (h0 : T.1 7 0 = 0) (hE : FE S T) (hf : (anC X (chk X ta) ta T).2.2.2.1 7 0 = 0) (hF : FW (anC X (chk X ta) ta T).2.2.2 Sf) (hm : 1 ≤ mm) (hx : XG X ta (mm - 1) 0) (hk : ¬ (tkd X tr = 14 ∨ tkd X tr = 15 ∨ tkd X tr = 16)) : TyE X Sf S tr (anC X (chk X ta) ta T) mm mo := by
  have fa := chk_fe (X := X) ta 0 0 T
  have ga := fa.tg hC.1
  unfold anC at hf hF ⊢
  dsimp only at hf hF ⊢
  by_cases ct : tkd X ta = 14 ∨ tkd X ta = 15
  · simp only [if_pos ct] at hf hF ⊢
    by_cases c1 : (chk X ta 0 0 T).2.2.2.1 7 0 = 0
    · simp only [if_pos c1] at hf hF ⊢
      by_cases c2 : tkd X ta = 14 ∧ (chk X ta 0 0 T).2.2.2.1 12 (tf (chk X ta 0 0 T).2.2.2 69 (chk X ta 0 0 T).2.1).toNatClampNeg = 1
      · simp only [if_pos c2] at hf
        exact absurd hf (flT_bad (by decide))
      simp only [if_neg c2] at hf hF ⊢
      have fk : FE (chk X ta 0 0 T).2.2.2 (knS (chk X ta 0 0 T).2.2.2 (1, tf (chk X ta 0 0 T).2.2.2 67 (chk X ta 0 0 T).2.1, (chk X ta 0 0 T).1, -1, 0)) := FE.kn
      have FA := fk.fw.tr hF
      have hcA := FA.lt ga hc
      have hv := iv_ex0 (chk_inv ta) hw hC hcA
      have EA := hA lo hi (mm - 1) 0 T (by omega) hw hC h0 hE c1 FA hx
      obtain ⟨p, p1, p2, p3, p4, p5⟩ := (hv.2 c1).2 ct
      generalize chk X ta 0 0 T = R at *
      have hp : rowP R.2.2.2 R.2.1 p := ⟨p1, p2, p3⟩
      have ep := hp.cl (by omega)
      simp only [tf, ep] at hf hF c2 ⊢
      have hck := hv.1
      have o := hck.row p2 p3
      have row : rwOk R.2.2.2 (cn R.2.2.2) (1, R.2.2.2.1 67 p, R.1, -1, 0) := by
        refine ⟨Or.inl rfl, o.2.1, PK.zr.up, fun _ => (by decide : ¬ (0 : Int32) ≤ -1), ?_⟩
        show (if (0 : Int32) ≤ -1 then _ else R.1 = 0 ∨ ∃ q, R.1 = nI q ∧ 1 ≤ q ∧ q < cn R.2.2.2)
        rw [if_neg (by decide)]
        exact p5
      have nw := new_k hc hck row hF
      obtain ⟨r1, r2, r3, r4, r5⟩ := row5 (FA.row ga hc p3)
      generalize knR R.2.2.2 (1, R.2.2.2.1 67 p, R.1, -1, 0) = v at *
      have nv : ¬ v = -1 := by obtain ⟨q, hq, _⟩ := nw; exact hq.n1 (by omega)
      have hpS : rowP Sf R.2.1 p := hp.up FA ga
      obtain ⟨l0, l, g1, g2, g3, g4⟩ := EA.2.2 (by rcases ct with h | h; exact Or.inl h; exact Or.inr (Or.inl h))
      have l7 : ¬ l.1 = 7 := by
        rcases ct with h | h
        · rw [(g3.1 h).1]; decide
        · rw [(g3.2.1 h).1]; decide
      have e7 : (j1 7 R.2.1 R.1 v 0).1 = 7 := rfl
      have eK : ksE (R.2.2.1 ++ [j1 7 R.2.1 R.1 v 0]) = ksE l0 ++ [ajj l (j1 7 R.2.1 R.1 v 0)] := by rw [g1]; exact ksE_7 e7 l7
      refine tk_noJ hk (by rw [g1]; exact g2.s e7 l7) (fun B L st hB hL => ?_)
      obtain ⟨s1, t1, t2⟩ := g4 B L st (by unfold NW at *; omega) (by unfold NL at *; omega)
      show TyL Sf S B L (ksE (R.2.2.1 ++ [j1 7 R.2.1 R.1 v 0])) st (psh v st)
      rw [eK, psh_n nv]
      refine TyL.ap _ _ _ _ _ t1 (TyL.one ?_ (wsl_c (by have := NW_3 (mm := mm) (mo := mo); omega)) (by have := NL_1 (mm := mm) (mo := mo); rw [List.length_cons]; omega))
      rcases ct with h14 | h15
      · obtain ⟨a1, a2, a3⟩ := g3.1 h14
        rw [tyJ_6 a1, a2, a3] at t2
        obtain ⟨s0, p', t, f, c, b1, b2, b3, b4, b5, b6, b7⟩ := t2
        have es : s0 = st := by injection b2 with _ h; exact h.symm
        have epp : p' = p := nI_inj (by have := b3.1.2.2; omega) (by omega) (by rw [← b3.1.1, p1])
        subst es epp
        unfold ajj
        rw [a1, if_neg (by decide)]
        rw [tyJ_7 rfl]
        refine ⟨s0, p', t, f, c, b1, rfl, b3, fun w => ?_, b4, b5, b6, b7, by rw [r2]; exact nw⟩
        refine c2 ⟨h14, ?_⟩
        have e9 := b3.2.2.1
        rw [r4] at e9
        have := b3.2.2.2.1
        have i24 : inn Sf ≤ 24 := by rw [FA.einn]; exact hck.2.2.2.2.1.2.1
        rw [e9, nc (by omega), ← FA.1 12 (by omega) (by omega) (by omega)]
        exact w
      · obtain ⟨a1, a2, a3⟩ := g3.2.1 h15
        rw [tyJ_8 a1, a2, a3] at t2
        obtain ⟨s0, p', b1, b2, b3, b4⟩ := t2
        have es : s0 = st := by injection b2 with _ h; exact h.symm
        have epp : p' = p := nI_inj (by have := b3.1.2.2; omega) (by omega) (by rw [← b3.1.1, p1])
        subst es epp
        unfold ajj
        rw [a1, if_pos rfl]
        rw [tyJ_9 rfl]
        exact ⟨s0, p', b1, rfl, b3, b4, by rw [r2, ← b4]; exact nw⟩
    · simp only [if_neg c1] at hf
      exact absurd hf c1
  · simp only [if_neg ct] at hf
    exact absurd hf (flT_bad (by decide))
/-- arguments -/
theorem ty_ag (hc : cn Sf < 6000) (hRf : Rws Sf) (hA : TyX X Sf S ta) (hB : TyA X Sf S tb) (hw : Wb X ta false lo hi) (hw2 : Wb X tb true lo' hi') (hC : Ck T) (h0 : T.1 7 0 = 0) (hE : FE S T) (hg : agOk T f w (tD k i e ta tb)) (hf : (agC X (chk X ta) (chk X tb) ta f w T).2.2.2.1 7 0 = 0) (hF : FW (agC X (chk X ta) (chk X tb) ta f w T).2.2.2 Sf) (hx : XG X ta mm 1) (hx2 : XG X tb mm 2) : kGo (agC X (chk X ta) (chk X tb) ta f w T).2.2.1 ∧ ∃ ts : List Int32, ts.length = lenT tb + 1 ∧ AgT Sf S f w ts ∧ ∀ (B L : Nat) (st : List Int32), wsl Sf st + 3 * (lenT tb + 1) + NW mm 1 ≤ B + 3 → st.length + (lenT tb + 1) + NL mm 1 ≤ L + 1 → TyL Sf S B L (ksE (agC X (chk X ta) (chk X tb) ta f w T).2.2.1) st (ts.reverse ++ st) := by
  unfold agC at hf hF ⊢
  have fa := chk_fe (X := X) ta 0 0 T
  by_cases c1 : (chk X ta 0 0 T).2.2.2.1 7 0 = 0
  · simp only [if_pos c1] at hf hF ⊢
    have g1 := fa.tg hC.1
    have f2 := FE.ch (w := w) 7 (chk X ta 0 0 T).2.2.2 ((chk X ta 0 0 T).2.2.2.1 24 f)
    have g2 := f2.tg g1
    have f3 := FE.ft (T := (chT 7 (chk X ta 0 0 T).2.2.2 ((chk X ta 0 0 T).2.2.2.1 24 f) w).2) (x := (chk X ta 0 0 T).1) (y := (chT 7 (chk X ta 0 0 T).2.2.2 ((chk X ta 0 0 T).2.2.2.1 24 f) w).1) (v := plT X ta)
    have g3 := f3.tg g2
    have f4 := chk_fe (X := X) tb (f + 1) w (ftS (chT 7 (chk X ta 0 0 T).2.2.2 ((chk X ta 0 0 T).2.2.2.1 24 f) w).2 (chk X ta 0 0 T).1 (chT 7 (chk X ta 0 0 T).2.2.2 ((chk X ta 0 0 T).2.2.2.1 24 f) w).1 (plT X ta))
    have F3 := f4.fw.tr hF
    have F2 := f3.fw.tr F3
    have F1 := f2.fw.tr F2
    have c3 := F3.lt g3 hc
    have c2 := F2.lt g2 hc
    have c0 := F1.lt g1 hc
    have k3 := f4.ok hf
    obtain ⟨q1, q2, q3⟩ := ft_okT k3
    have hv := iv_ex0 (chk_inv ta) hw hC c0
    have hg1 := hg.fe fa hC.1 c0
    obtain ⟨a1, a2, a3⟩ := hg1.2 0 (by show 0 < lenT tb + 1; omega)
    rw [Nat.add_zero] at a1 a2 a3
    have i2 := hv.1.ch hg.1 a2 a3 c2
    have i3 := i2.1.ft c3
    have EA := hA lo hi mm 1 T (by omega) hw hC h0 hE c1 F1 hx
    have fit := mf_fit hc g2 F2 ((hE.tr fa).tr f2) i2.1.2.1 ((hv.2 c1).1.fe f2 g1) i2.2 q1
    have gt : ∀ ρ, gty Sf ρ (chT 7 (chk X ta 0 0 T).2.2.2 ((chk X ta 0 0 T).2.2.2.1 24 f) w).1 = gty Sf (chρ ρ w) (Sf.1 24 f) := fun ρ => by
      rw [gty_c hc hRf hv.1 hg.1 a2 a3 F2, F1.1 24 (by omega) (by omega) (by omega)]
    have EB := hB lo' hi' mm (f + 1) w _ hw2 i3 k3 (((hE.tr fa).tr f2).tr f3) (by
      have hg3 := hg1.fe (f2.tr f3) g1 c3
      refine ⟨hg3.1, fun j hj => ?_⟩
      have := hg3.2 (j + 1) (by show j + 1 < lenT tb + 1; omega)
      rw [show f + 1 + j = f + (j + 1) from by omega]
      exact this) hf hF hx2
    obtain ⟨EB1, ts, b1, b2, b3⟩ := EB
    have nR : ¬ (chk X ta 0 0 T).1 = -1 := by
      rcases fit with h | h | ⟨p, q, h, _⟩
      · rw [h.1]; decide
      · rw [h.1]; decide
      · exact h.n1 (by omega)
    refine ⟨EA.1.ap EB1, (chk X ta 0 0 T).1 :: ts, by rw [List.length_cons, b1], fun q hq => ?_, fun B L st hB hL => ?_⟩
    · cases q with
      | zero => exact ⟨_, F2.tv g2 i2.2, fit, gt⟩
      | succ q =>
        rw [List.length_cons] at hq
        have := b2 q (by omega)
        rw [show f + 1 + q = f + (q + 1) from by omega] at this
        exact this
    · have w3 := wsl_c3 (Sf := Sf) (x := (chk X ta 0 0 T).1) (st := st)
      have E1 := EA.2.1 B L st (by omega) (by omega)
      rw [psh_n nR] at E1
      have E2 := b3 B L ((chk X ta 0 0 T).1 :: st) (by omega) (by rw [List.length_cons]; omega)
      rw [ksE_ap EB1, List.reverse_cons, List.append_assoc]
      exact TyL.ap _ _ _ _ _ E1 E2
  · simp only [if_neg c1] at hf
    exact absurd hf c1
end TJ3
