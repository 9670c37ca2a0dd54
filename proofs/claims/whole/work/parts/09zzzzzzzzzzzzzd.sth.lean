/-! both machines: calls and their ends; every step -/
section STH
variable {M0 T0 Sf S Sh : gSt} {G G' : GH} {D D' : Nat → (Nat → AV) × Nat} {nf d d' nb nb' mk mk' na na' ng ng' e bs ph bt rb tb ie en hb k q u s i j c t h P W Dp n m it n1 : Nat} {rg rg' : Nat → Nat} {ρ : Nat → Nat} {va : Nat → AV} {M M' T T' : gSt} {v : AV} {x a b cc ee op y z w : Int32} {st s0 st' : List Int32} {ov o0 ov' : List AV} {hs : List HD} {F : FRM} {Fr : Nat → FRM} {f : Nat → Int32} {jj : T5} {r1 : Int32} {l1 : Int64} {tg : List Nat}
variable {K jR jC E n27 : Nat} {F2 F3 : FRM} {hh : HD} {tl : List HD}
theorem TyOf.mo {Q Q' : Nat → Prop} (h : TyOf Sf Q x) (hq : ∀ c, Q c → Q' c) : TyOf Sf Q' x := fun ρ ρ' he => h ρ ρ' (fun c hc => he c (hq c hc))
theorem so_CALL (cx : CxP M0 T0 Sf) (hfw : FwQ Sf T0) (hpg : PgG M0 T0 Sf n1) (hnU : nU M0 ≤ 4000) (h27 : T0.1 27 0 = nI n27) (hn27 : n27 ≤ 24) (hin : inn Sf ≤ n27) (h51 : T0.1 51 0 = nI n1) (h6 : n1 ≤ 6032) (hnf : 16385 ≤ nf) (hd : 20 ≤ d) (hd' : 20 ≤ d') (h : SiZ M0 T0 Sf n1 (K + 1) G D nb mk rg na ng P W Fr Dp M T) (iv : IvP Sf (fit (Fr Dp)) (fS (Fr Dp)) (fst' (Fr Dp)) (fhs (Fr Dp))) (hn : fn (Fr Dp) < 12000) (hm : fm (Fr Dp) < n1) (hps : ∀ h, h ∈ fhs (Fr Dp) → fn (Fr Dp) < h.1 ∧ fm (Fr Dp) < h.2.1) (hst : ¬ (rwC4 M0 (fn (Fr Dp))).1 = 0) (hr : gCALL M0 T0 Sf n1 (fit (Fr Dp)) (Gdk M0 T0 Sf n1 (fit (Fr Dp)) K) (fn (Fr Dp)) (fm (Fr Dp)) (fS (Fr Dp)) (fst' (Fr Dp)) (fhs (Fr Dp))) : StpO nf d d' M0 T0 Sf n1 K P W mk Fr Dp M T := by
  have hS := h
  obtain ⟨hs, rn, h3, h4⟩ := h
  have hm6 : fm (Fr Dp) < 6032 := by omega
  have hH := HsG.dn _ (h3 Dp (Nat.le_refl _))
  obtain ⟨w1, w2, w3, w4, w5, w6, w7, w8, w9⟩ := hs.rw (n := fn (Fr Dp)) (m := fm (Fr Dp))
  obtain ⟨jj, st', hj, hR, hK, hty, hI0, hI, hq⟩ := hr
  have hc6 : cn Sf ≤ 6000 := by have := cx.2.1; omega
  have hop := (rO_op hR hty).1
  have i24 := cx.2.2.2.2.1
  have ht18 := hty
  rw [tyJ_18 hj] at ht18
  obtain ⟨_, ts, t, c, e, _, _, et, ht, h12, _, _, _, _, _, _, _, _, _, _, _, hres⟩ := ht18
  obtain ⟨S', n', m', fb, hcase⟩ := hpg t ht h12
  obtain ⟨s0, est, cq⟩ := xe_18 cx hs rn rfl rfl hn h51 hm h6 hR hK hty hnf hd hd' hj et (by omega) fb hnU h27 hn27 hin hI0
  obtain ⟨c0, k0, iq, _⟩ := fb
  rcases cq with ⟨M', T', ov0, va', ρ', s1, s2, rn', hρ, sim'⟩ | hz
  · have pr := pr_eq (s1.pr w4 hn (by rw [w1]) hop)
    rcases hcase with ⟨row0, gk⟩ | ⟨b, cc, e', y, rowB, rowBC, h25, l12, lm⟩
    · refine Or.inl ⟨1, 1, M', T', G, D, nb, mk, rg, na, ng, _, Dp + 1, MvR.one rn.1 s1, MvC.one rn.2 s2, ⟨⟨sim', rn', fun e he => ?_, fun e he => ?_⟩, ?_⟩, by omega, ?_, ?_, ?_⟩
      · by_cases c1 : e = Dp + 1
        · rw [c1, upd_v]
          exact True.intro
        · rw [upd_n c1]
          by_cases c2 : e = Dp
          · rw [c2, upd_v]
            exact hH
          · rw [upd_n c2]
            exact HsG.dn _ (h3 e (by omega))
      · rw [upd_n (show ¬ e = Dp + 1 by omega)]
        by_cases c2 : e = Dp
        · rw [c2, upd_v, upd_v]
          by_cases r0 : 0 ≤ Sf.1 25 t
          · rw [if_pos r0] at hres
            obtain ⟨tv, tg⟩ := hres
            have ty := (iq.2.2.2.2.2.2.2.2.1 r0 h12).2
            have e3 := iq.2.2.2.2.2.2.2.2.2.2
            rw [if_neg (tV_n1 tv hc6)] at est
            subst est
            refine Or.inr ⟨r0, ty.mo (fun c hc => Nat.le_trans hc e3), jj.2.2.2.1, tv, ?_, hI, hq⟩
            show gty Sf (fρ (Fr Dp)) jj.2.2.2.1 = gty Sf ρ' (Sf.1 26 t)
            rw [tg]
            exact ty _ _ (fun c hc => (hρ c hc).symm)
          · rw [if_neg r0] at hres
            rw [if_pos hres] at est
            subst est
            exact Or.inl ⟨Int32.not_le.mp r0, hq⟩
        · rw [upd_n c2, upd_n (show ¬ e + 1 = Dp + 1 by omega)]
          have hl := (h4 e (by omega)).dn
          by_cases c3 : e + 1 = Dp
          · rw [c3] at hl ⊢
            rw [upd_v]
            exact hl.cg rfl (fun _ _ => rfl)
          · rw [upd_n c3]
            exact hl
      · rw [upd_v]
        exact gk K
      all_goals
        first | unfold nuR | unfold nuC
        rw [upd_v, if_neg hst, if_pos (show (rwC4 M0 (fn (mkF S' ρ' va' [] [] [] t n' m' (fbs (Fr Dp) + 80 + wsl Sf s0) (fph (Fr Dp) + s0.length) (frb (Fr Dp) + lvc (fS (Fr Dp)) (arn (fS (Fr Dp)))) (ftb (Fr Dp) + (fhs (Fr Dp)).length) ng))).1 = 0 from row0)]
        first
          | rw [upd_wR, wRa, upd_v, upd_wR, show fn (mkF (fS (Fr Dp)) (fρ (Fr Dp)) (fva (Fr Dp)) s0 ov0 (fhs (Fr Dp)) (fit (Fr Dp)) (fn (Fr Dp) + 1) (fm (Fr Dp) + 1) (fbs (Fr Dp)) (fph (Fr Dp)) (frb (Fr Dp)) (ftb (Fr Dp)) (fie (Fr Dp))) = fn (Fr Dp) + 1 from rfl]; omega
          | rw [upd_wC, wCa, upd_v, upd_wC, show fm (mkF (fS (Fr Dp)) (fρ (Fr Dp)) (fva (Fr Dp)) s0 ov0 (fhs (Fr Dp)) (fit (Fr Dp)) (fn (Fr Dp) + 1) (fm (Fr Dp) + 1) (fbs (Fr Dp)) (fph (Fr Dp)) (frb (Fr Dp)) (ftb (Fr Dp)) (fie (Fr Dp))) = fm (Fr Dp) + 1 from rfl]; omega
    · have r0 : ¬ 0 ≤ Sf.1 25 t := Int32.not_le.mpr h25
      rw [if_neg r0] at hres
      rw [if_pos hres] at est
      have est := est.symm
      subst est
      obtain ⟨v1, v2, v3, v4, v5, _⟩ := sim'.rw (n := n') (m := m')
      obtain ⟨M2, T2, ov2, t1, t2, rn2, sim2⟩ := bk_sim (nf := nf) (d := d) (d' := d') (st' := s0) cx sim' rn' (by rw [upd_v]; rfl) (by rw [upd_v]; rfl) l12 h51 lm h6 rowB rowBC (Or.inl ⟨by rw [upd_v]; rfl, rfl, by rw [upd_n (by omega), upd_v]; rfl⟩) (by rw [upd_n (by omega), upd_v]; exact hI) hnf hd hd'
      have hop2 : ¬ (rwC4 M0 n').1 = 29 := by rw [rowB]; show ¬ (28 : Int32) = 29; decide
      have pr2 : prN M2 = prN M' := pr_eq (t1.pr (by rw [v4, upd_v]; rfl) l12 (by rw [v1]) hop2)
      have ed : ∀ e, e ≤ Dp → updF (updF (updF Fr Dp (mkF (fS (Fr Dp)) (fρ (Fr Dp)) (fva (Fr Dp)) s0 ov0 (fhs (Fr Dp)) (fit (Fr Dp)) (fn (Fr Dp) + 1) (fm (Fr Dp) + 1) (fbs (Fr Dp)) (fph (Fr Dp)) (frb (Fr Dp)) (ftb (Fr Dp)) (fie (Fr Dp)))) (Dp + 1) (mkF S' ρ' va' [] [] [] t n' m' (fbs (Fr Dp) + 80 + wsl Sf s0) (fph (Fr Dp) + s0.length) (frb (Fr Dp) + lvc (fS (Fr Dp)) (arn (fS (Fr Dp)))) (ftb (Fr Dp) + (fhs (Fr Dp)).length) ng)) Dp (mkF (fS (Fr Dp)) (fρ (Fr Dp)) (fva (Fr Dp)) s0 ov2 (fhs (Fr Dp)) (fit (Fr Dp)) (fn (Fr Dp) + 1) (fm (Fr Dp) + 1) (fbs (Fr Dp)) (fph (Fr Dp)) (frb (Fr Dp)) (ftb (Fr Dp)) (fie (Fr Dp))) e = updF Fr Dp (mkF (fS (Fr Dp)) (fρ (Fr Dp)) (fva (Fr Dp)) s0 ov2 (fhs (Fr Dp)) (fit (Fr Dp)) (fn (Fr Dp) + 1) (fm (Fr Dp) + 1) (fbs (Fr Dp)) (fph (Fr Dp)) (frb (Fr Dp)) (ftb (Fr Dp)) (fie (Fr Dp))) e := fun e he => by
        by_cases c2 : e = Dp
        · rw [c2, upd_v, upd_v]
        · rw [upd_n c2, upd_n (show ¬ e = Dp + 1 by omega), upd_n c2, upd_n c2]
      rw [upd_n (show ¬ Dp = Dp + 1 by omega), upd_v, upd_v] at sim2
      have sim2 : Sim M0 T0 Sf G D nb mk rg _ ng P W (updF (updF (updF Fr Dp (mkF (fS (Fr Dp)) (fρ (Fr Dp)) (fva (Fr Dp)) s0 ov0 (fhs (Fr Dp)) (fit (Fr Dp)) (fn (Fr Dp) + 1) (fm (Fr Dp) + 1) (fbs (Fr Dp)) (fph (Fr Dp)) (frb (Fr Dp)) (ftb (Fr Dp)) (fie (Fr Dp)))) (Dp + 1) (mkF S' ρ' va' [] [] [] t n' m' (fbs (Fr Dp) + 80 + wsl Sf s0) (fph (Fr Dp) + s0.length) (frb (Fr Dp) + lvc (fS (Fr Dp)) (arn (fS (Fr Dp)))) (ftb (Fr Dp) + (fhs (Fr Dp)).length) ng)) Dp (mkF (fS (Fr Dp)) (fρ (Fr Dp)) (fva (Fr Dp)) s0 ov2 (fhs (Fr Dp)) (fit (Fr Dp)) (fn (Fr Dp) + 1) (fm (Fr Dp) + 1) (fbs (Fr Dp)) (fph (Fr Dp)) (frb (Fr Dp)) (ftb (Fr Dp)) (fie (Fr Dp)))) Dp M2 T2 := sim2
      refine Or.inl ⟨2, 2, M2, T2, G, D, nb, mk, rg, _, ng, _, Dp, ⟨M', rn.1, s1, MvR.one rn'.1 t1⟩, ⟨T', rn.2, s2, MvC.one rn'.2 t2⟩, ⟨⟨sim2, rn2, fun e he => ?_, fun e he => ?_⟩, ?_⟩, by omega, ?_, ?_, ?_⟩
      · rw [ed e he]
        by_cases c2 : e = Dp
        · rw [c2, upd_v]
          exact hH
        · rw [upd_n c2]
          exact HsG.dn _ (h3 e (by omega))
      · rw [ed e (by omega), ed (e + 1) (by omega), upd_n (show ¬ e = Dp by omega)]
        have hl := (h4 e (by omega)).dn
        by_cases c3 : e + 1 = Dp
        · rw [c3] at hl ⊢
          rw [upd_v]
          exact hl.cg rfl (fun _ _ => rfl)
        · rw [upd_n c3]
          exact hl
      · rw [ed Dp (Nat.le_refl _), upd_v]
        exact hq
      all_goals
        first | unfold nuR | unfold nuC
        rw [ed Dp (Nat.le_refl _), upd_v, if_neg hst]
        first
          | rw [wRa_eq (Fr := updF Fr Dp (mkF (fS (Fr Dp)) (fρ (Fr Dp)) (fva (Fr Dp)) s0 ov2 (fhs (Fr Dp)) (fit (Fr Dp)) (fn (Fr Dp) + 1) (fm (Fr Dp) + 1) (fbs (Fr Dp)) (fph (Fr Dp)) (frb (Fr Dp)) (ftb (Fr Dp)) (fie (Fr Dp)))) Dp (fun e he => by rw [ed e (by omega)]), upd_wR, show fn (mkF (fS (Fr Dp)) (fρ (Fr Dp)) (fva (Fr Dp)) s0 ov2 (fhs (Fr Dp)) (fit (Fr Dp)) (fn (Fr Dp) + 1) (fm (Fr Dp) + 1) (fbs (Fr Dp)) (fph (Fr Dp)) (frb (Fr Dp)) (ftb (Fr Dp)) (fie (Fr Dp))) = fn (Fr Dp) + 1 from rfl]; split <;> omega
          | rw [wCa_eq (Fr := updF Fr Dp (mkF (fS (Fr Dp)) (fρ (Fr Dp)) (fva (Fr Dp)) s0 ov2 (fhs (Fr Dp)) (fit (Fr Dp)) (fn (Fr Dp) + 1) (fm (Fr Dp) + 1) (fbs (Fr Dp)) (fph (Fr Dp)) (frb (Fr Dp)) (ftb (Fr Dp)) (fie (Fr Dp)))) Dp (fun e he => by rw [ed e (by omega)]), upd_wC, show fm (mkF (fS (Fr Dp)) (fρ (Fr Dp)) (fva (Fr Dp)) s0 ov2 (fhs (Fr Dp)) (fit (Fr Dp)) (fn (Fr Dp) + 1) (fm (Fr Dp) + 1) (fbs (Fr Dp)) (fph (Fr Dp)) (frb (Fr Dp)) (ftb (Fr Dp)) (fie (Fr Dp))) = fm (Fr Dp) + 1 from rfl]; split <;> omega
  · exact so_sp hS hz (Or.inr rfl) hst hn hm6
theorem so_BK (cx : CxP M0 T0 Sf) (hfw : FwQ Sf T0) (hpg : PgG M0 T0 Sf n1) (hnU : nU M0 ≤ 4000) (h27 : T0.1 27 0 = nI n27) (hn27 : n27 ≤ 24) (hin : inn Sf ≤ n27) (h51 : T0.1 51 0 = nI n1) (h6 : n1 ≤ 6032) (hnf : 16385 ≤ nf) (hd : 20 ≤ d) (hd' : 20 ≤ d') (h : SiZ M0 T0 Sf n1 (K + 1) G D nb mk rg na ng P W Fr Dp M T) (iv : IvP Sf (fit (Fr Dp)) (fS (Fr Dp)) (fst' (Fr Dp)) (fhs (Fr Dp))) (hn : fn (Fr Dp) < 12000) (hm : fm (Fr Dp) < n1) (hps : ∀ h, h ∈ fhs (Fr Dp) → fn (Fr Dp) < h.1 ∧ fm (Fr Dp) < h.2.1) (hst : ¬ (rwC4 M0 (fn (Fr Dp))).1 = 0) (hr : gBK M0 T0 Sf n1 (fit (Fr Dp)) (Gdk M0 T0 Sf n1 (fit (Fr Dp)) K) (fn (Fr Dp)) (fm (Fr Dp)) (fS (Fr Dp)) (fst' (Fr Dp)) (fhs (Fr Dp))) : StpO nf d d' M0 T0 Sf n1 K P W mk Fr Dp M T := by
  have hS := h
  obtain ⟨hs, rn, h3, h4⟩ := h
  have hm6 : fm (Fr Dp) < 6032 := by omega
  have hH := HsG.dn _ (h3 Dp (Nat.le_refl _))
  obtain ⟨w1, w2, w3, w4, w5, w6, w7, w8, w9⟩ := hs.rw (n := fn (Fr Dp)) (m := fm (Fr Dp))
  obtain ⟨b, c, e, nw, y, rowR, rowC, hc⟩ := hr
  have hc6 : cn Sf ≤ 6000 := by have := cx.2.1; omega
  have hop : ¬ (rwC4 M0 (fn (Fr Dp))).1 = 29 := by rw [rowR]; show ¬ (28 : Int32) = 29; decide
  have u1 := nuR_1 hst hn
  have u2 := nuC_1 hst hm6
  have lw : wsl Sf (fst' (Fr Dp)) = nw ∧ nw ≤ 3 := by
    rcases hc with ⟨_, e1, e2⟩ | ⟨_, t1, e1, e2, e3, _⟩
    · rw [e1, e2]; exact ⟨rfl, by omega⟩
    · rw [e1]
      exact ⟨by show wS Sf t1 + 0 = nw; omega, e3⟩
  cases Dp with
  | zero =>
    obtain ⟨M', T', s1, s2, z1, z2, ⟨z3, z4⟩, fo⟩ := bk_end (nf := nf) (d := d) (d' := d') cx hs rfl rfl hn h51 hm h6 rowR rowC lw.1 lw.2 hnf hd hd'
    exact Or.inr ⟨1, 1, M', T', MvR.one rn.1 s1, MvC.one rn.2 s2, ⟨G, D, nb, mk, rg, 1, ng, 0, fo, z3, z4, by omega, by rw [z1, z2], Or.inl ⟨z1, rfl⟩, fun w => by rw [z1] at w; exact absurd w (by decide)⟩, by omega, by omega⟩
  | succ Dp =>
    have lk := h4 Dp (by omega)
    have lkd := lk.dn
    have fin : ∀ st' : List Int32, IvP Sf (fit (Fr Dp)) (fS (Fr Dp)) st' (fhs (Fr Dp)) → Gdk M0 T0 Sf n1 (fit (Fr Dp)) K (fn (Fr Dp)) (fm (Fr Dp)) (fS (Fr Dp)) st' (fhs (Fr Dp)) → ((fst' (Fr (Dp + 1)) = [] ∧ nw = 0 ∧ st' = fst' (Fr Dp)) ∨ ∃ t1 x1, fst' (Fr (Dp + 1)) = [t1] ∧ nw = wS Sf t1 ∧ st' = x1 :: fst' (Fr Dp) ∧ ∀ v, VTs Sf G nb rg na ng (fρ (Fr (Dp + 1))) v t1 → VTs Sf G nb rg na ng (fρ (Fr Dp)) v x1) → StpO nf d d' M0 T0 Sf n1 K P W mk Fr (Dp + 1) M T := fun st' hI hq hres => by
      obtain ⟨M', T', ov', s1, s2, rn', sim'⟩ := bk_sim (nf := nf) (d := d) (d' := d') cx hs rn rfl rfl hn h51 hm h6 rowR rowC hres hI hnf hd hd'
      have pr := pr_eq (s1.pr w4 hn (by rw [w1]) hop)
      refine Or.inl ⟨1, 1, M', T', G, D, nb, mk, rg, _, ng, _, Dp, MvR.one rn.1 s1, MvC.one rn.2 s2, ⟨⟨sim', rn', fun e he => ?_, fun e he => ?_⟩, ?_⟩, by omega, ?_, ?_, ?_⟩
      · by_cases c2 : e = Dp
        · rw [c2, upd_v]
          exact HsG.dn _ (h3 Dp (by omega))
        · rw [upd_n c2]
          exact HsG.dn _ (h3 e (by omega))
      · rw [upd_n (show ¬ e = Dp by omega)]
        have hl := (h4 e (by omega)).dn
        by_cases c3 : e + 1 = Dp
        · rw [c3] at hl ⊢
          rw [upd_v]
          exact hl.cg rfl (fun _ _ => rfl)
        · rw [upd_n c3]
          exact hl
      · rw [upd_v]
        exact hq
      all_goals
        first | unfold nuR | unfold nuC
        rw [upd_v, if_neg hst]
        first
          | rw [upd_wR, wRa, show fn (mkF (fS (Fr Dp)) (fρ (Fr Dp)) (fva (Fr Dp)) st' ov' (fhs (Fr Dp)) (fit (Fr Dp)) (fn (Fr Dp)) (fm (Fr Dp)) (fbs (Fr Dp)) (fph (Fr Dp)) (frb (Fr Dp)) (ftb (Fr Dp)) (fie (Fr Dp))) = fn (Fr Dp) from rfl]; split <;> omega
          | rw [upd_wC, wCa, show fm (mkF (fS (Fr Dp)) (fρ (Fr Dp)) (fva (Fr Dp)) st' ov' (fhs (Fr Dp)) (fit (Fr Dp)) (fn (Fr Dp)) (fm (Fr Dp)) (fbs (Fr Dp)) (fph (Fr Dp)) (frb (Fr Dp)) (ftb (Fr Dp)) (fie (Fr Dp))) = fm (Fr Dp) from rfl]; split <;> omega
    rcases hc with ⟨r0, e1, e2⟩ | ⟨r0, t1, e1, e2, e3, hf, hty⟩
    · rcases lkd with ⟨_, hq⟩ | ⟨r1, _⟩
      · exact fin _ (hs.2.2.1.1 Dp (by omega)).2 hq (Or.inl ⟨e1, e2, rfl⟩)
      · exact absurd r0 (Int32.not_lt.mpr r1)
    · rcases lkd with ⟨r1, _⟩ | ⟨_, ty, x, tv, tg, hI, hq⟩
      · exact absurd r1 (Int32.not_lt.mpr r0)
      · refine fin _ hI hq (Or.inr ⟨t1, x, e1, e2, rfl, fun v hv => ?_⟩)
        have := VTs.fit cx hs hv hf hty
        rw [← tg] at this
        exact (wv_wS cx.1 hc6 tv this).2
theorem so_ru (cx : CxP M0 T0 Sf) (hfw : FwQ Sf T0) (hpg : PgG M0 T0 Sf n1) (hnU : nU M0 ≤ 4000) (h27 : T0.1 27 0 = nI n27) (hn27 : n27 ≤ 24) (hin : inn Sf ≤ n27) (h51 : T0.1 51 0 = nI n1) (h6 : n1 ≤ 6032) (hnf : 16385 ≤ nf) (hd : 20 ≤ d) (hd' : 20 ≤ d') (h : SiZ M0 T0 Sf n1 (K + 1) G D nb mk rg na ng P W Fr Dp M T) (iv : IvP Sf (fit (Fr Dp)) (fS (Fr Dp)) (fst' (Fr Dp)) (fhs (Fr Dp))) (hn : fn (Fr Dp) < 12000) (hm : fm (Fr Dp) < n1) (hps : ∀ h, h ∈ fhs (Fr Dp) → fn (Fr Dp) < h.1 ∧ fm (Fr Dp) < h.2.1) (hst : ¬ (rwC4 M0 (fn (Fr Dp))).1 = 0) (hb : mk + prN M + nuC M0 Fr Dp < 2 ^ 31) (hr : GRu M0 T0 Sf n1 (fit (Fr Dp)) (Gdk M0 T0 Sf n1 (fit (Fr Dp)) K) (fn (Fr Dp)) (fm (Fr Dp)) (fS (Fr Dp)) (fst' (Fr Dp)) (fhs (Fr Dp))) : StpO nf d d' M0 T0 Sf n1 K P W mk Fr Dp M T := by
  rcases hr with hr | hr | hr | hr | hr | hr | hr | hr | hr | hr | hr | hr | hr | hr | hr | hr | hr | hr | hr | hr | hr | hr
  · obtain ⟨p, e1, _⟩ := hr
    exact absurd (by rw [e1]) hst
  · exact so_EX cx hfw hpg hnU h27 hn27 hin h51 h6 hnf hd hd' h iv hn hm hps hst hb hr
  · exact so_CALL cx hfw hpg hnU h27 hn27 hin h51 h6 hnf hd hd' h iv hn hm hps hst hr
  · exact so_GOR cx hfw hpg hnU h27 hn27 hin h51 h6 hnf hd hd' h iv hn hm hps hst hr
  · exact so_GO cx hfw hpg hnU h27 hn27 hin h51 h6 hnf hd hd' h iv hn hm hps hst hr
  · exact so_IF cx hfw hpg hnU h27 hn27 hin h51 h6 hnf hd hd' h iv hn hm hps hst hr
  · exact so_IFN cx hfw hpg hnU h27 hn27 hin h51 h6 hnf hd hd' h iv hn hm hps hst hr
  · exact so_LIF cx hfw hpg hnU h27 hn27 hin h51 h6 hnf hd hd' h iv hn hm hps hst hr
  · exact so_LNS cx hfw hpg hnU h27 hn27 hin h51 h6 hnf hd hd' h iv hn hm hps hst hr
  · exact so_STO cx hfw hpg hnU h27 hn27 hin h51 h6 hnf hd hd' h iv hn hm hps hst hr
  · exact so_PUT cx hfw hpg hnU h27 hn27 hin h51 h6 hnf hd hd' h iv hn hm hps hst hr
  · exact so_OUT cx hfw hpg hnU h27 hn27 hin h51 h6 hnf hd hd' h iv hn hm hps hst hb hr
  · exact so_RZ cx hfw hpg hnU h27 hn27 hin h51 h6 hnf hd hd' h iv hn hm hps hst hr
  · exact so_DR cx hfw hpg hnU h27 hn27 hin h51 h6 hnf hd hd' h iv hn hm hps hst hr
  · exact so_DR0 cx hfw hpg hnU h27 hn27 hin h51 h6 hnf hd hd' h iv hn hm hps hst hr
  · exact so_ENT cx hfw hpg hnU h27 hn27 hin h51 h6 hnf hd hd' h iv hn hm hps hst hr
  · exact so_SHT cx hfw hpg hnU h27 hn27 hin h51 h6 hnf hd hd' h iv hn hm hps hst hr
  · exact so_LVL cx hfw hpg hnU h27 hn27 hin h51 h6 hnf hd hd' h iv hn hm hps hst hr
  · exact so_LVD cx hfw hpg hnU h27 hn27 hin h51 h6 hnf hd hd' h iv hn hm hps hst hr
  · exact so_TRS cx hfw hpg hnU h27 hn27 hin h51 h6 hnf hd hd' h iv hn hm hps hst hr
  · exact so_TRD cx hfw hpg hnU h27 hn27 hin h51 h6 hnf hd hd' h iv hn hm hps hst hr
  · exact so_BK cx hfw hpg hnU h27 hn27 hin h51 h6 hnf hd hd' h iv hn hm hps hst hr
/-- a step, whatever it is */
-/
theorem so_step (cx : CxP M0 T0 Sf) (hfw : FwQ Sf T0) (hpg : PgG M0 T0 Sf n1) (hnU : nU M0 ≤ 4000) (h27 : T0.1 27 0 = nI n27) (hn27 : n27 ≤ 24) (hin : inn Sf ≤ n27) (h51 : T0.1 51 0 = nI n1) (h6 : n1 ≤ 6032) (hnf : 16385 ≤ nf) (hd : 20 ≤ d) (hd' : 20 ≤ d') (h : SiG M0 T0 Sf n1 (K + 1) G D nb mk rg na ng P W Fr Dp M T) (hst : ¬ (rwC4 M0 (fn (Fr Dp))).1 = 0) (hb : mk + prN M + nuC M0 Fr Dp < 2 ^ 31) : StpO nf d d' M0 T0 Sf n1 K P W mk Fr Dp M T := by
  have hc6 : cn Sf ≤ 6000 := by have := cx.2.1; omega
  obtain ⟨⟨hs, rn, h3, h4⟩, S0, wk, iv, n12, mn, hps, ru⟩ := h
  have sim' := Sim.wt cx.1 hc6 hs wk iv
  have z : SiZ M0 T0 Sf n1 (K + 1) G D nb mk rg na ng P W (updF Fr Dp (mkF S0 (fρ (Fr Dp)) (fva (Fr Dp)) (fst' (Fr Dp)) (fov (Fr Dp)) (fhs (Fr Dp)) (fit (Fr Dp)) (fn (Fr Dp)) (fm (Fr Dp)) (fbs (Fr Dp)) (fph (Fr Dp)) (frb (Fr Dp)) (ftb (Fr Dp)) (fie (Fr Dp)))) Dp M T := by
    refine ⟨sim', rn, fun e he => ?_, fun e he => ?_⟩
    · by_cases c2 : e = Dp
      · rw [c2, upd_v]
        exact h3 Dp (Nat.le_refl _)
      · rw [upd_n c2]
        exact h3 e he
    · rw [upd_n (show ¬ e = Dp by omega)]
      have hl := h4 e he
      by_cases c3 : e + 1 = Dp
      · rw [c3] at hl ⊢
        rw [upd_v]
        exact hl.cg rfl (fun _ _ => rfl)
      · rw [upd_n c3]
        exact hl
  have e1 : nuR M0 (updF Fr Dp (mkF S0 (fρ (Fr Dp)) (fva (Fr Dp)) (fst' (Fr Dp)) (fov (Fr Dp)) (fhs (Fr Dp)) (fit (Fr Dp)) (fn (Fr Dp)) (fm (Fr Dp)) (fbs (Fr Dp)) (fph (Fr Dp)) (frb (Fr Dp)) (ftb (Fr Dp)) (fie (Fr Dp)))) Dp = nuR M0 Fr Dp := by
    unfold nuR
    rw [upd_v, upd_wR]
    rfl
  have e2 : nuC M0 (updF Fr Dp (mkF S0 (fρ (Fr Dp)) (fva (Fr Dp)) (fst' (Fr Dp)) (fov (Fr Dp)) (fhs (Fr Dp)) (fit (Fr Dp)) (fn (Fr Dp)) (fm (Fr Dp)) (fbs (Fr Dp)) (fph (Fr Dp)) (frb (Fr Dp)) (ftb (Fr Dp)) (fie (Fr Dp)))) Dp = nuC M0 Fr Dp := by
    unfold nuC
    rw [upd_v, upd_wC]
    rfl
  have r := so_ru (K := K) cx hfw hpg hnU h27 hn27 hin h51 h6 hnf hd hd' z (by rw [upd_v]; exact iv) (by rw [upd_v]; exact n12) (by rw [upd_v]; exact mn) (by rw [upd_v]; exact hps) (by rw [upd_v]; exact hst) (by rw [e2]; exact hb) (by rw [upd_v]; exact ru)
  unfold StpO at r ⊢
  rw [e1, e2] at r
  exact r
end STH
