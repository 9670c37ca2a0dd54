/-! both machines: every rule -/
section STG
variable {M0 T0 Sf S Sh : gSt} {G G' : GH} {D D' : Nat → (Nat → AV) × Nat} {nf d d' nb nb' mk mk' na na' ng ng' e bs ph bt rb tb ie en hb k q u s i j c t h P W Dp n m it n1 : Nat} {rg rg' : Nat → Nat} {ρ : Nat → Nat} {va : Nat → AV} {M M' T T' : gSt} {v : AV} {x a b cc ee op y z w : Int32} {st s0 st' : List Int32} {ov o0 ov' : List AV} {hs : List HD} {F : FRM} {Fr : Nat → FRM} {f : Nat → Int32} {jj : T5} {r1 : Int32} {l1 : Int64} {tg : List Nat}
variable {K jR jC E n27 : Nat} {F2 F3 : FRM} {hh : HD} {tl : List HD}
theorem prN_v {p : Nat} (h : M.1 104 0 = nI p) (hp : p < 2 ^ 31) : prN M = p := by
  have := nI_clx (x := nI p) (nI_ge0 hp)
  unfold prN
  rw [h]
  exact nI_inj31 this.2 hp this.1
theorem so_EX (cx : CxP M0 T0 Sf) (hfw : FwQ Sf T0) (hpg : PgG M0 T0 Sf n1) (hnU : nU M0 ≤ 4000) (h27 : T0.1 27 0 = nI n27) (hn27 : n27 ≤ 24) (hin : inn Sf ≤ n27) (h51 : T0.1 51 0 = nI n1) (h6 : n1 ≤ 6032) (hnf : 16385 ≤ nf) (hd : 20 ≤ d) (hd' : 20 ≤ d') (h : SiZ M0 T0 Sf n1 (K + 1) G D nb mk rg na ng P W Fr Dp M T) (iv : IvP Sf (fit (Fr Dp)) (fS (Fr Dp)) (fst' (Fr Dp)) (fhs (Fr Dp))) (hn : fn (Fr Dp) < 12000) (hm : fm (Fr Dp) < n1) (hps : ∀ h, h ∈ fhs (Fr Dp) → fn (Fr Dp) < h.1 ∧ fm (Fr Dp) < h.2.1) (hst : ¬ (rwC4 M0 (fn (Fr Dp))).1 = 0) (hb : mk + prN M + nuC M0 Fr Dp < 2 ^ 31) (hr : gEX M0 T0 Sf n1 (fit (Fr Dp)) (Gdk M0 T0 Sf n1 (fit (Fr Dp)) K) (fn (Fr Dp)) (fm (Fr Dp)) (fS (Fr Dp)) (fst' (Fr Dp)) (fhs (Fr Dp))) : StpO nf d d' M0 T0 Sf n1 K P W mk Fr Dp M T := by
  have hS := h
  obtain ⟨hs, rn, h3, h4⟩ := h
  have hm6 : fm (Fr Dp) < 6032 := by omega
  have hH := HsG.dn _ (h3 Dp (Nat.le_refl _))
  obtain ⟨w1, w2, w3, w4, w5, w6, w7, w8, w9⟩ := hs.rw (n := fn (Fr Dp)) (m := fm (Fr Dp))
  obtain ⟨jj, st', hj, hR, hK, hty, hI, hq⟩ := hr
  have hop := (rO_op hR hty).1
  rcases xe_all cx hs rn rfl rfl hn h51 hm h6 hR hK hty hI hnf hd hd' (by have := nuC_1 hst hm6; omega) hfw hj with ⟨M', T', G', D', nb', mk', ov', s1, s2, rn', hmk', sim'⟩ | hz | hz
  · have pr := pr_eq (s1.pr w4 hn (by rw [w1]) hop)
    exact so_nx hS (MvR.one rn.1 s1) (MvC.one rn.2 s2) sim' rn' rfl (fun _ _ => rfl) hH hq hst hn hm6 (by omega) (Or.inl ⟨by show fn (Fr Dp) + 1 ≤ _; omega, by show fm (Fr Dp) + 1 ≤ _; omega, Nat.le_succ _, by show 1 + _ ≤ 2 * (fn (Fr Dp) + 1); omega, by show 1 + _ ≤ 2 * (fm (Fr Dp) + 1); omega, by show _ ≤ mk + prN M + (fm (Fr Dp) + 1); omega⟩)
  · exact so_rz cx hS hz h51 h6 hnf hd hd' hst hop hn hm6 hps
  · exact so_sp hS hz (Or.inl rfl) hst hn hm6
theorem so_GOR (cx : CxP M0 T0 Sf) (hfw : FwQ Sf T0) (hpg : PgG M0 T0 Sf n1) (hnU : nU M0 ≤ 4000) (h27 : T0.1 27 0 = nI n27) (hn27 : n27 ≤ 24) (hin : inn Sf ≤ n27) (h51 : T0.1 51 0 = nI n1) (h6 : n1 ≤ 6032) (hnf : 16385 ≤ nf) (hd : 20 ≤ d) (hd' : 20 ≤ d') (h : SiZ M0 T0 Sf n1 (K + 1) G D nb mk rg na ng P W Fr Dp M T) (iv : IvP Sf (fit (Fr Dp)) (fS (Fr Dp)) (fst' (Fr Dp)) (fhs (Fr Dp))) (hn : fn (Fr Dp) < 12000) (hm : fm (Fr Dp) < n1) (hps : ∀ h, h ∈ fhs (Fr Dp) → fn (Fr Dp) < h.1 ∧ fm (Fr Dp) < h.2.1) (hst : ¬ (rwC4 M0 (fn (Fr Dp))).1 = 0) (hr : gGOR M0 T0 Sf n1 (fit (Fr Dp)) (Gdk M0 T0 Sf n1 (fit (Fr Dp)) K) (fn (Fr Dp)) (fm (Fr Dp)) (fS (Fr Dp)) (fst' (Fr Dp)) (fhs (Fr Dp))) : StpO nf d d' M0 T0 Sf n1 K P W mk Fr Dp M T := by
  have hS := h
  obtain ⟨hs, rn, h3, h4⟩ := h
  have hm6 : fm (Fr Dp) < 6032 := by omega
  have hH := HsG.dn _ (h3 Dp (Nat.le_refl _))
  obtain ⟨w1, w2, w3, w4, w5, w6, w7, w8, w9⟩ := hs.rw (n := fn (Fr Dp)) (m := fm (Fr Dp))
  obtain ⟨nx, c, e, rowR, lt, l12, hq⟩ := hr
  have hop : ¬ (rwC4 M0 (fn (Fr Dp))).1 = 29 := by rw [rowR]; show ¬ (27 : Int32) = 29; decide
  obtain ⟨M', ov', s1, rn', sim'⟩ := st_goR (nf := nf) cx hs rn rfl hn rowR hd
  have pr := pr_eq (s1.pr w4 hn (by rw [w1]) hop)
  exact so_nx (jC := 0) hS (MvR.one rn.1 s1) rfl sim' rn' rfl (fun _ _ => rfl) hH hq hst hn hm6 (by omega) (Or.inl ⟨by show nx ≤ _; omega, by show fm (Fr Dp) ≤ _; omega, Nat.le_refl _, by show 1 + _ ≤ 2 * nx; omega, by show 0 + _ ≤ 2 * fm (Fr Dp); omega, by show _ ≤ mk + prN M + fm (Fr Dp); omega⟩)
theorem so_GO (cx : CxP M0 T0 Sf) (hfw : FwQ Sf T0) (hpg : PgG M0 T0 Sf n1) (hnU : nU M0 ≤ 4000) (h27 : T0.1 27 0 = nI n27) (hn27 : n27 ≤ 24) (hin : inn Sf ≤ n27) (h51 : T0.1 51 0 = nI n1) (h6 : n1 ≤ 6032) (hnf : 16385 ≤ nf) (hd : 20 ≤ d) (hd' : 20 ≤ d') (h : SiZ M0 T0 Sf n1 (K + 1) G D nb mk rg na ng P W Fr Dp M T) (iv : IvP Sf (fit (Fr Dp)) (fS (Fr Dp)) (fst' (Fr Dp)) (fhs (Fr Dp))) (hn : fn (Fr Dp) < 12000) (hm : fm (Fr Dp) < n1) (hps : ∀ h, h ∈ fhs (Fr Dp) → fn (Fr Dp) < h.1 ∧ fm (Fr Dp) < h.2.1) (hst : ¬ (rwC4 M0 (fn (Fr Dp))).1 = 0) (hr : gGO M0 T0 Sf n1 (fit (Fr Dp)) (Gdk M0 T0 Sf n1 (fit (Fr Dp)) K) (fn (Fr Dp)) (fm (Fr Dp)) (fS (Fr Dp)) (fst' (Fr Dp)) (fhs (Fr Dp))) : StpO nf d d' M0 T0 Sf n1 K P W mk Fr Dp M T := by
  have hS := h
  obtain ⟨hs, rn, h3, h4⟩ := h
  have hm6 : fm (Fr Dp) < 6032 := by omega
  have hH := HsG.dn _ (h3 Dp (Nat.le_refl _))
  obtain ⟨w1, w2, w3, w4, w5, w6, w7, w8, w9⟩ := hs.rw (n := fn (Fr Dp)) (m := fm (Fr Dp))
  obtain ⟨nx, mx, c, e, y, rowR, rowC, pos, l12, lm, hq⟩ := hr
  have hop : ¬ (rwC4 M0 (fn (Fr Dp))).1 = 29 := by rw [rowR]; show ¬ (27 : Int32) = 29; decide
  obtain ⟨M', ov', s1, rn1, sim1⟩ := st_goR (nf := nf) cx hs rn rfl hn rowR hd
  obtain ⟨T', ov2, s2, rn', sim'⟩ := st_goC (nf := nf) (mx := mx) (y := y) cx sim1 rn1 (by rw [upd_v]; rfl) h51 hm h6 rowC hd'
  have pr := pr_eq (s1.pr w4 hn (by rw [w1]) hop)
  rw [upd_v, upd_2] at sim'
  refine so_nx hS (MvR.one rn.1 s1) (MvC.one rn.2 s2) sim' rn' rfl (fun _ _ => rfl) hH hq hst hn hm6 (by omega) ?_
  rcases pos with ⟨p1, p2⟩ | p1
  · exact Or.inl ⟨by show nx ≤ _; omega, by show mx ≤ _; omega, by show _ ≤ mx; omega, by show 1 + _ ≤ 2 * nx; omega, by show 1 + _ ≤ 2 * mx; omega, by show _ ≤ mk + prN M + mx; omega⟩
  · exact Or.inr ⟨p1, by omega, by omega, by omega⟩
theorem so_IF (cx : CxP M0 T0 Sf) (hfw : FwQ Sf T0) (hpg : PgG M0 T0 Sf n1) (hnU : nU M0 ≤ 4000) (h27 : T0.1 27 0 = nI n27) (hn27 : n27 ≤ 24) (hin : inn Sf ≤ n27) (h51 : T0.1 51 0 = nI n1) (h6 : n1 ≤ 6032) (hnf : 16385 ≤ nf) (hd : 20 ≤ d) (hd' : 20 ≤ d') (h : SiZ M0 T0 Sf n1 (K + 1) G D nb mk rg na ng P W Fr Dp M T) (iv : IvP Sf (fit (Fr Dp)) (fS (Fr Dp)) (fst' (Fr Dp)) (fhs (Fr Dp))) (hn : fn (Fr Dp) < 12000) (hm : fm (Fr Dp) < n1) (hps : ∀ h, h ∈ fhs (Fr Dp) → fn (Fr Dp) < h.1 ∧ fm (Fr Dp) < h.2.1) (hst : ¬ (rwC4 M0 (fn (Fr Dp))).1 = 0) (hr : gIF M0 T0 Sf n1 (fit (Fr Dp)) (Gdk M0 T0 Sf n1 (fit (Fr Dp)) K) (fn (Fr Dp)) (fm (Fr Dp)) (fS (Fr Dp)) (fst' (Fr Dp)) (fhs (Fr Dp))) : StpO nf d d' M0 T0 Sf n1 K P W mk Fr Dp M T := by
  have hS := h
  obtain ⟨hs, rn, h3, h4⟩ := h
  have hm6 : fm (Fr Dp) < 6032 := by omega
  have hH := HsG.dn _ (h3 Dp (Nat.le_refl _))
  obtain ⟨w1, w2, w3, w4, w5, w6, w7, w8, w9⟩ := hs.rw (n := fn (Fr Dp)) (m := fm (Fr Dp))
  obtain ⟨nx, mx, e, y, s0, rowR, rowC, hst', lt1, lt2, l12, lm, hI, q1, q2⟩ := hr
  have hop : ¬ (rwC4 M0 (fn (Fr Dp))).1 = 29 := by rw [rowR]; show ¬ (26 : Int32) = 29; decide
  obtain ⟨M', T', ov', n', m', hc, s1, s2, rn', sim'⟩ := st_if (nf := nf) (d := d) (d' := d') cx hs rn rfl rfl hn h51 hm h6 rowR rowC hst' hI hd hd'
  have pr := pr_eq (s1.pr w4 hn (by rw [w1]) hop)
  rcases hc with ⟨e1, e2⟩ | ⟨e1, e2⟩ <;> subst e1 e2
  · exact so_nx hS (MvR.one rn.1 s1) (MvC.one rn.2 s2) sim' rn' rfl (fun _ _ => rfl) hH q1 hst hn hm6 (by omega) (Or.inl ⟨by show fn (Fr Dp) + 1 ≤ _; omega, by show fm (Fr Dp) + 1 ≤ _; omega, Nat.le_succ _, by show 1 + _ ≤ 2 * (fn (Fr Dp) + 1); omega, by show 1 + _ ≤ 2 * (fm (Fr Dp) + 1); omega, by show _ ≤ mk + prN M + (fm (Fr Dp) + 1); omega⟩)
  · exact so_nx hS (MvR.one rn.1 s1) (MvC.one rn.2 s2) sim' rn' rfl (fun _ _ => rfl) hH q2 hst hn hm6 (by omega) (Or.inl ⟨by show n' ≤ _; omega, by show m' ≤ _; omega, by show _ ≤ m'; omega, by show 1 + _ ≤ 2 * (n'); omega, by show 1 + _ ≤ 2 * (m'); omega, by show _ ≤ mk + prN M + (m'); omega⟩)
theorem so_IFN (cx : CxP M0 T0 Sf) (hfw : FwQ Sf T0) (hpg : PgG M0 T0 Sf n1) (hnU : nU M0 ≤ 4000) (h27 : T0.1 27 0 = nI n27) (hn27 : n27 ≤ 24) (hin : inn Sf ≤ n27) (h51 : T0.1 51 0 = nI n1) (h6 : n1 ≤ 6032) (hnf : 16385 ≤ nf) (hd : 20 ≤ d) (hd' : 20 ≤ d') (h : SiZ M0 T0 Sf n1 (K + 1) G D nb mk rg na ng P W Fr Dp M T) (iv : IvP Sf (fit (Fr Dp)) (fS (Fr Dp)) (fst' (Fr Dp)) (fhs (Fr Dp))) (hn : fn (Fr Dp) < 12000) (hm : fm (Fr Dp) < n1) (hps : ∀ h, h ∈ fhs (Fr Dp) → fn (Fr Dp) < h.1 ∧ fm (Fr Dp) < h.2.1) (hst : ¬ (rwC4 M0 (fn (Fr Dp))).1 = 0) (hr : gIFN M0 T0 Sf n1 (fit (Fr Dp)) (Gdk M0 T0 Sf n1 (fit (Fr Dp)) K) (fn (Fr Dp)) (fm (Fr Dp)) (fS (Fr Dp)) (fst' (Fr Dp)) (fhs (Fr Dp))) : StpO nf d d' M0 T0 Sf n1 K P W mk Fr Dp M T := by
  have hS := h
  obtain ⟨hs, rn, h3, h4⟩ := h
  have hm6 : fm (Fr Dp) < 6032 := by omega
  have hH := HsG.dn _ (h3 Dp (Nat.le_refl _))
  obtain ⟨w1, w2, w3, w4, w5, w6, w7, w8, w9⟩ := hs.rw (n := fn (Fr Dp)) (m := fm (Fr Dp))
  obtain ⟨nx, mx, e, y, x, p, s0, rowR, rowC, hst', hx, lt1, lt2, l12, lm, hI, q1, q2⟩ := hr
  have hop : ¬ (rwC4 M0 (fn (Fr Dp))).1 = 29 := by rw [rowR]; show ¬ (26 : Int32) = 29; decide
  obtain ⟨M', T', ov', n', m', hc, s1, s2, rn', sim'⟩ := st_ifn (nf := nf) (d := d) (d' := d') cx hs rn rfl rfl hn h51 hm h6 rowR rowC hst' hx hI hd hd'
  have pr := pr_eq (s1.pr w4 hn (by rw [w1]) hop)
  rcases hc with ⟨e1, e2⟩ | ⟨e1, e2⟩ <;> subst e1 e2
  · exact so_nx hS (MvR.one rn.1 s1) (MvC.one rn.2 s2) sim' rn' rfl (fun _ _ => rfl) hH q1 hst hn hm6 (by omega) (Or.inl ⟨by show fn (Fr Dp) + 1 ≤ _; omega, by show fm (Fr Dp) + 1 ≤ _; omega, Nat.le_succ _, by show 1 + _ ≤ 2 * (fn (Fr Dp) + 1); omega, by show 1 + _ ≤ 2 * (fm (Fr Dp) + 1); omega, by show _ ≤ mk + prN M + (fm (Fr Dp) + 1); omega⟩)
  · exact so_nx hS (MvR.one rn.1 s1) (MvC.one rn.2 s2) sim' rn' rfl (fun _ _ => rfl) hH q2 hst hn hm6 (by omega) (Or.inl ⟨by show n' ≤ _; omega, by show m' ≤ _; omega, by show _ ≤ m'; omega, by show 1 + _ ≤ 2 * (n'); omega, by show 1 + _ ≤ 2 * (m'); omega, by show _ ≤ mk + prN M + (m'); omega⟩)
theorem so_LIF (cx : CxP M0 T0 Sf) (hfw : FwQ Sf T0) (hpg : PgG M0 T0 Sf n1) (hnU : nU M0 ≤ 4000) (h27 : T0.1 27 0 = nI n27) (hn27 : n27 ≤ 24) (hin : inn Sf ≤ n27) (h51 : T0.1 51 0 = nI n1) (h6 : n1 ≤ 6032) (hnf : 16385 ≤ nf) (hd : 20 ≤ d) (hd' : 20 ≤ d') (h : SiZ M0 T0 Sf n1 (K + 1) G D nb mk rg na ng P W Fr Dp M T) (iv : IvP Sf (fit (Fr Dp)) (fS (Fr Dp)) (fst' (Fr Dp)) (fhs (Fr Dp))) (hn : fn (Fr Dp) < 12000) (hm : fm (Fr Dp) < n1) (hps : ∀ h, h ∈ fhs (Fr Dp) → fn (Fr Dp) < h.1 ∧ fm (Fr Dp) < h.2.1) (hst : ¬ (rwC4 M0 (fn (Fr Dp))).1 = 0) (hr : gLIF M0 T0 Sf n1 (fit (Fr Dp)) (Gdk M0 T0 Sf n1 (fit (Fr Dp)) K) (fn (Fr Dp)) (fm (Fr Dp)) (fS (Fr Dp)) (fst' (Fr Dp)) (fhs (Fr Dp))) : StpO nf d d' M0 T0 Sf n1 K P W mk Fr Dp M T := by
  have hS := h
  obtain ⟨hs, rn, h3, h4⟩ := h
  have hm6 : fm (Fr Dp) < 6032 := by omega
  have hH := HsG.dn _ (h3 Dp (Nat.le_refl _))
  obtain ⟨w1, w2, w3, w4, w5, w6, w7, w8, w9⟩ := hs.rw (n := fn (Fr Dp)) (m := fm (Fr Dp))
  obtain ⟨u, s, p, nx, mx, c, e, z, y, S', hva, hp, hk, rowR, rowC, ln, lm0, rowR2, rowC2, hst', lt1, lt2, l12, lm, kn, hI, q1, q2⟩ := hr
  have hc6 : cn Sf ≤ 6000 := by have := cx.2.1; omega
  obtain ⟨M', T', ov', n', m', hc, s1, s2, rn', pr', sim'⟩ := st_lif (nf := nf) (d := d) (d' := d') cx hs rn rfl rfl hn h51 hm h6 hva hp hk rowR rowC ln lm0 rowR2 rowC2 (by rw [hst']; show 0 ≤ 440; omega) (by rw [hst']; show 0 ≤ 140; omega) hnf hd hd'
  have pr : prN M' = prN M := pr_eq (by rw [pr'])
  rcases hc with ⟨e1, e2, k0⟩ | ⟨e1, e2⟩ <;> subst e1 e2
  · have sim2 := Sim.kn cx.1 hc6 sim' (S' := S') (s := s) (by rw [upd_v]; exact kn) (by rw [upd_v]; exact k0) (by rw [upd_v]; show IvP Sf (fit (Fr Dp)) S' (fst' (Fr Dp)) (fhs (Fr Dp)); rw [hst']; exact hI)
    rw [upd_v, upd_2] at sim2
    exact so_nx hS s1 s2 sim2 rn' rfl (fun _ _ => rfl) hH (by show Gdk M0 T0 Sf n1 (fit (Fr Dp)) K (fn (Fr Dp) + 2) (fm (Fr Dp) + 2) S' (fst' (Fr Dp)) (fhs (Fr Dp)); rw [hst']; exact q1) hst hn hm6 (by omega) (Or.inl ⟨by show fn (Fr Dp) + 2 ≤ _; omega, by show fm (Fr Dp) + 2 ≤ _; omega, by show _ ≤ fm (Fr Dp) + 2; omega, by show 2 + _ ≤ 2 * (fn (Fr Dp) + 2); omega, by show 2 + _ ≤ 2 * (fm (Fr Dp) + 2); omega, by show _ ≤ mk + prN M + (fm (Fr Dp) + 2); omega⟩)
  · exact so_nx hS s1 s2 sim' rn' rfl (fun _ _ => rfl) hH (by show Gdk M0 T0 Sf n1 (fit (Fr Dp)) K n' m' (fS (Fr Dp)) (fst' (Fr Dp)) (fhs (Fr Dp)); rw [hst']; exact q2) hst hn hm6 (by omega) (Or.inl ⟨by show n' ≤ _; omega, by show m' ≤ _; omega, by show _ ≤ m'; omega, by show 2 + _ ≤ 2 * (n'); omega, by show 2 + _ ≤ 2 * (m'); omega, by show _ ≤ mk + prN M + (m'); omega⟩)
theorem so_LNS (cx : CxP M0 T0 Sf) (hfw : FwQ Sf T0) (hpg : PgG M0 T0 Sf n1) (hnU : nU M0 ≤ 4000) (h27 : T0.1 27 0 = nI n27) (hn27 : n27 ≤ 24) (hin : inn Sf ≤ n27) (h51 : T0.1 51 0 = nI n1) (h6 : n1 ≤ 6032) (hnf : 16385 ≤ nf) (hd : 20 ≤ d) (hd' : 20 ≤ d') (h : SiZ M0 T0 Sf n1 (K + 1) G D nb mk rg na ng P W Fr Dp M T) (iv : IvP Sf (fit (Fr Dp)) (fS (Fr Dp)) (fst' (Fr Dp)) (fhs (Fr Dp))) (hn : fn (Fr Dp) < 12000) (hm : fm (Fr Dp) < n1) (hps : ∀ h, h ∈ fhs (Fr Dp) → fn (Fr Dp) < h.1 ∧ fm (Fr Dp) < h.2.1) (hst : ¬ (rwC4 M0 (fn (Fr Dp))).1 = 0) (hr : gLNS M0 T0 Sf n1 (fit (Fr Dp)) (Gdk M0 T0 Sf n1 (fit (Fr Dp)) K) (fn (Fr Dp)) (fm (Fr Dp)) (fS (Fr Dp)) (fst' (Fr Dp)) (fhs (Fr Dp))) : StpO nf d d' M0 T0 Sf n1 K P W mk Fr Dp M T := by
  have hS := h
  obtain ⟨hs, rn, h3, h4⟩ := h
  have hm6 : fm (Fr Dp) < 6032 := by omega
  have hH := HsG.dn _ (h3 Dp (Nat.le_refl _))
  obtain ⟨w1, w2, w3, w4, w5, w6, w7, w8, w9⟩ := hs.rw (n := fn (Fr Dp)) (m := fm (Fr Dp))
  obtain ⟨u, s, p, nx, mx, c, e, z, y, z1, z2, z3, z4, z5, z6, z7, z8, z9, S', hva, hp, hk, rowR, rowC, ln, lm0, r1, c1, r2, c2, r3, c3, hst', lt1, lt2, l12, lm, kn, hI, q1, q2⟩ := hr
  have hc6 : cn Sf ≤ 6000 := by have := cx.2.1; omega
  obtain ⟨M', T', ov', n', m', hc, s1, s2, rn', pr', sim'⟩ := st_lns (nf := nf) (d := d) (d' := d') cx hs rn rfl rfl hn h51 hm h6 hva hp hk rowR rowC ln lm0 r1 c1 r2 c2 r3 c3 (by rw [hst']; show 0 ≤ 440; omega) (by rw [hst']; show 0 ≤ 140; omega) hnf hd hd'
  have pr : prN M' = prN M := pr_eq (by rw [pr'])
  rcases hc with ⟨e1, e2⟩ | ⟨e1, e2, k0⟩ <;> subst e1 e2
  · exact so_nx hS s1 s2 sim' rn' rfl (fun _ _ => rfl) hH (by show Gdk M0 T0 Sf n1 (fit (Fr Dp)) K (fn (Fr Dp) + 4) (fm (Fr Dp) + 4) (fS (Fr Dp)) (fst' (Fr Dp)) (fhs (Fr Dp)); rw [hst']; exact q1) hst hn hm6 (by omega) (Or.inl ⟨by show fn (Fr Dp) + 4 ≤ _; omega, by show fm (Fr Dp) + 4 ≤ _; omega, by show _ ≤ fm (Fr Dp) + 4; omega, by show 4 + _ ≤ 2 * (fn (Fr Dp) + 4); omega, by show 4 + _ ≤ 2 * (fm (Fr Dp) + 4); omega, by show _ ≤ mk + prN M + (fm (Fr Dp) + 4); omega⟩)
  · have sim2 := Sim.kn cx.1 hc6 sim' (S' := S') (s := s) (by rw [upd_v]; exact kn) (by rw [upd_v]; exact k0) (by rw [upd_v]; show IvP Sf (fit (Fr Dp)) S' (fst' (Fr Dp)) (fhs (Fr Dp)); rw [hst']; exact hI)
    rw [upd_v, upd_2] at sim2
    exact so_nx hS s1 s2 sim2 rn' rfl (fun _ _ => rfl) hH (by show Gdk M0 T0 Sf n1 (fit (Fr Dp)) K n' m' S' (fst' (Fr Dp)) (fhs (Fr Dp)); rw [hst']; exact q2) hst hn hm6 (by omega) (Or.inl ⟨by show n' ≤ _; omega, by show m' ≤ _; omega, by show _ ≤ m'; omega, by show 4 + _ ≤ 2 * (n'); omega, by show 4 + _ ≤ 2 * (m'); omega, by show _ ≤ mk + prN M + (m'); omega⟩)
theorem so_STO (cx : CxP M0 T0 Sf) (hfw : FwQ Sf T0) (hpg : PgG M0 T0 Sf n1) (hnU : nU M0 ≤ 4000) (h27 : T0.1 27 0 = nI n27) (hn27 : n27 ≤ 24) (hin : inn Sf ≤ n27) (h51 : T0.1 51 0 = nI n1) (h6 : n1 ≤ 6032) (hnf : 16385 ≤ nf) (hd : 20 ≤ d) (hd' : 20 ≤ d') (h : SiZ M0 T0 Sf n1 (K + 1) G D nb mk rg na ng P W Fr Dp M T) (iv : IvP Sf (fit (Fr Dp)) (fS (Fr Dp)) (fst' (Fr Dp)) (fhs (Fr Dp))) (hn : fn (Fr Dp) < 12000) (hm : fm (Fr Dp) < n1) (hps : ∀ h, h ∈ fhs (Fr Dp) → fn (Fr Dp) < h.1 ∧ fm (Fr Dp) < h.2.1) (hst : ¬ (rwC4 M0 (fn (Fr Dp))).1 = 0) (hr : gSTO M0 T0 Sf n1 (fit (Fr Dp)) (Gdk M0 T0 Sf n1 (fit (Fr Dp)) K) (fn (Fr Dp)) (fm (Fr Dp)) (fS (Fr Dp)) (fst' (Fr Dp)) (fhs (Fr Dp))) : StpO nf d d' M0 T0 Sf n1 K P W mk Fr Dp M T := by
  have hS := h
  obtain ⟨hs, rn, h3, h4⟩ := h
  have hm6 : fm (Fr Dp) < 6032 := by omega
  have hH := HsG.dn _ (h3 Dp (Nat.le_refl _))
  obtain ⟨w1, w2, w3, w4, w5, w6, w7, w8, w9⟩ := hs.rw (n := fn (Fr Dp)) (m := fm (Fr Dp))
  obtain ⟨u, s, a0, x, t1, c, e, S', rowR, rowC, hst', as, hty, hI, hq⟩ := hr
  have hop : ¬ (rwC4 M0 (fn (Fr Dp))).1 = 29 := by rw [rowR]; show ¬ (22 : Int32) = 29; decide
  obtain ⟨M', T', va', s1, s2, rn', sim'⟩ := st_store (nf := nf) (d := d) (d' := d') cx hs rn rfl rfl hn h51 hm h6 rowR rowC hst' as hty (fun hd hhd w j hv => (((HsG.me _ hH) hd hhd).2.2.2.1 w hv.1).1) hI hnf hd hd'
  have pr := pr_eq (s1.pr w4 hn (by rw [w1]) hop)
  exact so_nx hS (MvR.one rn.1 s1) (MvC.one rn.2 s2) sim' rn' rfl (fun _ _ => rfl) hH hq hst hn hm6 (by omega) (Or.inl ⟨by show fn (Fr Dp) + 1 ≤ _; omega, by show fm (Fr Dp) + 1 ≤ _; omega, Nat.le_succ _, by show 1 + _ ≤ 2 * (fn (Fr Dp) + 1); omega, by show 1 + _ ≤ 2 * (fm (Fr Dp) + 1); omega, by show _ ≤ mk + prN M + (fm (Fr Dp) + 1); omega⟩)
theorem so_PUT (cx : CxP M0 T0 Sf) (hfw : FwQ Sf T0) (hpg : PgG M0 T0 Sf n1) (hnU : nU M0 ≤ 4000) (h27 : T0.1 27 0 = nI n27) (hn27 : n27 ≤ 24) (hin : inn Sf ≤ n27) (h51 : T0.1 51 0 = nI n1) (h6 : n1 ≤ 6032) (hnf : 16385 ≤ nf) (hd : 20 ≤ d) (hd' : 20 ≤ d') (h : SiZ M0 T0 Sf n1 (K + 1) G D nb mk rg na ng P W Fr Dp M T) (iv : IvP Sf (fit (Fr Dp)) (fS (Fr Dp)) (fst' (Fr Dp)) (fhs (Fr Dp))) (hn : fn (Fr Dp) < 12000) (hm : fm (Fr Dp) < n1) (hps : ∀ h, h ∈ fhs (Fr Dp) → fn (Fr Dp) < h.1 ∧ fm (Fr Dp) < h.2.1) (hst : ¬ (rwC4 M0 (fn (Fr Dp))).1 = 0) (hr : gPUT M0 T0 Sf n1 (fit (Fr Dp)) (Gdk M0 T0 Sf n1 (fit (Fr Dp)) K) (fn (Fr Dp)) (fm (Fr Dp)) (fS (Fr Dp)) (fst' (Fr Dp)) (fhs (Fr Dp))) : StpO nf d d' M0 T0 Sf n1 K P W mk Fr Dp M T := by
  have hS := h
  obtain ⟨hs, rn, h3, h4⟩ := h
  have hm6 : fm (Fr Dp) < 6032 := by omega
  have hH := HsG.dn _ (h3 Dp (Nat.le_refl _))
  obtain ⟨w1, w2, w3, w4, w5, w6, w7, w8, w9⟩ := hs.rw (n := fn (Fr Dp)) (m := fm (Fr Dp))
  obtain ⟨jj, un, x, t1, hj, rowR, hK, hty, hf, htx, hI, hq⟩ := hr
  have hop : ¬ (rwC4 M0 (fn (Fr Dp))).1 = 29 := by
    rw [rowR]
    unfold rP
    split
    · show ¬ (23 : Int32) = 29; decide
    · split
      · show ¬ (24 : Int32) = 29; decide
      · show ¬ (25 : Int32) = 29; decide
  rcases pu_all (nf := nf) (d := d) (d' := d') cx hs rn rfl rfl hn h51 hm h6 rowR hK hty hf htx hI hnf hd hd' hj with ⟨M', T', D', s1, s2, rn', sim'⟩ | hz
  · have pr := pr_eq (s1.pr w4 hn (by rw [w1]) hop)
    exact so_nx hS (MvR.one rn.1 s1) (MvC.one rn.2 s2) sim' rn' rfl (fun _ _ => rfl) hH hq hst hn hm6 (by omega) (Or.inl ⟨by show fn (Fr Dp) + 1 ≤ _; omega, by show fm (Fr Dp) + 1 ≤ _; omega, Nat.le_succ _, by show 1 + _ ≤ 2 * (fn (Fr Dp) + 1); omega, by show 1 + _ ≤ 2 * (fm (Fr Dp) + 1); omega, by show _ ≤ mk + prN M + (fm (Fr Dp) + 1); omega⟩)
  · exact so_rz cx hS hz h51 h6 hnf hd hd' hst hop hn hm6 hps
theorem so_OUT (cx : CxP M0 T0 Sf) (hfw : FwQ Sf T0) (hpg : PgG M0 T0 Sf n1) (hnU : nU M0 ≤ 4000) (h27 : T0.1 27 0 = nI n27) (hn27 : n27 ≤ 24) (hin : inn Sf ≤ n27) (h51 : T0.1 51 0 = nI n1) (h6 : n1 ≤ 6032) (hnf : 16385 ≤ nf) (hd : 20 ≤ d) (hd' : 20 ≤ d') (h : SiZ M0 T0 Sf n1 (K + 1) G D nb mk rg na ng P W Fr Dp M T) (iv : IvP Sf (fit (Fr Dp)) (fS (Fr Dp)) (fst' (Fr Dp)) (fhs (Fr Dp))) (hn : fn (Fr Dp) < 12000) (hm : fm (Fr Dp) < n1) (hps : ∀ h, h ∈ fhs (Fr Dp) → fn (Fr Dp) < h.1 ∧ fm (Fr Dp) < h.2.1) (hst : ¬ (rwC4 M0 (fn (Fr Dp))).1 = 0) (hb : mk + prN M + nuC M0 Fr Dp < 2 ^ 31) (hr : gOUT M0 T0 Sf n1 (fit (Fr Dp)) (Gdk M0 T0 Sf n1 (fit (Fr Dp)) K) (fn (Fr Dp)) (fm (Fr Dp)) (fS (Fr Dp)) (fst' (Fr Dp)) (fhs (Fr Dp))) : StpO nf d d' M0 T0 Sf n1 K P W mk Fr Dp M T := by
  have hS := h
  obtain ⟨hs, rn, h3, h4⟩ := h
  have hm6 : fm (Fr Dp) < 6032 := by omega
  have hH := HsG.dn _ (h3 Dp (Nat.le_refl _))
  obtain ⟨w1, w2, w3, w4, w5, w6, w7, w8, w9⟩ := hs.rw (n := fn (Fr Dp)) (m := fm (Fr Dp))
  obtain ⟨b, c, e, x, y, rowR, rowC, hst', hI, hq⟩ := hr
  obtain ⟨M', T', o0, s1, s2, rn', ⟨p, k1, k2, k3⟩, sim'⟩ := st_out (nf := nf) (d := d) (d' := d') cx hs rn rfl rfl hn h51 hm h6 rowR rowC hst' hI (fun p p31 hp => by
    have : prN M = p := prN_v hp p31
    have := nuC_1 hst hm6
    omega) hd hd'
  have pr : prN M' = prN M + 1 := by rw [prN_v k3 k2, prN_v k1 (by omega)]
  exact so_nx hS (MvR.one rn.1 s1) (MvC.one rn.2 s2) sim' rn' rfl (fun _ _ => rfl) hH hq hst hn hm6 (by omega) (Or.inl ⟨by show fn (Fr Dp) + 1 ≤ _; omega, by show fm (Fr Dp) + 1 ≤ _; omega, Nat.le_succ _, by show 1 + _ ≤ 2 * (fn (Fr Dp) + 1); omega, by show 1 + _ ≤ 2 * (fm (Fr Dp) + 1); omega, by show _ ≤ mk + prN M + (fm (Fr Dp) + 1); omega⟩)
theorem so_RZ (cx : CxP M0 T0 Sf) (hfw : FwQ Sf T0) (hpg : PgG M0 T0 Sf n1) (hnU : nU M0 ≤ 4000) (h27 : T0.1 27 0 = nI n27) (hn27 : n27 ≤ 24) (hin : inn Sf ≤ n27) (h51 : T0.1 51 0 = nI n1) (h6 : n1 ≤ 6032) (hnf : 16385 ≤ nf) (hd : 20 ≤ d) (hd' : 20 ≤ d') (h : SiZ M0 T0 Sf n1 (K + 1) G D nb mk rg na ng P W Fr Dp M T) (iv : IvP Sf (fit (Fr Dp)) (fS (Fr Dp)) (fst' (Fr Dp)) (fhs (Fr Dp))) (hn : fn (Fr Dp) < 12000) (hm : fm (Fr Dp) < n1) (hps : ∀ h, h ∈ fhs (Fr Dp) → fn (Fr Dp) < h.1 ∧ fm (Fr Dp) < h.2.1) (hst : ¬ (rwC4 M0 (fn (Fr Dp))).1 = 0) (hr : gRZ M0 T0 Sf n1 (fit (Fr Dp)) (Gdk M0 T0 Sf n1 (fit (Fr Dp)) K) (fn (Fr Dp)) (fm (Fr Dp)) (fS (Fr Dp)) (fst' (Fr Dp)) (fhs (Fr Dp))) : StpO nf d d' M0 T0 Sf n1 K P W mk Fr Dp M T := by
  have hS := h
  obtain ⟨hs, rn, h3, h4⟩ := h
  have hm6 : fm (Fr Dp) < 6032 := by omega
  have hH := HsG.dn _ (h3 Dp (Nat.le_refl _))
  obtain ⟨w1, w2, w3, w4, w5, w6, w7, w8, w9⟩ := hs.rw (n := fn (Fr Dp)) (m := fm (Fr Dp))
  obtain ⟨b, c, e, x, y, s0, rowR, rowC, hst'⟩ := hr
  have hop : ¬ (rwC4 M0 (fn (Fr Dp))).1 = 29 := by rw [rowR]; show ¬ (30 : Int32) = 29; decide
  exact so_rz cx hS (st_raise cx hs rfl rfl hn h51 hm h6 rowR rowC hst' hd hd') h51 h6 hnf hd hd' hst hop hn hm6 hps
theorem so_DR (cx : CxP M0 T0 Sf) (hfw : FwQ Sf T0) (hpg : PgG M0 T0 Sf n1) (hnU : nU M0 ≤ 4000) (h27 : T0.1 27 0 = nI n27) (hn27 : n27 ≤ 24) (hin : inn Sf ≤ n27) (h51 : T0.1 51 0 = nI n1) (h6 : n1 ≤ 6032) (hnf : 16385 ≤ nf) (hd : 20 ≤ d) (hd' : 20 ≤ d') (h : SiZ M0 T0 Sf n1 (K + 1) G D nb mk rg na ng P W Fr Dp M T) (iv : IvP Sf (fit (Fr Dp)) (fS (Fr Dp)) (fst' (Fr Dp)) (fhs (Fr Dp))) (hn : fn (Fr Dp) < 12000) (hm : fm (Fr Dp) < n1) (hps : ∀ h, h ∈ fhs (Fr Dp) → fn (Fr Dp) < h.1 ∧ fm (Fr Dp) < h.2.1) (hst : ¬ (rwC4 M0 (fn (Fr Dp))).1 = 0) (hr : gDR M0 T0 Sf n1 (fit (Fr Dp)) (Gdk M0 T0 Sf n1 (fit (Fr Dp)) K) (fn (Fr Dp)) (fm (Fr Dp)) (fS (Fr Dp)) (fst' (Fr Dp)) (fhs (Fr Dp))) : StpO nf d d' M0 T0 Sf n1 K P W mk Fr Dp M T := by
  have hS := h
  obtain ⟨hs, rn, h3, h4⟩ := h
  have hm6 : fm (Fr Dp) < 6032 := by omega
  have hH := HsG.dn _ (h3 Dp (Nat.le_refl _))
  obtain ⟨w1, w2, w3, w4, w5, w6, w7, w8, w9⟩ := hs.rw (n := fn (Fr Dp)) (m := fm (Fr Dp))
  obtain ⟨c, e, x, y, rowR, rowC, hst', hI, hq⟩ := hr
  have hop : ¬ (rwC4 M0 (fn (Fr Dp))).1 = 29 := by rw [rowR]; show ¬ (36 : Int32) = 29; decide
  obtain ⟨M', T', ov', s1, s2, rn', sim'⟩ := st_drop (nf := nf) (d := d) (d' := d') cx hs rn rfl rfl hn h51 hm h6 rowR rowC hst' rfl hI hd hd'
  have pr := pr_eq (s1.pr w4 hn (by rw [w1]) hop)
  exact so_nx hS (MvR.one rn.1 s1) (MvC.one rn.2 s2) sim' rn' rfl (fun _ _ => rfl) hH hq hst hn hm6 (by omega) (Or.inl ⟨by show fn (Fr Dp) + 1 ≤ _; omega, by show fm (Fr Dp) + 1 ≤ _; omega, Nat.le_succ _, by show 1 + _ ≤ 2 * (fn (Fr Dp) + 1); omega, by show 1 + _ ≤ 2 * (fm (Fr Dp) + 1); omega, by show _ ≤ mk + prN M + (fm (Fr Dp) + 1); omega⟩)
theorem so_DR0 (cx : CxP M0 T0 Sf) (hfw : FwQ Sf T0) (hpg : PgG M0 T0 Sf n1) (hnU : nU M0 ≤ 4000) (h27 : T0.1 27 0 = nI n27) (hn27 : n27 ≤ 24) (hin : inn Sf ≤ n27) (h51 : T0.1 51 0 = nI n1) (h6 : n1 ≤ 6032) (hnf : 16385 ≤ nf) (hd : 20 ≤ d) (hd' : 20 ≤ d') (h : SiZ M0 T0 Sf n1 (K + 1) G D nb mk rg na ng P W Fr Dp M T) (iv : IvP Sf (fit (Fr Dp)) (fS (Fr Dp)) (fst' (Fr Dp)) (fhs (Fr Dp))) (hn : fn (Fr Dp) < 12000) (hm : fm (Fr Dp) < n1) (hps : ∀ h, h ∈ fhs (Fr Dp) → fn (Fr Dp) < h.1 ∧ fm (Fr Dp) < h.2.1) (hst : ¬ (rwC4 M0 (fn (Fr Dp))).1 = 0) (hr : gDR0 M0 T0 Sf n1 (fit (Fr Dp)) (Gdk M0 T0 Sf n1 (fit (Fr Dp)) K) (fn (Fr Dp)) (fm (Fr Dp)) (fS (Fr Dp)) (fst' (Fr Dp)) (fhs (Fr Dp))) : StpO nf d d' M0 T0 Sf n1 K P W mk Fr Dp M T := by
  have hS := h
  obtain ⟨hs, rn, h3, h4⟩ := h
  have hm6 : fm (Fr Dp) < 6032 := by omega
  have hH := HsG.dn _ (h3 Dp (Nat.le_refl _))
  obtain ⟨w1, w2, w3, w4, w5, w6, w7, w8, w9⟩ := hs.rw (n := fn (Fr Dp)) (m := fm (Fr Dp))
  obtain ⟨c, e, y, rowR, rowC, hq⟩ := hr
  have hop : ¬ (rwC4 M0 (fn (Fr Dp))).1 = 29 := by rw [rowR]; show ¬ (36 : Int32) = 29; decide
  obtain ⟨M', T', ov', s1, s2, rn', sim'⟩ := st_drop2 (nf := nf) (d := d) (d' := d') cx hs rn rfl rfl hn h51 hm h6 rowR rowC hd hd'
  have pr := pr_eq (s1.pr w4 hn (by rw [w1]) hop)
  exact so_nx hS (MvR.one rn.1 s1) (MvC.one rn.2 s2) sim' rn' rfl (fun _ _ => rfl) hH hq hst hn hm6 (by omega) (Or.inl ⟨by show fn (Fr Dp) + 1 ≤ _; omega, by show fm (Fr Dp) + 1 ≤ _; omega, Nat.le_succ _, by show 1 + _ ≤ 2 * (fn (Fr Dp) + 1); omega, by show 1 + _ ≤ 2 * (fm (Fr Dp) + 1); omega, by show _ ≤ mk + prN M + (fm (Fr Dp) + 1); omega⟩)
theorem so_ENT (cx : CxP M0 T0 Sf) (hfw : FwQ Sf T0) (hpg : PgG M0 T0 Sf n1) (hnU : nU M0 ≤ 4000) (h27 : T0.1 27 0 = nI n27) (hn27 : n27 ≤ 24) (hin : inn Sf ≤ n27) (h51 : T0.1 51 0 = nI n1) (h6 : n1 ≤ 6032) (hnf : 16385 ≤ nf) (hd : 20 ≤ d) (hd' : 20 ≤ d') (h : SiZ M0 T0 Sf n1 (K + 1) G D nb mk rg na ng P W Fr Dp M T) (iv : IvP Sf (fit (Fr Dp)) (fS (Fr Dp)) (fst' (Fr Dp)) (fhs (Fr Dp))) (hn : fn (Fr Dp) < 12000) (hm : fm (Fr Dp) < n1) (hps : ∀ h, h ∈ fhs (Fr Dp) → fn (Fr Dp) < h.1 ∧ fm (Fr Dp) < h.2.1) (hst : ¬ (rwC4 M0 (fn (Fr Dp))).1 = 0) (hr : gENT M0 T0 Sf n1 (fit (Fr Dp)) (Gdk M0 T0 Sf n1 (fit (Fr Dp)) K) (fn (Fr Dp)) (fm (Fr Dp)) (fS (Fr Dp)) (fst' (Fr Dp)) (fhs (Fr Dp))) : StpO nf d d' M0 T0 Sf n1 K P W mk Fr Dp M T := by
  have hS := h
  obtain ⟨hs, rn, h3, h4⟩ := h
  have hm6 : fm (Fr Dp) < 6032 := by omega
  have hH := HsG.dn _ (h3 Dp (Nat.le_refl _))
  obtain ⟨w1, w2, w3, w4, w5, w6, w7, w8, w9⟩ := hs.rw (n := fn (Fr Dp)) (m := fm (Fr Dp))
  obtain ⟨c, i, b, e, y, S', rowR, rowC, hst', ht, hI, hq⟩ := hr
  have hop : ¬ (rwC4 M0 (fn (Fr Dp))).1 = 29 := by rw [rowR]; show ¬ (31 : Int32) = 29; decide
  obtain ⟨M', T', rg', ρ', s1, s2, rn', hρ, sim'⟩ := st_enter (nf := nf) (d := d) (d' := d') cx hs rn rfl rfl hn h51 hm h6 rowR rowC hst' ht (HsG.me _ hH) hI hd hd'
  have pr := pr_eq (s1.pr w4 hn (by rw [w1]) hop)
  exact so_nx hS (MvR.one rn.1 s1) (MvC.one rn.2 s2) sim' rn' rfl (fun b hb => hρ b (by have := ht.1.1; omega)) hH hq hst hn hm6 (by omega) (Or.inl ⟨by show fn (Fr Dp) + 1 ≤ _; omega, by show fm (Fr Dp) + 1 ≤ _; omega, Nat.le_succ _, by show 1 + _ ≤ 2 * (fn (Fr Dp) + 1); omega, by show 1 + _ ≤ 2 * (fm (Fr Dp) + 1); omega, by show _ ≤ mk + prN M + (fm (Fr Dp) + 1); omega⟩)
theorem so_SHT (cx : CxP M0 T0 Sf) (hfw : FwQ Sf T0) (hpg : PgG M0 T0 Sf n1) (hnU : nU M0 ≤ 4000) (h27 : T0.1 27 0 = nI n27) (hn27 : n27 ≤ 24) (hin : inn Sf ≤ n27) (h51 : T0.1 51 0 = nI n1) (h6 : n1 ≤ 6032) (hnf : 16385 ≤ nf) (hd : 20 ≤ d) (hd' : 20 ≤ d') (h : SiZ M0 T0 Sf n1 (K + 1) G D nb mk rg na ng P W Fr Dp M T) (iv : IvP Sf (fit (Fr Dp)) (fS (Fr Dp)) (fst' (Fr Dp)) (fhs (Fr Dp))) (hn : fn (Fr Dp) < 12000) (hm : fm (Fr Dp) < n1) (hps : ∀ h, h ∈ fhs (Fr Dp) → fn (Fr Dp) < h.1 ∧ fm (Fr Dp) < h.2.1) (hst : ¬ (rwC4 M0 (fn (Fr Dp))).1 = 0) (hr : gSHT M0 T0 Sf n1 (fit (Fr Dp)) (Gdk M0 T0 Sf n1 (fit (Fr Dp)) K) (fn (Fr Dp)) (fm (Fr Dp)) (fS (Fr Dp)) (fst' (Fr Dp)) (fhs (Fr Dp))) : StpO nf d d' M0 T0 Sf n1 K P W mk Fr Dp M T := by
  have hS := h
  obtain ⟨hs, rn, h3, h4⟩ := h
  have hm6 : fm (Fr Dp) < 6032 := by omega
  have hH := HsG.dn _ (h3 Dp (Nat.le_refl _))
  obtain ⟨w1, w2, w3, w4, w5, w6, w7, w8, w9⟩ := hs.rw (n := fn (Fr Dp)) (m := fm (Fr Dp))
  obtain ⟨c, i, q0, b, e, y, S', rowR, rowC, hst', ht, hrg, hI, hq⟩ := hr
  have hop : ¬ (rwC4 M0 (fn (Fr Dp))).1 = 29 := by rw [rowR]; show ¬ (33 : Int32) = 29; decide
  obtain ⟨M', T', s1, s2, rn', sim'⟩ := st_shut (nf := nf) (d := d) (d' := d') cx hs rn rfl rfl hn h51 hm h6 rowR (Or.inr rfl) rowC hst' ht hrg hI hnf hd hd'
  have pr := pr_eq (s1.pr w4 hn (by rw [w1]) hop)
  exact so_nx hS (MvR.one rn.1 s1) (MvC.one rn.2 s2) sim' rn' rfl (fun _ _ => rfl) hH hq hst hn hm6 (by omega) (Or.inl ⟨by show fn (Fr Dp) + 1 ≤ _; omega, by show fm (Fr Dp) + 1 ≤ _; omega, Nat.le_succ _, by show 1 + _ ≤ 2 * (fn (Fr Dp) + 1); omega, by show 1 + _ ≤ 2 * (fm (Fr Dp) + 1); omega, by show _ ≤ mk + prN M + (fm (Fr Dp) + 1); omega⟩)
theorem so_LVL (cx : CxP M0 T0 Sf) (hfw : FwQ Sf T0) (hpg : PgG M0 T0 Sf n1) (hnU : nU M0 ≤ 4000) (h27 : T0.1 27 0 = nI n27) (hn27 : n27 ≤ 24) (hin : inn Sf ≤ n27) (h51 : T0.1 51 0 = nI n1) (h6 : n1 ≤ 6032) (hnf : 16385 ≤ nf) (hd : 20 ≤ d) (hd' : 20 ≤ d') (h : SiZ M0 T0 Sf n1 (K + 1) G D nb mk rg na ng P W Fr Dp M T) (iv : IvP Sf (fit (Fr Dp)) (fS (Fr Dp)) (fst' (Fr Dp)) (fhs (Fr Dp))) (hn : fn (Fr Dp) < 12000) (hm : fm (Fr Dp) < n1) (hps : ∀ h, h ∈ fhs (Fr Dp) → fn (Fr Dp) < h.1 ∧ fm (Fr Dp) < h.2.1) (hst : ¬ (rwC4 M0 (fn (Fr Dp))).1 = 0) (hr : gLVL M0 T0 Sf n1 (fit (Fr Dp)) (Gdk M0 T0 Sf n1 (fit (Fr Dp)) K) (fn (Fr Dp)) (fm (Fr Dp)) (fS (Fr Dp)) (fst' (Fr Dp)) (fhs (Fr Dp))) : StpO nf d d' M0 T0 Sf n1 K P W mk Fr Dp M T := by
  have hS := h
  obtain ⟨hs, rn, h3, h4⟩ := h
  have hm6 : fm (Fr Dp) < 6032 := by omega
  have hH := HsG.dn _ (h3 Dp (Nat.le_refl _))
  obtain ⟨w1, w2, w3, w4, w5, w6, w7, w8, w9⟩ := hs.rw (n := fn (Fr Dp)) (m := fm (Fr Dp))
  obtain ⟨c, i, q0, b, e, y, S1, S', rowR, rowC, hst', ht, hrg, hI, hl, hI2, hq⟩ := hr
  have hc6 : cn Sf ≤ 6000 := by have := cx.2.1; omega
  have hop : ¬ (rwC4 M0 (fn (Fr Dp))).1 = 29 := by rw [rowR]; show ¬ (32 : Int32) = 29; decide
  obtain ⟨M', T', s1, s2, rn', sim1⟩ := st_shut (nf := nf) (d := d) (d' := d') cx hs rn rfl rfl hn h51 hm h6 rowR (Or.inl rfl) rowC hst' ht hrg hI hnf hd hd'
  have sim' := Sim.lv cx.1 hc6 sim1 (S' := S') (c := c) (by rw [upd_v]; exact hl) (by rw [upd_v]; exact hI2)
  rw [upd_v, upd_2] at sim'
  have pr := pr_eq (s1.pr w4 hn (by rw [w1]) hop)
  exact so_nx hS (MvR.one rn.1 s1) (MvC.one rn.2 s2) sim' rn' rfl (fun _ _ => rfl) hH hq hst hn hm6 (by omega) (Or.inl ⟨by show fn (Fr Dp) + 1 ≤ _; omega, by show fm (Fr Dp) + 1 ≤ _; omega, Nat.le_succ _, by show 1 + _ ≤ 2 * (fn (Fr Dp) + 1); omega, by show 1 + _ ≤ 2 * (fm (Fr Dp) + 1); omega, by show _ ≤ mk + prN M + (fm (Fr Dp) + 1); omega⟩)
theorem so_LVD (cx : CxP M0 T0 Sf) (hfw : FwQ Sf T0) (hpg : PgG M0 T0 Sf n1) (hnU : nU M0 ≤ 4000) (h27 : T0.1 27 0 = nI n27) (hn27 : n27 ≤ 24) (hin : inn Sf ≤ n27) (h51 : T0.1 51 0 = nI n1) (h6 : n1 ≤ 6032) (hnf : 16385 ≤ nf) (hd : 20 ≤ d) (hd' : 20 ≤ d') (h : SiZ M0 T0 Sf n1 (K + 1) G D nb mk rg na ng P W Fr Dp M T) (iv : IvP Sf (fit (Fr Dp)) (fS (Fr Dp)) (fst' (Fr Dp)) (fhs (Fr Dp))) (hn : fn (Fr Dp) < 12000) (hm : fm (Fr Dp) < n1) (hps : ∀ h, h ∈ fhs (Fr Dp) → fn (Fr Dp) < h.1 ∧ fm (Fr Dp) < h.2.1) (hst : ¬ (rwC4 M0 (fn (Fr Dp))).1 = 0) (hr : gLVD M0 T0 Sf n1 (fit (Fr Dp)) (Gdk M0 T0 Sf n1 (fit (Fr Dp)) K) (fn (Fr Dp)) (fm (Fr Dp)) (fS (Fr Dp)) (fst' (Fr Dp)) (fhs (Fr Dp))) : StpO nf d d' M0 T0 Sf n1 K P W mk Fr Dp M T := by
  have hS := h
  obtain ⟨hs, rn, h3, h4⟩ := h
  have hm6 : fm (Fr Dp) < 6032 := by omega
  have hH := HsG.dn _ (h3 Dp (Nat.le_refl _))
  obtain ⟨w1, w2, w3, w4, w5, w6, w7, w8, w9⟩ := hs.rw (n := fn (Fr Dp)) (m := fm (Fr Dp))
  obtain ⟨c, b, e, S', rowR, hl, hst', hI, hq⟩ := hr
  have hc6 : cn Sf ≤ 6000 := by have := cx.2.1; omega
  have hop : ¬ (rwC4 M0 (fn (Fr Dp))).1 = 29 := by rw [rowR]; show ¬ (32 : Int32) = 29; decide
  have hl0 := hl
  obtain ⟨_, t1, t2, t3, t4, t5, _⟩ := hl0
  obtain ⟨M', ov', s1, rn', sim1⟩ := st_lvR (nf := nf) (d := d) (q0 := arn S') cx hs rn rfl hn rowR t3 t4 (by omega) t2 t5 hd
  have sim' := Sim.lv cx.1 hc6 sim1 (S' := S') (c := c) (by rw [upd_v]; exact hl) (by rw [upd_v]; show IvP Sf (fit (Fr Dp)) S' (fst' (Fr Dp)) (fhs (Fr Dp)); rw [hst']; exact hI)
  rw [upd_v, upd_2] at sim'
  have pr := pr_eq (s1.pr w4 hn (by rw [w1]) hop)
  exact so_nx (jC := 0) hS (MvR.one rn.1 s1) rfl sim' rn' rfl (fun _ _ => rfl) hH (by show Gdk M0 T0 Sf n1 (fit (Fr Dp)) K (fn (Fr Dp) + 1) (fm (Fr Dp)) S' (fst' (Fr Dp)) (fhs (Fr Dp)); rw [hst']; exact hq) hst hn hm6 (by omega) (Or.inl ⟨by show fn (Fr Dp) + 1 ≤ _; omega, by show fm (Fr Dp) ≤ _; omega, by show _ ≤ fm (Fr Dp); omega, by show 1 + _ ≤ 2 * (fn (Fr Dp) + 1); omega, by show 0 + _ ≤ 2 * (fm (Fr Dp)); omega, by show _ ≤ mk + prN M + (fm (Fr Dp)); omega⟩)
theorem so_TRS (cx : CxP M0 T0 Sf) (hfw : FwQ Sf T0) (hpg : PgG M0 T0 Sf n1) (hnU : nU M0 ≤ 4000) (h27 : T0.1 27 0 = nI n27) (hn27 : n27 ≤ 24) (hin : inn Sf ≤ n27) (h51 : T0.1 51 0 = nI n1) (h6 : n1 ≤ 6032) (hnf : 16385 ≤ nf) (hd : 20 ≤ d) (hd' : 20 ≤ d') (h : SiZ M0 T0 Sf n1 (K + 1) G D nb mk rg na ng P W Fr Dp M T) (iv : IvP Sf (fit (Fr Dp)) (fS (Fr Dp)) (fst' (Fr Dp)) (fhs (Fr Dp))) (hn : fn (Fr Dp) < 12000) (hm : fm (Fr Dp) < n1) (hps : ∀ h, h ∈ fhs (Fr Dp) → fn (Fr Dp) < h.1 ∧ fm (Fr Dp) < h.2.1) (hst : ¬ (rwC4 M0 (fn (Fr Dp))).1 = 0) (hr : gTRS M0 T0 Sf n1 (fit (Fr Dp)) (Gdk M0 T0 Sf n1 (fit (Fr Dp)) K) (fn (Fr Dp)) (fm (Fr Dp)) (fS (Fr Dp)) (fst' (Fr Dp)) (fhs (Fr Dp))) : StpO nf d d' M0 T0 Sf n1 K P W mk Fr Dp M T := by
  have hS := h
  obtain ⟨hs, rn, h3, h4⟩ := h
  have hm6 : fm (Fr Dp) < 6032 := by omega
  have hH := HsG.dn _ (h3 Dp (Nat.le_refl _))
  obtain ⟨w1, w2, w3, w4, w5, w6, w7, w8, w9⟩ := hs.rw (n := fn (Fr Dp)) (m := fm (Fr Dp))
  obtain ⟨hx, hy, e, y, S', Sh, rowR, rowC, hst', ht, hI, hhd, l1, l2, q1, q2⟩ := hr
  have hop : ¬ (rwC4 M0 (fn (Fr Dp))).1 = 29 := by rw [rowR]; show ¬ (34 : Int32) = 29; decide
  obtain ⟨M', T', s1, s2, rn', sim'⟩ := st_tries (nf := nf) (d := d) (d' := d') cx hs rn rfl rfl hn h51 hm h6 rowR rowC hst' ht hI hd hd'
  have pr := pr_eq (s1.pr w4 hn (by rw [w1]) hop)
  exact so_nx hS (MvR.one rn.1 s1) (MvC.one rn.2 s2) sim' rn' rfl (fun _ _ => rfl) ⟨hhd, q1, hH⟩ q2 hst hn hm6 (by omega) (Or.inl ⟨by show fn (Fr Dp) + 1 ≤ _; omega, by show fm (Fr Dp) + 1 ≤ _; omega, Nat.le_succ _, by show 1 + _ ≤ 2 * (fn (Fr Dp) + 1); omega, by show 1 + _ ≤ 2 * (fm (Fr Dp) + 1); omega, by show _ ≤ mk + prN M + (fm (Fr Dp) + 1); omega⟩)
theorem so_TRD (cx : CxP M0 T0 Sf) (hfw : FwQ Sf T0) (hpg : PgG M0 T0 Sf n1) (hnU : nU M0 ≤ 4000) (h27 : T0.1 27 0 = nI n27) (hn27 : n27 ≤ 24) (hin : inn Sf ≤ n27) (h51 : T0.1 51 0 = nI n1) (h6 : n1 ≤ 6032) (hnf : 16385 ≤ nf) (hd : 20 ≤ d) (hd' : 20 ≤ d') (h : SiZ M0 T0 Sf n1 (K + 1) G D nb mk rg na ng P W Fr Dp M T) (iv : IvP Sf (fit (Fr Dp)) (fS (Fr Dp)) (fst' (Fr Dp)) (fhs (Fr Dp))) (hn : fn (Fr Dp) < 12000) (hm : fm (Fr Dp) < n1) (hps : ∀ h, h ∈ fhs (Fr Dp) → fn (Fr Dp) < h.1 ∧ fm (Fr Dp) < h.2.1) (hst : ¬ (rwC4 M0 (fn (Fr Dp))).1 = 0) (hr : gTRD M0 T0 Sf n1 (fit (Fr Dp)) (Gdk M0 T0 Sf n1 (fit (Fr Dp)) K) (fn (Fr Dp)) (fm (Fr Dp)) (fS (Fr Dp)) (fst' (Fr Dp)) (fhs (Fr Dp))) : StpO nf d d' M0 T0 Sf n1 K P W mk Fr Dp M T := by
  have hS := h
  obtain ⟨hs, rn, h3, h4⟩ := h
  have hm6 : fm (Fr Dp) < 6032 := by omega
  have hH := HsG.dn _ (h3 Dp (Nat.le_refl _))
  obtain ⟨w1, w2, w3, w4, w5, w6, w7, w8, w9⟩ := hs.rw (n := fn (Fr Dp)) (m := fm (Fr Dp))
  obtain ⟨b, c, e, x, y, hh, tl, S', rowR, rowC, hhs, ht, hI, hq⟩ := hr
  have hop : ¬ (rwC4 M0 (fn (Fr Dp))).1 = 29 := by rw [rowR]; show ¬ (35 : Int32) = 29; decide
  obtain ⟨M', T', s1, s2, rn', sim'⟩ := st_tried (nf := nf) (d := d) (d' := d') cx hs rn rfl rfl hn h51 hm h6 rowR rowC hhs ht hI hd hd'
  rw [hhs] at hH
  have pr := pr_eq (s1.pr w4 hn (by rw [w1]) hop)
  exact so_nx hS (MvR.one rn.1 s1) (MvC.one rn.2 s2) sim' rn' rfl (fun _ _ => rfl) hH.2.2 hq hst hn hm6 (by omega) (Or.inl ⟨by show fn (Fr Dp) + 1 ≤ _; omega, by show fm (Fr Dp) + 1 ≤ _; omega, Nat.le_succ _, by show 1 + _ ≤ 2 * (fn (Fr Dp) + 1); omega, by show 1 + _ ≤ 2 * (fm (Fr Dp) + 1); omega, by show _ ≤ mk + prN M + (fm (Fr Dp) + 1); omega⟩)
end STG
