/-! both machines: a value is put to a place -/
def PutQ (nf d d' : Nat) (M0 T0 Sf : gSt) (G : GH) (nb mk P W : Nat) (rg : Nat → Nat) (na ng : Nat) (Fr : Nat → FRM) (Dp : Nat) (M T : gSt) (n m : Nat) : Prop :=
  (∃ M' T' D', StR nf d M M' ∧ StC nf d' T T' ∧ RnO M' T' ∧ Sim M0 T0 Sf G D' nb mk rg na ng P W (updF Fr Dp (mkF (fS (Fr Dp)) (fρ (Fr Dp)) (fva (Fr Dp)) [] [] (fhs (Fr Dp)) (fit (Fr Dp)) (n + 1) (m + 1) (fbs (Fr Dp)) (fph (Fr Dp)) (frb (Fr Dp)) (ftb (Fr Dp)) (fie (Fr Dp)))) Dp M' T') ∨ RzO nf d d' M T
section STC
variable {M0 T0 Sf S Sh : gSt} {G G' : GH} {D D' : Nat → (Nat → AV) × Nat} {nf d d' nb nb' mk mk' na na' ng ng' e bs ph bt rb tb ie en hb k q u s i j c t h P W Dp n m it n1 : Nat} {rg rg' : Nat → Nat} {ρ : Nat → Nat} {va : Nat → AV} {M M' T T' : gSt} {v : AV} {x a b cc ee op y z w : Int32} {st s0 st' : List Int32} {ov o0 ov' : List AV} {hs : List HD} {F : FRM} {Fr : Nat → FRM} {f : Nat → Int32} {jj : T5} {r1 : Int32} {l1 : Int64} {tg : List Nat}
variable {S' : gSt} {D2 : Nat → (Nat → AV) × Nat} {b0 p0 c0 tg0 a0 o0' nw : Nat} {un : Bool} {t1 : Int32}
/-- the reference's cell c0 and (of a union) 142 o; the class's words -/
theorem pu_end (cx : CxP M0 T0 Sf) (h : Sim M0 T0 Sf G D nb mk rg na ng P W Fr Dp M T) (rn : RnO M T) (hn : fn (Fr Dp) = n) (hm : fm (Fr Dp) = m) (hn2 : n < 12000) (h51 : T0.1 51 0 = nI n1) (hm2 : m < n1) (h6 : n1 ≤ 6032) (rowR : rwC4 M0 n = (a, b, cc, ee)) (ha : ¬ a = 0) (rowC : cw3 T0 m = (op, x, y)) (ho : ¬ op = 1) (hH : HpI G D2 nb mk rg na ng P W M' T') (hI : IvP Sf (fit (Fr Dp)) (fS (Fr Dp)) [] (fhs (Fr Dp))) (hr : RR nf d 118 (sI M 102 0 (nI (n + 1))) [a, b, cc, ee] [] = some (0, 0, M')) (hp : dC nf d' (sI T 105 0 (nI (m + 1))) op x y = some (0, 0, T')) (hMo : ∀ k, ¬ (k = 102 ∨ k = 109 ∨ k = 142 ∨ (144 ≤ k ∧ k ≤ 148)) → M'.1 k = M.1 k) (hM2 : M'.2 = M.2) (hTo : ∀ k, ¬ (k = 100 ∨ k = 105 ∨ k = 114 ∨ k = 115) → T'.1 k = T.1 k) (hT2 : T'.2 = T.2) (h109 : M'.1 109 0 = nI (fph (Fr Dp))) (h100 : T'.1 100 0 = nI (fbs (Fr Dp) + 80)) (h102 : M'.1 102 0 = nI (n + 1)) (h105 : T'.1 105 0 = nI (m + 1)) : PutQ nf d d' M0 T0 Sf G nb mk P W rg na ng Fr Dp M T n m := by
  obtain ⟨w1, w2, w3, w4, w5, w6, w7, w8, w9⟩ := h.rw (n := n) (m := m)
  have hc6 : cn Sf ≤ 6000 := by have := cx.2.1; omega
  obtain ⟨ov', hs⟩ := Sim.ex (st := fst' (Fr Dp)) (s0 := []) (st' := []) (n := n + 1) (m := m + 1) cx.1 hc6 h hH (fun _ _ => rfl) (Nat.le_refl _) h.2.2.2.2.2.2.2 (List.append_nil _).symm hI (fun k hk => hMo k (by omega)) hM2 (fun k q k1 k2 _ => by rw [hMo k (by omega)]) (fun k hk => hTo k (by omega)) (hTo 121 (by omega)) hT2 (fun q _ => by rw [hTo 99 (by omega)]) (h.2.2.2.2.1.eq (fun k hk => hMo k (by omega)) (fun k hk => hTo k (by omega))) (fun o0 _ _ => ⟨[], True.intro⟩) (by rw [h109]; rfl) (by rw [h100]; rfl) h102 h105
  have e0 : ov' = [] := by
    have := hs.2.2.1.1 Dp (Nat.le_refl _)
    rw [show updF Fr Dp (mkF (fS (Fr Dp)) (fρ (Fr Dp)) (fva (Fr Dp)) [] ov' (fhs (Fr Dp)) (fit (Fr Dp)) (n + 1) (m + 1) (fbs (Fr Dp)) (fph (Fr Dp)) (frb (Fr Dp)) (ftb (Fr Dp)) (fie (Fr Dp))) Dp = mkF (fS (Fr Dp)) (fρ (Fr Dp)) (fva (Fr Dp)) [] ov' (fhs (Fr Dp)) (fit (Fr Dp)) (n + 1) (m + 1) (fbs (Fr Dp)) (fph (Fr Dp)) (frb (Fr Dp)) (ftb (Fr Dp)) (fie (Fr Dp)) from if_pos rfl] at this
    exact List.length_eq_zero_iff.mp (OpV.len _ _ this.1.2.1)
  subst e0
  exact Or.inl ⟨M', T', D2, StR.of (by rw [w4, hn]) hn2 (by rw [w1]; exact rowR) ha hr, StC.of (by rw [w5, hm]) (by rw [w3]; exact h51) h6 hm2 (by rw [w2]; exact rowC) ho hp, ⟨by rw [hMo 100 (by omega)]; exact rn.1, by rw [hTo 106 (by omega)]; exact rn.2⟩, hs⟩
theorem rcT_v {p : Nat} : (rcT M c p).1 144 c = M.1 110 p ∧ (rcT M c p).1 145 c = M.1 111 p ∧ (rcT M c p).1 146 c = M.1 112 p ∧ (rcT M c p).1 147 c = M.1 113 p ∧ (rcT M c p).1 148 c = 1 := by
  unfold rcT
  refine ⟨?_, ?_, ?_, ?_, by rw [sI_v]⟩
  · rw [sI_ne (by omega), sI_ne (by omega), sI_ne (by omega), sI_ne (by omega), sI_v]
  · rw [sI_ne (by omega), sI_ne (by omega), sI_ne (by omega), sI_v]
  · rw [sI_ne (by omega), sI_ne (by omega), sI_v]
  · rw [sI_ne (by omega), sI_v]
theorem rcT_o {p : Nat} (h : ¬ (144 ≤ k ∧ k ≤ 148)) : (rcT M c p).1 k = M.1 k := by
  unfold rcT
  rw [sI_ne (by omega), sI_ne (by omega), sI_ne (by omega), sI_ne (by omega), sI_ne (by omega)]
theorem rcT_c {p : Nat} (h : q ≠ c) : (rcT M c p).1 k q = M.1 k q := by
  rw [rcT_ne h]
  split <;> rfl
theorem pu_10 (cx : CxP M0 T0 Sf) (h : Sim M0 T0 Sf G D nb mk rg na ng P W Fr Dp M T) (rn : RnO M T) (hn : fn (Fr Dp) = n) (hm : fm (Fr Dp) = m) (hn2 : n < 12000) (h51 : T0.1 51 0 = nI n1) (hm2 : m < n1) (h6 : n1 ≤ 6032) (rowR : rwC4 M0 n = rP M0 jj) (hK : PlW (RgE (eN Sf (fit (Fr Dp))) (fS (Fr Dp))) Sf T0 2 un jj m) (hty : tyJ Sf (fS (Fr Dp)) jj (fst' (Fr Dp)) [x, t1]) (hf : fitT Sf (fS (Fr Dp)) t1 x) (htx : TyIn Sf (fS (Fr Dp)) x) (hI : IvP Sf (fit (Fr Dp)) (fS (Fr Dp)) [] (fhs (Fr Dp))) (hnf : 16385 ≤ nf) (hd : 20 ≤ d) (hd' : 20 ≤ d') (hj : jj.1 = 10) : PutQ nf d d' M0 T0 Sf G nb mk P W rg na ng Fr Dp M T n m := by
  rw [tyJ_10 hj] at hty
  obtain ⟨s0, p, e1, e2, ⟨hp, hk, h69, hlv⟩, e68⟩ := hty
  injection e2 with e2 e3
  subst e3
  rw [← e2] at e68
  obtain ⟨w1, w2, w3, w4, w5, w6, w7, w8, w9⟩ := h.rw (n := n) (m := m)
  obtain ⟨b1, b2, b3, b4, b5⟩ := h.bd
  obtain ⟨fr, iv⟩ := h.fr
  have hc6 : cn Sf ≤ 6000 := by have := cx.2.1; omega
  have TI := h.2.2.2.2.2.2.2
  have r0 : fρ (Fr Dp) 0 = 0 := fr.2.2.1.1.1
  unfold rP at rowR
  rw [hj, if_neg (by decide), if_neg (by decide)] at rowR
  have hK2 : ∃ c, wdR (RgE (eN Sf (fit (Fr Dp))) (fS (Fr Dp))) Sf T0 x c ∧ cw3 T0 m = (25, 0, c) := by
    rcases hK with ⟨z, _⟩ | ⟨z, _⟩ | ⟨_, c, z1, z2⟩
    · rw [hj] at z; exact absurd z (by decide)
    · rw [hj] at z; exact absurd z (by decide)
    · exact ⟨c, by rw [e2]; exact z1, by rw [z2, if_neg (by decide)]⟩
  obtain ⟨cc, kw, krow⟩ := hK2
  obtain ⟨v, hv, hrv, hcw⟩ := h.top e1
  obtain ⟨v1, hv1, hrv1, hcw1⟩ := h.top2 e1
  have tv := tV_68 cx.1 hp h69
  rw [← e68] at tv
  rw [wd_v hc6 tv kw] at krow
  have vt1 := VTs.fit cx h hv1 hf htx
  obtain ⟨wv1, _⟩ := wv_wS cx.1 hc6 tv vt1
  have ws := wS_p hc6 hp hk
  have wt1 : wS Sf t1 = wS Sf x := by
    rw [← wv1]
    exact (VTs.wi cx.1 hc6 ((iv.2.2.2.1 t1 (by rw [e1]; exact List.mem_cons_of_mem _ List.mem_cons_self)).imp id (fun w => w.1)) hv1).symm
  have ll1 : (fst' (Fr Dp)).length = 2 := by rw [e1]; rfl
  have ll2 : wsl Sf (fst' (Fr Dp)) = 1 + (wS Sf x + 0) := by rw [e1, ← ws, ← wt1]; rfl
  have hrv1' := hrv1
  rw [List.length_nil, Nat.add_zero] at hrv1
  have w6' : (sI M 102 0 (nI (n + 1))).1 109 0 = nI (fph (Fr Dp) + 2) := by rw [tp_102 (by omega), w6, ll1]
  have w7' : (sI T 105 0 (nI (m + 1))).1 100 0 = nI (fbs (Fr Dp) + 80 + wS Sf x + 1) := by rw [tp_105 (by omega), w7, ll2]; congr 1; omega
  have wsl1 : wsl Sf [t1] = wS Sf x := by show wS Sf t1 + 0 = _; rw [wt1]; rfl
  have wl := wv_3 (v := v1)
  rw [VTs_p cx.1 hc6 hp hk] at hv
  rw [wsl1] at hcw
  rcases hv with ⟨_, e⟩ | ⟨a1, a2, a3, a4, a5⟩
  · subst e
    refine Or.inr (rz_go (d1 := d - 2) (d2 := d' - 1) h hn hm hn2 h51 hm2 h6 rowR (by decide) krow (by decide) 1 (nI (fph (Fr Dp) + 1)) (nI (fbs (Fr Dp) + 80 + wS Sf x)) (by omega) (by omega) (fun r l M' hM => ?_) (fun r l T' hT => ?_))
    · exact x_n25 (h := fph (Fr Dp) + 1) w6' (by omega) (by rw [tp_102 (by omega)]; exact RV_nul hrv) hM (by omega)
    · rw [dC_207 (by decide) (by decide) (by decide), c_pt0 w7' (by omega) (by rw [tp_105 (by omega)]; exact (hcw 0 (by decide)).trans CW_nul) (by omega), hT, bis]
  · obtain ⟨r1, r2, r3⟩ := RV_p hrv a1 a2
    have lt := gPt_lt TI a2 a3 a5
    obtain ⟨tt, to, ta, tp, tp6, tw⟩ := TI v.2.1 a2 a3
    obtain ⟨cr, ecr, hcr⟩ := (cx.1 p hp.2.1 hp.2.2).2.1
    change Sf.1 67 p = nI cr at ecr
    rw [ecr] at hlv
    rw [ecr, nc (by omega)] at a4
    obtain ⟨i, hi, he⟩ := a4.2.2 (h.alv hcr hlv)
    rw [tgt_c h69] at a5
    obtain ⟨q, x0, qp, un0, ety⟩ := tgO_c a5
    obtain ⟨l, ⟨l1, l2, l3, l4, l5, l6, l7, _⟩, awr⟩ := h.1.at a2 a3 hi he qp
    obtain ⟨d1, d2, d3, d4, d5, d6, d7⟩ := h.1.rd a2 a3 hi he qp
    have c0 : T.1 99 (fbs (Fr Dp) + 80 + wS Sf x) = nI (gPt G v + 1) := (hcw 0 (by rw [wv_0 a1]; omega)).trans (CW_pt a1 a2)
    have gp : gPt G v = gAd G v.2.1 + gWo G v.2.1 q := by
      unfold gPt
      rw [if_pos un0, x0, nc (by omega)]
    have vtp : VT G nb rg na ng v1 (gTy G v.2.1 (if gUn G v.2.1 = 0 then q else 0)) := by
      rw [if_pos un0, ← ety, ← e68]
      exact vt1
    have szw := d6 un0
    have wg1 : wg (gTy G v.2.1 q) = wS Sf x := by rw [← ety, ← e68]; exact wg_gty cx.1 hc6 tv
    have own : ∀ j, j < wS Sf x → Own T P W (gAd G v.2.1 + gWo G v.2.1 q + j) := fun j hj => by
      rw [Nat.add_assoc]
      exact d3 _ (by omega)
    refine pu_end cx h rn hn hm hn2 h51 hm2 h6 rowR (by decide) krow (by decide) (awr (sI (rcT (sI M 102 0 (nI (n + 1))) (l.getD q 0) (fph (Fr Dp))) 109 0 (nI (fph (Fr Dp)))) (sI (mmW (sI T 105 0 (nI (m + 1))) (gAd G v.2.1 + gWo G v.2.1 q) (fun i => (sI T 105 0 (nI (m + 1))).1 99 (fbs (Fr Dp) + 80 + i)) 0 (wS Sf x)) 100 0 (nI (fbs (Fr Dp) + 80))) v1 0 vtp (fun w => absurd un0 w) (fun k hk => by rw [sI_ne (by omega), rcT_o (by omega), sI_ne (by omega)]) (fun q _ => by rw [sI_ne (by omega), rcT_o (by omega), sI_ne (by omega)]) (fun w => absurd un0 w) (fun k c k1 k2 hc => by rw [sI_ne (by omega), rcT_c hc, sI_ne (by omega)]) (by rw [sI_ne (by omega), rcT_v.2.2.2.2]; decide) (by rw [sI_ne (by omega), rcT_v.1, sI_ne (by omega), sI_ne (by omega), rcT_v.2.1, sI_ne (by omega), sI_ne (by omega), rcT_v.2.2.1, sI_ne (by omega), sI_ne (by omega), rcT_v.2.2.2.1, sI_ne (by omega)]; exact hrv1) (fun k k1 k2 => by rw [sI_ne (by omega), mmW_o (by omega) (by omega), sI_ne (by omega)]) (fun k a hk hna _ => ?_) (fun w => absurd un0 w) (fun w hw => ?_)) hI ?_ ?_ (fun k hk => by rw [sI_ne (by omega), rcT_o (by omega), sI_ne (by omega)]) rfl (fun k hk => by rw [sI_ne (by omega), mmW_o (by omega) (by omega), sI_ne (by omega)]) rfl (by rw [sI_v]) (by rw [sI_v]) (by rw [sI_ne (by omega), rcT_o (by omega), sI_v]) (by rw [sI_ne (by omega), mmW_o (by omega) (by omega), sI_v])
    · rw [wv1] at hna
      rcases hk with z | z <;> subst z
      · rw [sI_ne (by omega), mmW_w, if_neg (by omega), sI_ne (by omega)]
      · rw [sI_ne (by omega), mmW_g, if_neg (by omega), sI_ne (by omega)]
    · refine ⟨?_, ?_⟩
      · rw [sI_ne (by omega), mmW_w, if_pos (by omega), Nat.add_sub_cancel_left, sI_ne (by omega)]
        exact hcw1 w hw
      · rw [sI_ne (by omega), mmW_g, if_pos (by omega)]
        decide
    · exact x_r25 (o := gOb G v.2.1) (bb := nI v.2.1) (l := l) (k := q) w6' (by omega) l1 (by rw [tp_102 (by omega)]; exact r2) (by rw [tp_102 (by omega)]; exact r3) (by rw [tp_102 (by omega)]; exact l2) (by rw [tp_102 (by omega)]; exact l3) (by omega) (by rw [tp_102 (by omega)]; show chn ((sI M 102 0 (nI (n + 1))).1 149) _ l; rw [sI_ne (by omega)]; exact l5) (by rw [tp_102 (by omega)]; exact r1.trans x0) (by omega) (by omega) (by omega)
    · refine (dC_207 (by decide) (by decide) (by decide)).trans ((c_pu25 (P := P) (W := W) (s := 0) (a := gPt G v) (t := fbs (Fr Dp) + 80) (n := wS Sf x) w7' (by omega) (by rw [tp_105 (by omega)]; exact c0) (by omega) (by omega) (by omega) (d5.eq (sI_ne (by omega)) (sI_ne (by omega))) (fun i hi => ?_) (by omega)).trans ?_)
      · rw [Nat.add_zero, gp]
        exact (own i hi).eq (sI_ne (by omega))
      · simp only [gp, Nat.add_zero]
theorem pu_8 (cx : CxP M0 T0 Sf) (h : Sim M0 T0 Sf G D nb mk rg na ng P W Fr Dp M T) (rn : RnO M T) (hn : fn (Fr Dp) = n) (hm : fm (Fr Dp) = m) (hn2 : n < 12000) (h51 : T0.1 51 0 = nI n1) (hm2 : m < n1) (h6 : n1 ≤ 6032) (rowR : rwC4 M0 n = rP M0 jj) (hK : PlW (RgE (eN Sf (fit (Fr Dp))) (fS (Fr Dp))) Sf T0 2 un jj m) (hty : tyJ Sf (fS (Fr Dp)) jj (fst' (Fr Dp)) [x, t1]) (hf : fitT Sf (fS (Fr Dp)) t1 x) (htx : TyIn Sf (fS (Fr Dp)) x) (hI : IvP Sf (fit (Fr Dp)) (fS (Fr Dp)) [] (fhs (Fr Dp))) (hnf : 16385 ≤ nf) (hd : 20 ≤ d) (hd' : 20 ≤ d') (hj : jj.1 = 8) : PutQ nf d d' M0 T0 Sf G nb mk P W rg na ng Fr Dp M T n m := by
  rw [tyJ_8 hj] at hty
  obtain ⟨s0, p, e1, e2, ⟨hp, hk, h69, hlv⟩, e68⟩ := hty
  injection e2 with e2 e3
  subst e3
  rw [← e2] at e68
  obtain ⟨w1, w2, w3, w4, w5, w6, w7, w8, w9⟩ := h.rw (n := n) (m := m)
  obtain ⟨b1, b2, b3, b4, b5⟩ := h.bd
  obtain ⟨fr, iv⟩ := h.fr
  have hc6 : cn Sf ≤ 6000 := by have := cx.2.1; omega
  have TI := h.2.2.2.2.2.2.2
  have r0 : fρ (Fr Dp) 0 = 0 := fr.2.2.1.1.1
  unfold rP at rowR
  rw [hj, if_neg (by decide), if_pos (by decide)] at rowR
  have hK2 : ∃ c, wdR (RgE (eN Sf (fit (Fr Dp))) (fS (Fr Dp))) Sf T0 x c ∧ cw3 T0 m = (32, 0, c) := by
    rcases hK with ⟨z, _⟩ | ⟨_, c, z1, z2⟩ | ⟨z, _⟩
    · rw [hj] at z; exact absurd z (by decide)
    · exact ⟨c, by rw [e2]; exact z1, by rw [z2, if_neg (by decide)]⟩
    · rw [hj] at z; exact absurd z (by decide)
  obtain ⟨cc, kw, krow⟩ := hK2
  have tv0 := tV_68 cx.1 hp h69
  have tv := tv0
  rw [← e68] at tv
  rw [wd_v hc6 tv kw] at krow
  obtain ⟨vi, hvi, hrvi, hcwi⟩ := h.top e1
  obtain ⟨v, hv, hrv, hcw⟩ := h.top2 e1
  obtain ⟨v1, hv1, hrv1, hcw1⟩ := h.top3 e1
  have vt1 := VTs.fit cx h hv1 hf htx
  obtain ⟨wv1, _⟩ := wv_wS cx.1 hc6 tv vt1
  have ws := wS_r hc6 hp hk
  have wt1 : wS Sf t1 = wS Sf x := by
    rw [← wv1]
    exact (VTs.wi cx.1 hc6 ((iv.2.2.2.1 t1 (by rw [e1]; exact List.mem_cons_of_mem _ (List.mem_cons_of_mem _ List.mem_cons_self))).imp id (fun w => w.1)) hv1).symm
  have wsl1 : wsl Sf [t1] = wS Sf x := by show wS Sf t1 + 0 = _; rw [wt1]; rfl
  have ls : wsl Sf (jj.2.1 :: [t1]) = 3 + wS Sf x := by rw [← ws, ← wsl1]; rfl
  have ll1 : (fst' (Fr Dp)).length = 3 := by rw [e1]; rfl
  have ll2 : wsl Sf (fst' (Fr Dp)) = 4 + wS Sf x := by
    rw [e1, show wsl Sf (0 :: jj.2.1 :: [t1]) = wS Sf 0 + wsl Sf (jj.2.1 :: [t1]) from rfl, wS_0, ls]
    omega
  rw [List.length_nil, Nat.add_zero] at hrv1
  have w6' : (sI M 102 0 (nI (n + 1))).1 109 0 = nI (fph (Fr Dp) + 3) := by rw [tp_102 (by omega), w6, ll1]
  have w7' : (sI T 105 0 (nI (m + 1))).1 100 0 = nI (fbs (Fr Dp) + 80 + wS Sf x + 4) := by rw [tp_105 (by omega), w7, ll2]; congr 1; omega
  obtain ⟨i1, i2⟩ := hvi.i0
  have m1 : M.1 110 (fph (Fr Dp) + 2) = vi.1 := RV_i hrvi i1 i2
  rw [ls] at hcwi
  rw [wsl1] at hcw
  have t3 : T.1 99 (fbs (Fr Dp) + 80 + wS Sf x + 3) = vi.1 := by
    have := hcwi 0 (by rw [wv_0 i2]; omega)
    rw [CW_i i1 i2, show fbs (Fr Dp) + 80 + (3 + wS Sf x) + 0 = fbs (Fr Dp) + 80 + wS Sf x + 3 by omega] at this
    exact this
  rw [VTs_r cx.1 hc6 hp hk] at hv
  have v1' : ¬ v.2.2 = 0 := by
    rcases hv with z | z
    · omega
    · have := z.1; omega
  have wv3 : wv v = 3 := if_neg v1'
  have wl := wv_3 (v := v1)
  obtain ⟨m0, m3, m4⟩ := RV_r hrv v1'
  change M.1 110 (fph (Fr Dp) + 1) = v.1 at m0
  change M.1 113 (fph (Fr Dp) + 1) = nI (v.2.2 - 1) at m3
  obtain ⟨c1, c2, c3⟩ := CW_r (G := G) v1'
  have t1' : T.1 99 (fbs (Fr Dp) + 80 + wS Sf x + 1) = v.1 := (hcw 1 (by omega)).trans c1
  have t2 : T.1 99 (fbs (Fr Dp) + 80 + wS Sf x + 2) = nI (v.2.2 - 1) := (hcw 2 (by omega)).trans c2
  by_cases ob : v.1 + vi.1 < 0 ∨ ¬ v.1 + vi.1 < nI (v.2.2 - 1)
  · refine Or.inr (rz_go (d1 := d - 2) (d2 := d' - 1) h hn hm hn2 h51 hm2 h6 rowR (by decide) krow (by decide) 2 (nI (fph (Fr Dp) + 1)) (nI (fbs (Fr Dp) + 80 + wS Sf x)) (by omega) (by omega) (fun r l M' hM => ?_) (fun r l T' hT => ?_))
    · exact x_b24 (h := fph (Fr Dp) + 1) w6' (by omega) (by rw [tp_102 (by omega), tp_102 (by omega), tp_102 (by omega), m0, m1, m3]; exact ob) hM (by omega)
    · rw [dC_210 (by decide) (by decide) (by decide) (by decide), c_ix0 w7' (by omega) (by rw [tp_105 (by omega), tp_105 (by omega), tp_105 (by omega), t1', t2, t3]; exact ob) (by omega), hT, bis]
  · have ob1 : ¬ v.1 + vi.1 < 0 := fun w => ob (Or.inl w)
    have ob2 : v.1 + vi.1 < nI (v.2.2 - 1) := Decidable.byContradiction fun w => ob (Or.inr w)
    have n1v : ¬ v.2.2 = 1 := fun w => by
      rw [w] at ob2
      exact ob1 ob2
    obtain ⟨a1, a2, a3, apl, un0, ati, a4, a5⟩ := hv.resolve_left n1v
    obtain ⟨tt, to, ta, tp, tp6, tw⟩ := TI v.2.1 a2 a3
    have kl := nI_ltn ob1 (by omega) ob2
    have ke := (nI_clx ob1).1
    generalize (v.1 + vi.1).toNatClampNeg = q at kl ke
    obtain ⟨m5, m6⟩ := m4 a1
    have t0 : T.1 99 (fbs (Fr Dp) + 80 + wS Sf x) = nI (gAd G v.2.1 + 1) := (hcw 0 (by omega)).trans (c3 a1)
    obtain ⟨_, g0, hg0⟩ := tit_r tt ati
    have qp : q < gPl G v.2.1 := by omega
    have ety : gty Sf (fρ (Fr Dp)) (Sf.1 68 p) = gTy G v.2.1 q := by
      have := a5 q qp
      rw [tgt_c h69] at this
      injection this with _ this
    have ewg : wg g0 = wS Sf (Sf.1 68 p) := by rw [← (hg0 q qp).1, ← ety]; exact wg_gty cx.1 hc6 tv0
    have ewo : gWo G v.2.1 q = q * wS Sf x := by rw [(hg0 q qp).2, ewg, e68]
    have wok := tw q qp
    obtain ⟨cr, ecr, hcr⟩ := (cx.1 p hp.2.1 hp.2.2).2.1
    change Sf.1 67 p = nI cr at ecr
    rw [ecr] at hlv
    rw [ecr, nc (by omega)] at a4
    obtain ⟨i, hi, he⟩ := a4.2.2 (h.alv hcr hlv)
    obtain ⟨l, ⟨l1, l2, l3, l4, l5, l6, l7, _⟩, awr⟩ := h.1.at a2 a3 hi he qp
    obtain ⟨d1, d2, d3, d4, d5, d6, d7⟩ := h.1.rd a2 a3 hi he qp
    have vtp : VT G nb rg na ng v1 (gTy G v.2.1 (if gUn G v.2.1 = 0 then q else 0)) := by
      rw [if_pos un0, ← ety, ← e68]
      exact vt1
    have szw := d6 un0
    have wg1 : wg (gTy G v.2.1 q) = wS Sf x := by rw [← ety, ← e68]; exact wg_gty cx.1 hc6 tv
    have own : ∀ j, j < wS Sf x → Own T P W (gAd G v.2.1 + gWo G v.2.1 q + j) := fun j hj => by
      rw [Nat.add_assoc]
      exact d3 _ (by omega)
    refine pu_end cx h rn hn hm hn2 h51 hm2 h6 rowR (by decide) krow (by decide) (awr (sI (rcT (sI M 102 0 (nI (n + 1))) (l.getD q 0) (fph (Fr Dp))) 109 0 (nI (fph (Fr Dp)))) (sI (mmW (sI T 105 0 (nI (m + 1))) (gAd G v.2.1 + gWo G v.2.1 q) (fun i => (sI T 105 0 (nI (m + 1))).1 99 (fbs (Fr Dp) + 80 + i)) 0 (wS Sf x)) 100 0 (nI (fbs (Fr Dp) + 80))) v1 0 vtp (fun w => absurd un0 w) (fun k hk => by rw [sI_ne (by omega), rcT_o (by omega), sI_ne (by omega)]) (fun q _ => by rw [sI_ne (by omega), rcT_o (by omega), sI_ne (by omega)]) (fun w => absurd un0 w) (fun k c k1 k2 hc => by rw [sI_ne (by omega), rcT_c hc, sI_ne (by omega)]) (by rw [sI_ne (by omega), rcT_v.2.2.2.2]; decide) (by rw [sI_ne (by omega), rcT_v.1, sI_ne (by omega), sI_ne (by omega), rcT_v.2.1, sI_ne (by omega), sI_ne (by omega), rcT_v.2.2.1, sI_ne (by omega), sI_ne (by omega), rcT_v.2.2.2.1, sI_ne (by omega)]; exact hrv1) (fun k k1 k2 => by rw [sI_ne (by omega), mmW_o (by omega) (by omega), sI_ne (by omega)]) (fun k a hk hna _ => ?_) (fun w => absurd un0 w) (fun w hw => ?_)) hI ?_ ?_ (fun k hk => by rw [sI_ne (by omega), rcT_o (by omega), sI_ne (by omega)]) rfl (fun k hk => by rw [sI_ne (by omega), mmW_o (by omega) (by omega), sI_ne (by omega)]) rfl (by rw [sI_v]) (by rw [sI_v]) (by rw [sI_ne (by omega), rcT_o (by omega), sI_v]) (by rw [sI_ne (by omega), mmW_o (by omega) (by omega), sI_v])
    · rw [wv1] at hna
      rcases hk with z | z <;> subst z
      · rw [sI_ne (by omega), mmW_w, if_neg (by omega), sI_ne (by omega)]
      · rw [sI_ne (by omega), mmW_g, if_neg (by omega), sI_ne (by omega)]
    · refine ⟨?_, ?_⟩
      · rw [sI_ne (by omega), mmW_w, if_pos (by omega), Nat.add_sub_cancel_left, sI_ne (by omega)]
        exact hcw1 w hw
      · rw [sI_ne (by omega), mmW_g, if_pos (by omega)]
        decide
    · exact x_r24 (o := gOb G v.2.1) (bb := nI v.2.1) (l := l) (k := q) w6' (by omega) (by rw [tp_102 (by omega), tp_102 (by omega), m0, m1]; exact ke.symm) (by omega) (by rw [tp_102 (by omega), m3]; congr 1; omega) l1 (by rw [tp_102 (by omega)]; exact m5) (by rw [tp_102 (by omega)]; exact m6) (by rw [tp_102 (by omega)]; exact l2) (by rw [tp_102 (by omega)]; exact l3) (by omega) (by rw [tp_102 (by omega)]; show chn ((sI M 102 0 (nI (n + 1))).1 149) _ l; rw [sI_ne (by omega)]; exact l5) (by omega) (by omega) (by omega)
    · rw [dC_210 (by decide) (by decide) (by decide) (by decide), c_ixp (j := q) (m := v.2.2 - 1) (a := gAd G v.2.1) w7' (by omega) (by rw [tp_105 (by omega), tp_105 (by omega), t1', t3]; exact ke.symm) (by rw [tp_105 (by omega)]; exact t2) (by omega) (by omega) (by rw [tp_105 (by omega)]; exact t0) (by omega), if_neg (by decide), if_neg (by decide), c_store (P := P) (W := W) (t := fbs (Fr Dp) + 80) (by rw [sI_v]) (by omega) (by omega) (by omega) (d5.eq (by rw [sI_ne (by omega), sI_ne (by omega)]) (by rw [sI_ne (by omega), sI_ne (by omega)])) (fun i hi => ?_) (by omega), bis, mmW_100, sI_ow, sI_ne (g' := 99) (g := 100) (by omega), ewo]
      rw [← ewo]
      exact (own i hi).eq (by rw [sI_ne (by omega), sI_ne (by omega)])
theorem pu_6 (cx : CxP M0 T0 Sf) (h : Sim M0 T0 Sf G D nb mk rg na ng P W Fr Dp M T) (rn : RnO M T) (hn : fn (Fr Dp) = n) (hm : fm (Fr Dp) = m) (hn2 : n < 12000) (h51 : T0.1 51 0 = nI n1) (hm2 : m < n1) (h6 : n1 ≤ 6032) (rowR : rwC4 M0 n = rP M0 jj) (hK : PlW (RgE (eN Sf (fit (Fr Dp))) (fS (Fr Dp))) Sf T0 2 un jj m) (hty : tyJ Sf (fS (Fr Dp)) jj (fst' (Fr Dp)) [x, t1]) (hf : fitT Sf (fS (Fr Dp)) t1 x) (htx : TyIn Sf (fS (Fr Dp)) x) (hI : IvP Sf (fit (Fr Dp)) (fS (Fr Dp)) [] (fhs (Fr Dp))) (hnf : 16385 ≤ nf) (hd : 20 ≤ d) (hd' : 20 ≤ d') (hj : jj.1 = 6) : PutQ nf d d' M0 T0 Sf G nb mk P W rg na ng Fr Dp M T n m := by
  rw [tyJ_6 hj] at hty
  obtain ⟨s0, p, t, f, c, e1, e2, ⟨hp, hk, h69, ht, hlv⟩, ef, hfl, tve, gte⟩ := hty
  injection e2 with e2 e3
  subst e3
  rw [← e2] at tve gte
  obtain ⟨w1, w2, w3, w4, w5, w6, w7, w8, w9⟩ := h.rw (n := n) (m := m)
  obtain ⟨b1, b2, b3, b4, b5⟩ := h.bd
  obtain ⟨fr, iv⟩ := h.fr
  have hc6 : cn Sf ≤ 6000 := by have := cx.2.1; omega
  have TI := h.2.2.2.2.2.2.2
  have r0 : fρ (Fr Dp) 0 = 0 := fr.2.2.1.1.1
  unfold rP at rowR
  rw [if_pos hj] at rowR
  have i24 := cx.2.2.2.2.1
  have f8 : f < 8 := by obtain ⟨m2, _, _, q3, _, q5⟩ := hfl; omega
  have em0 : M0.1 12 (tf M0 69 jj.2.2.1).toNatClampNeg = Sf.1 12 t := by
    unfold tf
    rw [hp.cl hc6, cx.2.2.1 69 (by omega), h69, nc (by omega), cx.2.2.1 12 (by omega)]
  rw [em0, ef] at rowR
  have hK2 : ∃ cc, wdR (RgE (eN Sf (fit (Fr Dp))) (fS (Fr Dp))) Sf T0 x cc ∧ cw3 T0 m = (if Sf.1 12 t = 1 then (26, nI (f + 1), cc) else (25, T0.1 45 (8 * t + f), cc)) := by
    rcases hK with ⟨_, t', f', cc, ⟨g, y, _, h0, h69', h24⟩, eq, q8, z1, z2, z3⟩ | ⟨z, _⟩ | ⟨z, _⟩
    · have et : t' = t := nI_inj (by omega) (by omega) (by rw [hp.cl hc6] at h69'; rw [← h69', h69])
      have efq : f' = f := nI_inj (by omega) (by omega) (by rw [← eq, ef])
      subst et efq
      refine ⟨cc, by rw [e2]; exact z1, ?_⟩
      rw [z3]
      unfold rwF
      by_cases z : Sf.1 12 t' = 1
      · rw [if_pos (z2.mpr z), if_pos z, if_neg (by decide)]
      · rw [if_neg (fun w => z (z2.mp w)), if_neg z, if_neg (by decide), if_neg (by decide)]
    · rw [hj] at z; exact absurd z (by decide)
    · rw [hj] at z; exact absurd z (by decide)
  obtain ⟨cc, kw, krow⟩ := hK2
  rw [wd_v hc6 tve kw] at krow
  obtain ⟨v, hv, hrv, hcw⟩ := h.top e1
  obtain ⟨v1, hv1, hrv1, hcw1⟩ := h.top2 e1
  have vt1 := VTs.fit cx h hv1 hf htx
  obtain ⟨wv1, _⟩ := wv_wS cx.1 hc6 tve vt1
  have ws := wS_p hc6 hp hk
  have wt1 : wS Sf t1 = wS Sf x := by
    rw [← wv1]
    exact (VTs.wi cx.1 hc6 ((iv.2.2.2.1 t1 (by rw [e1]; exact List.mem_cons_of_mem _ List.mem_cons_self)).imp id (fun w => w.1)) hv1).symm
  have wsl1 : wsl Sf [t1] = wS Sf x := by show wS Sf t1 + 0 = _; rw [wt1]; rfl
  have ll1 : (fst' (Fr Dp)).length = 2 := by rw [e1]; rfl
  have ll2 : wsl Sf (fst' (Fr Dp)) = 1 + wS Sf x := by rw [e1, ← ws, ← wsl1]; rfl
  rw [List.length_nil, Nat.add_zero] at hrv1
  have w6' : (sI M 102 0 (nI (n + 1))).1 109 0 = nI (fph (Fr Dp) + 2) := by rw [tp_102 (by omega), w6, ll1]
  have w7' : (sI T 105 0 (nI (m + 1))).1 100 0 = nI (fbs (Fr Dp) + 80 + wS Sf x + 1) := by rw [tp_105 (by omega), w7, ll2]; congr 1; omega
  have wl := wv_3 (v := v1)
  rw [VTs_p cx.1 hc6 hp hk] at hv
  rw [wsl1] at hcw
  rcases hv with ⟨_, e⟩ | ⟨a1, a2, a3, a4, a5⟩
  · subst e
    by_cases z : Sf.1 12 t = 1
    · rw [if_pos z] at krow
      refine Or.inr (rz_go (d1 := d - 2) (d2 := d' - 1) h hn hm hn2 h51 hm2 h6 rowR (by decide) krow (by decide) 1 (nI (fph (Fr Dp) + 1)) (nI (fbs (Fr Dp) + 80 + wS Sf x)) (by omega) (by omega) (fun r l M' hM => ?_) (fun r l T' hT => ?_))
      · exact x_n23 (h := fph (Fr Dp) + 1) w6' (by omega) (by rw [tp_102 (by omega)]; exact RV_nul hrv) hM (by omega)
      · rw [dC_207 (by decide) (by decide) (by decide), c_pt0 w7' (by omega) (by rw [tp_105 (by omega)]; exact (hcw 0 (by decide)).trans CW_nul) (by omega), hT, bis]
    · rw [if_neg z] at krow
      refine Or.inr (rz_go (d1 := d - 2) (d2 := d' - 1) h hn hm hn2 h51 hm2 h6 rowR (by decide) krow (by decide) 1 (nI (fph (Fr Dp) + 1)) (nI (fbs (Fr Dp) + 80 + wS Sf x)) (by omega) (by omega) (fun r l M' hM => ?_) (fun r l T' hT => ?_))
      · exact x_n23 (h := fph (Fr Dp) + 1) w6' (by omega) (by rw [tp_102 (by omega)]; exact RV_nul hrv) hM (by omega)
      · rw [dC_207 (by decide) (by decide) (by decide), c_pt0 w7' (by omega) (by rw [tp_105 (by omega)]; exact (hcw 0 (by decide)).trans CW_nul) (by omega), hT, bis]
  · obtain ⟨r1, r2, r3⟩ := RV_p hrv a1 a2
    have lt := gPt_lt TI a2 a3 a5
    obtain ⟨tt, to, ta, tp, tp6, tw⟩ := TI v.2.1 a2 a3
    obtain ⟨cr, ecr, hcr⟩ := (cx.1 p hp.2.1 hp.2.2).2.1
    change Sf.1 67 p = nI cr at ecr
    rw [ecr] at hlv
    rw [ecr, nc (by omega)] at a4
    obtain ⟨i, hi, he⟩ := a4.2.2 (h.alv hcr hlv)
    rw [tgt_t h69 (by omega)] at a5
    obtain ⟨x0, hti⟩ := tgO_t a5
    obtain ⟨c2, m2, _, iq, sh⟩ := tit_of tt hti r0
    obtain ⟨ec, fm⟩ := iq.un (c' := c) (m' := 0) hfl
    subst ec
    have c0 : T.1 99 (fbs (Fr Dp) + 80 + wS Sf x) = nI (gPt G v + 1) := (hcw 0 (by rw [wv_0 a1]; omega)).trans (CW_pt a1 a2)
    by_cases z : Sf.1 12 t = 1
    · rw [if_pos z] at krow sh
      rw [z] at rowR
      obtain ⟨un, pl, wo, fs⟩ := sh
      have gp : gPt G v = gAd G v.2.1 := by
        unfold gPt
        rw [if_neg un]
        rfl
      obtain ⟨l, ⟨l1, l2, l3, l4, l5, l6, l7, l8⟩, awr⟩ := h.1.at (p := 0) a2 a3 hi he (by omega)
      obtain ⟨d1, d2, d3, d4, d5, d6, d7⟩ := h.1.rd (p := 0) a2 a3 hi he (by omega)
      obtain ⟨u1, u2, u3, u4, u5, u6⟩ := d4 un
      have szf := u6 f f8
      have wg1 : wg (gTy G v.2.1 f) = wS Sf x := by rw [fs f fm, ← gte]; exact wg_gty cx.1 hc6 tve
      have own : ∀ j, j < gSz G v.2.1 → Own T P W (gPt G v + j) := fun j hj => by rw [gp]; exact d3 j hj
      have vtp : VT G nb rg na ng v1 (gTy G v.2.1 (if gUn G v.2.1 = 0 then 0 else f)) := by
        rw [if_neg un, fs f fm, ← gte]
        exact vt1
      refine pu_end cx h rn hn hm hn2 h51 hm2 h6 rowR (by decide) krow (by decide) (awr (sI (sI (rcT (sI M 102 0 (nI (n + 1))) (l.getD 0 0) (fph (Fr Dp))) 109 0 (nI (fph (Fr Dp)))) 142 (gOb G v.2.1) (nI f)) (sI (mmW (puT (sI T 105 0 (nI (m + 1))) (gPt G v) (nI (f + 1))) (gPt G v + 1) (fun i => (sI T 105 0 (nI (m + 1))).1 99 (fbs (Fr Dp) + 80 + i)) 0 (wS Sf x)) 100 0 (nI (fbs (Fr Dp) + 80))) v1 f vtp (fun _ => by omega) (fun k hk => by rw [sI_ne (by omega), sI_ne (by omega), rcT_o (by omega), sI_ne (by omega)]) (fun q hq => by rw [rdI, if_neg (by omega), sI_ne (by omega), rcT_o (by omega), sI_ne (by omega)]) (fun _ => by rw [sI_v]) (fun k c k1 k2 hc => by rw [sI_ne (by omega), sI_ne (by omega), rcT_c hc, sI_ne (by omega)]) (by rw [sI_ne (by omega), sI_ne (by omega), rcT_v.2.2.2.2]; decide) (by rw [sI_ne (by omega), sI_ne (by omega), rcT_v.1, sI_ne (by omega), sI_ne (by omega), sI_ne (by omega), rcT_v.2.1, sI_ne (by omega), sI_ne (by omega), sI_ne (by omega), rcT_v.2.2.1, sI_ne (by omega), sI_ne (by omega), sI_ne (by omega), rcT_v.2.2.2.1, sI_ne (by omega)]; exact hrv1) (fun k k1 k2 => by unfold puT; rw [sI_ne (by omega), mmW_o (by omega) (by omega), sI_ne (by omega), sI_ne (by omega), sI_ne (by omega)]) (fun k a hk hna hna2 => ?_) (fun _ => ?_) (fun w hw => ?_)) hI ?_ ?_ (fun k hk => by rw [sI_ne (by omega), sI_ne (by omega), rcT_o (by omega), sI_ne (by omega)]) rfl (fun k hk => by unfold puT; rw [sI_ne (by omega), mmW_o (by omega) (by omega), sI_ne (by omega), sI_ne (by omega), sI_ne (by omega)]) rfl (by rw [sI_ne (by omega), sI_v]) (by rw [sI_v]) (by rw [sI_ne (by omega), sI_ne (by omega), rcT_o (by omega), sI_v]) (by unfold puT; rw [sI_ne (by omega), mmW_o (by omega) (by omega), sI_ne (by omega), sI_ne (by omega), sI_v])
      · rw [wv1, wo, ← gp] at hna
        have hn3 := hna2.resolve_left un
        rw [← gp] at hn3
        unfold puT
        rcases hk with z | z <;> subst z
        · rw [sI_ne (by omega), mmW_w, if_neg (by omega), sI_ne (by omega), rdI, if_neg (by omega), sI_ne (by omega)]
        · rw [sI_ne (by omega), mmW_g, if_neg (by omega), rdI, if_neg (by omega), sI_ne (by omega), sI_ne (by omega)]
      · rw [← gp]
        unfold puT
        refine ⟨?_, ?_⟩
        · rw [sI_ne (by omega), mmW_w, if_neg (by omega), sI_ne (by omega), sI_v]
        · rw [sI_ne (by omega), mmW_g, if_neg (by omega), sI_v]
          decide
      · rw [wo, ← gp]
        unfold puT
        refine ⟨?_, ?_⟩
        · rw [sI_ne (by omega), mmW_w, if_pos (by omega), Nat.add_sub_cancel_left, sI_ne (by omega)]
          exact hcw1 w hw
        · rw [sI_ne (by omega), mmW_g, if_pos (by omega)]
          decide
      · exact x_r23u (o := gOb G v.2.1) (bb := nI v.2.1) (l := l) w6' (by omega) l1 (by rw [tp_102 (by omega)]; exact r2) (by rw [tp_102 (by omega)]; exact r3) (by rw [tp_102 (by omega)]; exact l2) (by rw [tp_102 (by omega)]; exact l3) (by omega) (by rw [tp_102 (by omega)]; show chn ((sI M 102 0 (nI (n + 1))).1 149) _ l; rw [sI_ne (by omega)]; exact l5) (by omega) (by omega) (by omega)
      · refine (dC_207 (by decide) (by decide) (by decide)).trans (c_pu26 (P := P) (W := W) (a := gPt G v) (t := fbs (Fr Dp) + 80) (n := wS Sf x) w7' (by omega) (by rw [tp_105 (by omega)]; exact c0) (by omega) (by omega) (by omega) (d5.eq (sI_ne (by omega)) (sI_ne (by omega))) ((own 0 (by omega)).eq (sI_ne (by omega))) (fun i hi => ?_) (by omega) (by decide) rfl)
        rw [Nat.add_assoc]
        exact (own (1 + i) (by omega)).eq (sI_ne (by omega))
    · rw [if_neg z] at krow sh
      obtain ⟨s12, un0, pl, fs⟩ := sh
      have w45 := iq.2.2.2.2.2.1 s12 f fm
      rw [w45] at krow
      have fp : f < gPl G v.2.1 := by omega
      have gp : gPt G v = gAd G v.2.1 := by
        unfold gPt
        rw [if_pos un0, x0, show (0 : Int32).toNatClampNeg = 0 from rfl, (fs 0 (by omega)).2, ofs_0]
        rfl
      obtain ⟨l, ⟨l1, l2, l3, l4, l5, l6, l7, l8⟩, awr⟩ := h.1.at (p := f) a2 a3 hi he fp
      obtain ⟨d1, d2, d3, d4, d5, d6, d7⟩ := h.1.rd (p := f) a2 a3 hi he fp
      have wg1 : wg (gTy G v.2.1 f) = wS Sf x := by rw [(fs f fm).1, ← gte]; exact wg_gty cx.1 hc6 tve
      have szw := d6 un0
      have own : ∀ j, j < wS Sf x → Own T P W (gAd G v.2.1 + gWo G v.2.1 f + j) := fun j hj => by
        rw [Nat.add_assoc]
        exact d3 _ (by omega)
      have vtp : VT G nb rg na ng v1 (gTy G v.2.1 (if gUn G v.2.1 = 0 then f else 0)) := by
        rw [if_pos un0, (fs f fm).1, ← gte]
        exact vt1
      refine pu_end cx h rn hn hm hn2 h51 hm2 h6 rowR (by decide) krow (by decide) (awr (sI (rcT (sI M 102 0 (nI (n + 1))) (l.getD f 0) (fph (Fr Dp))) 109 0 (nI (fph (Fr Dp)))) (sI (mmW (sI T 105 0 (nI (m + 1))) (gAd G v.2.1 + gWo G v.2.1 f) (fun i => (sI T 105 0 (nI (m + 1))).1 99 (fbs (Fr Dp) + 80 + i)) 0 (wS Sf x)) 100 0 (nI (fbs (Fr Dp) + 80))) v1 0 vtp (fun w => absurd un0 w) (fun k hk => by rw [sI_ne (by omega), rcT_o (by omega), sI_ne (by omega)]) (fun q _ => by rw [sI_ne (by omega), rcT_o (by omega), sI_ne (by omega)]) (fun w => absurd un0 w) (fun k c k1 k2 hc => by rw [sI_ne (by omega), rcT_c hc, sI_ne (by omega)]) (by rw [sI_ne (by omega), rcT_v.2.2.2.2]; decide) (by rw [sI_ne (by omega), rcT_v.1, sI_ne (by omega), sI_ne (by omega), rcT_v.2.1, sI_ne (by omega), sI_ne (by omega), rcT_v.2.2.1, sI_ne (by omega), sI_ne (by omega), rcT_v.2.2.2.1, sI_ne (by omega)]; exact hrv1) (fun k k1 k2 => by rw [sI_ne (by omega), mmW_o (by omega) (by omega), sI_ne (by omega)]) (fun k a hk hna _ => ?_) (fun w => absurd un0 w) (fun w hw => ?_)) hI ?_ ?_ (fun k hk => by rw [sI_ne (by omega), rcT_o (by omega), sI_ne (by omega)]) rfl (fun k hk => by rw [sI_ne (by omega), mmW_o (by omega) (by omega), sI_ne (by omega)]) rfl (by rw [sI_v]) (by rw [sI_v]) (by rw [sI_ne (by omega), rcT_o (by omega), sI_v]) (by rw [sI_ne (by omega), mmW_o (by omega) (by omega), sI_v])
      · rw [wv1] at hna
        rcases hk with z | z <;> subst z
        · rw [sI_ne (by omega), mmW_w, if_neg (by omega), sI_ne (by omega)]
        · rw [sI_ne (by omega), mmW_g, if_neg (by omega), sI_ne (by omega)]
      · refine ⟨?_, ?_⟩
        · rw [sI_ne (by omega), mmW_w, if_pos (by omega), Nat.add_sub_cancel_left, sI_ne (by omega)]
          exact hcw1 w hw
        · rw [sI_ne (by omega), mmW_g, if_pos (by omega)]
          decide
      · exact x_r23 (o := gOb G v.2.1) (bb := nI v.2.1) (l := l) (k := f) w6' (by omega) l1 (by rw [tp_102 (by omega)]; exact r2) (by rw [tp_102 (by omega)]; exact r3) (by rw [tp_102 (by omega)]; exact l2) (by rw [tp_102 (by omega)]; exact l3) (by omega) (by rw [tp_102 (by omega)]; show chn ((sI M 102 0 (nI (n + 1))).1 149) _ l; rw [sI_ne (by omega)]; exact l5) z (by omega) (by omega) (by omega)
      · have ewo := (fs f fm).2
        refine (dC_207 (by decide) (by decide) (by decide)).trans ((c_pu25 (P := P) (W := W) (s := ofs Sf c f) (a := gPt G v) (t := fbs (Fr Dp) + 80) (n := wS Sf x) w7' (by omega) (by rw [tp_105 (by omega)]; exact c0) (by omega) (by omega) (by omega) (d5.eq (sI_ne (by omega)) (sI_ne (by omega))) (fun i hi => ?_) (by omega)).trans ?_)
        · rw [gp, ← ewo]
          exact (own i hi).eq (sI_ne (by omega))
        · rw [gp, ← ewo]
theorem pu_all (cx : CxP M0 T0 Sf) (h : Sim M0 T0 Sf G D nb mk rg na ng P W Fr Dp M T) (rn : RnO M T) (hn : fn (Fr Dp) = n) (hm : fm (Fr Dp) = m) (hn2 : n < 12000) (h51 : T0.1 51 0 = nI n1) (hm2 : m < n1) (h6 : n1 ≤ 6032) (rowR : rwC4 M0 n = rP M0 jj) (hK : PlW (RgE (eN Sf (fit (Fr Dp))) (fS (Fr Dp))) Sf T0 2 un jj m) (hty : tyJ Sf (fS (Fr Dp)) jj (fst' (Fr Dp)) [x, t1]) (hf : fitT Sf (fS (Fr Dp)) t1 x) (htx : TyIn Sf (fS (Fr Dp)) x) (hI : IvP Sf (fit (Fr Dp)) (fS (Fr Dp)) [] (fhs (Fr Dp))) (hnf : 16385 ≤ nf) (hd : 20 ≤ d) (hd' : 20 ≤ d') (hj : jj.1 = 6 ∨ jj.1 = 8 ∨ jj.1 = 10) : PutQ nf d d' M0 T0 Sf G nb mk P W rg na ng Fr Dp M T n m := by
  rcases hj with z | z | z
  · exact pu_6 cx h rn hn hm hn2 h51 hm2 h6 rowR hK hty hf htx hI hnf hd hd' z
  · exact pu_8 cx h rn hn hm hn2 h51 hm2 h6 rowR hK hty hf htx hI hnf hd hd' z
  · exact pu_10 cx h rn hn hm hn2 h51 hm2 h6 rowR hK hty hf htx hI hnf hd hd' z
end STC
