/-! both machines: CELL, struct, union made -/
section XE8
variable {M0 T0 Sf S Sh : gSt} {G G' : GH} {D D' : Nat → (Nat → AV) × Nat} {nf d d' nb nb' mk mk' na na' ng ng' e bs ph bt rb tb ie en hb k q u s i j c t h P W Dp n m it n1 : Nat} {rg rg' : Nat → Nat} {ρ : Nat → Nat} {va : Nat → AV} {M M' T T' : gSt} {v : AV} {x a b cc ee op y z w : Int32} {st s0 st' : List Int32} {ov o0 ov' : List AV} {hs : List HD} {F : FRM} {Fr : Nat → FRM} {f : Nat → Int32} {jj : T5} {r1 : Int32} {l1 : Int64} {tg : List Nat}
theorem cx_m (cx : CxP M0 T0 Sf) (h : Sim M0 T0 Sf G D nb mk rg na ng P W Fr Dp M T) : ∀ k, k = 12 ∨ k = 15 ∨ k = 18 ∨ k = 19 ∨ k = 24 ∨ k = 25 ∨ k = 26 ∨ (65 ≤ k ∧ k ≤ 70) → (sI M 102 0 (nI (n + 1))).1 k = Sf.1 k := fun k hk => by
  rw [sI_ne (by omega), h.2.2.2.2.2.2.1.1 k (by omega)]
  exact cx.2.2.1 k hk
theorem xe_14 (cx : CxP M0 T0 Sf) (h : Sim M0 T0 Sf G D nb mk rg na ng P W Fr Dp M T) (rn : RnO M T) (hn : fn (Fr Dp) = n) (hm : fm (Fr Dp) = m) (hn2 : n < 12000) (h51 : T0.1 51 0 = nI n1) (hm2 : m < n1) (h6 : n1 ≤ 6032) (hR : rOk M0 jj n) (hK : KrO (RgE (eN Sf (fit (Fr Dp))) (fS (Fr Dp))) (slF (fS (Fr Dp))) Sf T0 jj m) (hty : tyJ Sf (fS (Fr Dp)) jj (fst' (Fr Dp)) st') (hI : IvP Sf (fit (Fr Dp)) (fS (Fr Dp)) st' (fhs (Fr Dp))) (hnf : 16385 ≤ nf) (hd : 20 ≤ d) (hd' : 20 ≤ d') (hmk : mk + 1 < 2 ^ 31) (hj : jj.1 = 14) : ExQ nf d d' M0 T0 Sf P W mk rg na ng Fr Dp M T st' (n + 1) (m + 1) := by
  rw [tyJ_14 hj] at hty
  obtain ⟨s0, e1, e2, tv, lv, q, hq, hz⟩ := hty
  subst e2
  obtain ⟨w1, w2, w3, w4, w5, w6, w7, w8, w9⟩ := h.rw (n := n) (m := m)
  obtain ⟨b1, b2, b3, b4, b5⟩ := h.bd
  obtain ⟨fr, iv⟩ := h.fr
  have hc6 : cn Sf ≤ 6000 := by have := cx.2.1; omega
  have rowR := rO_n hR (by rw [hj]; decide)
  unfold rB at rowR
  rw [hj, if_neg (by decide), if_neg (by decide), if_pos (by decide)] at rowR
  unfold KrO at hK
  rw [hj, if_neg (by decide), if_neg (by decide), if_neg (by decide), if_neg (by decide), if_neg (by decide), if_neg (by decide), if_neg (by decide), if_neg (by decide), if_neg (by decide), if_neg (by decide), if_neg (by decide), if_neg (by decide), if_neg (by decide), if_pos (by decide)] at hK
  obtain ⟨b0, c0, ⟨r', b', er, eb, hrb⟩, kw, krow⟩ := hK
  rw [if_pos (by decide), wd_v hc6 tv kw, eb] at krow
  obtain ⟨s, es, hs⟩ := lv.1
  have err : r' = s := nI_inj (by have := hrb.lt.1; omega) (by omega) (by rw [← er, es])
  subst err
  obtain ⟨z1, z2, z3, z4, z5⟩ := rwT_g hz
  have wd0 : wdO M0 jj.2.2.1 = nI (wS Sf jj.2.2.1) := by
    have ro : isRo M0 jj.2.2.1 = isRo Sf jj.2.2.1 := by unfold isRo; rw [cx.2.2.1 66 (by omega)]
    unfold wdO wS
    rw [ro]
    by_cases c : isRo Sf jj.2.2.1 = 0
    · rw [if_pos c, if_pos c]; rfl
    · rw [if_neg c, if_neg c]; rfl
  rw [wd0, es] at rowR
  obtain ⟨v, hv, hrv, hcw⟩ := h.top e1
  have wi := VTs.wi cx.1 hc6 (Or.inr tv) hv
  have w13 := wS_3 (S := Sf) (x := jj.2.2.1)
  have w11 := wS_1 (S := Sf) (x := jj.2.2.1)
  have v2 : VT G nb rg na ng v (gty Sf (fρ (Fr Dp)) jj.2.2.1) := by
    unfold VTs at hv
    rw [if_neg (by
      rcases tv.row with w | ⟨p, hp⟩
      · rw [w]; decide
      · intro w; exact hp.np hc6 (by rw [w]; decide))] at hv
    exact hv
  have wgv : wg (gty Sf (fρ (Fr Dp)) jj.2.2.1) = wS Sf jj.2.2.1 := wg_gty cx.1 hc6 tv
  have ws1 : wsl Sf [jj.2.2.1] = wS Sf jj.2.2.1 := Nat.add_zero _
  rw [es] at lv
  obtain ⟨P2, hP2, hcell⟩ : ∃ P2 : Int64, P2.toInt = ((wS Sf jj.2.2.1 : Nat) : Int) ∧ ∀ r5 : Int32, rj_Model_makeBy_37 (RR nf (d - 2)) nf (sI M 102 0 (nI (n + 1))) 14 (nI (wS Sf jj.2.2.1)) 0 r5 1 = bi (RR nf (d - 2) 110 (sI M 102 0 (nI (n + 1))) [r5, 1] [P2]) (fun r _ T24 => mbK nf (d - 2) 14 0 1 r T24) := by
    have key := fun r5 : Int32 => mb_cell2 (M := sI M 102 0 (nI (n + 1))) (nf := nf) (d := d - 2) (x4 := 0) (x5 := r5) (n := wS Sf jj.2.2.1) (by omega) (by omega)
    exact ⟨(nI (wS Sf jj.2.2.1)).toInt64 + 0, i64_add (i64_n (by omega)) i64_0 (by omega), key⟩
  refine mk_go (st := [jj.2.2.1]) (k := 1) (nw := wS Sf jj.2.2.1) (ws := wS Sf jj.2.2.1) (w0 := 0) (un := 0) (tg := 0) (p2 := P2) cx h rn hn hm hn2 h51 hm2 h6 rowR (by decide) krow (by decide) e1 hI hs lv hrb rfl (by omega) (by omega) (by omega) ws1 (by omega) (by omega) hP2 (fun r hr => ?_) (fun T2 h2 => ?_) (fun T2 i h2 hi h100 hpg how => ?_) (fun _ => v) (fun _ => 0) [] (fun _ => gty Sf (fρ (Fr Dp)) jj.2.2.1) (fun p hp => ?_) (fun o nx => ?_) (fun o nx => ?_) hq z1 (by rw [z2]; exact es) (Or.inr ⟨by rw [tgt_c (by rw [show Sf.1 69 q = -1 from z4]; decide), z3], rfl⟩) (fun w => absurd rfl w) (fun _ => rfl) hmk hnf hd hd'
  · rw [x_mb (k := 1) (e := Dp) (r := r) (Or.inl rfl) (by rw [tp_102 (by omega)]; exact w8) (by omega) hs (by rw [tp_102 (by omega)]; exact hr) (by rw [if_neg (by decide)]) (by omega)]
    exact congrArg (fun z => bi z (fun _ _ T => some ((0 : Int32), (0 : Int64), T))) (hcell (nI r))
  · rw [dC_211 (by decide) (by decide) (by decide) (by decide) (by decide)]
    exact c_mk0 (Or.inl rfl) (y := nI b') (z := nI (wS Sf jj.2.2.1)) rfl rfl h2 (by omega)
  · have l2 : wsl Sf (fst' (Fr Dp)) = wS Sf jj.2.2.1 + wsl Sf s0 := by rw [e1]; rfl
    refine ⟨_, ?_, cm_40 (by omega)⟩
    rw [dC_211 (by decide) (by decide) (by decide) (by decide) (by decide)]
    exact c_m40 h2 hi h100 (by omega) (by omega) (by omega) hpg how (by omega)
  · have p0 : p = 0 := by omega
    subst p0
    exact ⟨v2, hrv, fun w hw => hcw w hw, by omega⟩
  · refine ⟨fun _ => ⟨fun p hp => ?_, fun p q hpq hq => absurd hq (by omega)⟩, fun w => absurd rfl w⟩
    show 0 + 0 + wg (gty Sf (fρ (Fr Dp)) jj.2.2.1) ≤ _
    omega
  · refine Or.inl ?_
    unfold gTi gUn gPl gTy gWo
    rw [upG_b]
    refine ⟨rfl, rfl, gty Sf (fρ (Fr Dp)) jj.2.2.1, fun p hp => ⟨rfl, ?_⟩⟩
    have p0 : p = 0 := by
      have : p < 1 := hp
      omega
    subst p0
    show 0 + 0 = 0 * _
    omega
end XE8
