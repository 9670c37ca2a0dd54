/-! both machines: instructions of an EXPR, pointers -/
section XE2
variable {M0 T0 Sf S Sh : gSt} {G G' : GH} {D D' : Nat → (Nat → AV) × Nat} {nf d d' nb nb' mk mk' na na' ng ng' e bs ph bt rb tb ie en hb k q u s i j c t h P W Dp n m it n1 : Nat} {rg rg' : Nat → Nat} {ρ : Nat → Nat} {va : Nat → AV} {M M' T T' : gSt} {v : AV} {x a b cc ee op y z w : Int32} {st s0 st' : List Int32} {ov o0 ov' : List AV} {hs : List HD} {F : FRM} {Fr : Nat → FRM} {f : Nat → Int32} {jj : T5} {r1 : Int32} {l1 : Int64} {tg : List Nat}
/-- the last value on the stack -/
theorem Sim.top (h : Sim M0 T0 Sf G D nb mk rg na ng P W Fr Dp M T) (hst : fst' (Fr Dp) = x :: s0) : ∃ v, VTs Sf G nb rg na ng (fρ (Fr Dp)) v x ∧ RV G v (M.1 110 (fph (Fr Dp) + s0.length)) (M.1 111 (fph (Fr Dp) + s0.length)) (M.1 112 (fph (Fr Dp) + s0.length)) (M.1 113 (fph (Fr Dp) + s0.length)) ∧ (∀ i, i < wv v → T.1 99 (fbs (Fr Dp) + 80 + wsl Sf s0 + i) = CW G v i) := by
  have op := h.fr.1.2.1
  rw [hst] at op
  generalize fov (Fr Dp) = ov at op
  cases ov with
  | nil => exact absurd op (fun w => w)
  | cons v ov => exact ⟨v, op.1, op.2.1, op.2.2.1⟩
/-- the last two -/
theorem Sim.top2 (h : Sim M0 T0 Sf G D nb mk rg na ng P W Fr Dp M T) (hst : fst' (Fr Dp) = y :: x :: s0) : ∃ v, VTs Sf G nb rg na ng (fρ (Fr Dp)) v x ∧ RV G v (M.1 110 (fph (Fr Dp) + s0.length)) (M.1 111 (fph (Fr Dp) + s0.length)) (M.1 112 (fph (Fr Dp) + s0.length)) (M.1 113 (fph (Fr Dp) + s0.length)) ∧ (∀ i, i < wv v → T.1 99 (fbs (Fr Dp) + 80 + wsl Sf s0 + i) = CW G v i) := by
  have op := h.fr.1.2.1
  rw [hst] at op
  generalize fov (Fr Dp) = ov at op
  cases ov with
  | nil => exact absurd op (fun w => w)
  | cons v ov =>
    have op2 := op.2.2.2
    cases ov with
    | nil => exact absurd op2 (fun w => w)
    | cons v2 ov => exact ⟨v2, op2.1, op2.2.1, op2.2.2.1⟩
theorem Sim.top3 (h : Sim M0 T0 Sf G D nb mk rg na ng P W Fr Dp M T) (hst : fst' (Fr Dp) = z :: y :: x :: s0) : ∃ v, VTs Sf G nb rg na ng (fρ (Fr Dp)) v x ∧ RV G v (M.1 110 (fph (Fr Dp) + s0.length)) (M.1 111 (fph (Fr Dp) + s0.length)) (M.1 112 (fph (Fr Dp) + s0.length)) (M.1 113 (fph (Fr Dp) + s0.length)) ∧ (∀ i, i < wv v → T.1 99 (fbs (Fr Dp) + 80 + wsl Sf s0 + i) = CW G v i) := by
  have op := h.fr.1.2.1
  rw [hst] at op
  generalize fov (Fr Dp) = ov at op
  cases ov with
  | nil => exact absurd op (fun w => w)
  | cons v ov =>
    have op2 := op.2.2.2
    cases ov with
    | nil => exact absurd op2 (fun w => w)
    | cons v2 ov =>
      have op3 := op2.2.2.2
      cases ov with
      | nil => exact absurd op3 (fun w => w)
      | cons v3 ov => exact ⟨v3, op3.1, op3.2.1, op3.2.2.1⟩
/-- both raise -/
theorem rz_go (h : Sim M0 T0 Sf G D nb mk rg na ng P W Fr Dp M T) (hn : fn (Fr Dp) = n) (hm : fm (Fr Dp) = m) (hn2 : n < 12000) (h51 : T0.1 51 0 = nI n1) (hm2 : m < n1) (h6 : n1 ≤ 6032) (rowR : rwC4 M0 n = (a, b, cc, ee)) (ha : ¬ a = 0) (rowC : cw3 T0 m = (op, x, y)) (ho : ¬ op = 1) (er : Int32) (hh tt : Int32) {d1 d2 : Nat} (hd1 : d ≤ d1 + 5) (hd2 : d' ≤ d2 + 5) (hr : ∀ r l M', RR nf d1 114 (sI (sI M 102 0 (nI (n + 1))) 109 0 hh) [er] [] = some (r, l, M') → RR nf d 118 (sI M 102 0 (nI (n + 1))) [a, b, cc, ee] [] = some (0, 0, M')) (hp : ∀ r l T', PP nf d2 216 (sI (sI T 105 0 (nI (m + 1))) 100 0 tt) [er] [] = some (r, l, T') → dC nf d' (sI T 105 0 (nI (m + 1))) op x y = some (0, 0, T')) : RzO nf d d' M T := by
  obtain ⟨w1, w2, w3, w4, w5, _⟩ := h.rw (n := n) (m := m)
  refine ⟨er, sI (sI M 102 0 (nI (n + 1))) 109 0 hh, sI (sI T 105 0 (nI (m + 1))) 100 0 tt, d1, d2, hd1, hd2, fun k k1 k2 => ?_, rfl, fun k k1 k2 => ?_, rfl, fun r l M' hM => StR.of (by rw [w4, hn]) hn2 (by rw [w1]; exact rowR) ha (hr r l M' hM), fun r l T' hT => StC.of (by rw [w5, hm]) (by rw [w3]; exact h51) h6 hm2 (by rw [w2]; exact rowC) ho (hp r l T' hT)⟩
  · rw [sI_ne k2, sI_ne k1]
  · rw [sI_ne k1, sI_ne k2]
theorem wS_p (hc : cn Sf ≤ 6000) {p : Nat} (hp : rowP Sf x p) (hk : Sf.1 66 p = 1 ∨ Sf.1 66 p = 2) : wS Sf x = 1 := by
  unfold wS isRo
  have e : (if Sf.1 66 p = 3 then (1 : Int32) else 0) = 0 := if_neg (by rcases hk with e | e <;> rw [e] <;> decide)
  rw [if_neg (hp.np hc), hp.cl hc, e, if_pos rfl]
theorem wS_r (hc : cn Sf ≤ 6000) {p : Nat} (hp : rowP Sf x p) (hk : Sf.1 66 p = 3) : wS Sf x = 3 := by
  unfold wS isRo
  have e : (if Sf.1 66 p = 3 then (1 : Int32) else 0) = 1 := if_pos hk
  rw [if_neg (hp.np hc), hp.cl hc, e, if_neg (by decide)]
theorem wS_0 : wS Sf 0 = 1 := by
  have e : isRo Sf 0 = 0 := by unfold isRo; rw [if_pos (show (0 : Int32) ≤ 0 by decide)]
  unfold wS
  rw [if_pos e]
/-- where a pointer points to, as the class holds it -/
def gPt (G : GH) (v : AV) : Nat := gAd G v.2.1 + (if gUn G v.2.1 = 0 then gWo G v.2.1 v.1.toNatClampNeg else 0)
theorem gPt_lt (hT : TiO Sf T0 G nb) (h2 : 1 ≤ v.2.1) (h3 : v.2.1 ≤ nb) (ht : tgO G v.2.1 v.1 tg) : gPt G v < 5000 := by
  obtain ⟨t1, t2, t3, t4, t6, t5⟩ := hT v.2.1 h2 h3
  unfold gPt
  by_cases c : gUn G v.2.1 = 0
  · rw [if_pos c]
    unfold tgO at ht
    by_cases c1 : tg.headD 0 = 1
    · rw [if_pos c1] at ht
      have := t5 0 (by omega)
      rw [ht.1, show (0 : Int32).toNatClampNeg = 0 from rfl]
      omega
    · rw [if_neg c1] at ht
      obtain ⟨p, e, hp, _⟩ := ht
      have := t5 p hp
      rw [e, nc (by omega)]
      omega
  · rw [if_neg c]; omega
theorem CW_pt (h1 : v.2.2 = 0) (h2 : 1 ≤ v.2.1) : CW G v i = nI (gPt G v + 1) := CW_p h1 h2
theorem RV_p (h : RV G v x y z w) (h1 : v.2.2 = 0) (h2 : 1 ≤ v.2.1) : x = v.1 ∧ y = nI (gOb G v.2.1) ∧ z = nI v.2.1 := by
  unfold RV at h
  rw [if_pos h1, if_neg (by omega)] at h
  exact ⟨h.1, h.2⟩
theorem RV_mk (h1 : v.2.2 = 0) (h2 : 1 ≤ v.2.1) : RV G v v.1 (nI (gOb G v.2.1)) (nI v.2.1) w := by
  unfold RV
  rw [if_pos h1, if_neg (by omega)]
  exact ⟨rfl, rfl, rfl⟩
theorem RV_nul (h : RV G ((0 : Int32), (0 : Nat), (0 : Nat)) x y z w) : y = -1 := by
  unfold RV at h
  rw [if_pos rfl, if_pos rfl] at h
  exact h.2
theorem CW_nul : CW G ((0 : Int32), (0 : Nat), (0 : Nat)) i = 0 := CW_0
theorem xe_12 (cx : CxP M0 T0 Sf) (h : Sim M0 T0 Sf G D nb mk rg na ng P W Fr Dp M T) (rn : RnO M T) (hn : fn (Fr Dp) = n) (hm : fm (Fr Dp) = m) (hn2 : n < 12000) (h51 : T0.1 51 0 = nI n1) (hm2 : m < n1) (h6 : n1 ≤ 6032) (hR : rOk M0 jj n) (hK : KrO (RgE (eN Sf (fit (Fr Dp))) (fS (Fr Dp))) (slF (fS (Fr Dp))) Sf T0 jj m) (hty : tyJ Sf (fS (Fr Dp)) jj (fst' (Fr Dp)) st') (hI : IvP Sf (fit (Fr Dp)) (fS (Fr Dp)) st' (fhs (Fr Dp))) (hnf : 16385 ≤ nf) (hd : 20 ≤ d) (hd' : 20 ≤ d') (hj : jj.1 = 12) : ExQ nf d d' M0 T0 Sf P W mk rg na ng Fr Dp M T st' (n + 1) (m + 1) := by
  rw [tyJ_12 hj] at hty
  obtain ⟨s0, p, e1, e2, hp, hk, nw⟩ := hty
  subst e2
  obtain ⟨w1, w2, w3, w4, w5, w6, w7, w8, w9⟩ := h.rw (n := n) (m := m)
  obtain ⟨b1, b2, b3, b4, b5⟩ := h.bd
  obtain ⟨fr, iv⟩ := h.fr
  have hc6 : cn Sf ≤ 6000 := by have := cx.2.1; omega
  have rowR := rO_n hR (by rw [hj]; decide)
  unfold rB at rowR
  rw [hj, if_neg (by decide), if_pos (by decide)] at rowR
  unfold KrO at hK
  rw [hj, if_neg (by decide), if_neg (by decide), if_neg (by decide), if_neg (by decide), if_neg (by decide), if_neg (by decide), if_neg (by decide), if_neg (by decide), if_neg (by decide), if_neg (by decide), if_neg (by decide), if_pos (by decide)] at hK
  obtain ⟨v, hv, hrv, hcw⟩ := h.top e1
  have ws := wS_p hc6 hp hk
  have l1 : (fst' (Fr Dp)).length = s0.length + 1 := by rw [e1]; rfl
  have l2 : wsl Sf (fst' (Fr Dp)) = 1 + wsl Sf s0 := by rw [e1, ← ws]; rfl
  have w6' : (sI M 102 0 (nI (n + 1))).1 109 0 = nI (fph (Fr Dp) + s0.length + 1) := by rw [tp_102 (by omega), w6, l1]; rfl
  have w7' : (sI T 105 0 (nI (m + 1))).1 100 0 = nI (fbs (Fr Dp) + 80 + wsl Sf s0 + 1) := by rw [tp_105 (by omega), w7, l2]; congr 1; omega
  rw [VTs_p cx.1 hc6 hp hk] at hv
  rcases hv with ⟨_, e⟩ | ⟨a1, a2, a3, a4, a5⟩
  · subst e
    refine Or.inr (Or.inl (rz_go (d1 := d - 2) (d2 := d' - 1) h hn hm hn2 h51 hm2 h6 rowR (by decide) hK (by decide) 1 (nI (fph (Fr Dp) + s0.length)) (nI (fbs (Fr Dp) + 80 + wsl Sf s0)) (by omega) (by omega) (fun r l M' hM => ?_) (fun r l T' hT => ?_)))
    · exact x_n12 w6' (by omega) (by rw [tp_102 (by omega)]; exact RV_nul hrv) hM (by omega)
    · rw [dC_207 (by decide) (by decide) (by decide), c_pt0 w7' (by omega) (by rw [tp_105 (by omega)]; exact (hcw 0 (by decide)).trans CW_nul) (by omega), hT, bis]
  · obtain ⟨r1, r2, r3⟩ := RV_p hrv a1 a2
    have lt := gPt_lt h.2.2.2.2.2.2.2 a2 a3 a5
    obtain ⟨tt, to, _⟩ := h.2.2.2.2.2.2.2 v.2.1 a2 a3
    have c0 : T.1 99 (fbs (Fr Dp) + 80 + wsl Sf s0) = nI (gPt G v + 1) := (hcw 0 (by rw [wv_0 a1]; omega)).trans (CW_pt a1 a2)
    obtain ⟨q, hq, hz⟩ := nw
    obtain ⟨z1, z2, z3, z4, z5⟩ := rwT_g hz
    refine ex_go (v := v) (f := fun _ => nI (gPt G v + 1)) (st := [jj.2.1]) (s0 := s0) cx h rn hn hm hn2 h51 hm2 h6 rowR (by decide) hK (by decide) e1 hI ?_ (RV_mk (w := 0) a1 a2) (fun i _ => (CW_pt a1 a2).symm) ?_ ?_
    · rw [VTs_p cx.1 hc6 hq (Or.inl z1)]
      exact Or.inr ⟨a1, a2, a3, by rw [z2]; exact a4, by rw [tgt_eq (p := q) (q := p) z3 z4 z5]; exact a5⟩
    · rw [x_r12 w6' (by omega) (by rw [tp_102 (by omega), r2]; exact fun w => nI_neg1 (by omega) w.symm) (by omega), tp_102 (by omega), tp_102 (by omega), tp_102 (by omega), r1, r2, r3]
    · rw [dC_207 (by decide) (by decide) (by decide), c_nn23 w7' (by omega) (by rw [tp_105 (by omega), c0]; exact nz1 (by omega)) (by omega), tp_105 (by omega), c0, ps_stW, wv_0 a1]
theorem xe_13 (cx : CxP M0 T0 Sf) (h : Sim M0 T0 Sf G D nb mk rg na ng P W Fr Dp M T) (rn : RnO M T) (hn : fn (Fr Dp) = n) (hm : fm (Fr Dp) = m) (hn2 : n < 12000) (h51 : T0.1 51 0 = nI n1) (hm2 : m < n1) (h6 : n1 ≤ 6032) (hR : rOk M0 jj n) (hK : KrO (RgE (eN Sf (fit (Fr Dp))) (fS (Fr Dp))) (slF (fS (Fr Dp))) Sf T0 jj m) (hty : tyJ Sf (fS (Fr Dp)) jj (fst' (Fr Dp)) st') (hI : IvP Sf (fit (Fr Dp)) (fS (Fr Dp)) st' (fhs (Fr Dp))) (hnf : 16385 ≤ nf) (hd : 20 ≤ d) (hd' : 20 ≤ d') (hj : jj.1 = 13) : ExQ nf d d' M0 T0 Sf P W mk rg na ng Fr Dp M T st' (n + 1) (m + 1) := by
  rw [tyJ_13 hj] at hty
  obtain ⟨s0, p, e1, e2, hp, hk⟩ := hty
  subst e2
  obtain ⟨w1, w2, w3, w4, w5, w6, w7, w8, w9⟩ := h.rw (n := n) (m := m)
  obtain ⟨b1, b2, b3, b4, b5⟩ := h.bd
  obtain ⟨fr, iv⟩ := h.fr
  have hc6 : cn Sf ≤ 6000 := by have := cx.2.1; omega
  have rowR := rO_n hR (by rw [hj]; decide)
  unfold rB at rowR
  rw [hj, if_neg (by decide), if_pos (by decide)] at rowR
  unfold KrO at hK
  rw [hj, if_neg (by decide), if_neg (by decide), if_neg (by decide), if_neg (by decide), if_neg (by decide), if_neg (by decide), if_neg (by decide), if_neg (by decide), if_neg (by decide), if_neg (by decide), if_neg (by decide), if_neg (by decide), if_pos (by decide)] at hK
  obtain ⟨v, hv, hrv, hcw⟩ := h.top e1
  have ws := wS_r hc6 hp hk
  have l1 : (fst' (Fr Dp)).length = s0.length + 1 := by rw [e1]; rfl
  have l2 : wsl Sf (fst' (Fr Dp)) = 3 + wsl Sf s0 := by rw [e1, ← ws]; rfl
  have w6' : (sI M 102 0 (nI (n + 1))).1 109 0 = nI (fph (Fr Dp) + s0.length + 1) := by rw [tp_102 (by omega), w6, l1]; rfl
  have w7' : (sI T 105 0 (nI (m + 1))).1 100 0 = nI (fbs (Fr Dp) + 80 + wsl Sf s0 + 3) := by rw [tp_105 (by omega), w7, l2]; congr 1; omega
  rw [VTs_r cx.1 hc6 hp hk] at hv
  have v1 : ¬ v.2.2 = 0 := by
    rcases hv with z | z
    · omega
    · have := z.1; omega
  have e113 : M.1 113 (fph (Fr Dp) + s0.length) = nI (v.2.2 - 1) := by
    unfold RV at hrv
    rw [if_neg v1] at hrv
    exact hrv.2.1
  have wv3 : wv v = 3 := if_neg v1
  have c2 : T.1 99 (fbs (Fr Dp) + 80 + wsl Sf s0 + 2) = nI (v.2.2 - 1) := by
    rw [hcw 2 (by omega)]
    unfold CW
    rw [if_neg v1, if_neg (by omega), if_neg (by omega)]
  refine ex_go (p3 := 0) (p4 := 0) (v := (nI (v.2.2 - 1), 0, 0)) (f := fun _ => nI (v.2.2 - 1)) (st := [jj.2.1]) (s0 := s0) cx h rn hn hm hn2 h51 hm2 h6 rowR (by decide) hK (by decide) e1 hI VTs_0 RV_0 (fun i _ => CW_0.symm) ?_ ?_
  · rw [x_r13 w6' (by omega) (by omega), tp_102 (by omega), e113]
  · rw [dC_203 (by decide), c_size w7' (by omega) (by omega), tp_105 (by omega), c2, ps_stW]
    rfl
end XE2
