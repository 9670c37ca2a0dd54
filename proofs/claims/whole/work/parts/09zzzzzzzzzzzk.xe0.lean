/-! both machines: instructions of an EXPR, numbers, VARS -/
/-- an instruction of an EXPR has been done: values of types st' lie on the stack, or both raise, or no room is left -/
def ExQ (nf d d' : Nat) (M0 T0 Sf : gSt) (P W mk : Nat) (rg : Nat → Nat) (na ng : Nat) (Fr : Nat → FRM) (Dp : Nat) (M T : gSt) (st' : List Int32) (n m : Nat) : Prop :=
  (∃ M' T' G' D' nb' mk' ov', StR nf d M M' ∧ StC nf d' T T' ∧ RnO M' T' ∧ mk' ≤ mk + 1 ∧ Sim M0 T0 Sf G' D' nb' mk' rg na ng P W (updF Fr Dp (mkF (fS (Fr Dp)) (fρ (Fr Dp)) (fva (Fr Dp)) st' ov' (fhs (Fr Dp)) (fit (Fr Dp)) n m (fbs (Fr Dp)) (fph (Fr Dp)) (frb (Fr Dp)) (ftb (Fr Dp)) (fie (Fr Dp)))) Dp M' T') ∨ RzO nf d d' M T ∨ SpO nf d d' 4 M T
section XE0
variable {M0 T0 Sf S Sh : gSt} {G G' : GH} {D D' : Nat → (Nat → AV) × Nat} {nf d d' nb nb' mk mk' na na' ng ng' e bs ph bt rb tb ie en hb k q u s i j c t h P W Dp n m it n1 : Nat} {rg rg' : Nat → Nat} {ρ : Nat → Nat} {va : Nat → AV} {M M' T T' : gSt} {v : AV} {x a b cc ee op y z w : Int32} {st s0 st' : List Int32} {ov o0 ov' : List AV} {hs : List HD} {F : FRM} {Fr : Nat → FRM} {f : Nat → Int32} {jj : T5} {r1 : Int32} {l1 : Int64}
theorem VTs_0 : VTs Sf G nb rg na ng ρ (x, 0, 0) 0 := by
  unfold VTs
  rw [if_neg (by decide), gty_0 (by decide)]
  unfold VT
  rw [if_pos (show [0].headD 0 = 0 from rfl)]
  exact ⟨rfl, rfl⟩
theorem VTs_n : VTs Sf G nb rg na ng ρ ((0 : Int32), (0 : Nat), (0 : Nat)) (-2) := by
  unfold VTs
  rw [if_pos rfl]
theorem RV_0 : RV G (x, 0, 0) x (-1) z w := by
  unfold RV
  exact ⟨rfl, by rw [if_pos rfl, if_pos rfl]⟩
theorem CW_0 : CW G (x, 0, 0) i = x := by
  unfold CW
  rw [if_pos rfl, if_pos rfl]
theorem VTs.i0 (h : VTs Sf G nb rg na ng ρ v 0) : v.2.1 = 0 ∧ v.2.2 = 0 := by
  unfold VTs at h
  rw [if_neg (by decide), gty_0 (by decide)] at h
  unfold VT at h
  rw [if_pos (show [0].headD 0 = 0 from rfl)] at h
  exact h
/-- rows of the code, as the machines meet them -/
theorem Sim.rw (h : Sim M0 T0 Sf G D nb mk rg na ng P W Fr Dp M T) : rwC4 M n = rwC4 M0 n ∧ cw3 T m = cw3 T0 m ∧ T.1 51 = T0.1 51 ∧ M.1 102 0 = nI (fn (Fr Dp)) ∧ T.1 105 0 = nI (fm (Fr Dp)) ∧ M.1 109 0 = nI (fph (Fr Dp) + (fst' (Fr Dp)).length) ∧ T.1 100 0 = nI (fbs (Fr Dp) + 80 + wsl Sf (fst' (Fr Dp))) ∧ M.1 103 0 = nI (Dp + 1) ∧ T.1 102 0 = nI (Dp + 1) := by
  obtain ⟨_, ⟨_, a3, a4⟩, _, ⟨t1, t2, t3, t4, t5, t6, t7⟩, _, _, ⟨p1, p2, p3, p4⟩, _⟩ := h
  refine ⟨?_, ?_, p3 51 (by omega), t6, t7, t1, t2, a3, a4⟩
  · unfold rwC4
    rw [p1 96 (by omega), p1 97 (by omega), p1 98 (by omega), p1 99 (by omega)]
  · unfold cw3
    rw [p3 48 (by omega), p3 49 (by omega), p3 50 (by omega)]
theorem Sim.fr (h : Sim M0 T0 Sf G D nb mk rg na ng P W Fr Dp M T) : FrO Sf G nb rg na ng M T Dp (Fr Dp) ∧ IvP Sf (fit (Fr Dp)) (fS (Fr Dp)) (fst' (Fr Dp)) (fhs (Fr Dp)) := h.2.2.1.1 Dp (Nat.le_refl _)
/-- the reference's row of an instruction that isn't a call -/
theorem rO_n (h : rOk M0 jj n) (hj : ¬ jj.1 = 18) : rwC4 M0 n = rB M0 jj := by
  unfold rOk at h
  rw [if_neg hj] at h
  exact h
/-- one value more: what the class's and the reference's rows come to -/
theorem ex_go (cx : CxP M0 T0 Sf) (h : Sim M0 T0 Sf G D nb mk rg na ng P W Fr Dp M T) (rn : RnO M T) (hn : fn (Fr Dp) = n) (hm : fm (Fr Dp) = m) (hn2 : n < 12000) (h51 : T0.1 51 0 = nI n1) (hm2 : m < n1) (h6 : n1 ≤ 6032) (rowR : rwC4 M0 n = (a, b, cc, ee)) (ha : ¬ a = 0) (rowC : cw3 T0 m = (op, x, y)) (ho : ¬ op = 1) (hst : fst' (Fr Dp) = st ++ s0) {ty : Int32} (hI : IvP Sf (fit (Fr Dp)) (fS (Fr Dp)) (ty :: s0) (fhs (Fr Dp))) (hv : VTs Sf G nb rg na ng (fρ (Fr Dp)) v ty) {p1 p2 p3 p4 : Int32} (hRV : RV G v p1 p2 p3 p4) (hCW : ∀ i, i < wv v → f i = CW G v i) (hr : RR nf d 118 (sI M 102 0 (nI (n + 1))) [a, b, cc, ee] [] = some (0, 0, rpT (sI M 102 0 (nI (n + 1))) (fph (Fr Dp) + s0.length) p1 p2 p3 p4)) (hp : dC nf d' (sI T 105 0 (nI (m + 1))) op x y = some (0, 0, stW (sI T 105 0 (nI (m + 1))) (fbs (Fr Dp) + 80 + wsl Sf s0) f (wv v))) : ExQ nf d d' M0 T0 Sf P W mk rg na ng Fr Dp M T (ty :: s0) (n + 1) (m + 1) := by
  obtain ⟨w1, w2, w3, w4, w5, w6, w7, w8, w9⟩ := h.rw (n := n) (m := m)
  obtain ⟨ov', hs⟩ := ex_rp (n := n + 1) (m := m + 1) cx.1 (by have := cx.2.1; omega) h hst hI hv hRV hCW
  refine Or.inl ⟨_, _, G, D, nb, mk, ov', StR.of (by rw [w4, hn]) hn2 (by rw [w1]; exact rowR) ha hr, StC.of (by rw [w5, hm]) (by rw [w3]; exact h51) h6 hm2 (by rw [w2]; exact rowC) ho hp, ⟨?_, ?_⟩, by omega, hs⟩
  · rw [rp_o (by omega) (by omega) (by omega) (by omega) (by omega), sI_ne (by omega)]
    exact rn.1
  · rw [stW_o (by omega) (by omega), sI_ne (by omega)]
    exact rn.2
theorem tp_105 {k q : Nat} (hk : k ≠ 105) : (sI T 105 0 x).1 k q = T.1 k q := by rw [sI_ne hk]
theorem tp_102 {k q : Nat} (hk : k ≠ 102) : (sI M 102 0 x).1 k q = M.1 k q := by rw [sI_ne hk]
theorem xe_1 (cx : CxP M0 T0 Sf) (h : Sim M0 T0 Sf G D nb mk rg na ng P W Fr Dp M T) (rn : RnO M T) (hn : fn (Fr Dp) = n) (hm : fm (Fr Dp) = m) (hn2 : n < 12000) (h51 : T0.1 51 0 = nI n1) (hm2 : m < n1) (h6 : n1 ≤ 6032) (hR : rOk M0 jj n) (hK : KrO (RgE en (fS (Fr Dp))) (slF (fS (Fr Dp))) Sf T0 jj m) (hty : tyJ Sf (fS (Fr Dp)) jj (fst' (Fr Dp)) st') (hI : IvP Sf (fit (Fr Dp)) (fS (Fr Dp)) st' (fhs (Fr Dp))) (hd : 20 ≤ d) (hd' : 20 ≤ d') (hj : jj.1 = 1) : ExQ nf d d' M0 T0 Sf P W mk rg na ng Fr Dp M T st' (n + 1) (m + 1) := by
  rw [tyJ_1 (Or.inl hj)] at hty
  subst hty
  obtain ⟨w1, w2, w3, w4, w5, w6, w7, w8, w9⟩ := h.rw (n := n) (m := m)
  obtain ⟨b1, b2, _⟩ := h.bd
  have rowR := rO_n hR (by rw [hj]; decide)
  unfold rB at rowR
  rw [hj, if_neg (by decide), if_neg (by decide), if_neg (by decide), if_neg (by decide), if_neg (by decide), if_neg (by decide)] at rowR
  unfold KrO at hK
  rw [if_pos hj] at hK
  refine ex_go (v := (jj.2.1, 0, 0)) (f := fun _ => jj.2.1) (st := []) (s0 := fst' (Fr Dp)) cx h rn hn hm hn2 h51 hm2 h6 rowR (by decide) hK (by decide) rfl hI VTs_0 RV_0 (fun i _ => CW_0.symm) (x_r1 (by rw [tp_102 (by omega)]; exact w6) (by omega) (by omega)) ?_
  rw [dC_203 (by decide), c_pushI (t := fbs (Fr Dp) + 80 + wsl Sf (fst' (Fr Dp))) (by rw [tp_105 (by omega)]; exact w7) (by omega) (by omega), ps_stW]
  rfl
end XE0
