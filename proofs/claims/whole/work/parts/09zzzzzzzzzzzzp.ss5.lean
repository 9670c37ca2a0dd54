/-! both machines: RAISE; nothing dropped -/
section SS5
variable {M0 T0 Sf S Sh : gSt} {G G' : GH} {D D' : Nat → (Nat → AV) × Nat} {nf d d' nb nb' mk mk' na na' ng ng' e bs ph bt rb tb ie en hb k q u s i j c t h P W Dp n m it n1 : Nat} {rg rg' : Nat → Nat} {ρ : Nat → Nat} {va : Nat → AV} {M M' T T' : gSt} {v : AV} {x a b cc ee op y z w : Int32} {st s0 st' : List Int32} {ov o0 ov' : List AV} {hs : List HD} {F : FRM} {Fr : Nat → FRM} {f : Nat → Int32} {jj : T5} {r1 : Int32} {l1 : Int64} {tg : List Nat}
theorem st_raise (cx : CxP M0 T0 Sf) (h : Sim M0 T0 Sf G D nb mk rg na ng P W Fr Dp M T) (hn : fn (Fr Dp) = n) (hm : fm (Fr Dp) = m) (hn2 : n < 12000) (h51 : T0.1 51 0 = nI n1) (hm2 : m < n1) (h6 : n1 ≤ 6032) (rowR : rwC4 M0 n = (30, b, cc, ee)) (rowC : cw3 T0 m = (56, x, y)) (hst : fst' (Fr Dp) = 0 :: s0) (hd : 20 ≤ d) (hd' : 20 ≤ d') : RzO nf d d' M T := by
  obtain ⟨w1, w2, w3, w4, w5, w6, w7, w8, w9⟩ := h.rw (n := n) (m := m)
  obtain ⟨b1, b2, b3, b4, b5⟩ := h.bd
  have hc6 : cn Sf ≤ 6000 := by have := cx.2.1; omega
  obtain ⟨v, hv, hrv, hcw⟩ := h.top hst
  obtain ⟨i1, i2⟩ := hv.i0
  have m0 : M.1 110 (fph (Fr Dp) + s0.length) = v.1 := RV_i hrv i1 i2
  have t0 : T.1 99 (fbs (Fr Dp) + 80 + wsl Sf s0) = v.1 := by
    have := hcw 0 (by rw [wv_0 i2]; omega)
    rw [CW_i i1 i2] at this
    exact this
  have l1 : (fst' (Fr Dp)).length = s0.length + 1 := by rw [hst]; rfl
  have l2 : wsl Sf (fst' (Fr Dp)) = 1 + wsl Sf s0 := by rw [hst, ← wS_0 (Sf := Sf)]; rfl
  refine rz_go (d1 := d - 1) (d2 := d' - 1) h hn hm hn2 h51 hm2 h6 rowR (by decide) rowC (by decide) v.1 (nI (fph (Fr Dp) + s0.length)) (nI (fbs (Fr Dp) + 80 + wsl Sf s0)) (by omega) (by omega) (fun r l M' hM => ?_) (fun r l T' hT => ?_)
  · exact x_r30 (h := fph (Fr Dp) + s0.length) (by rw [tp_102 (by omega), w6, l1]; rfl) (by omega) (by rw [tp_102 (by omega), m0]; exact hM) (by omega)
  · rw [dC_214 (by decide) (by decide) (by decide) (by decide) (by decide), c_throw (t := fbs (Fr Dp) + 80 + wsl Sf s0) (by rw [tp_105 (by omega), w7, l2]; congr 1; omega) (by omega) (by omega), tp_105 (by omega), t0, hT, bis]
/-- DROP of NOTHING: the reference alone -/
theorem st_drop0 (cx : CxP M0 T0 Sf) (h : Sim M0 T0 Sf G D nb mk rg na ng P W Fr Dp M T) (rn : RnO M T) (hn : fn (Fr Dp) = n) (hn2 : n < 12000) (rowR : rwC4 M0 n = (36, 0, cc, ee)) (hd : 20 ≤ d) : ∃ M' ov', StR nf d M M' ∧ RnO M' T ∧ Sim M0 T0 Sf G D nb mk rg na ng P W (updF Fr Dp (mkF (fS (Fr Dp)) (fρ (Fr Dp)) (fva (Fr Dp)) (fst' (Fr Dp)) ov' (fhs (Fr Dp)) (fit (Fr Dp)) (n + 1) (fm (Fr Dp)) (fbs (Fr Dp)) (fph (Fr Dp)) (frb (Fr Dp)) (ftb (Fr Dp)) (fie (Fr Dp)))) Dp M' T := by
  obtain ⟨w1, w2, w3, w4, w5, w6, w7, w8, w9⟩ := h.rw (n := n) (m := fm (Fr Dp))
  have hc6 : cn Sf ≤ 6000 := by have := cx.2.1; omega
  obtain ⟨ov', hs⟩ := ex_pop (n := n + 1) (m := fm (Fr Dp)) (st := []) (s0 := fst' (Fr Dp)) cx.1 hc6 h rfl h.fr.2
  rw [sI_idx (M := T) (k := 100) w7, sI_idx (M := T) (k := 105) w5, sI_idx (M := M) (k := 109) w6] at hs
  exact ⟨sI M 102 0 (nI (n + 1)), ov', StR.of (a := 36) (b := 0) (cc := cc) (ee := ee) (r1 := 0) (l1 := 0) (by rw [w4, hn]) hn2 (by rw [w1]; exact rowR) (by decide) (x_r36a (by omega)), ⟨by rw [sI_ne (by omega)]; exact rn.1, rn.2⟩, hs⟩
end SS5
