/-! both machines: STEPS: values dropped, places gone to -/
section SS1
variable {M0 T0 Sf S Sh : gSt} {G G' : GH} {D D' : Nat → (Nat → AV) × Nat} {nf d d' nb nb' mk mk' na na' ng ng' e bs ph bt rb tb ie en hb k q u s i j c t h P W Dp n m it n1 : Nat} {rg rg' : Nat → Nat} {ρ : Nat → Nat} {va : Nat → AV} {M M' T T' : gSt} {v : AV} {x a b cc ee op y z w : Int32} {st s0 st' : List Int32} {ov o0 ov' : List AV} {hs : List HD} {F : FRM} {Fr : Nat → FRM} {f : Nat → Int32} {jj : T5} {r1 : Int32} {l1 : Int64} {tg : List Nat}
variable {n' m' nx mx nw : Nat}
/-- values less on the stack, other places -/
theorem ex_pop (hR : Rws Sf) (hc : cn Sf ≤ 6000) (h : Sim M0 T0 Sf G D nb mk rg na ng P W Fr Dp M T) (hst : fst' (Fr Dp) = st ++ s0) (hI : IvP Sf (fit (Fr Dp)) (fS (Fr Dp)) s0 (fhs (Fr Dp))) : ∃ ov', Sim M0 T0 Sf G D nb mk rg na ng P W (updF Fr Dp (mkF (fS (Fr Dp)) (fρ (Fr Dp)) (fva (Fr Dp)) s0 ov' (fhs (Fr Dp)) (fit (Fr Dp)) n m (fbs (Fr Dp)) (fph (Fr Dp)) (frb (Fr Dp)) (ftb (Fr Dp)) (fie (Fr Dp)))) Dp (sI (sI M 109 0 (nI (fph (Fr Dp) + s0.length))) 102 0 (nI n)) (sI (sI T 100 0 (nI (fbs (Fr Dp) + 80 + wsl Sf s0))) 105 0 (nI m)) := by
  have oM : ∀ k, k ≠ 102 → k ≠ 109 → (sI (sI M 109 0 (nI (fph (Fr Dp) + s0.length))) 102 0 (nI n)).1 k = M.1 k := fun k k1 k2 => by rw [sI_ne k1, sI_ne k2]
  have oT : ∀ k, k ≠ 100 → k ≠ 105 → (sI (sI T 100 0 (nI (fbs (Fr Dp) + 80 + wsl Sf s0))) 105 0 (nI m)).1 k = T.1 k := fun k k1 k2 => by rw [sI_ne k2, sI_ne k1]
  obtain ⟨w, i1, i2, i3, i4⟩ := h.2.2.2.2.1
  exact Sim.ex hR hc h (h.1.eq (fun k hk => oM k (by omega) (by omega)) (fun k k1 k2 => oT k (by omega) (by omega))) (fun _ _ => rfl) (Nat.le_refl _) h.2.2.2.2.2.2.2 hst hI (fun k hk => oM k (by omega) (by omega)) rfl (fun k q k1 k2 _ => by rw [oM k (by omega) (by omega)]) (fun k hk => oT k (by omega) (by omega)) (oT 121 (by omega) (by omega)) rfl (fun q _ => by rw [oT 99 (by omega) (by omega)]) ⟨w, by rw [oM 150 (by omega) (by omega)]; exact i1, by rw [oT 111 (by omega) (by omega)]; exact i2, i3, by rw [oM 151 (by omega) (by omega), oT 110 (by omega) (by omega)]; exact i4⟩ (fun o0 _ e4 => ⟨o0, e4⟩) (by rw [sI_ne (by omega), sI_v]) (by rw [sI_ne (by omega), sI_v]) (by rw [sI_v]) (by rw [sI_v])
/-- the reference goes elsewhere -/
theorem st_goR (cx : CxP M0 T0 Sf) (h : Sim M0 T0 Sf G D nb mk rg na ng P W Fr Dp M T) (rn : RnO M T) (hn : fn (Fr Dp) = n) (hn2 : n < 12000) (rowR : rwC4 M0 n = (27, nI nx, cc, ee)) (hd : 20 ≤ d) : ∃ M' ov', StR nf d M M' ∧ RnO M' T ∧ Sim M0 T0 Sf G D nb mk rg na ng P W (updF Fr Dp (mkF (fS (Fr Dp)) (fρ (Fr Dp)) (fva (Fr Dp)) (fst' (Fr Dp)) ov' (fhs (Fr Dp)) (fit (Fr Dp)) nx (fm (Fr Dp)) (fbs (Fr Dp)) (fph (Fr Dp)) (frb (Fr Dp)) (ftb (Fr Dp)) (fie (Fr Dp)))) Dp M' T := by
  obtain ⟨w1, w2, w3, w4, w5, w6, w7, w8, w9⟩ := h.rw (n := n) (m := fm (Fr Dp))
  have hc6 : cn Sf ≤ 6000 := by have := cx.2.1; omega
  obtain ⟨ov', hs⟩ := ex_pop (n := nx) (m := fm (Fr Dp)) (st := []) (s0 := fst' (Fr Dp)) cx.1 hc6 h rfl h.fr.2
  rw [sI_idx (M := T) (k := 100) w7, sI_idx (M := T) (k := 105) w5, sI_idx (M := M) (k := 109) w6] at hs
  refine ⟨sI M 102 0 (nI nx), ov', StR.of (a := 27) (b := nI nx) (cc := cc) (ee := ee) (r1 := 0) (l1 := 0) (by rw [w4, hn]) hn2 (by rw [w1]; exact rowR) (by decide) ?_, ⟨by rw [sI_ne (by omega)]; exact rn.1, rn.2⟩, hs⟩
  rw [x_r27 (by omega), sI_ow]
/-- the class goes elsewhere -/
theorem st_goC (cx : CxP M0 T0 Sf) (h : Sim M0 T0 Sf G D nb mk rg na ng P W Fr Dp M T) (rn : RnO M T) (hm : fm (Fr Dp) = m) (h51 : T0.1 51 0 = nI n1) (hm2 : m < n1) (h6 : n1 ≤ 6032) (rowC : cw3 T0 m = (50, nI mx, y)) (hd' : 20 ≤ d') : ∃ T' ov', StC nf d' T T' ∧ RnO M T' ∧ Sim M0 T0 Sf G D nb mk rg na ng P W (updF Fr Dp (mkF (fS (Fr Dp)) (fρ (Fr Dp)) (fva (Fr Dp)) (fst' (Fr Dp)) ov' (fhs (Fr Dp)) (fit (Fr Dp)) (fn (Fr Dp)) mx (fbs (Fr Dp)) (fph (Fr Dp)) (frb (Fr Dp)) (ftb (Fr Dp)) (fie (Fr Dp)))) Dp M T' := by
  obtain ⟨w1, w2, w3, w4, w5, w6, w7, w8, w9⟩ := h.rw (n := fn (Fr Dp)) (m := m)
  have hc6 : cn Sf ≤ 6000 := by have := cx.2.1; omega
  obtain ⟨ov', hs⟩ := ex_pop (n := fn (Fr Dp)) (m := mx) (st := []) (s0 := fst' (Fr Dp)) cx.1 hc6 h rfl h.fr.2
  rw [sI_idx (M := T) (k := 100) w7, sI_idx (M := M) (k := 109) w6, sI_idx (M := M) (k := 102) w4] at hs
  refine ⟨sI T 105 0 (nI mx), ov', StC.of (op := 50) (x := nI mx) (y := y) (r1 := 0) (l1 := 0) (by rw [w5, hm]) (by rw [w3]; exact h51) h6 hm2 (by rw [w2]; exact rowC) (by decide) ?_, ⟨rn.1, by rw [sI_ne (by omega)]; exact rn.2⟩, hs⟩
  rw [dC_214 (by decide) (by decide) (by decide) (by decide) (by decide), c_jump (by omega), sI_ow]
/-- IF: a number -/
theorem st_if (cx : CxP M0 T0 Sf) (h : Sim M0 T0 Sf G D nb mk rg na ng P W Fr Dp M T) (rn : RnO M T) (hn : fn (Fr Dp) = n) (hm : fm (Fr Dp) = m) (hn2 : n < 12000) (h51 : T0.1 51 0 = nI n1) (hm2 : m < n1) (h6 : n1 ≤ 6032) (rowR : rwC4 M0 n = (26, nI nx, 0, ee)) (rowC : cw3 T0 m = (51, nI mx, y)) (hst : fst' (Fr Dp) = 0 :: s0) (hI : IvP Sf (fit (Fr Dp)) (fS (Fr Dp)) s0 (fhs (Fr Dp))) (hd : 20 ≤ d) (hd' : 20 ≤ d') : ∃ M' T' ov' n' m', ((n' = n + 1 ∧ m' = m + 1) ∨ (n' = nx ∧ m' = mx)) ∧ StR nf d M M' ∧ StC nf d' T T' ∧ RnO M' T' ∧ Sim M0 T0 Sf G D nb mk rg na ng P W (updF Fr Dp (mkF (fS (Fr Dp)) (fρ (Fr Dp)) (fva (Fr Dp)) s0 ov' (fhs (Fr Dp)) (fit (Fr Dp)) n' m' (fbs (Fr Dp)) (fph (Fr Dp)) (frb (Fr Dp)) (ftb (Fr Dp)) (fie (Fr Dp)))) Dp M' T' := by
  obtain ⟨w1, w2, w3, w4, w5, w6, w7, w8, w9⟩ := h.rw (n := n) (m := m)
  obtain ⟨b1, b2, b3, b4, b5⟩ := h.bd
  have hc6 : cn Sf ≤ 6000 := by have := cx.2.1; omega
  obtain ⟨v, hv, hrv, hcw⟩ := h.top hst
  obtain ⟨i1, i2⟩ := hv.i0
  have m0 : M.1 110 (fph (Fr Dp) + s0.length) = v.1 := RV_i hrv i1 i2
  have t0 : T.1 99 (fbs (Fr Dp) + 80 + wsl Sf s0) = v.1 := by
    have := hcw 0 (by rw [wv_0 i2]; omega)
    rw [CW_i i1 i2] at this
    exact this
  have l1 : (fst' (Fr Dp)).length = s0.length + 1 := by rw [hst]; rfl
  have l2 : wsl Sf (fst' (Fr Dp)) = 1 + wsl Sf s0 := by rw [hst, ← wS_0 (Sf := Sf)]; rfl
  have xr := x_r26a (M := sI M 102 0 (nI (n + 1))) (nf := nf) (d := d) (x := nI nx) (z := ee) (h := fph (Fr Dp) + s0.length) (by rw [tp_102 (by omega), w6, l1]; rfl) (by omega) (by omega)
  have xc := c_jz (T := sI T 105 0 (nI (m + 1))) (nf := nf) (d := d') (x := nI mx) (y := y) (t := fbs (Fr Dp) + 80 + wsl Sf s0) (by rw [tp_105 (by omega), w7, l2]; congr 1; omega) (by omega) (by omega)
  rw [tp_102 (by omega), m0] at xr
  rw [tp_105 (by omega), t0] at xc
  have fin : ∀ n' m', ((n' = n + 1 ∧ m' = m + 1) ∨ (n' = nx ∧ m' = mx)) → (if v.1 = 0 then sI (sI (sI M 102 0 (nI (n + 1))) 109 0 (nI (fph (Fr Dp) + s0.length))) 102 0 (nI nx) else sI (sI M 102 0 (nI (n + 1))) 109 0 (nI (fph (Fr Dp) + s0.length))) = sI (sI M 109 0 (nI (fph (Fr Dp) + s0.length))) 102 0 (nI n') → (if v.1 = 0 then sI (sI (sI T 105 0 (nI (m + 1))) 100 0 (nI (fbs (Fr Dp) + 80 + wsl Sf s0))) 105 0 (nI mx) else sI (sI T 105 0 (nI (m + 1))) 100 0 (nI (fbs (Fr Dp) + 80 + wsl Sf s0))) = sI (sI T 100 0 (nI (fbs (Fr Dp) + 80 + wsl Sf s0))) 105 0 (nI m') → ∃ M' T' ov' n' m', ((n' = n + 1 ∧ m' = m + 1) ∨ (n' = nx ∧ m' = mx)) ∧ StR nf d M M' ∧ StC nf d' T T' ∧ RnO M' T' ∧ Sim M0 T0 Sf G D nb mk rg na ng P W (updF Fr Dp (mkF (fS (Fr Dp)) (fρ (Fr Dp)) (fva (Fr Dp)) s0 ov' (fhs (Fr Dp)) (fit (Fr Dp)) n' m' (fbs (Fr Dp)) (fph (Fr Dp)) (frb (Fr Dp)) (ftb (Fr Dp)) (fie (Fr Dp)))) Dp M' T' := fun n' m' hc e1 e2 => by
    rw [e1] at xr
    rw [e2] at xc
    obtain ⟨ov', hs⟩ := ex_pop (n := n') (m := m') (st := [0]) (s0 := s0) cx.1 hc6 h hst hI
    exact ⟨_, _, ov', n', m', hc, StR.of (by rw [w4, hn]) hn2 (by rw [w1]; exact rowR) (by decide) xr, StC.of (op := 51) (x := nI mx) (y := y) (r1 := 0) (l1 := 0) (by rw [w5, hm]) (by rw [w3]; exact h51) h6 hm2 (by rw [w2]; exact rowC) (by decide) (by rw [dC_214 (by decide) (by decide) (by decide) (by decide) (by decide)]; exact xc), ⟨by rw [sI_ne (by omega), sI_ne (by omega)]; exact rn.1, by rw [sI_ne (by omega), sI_ne (by omega)]; exact rn.2⟩, hs⟩
  by_cases z : v.1 = 0
  · refine fin nx mx (Or.inr ⟨rfl, rfl⟩) ?_ ?_
    · rw [if_pos z, sI_cc (g := 102) (h := 109) (by omega), sI_ow]
    · rw [if_pos z, sI_cc (g := 105) (h := 100) (by omega), sI_ow]
  · refine fin (n + 1) (m + 1) (Or.inl ⟨rfl, rfl⟩) ?_ ?_
    · rw [if_neg z, sI_cc (g := 102) (h := 109) (by omega)]
    · rw [if_neg z, sI_cc (g := 105) (h := 100) (by omega)]
/-- a value that is not wanted -/
theorem st_drop (cx : CxP M0 T0 Sf) (h : Sim M0 T0 Sf G D nb mk rg na ng P W Fr Dp M T) (rn : RnO M T) (hn : fn (Fr Dp) = n) (hm : fm (Fr Dp) = m) (hn2 : n < 12000) (h51 : T0.1 51 0 = nI n1) (hm2 : m < n1) (h6 : n1 ≤ 6032) (rowR : rwC4 M0 n = (36, 1, cc, ee)) (rowC : cw3 T0 m = (5, nI nw, y)) (hst : fst' (Fr Dp) = x :: s0) (hw : nw = wS Sf x) (hI : IvP Sf (fit (Fr Dp)) (fS (Fr Dp)) s0 (fhs (Fr Dp))) (hd : 20 ≤ d) (hd' : 20 ≤ d') : ∃ M' T' ov', StR nf d M M' ∧ StC nf d' T T' ∧ RnO M' T' ∧ Sim M0 T0 Sf G D nb mk rg na ng P W (updF Fr Dp (mkF (fS (Fr Dp)) (fρ (Fr Dp)) (fva (Fr Dp)) s0 ov' (fhs (Fr Dp)) (fit (Fr Dp)) (n + 1) (m + 1) (fbs (Fr Dp)) (fph (Fr Dp)) (frb (Fr Dp)) (ftb (Fr Dp)) (fie (Fr Dp)))) Dp M' T' := by
  obtain ⟨w1, w2, w3, w4, w5, w6, w7, w8, w9⟩ := h.rw (n := n) (m := m)
  obtain ⟨b1, b2, b3, b4, b5⟩ := h.bd
  have hc6 : cn Sf ≤ 6000 := by have := cx.2.1; omega
  have l1 : (fst' (Fr Dp)).length = s0.length + 1 := by rw [hst]; rfl
  have l2 : wsl Sf (fst' (Fr Dp)) = nw + wsl Sf s0 := by rw [hst, hw]; rfl
  have xr := x_r36b (M := sI M 102 0 (nI (n + 1))) (nf := nf) (d := d) (y := cc) (z := ee) (h := fph (Fr Dp) + s0.length) (by rw [tp_102 (by omega), w6, l1]; rfl) (by omega) (by omega)
  have xc := c_drop (T := sI T 105 0 (nI (m + 1))) (nf := nf) (d := d') (y := y) (n := nw) (t := fbs (Fr Dp) + 80 + wsl Sf s0) (by rw [tp_105 (by omega), w7, l2]; congr 1; omega) (by omega) (by omega)
  obtain ⟨ov', hs⟩ := ex_pop (n := n + 1) (m := m + 1) (st := [x]) (s0 := s0) cx.1 hc6 h hst hI
  rw [sI_cc (g := 102) (h := 109) (by omega)] at xr
  rw [sI_cc (g := 105) (h := 100) (by omega)] at xc
  exact ⟨_, _, ov', StR.of (by rw [w4, hn]) hn2 (by rw [w1]; exact rowR) (by decide) xr, StC.of (op := 5) (x := nI nw) (y := y) (r1 := 0) (l1 := 0) (by rw [w5, hm]) (by rw [w3]; exact h51) h6 hm2 (by rw [w2]; exact rowC) (by decide) (by rw [dC_203 (by decide)]; exact xc), ⟨by rw [sI_ne (by omega), sI_ne (by omega)]; exact rn.1, by rw [sI_ne (by omega), sI_ne (by omega)]; exact rn.2⟩, hs⟩
end SS1
