/-! both machines: a call ends -/
section BK1
variable {M0 T0 Sf S Sh : gSt} {G G' : GH} {D D' : Nat → (Nat → AV) × Nat} {nf d d' nb nb' mk mk' na na' ng ng' e bs ph bt rb tb ie en hb k q u s i j c t h P W Dp n m it n1 : Nat} {rg rg' : Nat → Nat} {ρ : Nat → Nat} {va : Nat → AV} {M M' T T' : gSt} {v : AV} {x a b cc ee op y z w : Int32} {st s0 st' : List Int32} {ov o0 ov' : List AV} {hs : List HD} {F : FRM} {Fr : Nat → FRM} {f : Nat → Int32} {jj : T5} {r1 : Int32} {l1 : Int64} {tg : List Nat}
theorem HsO.at : ∀ (hs : List HD), HsO Sf G nb rg na ng ρ va M T e bs ph rb tb hs → ∀ i, i < hs.length → M.1 125 (tb + i) = nI (e + 1) := by
  intro hs
  induction hs with
  | nil => intro _ i hi; exact absurd hi (Nat.not_lt_zero _)
  | cons x hs ih =>
    intro h i hi
    rw [List.length_cons] at hi
    by_cases z : i = hs.length
    · rw [z]; exact h.1.2.1
    · exact ih h.2.2 i (by omega)
/-- BACK, from a fun to its caller -/
theorem bk_sim (cx : CxP M0 T0 Sf) (h : Sim M0 T0 Sf G D nb mk rg na ng P W Fr (Dp + 1) M T) (rn : RnO M T) (hn : fn (Fr (Dp + 1)) = n) (hm : fm (Fr (Dp + 1)) = m) (hn2 : n < 12000) (h51 : T0.1 51 0 = nI n1) (hm2 : m < n1) (h6 : n1 ≤ 6032) (rowR : rwC4 M0 n = (28, b, cc, ee)) {nw : Nat} (rowC : cw3 T0 m = (58, nI nw, y)) (hres : (fst' (Fr (Dp + 1)) = [] ∧ nw = 0 ∧ st' = fst' (Fr Dp)) ∨ ∃ t1 x1, fst' (Fr (Dp + 1)) = [t1] ∧ nw = wS Sf t1 ∧ st' = x1 :: fst' (Fr Dp) ∧ ∀ v, VTs Sf G nb rg na ng (fρ (Fr (Dp + 1))) v t1 → VTs Sf G nb rg na ng (fρ (Fr Dp)) v x1) (hI : IvP Sf (fit (Fr Dp)) (fS (Fr Dp)) st' (fhs (Fr Dp))) (hnf : 16385 ≤ nf) (hd : 20 ≤ d) (hd' : 20 ≤ d') : ∃ M' T' ov', StR nf d M M' ∧ StC nf d' T T' ∧ RnO M' T' ∧ Sim M0 T0 Sf G D nb mk rg (frb (Fr (Dp + 1))) ng P W (updF Fr Dp (mkF (fS (Fr Dp)) (fρ (Fr Dp)) (fva (Fr Dp)) st' ov' (fhs (Fr Dp)) (fit (Fr Dp)) (fn (Fr Dp)) (fm (Fr Dp)) (fbs (Fr Dp)) (fph (Fr Dp)) (frb (Fr Dp)) (ftb (Fr Dp)) (fie (Fr Dp)))) Dp M' T' := by
  have hS := h
  obtain ⟨w1, w2, w3, w4, w5, w6, w7, w8, w9⟩ := h.rw (n := n) (m := m)
  obtain ⟨b1, b2, b3, b4, b5⟩ := h.bd
  obtain ⟨fr, iv⟩ := h.fr
  have hc6 : cn Sf ≤ 6000 := by have := cx.2.1; omega
  obtain ⟨a1, ⟨a2, a3, a4⟩, a5, a6, a7, a8, a9, a10⟩ := h
  have F5 := a5
  obtain ⟨q1, q2, q3⟩ := a5
  obtain ⟨y1, y2, y3, y4, y5, y6, y7⟩ := a6
  obtain ⟨g1, g2, g3, g4, g5, g6, g7⟩ := a1.1
  obtain ⟨l1, l2, l3, l4, l5, l6⟩ := q2 Dp (by omega)
  obtain ⟨f1, f2, f3, f4, f5, f6, f7, f8, f9⟩ := fr
  have rb1 : 1 ≤ frb (Fr (Dp + 1)) := f3.1.2.2.2.2.1
  have Rn : frb (Fr (Dp + 1)) ≤ na := by omega
  obtain ⟨frD, ivD⟩ := q1 Dp (by omega)
  have lw : wsl Sf (fst' (Fr (Dp + 1))) = nw := by
    rcases hres with ⟨z1, z2, _⟩ | ⟨t1, x1, z1, z2, _⟩
    · rw [z1, z2]; rfl
    · rw [z1, z2]; exact Nat.add_zero _
  have nw3 : nw ≤ 3 := by
    rcases hres with ⟨z1, z2, _⟩ | ⟨t1, x1, z1, z2, _⟩
    · omega
    · rw [z2]; exact wS_3
  -- both close
  have hH1 : HpI G D nb mk rg na ng P W (sI (sI (sI M 102 0 (nI (n + 1))) 103 0 (nI (Dp + 1))) 123 0 (nI (ftb (Fr (Dp + 1))))) (lvM (sI T 105 0 (nI (m + 1))) (fbs (Fr (Dp + 1))) (fbs (Fr (Dp + 1)) + 80) nw) := a1.eq (fun k hk => by rw [sI_ne (by omega), sI_ne (by omega), sI_ne (by omega)]) (fun k k1 k2 => by
    unfold lvM
    rw [sI_ne (by omega), slQ_o (by omega), sI_ne (by omega)])
  obtain ⟨rr, ll, V, V', cl1, cl2, hV, v1, v2, v3, v4, v5, v6⟩ := cl_both (nf := nf) (d := d - 2) (d' := d' - 2) hH1 rb1 Rn hnf (by omega) (by omega)
  have mz : ∀ k, k ≠ 102 → k ≠ 103 → k ≠ 123 → k ≠ 129 → k ≠ 132 → k ≠ 136 → k ≠ 138 → k ≠ 143 → k ≠ 149 → V.1 k = M.1 k := fun k k1 k2 k3 k4 k5 k6 k7 k8 k9 => by
    rw [v1 k k4 k5 k6 k7 k8 k9, sI_ne k3, sI_ne k2, sI_ne k1]
  have tz : ∀ k, k ≠ 99 → k ≠ 100 → k ≠ 105 → k ≠ 116 → k ≠ 119 → k ≠ 122 → V'.1 k = T.1 k := fun k k1 k2 k3 k4 k5 k6 => by
    rw [v4 k k4 k5 k6]
    unfold lvM
    rw [sI_ne k2, slQ_o k1, sI_ne k3]
  have V103 : V.1 103 0 = nI (Dp + 1) := by
    rw [v1 103 (by omega) (by omega) (by omega) (by omega) (by omega) (by omega), sI_ne (by omega), sI_v]
  have V123 : V.1 123 0 = nI (ftb (Fr (Dp + 1))) := by
    rw [v1 123 (by omega) (by omega) (by omega) (by omega) (by omega) (by omega), sI_v]
  have e114 : (sI M 102 0 (nI (n + 1))).1 114 (Dp + 1) = nI (fn (Fr Dp)) := by rw [sI_ne (by omega)]; exact l5
  have e116 : (sI M 102 0 (nI (n + 1))).1 116 (Dp + 1) = nI (frb (Fr (Dp + 1))) := by rw [sI_ne (by omega)]; exact f9
  have xr := x_back (M := sI M 102 0 (nI (n + 1))) (nf := nf) (d := d) (x := b) (y := cc) (z := ee) (e := Dp + 1) (tb := ftb (Fr (Dp + 1))) (j := (fhs (Fr (Dp + 1))).length) (V := V) (r1 := rr) (l1 := ll) (by rw [tp_102 (by omega)]; exact w8) (by omega) (by rw [tp_102 (by omega)]; exact y4) (by omega) (fun i hi => by
    rw [tp_102 (by omega)]
    exact HsO.at _ f5 i hi) (by
    cases z : ftb (Fr (Dp + 1)) with
    | zero => exact Or.inl rfl
    | succ K =>
      have FD : FsO Sf G nb rg na ng Fr Dp M T := ⟨fun e he => q1 e (by omega), fun e he => q2 e (by omega), q3⟩
      obtain ⟨E, hh, tl, z1, z2, z3⟩ := FD.tr (K := K) Dp 0 (by omega) Dp (Nat.le_refl _) (by rw [← l4]; exact z) rfl
      obtain ⟨fE, _⟩ := q1 E (by omega)
      have f5E := fE.2.2.2.2.1
      rw [z2] at f5E
      refine Or.inr ⟨E + 1, ?_, by omega⟩
      rw [Nat.add_sub_cancel, tp_102 (by omega), ← z3]
      exact f5E.1.2.1) (by omega) (by omega) (by rw [e116]; exact cl1) V103 (by rw [mz 114 (by omega) (by omega) (by omega) (by omega) (by omega) (by omega) (by omega) (by omega) (by omega), sI_ne (by omega)])
  rw [if_neg (by omega), e114] at xr
  have e101 : (sI T 105 0 (nI (m + 1))).1 101 = T.1 101 := sI_ne (by omega)
  have xc := c_leaveI (T := sI T 105 0 (nI (m + 1))) (nf := nf) (d := d') (y := y) (t := fbs (Fr (Dp + 1)) + 80) (n := nw) (c := Dp + 1) (b := fbs (Fr (Dp + 1))) (V := V') (by rw [tp_105 (by omega), w7, lw]) (by rw [tp_105 (by omega)]; exact w9) (by omega) (by rw [e101]; exact f6) (by omega) (by omega) (by omega) (by omega) (by omega) (by rw [e101, f7]; exact cl2) (by rw [tz 101 (by omega) (by omega) (by omega) (by omega) (by omega) (by omega), e101]) (by rw [v4 102 (by omega) (by omega) (by omega)]; unfold lvM; rw [sI_ne (by omega), slQ_o (by omega)])
  rw [if_neg (by omega)] at xc
  have tN : ∀ k, k ≠ 104 → k ≠ 105 → k ≠ 102 → (lvN V' (Dp + 1)).1 k = V'.1 k := fun k k1 k2 k3 => by
    unfold lvN
    rw [sI_ne k3, sI_ne k2, sI_ne k1]
  have tS : ∀ k, k ≠ 99 → k ≠ 100 → k ≠ 102 → k ≠ 104 → k ≠ 105 → k ≠ 116 → k ≠ 119 → k ≠ 122 → (lvN V' (Dp + 1)).1 k = T.1 k := fun k k1 k2 k3 k4 k5 k6 k7 k8 => by
    rw [tN k k4 k5 k3, tz k k1 k2 k5 k6 k7 k8]
  have V101 : V'.1 101 = T.1 101 := tz 101 (by omega) (by omega) (by omega) (by omega) (by omega) (by omega)
  have t104 : (lvN V' (Dp + 1)).1 104 0 = nI (ftb (Fr (Dp + 1))) := by
    unfold lvN
    rw [sI_ne (by omega), sI_ne (by omega), sI_v, V101]
    exact f8
  have t105 : (lvN V' (Dp + 1)).1 105 0 = nI (fm (Fr Dp)) := by
    unfold lvN
    rw [sI_ne (by omega), sI_v, V101]
    exact l6
  have t102 : (lvN V' (Dp + 1)).1 102 0 = nI (Dp + 1) := by
    unfold lvN
    rw [sI_v]
  have t100 : (lvN V' (Dp + 1)).1 100 0 = nI (fbs (Fr (Dp + 1)) + nw) := by
    rw [tN 100 (by omega) (by omega) (by omega), v4 100 (by omega) (by omega) (by omega)]
    unfold lvM
    rw [sI_v]
  have t99 : ∀ q, (lvN V' (Dp + 1)).1 99 q = if fbs (Fr (Dp + 1)) ≤ q ∧ q < fbs (Fr (Dp + 1)) + nw then T.1 99 (fbs (Fr (Dp + 1)) + 80 + (q - fbs (Fr (Dp + 1)))) else T.1 99 q := fun q => by
    rw [tN 99 (by omega) (by omega) (by omega), v4 99 (by omega) (by omega) (by omega)]
    unfold lvM
    rw [sI_ne (by omega), slQ_w, sI_ne (by omega), Nat.add_zero]
  have mO : ∀ k, k ≠ 102 → (sI V 102 0 (nI (fn (Fr Dp)))).1 k = V.1 k := fun k k1 => sI_ne k1
  have mS : ∀ k, k ≠ 102 → k ≠ 103 → k ≠ 123 → ¬ (129 ≤ k ∧ k ≤ 149) → (sI V 102 0 (nI (fn (Fr Dp)))).1 k = M.1 k := fun k k1 k2 k3 k4 => by
    rw [mO k k1, mz k k1 k2 k3 (by omega) (by omega) (by omega) (by omega) (by omega) (by omega)]
  have ho : ∀ r s, ot rg na ng r s → ot rg (frb (Fr (Dp + 1))) ng r s := fun r s w => w.cl g5 Rn
  have hG : ∀ b, b ≤ nb → G b = G b := fun _ _ => rfl
  have low : ∀ q, q < fbs (Fr (Dp + 1)) → (lvN V' (Dp + 1)).1 99 q = T.1 99 q := fun q hq => by rw [t99, if_neg (by omega)]
  have mg : ∀ e, e ≤ Dp → FrO Sf G nb rg (frb (Fr (Dp + 1))) ng (sI V 102 0 (nI (fn (Fr Dp)))) (lvN V' (Dp + 1)) e (Fr e) := fun e he => by
    obtain ⟨z1, z2⟩ := q1 e (by omega)
    obtain ⟨_, _, _, _, l5'⟩ := F5.le (Dp + 1 - e) e (by omega)
    obtain ⟨l6', l7', l8', l9'⟩ := l5' (by omega)
    exact z1.mq cx.1 hc6 (fun x hx => (z2.2.2.2.1 x hx).imp id (fun w => w.1)) ho (by rw [mS 116 (by omega) (by omega) (by omega) (by omega)]) (fun k s k1 k2 _ => by rw [mS k (by omega) (by omega) (by omega) (by omega)]) (fun c _ => by rw [mS 121 (by omega) (by omega) (by omega) (by omega)]) (fun k hk => by rw [mS 122 (by omega) (by omega) (by omega) (by omega)]) (fun k q k1 k2 _ => by rw [mS k (by omega) (by omega) (by omega) (by omega)]) (fun k q k1 k2 _ => by rw [mS k (by omega) (by omega) (by omega) (by omega)]) (fun w _ => by rw [tS 101 (by omega) (by omega) (by omega) (by omega) (by omega) (by omega) (by omega) (by omega)]) (fun q _ => by rw [tS 103 (by omega) (by omega) (by omega) (by omega) (by omega) (by omega) (by omega) (by omega)]) (fun q hq => low q (by omega))
  -- the caller's values
  have vals : ∃ ov', OpV Sf G nb rg (frb (Fr (Dp + 1))) ng (fρ (Fr Dp)) (sI V 102 0 (nI (fn (Fr Dp)))) (lvN V' (Dp + 1)) (fph (Fr Dp)) (fbs (Fr Dp) + 80) st' ov' ∧ fph (Fr Dp) + st'.length = fph (Fr (Dp + 1)) + (fst' (Fr (Dp + 1))).length ∧ fbs (Fr Dp) + 80 + wsl Sf st' = fbs (Fr (Dp + 1)) + nw := by
    have opD := (mg Dp (Nat.le_refl _)).2.1
    rcases hres with ⟨z1, z2, z3⟩ | ⟨t1, x1, z1, z2, z3, z4⟩
    · rw [z3, z1, z2]
      exact ⟨_, opD, by rw [l2]; rfl, by rw [l1]; rfl⟩
    · rw [z1] at f2
      obtain ⟨v, hv, hrv, hcw⟩ := hS.top z1
      have wi := VTs.wi cx.1 hc6 ((iv.2.2.2.1 t1 (by rw [z1]; exact List.mem_cons_self)).imp id (fun w => w.1)) hv
      have hv2 := z4 v hv
      have wi2 := VTs.wi cx.1 hc6 ((hI.2.2.2.1 x1 (by rw [z3]; exact List.mem_cons_self)).imp id (fun w => w.1)) hv2
      rw [z3]
      refine ⟨v :: fov (Fr Dp), ⟨hv2.mo hG (Nat.le_refl _) ho, ?_, fun i hi => ?_, opD⟩, ?_, ?_⟩
      · rw [mS 110 (by omega) (by omega) (by omega) (by omega), mS 111 (by omega) (by omega) (by omega) (by omega), mS 112 (by omega) (by omega) (by omega) (by omega), mS 113 (by omega) (by omega) (by omega) (by omega), ← l2]
        exact hrv
      · rw [t99, ← l1, if_pos (by omega), Nat.add_sub_cancel_left]
        exact hcw i hi
      · rw [z1, l2, List.length_cons]
        show _ = fph (Fr Dp) + (fst' (Fr Dp)).length + 1
        omega
      · rw [l1, z2, show wsl Sf (x1 :: fst' (Fr Dp)) = wS Sf x1 + wsl Sf (fst' (Fr Dp)) from rfl]
        omega
  obtain ⟨ov', opN, hl1, hl2⟩ := vals
  have uN : (updF Fr Dp (mkF (fS (Fr Dp)) (fρ (Fr Dp)) (fva (Fr Dp)) st' ov' (fhs (Fr Dp)) (fit (Fr Dp)) (fn (Fr Dp)) (fm (Fr Dp)) (fbs (Fr Dp)) (fph (Fr Dp)) (frb (Fr Dp)) (ftb (Fr Dp)) (fie (Fr Dp)))) Dp = (mkF (fS (Fr Dp)) (fρ (Fr Dp)) (fva (Fr Dp)) st' ov' (fhs (Fr Dp)) (fit (Fr Dp)) (fn (Fr Dp)) (fm (Fr Dp)) (fbs (Fr Dp)) (fph (Fr Dp)) (frb (Fr Dp)) (ftb (Fr Dp)) (fie (Fr Dp))) := if_pos rfl
  have uE : ∀ e, ¬ e = Dp → (updF Fr Dp (mkF (fS (Fr Dp)) (fρ (Fr Dp)) (fva (Fr Dp)) st' ov' (fhs (Fr Dp)) (fit (Fr Dp)) (fn (Fr Dp)) (fm (Fr Dp)) (fbs (Fr Dp)) (fph (Fr Dp)) (frb (Fr Dp)) (ftb (Fr Dp)) (fie (Fr Dp)))) e = Fr e := fun e he => if_neg he
  refine ⟨(sI V 102 0 (nI (fn (Fr Dp)))), (lvN V' (Dp + 1)), ov', StR.of (by rw [w4, hn]) hn2 (by rw [w1]; exact rowR) (by decide) xr, StC.of (op := 58) (x := nI nw) (y := y) (r1 := 0) (l1 := 0) (by rw [w5, hm]) (by rw [w3]; exact h51) h6 hm2 (by rw [w2]; exact rowC) (by decide) (by rw [dC_214 (by decide) (by decide) (by decide) (by decide) (by decide)]; exact xc), ⟨by rw [mS 100 (by omega) (by omega) (by omega) (by omega)]; exact rn.1, by rw [tS 106 (by omega) (by omega) (by omega) (by omega) (by omega) (by omega) (by omega) (by omega)]; exact rn.2⟩, hV.eq (fun k hk => mO k (by omega)) (fun k k1 k2 => tN k (by omega) (by omega) (by omega)), ⟨by omega, by rw [mO 103 (by omega)]; exact V103, t102⟩, ⟨fun e he => ?_, fun e he => ?_, ?_⟩, ?_, ?_, ?_, ?_, a10⟩
  · by_cases z : e = Dp
    · rw [z, uN]
      have m0 := mg Dp (Nat.le_refl _)
      exact ⟨⟨m0.1, opN, m0.2.2⟩, hI⟩
    · rw [uE e z]
      exact ⟨mg e he, (q1 e (by omega)).2⟩
  · obtain ⟨l1', l2', l3', l4', l5', l6'⟩ := q2 e (by omega)
    rw [uE e (by omega)]
    unfold LnO
    rw [mS 114 (by omega) (by omega) (by omega) (by omega), tS 101 (by omega) (by omega) (by omega) (by omega) (by omega) (by omega) (by omega) (by omega)]
    by_cases c3 : e + 1 = Dp
    · rw [c3, uN]
      rw [c3] at l1' l2' l3' l4' l5'
      exact ⟨l1', l2', l3', l4', l5', l6'⟩
    · rw [uE (e + 1) c3]
      exact ⟨l1', l2', l3', l4', l5', l6'⟩
  · by_cases c2 : 0 = Dp
    · rw [show (updF Fr Dp (mkF (fS (Fr Dp)) (fρ (Fr Dp)) (fva (Fr Dp)) st' ov' (fhs (Fr Dp)) (fit (Fr Dp)) (fn (Fr Dp)) (fm (Fr Dp)) (fbs (Fr Dp)) (fph (Fr Dp)) (frb (Fr Dp)) (ftb (Fr Dp)) (fie (Fr Dp)))) 0 = (updF Fr Dp (mkF (fS (Fr Dp)) (fρ (Fr Dp)) (fva (Fr Dp)) st' ov' (fhs (Fr Dp)) (fit (Fr Dp)) (fn (Fr Dp)) (fm (Fr Dp)) (fbs (Fr Dp)) (fph (Fr Dp)) (frb (Fr Dp)) (ftb (Fr Dp)) (fie (Fr Dp)))) Dp from congrArg _ c2, uN]
      rw [show Fr 0 = Fr Dp from congrArg Fr c2] at q3
      exact q3
    · rw [uE 0 c2]
      exact q3
  · rw [uN]
    refine ⟨?_, ?_, l3, ?_, ?_, by rw [sI_v]; rfl, t105⟩
    · rw [mS 109 (by omega) (by omega) (by omega) (by omega)]
      show _ = nI (fph (Fr Dp) + st'.length)
      rw [hl1]
      exact y1
    · show _ = nI (fbs (Fr Dp) + 80 + wsl Sf st')
      rw [hl2]
      exact t100
    · rw [mO 123 (by omega), V123, l4]
      rfl
    · rw [t104, l4]
      rfl
  · obtain ⟨w, i1, i2, i3, i4⟩ := a7
    exact ⟨w, by rw [mS 150 (by omega) (by omega) (by omega) (by omega)]; exact i1, by rw [tS 111 (by omega) (by omega) (by omega) (by omega) (by omega) (by omega) (by omega) (by omega)]; exact i2, i3, by rw [mS 151 (by omega) (by omega) (by omega) (by omega), tS 110 (by omega) (by omega) (by omega) (by omega) (by omega) (by omega) (by omega) (by omega)]; exact i4⟩
  · obtain ⟨k1, ⟨p, k2, k3, k4, k5⟩, k6, k7, k8, k9⟩ := a8
    exact ⟨by rw [mS 101 (by omega) (by omega) (by omega) (by omega), tS 108 (by omega) (by omega) (by omega) (by omega) (by omega) (by omega) (by omega) (by omega)]; exact k1, ⟨p, by rw [mS 104 (by omega) (by omega) (by omega) (by omega)]; exact k2, by rw [tS 113 (by omega) (by omega) (by omega) (by omega) (by omega) (by omega) (by omega) (by omega)]; exact k3, k4, by rw [mS 152 (by omega) (by omega) (by omega) (by omega), tS 112 (by omega) (by omega) (by omega) (by omega) (by omega) (by omega) (by omega) (by omega)]; exact k5⟩, by rw [mS 106 (by omega) (by omega) (by omega) (by omega), tS 109 (by omega) (by omega) (by omega) (by omega) (by omega) (by omega) (by omega) (by omega)]; exact k6, by rw [mS 107 (by omega) (by omega) (by omega) (by omega)]; exact k7, by rw [tS 121 (by omega) (by omega) (by omega) (by omega) (by omega) (by omega) (by omega) (by omega)]; exact k8, fun q hq => by rw [mS 115 (by omega) (by omega) (by omega) (by omega), tS 101 (by omega) (by omega) (by omega) (by omega) (by omega) (by omega) (by omega) (by omega)]; exact k9 q hq⟩
  · obtain ⟨k1, k2, k3, k4⟩ := a9
    exact ⟨fun k hk => by rw [mS k (by omega) (by omega) (by omega) (by omega)]; exact k1 k hk, (show V.2 = M0.2 from v2.trans k2), fun k hk => by rw [tS k (by omega) (by omega) (by omega) (by omega) (by omega) (by omega) (by omega) (by omega)]; exact k3 k hk, (show V'.2 = T0.2 from v5.trans k4)⟩
end BK1
