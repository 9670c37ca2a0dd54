/-! both machines: OUT -/
section SS4
variable {M0 T0 Sf S Sh : gSt} {G G' : GH} {D D' : Nat → (Nat → AV) × Nat} {nf d d' nb nb' mk mk' na na' ng ng' e bs ph bt rb tb ie en hb k q u s i j c t h P W Dp n m it n1 : Nat} {rg rg' : Nat → Nat} {ρ : Nat → Nat} {va : Nat → AV} {M M' T T' : gSt} {v : AV} {x a b cc ee op y z w : Int32} {st s0 st' : List Int32} {ov o0 ov' : List AV} {hs : List HD} {F : FRM} {Fr : Nat → FRM} {f : Nat → Int32} {jj : T5} {r1 : Int32} {l1 : Int64} {tg : List Nat}
theorem ou_o {p : Nat} (h1 : k ≠ 104) (h2 : k ≠ 152) : (ouM M p x).1 k = M.1 k := by
  unfold ouM
  split
  · rw [sI_ne h1, sI_ne h2]
  · rw [sI_ne h1]
theorem ou_c {p : Nat} (h : M.1 104 0 = nI p) : (ouM M p x).1 104 0 = nI (p + 1) := by
  unfold ouM
  rw [sI_v, h, nI_1]
theorem ou_v {p : Nat} (hj : j < 300) : (ouM M p x).1 152 j = if j = p then x else M.1 152 j := by
  unfold ouM
  rw [sI_ne (by omega)]
  by_cases c : p < 300
  · rw [if_pos c, rdI]
    by_cases z : j = p
    · rw [if_pos ⟨rfl, z⟩, if_pos z]
    · rw [if_neg (fun w => z w.2), if_neg z]
  · rw [if_neg c, if_neg (by omega)]
theorem pk_o {p : Nat} (h1 : k ≠ 112) (h2 : k ≠ 113) : (pkT T p x).1 k = T.1 k := by
  unfold pkT
  split
  · rw [sI_ne h2, sI_ne h1]
  · rw [sI_ne h2]
theorem pk_c {p : Nat} (h : T.1 113 0 = nI p) : (pkT T p x).1 113 0 = nI (p + 1) := by
  unfold pkT
  rw [sI_v, h, nI_1]
theorem pk_v {p : Nat} (hj : j < 300) : (pkT T p x).1 112 j = if j = p then x else T.1 112 j := by
  unfold pkT
  rw [sI_ne (by omega)]
  by_cases c : p < 300
  · rw [if_pos c, rdI]
    by_cases z : j = p
    · rw [if_pos ⟨rfl, z⟩, if_pos z]
    · rw [if_neg (fun w => z w.2), if_neg z]
  · rw [if_neg c, if_neg (by omega)]
theorem ou_2 {p : Nat} : (ouM M p x).2 = M.2 := by unfold ouM; split <;> rfl
theorem pk_2 {p : Nat} : (pkT T p x).2 = T.2 := by unfold pkT; split <;> rfl
theorem st_out (cx : CxP M0 T0 Sf) (h : Sim M0 T0 Sf G D nb mk rg na ng P W Fr Dp M T) (rn : RnO M T) (hn : fn (Fr Dp) = n) (hm : fm (Fr Dp) = m) (hn2 : n < 12000) (h51 : T0.1 51 0 = nI n1) (hm2 : m < n1) (h6 : n1 ≤ 6032) (rowR : rwC4 M0 n = (29, b, cc, ee)) (rowC : cw3 T0 m = (7, x, y)) (hst : fst' (Fr Dp) = 0 :: s0) (hI : IvP Sf (fit (Fr Dp)) (fS (Fr Dp)) s0 (fhs (Fr Dp))) (hpr : ∀ p, p < 2 ^ 31 → M.1 104 0 = nI p → p + 1 < 2 ^ 31) (hd : 20 ≤ d) (hd' : 20 ≤ d') : ∃ M' T' o0, StR nf d M M' ∧ StC nf d' T T' ∧ RnO M' T' ∧ (∃ p, M.1 104 0 = nI p ∧ p + 1 < 2 ^ 31 ∧ M'.1 104 0 = nI (p + 1)) ∧ Sim M0 T0 Sf G D nb mk rg na ng P W (updF Fr Dp (mkF (fS (Fr Dp)) (fρ (Fr Dp)) (fva (Fr Dp)) s0 o0 (fhs (Fr Dp)) (fit (Fr Dp)) (n + 1) (m + 1) (fbs (Fr Dp)) (fph (Fr Dp)) (frb (Fr Dp)) (ftb (Fr Dp)) (fie (Fr Dp)))) Dp M' T' := by
  obtain ⟨w1, w2, w3, w4, w5, w6, w7, w8, w9⟩ := h.rw (n := n) (m := m)
  obtain ⟨b1, b2, b3, b4, b5⟩ := h.bd
  have hc6 : cn Sf ≤ 6000 := by have := cx.2.1; omega
  obtain ⟨fr, iv⟩ := h.fr
  obtain ⟨v, hv, hrv, hcw⟩ := h.top hst
  obtain ⟨i1, i2⟩ := hv.i0
  have m0 : M.1 110 (fph (Fr Dp) + s0.length) = v.1 := RV_i hrv i1 i2
  have t0 : T.1 99 (fbs (Fr Dp) + 80 + wsl Sf s0) = v.1 := by
    have := hcw 0 (by rw [wv_0 i2]; omega)
    rw [CW_i i1 i2] at this
    exact this
  have l1 : (fst' (Fr Dp)).length = s0.length + 1 := by rw [hst]; rfl
  have l2 : wsl Sf (fst' (Fr Dp)) = 1 + wsl Sf s0 := by rw [hst, ← wS_0 (Sf := Sf)]; rfl
  have hS := h
  obtain ⟨a1, ⟨a2, a3, a4⟩, a5, a6, a7, a8, a9, a10⟩ := h
  obtain ⟨y1, y2, y3, y4, y5, y6, y7⟩ := a6
  obtain ⟨k1, ⟨p, k2, k3, k4, k5⟩, k6, k7, k8, k9⟩ := a8
  have p31 := hpr p k4 k2
  have xr := x_r29 (M := sI M 102 0 (nI (n + 1))) (nf := nf) (d := d) (x := b) (y := cc) (z := ee) (h := fph (Fr Dp) + s0.length) (q := p) (by rw [tp_102 (by omega), w6, l1]; rfl) (by omega) (by rw [tp_102 (by omega)]; exact k2) k4 (by omega)
  have xc := c_print (T := sI T 105 0 (nI (m + 1))) (nf := nf) (d := d') (x := x) (y := y) (t := fbs (Fr Dp) + 80 + wsl Sf s0) (q := p) (by rw [tp_105 (by omega), w7, l2]; congr 1; omega) (by omega) (by rw [tp_105 (by omega)]; exact k3) k4 (by omega)
  rw [tp_102 (by omega), m0] at xr
  rw [tp_105 (by omega), t0] at xc
  have mO : ∀ k, k ≠ 102 → k ≠ 109 → k ≠ 104 → k ≠ 152 → (ouM (sI (sI M 102 0 (nI (n + 1))) 109 0 (nI (fph (Fr Dp) + s0.length))) p v.1).1 k = M.1 k := fun k q1 q2 q3 q4 => by rw [ou_o q3 q4, sI_ne q2, sI_ne q1]
  have tO : ∀ k, k ≠ 100 → k ≠ 105 → k ≠ 112 → k ≠ 113 → (pkT (sI (sI T 105 0 (nI (m + 1))) 100 0 (nI (fbs (Fr Dp) + 80 + wsl Sf s0))) p v.1).1 k = T.1 k := fun k q1 q2 q3 q4 => by rw [pk_o q3 q4, sI_ne q1, sI_ne q2]
  obtain ⟨f1, f2, f3, f4, f5, f6⟩ := fr
  rw [hst] at f2
  obtain ⟨o1, o0, _, _, op0⟩ := OpV.drop [0] s0 _ f2
  have fr0 : FrO Sf G nb rg na ng M T Dp (mkF (fS (Fr Dp)) (fρ (Fr Dp)) (fva (Fr Dp)) s0 o0 (fhs (Fr Dp)) (fit (Fr Dp)) (n + 1) (m + 1) (fbs (Fr Dp)) (fph (Fr Dp)) (frb (Fr Dp)) (ftb (Fr Dp)) (fie (Fr Dp))) := ⟨f1, op0, f3, f4, f5, f6⟩
  have frN : FrO Sf G nb rg na ng (ouM (sI (sI M 102 0 (nI (n + 1))) 109 0 (nI (fph (Fr Dp) + s0.length))) p v.1) (pkT (sI (sI T 105 0 (nI (m + 1))) 100 0 (nI (fbs (Fr Dp) + 80 + wsl Sf s0))) p v.1) Dp (mkF (fS (Fr Dp)) (fρ (Fr Dp)) (fva (Fr Dp)) s0 o0 (fhs (Fr Dp)) (fit (Fr Dp)) (n + 1) (m + 1) (fbs (Fr Dp)) (fph (Fr Dp)) (frb (Fr Dp)) (ftb (Fr Dp)) (fie (Fr Dp))) := fr0.mp cx.1 hc6 (fun x hx => (hI.2.2.2.1 x hx).imp id (fun w => w.1)) (by rw [mO 116 (by omega) (by omega) (by omega) (by omega)]) (fun k s q1 q2 _ => by rw [mO k (by omega) (by omega) (by omega) (by omega)]) (fun c _ => by rw [mO 121 (by omega) (by omega) (by omega) (by omega)]) (fun k _ => by rw [mO 122 (by omega) (by omega) (by omega) (by omega)]) (fun k q q1 q2 _ => by rw [mO k (by omega) (by omega) (by omega) (by omega)]) (fun k q q1 q2 _ => by rw [mO k (by omega) (by omega) (by omega) (by omega)]) (fun w _ => by rw [tO 101 (by omega) (by omega) (by omega) (by omega)]) (fun q _ => by rw [tO 103 (by omega) (by omega) (by omega) (by omega)]) (fun q _ => by rw [tO 99 (by omega) (by omega) (by omega) (by omega)])
  refine ⟨(ouM (sI (sI M 102 0 (nI (n + 1))) 109 0 (nI (fph (Fr Dp) + s0.length))) p v.1), (pkT (sI (sI T 105 0 (nI (m + 1))) 100 0 (nI (fbs (Fr Dp) + 80 + wsl Sf s0))) p v.1), o0, StR.of (by rw [w4, hn]) hn2 (by rw [w1]; exact rowR) (by decide) xr, StC.of (op := 7) (x := x) (y := y) (r1 := 0) (l1 := 0) (by rw [w5, hm]) (by rw [w3]; exact h51) h6 hm2 (by rw [w2]; exact rowC) (by decide) (by rw [dC_203 (by decide)]; exact xc), ⟨by rw [mO 100 (by omega) (by omega) (by omega) (by omega)]; exact rn.1, by rw [tO 106 (by omega) (by omega) (by omega) (by omega)]; exact rn.2⟩, ⟨p, k2, p31, ou_c (by rw [sI_ne (by omega), sI_ne (by omega)]; exact k2)⟩, ?_⟩
  refine Sim.set cx.1 hc6 hS (a1.eq (fun k hk => mO k (by omega) (by omega) (by omega) (by omega)) (fun k q1 q2 => tO k (by omega) (by omega) (by omega) (by omega))) (fun _ _ w => w) (fun _ _ => rfl) (Nat.le_refl _) frN hI rfl rfl rfl rfl ⟨?_, ?_, y3, ?_, ?_, ?_, ?_⟩ (mO 103 (by omega) (by omega) (by omega) (by omega)) (tO 102 (by omega) (by omega) (by omega) (by omega)) (mO 114 (by omega) (by omega) (by omega) (by omega)) (fun k q hk => by rw [mO k (by omega) (by omega) (by omega) (by omega)]) (fun q _ => by rw [tO 101 (by omega) (by omega) (by omega) (by omega)]) (fun q _ => by rw [tO 103 (by omega) (by omega) (by omega) (by omega)]) (fun q hq => by rw [tO 99 (by omega) (by omega) (by omega) (by omega)]) ?_ ?_ ?_
  · rw [ou_o (by omega) (by omega), sI_v]; rfl
  · rw [pk_o (by omega) (by omega), sI_v]; rfl
  · rw [mO 123 (by omega) (by omega) (by omega) (by omega)]; exact y4
  · rw [tO 104 (by omega) (by omega) (by omega) (by omega)]; exact y5
  · rw [ou_o (by omega) (by omega), sI_ne (by omega), sI_v]; rfl
  · rw [pk_o (by omega) (by omega), sI_ne (by omega), sI_v]; rfl
  · obtain ⟨w, i1, i2, i3, i4⟩ := a7
    exact ⟨w, by rw [mO 150 (by omega) (by omega) (by omega) (by omega)]; exact i1, by rw [tO 111 (by omega) (by omega) (by omega) (by omega)]; exact i2, i3, by rw [mO 151 (by omega) (by omega) (by omega) (by omega), tO 110 (by omega) (by omega) (by omega) (by omega)]; exact i4⟩
  · refine ⟨by rw [mO 101 (by omega) (by omega) (by omega) (by omega), tO 108 (by omega) (by omega) (by omega) (by omega)]; exact k1, ⟨p + 1, ou_c (by rw [sI_ne (by omega), sI_ne (by omega)]; exact k2), pk_c (by rw [sI_ne (by omega), sI_ne (by omega)]; exact k3), p31, fun j hj j3 => ?_⟩, by rw [mO 106 (by omega) (by omega) (by omega) (by omega), tO 109 (by omega) (by omega) (by omega) (by omega)]; exact k6, by rw [mO 107 (by omega) (by omega) (by omega) (by omega)]; exact k7, by rw [tO 121 (by omega) (by omega) (by omega) (by omega)]; exact k8, fun q hq => by rw [mO 115 (by omega) (by omega) (by omega) (by omega), tO 101 (by omega) (by omega) (by omega) (by omega)]; exact k9 q hq⟩
    rw [ou_v j3, pk_v j3, sI_ne (by omega), sI_ne (by omega), sI_ne (by omega), sI_ne (by omega)]
    by_cases z : j = p
    · rw [if_pos z, if_pos z]
    · rw [if_neg z, if_neg z]
      exact k5 j (by omega) j3
  · obtain ⟨q1, q2, q3, q4⟩ := a9
    exact ⟨fun k hk => by rw [mO k (by omega) (by omega) (by omega) (by omega)]; exact q1 k hk, by rw [ou_2]; exact q2, fun k hk => by rw [tO k (by omega) (by omega) (by omega) (by omega)]; exact q3 k hk, by rw [pk_2]; exact q4⟩
end SS4
