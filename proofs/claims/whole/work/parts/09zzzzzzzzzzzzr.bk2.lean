/-! both machines: the first call ends -/
/-- both have ended: what is left -/
def FniO (M0 T0 : gSt) (G : GH) (D : Nat → (Nat → AV) × Nat) (nb mk : Nat) (rg : Nat → Nat) (na ng P W : Nat) (M T : gSt) : Prop := HpI G D nb mk rg na ng P W M T ∧ InO M T ∧ CoO M T ∧ PgO M0 T0 M T
section BK2
variable {M0 T0 Sf S Sh : gSt} {G G' : GH} {D D' : Nat → (Nat → AV) × Nat} {nf d d' nb nb' mk mk' na na' ng ng' e bs ph bt rb tb ie en hb k q u s i j c t h P W Dp n m it n1 : Nat} {rg rg' : Nat → Nat} {ρ : Nat → Nat} {va : Nat → AV} {M M' T T' : gSt} {v : AV} {x a b cc ee op y z w : Int32} {st s0 st' : List Int32} {ov o0 ov' : List AV} {hs : List HD} {F : FRM} {Fr : Nat → FRM} {f : Nat → Int32} {jj : T5} {r1 : Int32} {l1 : Int64} {tg : List Nat}
theorem bk_end (cx : CxP M0 T0 Sf) (h : Sim M0 T0 Sf G D nb mk rg na ng P W Fr 0 M T) (hn : fn (Fr 0) = n) (hm : fm (Fr 0) = m) (hn2 : n < 12000) (h51 : T0.1 51 0 = nI n1) (hm2 : m < n1) (h6 : n1 ≤ 6032) (rowR : rwC4 M0 n = (28, b, cc, ee)) {nw : Nat} (rowC : cw3 T0 m = (58, nI nw, y)) (lw : wsl Sf (fst' (Fr 0)) = nw) (nw3 : nw ≤ 3) (hnf : 16385 ≤ nf) (hd : 20 ≤ d) (hd' : 20 ≤ d') : ∃ M' T', StR nf d M M' ∧ StC nf d' T T' ∧ M'.1 100 0 = 2 ∧ T'.1 106 0 = 2 ∧ (M'.1 103 0 = nI 0 ∧ T'.1 102 0 = nI 0) ∧ FniO M0 T0 G D nb mk rg 1 ng P W M' T' := by
  obtain ⟨w1, w2, w3, w4, w5, w6, w7, w8, w9⟩ := h.rw (n := n) (m := m)
  obtain ⟨b1, b2, b3, b4, b5⟩ := h.bd
  obtain ⟨fr, iv⟩ := h.fr
  obtain ⟨a1, ⟨a2, a3, a4⟩, a5, a6, a7, a8, a9, a10⟩ := h
  obtain ⟨q1, q2, q3⟩ := a5
  obtain ⟨y1, y2, y3, y4, y5, y6, y7⟩ := a6
  obtain ⟨f1, f2, f3, f4, f5, f6, f7, f8, f9⟩ := fr
  obtain ⟨z1, z2, z3, z4⟩ := q3
  rw [z3] at f7 f9 y3
  rw [z4] at y4 f5 b3 f8
  rw [z1] at f6 w7 b1
  have hH1 : HpI G D nb mk rg na ng P W (sI (sI (sI M 102 0 (nI (n + 1))) 103 0 (nI 0)) 123 0 (nI 0)) (lvM (sI T 105 0 (nI (m + 1))) 0 (0 + 80) nw) := a1.eq (fun k hk => by rw [sI_ne (by omega), sI_ne (by omega), sI_ne (by omega)]) (fun k k1 k2 => by
    unfold lvM
    rw [sI_ne (by omega), slQ_o (by omega), sI_ne (by omega)])
  obtain ⟨rr, ll, V, V', cl1, cl2, hV, v1, v2, v3, v4, v5, v6⟩ := cl_both (nf := nf) (d := d - 2) (d' := d' - 2) (R := 1) hH1 (by omega) (by omega) hnf (by omega) (by omega)
  have mz : ∀ k, k ≠ 102 → k ≠ 103 → k ≠ 123 → k ≠ 129 → k ≠ 132 → k ≠ 136 → k ≠ 138 → k ≠ 143 → k ≠ 149 → V.1 k = M.1 k := fun k k1 k2 k3 k4 k5 k6 k7 k8 k9 => by
    rw [v1 k k4 k5 k6 k7 k8 k9, sI_ne k3, sI_ne k2, sI_ne k1]
  have tz : ∀ k, k ≠ 99 → k ≠ 100 → k ≠ 105 → k ≠ 116 → k ≠ 119 → k ≠ 122 → V'.1 k = T.1 k := fun k k1 k2 k3 k4 k5 k6 => by
    rw [v4 k k4 k5 k6]
    unfold lvM
    rw [sI_ne k2, slQ_o k1, sI_ne k3]
  have V103 : V.1 103 0 = nI 0 := by
    rw [v1 103 (by omega) (by omega) (by omega) (by omega) (by omega) (by omega), sI_ne (by omega), sI_v]
  have e116 : (sI M 102 0 (nI (n + 1))).1 116 0 = nI 1 := by rw [sI_ne (by omega)]; exact f9
  have xr := x_back (M := sI M 102 0 (nI (n + 1))) (nf := nf) (d := d) (x := b) (y := cc) (z := ee) (e := 0) (tb := 0) (j := (fhs (Fr 0)).length) (V := V) (r1 := rr) (l1 := ll) (by rw [tp_102 (by omega)]; exact w8) (by omega) (by rw [tp_102 (by omega)]; exact y4) (by omega) (fun i hi => by
    rw [tp_102 (by omega)]
    exact HsO.at _ f5 i hi) (Or.inl rfl) (by omega) (by omega) (by rw [e116]; exact cl1) V103 (by rw [mz 114 (by omega) (by omega) (by omega) (by omega) (by omega) (by omega) (by omega) (by omega) (by omega), sI_ne (by omega)])
  rw [if_pos rfl] at xr
  have e101 : (sI T 105 0 (nI (m + 1))).1 101 = T.1 101 := sI_ne (by omega)
  have xc := c_leaveI (T := sI T 105 0 (nI (m + 1))) (nf := nf) (d := d') (y := y) (t := 0 + 80) (n := nw) (c := 0) (b := 0) (V := V') (by rw [tp_105 (by omega), w7, lw]) (by rw [tp_105 (by omega)]; exact w9) (by omega) (by rw [e101]; exact f6) (by omega) (by omega) (by omega) (by omega) (by omega) (by rw [e101, f7]; exact cl2) (by rw [tz 101 (by omega) (by omega) (by omega) (by omega) (by omega) (by omega), e101]) (by rw [v4 102 (by omega) (by omega) (by omega)]; unfold lvM; rw [sI_ne (by omega), slQ_o (by omega)])
  rw [if_pos rfl] at xc
  have tN : ∀ k, k ≠ 104 → k ≠ 105 → k ≠ 102 → k ≠ 106 → (sI (lvN V' 0) 106 0 2).1 k = V'.1 k := fun k k1 k2 k3 k4 => by
    rw [sI_ne k4]
    unfold lvN
    rw [sI_ne k3, sI_ne k2, sI_ne k1]
  have tS : ∀ k, k ≠ 99 → k ≠ 100 → k ≠ 102 → k ≠ 104 → k ≠ 105 → k ≠ 106 → k ≠ 116 → k ≠ 119 → k ≠ 122 → (sI (lvN V' 0) 106 0 2).1 k = T.1 k := fun k k1 k2 k3 k4 k5 k6 k7 k8 k9 => by
    rw [tN k k4 k5 k3 k6, tz k k1 k2 k5 k7 k8 k9]
  have mS : ∀ k, k ≠ 100 → k ≠ 102 → k ≠ 103 → k ≠ 123 → ¬ (129 ≤ k ∧ k ≤ 149) → (sI V 100 0 2).1 k = M.1 k := fun k k0 k1 k2 k3 k4 => by
    rw [sI_ne k0, mz k k1 k2 k3 (by omega) (by omega) (by omega) (by omega) (by omega) (by omega)]
  refine ⟨(sI V 100 0 2), (sI (lvN V' 0) 106 0 2), StR.of (by rw [w4, hn]) hn2 (by rw [w1]; exact rowR) (by decide) xr, StC.of (op := 58) (x := nI nw) (y := y) (r1 := 0) (l1 := 0) (by rw [w5, hm]) (by rw [w3]; exact h51) h6 hm2 (by rw [w2]; exact rowC) (by decide) (by rw [dC_214 (by decide) (by decide) (by decide) (by decide) (by decide)]; exact xc), by rw [sI_v], by rw [sI_v], ⟨by rw [sI_ne (by omega)]; exact V103, by rw [sI_ne (by omega)]; unfold lvN; rw [sI_v]⟩, hV.eq (fun k hk => sI_ne (by omega)) (fun k k1 k2 => tN k (by omega) (by omega) (by omega) (by omega)), ?_, ?_, ?_⟩
  · obtain ⟨w, i1, i2, i3, i4⟩ := a7
    exact ⟨w, by rw [mS 150 (by omega) (by omega) (by omega) (by omega) (by omega)]; exact i1, by rw [tS 111 (by omega) (by omega) (by omega) (by omega) (by omega) (by omega) (by omega) (by omega) (by omega)]; exact i2, i3, by rw [mS 151 (by omega) (by omega) (by omega) (by omega) (by omega), tS 110 (by omega) (by omega) (by omega) (by omega) (by omega) (by omega) (by omega) (by omega) (by omega)]; exact i4⟩
  · obtain ⟨k1, ⟨p, k2, k3, k4, k5⟩, k6, k7, k8, k9⟩ := a8
    exact ⟨by rw [mS 101 (by omega) (by omega) (by omega) (by omega) (by omega), tS 108 (by omega) (by omega) (by omega) (by omega) (by omega) (by omega) (by omega) (by omega) (by omega)]; exact k1, ⟨p, by rw [mS 104 (by omega) (by omega) (by omega) (by omega) (by omega)]; exact k2, by rw [tS 113 (by omega) (by omega) (by omega) (by omega) (by omega) (by omega) (by omega) (by omega) (by omega)]; exact k3, k4, by rw [mS 152 (by omega) (by omega) (by omega) (by omega) (by omega), tS 112 (by omega) (by omega) (by omega) (by omega) (by omega) (by omega) (by omega) (by omega) (by omega)]; exact k5⟩, by rw [mS 106 (by omega) (by omega) (by omega) (by omega) (by omega), tS 109 (by omega) (by omega) (by omega) (by omega) (by omega) (by omega) (by omega) (by omega) (by omega)]; exact k6, by rw [mS 107 (by omega) (by omega) (by omega) (by omega) (by omega)]; exact k7, by rw [tS 121 (by omega) (by omega) (by omega) (by omega) (by omega) (by omega) (by omega) (by omega) (by omega)]; exact k8, fun q hq => by rw [mS 115 (by omega) (by omega) (by omega) (by omega) (by omega), tS 101 (by omega) (by omega) (by omega) (by omega) (by omega) (by omega) (by omega) (by omega) (by omega)]; exact k9 q hq⟩
  · obtain ⟨k1, k2, k3, k4⟩ := a9
    exact ⟨fun k hk => by rw [mS k (by omega) (by omega) (by omega) (by omega) (by omega)]; exact k1 k hk, (show V.2 = M0.2 from v2.trans k2), fun k hk => by rw [tS k (by omega) (by omega) (by omega) (by omega) (by omega) (by omega) (by omega) (by omega) (by omega)]; exact k3 k hk, (show V'.2 = T0.2 from v5.trans k4)⟩
end BK2
