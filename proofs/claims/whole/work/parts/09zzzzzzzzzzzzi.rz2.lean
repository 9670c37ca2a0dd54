/-! both machines: something is raised, and caught or not -/
/-- both stop: nothing catches x -/
def RsO (nf d d' : Nat) (M T : gSt) : Prop := ∃ (x : Int32) (M' T' : gSt), StR nf d M M' ∧ StC nf d' T T' ∧ (∀ k, k ≠ 100 → k ≠ 102 → k ≠ 106 → k ≠ 108 → k ≠ 109 → M'.1 k = M.1 k) ∧ M'.2 = M.2 ∧ (∀ k, k ≠ 100 → k ≠ 105 → k ≠ 106 → k ≠ 107 → k ≠ 109 → T'.1 k = T.1 k) ∧ T'.2 = T.2 ∧ M'.1 100 0 = 3 ∧ T'.1 106 0 = 3 ∧ M'.1 108 0 = x ∧ T'.1 107 0 = x ∧ M'.1 106 0 = M.1 106 0 + 1 ∧ T'.1 109 0 = T.1 109 0 + 1
/-- what a handler wants -/
def HdO (T0 Sf : gSt) (Fr : Nat → FRM) (Dp n1 : Nat) : Prop := ∀ (e : Nat) (hh : HD) (tl : List HD), e ≤ Dp → fhs (Fr e) = hh :: tl → IvP Sf (fit (Fr e)) hh.2.2 [] tl ∧ ∃ c, hh.2.2.1 87 0 = nI c ∧ 1 ≤ c ∧ c ≤ 20 ∧ cw3 T0 hh.2.1 = (4, nI (60 + c - 1), 1) ∧ hh.2.1 < n1
section RZ2
variable {M0 T0 Sf S Sh : gSt} {G G' : GH} {D D' : Nat → (Nat → AV) × Nat} {nf d d' nb nb' mk mk' na na' ng ng' e bs ph bt rb tb ie en hb k q u s i j c t h P W Dp n m it n1 : Nat} {rg rg' : Nat → Nat} {ρ : Nat → Nat} {va : Nat → AV} {M M' T T' : gSt} {v : AV} {x a b cc ee op y z w : Int32} {st s0 st' : List Int32} {ov o0 ov' : List AV} {hs : List HD} {F : FRM} {Fr : Nat → FRM} {f : Nat → Int32} {jj : T5} {r1 : Int32} {l1 : Int64} {tg : List Nat}
variable {R K E r : Nat}
theorem FrO.mq (hR : Rws Sf) (hc : cn Sf ≤ 6000) (h : FrO Sf G nb rg na ng M T e F) (hI : ∀ x, x ∈ fst' F → x = -2 ∨ tV Sf x) (ho : ∀ r s, ot rg na ng r s → ot rg na' ng r s) (hMf : M'.1 116 e = M.1 116 e) (hMv : ∀ k s, 117 ≤ k → k ≤ 120 → s < 20 → M'.1 k (20 * e + s) = M.1 k (20 * e + s)) (hMr : ∀ c, c < 12 → M'.1 121 (12 * e + c) = M.1 121 (12 * e + c)) (hMc : ∀ k, k ≤ 20 → M'.1 122 (40 * e + k) = M.1 122 (40 * e + k)) (hM2 : ∀ k q, 124 ≤ k → k ≤ 128 → q < ftb F + (fhs F).length → M'.1 k q = M.1 k q) (hMs : ∀ k q, 110 ≤ k → k ≤ 113 → q < fph F + (fst' F).length → M'.1 k q = M.1 k q) (hT1 : ∀ w, w < 17 → T'.1 101 (17 * (e + 1) + w) = T.1 101 (17 * (e + 1) + w)) (hT2 : ∀ q, q < 4 * (ftb F + (fhs F).length) → T'.1 103 q = T.1 103 q) (hTs : ∀ q, q < fbs F + 80 + wsl Sf (fst' F) → T'.1 99 q = T.1 99 q) : FrO Sf G nb rg na' ng M' T' e F := by
  obtain ⟨a, b, c, d, f, g1, g2, g3, g4⟩ := h
  have hG : ∀ b, b ≤ nb → G b = G b := fun _ _ => rfl
  refine ⟨a.mo hG (Nat.le_refl _) ho hMv (fun q hq => hTs q (by omega)), OpV.mo _ _ b hG (Nat.le_refl _) ho hMs hTs (fun x v hx hv => ?_), c.mo (fun _ _ => rfl) (Nat.le_refl _) ho hMr hT1 (fun c w hw => RgE_12 hw), d.mo hMc (fun q hq => hTs q (by omega)), HsO.mo _ f hG (Nat.le_refl _) ho hMv hM2 (fun q hq => hTs q (by omega)) hT2, by rw [hT1 1 (by omega)]; exact g1, by rw [hT1 3 (by omega)]; exact g2, by rw [hT1 4 (by omega)]; exact g3, by rw [hMf]; exact g4⟩
  rw [VTs.wi hR hc (hI x hx) hv]
  exact Nat.le_refl _
theorem rz_sim (cx : CxP M0 T0 Sf) (h : Sim M0 T0 Sf G D nb mk rg na ng P W Fr Dp M T) (rn : RnO M T) (hz : RzO nf d d' M T) (hg : HdO T0 Sf Fr Dp n1) (h51 : T0.1 51 0 = nI n1) (h6 : n1 ≤ 6032) (hnf : 16385 ≤ nf) (hd : 20 ≤ d) (hd' : 20 ≤ d') : RsO nf d d' M T ∨ ∃ (E : Nat) (hh : HD) (tl : List HD) (M' T1 T' : gSt), E ≤ Dp ∧ fhs (Fr E) = hh :: tl ∧ StR nf d M M' ∧ StC nf d' T T1 ∧ T1.1 106 0 = 1 ∧ StC nf d' T1 T' ∧ RnO M' T' ∧ Sim M0 T0 Sf G D nb mk rg (frb (Fr E) + lvc hh.2.2 (arn hh.2.2)) ng P W (updF Fr E (mkF hh.2.2 (fρ (Fr E)) (fva (Fr E)) [] [] tl (fit (Fr E)) hh.1 (hh.2.1 + 1) (fbs (Fr E)) (fph (Fr E)) (frb (Fr E)) (ftb (Fr E)) (fie (Fr E)))) E M' T' := by
  obtain ⟨x, M1, T1, d1, d2, hd1, hd2, hM1, hM2, hT1, hT2, sr, sc⟩ := hz
  have hS := h
  obtain ⟨a1, ⟨a2, a3, a4⟩, a5, a6, a7, a8, a9, a10⟩ := h
  have F5 := a5
  obtain ⟨q1, q2, q3⟩ := a5
  obtain ⟨y1, y2, y3, y4, y5, y6, y7⟩ := a6
  obtain ⟨b1, b2, b3, b4, b5⟩ := hS.bd
  have hc6 : cn Sf ≤ 6000 := by have := cx.2.1; omega
  obtain ⟨g1, g2, g3, g4, g5, g6, g7⟩ := a1.1
  cases ek : ftb (Fr Dp) + (fhs (Fr Dp)).length with
  | zero =>
    rw [ek] at y4 y5
    have e1 := x_raise0 (M := M1) (nf := nf) (d := d1) (x := x) (by rw [hM1 123 (by omega) (by omega)]; exact y4) (by omega)
    have e2 := c_raise0 (T := T1) (nf := nf) (d := d2) (x := x) (by rw [hT1 104 (by omega) (by omega)]; exact y5) (by omega)
    refine Or.inl ⟨x, _, _, sr _ _ _ e1, sc _ _ _ e2, fun k k1 k2 k3 k4 k5 => ?_, hM2, fun k k1 k2 k3 k4 k5 => ?_, hT2, ?_, ?_, ?_, ?_, ?_, ?_⟩
    · unfold raM
      rw [sI_ne k4, sI_ne k1, sI_ne k3, hM1 k k2 k5]
    · unfold raT
      rw [sI_ne k4, sI_ne k3, sI_ne k5, hT1 k k1 k2]
    · unfold raM
      rw [sI_ne (by omega), sI_v]
    · unfold raT
      rw [sI_ne (by omega), sI_v]
    · unfold raM
      rw [sI_v]
    · unfold raT
      rw [sI_v]
    · unfold raM
      rw [sI_ne (by omega), sI_ne (by omega), sI_v, hM1 106 (by omega) (by omega)]
    · unfold raT
      rw [sI_ne (by omega), sI_ne (by omega), sI_v, hT1 109 (by omega) (by omega)]
  | succ K =>
    rw [ek] at y4 y5
    obtain ⟨E, hh, tl, hE, eh, eK⟩ := F5.tr (K := K) Dp 0 (by omega) Dp (Nat.le_refl _) ek rfl
    obtain ⟨ivH, c, c87, c1, c20, sv, hm1⟩ := hg E hh tl hE eh
    obtain ⟨fr, iv⟩ := q1 E hE
    have fr0 := fr
    obtain ⟨f1, f2, f3, f4, f5, f6, f7, f8, f9⟩ := fr
    rw [eh] at f5
    obtain ⟨⟨t1, t2, t3, t4, t5, t6, t7, t8, t9⟩, vaH, hsT⟩ := f5
    rw [eK] at t1 t2 t3 t4 t5 t6 t7 t8 t9
    have pf := iv.2.2.2.2.2.2.2.2 hh (by rw [eh]; exact List.mem_cons_self)
    obtain ⟨u1, u2, u3, u4⟩ := F5.bd E hE
    obtain ⟨le1, le2, le3, le4, le5⟩ := F5.le (Dp - E) E (by omega)
    have arl := pf.2.2.1
    have lvE := lvc_pf pf.rr (arn hh.2.2) (Nat.le_refl _)
    have lvM := lvc_mono (S := fS (Fr E)) arl
    have rb1 : 1 ≤ frb (Fr E) := f3.1.2.2.2.2.1
    have R1 : 1 ≤ frb (Fr E) + lvc hh.2.2 (arn hh.2.2) := by omega
    have Rn : frb (Fr E) + lvc hh.2.2 (arn hh.2.2) ≤ na := by
      by_cases z : E = Dp
      · subst z; omega
      · have := (le5 (by omega)).2.2.1
        omega
    have hH1 : HpI G D nb mk rg na ng P W (rzM M1 K E) (rzT T1 K) := a1.eq (fun k hk => by
      unfold rzM
      rw [sI_ne (by omega), sI_ne (by omega), sI_ne (by omega), sI_ne (by omega), hM1 k (by omega) (by omega)]) (fun k k1 k2 => by
      unfold rzT
      rw [sI_ne (by omega), sI_ne (by omega), sI_ne (by omega), sI_ne (by omega), sI_ne (by omega), hT1 k (by omega) (by omega)])
    obtain ⟨rr, ll, V, V', cl1, cl2, hV, v1, v2, v3, v4, v5, v6⟩ := cl_both (nf := nf) (d := d1 - 1) (d' := d2 - 1) hH1 R1 Rn hnf (by omega) (by omega)
    have mz : ∀ k, k ≠ 106 → k ≠ 123 → k ≠ 103 → k ≠ 109 → k ≠ 102 → k ≠ 129 → k ≠ 132 → k ≠ 136 → k ≠ 138 → k ≠ 143 → k ≠ 149 → V.1 k = M.1 k := fun k k1 k2 k3 k4 k5 k6 k7 k8 k9 k10 k11 => by
      rw [v1 k k6 k7 k8 k9 k10 k11]
      unfold rzM
      rw [sI_ne k4, sI_ne k3, sI_ne k2, sI_ne k1, hM1 k k5 k4]
    have tz : ∀ k, k ≠ 109 → k ≠ 104 → k ≠ 105 → k ≠ 102 → k ≠ 100 → k ≠ 116 → k ≠ 119 → k ≠ 122 → V'.1 k = T.1 k := fun k k1 k2 k3 k4 k5 k6 k7 k8 => by
      rw [v4 k k6 k7 k8]
      unfold rzT
      rw [sI_ne k5, sI_ne k4, sI_ne k3, sI_ne k2, sI_ne k1, hT1 k k5 k3]
    have V123 : V.1 123 0 = nI K := by
      rw [v1 123 (by omega) (by omega) (by omega) (by omega) (by omega) (by omega)]
      unfold rzM
      rw [sI_ne (by omega), sI_ne (by omega), sI_v]
    have V103 : V.1 103 0 = nI (E + 1) := by
      rw [v1 103 (by omega) (by omega) (by omega) (by omega) (by omega) (by omega)]
      unfold rzM
      rw [sI_ne (by omega), sI_v]
    have V109 : V.1 109 0 = nI (fph (Fr E)) := by
      rw [v1 109 (by omega) (by omega) (by omega) (by omega) (by omega) (by omega)]
      unfold rzM
      rw [sI_v, hM1 126 (by omega) (by omega)]
      exact t3
    have V106 : V.1 106 0 = M.1 106 0 + 1 := by
      rw [v1 106 (by omega) (by omega) (by omega) (by omega) (by omega) (by omega)]
      unfold rzM
      rw [sI_ne (by omega), sI_ne (by omega), sI_ne (by omega), sI_v, hM1 106 (by omega) (by omega)]
    have e127 : M1.1 127 K = nI (frb (Fr E) + lvc hh.2.2 (arn hh.2.2)) := by rw [hM1 127 (by omega) (by omega)]; exact t4
    have e124 : M1.1 124 K = nI hh.1 := by rw [hM1 124 (by omega) (by omega)]; exact t1
    have xr := x_raise1 (M := M1) (nf := nf) (d := d1) (x := x) (k := K) (e := E) (c := c) (V := V) (r1 := rr) (l1 := ll) (by rw [hM1 123 (by omega) (by omega)]; exact y4) (by omega) (by rw [hM1 125 (by omega) (by omega)]; exact t2) (by omega) (by rw [hM1 128 (by omega) (by omega), t5]; exact c87) (by omega) (by omega) (by rw [e127]; exact cl1) V123 (by rw [mz 124 (by omega) (by omega) (by omega) (by omega) (by omega) (by omega) (by omega) (by omega) (by omega) (by omega) (by omega), hM1 124 (by omega) (by omega)]) (by rw [mz 128 (by omega) (by omega) (by omega) (by omega) (by omega) (by omega) (by omega) (by omega) (by omega) (by omega) (by omega), hM1 128 (by omega) (by omega)]) V103
    rw [e124] at xr
    have W100 : V'.1 100 0 = nI (fbs (Fr E) + 80) := by
      rw [v4 100 (by omega) (by omega) (by omega)]
      unfold rzT
      rw [sI_v, hT1 103 (by omega) (by omega)]
      exact t8
    have W102 : V'.1 102 0 = nI (E + 1) := by
      rw [v4 102 (by omega) (by omega) (by omega)]
      unfold rzT
      rw [sI_ne (by omega), sI_v, hT1 103 (by omega) (by omega)]
      exact t7
    have W105 : V'.1 105 0 = nI hh.2.1 := by
      rw [v4 105 (by omega) (by omega) (by omega)]
      unfold rzT
      rw [sI_ne (by omega), sI_ne (by omega), sI_v, hT1 103 (by omega) (by omega)]
      exact t6
    have W104 : V'.1 104 0 = nI K := by
      rw [v4 104 (by omega) (by omega) (by omega)]
      unfold rzT
      rw [sI_ne (by omega), sI_ne (by omega), sI_ne (by omega), sI_v]
    have W109 : V'.1 109 0 = T.1 109 0 + 1 := by
      rw [v4 109 (by omega) (by omega) (by omega)]
      unfold rzT
      rw [sI_ne (by omega), sI_ne (by omega), sI_ne (by omega), sI_ne (by omega), sI_v, hT1 109 (by omega) (by omega)]
    have cr := c_raise1 (T := T1) (nf := nf) (d := d2) (x := x) (k := K) (by rw [hT1 104 (by omega) (by omega)]; exact y5) (by omega) (by omega)
    rw [hT1 103 (by omega) (by omega), t9, cl2, bis, c_push W100 (by omega) (by omega), bis] at cr
    have pT : ∀ k, k ≠ 99 → k ≠ 100 → (psT V' (fbs (Fr E) + 80) x).1 k = V'.1 k := fun k k1 k2 => by
      unfold psT
      rw [sI_ne k2, sI_ne k1]
    have p100 : (psT V' (fbs (Fr E) + 80) x).1 100 0 = nI (fbs (Fr E) + 80 + 1) := by
      unfold psT
      rw [sI_v]
    have p99 : ∀ q, (psT V' (fbs (Fr E) + 80) x).1 99 q = if q = fbs (Fr E) + 80 then x else T.1 99 q := fun q => by
      unfold psT
      rw [sI_ne (by omega), rdI, tz 99 (by omega) (by omega) (by omega) (by omega) (by omega) (by omega) (by omega) (by omega)]
      by_cases z : q = fbs (Fr E) + 80
      · rw [if_pos ⟨rfl, z⟩, if_pos z]
      · rw [if_neg (fun w => z w.2), if_neg z]
    have T98 : ∀ k, k ≤ 98 → (psT V' (fbs (Fr E) + 80) x).1 k = T0.1 k := fun k hk => by
      rw [pT k (by omega) (by omega), tz k (by omega) (by omega) (by omega) (by omega) (by omega) (by omega) (by omega) (by omega), a9.2.2.1 k hk]
    have sav : dC nf d' (sI (psT V' (fbs (Fr E) + 80) x) 105 0 (nI (hh.2.1 + 1))) 4 (nI (60 + c - 1)) 1 = some (0, 0, (sI (slQ (sI (psT V' (fbs (Fr E) + 80) x) 105 0 (nI (hh.2.1 + 1))) (fbs (Fr E) + (60 + c - 1)) (fun i => (sI (psT V' (fbs (Fr E) + 80) x) 105 0 (nI (hh.2.1 + 1))).1 99 (fbs (Fr E) + 80 + i)) 0 1) 100 0 (nI (fbs (Fr E) + 80)))) := by
      rw [dC_203 (by decide)]
      exact c_save (t := fbs (Fr E) + 80) (n := 1) (c := E + 1) (b := fbs (Fr E)) (s := 60 + c - 1) (by rw [sI_ne (by omega)]; exact p100) (by rw [sI_ne (by omega), pT 102 (by omega) (by omega)]; exact W102) (by omega) (by rw [sI_ne (by omega), pT 101 (by omega) (by omega), tz 101 (by omega) (by omega) (by omega) (by omega) (by omega) (by omega) (by omega) (by omega)]; exact f6) (by omega) (by omega) (by omega) (by omega) (by omega)
    have tO : ∀ k, k ≠ 99 → k ≠ 100 → k ≠ 105 → (sI (slQ (sI (psT V' (fbs (Fr E) + 80) x) 105 0 (nI (hh.2.1 + 1))) (fbs (Fr E) + (60 + c - 1)) (fun i => (sI (psT V' (fbs (Fr E) + 80) x) 105 0 (nI (hh.2.1 + 1))).1 99 (fbs (Fr E) + 80 + i)) 0 1) 100 0 (nI (fbs (Fr E) + 80))).1 k = V'.1 k := fun k k1 k2 k3 => by
      rw [sI_ne k2, slQ_o k1, sI_ne k3, pT k k1 k2]
    have tS : ∀ k, k ≠ 99 → k ≠ 100 → k ≠ 105 → k ≠ 109 → k ≠ 104 → k ≠ 102 → k ≠ 116 → k ≠ 119 → k ≠ 122 → (sI (slQ (sI (psT V' (fbs (Fr E) + 80) x) 105 0 (nI (hh.2.1 + 1))) (fbs (Fr E) + (60 + c - 1)) (fun i => (sI (psT V' (fbs (Fr E) + 80) x) 105 0 (nI (hh.2.1 + 1))).1 99 (fbs (Fr E) + 80 + i)) 0 1) 100 0 (nI (fbs (Fr E) + 80))).1 k = T.1 k := fun k k1 k2 k3 k4 k5 k6 k7 k8 k9 => by
      rw [tO k k1 k2 k3, tz k k4 k5 k3 k6 k2 k7 k8 k9]
    have t99 : ∀ q, (sI (slQ (sI (psT V' (fbs (Fr E) + 80) x) 105 0 (nI (hh.2.1 + 1))) (fbs (Fr E) + (60 + c - 1)) (fun i => (sI (psT V' (fbs (Fr E) + 80) x) 105 0 (nI (hh.2.1 + 1))).1 99 (fbs (Fr E) + 80 + i)) 0 1) 100 0 (nI (fbs (Fr E) + 80))).1 99 q = if q = fbs (Fr E) + 60 + (c - 1) then x else if q = fbs (Fr E) + 80 then x else T.1 99 q := fun q => by
      rw [sI_ne (by omega), slQ_w, sI_ne (by omega), p99 q, p99]
      by_cases z : q = fbs (Fr E) + 60 + (c - 1)
      · rw [if_pos z, if_pos (by omega), if_pos (by omega)]
      · rw [if_neg z, if_neg (by omega)]
    have t99n : ∀ q, q < fbs (Fr E) + 80 → ¬ q = fbs (Fr E) + 60 + (c - 1) → (sI (slQ (sI (psT V' (fbs (Fr E) + 80) x) 105 0 (nI (hh.2.1 + 1))) (fbs (Fr E) + (60 + c - 1)) (fun i => (sI (psT V' (fbs (Fr E) + 80) x) 105 0 (nI (hh.2.1 + 1))).1 99 (fbs (Fr E) + 80 + i)) 0 1) 100 0 (nI (fbs (Fr E) + 80))).1 99 q = T.1 99 q := fun q h1 h2 => by
      rw [t99, if_neg h2, if_neg (by omega)]
    have t105 : (sI (slQ (sI (psT V' (fbs (Fr E) + 80) x) 105 0 (nI (hh.2.1 + 1))) (fbs (Fr E) + (60 + c - 1)) (fun i => (sI (psT V' (fbs (Fr E) + 80) x) 105 0 (nI (hh.2.1 + 1))).1 99 (fbs (Fr E) + 80 + i)) 0 1) 100 0 (nI (fbs (Fr E) + 80))).1 105 0 = nI (hh.2.1 + 1) := by rw [sI_ne (by omega), slQ_o (by omega), sI_v]
    have mO : ∀ k, k ≠ 102 → k ≠ 122 → (sI (sI V 102 0 (nI hh.1)) 122 (40 * E + c) x).1 k = V.1 k := fun k k1 k2 => by rw [sI_ne k2, sI_ne k1]
    have mS : ∀ k, k ≠ 106 → k ≠ 123 → k ≠ 103 → k ≠ 109 → k ≠ 102 → k ≠ 122 → ¬ (129 ≤ k ∧ k ≤ 149) → (sI (sI V 102 0 (nI hh.1)) 122 (40 * E + c) x).1 k = M.1 k := fun k k1 k2 k3 k4 k5 k6 k7 => by
      rw [mO k k5 k6, mz k k1 k2 k3 k4 k5 (by omega) (by omega) (by omega) (by omega) (by omega) (by omega)]
    have m122 : ∀ q, (sI (sI V 102 0 (nI hh.1)) 122 (40 * E + c) x).1 122 q = if q = 40 * E + c then x else M.1 122 q := fun q => by
      rw [rdI, sI_ne (by omega), mz 122 (by omega) (by omega) (by omega) (by omega) (by omega) (by omega) (by omega) (by omega) (by omega) (by omega) (by omega)]
      by_cases z : q = 40 * E + c
      · rw [if_pos ⟨rfl, z⟩, if_pos z]
      · rw [if_neg (fun w => z w.2), if_neg z]
    have m102 : (sI (sI V 102 0 (nI hh.1)) 122 (40 * E + c) x).1 102 0 = nI hh.1 := by rw [sI_ne (by omega), sI_v]
    have ho : ∀ r s, ot rg na ng r s → ot rg (frb (Fr E) + lvc hh.2.2 (arn hh.2.2)) ng r s := fun r s w => w.cl g5 Rn
    have FE : FsO Sf G nb rg na ng Fr E M T := ⟨fun e he => q1 e (by omega), fun e he => q2 e (by omega), q3⟩
    have uN : updF Fr E (mkF hh.2.2 (fρ (Fr E)) (fva (Fr E)) [] [] tl (fit (Fr E)) hh.1 (hh.2.1 + 1) (fbs (Fr E)) (fph (Fr E)) (frb (Fr E)) (ftb (Fr E)) (fie (Fr E))) E = (mkF hh.2.2 (fρ (Fr E)) (fva (Fr E)) [] [] tl (fit (Fr E)) hh.1 (hh.2.1 + 1) (fbs (Fr E)) (fph (Fr E)) (frb (Fr E)) (ftb (Fr E)) (fie (Fr E))) := if_pos rfl
    have uE : ∀ e, ¬ e = E → updF Fr E (mkF hh.2.2 (fρ (Fr E)) (fva (Fr E)) [] [] tl (fit (Fr E)) hh.1 (hh.2.1 + 1) (fbs (Fr E)) (fph (Fr E)) (frb (Fr E)) (ftb (Fr E)) (fie (Fr E))) e = Fr e := fun e he => if_neg he
    have hG : ∀ b, b ≤ nb → G b = G b := fun _ _ => rfl
    have frN : FrO Sf G nb rg (frb (Fr E) + lvc hh.2.2 (arn hh.2.2)) ng (sI (sI V 102 0 (nI hh.1)) 122 (40 * E + c) x) (sI (slQ (sI (psT V' (fbs (Fr E) + 80) x) 105 0 (nI (hh.2.1 + 1))) (fbs (Fr E) + (60 + c - 1)) (fun i => (sI (psT V' (fbs (Fr E) + 80) x) 105 0 (nI (hh.2.1 + 1))).1 99 (fbs (Fr E) + 80 + i)) 0 1) 100 0 (nI (fbs (Fr E) + 80))) E (mkF hh.2.2 (fρ (Fr E)) (fva (Fr E)) [] [] tl (fit (Fr E)) hh.1 (hh.2.1 + 1) (fbs (Fr E)) (fph (Fr E)) (frb (Fr E)) (ftb (Fr E)) (fie (Fr E))) := by
      refine ⟨vaH.mo hG (Nat.le_refl _) ho (fun k s k1 k2 _ => by rw [mS k (by omega) (by omega) (by omega) (by omega) (by omega) (by omega) (by omega)]) (fun q (hq : q < fbs (Fr E) + 60) => t99n q (by omega) (by omega)), True.intro, RgO.pf f3 pf.rr ho (fun c' _ => by rw [mS 121 (by omega) (by omega) (by omega) (by omega) (by omega) (by omega) (by omega)]) (fun w _ => by rw [tS 101 (by omega) (by omega) (by omega) (by omega) (by omega) (by omega) (by omega) (by omega) (by omega)]), ⟨c, c87, c20, fun k k1 kc => ?_⟩, HsO.mo _ hsT hG (Nat.le_refl _) ho (fun k s k1 k2 _ => by rw [mS k (by omega) (by omega) (by omega) (by omega) (by omega) (by omega) (by omega)]) (fun k q k1 k2 _ => by rw [mS k (by omega) (by omega) (by omega) (by omega) (by omega) (by omega) (by omega)]) (fun q (hq : q < fbs (Fr E) + 60) => t99n q (by omega) (by omega)) (fun q _ => by rw [tS 103 (by omega) (by omega) (by omega) (by omega) (by omega) (by omega) (by omega) (by omega) (by omega)]), ?_, ?_, ?_, ?_⟩
      · show (sI (slQ (sI (psT V' (fbs (Fr E) + 80) x) 105 0 (nI (hh.2.1 + 1))) (fbs (Fr E) + (60 + c - 1)) (fun i => (sI (psT V' (fbs (Fr E) + 80) x) 105 0 (nI (hh.2.1 + 1))).1 99 (fbs (Fr E) + 80 + i)) 0 1) 100 0 (nI (fbs (Fr E) + 80))).1 99 (fbs (Fr E) + 60 + (k - 1)) = (sI (sI V 102 0 (nI hh.1)) 122 (40 * E + c) x).1 122 (40 * E + k)
        by_cases z : k = c
        · subst z
          rw [t99, if_pos rfl, m122, if_pos rfl]
        · obtain ⟨c', k1', k2', k3'⟩ := f4
          obtain ⟨_, _, _, _, _, _, a', b', p1, p2, p3, p4, p5, p6⟩ := pf
          have ea : a' = c := nI_inj (by omega) (by omega) (by rw [← p1, c87])
          have k87 : nI b' = nI c' := by rw [← p2, k1']
          rw [t99n _ (by omega) (by omega), m122, if_neg (by omega)]
          refine k3' k k1 ?_
          have := nI_inj (by omega) (by omega) k87
          omega
      · rw [tS 101 (by omega) (by omega) (by omega) (by omega) (by omega) (by omega) (by omega) (by omega) (by omega)]
        exact f6
      · rw [tS 101 (by omega) (by omega) (by omega) (by omega) (by omega) (by omega) (by omega) (by omega) (by omega)]
        exact f7
      · rw [tS 101 (by omega) (by omega) (by omega) (by omega) (by omega) (by omega) (by omega) (by omega) (by omega)]
        exact f8
      · rw [mS 116 (by omega) (by omega) (by omega) (by omega) (by omega) (by omega) (by omega)]
        exact f9
    refine Or.inr ⟨E, hh, tl, (sI (sI V 102 0 (nI hh.1)) 122 (40 * E + c) x), psT V' (fbs (Fr E) + 80) x, (sI (slQ (sI (psT V' (fbs (Fr E) + 80) x) 105 0 (nI (hh.2.1 + 1))) (fbs (Fr E) + (60 + c - 1)) (fun i => (sI (psT V' (fbs (Fr E) + 80) x) 105 0 (nI (hh.2.1 + 1))).1 99 (fbs (Fr E) + 80 + i)) 0 1) 100 0 (nI (fbs (Fr E) + 80))), hE, eh, sr _ _ _ xr, sc _ _ _ cr, by rw [pT 106 (by omega) (by omega), tz 106 (by omega) (by omega) (by omega) (by omega) (by omega) (by omega) (by omega) (by omega)]; exact rn.2, StC.of (op := 4) (x := nI (60 + c - 1)) (y := 1) (by rw [pT 105 (by omega) (by omega)]; exact W105) (by rw [T98 51 (by omega)]; exact h51) h6 hm1 (by unfold cw3; rw [T98 48 (by omega), T98 49 (by omega), T98 50 (by omega)]; exact sv) (by decide) sav, ⟨by rw [mS 100 (by omega) (by omega) (by omega) (by omega) (by omega) (by omega) (by omega)]; exact rn.1, by rw [tS 106 (by omega) (by omega) (by omega) (by omega) (by omega) (by omega) (by omega) (by omega) (by omega)]; exact rn.2⟩, hV.eq (fun k hk => mO k (by omega) (by omega)) (fun k k1 k2 => tO k (by omega) (by omega) (by omega)), ⟨by omega, by rw [mO 103 (by omega) (by omega)]; exact V103, by rw [tO 102 (by omega) (by omega) (by omega)]; exact W102⟩, ⟨fun e he => ?_, fun e he => ?_, ?_⟩, ?_, ?_, ?_, ?_, a10⟩
    · by_cases z : e = E
      · rw [z, uN]
        exact ⟨frN, ivH⟩
      · rw [uE e z]
        obtain ⟨z1, z2⟩ := q1 e (by omega)
        obtain ⟨_, _, _, _, l5⟩ := FE.le (E - e) e (by omega)
        obtain ⟨l6, l7, l8, l9⟩ := l5 (by omega)
        exact ⟨z1.mq cx.1 hc6 (fun x hx => (z2.2.2.2.1 x hx).imp id (fun w => w.1)) ho (by rw [mS 116 (by omega) (by omega) (by omega) (by omega) (by omega) (by omega) (by omega)]) (fun k s k1 k2 _ => by rw [mS k (by omega) (by omega) (by omega) (by omega) (by omega) (by omega) (by omega)]) (fun c _ => by rw [mS 121 (by omega) (by omega) (by omega) (by omega) (by omega) (by omega) (by omega)]) (fun k hk => by rw [m122, if_neg (by omega)]) (fun k q k1 k2 _ => by rw [mS k (by omega) (by omega) (by omega) (by omega) (by omega) (by omega) (by omega)]) (fun k q k1 k2 _ => by rw [mS k (by omega) (by omega) (by omega) (by omega) (by omega) (by omega) (by omega)]) (fun w _ => by rw [tS 101 (by omega) (by omega) (by omega) (by omega) (by omega) (by omega) (by omega) (by omega) (by omega)]) (fun q _ => by rw [tS 103 (by omega) (by omega) (by omega) (by omega) (by omega) (by omega) (by omega) (by omega) (by omega)]) (fun q hq => t99n q (by omega) (by omega)), z2⟩
    · obtain ⟨l1', l2', l3', l4', l5', l6'⟩ := q2 e (by omega)
      rw [uE e (by omega)]
      unfold LnO
      rw [mS 114 (by omega) (by omega) (by omega) (by omega) (by omega) (by omega) (by omega), tS 101 (by omega) (by omega) (by omega) (by omega) (by omega) (by omega) (by omega) (by omega) (by omega)]
      by_cases c3 : e + 1 = E
      · rw [c3, uN]
        rw [c3] at l1' l2' l3' l4' l5'
        exact ⟨l1', l2', l3', l4', l5', l6'⟩
      · rw [uE (e + 1) c3]
        exact ⟨l1', l2', l3', l4', l5', l6'⟩
    · by_cases c2 : 0 = E
      · rw [show (updF Fr E (mkF hh.2.2 (fρ (Fr E)) (fva (Fr E)) [] [] tl (fit (Fr E)) hh.1 (hh.2.1 + 1) (fbs (Fr E)) (fph (Fr E)) (frb (Fr E)) (ftb (Fr E)) (fie (Fr E)))) 0 = (updF Fr E (mkF hh.2.2 (fρ (Fr E)) (fva (Fr E)) [] [] tl (fit (Fr E)) hh.1 (hh.2.1 + 1) (fbs (Fr E)) (fph (Fr E)) (frb (Fr E)) (ftb (Fr E)) (fie (Fr E)))) E from congrArg _ c2, uN]
        rw [show Fr 0 = Fr E from congrArg Fr c2] at q3
        exact q3
      · rw [uE 0 c2]
        exact q3
    · rw [uN]
      refine ⟨?_, ?_, rfl, ?_, ?_, m102, t105⟩
      · rw [mO 109 (by omega) (by omega)]; exact V109
      · rw [sI_v]; rfl
      · rw [mO 123 (by omega) (by omega), V123]
        show nI K = nI (ftb (Fr E) + tl.length)
        rw [eK]
      · rw [tO 104 (by omega) (by omega) (by omega), W104]
        show nI K = nI (ftb (Fr E) + tl.length)
        rw [eK]
    · obtain ⟨w, i1, i2, i3, i4⟩ := a7
      exact ⟨w, by rw [mS 150 (by omega) (by omega) (by omega) (by omega) (by omega) (by omega) (by omega)]; exact i1, by rw [tS 111 (by omega) (by omega) (by omega) (by omega) (by omega) (by omega) (by omega) (by omega) (by omega)]; exact i2, i3, by rw [mS 151 (by omega) (by omega) (by omega) (by omega) (by omega) (by omega) (by omega), tS 110 (by omega) (by omega) (by omega) (by omega) (by omega) (by omega) (by omega) (by omega) (by omega)]; exact i4⟩
    · obtain ⟨k1, ⟨p, k2, k3, k4, k5⟩, k6, k7, k8, k9⟩ := a8
      refine ⟨by rw [mS 101 (by omega) (by omega) (by omega) (by omega) (by omega) (by omega) (by omega), tS 108 (by omega) (by omega) (by omega) (by omega) (by omega) (by omega) (by omega) (by omega) (by omega)]; exact k1, ⟨p, by rw [mS 104 (by omega) (by omega) (by omega) (by omega) (by omega) (by omega) (by omega)]; exact k2, by rw [tS 113 (by omega) (by omega) (by omega) (by omega) (by omega) (by omega) (by omega) (by omega) (by omega)]; exact k3, k4, by rw [mS 152 (by omega) (by omega) (by omega) (by omega) (by omega) (by omega) (by omega), tS 112 (by omega) (by omega) (by omega) (by omega) (by omega) (by omega) (by omega) (by omega) (by omega)]; exact k5⟩, ?_, by rw [mS 107 (by omega) (by omega) (by omega) (by omega) (by omega) (by omega) (by omega)]; exact k7, by rw [tS 121 (by omega) (by omega) (by omega) (by omega) (by omega) (by omega) (by omega) (by omega) (by omega)]; exact k8, fun q hq => by rw [mS 115 (by omega) (by omega) (by omega) (by omega) (by omega) (by omega) (by omega), tS 101 (by omega) (by omega) (by omega) (by omega) (by omega) (by omega) (by omega) (by omega) (by omega)]; exact k9 q hq⟩
      rw [mO 106 (by omega) (by omega), V106, tO 109 (by omega) (by omega) (by omega), W109, k6]
    · obtain ⟨k1, k2, k3, k4⟩ := a9
      exact ⟨fun k hk => by rw [mS k (by omega) (by omega) (by omega) (by omega) (by omega) (by omega) (by omega)]; exact k1 k hk, (show V.2 = M0.2 from v2.trans (hM2.trans k2)), fun k hk => by rw [tS k (by omega) (by omega) (by omega) (by omega) (by omega) (by omega) (by omega) (by omega) (by omega)]; exact k3 k hk, (show V'.2 = T0.2 from v5.trans (hT2.trans k4))⟩
end RZ2
