/-! the class's parser: PRIMARIES -/
section CXP
variable {nf d : Nat} {T T' T1 T2 T3 : gSt} {X : Lx} {i j k p p' q m n e c z lo hi : Nat} {x y r : Int32} {t ta tb : Tr} {K : Int32 → Int64 → gSt → gR} {Q : Int32 → Int64 → gSt → Prop}
/-- what a fresh node holds -/
def FrN (T : gSt) (p : Nat) (a b : Int32) : Prop := T.1 11 p = a ∧ T.1 12 p = b ∧ T.1 13 p = 0 ∧ T.1 14 p = 0 ∧ T.1 15 p = 0 ∧ T.1 16 p = 0 ∧ T.1 17 p = 0 ∧ T.1 18 p = 0
theorem FrN.mk {a b : Int32} : FrN (cNd T p a b) p a b := by
  refine ⟨?_, ?_, ?_, ?_, ?_, ?_, ?_, ?_⟩ <;> (rw [cNd_v (by omega) (by omega), if_pos rfl]; rfl)
theorem FrN.mv {a b : Int32} (h : FrN T p a b) : FrN (cMv T i) p a b := by
  unfold FrN at *
  rw [cMv_o (by omega), cMv_o (by omega), cMv_o (by omega), cMv_o (by omega), cMv_o (by omega), cMv_o (by omega), cMv_o (by omega), cMv_o (by omega)]
  exact h
theorem at1 (hX : XO X) (hg : GC X T i p) (hi : i < xn X) (hd : 2 ≤ d) : PP nf d 58 T [] [] = some (0, 0, cMv T (i + 1)) := by
  obtain ⟨d, rfl⟩ : ∃ g, d = g + 2 := ⟨d - 2, by omega⟩
  exact c_adv hX hg hi
theorem cmQ_mk {rw : Bool} {res : Except Nat (Tr × Tr × Nat)} {f : Tr → Tr → Tr} {a : Int32} (h : CkQ X T2 j (p + 1) p rw res T') (hg : GC X T i p) (hp : p ≤ i + 2) (hX : XO X) (hij : i ≤ j) (hF : FC T T2) (hN : Nf T T2 p) (hv : FrN T2 p a (nI i)) (hr : ∀ (u w : Tr) (j' p' : Nat), res = .ok (u, w, j') → p + 1 < p' → T'.1 11 p = a → T'.1 12 p = nI i → T'.1 17 p = nI (p + 1) → (if rw = true then ∃ m, p + 1 < m ∧ m < p' ∧ cRX T' (RcG X T' u) (p + 1) m ∧ T'.1 14 (p + 1) = nI m ∧ cRX T' (RcG X T' w) m p' else cRX T' (RcG X T' u) (p + 1) p') → RcG X T' (f u w) 0 p p' 0) : CmQ X T i p (mb res fun u w j => .ok (f u w, j)) (nI p) T' := by
  have p8 := hg.p8 hX hp
  cases res with
  | error e => exact ⟨h.1, hF.tr h.2, p, rfl, p8⟩
  | ok y =>
    obtain ⟨u, w, j'⟩ := y
    obtain ⟨p', g1, a1, a2, a3, f1, n1, v17, v15, rx⟩ := h
    have o : ∀ k, 11 ≤ k → k ≤ 18 → k ≠ 17 → T'.1 k p = T2.1 k p := fun k b1 b2 b3 => n1 k p b1 b2 (by omega) (fun w => b3 w.1)
    refine ⟨p', g1, by omega, by omega, by omega, rfl, hF.tr f1, fun k j' b1 b2 b3 => ?_, ?_, ?_, ?_, ?_, ?_⟩
    · rw [n1 k j' b1 b2 (by omega) (fun w => by omega), hN k j' b1 b2 b3]
    · rw [o 13 (by omega) (by omega) (by omega)]; exact hv.2.2.1
    · rw [o 14 (by omega) (by omega) (by omega)]; exact hv.2.2.2.1
    · rw [o 15 (by omega) (by omega) (by omega)]; exact hv.2.2.2.2.1
    · rw [o 18 (by omega) (by omega) (by omega)]; exact hv.2.2.2.2.2.2.2
    · exact hr u w j' p' rfl a2 (by rw [o 11 (by omega) (by omega) (by omega)]; exact hv.1) (by rw [o 12 (by omega) (by omega) (by omega)]; exact hv.2.1) v17 rx
theorem cmQ_leaf {a : Int32} (hg : GC X T i p) (hi : i < xn X) (hX : XO X) (hp : p ≤ i + 2) (ha : a = nI (xK X i)) : CmQ X T i p (.ok (tD 1 i 0 tZ tZ, i + 1)) (nI p) (cMv (cNd T p a (nI i)) (i + 1)) := by
  have hv : FrN (cMv (cNd T p a (nI i)) (i + 1)) p a (nI i) := FrN.mk.mv
  refine ⟨p + 1, hg.nd.mv (by omega), by omega, by omega, by omega, rfl, FC.nd.tr FC.mv, Nf.nd.tr Nf.mv, hv.2.2.1, hv.2.2.2.1, hv.2.2.2.2.1, hv.2.2.2.2.2.2.2, ?_⟩
  exact ⟨rfl, rfl, by rw [hv.1, ha], hv.2.1⟩
/-- a call's part behind its name -/
theorem c_call (hX : XO X) (hnf : 100 ≤ nf) (hm : m ≤ 20) (hG : CPx nf X m) (hg : GC X T i p) (hp : p ≤ i + 2) (hi : i < xn X) (hd : 8 * m + 16 ≤ d) (hg2 : GC X T2 (i + 1) (p + 1)) (hF : FC T T2) (hN : Nf T T2 p) (hv : FrN T2 p (nI (xK X i)) (nI i)) : wp (rj_Parser_parsePrimary_164 (PP nf d) nf T2 (nI (20 - m)) (nI p)) (fun r _ T' => CmQ X T i p (ek (xK X) 42 (i + 1 + rgs (xK X) 3 (i + 1)) (eb (pArgs (xK X) (pEx (xK X) m 0) 43 4001 0 (i + 1 + rgs (xK X) 3 (i + 1) + 1)) fun a j => .ok (tD 6 i (rgs (xK X) 3 (i + 1)) a tZ, j))) r T') := by
  have p8 := hg.p8 hX hp
  have hxn := hX.1
  have zp : inb (nI p) 4008 := nin (by omega) (by omega)
  have cp : (nI p).toNatClampNeg = p := nc (by omega)
  have e21 : nI (20 - m) + 1 = nI (21 - m) := by rw [nI_1, show 20 - m + 1 = 21 - m by omega]
  have rn := rgs_n (m := 3) hX (show i + 1 ≤ xn X by omega)
  have rb := (rgs_b (xK X) 3 (i + 1)).1
  unfold rj_Parser_parsePrimary_164
  simp only [gd, if_pos zp, cp]
  rw [stK]
  have g3 : GC X (sI T2 11 p 63) (i + 1) (p + 1) := hg2.wr (by omega)
  rw [c_regs (m := 3) (x := 3) hX hnf g3 (by omega) rfl (by omega), bis, stK, e21]
  generalize hrg : rgs (xK X) 3 (i + 1) = rg at *
  have g4 : GC X (sI (cMv (sI T2 11 p 63) (i + 1 + rg)) 16 p (nI rg)) (i + 1 + rg) (p + 1) := (g3.mv (by omega)).wr (by omega)
  have f4 : FC T (sI (cMv (sI T2 11 p 63) (i + 1 + rg)) 16 p (nI rg)) := ((hF.tr (FC.wr (by omega))).tr FC.mv).tr (FC.wr (by omega))
  have v4 : ∀ k j', 11 ≤ k → k ≤ 18 → (sI (cMv (sI T2 11 p 63) (i + 1 + rg)) 16 p (nI rg)).1 k j' = if j' = p ∧ k = 11 then 63 else if j' = p ∧ k = 16 then nI rg else T2.1 k j' := fun k j' b1 b2 => by
    rw [rdI]
    by_cases c1 : k = 16 ∧ j' = p
    · rw [if_pos c1, if_neg (by omega), if_pos (by omega)]
    · rw [if_neg c1, cMv_o (by omega), rdI]
      by_cases c2 : k = 11 ∧ j' = p
      · rw [if_pos c2, if_pos (by omega)]
      · rw [if_neg c2, if_neg (by omega), if_neg (by omega)]
  generalize sI (cMv (sI T2 11 p 63) (i + 1 + rg)) 16 p (nI rg) = T4 at *
  unfold ek
  refine w_need (k := 42) hX g4 rfl (by omega) (by omega) (fun k42 => ?_) (fun k42 => ?_)
  · rw [if_pos k42]
    have hi2 := K_lt hX k42 (by omega)
    have g5 := g4.mv (j := i + 1 + rg + 1) (by omega)
    refine wp_bi (c_args (c := 43) hX hnf hm hG (Or.inl rfl) rfl (by omega) g5 (by omega)) ?_
    intro r _ T6 h6
    rw [stK]
    generalize pArgs (xK X) (pEx (xK X) m 0) 43 4001 0 (i + 1 + rg + 1) = res at *
    cases res with
    | error e =>
      obtain ⟨b6, f6, _⟩ := h6
      exact wp_some ⟨b6.wr (by omega), ((f4.tr FC.mv).tr f6).tr (FC.wr (by omega)), p, rfl, p8⟩
    | ok y =>
      obtain ⟨a, j⟩ := y
      obtain ⟨p6, g6, a1, a2, a3, er, f6, n6, rl⟩ := h6
      have w7 : ∀ k j', 11 ≤ k → k ≤ 18 → j' < p + 1 → ¬ (k = 17 ∧ j' = p) → (sI T6 17 p r).1 k j' = T4.1 k j' := fun k j' b1 b2 b3 b4 => by
        rw [rdI, if_neg b4, n6 k j' b1 b2 b3]
        exact Nf.mv (p := p + 1) k j' b1 b2 b3
      have u17 : (sI T6 17 p r).1 17 p = r := sI_v
      have rl7 : RcG X (sI T6 17 p r) a 2 (p + 1) p6 0 := RcG.ag a 2 _ _ _ (by omega) rl (fun g j' b1 b2 b3 b4 _ => by rw [rdI, if_neg (fun w => by omega)])
      have g7 : GC X (sI T6 17 p r) j p6 := g6.wr (by omega)
      have f7 : FC T (sI T6 17 p r) := ((f4.tr FC.mv).tr f6).tr (FC.wr (by omega))
      generalize sI T6 17 p r = T7 at *
      refine wp_some ⟨p6, g7, by omega, by omega, by omega, rfl, f7, fun k j' b1 b2 b3 => ?_, ?_, ?_, ?_, ?_, ?_⟩
      · rw [w7 k j' b1 b2 (by omega) (fun w => by omega), v4 k j' b1 b2, if_neg (by omega), if_neg (by omega), hN k j' b1 b2 b3]
      · rw [w7 13 p (by omega) (by omega) (by omega) (by omega), v4 13 p (by omega) (by omega), if_neg (by omega), if_neg (by omega)]; exact hv.2.2.1
      · rw [w7 14 p (by omega) (by omega) (by omega) (by omega), v4 14 p (by omega) (by omega), if_neg (by omega), if_neg (by omega)]; exact hv.2.2.2.1
      · rw [w7 15 p (by omega) (by omega) (by omega) (by omega), v4 15 p (by omega) (by omega), if_neg (by omega), if_neg (by omega)]; exact hv.2.2.2.2.1
      · rw [w7 18 p (by omega) (by omega) (by omega) (by omega), v4 18 p (by omega) (by omega), if_neg (by omega), if_neg (by omega)]; exact hv.2.2.2.2.2.2.2
      · refine ⟨by omega, rfl, ?_, ?_, ?_, ?_, rl7⟩
        · rw [w7 11 p (by omega) (by omega) (by omega) (by omega), v4 11 p (by omega) (by omega), if_pos (by omega)]
        · rw [w7 12 p (by omega) (by omega) (by omega) (by omega), v4 12 p (by omega) (by omega), if_neg (by omega), if_neg (by omega)]; exact hv.2.1
        · rw [w7 16 p (by omega) (by omega) (by omega) (by omega), v4 16 p (by omega) (by omega), if_neg (by omega), if_pos (by omega)]
        · rw [u17, er]
  · rw [if_neg k42]
    have b5 := g4.bd hX (by omega)
    rw [zb_args hX (by omega) b5 (by omega), bis, stK]
    exact wp_some ⟨b5.wr (by omega), (f4.tr FC.bd).tr (FC.wr (by omega)), p, rfl, p8⟩
/-- new: the REGION, the TITLE and what is to lie there -/
theorem c_new (hX : XO X) (hnf : 100 ≤ nf) (hm : m ≤ 20) (hG : CPx nf X m) (hg : GC X T i p) (hp : p ≤ i + 2) (hi : i < xn X) (hd : 8 * m + 17 ≤ d) (hg2 : GC X T2 (i + 1) (p + 1)) (hF : FC T T2) (hN : Nf T T2 p) (hv : FrN T2 p 28 (nI i)) : wp (bi (PP nf d 83 T2 [nI p, nI (20 - m)] []) fun _ _ T19 => some (nI p, 0, T19)) (fun r _ T' => CmQ X T i p (ek (xK X) 4 (i + 1) (ek (xK X) 3 (i + 2) (if xK X (i + 3 + rgs (xK X) 3 (i + 3)) = 49 then ek (xK X) 2 (i + 3 + rgs (xK X) 3 (i + 3) + 1) (ek (xK X) 42 (i + 3 + rgs (xK X) 3 (i + 3) + 2) (eb (pEx (xK X) m 0 (i + 3 + rgs (xK X) 3 (i + 3) + 3)) fun a j => ek (xK X) 43 j (.ok (tD 7 i (rgs (xK X) 3 (i + 3)) a tZ, j + 1)))) else ek (xK X) 40 (i + 3 + rgs (xK X) 3 (i + 3)) (eb (pArgs (xK X) (pEx (xK X) m 0) 41 4001 0 (i + 3 + rgs (xK X) 3 (i + 3) + 1)) fun a j => .ok (tD 7 i (rgs (xK X) 3 (i + 3)) a tZ, j))))) r T') := by
  obtain ⟨d, rfl⟩ : ∃ g, d = g + 1 := ⟨d - 1, by omega⟩
  have p8 := hg.p8 hX hp
  have hxn := hX.1
  have zp : inb (nI p) 4008 := nin (by omega) (by omega)
  have cp : (nI p).toNatClampNeg = p := nc (by omega)
  have e21 : nI (20 - m) + 1 = nI (21 - m) := by rw [nI_1, show 20 - m + 1 = 21 - m by omega]
  -- behind a fault
  have bad : ∀ (Tb : gSt) (e : Nat), Bd X Tb e → FC T Tb → wp (bi (bi (PP nf d 63 Tb [3] []) fun r3 l3 T3 => gd (inb (nI p) 4008) <| stK (sI T3 16 (nI p).toNatClampNeg r3) fun T4 => bi (PP nf d 59 T4 [(49 : Int32)] []) fun r5 l5 T5 => if r5 = (0 : Int32) then (bi (PP nf d 60 T5 [(40 : Int32)] []) fun r7 l7 T7 => bi (PP nf d 85 T7 [nI (20 - m) + (1 : Int32), (41 : Int32)] []) fun r8 l8 T8 => gd (inb (nI p) 4008) <| stK (sI T8 17 (nI p).toNatClampNeg r8) fun T9 => some (0, 0, T9))
    else (bi (PP nf d 60 T5 [(2 : Int32)] []) fun r10 l10 T10 => bi (PP nf d 84 T10 [nI p, (28 : Int32), nI (20 - m)] []) fun r11 l11 T11 => some (0, 0, T11))) fun _ _ T19 => some (nI p, 0, T19)) (fun r _ T' => CxE X T e r T') := by
    intro Tb e hb fb
    rw [zb_regs (by omega) hb (by omega), bis, gd, if_pos zp, stK, cp]
    have b1 : Bd X (sI Tb 16 p 0) e := hb.wr (by omega)
    have f1 : FC T (sI Tb 16 p 0) := fb.tr (FC.wr (by omega))
    generalize sI Tb 16 p 0 = T5 at *
    obtain ⟨d, rfl⟩ : ∃ g, d = g + 5 := ⟨d - 5, by omega⟩
    rw [b_acc b1, bis, if_pos rfl, b_need hX b1, bis, zb_args hX (by omega) b1 (by omega), bis, gd, if_pos zp, stK, bis]
    exact wp_some ⟨b1.wr (by omega), f1.tr (FC.wr (by omega)), p, rfl, p8⟩
  rw [e_Parser_parseNew]
  unfold rb_Parser_parseNew ek
  obtain ⟨d3, hd3⟩ : ∃ g, d = g + 4 := ⟨d - 4, by omega⟩
  by_cases k4 : xK X (i + 1) = 4
  · rw [if_pos k4]
    have h1 := K_lt hX k4 (by omega)
    rw [show PP nf d 60 T2 [4] [] = some (0, 0, if xK X (i + 1) = 4 then cMv T2 (i + 1 + 1) else cBd X (i + 1) T2) by rw [hd3]; exact c_need (k := 4) hX hg2 (by omega), if_pos k4, bis]
    have g3 := hg2.mv (j := i + 1 + 1) (by omega)
    have f3 : FC T (cMv T2 (i + 1 + 1)) := hF.tr FC.mv
    have n3 : Nf T (cMv T2 (i + 1 + 1)) p := hN.tr Nf.mv
    have v3 := hv.mv (i := i + 1 + 1)
    generalize cMv T2 (i + 1 + 1) = T3 at *
    by_cases k3 : xK X (i + 2) = 3
    · rw [if_pos k3]
      have h2 := K_lt hX k3 (by omega)
      rw [show PP nf d 60 T3 [3] [] = some (0, 0, if xK X (i + 1 + 1) = 3 then cMv T3 (i + 1 + 1 + 1) else cBd X (i + 1 + 1) T3) by rw [hd3]; exact c_need (k := 3) hX g3 (by omega), if_pos k3, bis]
      have g4 := g3.mv (j := i + 3) (by omega)
      have f4 : FC T (cMv T3 (i + 3)) := f3.tr FC.mv
      have n4 : Nf T (cMv T3 (i + 3)) p := n3.tr Nf.mv
      have v4 := v3.mv (i := i + 3)
      rw [show i + 1 + 1 + 1 = i + 3 by omega]
      generalize cMv T3 (i + 3) = T4 at *
      have rn := rgs_n (m := 3) hX (show i + 3 ≤ xn X by omega)
      have rb := (rgs_b (xK X) 3 (i + 3)).1
      rw [c_regs (m := 3) (x := 3) hX hnf g4 (by omega) rfl (by omega), bis]
      generalize hrg : rgs (xK X) 3 (i + 3) = rg at *
      simp only [gd, if_pos zp, cp]
      rw [stK]
      have g5 : GC X (sI (cMv T4 (i + 3 + rg)) 16 p (nI rg)) (i + 3 + rg) (p + 1) := (g4.mv (by omega)).wr (by omega)
      have f5 : FC T (sI (cMv T4 (i + 3 + rg)) 16 p (nI rg)) := (f4.tr FC.mv).tr (FC.wr (by omega))
      have v5 : ∀ k j', 11 ≤ k → k ≤ 18 → (sI (cMv T4 (i + 3 + rg)) 16 p (nI rg)).1 k j' = if j' = p ∧ k = 16 then nI rg else T4.1 k j' := fun k j' b1 b2 => by
        rw [rdI]
        by_cases c1 : k = 16 ∧ j' = p
        · rw [if_pos c1, if_pos (by omega)]
        · rw [if_neg c1, if_neg (by omega), cMv_o (by omega)]
      generalize sI (cMv T4 (i + 3 + rg)) 16 p (nI rg) = T5 at *
      rw [show PP nf d 59 T5 [49] [] = (if xK X (i + 3 + rg) = 49 then some (1, 0, cMv T5 (i + 3 + rg + 1)) else some (0, 0, T5)) by rw [hd3]; exact c_acc (k := 49) hX g5 (by omega)]
      by_cases k49 : xK X (i + 3 + rg) = 49
      · rw [if_pos k49, if_pos k49, bis, if_neg (by decide)]
        have h3 := K_lt hX k49 (by omega)
        have g6 := g5.mv (j := i + 3 + rg + 1) (by omega)
        by_cases k2 : xK X (i + 3 + rg + 1) = 2
        · rw [if_pos k2, show PP nf d 60 (cMv T5 (i + 3 + rg + 1)) [2] [] = some (0, 0, if xK X (i + 3 + rg + 1) = 2 then cMv (cMv T5 (i + 3 + rg + 1)) (i + 3 + rg + 1 + 1) else cBd X (i + 3 + rg + 1) (cMv T5 (i + 3 + rg + 1))) by rw [hd3]; exact c_need (k := 2) hX g6 (by omega), if_pos k2, bis, cMv_2]
          have h4 := K_lt hX k2 (by omega)
          have g7 := g5.mv (j := i + 3 + rg + 1 + 1) (by omega)
          have f7 : FC T (cMv T5 (i + 3 + rg + 1 + 1)) := f5.tr FC.mv
          have v7 : ∀ k j', 11 ≤ k → k ≤ 18 → (cMv T5 (i + 3 + rg + 1 + 1)).1 k j' = if j' = p ∧ k = 16 then nI rg else T4.1 k j' := fun k j' b1 b2 => by
            rw [cMv_o (by omega)]
            exact v5 k j' b1 b2
          generalize cMv T5 (i + 3 + rg + 1 + 1) = T7 at *
          have go := c_mk (rw := false) (q := p) (x := 28) hX hnf hm hG g7 (by omega) (by omega) (show 8 * m + 14 ≤ d by omega) (by decide)
          obtain ⟨r, l, T', e', h'⟩ := go
          rw [e', bis, bis]
          have pe := pmk_1 (Kn := xK X) (i := i + 3 + rg + 2) (G := pEx (xK X) m 0) (f := fun a => tD 7 i rg a tZ)
          unfold ek at pe
          rw [show i + 3 + rg + 3 = i + 3 + rg + 2 + 1 by omega, pe]
          rw [show i + 3 + rg + 1 + 1 = i + 3 + rg + 2 by omega] at h'
          generalize pMk (xK X) (pEx (xK X) m 0) false (i + 3 + rg + 2) = res at *
          cases res with
          | error e => exact wp_some ⟨h'.1, f7.tr h'.2, p, rfl, p8⟩
          | ok y =>
            obtain ⟨u, w, j'⟩ := y
            obtain ⟨q', g1, a1, a2, a3, f1, n1, v17, v15, rx⟩ := h'
            rw [if_neg (show ¬ (false = true) by decide)] at rx
            have o : ∀ k, 11 ≤ k → k ≤ 18 → k ≠ 17 → T'.1 k p = T7.1 k p := fun k b1 b2 b3 => n1 k p b1 b2 (by omega) (fun w => b3 w.1)
            have o2 : ∀ k, 11 ≤ k → k ≤ 18 → k ≠ 17 → k ≠ 16 → T'.1 k p = T4.1 k p := fun k b1 b2 b3 b4 => by rw [o k b1 b2 b3, v7 k p b1 b2, if_neg (by omega)]
            refine wp_some ⟨q', g1, by omega, by omega, by omega, rfl, f7.tr f1, fun k j' b1 b2 b3 => ?_, ?_, ?_, ?_, ?_, ?_⟩
            · rw [n1 k j' b1 b2 (by omega) (fun w => by omega), v7 k j' b1 b2, if_neg (by omega), n4 k j' b1 b2 b3]
            · rw [o2 13 (by omega) (by omega) (by omega) (by omega)]; exact v4.2.2.1
            · rw [o2 14 (by omega) (by omega) (by omega) (by omega)]; exact v4.2.2.2.1
            · rw [o2 15 (by omega) (by omega) (by omega) (by omega)]; exact v4.2.2.2.2.1
            · rw [o2 18 (by omega) (by omega) (by omega) (by omega)]; exact v4.2.2.2.2.2.2.2
            · show Rc0 X T' (RcG X T' u) (RcG X T' tZ) (isZ u) 7 i rg p q' 0
              refine ⟨by omega, rfl, ?_, ?_, ?_, ?_⟩
              · rw [o2 11 (by omega) (by omega) (by omega) (by omega)]; exact v4.1
              · rw [o2 12 (by omega) (by omega) (by omega) (by omega)]; exact v4.2.1
              · rw [o 16 (by omega) (by omega) (by omega), v7 16 p (by omega) (by omega), if_pos (by omega)]
              · rw [if_pos k49]
                exact ⟨v17, v15.2 rfl, rx⟩
        · rw [if_neg k2, show PP nf d 60 (cMv T5 (i + 3 + rg + 1)) [2] [] = some (0, 0, if xK X (i + 3 + rg + 1) = 2 then cMv (cMv T5 (i + 3 + rg + 1)) (i + 3 + rg + 1 + 1) else cBd X (i + 3 + rg + 1) (cMv T5 (i + 3 + rg + 1))) by rw [hd3]; exact c_need (k := 2) hX g6 (by omega), if_neg k2, bis]
          have b6 := g6.bd hX (by omega)
          have go := zb_mk (nf := nf) (d := d) (q := p) (x := 28) (y := nI (20 - m)) hX (by omega) b6 p8 (by omega)
          obtain ⟨r, l, T', e', h'⟩ := go
          rw [e', bis, bis]
          exact wp_some ⟨h'.1, ((f5.tr FC.mv).tr FC.bd).tr h'.2, p, rfl, p8⟩
      · rw [if_neg k49, if_neg k49, bis, if_pos rfl, e21]
        by_cases k40 : xK X (i + 3 + rg) = 40
        · have h3 := K_lt hX k40 (by omega)
          rw [if_pos k40, show PP nf d 60 T5 [40] [] = some (0, 0, if xK X (i + 3 + rg) = 40 then cMv T5 (i + 3 + rg + 1) else cBd X (i + 3 + rg) T5) by rw [hd3]; exact c_need (k := 40) hX g5 (by omega), if_pos k40, bis]
          have g6 := g5.mv (j := i + 3 + rg + 1) (by omega)
          have go := c_args (c := 41) (x := 41) hX hnf hm hG (Or.inr rfl) rfl (show 8 * m + 15 ≤ d by omega) g6 (by omega)
          obtain ⟨r, l, T6, e', h6⟩ := go
          rw [e', bis, stK, bis]
          generalize pArgs (xK X) (pEx (xK X) m 0) 41 4001 0 (i + 3 + rg + 1) = res at *
          cases res with
          | error e =>
            obtain ⟨b6, f6, _⟩ := h6
            exact wp_some ⟨b6.wr (by omega), ((f5.tr FC.mv).tr f6).tr (FC.wr (by omega)), p, rfl, p8⟩
          | ok y =>
            obtain ⟨a, j⟩ := y
            obtain ⟨p6, g6', a1, a2, a3, er, f6, n6, rl⟩ := h6
            have w7 : ∀ k j', 11 ≤ k → k ≤ 18 → j' < p + 1 → ¬ (k = 17 ∧ j' = p) → (sI T6 17 p r).1 k j' = T5.1 k j' := fun k j' b1 b2 b3 b4 => by
              rw [rdI, if_neg b4, n6 k j' b1 b2 b3]
              exact Nf.mv (p := p + 1) k j' b1 b2 b3
            have u17 : (sI T6 17 p r).1 17 p = r := sI_v
            have rl7 : RcG X (sI T6 17 p r) a 2 (p + 1) p6 0 := RcG.ag a 2 _ _ _ (by omega) rl (fun g j' b1 b2 b3 b4 _ => by rw [rdI, if_neg (fun w => by omega)])
            have g7 : GC X (sI T6 17 p r) j p6 := g6'.wr (by omega)
            have f7 : FC T (sI T6 17 p r) := ((f5.tr FC.mv).tr f6).tr (FC.wr (by omega))
            generalize sI T6 17 p r = T7 at *
            have o2 : ∀ k, 11 ≤ k → k ≤ 18 → k ≠ 17 → k ≠ 16 → T7.1 k p = T4.1 k p := fun k b1 b2 b3 b4 => by rw [w7 k p b1 b2 (by omega) (by omega), v5 k p b1 b2, if_neg (by omega)]
            refine wp_some ⟨p6, g7, by omega, by omega, by omega, rfl, f7, fun k j' b1 b2 b3 => ?_, ?_, ?_, ?_, ?_, ?_⟩
            · rw [w7 k j' b1 b2 (by omega) (fun w => by omega), v5 k j' b1 b2, if_neg (by omega), n4 k j' b1 b2 b3]
            · rw [o2 13 (by omega) (by omega) (by omega) (by omega)]; exact v4.2.2.1
            · rw [o2 14 (by omega) (by omega) (by omega) (by omega)]; exact v4.2.2.2.1
            · rw [o2 15 (by omega) (by omega) (by omega) (by omega)]; exact v4.2.2.2.2.1
            · rw [o2 18 (by omega) (by omega) (by omega) (by omega)]; exact v4.2.2.2.2.2.2.2
            · show Rc0 X T7 (RcG X T7 a) (RcG X T7 tZ) (isZ a) 7 i rg p p6 0
              refine ⟨by omega, rfl, ?_, ?_, ?_, ?_⟩
              · rw [o2 11 (by omega) (by omega) (by omega) (by omega)]; exact v4.1
              · rw [o2 12 (by omega) (by omega) (by omega) (by omega)]; exact v4.2.1
              · rw [w7 16 p (by omega) (by omega) (by omega) (by omega), v5 16 p (by omega) (by omega), if_pos (by omega)]
              · rw [if_neg k49]
                exact ⟨by rw [u17, er], rl7⟩
        · rw [if_neg k40, show PP nf d 60 T5 [40] [] = some (0, 0, if xK X (i + 3 + rg) = 40 then cMv T5 (i + 3 + rg + 1) else cBd X (i + 3 + rg) T5) by rw [hd3]; exact c_need (k := 40) hX g5 (by omega), if_neg k40, bis]
          have b5 := g5.bd hX (by omega)
          rw [zb_args hX (by omega) b5 (by omega), bis, stK, bis]
          exact wp_some ⟨b5.wr (by omega), (f5.tr FC.bd).tr (FC.wr (by omega)), p, rfl, p8⟩
    · rw [if_neg k3]
      rw [show PP nf d 60 T3 [3] [] = some (0, 0, if xK X (i + 1 + 1) = 3 then cMv T3 (i + 1 + 1 + 1) else cBd X (i + 1 + 1) T3) by rw [hd3]; exact c_need (k := 3) hX g3 (by omega), if_neg k3, bis]
      exact bad _ _ (g3.bd hX (by omega)) (f3.tr FC.bd)
  · rw [if_neg k4]
    rw [show PP nf d 60 T2 [4] [] = some (0, 0, if xK X (i + 1) = 4 then cMv T2 (i + 1 + 1) else cBd X (i + 1) T2) by rw [hd3]; exact c_need (k := 4) hX hg2 (by omega), if_neg k4, bis]
    have b3 := hg2.bd hX (by omega)
    rw [show PP nf d 60 (cBd X (i + 1) T2) [3] [] = some (0, 0, cBd X (i + 1) T2) by rw [hd3]; exact b_need hX b3, bis]
    exact bad _ _ b3 (hF.tr FC.bd)
end CXP
