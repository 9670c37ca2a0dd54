/-! the class's parser: all PRIMARIES, TERMS, EXPRS -/
section CXQ
variable {nf d : Nat} {T T' T1 T2 T3 : gSt} {X : Lx} {i j k p p' q m n e c z lo hi : Nat} {x y r : Int32} {t ta tb : Tr} {K : Int32 → Int64 → gSt → gR} {Q : Int32 → Int64 → gSt → Prop}
theorem c_prim (hX : XO X) (hnf : 100 ≤ nf) (hm : m ≤ 20) (hG : CPx nf X m) (hg : GC X T i p) (hp : p ≤ i + 2) (hd : 8 * m + 18 ≤ d) : wp (PP nf d 82 T [nI (20 - m)] []) (fun r _ T' => CmQ X T i p (pPrim (xK X) (pEx (xK X) m) i) r T') := by
  obtain ⟨d, rfl⟩ : ∃ g, d = g + 1 := ⟨d - 1, by omega⟩
  have hxn := hX.1
  have hi0 := hg.2.1
  have p8 := hg.p8 hX hp
  have e21 : nI (20 - m) + 1 = nI (21 - m) := by rw [nI_1, show 20 - m + 1 = 21 - m by omega]
  have zp : inb (nI p) 4008 := nin (by omega) (by omega)
  have cp : (nI p).toNatClampNeg = p := nc (by omega)
  rw [e_Parser_parsePrimary]
  unfold rb_Parser_parsePrimary
  rw [if_pos hg.2.2.1]
  rw [vK, hg.lk]
  refine w_node hg p8 (by omega) ?_
  have g3 : GC X (cNd T p (nI (xK X i)) (nI i)) i (p + 1) := hg.nd
  have f3 : FC T (cNd T p (nI (xK X i)) (nI i)) := FC.nd
  have n3 : Nf T (cNd T p (nI (xK X i)) (nI i)) p := Nf.nd
  have v3 : FrN (cNd T p (nI (xK X i)) (nI i)) p (nI (xK X i)) (nI i) := FrN.mk
  have leaf : i < xn X → CmQ X T i p (.ok (tD 1 i 0 tZ tZ, i + 1)) (nI p) (cMv (cNd T p (nI (xK X i)) (nI i)) (i + 1)) := fun hi => cmQ_leaf hg hi hX hp rfl
  have a3 : i < xn X → PP nf d 58 (cNd T p (nI (xK X i)) (nI i)) [] [] = some (0, 0, cMv (cNd T p (nI (xK X i)) (nI i)) (i + 1)) := fun hi => at1 hX g3 hi (by omega)
  generalize cNd T p (nI (xK X i)) (nI i) = T3 at *
  have g4 : i < xn X → GC X (cMv T3 (i + 1)) (i + 1) (p + 1) := fun hi => g3.mv (by omega)
  have f4 : FC T (cMv T3 (i + 1)) := f3.tr FC.mv
  have n4 : Nf T (cMv T3 (i + 1)) p := n3.tr Nf.mv
  have v4 : FrN (cMv T3 (i + 1)) p (nI (xK X i)) (nI i) := v3.mv
  unfold pPrim
  by_cases c : xK X i = 42
  · have hi := K_lt hX c (by omega)
    rw [if_pos c, c, show (nI 42 : Int32) = 42 from rfl, if_neg (by decide), if_neg (by decide), if_neg (by decide), if_neg (by decide), if_neg (by decide), if_neg (by decide), if_neg (by decide), if_neg (by decide), if_neg (by decide), if_neg (by decide), if_pos rfl]
    rw [c] at v3
    have pe := pmk_1 (Kn := xK X) (i := i) (G := pEx (xK X) m 0) (f := fun a => tD 2 i 0 a tZ)
    unfold ek at pe
    rw [if_pos c] at pe
    unfold ek
    rw [pe]
    refine wp_bi (c_mk (rw := false) hX hnf hm hG g3 (by omega) (by omega) (by omega) (by decide)) ?_
    intro r _ T' h'
    refine wp_some (cmQ_mk (f := fun a _ => tD 2 i 0 a tZ) h' hg hp hX (Nat.le_refl _) f3 n3 v3 ?_)
    intro u w j' p' _ q1 q2 q3 q4 rx
    rw [if_neg (show ¬ (false = true) by decide)] at rx
    exact ⟨by omega, rfl, q2, q3, q4, rx⟩
  rw [if_neg c]
  by_cases c5 : xK X i = 5 ∨ xK X i = 27 ∨ xK X i = 34 ∨ xK X i = 35
  · rw [if_pos c5]
    have hi := K_lt hX rfl (show 0 < xK X i by omega)
    have go := leaf hi
    rw [a3 hi]
    rcases c5 with h | h | h | h
    · rw [h, show (nI 5 : Int32) = 5 from rfl, if_neg (by decide), if_pos rfl, bis]
      exact wp_some go
    · rw [h, show (nI 27 : Int32) = 27 from rfl, if_neg (by decide), if_neg (by decide), if_pos rfl, bis]
      exact wp_some go
    · rw [h, show (nI 34 : Int32) = 34 from rfl, if_neg (by decide), if_neg (by decide), if_neg (by decide), if_neg (by decide), if_neg (by decide), if_neg (by decide), if_neg (by decide), if_neg (by decide), if_pos rfl, bis]
      exact wp_some go
    · rw [h, show (nI 35 : Int32) = 35 from rfl, if_neg (by decide), if_neg (by decide), if_neg (by decide), if_neg (by decide), if_neg (by decide), if_neg (by decide), if_neg (by decide), if_neg (by decide), if_neg (by decide), if_pos rfl, bis]
      exact wp_some go
  rw [if_neg c5]
  by_cases c2 : xK X i = 2
  · have hi := K_lt hX c2 (by omega)
    rw [if_pos c2]
    have go := leaf hi
    have call := c_call (T2 := cMv T3 (i + 1)) hX hnf hm hG hg hp hi (show 8 * m + 16 ≤ d by omega) (g4 hi) f4 n4 v4
    rw [a3 hi, c2, show (nI 2 : Int32) = 2 from rfl, if_pos rfl, bis]
    refine w_sees (k := 4) hX (g4 hi) rfl (by omega) (fun k4 => ?_) (fun k4 => ?_)
    · rw [if_pos (Or.inl k4)]
      exact call
    · refine w_sees (k := 42) hX (g4 hi) rfl (by omega) (fun k42 => ?_) (fun k42 => ?_)
      · rw [if_pos (Or.inr k42)]
        exact call
      · rw [if_neg (by omega)]
        exact wp_some go
  rw [if_neg c2]
  by_cases c28 : xK X i = 28
  · have hi := K_lt hX c28 (by omega)
    rw [if_pos c28]
    rw [c28] at v4
    have go := c_new (T2 := cMv T3 (i + 1)) hX hnf hm hG hg hp hi (show 8 * m + 17 ≤ d by omega) (g4 hi) f4 n4 v4
    rw [a3 hi, c28, show (nI 28 : Int32) = 28 from rfl, if_neg (by decide), if_neg (by decide), if_neg (by decide), if_pos rfl, bis]
    exact go
  rw [if_neg c28]
  by_cases c29 : xK X i = 29
  · have hi := K_lt hX c29 (by omega)
    rw [if_pos c29]
    have kk := c29
    rw [c29] at v4
    rw [c29, show (nI 29 : Int32) = 29 from rfl, if_neg (by decide), if_neg (by decide), if_neg (by decide), if_neg (by decide), if_pos rfl]
    rw [a3 hi, bis]
    unfold ek
    have pe := pmk_1 (Kn := xK X) (i := i + 2) (G := pEx (xK X) m 0) (f := fun a => tD 8 i 0 a tZ)
    unfold ek at pe
    refine w_need (k := 4) hX (g4 hi) rfl (by omega) (by omega) (fun k4 => ?_) (fun k4 => ?_)
    · have h2 := K_lt hX k4 (by omega)
      rw [if_pos k4, show i + 3 = i + 2 + 1 by omega, pe]
      have g5 := (g4 hi).mv (j := i + 2) (by omega)
      have f5 : FC T (cMv (cMv T3 (i + 1)) (i + 2)) := f4.tr FC.mv
      have n5 : Nf T (cMv (cMv T3 (i + 1)) (i + 2)) p := n4.tr Nf.mv
      have v5 := v4.mv (i := i + 2)
      refine wp_bi (c_mk (rw := false) hX hnf hm hG g5 (by omega) (by omega) (by omega) (by decide)) ?_
      intro r _ T' h'
      refine wp_some (cmQ_mk (f := fun a _ => tD 8 i 0 a tZ) h' hg hp hX (by omega) f5 n5 v5 ?_)
      intro u w j' p' _ q1 q2 q3 q4 rx
      rw [if_neg (show ¬ (false = true) by decide)] at rx
      refine ⟨by omega, rfl, by rw [q2, kk], q3, q4, ?_⟩
      rw [if_neg (by omega)]
      exact rx
    · rw [if_neg k4]
      have b5 := (g4 hi).bd hX (by omega)
      obtain ⟨r, l, T', e', h'⟩ := zb_mk (nf := nf) (d := d) (q := p) (x := 29) (y := nI (20 - m)) hX (by omega) b5 p8 (by omega)
      rw [e', bis]
      exact wp_some ⟨h'.1, (f4.tr FC.bd).tr h'.2, p, rfl, p8⟩
  rw [if_neg c29]
  by_cases c30 : xK X i = 30
  · have hi := K_lt hX c30 (by omega)
    rw [if_pos c30]
    have kk := c30
    rw [c30] at v4
    rw [c30, show (nI 30 : Int32) = 30 from rfl, if_neg (by decide), if_neg (by decide), if_neg (by decide), if_neg (by decide), if_neg (by decide), if_pos rfl]
    rw [a3 hi, bis]
    unfold ek
    have pe := pmk_2 (Kn := xK X) (i := i + 2) (G := pEx (xK X) m 0) (f := fun a b => tD 8 i 0 a b)
    unfold ek at pe
    refine w_need (k := 4) hX (g4 hi) rfl (by omega) (by omega) (fun k4 => ?_) (fun k4 => ?_)
    · have h2 := K_lt hX k4 (by omega)
      rw [if_pos k4, show i + 3 = i + 2 + 1 by omega, pe]
      have g5 := (g4 hi).mv (j := i + 2) (by omega)
      have f5 : FC T (cMv (cMv T3 (i + 1)) (i + 2)) := f4.tr FC.mv
      have n5 : Nf T (cMv (cMv T3 (i + 1)) (i + 2)) p := n4.tr Nf.mv
      have v5 := v4.mv (i := i + 2)
      refine wp_bi (c_mk (rw := true) hX hnf hm hG g5 (by omega) (by omega) (by omega) (by decide)) ?_
      intro r _ T' h'
      refine wp_some (cmQ_mk (f := fun a b => tD 8 i 0 a b) h' hg hp hX (by omega) f5 n5 v5 ?_)
      intro u w j' p' _ q1 q2 q3 q4 rx
      rw [if_pos rfl] at rx
      refine ⟨by omega, rfl, by rw [q2, kk], q3, q4, ?_⟩
      rw [if_pos kk]
      exact rx
    · rw [if_neg k4]
      have b5 := (g4 hi).bd hX (by omega)
      obtain ⟨r, l, T', e', h'⟩ := zb_mk (nf := nf) (d := d) (q := p) (x := 30) (y := nI (20 - m)) hX (by omega) b5 p8 (by omega)
      rw [e', bis]
      exact wp_some ⟨h'.1, (f4.tr FC.bd).tr h'.2, p, rfl, p8⟩
  rw [if_neg c30]
  by_cases c58 : xK X i = 58
  · have hi := K_lt hX c58 (by omega)
    rw [if_pos c58]
    have kk := c58
    rw [c58] at v4
    rw [a3 hi, c58, show (nI 58 : Int32) = 58 from rfl, if_neg (by decide), if_neg (by decide), if_neg (by decide), if_neg (by decide), if_neg (by decide), if_neg (by decide), if_neg (by decide), if_neg (by decide), if_neg (by decide), if_neg (by decide), if_neg (by decide), if_pos rfl, bis, e21]
    refine wp_bi (hG 1 (cMv T3 (i + 1)) (i + 1) (p + 1) d (by omega) (g4 hi) (by omega) (by omega)) ?_
    intro r _ T5 h5
    rw [gd, if_pos zp, cp, stK]
    generalize pEx (xK X) m 1 (i + 1) = res at *
    cases res with
    | error e =>
      obtain ⟨b5, f5, _⟩ := h5
      exact wp_some ⟨b5.wr (by omega), (f4.tr f5).tr (FC.wr (by omega)), p, rfl, p8⟩
    | ok y =>
      obtain ⟨a, j⟩ := y
      obtain ⟨p5, g5, a1, a2, a3', rfl, f5, n5, v14, v15, rx⟩ := h5
      rw [if_neg (by omega)] at rx
      obtain ⟨n13, z0, rz, fz⟩ := rx
      have n13' : (sI T5 17 p (nI (p + 1))).1 13 (p + 1) = 0 := by rw [sI_ne (by omega)]; exact n13
      have g6 : GC X (sI T5 17 p (nI (p + 1))) j p5 := g5.wr (by omega)
      have f6 : FC T (sI T5 17 p (nI (p + 1))) := (f4.tr f5).tr (FC.wr (by omega))
      have w6 : ∀ k j', 11 ≤ k → k ≤ 18 → j' < p + 1 → ¬ (k = 17 ∧ j' = p) → (sI T5 17 p (nI (p + 1))).1 k j' = (cMv T3 (i + 1)).1 k j' := fun k j' b1 b2 b3 b4 => by
        rw [rdI, if_neg b4, n5 k j' b1 b2 b3]
      have u17 : (sI T5 17 p (nI (p + 1))).1 17 p = nI (p + 1) := sI_v
      have le := (Rc_le _ _ _ _ _ (by omega) rz).1 rfl
      have rz6 : RcG X (sI T5 17 p (nI (p + 1))) a 0 (p + 1) p5 z0 := RcG.ag a 0 _ _ _ (by omega) rz (fun g j' b1 b2 b3 b4 _ => by rw [rdI, if_neg (fun w => by omega)])
      have fz6 : fnT (sI T5 17 p (nI (p + 1))) (p + 1) z0 := by
        unfold fnT at fz ⊢
        rw [sI_ne (g' := 18) (by omega), sI_ne (g' := 13) (by omega)]
        exact fz
      generalize sI T5 17 p (nI (p + 1)) = T6 at *
      refine wp_some ⟨p5, g6, by omega, by omega, by omega, rfl, f6, fun k j' b1 b2 b3 => ?_, ?_, ?_, ?_, ?_, ?_⟩
      · rw [w6 k j' b1 b2 (by omega) (fun w => by omega), n4 k j' b1 b2 b3]
      · rw [w6 13 p (by omega) (by omega) (by omega) (by omega)]; exact v4.2.2.1
      · rw [w6 14 p (by omega) (by omega) (by omega) (by omega)]; exact v4.2.2.2.1
      · rw [w6 15 p (by omega) (by omega) (by omega) (by omega)]; exact v4.2.2.2.2.1
      · rw [w6 18 p (by omega) (by omega) (by omega) (by omega)]; exact v4.2.2.2.2.2.2.2
      · exact ⟨by omega, rfl, by rw [w6 11 p (by omega) (by omega) (by omega) (by omega)]; exact v4.1, by rw [w6 12 p (by omega) (by omega) (by omega) (by omega)]; exact v4.2.1, u17, n13', z0, rz6, fz6⟩
  rw [if_neg c58]
  by_cases c31 : xK X i = 31 ∨ xK X i = 32
  · have hi := K_lt hX rfl (show 0 < xK X i by omega)
    rw [if_pos c31]
    have pe := pmk_1 (Kn := xK X) (i := i + 1) (G := pEx (xK X) m 0) (f := fun a => tD 8 i 0 a tZ)
    unfold ek at pe
    unfold ek
    rw [show i + 2 = i + 1 + 1 by omega, pe, a3 hi]
    have key : ∀ kd : Int32, ¬ kd = 30 → wp (bi (PP nf d 84 (cMv T3 (i + 1)) [nI p, kd, nI (20 - m)] []) fun _ _ T25 => some (nI p, 0, T25)) (fun r _ T' => CmQ X T i p (mb (pMk (xK X) (pEx (xK X) m 0) false (i + 1)) fun a _ j => .ok (tD 8 i 0 a tZ, j)) r T') := by
      intro kd hk
      refine wp_bi (c_mk (rw := false) hX hnf hm hG (g4 hi) (by omega) (by omega) (by omega) (by simp [hk])) ?_
      intro r _ T' h'
      refine wp_some (cmQ_mk (f := fun a _ => tD 8 i 0 a tZ) h' hg hp hX (by omega) f4 n4 v4 ?_)
      intro u w j' p' _ q1 q2 q3 q4 rx
      rw [if_neg (show ¬ (false = true) by decide)] at rx
      refine ⟨by omega, rfl, q2, q3, q4, ?_⟩
      rw [if_neg (by omega)]
      exact rx
    rcases c31 with h | h
    · rw [h, show (nI 31 : Int32) = 31 from rfl, if_neg (by decide), if_neg (by decide), if_neg (by decide), if_neg (by decide), if_neg (by decide), if_neg (by decide), if_pos rfl, bis]
      exact key 31 (by decide)
    · rw [h, show (nI 32 : Int32) = 32 from rfl, if_neg (by decide), if_neg (by decide), if_neg (by decide), if_neg (by decide), if_neg (by decide), if_neg (by decide), if_neg (by decide), if_pos rfl, bis]
      exact key 32 (by decide)
  rw [if_neg c31]
  have hk := (hX.2 i).2
  have ne : ∀ c : Nat, c < 63 → ¬ xK X i = c → ¬ nI (xK X i) = nI c := fun c h1 h2 h3 => h2 (nI_inj (by omega) (by omega) h3)
  rw [if_neg (show ¬ nI (xK X i) = 2 from ne 2 (by omega) (by omega)), if_neg (show ¬ nI (xK X i) = 5 from ne 5 (by omega) (by omega)), if_neg (show ¬ nI (xK X i) = 27 from ne 27 (by omega) (by omega)), if_neg (show ¬ nI (xK X i) = 28 from ne 28 (by omega) (by omega)), if_neg (show ¬ nI (xK X i) = 29 from ne 29 (by omega) (by omega)), if_neg (show ¬ nI (xK X i) = 30 from ne 30 (by omega) (by omega)), if_neg (show ¬ nI (xK X i) = 31 from ne 31 (by omega) (by omega)), if_neg (show ¬ nI (xK X i) = 32 from ne 32 (by omega) (by omega)), if_neg (show ¬ nI (xK X i) = 34 from ne 34 (by omega) (by omega)), if_neg (show ¬ nI (xK X i) = 35 from ne 35 (by omega) (by omega)), if_neg (show ¬ nI (xK X i) = 42 from ne 42 (by omega) (by omega)), if_neg (show ¬ nI (xK X i) = 58 from ne 58 (by omega) (by omega))]
  refine w_stop hX g3 (by omega) (wp_some ⟨g3.bd hX (by omega), f3.tr FC.bd, p, rfl, p8⟩)
end CXQ
