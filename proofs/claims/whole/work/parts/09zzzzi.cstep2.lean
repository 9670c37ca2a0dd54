/-! the class's parser: STEPS with BLOCKS, plain STEPS -/
section CSU
variable {nf d : Nat} {T T' T1 T2 T3 T7 : gSt} {X : Lx} {i j k p p' q m n e c z lo hi v g j0 : Nat} {x y r a0 : Int32} {l : Int64} {t ta tb : Tr} {tr : Tr → Tr} {K : Int32 → Int64 → gSt → gR} {K2 : Int32 → gSt → gR} {Q : Int32 → Int64 → gSt → Prop}
theorem mvo {S : gSt} {i' g j' : Nat} (h : g ≠ 58 ∧ g ≠ 128) : (cMv S i').1 g j' = S.1 g j' := by rw [cMv_o (by omega)]
theorem c_plain (hX : XO X) (hm : m ≤ 19) (hG : CPx nf X m) (hg : GC X T i p) (h60 : T.1 60 0 = nI v) (h61 : T.1 61 0 = nI g) (hv : v ≤ 20) (hg8 : g ≤ 8) (hp : p ≤ i + 1) (hd : 12 * m + 50 ≤ d) : wp (PP nf d 77 T [nI (20 - m)] []) (fun r _ T' => CsQ X T i p (se (pEx (xK X) m 0 i) fun a j => if xK X j = 50 then se (pEx (xK X) m 0 (j + 1)) fun b j2 => sn (xK X) 46 j2 (.ok (tD 29 i 0 a b, j2 + 1, v, g)) else sn (xK X) 46 j (.ok (tD 30 i 0 a tZ, j + 1, v, g))) r T') := by
  obtain ⟨d, rfl⟩ : ∃ g, d = g + 1 := ⟨d - 1, by omega⟩
  have hxn := hX.1
  have hi0 := hg.2.1
  have p8 : p < 4008 := by omega
  have e21 : nI (20 - m) + 1 = nI (21 - m) := by rw [nI_1, show 20 - m + 1 = 21 - m by omega]
  have zp : inb (nI p) 4008 := nin (by omega) (by omega)
  have cp : (nI p).toNatClampNeg = p := nc (by omega)
  rw [e_Parser_parsePlain]
  unfold rb_Parser_parsePlain sn
  refine w_node hg p8 (by omega) ?_
  have g1 : GC X (cNd T p 64 (nI i)) i (p + 1) := hg.nd
  have f1 : FC T (cNd T p 64 (nI i)) := FC.nd
  have n1 : Nf T (cNd T p 64 (nI i)) p := Nf.nd
  have v1 : FrN (cNd T p 64 (nI i)) p 64 (nI i) := FrN.mk
  generalize cNd T p 64 (nI i) = T1 at *
  simp only [gd, if_pos zp, cp]
  refine w_expr hG g1 (by omega) (by omega) e21 (fun a j p2 T2 l ea g2 a1 a2 a3 f2 n2 _ _ rx => ?_) (fun e xr T2 l ee b2 f2 hxr => ?_)
  · rw [ea]
    dsimp only [se]
    have v2 := v1.kp n2
    have l2 := g2.2.1
    have w60 : T2.1 60 0 = nI v := by rw [f2.v60.1, f1.v60.1]; exact h60
    have w61 : T2.1 61 0 = nI g := by rw [f2.v60.2, f1.v60.2]; exact h61
    have N2 : Nf T T2 p := n1.tr (n2.le (by omega))
    refine w_acc (k := 50) hX g2 rfl (by omega) (by omega) (fun k50 => ?_) (fun k50 => ?_)
    · have h4 := K_lt hX k50 (by omega)
      rw [if_pos k50, if_neg (show ¬ (1 : Int32) = 0 by decide)]
      simp only [stK]
      have g3 : GC X (sI (sI (cMv T2 (j + 1)) 11 p 50) 16 p (nI (p + 1))) (j + 1) p2 := ((g2.mv (by omega)).wr (by omega)).wr (by omega)
      have f3 : FC T (sI (sI (cMv T2 (j + 1)) 11 p 50) 16 p (nI (p + 1))) := ((((f1.tr f2).tr FC.mv).tr (FC.wr (by omega))).tr (FC.wr (by omega)))
      have r3 : ∀ k j', 11 ≤ k → k ≤ 18 → (sI (sI (cMv T2 (j + 1)) 11 p 50) 16 p (nI (p + 1))).1 k j' = if k = 16 ∧ j' = p then nI (p + 1) else if k = 11 ∧ j' = p then 50 else T2.1 k j' := fun k j' b1 b2 => by rw [rdI, rdI, mvo (by omega)]
      have x60 : (sI (sI (cMv T2 (j + 1)) 11 p 50) 16 p (nI (p + 1))).1 60 0 = nI v := by rw [sI_ne (by omega), sI_ne (by omega), mvo (by omega)]; exact w60
      have x61 : (sI (sI (cMv T2 (j + 1)) 11 p 50) 16 p (nI (p + 1))).1 61 0 = nI g := by rw [sI_ne (by omega), sI_ne (by omega), mvo (by omega)]; exact w61
      generalize sI (sI (cMv T2 (j + 1)) 11 p 50) 16 p (nI (p + 1)) = T3 at *
      refine w_expr hG g3 (by omega) (by omega) e21 (fun b j2 p4 T4 l eb g4 b1 b2 b3 f4 n4 _ _ ry => ?_) (fun e xr T4 l ee b4 f4 hxr => ?_)
      · rw [eb]
        dsimp only [se]
        have g5 : GC X (sI T4 17 p (nI p2)) j2 p4 := g4.wr (by omega)
        have f5 : FC T (sI T4 17 p (nI p2)) := (f3.tr f4).tr (FC.wr (by omega))
        have r5 : ∀ k j', 11 ≤ k → k ≤ 18 → j' < p2 → (sI T4 17 p (nI p2)).1 k j' = if k = 17 ∧ j' = p then nI p2 else T3.1 k j' := fun k j' c1 c2 c3 => by rw [rdI, n4 k j' c1 c2 c3]
        have ry5 : cRX (sI T4 17 p (nI p2)) (RcG X (sI T4 17 p (nI p2)) b) p2 p4 := ry.ag (fun g j' c1 c2 c3 c4 _ => by rw [rdI, if_neg (fun w => by omega)])
        have rx5 : cRX (sI T4 17 p (nI p2)) (RcG X (sI T4 17 p (nI p2)) a) (p + 1) p2 := rx.ag (fun g j' c1 c2 c3 c4 _ => by rw [r5 g j' c1 c2 c4, if_neg (by omega), r3 g j' c1 c2, if_neg (by omega), if_neg (by omega)])
        have y60 : (sI T4 17 p (nI p2)).1 60 0 = nI v := by rw [sI_ne (by omega), f4.v60.1]; exact x60
        have y61 : (sI T4 17 p (nI p2)).1 61 0 = nI g := by rw [sI_ne (by omega), f4.v60.2]; exact x61
        generalize sI T4 17 p (nI p2) = T5 at *
        have l5 := g5.2.1
        have o5 : ∀ k, 11 ≤ k → k ≤ 18 → k ≠ 17 → k ≠ 16 → k ≠ 11 → T5.1 k p = T2.1 k p := fun k c1 c2 c3 c4 c5 => by rw [r5 k p c1 c2 (by omega), if_neg (by omega), r3 k p c1 c2, if_neg (by omega), if_neg (by omega)]
        refine w_need (k := 46) hX g5 rfl (by omega) (by omega) (fun k46 => ?_) (fun k46 => ?_)
        · rw [if_pos k46]
          have h6 := K_lt hX k46 (by omega)
          refine wp_some ⟨p4, g5.mv (by omega), by omega, by omega, by omega, rfl, (f5.tr FC.mv).fd, fun k j' c1 c2 c3 => ?_, by rw [mvo (by omega)]; exact y60, by rw [mvo (by omega)]; exact y61, hv, hg8, ?_, ?_⟩
          · rw [mvo (by omega), r5 k j' c1 c2 (by omega), if_neg (by omega), r3 k j' c1 c2, if_neg (by omega), if_neg (by omega), N2 k j' c1 c2 c3]
          · rw [mvo (by omega), o5 13 (by omega) (by omega) (by omega) (by omega) (by omega)]; exact v2.2.2.1
          · refine ⟨by omega, ?_, ?_, ?_, p2, by omega, by omega, rx5.ag (fun g j' c1 c2 _ _ _ => mvo (by omega)), ?_, ry5.ag (fun g j' c1 c2 _ _ _ => mvo (by omega))⟩
            · rw [mvo (by omega), o5 12 (by omega) (by omega) (by omega) (by omega) (by omega)]; exact v2.2.1
            · rw [mvo (by omega), r5 11 p (by omega) (by omega) (by omega), if_neg (by omega), r3 11 p (by omega) (by omega), if_neg (by omega), if_pos (by omega)]
            · rw [mvo (by omega), r5 16 p (by omega) (by omega) (by omega), if_neg (by omega), r3 16 p (by omega) (by omega), if_pos (by omega)]
            · rw [mvo (by omega), r5 17 p (by omega) (by omega) (by omega), if_pos (by omega)]
        · rw [if_neg k46]
          exact wp_some ⟨g5.bd hX (by omega), (f5.tr FC.bd).fd, p, rfl, p8⟩
      · rw [ee]
        exact wb_need hX (b4.wr (by omega)) (by omega) (wp_some ⟨b4.wr (by omega), ((f3.tr f4).tr (FC.wr (by omega))).fd, p, rfl, p8⟩)
    · rw [if_neg k50, if_pos (show (0 : Int32) = 0 from rfl), stK]
      have g5 : GC X (sI T2 17 p (nI (p + 1))) j p2 := g2.wr (by omega)
      have f5 : FC T (sI T2 17 p (nI (p + 1))) := (f1.tr f2).tr (FC.wr (by omega))
      have r5 : ∀ k j', (sI T2 17 p (nI (p + 1))).1 k j' = if k = 17 ∧ j' = p then nI (p + 1) else T2.1 k j' := fun k j' => by rw [rdI]
      have rx5 : cRX (sI T2 17 p (nI (p + 1))) (RcG X (sI T2 17 p (nI (p + 1))) a) (p + 1) p2 := rx.ag (fun g j' c1 c2 c3 c4 _ => by rw [r5, if_neg (by omega)])
      generalize sI T2 17 p (nI (p + 1)) = T5 at *
      have l5 := g5.2.1
      refine w_need (k := 46) hX g5 rfl (by omega) (by omega) (fun k46 => ?_) (fun k46 => ?_)
      · rw [if_pos k46]
        have h6 := K_lt hX k46 (by omega)
        refine wp_some ⟨p2, g5.mv (by omega), by omega, by omega, by omega, rfl, (f5.tr FC.mv).fd, fun k j' c1 c2 c3 => ?_, by rw [mvo (by omega), r5, if_neg (by omega)]; exact w60, by rw [mvo (by omega), r5, if_neg (by omega)]; exact w61, hv, hg8, ?_, ?_⟩
        · rw [mvo (by omega), r5, if_neg (by omega), N2 k j' c1 c2 c3]
        · rw [mvo (by omega), r5, if_neg (by omega)]; exact v2.2.2.1
        · refine ⟨by omega, ?_, ?_, ?_, rx5.ag (fun g j' c1 c2 _ _ _ => mvo (by omega))⟩
          · rw [mvo (by omega), r5, if_neg (by omega)]; exact v2.2.1
          · rw [mvo (by omega), r5, if_neg (by omega)]; exact v2.1
          · rw [mvo (by omega), r5, if_pos (by omega)]
      · rw [if_neg k46]
        exact wp_some ⟨g5.bd hX (by omega), (f5.tr FC.bd).fd, p, rfl, p8⟩
  · rw [ee]
    refine wb_acc b2 (by omega) ?_
    rw [if_pos rfl, stK]
    exact wb_need hX (b2.wr (by omega)) (by omega) (wp_some ⟨b2.wr (by omega), ((f1.tr f2).tr (FC.wr (by omega))).fd, p, rfl, p8⟩)
theorem FD.ve (h : FD T T') (h1 : k ≠ 58 ∧ k ≠ 59 ∧ k ≠ 53 ∧ k ≠ 54 ∧ k ≠ 60 ∧ k ≠ 61 ∧ ¬ (11 ≤ k ∧ k ≤ 19 ∨ k = 128)) : T'.1 k = T.1 k := h.1 k h1.1 h1.2.1 h1.2.2.1 h1.2.2.2.1 h1.2.2.2.2.1 h1.2.2.2.2.2.1 h1.2.2.2.2.2.2
/-- while and if -/
theorem c_choice (hX : XO X) (hnf : 5000 ≤ nf) (hm : m ≤ 19) (hG : CPx nf X m) (hB : CPb nf X m) (hg : GC X T i p) (hi : i < xn X) (h60 : T.1 60 0 = nI v) (h61 : T.1 61 0 = nI g) (hv : v ≤ 20) (hg8 : g ≤ 8) (hp : p ≤ i + 1) (hd : 12 * m + 50 ≤ d) (hx : x = nI (xK X i)) (hk : xK X i = 16 ∨ xK X i = 18) : wp (PP nf d 73 T [x, nI (20 - m)] []) (fun r _ T' => CsQ X T i p (if xK X i = 18 then se (pEx (xK X) m 0 (i + 1)) fun a j => sb (pBl (xK X) m j v g) fun b j2 v2 g2 => .ok (tD 22 i 0 a b, j2, v2, g2) else se (pEx (xK X) m 0 (i + 1)) fun a j => sb (pBl (xK X) m j v g) fun b j2 v2 g2 => if xK X j2 = 17 then sb (pBl (xK X) m (j2 + 1) v2 g2) fun c j3 v3 g3 => .ok (tD 21 i 0 a (tD 12 0 0 b c), j3, v3, g3) else .ok (tD 21 i 0 a (tD 12 0 0 b tZ), j2, v2, g2)) r T') := by
  obtain ⟨d, rfl⟩ : ∃ g, d = g + 1 := ⟨d - 1, by omega⟩
  have hxn := hX.1
  have p8 : p < 4008 := by omega
  have e21 : nI (20 - m) + 1 = nI (21 - m) := by rw [nI_1, show 20 - m + 1 = 21 - m by omega]
  have zp : inb (nI p) 4008 := nin (by omega) (by omega)
  have cp : (nI p).toNatClampNeg = p := nc (by omega)
  rw [e_Parser_parseChoice]
  unfold rb_Parser_parseChoice
  refine w_nd hX hg p8 hi (by omega) ?_
  intro T1 g1 f1 n1 v1
  simp only [gd, if_pos zp, cp]
  have hx16 : (x = 16) = (xK X i = 16) := by rw [hx]; exact ci_eq (i := xK X i) (j := 16) (by omega) (by omega)
  -- behind a fault
  have bad : ∀ (Tb : gSt) (e : Nat), Bd X Tb e → FD T Tb → wp (if x = 16 then (bi (PP nf d 59 Tb [(17 : Int32)] []) fun r9 l9 T9 => if r9 = (0 : Int32) then (some (nI p, 0, T9)) else (bi (PP nf d 70 T9 [nI (20 - m) + 1] []) fun r12 l12 T12 => stK (sI T12 18 p r12) fun T13 => some (nI p, 0, T13))) else (some (nI p, 0, Tb))) (fun r _ T' => CsE X T e r T') := by
    intro Tb e hb fb
    split
    · refine wb_acc hb (by omega) ?_
      rw [if_pos rfl]
      exact wp_some ⟨hb, fb, p, rfl, p8⟩
    · exact wp_some ⟨hb, fb, p, rfl, p8⟩
  refine w_expr hG g1 (by omega) (by omega) e21 (fun a j p2 T2 l ea g2 a1 a2 a3 f2 n2 _ _ rx => ?_) (fun e xr T2 l ee b2 f2 hxr => ?_)
  · rw [ea, stK]
    dsimp only [se]
    have l2 := g2.2.1
    have v2 := v1.kp n2
    have N2 : Nf T T2 p := n1.tr (n2.le (by omega))
    have g3 : GC X (sI T2 16 p (nI (p + 1))) j p2 := g2.wr (by omega)
    have f3 : FC T (sI T2 16 p (nI (p + 1))) := (f1.tr f2).tr (FC.wr (by omega))
    have r3 : ∀ k j', (sI T2 16 p (nI (p + 1))).1 k j' = if k = 16 ∧ j' = p then nI (p + 1) else T2.1 k j' := fun k j' => by rw [rdI]
    have x60 : (sI T2 16 p (nI (p + 1))).1 60 0 = nI v := by rw [sI_ne (by omega), f2.v60.1, f1.v60.1]; exact h60
    have x61 : (sI T2 16 p (nI (p + 1))).1 61 0 = nI g := by rw [sI_ne (by omega), f2.v60.2, f1.v60.2]; exact h61
    generalize sI T2 16 p (nI (p + 1)) = T3 at *
    refine w_block hB g3 x60 x61 hv hg8 (by omega) (by omega) (by omega) e21 (fun b j2 v' g' p4 T4 l eb g4 b1 b2 b3 f4 n4 u60 u61 u20 u8 rs => ?_) (fun e xr T4 l ee b4 f4 hxr => ?_)
    · rw [eb, stK]
      dsimp only [sb]
      have l4 := g4.2.1
      have g5 : GC X (sI T4 17 p (if emB b = true then 0 else nI p2)) j2 p4 := g4.wr (by omega)
      have f5 : FD T (sI T4 17 p (if emB b = true then 0 else nI p2)) := (f3.fd.tr f4).tr (FD.wr (by omega))
      have r5 : ∀ k j', 11 ≤ k → k ≤ 18 → j' < p2 → (sI T4 17 p (if emB b = true then 0 else nI p2)).1 k j' = if k = 17 ∧ j' = p then (if emB b = true then 0 else nI p2) else T3.1 k j' := fun k j' c1 c2 c3 => by rw [rdI, n4 k j' c1 c2 c3]
      have rs5 : RcS X (sI T4 17 p (if emB b = true then 0 else nI p2)) b 2 0 p2 p4 := RcS.ag b 2 0 _ _ (by omega) rs ⟨fun g j' c1 c2 c3 c4 _ => by rw [rdI, if_neg (fun w => by omega)], fun w => absurd w (by omega)⟩
      have y60 : (sI T4 17 p (if emB b = true then 0 else nI p2)).1 60 0 = nI v' := by rw [sI_ne (by omega)]; exact u60
      have y61 : (sI T4 17 p (if emB b = true then 0 else nI p2)).1 61 0 = nI g' := by rw [sI_ne (by omega)]; exact u61
      generalize sI T4 17 p (if emB b = true then 0 else nI p2) = T5 at *
      have rx5 : cRX T5 (RcG X T5 a) (p + 1) p2 := rx.ag (fun g j' c1 c2 c3 c4 _ => by rw [r5 g j' c1 c2 c4, if_neg (by omega), r3, if_neg (by omega)])
      have N5 : Nf T T5 p := fun k j' c1 c2 c3 => by rw [r5 k j' c1 c2 (by omega), if_neg (by omega), r3, if_neg (by omega), N2 k j' c1 c2 c3]
      have o5 : ∀ k, 11 ≤ k → k ≤ 18 → k ≠ 17 → k ≠ 16 → T5.1 k p = T2.1 k p := fun k c1 c2 c3 c4 => by rw [r5 k p c1 c2 (by omega), if_neg (by omega), r3, if_neg (by omega)]
      have o16 : T5.1 16 p = nI (p + 1) := by rw [r5 16 p (by omega) (by omega) (by omega), if_neg (by omega), r3, if_pos (by omega)]
      have o17 : T5.1 17 p = (if emB b = true then 0 else nI p2) := by rw [r5 17 p (by omega) (by omega) (by omega), if_pos (by omega)]
      by_cases c16 : xK X i = 16
      · rw [if_pos (show x = 16 by rw [hx16]; exact c16), if_neg (show ¬ xK X i = 18 by omega)]
        refine w_acc (k := 17) hX g5 rfl (by omega) (by omega) (fun k17 => ?_) (fun k17 => ?_)
        · have h6 := K_lt hX k17 (by omega)
          rw [if_pos k17, if_neg (show ¬ (1 : Int32) = 0 by decide)]
          have g6 := g5.mv (j := j2 + 1) (by omega)
          refine w_block hB g6 (by rw [mvo (by omega)]; exact y60) (by rw [mvo (by omega)]; exact y61) u20 u8 (by omega) (by omega) (by omega) e21 (fun c j3 v3 g3' p6 T6 l ec g6' c1 c2 c3 f6 n6 t60 t61 t20 t8 rc => ?_) (fun e xr T6 l ee b6 f6 hxr => ?_)
          · rw [ec, stK]
            dsimp only [sb]
            have g7 : GC X (sI T6 18 p (if emB c = true then 0 else nI p4)) j3 p6 := g6'.wr (by omega)
            have f7 : FD T (sI T6 18 p (if emB c = true then 0 else nI p4)) := ((f5.tr FC.mv.fd).tr f6).tr (FD.wr (by omega))
            have r7 : ∀ k j', 11 ≤ k → k ≤ 18 → j' < p4 → (sI T6 18 p (if emB c = true then 0 else nI p4)).1 k j' = if k = 18 ∧ j' = p then (if emB c = true then 0 else nI p4) else T5.1 k j' := fun k j' d1 d2 d3 => by rw [rdI, n6 k j' d1 d2 d3, mvo (by omega)]
            have rc7 : RcS X (sI T6 18 p (if emB c = true then 0 else nI p4)) c 2 0 p4 p6 := RcS.ag c 2 0 _ _ (by omega) rc ⟨fun g j' c1 c2 c3 c4 _ => by rw [rdI, if_neg (fun w => by omega)], fun w => absurd w (by omega)⟩
            have z60 : (sI T6 18 p (if emB c = true then 0 else nI p4)).1 60 0 = nI v3 := by rw [sI_ne (by omega)]; exact t60
            have z61 : (sI T6 18 p (if emB c = true then 0 else nI p4)).1 61 0 = nI g3' := by rw [sI_ne (by omega)]; exact t61
            generalize sI T6 18 p (if emB c = true then 0 else nI p4) = T7 at *
            have o7 : ∀ k, 11 ≤ k → k ≤ 18 → k ≠ 18 → T7.1 k p = T5.1 k p := fun k d1 d2 d3 => by rw [r7 k p d1 d2 (by omega), if_neg (by omega)]
            refine wp_some ⟨p6, g7, by omega, by omega, by omega, rfl, f7, fun k j' d1 d2 d3 => ?_, z60, z61, t20, t8, ?_, ?_⟩
            · rw [r7 k j' d1 d2 (by omega), if_neg (by omega), N5 k j' d1 d2 d3]
            · rw [o7 13 (by omega) (by omega) (by omega), o5 13 (by omega) (by omega) (by omega) (by omega)]; exact v2.2.2.1
            · refine ⟨by omega, ?_, ?_, ?_, p2, by omega, by omega, rx5.ag (fun g j' c1 c2 c3 c4 _ => by rw [r7 g j' c1 c2 (by omega), if_neg (by omega)]), ?_⟩
              · rw [o7 12 (by omega) (by omega) (by omega), o5 12 (by omega) (by omega) (by omega) (by omega)]; exact v2.2.1
              · rw [o7 11 (by omega) (by omega) (by omega), o5 11 (by omega) (by omega) (by omega) (by omega), v2.1, hx, c16]; rfl
              · rw [o7 16 (by omega) (by omega) (by omega)]; exact o16
              · refine ⟨rfl, p4, b2, c2, ?_, RcS.ag b 2 0 _ _ (by omega) rs5 ⟨fun g j' c1 c2 c3 c4 _ => by rw [r7 g j' c1 c2 (by omega), if_neg (by omega)], fun w => absurd w (by omega)⟩, ?_, rc7⟩
                · unfold vB
                  rw [o7 17 (by omega) (by omega) (by omega)]; exact o17
                · unfold vB
                  rw [r7 18 p (by omega) (by omega) (by omega), if_pos (by omega)]
          · rw [ee, stK]
            exact wp_some ⟨b6.wr (by omega), ((f5.tr FC.mv.fd).tr f6).tr (FD.wr (by omega)), p, rfl, p8⟩
        · rw [if_neg k17, if_pos (show (0 : Int32) = 0 from rfl)]
          refine wp_some ⟨p4, g5, by omega, by omega, by omega, rfl, f5, N5, y60, y61, u20, u8, by rw [o5 13 (by omega) (by omega) (by omega) (by omega)]; exact v2.2.2.1, ?_⟩
          refine ⟨by omega, ?_, ?_, o16, p2, by omega, by omega, rx5, ?_⟩
          · rw [o5 12 (by omega) (by omega) (by omega) (by omega)]; exact v2.2.1
          · rw [o5 11 (by omega) (by omega) (by omega) (by omega), v2.1, hx, c16]; rfl
          · refine ⟨rfl, p4, b2, by omega, o17, rs5, ?_, Or.inr rfl, rfl⟩
            unfold vB
            rw [o5 18 (by omega) (by omega) (by omega) (by omega)]; exact v2.2.2.2.2.2.2.2
      · have c18 : xK X i = 18 := by omega
        rw [if_neg (show ¬ x = 16 by rw [hx16]; exact c16), if_pos c18]
        refine wp_some ⟨p4, g5, by omega, by omega, by omega, rfl, f5, N5, y60, y61, u20, u8, by rw [o5 13 (by omega) (by omega) (by omega) (by omega)]; exact v2.2.2.1, ?_⟩
        refine ⟨by omega, ?_, ⟨?_, by rw [o5 18 (by omega) (by omega) (by omega) (by omega)]; exact v2.2.2.2.2.2.2.2⟩, o16, p2, by omega, by omega, rx5, o17, rs5⟩
        · rw [o5 12 (by omega) (by omega) (by omega) (by omega)]; exact v2.2.1
        · rw [o5 11 (by omega) (by omega) (by omega) (by omega), v2.1, hx, c18]; rfl
    · rw [ee, stK]
      dsimp only [sb]
      have go := bad _ _ (b4.wr (k := 17) (j := p) (x := nI xr) (by omega)) ((f3.fd.tr f4).tr (FD.wr (by omega)))
      rw [ite_self]
      exact go
  · rw [ee, stK]
    dsimp only [se]
    have b3 : Bd X (sI T2 16 p (nI xr)) e := b2.wr (by omega)
    have f3 : FD T (sI T2 16 p (nI xr)) := ((f1.tr f2).tr (FC.wr (by omega))).fd
    generalize sI T2 16 p (nI xr) = T3 at *
    rw [zb_block hX (by omega) b3 (by omega), bis, stK]
    have go := bad _ _ (b3.wr (k := 17) (j := p) (x := 0) (by omega)) (f3.tr (FD.wr (by omega)))
    rw [ite_self]
    exact go
end CSU
