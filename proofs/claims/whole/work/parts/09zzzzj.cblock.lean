/-! the class's parser: region, close, try; BLOCKS -/
section CSB
variable {nf d : Nat} {T T' T1 T2 T3 T7 : gSt} {X : Lx} {i j k p p' q m n e c z lo hi v g j0 : Nat} {x y r a0 a b : Int32} {l : Int64} {t ta tb : Tr} {tr : Tr → Tr} {K : Int32 → Int64 → gSt → gR} {K2 : Int32 → gSt → gR} {Q : Int32 → Int64 → gSt → Prop}
theorem c_node2 (h19 : T.1 19 0 = nI p) (hp : p < 4008) : PP nf (d + 1) 28 T [a, b] [] = some (nI p, 0, cNd T p a b) := by
  have zp : inb (nI p) 4008 := nin hp (by omega)
  have cp : (nI p).toNatClampNeg = p := nc (by omega)
  rw [e_Source_addNode]
  unfold rb_Source_addNode cNd
  simp only [stK]
  have o : ∀ (S : gSt) (k q : Nat) (v : Int32), k ≠ 19 → (sI S k q v).1 19 = S.1 19 := fun S k q v h => sI_ne (fun e => h e.symm)
  simp only [o _ _ _ _ (show 11 ≠ 19 by omega), o _ _ _ _ (show 12 ≠ 19 by omega), o _ _ _ _ (show 13 ≠ 19 by omega), o _ _ _ _ (show 14 ≠ 19 by omega), o _ _ _ _ (show 15 ≠ 19 by omega), o _ _ _ _ (show 16 ≠ 19 by omega), o _ _ _ _ (show 17 ≠ 19 by omega), o _ _ _ _ (show 18 ≠ 19 by omega), h19, gd, if_pos zp, cp, nI_1]
  rw [if_pos (by rw [show (4008 : Int32) = nI 4008 from rfl, ci_lt (by omega) (by omega)]; exact hp), sI_v]
  have e : nI (p + 1) - 1 = nI p := nI_sub
  rw [e]
theorem GC.bdn (h : GC X T i p) (hX : XO X) (hp : p ≤ 4007) : Bd X (sI (cNd (cBd X i T) p a b) 58 0 (nI (i + 1))) i := by
  have hb := h.bd hX (by omega)
  obtain ⟨h1, h2, h3, h4, h5, i', h6, h7, h8⟩ := hb
  have hi := h.2.1
  have hn := hX.1
  refine ⟨?_, ?_, ?_, ⟨p + 1, ?_, by omega⟩, h5.fc (FC.nd.tr (FC.wr (by omega))), i + 1, sI_v, by omega, ?_⟩
  · rw [sI_ne (by omega), cNd_o (by omega)]; exact h1
  · rw [sI_ne (by omega), cNd_o (by omega)]; exact h2
  · rw [sI_ne (by omega), cNd_o (by omega)]; exact h3
  · rw [sI_ne (by omega)]; exact cNd_19
  · rw [sI_ne (by omega), cNd_o (by omega)]; exact h8
theorem b_adv2 (h59 : T.1 59 0 = 1) (h58 : T.1 58 0 = nI i) (hlk : T.1 128 0 = 0) : PP nf (d + 1) 58 T [] [] = some (0, 0, sI T 58 0 (nI (i + 1))) := by
  rw [e_Parser_advance]
  unfold rb_Parser_advance
  rw [stK, h58, nI_1, if_neg (by rw [sI_ne (by omega), h59]; decide), stK, sI_same (by rw [sI_ne (by omega)]; exact hlk)]
/-- region and close -/
theorem c_region (hX : XO X) (hnf : 5000 ≤ nf) (hm : m ≤ 19) (hB : CPb nf X m) (hg : GC X T i p) (hi : i < xn X) (h60 : T.1 60 0 = nI v) (h61 : T.1 61 0 = nI g) (hv : v ≤ 20) (hg8 : g ≤ 8) (hp : p ≤ i + 1) (hd : 12 * m + 50 ≤ d) (hx : x = nI (xK X i)) (hk : xK X i = 21 ∨ xK X i = 22) : wp (PP nf d 74 T [x, nI (20 - m)] []) (fun r _ T' => CsQ X T i p (if xK X i = 21 then (if g = 8 then .error i else sn (xK X) 4 (i + 1) (sb (pBl (xK X) m (i + 2) v (g + 1)) fun b j v2 g2 => .ok (tD 26 i 0 b tZ, j, v2, g2))) else sn (xK X) 4 (i + 1) (sn (xK X) 46 (i + 2) (.ok (tD 27 i 0 tZ tZ, i + 3, v, g)))) r T') := by
  obtain ⟨d, rfl⟩ : ∃ g, d = g + 1 := ⟨d - 1, by omega⟩
  have hxn := hX.1
  have p8 : p < 4008 := by omega
  have e21 : nI (20 - m) + 1 = nI (21 - m) := by rw [nI_1, show 20 - m + 1 = 21 - m by omega]
  have zp : inb (nI p) 4008 := nin (by omega) (by omega)
  have cp : (nI p).toNatClampNeg = p := nc (by omega)
  rw [e_Parser_parseRegionStep]
  unfold rb_Parser_parseRegionStep sn
  have hx21 : (x = 21) = (xK X i = 21) := by rw [hx]; exact ci_eq (i := xK X i) (j := 21) (by omega) (by omega)
  by_cases c21 : xK X i = 21
  · have x21 : x = 21 := by rw [hx21]; exact c21
    rw [if_pos x21, if_pos c21]
    by_cases c8 : g = 8
    · rw [if_pos c8, if_pos (show T.1 61 0 = 8 by rw [h61, c8]; rfl)]
      refine w_stop hX hg (by omega) ?_
      unfold rj_Parser_parseRegionStep_19
      obtain ⟨d, rfl⟩ : ∃ g, d = g + 1 := ⟨d - 1, by omega⟩
      have a19 : (cBd X i T).1 19 0 = nI p := by
        unfold cBd
        rw [sI_ne (by omega), sI_ne (by omega), sI_ne (by omega), sI_ne (by omega)]; exact hg.2.2.2.2.1
      have a58 : (cBd X i T).1 58 0 = nI i := by
        unfold cBd
        rw [sI_ne (by omega), sI_ne (by omega), sI_ne (by omega), sI_ne (by omega)]; exact hg.1
      have b0 := hg.bd hX (show p ≤ 4008 by omega)
      rw [c_node2 a19 p8, bis, a58, b_adv2 (i := i) (by rw [cNd_o (by omega)]; exact b0.1) (by rw [cNd_o (by omega)]; exact a58) (by rw [cNd_o (by omega)]; exact b0.lk), bis]
      simp only [if_pos x21]
      have b1 : Bd X (sI (cNd (cBd X i T) p x (nI i)) 58 0 (nI (i + 1))) i := hg.bdn hX (by omega)
      have f1 : FD T (sI (cNd (cBd X i T) p x (nI i)) 58 0 (nI (i + 1))) := ((FC.bd.tr FC.nd).tr (FC.wr (by omega))).fd
      generalize sI (cNd (cBd X i T) p x (nI i)) 58 0 (nI (i + 1)) = Tb at *
      refine wb_need hX b1 (by omega) ?_
      rw [stK]
      have b2 : Bd X (sI Tb 61 0 (Tb.1 61 0 + 1)) i := b1.wr (by omega)
      have f2 : FD T (sI Tb 61 0 (Tb.1 61 0 + 1)) := f1.tr (FD.wr (by omega))
      generalize sI Tb 61 0 (Tb.1 61 0 + 1) = T5 at *
      rw [zb_block hX (by omega) b2 (by omega), bis, gd, if_pos zp, stK]
      exact wp_some ⟨b2.wr (by omega), f2.tr (FD.wr (by omega)), p, rfl, p8⟩
    · have n8 : ¬ T.1 61 0 = 8 := fun w => by
        rw [h61] at w
        have := nI_inj (b := 8) (by omega) (by omega) w
        omega
      rw [if_neg n8, if_neg c8]
      unfold rj_Parser_parseRegionStep_19
      refine w_nd hX hg p8 hi (by omega) ?_
      intro T4 g4 f4 n4 v4
      simp only [gd, if_pos zp, cp]
      simp only [if_pos x21]
      refine w_need (k := 4) hX g4 rfl (by omega) (by omega) (fun k4 => ?_) (fun k4 => ?_)
      · rw [if_pos k4, stK]
        have h2 := K_lt hX k4 (by omega)
        have w61 : (cMv T4 (i + 1 + 1)).1 61 0 = nI g := by rw [mvo (by omega), f4.v60.2]; exact h61
        rw [w61, nI_1]
        have g5 : GC X (sI (cMv T4 (i + 1 + 1)) 61 0 (nI (g + 1))) (i + 2) (p + 1) := (g4.mv (by omega)).wr (by omega)
        have f5 : FD T (sI (cMv T4 (i + 1 + 1)) 61 0 (nI (g + 1))) := (f4.tr FC.mv).fd.tr (FD.wr (by omega))
        have o5 : ∀ k j', 11 ≤ k → k ≤ 18 → (sI (cMv T4 (i + 1 + 1)) 61 0 (nI (g + 1))).1 k j' = T4.1 k j' := fun k j' b1 b2 => by rw [sI_ne (by omega), mvo (by omega)]
        have x61 : (sI (cMv T4 (i + 1 + 1)) 61 0 (nI (g + 1))).1 61 0 = nI (g + 1) := sI_v
        have x60 : (sI (cMv T4 (i + 1 + 1)) 61 0 (nI (g + 1))).1 60 0 = nI v := by rw [sI_ne (by omega), mvo (by omega), f4.v60.1]; exact h60
        generalize sI (cMv T4 (i + 1 + 1)) 61 0 (nI (g + 1)) = T5 at *
        refine w_block hB g5 x60 x61 hv (by omega) (by omega) (by omega) (by omega) e21 (fun b j2 v' g' p4 T6 l eb g6 b1 b2 b3 f6 n6 u60 u61 u20 u8 rs => ?_) (fun e xr T6 l ee b6 f6 hxr => ?_)
        · rw [eb, stK]
          dsimp only [sb]
          have l4 := g6.2.1
          have g7 : GC X (sI T6 17 p (if emB b = true then 0 else nI (p + 1))) j2 p4 := g6.wr (by omega)
          have f7 : FD T (sI T6 17 p (if emB b = true then 0 else nI (p + 1))) := (f5.tr f6).tr (FD.wr (by omega))
          have r7 : ∀ k j', 11 ≤ k → k ≤ 18 → j' < p + 1 → (sI T6 17 p (if emB b = true then 0 else nI (p + 1))).1 k j' = if k = 17 ∧ j' = p then (if emB b = true then 0 else nI (p + 1)) else T4.1 k j' := fun k j' c1 c2 c3 => by rw [rdI, n6 k j' c1 c2 c3, o5 k j' c1 c2]
          have rs7 : RcS X (sI T6 17 p (if emB b = true then 0 else nI (p + 1))) b 2 0 (p + 1) p4 := RcS.ag b 2 0 _ _ (by omega) rs ⟨fun g j' c1 c2 c3 c4 _ => by rw [rdI, if_neg (fun w => by omega)], fun w => absurd w (by omega)⟩
          have y60 : (sI T6 17 p (if emB b = true then 0 else nI (p + 1))).1 60 0 = nI v' := by rw [sI_ne (by omega)]; exact u60
          have y61 : (sI T6 17 p (if emB b = true then 0 else nI (p + 1))).1 61 0 = nI g' := by rw [sI_ne (by omega)]; exact u61
          generalize sI T6 17 p (if emB b = true then 0 else nI (p + 1)) = T7 at *
          have o7 : ∀ k, 11 ≤ k → k ≤ 18 → k ≠ 17 → T7.1 k p = T4.1 k p := fun k c1 c2 c3 => by rw [r7 k p c1 c2 (by omega), if_neg (by omega)]
          refine wp_some ⟨p4, g7, by omega, by omega, by omega, rfl, f7, fun k j' c1 c2 c3 => ?_, y60, y61, u20, u8, by rw [o7 13 (by omega) (by omega) (by omega)]; exact v4.2.2.1, ?_⟩
          · rw [r7 k j' c1 c2 (by omega), if_neg (by omega), n4 k j' c1 c2 c3]
          · refine ⟨by omega, by rw [o7 12 (by omega) (by omega) (by omega)]; exact v4.2.1, ⟨by rw [o7 11 (by omega) (by omega) (by omega), v4.1]; exact x21, by rw [o7 18 (by omega) (by omega) (by omega)]; exact v4.2.2.2.2.2.2.2⟩, ?_, rs7⟩
            unfold vB
            rw [r7 17 p (by omega) (by omega) (by omega), if_pos (by omega)]
        · rw [ee, stK]
          exact wp_some ⟨b6.wr (by omega), (f5.tr f6).tr (FD.wr (by omega)), p, rfl, p8⟩
      · rw [if_neg k4, stK]
        have b5 : Bd X (sI (cBd X (i + 1) T4) 61 0 ((cBd X (i + 1) T4).1 61 0 + 1)) (i + 1) := (g4.bd hX (by omega)).wr (by omega)
        have f5 : FD T (sI (cBd X (i + 1) T4) 61 0 ((cBd X (i + 1) T4).1 61 0 + 1)) := (f4.tr FC.bd).fd.tr (FD.wr (by omega))
        generalize sI (cBd X (i + 1) T4) 61 0 ((cBd X (i + 1) T4).1 61 0 + 1) = T5 at *
        rw [zb_block hX (by omega) b5 (by omega), bis, stK]
        exact wp_some ⟨b5.wr (by omega), f5.tr (FD.wr (by omega)), p, rfl, p8⟩
  · have c22 : xK X i = 22 := by omega
    have n21 : ¬ x = 21 := by rw [hx21]; exact c21
    rw [if_neg n21, if_neg c21]
    unfold rj_Parser_parseRegionStep_19
    refine w_nd hX hg p8 hi (by omega) ?_
    intro T4 g4 f4 n4 v4
    simp only [if_neg n21]
    refine w_need (k := 4) hX g4 rfl (by omega) (by omega) (fun k4 => ?_) (fun k4 => ?_)
    · rw [if_pos k4]
      have h2 := K_lt hX k4 (by omega)
      have g5 := g4.mv (j := i + 1 + 1) (by omega)
      refine w_need (k := 46) hX g5 rfl (by omega) (by omega) (fun k46 => ?_) (fun k46 => ?_)
      · rw [if_pos (show xK X (i + 2) = 46 from k46), cMv_2]
        have h3 := K_lt hX k46 (by omega)
        have v5 := v4.mv (i := i + 1 + 1 + 1)
        refine wp_some ⟨p + 1, g4.mv (by omega), by omega, by omega, by omega, rfl, (f4.tr FC.mv).fd, n4.tr Nf.mv, by rw [mvo (by omega), f4.v60.1]; exact h60, by rw [mvo (by omega), f4.v60.2]; exact h61, hv, hg8, v5.2.2.1, ?_⟩
        refine ⟨by omega, v5.2.1, ?_, rfl⟩
        rw [v5.1, hx, c22]; rfl
      · rw [if_neg (show ¬ xK X (i + 2) = 46 from k46)]
        exact wp_some ⟨g5.bd hX (by omega), ((f4.tr FC.mv).tr FC.bd).fd, p, rfl, p8⟩
    · rw [if_neg k4]
      have b5 := g4.bd hX (show p + 1 ≤ 4008 by omega)
      exact wb_need hX b5 (by omega) (wp_some ⟨b5, (f4.tr FC.bd).fd, p, rfl, p8⟩)
theorem c_try (hX : XO X) (hnf : 5000 ≤ nf) (hm : m ≤ 19) (hB : CPb nf X m) (hg : GC X T i p) (hi : i < xn X) (h60 : T.1 60 0 = nI v) (h61 : T.1 61 0 = nI g) (hv : v ≤ 20) (hg8 : g ≤ 8) (hp : p ≤ i + 1) (hd : 12 * m + 50 ≤ d) : wp (PP nf d 75 T [nI (20 - m)] []) (fun r _ T' => CsQ X T i p (sb (pBl (xK X) m (i + 1) v g) fun b j v2 g2 => sn (xK X) 24 j (sb (pBl (xK X) m (j + 1) v2 g2) fun c j3 v3 g3 => .ok (tD 28 i 0 b c, j3, v3, g3))) r T') := by
  obtain ⟨d, rfl⟩ : ∃ g, d = g + 1 := ⟨d - 1, by omega⟩
  have hxn := hX.1
  have p8 : p < 4008 := by omega
  have e21 : nI (20 - m) + 1 = nI (21 - m) := by rw [nI_1, show 20 - m + 1 = 21 - m by omega]
  have zp : inb (nI p) 4008 := nin (by omega) (by omega)
  have cp : (nI p).toNatClampNeg = p := nc (by omega)
  rw [e_Parser_parseTry]
  unfold rb_Parser_parseTry sn
  refine w_nd hX hg p8 hi (by omega) ?_
  intro T4 g4 f4 n4 v4
  simp only [gd, if_pos zp, cp]
  have w60 : T4.1 60 0 = nI v := by rw [f4.v60.1]; exact h60
  have w61 : T4.1 61 0 = nI g := by rw [f4.v60.2]; exact h61
  refine w_block hB g4 w60 w61 hv hg8 (by omega) (by omega) (by omega) e21 (fun b j2 v' g' p5 T5 l eb g5 b1 b2 b3 f5 n5 u60 u61 u20 u8 rs => ?_) (fun e xr T5 l ee b5 f5 hxr => ?_)
  · rw [eb, stK]
    dsimp only [sb]
    have l5 := g5.2.1
    have g6 : GC X (sI T5 17 p (if emB b = true then 0 else nI (p + 1))) j2 p5 := g5.wr (by omega)
    have f6 : FD T (sI T5 17 p (if emB b = true then 0 else nI (p + 1))) := (f4.fd.tr f5).tr (FD.wr (by omega))
    have r6 : ∀ k j', 11 ≤ k → k ≤ 18 → j' < p + 1 → (sI T5 17 p (if emB b = true then 0 else nI (p + 1))).1 k j' = if k = 17 ∧ j' = p then (if emB b = true then 0 else nI (p + 1)) else T4.1 k j' := fun k j' c1 c2 c3 => by rw [rdI, n5 k j' c1 c2 c3]
    have rs6 : RcS X (sI T5 17 p (if emB b = true then 0 else nI (p + 1))) b 2 0 (p + 1) p5 := RcS.ag b 2 0 _ _ (by omega) rs ⟨fun g j' c1 c2 c3 c4 _ => by rw [rdI, if_neg (fun w => by omega)], fun w => absurd w (by omega)⟩
    have y60 : (sI T5 17 p (if emB b = true then 0 else nI (p + 1))).1 60 0 = nI v' := by rw [sI_ne (by omega)]; exact u60
    have y61 : (sI T5 17 p (if emB b = true then 0 else nI (p + 1))).1 61 0 = nI g' := by rw [sI_ne (by omega)]; exact u61
    generalize sI T5 17 p (if emB b = true then 0 else nI (p + 1)) = T6 at *
    refine w_need (k := 24) hX g6 rfl (by omega) (by omega) (fun k24 => ?_) (fun k24 => ?_)
    · rw [if_pos k24]
      have h3 := K_lt hX k24 (by omega)
      have g7 := g6.mv (j := j2 + 1) (by omega)
      refine w_block hB g7 (by rw [mvo (by omega)]; exact y60) (by rw [mvo (by omega)]; exact y61) u20 u8 (by omega) (by omega) (by omega) e21 (fun c j3 v3 g3' p8' T8 l ec g8 c1 c2 c3 f8 n8 t60 t61 t20 t8 rc => ?_) (fun e xr T8 l ee b8 f8 hxr => ?_)
      · rw [ec, stK]
        dsimp only [sb]
        have g9 : GC X (sI T8 18 p (if emB c = true then 0 else nI p5)) j3 p8' := g8.wr (by omega)
        have f9 : FD T (sI T8 18 p (if emB c = true then 0 else nI p5)) := ((f6.tr FC.mv.fd).tr f8).tr (FD.wr (by omega))
        have r9 : ∀ k j', 11 ≤ k → k ≤ 18 → j' < p5 → (sI T8 18 p (if emB c = true then 0 else nI p5)).1 k j' = if k = 18 ∧ j' = p then (if emB c = true then 0 else nI p5) else T6.1 k j' := fun k j' d1 d2 d3 => by rw [rdI, n8 k j' d1 d2 d3, mvo (by omega)]
        have rc9 : RcS X (sI T8 18 p (if emB c = true then 0 else nI p5)) c 2 0 p5 p8' := RcS.ag c 2 0 _ _ (by omega) rc ⟨fun g j' c1 c2 c3 c4 _ => by rw [rdI, if_neg (fun w => by omega)], fun w => absurd w (by omega)⟩
        have z60 : (sI T8 18 p (if emB c = true then 0 else nI p5)).1 60 0 = nI v3 := by rw [sI_ne (by omega)]; exact t60
        have z61 : (sI T8 18 p (if emB c = true then 0 else nI p5)).1 61 0 = nI g3' := by rw [sI_ne (by omega)]; exact t61
        generalize sI T8 18 p (if emB c = true then 0 else nI p5) = T9 at *
        have o9 : ∀ k, 11 ≤ k → k ≤ 18 → k ≠ 18 → k ≠ 17 → T9.1 k p = T4.1 k p := fun k c1 c2 c3 c4 => by rw [r9 k p c1 c2 (by omega), if_neg (by omega), r6 k p c1 c2 (by omega), if_neg (by omega)]
        refine wp_some ⟨p8', g9, by omega, by omega, by omega, rfl, f9, fun k j' d1 d2 d3 => ?_, z60, z61, t20, t8, by rw [o9 13 (by omega) (by omega) (by omega) (by omega)]; exact v4.2.2.1, ?_⟩
        · rw [r9 k j' d1 d2 (by omega), if_neg (by omega), r6 k j' d1 d2 (by omega), if_neg (by omega), n4 k j' d1 d2 d3]
        · refine ⟨by omega, by rw [o9 12 (by omega) (by omega) (by omega) (by omega)]; exact v4.2.1, by rw [o9 11 (by omega) (by omega) (by omega) (by omega)]; exact v4.1, p5, by omega, c2, ?_, RcS.ag b 2 0 _ _ (by omega) rs6 ⟨fun g j' c1 c2 c3 c4 _ => by rw [r9 g j' c1 c2 c4, if_neg (fun w => by omega)], fun w => absurd w (by omega)⟩, ?_, rc9⟩
          · unfold vB
            rw [r9 17 p (by omega) (by omega) (by omega), if_neg (by omega), r6 17 p (by omega) (by omega) (by omega), if_pos (by omega)]
          · unfold vB
            rw [r9 18 p (by omega) (by omega) (by omega), if_pos (by omega)]
      · rw [ee, stK]
        exact wp_some ⟨b8.wr (by omega), ((f6.tr FC.mv.fd).tr f8).tr (FD.wr (by omega)), p, rfl, p8⟩
    · rw [if_neg k24]
      have b7 := g6.bd hX (by omega)
      rw [zb_block hX (by omega) b7 (by omega), bis, stK]
      exact wp_some ⟨b7.wr (by omega), (f6.tr FC.bd.fd).tr (FD.wr (by omega)), p, rfl, p8⟩
  · rw [ee, stK]
    dsimp only [sb]
    have b6 : Bd X (sI T5 17 p (nI xr)) e := b5.wr (by omega)
    have f6 : FD T (sI T5 17 p (nI xr)) := (f4.fd.tr f5).tr (FD.wr (by omega))
    generalize sI T5 17 p (nI xr) = T6 at *
    refine wb_need hX b6 (by omega) ?_
    rw [zb_block hX (by omega) b6 (by omega), bis, stK]
    exact wp_some ⟨b6.wr (by omega), f6.tr (FD.wr (by omega)), p, rfl, p8⟩
/-- any STEP -/
theorem c_step (hX : XO X) (hnf : 5000 ≤ nf) (hm : m ≤ 19) (hG : CPx nf X m) (hB : CPb nf X m) (hg : GC X T i p) (h60 : T.1 60 0 = nI v) (h61 : T.1 61 0 = nI g) (hv : v ≤ 20) (hg8 : g ≤ 8) (hp : p ≤ i + 1) (hd : 12 * m + 51 ≤ d) : wp (PP nf d 71 T [nI (20 - m)] []) (fun r _ T' => CsQ X T i p (pStep (xK X) (pEx (xK X) m 0) (pBl (xK X) m) i v g) r T') := by
  obtain ⟨d, rfl⟩ : ∃ g, d = g + 1 := ⟨d - 1, by omega⟩
  have hk := (hX.2 i).2
  rw [e_Parser_parseStep]
  unfold rb_Parser_parseStep
  rw [vK, hg.lk]
  have q : ∀ c : Nat, c < 63 → (nI (xK X i) = nI c) = (xK X i = c) := fun c hc => ci_eq (by omega) (by omega)
  have q15 := q 15 (by omega); have q16 := q 16 (by omega); have q17 := q 17 (by omega); have q18 := q 18 (by omega); have q19 := q 19 (by omega); have q20 := q 20 (by omega); have q21 := q 21 (by omega); have q22 := q 22 (by omega); have q23 := q 23 (by omega); have q24 := q 24 (by omega); have q25 := q 25 (by omega)
  change (nI (xK X i) = 15) = _ at q15
  change (nI (xK X i) = 16) = _ at q16
  change (nI (xK X i) = 17) = _ at q17
  change (nI (xK X i) = 18) = _ at q18
  change (nI (xK X i) = 19) = _ at q19
  change (nI (xK X i) = 20) = _ at q20
  change (nI (xK X i) = 21) = _ at q21
  change (nI (xK X i) = 22) = _ at q22
  change (nI (xK X i) = 23) = _ at q23
  change (nI (xK X i) = 24) = _ at q24
  change (nI (xK X i) = 25) = _ at q25
  have hl : 0 < xK X i → i < xn X := fun w => K_lt hX rfl w
  have ret : ∀ (o : gR) (R : Int32 → Int64 → gSt → Prop), wp o R → (∀ r l l' T', R r l T' → R r l' T') → wp (bi o fun r3 l3 T3 => some (r3, 0, T3)) R := by
    intro o R h hl
    refine wp_bi h ?_
    intro r l T' h'
    exact wp_some (hl r l 0 T' h')
  unfold pStep
  simp only [q15, q16, q17, q18, q19, q20, q21, q22, q23, q24, q25]
  have plain : ¬ (xK X i = 15 ∨ xK X i = 16 ∨ xK X i = 18 ∨ xK X i = 19 ∨ xK X i = 20 ∨ xK X i = 21 ∨ xK X i = 22 ∨ xK X i = 23 ∨ xK X i = 25) → wp (bi (PP nf d 77 T [nI (20 - m)] []) fun r3 l3 T3 => some (r3, 0, T3)) (fun r _ T' => CsQ X T i p (se (pEx (xK X) m 0 i) fun a j => if xK X j = 50 then se (pEx (xK X) m 0 (j + 1)) fun b j2 => sn (xK X) 46 j2 (.ok (tD 29 i 0 a b, j2 + 1, v, g)) else sn (xK X) 46 j (.ok (tD 30 i 0 a tZ, j + 1, v, g))) r T') := fun _ => ret _ _ (c_plain hX hm hG hg h60 h61 hv hg8 hp (by omega)) (fun _ _ _ _ h => h)
  by_cases c15 : xK X i = 15
  · rw [if_pos c15, if_pos c15]
    exact ret _ _ (c_var hX hnf hm hG hg (hl (by omega)) h60 h61 hv hg8 hp (by omega)) (fun _ _ _ _ h => h)
  rw [if_neg c15, if_neg c15]
  by_cases c16 : xK X i = 16
  · have go := c_choice (d := d) hX hnf hm hG hB hg (hl (by omega)) h60 h61 hv hg8 hp (by omega) rfl (Or.inl c16)
    rw [if_neg (show ¬ xK X i = 18 by omega)] at go
    rw [if_pos c16, if_neg (show ¬ xK X i = 18 by omega), if_pos c16]
    exact ret _ _ go (fun _ _ _ _ h => h)
  rw [if_neg c16]
  by_cases c17 : xK X i = 17
  · rw [if_pos c17, if_neg (show ¬ xK X i = 18 by omega), if_neg c16, if_neg (show ¬ xK X i = 19 by omega), if_neg (show ¬ xK X i = 21 by omega), if_neg (show ¬ xK X i = 22 by omega), if_neg (show ¬ xK X i = 23 by omega), if_neg (show ¬ (xK X i = 20 ∨ xK X i = 25) by omega)]
    exact plain (by omega)
  rw [if_neg c17]
  by_cases c18 : xK X i = 18
  · have go := c_choice (d := d) hX hnf hm hG hB hg (hl (by omega)) h60 h61 hv hg8 hp (by omega) rfl (Or.inr c18)
    rw [if_pos c18] at go
    rw [if_pos c18, if_pos c18]
    exact ret _ _ go (fun _ _ _ _ h => h)
  rw [if_neg c18, if_neg c18, if_neg c16]
  by_cases c19 : xK X i = 19
  · have go := c_word (d := d) hX hm hG hg (hl (by omega)) h60 h61 hv hg8 hp (by omega) rfl (Or.inl c19)
    rw [if_pos c19] at go
    rw [if_pos c19, if_pos c19]
    exact ret _ _ go (fun _ _ _ _ h => h)
  rw [if_neg c19, if_neg c19]
  by_cases c20 : xK X i = 20
  · have go := c_word (d := d) hX hm hG hg (hl (by omega)) h60 h61 hv hg8 hp (by omega) rfl (Or.inr (Or.inl c20))
    rw [if_neg c19] at go
    rw [if_pos c20, if_neg (show ¬ xK X i = 21 by omega), if_neg (show ¬ xK X i = 22 by omega), if_neg (show ¬ xK X i = 23 by omega), if_pos (Or.inl c20)]
    exact ret _ _ go (fun _ _ _ _ h => h)
  rw [if_neg c20]
  by_cases c21 : xK X i = 21
  · have go := c_region (d := d) hX hnf hm hB hg (hl (by omega)) h60 h61 hv hg8 hp (by omega) rfl (Or.inl c21)
    rw [if_pos c21] at go
    rw [if_pos c21, if_pos c21]
    exact ret _ _ go (fun _ _ _ _ h => h)
  rw [if_neg c21, if_neg c21]
  by_cases c22 : xK X i = 22
  · have go := c_region (d := d) hX hnf hm hB hg (hl (by omega)) h60 h61 hv hg8 hp (by omega) rfl (Or.inr c22)
    rw [if_neg c21] at go
    rw [if_pos c22, if_pos c22]
    exact ret _ _ go (fun _ _ _ _ h => h)
  rw [if_neg c22, if_neg c22]
  by_cases c23 : xK X i = 23
  · rw [if_pos c23, if_pos c23]
    exact ret _ _ (c_try hX hnf hm hB hg (hl (by omega)) h60 h61 hv hg8 hp (by omega)) (fun _ _ _ _ h => h)
  rw [if_neg c23, if_neg c23]
  by_cases c24 : xK X i = 24
  · rw [if_pos c24, if_neg (show ¬ (xK X i = 20 ∨ xK X i = 25) by omega)]
    exact plain (by omega)
  rw [if_neg c24]
  by_cases c25 : xK X i = 25
  · have go := c_word (d := d) hX hm hG hg (hl (by omega)) h60 h61 hv hg8 hp (by omega) rfl (Or.inr (Or.inr c25))
    rw [if_neg c19] at go
    rw [if_pos c25, if_pos (Or.inr c25)]
    exact ret _ _ go (fun _ _ _ _ h => h)
  rw [if_neg c25, if_neg (show ¬ (xK X i = 20 ∨ xK X i = 25) by omega)]
  exact plain (by omega)
end CSB
