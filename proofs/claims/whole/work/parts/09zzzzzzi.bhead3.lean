/-! the end of a head, on both sides: all of it -/
section CHG
variable {S S' S1 T T' T1 : gSt} {X : Lx} {nf d i k n m t e w dt wt c a b rt : Nat} {N : Nat → Int64} {l : List Nat} {x : It} {bd : Tr}
/-- fields that were related stay so -/
theorem Hc_pt (hF : TyF S1 S' T1 T') (h24 : ∀ q, q < c + l.length → S'.1 24 q = S1.1 24 q) (h44 : ∀ q, q < l.length → T'.1 44 (8 * t + q) = T1.1 44 (8 * t + q)) (h45 : ∀ q, q < l.length → T'.1 45 (8 * t + q) = T1.1 45 (8 * t + q)) (h41 : T'.1 41 t = T1.1 41 t) {u : Prop} [Decidable u] (h1 : ∀ q, q < l.length → ∃ y, T1.1 44 (8 * t + q) = nI y ∧ y < 16387 ∧ TyR R0 S1 T1 5 (S1.1 24 (c + q)) y ∧ T1.1 45 (8 * t + q) = (if u then 1 else nI (plW T1 t q 0))) (h2 : T1.1 41 t = (if u then 1 + nI (mxW T1 t l.length 0 0) else nI (plW T1 t l.length 0))) : (∀ q, q < l.length → ∃ y, T'.1 44 (8 * t + q) = nI y ∧ y < 16387 ∧ TyR R0 S' T' 5 (S'.1 24 (c + q)) y ∧ T'.1 45 (8 * t + q) = (if u then 1 else nI (plW T' t q 0))) ∧ T'.1 41 t = (if u then 1 + nI (mxW T' t l.length 0 0) else nI (plW T' t l.length 0)) := by
  have st : ∀ q, q < l.length → T'.1 44 (8 * t + q) = T1.1 44 (8 * t + q) ∧ wdC T' (T1.1 44 (8 * t + q)).toNatClampNeg = wdC T1 (T1.1 44 (8 * t + q)).toNatClampNeg := fun q hq => by
    obtain ⟨y, y1, y2, y3, _⟩ := h1 q hq
    exact ⟨h44 q hq, by rw [y1, nc (by omega)]; exact y3.wd hF⟩
  refine ⟨fun q hq => ?_, ?_⟩
  · obtain ⟨y, y1, y2, y3, y4⟩ := h1 q hq
    refine ⟨y, by rw [h44 q hq]; exact y1, y2, by rw [h24 _ (by omega)]; exact TyR.mo hF (fun _ _ z => z) _ _ _ y3, ?_⟩
    rw [h45 q hq, y4, plW_st st q 0 (by omega)]
  · rw [h41, h2, plW_st st l.length 0 (by omega), mxW_st st l.length 0 0 (by omega)]
/-- behind the result -/
theorem b_rest (hX : XO X) (hnf : 20 ≤ nf) (ht : t < 24) (hd : 6 ≤ d) (h34 : T.1 34 t = nI (dt - 1)) (hdt : dt < 70000) (h35 : T.1 35 t = nI (wt - 1)) (hwt : wt < 70000) (hg : dt = 0 ∧ n = 0 ∨ 2 ≤ dt ∧ n = rgs (xK X) 3 dt) (hg2 : wt = 0 ∧ w = 0 ∨ 2 ≤ wt ∧ 1 ≤ w ∧ w ≤ 3) (hH : HsR X S T) (hR : WR T) (hO : OwR S T t e N) (hD : DdR X S t dt n) (hD2 : WhR X S t wt w) (h30 : S.1 30 t = 0) : wp (bi (PP nf d 131 T [nI t] []) fun r23 l23 T23 => bi (PP nf d 132 T23 [nI t] []) fun r24 l24 T24 => some (0, 0, T24)) (fun _ _ T' => (HsR X (whL t (2 * w) 0 (deL t n 0 S)) T' ∧ TyF S (whL t (2 * w) 0 (deL t n 0 S)) T T' ∧ DwQ S (whL t (2 * w) 0 (deL t n 0 S)) T t w T' ∧ FwK t T T' ∧ T'.2 = T.2) ∨ BfR (whL t (2 * w) 0 (deL t n 0 S)) T') := by
  obtain ⟨a1, a2, a3, a4, a5, a6⟩ := hH
  refine wp_mono (wp_and (a_fin (nf := nf) (d := d) hX hnf ht hd h34 (by omega) h35 (by omega) a1 hR a6) (b_dwh (nf := nf) (d := d) hX hnf ht hd h34 hdt h35 hwt hg hg2 a1 hR a6 hO hD hD2 a4 a5 h30)) ?_
  intro _ _ T' ⟨f1, q1⟩
  have q1' := q1
  rcases q1 with ⟨b1, b2, b3, b4, b5, b6, b7, b8, b9, b10⟩ | hB
  · have fh : FH S (whL t (2 * w) 0 (deL t n 0 S)) := (FH.de _ _ _).tr (FH.wh _ _ _)
    refine Or.inl ⟨⟨a1.fk f1, ?_, fh.tg a3, b1, b2, f1.2.2.1⟩, TyF.st (b9 65 0 (by omega)) (fun k _ _ => funext fun j => b9 k j (by omega)) (funext fun j => b9 15 j (by omega)) (by rw [b3]) (by rw [b3]), q1', f1, b3⟩
    refine a2.st (funext fun j => b9 11 j (by omega)) (funext fun j => b9 12 j (by omega)) (by rw [b10]) (funext fun j => b9 15 j (by omega)) (fun k j hk => b8 k j (by omega) (by omega) (by omega)) (fun j => by rw [b3])
  · exact Or.inr hB
theorem HsR.of (h : HrR R0 X S T) : HsR X S T := ⟨h.1, h.2.2.1, h.2.2.2.1, h.2.2.2.2.1, h.2.2.2.2.2.1, h.2.2.2.2.2.2⟩
theorem b_htl (hX : XO X) (hnf : 16385 ≤ nf) (hz : ∀ q, xK X q = 4 → ¬ xN X q = 0) (ht : t < 24) (hd : 61 ≤ d) (hH : HrR R0 X S T) (hS : HeS X S t c (i, e, l, rt, dt, n, wt, w, bd)) (hC : HeT X T t (i, e, l, rt, dt, n, wt, w, bd)) (hg : hgO X (i, e, l, rt, dt, n, wt, w, bd)) (hk : ItOk X (i, e, l, rt, dt, n, wt, w, bd) a b) (hb : b ≤ xn X) (hO : OwR S T t e N) (hl : lvC T 16384 + 6 * (l.length + 1) + 20 < 16384) (hc : cn (tlS X t rt n w (fdL X c l l.length 0 S)) < 6000) : wp (bi (PP nf d 129 T [nI t] []) fun r14 l14 T14 => if (T14.1 33 t) = (0 : Int32) then (stK (sI T14 38 t (0 : Int32)) fun T22 => bi (PP nf d 131 T22 [nI t] []) fun r23 l23 T23 => bi (PP nf d 132 T23 [nI t] []) fun r24 l24 T24 => some (0, 0, T24)) else (bi (PP nf d 137 T14 [T14.1 33 t, (1 : Int32)] []) fun r18 l18 T18 => stK (sI T18 38 t r18) fun T19 => bi (PP nf d 131 T19 [nI t] []) fun r20 l20 T20 => bi (PP nf d 132 T20 [nI t] []) fun r21 l21 T21 => some (0, 0, T21))) (fun _ _ T' => HbP X S (tlS X t rt n w (fdL X c l l.length 0 S)) T t c (i, e, l, rt, dt, n, wt, w, bd) T') := by
  have hxn := hX.1
  have kn : ∀ q, ¬ xK X q = 0 → q < xn X := fun q hq => Decidable.byContradiction fun w => hq ((hX.2 q).1 (by omega)).1
  obtain ⟨hW, rt7, dt7, wt7, ie⟩ := hC.wh hX hg hS.2.2.1 hk hb
  have hW0 := hW
  have hS0 := hS
  have hC0 := hC
  obtain ⟨s1, s2, s3, s4, s5, s6, s7, s8⟩ := hS
  obtain ⟨c1, c2, c3, c4, c5, c6, c7, c8, c9, c10⟩ := hC
  obtain ⟨g0, g1, g2, g3, g4, g5⟩ := hg
  obtain ⟨k1, k2, k3, k4, k5, k6, _⟩ := hk
  have tg0 : Tg S := hH.2.2.2.1
  have hP : PrR X S T t c l := ⟨c5, c6, fun k hk => ⟨by have := c7 k hk; rw [show 8 * t + 0 + k = 8 * t + k by omega] at this; exact this, by
    have := (k4 k hk).2
    have := tyE_ge (X := X) 6 (l.getD k 0 + 2)
    omega, s6 k hk, g2 k hk, Nat.le_trans (k4 k hk).2 hb⟩⟩
  have hc1 : cn (fdL X c l l.length 0 S) < 6000 := FH.tl.lt ((FH.fd _ _ _).tg tg0) hc
  have DD : DdR X S t dt n := fun k hk => by
    have k4 : xK X (dt + k) = 4 := by
      rcases g4 with g | ⟨g, g', g''⟩
      · omega
      · exact (rgs_b (xK X) 3 dt).2 k (by omega)
    exact ⟨(s7 k hk).1, (s7 k hk).2, kn _ (by omega), hz _ k4⟩
  have DW : WhR X S t wt w := fun k hk => by
    rcases g5 with g | ⟨g, g', g'', g3'⟩
    · omega
    · obtain ⟨p1, p2, p3⟩ := g3' k hk
      obtain ⟨q1, q2, q3, q4⟩ := s8 k hk
      exact ⟨q1, q2, q3, q4, hz _ p1, hz _ p2, kn _ (by omega), p3⟩
  have gd2 : dt = 0 ∧ n = 0 ∨ 2 ≤ dt ∧ n = rgs (xK X) 3 dt := by
    clear k5 k4 k6
    rcases g4 with g | ⟨g, g', g''⟩
    · exact Or.inl g
    · exact Or.inr ⟨g, g''⟩
  have gw2 : wt = 0 ∧ w = 0 ∨ 2 ≤ wt ∧ 1 ≤ w ∧ w ≤ 3 := by
    rcases g5 with g | ⟨g, g', g'', _⟩
    · exact Or.inl g
    · exact Or.inr ⟨g, g', g''⟩
  have hWR : WR T := by
    obtain ⟨n, x1, x2, x3, _⟩ := hH.2.1
    exact ⟨n, x1, x2, x3⟩
  have hWI : WI T := by
    obtain ⟨n, x1, x2, x3, _⟩ := hH.2.2.1
    exact ⟨n, x2, x3⟩
  refine wp_bi (b_parts (nf := nf) (d := d) hX hnf hz ht hd hH hP (by omega) hc1) ?_
  intro _ _ T1 ⟨⟨f1, _, v1⟩, h1⟩
  have t33 : T1.1 33 t = nI rt := by rw [f1.1 33 t (by omega) (by omega) (by omega) (by omega)]; exact c8
  have t34 : T1.1 34 t = nI (dt - 1) := by rw [f1.1 34 t (by omega) (by omega) (by omega) (by omega)]; exact c9
  have t35 : T1.1 35 t = nI (wt - 1) := by rw [f1.1 35 t (by omega) (by omega) (by omega) (by omega)]; exact c10
  have fhd : FH S (fdL X c l l.length 0 S) := FH.fd _ _ _
  rcases h1 with ⟨hH1, F1, _, p1, q1, l1⟩ | hB
  · generalize hS1 : fdL X c l l.length 0 S = S1 at *
    have u28 : (if T.1 28 t = 11 then (1 : Int32) else 0) = (if xK X i = 11 then 1 else 0) := by
      rw [c1]
      by_cases k11 : xK X i = 11
      · rw [if_pos (show nI (xK X i) = 11 by rw [k11]; rfl), if_pos k11]
      · rw [if_neg (show ¬ nI (xK X i) = 11 from fun w => k11 (nI_inj (b := 11) (by have := (hX.2 i).2; omega) (by omega) w)), if_neg k11]
    rw [u28] at p1 q1
    have p1' : ∀ q, q < l.length → ∃ y, T1.1 44 (8 * t + q) = nI y ∧ y < 16387 ∧ TyR R0 S1 T1 5 (S1.1 24 (c + q)) y ∧ T1.1 45 (8 * t + q) = (if xK X i = 11 then 1 else nI (plW T1 t q 0)) := fun q hq => by
      obtain ⟨y, y1, y2, y3, y4⟩ := p1 q (by omega) hq
      refine ⟨y, y1, y2, y3, ?_⟩
      rw [y4]
      by_cases k11 : xK X i = 11
      · rw [if_pos k11, if_pos k11, if_neg (by decide)]
      · rw [if_neg k11, if_neg k11, if_pos rfl, Nat.zero_add, Nat.sub_zero]
    have q1' : T1.1 41 t = (if xK X i = 11 then 1 + nI (mxW T1 t l.length 0 0) else nI (plW T1 t l.length 0)) := by
      rw [q1]
      by_cases k11 : xK X i = 11
      · rw [if_pos k11, if_pos k11, if_neg (by decide)]
      · rw [if_neg k11, if_neg k11, if_pos rfl, Nat.zero_add]
    have O1 : OwR S1 T1 t e N := hO.st (fhd.1 15 (by omega) (by omega) (by omega) (by omega) (by omega) (by omega)) (fhd.2.1 16 (by omega)) (f1.1 72 0 (by omega) (by omega) (by omega) (by omega)) (fun j => f1.2.1 73 j (by omega))
    have DD1 : DdR X S1 t dt n := fun k hk => by rw [fhd.2.1 28 (by omega), fhd.1 29 (by omega) (by omega) (by omega) (by omega) (by omega) (by omega)]; exact DD k hk
    have DW1 : WhR X S1 t wt w := fun k hk => by rw [fhd.2.1 32 (by omega), fhd.1 33 (by omega) (by omega) (by omega) (by omega) (by omega) (by omega)]; exact DW k hk
    have R1 : WR T1 := hWR.fp f1
    by_cases k12 : xK X i = 12
    · have e12 : S1.1 12 t = 2 := by
        rw [fhd.1 12 (by omega) (by omega) (by omega) (by omega) (by omega) (by omega), s1, if_neg (by omega), if_neg (by omega)]
      have etl : tlS X t rt n w S1 = whL t (2 * w) 0 (deL t n 0 (rtS X t rt S1)) := by
        unfold tlS
        rw [e12, if_pos (by decide)]
      rw [etl] at hc ⊢
      -- from the result on
      have fin : ∀ (S2 T2 : gSt) (r : Int32) (y : Nat), HrR R0 X S2 T2 → TyF S1 S2 T1 T2 → T2.1 = T1.1 → (∀ q j, q ≠ 62 → T2.2 q j = T1.2 q j) → FH S1 S2 → S2.1 24 = S1.1 24 → S2.2 = S1.2 → y < 16387 → TyR R0 S2 T2 5 r y → lvC T2 16384 ≤ lvC T1 16384 + 6 → wp (bi (PP nf d 131 (sI T2 38 t (nI y)) [nI t] []) fun r23 l23 T23 => bi (PP nf d 132 T23 [nI t] []) fun r24 l24 T24 => some (0, 0, T24)) (fun _ _ T' => HbP X S (whL t (2 * w) 0 (deL t n 0 (sI (sI S2 26 t r) 30 t 0))) T t c (i, e, l, rt, dt, n, wt, w, bd) T') := by
        intro S2 T2 r y hH2 F2 e1 e2 fh2 e24 eS2 hy hyr hlv
        have o3 : ∀ k j, k ≠ 38 → (sI T2 38 t (nI y)).1 k j = T1.1 k j := fun k j h => by rw [sI_ne h, e1]
        have v3 : (sI T2 38 t (nI y)).1 38 t = nI y := sI_v
        have x3 : (sI T2 38 t (nI y)).2 = T2.2 := rfl
        have w3 := (hH2.2.2.2.2.2.2).ag (T' := sI T2 38 t (nI y)) rfl (by rw [sI_ne (by omega)])
        have T3k : TkC X (sI T2 38 t (nI y)) := by
          have := hH2.1
          unfold TkC at this ⊢
          rw [sI_ne (by omega), sI_ne (by omega), sI_ne (by omega), sI_ne (by omega)]
          exact this
        have i3 : ItH (sI (sI S2 26 t r) 30 t 0) (sI T2 38 t (nI y)) := hH2.2.2.1.st (by rw [sI_ne (by omega), sI_ne (by omega)]) (by rw [sI_ne (by omega), sI_ne (by omega)]) rfl (by rw [sI_ne (by omega), sI_ne (by omega)]) (fun k j hk => by rw [sI_ne (by omega)]) (fun j => rfl)
        generalize sI T2 38 t (nI y) = T3 at *
        have p3 : ∀ k j, k ≠ 26 → k ≠ 30 → (sI (sI S2 26 t r) 30 t 0).1 k j = S2.1 k j := fun k j h1 h2 => by rw [sI_ne h2, sI_ne h1]
        have q3 : (sI (sI S2 26 t r) 30 t 0).1 26 t = r := by rw [sI_ne (by omega), sI_v]
        have z3 : (sI (sI S2 26 t r) 30 t 0).1 30 t = 0 := sI_v
        have y3 : (sI (sI S2 26 t r) 30 t 0).2 = S2.2 := rfl
        have h3 : FH S2 (sI (sI S2 26 t r) 30 t 0) := (FH.wr (by omega)).tr (FH.wr (by omega))
        generalize sI (sI S2 26 t r) 30 t 0 = S3 at *
        have F3 : TyF S2 S3 T2 T3 := TyF.st (p3 65 0 (by omega) (by omega)) (fun k _ _ => funext fun j => p3 k j (by omega) (by omega)) (funext fun j => p3 15 j (by omega) (by omega)) (by rw [x3]) (by rw [x3])
        have H3 : HsR X S3 T3 := ⟨T3k, i3, h3.tg hH2.2.2.2.1, by rw [p3 7 0 (by omega) (by omega)]; exact hH2.2.2.2.2.1, by rw [o3 53 0 (by omega)]; exact hH1.2.2.2.2.2.1, w3.1⟩
        have fh13 : FH S1 S3 := fh2.tr h3
        have O3 : OwR S3 T3 t e N := O1.st (fh13.1 15 (by omega) (by omega) (by omega) (by omega) (by omega) (by omega)) (fh13.2.1 16 (by omega)) (o3 72 0 (by omega)) (fun j => by rw [x3, e2 73 j (by omega)])
        have D3 : DdR X S3 t dt n := fun k hk => by rw [fh13.2.1 28 (by omega), fh13.1 29 (by omega) (by omega) (by omega) (by omega) (by omega) (by omega)]; exact DD1 k hk
        have D4 : WhR X S3 t wt w := fun k hk => by rw [fh13.2.1 32 (by omega), fh13.1 33 (by omega) (by omega) (by omega) (by omega) (by omega) (by omega)]; exact DW1 k hk
        refine wp_mono (b_rest (nf := nf) (d := d) hX (by omega) ht (by omega) (by rw [o3 34 t (by omega)]; exact t34) dt7 (by rw [o3 35 t (by omega)]; exact t35) wt7 gd2 gw2 H3 (by
          obtain ⟨n, x1, x2, x3⟩ := R1
          exact ⟨n, by rw [o3 72 0 (by omega)]; exact x1, x2, x3⟩) O3 D3 D4 z3) ?_
        intro _ _ T' hq
        rcases hq with ⟨H4, F4, Q4, f4, e4⟩ | hB
        · rcases Q4 with ⟨b1, b2, b3, b4, b5, b6, b7, b8, b9, b10⟩ | hB
          · have F14 : TyF S1 (whL t (2 * w) 0 (deL t n 0 S3)) T1 T' := F2.tr (F3.tr F4)
            refine Or.inl ⟨H4, F1.tr F14, ?_, ?_⟩
            · have := Hc_pt (c := c) (l := l) (t := t) F14 (fun q _ => by rw [b9 24 q (by omega), p3 24 q (by omega) (by omega), e24]) (fun q _ => by rw [b8 44 _ (by omega) (by omega) (by omega), o3 44 _ (by omega)]) (fun q _ => by rw [b8 45 _ (by omega) (by omega) (by omega), o3 45 _ (by omega)]) (by rw [b8 41 _ (by omega) (by omega) (by omega), o3 41 _ (by omega)]) p1' q1'
              refine ⟨this.1, this.2, fun _ => ⟨⟨y, by rw [b8 38 t (by omega) (by omega) (by omega)]; exact v3, hy, ?_⟩, b4, b5, b6, b7⟩, fun z => absurd k12 z⟩
              rw [b9 26 t (by omega), q3]
              exact TyR.mo (F3.tr F4) (fun _ _ z => z) _ _ _ hyr
            · have : lvC T' 16384 = lvC T2 16384 := lvC_2 (by rw [e4, x3]) _
              rw [this]
              show _ ≤ lvC T 16384 + 6 * (l.length + 1)
              omega
          · exact Or.inr hB
        · exact Or.inr hB
      by_cases c0 : rt = 0
      · rw [if_pos (by rw [t33, c0]; rfl), stK]
        have er : rtS X t rt S1 = sI (sI S1 26 t (-1)) 30 t 0 := by unfold rtS; rw [if_pos c0]
        rw [er]
        exact fin S1 T1 (-1) 0 hH1 TyF.rf rfl (fun _ _ _ => rfl) FH.rf rfl rfl (by omega) (TyR.gd (Or.inr (Or.inl ⟨rfl, rfl⟩))) (by omega)
      · have er : rtS X t rt S1 = sI (sI (meX X 6 S1 rt).2 26 t (meX X 6 S1 rt).1) 30 t 0 := by unfold rtS; rw [if_neg c0]
        rw [if_neg (by rw [t33]; exact fun w => c0 (nI_inj (b := 0) (by omega) (by omega) w)), t33]
        have c6' : cn (meX X 6 S1 rt).2 < 6000 := by
          rw [er] at hc
          have h3 : FH (meX X 6 S1 rt).2 (sI (sI (meX X 6 S1 rt).2 26 t (meX X 6 S1 rt).1) 30 t 0) := (FH.wr (by omega)).tr (FH.wr (by omega))
          exact (h3.tr ((FH.de _ _ _).tr (FH.wh _ _ _))).lt ((FE.me (X := X) 6 S1 rt).tg hH1.2.2.2.1) hc
        obtain ⟨y, T2, y1, y2, y3, y4⟩ := hH1.ty (nf := nf) (d := d) (f := 5) (i := rt) (dp := 1) hX hnf hz ⟨rfl, by omega⟩ (g3 c0) (Nat.le_trans (k5 c0).2 hb) (by omega) (by omega) (by omega) c6' (by omega)
        rw [show PP nf d 137 T1 [nI rt, 1] [] = _ from y1, bis, stK, er]
        rcases y4 with ⟨z1, z2, z3, z4, z5⟩ | hB
        · have fe := FE.me (X := X) 6 S1 rt
          exact fin (meX X 6 S1 rt).2 T2 (meX X 6 S1 rt).1 y z1 z4 z2 (fun q j h => y3.2.1 q j h) (FH.fe fe) (fe.1 24 (by omega)) fe.2.1 z3.lt7 z3 (by omega)
        · -- a fault in the result
          have k2 : FhK t T1 (sI T2 38 t (nI y)) := by
            have w3 := y3.2.2.1.ag (T' := sI T2 38 t (nI y)) rfl (by rw [sI_ne (by omega)])
            have f3 : FhK t T2 (sI T2 38 t (nI y)) := ⟨fun k j _ _ _ _ _ _ _ c _ _ _ => by rw [rdI, if_neg (fun w => by omega)], fun _ _ _ _ _ => rfl, w3.1, w3.2, fun _ => ⟨by rw [sI_ne (by omega)], by rw [sI_ne (by omega)]⟩⟩
            exact y3.hk.tr f3
          refine wp_mono (a_fin (nf := nf) (d := d) (dt := dt - 1) (wt := wt - 1) hX (by omega) ht (by omega) (by rw [sI_ne (by omega), y3.1 34 (by omega) (by omega)]; exact t34) (by omega) (by rw [sI_ne (by omega), y3.1 35 (by omega) (by omega)]; exact t35) (by omega) (hH1.1.hk k2) (by
            obtain ⟨n, x1, x2, x3⟩ := R1.fh y3
            exact ⟨n, by rw [sI_ne (by omega)]; exact x1, x2, x3⟩) k2.2.2.1) ?_
          intro _ _ T' f4
          refine Or.inr ?_
          have b7 : (sI (sI (meX X 6 S1 rt).2 26 t (meX X 6 S1 rt).1) 30 t 0).1 7 0 = (meX X 6 S1 rt).2.1 7 0 := by rw [sI_ne (by omega), sI_ne (by omega)]
          have b8 : (sI (sI (meX X 6 S1 rt).2 26 t (meX X 6 S1 rt).1) 30 t 0).1 8 0 = (meX X 6 S1 rt).2.1 8 0 := by rw [sI_ne (by omega), sI_ne (by omega)]
          have n7 : ¬ (sI (sI (meX X 6 S1 rt).2 26 t (meX X 6 S1 rt).1) 30 t 0).1 7 0 = 0 := by rw [b7]; exact hB.1
          rw [de_bad _ _ _ n7, wh_bad _ _ _ n7]
          have := f4.2.2.2.2 (by rw [sI_ne (by omega), hB.2.1]; exact hB.1)
          exact ⟨n7, by rw [this.1, sI_ne (by omega), hB.2.1, b7], by rw [this.2, sI_ne (by omega), hB.2.2, b8]⟩
    · obtain ⟨n1, n2, n3⟩ := k6 k12
      have e12 : ¬ 2 ≤ S1.1 12 t := by
        rw [fhd.1 12 (by omega) (by omega) (by omega) (by omega) (by omega) (by omega), s1]
        rcases k3 with k | k | k
        · rw [if_pos k]; decide
        · rw [if_neg (by omega), if_pos k]; decide
        · exact absurd k k12
      have etl : tlS X t rt n w S1 = S1 := by unfold tlS; rw [if_neg e12]
      rw [etl, if_pos (by rw [t33, n1]; rfl), stK]
      subst n2 n3
      have w3 := (hH1.2.2.2.2.2.2).ag (T' := sI T1 38 t 0) rfl (by rw [sI_ne (by omega)])
      have fh3 : FH S1 (sI S1 30 t 0) := FH.wr (by omega)
      have T3k : TkC X (sI T1 38 t 0) := by
        have := hH1.1
        unfold TkC at this ⊢
        rw [sI_ne (by omega), sI_ne (by omega), sI_ne (by omega), sI_ne (by omega)]
        exact this
      have H3 : HsR X (sI S1 30 t 0) (sI T1 38 t 0) := ⟨T3k, hH1.2.2.1.st (by rw [sI_ne (by omega)]) (by rw [sI_ne (by omega)]) rfl (by rw [sI_ne (by omega)]) (fun k j hk => by rw [sI_ne (by omega)]) (fun j => rfl), fh3.tg hH1.2.2.2.1, by rw [sI_ne (by omega)]; exact hH1.2.2.2.2.1, by rw [sI_ne (by omega)]; exact hH1.2.2.2.2.2.1, w3.1⟩
      refine wp_mono (b_rest (nf := nf) (d := d) (n := 0) (w := 0) (e := e) (N := N) hX (by omega) ht (by omega) (by rw [sI_ne (by omega)]; exact t34) dt7 (by rw [sI_ne (by omega)]; exact t35) wt7 (by omega) (by omega) H3 (by
        obtain ⟨n, x1, x2, x3⟩ := R1
        exact ⟨n, by rw [sI_ne (by omega)]; exact x1, x2, x3⟩) (O1.st (by rw [sI_ne (by omega)]) rfl (by rw [sI_ne (by omega)]) (fun _ => rfl)) (fun k hk => absurd hk (Nat.not_lt_zero _)) (fun k hk => absurd hk (Nat.not_lt_zero _)) sI_v) ?_
      intro _ _ T' hq
      have es : whL t (2 * 0) 0 (deL t 0 0 (sI S1 30 t 0)) = sI S1 30 t 0 := rfl
      rw [es] at hq
      rcases hq with ⟨H4, F4, Q4, f4, e4⟩ | hB
      · rcases Q4 with ⟨b1, b2, b3, b4, b5, b6, b7, b8, b9, b10⟩ | hB
        · have F14 : TyF S1 S1 T1 T' := TyF.st rfl (fun _ _ _ => rfl) rfl (by rw [e4]; rfl) (by rw [e4]; rfl)
          refine Or.inl ⟨⟨H4.1, ?_, hH1.2.2.2.1, hH1.2.2.2.2.1, H4.2.2.2.2.1, H4.2.2.2.2.2⟩, F1.tr F14, ?_, ?_⟩
          · exact hH1.2.2.1.st rfl rfl rfl rfl (fun k j hk => by rw [b8 k j (by omega) (by omega) (by omega), sI_ne (by omega)]) (fun j => by rw [e4]; rfl)
          · have := Hc_pt (c := c) (l := l) (t := t) F14 (fun q _ => rfl) (fun q _ => by rw [b8 44 _ (by omega) (by omega) (by omega), sI_ne (by omega)]) (fun q _ => by rw [b8 45 _ (by omega) (by omega) (by omega), sI_ne (by omega)]) (by rw [b8 41 _ (by omega) (by omega) (by omega), sI_ne (by omega)]) p1' q1'
            exact ⟨this.1, this.2, fun z => absurd z k12, fun _ => ⟨by rw [b8 38 t (by omega) (by omega) (by omega)]; exact sI_v, b5⟩⟩
          · have : lvC T' 16384 = lvC T1 16384 := lvC_2 (by rw [e4]; rfl) _
            rw [this]
            show _ ≤ lvC T 16384 + 6 * (l.length + 1)
            omega
        · exfalso
          apply hB.1
          rw [sI_ne (by omega)]
          exact hH1.2.2.2.2.1
      · exfalso
        apply hB.1
        rw [sI_ne (by omega)]
        exact hH1.2.2.2.2.1
  · have hw1 : WH X T1 t l.length := hW0.hk (f1.hk)
    refine wp_mono (a_res (nf := nf) (d := d) hX hnf ht (by omega) (hH.1.fp f1) (hWI.fp f1) (hWR.fp f1) f1.2.2.1 hw1) ?_
    intro _ _ T' f2
    refine Or.inr ?_
    have b := tl_bad (X := X) (t := t) (rt := rt) (n := n) (w := w) hB.1
    have := f2.2.2.2.2 (by rw [hB.2.1]; exact hB.1)
    exact ⟨by rw [b.1]; exact hB.1, by rw [this.1, hB.2.1, b.1], by rw [this.2, hB.2.2, b.2]⟩
end CHG
