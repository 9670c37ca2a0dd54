/-! a set STEP on both sides: the place -/
/-- the spec's side of a store; S: behind what is stored -/
def stoS (X : Lx) (ta tb : Tr) (x : Int32) (S : gSt) : gSt := if tkd X ta = 4 then (if 0 ≤ seW X ta S then svS S (seW X ta S) x (plT X tb) else flT S 3 (plT X ta)) else if tkd X ta = 14 ∨ tkd X ta = 15 ∨ tkd X ta = 16 then ftS (tgD (chk X ta 0 0 S).2.2.2 (decide (tkd X ta = 14)) (chk X ta 0 0 S).2.1) x (chk X ta 0 0 S).1 (plT X tb) else flT S 4 (plT X ta)
def StO (X : Lx) (T : gSt) (ta tb : Tr) (v g yr : Nat) (T' : gSt) : Prop := ∀ it e n S x f m, SrR X it e v g n S T → TyR (RgE e S) S T f x yr → T.1 51 0 = nI m → m + kwT ta ≤ 6032 → lvC T 16384 + lvT X ta + 30 < 16384 → cn (stoS X ta tb x S) < 6000 → BfR (stoS X ta tb x S) T' ∨ (SrR X it e v g n (stoS X ta tb x S) T' ∧ TyF S (stoS X ta tb x S) T T' ∧ AgK S (stoS X ta tb x S) T T' 0 m ∧ lvC T' 16384 ≤ lvC T 16384 + lvT X ta ∧ ∃ n', T'.1 51 0 = nI n' ∧ m < n' ∧ n' ≤ m + kwT ta ∧ (if tkd X ta = 4 then KwO e (stoS X ta tb x S) T' S 4 (slF S (tf S 79 (seW X ta S))) (tf S 80 (seW X ta S)) m ∧ n' = m + 1 else KpP e (stoS X ta tb x S) T' S (chk X ta 0 0 S).2.2.1 m n'))
section ZS8
variable {S S' T T' T1 T2 T3 : gSt} {X : Lx} {nf d it e v g n dd v' g' k i e' u c m lo hi a b n0 y z p q r j s f yv yx yr lr : Nat} {ta tb tr : Tr} {pl x op w cc t x4 : Int32} {R : RgR} {nm : Int64} {bo : Bool} {zz : T5}
/-- storeVar -/
theorem y_sto0 (hX : XO X) (hnf : 16385 ≤ nf) (hw : WZ X T v g dd) (h4 : tkd X ta = 4) (hi : lfI ta < xn X) (hkw : 1 ≤ kwT ta) (hbg : bgT ta = lfI ta) (hyr : tyY T yr) (hb : ∀ T', FX T T' → ∀ d', 2 ≤ d' → PP nf d' 33 T' [nI lr] [] = some (plT X tb, 0, T')) (hd : 12 ≤ d) : wp (PP nf d 173 T [nI (lfI ta), nI yr, nI lr] []) (fun _ _ T' => FZ T T' ∧ FqZ T T' v ∧ StO X T ta tb v g yr T') := by
  have hxn := hX.1
  obtain ⟨d, rfl⟩ : ∃ g, d = g + 3 := ⟨d - 3, by omega⟩
  obtain ⟨u, u1, u2⟩ := hw.2.1
  have v20 := hw.2.2.1
  have yrl := hyr.lt
  rw [e_Exprs_storeVar _ (d + 2)]
  unfold rb_Exprs_storeVar
  rw [c_name hX hw.1.1 hi, bis, c_findVar (nf := nf) (d := d + 2) (nm := xN X (lfI ta)) (by omega) u1 (by omega) (by omega), bis]
  have fdq : ∀ (it e n : Nat) (S : gSt), SrR X it e v g n S T → seW X ta S = ff (isVr T (xN X (lfI ta))) 0 u ∧ vn S = u := fun it e n S hR => by
    have hV := hR.1.2.2.2.2.2.2.2.2.1
    obtain ⟨w20, s77, t68⟩ := hV.vs
    have eu : vn S = u := nI_inj (by omega) (by omega) (by rw [← t68, ← u1])
    have := hV.fd (xN X (lfI ta))
    rw [eu] at this
    refine ⟨?_, eu⟩
    show fd (isVa S (xN X (lfI ta))) (vn S) = _
    rw [eu, this]
  by_cases ck : ff (isVr T (xN X (lfI ta))) 0 u = -1
  · rw [if_pos ck, c_start hX hw.1.1 (by omega), bis, c_note (by omega), bis]
    have f1 : FX T (ntS T 3 (nI (xP X (lfI ta)))) := FX.nt hw.1.2.1
    refine wp_some ⟨f1.fz, (hw.fx f1).2, fun it e n S x f m hR hx h51 hm hl hc => Or.inl ?_⟩
    have e1 := (fdq it e n S hR).1
    have p0 : ¬ 0 ≤ seW X ta S := by rw [e1, ck]; decide
    unfold stoS
    rw [if_pos h4, if_neg p0]
    have : plT X ta = nI (xP X (lfI ta)) := by unfold plT; rw [hbg]
    rw [this]
    exact bf_nt (a := 3) hR.1.2.2.2.1 hR.1.2.2.2.2.1 (by decide)
  · rw [if_neg ck]
    obtain ⟨q, eq, qu⟩ : ∃ q, ff (isVr T (xN X (lfI ta))) 0 u = nI q ∧ q < u := by
      rcases ff_val (p := isVr T (xN X (lfI ta))) (i := 0) (k := u) with w | ⟨j, j0, j1, _, w⟩
      · exact absurd w ck
      · exact ⟨j, w, by omega⟩
    obtain ⟨nv, v1, v2, v3⟩ := hw.1.2.2.2.2.1
    have en : nv = u := nI_inj (by omega) (by omega) (by rw [← v1, ← u1])
    subst en
    obtain ⟨yv, y1, y2⟩ := v3 q qu
    have yvl := y2.lt
    obtain ⟨o, g1, g2⟩ := y_dfit (nf := nf) (d := d + 1) hw.1 hyr y2 (hb T (FX.rf hw.1.2.1) (d + 1) (by omega)) (by omega)
    rw [eq, c_vType (nf := nf) (d := d + 2) v1 v2 qu (by omega), bis, y1, g1, bis]
    have f1 : FX T (fiS T yr yv o (plT X tb)) := FX.fi hw.1.2.1
    obtain ⟨W1, q1⟩ := hw.fx f1
    refine wp_bi (y_give (nf := nf) (d := d + 2) (n := nv) (u := q) (y := yr) W1 (by rw [f1.o (by omega)]; exact v1) v2 qu (f1.2.2.2.1 yr hyr) (by omega)) ?_
    intro _ _ T' ⟨z1, z2, yv', z3, z4, z5, z6⟩
    have eyv : yv' = yv := nI_inj (by omega) (by omega) (by rw [← z3, f1.o (by omega), y1])
    subst eyv
    refine wp_some ⟨f1.fz.tr z1, q1.tr z2, fun it e n S x f m hR hx h51 hm hl hc => ?_⟩
    obtain ⟨e1, eu⟩ := fdq it e n S hR
    rw [eq] at e1
    have p0 : 0 ≤ seW X ta S := by rw [e1]; exact nI0le (by omega)
    have hV := hR.1.2.2.2.2.2.2.2.2.1
    obtain ⟨_, ⟨sq, b2, b3⟩, _, y', b5, b6, b7⟩ := hV.at (show q < vn S by omega)
    have ey : y' = yv' := nI_inj (by omega) (by omega) (by rw [← b5, ← y1])
    subst ey
    have tf80 : tf S 80 (seW X ta S) = S.1 80 q := by unfold tf; rw [e1, nc (by omega)]
    have tf79 : tf S 79 (seW X ta S) = S.1 79 q := by unfold tf; rw [e1, nc (by omega)]
    have tvq := hR.1.tv q (by omega)
    have cS : cn S < 6000 := by have := hR.1.2.2.1.1.1; unfold stoS at hc; rw [if_pos h4, if_pos p0] at hc; unfold svS at hc; split at hc
                                · rw [cn_gv] at hc; exact (FE.ft : FE S _).lt this hc
                                · exact (FE.ft : FE S _).lt this hc
    have tn : ¬ S.1 80 q = -1 ∧ ¬ S.1 80 q = -2 := by
      rcases tvq with w | ⟨p, w, w1, w2⟩
      · rw [w]; exact ⟨by decide, by decide⟩
      · rw [w]
        have := nIpos w1 (show p < 100000 by omega)
        exact ⟨fun q => by rw [q] at this; exact absurd this (by decide), fun q => by rw [q] at this; exact absurd this (by decide)⟩
    have es : stoS X ta tb x S = svS S (seW X ta S) x (plT X tb) := by unfold stoS; rw [if_pos h4, if_pos p0]
    rw [es]
    rcases fits_b (pl := plT X tb) hR.xr hx b7 tn.1 tn.2 g2 with ⟨s4, s5⟩ | bf
    · rw [s4] at z3 z5 z6
      have esv : svS S (seW X ta S) x (plT X tb) = (if S.1 83 0 = 0 then S else gvS S (S.1 79 q) (S.1 80 q) x 1) := by
        unfold svS
        rw [tf80, tf79, s5]
        by_cases c : S.1 83 0 = 0
        · rw [if_neg (fun w => w.2 c), if_pos c]
        · rw [if_pos ⟨hR.1.2.2.2.1, c⟩, if_neg c]
      rw [esv]
      obtain ⟨c1, c2⟩ := hR.gv (u := q) (bo := decide (kdC T y' = 4 ∧ kdC T yr = 3)) (by omega) b2 (by omega) b5 b6 hx rfl
      have eT := z6 m h51 (by omega)
      obtain ⟨d1, d2, d3⟩ := c1.em (a := 4) (b := T.1 71 q) (z := nI (wdC T y')) h51 (by omega)
      rw [← eT] at d1 d2 d3
      have F := c2.tr d2
      have e12 : (if S.1 83 0 = 0 then S else gvS S (S.1 79 q) (S.1 80 q) x 1).1 12 = S.1 12 := by
        split
        · rfl
        · unfold gvS
          rw [sI_ne (by omega), sI_ne (by omega)]
      refine Or.inr ⟨d1, F, ⟨F, e12, fun k _ _ => ?_, fun g j g1 g2 _ j2 => ?_⟩, ?_, m + 1, by rw [eT]; exact em_51, by omega, by omega, ?_⟩
      · rw [z5.o (by omega)]
        rfl
      · obtain ⟨c', _, _, _, h4⟩ := z5.2.2.2.2.2.1 m h51 (by omega)
        rw [h4 g j g1 g2 j2]
        rfl
      · rw [d3, lvC_62 (T := T) (T' := sJ T 77 0 (gvW (flw T) q (decide (kdC T y' = 4 ∧ kdC T yr = 3)))) rfl rfl 16384]
        omega
      · rw [if_pos h4]
        refine ⟨⟨nI (wdC T' y'), ⟨5, y', ?_, rfl⟩, ?_⟩, rfl⟩
        · rw [tf80]
          exact TyR.mo F (fun _ _ z => z) _ _ _ b7
        · rw [tf79, hV.slt q (by omega), b7.wd F, eT, em_row]
          obtain ⟨n', h1, h2, h3, h4, h5, h6, _⟩ := hV
          have en : n' = vn S := by unfold vn; rw [h1, nc (by omega)]
          rw [h6 q (by omega)]
    · left
      have : svS S (seW X ta S) x (plT X tb) = ftS S x (S.1 80 q) (plT X tb) := by
        unfold svS
        rw [tf80, if_neg (fun w => bf.1 w.1)]
      rw [this]
      exact bf.fz z1
end ZS8
