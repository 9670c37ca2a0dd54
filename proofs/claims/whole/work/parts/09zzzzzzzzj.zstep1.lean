/-! STEPS on both sides: print, throw, an EXPR alone -/
def tkI : Tr → Nat
  | .add (.add (.var _) (.add (.var i) (.var _))) (.add _ _) => i
  | _ => 0
/-- what STEPS come to where nothing is wrong ahead of them -/
def ZOk (X : Lx) (it e v' g' n : Nat) (S T : gSt) (t : Tr) (ys no : Int32) (j n0 : Nat) (T' : gSt) : Prop := BfR (stS X it t ys no j S) T' ∨ (SrR X it e v' g' n (stS X it t ys no j S) T' ∧ TyF S (stS X it t ys no j S) T T' ∧ (∃ n1, T'.1 51 0 = nI n1 ∧ n1 ≤ n0 + kwS2 t ∧ KdS X it e (stS X it t ys no j S) T' t ys no S n0 n1) ∧ lvC T' 16384 ≤ lvC T 16384 + lvS2 X t)
/-- a STEP, its row laid -/
def ZsP (X : Lx) (T : gSt) (t : Tr) (lo hi dd d a b v g v' g' : Nat) : Prop := RcS X T t 0 0 lo hi ∧ 1 ≤ lo ∧ hi ≤ 4008 ∧ SG X t dd 0 ∧ Ws X t 0 a b v g v' g' ∧ b ≤ xn X ∧ WZ X T v g dd ∧ dd ≤ 20 ∧ 12 * (20 - dd) + 300 ≤ d ∧ v' ≤ 20 ∧ g' ≤ 8
def ZsB (X : Lx) (it : Nat) (T : gSt) (t : Tr) (v g v' g' : Nat) (T' : gSt) : Prop := ∀ e n S n0, SrR X it e v g n S T → n + bdT t ≤ 40 → T.1 51 0 = nI (n0 + 1) → cw3 T n0 = (1, nI (xP X (tkI t)), 0) → n0 + kwS2 t ≤ 6032 → lvC T 16384 + lvS2 X t + 30 < 16384 → cn (stS X it t 0 0 0 S) < 6000 → ZOk X it e v' g' n S T t 0 0 0 n0 T'
def Zs0 (nf : Nat) (X : Lx) (it : Nat) (t : Tr) : Prop := ∀ (T : gSt) (lo hi dd d a b v g v' g' : Nat), ZsP X T t lo hi dd d a b v g v' g' → wp (PP nf d 181 T [nI lo, nI dd] []) (fun _ _ T' => FZ T T' ∧ FqZ T T' v' ∧ ZsB X it T t v g v' g' T')
section ZS1
variable {S S' T T' T1 T2 T3 : gSt} {X : Lx} {nf d it e v g n dd v' g' k i e' u c m lo hi a b n0 y z : Nat} {ta tb tr : Tr} {pl r x op : Int32}
theorem SrR.xq (h : SrR X it e v g n S T) (fx : FX T T') (q : XQ (RgE e S) (slF S) X S T tr 0 0 n0 y T') : BfR (chk X tr 0 0 S).2.2.2 T' ∨ (SrR X it e v g n (chk X tr 0 0 S).2.2.2 T' ∧ TyF S (chk X tr 0 0 S).2.2.2 T T' ∧ (∃ h, TyR (RgE e S) (chk X tr 0 0 S).2.2.2 T' h (chk X tr 0 0 S).1 y) ∧ (∃ m, T'.1 51 0 = nI m ∧ m ≤ n0 + kwT tr ∧ KxC e (chk X tr 0 0 S).2.2.2 T' S (chk X tr 0 0 S).2.2.1 n0 m) ∧ lvC T' 16384 ≤ lvC T 16384 + lvT X tr) := by
  unfold XQ XOk at q
  rcases q with ⟨a1, a2, a3, a4, a5, a6, a7, a8⟩ | bf
  · exact Or.inr ⟨h.ex a1 a2 (chk_fe tr 0 0 S) fx, a2, a3, ⟨_, a4, by omega, rfl, a5⟩, a8⟩
  · exact Or.inl bf
theorem FX.rows (fx : FX T T') (h51 : T.1 51 0 = nI m) (hm : m ≤ 6032) (hq : c < m) : cw3 T' c = cw3 T c := by
  obtain ⟨c', _, _, _, h4⟩ := fx.2.2.2.2.2.1 m h51 hm
  unfold cw3
  rw [h4 48 c (by omega) (by omega) hq, h4 49 c (by omega) (by omega) hq, h4 50 c (by omega) (by omega) hq]
theorem AgK.fx (hF : TyF S S' T T') (h12 : S'.1 12 = S.1 12) (fx : FX T T') (h51 : T.1 51 0 = nI m) (hm : m ≤ 6032) (hb : b ≤ m) : AgK S S' T T' a b := by
  obtain ⟨c', _, _, _, h4⟩ := fx.2.2.2.2.2.1 m h51 hm
  exact ⟨hF, h12, fun k a b => fx.o (by omega), fun g q g1 g2 _ q2 => h4 g q g1 g2 (by omega)⟩
/-- checkNumber -/
theorem z_num (hX : XO X) (hnf : 16385 ≤ nf) (hC : CE1 nf X tr) (hP : CeP X T tr 1 lo hi z m (dd + 1) d a b) (hd : 8 * m + 112 ≤ d) (h13 : T.1 13 z = 0) : wp (PP nf (d + 3) 182 T [nI lo, nI dd] []) (fun _ _ T' => FX T T' ∧ ∀ it e v g n S n0, SrR X it e v g n S T → Rm X (chk X tr 0 0 S).2.2.2 T tr n0 → BfR (niT (chk X tr 0 0 S).2.2.2 (chk X tr 0 0 S).1 (plT X tr)) T' ∨ (niT (chk X tr 0 0 S).2.2.2 (chk X tr 0 0 S).1 (plT X tr) = (chk X tr 0 0 S).2.2.2 ∧ SrR X it e v g n (chk X tr 0 0 S).2.2.2 T' ∧ TyF S (chk X tr 0 0 S).2.2.2 T T' ∧ (∃ m, T'.1 51 0 = nI m ∧ m ≤ n0 + kwT tr ∧ KxC e (chk X tr 0 0 S).2.2.2 T' S (chk X tr 0 0 S).2.2.1 n0 m) ∧ lvC T' 16384 ≤ lvC T 16384 + lvT X tr)) := by
  rw [e_Steps_checkNumber _ (d + 2)]
  unfold rb_Steps_checkNumber
  rw [nI_1, show (1 : Int32) = nI 1 from rfl]
  refine wp_bi (y_fits (nf := nf) (d := d) (zw := 1) hX hnf hC hP hd h13 tyY_1) ?_
  intro _ _ T3 ⟨y, T2, o, hq, ho, e3⟩
  have fx2 := hq.2.1
  have fx3 : FX T2 T3 := by rw [e3]; exact FX.fi fx2.2.2.1
  refine wp_some ⟨fx2.tr fx3, fun it e v g n S n0 hR hm => ?_⟩
  rcases hR.xq fx2 (hq.2.2 _ _ S n0 hR.xr hm) with bf | ⟨a1, a2, ⟨h, a3⟩, ⟨m', a4, a5, a6⟩, a7⟩
  · left
    have : niT (chk X tr 0 0 S).2.2.2 (chk X tr 0 0 S).1 (plT X tr) = (chk X tr 0 0 S).2.2.2 := by
      unfold niT
      rw [if_neg (fun q => bf.1 q.1)]
    rw [this]
    exact bf.fx fx3
  · have Rq := (RgE_eq (e := e) (S := S) (S' := (chk X tr 0 0 S).2.2.2) (by rw [(chk_fe tr 0 0 S).1 71 (by omega)]) ((chk_fe tr 0 0 S).1 73 (by omega)))
    have hx := a1.xr
    rcases fits_b (pl := plT X tr) (x' := 0) (z := 1) (h2 := 0) hx (by rw [Rq]; exact a3) (show TyR _ _ _ 0 0 1 from Or.inl ⟨rfl, rfl⟩) (by decide) (by decide) ho with ⟨s1, s2⟩ | bf
    · rw [← e3] at s1
      rw [ft_ni] at s2
      subst s1
      exact Or.inr ⟨s2, a1, a2, ⟨m', a4, a5, a6⟩, a7⟩
    · rw [ft_ni, ← e3] at bf
      exact Or.inl bf
/-- an EXPR of a STEP -/
theorem ZsP.ce (hw : WZ X T v g dd) (h : cRX T (RcG X T ta) lo hi) (hl : 1 ≤ lo) (hh : hi ≤ 4008) (hg : XG X ta (19 - dd) 1 ∧ dd ≤ 19) (hf : Wf X ta false a b) (hb : b ≤ xn X) (hd : 8 * (19 - dd) + 112 ≤ d) : ∃ z, CeP X T ta 1 lo hi z (19 - dd) (dd + 1) d a b ∧ T.1 13 z = 0 := by
  obtain ⟨y, y1, y2⟩ := h
  exact ⟨y, ⟨y1, hl, hh, hf, hb, hg.1, by omega, by omega, hw.1⟩, y2⟩
theorem z_24 (hX : XO X) (hnf : 16385 ≤ nf) (hC : CE1 nf X ta) (hk : k = 24 ∨ k = 25) : Zs0 nf X it (tD k i e' ta tb) := by
  intro T lo hi dd d a b v g v' g' ⟨p1, p2, p3, p4, p5, p6, p7, p8, p9, p10, p11⟩
  have hxn := hX.1
  rw [RcS_n] at p1
  unfold RsC at p1
  rw [if_neg (by omega), if_neg (by omega), if_neg (by omega)] at p1
  obtain ⟨q1, q2, q3⟩ := p1
  rw [if_neg (by omega), if_neg (by omega), if_neg (by omega), if_neg (by omega), if_pos hk] at q3
  obtain ⟨r1, r2, r3⟩ := q3
  rw [SG_n] at p4
  unfold sgN at p4
  rw [if_neg (by omega), if_neg (by omega), if_neg (by omega), if_neg (by omega), if_neg (by omega), if_neg (by omega), if_neg (by omega), if_pos (by omega)] at p4
  rw [Ws_n] at p5
  unfold WsN at p5
  rw [if_neg (by omega), if_neg (by omega), if_neg (by omega), if_neg (by omega), if_neg (by omega), if_neg (by omega), if_neg (by omega), if_pos hk] at p5
  obtain ⟨w1, ev, eg, c, w2, w3⟩ := p5
  have ev := ev.symm
  have eg := eg.symm
  subst ev eg
  obtain ⟨d, rfl⟩ : ∃ g, d = g + 4 := ⟨d - 4, by omega⟩
  have zl : inb (nI lo) 4008 := nin (by omega) (by omega)
  obtain ⟨z, hP, h13⟩ := ZsP.ce (d := d) p7 r3 (by omega) p3 p4 w2.1 (by omega) (by omega)
  have W51 : ∀ T3, FX T T3 → ∃ c, T3.1 51 0 = nI c ∧ c ≤ 6032 := fun T3 f => (p7.1.fx f).2.2.2.2.2.1
  rw [e_Steps_checkStep _ (d + 3)]
  unfold rb_Steps_checkStep
  rw [gd, if_pos zl, nc (by omega), r1]
  have esp : ∀ S, stS X it (tD k i e' ta tb) 0 0 0 S = if k = 24 then niT (chk X ta 0 0 S).2.2.2 (chk X ta 0 0 S).1 (plT X ta) else spS (niT (chk X ta 0 0 S).2.2.2 (chk X ta 0 0 S).1 (plT X ta)) := fun S => by
    rw [stS_n]
    unfold stN
    rcases hk with w | w <;> subst w <;> rfl
  have ekw : kwS2 (tD k i e' ta tb) = kwT ta + 2 := by rw [kwS2_n]; rcases hk with w | w <;> subst w <;> rfl
  have elv : lvS2 X (tD k i e' ta tb) = lvT X ta := by rw [lvS2_n]; rcases hk with w | w <;> subst w <;> rfl
  have code : ∀ (S' T' : gSt) (S : gSt) (e n0 m : Nat), cw3 T' n0 = (1, nI (xP X i), 0) → KxC e S' T' S (chk X ta 0 0 S).2.2.1 (n0 + 1) m → cw3 T' m = ((if k = 24 then 7 else 56), 0, 0) → KdS X it e S' T' (tD k i e' ta tb) 0 0 S n0 (m + 1) := fun S' T' S e n0 m h1 h2 h3 => by
    rw [KdS_n]
    unfold KsN
    have := h2.1
    rw [if_neg (by omega), if_neg (by omega), if_neg (by omega)]
    refine ⟨by omega, h1, ?_⟩
    rw [if_neg (by omega), if_neg (by omega), if_neg (by omega), if_neg (by omega), if_pos hk]
    exact ⟨m, h2, h3, rfl⟩
  -- the run up to the row
  have main : ∀ op : Int32, op = (if k = 24 then 7 else 56) → wp (bi (PP nf (d + 3) 182 T [T.1 17 lo, nI dd] []) fun _ _ T13 => bi (PP nf (d + 3) 51 T13 [op, (0 : Int32), (0 : Int32)] []) fun _ _ T14 => some ((0 : Int32), (0 : Int64), T14)) (fun _ _ T' => FX T T' ∧ ∀ e n S n0, SrR X it e v g n S T → T.1 51 0 = nI (n0 + 1) → cw3 T n0 = (1, nI (xP X i), 0) → n0 + (kwT ta + 2) ≤ 6032 → lvC T 16384 + lvT X ta + 30 < 16384 → cn (niT (chk X ta 0 0 S).2.2.2 (chk X ta 0 0 S).1 (plT X ta)) < 6000 → BfR (niT (chk X ta 0 0 S).2.2.2 (chk X ta 0 0 S).1 (plT X ta)) T' ∨ (niT (chk X ta 0 0 S).2.2.2 (chk X ta 0 0 S).1 (plT X ta) = (chk X ta 0 0 S).2.2.2 ∧ SrR X it e v g n (chk X ta 0 0 S).2.2.2 T' ∧ TyF S (chk X ta 0 0 S).2.2.2 T T' ∧ (∃ n1, T'.1 51 0 = nI n1 ∧ n1 ≤ n0 + (kwT ta + 2) ∧ KdS X it e (chk X ta 0 0 S).2.2.2 T' (tD k i e' ta tb) 0 0 S n0 n1) ∧ lvC T' 16384 ≤ lvC T 16384 + lvT X ta)) := by
    intro op hop
    rw [r2]
    refine wp_bi (z_num (nf := nf) (d := d) hX hnf hC hP (by omega) h13) ?_
    intro _ _ T3 ⟨f3, hB⟩
    obtain ⟨r4, T4, m1, m2, m3⟩ := a_emit (nf := nf) (d := d + 3) (T := T3) (x := op) (y := 0) (z := 0) f3.2.2.1 (W51 T3 f3) (by omega)
    rw [m1, bis]
    refine wp_some ⟨f3.tr m2, fun e n S n0 hR h51 hrow hn hl hc => ?_⟩
    have cA : cn (chk X ta 0 0 S).2.2.2 < 6000 := (FE.ni : FE (chk X ta 0 0 S).2.2.2 _).lt ((chk_fe ta 0 0 S).tg hR.1.2.2.1.1.1) hc
    rcases hB it e v g n S (n0 + 1) hR ⟨h51, by omega, by omega, cA⟩ with bf | ⟨a0, a1, a2, ⟨m', a4, a5, a6⟩, a7⟩
    · exact Or.inl (bf.fx m2)
    · have eT := m3 m' a4 (by omega)
      obtain ⟨b1, b2, b3⟩ := a1.em (a := op) (b := 0) (z := 0) a4 (by omega)
      rw [← eT] at b1 b2 b3
      refine Or.inr ⟨a0, b1, a2.tr b2, ⟨m' + 1, by rw [eT]; exact em_51, by omega, code _ _ _ _ _ _ ?_ ?_ ?_⟩, by omega⟩
      · rw [(f3.tr m2).rows h51 (by omega) (by omega)]
        exact hrow
      · exact a6.mo (AgK.fx (a := n0 + 1) b2 rfl m2 a4 (by omega) (Nat.le_refl _)) (Nat.le_refl _) (Nat.le_refl _)
      · rw [eT, em_row, hop]
  rcases hk with w | w
  · subst w
    rw [if_pos rfl, if_neg (by decide), if_neg (by decide), if_neg (by decide), if_neg (by decide), if_neg (by decide), if_pos rfl, gd, if_pos zl]
    refine wp_mono (main 7 rfl) ?_
    intro _ _ T' ⟨fx, hB⟩
    refine ⟨fx.fz, (p7.fx fx).2, fun e n S n0 hR hbd h51 hrow hn hl hc => ?_⟩
    unfold ZOk
    rw [ekw] at hn ⊢
    rw [elv] at hl ⊢
    rw [esp S, if_pos rfl] at hc ⊢
    rcases hB e n S n0 hR h51 hrow hn hl hc with bf | ⟨a0, a1, a2, a3, a4⟩
    · exact Or.inl bf
    · rw [a0]
      exact Or.inr ⟨a1, a2, a3, a4⟩
  · subst w
    rw [show (if (25 : Nat) = 24 then (20 : Int32) else 25) = 25 from rfl, if_neg (by decide), if_neg (by decide), if_neg (by decide), if_neg (by decide), if_neg (by decide), if_neg (by decide), if_neg (by decide), if_neg (by decide), if_neg (by decide), if_neg (by decide), if_pos rfl, gd, if_pos zl]
    have mm := main 56 rfl
    obtain ⟨rr, ll, T5, e5, ⟨fx, hB⟩⟩ := mm
    have e6 : (bi (PP nf (d + 3) 182 T [T.1 17 lo, nI dd] []) fun _ _ T13 => bi (PP nf (d + 3) 51 T13 [(56 : Int32), (0 : Int32), (0 : Int32)] []) fun _ _ T14 => bi (PP nf (d + 3) 118 T14 [] []) fun _ _ T15 => some ((0 : Int32), (0 : Int64), T15)) = bi (bi (PP nf (d + 3) 182 T [T.1 17 lo, nI dd] []) fun _ _ T13 => bi (PP nf (d + 3) 51 T13 [(56 : Int32), (0 : Int32), (0 : Int32)] []) fun _ _ T14 => some ((0 : Int32), (0 : Int64), T14)) fun _ _ T14 => bi (PP nf (d + 3) 118 T14 [] []) fun _ _ T15 => some ((0 : Int32), (0 : Int64), T15) := by
      cases PP nf (d + 3) 182 T [T.1 17 lo, nI dd] [] with
      | none => rfl
      | some q =>
        obtain ⟨q1, q2, q3⟩ := q
        rw [bis, bis]
        cases PP nf (d + 3) 51 q3 [(56 : Int32), (0 : Int32), (0 : Int32)] [] with
        | none => rfl
        | some q => rfl
    rw [e6, e5, bis, c_leave (by omega), bis]
    obtain ⟨W5, z5, f5⟩ := (p7.fx fx).1.fl (T' := sJ T5 77 0 (sbW (flw T5) 52 false)) rfl (fun p j hp => by rw [rdJ, if_neg (fun q => hp q.1)])
    refine wp_some ⟨fx.fz.tr z5, (p7.fx fx).2.tr f5, fun e n S n0 hR hbd h51 hrow hn hl hc => ?_⟩
    unfold ZOk
    rw [ekw] at hn ⊢
    rw [elv] at hl ⊢
    rw [esp S, if_neg (by decide)] at hc ⊢
    have hc' : cn (niT (chk X ta 0 0 S).2.2.2 (chk X ta 0 0 S).1 (plT X ta)) < 6000 := by
      have : cn (spS (niT (chk X ta 0 0 S).2.2.2 (chk X ta 0 0 S).1 (plT X ta))) = cn (niT (chk X ta 0 0 S).2.2.2 (chk X ta 0 0 S).1 (plT X ta)) := by
        unfold cn spS
        rw [sI_ne (by omega), sI_ne (by omega), sI_ne (by omega)]
      omega
    rcases hB e n S n0 hR h51 hrow hn hl hc' with bf | ⟨a0, a1, a2, ⟨n1, a3, a3b, a3c⟩, a4⟩
    · left
      have o : ∀ k, k ≠ 81 → k ≠ 82 → k ≠ 83 → (spS (niT (chk X ta 0 0 S).2.2.2 (chk X ta 0 0 S).1 (plT X ta))).1 k = (niT (chk X ta 0 0 S).2.2.2 (chk X ta 0 0 S).1 (plT X ta)).1 k := fun k a b c => by unfold spS; rw [sI_ne (by omega), sI_ne (by omega), sI_ne (by omega)]
      have : BfR (spS (niT (chk X ta 0 0 S).2.2.2 (chk X ta 0 0 S).1 (plT X ta))) T5 := by
        unfold BfR
        rw [o 7 (by omega) (by omega) (by omega), o 8 (by omega) (by omega) (by omega)]
        exact bf
      exact this.fz z5
    · rw [a0]
      obtain ⟨b1, b2⟩ := a1.sp
      refine Or.inr ⟨b1, a2.tr b2, ⟨n1, a3, a3b, ?_⟩, ?_⟩
      · exact KdS.mo _ _ _ _ _ _ ⟨b2, by unfold spS; rw [sI_ne (by omega), sI_ne (by omega), sI_ne (by omega)], fun _ _ _ => rfl, fun _ _ _ _ _ _ => rfl⟩ a3c
      · rw [lvC_62 (T := T5) (T' := sJ T5 77 0 (sbW (flw T5) 52 false)) rfl rfl 16384]
        exact a4
end ZS1
