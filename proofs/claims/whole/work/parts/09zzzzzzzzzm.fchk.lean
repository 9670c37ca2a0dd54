/-! checkFun: both sides -/
/-- between funs: what goes together -/
def FnR (X : Lx) (S T : gSt) : Prop := HsR X S T ∧ Ckf S ∧ AiR X S T ∧ CtR S T ∧ T.1 71 0 = 0
/-- what is told of a fun's head -/
def FiR (X : Lx) (S T : gSt) (it c : Nat) (x : It) : Prop := HeS X S it c x ∧ HcR X S T it c x ∧ HnU S it c x.2.2.1.length ∧ fi (S.1 30 it) 0 = false ∧ it < inn S ∧ S.1 18 it = nI c ∧ c ≤ 220 ∧ S.1 19 it = nI x.2.2.1.length ∧ S.1 57 (S.1 34 it).toNatClampNeg = nI (xP X (enB x.2.2.2.2.2.2.2.2))
/-- what the grammar tells of a fun -/
def FgO (X : Lx) (x : It) : Prop := hgO X x ∧ (xK X x.1 = 12 → SG X x.2.2.2.2.2.2.2.2 1 2)
/-- the class's tree of a fun -/
def FcT (X : Lx) (T : gSt) (it lo hi : Nat) (b : Tr) : Prop := T.1 36 it = (if emB b = true then 0 else nI lo) ∧ T.1 37 it = nI (enB b) ∧ RcS X T b 2 0 lo hi ∧ 1 ≤ lo ∧ hi ≤ 4008 ∧ enB b < 100000
/-- a fun, checked on both sides -/
def FnO (X : Lx) (S T : gSt) (it c : Nat) (x : It) (n0 : Nat) (T' : gSt) : Prop := match x with
  | (_, e, l, _, _, _, _, w, b) => BfR (fnS X it c l.length w b S) T' ∨ (FnR X (fnS X it c l.length w b S) T' ∧ TyF S (fnS X it c l.length w b S) T T' ∧ T'.1 42 it = nI n0 ∧ (∃ n1, T'.1 51 0 = nI (n1 + 1) ∧ n0 ≤ n1 ∧ n1 ≤ n0 + kwS2 b ∧ KdS X it e (fnS X it c l.length w b S) T' b 0 0 (fnC it c l.length w S) n0 n1 ∧ cw3 T' n1 = (58, 0, 0)) ∧ lvC T' 16384 ≤ lvC T 16384 + lvS2 X b)
section FCK
variable {S S' T T' T1 T2 T3 T4 : gSt} {X : Lx} {nf d it e v g n k i u c m lo hi a z n0 y p q r j s f t fl v' g' rt dt wt w : Nat} {x op : Int32} {nm : Int64} {b : Tr} {l : List Nat} {xi : It}
theorem fnB_88 (hk : 88 ≤ k) : (fnB it w S).1 k = S.1 k := by
  have c1 : ∀ (a b c : Int32) (V : gSt), (cl1 a b c V).1 k = V.1 k := fun a b c V => by
    unfold cl1
    split
    · exact sI_ne (by omega)
    · rfl
  have c2 : ∀ (a b : Int32) (V : gSt), (cl2 a b V).1 k = V.1 k := fun a b V => by unfold cl2; rw [c1, c1, c1]
  have c3 : ∀ (a : Int32) (V : gSt), (cl3 a V).1 k = V.1 k := fun a V => by unfold cl3; rw [c2, c2, c2]
  have fl : ∀ (m j : Nat) (V : gSt), (fwL it m j V).1 k = V.1 k := by
    intro m
    induction m with
    | zero => intro j V; rfl
    | succ m ih =>
      intro j V
      rw [fwL, ih]
      unfold fwS
      exact sI_ne (by omega)
  unfold fnB zrS
  rw [sI_ne (by omega), sI_ne (by omega), sI_ne (by omega), sI_ne (by omega), sI_ne (by omega), sI_ne (by omega), sI_ne (by omega)]
  unfold clS
  rw [c3, c3, c3, fl]
  unfold fnA
  rw [sI_ne (by omega), sI_ne (by omega)]
  unfold fn0 sgS
  rw [sgL_o k (by omega) (by omega), sI_ne (by omega), sI_ne (by omega)]
theorem SrR.fn (h : SrR X it e v g n S T) (hC : Ckf S) : FnR X S T := by
  obtain ⟨⟨a1, a2, a3, a4, a5, a6, a7, a9, a11, a12, a13, a14, a15, a16⟩, hfw⟩ := h
  refine ⟨⟨a1, a2, a3.1.1, a4, a5, a6⟩, hC, a12, a14, ?_⟩
  obtain ⟨n, _, _, _, _, _, h71, _⟩ := a11
  rw [h71 0 (Nat.zero_le _)]
  rfl
/-- the fun's BLOCK begins: both sides -/
theorem fn_beg (hX : XO X) (hz : ∀ q, xK X q = 4 → ¬ xN X q = 0) (hr : FnR X S T) (hf : FiR X S T it c (i, e, l, rt, dt, n, wt, w, b)) (hH : HeT X T it (i, e, l, rt, dt, n, wt, w, b)) (hw : WF X T) (h12 : xK X i = 12) (hg : hgO X (i, e, l, rt, dt, n, wt, w, b)) (hk : ItOk X (i, e, l, rt, dt, n, wt, w, b) a z) (hzn : z ≤ xn X) (hc : cn S < 6000) (t67 : T1.1 67 0 = nI it) (t68 : T1.1 68 0 = 0) (t72 : T1.1 72 0 = 4) (t75 : T1.1 75 0 = 0) (t76 : T1.1 76 0 = 0) (tf : flw T1 = livW (T.1 39 it) e 1 4504699138998272) (to : ∀ g, g ≠ 67 → g ≠ 68 → g ≠ 72 → g ≠ 75 → g ≠ 76 → T1.1 g = T.1 g) (t2 : ∀ g j, ¬ (g = 73 ∧ 1 ≤ j ∧ j ≤ 3) → g ≠ 77 → T1.2 g j = T.2 g j) (t73 : ∀ j, 1 ≤ j → j ≤ 3 → T1.2 73 j = ehN X e (i + 1) j) : SrR X it e l.length 0 0 (fnC it c l.length w S) (epT X it l.length 0 T1) ∧ TyF S (fnC it c l.length w S) T (epT X it l.length 0 T1) ∧ lvC (epT X it l.length 0 T1) 16384 = lvC T 16384 := by
  obtain ⟨hs, hC, hai, hct, h71⟩ := hr
  obtain ⟨hS, hcr, hnu, h30, hit, h18, h220, h19, _⟩ := hf
  have hxn := hX.1
  obtain ⟨k1, k2, k3, k4, _⟩ := hk
  replace h19 : S.1 19 it = nI l.length := h19
  obtain ⟨s1, s2, s3, s4, s5, s6, s7, s8⟩ := hS
  obtain ⟨c1, c2, c3, c4, c5, c6, c7, c8, c9, c10⟩ := hH
  obtain ⟨g0, g1, g2, g3, g4, g5⟩ := hg
  obtain ⟨p1, p2, p3, p4⟩ := hcr
  obtain ⟨⟨y38, y1, y2, y3⟩, b1, b2, b3, b4⟩ := p3 h12
  have in24 : inn S ≤ 24 := hC.2.2.2.2.1
  have io := hC.2.2.2.2.2 it hit
  have e12 : S.1 12 it = 2 := by rw [s1, if_neg (by omega), if_neg (by omega)]
  have l8 : l.length ≤ 8 := c6
  obtain ⟨u1, u2⟩ := hnu
  rw [s4, nc (by omega)] at u1
  obtain ⟨r1, r2, r3⟩ := sr_fn (X := X) (T := T) (T1 := T1) (it := it) (e := e) (i := i + 1) (w := w) hs hC hit (by omega) e12 s3 s4 hai hct h71 (fun k hk => by
    have := s5 k hk
    refine ⟨?_, hz _ (by rw [show i + 1 + (k + 1) = i + 2 + k by omega]; exact g1 k hk)⟩
    rw [show i + 1 + (k + 1) = i + 2 + k by omega]
    exact this.1) u1 h30 b1 b3 (fun q hq => by
    obtain ⟨r, s, x1, x2, x3, x4, x5, x6, _⟩ := b4 q hq
    exact ⟨r, s, x1, x2, x3, x4, x5, x6⟩) t67 t68 t72 t75 t76 tf to t2 t73 (fun k hk => fnB_88 hk)
  obtain ⟨v1, v2, v3, v4, v5, v6, v7, v8, v9, v10⟩ := fnB_v (w := w) (it := it) s3 s4
  have fq : FQ S (fnB it w S) := FQ.nB
  have wt1 := (hw.2.1.ag2 (T' := T1) (by funext j; exact t2 62 j (by omega) (by omega)) (t2 63 0 (by omega) (by omega)) (by rw [to 27 (by omega) (by omega) (by omega) (by omega) (by omega)])).2
  have itn : it < itN T := by
    obtain ⟨n', n1, n2, n3, _⟩ := hs.2.1
    unfold itN
    rw [n2, nc (by omega)]
    omega
  obtain ⟨m', ⟨j1, j2, j3⟩, j4, _⟩ := hw.2.2.2.2.2 it itn
  have em : m' = l.length := nI_inj (by omega) (by omega) (by rw [← j1, ← c5])
  subst em
  have evn : vn (fnB it w S) = 0 := by unfold vn; rw [v4]; rfl
  have h24 : ∀ q, q < l.length → tV S (S.1 24 (c + q)) := fun q hq => by
    obtain ⟨c', m', r', w', i1, i2, i3, i4, i5, i6, i7, i8, i9, _⟩ := io
    have ec : c' = c := nI_inj (by omega) (by omega) (by rw [← i1, ← h18])
    have em : m' = l.length := nI_inj (by omega) (by omega) (by rw [← i2, ← h19])
    subst ec em
    exact (i9 q hq).1
  obtain ⟨q1, q2, q3⟩ := sr_pa (X := X) (it := it) (e := e) (n := 0) (m := l.length) (c := c) (t := it) (g := 0) l8 l.length 0 (fnB it w S) T1 r1 evn (by omega) (fun a ha => absurd ha (Nat.not_lt_zero _)) (by rw [fq.2.1 21 (by omega)]; exact u2) (fun q hq => by
    obtain ⟨y, y1, y2, y3, _⟩ := p1 q hq
    obtain ⟨y', z1, z2⟩ := j4 q hq
    have : y' = y := nI_inj (by have := z2.lt; omega) (by omega) (by rw [← z1, ← y1])
    subst this
    rw [to 44 (by omega) (by omega) (by omega) (by omega) (by omega), to 43 (by omega) (by omega) (by omega) (by omega) (by omega), fq.1 24 (by omega) (by omega), fq.2.1 21 (by omega)]
    refine ⟨y', y1, y2, wt1 _ z2, TyR.mo r2 (fun cc mm hh => Or.inl hh) _ _ _ y3, fq_tv fq (h24 q hq), ?_⟩
    have := c7 q hq
    rw [show 8 * it + 0 + q = 8 * it + q by omega] at this
    rw [this, s6 q hq]
    congr 1
    refine (nc ?_).symm
    have w1 := (k4 q hq).2
    have w2 := tyE_ge (X := X) 6 (l.getD q 0 + 2)
    omega) (by rw [fq_cn fq]; exact hc) v6 (by rw [v7]; decide)
  refine ⟨q1, r2.tr q2, by rw [q3, r3]⟩
/-- has the fun a result? -/
theorem FnR.neg (hr : FnR X S T) (hf : FiR X S T it c (i, e, l, rt, dt, n, wt, w, b)) (h12 : xK X i = 12) (h38 : T.1 38 it = nI y) (hy : y < 16387) : y = 0 ↔ S.1 25 it < 0 := by
  obtain ⟨hS, hcr, hnu, h30, hit, _⟩ := hf
  obtain ⟨⟨y', y1, y2, y3⟩, _⟩ := hcr.2.2.1 h12
  have : y' = y := nI_inj (by omega) (by omega) (by rw [← y1, ← h38])
  subst this
  obtain ⟨c', m', r', w', i1, i2, i3, i4, i5, i6, i7, i8, i9, i10, _⟩ := hr.2.1.2.2.2.2.2 it hit
  have e12 : S.1 12 it = 2 := by rw [hS.1, if_neg (by omega), if_neg (by omega)]
  constructor
  · intro y0
    have x1 := y3.y0.mpr y0
    refine Decidable.byContradiction fun hn => ?_
    have := (i10 (Int32.not_lt.mp hn)).1
    rw [x1] at this
    rcases this with q | ⟨p, q, q1, q2⟩
    · exact absurd q (by decide)
    · have := hr.2.1.1.2
      exact nI_m1 (by omega) q.symm
  · intro hn
    obtain ⟨_, _, _, _, _, _, _, _, _, _, _, _, b11⟩ := hr.2.2.1 it hit
    exact y3.y0.mp (b11 hn e12)
/-- checkFun -/
theorem y_fun (hX : XO X) (hnf : 16385 ≤ nf) (hz : ∀ q, xK X q = 4 → ¬ xN X q = 0) (hd : 540 ≤ d) (hw : WF X T) (hH : HeT X T it (i, e, l, rt, dt, n, wt, w, b)) (he : e ≤ 3) (h12 : xK X i = 12) (hg : FgO X (i, e, l, rt, dt, n, wt, w, b)) (hk : ItOk X (i, e, l, rt, dt, n, wt, w, b) a z) (hzn : z ≤ xn X) (hit : it < itN T) (h24 : it < 24) (hT : FcT X T it lo hi b) : wp (PP nf d 179 T [nI it] []) (fun _ _ T' => FF it T T' ∧ ∀ S c n0, FnR X S T → FiR X S T it c (i, e, l, rt, dt, n, wt, w, b) → T.1 51 0 = nI n0 → n0 + kwS2 b + 1 ≤ 6032 → lvC T 16384 + lvS2 X b + 30 < 16384 → cn (fnS X it c l.length w b S) < 6000 → FnO X S T it c (i, e, l, rt, dt, n, wt, w, b) n0 T') := by
  obtain ⟨d, rfl⟩ : ∃ g, d = g + 1 := ⟨d - 1, by omega⟩
  have hxn := hX.1
  have zt : inb (nI it) 24 := nin h24 (by omega)
  have ct : (nI it).toNatClampNeg = it := nc (by omega)
  have hH0 := hH
  have hk0 := hk
  obtain ⟨hWH, rt7, dt7, wt7, ie⟩ := hH.wh hX hg.1 he hk hzn
  obtain ⟨c1, c2, c3, c4, c5, c6, c7, c8, c9, c10⟩ := hH
  obtain ⟨k1, k2, k3, k4, k5, k6, k7⟩ := hk
  obtain ⟨a', v', g', ka, kw, kb⟩ := k7 h12
  obtain ⟨v20, g8⟩ := Ws_le _ _ _ _ _ _ _ _ kw (by omega) (by omega)
  obtain ⟨t36, t37, tR, tlo, thi, hb⟩ := hT
  obtain ⟨nn, ⟨j1, j2, j3⟩, j4, ⟨y38, j5, j6⟩, _⟩ := hw.2.2.2.2.2 it hit
  have enn : nn = l.length := nI_inj (by omega) (by omega) (by rw [← j1, ← c5])
  subst enn
  rw [e_Steps_checkFun]
  unfold rb_Steps_checkFun
  refine wp_bi (c_enterFun (nf := nf) (d := d) (t := it) (e := e) (i := i + 1) (m := l.length) hX hw.1 (by omega) h24 he ie c4 c2 c5 c6 (fun q hq => by
    obtain ⟨tk, x1, x2⟩ := j3 q hq
    obtain ⟨y, y1, y2⟩ := j4 q hq
    exact ⟨tk, y, x1, x2, y1, y2.lt⟩) (by omega)) ?_
  rintro _ _ _ ⟨T1, rfl, t67, t68, t72, t75, t76, tf, to, t2, t73⟩
  rw [c_cnt (by omega), bis, gd, if_pos zt, ct, stK, gd, if_pos zt]
  obtain ⟨wz, fF⟩ := hw.beg (x := (epT X it l.length 0 T1).1 51 0) hit h24 c6 c5 t67 t68 t72 t76 to t2
  have e42 : (sI (epT X it l.length 0 T1) 42 it ((epT X it l.length 0 T1).1 51 0)).1 42 it = T.1 51 0 := by
    rw [sI_v, ep_o (by omega), to 51 (by omega) (by omega) (by omega) (by omega) (by omega)]
  have begB : ∀ S c, FnR X S T → FiR X S T it c (i, e, l, rt, dt, n, wt, w, b) → cn S < 6000 → SrR X it e l.length 0 0 (fnC it c l.length w S) (sI (epT X it l.length 0 T1) 42 it ((epT X it l.length 0 T1).1 51 0)) ∧ TyF S (fnC it c l.length w S) T (sI (epT X it l.length 0 T1) 42 it ((epT X it l.length 0 T1).1 51 0)) ∧ lvC (sI (epT X it l.length 0 T1) 42 it ((epT X it l.length 0 T1).1 51 0)) 16384 = lvC T 16384 := fun S c hr hf hc => by
    obtain ⟨r1, r2, r3⟩ := fn_beg hX hz hr hf hH0 hw h12 hg.1 hk0 hzn hc t67 t68 t72 t75 t76 tf to t2 t73
    obtain ⟨s1, s2, s3⟩ := r1.w42 (p := it) (x := (epT X it l.length 0 T1).1 51 0)
    exact ⟨s1, r2.tr s2, by rw [s3, r3]⟩
  have e51 : (sI (epT X it l.length 0 T1) 42 it ((epT X it l.length 0 T1).1 51 0)).1 51 0 = T.1 51 0 := by
    rw [sI_ne (by omega), ep_o (by omega), to 51 (by omega) (by omega) (by omega) (by omega) (by omega)]
  generalize sI (epT X it l.length 0 T1) 42 it ((epT X it l.length 0 T1).1 51 0) = T3 at *
  rw [fF.o (k := 36) (by omega) (by omega) (by omega), t36, show (1 : Int32) = nI 1 from rfl]
  refine wp_bi (zb (nf := nf) (it := it) hX hnf hz b T3 lo hi 1 d a' z l.length 0 v' g' ⟨by rw [RcS_eq (T := T) (fun g g1 g2 => fF.o (by omega) (by omega) (by omega))]; exact tR, tlo, thi, hg.2 h12, kw, hzn, wz, by omega, by omega, v20, g8⟩) ?_
  intro _ _ T4 ⟨f4, q4, _, zB, _⟩
  have fF4 : FF it T T4 := fF.tr f4.ff
  have w4 := hw.ff fF4
  have e38 : T4.1 38 it = nI y38 := by rw [fF4.o (by omega) (by omega) (by omega)]; exact j5
  have e37 : T4.1 37 it = nI (enB b) := by rw [fF4.o (by omega) (by omega) (by omega)]; exact t37
  have e42' : T4.1 42 it = T.1 51 0 := by rw [f4.o (by omega) (by omega)]; exact e42
  -- what B is from T4 on
  have fin : ∀ T5, FZ T4 T5 → (∀ S c n0, FnR X S T → FiR X S T it c (i, e, l, rt, dt, n, wt, w, b) → T.1 51 0 = nI n0 → n0 + kwS2 b + 1 ≤ 6032 → lvC T 16384 + lvS2 X b + 30 < 16384 → cn (fnS X it c l.length w b S) < 6000 → ZO2 X it e v' g' 0 (fnC it c l.length w S) T3 b 0 0 0 n0 T4 → BfR (fnS X it c l.length w b S) T5 ∨ (T5 = T4 ∧ fnS X it c l.length w b S = stS X it b 0 0 0 (fnC it c l.length w S))) → wp (bi (PP nf d 51 T5 [(58 : Int32), (0 : Int32), (0 : Int32)] []) fun r8 l8 T8 => some ((0 : Int32), (0 : Int64), T8)) (fun _ _ T' => FF it T T' ∧ ∀ S c n0, FnR X S T → FiR X S T it c (i, e, l, rt, dt, n, wt, w, b) → T.1 51 0 = nI n0 → n0 + kwS2 b + 1 ≤ 6032 → lvC T 16384 + lvS2 X b + 30 < 16384 → cn (fnS X it c l.length w b S) < 6000 → FnO X S T it c (i, e, l, rt, dt, n, wt, w, b) n0 T') := by
    intro T5 f5 hB
    have fF5 : FF it T T5 := fF4.tr f5.ff
    have w5 := hw.ff fF5
    obtain ⟨rr, T6, m1, m2, m3⟩ := a_emit (nf := nf) (d := d) (x := 58) (y := 0) (z := 0) w5.2.1 w5.2.2.2.1 (by omega)
    rw [m1, bis]
    refine wp_some ⟨fF5.tr m2.fz.ff, fun S c n0 hr hf h51 hn hl hc => ?_⟩
    have tgS : Tg S := hr.2.1.1
    have cnS : cn S ≤ cn (fnS X it c l.length w b S) := ((Trw.fns (X := X) (it := it) (c := c) (m := l.length) (w := w) (tt := b)) tgS).2.1
    obtain ⟨s1, s2, s3⟩ := begB S c hr hf (by omega)
    have fq : FQ S (fnC it c l.length w S) := FQ.nC
    have tgC := tgS.fq fq
    have fst := st_fs (X := X) (it := it) b 0 0 0 (fnC it c l.length w S)
    have cst : cn (stS X it b 0 0 0 (fnC it c l.length w S)) ≤ cn (fnS X it c l.length w b S) := (FS.fne.2.2.1 (fst.2.2.1 tgC).1).2.1
    have z4 := zB e 0 (fnC it c l.length w S) n0 s1 (by omega) (by omega) (by rw [e51]; exact h51) (by omega) (by omega) (by omega)
    rcases hB S c n0 hr hf h51 hn hl hc z4 with bf | ⟨rfl, eS⟩
    · exact Or.inl (bf.fx m2)
    rcases z4 with bf | ⟨o1, o2, ⟨n1, o3, o4, o5, o6⟩, o7, o8⟩
    · refine Or.inl (BfR.fx ?_ m2)
      rw [eS]
      exact bf
    have e6 := m3 n1 o3 (by omega)
    obtain ⟨u1, u2, u3⟩ := o1.em (a := 58) (b := 0) (z := 0) o3 (by omega)
    rw [← e6] at u1 u2 u3
    have h70 : (fnS X it c l.length w b S).1 7 0 = 0 := by rw [eS]; exact u1.1.2.2.2.1
    obtain ⟨hS, hcr, hnu, h30, hitS, h18, h220, h19, hpl⟩ := hf
    have h24' : ∀ q, q < l.length → tV S (S.1 24 (c + q)) := fun q hq => by
      obtain ⟨c', m', r', w', i1, i2, i3, i4, i5, i6, i7, i8, i9, _⟩ := hr.2.1.2.2.2.2.2 it hitS
      have ec : c' = c := nI_inj (by omega) (by omega) (by rw [← i1, ← h18])
      have em : m' = l.length := nI_inj (by omega) (by have := c6; omega) (by rw [← i2]; exact h19)
      subst ec em
      exact (i9 q hq).1
    have ck := fn_ck (X := X) (tt := b) (w := w) hr.2.1 hitS c6 hS.2.2.2.1 hS.2.2.1 h24' kw (by omega) kb hc h70
    rw [eS] at ck
    have efn : FnR X (fnS X it c l.length w b S) T6 := by rw [eS]; exact u1.fn ck
    have fx6 := m2
    refine Or.inr ⟨efn, ?_, ?_, ⟨n1, ?_, o4, o5, ?_, ?_⟩, ?_⟩
    · rw [eS]; exact (s2.tr o2).tr u2
    · rw [m2.o (by omega), e42']; exact h51
    · rw [e6]; unfold emS; rw [sI_v]
    · rw [eS]
      exact KdS.mo _ _ _ _ _ _ (AgK.fx u2 rfl m2 o3 (by omega) (Nat.le_refl _)) o6
    · rw [e6]; exact em_row
    · rw [u3]; omega
  -- behind a fault of the BLOCK
  have bad : ∀ S c, BfR (stS X it b 0 0 0 (fnC it c l.length w S)) T4 → BfR (fnS X it c l.length w b S) T4 := fun S c bf => by
    have : fnS X it c l.length w b S = stS X it b 0 0 0 (fnC it c l.length w S) := by
      unfold fnS fnE
      rw [if_neg bf.1]
    rw [this]
    exact bf
  have k25 : ∀ S c, (stS X it b 0 0 0 (fnC it c l.length w S)).1 25 it = S.1 25 it := fun S c => by
    rw [(st_fs (X := X) (it := it) b 0 0 0 (fnC it c l.length w S)).1 25 (by omega) (by omega) (by omega), FQ.nC.1 25 (by omega) (by omega)]
  rw [gd, if_pos zt, e38]
  split
  · rename_i h0
    have y0 : y38 = 0 := nI_inj (by have := j6.lt; omega) (by omega) h0
    refine fin T4 (FZ.rf w4.2.1) (fun S c n0 hr hf h51 hn hl hc z4 => ?_)
    rcases z4 with bf | ⟨o1, _⟩
    · exact Or.inl (bad S c bf)
    refine Or.inr ⟨rfl, ?_⟩
    unfold fnS fnE
    rw [if_pos o1.1.2.2.2.1, k25, if_pos ((hr.neg hf h12 j5 j6.lt).mp y0)]
  · rename_i h0
    have hn25 : ∀ S c, FnR X S T → FiR X S T it c (i, e, l, rt, dt, n, wt, w, b) → ¬ S.1 25 it < 0 := fun S c hr hf hq => h0 (by rw [(hr.neg hf h12 j5 j6.lt).mpr hq]; rfl)
    rw [c_isReached (by omega), bis]
    by_cases hfb : fb (flw T4) 52 = true
    · rw [if_pos hfb, if_neg (by decide), gd, if_pos zt, e37]
      obtain ⟨d1, hd1⟩ : ∃ g, d = g + 1 := ⟨d - 1, by omega⟩
      rw [show PP nf d 26 T4 [nI (enB b)] [] = some (nI (xP X (enB b)), 0, T4) by rw [hd1]; exact c_start hX w4.1 hb, bis, c_note (by omega), bis]
      have fN : FX T4 (ntS T4 8 (nI (xP X (enB b)))) := FX.nt w4.2.1
      refine fin _ fN.fz (fun S c n0 hr hf h51 hn hl hc z4 => Or.inl ?_)
      rcases z4 with bf | ⟨o1, _⟩
      · exact (bad S c bf).fx fN
      have h83 : ¬ (stS X it b 0 0 0 (fnC it c l.length w S)).1 83 0 = 0 := fun q => by
        have := o1.2.2.2.2.1.1.mp q
        rw [hfb] at this
        cases this
      have hpl := hf.2.2.2.2.2.2.2.2
      have e57 : (stS X it b 0 0 0 (fnC it c l.length w S)).1 57 ((stS X it b 0 0 0 (fnC it c l.length w S)).1 34 it).toNatClampNeg = nI (xP X (enB b)) := by
        rw [(st_fs (X := X) (it := it) b 0 0 0 (fnC it c l.length w S)).1 57 (by omega) (by omega) (by omega), (st_fs (X := X) (it := it) b 0 0 0 (fnC it c l.length w S)).1 34 (by omega) (by omega) (by omega), FQ.nC.1 57 (by omega) (by omega), FQ.nC.1 34 (by omega) (by omega)]
        exact hpl
      have eS : fnS X it c l.length w b S = flT (stS X it b 0 0 0 (fnC it c l.length w S)) 8 (nI (xP X (enB b))) := by
        unfold fnS
        rw [fnE, if_pos o1.1.2.2.2.1, k25, if_neg (hn25 S c hr hf), if_neg h83, e57]
      rw [eS]
      exact bf_nt o1.1.2.2.2.1 o1.1.2.2.2.2.1 (by decide)
    · rw [if_neg hfb, if_pos rfl]
      refine fin T4 (FZ.rf w4.2.1) (fun S c n0 hr hf h51 hn hl hc z4 => ?_)
      rcases z4 with bf | ⟨o1, _⟩
      · exact Or.inl (bad S c bf)
      refine Or.inr ⟨rfl, ?_⟩
      have h83 : (stS X it b 0 0 0 (fnC it c l.length w S)).1 83 0 = 0 := o1.2.2.2.2.1.1.mpr (by
        cases hq : fb (flw T4) 52
        · rfl
        · exact absurd hq hfb)
      unfold fnS
      rw [fnE, if_pos o1.1.2.2.2.1, k25, if_neg (hn25 S c hr hf), if_pos h83]
end FCK
