/-! STEPS on both sides: close -/
section ZS3
variable {S S' T T' T1 T2 T3 : gSt} {X : Lx} {nf d it e v g n dd v' g' k i e' u c m lo hi a b n0 y z p q r j : Nat} {ta tb tr : Tr} {pl x op w cc : Int32} {cd po : Nat → Nat}
theorem arL_bad : ∀ (k : Nat) (T : gSt), ¬ T.1 7 0 = 0 → arL pl cc k T = T := by
  intro k
  induction k with
  | zero => intro T _; rfl
  | succ k ih =>
    intro T h
    rw [arL]
    have : flT T 8 pl = T := by unfold flT; rw [if_neg h]
    rw [this, ite_self]
    split
    · rfl
    · exact ih T h
theorem arL_ok (hp : S.1 85 p = cc) : ∀ (k : Nat), p < k → (∀ q, p < q → q < k → ¬ S.1 85 q = cc ∧ ¬ S.1 85 q < 0 ∧ isLv S (S.1 85 q) = 0) → arL pl cc k S = S := by
  intro k
  induction k with
  | zero => intro h; omega
  | succ k ih =>
    intro h1 h2
    rw [arL]
    by_cases c : k = p
    · rw [c, if_pos hp]
    · obtain ⟨a1, a2, a3⟩ := h2 k (by omega) (by omega)
      rw [if_neg a1, if_neg (fun w => by rcases w with w | w; exact a2 w; exact w a3)]
      exact ih (by omega) (fun q q1 q2 => h2 q q1 (by omega))
theorem arL_no (h0 : S.1 7 0 = 0) (hp : S.1 85 p = cc) (hq : p < q) (hb : S.1 85 q < 0 ∨ ¬ isLv S (S.1 85 q) = 0) : ∀ (k : Nat), q < k → (∀ q', p < q' → q' < k → ¬ S.1 85 q' = cc) → arL pl cc k S = flT S 8 pl := by
  intro k
  induction k with
  | zero => intro h; omega
  | succ k ih =>
    intro h1 h2
    rw [arL, if_neg (h2 k (by omega) (by omega))]
    by_cases c : S.1 85 k < 0 ∨ ¬ isLv S (S.1 85 k) = 0
    · rw [if_pos c]
      exact arL_bad k _ (flT_bad (by decide))
    · rw [if_neg c]
      have : ¬ k = q := fun w => by subst w; exact c hb
      exact ih (by omega) (fun q' a b => h2 q' a (by omega))
theorem trc_mo : ∀ b, a ≤ b → trc S a ≤ trc S b ∧ (trc S a = trc S b ↔ ∀ q, a ≤ q → q < b → ¬ S.1 85 q = -1) := by
  intro b
  induction b with
  | zero =>
    intro h
    have : a = 0 := by omega
    subst this
    exact ⟨Nat.le_refl _, ⟨fun _ q _ h => by omega, fun _ => rfl⟩⟩
  | succ b ih =>
    intro h
    by_cases c : a = b + 1
    · subst c
      exact ⟨Nat.le_refl _, ⟨fun _ q _ h => by omega, fun _ => rfl⟩⟩
    · obtain ⟨h1, h2⟩ := ih (by omega)
      rw [trc]
      by_cases c2 : S.1 85 b = -1
      · rw [if_pos c2]
        refine ⟨by omega, ⟨fun w => by omega, fun w => absurd c2 (w b (by omega) (by omega))⟩⟩
      · rw [if_neg c2, Nat.add_zero]
        refine ⟨h1, ⟨fun w q q1 q2 => ?_, fun w => h2.mpr (fun q q1 q2 => w q q1 (by omega))⟩⟩
        by_cases c3 : q = b
        · rw [c3]; exact c2
        · exact h2.mp w q q1 (by omega)
theorem trc_lt : ∀ q, trc S q ≤ q := by
  intro q
  induction q with
  | zero => exact Nat.le_refl _
  | succ q ih =>
    rw [trc]
    split <;> omega
theorem anL_v {w : Int64} : ∀ (m i : Nat), anL w m i = false ↔ ∀ x, i ≤ x → x < i + m → fb w (40 + x) = false := by
  intro m
  induction m with
  | zero => intro i; exact ⟨fun _ x _ _ => by omega, fun _ => rfl⟩
  | succ m ih =>
    intro i
    rw [anL]
    constructor
    · intro h x h1 h2
      have hb : fb w (40 + i) = false ∧ anL w m (i + 1) = false := by
        revert h
        cases fb w (40 + i) <;> cases anL w m (i + 1) <;> simp
      by_cases c : x = i
      · rw [c]; exact hb.1
      · exact (ih (i + 1)).mp hb.2 x (by omega) (by omega)
    · intro h
      rw [h i (by omega) (by omega), (ih (i + 1)).mpr (fun x h1 h2 => h x (by omega) (by omega))]
      rfl
theorem c_may0 (hx : x < 4) (hd : 1 ≤ d) : PP nf d 106 T [x] [] = some (0, 0, T) := by
  obtain ⟨d, rfl⟩ : ∃ g, d = g + 1 := ⟨d - 1, by omega⟩
  rw [e_Scope_mayClose]
  unfold rb_Scope_mayClose
  rw [if_pos hx]
/-- whether close may end a REGION: both sides -/
theorem may_ok (hA : RwA e m g cd S T) (hB : RwB m n cd po S T) (hF : FwR e S T (S.1 81 0) (S.1 82 0) (S.1 75 0) (S.1 83 0) (flw T)) (hj : j < m) (h0 : S.1 7 0 = 0) : ((anL (flw T) (4 + m - (4 + j + 1)) (4 + j + 1) = false ∧ T.1 74 (4 + j) = T.1 75 0) ∧ arL pl (nI (cd j)) n S = S) ∨ (¬ (anL (flw T) (4 + m - (4 + j + 1)) (4 + j + 1) = false ∧ T.1 74 (4 + j) = T.1 75 0) ∧ arL pl (nI (cd j)) n S = flT S 8 pl) := by
  have hA' := hA
  obtain ⟨h1, h2, h3, h4, h5, h6, h7, h8, h9, h10, h11, h12, h13⟩ := hA
  obtain ⟨b1, b2, b3, b4, b5, b6, b7⟩ := hB
  obtain ⟨pj, pv⟩ := b3 j hj
  have cdl : ∀ i, i < m → 4 ≤ cd i ∧ cd i < 12 := fun i hi => by have := h8 i hi; omega
  have inj : ∀ i, i < m → ¬ i = j → ¬ nI (cd i) = nI (cd j) := fun i hi hn w => by
    have a := cdl i hi
    have b := cdl j hj
    have := nI_inj (a := cd i) (b := cd j) (by omega) (by omega) w
    rcases Nat.lt_trichotomy i j with q | q | q
    · have := h9 i j q hj; omega
    · exact hn q
    · have := h9 j i q hi; omega
  have nm1 : ∀ i, i < m → ¬ nI (cd i) = (-1 : Int32) ∧ ¬ nI (cd i) < 0 := fun i hi => by
    have a := cdl i hi
    refine ⟨nI_m1 (by omega), fun w => ?_⟩
    have := (nI_ltI (a := cd i) (b := 0) (by omega) (by omega)).mp w
    omega
  have above : ∀ q, po j < q → q < n → S.1 85 q = -1 ∨ ∃ i, j < i ∧ i < m ∧ S.1 85 q = nI (cd i) := fun q q1 q2 => by
    rcases b5 q q2 with w | ⟨i, i1, i2⟩
    · exact Or.inl w
    · right
      refine ⟨i, ?_, i1, by rw [i2]; exact (b3 i i1).2⟩
      rcases Nat.lt_trichotomy i j with r | r | r
      · have := b4 i j r hj; omega
      · subst r; omega
      · exact r
  have lv : ∀ i, i < m → (isLv S (nI (cd i)) = 0 ↔ fb (flw T) (40 + (4 + i)) = false) := fun i hi => by
    have a := cdl i hi
    rw [isLv_fi (by omega), hF.2.2.1 (cd i) (4 + i) (hA'.rg.mpr (Or.inr ⟨i, hi, rfl, rfl⟩))]
  have e74 : (T.1 74 (4 + j) = T.1 75 0) ↔ ∀ q, po j < q → q < n → ¬ S.1 85 q = -1 := by
    have l1 := trc_lt (S := S) (po j)
    have l2 := trc_lt (S := S) n
    have t := trc_mo (S := S) (a := po j) n (by omega)
    rw [b7 j hj, b6]
    constructor
    · intro w q q1 q2
      exact t.2.mp (nI_inj (by omega) (by omega) w) q (by omega) q2
    · intro w
      rw [t.2.mpr (fun q q1 q2 => by
        by_cases c : q = po j
        · rw [c, pv]; exact (nm1 j hj).1
        · exact w q (by omega) q2)]
  have ean : anL (flw T) (4 + m - (4 + j + 1)) (4 + j + 1) = false ↔ ∀ i, j < i → i < m → isLv S (nI (cd i)) = 0 := by
    rw [anL_v]
    constructor
    · intro w i i1 i2
      rw [lv i i2]
      exact w (4 + i) (by omega) (by omega)
    · intro w x x1 x2
      obtain ⟨i, rfl⟩ : ∃ i, x = 4 + i := ⟨x - 4, by omega⟩
      rw [← lv i (by omega)]
      exact w i (by omega) (by omega)
  have uq : ∀ q, po j < q → q < n → ¬ S.1 85 q = nI (cd j) := fun q q1 q2 w => by
    rcases above q q1 q2 with r | ⟨i, i1, i2, i3⟩
    · rw [r] at w; exact (nm1 j hj).1 w.symm
    · exact inj i i2 (by omega) (by rw [← i3, w])
  by_cases cn : (∀ q, po j < q → q < n → ¬ S.1 85 q = -1) ∧ (∀ i, j < i → i < m → isLv S (nI (cd i)) = 0)
  · left
    refine ⟨⟨ean.mpr cn.2, e74.mpr cn.1⟩, arL_ok pv n pj (fun q q1 q2 => ⟨uq q q1 q2, ?_⟩)⟩
    rcases above q q1 q2 with r | ⟨i, i1, i2, i3⟩
    · exact absurd r (cn.1 q q1 q2)
    · rw [i3]
      exact ⟨(nm1 i i2).2, cn.2 i i1 i2⟩
  · right
    refine ⟨fun w => cn ⟨e74.mp w.2, ean.mp w.1⟩, ?_⟩
    by_cases c1 : ∀ q, po j < q → q < n → ¬ S.1 85 q = -1
    · have c2 : ∃ i, j < i ∧ i < m ∧ ¬ isLv S (nI (cd i)) = 0 := Classical.byContradiction fun w => cn ⟨c1, fun i i1 i2 => Decidable.byContradiction fun u => w ⟨i, i1, i2, u⟩⟩
      obtain ⟨i, i1, i2, i3⟩ := c2
      have := b4 j i i1 i2
      obtain ⟨p1, p2⟩ := b3 i i2
      exact arL_no h0 pv this (Or.inr (by rw [p2]; exact i3)) n p1 uq
    · have c2 : ∃ q, po j < q ∧ q < n ∧ S.1 85 q = -1 := Classical.byContradiction fun w => c1 (fun q q1 q2 q3 => w ⟨q, q1, q2, q3⟩)
      obtain ⟨q, q1, q2, q3⟩ := c2
      exact arL_no h0 pv q1 (Or.inl (by rw [q3]; decide)) n q2 uq
/-- a REGION isn't LIVE any more -/
theorem SrR.dl (h : SrR X it e v g n S T) (hr : RgE e S c k) : SrR X it e v g n (dlS S (nI c)) (sJ T 77 0 (sbW (flw T) (40 + k) false)) ∧ TyF S (dlS S (nI c)) T (sJ T 77 0 (sbW (flw T) (40 + k) false)) := by
  have hV := h.1.2.2.2.2.2.2.2.2.1
  have o : ∀ g, g ≠ 75 → (dlS S (nI c)).1 g = S.1 g := fun g hg => by unfold dlS; rw [sI_ne hg]
  obtain ⟨a1, a2, a3, a4, a5⟩ := h.1.fo (S' := dlS S (nI c)) (T' := sJ T 77 0 (sbW (flw T) (40 + k) false)) (fun k hk => o k (by omega)) rfl (by rw [o 83 (by omega)]; exact h.1.2.2.1.2.2.1) rfl (fun p j hp => by rw [rdJ, if_neg (fun q => hp q.1)])
  refine ⟨⟨a1, ?_⟩, a4⟩
  have e75 : (dlS S (nI c)).1 75 0 = S.1 75 0 &&& (((1 : Int32) <<< (nI c &&& 31)) ^^^ (-1)) := by unfold dlS; rw [sI_v]
  rw [flw_w, o 81 (by omega), o 82 (by omega), e75, o 83 (by omega)]
  obtain ⟨m, g', n', cd, po, hA, hB⟩ := h.1.2.2.2.2.2.2.1
  exact (h.2.clear hA.r11 hV.vs.1 hr).mo hV a4 a2 (by rw [o 77 (by omega)]) (o 79 (by omega)) (fun _ => rfl)
theorem z_27 (hX : XO X) (hnf : 16385 ≤ nf) (hz : ∀ q, xK X q = 4 → ¬ xN X q = 0) : Zs0 nf X it (tD 27 i e' ta tb) := by
  intro T lo hi dd d a b v g v' g' ⟨p1, p2, p3, p4, p5, p6, p7, p8, p9, p10, p11⟩
  have hxn := hX.1
  rw [RcS_n] at p1
  unfold RsC at p1
  rw [if_neg (by omega), if_neg (by omega), if_neg (by omega)] at p1
  obtain ⟨q1, q2, q3⟩ := p1
  rw [if_neg (by omega), if_neg (by omega), if_neg (by omega), if_neg (by omega), if_neg (by omega), if_neg (by omega), if_pos rfl] at q3
  obtain ⟨r1, r2⟩ := q3
  rw [SG_n] at p4
  unfold sgN at p4
  rw [if_neg (by omega), if_neg (by omega), if_neg (by omega), if_neg (by omega), if_neg (by omega), if_neg (by omega), if_neg (by omega), if_neg (by omega), if_neg (by omega), if_neg (by omega), if_pos rfl] at p4
  rw [Ws_n] at p5
  unfold WsN at p5
  rw [if_neg (by omega), if_neg (by omega), if_neg (by omega), if_neg (by omega), if_neg (by omega), if_neg (by omega), if_neg (by omega), if_neg (by omega), if_neg (by omega), if_neg (by omega), if_neg (by omega), if_pos rfl] at p5
  obtain ⟨w1, ev, eg, w2⟩ := p5
  have ev := ev.symm
  have eg := eg.symm
  subst ev eg
  obtain ⟨d, rfl⟩ : ∃ g, d = g + 3 := ⟨d - 3, by omega⟩
  have zl : inb (nI lo) 4008 := nin (by omega) (by omega)
  have il : i + 1 < xn X := by omega
  obtain ⟨m0, e72, m0g⟩ := p7.2.2.2.1
  have g8 := p7.2.2.2.2.1
  rw [e_Steps_checkStep _ (d + 2)]
  unfold rb_Steps_checkStep
  rw [gd, if_pos zl, nc (by omega), r1, if_neg (by decide), if_neg (by decide), if_neg (by decide), if_neg (by decide), if_neg (by decide), if_neg (by decide), if_neg (by decide), if_pos rfl, e_Steps_checkClose _ (d + 1)]
  unfold rb_Steps_checkClose
  rw [gd, if_pos zl, nc (by omega), q2, vK, nI_1, c_name hX p7.1.1 il, bis, c_findRegion (nf := nf) (d := d + 1) (n := 4 + m0) (by omega) e72 (by omega) (by omega) (by omega), bis]
  have ekw : kwS2 (tD 27 i e' ta tb) = 2 := rfl
  have elv : lvS2 X (tD 27 i e' ta tb) = lvT X ta := rfl
  have est : ∀ S, stS X it (tD 27 i e' ta tb) 0 0 0 S = csC X i S := fun S => rfl
  refine wp_bi (R := fun _ _ T' => FZ T T' ∧ FqZ T T' v ∧ ZsB X it T (tD 27 i e' ta tb) v g v g T') ?_ (fun r _ T' h => wp_some h)
  -- the region that is found
  have fnd : ∀ (e n : Nat) (S : gSt), SrR X it e v g n S T → (rgQ X S (i + 1) = -1 ∧ (if xN X (i + 1) = 72 then (0 : Int32) else ff (isRk T (xN X (i + 1))) 1 (4 + m0 - 1)) = -1) ∨ ∃ c k, rgQ X S (i + 1) = nI c ∧ RgE e S c k ∧ (if xN X (i + 1) = 72 then (0 : Int32) else ff (isRk T (xN X (i + 1))) 1 (4 + m0 - 1)) = nI k := fun e n S hR => by
    unfold rgQ
    by_cases c72 : xN X (i + 1) = 72
    · right
      rw [if_pos c72, if_pos c72]
      exact ⟨0, 0, rfl, Or.inl ⟨rfl, by omega⟩, rfl⟩
    · rw [if_neg c72, if_neg c72]
      obtain ⟨n', n1, n2, n3, n4⟩ := hR.xr.1.2.1
      have en : n' = 4 + m0 := nI_inj (by omega) (by omega) (by rw [← n1, ← e72])
      subst en
      rcases n4 _ (hz _ p4) c72 with ⟨a1, a2⟩ | ⟨c, k, a1, a2, a3, a4, a5⟩
      · exact Or.inl ⟨a1, a2⟩
      · exact Or.inr ⟨c, k, a1, a3, a2⟩
  -- it can't be closed
  have no : ∀ (x y0 : Int32), PP nf (d + 1) 106 (if y0 = 0 then ntS T 3 (nI (xP X (i + 1))) else T) [x] [] = some (0, 0, (if y0 = 0 then ntS T 3 (nI (xP X (i + 1))) else T)) → (∀ (e n : Nat) (S : gSt), SrR X it e v g n S T → BfR (csC X i S) (ntS (if y0 = 0 then ntS T 3 (nI (xP X (i + 1))) else T) 8 (nI (xP X i)))) → wp (rj_Steps_checkClose_42 (PP nf (d + 1)) nf T (nI i) x y0) (fun _ _ T' => FZ T T' ∧ FqZ T T' v ∧ ZsB X it T (tD 27 i e' ta tb) v g v g T') := by
    intro x y0 hm hb
    unfold rj_Steps_checkClose_42
    have f2 : FX T (if y0 = 0 then ntS T 3 (nI (xP X (i + 1))) else T) := FX.dm p7.1.2.1
    rw [nI_1, c_start hX p7.1.1 (by omega), bis, c_dem (by omega), bis, hm, bis, if_pos rfl, c_start hX (p7.1.fx f2).1 (by omega), bis, c_note (by omega), bis]
    have f3 := f2.tr (FX.nt (x := 8) (y := nI (xP X i)) f2.2.2.1)
    refine wp_some ⟨f3.fz, (p7.fx f3).2, fun e n S n0 hR hbd h51 hrow hn hl hc => ?_⟩
    unfold ZOk
    rw [est S]
    exact Or.inl (hb e n S hR)
  by_cases cm1 : (if xN X (i + 1) = 72 then (0 : Int32) else ff (isRk T (xN X (i + 1))) 1 (4 + m0 - 1)) = -1
  · rw [cm1, if_pos rfl]
    refine no _ 0 (c_may0 (by decide) (by omega)) (fun e n S hR => ?_)
    rw [if_pos rfl]
    rcases fnd e n S hR with ⟨a1, a2⟩ | ⟨c, k, a1, a2, a3⟩
    · have p0 : ¬ 0 ≤ rgQ X S (i + 1) := by rw [a1]; decide
      have bf := bf_nt (S := S) (T := T) (p := nI (xP X (i + 1))) (a := 3) hR.1.2.2.2.1 hR.1.2.2.2.2.1 (by decide)
      have es : srS X S (i + 1) = flT S 3 (nI (xP X (i + 1))) := by unfold srS; rw [if_neg p0]
      unfold csC
      rw [es, if_neg bf.1]
      exact bf.fx (FX.nt (FX.nt p7.1.2.1).2.2.1)
    · rw [cm1] at a3
      have := (RgE.lt a2).2
      exact absurd a3.symm (nI_m1 (by omega))
  · rw [if_neg cm1]
    -- its number
    obtain ⟨k, ek, k12⟩ : ∃ k, (if xN X (i + 1) = 72 then (0 : Int32) else ff (isRk T (xN X (i + 1))) 1 (4 + m0 - 1)) = nI k ∧ k < 4 + m0 := by
      by_cases c72 : xN X (i + 1) = 72
      · rw [if_pos c72]
        exact ⟨0, rfl, by omega⟩
      · rw [if_neg c72] at cm1 ⊢
        rcases ff_val (p := isRk T (xN X (i + 1))) (i := 1) (k := 4 + m0 - 1) with w | ⟨j, j1, j2, _, w⟩
        · exact absurd w cm1
        · exact ⟨j, w, by omega⟩
    rw [ek]
    have sr : ∀ (e n : Nat) (S : gSt), SrR X it e v g n S T → ∃ c, srR X S (i + 1) = nI c ∧ srS X S (i + 1) = S ∧ RgE e S c k := fun e n S hR => by
      rcases fnd e n S hR with ⟨a1, a2⟩ | ⟨c, k', a1, a2, a3⟩
      · exact absurd a2 cm1
      · have l := RgE.lt a2
        have ekk : k = k' := nI_inj (by omega) (by omega) (by rw [← ek, ← a3])
        subst ekk
        have p0 : 0 ≤ rgQ X S (i + 1) := by rw [a1]; exact nI0le (by omega)
        exact ⟨c, by unfold srR; rw [if_pos p0, a1], by unfold srS; rw [if_pos p0], a2⟩
    have n8 : ∀ S : gSt, S.1 7 0 = 0 → T.1 53 0 = 0 → BfR (flT S 8 (nI (xP X i))) (ntS (if (1 : Int32) = 0 then ntS T 3 (nI (xP X (i + 1))) else T) 8 (nI (xP X i))) := fun S h1 h2 => by
      rw [if_neg (by decide)]
      exact bf_nt (a := 8) h1 h2 (by decide)
    by_cases c4 : k < 4
    · refine no _ 1 (c_may0 ((nI_ltI (a := k) (b := 4) (by omega) (by omega)).mpr c4) (by omega)) (fun e n S hR => ?_)
      obtain ⟨c, s1, s2, s3⟩ := sr e n S hR
      have c4' : c < 4 := by
        rcases s3 with w | ⟨j, _, _, _, _, _, w⟩ <;> omega
      unfold csC
      rw [s1, s2, if_pos hR.1.2.2.2.1, if_pos (show nI c < (4 : Int32) ∨ isLv S (nI c) = 0 from Or.inl ((nI_ltI (a := c) (b := 4) (by omega) (by omega)).mpr c4'))]
      exact n8 S hR.1.2.2.2.1 hR.1.2.2.2.2.1
    · have may := c_mayClose (nf := nf) (d := d + 1) (T := T) (r := k) (by omega) e72 (by omega) (by omega) k12 (by omega)
      obtain ⟨j, rfl⟩ : ∃ j, k = 4 + j := ⟨k - 4, by omega⟩
      -- the spec
      have spec : ∀ (e n : Nat) (S : gSt), SrR X it e v g n S T → ∃ c, srR X S (i + 1) = nI c ∧ RgE e S c (4 + j) ∧ ((fb (flw T) (40 + (4 + j)) = true ∧ anL (flw T) (4 + m0 - (4 + j + 1)) (4 + j + 1) = false ∧ T.1 74 (4 + j) = T.1 75 0) ∧ csC X i S = dlS S (nI c) ∨ ¬ (fb (flw T) (40 + (4 + j)) = true ∧ anL (flw T) (4 + m0 - (4 + j + 1)) (4 + j + 1) = false ∧ T.1 74 (4 + j) = T.1 75 0) ∧ (csC X i S).1 7 0 = 8 ∧ (csC X i S).1 8 0 = nI (xP X i)) := fun e n S hR => by
        obtain ⟨c, s1, s2, s3⟩ := sr e n S hR
        refine ⟨c, s1, s3, ?_⟩
        obtain ⟨m, g', n', cd, po, hA, hB⟩ := hR.1.2.2.2.2.2.2.1
        have em : m = m0 := by
          have := nI_inj (a := 4 + m) (b := 4 + m0) (by have := hA.2.1; omega) (by omega) (by rw [← hA.2.2.2.2.1, ← e72])
          omega
        subst em
        have ecd : c = cd j := by
          rcases hA.rg.mp s3 with w | ⟨i', w1, w2, w3⟩
          · omega
          · have : i' = j := by omega
            subst this
            exact w2
        have cl := RgE.lt s3
        have c4' : ¬ c < 4 := by
          rcases s3 with w | ⟨j', _, _, _, w, _, w'⟩ <;> omega
        have lv : isLv S (nI c) = 0 ↔ fb (flw T) (40 + (4 + j)) = false := by
          rw [isLv_fi (by omega), hR.2.2.2.1 c (4 + j) s3]
        have an : arn S = n' := by unfold arn; rw [hB.1, nc (by have := hB.2.1; omega)]
        unfold csC
        rw [s1, s2, if_pos hR.1.2.2.2.1, an]
        have f8 : (flT S 8 (nI (xP X i))).1 7 0 = 8 ∧ (flT S 8 (nI (xP X i))).1 8 0 = nI (xP X i) := by
          unfold flT failS
          rw [if_pos hR.1.2.2.2.1, sI_ne (by omega), sI_v, sI_v]
          exact ⟨rfl, rfl⟩
        by_cases clv : fb (flw T) (40 + (4 + j)) = true
        · rw [if_neg (fun w => by
            rcases w with w | w
            · have := (nI_ltI (a := c) (b := 4) (by omega) (by omega)).mp w
              omega
            · rw [lv.mp w] at clv
              cases clv)]
          rw [ecd]
          rcases may_ok (pl := nI (xP X i)) hA hB hR.2 (show j < m by omega) hR.1.2.2.2.1 with ⟨u1, u2⟩ | ⟨u1, u2⟩
          · left
            rw [u2]
            exact ⟨⟨clv, u1⟩, rfl⟩
          · right
            refine ⟨fun w => u1 w.2, ?_⟩
            rw [u2]
            unfold dlS
            rw [sI_ne (by omega), sI_ne (by omega)]
            exact f8
        · right
          refine ⟨fun w => clv w.1, ?_⟩
          rw [if_pos (Or.inr (lv.mpr (by simpa using clv)))]
          exact f8
      by_cases cl : fb (flw T) (40 + (4 + j)) = true ∧ anL (flw T) (4 + m0 - (4 + j + 1)) (4 + j + 1) = false ∧ T.1 74 (4 + j) = T.1 75 0
      · rw [if_pos cl] at may
        unfold rj_Steps_checkClose_42
        rw [nI_1, c_start hX p7.1.1 (by omega), bis, c_dem (by omega), bis, if_neg (by decide), may, bis, if_neg (by decide), c_setLive (x := 0) (bo := false) (r := 4 + j) (by omega) rfl (by omega), bis]
        obtain ⟨W2, z2, f2⟩ := p7.fl (T' := sJ T 77 0 (sbW (flw T) (40 + (4 + j)) false)) rfl (fun p j hp => by rw [rdJ, if_neg (fun q => hp q.1)])
        obtain ⟨r4, T4, m1, m2, m3⟩ := a_emit (nf := nf) (d := d + 1) (T := sJ T 77 0 (sbW (flw T) (40 + (4 + j)) false)) (x := 53) (y := nI (4 + j)) (z := 0) W2.1.2.1 W2.1.2.2.2.2.2.1 (by omega)
        rw [m1, bis]
        refine wp_some ⟨z2.tr m2.fz, f2.tr (W2.fx m2).2, fun e n S n0 hR hbd h51 hrow hn hl hc => ?_⟩
        unfold ZOk
        rw [ekw] at hn ⊢
        rw [elv] at hl ⊢
        rw [est S] at hc ⊢
        obtain ⟨c, s1, s2, ⟨_, s4⟩ | ⟨s3, _⟩⟩ := spec e n S hR
        · rw [s4] at hc ⊢
          obtain ⟨b1, b2⟩ := hR.dl s2
          have eT := m3 (n0 + 1) h51 (by omega)
          obtain ⟨c1, c2, c3⟩ := b1.em (a := 53) (b := nI (4 + j)) (z := 0) h51 (by omega)
          rw [← eT] at c1 c2 c3
          refine Or.inr ⟨c1, b2.tr c2, ⟨n0 + 2, by rw [eT]; exact em_51, by omega, ?_⟩, ?_⟩
          · rw [KdS_n]
            unfold KsN
            rw [if_neg (by omega), if_neg (by omega), if_neg (by omega)]
            refine ⟨by omega, ?_, ?_⟩
            · rw [m2.rows h51 (by omega) (by omega)]
              exact hrow
            rw [if_neg (by omega), if_neg (by omega), if_neg (by omega), if_neg (by omega), if_neg (by omega), if_neg (by omega), if_neg (by omega), if_neg (by omega), if_pos rfl]
            exact ⟨⟨c, 4 + j, s1, s2, by rw [eT]; exact em_row⟩, rfl⟩
          · rw [c3, lvC_62 (T := T) (T' := sJ T 77 0 (sbW (flw T) (40 + (4 + j)) false)) rfl rfl 16384]
            omega
        · exact absurd cl s3
      · rw [if_neg cl] at may
        refine no _ 1 (by rw [if_neg (by decide)]; exact may) (fun e n S hR => ?_)
        rw [if_neg (by decide)]
        obtain ⟨c, s1, s2, ⟨s3, _⟩ | ⟨_, s4, s5⟩⟩ := spec e n S hR
        · exact absurd s3 cl
        · have bf := bf_nt (S := S) (T := T) (p := nI (xP X i)) (a := 8) hR.1.2.2.2.1 hR.1.2.2.2.2.1 (by decide)
          unfold ntS
          rw [if_pos hR.1.2.2.2.2.1]
          exact ⟨by rw [s4]; decide, by rw [sI_ne (by omega), sI_v, s4], by rw [sI_v, s5]⟩
end ZS3
