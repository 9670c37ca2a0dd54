/-! a NAME; the solid kin of a pointer -/
section CXQ
variable {R : RgR} {S S' S1 T T' T1 T2 : gSt} {X : Lx} {nf d i k n m t e w c a b q g f h r s y z : Nat} {x v x' u : Int32} {sl : Int32 → Int32}
/-- a key that is there, kept -/
theorem KpQ.rf (hI : TyI T) (hb : 3 ≤ b) (hb2 : b < 16387) (hl : lvK T (b - 3)) (hk : kO T b = k) : KpQ T T (b - 3) k := by
  refine ⟨by omega, ?_, rfl, hI, rfl, fun _ _ _ => rfl, fun _ _ _ => rfl, by omega, fun _ => rfl⟩
  have e := lv_ky hl
  unfold kO at hk
  rw [if_neg (by omega)] at hk
  rw [hk] at e
  unfold kyN
  omega
theorem c_dem (hd : 2 ≤ d) : PP nf d 142 T [u, x, v] [] = some (0, 0, if u = 0 then ntS T x v else T) := by
  obtain ⟨d, rfl⟩ : ∃ g, d = g + 1 := ⟨d - 1, by omega⟩
  rw [e_Exprs_demand]
  unfold rb_Exprs_demand
  by_cases c : u = 0
  · rw [if_pos c, if_pos c, c_note (by omega), bis]
  · rw [if_neg c, if_neg c]
theorem FX.dm (hW : WT T) : FX T (if u = 0 then ntS T x v else T) := by
  split
  · exact FX.nt hW
  · exact FX.rf hW
theorem FtW.fx (h : FtW T T') : FX T T' := h.fh.fx
/-- the solid kin of a pointer -/
def slZ (S : gSt) (x : Int32) : T5 := (1, tf S 67 x, tf S 68 x, tf S 69 x, tf S 70 x)
theorem ptr_b (hg : Tg S) {kd : Nat} (hI : TyI T) (h1 : 1 ≤ kd) (h3 : kd ≤ 3) (hr : R r n) (hr2 : r < 1024) (hn : n < 16) {p : Nat} (hc : cnR S p) (hb : if 0 ≤ S.1 69 p then ThR R S T (S.1 69 p) (S.1 70 p) b else TyR R S T g (S.1 68 p) b) (hk : KpQ T T' s (kd + 2 + 8 * n + 128 * b)) (hcn : cn (knS S (nI kd, nI r, S.1 68 p, S.1 69 p, S.1 70 p)) < 6000) : TyR R (knS S (nI kd, nI r, S.1 68 p, S.1 69 p, S.1 70 p)) T' (g + 1) (knR S (nI kd, nI r, S.1 68 p, S.1 69 p, S.1 70 p)) (s + 3) := by
  by_cases c : 0 ≤ S.1 69 p
  · rw [if_pos c] at hb
    obtain ⟨b1, b2, b3, t, gg, b4, b5, b6, b7, b8⟩ := hb
    refine ty_thg (zz := (nI kd, nI r, S.1 68 p, S.1 69 p, S.1 70 p)) hg hcn (by rw [hc.1 c, b4]) h1 h3 hr hr2 hn b5 b7 b8 (KpQ.rf hI b1 b2 b3 b6) (by rw [show b - 3 + 3 = b by omega]; exact hk)
  · rw [if_neg c] at hb
    exact ty_ptr hg hcn (by rw [(hc.2.1 c).1, (hc.2.1 c).2]) h1 h3 hr hr2 hn hb hk
theorem solid_ab (hnf : 16385 ≤ nf) (hW : WT T) (hy : tyY T y) (hk : kdC T y = 3 ∨ kdC T y = 4) (hd : 3 ≤ d) : ∃ z T', PP nf d 158 T [nI y] [] = some (nI z, 0, T') ∧ tyY T' z ∧ FtW T T' ∧ ∀ (R : RgR) (S : gSt) (x : Int32) (f : Nat), TyR R S T f x y → Tg S → lvC T 16384 < 16384 → cn (knS S (slZ S x)) < 6000 → TyR R (knS S (slZ S x)) T' f (knR S (slZ S x)) z ∧ TyF S (knS S (slZ S x)) T T' ∧ lvC T' 16384 ≤ lvC T 16384 + 1 ∧ kdC T' z = 3 := by
  obtain ⟨d, rfl⟩ : ∃ g, d = g + 1 := ⟨d - 1, by omega⟩
  have hl := hy.lt
  have y3 : ¬ y < 3 := fun w => by unfold kdC at hk; rw [if_pos w] at hk; omega
  have ek : kdC T y = kO T y % 8 := by unfold kdC; rw [if_neg y3]
  have hb : tyY T (bhC T y) := by
    rcases kO_v hW hy with h | h
    · exact absurd h y3
    · rcases h.2 with w | w
      · omega
      · exact w.2.2
  have bl := hb.lt
  have rl : rkC T y < 16 := Nat.mod_lt _ (by omega)
  obtain ⟨z, T', q1, q2, _, q3⟩ := k_ptr (nf := nf) (d := d) (T := T) (k := 3) (r := rkC T y) (b := bhC T y) hnf hW (by omega) (by omega) rl hb (by omega)
  have run : PP nf (d + 1) 158 T [nI y] [] = some (nI z, 0, T') := by
    rw [e_Exprs_solidOf]
    unfold rb_Exprs_solidOf
    rw [c_regionOf (by omega) (by omega), bis, c_behind (by omega) (by omega), bis, show PP nf d 88 T [(3 : Int32), nI (rkC T y), nI (bhC T y)] [] = _ from q1, bis]
  refine ⟨z, T', run, q2, q3, fun R S x f hT hg hlv hc => ?_⟩
  obtain ⟨s, T'', p1, p2⟩ := c_ptr (nf := nf) (d := d) (T := T) (k := 3) (r := rkC T y) (b := bhC T y) hnf hW.1 hlv (by omega) rl (by omega) (by omega)
  rw [p1] at q1
  simp only [Option.some.injEq, Prod.mk.injEq, true_and] at q1
  obtain ⟨z1, rfl⟩ := q1
  have zs : s + 3 = z := nI_inj (by have := p2.1; omega) (by have := q2.lt; omega) z1
  subst zs
  rcases hT.rd with ⟨_, e2, _⟩ | ⟨_, e2, _⟩ | ⟨_, e2, _⟩ | ⟨p, kd, r, n, b, g, e0, e1, e2, e3, e4, ec, e5, e6, e7, e8, e9, e9', e9'', e10, e11, e12, e13, e14, e15⟩
  · omega
  · omega
  · omega
  · have ez : slZ S x = (nI 1, nI r, S.1 68 p, S.1 69 p, S.1 70 p) := by
      unfold slZ tf
      rw [e1, nc (by omega), e9']
      rfl
    rw [ez] at hc ⊢
    rw [e13, e14] at p2
    have ky := p2.key (by have : KM = 16777216 := rfl; omega)
    refine ⟨?_, TyF.kn hg hc p2, p2.2.2.2.2.2.2.2.1, by unfold kdC; rw [if_neg (by omega), ky.1]; omega⟩
    rw [e0]
    exact ptr_b hg hW.1 (by omega) (by omega) e10 e9'' e11 ec e15 p2 hc
theorem fd_v {p : Nat → Bool} : ∀ k, (fd p k = -1 ∧ ∀ j, j < k → ¬ p j = true) ∨ ∃ j, j < k ∧ p j = true ∧ fd p k = nI j := by
  intro k
  induction k with
  | zero => exact Or.inl ⟨rfl, fun j hj => absurd hj (Nat.not_lt_zero _)⟩
  | succ k ih =>
    rw [fd]
    by_cases c : p k = true
    · rw [if_pos c]
      exact Or.inr ⟨k, by omega, c, rfl⟩
    · rw [if_neg c]
      rcases ih with ⟨e, al⟩ | ⟨j, j1, j2, e⟩
      · refine Or.inl ⟨e, fun j hj => ?_⟩
        by_cases cj : j = k
        · rw [cj]; exact c
        · exact al j (by omega)
      · exact Or.inr ⟨j, by omega, j2, e⟩
/-- findVar: the first on one side, the last on the other -/
theorem var_find {nm : Int64} (hV : VaR R sl S T) (hn : T.1 68 0 = nI n) (hn2 : n ≤ 20) : ff (isVr T nm) 0 n = fd (isVa S nm) (vn S) := by
  obtain ⟨n', h1, h2, h3, h4, h5⟩ := hV
  have en : n' = n := nI_inj (by omega) (by omega) (by rw [← h2, ← hn])
  subst en
  have ev : vn S = n' := by unfold vn; rw [h1, nc (by omega)]
  rw [ev]
  have sm : ∀ v, v < n' → isVr T nm v = isVa S nm v := fun v hv => by
    unfold isVr isVa
    rw [(h4 v hv).1]
  rcases fd_v (p := isVa S nm) n' with ⟨e, al⟩ | ⟨v, v1, v2, e⟩
  · rw [e]
    exact (ff_all (by omega)).mpr (fun j _ hj => by rw [sm j (by omega)]; exact al j (by omega))
  · rw [e]
    rcases ff_val (p := isVr T nm) (i := 0) (k := n') with w | ⟨j, _, j1, j2, w⟩
    · exact absurd (by rw [sm v v1]; exact v2) ((ff_all (by omega)).mp w v (by omega) (by omega))
    · rw [w]
      rw [sm j (by omega)] at j2
      unfold isVa at j2 v2
      have := h5 j v (by omega) v1 (by rw [of_decide_eq_true j2, of_decide_eq_true v2])
      rw [this]
/-- a pointer that may be null -/
theorem TyR.lo (hh : TyR R S T f x y) : (0 < x ∧ S.1 66 x.toNatClampNeg = 2) ↔ kdC T y = 4 := by
  rcases hh.rd with ⟨e1, e2, e3⟩ | ⟨e1, e2, e3⟩ | ⟨e1, e2, e3⟩ | ⟨p, kd, r, n, b, g, _, e1, e2, e3, e4, _, e5, e6, e7, e8, e9, _, _, _, _, e10, _⟩
  · rw [e1]; exact ⟨fun w => absurd w.1 (by decide), fun w => by omega⟩
  · rw [e1]; exact ⟨fun w => absurd w.1 (by decide), fun w => by omega⟩
  · rw [e1]; exact ⟨fun w => absurd w.1 (by decide), fun w => by omega⟩
  · rw [e1, nc (by omega), e7, show (nI kd = (2 : Int32)) = (kd = 2) from ci_eq (j := 2) (by omega) (by omega)]
    exact ⟨fun w => by omega, fun w => ⟨nIpos e2 (by omega), by omega⟩⟩
theorem KrO_5 {sn tp cc : Int32} (h : wdR R S T tp cc) (hr : cw3 T n = (3, sl sn, cc)) : KrO R sl S T (j1 5 sn tp 0 0) n := by
  unfold KrO j1
  rw [if_neg (show ¬ (5 : Int32) = 1 by decide), if_neg (show ¬ (5 : Int32) = 2 by decide), if_neg (show ¬ (5 : Int32) = 3 by decide), if_neg (show ¬ (5 : Int32) = 4 by decide), if_pos rfl]
  exact ⟨cc, h, hr⟩
theorem kG1 {j : T5} (h : ¬ j.1 = 7) : kGo [j] ∧ ksE [j] = [j] := by
  have e : ksE [j] = [j] := by
    have := ksE_n (js := []) h
    exact this
  exact ⟨by have := kGo.nx (js := []) (j := j) kGo.nl h; exact this, e⟩
abbrev nmR (X : Lx) (S : gSt) (i : Nat) : ChR := ((nmC S (xN X i) (nI (xP X i))).1, 0, [j1 5 (nmC S (xN X i) (nI (xP X i))).2.1 (nmC S (xN X i) (nI (xP X i))).1 0 0], (nmC S (xN X i) (nI (xP X i))).2.2)
/-- checkName -/
theorem x_nmC (hX : XO X) (hnf : 16385 ≤ nf) (hw : WX X T) (hi : i < xn X) (hd : 8 ≤ d) : wp (PP nf d 157 T [nI i] []) (fun r _ T' => XA T r T' ∧ ∀ R sl S n y, r = nI y → y < 16387 → XR R sl X S T → T.1 51 0 = nI n → n < 6032 → lvC T 16384 + 30 < 16384 → cn (nmR X S i).2.2.2 < 6000 → Ck (nmR X S i).2.2.2 → XOk R sl X S T (nmR X S i) 1 1 n y T') := by
  obtain ⟨d, rfl⟩ : ∃ g, d = g + 2 := ⟨d - 2, by omega⟩
  have hxn := hX.1
  have hw0 := hw
  obtain ⟨w1, w2, w3, w4, ⟨nv, v1, v2, v3⟩, w6, ⟨ti, w7, w7'⟩, w8, w9⟩ := hw
  rw [e_Exprs_checkName _ (d + 1)]
  unfold rb_Exprs_checkName
  rw [c_name hX w1 hi, bis, c_findVar (nf := nf) (d := d + 1) (by omega) v1 v2 (by omega), bis]
  rcases ff_val (p := isVr T (xN X i)) (i := 0) (k := nv) with v | ⟨j, _, j1', _, v⟩
  · rw [v, if_pos rfl, c_start hX w1 (by omega), bis, c_note (by omega), bis]
    refine wp_some ⟨⟨1, rfl, tyY_1, FX.nt w2⟩, fun R sl S n y hr hy hR h51 hn hl hc hk => Or.inr ?_⟩
    have fe := var_find (nm := xN X i) hR.2.2.2.2.2.2.2.1 v1 v2
    show BfR (nmC S (xN X i) (nI (xP X i))).2.2 _
    unfold nmC
    rw [← fe, v, if_neg (by decide)]
    exact bf_nt (a := 3) hR.1.2.2.2.2.1 hR.1.2.2.2.2.2.1 (by decide)
  · have j20 : j < 20 := by omega
    obtain ⟨yv, y1, y2⟩ := v3 j (by omega)
    have yl := y2.lt
    rw [v, if_neg (nI_m1 (by omega)), c_isSet (nf := nf) (d := d + 1) j20 (by omega), bis, c_start hX w1 (by omega), bis, c_dem (by omega), bis]
    generalize hT1 : (if (if fb (flw T) 52 = true ∧ fb (flw T) j = false then (0 : Int32) else 1) = 0 then ntS T 6 (nI (xP X i)) else T) = T1
    have f1 : FX T T1 := by rw [← hT1]; exact FX.dm w2
    have e2 : T1.2 = T.2 := by
      rw [← hT1]
      split
      · exact nt_2
      · rfl
    have x1 := hw0.fx f1
    rw [c_vType (nf := nf) (d := d + 1) (n := nv) (by rw [f1.o (by omega)]; exact v1) v2 (by omega) (by omega), bis, c_vSlot (nf := nf) (d := d + 1) (n := nv) (by rw [f1.o (by omega)]; exact v1) v2 (by omega) (by omega), bis, f1.o (k := 70) (by omega), f1.o (k := 71) (by omega), y1, c_wordsOf (by omega) (by omega), bis]
    obtain ⟨r2, T2, m1, m2, m3⟩ := a_emit (nf := nf) (d := d + 1) (T := T1) (x := 3) (y := T.1 71 j) (z := nI (wdC T1 yv)) f1.2.2.1 x1.2.2.2.2.2.1 (by omega)
    have f12 := f1.tr m2
    rw [m1, bis, c_kindOf (by omega) (by omega), bis]
    have fw : flw T2 = flw T := by show T2.2 77 0 = T.2 77 0; rw [f12.2.1 77 0 (by omega)]
    have kl := kdC_lt (T := T2) (y := yv)
    -- what the spec says
    have spec : ∀ R sl S n, XR R sl X S T → T.1 51 0 = nI n → n < 6032 → (BfR (nmC S (xN X i) (nI (xP X i))).2.2 T1 ∨ (T1 = T ∧ T2 = emS T n 3 (T.1 71 j) (nI (wdC T yv)) ∧ TyR R S T 5 (S.1 80 j) yv ∧ T.1 71 j = sl (S.1 79 j) ∧ nmC S (xN X i) (nI (xP X i)) = if kdC T yv = 4 ∧ ¬ (fb (flw T) 52 = true ∧ fb (flw T) (20 + j) = false) then (knR S (slZ S (S.1 80 j)), S.1 79 j, knS S (slZ S (S.1 80 j))) else (S.1 80 j, S.1 79 j, S))) := by
      intro R sl S n hR h51 hn
      have hV := hR.2.2.2.2.2.2.2.1
      have fe := var_find (nm := xN X i) hV v1 v2
      obtain ⟨n', h1, h2, h3, h4, h5⟩ := hV
      have en : n' = nv := nI_inj (by omega) (by omega) (by rw [← h2, ← v1])
      subst en
      obtain ⟨b1, b2, b3, ⟨y', b4, b5, b6, b8⟩, b7⟩ := h4 j (by omega)
      have ey : y' = yv := nI_inj (by omega) (by omega) (by rw [← b4, ← y1])
      subst ey
      have p0 : (0 : Int32) ≤ nI j := nI0le (by omega)
      have lo := b6.lo
      unfold nmC tf
      rw [← fe, v, if_pos p0, nc (by omega)]
      by_cases cs : fb (flw T) 52 = true ∧ fb (flw T) j = false
      · left
        rw [if_pos (b7.mpr cs), ← hT1, if_pos cs, if_pos rfl]
        exact bf_nt (a := 6) hR.1.2.2.2.2.1 hR.1.2.2.2.2.2.1 (by decide)
      · right
        have eT : T1 = T := by rw [← hT1, if_neg cs, if_neg (by decide)]
        refine ⟨eT, ?_, b6, b3, ?_⟩
        · have := m3 n (by rw [eT]; exact h51) hn
          rw [eT] at this
          exact this
        · rw [if_neg (fun w => cs (b7.mp w))]
          by_cases c4 : kdC T y' = 4 ∧ ¬ (fb (flw T) 52 = true ∧ fb (flw T) (20 + j) = false)
          · rw [if_pos c4, if_pos ⟨(lo.mpr c4.1).1, (lo.mpr c4.1).2, (b8 c4.1).mpr c4.2⟩]
            rfl
          · rw [if_neg c4, if_neg (fun w => c4 ⟨lo.mp ⟨w.1, w.2.1⟩, (b8 (lo.mp ⟨w.1, w.2.1⟩)).mp w.2.2⟩)]
    -- the end where the type stays
    have stay : kdC T2 yv ≠ 4 ∨ (fb (flw T2) 52 = true ∧ fb (flw T2) (20 + j) = false) → wp (some (nI yv, (0 : Int64), T2)) (fun r _ T' => XA T r T' ∧ ∀ R sl S n y, r = nI y → y < 16387 → XR R sl X S T → T.1 51 0 = nI n → n < 6032 → lvC T 16384 + 30 < 16384 → cn (nmR X S i).2.2.2 < 6000 → Ck (nmR X S i).2.2.2 → XOk R sl X S T (nmR X S i) 1 1 n y T') := by
      intro hs
      refine wp_some ⟨⟨yv, rfl, f12.2.2.2.1 _ y2, f12⟩, fun R sl S n y hr hy hR h51 hn hl hc hk => ?_⟩
      have ey : yv = y := nI_inj (by omega) (by omega) hr
      subst ey
      rcases spec R sl S n hR h51 hn with hB | ⟨eT, eT2, t5, sl5, en⟩
      · exact Or.inr (hB.fx m2)
      · have k2 : kdC T2 yv = kdC T yv := by rw [eT2]; rfl
        rw [k2, fw] at hs
        rw [if_neg (fun w => by rcases hs with q | q; exact q w.1; exact w.2 q)] at en
        unfold nmR at hc hk ⊢
        rw [en] at hc hk ⊢
        have o := (kG1 (j := j1 5 (S.1 79 j) (S.1 80 j) 0 0) (by show ¬ (5 : Int32) = 7; decide))
        have F : TyF S S T T2 := (Xt.ag (by rw [eT2]; rfl) (by rw [eT2]; rfl)).tf
        refine Or.inl ⟨hR.fx F FE.rf f12 hR.1.2.2.2.2.1 (by rw [eT2, em_o (by omega)]; exact hR.1.2.2.2.2.2.1) hR.2.1 ?_, F, ⟨5, TyR.mo F (fun _ _ z => z) _ _ _ t5⟩, ?_, ?_, ?_, o.1, ?_⟩
        · have := hR.2.2.2.2.2.2.2.2.2.2
          unfold CtR at this ⊢
          rw [eT2, em_o (by omega)]
          exact this
        · rw [o.2, eT2]; exact em_51
        · rw [o.2]
          refine ⟨KrO_5 (cc := nI (wdC T2 yv)) ⟨5, yv, TyR.mo F (fun _ _ z => z) _ _ _ t5, rfl⟩ ?_, trivial⟩
          rw [eT2, em_row, sl5]
          rfl
        · rw [o.2]; exact Nat.le_refl 1
        · rw [lvC_62 (T := T) (T' := T2) (by rw [eT2]; rfl) (by rw [eT2]; rfl)]
          omega
    have q4 : (nI (kdC T2 yv) = (4 : Int32)) = (kdC T2 yv = 4) := ci_eq (j := 4) (by omega) (by omega)
    simp only [q4]
    by_cases c4 : kdC T2 yv = 4
    · rw [if_pos c4, c_isKnown (nf := nf) (d := d + 1) j20 (by omega), bis]
      by_cases ck : fb (flw T2) 52 = true ∧ fb (flw T2) (20 + j) = false
      · rw [if_pos ck, if_pos rfl]
        exact stay (Or.inr ck)
      · rw [if_neg ck, if_neg (by decide)]
        obtain ⟨z, T3, s1, s2, s3, s4⟩ := solid_ab (nf := nf) (d := d + 1) (T := T2) hnf f12.2.2.1 (f12.2.2.2.1 _ y2) (Or.inr c4) (by omega)
        rw [s1, bis]
        have f123 := f12.tr s3.fx
        refine wp_some ⟨⟨z, rfl, s2, f123⟩, fun R sl S n y hr hy hR h51 hn hl hc hk => ?_⟩
        have ey : z = y := nI_inj (by have := s2.lt; omega) (by omega) hr
        subst ey
        rcases spec R sl S n hR h51 hn with hB | ⟨eT, eT2, t5, sl5, en⟩
        · exact Or.inr (hB.fx (m2.tr s3.fx))
        · have k2 : kdC T2 yv = kdC T yv := by rw [eT2]; rfl
          rw [k2] at c4
          rw [fw] at ck
          rw [if_pos ⟨c4, ck⟩] at en
          try unfold nmR at hc
          try unfold nmR at hk
          try unfold nmR
          rw [en] at hc hk ⊢
          have o := (kG1 (j := j1 5 (S.1 79 j) (knR S (slZ S (S.1 80 j))) 0 0) (by show ¬ (5 : Int32) = 7; decide))
          have F : TyF S S T T2 := (Xt.ag (by rw [eT2]; rfl) (by rw [eT2]; rfl)).tf
          have lv2 : lvC T2 16384 = lvC T 16384 := lvC_62 (by rw [eT2]; rfl) (by rw [eT2]; rfl) _
          obtain ⟨u1, u2, u3, u4⟩ := s4 R S (S.1 80 j) 5 (TyR.mo F (fun _ _ z => z) _ _ _ t5) hR.2.1.1 (by omega) hc
          have F2 := F.tr u2
          have k0 : (knS S (slZ S (S.1 80 j))).1 7 0 = 0 := by rw [knS_o (by omega)]; exact hR.1.2.2.2.2.1
          refine Or.inl ⟨hR.fx F2 FE.kn f123 k0 (by rw [s3.1, eT2, em_o (by omega)]; exact hR.1.2.2.2.2.2.1) hk ?_, F2, ⟨5, u1⟩, ?_, ?_, ?_, o.1, ?_⟩
          · have := hR.2.2.2.2.2.2.2.2.2.2
            unfold CtR at this ⊢
            rw [s3.1, eT2, em_o (by omega), knS_o (by omega), knS_o (by omega), knS_o (by omega), knS_o (by omega), knS_o (by omega)]
            exact this
          · rw [o.2, s3.1, eT2]; exact em_51
          · rw [o.2]
            refine ⟨KrO_5 (cc := nI 1) ⟨5, z, u1, ?_⟩ ?_, trivial⟩
            · rw [wd_nz (by rw [u4]; decide), u4]
              rfl
            · unfold cw3
              rw [s3.1]
              show cw3 T2 n = _
              rw [eT2, em_row, sl5]
              rw [wd_nz (by rw [c4]; decide), c4]
              rfl
          · rw [o.2]; exact Nat.le_refl 1
          · omega
    · rw [if_neg c4]
      exact stay (Or.inl c4)
end CXQ
