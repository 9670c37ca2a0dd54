/-! heads: the result, dead and where; a whole head -/
def rtS (X : Lx) (it rt : Nat) (S : gSt) : gSt := if rt = 0 then sI (sI S 26 it (-1)) 30 it 0 else sI (sI (meX X 6 S rt).2 26 it (meX X 6 S rt).1) 30 it 0
def deS (it k : Nat) (S : gSt) : gSt := if 0 ≤ roI S it (S.2 28 (3 * it + k)) then (if ((S.1 30 it >>> (roI S it (S.2 28 (3 * it + k)) &&& 31)) &&& 1) = 1 then flT S 2 (S.1 29 (3 * it + k)) else sI S 30 it (S.1 30 it ||| ((1 : Int32) <<< (roI S it (S.2 28 (3 * it + k)) &&& 31)))) else flT S 3 (S.1 29 (3 * it + k))
def deL (it : Nat) : Nat → Nat → gSt → gSt
  | 0, _, S => S
  | k + 1, j, S => if S.1 7 0 = 0 then deL it k (j + 1) (deS it j S) else S
def whS (it k : Nat) (S : gSt) : gSt := if 0 ≤ roI S it (S.2 32 (6 * it + k)) then S else flT S 3 (S.1 33 (6 * it + k))
def whL (it : Nat) : Nat → Nat → gSt → gSt
  | 0, _, S => S
  | k + 1, j, S => if S.1 7 0 = 0 then whL it k (j + 1) (whS it j S) else S
def tlS (X : Lx) (it rt n w : Nat) (S : gSt) : gSt := if 2 ≤ S.1 12 it then whL it (2 * w) 0 (deL it n 0 (rtS X it rt S)) else S
def nmF (it : Nat) (S : gSt) : Int32 := if S.1 12 it = 2 then ff (isFu S (S.2 13 it)) 0 (inn S) else ff (isTi S (S.2 13 it)) 0 (inn S)
def nmS (it : Nat) (S : gSt) : gSt := if nmF it S = nI it then S else flT S 2 (S.1 14 it)
def hdA (it : Nat) (S : gSt) : gSt := sgS it (drL it (S.1 15 it).toNatClampNeg 0 (nmS it S))
def hdS (X : Lx) (it c : Nat) (l : List Nat) (rt n w : Nat) (S : gSt) : gSt := tlS X it rt n w (fdL X c l l.length 0 (hdA it S))
/-- what heads lean on before regions are in sight -/
def Ck0 (T : gSt) : Prop := Tg T ∧ Rws T ∧ (T.1 11 0 = nI (inn T) ∧ inn T ≤ 24 ∧ ∀ t, t < inn T → ∃ r, T.1 15 t = nI r ∧ r ≤ 3)
section HJ
variable {nf d : Nat} {T T' T1 S S' : gSt} {X : Lx} {it r k j c n tk w i f rt : Nat} {l : List Nat} {x y : Int32} {Q : Int32 → Int64 → gSt → Prop}
theorem e6i (it j : Nat) : (6 : Int32) * nI it + nI j = nI (6 * it + j) := by
  rw [show (6 : Int32) = nI 6 from rfl, nI_mul]
  exact (Int32.ofNat_add _ _).symm
theorem deS_o (g : Nat) (h : g ≠ 7) (h2 : g ≠ 8) (h3 : g ≠ 30) : (deS it j T).1 g = T.1 g := by
  unfold deS
  split
  · split
    · exact flT_o h h2
    · exact sI_ne h3
  · exact flT_o h h2
theorem whS_o (g : Nat) (h : g ≠ 7) (h2 : g ≠ 8) : (whS it j T).1 g = T.1 g := by
  unfold whS
  split
  · rfl
  · exact flT_o h h2
theorem l_417 (hnf : 5000 ≤ nf) (hit : it < 24) (hr : r ≤ 3) (hw : w ≤ 3) : ∀ (k j fl : Nat) (T : gSt), j + k = 2 * w → k < fl → T.1 31 it = nI w → T.1 15 it = nI r → rl_Model_checkHead_417 (RR nf (d + 1)) nf fl T (nI it) (nI j) = some (0, 0, whL it k j T) := by
  have zi : inb (nI it) 24 := nin (by omega) (by omega)
  have ci : (nI it).toNatClampNeg = it := nc (by omega)
  intro k
  induction k with
  | zero =>
    intro j fl T hj hf h31 h15
    obtain ⟨fl', rfl⟩ : ∃ q, fl = q + 1 := ⟨fl - 1, by omega⟩
    obtain rfl : j = 2 * w := by omega
    rw [rl_Model_checkHead_417, gd, if_pos zi, ci, h31, show (2 : Int32) = nI 2 from rfl, nI_mul, if_pos (Int32.le_refl _)]
    rfl
  | succ k ih =>
    intro j fl T hj hf h31 h15
    obtain ⟨fl', rfl⟩ : ∃ q, fl = q + 1 := ⟨fl - 1, by omega⟩
    have hlt : ¬ nI (2 * w) ≤ nI j := fun q => by
      have := (nI_leI (by omega) (by omega)).mp q
      omega
    have z6 : inb (nI (6 * it + j)) 144 := nin (by omega) (by omega)
    have c6 : (nI (6 * it + j)).toNatClampNeg = 6 * it + j := nc (by omega)
    have i2 := ih (j + 1) fl' (whS it j T) (by omega) (by omega) (by rw [whS_o 31 (by omega) (by omega)]; exact h31) (by rw [whS_o 15 (by omega) (by omega)]; exact h15)
    rw [rl_Model_checkHead_417, gd, if_pos zi, ci, h31, show (2 : Int32) * nI w = nI (2 * w) from by rw [show (2 : Int32) = nI 2 from rfl, nI_mul], if_neg hlt, whL]
    by_cases c : T.1 7 0 = 0
    · rw [if_pos c, x_bd0 c, bis, if_pos rfl, e6i, gd, if_pos z6, c6, x_roI hit h15 hr hnf, bis]
      unfold whS at i2 ⊢
      by_cases c2 : 0 ≤ roI T it (T.2 32 (6 * it + j))
      · rw [if_pos c2] at i2 ⊢
        rw [if_pos c2, vK, nI_1]
        exact i2
      · rw [if_neg c2] at i2 ⊢
        rw [if_neg c2, gd, if_pos z6, x_fail, bis, vK, nI_1]
        exact i2
    · rw [if_neg c, x_bd1 c, bis, if_neg (by decide)]
theorem l_306 (hnf : 5000 ≤ nf) (hit : it < 24) (hr : r ≤ 3) (hw : w ≤ 3) (hn : n ≤ 3) : ∀ (k j fl : Nat) (T : gSt), j + k = n → k < fl → T.1 27 it = nI n → T.1 31 it = nI w → T.1 15 it = nI r → rl_Model_checkHead_306 (RR nf (d + 1)) nf fl T (nI it) (nI j) = some (0, 0, whL it (2 * w) 0 (deL it k j T)) := by
  have zi : inb (nI it) 24 := nin (by omega) (by omega)
  have ci : (nI it).toNatClampNeg = it := nc (by omega)
  have en : ∀ T : gSt, T.1 31 it = nI w → T.1 15 it = nI r → rl_Model_checkHead_417 (RR nf (d + 1)) nf nf T (nI it) 0 = some (0, 0, whL it (2 * w) 0 T) := fun T a b => l_417 hnf hit hr hw (2 * w) 0 nf T (by omega) (by omega) a b
  intro k
  induction k with
  | zero =>
    intro j fl T hj hf h27 h31 h15
    obtain ⟨fl', rfl⟩ : ∃ q, fl = q + 1 := ⟨fl - 1, by omega⟩
    obtain rfl : j = n := by omega
    rw [rl_Model_checkHead_306, gd, if_pos zi, ci, h27, if_pos (Int32.le_refl _), en T h31 h15]
    rfl
  | succ k ih =>
    intro j fl T hj hf h27 h31 h15
    obtain ⟨fl', rfl⟩ : ∃ q, fl = q + 1 := ⟨fl - 1, by omega⟩
    have hlt : ¬ nI n ≤ nI j := fun q => by
      have := (nI_leI (by omega) (by omega)).mp q
      omega
    have z3 : inb (nI (3 * it + j)) 72 := nin (by omega) (by omega)
    have c3 : (nI (3 * it + j)).toNatClampNeg = 3 * it + j := nc (by omega)
    have i2 := ih (j + 1) fl' (deS it j T) (by omega) (by omega) (by rw [deS_o 27 (by omega) (by omega) (by omega)]; exact h27) (by rw [deS_o 31 (by omega) (by omega) (by omega)]; exact h31) (by rw [deS_o 15 (by omega) (by omega) (by omega)]; exact h15)
    rw [rl_Model_checkHead_306, gd, if_pos zi, ci, h27, if_neg hlt, deL]
    by_cases c : T.1 7 0 = 0
    · rw [if_pos c, x_bd0 c, bis, if_pos rfl, e3i, gd, if_pos z3, c3, x_roI hit h15 hr hnf, bis]
      unfold deS at i2 ⊢
      by_cases c2 : 0 ≤ roI T it (T.2 28 (3 * it + j))
      · rw [if_pos c2] at i2 ⊢
        rw [if_pos c2, gd, if_pos zi]
        by_cases c4 : ((T.1 30 it >>> (roI T it (T.2 28 (3 * it + j)) &&& 31)) &&& 1) = 1
        · rw [if_pos c4] at i2 ⊢
          rw [if_pos c4, gd, if_pos z3, x_fail, bis, vK, nI_1]
          exact i2
        · rw [if_neg c4] at i2 ⊢
          rw [if_neg c4, gd, if_pos zi, gd, if_pos zi, stK, vK, nI_1]
          exact i2
      · rw [if_neg c2] at i2 ⊢
        rw [if_neg c2, gd, if_pos z3, x_fail, bis, vK, nI_1]
        exact i2
    · rw [if_neg c, x_bd1 c, bis, if_neg (by decide), en T h31 h15]
theorem er_deS : er (deS it j T) = deS it j (er T) := by
  unfold deS
  have e1 : roI (er T) it ((er T).2 28 (3 * it + j)) = roI T it (T.2 28 (3 * it + j)) := rfl
  have e2 : (er T).1 30 it = T.1 30 it := rfl
  have e3 : (er T).1 29 (3 * it + j) = T.1 29 (3 * it + j) := rfl
  rw [e1, e2, e3]
  split
  · split
    · exact er_fl
    · exact er_w rfl
  · exact er_fl
theorem er_deL : ∀ (k j : Nat) (T : gSt), er (deL it k j T) = deL it k j (er T) := by
  intro k
  induction k with
  | zero => intro j T; rfl
  | succ k ih =>
    intro j T
    have e7 : (er T).1 7 0 = T.1 7 0 := rfl
    rw [deL, deL, e7]
    split
    · rw [ih, er_deS]
    · rfl
theorem er_whS : er (whS it j T) = whS it j (er T) := by
  unfold whS
  have e1 : roI (er T) it ((er T).2 32 (6 * it + j)) = roI T it (T.2 32 (6 * it + j)) := rfl
  have e3 : (er T).1 33 (6 * it + j) = T.1 33 (6 * it + j) := rfl
  rw [e1, e3]
  split
  · rfl
  · exact er_fl
theorem er_whL : ∀ (k j : Nat) (T : gSt), er (whL it k j T) = whL it k j (er T) := by
  intro k
  induction k with
  | zero => intro j T; rfl
  | succ k ih =>
    intro j T
    have e7 : (er T).1 7 0 = T.1 7 0 := rfl
    rw [whL, whL, e7]
    split
    · rw [ih, er_whS]
    · rfl
theorem FH.de : ∀ (k j : Nat) (T : gSt), FH T (deL it k j T) := by
  intro k
  induction k with
  | zero => intro j T; exact FH.rf
  | succ k ih =>
    intro j T
    rw [deL]
    split
    · refine FH.tr ?_ (ih _ _)
      unfold deS
      split
      · split
        · exact FH.fl (by decide)
        · exact FH.wr (by omega)
      · exact FH.fl (by decide)
    · exact FH.rf
theorem FH.wh : ∀ (k j : Nat) (T : gSt), FH T (whL it k j T) := by
  intro k
  induction k with
  | zero => intro j T; exact FH.rf
  | succ k ih =>
    intro j T
    rw [whL]
    split
    · refine FH.tr ?_ (ih _ _)
      unfold whS
      split
      · exact FH.rf
      · exact FH.fl (by decide)
    · exact FH.rf
theorem deL_o (g : Nat) (h : g ≠ 7) (h2 : g ≠ 8) (h3 : g ≠ 30) : ∀ (k j : Nat) (T : gSt), (deL it k j T).1 g = T.1 g := by
  intro k
  induction k with
  | zero => intro j T; rfl
  | succ k ih =>
    intro j T
    rw [deL]
    split
    · rw [ih, deS_o g h h2 h3]
    · rfl
theorem whL_o (g : Nat) (h : g ≠ 7) (h2 : g ≠ 8) : ∀ (k j : Nat) (T : gSt), (whL it k j T).1 g = T.1 g := by
  intro k
  induction k with
  | zero => intro j T; rfl
  | succ k ih =>
    intro j T
    rw [whL]
    split
    · rw [ih, whS_o g h h2]
    · rfl
theorem FH.rts : FH T (rtS X it rt T) := by
  unfold rtS
  split
  · exact (FH.wr (by omega)).tr (FH.wr (by omega))
  · exact ((FH.fe (FE.me _ _ _)).tr (FH.wr (by omega))).tr (FH.wr (by omega))
theorem FH.tl : FH T (tlS X it rt n w T) := by
  unfold tlS
  split
  · exact (FH.rts.tr (FH.de _ _ _)).tr (FH.wh _ _ _)
  · exact FH.rf
theorem FH.nm : FH T (nmS it T) := by
  unfold nmS
  split
  · exact FH.rf
  · exact FH.fl (by decide)
theorem FH.hA : FH T (hdA it T) := (FH.nm.tr (FH.dr _ _ _)).tr FH.sg
theorem FH.hd : FH T (hdS X it c l rt n w T) := (FH.hA.tr (FH.fd _ _ _)).tr FH.tl
/-- the result's TYPE in its place -/
def HR (X : Lx) (S : gSt) (it rt : Nat) : Prop := if rt = 0 then S.1 25 it = -1 else (∃ w', S.1 25 it = nI w' ∧ RepW X S 6 w' rt) ∧ tyW X 6 rt ∧ tyE X 6 rt ≤ xn X
def HO (X : Lx) (S : gSt) (it rt n w r : Nat) : Prop := HR X S it rt ∧ S.1 15 it = nI r ∧ r ≤ 3 ∧ S.1 27 it = nI n ∧ n ≤ 3 ∧ S.1 31 it = nI w ∧ w ≤ 3
theorem HR.fh (h : HR X T it rt) (hF : FH T T') : HR X T' it rt := by
  unfold HR at h ⊢
  rw [hF.1 25 (by omega) (by omega) (by omega) (by omega) (by omega) (by omega)]
  split
  · rename_i z; rw [if_pos z] at h; exact h
  · rename_i z
    rw [if_neg z] at h
    obtain ⟨⟨w', a, b⟩, c⟩ := h
    exact ⟨⟨w', a, RepW.av 6 _ _ hF.aw.av b⟩, c⟩
theorem HO.fh (h : HO X T it rt n w r) (hF : FH T T') : HO X T' it rt n w r := by
  obtain ⟨a1, a2, a3, a4, a5, a6, a7⟩ := h
  refine ⟨a1.fh hF, ?_, a3, ?_, a5, ?_, a7⟩
  · rw [hF.1 15 (by omega) (by omega) (by omega) (by omega) (by omega) (by omega)]; exact a2
  · rw [hF.1 27 (by omega) (by omega) (by omega) (by omega) (by omega) (by omega)]; exact a4
  · rw [hF.1 31 (by omega) (by omega) (by omega) (by omega) (by omega) (by omega)]; exact a6
theorem An.de : An T (deL it k j T) := ⟨deL_o 60 (by omega) (by omega) (by omega) k j T, deL_o 61 (by omega) (by omega) (by omega) k j T, by rw [deL_o 94 (by omega) (by omega) (by omega) k j T]⟩
theorem An.wh : An T (whL it k j T) := ⟨whL_o 60 (by omega) (by omega) k j T, whL_o 61 (by omega) (by omega) k j T, by rw [whL_o 94 (by omega) (by omega) k j T]⟩
theorem x_257 (hnf : 8300 ≤ nf) (hP : ∀ q, q < xn X → xP X q < 100000) (hit : it < 24) (hO : HO X (er T) it rt n w r) (hC : Ckm (er T)) (hu : nU T ≤ 4000) (hw : nW T ≤ 4000) (hc : cn (tlS X it rt n w (er T)) < 6000) : wp (rj_Model_checkHead_257 (RR nf (d + 11)) nf T (nI it)) (fun _ _ T' => er T' = tlS X it rt n w (er T) ∧ An T T') := by
  have zi : inb (nI it) 24 := nin (by omega) (by omega)
  have ci : (nI it).toNatClampNeg = it := nc (by omega)
  have hOo := hO
  obtain ⟨a1, a2, a3, a4, a5, a6, a7⟩ := hO
  unfold rj_Model_checkHead_257
  rw [gd, if_pos zi, ci]
  unfold tlS at hc ⊢
  have e12 : (er T).1 12 it = T.1 12 it := rfl
  rw [e12] at hc ⊢
  by_cases c : 2 ≤ T.1 12 it
  · rw [if_pos c] at hc ⊢
    rw [if_pos c, gd, if_pos zi]
    have cR : cn (rtS X it rt (er T)) < 6000 := ((FH.de n 0 _).tr (FH.wh (2 * w) 0 _)).lt (FH.rts.tg hC.1) hc
    have fin : ∀ T1, er T1 = rtS X it rt (er T) → An T T1 → wp (rl_Model_checkHead_306 (RR nf (d + 11)) nf nf T1 (nI it) 0) (fun _ _ T' => er T' = whL it (2 * w) 0 (deL it n 0 (rtS X it rt (er T))) ∧ An T T') := by
      intro T1 e1 an
      have o1 : HO X (er T1) it rt n w r := e1 ▸ hOo.fh FH.rts
      have := l_306 (nf := nf) (d := d + 10) (by omega) hit a3 a7 a5 n 0 nf T1 (by omega) (by omega) o1.2.2.2.1 o1.2.2.2.2.2.1 o1.2.1
      rw [show nI 0 = (0 : Int32) from rfl] at this
      refine wp_eq this ⟨?_, (an.tr An.de).tr An.wh⟩
      rw [er_whL, er_deL, e1]
    unfold HR at a1
    by_cases c2 : rt = 0
    · rw [if_pos c2] at a1
      have h25 : T.1 25 it = -1 := a1
      rw [h25, if_neg (by decide), gd, if_pos zi, stK, gd, if_pos zi, stK]
      refine fin _ ?_ ((An.wr (by omega)).tr (An.wr (by omega)))
      rw [er_w rfl, er_w rfl, rtS, if_pos c2]
    · rw [if_neg c2] at a1
      obtain ⟨⟨w', b1, b2⟩, b3, b4⟩ := a1
      have h25 : T.1 25 it = nI w' := b1
      have hw' : w' < nW (er T) := b2.1
      have hw2 : nW (er T) = nW T := rfl
      rw [h25, if_pos (Int32.not_lt.mp (nI_pos (by omega))), gd, if_pos zi]
      have cm : cn (meX X 6 (er T) rt).2 < 6000 := by
        have := cR
        rw [rtS, if_neg c2, cn_w (by omega), cn_w (by omega)] at this
        exact this
      refine wp_bi (x_mean0 hnf hP 6 (d + 1) T w' rt (RepW.av 6 _ _ er_aw.av b2) b3 hC hu hw b4 cm) ?_
      intro q _ T2 h2
      obtain ⟨h21, h22, h23⟩ := h2
      rw [gd, if_pos zi, stK, gd, if_pos zi, stK]
      refine fin _ ?_ ((An.fm h22).tr ((An.wr (by omega)).tr (An.wr (by omega))))
      rw [er_w rfl, er_w rfl, rtS, if_neg c2, h21, h23]
  · rw [if_neg c] at hc ⊢
    rw [if_neg c]
    exact wp_some ⟨rfl, An.rf⟩
theorem Ck0.fl (h : Ck0 T) (hx : ¬ x = 0) : Ck0 (flT T x y) := by
  obtain ⟨a1, a2, a3, a4, a5⟩ := h
  have hi : inn (flT T x y) = inn T := by unfold inn; rw [flT_o (by omega) (by omega)]
  refine ⟨(FE.fl hx).tg a1, a2.fl, ?_, ?_, ?_⟩
  · rw [hi, flT_o (by omega) (by omega)]; exact a3
  · rw [hi]; exact a4
  · intro t ht
    rw [hi] at ht
    rw [flT_o (by omega) (by omega)]
    exact a5 t ht
theorem Ck0.nm (h : Ck0 T) : Ck0 (nmS it T) := by
  unfold nmS
  split
  · exact h
  · exact h.fl (by decide)
theorem Ck0.dr : ∀ (k j : Nat) (T : gSt), Ck0 T → Ck0 (drL it k j T) := by
  intro k
  induction k with
  | zero => intro j T h; exact h
  | succ k ih =>
    intro j T h
    rw [drL]
    split
    · apply ih
      unfold drS
      generalize dpR T it j j 0 (if T.2 16 (3 * it + j) = 72 then 1 else 0) = z
      split
      · exact h
      · exact h.fl (by decide)
    · exact h
theorem Rws.sgl : ∀ (k j : Nat) (T : gSt), Rws T → Rws (sgL it k j T) := by
  intro k
  induction k with
  | zero => intro j T h; exact h
  | succ k ih =>
    intro j T h
    rw [sgL]
    apply ih
    refine Rws.wr (Rws.wr ?_ (by omega) (by omega)) (by omega) (by omega)
    exact h
theorem Ck0.sg (h : Ck0 T) (h15 : T.1 15 it = nI r) (hr : r ≤ 3) : Ckm (sgS it T) := by
  obtain ⟨a1, a2, a3, a4, a5⟩ := h
  have ss : sgS it T = sgL it r 0 (sI T 71 0 0) := by unfold sgS; rw [h15, nc (by omega)]
  have h71 : (sgS it T).1 71 0 = nI r := by
    rw [ss, sgL_n r 0 _ (by rw [rdI, if_pos ⟨rfl, rfl⟩]; rfl), Nat.zero_add]
  have hrn : rn (sgS it T) = r := by unfold rn; rw [h71, nc (by omega)]
  have o : ∀ g, g < 71 → (sgS it T).1 g = T.1 g := fun g hg => by
    rw [ss, sgL_o g (by omega) (by omega), sI_ne (by omega)]
  have hi : inn (sgS it T) = inn T := by unfold inn; rw [o 11 (by omega)]
  refine ⟨FH.sg.tg a1, ?_, ⟨⟨?_, ?_⟩, ?_⟩, ?_, ?_, ?_⟩
  · rw [ss]
    exact Rws.sgl _ _ _ (a2.wr (by omega) (by omega))
  · rw [hrn]; exact h71
  · omega
  · intro k hk
    rw [hrn] at hk
    rw [ss, sgL_73 r 0 _ (fun q hq => by omega) k (by omega)]
    exact ⟨k + 1, rfl, by omega⟩
  · rw [hi, o 11 (by omega)]; exact a3
  · rw [hi]; exact a4
  · intro t ht
    rw [hi] at ht
    rw [o 15 (by omega)]
    exact a5 t ht
theorem er_drL : ∀ (k j : Nat) (T : gSt), er (drL it k j T) = drL it k j (er T) := by
  intro k
  induction k with
  | zero => intro j T; rfl
  | succ k ih =>
    intro j T
    have e7 : (er T).1 7 0 = T.1 7 0 := rfl
    have ed : ∀ (k q : Nat) (f : Int32), dpR (er T) it j k q f = dpR T it j k q f := by
      intro k
      induction k with
      | zero => intro q f; rfl
      | succ k ih => intro q f; rw [dpR, dpR, ih]; rfl
    have es : er (drS T it j) = drS (er T) it j := by
      unfold drS
      rw [ed]
      have e2 : (er T).2 16 (3 * it + j) = T.2 16 (3 * it + j) := rfl
      rw [e2]
      generalize dpR T it j j 0 (if T.2 16 (3 * it + j) = 72 then 1 else 0) = z
      split
      · rfl
      · exact er_fl
    rw [drL, drL, e7]
    split
    · rw [ih, es]
    · rfl
theorem er_nm : er (nmS it T) = nmS it (er T) := by
  unfold nmS
  have e1 : nmF it (er T) = nmF it T := rfl
  have e2 : (er T).1 14 it = T.1 14 it := rfl
  rw [e1, e2]
  split
  · rfl
  · exact er_fl
theorem er_hdA : er (hdA it T) = hdA it (er T) := by
  unfold hdA
  rw [er_sg, er_drL, er_nm]
  rfl
theorem An.nm : An T (nmS it T) := by
  unfold nmS
  split
  · exact An.rf
  · exact An.fl
/-- a whole head -/
theorem x_hd (hnf : 8300 ≤ nf) (hP : ∀ q, q < xn X → xP X q < 100000) (hY : HY X (er T) it c l) (hO : HO X (er T) it rt n w r) (hC : Ck0 (er T)) (hc : cn (hdS X it c l rt n w (er T)) < 6000) : wp (RR nf (d + 12) 63 T [nI it] []) (fun _ _ T' => er T' = hdS X it c l rt n w (er T) ∧ An T T') := by
  have hit := hY.1
  have zi : inb (nI it) 24 := nin (by omega) (by omega)
  have ci : (nI it).toNatClampNeg = it := nc (by omega)
  have h15 : T.1 15 it = nI r := hO.2.1
  have hr : r ≤ 3 := hO.2.2.1
  have h11 : T.1 11 0 = nI (inn T) := hC.2.2.1
  have h11b : inn T ≤ 24 := hC.2.2.2.1
  have cA : Ckm (er (hdA it T)) := by
    rw [er_hdA]
    refine Ck0.sg (r := r) (Ck0.dr _ _ _ hC.nm) ?_ hr
    rw [drL_o 15 (by omega) (by omega), FH.nm.1 15 (by omega) (by omega) (by omega) (by omega) (by omega) (by omega)]
    exact h15
  have fA : FH (er T) (er (hdA it T)) := by rw [er_hdA]; exact FH.hA
  have r33 : ∀ z, z = nmF it T → wp (rj_Model_checkHead_33 (RR nf (d + 11)) nf T (nI it) z) (fun _ _ T' => er T' = hdS X it c l rt n w (er T) ∧ An T T') := by
    intro z hz
    have go : ∀ T1, T1 = nmS it T → wp (rl_Model_checkHead_52 (RR nf (d + 11)) nf nf T1 (nI it) 0) (fun _ _ T' => er T' = hdS X it c l rt n w (er T) ∧ An T T') := by
      intro T1 e1
      have h15' : T1.1 15 it = nI r := by rw [e1, FH.nm.1 15 (by omega) (by omega) (by omega) (by omega) (by omega) (by omega)]; exact h15
      have l52 := l_52 (nf := nf) (d := d + 10) (by omega) hit hr r 0 nf T1 (by omega) (by omega) h15'
      rw [show nI 0 = (0 : Int32) from rfl] at l52
      rw [l52]
      have eA : sgS it (drL it r 0 T1) = hdA it T := by unfold hdA; rw [e1, h15, nc (by omega)]
      rw [eA]
      have cF : cn (fdL X c l l.length 0 (er (hdA it T))) < 6000 := by
        have := hc
        unfold hdS at this
        rw [← er_hdA] at this
        exact FH.tl.lt ((FH.fd _ _ _).tg cA.1) this
      refine l_178 (d := d) hnf hP l.length 0 nf (hdA it T) (by omega) (by have := hY.2.2.2.1; omega) (hY.fh fA) cA cF ?_
      intro T2 e2 an2
      have hY2 : HY X (er T2) it c l := e2 ▸ (hY.fh fA).fh (FH.fd _ _ _)
      have hO2 : HO X (er T2) it rt n w r := e2 ▸ (hO.fh fA).fh (FH.fd _ _ _)
      have ckF : ∀ (k j : Nat) (S : gSt), j + k = l.length → Ckm S → cn (fdL X c l k j S) < 6000 → Ckm (fdL X c l k j S) := by
        intro k
        induction k with
        | zero => intro j S _ h _; exact h
        | succ k ih =>
          intro j S hj h hcc
          rw [fdL] at hcc ⊢
          by_cases c0 : S.1 7 0 = 0
          · rw [if_pos c0] at hcc ⊢
            have c1 := (FH.fd (X := X) (c := c) (l := l) k (j + 1) _).lt ((FH.fds (X := X) (c := c) (n := l.length) (tk := l.getD j 0) (j := j) (T := S)).tg h.1) hcc
            exact ih (j + 1) _ (by omega) (fdS_ck h (hY.2.2.2.2.2.2.1 j (by omega)).1 c1) hcc
          · rw [if_neg c0] at hcc ⊢
            exact h
      have c2 : Ckm (er T2) := by rw [e2]; exact ckF _ _ _ (by omega) cA cF
      refine wp_mono (x_257 (d := d) hnf hP hit hO2 c2 hY2.2.2.2.2.2.2.2.1 hY2.2.2.2.2.2.2.2.2 (by rw [e2, er_hdA]; exact hc)) ?_
      intro _ _ T3 h3
      refine ⟨?_, ((An.nm.tr An.dr).tr An.sg).tr (an2.tr h3.2)⟩
      rw [h3.1, e2, er_hdA]
      rfl
    unfold rj_Model_checkHead_33
    by_cases q : z = nI it
    · rw [if_pos q]
      exact go T (by unfold nmS; rw [if_pos (hz ▸ q)])
    · rw [if_neg q, gd, if_pos zi, ci, x_fail, bis]
      exact go _ (by unfold nmS; rw [if_neg (fun e => q (hz.trans e))])
  rw [e_Model_checkHead]
  unfold rb_Model_checkHead
  rw [gd, if_pos zi, ci]
  by_cases c2 : T.1 12 it = 2
  · rw [if_pos c2, gd, if_pos zi, x_fun h11 h11b (by omega), bis]
    exact r33 _ (by unfold nmF; rw [if_pos c2])
  · rw [if_neg c2, gd, if_pos zi, x_title h11 h11b (by omega), bis]
    exact r33 _ (by unfold nmF; rw [if_neg c2])
end HJ
