/-! heads: all items, and main -/
def HI (X : Lx) (S : gSt) (t c : Nat) (x : It) : Prop := HY X S t c x.2.2.1 ∧ HO X S t x.2.2.2.1 x.2.2.2.2.2.1 x.2.2.2.2.2.2.2.1 x.2.1
def HIs (X : Lx) (S : gSt) : List It → Nat → Nat → Prop
  | [], _, _ => True
  | x :: xs, t, c => HI X S t c x ∧ HIs X S xs (t + 1) (c + x.2.2.1.length)
def hdI (X : Lx) (t c : Nat) (x : It) (S : gSt) : gSt := hdS X t c x.2.2.1 x.2.2.2.1 x.2.2.2.2.2.1 x.2.2.2.2.2.2.2.1 S
def hdsL (X : Lx) : List It → Nat → Nat → gSt → gSt
  | [], _, _, S => S
  | x :: xs, t, c, S => if S.1 7 0 = 0 then hdsL X xs (t + 1) (c + x.2.2.1.length) (hdI X t c x S) else S
/-- the word main -/
def mnW : Int64 := pks 32 (s_len.getD 32 0)
def mnF (S : gSt) : Int32 := ff (isFu S mnW) 0 (inn S)
abbrev mnQ (S : gSt) : Prop := ¬ mnF S < 0 ∧ ¬ 0 < S.1 15 (mnF S).toNatClampNeg ∧ ¬ 0 < S.1 19 (mnF S).toNatClampNeg ∧ S.1 25 (mnF S).toNatClampNeg < 0
def mnS (S : gSt) : gSt := if mnQ S then S else flT S 8 (S.1 1 0)
section HK
variable {nf d : Nat} {T T' T1 S S' : gSt} {X : Lx} {it r k j c n tk w i f rt t : Nat} {l : List Nat} {x y : Int32} {Q : Int32 → Int64 → gSt → Prop} {z : It}
theorem Ckm.to0 (h : Ckm T) : Ck0 T := ⟨h.1, h.2.1, h.2.2.2⟩
theorem HI.fh (h : HI X T t c z) (hF : FH T T') : HI X T' t c z := ⟨h.1.fh hF, h.2.fh hF⟩
theorem HIs.fh (hF : FH T T') : ∀ (xs : List It) (t c : Nat), HIs X T xs t c → HIs X T' xs t c := by
  intro xs
  induction xs with
  | nil => intro t c _; trivial
  | cons x xs ih => intro t c h; exact ⟨h.1.fh hF, ih _ _ h.2⟩
theorem Ckm.fd (hY : ∀ j, j < l.length → tyW X 6 (l.getD j 0 + 2)) : ∀ (k j : Nat) (S : gSt), j + k = l.length → Ckm S → cn (fdL X c l k j S) < 6000 → Ckm (fdL X c l k j S) := by
  intro k
  induction k with
  | zero => intro j S _ h _; exact h
  | succ k ih =>
    intro j S hj h hcc
    rw [fdL] at hcc ⊢
    by_cases c0 : S.1 7 0 = 0
    · rw [if_pos c0] at hcc ⊢
      have c1 := (FH.fd (X := X) (c := c) (l := l) k (j + 1) _).lt ((FH.fds (X := X) (c := c) (n := l.length) (tk := l.getD j 0) (j := j) (T := S)).tg h.1) hcc
      exact ih (j + 1) _ (by omega) (fdS_ck h (hY j (by omega)) c1) hcc
    · rw [if_neg c0] at hcc ⊢
      exact h
theorem Ckm.rts (h : Ckm T) (hw : ¬ rt = 0 → tyW X 6 rt) (hc : cn (rtS X it rt T) < 6000) : Ckm (rtS X it rt T) := by
  unfold rtS at hc ⊢
  by_cases z : rt = 0
  · rw [if_pos z]; exact (h.wr (by omega)).wr (by omega)
  · rw [if_neg z] at hc ⊢
    rw [cn_w (by omega), cn_w (by omega)] at hc
    exact ((me_ok 6 _ _ (hw z) h hc).1.wr (by omega)).wr (by omega)
theorem Ckm.de : ∀ (k j : Nat) (T : gSt), Ckm T → Ckm (deL it k j T) := by
  intro k
  induction k with
  | zero => intro j T h; exact h
  | succ k ih =>
    intro j T h
    rw [deL]
    split
    · apply ih
      unfold deS
      split
      · split
        · exact h.fl (by decide)
        · exact h.wr (by omega)
      · exact h.fl (by decide)
    · exact h
theorem Ckm.wh : ∀ (k j : Nat) (T : gSt), Ckm T → Ckm (whL it k j T) := by
  intro k
  induction k with
  | zero => intro j T h; exact h
  | succ k ih =>
    intro j T h
    rw [whL]
    split
    · apply ih
      unfold whS
      split
      · exact h
      · exact h.fl (by decide)
    · exact h
theorem HR.ty (h : HR X T it rt) : ¬ rt = 0 → tyW X 6 rt := by
  intro z
  unfold HR at h
  rw [if_neg z] at h
  exact h.2.1
theorem Ck0.hA (h : Ck0 T) (h15 : T.1 15 it = nI r) (hr : r ≤ 3) : Ckm (hdA it T) := by
  refine Ck0.sg (r := r) (Ck0.dr _ _ _ h.nm) ?_ hr
  rw [drL_o 15 (by omega) (by omega), FH.nm.1 15 (by omega) (by omega) (by omega) (by omega) (by omega) (by omega)]
  exact h15
theorem Ckm.tl (h : Ckm T) (hw : ¬ rt = 0 → tyW X 6 rt) (hc : cn (tlS X it rt n w T) < 6000) : Ckm (tlS X it rt n w T) := by
  unfold tlS at hc ⊢
  by_cases z : 2 ≤ T.1 12 it
  · rw [if_pos z] at hc ⊢
    exact Ckm.wh _ _ _ (Ckm.de _ _ _ (h.rts hw (((FH.de n 0 _).tr (FH.wh (2 * w) 0 _)).lt (FH.rts.tg h.1) hc)))
  · rw [if_neg z]; exact h
theorem hd_ck (hY : HY X T it c l) (hO : HO X T it rt n w r) (h : Ck0 T) (hc : cn (hdS X it c l rt n w T) < 6000) : Ckm (hdS X it c l rt n w T) := by
  unfold hdS at hc ⊢
  have h1 := h.hA hO.2.1 hO.2.2.1
  have c1 : cn (fdL X c l l.length 0 (hdA it T)) < 6000 := FH.tl.lt ((FH.fd _ _ _).tg h1.1) hc
  exact (Ckm.fd (fun j hj => (hY.2.2.2.2.2.2.1 j hj).1) _ _ _ (by omega) h1 c1).tl hO.1.ty hc
theorem FH.hds : ∀ (xs : List It) (t c : Nat) (T : gSt), FH T (hdsL X xs t c T) := by
  intro xs
  induction xs with
  | nil => intro t c T; exact FH.rf
  | cons x xs ih =>
    intro t c T
    rw [hdsL]
    split
    · exact FH.hd.tr (ih _ _ _)
    · exact FH.rf
theorem l_hds (hnf : 8300 ≤ nf) (hP : ∀ q, q < xn X → xP X q < 100000) : ∀ (xs : List It) (t c fl : Nat) (T : gSt), xs.length < fl → T.1 11 0 = nI (t + xs.length) → t + xs.length ≤ 24 → HIs X (er T) xs t c → Ck0 (er T) → cn (hdsL X xs t c (er T)) < 6000 → (∀ T', er T' = hdsL X xs t c (er T) → An T T' → wp (rj_Model_checkHeads_33 (RR nf (d + 12)) nf T') Q) → wp (rl_Model_checkHeads_7 (RR nf (d + 12)) nf fl T (nI t)) Q := by
  intro xs
  induction xs with
  | nil =>
    intro t c fl T hf h11 ht hI hC hc hQ
    obtain ⟨fl', rfl⟩ : ∃ q, fl = q + 1 := ⟨fl - 1, by omega⟩
    rw [rl_Model_checkHeads_7, h11, List.length_nil, Nat.add_zero, if_pos (Int32.le_refl _)]
    exact hQ T rfl An.rf
  | cons x xs ih =>
    intro t c fl T hf h11 ht hI hC hc hQ
    rw [List.length_cons] at hf h11 ht
    obtain ⟨fl', rfl⟩ : ∃ q, fl = q + 1 := ⟨fl - 1, by omega⟩
    have hlt : ¬ nI (t + (xs.length + 1)) ≤ nI t := fun q => by
      have := (nI_leI (by omega) (by omega)).mp q
      omega
    rw [hdsL] at hc hQ
    rw [rl_Model_checkHeads_7, h11, if_neg hlt]
    by_cases c0 : ¬ T.1 7 0 = 0
    · have c0e : ¬ (er T).1 7 0 = 0 := c0
      rw [if_neg c0e] at hc hQ
      rw [x_bd1 c0, bis, if_neg (by decide)]
      exact hQ T rfl An.rf
    have c0 := Decidable.not_not.mp c0
    have c0e : (er T).1 7 0 = 0 := c0
    rw [if_pos c0e] at hc hQ
    rw [x_bd0 c0, bis, if_pos rfl]
    have fh : FH (er T) (hdI X t c x (er T)) := FH.hd
    have c1 : cn (hdI X t c x (er T)) < 6000 := (FH.hds xs (t + 1) (c + x.2.2.1.length) _).lt (fh.tg hC.1) hc
    refine wp_bi (x_hd (d := d) hnf hP hI.1.1 hI.1.2 hC c1) ?_
    intro _ _ T2 h2
    rw [vK, nI_1]
    have e2 : er T2 = hdI X t c x (er T) := h2.1
    refine ih (t + 1) (c + x.2.2.1.length) fl' T2 (by omega) ?_ (by omega) ?_ ?_ ?_ ?_
    · have : T2.1 11 = T.1 11 := by
        have := fh.1 11 (by omega) (by omega) (by omega) (by omega) (by omega) (by omega)
        rw [← e2] at this
        exact this
      rw [this, h11]
      congr 1
      omega
    · rw [e2]; exact HIs.fh fh _ _ _ hI.2
    · rw [e2]; exact (hd_ck hI.1.1 hI.1.2 hC c1).to0
    · rw [e2]; exact hc
    · intro T' e' a'
      rw [e2] at e'
      exact hQ T' e' (h2.2.tr a')
theorem er_mnS : er (mnS T) = mnS (er T) := by
  unfold mnS
  have e1 : mnQ (er T) = mnQ T := rfl
  have e2 : (er T).1 1 0 = T.1 1 0 := rfl
  by_cases c : mnQ T
  · rw [if_pos c, if_pos (e1 ▸ c)]
  · rw [if_neg c, if_neg (e1 ▸ c), er_fl, e2]
theorem An.mn : An T (mnS T) := by
  unfold mnS
  split
  · exact An.rf
  · exact An.fl
theorem FH.mn : FH T (mnS T) := by
  unfold mnS
  split
  · exact FH.rf
  · exact FH.fl (by decide)
theorem x_mn (hnf : 5000 ≤ nf) (h11 : T.1 11 0 = nI (inn T)) (hi : inn T ≤ 24) : rj_Model_checkHeads_33 (RR nf (d + 1)) nf T = some (0, 0, mnS T) := by
  unfold rj_Model_checkHeads_33
  rw [e_Model_packed]
  unfold rb_Model_packed
  rw [bis, x_fun h11 hi hnf, bis, show (nI 32).toNatClampNeg = 32 from nc (by omega), show ff (isFu T (pks 32 (s_len.getD 32 0))) 0 (inn T) = mnF T from rfl]
  unfold mnS
  by_cases c : mnF T < 0
  · rw [if_pos c, x_fail, bis, if_neg (fun q => q.1 c)]
  · rw [if_neg c]
    have hv : ∃ u, mnF T = nI u ∧ u < inn T := by
      rcases ff_val (p := isFu T mnW) (k := inn T) (i := 0) with hv | ⟨j, g1, g2, g3, g4⟩
      · exact absurd (show mnF T < 0 from by unfold mnF; rw [hv]; decide) c
      · exact ⟨j, g4, by omega⟩
    obtain ⟨u, hu, hu2⟩ := hv
    have zi : inb (mnF T) 24 := by
      rw [hu]; exact nin (by omega) (by omega)
    rw [gd, if_pos zi]
    by_cases c2 : 0 < T.1 15 (mnF T).toNatClampNeg
    · rw [if_pos c2, x_fail, bis, if_neg (fun q => q.2.1 c2)]
    · rw [if_neg c2, gd, if_pos zi]
      by_cases c3 : 0 < T.1 19 (mnF T).toNatClampNeg
      · rw [if_pos c3, x_fail, bis, if_neg (fun q => q.2.2.1 c3)]
      · rw [if_neg c3, gd, if_pos zi]
        by_cases c4 : T.1 25 (mnF T).toNatClampNeg < 0
        · rw [if_pos c4, if_pos ⟨c, c2, c3, c4⟩]
        · rw [if_neg c4, x_fail, bis, if_neg (fun q => c4 q.2.2.2)]
/-- all heads -/
def hdsS (X : Lx) (xs : List It) (S : gSt) : gSt := mnS (hdsL X xs 0 0 (sI S 65 0 1))
theorem x_hds (hnf : 8300 ≤ nf) (hP : ∀ q, q < xn X → xP X q < 100000) {xs : List It} (h11 : T.1 11 0 = nI xs.length) (hl : xs.length ≤ 24) (hI : HIs X (er T) xs 0 0) (h15 : ∀ t, t < xs.length → ∃ r, T.1 15 t = nI r ∧ r ≤ 3) (hc : cn (hdsS X xs (er T)) < 6000) : wp (RR nf (d + 13) 64 T [] []) (fun _ _ T' => er T' = hdsS X xs (er T) ∧ An T T') := by
  have eS : er (sI T 65 0 1) = sI (er T) 65 0 1 := er_w rfl
  have cn1 : cn (sI (er T) 65 0 1) = 1 := by unfold cn; rw [rdI, if_pos ⟨rfl, rfl⟩]; rfl
  have hin : inn (sI (er T) 65 0 1) = xs.length := by
    unfold inn
    rw [sI_ne (by omega)]
    show (T.1 11 0).toNatClampNeg = _
    rw [h11, nc (by omega)]
  have h0 : Ck0 (sI (er T) 65 0 1) := by
    refine ⟨⟨?_, by omega, by omega⟩, ?_, ?_, by omega, ?_⟩
    · rw [cn1, rdI, if_pos ⟨rfl, rfl⟩]; rfl
    · intro p h1 h2
      rw [cn1] at h2
      omega
    · rw [hin, sI_ne (by omega)]; exact h11
    · intro t ht
      rw [hin] at ht
      rw [sI_ne (by omega)]
      exact h15 t ht
  have hI2 : HIs X (sI (er T) 65 0 1) xs 0 0 := by
    have key : ∀ (xs : List It) (t c : Nat), HIs X (er T) xs t c → HIs X (sI (er T) 65 0 1) xs t c := by
      intro xs
      induction xs with
      | nil => intro t c _; trivial
      | cons x xs ih =>
        intro t c h
        have aw : Aw (er T) (sI (er T) 65 0 1) := ⟨by unfold nU; rw [sI_ne (by omega)]; exact Nat.le_refl _, fun j _ => ⟨rfl, by rw [sI_ne (by omega)]⟩, by unfold nW; rw [sI_ne (by omega)]; exact Nat.le_refl _, fun g j a b _ => by rw [sI_ne (by omega)], fun j _ => rfl⟩
        refine ⟨⟨?_, ?_⟩, ih _ _ h.2⟩
        · obtain ⟨a1, a2, a3, a4, a5, a6, a7, a8, a9⟩ := h.1.1
          refine ⟨a1, ?_, ?_, a4, a5, ?_, a7, ?_, ?_⟩
          · rw [sI_ne (by omega)]; exact a2
          · rw [sI_ne (by omega)]; exact a3
          · intro k hk
            obtain ⟨b1, b2, w, b3, b4⟩ := a6 k hk
            exact ⟨b1, by rw [sI_ne (by omega)]; exact b2, w, by rw [sI_ne (by omega)]; exact b3, RepW.av 6 w _ aw.av b4⟩
          · unfold nU; rw [sI_ne (by omega)]; exact a8
          · unfold nW; rw [sI_ne (by omega)]; exact a9
        · obtain ⟨a1, a2, a3, a4, a5, a6, a7⟩ := h.1.2
          refine ⟨?_, ?_, a3, ?_, a5, ?_, a7⟩
          · unfold HR at a1 ⊢
            rw [sI_ne (by omega)]
            split
            · rename_i z; rw [if_pos z] at a1; exact a1
            · rename_i z
              rw [if_neg z] at a1
              obtain ⟨⟨w', a, b⟩, c⟩ := a1
              exact ⟨⟨w', a, RepW.av 6 _ _ aw.av b⟩, c⟩
          · rw [sI_ne (by omega)]; exact a2
          · rw [sI_ne (by omega)]; exact a4
          · rw [sI_ne (by omega)]; exact a6
    exact key _ _ _ hI
  have fh := FH.hds (X := X) xs 0 0 (sI (er T) 65 0 1)
  have c1 : cn (hdsL X xs 0 0 (sI (er T) 65 0 1)) < 6000 := FH.mn.lt (fh.tg h0.1) hc
  rw [e_Model_checkHeads]
  unfold rb_Model_checkHeads
  rw [stK]
  have go := l_hds (nf := nf) (d := d) (Q := fun _ _ T' => er T' = hdsS X xs (er T) ∧ An T T') hnf hP xs 0 0 nf (sI T 65 0 1) (by omega) (by rw [sI_ne (by omega), Nat.zero_add]; exact h11) (by omega) (by rw [eS]; exact hI2) (by rw [eS]; exact h0) (by rw [eS]; exact c1)
  rw [show nI 0 = (0 : Int32) from rfl] at go
  apply go
  intro T' e' a'
  rw [eS] at e'
  have e11 : T'.1 11 = T.1 11 := by
    have := fh.1 11 (by omega) (by omega) (by omega) (by omega) (by omega) (by omega)
    rw [← e', sI_ne (by omega)] at this
    exact this
  have i11 : inn T' = xs.length := by unfold inn; rw [e11, h11, nc (by omega)]
  refine wp_eq (x_mn (d := d + 11) (by omega) (by rw [i11, e11]; exact h11) (by omega)) ⟨?_, ((An.wr (by omega)).tr a').tr An.mn⟩
  rw [er_mnS, e']
  rfl
end HK
