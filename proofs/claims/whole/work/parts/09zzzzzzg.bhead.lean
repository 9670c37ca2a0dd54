/-! the end of a head, on both sides -/
/-- the reference's head of item t -/
def HeS (X : Lx) (S : gSt) (t c : Nat) (x : It) : Prop := match x with
  | (i, e, l, _, dt, n, wt, w, _) => S.1 12 t = (if xK X i = 10 then 0 else if xK X i = 11 then 1 else 2) ∧ S.1 14 t = nI (xP X (i + 1)) ∧ e ≤ 3 ∧ S.1 15 t = nI e ∧ (∀ k, k < e → entR X S t (i + 2) k) ∧ (∀ k, k < l.length → S.2 21 (c + k) = xN X (l.getD k 0)) ∧ (∀ k, k < n → entD X S t dt k) ∧ ∀ k, k < w → entW X S t wt k
/-- the class's -/
def HeT (X : Lx) (T : gSt) (t : Nat) (x : It) : Prop := match x with
  | (i, e, l, rt, dt, _, wt, _, _) => T.1 28 t = nI (xK X i) ∧ T.1 29 t = nI (i + 1) ∧ T.2 30 t = xN X (i + 1) ∧ T.1 31 t = nI e ∧ T.1 32 t = nI l.length ∧ l.length ≤ 8 ∧ RpL T t 0 l ∧ T.1 33 t = nI rt ∧ T.1 34 t = nI (dt - 1) ∧ T.1 35 t = nI (wt - 1)
/-- a head that has been checked -/
def HcR (X : Lx) (S T : gSt) (t c : Nat) (x : It) : Prop := match x with
  | (i, _, l, _, _, _, _, w, _) => (∀ q, q < l.length → ∃ y, T.1 44 (8 * t + q) = nI y ∧ y < 16387 ∧ TyR R0 S T 5 (S.1 24 (c + q)) y ∧ T.1 45 (8 * t + q) = (if xK X i = 11 then 1 else nI (plW T t q 0))) ∧ T.1 41 t = (if xK X i = 11 then 1 + nI (mxW T t l.length 0 0) else nI (plW T t l.length 0)) ∧ (xK X i = 12 → (∃ y, T.1 38 t = nI y ∧ y < 16387 ∧ TyR R0 S T 5 (S.1 26 t) y) ∧ T.1 39 t = S.1 30 t ∧ T.1 46 t = nI w ∧ T.1 40 t = wcT 3 1 (bwT S t w 0 0) ∧ ∀ q, q < w → PiR S T t q) ∧ (¬ xK X i = 12 → T.1 38 t = 0 ∧ T.1 46 t = 0)
section CHE
variable {S S' T T' T1 : gSt} {X : Lx} {nf d i k n m t e w dt wt c a b rt : Nat} {N : Nat → Int64} {l : List Nat} {x : It}
theorem TyF.st (h1 : S'.1 65 0 = S.1 65 0) (h2 : ∀ k, 66 ≤ k → k ≤ 70 → S'.1 k = S.1 k) (h3 : S'.1 15 = S.1 15) (h4 : T'.2 62 = T.2 62) (h5 : T'.2 63 0 = T.2 63 0) : TyF S S' T T' := ⟨by unfold cn; rw [h1]; exact Nat.le_refl _, fun p g _ _ a b => by rw [h2 g a b], h3, by unfold EW; rw [h5], fun q _ _ => by rw [h4]⟩
theorem plW_st (h : ∀ q, q < n → T'.1 44 (8 * t + q) = T.1 44 (8 * t + q) ∧ wdC T' (T.1 44 (8 * t + q)).toNatClampNeg = wdC T (T.1 44 (8 * t + q)).toNatClampNeg) : ∀ (m k : Nat), m + k ≤ n → plW T' t m k = plW T t m k := by
  intro m
  induction m with
  | zero => intro k _; rfl
  | succ m ih =>
    intro k hk
    have := h k (by omega)
    rw [plW, plW, this.1, this.2, ih (k + 1) (by omega)]
theorem mxW_st (h : ∀ q, q < n → T'.1 44 (8 * t + q) = T.1 44 (8 * t + q) ∧ wdC T' (T.1 44 (8 * t + q)).toNatClampNeg = wdC T (T.1 44 (8 * t + q)).toNatClampNeg) : ∀ (m k w : Nat), m + k ≤ n → mxW T' t m k w = mxW T t m k w := by
  intro m
  induction m with
  | zero => intro k w _; rfl
  | succ m ih =>
    intro k w hk
    have := h k (by omega)
    rw [mxW, mxW, this.1, this.2, ih (k + 1) _ (by omega)]
theorem roI_st {v : Int64} (h1 : S'.1 15 = S.1 15) (h2 : S'.2 16 = S.2 16) : roI S' t v = roI S t v := by
  unfold roI
  rw [h1, show isRi S' t v = isRi S t v by unfold isRi; rw [h2]]
theorem a_fin (hX : XO X) (hnf : 20 ≤ nf) (ht : t < 24) (hd : 6 ≤ d) (h34 : T.1 34 t = nI dt) (hdt : dt < 80000) (h35 : T.1 35 t = nI wt) (hwt : wt < 80000) (hT : TkC X T) (hR : WR T) (hW : WT T) : wp (bi (PP nf d 131 T [nI t] []) fun r23 l23 T23 => bi (PP nf d 132 T23 [nI t] []) fun r24 l24 T24 => some (0, 0, T24)) (fun _ _ T' => FwK t T T') := by
  refine wp_bi (a_dead (nf := nf) (d := d) hX hnf ht h34 hdt hT hR hW (by omega)) ?_
  intro _ _ T1 f1
  refine wp_bi (a_where (nf := nf) (d := d) hX hnf ht (by rw [f1.1 35 t (by omega) (by omega) (by omega) (by omega) (by omega)]; exact h35) hwt (hT.fk f1) (hR.fk f1) f1.2.2.1 (by omega)) ?_
  intro _ _ T2 f2
  exact wp_some (f1.tr f2)
theorem a_res (hX : XO X) (hnf : 16385 ≤ nf) (ht : t < 24) (hd : 60 ≤ d) (hT : TkC X T) (hI : WI T) (hR : WR T) (hW : WT T) (hH : WH X T t n) : wp (if (T.1 33 t) = (0 : Int32) then (stK (sI T 38 t (0 : Int32)) fun T22 => bi (PP nf d 131 T22 [nI t] []) fun r23 l23 T23 => bi (PP nf d 132 T23 [nI t] []) fun r24 l24 T24 => some (0, 0, T24)) else (bi (PP nf d 137 T [T.1 33 t, (1 : Int32)] []) fun r18 l18 T18 => stK (sI T18 38 t r18) fun T19 => bi (PP nf d 131 T19 [nI t] []) fun r20 l20 T20 => bi (PP nf d 132 T20 [nI t] []) fun r21 l21 T21 => some (0, 0, T21))) (fun _ _ T' => FhK t T T') := by
  obtain ⟨hP1, i, e, rt, dt, wt, h1, h2, h3, h4, h5, h6, h7, h9, h10, h11⟩ := hH
  have fin : ∀ (T2 : gSt) (y : Int32), FwH T T2 → wp (bi (PP nf d 131 (sI T2 38 t y) [nI t] []) fun r23 l23 T23 => bi (PP nf d 132 T23 [nI t] []) fun r24 l24 T24 => some (0, 0, T24)) (fun _ _ T' => FhK t T T') := by
    intro T2 y f2
    have w3 := f2.2.2.1.ag (T' := sI T2 38 t y) rfl (by rw [sI_ne (by omega)])
    have f3 : FhK t T2 (sI T2 38 t y) := ⟨fun k j _ _ _ _ _ _ _ c _ _ _ => by rw [rdI, if_neg (fun w => by omega)], fun _ _ _ _ _ => rfl, w3.1, w3.2, fun _ => ⟨by rw [sI_ne (by omega)], by rw [sI_ne (by omega)]⟩⟩
    have k3 : FhK t T (sI T2 38 t y) := f2.hk.tr f3
    have r3 : WR (sI T2 38 t y) := by
      obtain ⟨a, b, c⟩ := hR.fh f2
      exact ⟨a, by rw [sI_ne (by omega)]; exact b, c⟩
    refine wp_mono (a_fin (nf := nf) (d := d) (dt := dt) (wt := wt) hX (by omega) ht (by omega) (by rw [sI_ne (by omega), f2.1 34 (by omega) (by omega)]; exact h7) h9 (by rw [sI_ne (by omega), f2.1 35 (by omega) (by omega)]; exact h10) h11 (hT.hk k3) r3 w3.1) ?_
    intro _ _ T4 f4
    exact k3.tr f4.hk
  split
  · rw [stK]
    exact fin T 0 (FwH.rf hW)
  · rw [h5]
    obtain ⟨y, T2, y1, y2, y3⟩ := a_type (nf := nf) hX hnf 6 1 rt d T (by omega) (by omega) hT hI hR hW (by omega) (by omega)
    rw [show PP nf d 137 T [nI rt, 1] [] = _ from y1, bis, stK]
    exact fin T2 (nI y) y3
/-- dead and where -/
def DwQ (S S' T : gSt) (t w : Nat) (T' : gSt) : Prop := (S'.1 7 0 = 0 ∧ T'.1 53 0 = 0 ∧ T'.2 = T.2 ∧ T'.1 39 t = S'.1 30 t ∧ T'.1 46 t = nI w ∧ T'.1 40 t = wcT 3 1 (bwT S' t w 0 0) ∧ (∀ q, q < w → PiR S' T' t q) ∧ (∀ g j, ¬ (39 ≤ g ∧ g ≤ 40 ∧ j = t) → ¬ (g = 46 ∧ j = t) → ¬ (g = 47 ∧ 3 * t ≤ j ∧ j < 3 * t + 3) → T'.1 g j = T.1 g j) ∧ (∀ k j, ¬ (k = 30 ∧ j = t) → S'.1 k j = S.1 k j) ∧ S'.2 = S.2) ∨ BfR S' T'
theorem b_dwh (hX : XO X) (hnf : 20 ≤ nf) (ht : t < 24) (hd : 6 ≤ d) (h34 : T.1 34 t = nI (dt - 1)) (hdt : dt < 70000) (h35 : T.1 35 t = nI (wt - 1)) (hwt : wt < 70000) (hg : dt = 0 ∧ n = 0 ∨ 2 ≤ dt ∧ n = rgs (xK X) 3 dt) (hg2 : wt = 0 ∧ w = 0 ∨ 2 ≤ wt ∧ 1 ≤ w ∧ w ≤ 3) (hT : TkC X T) (hR : WR T) (hW : WT T) (hO : OwR S T t e N) (hD : DdR X S t dt n) (hD2 : WhR X S t wt w) (hs : S.1 7 0 = 0) (h53 : T.1 53 0 = 0) (h30 : S.1 30 t = 0) : wp (bi (PP nf d 131 T [nI t] []) fun r23 l23 T23 => bi (PP nf d 132 T23 [nI t] []) fun r24 l24 T24 => some (0, 0, T24)) (fun _ _ T' => DwQ S (whL t (2 * w) 0 (deL t n 0 S)) T t w T') := by
  refine wp_bi (b_dead (nf := nf) (d := d) hX hnf ht (by omega) h34 hdt hg hT hR hW hO hD hs h53 h30) ?_
  intro _ _ T1 ⟨f1, h1⟩
  have h35' : T1.1 35 t = nI (wt - 1) := by rw [f1.1 35 t (by omega) (by omega) (by omega) (by omega) (by omega)]; exact h35
  rcases h1 with ⟨a1, a2, a3, a4, a5, a6, a7⟩ | hB
  · have e15 : (deL t n 0 S).1 15 = S.1 15 := funext fun j => a6 15 j (by omega)
    have O1 : OwR (deL t n 0 S) T1 t e N := hO.st e15 (by rw [a7]) (a4 72 0 (by omega)) (fun j => by rw [a5])
    have D1 : WhR X (deL t n 0 S) t wt w := fun k hk => by
      obtain ⟨b1, b2, b3, b4, b5⟩ := hD2 k hk
      exact ⟨by rw [a7]; exact b1, by rw [a6 33 _ (by omega)]; exact b2, by rw [a7]; exact b3, by rw [a6 33 _ (by omega)]; exact b4, b5⟩
    refine wp_bi (b_where (nf := nf) (d := d) hX hnf ht hd h35' hwt hg2 (hT.fk f1) (hR.fk f1) f1.2.2.1 O1 D1 a1 a2) ?_
    intro _ _ T2 ⟨f2, h2⟩
    refine wp_some ?_
    rcases h2 with ⟨b1, b2, b3, b4, b5, b6, b7⟩ | hB
    · refine Or.inl ?_
      rw [b1]
      exact ⟨a1, b2, b3.trans a5, by rw [b7 39 t (by omega) (by omega) (by omega)]; exact a3, b4, b5, b6, fun g j x y z => (b7 g j (by omega) y z).trans (a4 g j (by omega)), a6, a7⟩
    · exact Or.inr hB
  · refine wp_bi (a_where (nf := nf) (d := d) hX hnf ht h35' (by omega) (hT.fk f1) (hR.fk f1) f1.2.2.1 (by omega)) ?_
    intro _ _ T2 f2
    refine wp_some (Or.inr ?_)
    rw [wh_bad _ _ _ hB.1]
    have := f2.2.2.2.2 (by rw [hB.2.1]; exact hB.1)
    exact ⟨hB.1, this.1.trans hB.2.1, this.2.trans hB.2.2⟩
end CHE
