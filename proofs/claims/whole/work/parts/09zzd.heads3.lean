/-! heads: the fields of an item -/
/-- what heads leave as it was -/
def FH (T T' : gSt) : Prop := (∀ k, k < 65 → k ≠ 7 → k ≠ 8 → k ≠ 24 → k ≠ 26 → k ≠ 30 → T'.1 k = T.1 k) ∧ (∀ k, k < 72 → T'.2 k = T.2 k) ∧ Trw T T' ∧ (¬ T.1 7 0 = 0 → ¬ T'.1 7 0 = 0)
/-- the notes at nodes stay -/
def An (T T' : gSt) : Prop := T'.1 60 = T.1 60 ∧ T'.1 61 = T.1 61 ∧ T'.1 94 0 = T.1 94 0
def fdN (c n : Nat) (w : Int64) (j : Nat) (p : Int32) (T : gSt) : gSt := if ff (isFi T c w) 0 n = nI j then T else flT T 2 p
def fdS (X : Lx) (c n tk j : Nat) (T : gSt) : gSt := sI (meX X 6 (fdN c n (xN X tk) j (nI (xP X tk)) T) (tk + 2)).2 24 (c + j) (meX X 6 (fdN c n (xN X tk) j (nI (xP X tk)) T) (tk + 2)).1
def fdL (X : Lx) (c : Nat) (l : List Nat) : Nat → Nat → gSt → gSt
  | 0, _, T => T
  | k + 1, j, T => if T.1 7 0 = 0 then fdL X c l k (j + 1) (fdS X c l.length (l.getD j 0) j T) else T
section HF
variable {nf d : Nat} {T T' T1 S S' : gSt} {X : Lx} {it r k j c n tk w i f : Nat} {l : List Nat} {x y : Int32} {Q : Int32 → Int64 → gSt → Prop}
theorem FH.rf : FH T T := ⟨fun _ _ _ _ _ _ _ => rfl, fun _ _ => rfl, Trw.rf, fun h => h⟩
theorem FH.tr (h : FH T T') (h2 : FH T' T1) : FH T T1 := ⟨fun k a b c d e f => (h2.1 k a b c d e f).trans (h.1 k a b c d e f), fun k a => (h2.2.1 k a).trans (h.2.1 k a), h.2.2.1.tr h2.2.2.1, fun q => h2.2.2.2 (h.2.2.2 q)⟩
theorem FH.wr (h : k = 24 ∨ k = 26 ∨ k = 30 ∨ (71 ≤ k ∧ k ≤ 92)) : FH T (sI T k j x) := ⟨fun g a _ _ b c d => sI_ne (by omega), fun _ _ => rfl, Trw.wr (by omega), fun q => by rw [sI_ne (by omega)]; exact q⟩
theorem FH.wj {v : Int64} (h : 72 ≤ k) : FH T (sJ T k j v) := ⟨fun g _ _ _ _ _ _ => rfl, fun g a => sJ_ne (by omega), Trw.rf, fun q => q⟩
theorem FH.fe (h : FE T T') : FH T T' := ⟨fun k a b c _ _ _ => h.1 k (by omega), fun k _ => by rw [h.2.1], h.2.2.1, h.2.2.2⟩
theorem FH.fl (h : ¬ x = 0) : FH T (flT T x y) := FH.fe (FE.fl h)
theorem FH.sgl : ∀ (k j : Nat) (T : gSt), FH T (sgL it k j T) := by
  intro k
  induction k with
  | zero => intro j T; exact FH.rf
  | succ k ih =>
    intro j T
    rw [sgL]
    refine FH.tr ?_ (ih _ _)
    exact (FH.wj (by omega)).tr ((FH.wr (by omega)).tr (FH.wr (by omega)))
theorem FH.sg : FH T (sgS it T) := (FH.wr (by omega)).tr (FH.sgl _ _ _)
theorem FH.dr : ∀ (k j : Nat) (T : gSt), FH T (drL it k j T) := by
  intro k
  induction k with
  | zero => intro j T; exact FH.rf
  | succ k ih =>
    intro j T
    rw [drL]
    split
    · refine FH.tr ?_ (ih _ _)
      unfold drS
      generalize dpR T it j j 0 (if T.2 16 (3 * it + j) = 72 then 1 else 0) = z
      split
      · exact FH.rf
      · exact FH.fl (by decide)
    · exact FH.rf
theorem FH.fdn {v : Int64} : FH T (fdN c n v j x T) := by
  unfold fdN
  split
  · exact FH.rf
  · exact FH.fl (by decide)
theorem FH.fds : FH T (fdS X c n tk j T) := (FH.fdn.tr (FH.fe (FE.me _ _ _))).tr (FH.wr (by omega))
theorem FH.fd : ∀ (k j : Nat) (T : gSt), FH T (fdL X c l k j T) := by
  intro k
  induction k with
  | zero => intro j T; exact FH.rf
  | succ k ih =>
    intro j T
    rw [fdL]
    split
    · exact FH.fds.tr (ih _ _)
    · exact FH.rf
theorem FH.lt (h : FH T T') (g : Tg T) (c : cn T' < 6000) : cn T < 6000 := Nat.lt_of_le_of_lt (h.2.2.1 g).2.1 c
theorem FH.tg (h : FH T T') (g : Tg T) : Tg T' := (h.2.2.1 g).1
theorem FH.aw (h : FH T T') : Aw T T' := ⟨by unfold nU; rw [h.1 45 (by omega) (by omega) (by omega) (by omega) (by omega) (by omega)]; exact Nat.le_refl _, fun j _ => ⟨by rw [h.2.1 46 (by omega)], by rw [h.1 47 (by omega) (by omega) (by omega) (by omega) (by omega) (by omega)]⟩, by unfold nW; rw [h.1 37 (by omega) (by omega) (by omega) (by omega) (by omega) (by omega)]; exact Nat.le_refl _, fun g j a b _ => by rw [h.1 g (by omega) (by omega) (by omega) (by omega) (by omega) (by omega)], fun j _ => by rw [h.2.1 41 (by omega)]⟩
theorem er_aw : Aw (er T) T := ⟨Nat.le_refl _, fun j _ => ⟨rfl, rfl⟩, Nat.le_refl _, fun g j a b _ => by rw [er_i (by unfold anF; simp; omega)], fun j _ => rfl⟩
theorem An.rf : An T T := ⟨rfl, rfl, rfl⟩
theorem An.tr (h : An T T') (h2 : An T' T1) : An T T1 := ⟨h2.1.trans h.1, h2.2.1.trans h.2.1, h2.2.2.trans h.2.2⟩
theorem An.fm {a b : Nat} (h : Fm X T T' 0 0 a b) : An T T' := ⟨funext fun q => (h.1 q (by omega)).1, funext fun q => (h.1 q (by omega)).2, h.2.2.2⟩
theorem An.wr (h : k ≠ 60 ∧ k ≠ 61 ∧ k ≠ 94) : An T (sI T k j x) := ⟨sI_ne (by omega), sI_ne (by omega), by rw [sI_ne (by omega)]⟩
theorem An.fl : An T (flT T x y) := ⟨flT_o (by omega) (by omega), flT_o (by omega) (by omega), by rw [flT_o (by omega) (by omega)]⟩
theorem An.wj {v : Int64} : An T (sJ T k j v) := ⟨rfl, rfl, rfl⟩
theorem An.sgl : ∀ (k j : Nat) (T : gSt), An T (sgL it k j T) := fun k j T => ⟨sgL_o 60 (by omega) (by omega) k j T, sgL_o 61 (by omega) (by omega) k j T, by rw [sgL_o 94 (by omega) (by omega) k j T]⟩
theorem An.sg : An T (sgS it T) := (An.wr (by omega)).tr (An.sgl _ _ _)
theorem An.dr : An T (drL it k j T) := ⟨drL_o 60 (by omega) (by omega) k j T, drL_o 61 (by omega) (by omega) k j T, by rw [drL_o 94 (by omega) (by omega) k j T]⟩
theorem RepFs.fh (h : RepFs X T c l) (hF : FH T T') : RepFs X T' c l := by
  intro k hk
  obtain ⟨a1, a2, w, a3, a4⟩ := h k hk
  exact ⟨by rw [hF.2.1 21 (by omega)]; exact a1, by rw [hF.1 22 (by omega) (by omega) (by omega) (by omega) (by omega) (by omega)]; exact a2, w, by rw [hF.1 23 (by omega) (by omega) (by omega) (by omega) (by omega) (by omega)]; exact a3, RepW.av 6 w _ hF.aw.av a4⟩
theorem Ckm.wr (h : Ckm T) (hk : k = 24 ∨ k = 26 ∨ k = 30 ∨ 74 ≤ k) : Ckm (sI T k j x) := by
  obtain ⟨a1, a2, ⟨a3, a4⟩, a5, a6, a7⟩ := h
  have hi : inn (sI T k j x) = inn T := by unfold inn; rw [sI_ne (by omega)]
  have hr : rn (sI T k j x) = rn T := by unfold rn; rw [sI_ne (by omega)]
  refine ⟨(Trw.wr (by omega) a1).1, a2.wr (by omega) (by omega), ⟨⟨?_, ?_⟩, ?_⟩, ?_, ?_, ?_⟩
  · rw [hr, sI_ne (by omega)]; exact a3.1
  · rw [hr]; exact a3.2
  · intro k hk
    rw [hr] at hk
    rw [sI_ne (by omega)]
    exact a4 k hk
  · rw [hi, sI_ne (by omega)]; exact a5
  · rw [hi]; exact a6
  · intro t ht
    rw [hi] at ht
    rw [sI_ne (by omega)]
    exact a7 t ht
theorem Ckm.fdn {v : Int64} (h : Ckm T) : Ckm (fdN c n v j x T) := by
  unfold fdN
  split
  · exact h
  · exact h.fl (by decide)
/-- the fields of item it, that start at c, hold tokens l -/
def HY (X : Lx) (S : gSt) (it c : Nat) (l : List Nat) : Prop := it < 24 ∧ S.1 18 it = nI c ∧ S.1 19 it = nI l.length ∧ l.length ≤ 8 ∧ c + l.length ≤ 220 ∧ RepFs X S c l ∧ (∀ j, j < l.length → tyW X 6 (l.getD j 0 + 2) ∧ tyE X 6 (l.getD j 0 + 2) ≤ xn X) ∧ nU S ≤ 4000 ∧ nW S ≤ 4000
theorem HY.fh (h : HY X T it c l) (hF : FH T T') : HY X T' it c l := by
  obtain ⟨a1, a2, a3, a4, a5, a6, a7, a8, a9⟩ := h
  refine ⟨a1, ?_, ?_, a4, a5, a6.fh hF, a7, ?_, ?_⟩
  · rw [hF.1 18 (by omega) (by omega) (by omega) (by omega) (by omega) (by omega)]; exact a2
  · rw [hF.1 19 (by omega) (by omega) (by omega) (by omega) (by omega) (by omega)]; exact a3
  · unfold nU; rw [hF.1 45 (by omega) (by omega) (by omega) (by omega) (by omega) (by omega)]; exact a8
  · unfold nW; rw [hF.1 37 (by omega) (by omega) (by omega) (by omega) (by omega) (by omega)]; exact a9
end HF
