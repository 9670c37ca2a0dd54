/-! the class checks a head, whatever there is -/
/-- what the check of head t leaves as it was -/
def FhK (t : Nat) (T T' : gSt) : Prop := (∀ k j, k ≠ 53 → k ≠ 54 → k ≠ 67 → k ≠ 68 → k ≠ 72 → k ≠ 75 → k ≠ 76 → ¬ (38 ≤ k ∧ k ≤ 41 ∧ j = t) → ¬ ((k = 44 ∨ k = 45) ∧ 8 * t ≤ j ∧ j < 8 * t + 8) → ¬ (k = 46 ∧ j = t) → ¬ (k = 47 ∧ 3 * t ≤ j ∧ j < 3 * t + 3) → T'.1 k j = T.1 k j) ∧ (∀ q j, q ≠ 62 → q ≠ 73 → q ≠ 77 → T'.2 q j = T.2 q j) ∧ WT T' ∧ (∀ y, tyY T y → tyY T' y) ∧ (¬ T.1 53 0 = 0 → T'.1 53 0 = T.1 53 0 ∧ T'.1 54 0 = T.1 54 0)
/-- item t's head as it may be -/
def WH (X : Lx) (T : gSt) (t n : Nat) : Prop := WP X T t n ∧ ∃ i e rt dt wt, T.1 29 t = nI i ∧ T.1 31 t = nI e ∧ e ≤ 3 ∧ i + e < xn X ∧ T.1 33 t = nI rt ∧ rt < 80000 ∧ T.1 34 t = nI dt ∧ dt < 80000 ∧ T.1 35 t = nI wt ∧ wt < 80000
section CHA
variable {T T' T1 : gSt} {X : Lx} {nf d i k n m t e : Nat} {x : Int32}
theorem WT.ag2 (hW : WT T) (h : T'.2 62 = T.2 62) (h2 : T'.2 63 0 = T.2 63 0) (h27 : T'.1 27 0 = T.1 27 0) : WT T' ∧ ∀ y, tyY T y → tyY T' y := by
  have e1 : SW T' = SW T := SW_2 h
  have e2 : EW T' = EW T := by unfold EW; rw [h2]
  have l : ∀ s, lvK T' s = lvK T s := fun s => by unfold lvK; rw [e1, e2]
  have ty : ∀ y, tyY T' y = tyY T y := fun y => by unfold tyY; rw [l]
  refine ⟨⟨?_, ?_⟩, fun y hy => by rw [ty]; exact hy⟩
  · have := hW.1
    unfold TyI at this ⊢
    rw [e2]
    refine ⟨this.1, fun s hs hl => ?_, fun s hs => by rw [e1]; exact this.2.2 s hs⟩
    rw [e1]
    obtain ⟨i, h1, h2, h3⟩ := this.2.1 s hs (by rw [← l]; exact hl)
    exact ⟨i, h1, h2, fun j hj => by rw [l]; exact h3 j hj⟩
  · intro s hs hl
    rw [e1]
    have := hW.2 s hs (by rw [← l]; exact hl)
    unfold kyV itN at this ⊢
    simp only [ty, h27]
    exact this
theorem FhK.tr (h : FhK t T T1) (h2 : FhK t T1 T') : FhK t T T' := ⟨fun k j a b c d e f g l m n o => (h2.1 k j a b c d e f g l m n o).trans (h.1 k j a b c d e f g l m n o), fun q j a b c => (h2.2.1 q j a b c).trans (h.2.1 q j a b c), h2.2.2.1, fun y a => h2.2.2.2.1 y (h.2.2.2.1 y a), fun w => by
  have a := h.2.2.2.2 w
  have b := h2.2.2.2.2 (by rw [a.1]; exact w)
  exact ⟨b.1.trans a.1, b.2.trans a.2⟩⟩
theorem FwK.hk (h : FwK t T T') : FhK t T T' := ⟨fun k j a b _ _ _ _ _ c _ e f => h.1 k j a b (by omega) e f, fun q j a _ _ => h.2.1 q j a, h.2.2.1, h.2.2.2.1, h.2.2.2.2⟩
theorem FwP.hk (h : FwP t T T') : FhK t T T' := ⟨fun k j a b _ _ _ _ _ c d _ _ => h.1 k j a b (by omega) d, fun q j a _ _ => h.2.1 q j a, h.2.2.1, h.2.2.2.1, h.2.2.2.2⟩
theorem FwH.hk (h : FwH T T') : FhK t T T' := (h.fk (t := t)).hk
theorem TkC.hk (h : TkC X T) (hF : FhK t T T') : TkC X T' := by
  have o := fun k j h1 h2 h3 h4 h5 => hF.1 k j h1 h2 h3 h4 h5
  unfold TkC at h ⊢
  rw [o 25 0 (by omega) (by omega) (by omega) (by omega) (by omega) (by omega) (by omega) (by omega) (by omega) (by omega) (by omega), o 21 0 (by omega) (by omega) (by omega) (by omega) (by omega) (by omega) (by omega) (by omega) (by omega) (by omega) (by omega)]
  refine ⟨h.1, h.2.1, fun j hj => ?_⟩
  rw [o 22 j (by omega) (by omega) (by omega) (by omega) (by omega) (by omega) (by omega) (by omega) (by omega) (by omega) (by omega), o 23 j (by omega) (by omega) (by omega) (by omega) (by omega) (by omega) (by omega) (by omega) (by omega) (by omega) (by omega), hF.2.1 24 j (by omega) (by omega) (by omega)]
  exact h.2.2 j hj
theorem WH.hk {s : Nat} (h : WH X T s n) (hF : FhK t T T') : WH X T' s n := by
  have o : ∀ k j, (27 ≤ k ∧ k ≤ 37) ∨ k = 43 → T'.1 k j = T.1 k j := fun k j hk => hF.1 k j (by omega) (by omega) (by omega) (by omega) (by omega) (by omega) (by omega) (by omega) (by omega) (by omega) (by omega)
  obtain ⟨⟨a, b, c⟩, i, e, rt, dt, wt, h1, h2, h3, h4, h5, h6, h7, h8, h9⟩ := h
  exact ⟨⟨by rw [o 32 s (by omega)]; exact a, b, fun k hk => by rw [o 43 _ (by omega)]; exact c k hk⟩, i, e, rt, dt, wt, by rw [o 29 s (by omega)]; exact h1, by rw [o 31 s (by omega)]; exact h2, h3, h4, by rw [o 33 s (by omega)]; exact h5, h6, by rw [o 34 s (by omega)]; exact h7, h8, by rw [o 35 s (by omega)]; exact h9.1, h9.2⟩
theorem WI.hk (h : WI T) (hF : FhK t T T') : WI T' := by
  obtain ⟨n, a, b⟩ := h
  exact ⟨n, by rw [hF.1 27 0 (by omega) (by omega) (by omega) (by omega) (by omega) (by omega) (by omega) (by omega) (by omega) (by omega) (by omega)]; exact a, b⟩
/-- the end of a head: fields, result, dead, where -/
theorem a_htl (hX : XO X) (hnf : 16385 ≤ nf) (ht : t < 24) (hd : 60 ≤ d) (hT : TkC X T) (hI : WI T) (hR : WR T) (hW : WT T) (hH : WH X T t n) : wp (bi (PP nf d 129 T [nI t] []) fun r14 l14 T14 => if (T14.1 33 t) = (0 : Int32) then (stK (sI T14 38 t (0 : Int32)) fun T22 => bi (PP nf d 131 T22 [nI t] []) fun r23 l23 T23 => bi (PP nf d 132 T23 [nI t] []) fun r24 l24 T24 => some (0, 0, T24)) else (bi (PP nf d 137 T14 [T14.1 33 t, (1 : Int32)] []) fun r18 l18 T18 => stK (sI T18 38 t r18) fun T19 => bi (PP nf d 131 T19 [nI t] []) fun r20 l20 T20 => bi (PP nf d 132 T20 [nI t] []) fun r21 l21 T21 => some (0, 0, T21))) (fun _ _ T' => FhK t T T' ∧ (∀ q, q < n → ∃ y, T'.1 44 (8 * t + q) = nI y ∧ tyY T' y) ∧ ∃ y, T'.1 38 t = nI y ∧ tyY T' y) := by
  have hP := hH.1
  have h8 := hP.2.1
  refine wp_bi (a_parts hX hnf ht (by omega) hT hI hR hW hP) ?_
  intro _ _ T1 ⟨f1, v1⟩
  have k1 : FhK t T T1 := f1.hk
  have hH1 := hH.hk k1
  obtain ⟨hP1, i, e, rt, dt, wt, h1, h2, h3, h4, h5, h6, h7, h9, h10, h11⟩ := hH1
  -- dead and where
  have fin : ∀ (T2 : gSt) (y : Nat), FwH T1 T2 → tyY T2 y → wp (bi (PP nf d 131 (sI T2 38 t (nI y)) [nI t] []) fun r23 l23 T23 => bi (PP nf d 132 T23 [nI t] []) fun r24 l24 T24 => some (0, 0, T24)) (fun _ _ T' => FhK t T T' ∧ (∀ q, q < n → ∃ y, T'.1 44 (8 * t + q) = nI y ∧ tyY T' y) ∧ ∃ y, T'.1 38 t = nI y ∧ tyY T' y) := by
    intro T2 y f2 hy
    have w3 := f2.2.2.1.ag (T' := sI T2 38 t (nI y)) rfl (by rw [sI_ne (by omega)])
    have f3 : FhK t T2 (sI T2 38 t (nI y)) := ⟨fun k j _ _ _ _ _ _ _ c _ _ _ => by rw [rdI, if_neg (fun w => by omega)], fun _ _ _ _ _ => rfl, w3.1, w3.2, fun _ => ⟨by rw [sI_ne (by omega)], by rw [sI_ne (by omega)]⟩⟩
    have o3 : ∀ k j, k ≠ 38 → (sI T2 38 t (nI y)).1 k j = T2.1 k j := fun k j h => by rw [sI_ne h]
    have v3 : (sI T2 38 t (nI y)).1 38 t = nI y := sI_v
    generalize sI T2 38 t (nI y) = T3 at *
    have k3 : FhK t T T3 := (k1.tr f2.hk).tr f3
    have r3 : WR T3 := by
      obtain ⟨a, b, c⟩ := (hR.fp f1).fh f2
      exact ⟨a, by rw [o3 72 0 (by omega)]; exact b, c⟩
    refine wp_bi (a_dead (nf := nf) (d := d) (i := dt) hX (by omega) ht (by rw [o3 34 t (by omega), f2.1 34 (by omega) (by omega)]; exact h7) h9 (hT.hk k3) r3 k3.2.2.1 (by omega)) ?_
    intro _ _ T4 f4
    refine wp_bi (a_where (nf := nf) (d := d) (i := wt) hX (by omega) ht (by rw [f4.1 35 t (by omega) (by omega) (by omega) (by omega) (by omega), o3 35 t (by omega), f2.1 35 (by omega) (by omega)]; exact h10) h11 ((hT.hk k3).fk f4) (r3.fk f4) f4.2.2.1 (by omega)) ?_
    intro _ _ T5 f5
    have f45 : FwK t T3 T5 := f4.tr f5
    refine wp_some ⟨k3.tr f45.hk, fun q hq => ?_, y, ?_, ?_⟩
    · obtain ⟨z, z1, z2⟩ := v1 q hq
      refine ⟨z, ?_, f45.2.2.2.1 _ (w3.2 _ (f2.2.2.2.1 _ z2) |> fun h => f3.2.2.2.1 _ (f2.2.2.2.1 _ z2))⟩
      rw [f45.1 44 _ (by omega) (by omega) (by omega) (by omega) (by omega), o3 44 _ (by omega), f2.1 44 (by omega) (by omega)]
      exact z1
    · rw [f45.1 38 t (by omega) (by omega) (by omega) (by omega) (by omega)]
      exact v3
    · exact f45.2.2.2.1 _ (f3.2.2.2.1 _ hy)
  split
  · rw [stK]
    exact fin T1 0 (FwH.rf f1.2.2.1) (Or.inl (by omega))
  · rw [h5]
    obtain ⟨y, T2, y1, y2, y3⟩ := a_type (nf := nf) hX hnf 6 1 rt d T1 (by omega) (by omega) (hT.fp f1) (hI.fp f1) (hR.fp f1) f1.2.2.1 (by omega) (by omega)
    rw [show PP nf d 137 T1 [nI rt, 1] [] = _ from y1, bis, stK]
    exact fin T2 y y3 y2
end CHA
