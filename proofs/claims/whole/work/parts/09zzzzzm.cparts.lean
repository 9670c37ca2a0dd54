/-! the class checks fields and parameters, whatever there is -/
/-- what the check of item t's parts leaves as it was -/
def FwP (t : Nat) (T T' : gSt) : Prop := (∀ k j, k ≠ 53 → k ≠ 54 → ¬ (k = 41 ∧ j = t) → ¬ ((k = 44 ∨ k = 45) ∧ 8 * t ≤ j ∧ j < 8 * t + 8) → T'.1 k j = T.1 k j) ∧ (∀ q j, q ≠ 62 → T'.2 q j = T.2 q j) ∧ WT T' ∧ (∀ y, tyY T y → tyY T' y) ∧ (¬ T.1 53 0 = 0 → T'.1 53 0 = T.1 53 0 ∧ T'.1 54 0 = T.1 54 0)
section CPP
variable {T T' T1 : gSt} {X : Lx} {nf d i k n m t : Nat} {x y : Int32} {nm : Int64}
theorem FwP.tr (h : FwP t T T1) (h2 : FwP t T1 T') : FwP t T T' := ⟨fun k j a b c d => (h2.1 k j a b c d).trans (h.1 k j a b c d), fun q j a => (h2.2.1 q j a).trans (h.2.1 q j a), h2.2.2.1, fun y a => h2.2.2.2.1 y (h.2.2.2.1 y a), fun w => by
  have a := h.2.2.2.2 w
  have b := h2.2.2.2.2 (by rw [a.1]; exact w)
  exact ⟨b.1.trans a.1, b.2.trans a.2⟩⟩
theorem FwH.fp (h : FwH T T') : FwP t T T' := ⟨fun k j a b _ _ => by rw [h.1 k a b], h.2.1, h.2.2.1, h.2.2.2.1, h.2.2.2.2⟩
theorem FwP.wr (hW : WT T) (hk : (k = 41 ∧ n = t) ∨ ((k = 44 ∨ k = 45) ∧ 8 * t ≤ n ∧ n < 8 * t + 8)) : FwP t T (sI T k n x) := by
  have a := hW.ag (T' := sI T k n x) rfl (by rw [sI_ne (by omega)])
  exact ⟨fun g j a b c d => by rw [rdI, if_neg (fun w => by omega)], fun q j _ => rfl, a.1, a.2, fun _ => ⟨by rw [sI_ne (by omega)], by rw [sI_ne (by omega)]⟩⟩
theorem TkC.fp (h : TkC X T) (hF : FwP t T T') : TkC X T' := by
  unfold TkC at h ⊢
  rw [hF.1 25 0 (by omega) (by omega) (by omega) (by omega), hF.1 21 0 (by omega) (by omega) (by omega) (by omega)]
  refine ⟨h.1, h.2.1, fun j hj => ?_⟩
  rw [hF.1 22 j (by omega) (by omega) (by omega) (by omega), hF.1 23 j (by omega) (by omega) (by omega) (by omega), hF.2.1 24 j (by omega)]
  exact h.2.2 j hj
theorem WI.fp (h : WI T) (hF : FwP t T T') : WI T' := by
  obtain ⟨n, a, b⟩ := h
  exact ⟨n, by rw [hF.1 27 0 (by omega) (by omega) (by omega) (by omega)]; exact a, b⟩
theorem WR.fp (h : WR T) (hF : FwP t T T') : WR T' := by
  obtain ⟨n, a, b⟩ := h
  exact ⟨n, by rw [hF.1 72 0 (by omega) (by omega) (by omega) (by omega)]; exact a, b⟩
theorem WP.fp {s : Nat} (h : WP X T s n) (hF : FwP t T T') : WP X T' s n := by
  obtain ⟨a, b, c⟩ := h
  exact ⟨by rw [hF.1 32 s (by omega) (by omega) (by omega) (by omega)]; exact a, b, fun k hk => by rw [hF.1 43 _ (by omega) (by omega) (by omega) (by omega)]; exact c k hk⟩
/-- the loop over an item's parts -/
theorem a_pl (hX : XO X) (hnf : 16385 ≤ nf) (ht : t < 24) (hd : 40 ≤ d) : ∀ (m k fl : Nat) (T : gSt) (x2 x3 x4 : Int32), m + k = n → m < fl → TkC X T → WI T → WR T → WT T → WP X T t n → wp (rl_Heads_checkParts_28 (PP nf d) nf fl T (nI t) x2 x3 x4 (nI k)) (fun _ _ T' => FwP t T T' ∧ (∀ q, q < k → T'.1 44 (8 * t + q) = T.1 44 (8 * t + q)) ∧ ∀ q, k ≤ q → q < n → ∃ y, T'.1 44 (8 * t + q) = nI y ∧ tyY T' y) := by
  have hxn := hX.1
  have ct : (nI t).toNatClampNeg = t := nc (by omega)
  have zt : inb (nI t) 24 := nin ht (by omega)
  intro m
  induction m with
  | zero =>
    intro k fl T x2 x3 x4 e1 e2 hT hI hR hW hP
    obtain ⟨fl, rfl⟩ : ∃ g, fl = g + 1 := ⟨fl - 1, by omega⟩
    have := hP.2.1
    rw [rl_Heads_checkParts_28]
    simp only [gd, if_pos zt, ct, hP.1]
    rw [if_pos (show nI n ≤ nI k from (nI_leI (by omega) (by omega)).mpr (by omega))]
    split
    · rw [stK]
      exact wp_some ⟨FwP.wr hW (Or.inl ⟨rfl, rfl⟩), fun q _ => by rw [sI_ne (by omega)], fun q a b => by omega⟩
    · rw [stK]
      exact wp_some ⟨FwP.wr hW (Or.inl ⟨rfl, rfl⟩), fun q _ => by rw [sI_ne (by omega)], fun q a b => by omega⟩
  | succ m ih =>
    intro k fl T x2 x3 x4 e1 e2 hT hI hR hW hP
    obtain ⟨fl, rfl⟩ : ∃ g, fl = g + 1 := ⟨fl - 1, by omega⟩
    have hn8 := hP.2.1
    obtain ⟨j, j1, j2⟩ := hP.2.2 k (by omega)
    obtain ⟨d1, hd1⟩ : ∃ g, d = g + 1 := ⟨d - 1, by omega⟩
    have nmA : PP nf d 27 T [nI j] [] = some (0, xN X j, T) := by rw [hd1]; exact c_name hX hT j2
    have stA : PP nf d 26 T [nI j] [] = some (nI (xP X j), 0, T) := by rw [hd1]; exact c_start hX hT (by omega)
    rw [rl_Heads_checkParts_28]
    simp only [gd, if_pos zt, ct, hP.1]
    rw [if_neg (fun w => by
      have := (nI_leI (by omega) (by omega)).mp w
      omega), c_tokOf ht (by omega) (by omega), bis, j1, nmA, bis, c_findPart hX (by omega) hT ht hP (by omega), bis]
    have go : ∀ T1, FwP t T T1 → (∀ q, T1.1 44 q = T.1 44 q) → wp (rj_Heads_checkParts_90 (PP nf d) nf (rl_Heads_checkParts_28 (PP nf d) nf fl) T1 (nI t) x2 x3 x4 (nI k) (nI j)) (fun _ _ T' => FwP t T T' ∧ (∀ q, q < k → T'.1 44 (8 * t + q) = T.1 44 (8 * t + q)) ∧ ∀ q, k ≤ q → q < n → ∃ y, T'.1 44 (8 * t + q) = nI y ∧ tyY T' y) := by
      intro T1 f1 o44
      unfold rj_Heads_checkParts_90
      rw [show nI j + 2 = nI (j + 2) from (Int32.ofNat_add j 2).symm]
      obtain ⟨y, T2, y1, y2, y3⟩ := a_type (nf := nf) hX hnf 6 1 (j + 2) d T1 (by omega) (by omega) (hT.fp f1) (hI.fp f1) (hR.fp f1) f1.2.2.1 (by omega) (by omega)
      rw [show PP nf d 137 T1 [nI (j + 2), 1] [] = _ from y1, bis]
      have f2 : FwP t T T2 := f1.tr y3.fp
      have yl := y2.lt
      have key : ∀ (pl : Int32), wp (rj_Heads_checkParts_119 (PP nf d) nf (rl_Heads_checkParts_28 (PP nf d) nf fl) T2 (nI t) x2 x3 x4 (nI k) (nI y) pl (nI y) (nI k) (nI t)) (fun _ _ T' => FwP t T T' ∧ (∀ q, q < k → T'.1 44 (8 * t + q) = T.1 44 (8 * t + q)) ∧ ∀ q, k ≤ q → q < n → ∃ y, T'.1 44 (8 * t + q) = nI y ∧ tyY T' y) := by
        intro pl
        unfold rj_Heads_checkParts_119
        rw [c_setPart ht (by omega) (by omega), bis, c_wordsOf (by omega) (by omega), bis, vK, c_wordsOf (by omega) (by omega), bis, vK, vK, nI_1]
        have f3 : FwP t T2 (sI (sI T2 44 (8 * t + k) (nI y)) 45 (8 * t + k) pl) := (FwP.wr f2.2.2.1 (Or.inr ⟨Or.inl rfl, by omega, by omega⟩)).tr (FwP.wr (FwP.wr (t := t) (x := nI y) f2.2.2.1 (Or.inr ⟨Or.inl rfl, by omega, by omega⟩)).2.2.1 (Or.inr ⟨Or.inr rfl, by omega, by omega⟩))
        have v44 : (sI (sI T2 44 (8 * t + k) (nI y)) 45 (8 * t + k) pl).1 44 (8 * t + k) = nI y := by rw [sI_ne (by omega), sI_v]
        have o3 : ∀ q, q ≠ 8 * t + k → (sI (sI T2 44 (8 * t + k) (nI y)) 45 (8 * t + k) pl).1 44 q = T2.1 44 q := fun q hq => by rw [sI_ne (by omega), rdI, if_neg (fun w => hq w.2)]
        generalize sI (sI T2 44 (8 * t + k) (nI y)) 45 (8 * t + k) pl = T3 at *
        have f4 := f2.tr f3
        refine wp_mono (ih (k + 1) fl T3 _ _ _ (by omega) (by omega) (hT.fp f4) (hI.fp f4) (hR.fp f4) f4.2.2.1 (hP.fp f4)) ?_
        intro _ _ T' ⟨a1, a2, a3⟩
        refine ⟨f4.tr a1, fun q hq => ?_, fun q h1 h2 => ?_⟩
        · rw [a2 q (by omega), o3 _ (by omega), y3.1 44 (by omega) (by omega), o44]
        · by_cases c : q = k
          · rw [c, a2 k (by omega), v44]
            exact ⟨y, rfl, a1.2.2.2.1 _ (f3.2.2.2.1 _ y2)⟩
          · exact a3 q (by omega) h2
      split
      · exact key _
      · exact key _
    split
    · exact go T (FwH.rf hW).fp (fun _ => rfl)
    · rw [stA, bis, c_note (by omega), bis]
      exact go _ (FwH.nt hW).fp (fun q => by rw [nt_o (by omega) (by omega)])
theorem a_parts (hX : XO X) (hnf : 16385 ≤ nf) (ht : t < 24) (hd : 41 ≤ d) (hT : TkC X T) (hI : WI T) (hR : WR T) (hW : WT T) (hP : WP X T t n) : wp (PP nf d 129 T [nI t] []) (fun _ _ T' => FwP t T T' ∧ ∀ q, q < n → ∃ y, T'.1 44 (8 * t + q) = nI y ∧ tyY T' y) := by
  obtain ⟨d, rfl⟩ : ∃ g, d = g + 1 := ⟨d - 1, by omega⟩
  have := hP.2.1
  rw [e_Heads_checkParts]
  unfold rb_Heads_checkParts
  rw [gd, if_pos (nin ht (by omega))]
  split
  · refine wp_mono (a_pl (n := n) (d := d) hX hnf ht (by omega) n 0 nf T 1 0 0 (by omega) (by omega) hT hI hR hW hP) ?_
    intro _ _ T' ⟨a1, a2, a3⟩
    exact ⟨a1, fun q hq => a3 q (by omega) hq⟩
  · refine wp_mono (a_pl (n := n) (d := d) hX hnf ht (by omega) n 0 nf T 0 0 0 (by omega) (by omega) hT hI hR hW hP) ?_
    intro _ _ T' ⟨a1, a2, a3⟩
    exact ⟨a1, fun q hq => a3 q (by omega) hq⟩
end CPP
