/-! the class reads what dead tells, whatever there is -/
/-- what the reading of dead and where leaves as it was -/
def FwK (t : Nat) (T T' : gSt) : Prop := (∀ k j, k ≠ 53 → k ≠ 54 → ¬ (39 ≤ k ∧ k ≤ 40 ∧ j = t) → ¬ (k = 46 ∧ j = t) → ¬ (k = 47 ∧ 3 * t ≤ j ∧ j < 3 * t + 3) → T'.1 k j = T.1 k j) ∧ (∀ q j, q ≠ 62 → T'.2 q j = T.2 q j) ∧ WT T' ∧ (∀ y, tyY T y → tyY T' y) ∧ (¬ T.1 53 0 = 0 → T'.1 53 0 = T.1 53 0 ∧ T'.1 54 0 = T.1 54 0)
section CDD
variable {T T' T1 : gSt} {X : Lx} {nf d i k n m t cnt : Nat} {x : Int32}
theorem FwK.tr (h : FwK t T T1) (h2 : FwK t T1 T') : FwK t T T' := ⟨fun k j a b c d e => (h2.1 k j a b c d e).trans (h.1 k j a b c d e), fun q j a => (h2.2.1 q j a).trans (h.2.1 q j a), h2.2.2.1, fun y a => h2.2.2.2.1 y (h.2.2.2.1 y a), fun w => by
  have a := h.2.2.2.2 w
  have b := h2.2.2.2.2 (by rw [a.1]; exact w)
  exact ⟨b.1.trans a.1, b.2.trans a.2⟩⟩
theorem FwH.fk (h : FwH T T') : FwK t T T' := ⟨fun k j a b _ _ _ => by rw [h.1 k a b], h.2.1, h.2.2.1, h.2.2.2.1, h.2.2.2.2⟩
theorem FwK.wr (hW : WT T) (hk : (39 ≤ k ∧ k ≤ 40 ∧ n = t) ∨ (k = 46 ∧ n = t) ∨ (k = 47 ∧ 3 * t ≤ n ∧ n < 3 * t + 3)) : FwK t T (sI T k n x) := by
  have a := hW.ag (T' := sI T k n x) rfl (by rw [sI_ne (by omega)])
  exact ⟨fun g j a b c d e => by rw [rdI, if_neg (fun w => by omega)], fun q j _ => rfl, a.1, a.2, fun _ => ⟨by rw [sI_ne (by omega)], by rw [sI_ne (by omega)]⟩⟩
theorem TkC.fk (h : TkC X T) (hF : FwK t T T') : TkC X T' := by
  unfold TkC at h ⊢
  rw [hF.1 25 0 (by omega) (by omega) (by omega) (by omega) (by omega), hF.1 21 0 (by omega) (by omega) (by omega) (by omega) (by omega)]
  refine ⟨h.1, h.2.1, fun j hj => ?_⟩
  rw [hF.1 22 j (by omega) (by omega) (by omega) (by omega) (by omega), hF.1 23 j (by omega) (by omega) (by omega) (by omega) (by omega), hF.2.1 24 j (by omega)]
  exact h.2.2 j hj
theorem WR.fk (h : WR T) (hF : FwK t T T') : WR T' := by
  obtain ⟨n, a, b⟩ := h
  exact ⟨n, by rw [hF.1 72 0 (by omega) (by omega) (by omega) (by omega) (by omega)]; exact a, b⟩
theorem a_ddl (hX : XO X) (hnf : 20 ≤ nf) (ht : t < 24) (hc3 : cnt ≤ 3) (hi : i < 90000) (hd : 3 ≤ d) : ∀ (m k fl : Nat) (T : gSt), m + k = cnt → m < fl → TkC X T → WR T → WT T → wp (rl_Heads_readDead_50 (PP nf d) nf fl T (nI t) (nI i) (nI cnt) (nI k)) (fun _ _ T' => FwK t T T') := by
  have ct : (nI t).toNatClampNeg = t := nc (by omega)
  have zt : inb (nI t) 24 := nin ht (by omega)
  intro m
  induction m with
  | zero =>
    intro k fl T e1 e2 hT hR hW
    obtain ⟨fl, rfl⟩ : ∃ g, fl = g + 1 := ⟨fl - 1, by omega⟩
    rw [rl_Heads_readDead_50, if_pos (show nI cnt ≤ nI k from (nI_leI (by omega) (by omega)).mpr (by omega))]
    exact wp_some (FwH.rf hW).fk
  | succ m ih =>
    intro k fl T e1 e2 hT hR hW
    obtain ⟨fl, rfl⟩ : ∃ g, fl = g + 1 := ⟨fl - 1, by omega⟩
    rw [rl_Heads_readDead_50, if_neg (fun w => by
      have := (nI_leI (by omega) (by omega)).mp w
      omega), show nI i + nI k = nI (i + k) from (Int32.ofNat_add _ _).symm]
    obtain ⟨r, T1, r1, r2, r3, r4, r5⟩ := a_own (nf := nf) (d := d) (i := i + k) hX hnf hT hR hW (by omega) (by omega)
    rw [r1, bis, vK]
    simp only [gd, if_pos zt, ct]
    have hT1 := hT.fh r4
    have go : ∀ (T2 : gSt) (v : Int32), FwK t T T2 → wp (rl_Heads_readDead_50 (PP nf d) nf fl (sI T2 39 t v) (nI t) (nI i) (nI cnt) (nI (k + 1))) (fun _ _ T' => FwK t T T') := fun T2 v f2 => by
      have f3 : FwK t T (sI T2 39 t v) := f2.tr (FwK.wr f2.2.2.1 (Or.inl ⟨by omega, by omega, rfl⟩))
      refine wp_mono (ih (k + 1) fl _ (by omega) (by omega) (hT.fk f3) (hR.fk f3) f3.2.2.1) ?_
      intro _ _ T' h
      exact f3.tr h
    split
    · rw [stK, vK, nI_1]
      exact go T1 _ r4.fk
    · obtain ⟨d1, hd1⟩ : ∃ g, d = g + 1 := ⟨d - 1, by omega⟩
      rw [show PP nf d 26 T1 [nI (i + k)] [] = some (nI (xP X (i + k)), 0, T1) by rw [hd1]; exact c_start hX hT1 (by omega), bis, c_note (by omega), bis, stK, vK, nI_1]
      exact go _ _ ((r4.tr (FwH.nt r4.2.2.1)).fk)
theorem a_dead (hX : XO X) (hnf : 20 ≤ nf) (ht : t < 24) (h34 : T.1 34 t = nI i) (hi : i < 80000) (hT : TkC X T) (hR : WR T) (hW : WT T) (hd : 4 ≤ d) : wp (PP nf d 131 T [nI t] []) (fun _ _ T' => FwK t T T') := by
  obtain ⟨d, rfl⟩ : ∃ g, d = g + 1 := ⟨d - 1, by omega⟩
  have ct : (nI t).toNatClampNeg = t := nc (by omega)
  have zt : inb (nI t) 24 := nin ht (by omega)
  rw [e_Heads_readDead]
  unfold rb_Heads_readDead
  simp only [gd, if_pos zt, ct, h34, vK, nI_1]
  have f3 : FwK t T (sI T 39 t 0) := FwK.wr hW (Or.inl ⟨by omega, by omega, rfl⟩)
  by_cases c0 : nI i = 0
  · rw [if_pos c0, stK]
    refine wp_mono (a_ddl (d := d) (cnt := 0) (i := i + 1) hX hnf ht (by omega) (by omega) (by omega) 0 0 nf (sI T 39 t 0) (by omega) (by omega) (hT.fk f3) (hR.fk f3) f3.2.2.1) ?_
    intro _ _ T' h
    exact f3.tr h
  · rw [if_neg c0, c_cntR hX hT (by omega) (by omega) (by omega), bis, stK]
    have rb := (rgs_b (xK X) 3 (i + 1)).1
    refine wp_mono (a_ddl (d := d) (cnt := rgs (xK X) 3 (i + 1)) (i := i + 1) hX hnf ht rb (by omega) (by omega) (rgs (xK X) 3 (i + 1)) 0 nf (sI T 39 t 0) (by omega) (by omega) (hT.fk f3) (hR.fk f3) f3.2.2.1) ?_
    intro _ _ T' h
    exact f3.tr h
end CDD
