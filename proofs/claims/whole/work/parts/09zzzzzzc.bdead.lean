/-! what dead tells, on both sides -/
def DdR (X : Lx) (S : gSt) (t i cnt : Nat) : Prop := ∀ k, k < cnt → S.2 28 (3 * t + k) = xN X (i + k) ∧ S.1 29 (3 * t + k) = nI (xP X (i + k)) ∧ i + k < xn X ∧ ¬ xN X (i + k) = 0
/-- what reading dead comes to -/
def DdQ (S S' T : gSt) (t : Nat) (T' : gSt) : Prop := FwK t T T' ∧ ((S'.1 7 0 = 0 ∧ T'.1 53 0 = 0 ∧ T'.1 39 t = S'.1 30 t ∧ (∀ k j, ¬ (k = 39 ∧ j = t) → T'.1 k j = T.1 k j) ∧ T'.2 = T.2 ∧ (∀ k j, ¬ (k = 30 ∧ j = t) → S'.1 k j = S.1 k j) ∧ S'.2 = S.2) ∨ BfR S' T')
section CBE
variable {S S' T T' : gSt} {N : Nat → Int64} {X : Lx} {nf d i t e cnt : Nat}
theorem de_bad : ∀ (m j : Nat) (S : gSt), ¬ S.1 7 0 = 0 → deL t m j S = S := by
  intro m j S h
  cases m with
  | zero => rfl
  | succ m => rw [deL, if_neg h]
theorem b_ddl (hX : XO X) (hnf : 20 ≤ nf) (ht : t < 24) (hc3 : cnt ≤ 3) (hd : 3 ≤ d) : ∀ (m k fl : Nat) (S T : gSt), m + k = cnt → m < fl → TkC X T → WR T → WT T → OwR S T t e N → DdR X S t i cnt → S.1 7 0 = 0 → T.1 53 0 = 0 → T.1 39 t = S.1 30 t → i < 80000 → wp (rl_Heads_readDead_50 (PP nf d) nf fl T (nI t) (nI i) (nI cnt) (nI k)) (fun _ _ T' => DdQ S (deL t m k S) T t T') := by
  have ct : (nI t).toNatClampNeg = t := nc (by omega)
  have zt : inb (nI t) 24 := nin ht (by omega)
  intro m
  induction m with
  | zero =>
    intro k fl S T e1 e2 hT hR hW hO hD hs htt h39 hi
    obtain ⟨fl, rfl⟩ : ∃ g, fl = g + 1 := ⟨fl - 1, by omega⟩
    rw [rl_Heads_readDead_50, if_pos (show nI cnt ≤ nI k from (nI_leI (by omega) (by omega)).mpr (by omega))]
    exact wp_some ⟨(FwH.rf hW).fk, Or.inl ⟨hs, htt, h39, fun _ _ _ => rfl, rfl, fun _ _ _ => rfl, rfl⟩⟩
  | succ m ih =>
    intro k fl S T e1 e2 hT hR hW hO hD hs htt h39 hi
    obtain ⟨fl, rfl⟩ : ∃ g, fl = g + 1 := ⟨fl - 1, by omega⟩
    have hxn := hX.1
    obtain ⟨d1, d2, d3, d4⟩ := hD k (by omega)
    rw [rl_Heads_readDead_50, if_neg (fun w => by
      have := (nI_leI (by omega) (by omega)).mp w
      omega), show nI i + nI k = nI (i + k) from (Int32.ofNat_add _ _).symm, deL, if_pos hs]
    obtain ⟨dd, hdd⟩ : ∃ g, d = g + 1 := ⟨d - 1, by omega⟩
    -- behind a fault
    have bad : ∀ (T2 : gSt) (v : Int32) (S2 : gSt), FwH T T2 → BfR S2 T2 → wp (rl_Heads_readDead_50 (PP nf d) nf fl (sI T2 39 t v) (nI t) (nI i) (nI cnt) (nI (k + 1))) (fun _ _ T' => DdQ S (deL t m (k + 1) S2) T t T') := by
      intro T2 v S2 f2 hB
      have f3 : FwK t T (sI T2 39 t v) := f2.fk.tr (FwK.wr f2.2.2.1 (Or.inl ⟨by omega, by omega, rfl⟩))
      have B3 : BfR S2 (sI T2 39 t v) := by
        unfold BfR
        rw [sI_ne (by omega), sI_ne (by omega)]
        exact hB
      rw [de_bad m (k + 1) S2 hB.1]
      refine wp_mono (a_ddl (nf := nf) (d := d) hX hnf ht hc3 (by omega) hd m (k + 1) fl (sI T2 39 t v) (by omega) (by omega) (hT.fk f3) (hR.fk f3) f3.2.2.1) ?_
      intro _ _ T' f4
      have kp := f4.2.2.2.2 (by rw [B3.2.1]; exact B3.1)
      exact ⟨f3.tr f4, Or.inr ⟨B3.1, kp.1.trans B3.2.1, kp.2.trans B3.2.2⟩⟩
    unfold deS
    rw [d1, d2]
    rcases b_own (nf := nf) (d := d) (q := i + k) hX hnf hT hO d3 d4 (by omega) with ⟨c, c1, c2, c3, c4⟩ | ⟨c1, c2⟩
    · have p0 : 0 ≤ roI S t (xN X (i + k)) := by rw [c1]; exact (nI_leI (a := 0) (b := c) (by omega) (by omega)).mpr (by omega)
      rw [c4, bis, vK, if_pos p0, c1]
      simp only [gd, if_pos zt, ct]
      rw [h39]
      have q1 := fi_sr (x := S.1 30 t) (n := c) (by omega)
      have q2 := fi_ms (x := S.1 30 t) (n := c) (by omega)
      by_cases cb : fi (S.1 30 t) c = true
      · rw [if_neg (by rw [q2, cb]; decide), if_pos (by rw [q1]; exact cb)]
        rw [show PP nf d 26 T [nI (i + k)] [] = some (nI (xP X (i + k)), 0, T) by rw [hdd]; exact c_start hX hT (by omega), bis, c_note (by omega), bis, stK, vK, nI_1]
        exact bad _ _ _ (FwH.nt hW) (bf_nt hs htt (by decide))
      · rw [if_pos (by rw [q2]; simpa using cb), if_neg (by rw [q1]; exact cb), stK, vK, nI_1]
        have f3 : FwK t T (sI T 39 t (S.1 30 t ||| ((1 : Int32) <<< (nI c &&& 31)))) := FwK.wr hW (Or.inl ⟨by omega, by omega, rfl⟩)
        refine wp_mono (ih (k + 1) fl (sI S 30 t (S.1 30 t ||| ((1 : Int32) <<< (nI c &&& 31)))) (sI T 39 t (S.1 30 t ||| ((1 : Int32) <<< (nI c &&& 31)))) (by omega) (by omega) (hT.fk f3) (hR.fk f3) f3.2.2.1 ⟨hO.1, by rw [sI_ne (by omega)]; exact hO.2.1, hO.2.2.1, by rw [sI_ne (by omega)]; exact hO.2.2.2.1, hO.2.2.2.2⟩ (fun q hq => by rw [sI_ne (by omega)]; exact hD q hq) (by rw [sI_ne (by omega)]; exact hs) (by rw [sI_ne (by omega)]; exact htt) (by rw [sI_v, sI_v]) hi) ?_
        intro _ _ T' ⟨a, b⟩
        refine ⟨f3.tr a, ?_⟩
        rcases b with ⟨b1, b2, b3, b4, b5, b6, b7⟩ | hB
        · exact Or.inl ⟨b1, b2, b3, fun k j h => by rw [b4 k j h, rdI, if_neg h], b5, fun k j h => by rw [b6 k j h, rdI, if_neg h], b7⟩
        · exact Or.inr hB
    · rw [c2, bis, vK, if_neg (show ¬ 0 ≤ roI S t (xN X (i + k)) by rw [c1]; decide)]
      simp only [gd, if_pos zt, ct]
      have f1 : FwH T (ntS T 3 (nI (xP X (i + k)))) := FwH.nt hW
      have B1 : BfR (flT S 3 (nI (xP X (i + k)))) (ntS T 3 (nI (xP X (i + k)))) := bf_nt hs htt (by decide)
      split
      · rw [stK, vK, nI_1]
        exact bad _ _ _ f1 B1
      · rw [show PP nf d 26 (ntS T 3 (nI (xP X (i + k)))) [nI (i + k)] [] = some (nI (xP X (i + k)), 0, ntS T 3 (nI (xP X (i + k)))) by rw [hdd]; exact c_start hX (hT.fh f1) (by omega), bis, c_note (by omega), bis, stK, vK, nI_1]
        have f2 : FwH (ntS T 3 (nI (xP X (i + k)))) (ntS (ntS T 3 (nI (xP X (i + k)))) 2 (nI (xP X (i + k)))) := FwH.nt f1.2.2.1
        exact bad _ _ _ (f1.tr f2) (B1.kp f2)
end CBE
