/-! the class checks fields and parameters as the reference does: the loop -/
/-- the most words of a part -/
def mxW (T : gSt) (t : Nat) : Nat → Nat → Nat → Nat
  | 0, _, w => w
  | m + 1, k, w => mxW T t m (k + 1) (max w (wdC T (T.1 44 (8 * t + k)).toNatClampNeg))
abbrev PaQ (T : gSt) (t n k : Nat) (T' : gSt) : Prop := FwP t T T' ∧ (∀ q, q < k → T'.1 44 (8 * t + q) = T.1 44 (8 * t + q)) ∧ ∀ q, k ≤ q → q < n → ∃ y, T'.1 44 (8 * t + q) = nI y ∧ tyY T' y
section CPR3
variable {S S' T T' T1 : gSt} {X : Lx} {nf d i k n m t c fl y j : Nat} {l : List Nat} {x2 x3 x4 pl : Int32}
theorem a_119 (hX : XO X) (hnf : 16385 ≤ nf) (ht : t < 24) (hd : 40 ≤ d) (hm : m + (k + 1) = n) (hfl : m < fl) (hT : TkC X T) (hI : WI T) (hR : WR T) (hW : WT T) (hP : WP X T t n) (hy : tyY T y) : wp (rj_Heads_checkParts_119 (PP nf d) nf (rl_Heads_checkParts_28 (PP nf d) nf fl) T (nI t) x2 x3 x4 (nI k) (nI y) pl (nI y) (nI k) (nI t)) (fun _ _ T' => PaQ T t n k T') := by
  have hn8 := hP.2.1
  have yl := hy.lt
  unfold rj_Heads_checkParts_119
  rw [c_setPart ht (by omega) (by omega), bis, c_wordsOf (by omega) (by omega), bis, vK, c_wordsOf (by omega) (by omega), bis, vK, vK, nI_1]
  have f3 : FwP t T (sI (sI T 44 (8 * t + k) (nI y)) 45 (8 * t + k) pl) := (FwP.wr hW (Or.inr ⟨Or.inl rfl, by omega, by omega⟩)).tr (FwP.wr (FwP.wr (t := t) (x := nI y) hW (Or.inr ⟨Or.inl rfl, by omega, by omega⟩)).2.2.1 (Or.inr ⟨Or.inr rfl, by omega, by omega⟩))
  have v44 : (sI (sI T 44 (8 * t + k) (nI y)) 45 (8 * t + k) pl).1 44 (8 * t + k) = nI y := by rw [sI_ne (by omega), sI_v]
  have o3 : ∀ q, q ≠ 8 * t + k → (sI (sI T 44 (8 * t + k) (nI y)) 45 (8 * t + k) pl).1 44 q = T.1 44 q := fun q hq => by rw [sI_ne (by omega), rdI, if_neg (fun w => hq w.2)]
  generalize sI (sI T 44 (8 * t + k) (nI y)) 45 (8 * t + k) pl = T3 at *
  refine wp_mono (a_pl (n := n) hX hnf ht hd m (k + 1) fl T3 _ _ _ hm hfl (hT.fp f3) (hI.fp f3) (hR.fp f3) f3.2.2.1 (hP.fp f3)) ?_
  intro _ _ T' ⟨a1, a2, a3⟩
  refine ⟨f3.tr a1, fun q hq => ?_, fun q h1 h2 => ?_⟩
  · rw [a2 q (by omega), o3 _ (by omega)]
  · by_cases c : q = k
    · rw [c, a2 k (by omega), v44]
      exact ⟨y, rfl, a1.2.2.2.1 _ (f3.2.2.2.1 _ hy)⟩
    · exact a3 q (by omega) h2
theorem a_90 (hX : XO X) (hnf : 16385 ≤ nf) (ht : t < 24) (hd : 40 ≤ d) (hm : m + (k + 1) = n) (hfl : m < fl) (hT : TkC X T) (hI : WI T) (hR : WR T) (hW : WT T) (hP : WP X T t n) (hj : j < xn X) : wp (rj_Heads_checkParts_90 (PP nf d) nf (rl_Heads_checkParts_28 (PP nf d) nf fl) T (nI t) x2 x3 x4 (nI k) (nI j)) (fun _ _ T' => PaQ T t n k T') := by
  have hxn := hX.1
  unfold rj_Heads_checkParts_90
  rw [show nI j + 2 = nI (j + 2) from (Int32.ofNat_add j 2).symm]
  obtain ⟨y, T2, y1, y2, y3⟩ := a_type (nf := nf) hX hnf 6 1 (j + 2) d T (by omega) (by omega) hT hI hR hW (by omega) (by omega)
  rw [show PP nf d 137 T [nI (j + 2), 1] [] = _ from y1, bis]
  have fin : ∀ pl, wp (rj_Heads_checkParts_119 (PP nf d) nf (rl_Heads_checkParts_28 (PP nf d) nf fl) T2 (nI t) x2 x3 x4 (nI k) (nI y) pl (nI y) (nI k) (nI t)) (fun _ _ T' => PaQ T t n k T') := fun pl => by
    refine wp_mono (a_119 hX hnf ht hd hm hfl (hT.fh y3) (hI.fh y3) (hR.fh y3) y3.2.2.1 (hP.fp y3.fp (t := t)) y2) ?_
    intro _ _ T' ⟨a1, a2, a3⟩
    exact ⟨y3.fp.tr a1, fun q hq => by rw [a2 q hq, y3.1 44 (by omega) (by omega)], a3⟩
  split
  · exact fin _
  · exact fin _
/-- what the check of parts comes to, on both sides -/
def PbQ (X : Lx) (S S' T : gSt) (t c n k m w3 w4 : Nat) (x2 : Int32) (T' : gSt) : Prop := PaQ T t n k T' ∧ ((HrR R0 X S' T' ∧ TyF S S' T T' ∧ (∀ q, q < k → T'.1 45 (8 * t + q) = T.1 45 (8 * t + q)) ∧ (∀ q, k ≤ q → q < n → ∃ y, T'.1 44 (8 * t + q) = nI y ∧ y < 16387 ∧ TyR R0 S' T' 5 (S'.1 24 (c + q)) y ∧ T'.1 45 (8 * t + q) = (if x2 = 0 then nI (w3 + plW T' t (q - k) k) else 1)) ∧ T'.1 41 t = (if x2 = 0 then nI (w3 + plW T' t m k) else 1 + nI (mxW T' t m k w4)) ∧ lvC T' 16384 ≤ lvC T 16384 + 6 * m) ∨ BfR S' T')
theorem max_i {a b : Nat} (ha : a < 100000) (hb : b < 100000) : (if nI a < nI b then nI b else nI a) = nI (max a b) := by
  by_cases c : a < b
  · rw [if_pos ((nI_ltI (by omega) (by omega)).mpr c), show max a b = b by omega]
  · rw [if_neg (fun w => c ((nI_ltI (by omega) (by omega)).mp w)), show max a b = a by omega]
theorem wd3 : wdC T y ≤ 3 := by
  unfold wdC
  repeat' split
  all_goals omega
end CPR3
