/-! what where tells, on both sides -/
def WhR (X : Lx) (S : gSt) (t i w : Nat) : Prop := ∀ k, k < w → S.2 32 (6 * t + 2 * k) = xN X (i + 4 * k) ∧ S.1 33 (6 * t + 2 * k) = nI (xP X (i + 4 * k)) ∧ S.2 32 (6 * t + (2 * k + 1)) = xN X (i + 4 * k + 2) ∧ S.1 33 (6 * t + (2 * k + 1)) = nI (xP X (i + 4 * k + 2)) ∧ ¬ xN X (i + 4 * k) = 0 ∧ ¬ xN X (i + 4 * k + 2) = 0 ∧ i + 4 * k + 2 < xn X ∧ (xK X (i + 4 * k + 3) = 47 ↔ k + 1 < w)
/-- the k-th pair as both sides have it -/
def PiR (S T : gSt) (t k : Nat) : Prop := ∃ r s, 1 ≤ r ∧ r ≤ 3 ∧ 1 ≤ s ∧ s ≤ 3 ∧ roI S t (S.2 32 (6 * t + 2 * k)) = nI r ∧ roI S t (S.2 32 (6 * t + (2 * k + 1))) = nI s ∧ T.1 47 (3 * t + k) = ((nI r <<< ((2 : Int32) &&& 31)) ||| nI s)
/-- the bits of pairs from k on -/
def bwT (S : gSt) (t : Nat) : Nat → Nat → Int32 → Int32
  | 0, _, x => x
  | m + 1, k, x => bwT S t m (k + 1) (x ||| ((1 : Int32) <<< (nI (abN (roI S t (S.2 32 (6 * t + 2 * k))).toNatClampNeg (roI S t (S.2 32 (6 * t + (2 * k + 1)))).toNatClampNeg) &&& 31)))
def WhQ (S S' T : gSt) (t k m : Nat) (T' : gSt) : Prop := FwK t T T' ∧ ((S' = S ∧ T'.1 53 0 = 0 ∧ T'.2 = T.2 ∧ T'.1 46 t = nI (k + m) ∧ T'.1 40 t = wcT 3 1 (bwT S t m k (T.1 40 t)) ∧ (∀ q, k ≤ q → q < k + m → PiR S T' t q) ∧ (∀ q, q < k → T'.1 47 (3 * t + q) = T.1 47 (3 * t + q)) ∧ (∀ g j, ¬ (g = 40 ∧ j = t) → ¬ (g = 46 ∧ j = t) → ¬ (g = 47 ∧ 3 * t ≤ j ∧ j < 3 * t + 3) → T'.1 g j = T.1 g j)) ∨ BfR S' T')
section CBW
variable {S S' T T' : gSt} {N : Nat → Int64} {X : Lx} {nf d i t e w : Nat}
theorem wh_bad : ∀ (m j : Nat) (S : gSt), ¬ S.1 7 0 = 0 → whL t m j S = S := by
  intro m j S h
  cases m with
  | zero => rfl
  | succ m => rw [whL, if_neg h]
theorem b_wl (hX : XO X) (hnf : 20 ≤ nf) (ht : t < 24) (hw3 : w ≤ 3) (hd : 4 ≤ d) (hi : i < 80000) (hO : ∀ T', T'.1 72 0 = T.1 72 0 → T'.2 = T.2 → OwR S T' t e N) (hD : WhR X S t i w) (hs : S.1 7 0 = 0) : ∀ (m k fl : Nat) (T' : gSt), m + k = w → 3 - k < fl → T'.1 72 0 = T.1 72 0 → T'.2 = T.2 → TkC X T' → WR T' → WT T' → T'.1 53 0 = 0 → T'.1 46 t = nI k → wp (rl_Heads_readWhere_53 (PP nf d) nf fl T' (nI t) (nI (i + 4 * k)) (if m = 0 then 0 else 1) (nI k)) (fun _ _ T2 => WhQ S (whL t (2 * m) (2 * k) S) T' t k m T2) := by
  have hxn := hX.1
  have ct : (nI t).toNatClampNeg = t := nc (by omega)
  have zt : inb (nI t) 24 := nin ht (by omega)
  intro m
  induction m with
  | zero =>
    intro k fl T' e1 e2 o1 o2 hT hR hW htt hp
    obtain ⟨fl, rfl⟩ : ∃ g, fl = g + 1 := ⟨fl - 1, by omega⟩
    rw [if_pos rfl, rl_Heads_readWhere_53]
    simp only [gd, if_pos zt, ct]
    have fin : wp (bi (PP nf d 133 T' [T'.1 40 t] []) fun r9 l9 T9 => stK (sI T9 40 t r9) fun T10 => some (0, 0, T10)) (fun _ _ T2 => WhQ S (whL t (2 * 0) (2 * k) S) T' t k 0 T2) := by
      rw [c_closed (by omega) (by omega), bis, stK]
      refine wp_some ⟨FwK.wr hW (Or.inl ⟨by omega, by omega, rfl⟩), Or.inl ⟨rfl, by rw [sI_ne (by omega)]; exact htt, rfl, by rw [sI_ne (by omega)]; exact hp, by rw [sI_v]; rfl, fun q a b => by omega, fun q _ => by rw [sI_ne (by omega)], fun g j a b c => by rw [rdI, if_neg a]⟩⟩
    split
    · exact fin
    · rw [if_pos trivial]
      exact fin
  | succ m ih =>
    intro k fl T' e1 e2 o1 o2 hT hR hW htt hp
    obtain ⟨fl, rfl⟩ : ∃ g, fl = g + 1 := ⟨fl - 1, by omega⟩
    obtain ⟨d1, d2, d3, d4, d5, d6, d7, d8⟩ := hD k (by omega)
    obtain ⟨dd, hdd⟩ : ∃ g, d = g + 1 := ⟨d - 1, by omega⟩
    rw [if_neg (by omega), rl_Heads_readWhere_53, if_neg (fun w => by
      have := (nI_leI (a := 3) (b := k) (by omega) (by omega)).mp w
      omega), if_neg (by decide)]
    simp only [gd, if_pos zt, ct]
    rw [show nI (i + 4 * k) + 2 = nI (i + 4 * k + 2) from (Int32.ofNat_add (i + 4 * k) 2).symm, show nI (i + 4 * k) + 3 = nI (i + 4 * k + 3) from (Int32.ofNat_add (i + 4 * k) 3).symm, show nI (i + 4 * k) + 4 = nI (i + 4 * k + 4) from (Int32.ofNat_add (i + 4 * k) 4).symm]
    have ew : whL t (2 * (m + 1)) (2 * k) S = whL t (2 * m + 1) (2 * k + 1) (whS t (2 * k) S) := by
      rw [show 2 * (m + 1) = 2 * m + 1 + 1 by omega, whL, if_pos hs]
    -- behind the two REGIONS: the pair, and on
    have nxt : ∀ (T2 : gSt) (r s : Nat), FwH T' T2 → 1 ≤ r → r < 12 → 1 ≤ s → s < 12 → BfR (whL t (2 * (m + 1)) (2 * k) S) T2 → wp (bi (PP nf d 110 T2 [nI r, nI s] []) fun r18 l18 T18 => stK (sI T18 40 t ((T2.1 40 t) ||| ((1 : Int32) <<< (r18 &&& 31)))) fun T19 => bi (PP nf d 41 T19 [nI t, nI r, nI s] []) fun r20 l20 T20 => bi (PP nf d 25 T20 [nI (i + 4 * k + 3)] []) fun r21 l21 T21 => if r21 = (47 : Int32) then (vK (nI (i + 4 * k + 4)) fun z25 => vK (nI k + (1 : Int32)) fun z26 => rl_Heads_readWhere_53 (PP nf d) nf fl T21 (nI t) z25 (1 : Int32) z26) else (vK (nI (i + 4 * k + 4)) fun z23 => vK (nI k + (1 : Int32)) fun z24 => rl_Heads_readWhere_53 (PP nf d) nf fl T21 (nI t) z23 (0 : Int32) z24)) (fun _ _ T2 => WhQ S (whL t (2 * (m + 1)) (2 * k) S) T' t k (m + 1) T2) := by
      intro T2 r s f2 r1 r2 s1 s2 hB
      rw [c_above r1 (by omega) s1 (by omega) (by omega), bis, stK]
      have f3 : FwK t T' (sI T2 40 t (T2.1 40 t ||| ((1 : Int32) <<< (nI (abN r s) &&& 31)))) := f2.fk.tr (FwK.wr f2.2.2.1 (Or.inl ⟨by omega, by omega, rfl⟩))
      have p3 : (sI T2 40 t (T2.1 40 t ||| ((1 : Int32) <<< (nI (abN r s) &&& 31)))).1 46 t = nI k := by rw [sI_ne (by omega), f2.1 46 (by omega) (by omega)]; exact hp
      have B3 : BfR (whL t (2 * (m + 1)) (2 * k) S) (sI T2 40 t (T2.1 40 t ||| ((1 : Int32) <<< (nI (abN r s) &&& 31)))) := by
        unfold BfR
        rw [sI_ne (by omega), sI_ne (by omega)]
        exact hB
      generalize sI T2 40 t (T2.1 40 t ||| ((1 : Int32) <<< (nI (abN r s) &&& 31))) = T3 at *
      rw [c_addPair p3 ht (by omega) (by omega), bis]
      have f4 : FwK t T' (sI (sI T3 47 (3 * t + k) ((nI r <<< ((2 : Int32) &&& 31)) ||| nI s)) 46 t (nI (k + 1))) := (f3.tr (FwK.wr f3.2.2.1 (Or.inr (Or.inr ⟨rfl, by omega, by omega⟩)))).tr (FwK.wr (FwK.wr (t := t) (x := ((nI r <<< ((2 : Int32) &&& 31)) ||| nI s)) f3.2.2.1 (Or.inr (Or.inr ⟨rfl, by omega, by omega⟩))).2.2.1 (Or.inr (Or.inl ⟨rfl, rfl⟩)))
      have p4 : (sI (sI T3 47 (3 * t + k) ((nI r <<< ((2 : Int32) &&& 31)) ||| nI s)) 46 t (nI (k + 1))).1 46 t = nI (k + 1) := sI_v
      have B4 : BfR (whL t (2 * (m + 1)) (2 * k) S) (sI (sI T3 47 (3 * t + k) ((nI r <<< ((2 : Int32) &&& 31)) ||| nI s)) 46 t (nI (k + 1))) := by
        unfold BfR
        rw [sI_ne (by omega), sI_ne (by omega), sI_ne (by omega), sI_ne (by omega)]
        exact B3
      generalize sI (sI T3 47 (3 * t + k) ((nI r <<< ((2 : Int32) &&& 31)) ||| nI s)) 46 t (nI (k + 1)) = T4 at *
      have hT4 := hT.fk f4
      rw [show PP nf d 25 T4 [nI (i + 4 * k + 3)] [] = some (nI (xK X (i + 4 * k + 3)), 0, T4) by rw [hdd]; exact c_kind hX hT4 (by omega), bis]
      have go : ∀ z, wp (rl_Heads_readWhere_53 (PP nf d) nf fl T4 (nI t) (nI (i + 4 * k + 4)) z (nI (k + 1))) (fun _ _ T2 => WhQ S (whL t (2 * (m + 1)) (2 * k) S) T' t k (m + 1) T2) := fun z => by
        refine wp_mono (a_wl (nf := nf) (d := d) hX hnf ht hd (3 - (k + 1)) (k + 1) fl (i + 4 * k + 4) T4 z (by omega) (by omega) (by omega) hT4 (hR.fk f4) f4.2.2.1 p4) ?_
        intro _ _ T5 f5
        have kp := f5.2.2.2.2 (by rw [B4.2.1]; exact B4.1)
        exact ⟨f4.tr f5, Or.inr ⟨B4.1, kp.1.trans B4.2.1, kp.2.trans B4.2.2⟩⟩
      split
      · rw [vK, vK, nI_1]
        exact go 1
      · rw [vK, vK, nI_1]
        exact go 0
    have hOT := hO T' o1 o2
    rcases b_own (nf := nf) (d := d) (q := i + 4 * k) hX hnf hT hOT (by omega) d5 (by omega) with ⟨c, c1, c2, c3, c4⟩ | ⟨c1, c4⟩
    · rw [c4, bis]
      have w1 : whS t (2 * k) S = S := by
        unfold whS
        rw [d1, c1, if_pos (show (0 : Int32) ≤ nI c from (nI_leI (a := 0) (b := c) (by omega) (by omega)).mpr (by omega))]
      have ew2 : whL t (2 * (m + 1)) (2 * k) S = whL t (2 * m) (2 * (k + 1)) (whS t (2 * k + 1) S) := by
        rw [ew, w1, whL, if_pos hs, show 2 * k + 1 + 1 = 2 * (k + 1) by omega]
      rcases b_own (nf := nf) (d := d) (q := i + 4 * k + 2) hX hnf hT hOT d7 d6 (by omega) with ⟨s, s1, s2, s3, s4⟩ | ⟨s1, s4⟩
      · rw [s4, bis]
        have w2 : whS t (2 * k + 1) S = S := by
          unfold whS
          rw [d3, s1, if_pos (show (0 : Int32) ≤ nI s from (nI_leI (a := 0) (b := s) (by omega) (by omega)).mpr (by omega))]
        rw [ew2, w2, c_above c2 (by omega) s2 (by omega) (by omega), bis, stK]
        have f3 : FwK t T' (sI T' 40 t (T'.1 40 t ||| ((1 : Int32) <<< (nI (abN c s) &&& 31)))) := FwK.wr hW (Or.inl ⟨by omega, by omega, rfl⟩)
        have p3 : (sI T' 40 t (T'.1 40 t ||| ((1 : Int32) <<< (nI (abN c s) &&& 31)))).1 46 t = nI k := by rw [sI_ne (by omega)]; exact hp
        rw [c_addPair p3 ht (by omega) (by omega), bis]
        generalize hT4 : sI (sI (sI T' 40 t (T'.1 40 t ||| ((1 : Int32) <<< (nI (abN c s) &&& 31)))) 47 (3 * t + k) ((nI c <<< ((2 : Int32) &&& 31)) ||| nI s)) 46 t (nI (k + 1)) = T4
        have f4 : FwK t T' T4 := by
          rw [← hT4]
          exact (f3.tr (FwK.wr f3.2.2.1 (Or.inr (Or.inr ⟨rfl, by omega, by omega⟩)))).tr (FwK.wr (FwK.wr (t := t) (x := ((nI c <<< ((2 : Int32) &&& 31)) ||| nI s)) f3.2.2.1 (Or.inr (Or.inr ⟨rfl, by omega, by omega⟩))).2.2.1 (Or.inr (Or.inl ⟨rfl, rfl⟩)))
        have v46 : T4.1 46 t = nI (k + 1) := by rw [← hT4]; exact sI_v
        have v47 : T4.1 47 (3 * t + k) = ((nI c <<< ((2 : Int32) &&& 31)) ||| nI s) := by rw [← hT4, sI_ne (by omega), sI_v]
        have v40 : T4.1 40 t = T'.1 40 t ||| ((1 : Int32) <<< (nI (abN c s) &&& 31)) := by rw [← hT4, sI_ne (by omega), sI_ne (by omega), sI_v]
        have o47 : ∀ q, q ≠ k → T4.1 47 (3 * t + q) = T'.1 47 (3 * t + q) := fun q hq => by rw [← hT4, sI_ne (by omega), rdI, if_neg (fun w => by omega), sI_ne (by omega)]
        have oo : ∀ g j, ¬ (g = 40 ∧ j = t) → ¬ (g = 46 ∧ j = t) → ¬ (g = 47 ∧ 3 * t ≤ j ∧ j < 3 * t + 3) → T4.1 g j = T'.1 g j := fun g j a b c => by rw [← hT4, rdI, if_neg b, rdI, if_neg (fun w => by omega), rdI, if_neg a]
        have v2 : T4.2 = T'.2 := by rw [← hT4]; rfl
        clear hT4
        have hT4 := hT.fk f4
        rw [show PP nf d 25 T4 [nI (i + 4 * k + 3)] [] = some (nI (xK X (i + 4 * k + 3)), 0, T4) by rw [hdd]; exact c_kind hX hT4 (by omega), bis]
        have q47 : (nI (xK X (i + 4 * k + 3)) = 47) = (xK X (i + 4 * k + 3) = 47) := ci_eq (j := 47) (by have := (hX.2 (i + 4 * k + 3)).2; omega) (by omega)
        have go : wp (rl_Heads_readWhere_53 (PP nf d) nf fl T4 (nI t) (nI (i + 4 * k + 4)) (if m = 0 then 0 else 1) (nI (k + 1))) (fun _ _ T2 => WhQ S (whL t (2 * m) (2 * (k + 1)) S) T' t k (m + 1) T2) := by
          rw [show i + 4 * k + 4 = i + 4 * (k + 1) by omega]
          refine wp_mono (ih (k + 1) fl T4 (by omega) (by omega) (by rw [oo 72 0 (by omega) (by omega) (by omega)]; exact o1) (v2.trans o2) hT4 (hR.fk f4) f4.2.2.1 (by rw [oo 53 0 (by omega) (by omega) (by omega)]; exact htt) v46) ?_
          intro _ _ T5 ⟨a, b⟩
          refine ⟨f4.tr a, ?_⟩
          rcases b with ⟨b1, b2, b3, b4, b5, b6, b7, b8⟩ | hB
          · refine Or.inl ⟨b1, b2, b3.trans v2, by rw [b4, show k + 1 + m = k + (m + 1) by omega], ?_, fun q q1 q2 => ?_, fun q hq => by rw [b7 q (by omega), o47 q (by omega)], fun g j x y z => by rw [b8 g j x y z, oo g j x y z]⟩
            · rw [b5, v40, bwT, d1, d3, c1, s1, nc (by omega), nc (by omega)]
            · by_cases cq : q = k
              · subst cq
                exact ⟨c, s, c2, c3, s2, s3, by rw [d1]; exact c1, by rw [d3]; exact s1, by rw [b7 q (by omega)]; exact v47⟩
              · exact b6 q (by omega) (by omega)
          · exact Or.inr hB
        by_cases cm : m = 0
        · rw [if_pos cm] at go
          rw [if_neg (by rw [q47, d8]; omega), vK, vK, nI_1]
          exact go
        · rw [if_neg cm] at go
          rw [if_pos (by rw [q47, d8]; omega), vK, vK, nI_1]
          exact go
      · have w2 : whS t (2 * k + 1) S = flT S 3 (nI (xP X (i + 4 * k + 2))) := by
          unfold whS
          rw [d3, s1, if_neg (by decide), d4]
        have B1 : BfR (flT S 3 (nI (xP X (i + 4 * k + 2)))) (ntS T' 3 (nI (xP X (i + 4 * k + 2)))) := bf_nt hs htt (by decide)
        rw [s4, bis, show (1 : Int32) = nI 1 from rfl]
        exact nxt _ c 1 (FwH.nt hW) c2 (by omega) (by omega) (by omega) (by rw [ew2, w2, wh_bad _ _ _ B1.1]; exact B1)
    · have w1 : whS t (2 * k) S = flT S 3 (nI (xP X (i + 4 * k))) := by
        unfold whS
        rw [d1, c1, if_neg (by decide), d2]
      have B1 : BfR (flT S 3 (nI (xP X (i + 4 * k)))) (ntS T' 3 (nI (xP X (i + 4 * k)))) := bf_nt hs htt (by decide)
      have f1 : FwH T' (ntS T' 3 (nI (xP X (i + 4 * k)))) := FwH.nt hW
      rw [c4, bis]
      obtain ⟨s, T2, s1, s2, s3, s4, _⟩ := a_own (nf := nf) (d := d) (i := i + 4 * k + 2) hX hnf (hT.fh f1) (hR.fh f1) f1.2.2.1 (by omega) (by omega)
      rw [s1, bis, show (1 : Int32) = nI 1 from rfl]
      exact nxt T2 1 s (f1.tr s4) (by omega) (by omega) s2 s3 (by rw [ew, w1, wh_bad _ _ _ B1.1]; exact B1.kp s4)
end CBW
