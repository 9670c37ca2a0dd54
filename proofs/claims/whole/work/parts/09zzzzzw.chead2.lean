/-! the class checks a head, whatever there is: all of it -/
section CHB
variable {T T' T1 : gSt} {X : Lx} {nf d i k n m t e : Nat} {x : Int32}
abbrev HaQ (T : gSt) (t n : Nat) (T' : gSt) : Prop := FhK t T T' ∧ (∀ q, q < n → ∃ y, T'.1 44 (8 * t + q) = nI y ∧ tyY T' y) ∧ ∃ y, T'.1 38 t = nI y ∧ tyY T' y
theorem a_75 (hX : XO X) (hnf : 16385 ≤ nf) (ht : t < 24) (hd : 60 ≤ d) (he : e ≤ 3) (hi : i + e < xn X) : ∀ (m k fl : Nat) (T : gSt), m + k = e + 1 → 1 ≤ k → m < fl → TkC X T → WI T → WR T → WT T → WH X T t n → T.1 31 t = nI e → wp (rl_Heads_checkHead_75 (PP nf d) nf fl T (nI t) (nI i) (nI k)) (fun _ _ T' => HaQ T t n T') := by
  have hxn := hX.1
  have ct : (nI t).toNatClampNeg = t := nc (by omega)
  have zt : inb (nI t) 24 := nin ht (by omega)
  intro m
  induction m with
  | zero =>
    intro k fl T e1 e2 e3 hT hI hR hW hH h31
    obtain ⟨fl, rfl⟩ : ∃ g, fl = g + 1 := ⟨fl - 1, by omega⟩
    rw [rl_Heads_checkHead_75]
    simp only [gd, if_pos zt, ct, h31]
    rw [if_pos (show nI e < nI k from (nI_ltI (by omega) (by omega)).mpr (by omega))]
    exact a_htl hX hnf ht hd hT hI hR hW hH
  | succ m ih =>
    intro k fl T e1 e2 e3 hT hI hR hW hH h31
    obtain ⟨fl, rfl⟩ : ∃ g, fl = g + 1 := ⟨fl - 1, by omega⟩
    have hR' := hR
    obtain ⟨rn', r1, r2, r3⟩ := hR
    obtain ⟨d1, hd1⟩ : ∃ g, d = g + 1 := ⟨d - 1, by omega⟩
    rw [rl_Heads_checkHead_75]
    simp only [gd, if_pos zt, ct, h31]
    rw [if_neg (fun w => by
      have := (nI_ltI (by omega) (by omega)).mp w
      omega), show nI i + nI k = nI (i + k) from (Int32.ofNat_add _ _).symm, show PP nf d 27 T [nI (i + k)] [] = some (0, xN X (i + k), T) by rw [hd1]; exact c_name hX hT (by omega), bis, c_findRegion (by omega) r1 r3 r2 (by omega), bis]
    generalize (if xN X (i + k) = 72 then (0 : Int32) else ff (isRk T (xN X (i + k))) 1 (rn' - 1)) = rv
    split
    · rw [vK, nI_1]
      exact ih (k + 1) fl T (by omega) (by omega) (by omega) hT hI hR' hW hH h31
    · rw [show PP nf d 26 T [nI (i + k)] [] = some (nI (xP X (i + k)), 0, T) by rw [hd1]; exact c_start hX hT (by omega), bis, c_note (by omega), bis, vK, nI_1]
      have f1 : FwH T (ntS T 2 (nI (xP X (i + k)))) := FwH.nt hW
      refine wp_mono (ih (k + 1) fl _ (by omega) (by omega) (by omega) (hT.fh f1) (hI.fh f1) (hR'.fh f1) f1.2.2.1 (hH.hk (f1.hk (t := t))) (by rw [f1.1 31 (by omega) (by omega)]; exact h31)) ?_
      intro _ _ T' ⟨a, b, c⟩
      exact ⟨f1.hk.tr a, b, c⟩
/-- checkHead, whatever there is -/
theorem a_head (hX : XO X) (hnf : 16385 ≤ nf) (ht : t < 24) (hd : 61 ≤ d) (hT : TkC X T) (hI : WI T) (hW : WT T) (hH : WH X T t n) : wp (PP nf d 128 T [nI t] []) (fun _ _ T' => HaQ T t n T') := by
  obtain ⟨d, rfl⟩ : ∃ g, d = g + 1 := ⟨d - 1, by omega⟩
  have hxn := hX.1
  have ct : (nI t).toNatClampNeg = t := nc (by omega)
  have zt : inb (nI t) 24 := nin ht (by omega)
  have hH' := hH
  obtain ⟨hP, i, e, rt, dt, wt, h1, h2, h3, h4, _⟩ := hH
  rw [e_Heads_checkHead]
  unfold rb_Heads_checkHead
  simp only [gd, if_pos zt, ct, vK, h1]
  -- from enterHead on
  have go : ∀ T1, FwH T T1 → wp (bi (PP nf d 101 T1 [nI t] []) fun r8 l8 T8 => rl_Heads_checkHead_75 (PP nf d) nf nf T8 (nI t) (nI i) 1) (fun _ _ T' => HaQ T t n T') := by
    intro T1 f1
    refine wp_bi (c_enterHead (nf := nf) (d := d) (t := t) (e := e) (i := i) hX (hT.fh f1) (by omega) ht h3 h4 (by rw [f1.1 31 (by omega) (by omega)]; exact h2) (by rw [f1.1 29 (by omega) (by omega)]; exact h1) (by omega)) ?_
    intro _ _ T2 ⟨b1, b2, b3, b4, b5, b6, b7, b8, b9⟩
    have w2 := f1.2.2.1.ag2 (T' := T2) (funext fun j => b8 62 j (by omega) (by omega)) (b8 63 0 (by omega) (by omega)) (by rw [b7 27 (by omega) (by omega) (by omega) (by omega) (by omega)])
    have k2 : FhK t T1 T2 := ⟨fun k j _ _ c d e f g _ _ _ _ => by rw [b7 k c d e f g], fun q j _ a b => b8 q j (by omega) b, w2.1, w2.2, fun _ => ⟨by rw [b7 53 (by omega) (by omega) (by omega) (by omega) (by omega)], by rw [b7 54 (by omega) (by omega) (by omega) (by omega) (by omega)]⟩⟩
    have k12 : FhK t T T2 := f1.hk.tr k2
    refine wp_mono (a_75 (n := n) (nf := nf) (d := d) hX hnf ht (by omega) h3 h4 e 1 nf T2 (by omega) (by omega) (by omega) (hT.hk k12) (hI.hk k12) ⟨4, b3, by omega, by omega⟩ w2.1 (hH'.hk k12) (by rw [b7 31 (by omega) (by omega) (by omega) (by omega) (by omega), f1.1 31 (by omega) (by omega)]; exact h2)) ?_
    intro _ _ T' ⟨c1, c2, c3⟩
    exact ⟨k12.tr c1, c2, c3⟩
  obtain ⟨n', n1, n2⟩ := hI
  have g42 : ∀ fn : Bool, wp (rj_Heads_checkHead_42 (PP nf d) nf T (nI t) (nI i) (if fn = true then 1 else 0) (T.2 30 t)) (fun _ _ T' => HaQ T t n T') := by
    intro fn
    unfold rj_Heads_checkHead_42
    rw [c_find (fn := fn) (by omega) n1 n2 rfl (by omega), bis]
    obtain ⟨d1, hd1⟩ : ∃ g, d = g + 1 := ⟨d - 1, by omega⟩
    split
    · exact go T (FwH.rf hW)
    · rw [show PP nf d 26 T [nI i] [] = some (nI (xP X i), 0, T) by rw [hd1]; exact c_start hX hT (by omega), bis, c_note (by omega), bis]
      exact go _ (FwH.nt hW)
  split
  · exact g42 true
  · exact g42 false
end CHB
