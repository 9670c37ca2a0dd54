/-! the class reads what where tells, whatever there is -/
section CWI
variable {T T' T1 : gSt} {X : Lx} {nf d i k n m t p : Nat} {x y x3 : Int32}
theorem mul3 (ht : t < 24) (hp : p < 3) : nI t * 3 + nI p = nI (3 * t + p) := by
  rw [show (3 : Int32) = nI 3 from rfl, nI_mul, show nI (t * 3) + nI p = nI (t * 3 + p) from (Int32.ofNat_add _ _).symm, show t * 3 + p = 3 * t + p by omega]
theorem c_addPair (hp : T.1 46 t = nI p) (ht : t < 24) (hp3 : p < 3) (hd : 1 ≤ d) : PP nf d 41 T [nI t, x, y] [] = some (0, 0, sI (sI T 47 (3 * t + p) ((x <<< ((2 : Int32) &&& 31)) ||| y)) 46 t (nI (p + 1))) := by
  obtain ⟨d, rfl⟩ : ∃ g, d = g + 1 := ⟨d - 1, by omega⟩
  have ct : (nI t).toNatClampNeg = t := nc (by omega)
  have zt : inb (nI t) 24 := nin ht (by omega)
  rw [e_Items_addPair]
  unfold rb_Items_addPair
  simp only [gd, if_pos zt, ct, hp]
  rw [if_neg (fun w => by
    have := (nI_leI (a := 3) (b := p) (by omega) (by omega)).mp w
    omega), mul3 ht hp3, if_pos (nin (by omega) (by omega)), nc (by omega), stK, stK, sI_ne (by omega), hp, nI_1]
theorem a_wl (hX : XO X) (hnf : 20 ≤ nf) (ht : t < 24) (hd : 4 ≤ d) : ∀ (m k fl i : Nat) (T : gSt) (x3 : Int32), m + k = 3 → m < fl → i + 4 * m < 90000 → TkC X T → WR T → WT T → T.1 46 t = nI k → wp (rl_Heads_readWhere_53 (PP nf d) nf fl T (nI t) (nI i) x3 (nI k)) (fun _ _ T' => FwK t T T') := by
  have ct : (nI t).toNatClampNeg = t := nc (by omega)
  have zt : inb (nI t) 24 := nin ht (by omega)
  have endw : ∀ (T : gSt), WT T → wp (bi (PP nf d 133 T [T.1 40 t] []) fun r9 l9 T9 => stK (sI T9 40 t r9) fun T10 => some (0, 0, T10)) (fun _ _ T' => FwK t T T') := fun T hW => by
    rw [c_closed (by omega) (by omega), bis, stK]
    exact wp_some (FwK.wr hW (Or.inl ⟨by omega, by omega, rfl⟩))
  intro m
  induction m with
  | zero =>
    intro k fl i T x3 e1 e2 hi hT hR hW hp
    obtain ⟨fl, rfl⟩ : ∃ g, fl = g + 1 := ⟨fl - 1, by omega⟩
    rw [rl_Heads_readWhere_53, if_pos (show (3 : Int32) ≤ nI k by rw [show k = 3 by omega]; decide)]
    simp only [gd, if_pos zt, ct]
    exact endw T hW
  | succ m ih =>
    intro k fl i T x3 e1 e2 hi hT hR hW hp
    obtain ⟨fl, rfl⟩ : ∃ g, fl = g + 1 := ⟨fl - 1, by omega⟩
    rw [rl_Heads_readWhere_53, if_neg (fun w => by
      have := (nI_leI (a := 3) (b := k) (by omega) (by omega)).mp w
      omega)]
    simp only [gd, if_pos zt, ct]
    by_cases c : x3 = 0
    · rw [if_pos c]
      exact endw T hW
    rw [if_neg c, show nI i + 2 = nI (i + 2) from (Int32.ofNat_add i 2).symm, show nI i + 3 = nI (i + 3) from (Int32.ofNat_add i 3).symm, show nI i + 4 = nI (i + 4) from (Int32.ofNat_add i 4).symm]
    obtain ⟨r, T1, r1, r2, r3, r4, r5⟩ := a_own (nf := nf) (d := d) (i := i) hX hnf hT hR hW (by omega) (by omega)
    rw [r1, bis]
    obtain ⟨s, T2, s1, s2, s3, s4, s5⟩ := a_own (nf := nf) (d := d) (i := i + 2) hX hnf (hT.fh r4) (hR.fh r4) r4.2.2.1 (by omega) (by omega)
    rw [s1, bis, c_above r2 (by omega) s2 (by omega) (by omega), bis, stK]
    have f2 : FwH T T2 := r4.tr s4
    have f3 : FwK t T (sI T2 40 t (T2.1 40 t ||| ((1 : Int32) <<< (nI (abN r s) &&& 31)))) := f2.fk.tr (FwK.wr f2.2.2.1 (Or.inl ⟨by omega, by omega, rfl⟩))
    have p3 : (sI T2 40 t (T2.1 40 t ||| ((1 : Int32) <<< (nI (abN r s) &&& 31)))).1 46 t = nI k := by rw [sI_ne (by omega), f2.1 46 (by omega) (by omega)]; exact hp
    generalize sI T2 40 t (T2.1 40 t ||| ((1 : Int32) <<< (nI (abN r s) &&& 31))) = T3 at *
    rw [c_addPair p3 ht (by omega) (by omega), bis]
    have f4 : FwK t T (sI (sI T3 47 (3 * t + k) ((nI r <<< ((2 : Int32) &&& 31)) ||| nI s)) 46 t (nI (k + 1))) := (f3.tr (FwK.wr f3.2.2.1 (Or.inr (Or.inr ⟨rfl, by omega, by omega⟩)))).tr (FwK.wr (FwK.wr (t := t) (x := ((nI r <<< ((2 : Int32) &&& 31)) ||| nI s)) f3.2.2.1 (Or.inr (Or.inr ⟨rfl, by omega, by omega⟩))).2.2.1 (Or.inr (Or.inl ⟨rfl, rfl⟩)))
    have p4 : (sI (sI T3 47 (3 * t + k) ((nI r <<< ((2 : Int32) &&& 31)) ||| nI s)) 46 t (nI (k + 1))).1 46 t = nI (k + 1) := sI_v
    generalize sI (sI T3 47 (3 * t + k) ((nI r <<< ((2 : Int32) &&& 31)) ||| nI s)) 46 t (nI (k + 1)) = T4 at *
    have hT4 := hT.fk f4
    obtain ⟨d1, hd1⟩ : ∃ g, d = g + 1 := ⟨d - 1, by omega⟩
    rw [show PP nf d 25 T4 [nI (i + 3)] [] = some (nI (xK X (i + 3)), 0, T4) by rw [hd1]; exact c_kind hX hT4 (by omega), bis]
    have go : ∀ z, wp (rl_Heads_readWhere_53 (PP nf d) nf fl T4 (nI t) (nI (i + 4)) z (nI (k + 1))) (fun _ _ T' => FwK t T T') := fun z => by
      refine wp_mono (ih (k + 1) fl (i + 4) T4 z (by omega) (by omega) (by omega) hT4 (hR.fk f4) f4.2.2.1 p4) ?_
      intro _ _ T' h
      exact f4.tr h
    split
    · rw [vK, vK, nI_1]
      exact go 1
    · rw [vK, vK, nI_1]
      exact go 0
theorem a_where (hX : XO X) (hnf : 20 ≤ nf) (ht : t < 24) (h35 : T.1 35 t = nI i) (hi : i < 80000) (hT : TkC X T) (hR : WR T) (hW : WT T) (hd : 5 ≤ d) : wp (PP nf d 132 T [nI t] []) (fun _ _ T' => FwK t T T') := by
  obtain ⟨d, rfl⟩ : ∃ g, d = g + 1 := ⟨d - 1, by omega⟩
  have ct : (nI t).toNatClampNeg = t := nc (by omega)
  have zt : inb (nI t) 24 := nin ht (by omega)
  rw [e_Heads_readWhere]
  unfold rb_Heads_readWhere
  simp only [gd, if_pos zt, ct, stK, vK]
  have f1 : FwK t T (sI T 40 t 0) := FwK.wr hW (Or.inl ⟨by omega, by omega, rfl⟩)
  have f2 : FwK t T (sI (sI T 40 t 0) 46 t 0) := f1.tr (FwK.wr f1.2.2.1 (Or.inr (Or.inl ⟨rfl, rfl⟩)))
  have p2 : (sI (sI T 40 t 0) 46 t 0).1 46 t = nI 0 := sI_v
  have q2 : (sI (sI T 40 t 0) 46 t 0).1 35 t = nI i := by rw [sI_ne (by omega), sI_ne (by omega)]; exact h35
  generalize sI (sI T 40 t 0) 46 t 0 = T2 at *
  rw [q2, nI_1]
  have go : ∀ z, wp (rl_Heads_readWhere_53 (PP nf d) nf nf T2 (nI t) (nI (i + 1)) z 0) (fun _ _ T' => FwK t T T') := fun z => by
    refine wp_mono (a_wl (d := d) hX hnf ht (by omega) 3 0 nf (i + 1) T2 z (by omega) (by omega) (by omega) (hT.fk f2) (hR.fk f2) f2.2.2.1 p2) ?_
    intro _ _ T' h
    exact f2.tr h
  split
  · exact go 0
  · exact go 1
end CWI
