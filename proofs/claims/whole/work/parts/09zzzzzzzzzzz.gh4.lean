/-! both heaps: regions end -/
section GH4
variable {G G' : GH} {D D' : Nat → (Nat → AV) × Nat} {M M' T T' : gSt} {nf d nb nb' mk na na' ng ng' P W a b c i j p q r s t k n m tg : Nat} {rg rg' : Nat → Nat} {v : AV} {g : List Nat} {x y z w : Int32} {ch : Nat → List Nat} {fr : List Nat} {f h : Nat → Nat}
theorem sm_add : ∀ n, sm (fun o => f o + h o) n = sm f n + sm h n := by
  intro n
  induction n with
  | zero => rfl
  | succ n ih => rw [sm, sm, sm, ih]; omega
theorem sm_sw {g : Nat → Nat → Nat} : ∀ (n m : Nat), sm (fun p => sm (fun j => g p j) n) m = sm (fun j => sm (fun p => g p j) m) n := by
  intro n m
  induction m with
  | zero =>
    exact (sm_0 n (fun o _ => rfl)).symm
  | succ m ih =>
    rw [sm, ih, ← sm_add]
    exact sm_eq n (fun o _ => by rw [sm])
theorem sm_one : ∀ n, (∀ j, j < n → f j = if j = a then 1 else 0) → sm f n = if a < n then 1 else 0 := by
  intro n
  induction n with
  | zero => intro _; rw [sm, if_neg (by omega)]
  | succ n ih =>
    intro h
    rw [sm, ih (fun j hj => h j (by omega)), h n (by omega)]
    by_cases c : a < n
    · rw [if_pos c, if_neg (by omega), if_pos (by omega)]
    · rw [if_neg c]
      by_cases c2 : n = a
      · rw [if_pos c2, if_pos (by omega)]
      · rw [if_neg c2, if_neg (by omega)]
theorem clN_sm : ∀ n, clN T t n = sm (fun p => if nI t ≤ T.1 116 p then 1 else 0) n := by
  intro n
  induction n with
  | zero => rfl
  | succ n ih => rw [clN, sm, ih]
/-- the pages of regions t to t + n -/
theorem cl_sum (ho : ∀ p, p < P → T.1 116 p = -1 ∨ ∃ j, j < t + n ∧ T.1 116 p = nI j) (hn : t + n < 1000) : clN T t P = sm (fun j => pgN T P (t + j)) n := by
  rw [clN_sm]
  unfold pgN
  rw [← sm_sw]
  refine sm_eq P (fun p hp => ?_)
  rcases ho p hp with e | ⟨i, hi, e⟩
  · rw [e, if_neg (by
      rw [Int32.le_iff_toInt_le, nI_toInt (show t < 2 ^ 31 by omega)]
      show ¬ (t : Int) ≤ -1
      omega)]
    rw [sm_0 n (fun j hj => if_neg (nI_neg1 (by omega)))]
  · rw [e]
    by_cases c : t ≤ i
    · rw [if_pos ((nI_leI (by omega) (by omega)).mpr c)]
      rw [sm_one (a := i - t) n (fun j hj => by
        by_cases c2 : j = i - t
        · rw [if_pos c2, if_pos (by rw [c2, show t + (i - t) = i by omega])]
        · rw [if_neg c2, if_neg (fun w => by
            have := nI_inj (by omega) (by omega) w
            omega)]), if_pos (by omega)]
    · rw [if_neg (fun w => c ((nI_leI (by omega) (by omega)).mp w))]
      rw [sm_0 n (fun j hj => if_neg (fun w => by
        have := nI_inj (by omega) (by omega) w
        omega))]
theorem sumP_nI (hj : ∀ j, j < n → M.1 133 (t + j) = nI (f j)) : sumP M t n = nI (sm f n) := by
  induction n with
  | zero => rfl
  | succ n ih =>
    rw [sumP, ih (fun j hj' => hj j (by omega)), hj n (by omega), sm, Nat.add_comm]
    exact (Int32.ofNat_add _ _).symm
theorem sm_le : ∀ n, (∀ j, j < n → f j ≤ h j) → sm f n ≤ sm h n := by
  intro n
  induction n with
  | zero => intro _; exact Nat.le_refl _
  | succ n ih => intro w; have := ih (fun j hj => w j (by omega)); have := w n (by omega); rw [sm, sm]; omega
theorem sm_c : ∀ n, sm (fun _ => 1) n = n := by
  intro n
  induction n with
  | zero => rfl
  | succ n ih => rw [sm, ih]
theorem pgU_le : pgU T P ≤ P := by
  unfold pgU
  have := sm_le (f := fun p => if T.1 116 p = -1 then 0 else 1) (h := fun _ => 1) P (fun j _ => by split <;> omega)
  rw [sm_c] at this
  exact this
/-- regions from t on end -/
theorem HpI.close (h : HpI G D nb mk rg na ng P W M T) (ht : 1 ≤ t) (htn : t ≤ na) (hnf : 4097 < nf) (hd : 1 ≤ d) (hT : ∀ k, 114 ≤ k → k ≤ 127 → k ≠ 116 → k ≠ 119 → k ≠ 122 → T'.1 k = T.1 k) (h116 : ∀ p, p < P → T'.1 116 p = if nI t ≤ T.1 116 p then -1 else T.1 116 p) (h119 : T'.1 119 0 = T.1 119 0 - nI (clN T t P)) (h122 : T'.1 122 0 = nI t) : wp (RR nf d 109 M [nI t] []) (fun _ _ M' => HpI G D nb mk rg t ng P W M' T' ∧ SkA M M' t (na - t)) := by
  obtain ⟨⟨h1, h1b, h1c, h1d, h1e, h1f, h1g⟩, ⟨p1, p2, p3, p4, p5, p6⟩, ⟨h3, h3b, h3c, h3d, h3e, h3f⟩, ⟨ch, fr, h4, h5, h6⟩, h7, h8⟩ := h
  have ena : t + (na - t) = na := by omega
  refine wp_mono (x_shrink (T := M) (t := t) (n := na - t) (ch := ch) (fr := fr) hnf (by omega) (by rw [ena]; exact h4) (by rw [ena]; exact h1) (fun j _ j2 => ?_) hd) ?_
  · obtain ⟨pg, u, w, m, nx, r1, r2, r3, r4, r5, r6, r7, r8, r9, r10, r11, _⟩ := h5 j (by omega)
    exact ⟨m, r6, by omega, r11⟩
  intro _ _ M' ⟨⟨fr', hH⟩, hS⟩
  refine ⟨?_, hS⟩
  obtain ⟨s1, s2, s3, s4, s5, s6, s7⟩ := hS
  -- owners
  have own : ∀ p, p < P → ∀ j, j < t → (T'.1 116 p = nI j ↔ T.1 116 p = nI j) := fun p hp j hj => by
    rw [h116 p hp]
    by_cases c : nI t ≤ T.1 116 p
    · rw [if_pos c]
      constructor
      · intro w; exact absurd w (nI_neg1 (by omega))
      · intro w
        rw [w] at c
        have := (nI_leI (a := t) (b := j) (by omega) (by omega)).mp c
        omega
    · rw [if_neg c]
  have en : ∀ j, j < t → pgN T' P j = pgN T P j := fun j hj => by
    unfold pgN
    refine sm_eq P (fun p hp => ?_)
    by_cases c : T.1 116 p = nI j
    · rw [if_pos c, if_pos ((own p hp j hj).mpr c)]
    · rw [if_neg c, if_neg (fun w => c ((own p hp j hj).mp w))]
  have le1 : ∀ p, p < P → T.1 116 p = -1 → ¬ nI t ≤ T.1 116 p := fun p hp w => by
    rw [w, Int32.le_iff_toInt_le, nI_toInt (show t < 2 ^ 31 by omega)]
    show ¬ (t : Int) ≤ -1
    omega
  have eu : pgU T' P + clN T t P = pgU T P := by
    rw [clN_sm]
    unfold pgU
    rw [← sm_add]
    refine sm_eq P (fun p hp => ?_)
    rw [h116 p hp]
    by_cases c0 : T.1 116 p = -1
    · rw [if_neg (le1 p hp c0), if_pos c0, if_neg (le1 p hp c0)]
    · by_cases c : nI t ≤ T.1 116 p
      · rw [if_pos c, if_pos rfl, if_pos c, if_neg c0]
      · rw [if_neg c, if_neg c0, if_neg c]
  have cs := cl_sum (T := T) (P := P) (t := t) (n := na - t) (fun p hp => by rw [ena]; exact p6 p hp) (by omega)
  have sp : sumP M t (na - t) = nI (clN T t P) := by
    rw [cs]
    refine sumP_nI (fun j hj => ?_)
    obtain ⟨pg, u, w, m, nx, r1, r2, r3, r4, r5, r6, r7, r8, r9, _⟩ := h5 (t + j) (by omega)
    rw [r9]
    exact r1
  have pl := pgU_le (T := T) (P := P)
  have hP := p3.2.1
  have e138 : ∀ q, q < 4096 → ∀ j, j < t → ((¬ M'.1 138 q = 0 ∧ M'.1 141 q = nI j) ↔ (¬ M.1 138 q = 0 ∧ M.1 141 q = nI j)) := fun q hq j hj => by
    rw [s1 141 (by omega) (by omega) (by omega) (by omega) (by omega) (by omega)]
    constructor
    · intro w
      exact ⟨fun e => w.1 (s6 q e), w.2⟩
    · intro w
      exact ⟨by rw [s5 q j hq w.1 w.2 hj]; exact w.1, w.2⟩
  have so : ∀ k, k ≠ 129 → k ≠ 132 → k ≠ 136 → k ≠ 138 → k ≠ 143 → k ≠ 149 → M'.1 k = M.1 k := s1
  have otc : ∀ r s, ot rg na ng r s → ot rg t ng r s := fun r s w => w.cl h1e htn
  refine ⟨⟨s2, h122, ht, by omega, fun i j a b => h1e i j a (by omega), fun i hi => h1f i (by omega), h1g⟩, ⟨by rw [so 130 (by omega) (by omega) (by omega) (by omega) (by omega) (by omega)]; exact p1, by rw [so 131 (by omega) (by omega) (by omega) (by omega) (by omega) (by omega)]; exact p2, p3.eq (hT 117 (by omega) (by omega) (by omega) (by omega) (by omega)) (hT 118 (by omega) (by omega) (by omega) (by omega) (by omega)), ?_, ?_, fun p hp => ?_⟩, ⟨by rw [so 137 (by omega) (by omega) (by omega) (by omega) (by omega) (by omega)]; exact h3, h3b, h3c, by rw [so 105 (by omega) (by omega) (by omega) (by omega) (by omega) (by omega)]; exact h3d, by rw [hT 120 (by omega) (by omega) (by omega) (by omega) (by omega)]; exact h3e, h3f⟩, ⟨ch, fr', hH, fun j hj => ?_, fun b i b1 b2 hi he => ?_⟩, fun b i b1 b2 hi he => ⟨?_, ?_⟩, fun b c b1 b2 c1 c2 hbc ⟨i, hi, e1⟩ ⟨j, hj, e2⟩ => h8 b c b1 b2 c1 c2 hbc ⟨i, by omega, e1⟩ ⟨j, by omega, e2⟩⟩
  · rw [h119, p4, ← eu, show nI (pgU T' P + clN T t P) = nI (pgU T' P) + nI (clN T t P) from Int32.ofNat_add _ _]
    exact Int32.add_sub_cancel _ _
  · rw [s3, p5, sp, show P - pgU T' P = (P - pgU T P) + clN T t P by omega]
    exact (Int32.ofNat_add _ _).symm
  · rw [h116 p hp]
    rcases p6 p hp with w | ⟨j, w1, w2⟩
    · rw [if_neg (le1 p hp w)]
      exact Or.inl w
    · by_cases c : nI t ≤ T.1 116 p
      · rw [if_pos c]
        exact Or.inl rfl
      · rw [if_neg c]
        refine Or.inr ⟨j, ?_, w2⟩
        rw [w2] at c
        exact Nat.lt_of_not_le (fun q => c ((nI_leI (by omega) (by omega)).mpr q))
  · obtain ⟨pg, u, w, m, nx, r1, r2, r3, r4, r5, r6, r7, r8, r9, r10, r11, r12, r13, r14, r15⟩ := h5 j (by omega)
    have ec : cR M' j 4096 0 = cR M j 4096 0 := cR_eq 4096 0 (fun q _ q2 => e138 q (by omega) j hj)
    have eus : usR M' ch j = usR M ch j := by
      unfold usR
      refine sm_eq 4096 (fun q hq => ?_)
      by_cases c : ¬ M.1 138 q = 0 ∧ M.1 141 q = nI j
      · rw [if_pos c, if_pos ((e138 q hq j hj).mpr c)]
      · rw [if_neg c, if_neg (fun w => c ((e138 q hq j hj).mp w))]
    refine ⟨pg, u, w, m, nx, by rw [so 133 (by omega) (by omega) (by omega) (by omega) (by omega) (by omega)]; exact r1, by rw [hT 123 (by omega) (by omega) (by omega) (by omega) (by omega)]; exact r2, by rw [so 134 (by omega) (by omega) (by omega) (by omega) (by omega) (by omega)]; exact r3, by rw [so 135 (by omega) (by omega) (by omega) (by omega) (by omega) (by omega)]; exact r4, by rw [hT 124 (by omega) (by omega) (by omega) (by omega) (by omega)]; exact r5, by rw [s4 j hj]; exact r6, by rw [hT 125 (by omega) (by omega) (by omega) (by omega) (by omega)]; exact r7, r8, by rw [en j hj]; exact r9, r10, by rw [ec]; exact r11, by rw [eus]; exact r12, by rw [hT 126 (by omega) (by omega) (by omega) (by omega) (by omega)]; exact r13, r14, ?_⟩
    by_cases c : pg = 0
    · rw [if_pos c] at r15 ⊢
      rw [hT 127 (by omega) (by omega) (by omega) (by omega) (by omega)]
      exact r15
    · rw [if_neg c] at r15 ⊢
      rw [hT 127 (by omega) (by omega) (by omega) (by omega) (by omega)]
      obtain ⟨t1, t2, p, t3, t4, t5⟩ := r15
      exact ⟨t1, t2, p, t3, (own p t3 j hj).mpr t4, t5⟩
  · obtain ⟨r1, r2, r3, r4, r5, r6⟩ := h6 b i b1 b2 (by omega) he
    have b0 : ¬ M.1 138 (gOb G b) = 0 := by rw [r2]; exact nI_n0 b1 (by omega)
    unfold RhO
    rw [s5 _ i r1 b0 r3 hi, so 141 (by omega) (by omega) (by omega) (by omega) (by omega) (by omega), so 142 (by omega) (by omega) (by omega) (by omega) (by omega) (by omega), so 144 (by omega) (by omega) (by omega) (by omega) (by omega) (by omega), so 145 (by omega) (by omega) (by omega) (by omega) (by omega) (by omega), so 146 (by omega) (by omega) (by omega) (by omega) (by omega) (by omega), so 147 (by omega) (by omega) (by omega) (by omega) (by omega) (by omega), so 148 (by omega) (by omega) (by omega) (by omega) (by omega) (by omega)]
    exact ⟨r1, r2, r3, r4, r5, r6⟩
  · obtain ⟨r1, r2, r3, r4, r5, r6⟩ := (h7 b i b1 b2 (by omega) he).1
    unfold ChO
    rw [hT 114 (by omega) (by omega) (by omega) (by omega) (by omega), hT 115 (by omega) (by omega) (by omega) (by omega) (by omega), hT 126 (by omega) (by omega) (by omega) (by omega) (by omega), hT 127 (by omega) (by omega) (by omega) (by omega) (by omega)]
    refine ⟨r1, r2, fun j hj => ?_, r4, r5, r6⟩
    have : (gAd G b + j) / W < P := (Nat.div_lt_iff_lt_mul (by have := p3.2.2.2.1; omega)).mpr (by omega)
    exact (own _ this i hi).mpr (r3 j hj)
  · obtain ⟨q1, q2, q3, q4, q5, q6⟩ := (h7 b i b1 b2 (by omega) he).2
    exact ⟨q1, q2, q3, q4, q5, fun p hp => (q6 p hp).mo (fun _ _ => rfl) (Nat.le_refl _) otc⟩
end GH4
