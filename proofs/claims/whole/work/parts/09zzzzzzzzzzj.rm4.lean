/-! the reference's heap: regions from t on end -/
def sumP (T : gSt) (t : Nat) : Nat → Int32
  | 0 => 0
  | n + 1 => T.1 133 (t + n) + sumP T t n
/-- regions t to A have ended -/
def SkA (T T' : gSt) (t n : Nat) : Prop := (∀ k, k ≠ 129 → k ≠ 132 → k ≠ 136 → k ≠ 138 → k ≠ 143 → k ≠ 149 → T'.1 k = T.1 k) ∧ T'.1 129 0 = nI t ∧ T'.1 132 0 = T.1 132 0 + sumP T t n ∧ (∀ j, j < t → T'.1 136 j = T.1 136 j) ∧ (∀ q r, q < 4096 → ¬ T.1 138 q = 0 → T.1 141 q = nI r → r < t → T'.1 138 q = T.1 138 q) ∧ (∀ q, T.1 138 q = 0 → T'.1 138 q = 0) ∧ T'.2 = T.2
section RM4
variable {T T' T1 : gSt} {nf d t a b c k n m i q s fl o h p e A A' r cnt : Nat} {w x y z v bb x1 x2 : Int32} {l fr fr' : List Nat} {ch : Nat → List Nat} {Q : Int32 → Int64 → gSt → Prop}
theorem sumP_eq (h : T'.1 133 = T.1 133) : ∀ n, sumP T' t n = sumP T t n := by
  intro n
  induction n with
  | zero => rfl
  | succ n ih => rw [sumP, sumP, ih, h]
theorem x_sh0 (hnf : 4097 < nf) : ∀ (n fl : Nat) (T : gSt) (fr : List Nat), n < fl → t + n ≤ 400 → Hr T (t + n) ch fr → T.1 129 0 = nI (t + n) → (∀ j, t ≤ j → j < t + n → ∃ m, T.1 136 j = nI m ∧ m < 2 ^ 31 ∧ cR T j 4096 0 ≤ m) → wp (rl_Model_shrink_0 (RR nf d) nf fl T (nI t)) (fun _ _ T' => (∃ fr', Hr T' t ch fr') ∧ SkA T T' t n) := by
  intro n
  induction n with
  | zero =>
    intro fl T fr h1 h2 hH h129 hc
    obtain ⟨fl, rfl⟩ : ∃ g, fl = g + 1 := ⟨fl - 1, by omega⟩
    rw [rl_Model_shrink_0, h129, if_pos (show nI (t + 0) ≤ nI t from (nI_leI (by omega) (by omega)).mpr (by omega))]
    exact wp_some ⟨⟨fr, hH⟩, fun _ _ _ _ _ _ _ => rfl, h129, (Int32.add_zero _).symm, fun _ _ => rfl, fun _ _ _ _ _ _ => rfl, fun _ w => w, rfl⟩
  | succ n ih =>
    intro fl T fr h1 h2 hH h129 hc
    obtain ⟨fl, rfl⟩ : ∃ g, fl = g + 1 := ⟨fl - 1, by omega⟩
    have zr : inb (nI (t + n)) 400 := nin (by omega) (by omega)
    rw [rl_Model_shrink_0, h129, if_neg (fun q => by
      have := (nI_leI (a := t + (n + 1)) (b := t) (by omega) (by omega)).mp q
      omega), stK, show t + (n + 1) = t + n + 1 by omega, nI_sub, sI_v, gd, if_pos zr, nc (by omega), sI_ne (by omega), sI_ne (by omega), stK]
    have eo : ∀ k, k ≠ 129 → k ≠ 132 → (sI (sI T 129 0 (nI (t + n))) 132 0 (T.1 132 0 + T.1 133 (t + n))).1 k = T.1 k := fun k k1 k2 => by rw [sI_ne k2, sI_ne k1]
    have e129 : (sI (sI T 129 0 (nI (t + n))) 132 0 (T.1 132 0 + T.1 133 (t + n))).1 129 0 = nI (t + n) := by rw [sI_ne (by omega), sI_v]
    have e132 : (sI (sI T 129 0 (nI (t + n))) 132 0 (T.1 132 0 + T.1 133 (t + n))).1 132 0 = T.1 132 0 + T.1 133 (t + n) := by rw [sI_v]
    have e2 : (sI (sI T 129 0 (nI (t + n))) 132 0 (T.1 132 0 + T.1 133 (t + n))).2 = T.2 := rfl
    generalize sI (sI T 129 0 (nI (t + n))) 132 0 (T.1 132 0 + T.1 133 (t + n)) = T1 at *
    have H1 : Hr T1 (t + (n + 1)) ch fr := hH.eq (fun k hk => eo k (by omega) (by omega)) (Nat.le_refl _)
    obtain ⟨m, m1, m2, m3⟩ := hc (t + n) (by omega) (by omega)
    have ec : ∀ j, cR T1 j 4096 0 = cR T j 4096 0 := fun j => cR_eq 4096 0 (fun q _ _ => by rw [eo 138 (by omega) (by omega), eo 141 (by omega) (by omega)])
    refine x_sh38 (A := t + (n + 1)) (ch := ch) (r := t + n) (by omega) hnf 4096 0 nf T1 fr m (by omega) (by omega) H1 e129 (by rw [eo 136 (by omega) (by omega)]; exact m1) m2 (by rw [ec]; exact m3) (fun q hq => absurd hq (Nat.not_lt_zero _)) ?_
    intro T2 fr2 H2 sf sg
    have o2 : ∀ k, k ≠ 136 → k ≠ 138 → k ≠ 143 → k ≠ 149 → T2.1 k = T1.1 k := sf.1
    have H2' : Hr T2 (t + n) ch fr2 := by
      obtain ⟨a1, a2⟩ := H2
      refine ⟨fun q hq hl => ?_, a2⟩
      obtain ⟨b1, b2, b3, b4, r, b5, b6⟩ := a1 q hq hl
      refine ⟨b1, b2, b3, b4, r, b5, ?_⟩
      have := sg.1 q hq hl
      rw [b5] at this
      have : r ≠ t + n := fun w => this (by rw [w])
      omega
    refine wp_mono (ih fl T2 fr2 (by omega) (by omega) H2' (by rw [o2 129 (by omega) (by omega) (by omega) (by omega)]; exact e129) (fun j j1 j2 => ?_)) ?_
    · obtain ⟨m', g1, g2, g3⟩ := hc j j1 (by omega)
      refine ⟨m', by rw [sf.2.1 j (by omega), eo 136 (by omega) (by omega)]; exact g1, g2, ?_⟩
      have : cR T2 j 4096 0 = cR T1 j 4096 0 := by
        refine cR_eq 4096 0 (fun q _ q2 => ?_)
        rw [o2 141 (by omega) (by omega) (by omega) (by omega)]
        constructor
        · intro ⟨w1, w2⟩
          exact ⟨fun e => w1 (sg.2.2 q e), w2⟩
        · intro ⟨w1, w2⟩
          refine ⟨?_, w2⟩
          rw [sg.2.1 q (by omega) w1 (fun e => by
            rw [w2] at e
            have := nI_inj (by omega) (by omega) e
            omega)]
          exact w1
      rw [this, ec]
      exact g3
    · intro _ _ T' ⟨hf, s1, s2, s3, s4, s5, s6, s7⟩
      refine ⟨hf, fun k k1 k2 k3 k4 k5 k6 => by rw [s1 k k1 k2 k3 k4 k5 k6, o2 k k3 k4 k5 k6, eo k k1 k2], s2, ?_, fun j hj => by rw [s4 j hj, sf.2.1 j (by omega), eo 136 (by omega) (by omega)], fun q r hq hl h141 hr => ?_, fun q hq => s6 q (sg.2.2 q (by rw [eo 138 (by omega) (by omega)]; exact hq)), by rw [s7, sf.2.2, e2]⟩
      · rw [s3, o2 132 (by omega) (by omega) (by omega) (by omega), e132, sumP_eq (T := T) (by rw [o2 133 (by omega) (by omega) (by omega) (by omega), eo 133 (by omega) (by omega)]), sumP, Int32.add_assoc]
      · have l1 : ¬ T1.1 138 q = 0 := by rw [eo 138 (by omega) (by omega)]; exact hl
        have h1' : T1.1 141 q = nI r := by rw [eo 141 (by omega) (by omega)]; exact h141
        have e1 : T2.1 138 q = T1.1 138 q := sg.2.1 q hq l1 (fun e => by
          rw [h1'] at e
          have := nI_inj (by omega) (by omega) e
          omega)
        rw [s5 q r hq (by rw [e1]; exact l1) (by rw [o2 141 (by omega) (by omega) (by omega) (by omega)]; exact h1') hr, e1, eo 138 (by omega) (by omega)]
theorem x_shrink (hnf : 4097 < nf) (hA : t + n ≤ 400) (hH : Hr T (t + n) ch fr) (h129 : T.1 129 0 = nI (t + n)) (hc : ∀ j, t ≤ j → j < t + n → ∃ m, T.1 136 j = nI m ∧ m < 2 ^ 31 ∧ cR T j 4096 0 ≤ m) (hd : 1 ≤ d) : wp (RR nf d 109 T [nI t] []) (fun _ _ T' => (∃ fr', Hr T' t ch fr') ∧ SkA T T' t n) := by
  obtain ⟨d, rfl⟩ : ∃ g, d = g + 1 := ⟨d - 1, by omega⟩
  rw [e_Model_shrink]
  unfold rb_Model_shrink
  exact x_sh0 hnf n nf T fr (by omega) hA hH h129 hc
end RM4
