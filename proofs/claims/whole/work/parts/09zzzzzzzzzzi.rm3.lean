/-! the reference's heap: regions end -/
/-- slots from i on whose home is region r -/
def cR (T : gSt) (r : Nat) : Nat → Nat → Nat
  | 0, _ => 0
  | n + 1, i => (if ¬ T.1 138 i = 0 ∧ T.1 141 i = nI r then 1 else 0) + cR T r n (i + 1)
/-- what the end of region r leaves as it was -/
def SkF (T T' : gSt) (r : Nat) : Prop := (∀ k, k ≠ 136 → k ≠ 138 → k ≠ 143 → k ≠ 149 → T'.1 k = T.1 k) ∧ (∀ j, j ≠ r → T'.1 136 j = T.1 136 j) ∧ T'.2 = T.2
/-- objects of region r are gone, the others are as they were -/
def SkG (T T' : gSt) (r : Nat) : Prop := (∀ q, q < 4096 → ¬ T'.1 138 q = 0 → ¬ T'.1 141 q = nI r) ∧ (∀ q, q < 4096 → ¬ T.1 138 q = 0 → ¬ T.1 141 q = nI r → T'.1 138 q = T.1 138 q) ∧ ∀ q, T.1 138 q = 0 → T'.1 138 q = 0
section RM3
variable {T T' T1 : gSt} {nf d t a b c k n m i q s fl o h p e A A' r cnt : Nat} {w x y z v bb x1 x2 : Int32} {l fr fr' : List Nat} {ch : Nat → List Nat} {Q : Int32 → Int64 → gSt → Prop}
theorem cR_eq : ∀ (n i : Nat), (∀ q, i ≤ q → q < i + n → ((¬ T'.1 138 q = 0 ∧ T'.1 141 q = nI r) ↔ (¬ T.1 138 q = 0 ∧ T.1 141 q = nI r))) → cR T' r n i = cR T r n i := by
  intro n
  induction n with
  | zero => intro i _; rfl
  | succ n ih =>
    intro i h
    rw [cR, cR, ih (i + 1) (fun q h1 h2 => h q (by omega) (by omega))]
    have := h i (by omega) (by omega)
    by_cases c : ¬ T.1 138 i = 0 ∧ T.1 141 i = nI r
    · rw [if_pos c, if_pos (this.mpr c)]
    · rw [if_neg c, if_neg (fun w => c (this.mp w))]
theorem cR_0 : ∀ (n i : Nat), cR T r n i = 0 → ∀ q, i ≤ q → q < i + n → ¬ (¬ T.1 138 q = 0 ∧ T.1 141 q = nI r) := by
  intro n
  induction n with
  | zero => intro i _ q h1 h2; omega
  | succ n ih =>
    intro i h q h1 h2 w
    rw [cR] at h
    by_cases e : q = i
    · rw [e] at w
      rw [if_pos w] at h
      omega
    · exact ih (i + 1) (by omega) q (by omega) (by omega) w
theorem SkF.rf : SkF T T r := ⟨fun _ _ _ _ _ => rfl, fun _ _ => rfl, rfl⟩
theorem SkF.tr (h : SkF T T1 r) (h2 : SkF T1 T' r) : SkF T T' r := ⟨fun k a b c d => (h2.1 k a b c d).trans (h.1 k a b c d), fun j a => (h2.2.1 j a).trans (h.2.1 j a), h2.2.2.trans h.2.2⟩
theorem x_sh38 {rec0 : gSt → Int32 → gR} (hr : r < 400) (hnf : 4097 < nf) : ∀ (n i fl : Nat) (T : gSt) (fr : List Nat) (cnt : Nat), n + i = 4096 → n < fl → Hr T A ch fr → T.1 129 0 = nI r → T.1 136 r = nI cnt → cnt < 2 ^ 31 → cR T r n i ≤ cnt → (∀ q, q < i → ¬ (¬ T.1 138 q = 0 ∧ T.1 141 q = nI r)) → (∀ T' fr', Hr T' A ch fr' → SkF T T' r → SkG T T' r → wp (rec0 T' x1) Q) → wp (rl_Model_shrink_38 (RR nf d) nf rec0 fl T x1 (nI i)) Q := by
  have zr : inb (nI r) 400 := nin hr (by omega)
  intro n
  induction n with
  | zero =>
    intro i fl T fr cnt h1 h2 hH h129 h136 hc hR hb hQ
    obtain ⟨fl, rfl⟩ : ∃ g, fl = g + 1 := ⟨fl - 1, by omega⟩
    rw [rl_Model_shrink_38, if_pos (show (4096 : Int32) ≤ nI i from (nI_leI (a := 4096) (by omega) (by omega)).mpr (by omega))]
    exact hQ T fr hH SkF.rf ⟨fun q hq w e => hb q (by omega) ⟨w, e⟩, fun _ _ _ _ => rfl, fun _ w => w⟩
  | succ n ih =>
    intro i fl T fr cnt h1 h2 hH h129 h136 hc hR hb hQ
    obtain ⟨fl, rfl⟩ : ∃ g, fl = g + 1 := ⟨fl - 1, by omega⟩
    have zi : inb (nI i) 4096 := nin (by omega) (by omega)
    rw [rl_Model_shrink_38, if_neg (fun q => by
      have := (nI_leI (a := 4096) (b := i) (by omega) (by omega)).mp q
      omega), h129, gd, if_pos zr, nc (by omega), h136]
    by_cases c0 : cnt = 0
    · rw [if_pos (show nI cnt ≤ 0 by rw [c0]; decide)]
      refine hQ T fr hH SkF.rf ⟨fun q hq w e => ?_, fun _ _ _ _ => rfl, fun _ w => w⟩
      by_cases qi : q < i
      · exact hb q qi ⟨w, e⟩
      · exact cR_0 (n + 1) i (by omega) q (by omega) (by omega) ⟨w, e⟩
    · rw [if_neg (fun q => by
        have := (nI_leI (a := cnt) (b := 0) (by omega) (by omega)).mp q
        omega), gd, if_pos zi, nc (show i < 100000 by omega)]
      rw [cR] at hR
      by_cases b0 : T.1 138 i = 0
      · rw [if_pos b0, vK, nI_1]
        rw [if_neg (fun w : ¬ T.1 138 i = 0 ∧ T.1 141 i = nI r => w.1 b0)] at hR
        exact ih (i + 1) fl T fr cnt (by omega) (by omega) hH h129 h136 hc (by omega) (fun q hq w => by
          by_cases e : q = i
          · rw [e] at w; exact w.1 b0
          · exact hb q (by omega) w) hQ
      · rw [if_neg b0, gd, if_pos zi]
        by_cases h141 : T.1 141 i = nI r
        · rw [if_pos (by rw [h141]), gd, if_pos zi, stK]
          rw [if_pos ⟨b0, h141⟩] at hR
          have e129 : (sI T 138 i 0).1 129 0 = nI r := by rw [sI_ne (by omega)]; exact h129
          have e136 : (sI T 138 i 0).1 136 r = nI cnt := by rw [sI_ne (by omega)]; exact h136
          obtain ⟨m, hm⟩ : ∃ m, cnt = m + 1 := ⟨cnt - 1, by omega⟩
          rw [e129, gd, if_pos zr, gd, if_pos zr, nc (by omega), e136, hm, nI_sub, stK, gd, if_pos zi, vK]
          have hSl := hH.1 i (by omega) b0
          have e139 : (sI (sI T 138 i 0) 136 r (nI m)).1 139 i = T.1 139 i := by rw [sI_ne (by omega), sI_ne (by omega)]
          have e149 : (sI (sI T 138 i 0) 136 r (nI m)).1 149 = T.1 149 := by rw [sI_ne (by omega), sI_ne (by omega)]
          have hlen : (ch i).length ≤ 4096 := by
            have u := sm_up (f := fun o => if o = i then 0 else usO T ch o) (g := usO T ch) (o := i) (n := 4096) (by omega) (fun p _ hp => if_neg hp)
            have u2 : usO T ch i = (ch i).length := by unfold usO; rw [if_neg b0]
            have u3 := hH.2.2.2.2.2
            rw [if_pos rfl] at u
            omega
          rw [e139, x_sh109 (ch i) (sI (sI T 138 i 0) 136 r (nI m)) (T.1 139 i) nf (by rw [e149]; exact hSl.1) hSl.2.2.2.1 (by omega), nI_1]
          have fo : ∀ k, k ≠ 136 → k ≠ 138 → k ≠ 143 → k ≠ 149 → (frT (ch i) (sI (sI T 138 i 0) 136 r (nI m))).1 k = T.1 k := fun k k1 k2 k3 k4 => by
            rw [frT_o k4 k3, sI_ne k1, sI_ne k2]
          have f138 : ∀ q, (frT (ch i) (sI (sI T 138 i 0) 136 r (nI m))).1 138 q = if q = i then 0 else T.1 138 q := fun q => by
            rw [frT_o (by omega) (by omega), sI_ne (by omega), rdI]
            by_cases e : q = i
            · rw [if_pos ⟨rfl, e⟩, if_pos e]
            · rw [if_neg (fun w => e w.2), if_neg e]
          have sk : SkF T (frT (ch i) (sI (sI T 138 i 0) 136 r (nI m))) r := ⟨fo, fun j hj => by rw [frT_o (by omega) (by omega), rdI, if_neg (fun w => hj w.2), sI_ne (by omega)], by rw [frT_2]; rfl⟩
          refine ih (i + 1) fl _ ((ch i).reverse ++ fr) m (by omega) (by omega) (hH.free (T1 := sI (sI T 138 i 0) 136 r (nI m)) (by omega) b0 (fun q => by
            rw [sI_ne (by omega), rdI]
            by_cases e : q = i
            · rw [if_pos ⟨rfl, e⟩, if_pos e]
            · rw [if_neg (fun w => e w.2), if_neg e]) (fun k hk => by rw [sI_ne (by omega), sI_ne (by omega)])) (by rw [fo 129 (by omega) (by omega) (by omega) (by omega)]; exact h129) (by rw [frT_o (by omega) (by omega), sI_v]) (by omega) ?_ (fun q hq w => ?_) (fun T' fr' g1 g2 g3 => hQ T' fr' g1 (sk.tr g2) ⟨g3.1, fun q hq w1 w2 => ?_, fun q w => ?_⟩)
          · rw [cR_eq (T := T) n (i + 1) (fun q q1 q2 => by rw [f138, if_neg (by omega), fo 141 (by omega) (by omega) (by omega) (by omega)])]
            omega
          · rw [f138, fo 141 (by omega) (by omega) (by omega) (by omega)] at w
            by_cases e : q = i
            · rw [if_pos e] at w; exact w.1 rfl
            · rw [if_neg e] at w; exact hb q (by omega) w
          · have qi : q ≠ i := fun e => by rw [e] at w2; exact w2 h141
            rw [g3.2.1 q hq (by rw [f138, if_neg qi]; exact w1) (by rw [fo 141 (by omega) (by omega) (by omega) (by omega)]; exact w2), f138, if_neg qi]
          · refine g3.2.2 q ?_
            rw [f138]
            by_cases e : q = i
            · rw [if_pos e]
            · rw [if_neg e]; exact w
        · rw [if_neg h141, vK, nI_1]
          rw [if_neg (fun w : ¬ T.1 138 i = 0 ∧ T.1 141 i = nI r => h141 w.2)] at hR
          exact ih (i + 1) fl T fr cnt (by omega) (by omega) hH h129 h136 hc (by omega) (fun q hq w => by
            by_cases e : q = i
            · rw [e] at w; exact h141 w.2
            · exact hb q (by omega) w) hQ
end RM3
