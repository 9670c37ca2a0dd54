/-! the class checks all heads, whatever there is -/
/-- what the check of heads from item t on leaves as it was -/
def FhB (t : Nat) (T T' : gSt) : Prop := (∀ k j, k ≠ 52 → k ≠ 53 → k ≠ 54 → k ≠ 67 → k ≠ 68 → k ≠ 72 → k ≠ 75 → k ≠ 76 → ¬ (38 ≤ k ∧ k ≤ 41 ∧ t ≤ j) → ¬ ((k = 44 ∨ k = 45) ∧ 8 * t ≤ j) → ¬ (k = 46 ∧ t ≤ j) → ¬ (k = 47 ∧ 3 * t ≤ j) → T'.1 k j = T.1 k j) ∧ (∀ q j, q ≠ 62 → q ≠ 73 → q ≠ 77 → T'.2 q j = T.2 q j) ∧ WT T' ∧ (∀ y, tyY T y → tyY T' y) ∧ (¬ T.1 53 0 = 0 → T'.1 53 0 = T.1 53 0 ∧ T'.1 54 0 = T.1 54 0)
section CCA
variable {T T' T1 : gSt} {X : Lx} {nf d i k n m t e s : Nat} {x : Int32} {z : It}
theorem FhK.b (h : FhK t T T') : FhB t T T' := ⟨fun k j _ b c d e f g l m n o p => h.1 k j b c d e f g l (by omega) (by omega) (by omega) (by omega), h.2.1, h.2.2.1, h.2.2.2.1, h.2.2.2.2⟩
theorem FhB.dn (h : FhB (t + 1) T T') : FhB t T T' := ⟨fun k j a b c d e f g l m n o p => h.1 k j a b c d e f g l (by omega) (by omega) (by omega) (by omega), h.2.1, h.2.2.1, h.2.2.2.1, h.2.2.2.2⟩
theorem FhB.tr (h : FhB t T T1) (h2 : FhB t T1 T') : FhB t T T' := ⟨fun k j a b c d e f g l m n o p => (h2.1 k j a b c d e f g l m n o p).trans (h.1 k j a b c d e f g l m n o p), fun q j a b c => (h2.2.1 q j a b c).trans (h.2.1 q j a b c), h2.2.2.1, fun y a => h2.2.2.2.1 y (h.2.2.2.1 y a), fun w => by
  have a := h.2.2.2.2 w
  have b := h2.2.2.2.2 (by rw [a.1]; exact w)
  exact ⟨b.1.trans a.1, b.2.trans a.2⟩⟩
theorem FhB.rf (hW : WT T) : FhB t T T := ⟨fun _ _ _ _ _ _ _ _ _ _ _ _ _ _ => rfl, fun _ _ _ _ _ => rfl, hW, fun _ h => h, fun _ => ⟨rfl, rfl⟩⟩
theorem FhB.ta (hW : WT T) : FhB t T (sI T 52 k x) := by
  have w := hW.ag (T' := sI T 52 k x) rfl (by rw [sI_ne (by omega)])
  exact ⟨fun g j a _ _ _ _ _ _ _ _ _ _ _ => by rw [sI_ne a], fun _ _ _ _ _ => rfl, w.1, w.2, fun _ => ⟨by rw [sI_ne (by omega)], by rw [sI_ne (by omega)]⟩⟩
theorem FhB.nt {y : Int32} (hW : WT T) : FhB t T (ntS T x y) := (FwH.nt hW).hk.b
theorem TkC.hb (h : TkC X T) (hF : FhB t T T') : TkC X T' := by
  have o : ∀ k j, 21 ≤ k → k ≤ 25 → T'.1 k j = T.1 k j := fun k j a b => hF.1 k j (by omega) (by omega) (by omega) (by omega) (by omega) (by omega) (by omega) (by omega) (by omega) (by omega) (by omega) (by omega)
  unfold TkC at h ⊢
  rw [o 25 0 (by omega) (by omega), o 21 0 (by omega) (by omega)]
  refine ⟨h.1, h.2.1, fun j hj => ?_⟩
  rw [o 22 j (by omega) (by omega), o 23 j (by omega) (by omega), hF.2.1 24 j (by omega) (by omega) (by omega)]
  exact h.2.2 j hj
theorem FhB.it (hF : FhB t T T') {k j : Nat} (hk : (27 ≤ k ∧ k ≤ 37) ∨ k = 43) : T'.1 k j = T.1 k j := hF.1 k j (by omega) (by omega) (by omega) (by omega) (by omega) (by omega) (by omega) (by omega) (by omega) (by omega) (by omega) (by omega)
theorem WH.hb (h : WH X T s n) (hF : FhB t T T') : WH X T' s n := by
  obtain ⟨⟨a, b, c⟩, i, e, rt, dt, wt, h1, h2, h3, h4, h5, h6, h7, h8, h9⟩ := h
  exact ⟨⟨by rw [hF.it (by omega)]; exact a, b, fun k hk => by rw [hF.it (by omega)]; exact c k hk⟩, i, e, rt, dt, wt, by rw [hF.it (by omega)]; exact h1, by rw [hF.it (by omega)]; exact h2, h3, h4, by rw [hF.it (by omega)]; exact h5, h6, by rw [hF.it (by omega)]; exact h7, h8, by rw [hF.it (by omega)]; exact h9.1, h9.2⟩
theorem HeT.hb (h : HeT X T s z) (hF : FhB t T T') : HeT X T' s z := by
  obtain ⟨i, e, l, rt, dt, n, wt, w, bd⟩ := z
  obtain ⟨a1, a2, a3, a4, a5, a6, a7, a8, a9, a10⟩ := h
  exact ⟨by rw [hF.it (by omega)]; exact a1, by rw [hF.it (by omega)]; exact a2, by rw [hF.2.1 30 s (by omega) (by omega) (by omega)]; exact a3, by rw [hF.it (by omega)]; exact a4, by rw [hF.it (by omega)]; exact a5, a6, fun k hk => by rw [hF.it (by omega)]; exact a7 k hk, by rw [hF.it (by omega)]; exact a8, by rw [hF.it (by omega)]; exact a9, by rw [hF.it (by omega)]; exact a10⟩
theorem a_chk9 (hX : XO X) (hnf : 16385 ≤ nf) (hd : 62 ≤ d) (hn : n ≤ 24) : ∀ (m t fl : Nat) (T : gSt), m + t = n → m < fl → TkC X T → T.1 27 0 = nI n → WT T → (∀ s, s < n → ∃ q, WH X T s q) → wp (rl_Heads_check_9 (PP nf d) nf fl T (nI t)) (fun _ _ T' => FhB t T T') := by
  intro m
  induction m with
  | zero =>
    intro t fl T e1 e2 hT h27 hW hH
    obtain ⟨fl, rfl⟩ : ∃ g, fl = g + 1 := ⟨fl - 1, by omega⟩
    obtain ⟨d1, hd1⟩ : ∃ g, d = g + 1 := ⟨d - 1, by omega⟩
    rw [rl_Heads_check_9, h27, if_pos (show nI n ≤ nI t from (nI_leI (by omega) (by omega)).mpr (by omega)), show PP nf d 127 T [] [] = some (0, 1835100526, T) by rw [hd1]; rfl, bis, c_find (nf := nf) (d := d) (fn := true) (x := 1) (by omega) h27 hn rfl (by omega), bis]
    rcases ff_val (p := isIt T true 1835100526) (i := 0) (k := n) with v | ⟨j, _, j1, _, v⟩
    · rw [v, if_pos rfl, c_note (by omega), bis]
      exact wp_some (FhB.nt hW)
    · rw [v, if_neg (nI_m1 (by omega)), gd, if_pos (nin (by omega) (by omega)), gd, if_pos (nin (by omega) (by omega)), gd, if_pos (nin (by omega) (by omega))]
      split
      · rw [c_note (by omega), bis]
        exact wp_some (FhB.nt hW)
      · split
        · exact wp_some (FhB.rf hW)
        · rw [c_note (by omega), bis]
          exact wp_some (FhB.nt hW)
  | succ m ih =>
    intro t fl T e1 e2 hT h27 hW hH
    obtain ⟨fl, rfl⟩ : ∃ g, fl = g + 1 := ⟨fl - 1, by omega⟩
    rw [rl_Heads_check_9, h27, if_neg (fun w => by
      have := (nI_leI (by omega) (by omega)).mp w
      omega)]
    obtain ⟨q, hq⟩ := hH t (by omega)
    refine wp_bi (a_head (nf := nf) (d := d) hX hnf (by omega) (by omega) hT ⟨n, h27, hn⟩ hW hq) ?_
    intro _ _ T1 ⟨k1, _⟩
    have b1 := k1.b
    have go : ∀ k, wp (rl_Heads_check_9 (PP nf d) nf fl (sI T1 52 k (T1.1 52 k + 1)) (nI (t + 1))) (fun _ _ T' => FhB t T T') := by
      intro k
      have b2 : FhB t T (sI T1 52 k (T1.1 52 k + 1)) := b1.tr (FhB.ta b1.2.2.1)
      refine wp_mono (ih (t + 1) fl _ (by omega) (by omega) (hT.hb b2) (by rw [b2.it (by omega)]; exact h27) b2.2.2.1 (fun s hs => by
        obtain ⟨q, hq⟩ := hH s hs
        exact ⟨q, hq.hb b2⟩)) ?_
      intro _ _ T' h
      exact b2.tr h.dn
    rw [gd, if_pos (nin (by omega) (by omega))]
    split
    · rw [show (1 : Int32) = nI 1 from rfl, c_tally (by omega) (by omega), bis, vK, show nI 1 = (1 : Int32) from rfl, nI_1]
      exact go 1
    · rw [show (0 : Int32) = nI 0 from rfl, c_tally (by omega) (by omega), bis, vK, nI_1]
      exact go 0
end CCA
