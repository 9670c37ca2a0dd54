theorem ff_val {p : Nat → Bool} {k : Nat} : ∀ {i : Nat}, ff p i k = -1 ∨ ∃ j, i ≤ j ∧ j < i + k ∧ p j = true ∧ ff p i k = nI j := by
  induction k with
  | zero => intro i; exact Or.inl rfl
  | succ k ih =>
    intro i
    by_cases c : p i = true
    · exact Or.inr ⟨i, Nat.le_refl i, by omega, c, ff_yes c (by omega)⟩
    · rw [ff_no c (by omega), Nat.add_sub_cancel]
      rcases ih (i := i + 1) with z | ⟨j, h1, h2, h3, h4⟩
      · exact Or.inl z
      · exact Or.inr ⟨j, by omega, by omega, h3, h4⟩
theorem nmK_w {j : Nat} (h : j < 26) : nmK (10 + nI j) = 2 := by
  have e : (10 : Int32) + nI j = nI (10 + j) := nI_add 10 j
  rw [e]
  unfold nmK
  rw [if_neg (fun z => by have := nI_e (m := 1) (by omega) (by decide) z; omega), if_neg (fun z => by have := nI_e (m := 3) (by omega) (by decide) z; omega), if_neg (fun z => by have := nI_e (m := 2) (by omega) (by decide) z; omega)]
theorem cL_39 {x : Int32} (h : cL x) : ¬ x = 39 := by
  intro e
  subst e
  exact absurd h (by decide)
theorem cG_cS {x : Int32} (h : cG x) : ¬ cS x := by
  simp only [cG, cS, i_le, Int32.reduceToInt] at h ⊢
  omega
theorem cL_cS {x : Int32} (h : cL x) (h1 : ¬ cD x) (h2 : ¬ cG x) : cS x := by
  simp only [cL, cG, cD, cS, i_le, Int32.reduceToInt] at h h1 h2 ⊢
  omega
/-- a NAME, a TITLE, a word of the language: the same on both sides -/
theorem sort_name {f : Nat → Int32} {tz q : Nat} (hz : tz ≤ 4000) (hq : q < tz) (hc : cL (f q)) (hd : ¬ cD (f q)) : tSort f tz q = nmK (kName f (wt 133) q (sN f tz q + 1) (pkd f q (sN f tz q + 1))) := by
  have h39 : ¬ f q = 39 := cL_39 hc
  have hF : tFR f q = q := if_neg h39
  have hN : tN f tz q = sN f tz q + 1 := by
    unfold tN sN
    rw [hF, rl_y hc (by omega), show tz - q - 1 = tz - (q + 1) by omega]
  have hle : sN f tz q ≤ tz - (q + 1) := rl_le
  have hall : ∀ j, j < sN f tz q + 1 → cL (f (q + j)) := fun j hj => by
    cases j with
    | zero => exact hc
    | succ j =>
      rw [show q + (j + 1) = q + 1 + j by omega]
      exact rl_all (show j < rl f (q + 1) (tz - (q + 1)) by unfold sN at hj; omega)
  unfold tSort
  rw [if_neg (by omega), if_pos (Or.inl hc), if_neg h39, hN, hF, if_pos (nI_lt hq (by omega))]
  have hn0 : 0 < sN f tz q + 1 := by omega
  have hn4 : sN f tz q + 1 ≤ 4000 := by omega
  generalize sN f tz q + 1 = n at *
  have hdg : dgs f q n = 0 := Decidable.byContradiction (fun z => hd (dgs_iff.mp z 0 hn0))
  have hb := bad_sml (f := f) (a := q) (n := n) hall (by omega)
  have hk := kept_same (pkd f q n)
  unfold srt kName
  rw [if_pos rfl, if_pos hdg]
  by_cases c8 : 8 < n
  · rw [if_pos ((nI_is8 (by omega)).mpr c8), if_pos c8]
    rfl
  · rw [if_neg (fun z => c8 ((nI_is8 (by omega)).mp z)), if_neg c8, if_neg hd]
    by_cases cg : cG (f q)
    · rw [if_pos cg, if_pos (cG_cS cg)]
      rfl
    · have hcs : ¬ ¬ cS (f q) := fun z => z (cL_cS hc hd cg)
      rw [if_neg cg, if_neg hcs]
      by_cases cs : sml f q n = 0
      · have c1 : ff (isW (wt 133) (pkd f q n)) 0 26 = -1 := Decidable.byContradiction (fun z => kept_small (by omega) hall z cs)
        have c2 : ¬ ff (bad1 f q 1) 0 n = -1 := fun z => hb.mp z cs
        rw [if_pos cs, if_pos c1, if_neg c2]
        rfl
      · rw [if_neg cs]
        have c2 : ff (bad1 f q 1) 0 n = -1 := hb.mpr cs
        by_cases c1 : ff (isW (wt 133) (pkd f q n)) 0 26 = -1
        · rw [if_pos c1, if_pos c2, if_pos (if_pos (hk.mpr c1))]
          rfl
        · rw [if_neg c1, if_neg (show ¬ (if ff (khit (pkd f q n)) 0 133 = -1 then (0 : Int32) else 1) = 0 by rw [if_neg (fun z => c1 (hk.mp z))]; decide)]
          rcases ff_val (p := isW (wt 133) (pkd f q n)) (k := 26) (i := 0) with z | ⟨j, _, h2, _, h4⟩
          · exact absurd z c1
          · rw [h4, nmK_w (by omega)]
