/-! the tokens of any text of at most 4000 characters are as LX asks -/
def kT (f : Nat → Int32) (z q : Nat) : Nat := if z ≤ q then 0 else (tokK f (wt 133) z q).toNatClampNeg
def nT (f : Nat → Int32) (z : Nat) : Nat := (scn f (wt 133) z (z + 1) 0 0 (fun _ => 0) (fun _ => 0) (fun _ => 0)).1
def mkX (f : Nat → Int32) (z : Nat) : Lx := (f, z, fun i => kT f z (tkAt f z (sk f z 0) i), fun i => tkAt f z (sk f z 0) i, fun i => tAft f z (tkAt f z (sk f z 0) i), fun i => tokV f z (tkAt f z (sk f z 0) i), nT f z)
theorem nw1 : ∀ k, k < 63 → (k < 6 ∨ 40 ≤ k) → ¬ srtK k = 2 := by decide
theorem nw2 : ∀ j, j < 32 → 6 ≤ j → 10 ≤ wK j ∧ wK j < 36 := by decide
theorem nw3 : ∀ j, j < 32 → 6 ≤ j → pks j (s_len.getD j 0) = WL.getD (wK j - 10) 0 := by decide +kernel
theorem nw4 : ∀ a, a < 26 → ∀ b, b < 26 → WL.getD a 0 = WL.getD b 0 → a = b := by decide +kernel
theorem nw5 : ∀ k, k < 36 → 10 ≤ k → srtK k = 2 := by decide
theorem nw6 : ∀ n, n < 256 → 0 ≤ ff (isC 3 (nI n)) 0 22 → 40 ≤ (40 + ff (isC 3 (nI n)) 0 22).toNatClampNeg ∧ (40 + ff (isC 3 (nI n)) 0 22).toNatClampNeg < 62 ∧ chK (40 + ff (isC 3 (nI n)) 0 22).toNatClampNeg = nI n := by decide +kernel
theorem nmb_vlo {f : Nat → Int32} {a : Nat} : ∀ k, nmb f a k = (vlo f a k).toInt32 := by
  intro k
  induction k with
  | zero => rfl
  | succ k ih =>
    rw [nmb, vlo, ih, Int64.toInt32_add, Int64.toInt32_mul, Int32.toInt32_toInt64, Int32.mul_comm, Int32.sub_eq_add_neg, Int32.sub_eq_add_neg, Int32.add_assoc]
    rfl
theorem nonW {k j : Nat} {v : Int64} (h : k < 6 ∨ 40 ≤ k) (hk : k < 63) (h1 : 6 ≤ j) (h2 : j < 32) : (srtK k = 2 ∧ v = pks j (s_len.getD j 0)) ↔ k = wK j := by
  have a := nw2 j h2 h1
  exact ⟨fun h' => absurd h'.1 (nw1 k hk h), fun h' => by omega⟩
abbrev tkO (f : Nat → Int32) (z q k : Nat) (v : Int64) : Prop := okK k ∧ k ≠ 0 ∧ tSort f z q = srtK k ∧ (∀ o, 40 ≤ k → tNum f z q o = chK k) ∧ (∀ o, k = 5 → tNum f z q o = v.toInt32) ∧ (∀ o, hasN k → tWord f z q o = v) ∧ (∀ j, 6 ≤ j → j < 32 → ((srtK k = 2 ∧ v = pks j (s_len.getD j 0)) ↔ k = wK j))
section LXX
variable {f : Nat → Int32} {z q : Nat}
set_option maxHeartbeats 2000000 in
theorem tk_reg (hz : z ≤ 4000) (hq : q < z) (h39 : f q = 39) : tkO f z q (kT f z q) (tokV f z q) := by
  have hs := sort_reg hz hq h39
  have hF : tFR f q = q + 1 := if_pos h39
  have hN : tN f z q = sN f z q := by unfold tN sN; rw [hF]
  have hV : tokV f z q = pkd f (q + 1) (sN f z q) := by unfold tokV sV; rw [if_pos (Or.inl h39), if_pos h39]
  have hW : ∀ o, tWord f z q o = tokV f z q := fun o => by unfold tWord; rw [if_neg (by omega), if_pos (Or.inr h39), hF, hN, hV]
  have hK : kT f z q = (kReg f (q + 1) (sN f z q)).toNatClampNeg := by unfold kT tokK sK; rw [if_neg (by omega), if_pos (Or.inl h39), if_pos h39]
  have h14 : kReg f (q + 1) (sN f z q) = 4 ∨ kReg f (q + 1) (sN f z q) = 1 := by
    unfold kReg
    split
    · exact Or.inl rfl
    · split
      · exact Or.inl rfl
      · exact Or.inr rfl
  rcases h14 with h | h
  · rw [h] at hs hK
    have hK' : kT f z q = 4 := hK
    rw [hK']
    exact ⟨Or.inl (by omega), by omega, hs, fun o h => by omega, fun o h => by omega, fun o _ => hW o, fun j h1 h2 => nonW (by omega) (by omega) h1 h2⟩
  · rw [h] at hs hK
    have hK' : kT f z q = 1 := hK
    rw [hK']
    exact ⟨Or.inl (by omega), by omega, hs, fun o h => by omega, fun o h => by omega, fun o _ => hW o, fun j h1 h2 => nonW (by omega) (by omega) h1 h2⟩
set_option maxHeartbeats 2000000 in
theorem tk_num (hz : z ≤ 4000) (hq : q < z) (hd : cD (f q)) : tkO f z q (kT f z q) (tokV f z q) := by
  have hs := sort_num hz hq hd
  have h39 : ¬ f q = 39 := cD_39 hd
  have hc : cL (f q) := Or.inr (Or.inr hd)
  have hF : tFR f q = q := if_neg h39
  have hN : tN f z q = sN f z q + 1 := by
    unfold tN sN
    rw [hF, rl_y hc (by omega), show z - q - 1 = z - (q + 1) by omega]
  have hU : ∀ o, tNum f z q o = nmb f q (sN f z q + 1) := fun o => by unfold tNum; rw [if_neg (by omega), if_pos (Or.inl hc), hF, hN]
  have hK : kT f z q = (if m9 f q (sN f z q) = 0 then (1 : Int32) else 5).toNatClampNeg := by unfold kT tokK sK; rw [if_neg (by omega), if_pos (Or.inr hc), if_neg h39, if_pos hd]
  have hV : tokV f z q = if m9 f q (sN f z q) = 0 then 0 else vlo f q (sN f z q + 1) := by unfold tokV sV; rw [if_pos (Or.inr hc), if_neg h39, if_pos hd]
  by_cases h : m9 f q (sN f z q) = 0
  · rw [if_pos h] at hs hK
    have hK' : kT f z q = 1 := hK
    rw [hK']
    exact ⟨Or.inl (by omega), by omega, hs, fun o h => by omega, fun o h => by omega, fun o h => by omega, fun j h1 h2 => nonW (by omega) (by omega) h1 h2⟩
  · rw [if_neg h] at hs hK hV
    have hK' : kT f z q = 5 := hK
    rw [hK']
    exact ⟨Or.inl (by omega), by omega, hs, fun o h => by omega, fun o _ => by rw [hU, hV]; exact nmb_vlo _, fun o h => by omega, fun j h1 h2 => nonW (by omega) (by omega) h1 h2⟩
set_option maxHeartbeats 2000000 in
theorem tk_name (hz : z ≤ 4000) (hq : q < z) (hc : cL (f q)) (hd : ¬ cD (f q)) : tkO f z q (kT f z q) (tokV f z q) := by
  have hs := sort_name hz hq hc hd
  have h39 : ¬ f q = 39 := cL_39 hc
  have hF : tFR f q = q := if_neg h39
  have hN : tN f z q = sN f z q + 1 := by
    unfold tN sN
    rw [hF, rl_y hc (by omega), show z - q - 1 = z - (q + 1) by omega]
  have hV : tokV f z q = pkd f q (sN f z q + 1) := by unfold tokV sV; rw [if_pos (Or.inr hc), if_neg h39, if_neg hd]
  have hW : ∀ o, tWord f z q o = tokV f z q := fun o => by unfold tWord; rw [if_neg (by omega), if_pos (Or.inl hc), hF, hN, hV]
  have hK : kT f z q = (kName f (wt 133) q (sN f z q + 1) (pkd f q (sN f z q + 1))).toNatClampNeg := by unfold kT tokK sK; rw [if_neg (by omega), if_pos (Or.inr hc), if_neg h39, if_neg hd]
  rw [← hV] at hs hK
  generalize hv : tokV f z q = w at hs hK hW ⊢
  have h4 : (∃ k, (k = 1 ∨ k = 2 ∨ k = 3) ∧ kName f (wt 133) q (sN f z q + 1) w = nI k) ∨ ∃ j, j < 26 ∧ wt 133 j = w ∧ kName f (wt 133) q (sN f z q + 1) w = nI (10 + j) := by
    unfold kName
    split
    · exact Or.inl ⟨1, by omega, rfl⟩
    · split
      · exact Or.inl ⟨3, by omega, rfl⟩
      · split
        · split
          · exact Or.inl ⟨2, by omega, rfl⟩
          · exact Or.inl ⟨1, by omega, rfl⟩
        · rcases ff_val (p := isW (wt 133) w) (k := 26) (i := 0) with h | ⟨j, h1, h2, h3, h4⟩
          · rename_i hh; exact absurd h hh
          · refine Or.inr ⟨j, by omega, of_decide_eq_true h3, ?_⟩
            rw [h4]
            exact nI_add 10 j
  rcases h4 with ⟨k, hk, h⟩ | ⟨j, hj, hw, h⟩
  · rw [h] at hs hK
    rcases hk with e | e | e
    · subst e
      have hK' : kT f z q = 1 := hK
      rw [hK']
      exact ⟨Or.inl (by omega), by omega, hs, fun o h => by omega, fun o h => by omega, fun o _ => hW o, fun j h1 h2 => nonW (by omega) (by omega) h1 h2⟩
    · subst e
      have hK' : kT f z q = 2 := hK
      rw [hK']
      exact ⟨Or.inl (by omega), by omega, hs, fun o h => by omega, fun o h => by omega, fun o _ => hW o, fun j h1 h2 => nonW (by omega) (by omega) h1 h2⟩
    · subst e
      have hK' : kT f z q = 3 := hK
      rw [hK']
      exact ⟨Or.inl (by omega), by omega, hs, fun o h => by omega, fun o h => by omega, fun o _ => hW o, fun j h1 h2 => nonW (by omega) (by omega) h1 h2⟩
  · rw [h] at hs hK
    have hK' : kT f z q = 10 + j := by rw [hK]; exact nI_clamp (by omega)
    have hs2 : nmK (nI (10 + j)) = 2 := by
      have : ∀ j, j < 26 → nmK (nI (10 + j)) = 2 := by decide
      exact this j hj
    rw [hK']
    refine ⟨Or.inr (Or.inl (by omega)), by omega, by rw [hs, hs2, nw5 _ (by omega) (by omega)], fun o h => by omega, fun o h => by omega, fun o _ => hW o, fun i h1 h2 => ?_⟩
    have a := nw2 i h2 h1
    rw [nw3 i h2 h1, ← hw, wt_val hj]
    constructor
    · intro h'
      have := nw4 j hj (wK i - 10) (by omega) h'.2
      omega
    · intro h'
      exact ⟨nw5 _ (by omega) (by omega), by rw [← h', Nat.add_sub_cancel_left]⟩
set_option maxHeartbeats 2000000 in
theorem tk_sign (hz : z ≤ 4000) (hq : q < z) (hn : ¬ (cL (f q) ∨ f q = 39)) (hc : 0 ≤ f q ∧ f q ≤ 255) : tkO f z q (kT f z q) (tokV f z q) := by
  have hs := sort_sign hq hn hc
  have hn' : ¬ (f q = 39 ∨ cL (f q)) := fun h => hn h.symm
  have hK : kT f z q = (if f q = 61 ∧ q + 1 < z ∧ f (q + 1) = 61 then (62 : Int32) else if 0 ≤ ff (isC 3 (f q)) 0 22 then 40 + ff (isC 3 (f q)) 0 22 else 1).toNatClampNeg := by unfold kT tokK; rw [if_neg (by omega), if_neg hn']
  have hU : ∀ o, tNum f z q o = if f q = 61 ∧ q + 1 < z ∧ f (q + 1) = 61 then 256 else f q := by
    intro o
    unfold tNum
    rw [if_neg (by omega), if_neg hn]
    by_cases h1 : q + 1 < z
    · rw [if_pos ((nI_ltI (by omega) (by omega)).mpr h1)]
      by_cases h2 : f q = 61 ∧ f (q + 1) = 61
      · rw [if_pos h2, if_pos ⟨h2.1, h1, h2.2⟩]
      · rw [if_neg h2, if_neg (fun h => h2 ⟨h.1, h.2.2⟩)]
    · rw [if_neg (fun h => h1 ((nI_ltI (by omega) (by omega)).mp h)), if_neg (fun h => absurd h.2 (by decide)), if_neg (fun h => h1 h.2.1)]
  by_cases h2 : f q = 61 ∧ q + 1 < z ∧ f (q + 1) = 61
  · rw [if_pos h2] at hK
    have hK' : kT f z q = 62 := hK
    rw [hK']
    have : (0 : Int32) ≤ ff (isC 3 61) 0 22 := by decide +kernel
    refine ⟨Or.inr (Or.inr (by omega)), by omega, ?_, fun o _ => by rw [hU, if_pos h2]; rfl, fun o h => by omega, fun o h => by omega, fun j h1 h2 => nonW (by omega) (by omega) h1 h2⟩
    rw [hs, h2.1, if_pos this]; rfl
  · rw [if_neg h2] at hK
    by_cases h3 : 0 ≤ ff (isC 3 (f q)) 0 22
    · rw [if_pos h3] at hK hs
      obtain ⟨n, hn1, hn2⟩ := ch_nI hc
      have hw := nw6 n hn1
      rw [← hn2] at hw
      obtain ⟨a1, a2, a3⟩ := hw h3
      rw [← hK] at a1 a2 a3
      refine ⟨Or.inr (Or.inr (by omega)), by omega, ?_, fun o _ => by rw [hU, if_neg h2, a3], fun o h => by omega, fun o h => by omega, fun j h1 h2 => nonW (by omega) (by omega) h1 h2⟩
      rw [hs]
      exact ((srtK_sg _ (by omega)).mpr a1).symm
    · rw [if_neg h3] at hK hs
      have hK' : kT f z q = 1 := hK
      rw [hK']
      exact ⟨Or.inl (by omega), by omega, hs, fun o h => by omega, fun o h => by omega, fun o h => by omega, fun j h1 h2 => nonW (by omega) (by omega) h1 h2⟩
theorem tk_ok (hz : z ≤ 4000) (hq : q < z) (hc : 0 ≤ f q ∧ f q ≤ 255) : tkO f z q (kT f z q) (tokV f z q) := by
  by_cases h39 : f q = 39
  · exact tk_reg hz hq h39
  · by_cases hl : cL (f q)
    · by_cases hd : cD (f q)
      · exact tk_num hz hq hd
      · exact tk_name hz hq hl hd
    · exact tk_sign hz hq (fun h => h.elim hl h39) hc
end LXX
