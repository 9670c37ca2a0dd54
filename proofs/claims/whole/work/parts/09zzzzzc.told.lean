/-! the REGIONS of a head told: the class's told = the reference's changed -/
def t1C (g r : Nat) : Nat := if r < 1 ∨ 3 < r then r else g / 16 ^ (r - 1) % 16
def taC (g i : Nat) : Nat := t1C g (i % 16) + 16 * t1C g (i / 16 % 16) + 256 * t1C g (i / 256 % 16)
def p1S (W c : Nat) : Nat := if c < 1 ∨ 3 < c then c else W / 1024 ^ (c - 1) % 1024
def pwS (W O : Nat) : Nat → Nat
  | 0 => 0
  | k + 1 => pwS W O k + 1024 ^ k * p1S W (O / 1024 ^ k % 1024)
section CTO
variable {nf d g i r W O c k : Nat} {T : gSt}
theorem t1_lt (hr : r < 16) : t1C g r < 16 := by
  unfold t1C
  split
  · exact hr
  · exact Nat.mod_lt _ (by omega)
theorem c_toldOne (hr : r < 16) (hg : g < 4096) (hd : 1 ≤ d) : PP nf d 100 T [nI r, nI g] [] = some (nI (t1C g r), 0, T) := by
  obtain ⟨d, rfl⟩ : ∃ g, d = g + 1 := ⟨d - 1, by omega⟩
  have l1 : (nI r < 1) = (r < 1) := propext (nI_ltI (a := r) (b := 1) (by omega) (by omega))
  have l3 : (nI r ≤ 3) = (r ≤ 3) := propext (nI_leI (a := r) (b := 3) (by omega) (by omega))
  rw [e_Types_toldOne]
  unfold rb_Types_toldOne t1C
  simp only [l1, l3]
  by_cases c1 : r < 1
  · rw [if_pos c1, if_pos (Or.inl c1)]
  rw [if_neg c1]
  by_cases c3 : r ≤ 3
  · rw [if_pos c3, if_neg (by omega)]
    rcases (by omega : r = 1 ∨ r = 2 ∨ r = 3) with e | e | e <;> subst e
    · rw [bShr (j := 0) (by decide) (by omega) (by omega), bAnd (j := 4) rfl (by omega)]
    · rw [bShr (j := 4) (by decide) (by omega) (by omega), bAnd (j := 4) rfl (by omega)]
    · rw [bShr (j := 8) (by decide) (by omega) (by omega), bAnd (j := 4) rfl (by omega)]
  · rw [if_neg c3, if_pos (by omega)]
theorem c_toldAll (hnf : 4 ≤ nf) (hi : i < 4096) (hg : g < 4096) (hd : 2 ≤ d) : PP nf d 99 T [nI i, nI g] [] = some (nI (taC g i), 0, T) := by
  obtain ⟨d, rfl⟩ : ∃ g, d = g + 1 := ⟨d - 1, by omega⟩
  obtain ⟨nf', hnf'⟩ : ∃ m, nf = m + 4 := ⟨nf - 4, by omega⟩
  have a0 := t1_lt (g := g) (r := i % 16) (by omega)
  have a1 := t1_lt (g := g) (r := i / 16 % 16) (by omega)
  have a2 := t1_lt (g := g) (r := i / 256 % 16) (by omega)
  rw [e_Types_toldAll]
  unfold rb_Types_toldAll taC
  rw [show rl_Types_toldAll_4 (PP nf d) nf nf T (nI i) (nI g) 0 0 = rl_Types_toldAll_4 (PP nf d) nf (nf' + 4) T (nI i) (nI g) 0 0 by rw [← hnf']]
  rw [rl_Types_toldAll_4, if_neg (by decide), bShr (j := 0) (by decide) (by omega) (by omega), bAnd (j := 4) rfl (by omega), show i / 2 ^ 0 % 2 ^ 4 = i % 16 by simp, c_toldOne (by omega) hg (by omega), bis, vK, vK]
  rw [show (0 : Int32) ||| (nI (t1C g (i % 16)) <<< (((4 : Int32) * 0) &&& 31)) = nI (t1C g (i % 16)) by
    rw [bShl (j := 0) (by decide) (by omega), Int32.zero_or, Nat.pow_zero, Nat.mul_one]]
  rw [show (0 : Int32) + 1 = 1 from rfl, rl_Types_toldAll_4, if_neg (by decide), bShr (j := 4) (by decide) (by omega) (by omega), bAnd (j := 4) rfl (by omega), show i / 2 ^ 4 % 2 ^ 4 = i / 16 % 16 from rfl, c_toldOne (by omega) hg (by omega), bis, vK, vK]
  rw [show nI (t1C g (i % 16)) ||| (nI (t1C g (i / 16 % 16)) <<< (((4 : Int32) * 1) &&& 31)) = nI (t1C g (i % 16) + 2 ^ 4 * t1C g (i / 16 % 16)) by
    rw [bShl (j := 4) (by decide) (by omega), bOr (j := 4) (by omega) (by omega)]]
  rw [show (1 : Int32) + 1 = 2 from rfl, rl_Types_toldAll_4, if_neg (by decide), bShr (j := 8) (by decide) (by omega) (by omega), bAnd (j := 4) rfl (by omega), show i / 2 ^ 8 % 2 ^ 4 = i / 256 % 16 from rfl, c_toldOne (by omega) hg (by omega), bis, vK, vK]
  rw [show nI (t1C g (i % 16) + 2 ^ 4 * t1C g (i / 16 % 16)) ||| (nI (t1C g (i / 256 % 16)) <<< (((4 : Int32) * 2) &&& 31)) = nI (t1C g (i % 16) + 2 ^ 4 * t1C g (i / 16 % 16) + 2 ^ 8 * t1C g (i / 256 % 16)) by
    rw [bShl (j := 8) (by decide) (by omega), bOr (j := 8) (by omega) (by omega)]]
  rw [show (2 : Int32) + 1 = 3 from rfl, rl_Types_toldAll_4, if_pos (by decide)]
theorem pt_nI (hW : W < 2 ^ 30) (hk : k < 3) : ptOf (nI W) (nI k) = nI (W / 1024 ^ k % 1024) := by
  unfold ptOf
  rcases (by omega : k = 0 ∨ k = 1 ∨ k = 2) with e | e | e <;> subst e
  · rw [bShr (j := 0) (by decide) (by omega) (by omega), bAnd (j := 10) rfl (by omega)]
  · rw [bShr (j := 10) (by decide) (by omega) (by omega), bAnd (j := 10) rfl (by omega)]
  · rw [bShr (j := 20) (by decide) (by omega) (by omega), bAnd (j := 10) rfl (by omega)]
theorem chP_nI (hW : W < 2 ^ 30) (hc : c ≤ 3) : chP (nI W) (nI c) = nI (p1S W c) := by
  have l1 : (nI c < 1) = (c < 1) := propext (nI_ltI (a := c) (b := 1) (by omega) (by omega))
  have l3 : ((3 : Int32) < nI c) = (3 < c) := propext (nI_ltI (a := 3) (b := c) (by omega) (by omega))
  unfold chP p1S
  simp only [l1, l3]
  by_cases c1 : c < 1
  · rw [if_pos c1, if_pos (Or.inl c1)]
  · have e : nI c - 1 = nI (c - 1) := by
      have := nI_sub (k := c - 1)
      rw [show c - 1 + 1 = c by omega] at this
      exact this
    rw [if_neg c1, if_neg (by omega), if_neg (by omega), e, pt_nI hW (by omega)]
theorem p1_lt (hc : c < 1024) : p1S W c < 1024 := by
  unfold p1S
  split
  · exact hc
  · exact Nat.mod_lt _ (by omega)
theorem chW_nI {rr : Nat} (hW : W < 2 ^ 30) (hO : O < 2 ^ 30) (hr : rr ≤ 3) (hd : ∀ k, k < rr → O / 1024 ^ k % 1024 ≤ 3) : chW (nI W) (nI O) rr 0 0 = nI (pwS W O rr) := by
  have st : ∀ k, k < 3 → ptOf (nI O) (nI k) = nI (O / 1024 ^ k % 1024) := fun k hk => pt_nI hO hk
  have b : ∀ k, p1S W (O / 1024 ^ k % 1024) < 1024 := fun k => p1_lt (Nat.mod_lt _ (by omega))
  have b0 := b 0
  have b1 := b 1
  have b2 := b 2
  have s0 : 0 < rr → (0 : Int32) ||| (chP (nI W) (ptOf (nI O) (nI 0)) <<< (((10 : Int32) * nI 0) &&& 31)) = nI (p1S W (O / 1024 ^ 0 % 1024)) := fun h => by
    rw [st 0 (by omega), chP_nI hW (hd 0 h), bShl (j := 0) (by decide) (by omega), Int32.zero_or, Nat.pow_zero, Nat.mul_one]
  have s1 : 1 < rr → nI (p1S W (O / 1024 ^ 0 % 1024)) ||| (chP (nI W) (ptOf (nI O) (nI 1)) <<< (((10 : Int32) * nI 1) &&& 31)) = nI (p1S W (O / 1024 ^ 0 % 1024) + 2 ^ 10 * p1S W (O / 1024 ^ 1 % 1024)) := fun h => by
    rw [st 1 (by omega), chP_nI hW (hd 1 h), bShl (j := 10) (by decide) (by omega), bOr (j := 10) (by omega) (by omega)]
  have s2 : 2 < rr → nI (p1S W (O / 1024 ^ 0 % 1024) + 2 ^ 10 * p1S W (O / 1024 ^ 1 % 1024)) ||| (chP (nI W) (ptOf (nI O) (nI 2)) <<< (((10 : Int32) * nI 2) &&& 31)) = nI (p1S W (O / 1024 ^ 0 % 1024) + 2 ^ 10 * p1S W (O / 1024 ^ 1 % 1024) + 2 ^ 20 * p1S W (O / 1024 ^ 2 % 1024)) := fun h => by
    rw [st 2 (by omega), chP_nI hW (hd 2 h), bShl (j := 20) (by decide) (by omega), bOr (j := 20) (by omega) (by omega)]
  have q1 : (1024 : Nat) ^ 1 = 2 ^ 10 := rfl
  have q2 : (1024 : Nat) ^ 2 = 2 ^ 20 := rfl
  rcases (by omega : rr = 0 ∨ rr = 1 ∨ rr = 2 ∨ rr = 3) with e | e | e | e <;> subst e
  · rfl
  · rw [chW, chW, s0 (by omega), pwS, pwS, Nat.pow_zero, Nat.zero_add, Nat.one_mul]
  · rw [chW, chW, chW, s0 (by omega), s1 (by omega), pwS, pwS, pwS, q1, Nat.pow_zero, Nat.zero_add, Nat.one_mul]
  · rw [chW, chW, chW, chW, s0 (by omega), s1 (by omega), s2 (by omega), pwS, pwS, pwS, pwS, q1, q2, Nat.pow_zero, Nat.zero_add, Nat.one_mul]
end CTO
