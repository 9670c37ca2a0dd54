/-! bits of small numbers; what the class's TYPES tell -/
section CBT
variable {nf d K j a b y s q : Nat} {c : Int32} {x : Int64} {T T' : gSt}
theorem bv_nI (K : Nat) : (nI K).toBitVec = BitVec.ofNat 32 K := rfl
theorem bAnd (hc : c.toBitVec.toNat = 2 ^ j - 1) (hK : K < 2 ^ 32) : nI K &&& c = nI (K % 2 ^ j) := by
  apply Int32.toBitVec_inj.mp
  rw [Int32.toBitVec_and, bv_nI, bv_nI]
  apply BitVec.eq_of_toNat_eq
  rw [BitVec.toNat_and, BitVec.toNat_ofNat, BitVec.toNat_ofNat, hc, Nat.and_two_pow_sub_one_eq_mod, Nat.mod_eq_of_lt hK]
  exact (Nat.mod_eq_of_lt (Nat.lt_of_le_of_lt (Nat.mod_le _ _) hK)).symm
theorem bShr (hc : c.toBitVec.smod 32 = BitVec.ofNat 32 j) (hj : j < 32) (hK : K < 2 ^ 31) : nI K >>> c = nI (K / 2 ^ j) := by
  apply Int32.toBitVec_inj.mp
  show BitVec.sshiftRight' (BitVec.ofNat 32 K) (c.toBitVec.smod 32) = BitVec.ofNat 32 _
  rw [hc]
  unfold BitVec.sshiftRight'
  have m : (BitVec.ofNat 32 K).msb = false := by
    rw [BitVec.msb_eq_decide, BitVec.toNat_ofNat]
    have : K % 2 ^ 32 = K := Nat.mod_eq_of_lt (by omega)
    rw [this]
    simp only [decide_eq_false_iff_not]
    omega
  rw [BitVec.sshiftRight_eq_of_msb_false m]
  apply BitVec.eq_of_toNat_eq
  rw [BitVec.toNat_ushiftRight, BitVec.toNat_ofNat, BitVec.toNat_ofNat, BitVec.toNat_ofNat, Nat.shiftRight_eq_div_pow, Nat.mod_eq_of_lt (show K < 2 ^ 32 by omega), Nat.mod_eq_of_lt (show j < 2 ^ 32 by omega)]
  exact (Nat.mod_eq_of_lt (Nat.lt_of_le_of_lt (Nat.div_le_self _ _) (by omega))).symm
theorem bShl (hc : c.toBitVec.smod 32 = BitVec.ofNat 32 j) (hj : j < 32) : nI K <<< c = nI (K * 2 ^ j) := by
  apply Int32.toBitVec_inj.mp
  show (BitVec.ofNat 32 K) <<< (c.toBitVec.smod 32) = BitVec.ofNat 32 _
  rw [hc, BitVec.shiftLeft_eq']
  apply BitVec.eq_of_toNat_eq
  rw [BitVec.toNat_shiftLeft, BitVec.toNat_ofNat, BitVec.toNat_ofNat, BitVec.toNat_ofNat, Nat.mod_eq_of_lt (show j < 2 ^ 32 by omega), Nat.shiftLeft_eq]
  rw [Nat.mul_mod, Nat.mod_mod, ← Nat.mul_mod]
theorem bOr (ha : a < 2 ^ j) (hb : a + 2 ^ j * b < 2 ^ 32) : nI a ||| nI (b * 2 ^ j) = nI (a + 2 ^ j * b) := by
  apply Int32.toBitVec_inj.mp
  rw [Int32.toBitVec_or, bv_nI, bv_nI, bv_nI]
  apply BitVec.eq_of_toNat_eq
  have hb2 : b * 2 ^ j = 2 ^ j * b := Nat.mul_comm _ _
  rw [BitVec.toNat_or, BitVec.toNat_ofNat, BitVec.toNat_ofNat, BitVec.toNat_ofNat, hb2, Nat.mod_eq_of_lt (show a < 2 ^ 32 by omega), Nat.mod_eq_of_lt (show 2 ^ j * b < 2 ^ 32 by omega), Nat.mod_eq_of_lt hb, Nat.or_comm]
  have := Nat.two_pow_add_eq_or_of_lt ha b
  rw [← this]
  omega
theorem wN_nI (hK : K < 2 ^ 31) : wN (nI K).toInt64 = K := by
  unfold wN
  show ((BitVec.ofNat 32 K).signExtend 64).toNat = K
  have m : (BitVec.ofNat 32 K).msb = false := by
    rw [BitVec.msb_eq_decide, BitVec.toNat_ofNat]
    have : K % 2 ^ 32 = K := Nat.mod_eq_of_lt (by omega)
    rw [this]
    simp only [decide_eq_false_iff_not]
    omega
  rw [BitVec.signExtend_eq_setWidth_of_msb_false m, BitVec.toNat_setWidth, BitVec.toNat_ofNat]
  omega
theorem lo24 : x.toInt32 &&& (16777215 : Int32) = nI (wN x % KM) := by
  apply Int32.toBitVec_inj.mp
  rw [Int32.toBitVec_and]
  show (x.toBitVec.signExtend 32) &&& (16777215 : BitVec 32) = BitVec.ofNat 32 _
  rw [BitVec.signExtend_eq_setWidth_of_le _ (by omega)]
  apply BitVec.eq_of_toNat_eq
  rw [BitVec.toNat_and, BitVec.toNat_setWidth, BitVec.toNat_ofNat]
  rw [show (16777215 : BitVec 32).toNat = 2 ^ 24 - 1 from rfl, Nat.and_two_pow_sub_one_eq_mod]
  unfold wN
  show _ = x.toBitVec.toNat % 16777216 % 2 ^ 32
  omega
/-- the key of a type -/
def kO (T : gSt) (y : Nat) : Nat := if y < 3 ∨ 16387 ≤ y then 0 else SW T (y - 3) % KM
def kdC (T : gSt) (y : Nat) : Nat := if y < 3 then y else kO T y % 8
def rkC (T : gSt) (y : Nat) : Nat := kO T y / 8 % 16
def bhC (T : gSt) (y : Nat) : Nat := kO T y / 128
theorem kO_lt : kO T y < KM := by
  unfold kO
  split
  · decide
  · exact Nat.mod_lt _ (by decide)
theorem c_keyOf (hy : y < 200000) (hd : 1 ≤ d) : PP nf d 90 T [nI y] [] = some (nI (kO T y), 0, T) := by
  obtain ⟨d, rfl⟩ : ∃ g, d = g + 1 := ⟨d - 1, by omega⟩
  have l3 : (nI y < 3) = (y < 3) := propext (nI_ltI (a := y) (b := 3) (by omega) (by omega))
  have l7 : (nI y < 16387) = (y < 16387) := propext (nI_ltI (a := y) (b := 16387) (by omega) (by omega))
  rw [e_Types_keyOf]
  unfold rb_Types_keyOf kO
  simp only [l3, l7]
  by_cases c1 : y < 3
  · rw [if_pos c1, if_pos (Or.inl c1)]
    rfl
  rw [if_neg c1]
  by_cases c2 : y < 16387
  · have e : nI y - 3 = nI (y - 3) := by
      have : nI (y - 3) + 3 = nI y := by rw [show (3 : Int32) = nI 3 from rfl, show nI (y - 3) + nI 3 = nI (y - 3 + 3) from (Int32.ofNat_add _ _).symm, show y - 3 + 3 = y by omega]
      rw [← this]
      exact Int32.add_sub_cancel _ _
    rw [if_pos c2, if_neg (by omega), e, gd, if_pos (nin (by omega) (by omega)), nc (by omega), lo24]
    rfl
  · rw [if_neg c2, if_pos (by omega)]
    rfl
theorem c_kindOf (hy : y < 200000) (hd : 2 ≤ d) : PP nf d 91 T [nI y] [] = some (nI (kdC T y), 0, T) := by
  obtain ⟨d, rfl⟩ : ∃ g, d = g + 1 := ⟨d - 1, by omega⟩
  have l3 : ((3 : Int32) ≤ nI y) = (3 ≤ y) := propext (nI_leI (a := 3) (b := y) (by omega) (by omega))
  rw [e_Types_kindOf]
  unfold rb_Types_kindOf kdC
  simp only [l3]
  by_cases c1 : y < 3
  · rw [if_neg (by omega), if_pos c1]
  · rw [if_pos (by omega), if_neg c1, c_keyOf hy (by omega), bis, bAnd (j := 3) rfl (by have := kO_lt (T := T) (y := y); have : KM = 16777216 := rfl; omega)]
theorem c_regionOf (hy : y < 200000) (hd : 2 ≤ d) : PP nf d 92 T [nI y] [] = some (nI (rkC T y), 0, T) := by
  obtain ⟨d, rfl⟩ : ∃ g, d = g + 1 := ⟨d - 1, by omega⟩
  have hk : kO T y < 16777216 := kO_lt
  rw [e_Types_regionOf]
  unfold rb_Types_regionOf rkC
  rw [c_keyOf hy (by omega), bis, bShr (j := 3) (by decide) (by omega) (by omega), bAnd (j := 4) rfl (by omega)]
theorem c_behind (hy : y < 200000) (hd : 2 ≤ d) : PP nf d 93 T [nI y] [] = some (nI (bhC T y), 0, T) := by
  obtain ⟨d, rfl⟩ : ∃ g, d = g + 1 := ⟨d - 1, by omega⟩
  have hk : kO T y < 16777216 := kO_lt
  rw [e_Types_behind]
  unfold rb_Types_behind bhC
  rw [c_keyOf hy (by omega), bis, bShr (j := 7) (by decide) (by omega) (by omega)]
def ipC (T : gSt) (y : Nat) : Prop := kdC T y = 3 ∨ kdC T y = 4
theorem kdC_lt : kdC T y < 8 := by
  unfold kdC
  split
  · omega
  · exact Nat.mod_lt _ (by omega)
theorem kO8 {n : Nat} (hn : 3 ≤ n) : (kO T y % 2 ^ 3 = n) = (kdC T y = n) := by
  unfold kdC
  by_cases c : y < 3
  · rw [if_pos c]
    unfold kO
    rw [if_pos (Or.inl c)]
    exact propext ⟨fun w => by omega, fun w => by omega⟩
  · exact propext ⟨fun w => by rw [if_neg c]; omega, fun w => by rw [if_neg c] at w; omega⟩
theorem c_isPointed (hy : y < 200000) (hd : 3 ≤ d) : PP nf d 96 T [nI y] [] = some ((if kdC T y = 3 ∨ kdC T y = 4 then 1 else 0), 0, T) := by
  obtain ⟨d, rfl⟩ : ∃ g, d = g + 1 := ⟨d - 1, by omega⟩
  rw [e_Types_isPointed]
  unfold rb_Types_isPointed
  rw [c_keyOf hy (by omega), bis, vK, bAnd (j := 3) rfl (by have := kO_lt (T := T) (y := y); have : KM = 16777216 := rfl; omega)]
  have q3 : (nI (kO T y % 2 ^ 3) = 3) = (kdC T y = 3) := by rw [← kO8 (T := T) (y := y) (n := 3) (by omega)]; exact ci_eq (j := 3) (by omega) (by omega)
  have q4 : (nI (kO T y % 2 ^ 3) = 4) = (kdC T y = 4) := by rw [← kO8 (T := T) (y := y) (n := 4) (by omega)]; exact ci_eq (j := 4) (by omega) (by omega)
  simp only [q3, q4]
  by_cases c3 : kdC T y = 3
  · rw [if_pos c3, if_pos (Or.inl c3)]
  · rw [if_neg c3]
    by_cases c4 : kdC T y = 4
    · rw [if_pos c4, if_pos (Or.inr c4)]
    · rw [if_neg c4, if_neg (by omega)]
def wdC (T : gSt) (y : Nat) : Nat := if y = 0 then 0 else if kdC T y = 5 then 3 else 1
theorem wd_nz (h : ¬ kdC T y = 0) : wdC T y = if kdC T y = 5 then 3 else 1 := by
  unfold wdC
  rw [if_neg (fun w => h (by rw [w]; rfl))]
theorem c_wordsOf (hy : y < 200000) (hd : 3 ≤ d) : PP nf d 97 T [nI y] [] = some (nI (wdC T y), 0, T) := by
  obtain ⟨d, rfl⟩ : ∃ g, d = g + 1 := ⟨d - 1, by omega⟩
  rw [e_Types_wordsOf]
  unfold rb_Types_wordsOf wdC
  by_cases y0 : y = 0
  · rw [if_pos (show nI y = 0 by rw [y0]; rfl), if_pos y0]
    rfl
  · rw [if_neg (show ¬ nI y = 0 from fun w => y0 ((nI_eq (by omega) (by omega)).mp (show nI y = nI 0 from w))), if_neg y0, c_keyOf hy (by omega), bis, bAnd (j := 3) rfl (by have := kO_lt (T := T) (y := y); have : KM = 16777216 := rfl; omega)]
    have q5 : (nI (kO T y % 2 ^ 3) = 5) = (kdC T y = 5) := by rw [← kO8 (T := T) (y := y) (n := 5) (by omega)]; exact ci_eq (j := 5) (by omega) (by omega)
    simp only [q5]
    by_cases c5 : kdC T y = 5
    · rw [if_pos c5, if_pos c5]
      rfl
    · rw [if_neg c5, if_neg c5]
      rfl
/-- the struct or union behind a pointer -/
def tbC (T : gSt) (y : Nat) : Int32 := if (kdC T y = 3 ∨ kdC T y = 4) ∧ kO T (bhC T y) % 8 = 6 then nI (kO T (bhC T y) / 8 % 32) else -1
def rbC (T : gSt) (y : Nat) : Nat := kO T (bhC T y) / 256 % 4096
theorem bh_lt : bhC T y < 131072 := by
  unfold bhC
  have : kO T y < 16777216 := kO_lt
  omega
theorem c_titleBehind (hy : y < 200000) (hd : 4 ≤ d) : PP nf d 94 T [nI y] [] = some (tbC T y, 0, T) := by
  obtain ⟨d, rfl⟩ : ∃ g, d = g + 1 := ⟨d - 1, by omega⟩
  have hb := bh_lt (T := T) (y := y)
  have hk : kO T (bhC T y) < 16777216 := kO_lt
  rw [e_Types_titleBehind]
  unfold rb_Types_titleBehind tbC rj_Types_titleBehind_21
  rw [c_isPointed hy (by omega), bis]
  by_cases c : kdC T y = 3 ∨ kdC T y = 4
  · rw [if_pos c, if_neg (by decide), c_behind hy (by omega), bis, c_keyOf (by omega) (by omega), bis, bAnd (j := 3) rfl (by omega), bShr (j := 3) (by decide) (by omega) (by omega), bAnd (j := 5) rfl (by omega)]
    have q6 : (nI (kO T (bhC T y) % 2 ^ 3) = 6) = (kO T (bhC T y) % 8 = 6) := ci_eq (j := 6) (by omega) (by omega)
    simp only [q6]
    by_cases c6 : kO T (bhC T y) % 8 = 6
    · rw [if_pos c6, if_pos ⟨c, c6⟩]
    · rw [if_neg c6, if_neg (fun w => c6 w.2)]
  · rw [if_neg c, if_pos rfl, if_neg (by decide), if_neg (fun w => c w.1)]
theorem c_regionsBehind (hy : y < 200000) (hd : 3 ≤ d) : PP nf d 95 T [nI y] [] = some (nI (rbC T y), 0, T) := by
  obtain ⟨d, rfl⟩ : ∃ g, d = g + 1 := ⟨d - 1, by omega⟩
  have hb := bh_lt (T := T) (y := y)
  have hk : kO T (bhC T y) < 16777216 := kO_lt
  rw [e_Types_regionsBehind]
  unfold rb_Types_regionsBehind rbC
  rw [c_behind hy (by omega), bis, c_keyOf (by omega) (by omega), bis, bShr (j := 8) (by decide) (by omega) (by omega), bAnd (j := 12) rfl (by omega)]
/-- the keys of pointers and things -/
theorem ky_ptr {k r b : Nat} (hk : k < 8) (hr : r < 16) (hb : b < 131072) : wN (((nI k ||| (nI r <<< ((3 : Int32) &&& 31))) ||| (nI b <<< ((7 : Int32) &&& 31)) : Int32).toInt64) = k + 8 * r + 128 * b := by
  rw [bShl (j := 3) (by decide) (by omega), bShl (j := 7) (by decide) (by omega), bOr (j := 3) (by omega) (by omega), bOr (j := 7) (by omega) (by omega), wN_nI (by omega)]
theorem ky_thg {t r : Nat} (ht : t < 32) (hr : r < 4096) : wN ((((6 : Int32) ||| (nI t <<< ((3 : Int32) &&& 31))) ||| (nI r <<< ((8 : Int32) &&& 31)) : Int32).toInt64) = 6 + 8 * t + 256 * r := by
  rw [show (6 : Int32) = nI 6 from rfl, bShl (j := 3) (by decide) (by omega), bShl (j := 8) (by decide) (by omega), bOr (j := 3) (by omega) (by omega), bOr (j := 8) (by omega) (by omega), wN_nI (by omega)]
end CBT
