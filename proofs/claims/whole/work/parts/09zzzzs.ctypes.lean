/-! the class's TYPES: what keep does, in natural numbers -/
def wN (x : Int64) : Nat := x.toBitVec.toNat
def shW (x : Int64) : Int64 := (x.toUInt64 >>> (((24 : Int32) : Int32).toInt64.toUInt64 &&& Int64.toUInt64 63)).toInt64
def kyW (e k : Int64) : Int64 := k ||| (e <<< (((24 : Int32) : Int32).toInt64 &&& 63))
def hsW (k : Int64) : Int32 := (((k * (-7046029254386353131 : Int64)).toUInt64 >>> (((50 : Int32) : Int32).toInt64.toUInt64 &&& Int64.toUInt64 63)).toInt64 : Int64).toInt32
def hsN (k : Int64) : Nat := wN (k * (-7046029254386353131 : Int64)) / 2 ^ 50
/-- the word at a slot, the era -/
def SW (T : gSt) (s : Nat) : Nat := wN (T.2 62 s)
def EW (T : gSt) : Nat := wN (T.2 63 0)
abbrev KM : Nat := 16777216
section CTT
variable {T T' : gSt} {x y e k : Int64} {s h i m n nf d : Nat}
theorem wN_lt : wN x < 2 ^ 64 := x.toBitVec.isLt
theorem wN_inj : wN x = wN y ↔ x = y := by
  unfold wN
  rw [← Int64.toBitVec_inj]
  exact ⟨fun h => BitVec.eq_of_toNat_eq h, fun h => by rw [h]⟩
theorem wN_sh : wN (shW x) = wN x / KM := by
  unfold wN shW
  have e1 : ((((24 : Int32) : Int32).toInt64.toUInt64 &&& Int64.toUInt64 63) : UInt64) = 24 := by decide
  rw [e1]
  show (x.toUInt64 >>> (24 : UInt64)).toNat = _
  rw [UInt64.toNat_shiftRight, show (24 : UInt64).toNat % 64 = 24 from rfl, Nat.shiftRight_eq_div_pow]
  rfl
theorem hs_lt : hsN k < 16384 := by
  unfold hsN
  have := wN_lt (x := k * (-7046029254386353131 : Int64))
  omega
theorem hs_eq : hsW k = nI (hsN k) := by
  unfold hsW hsN wN
  generalize k * (-7046029254386353131 : Int64) = x
  have e1 : ((((50 : Int32) : Int32).toInt64.toUInt64 &&& Int64.toUInt64 63) : UInt64) = 50 := by decide
  rw [e1]
  have e2 : ((x.toUInt64 >>> (50 : UInt64)).toInt64).toBitVec = x.toBitVec >>> 50 := by
    apply BitVec.eq_of_toNat_eq
    show (x.toUInt64 >>> (50 : UInt64)).toNat = _
    rw [UInt64.toNat_shiftRight, show (50 : UInt64).toNat % 64 = 50 from rfl, BitVec.toNat_ushiftRight]
    rfl
  apply Int32.toBitVec_inj.mp
  show ((x.toUInt64 >>> (50 : UInt64)).toInt64).toBitVec.signExtend 32 = BitVec.ofNat 32 _
  rw [e2, BitVec.signExtend_eq_setWidth_of_le _ (by omega)]
  apply BitVec.eq_of_toNat_eq
  rw [BitVec.toNat_setWidth, BitVec.toNat_ushiftRight, Nat.shiftRight_eq_div_pow, BitVec.toNat_ofNat]
theorem wN_ky (hk : wN k < KM) (he : wN e < 2 ^ 40) : wN (kyW e k) = wN k + KM * wN e := by
  unfold wN kyW at *
  have e1 : ((((24 : Int32) : Int32).toInt64 &&& 63) : Int64) = 24 := by decide
  rw [e1]
  show (k.toBitVec ||| (e.toBitVec <<< (24 : Int64).toBitVec.smod 64)).toNat = _
  rw [show ((24 : Int64).toBitVec.smod 64) = 24#64 by decide, BitVec.shiftLeft_eq', BitVec.toNat_or, BitVec.toNat_shiftLeft]
  rw [show (24#64).toNat = 24 from rfl, Nat.shiftLeft_eq, Nat.mod_eq_of_lt (by omega), Nat.or_comm, Nat.mul_comm]
  have := Nat.two_pow_add_eq_or_of_lt (i := 24) (b := k.toBitVec.toNat) (by omega) e.toBitVec.toNat
  show _ = k.toBitVec.toNat + 2 ^ 24 * e.toBitVec.toNat
  rw [← this, Nat.add_comm]
/-- a slot that a key may take: free, or its own -/
def kpB (T : gSt) (k : Nat) (h i : Nat) : Bool := decide (¬ SW T ((h + i) % 16384) / KM = EW T ∨ SW T ((h + i) % 16384) = k + KM * EW T)
def kpT (T : gSt) (s : Nat) (x : Int64) : gSt := if SW T s / KM = EW T then T else sJ T 62 s x
def kpF (T : gSt) (k h : Nat) : Int32 := ff (kpB T k h) 0 16384
theorem sl_1 (hs : s < 16384) : (nI s + 1) &&& (16383 : Int32) = nI ((s + 1) % 16384) := by
  rw [nI_1]
  apply Int32.toBitVec_inj.mp
  show BitVec.ofNat 32 (s + 1) &&& (16383 : BitVec 32) = BitVec.ofNat 32 ((s + 1) % 16384)
  apply BitVec.eq_of_toNat_eq
  rw [BitVec.toNat_and, BitVec.toNat_ofNat, BitVec.toNat_ofNat]
  have e1 : (16383 : BitVec 32).toNat = 2 ^ 14 - 1 := rfl
  rw [e1, Nat.and_two_pow_sub_one_eq_mod]
  omega
theorem kp_l {F : gF} (hk : wN k < KM) (he : wN (T.2 63 0) < 2 ^ 40) (hh : h < 16384) : ∀ (m i fl : Nat), m + i = 16384 → m < fl → rl_Types_keep_24 F nf fl T (kyW (T.2 63 0) k) (nI ((h + i) % 16384)) (nI i) = if ff (kpB T (wN k) h) i m = -1 then some (1, 0, T) else some (nI ((h + (ff (kpB T (wN k) h) i m).toNatClampNeg) % 16384 + 3), 0, kpT T ((h + (ff (kpB T (wN k) h) i m).toNatClampNeg) % 16384) (kyW (T.2 63 0) k)) := by
  have hy := wN_ky hk he
  intro m
  induction m with
  | zero =>
    intro i fl h1 h2
    obtain ⟨fl, rfl⟩ : ∃ g, fl = g + 1 := ⟨fl - 1, by omega⟩
    rw [rl_Types_keep_24, if_pos (show (16384 : Int32) ≤ nI i by rw [show i = 16384 by omega]; decide), ff, if_pos rfl]
  | succ m ih =>
    intro i fl h1 h2
    obtain ⟨fl, rfl⟩ : ∃ g, fl = g + 1 := ⟨fl - 1, by omega⟩
    have n4 : ¬ (16384 : Int32) ≤ nI i := fun w => by
      have := (nI_leI (a := 16384) (b := i) (by omega) (by omega)).mp w
      omega
    have hs : (h + i) % 16384 < 16384 := Nat.mod_lt _ (by omega)
    have zs : inb (nI ((h + i) % 16384)) 16384 := nin hs (by omega)
    have cs : (nI ((h + i) % 16384)).toNatClampNeg = (h + i) % 16384 := nc (by omega)
    have nx : (nI ((h + i) % 16384 + 1)) &&& (16383 : Int32) = nI ((h + (i + 1)) % 16384) := by
      rw [← nI_1, sl_1 hs]
      congr 1
      omega
    have lv : (shW (T.2 62 ((h + i) % 16384)) = T.2 63 0) = (SW T ((h + i) % 16384) / KM = EW T) := by
      rw [← wN_inj, wN_sh]
      rfl
    have ke : (T.2 62 ((h + i) % 16384) = kyW (T.2 63 0) k) = (SW T ((h + i) % 16384) = wN k + KM * EW T) := by
      rw [← wN_inj, hy]
      rfl
    have ni1 : ¬ nI i = -1 := fun w => by
      have := congrArg Int32.toInt w
      rw [nI_toInt (by omega)] at this
      have e : (-1 : Int32).toInt = -1 := by decide
      omega
    rw [rl_Types_keep_24, if_neg n4, ff]
    unfold rj_Types_keep_58
    simp only [gd, if_pos zs, cs, lg_cmp_eq, vK, stK, nI_1, nx]
    rw [show ((T.2 62 ((h + i) % 16384)).toUInt64 >>> (((24 : Int32) : Int32).toInt64.toUInt64 &&& Int64.toUInt64 63)).toInt64 = shW (T.2 62 ((h + i) % 16384)) from rfl]
    by_cases c1 : SW T ((h + i) % 16384) / KM = EW T
    · rw [if_pos (show shW (T.2 62 ((h + i) % 16384)) = T.2 63 0 by rw [lv]; exact c1)]
      by_cases c2 : SW T ((h + i) % 16384) = wN k + KM * EW T
      · have pb : kpB T (wN k) h i = true := decide_eq_true (Or.inr c2)
        rw [if_pos (show T.2 62 ((h + i) % 16384) = kyW (T.2 63 0) k by rw [ke]; exact c2), if_pos pb, if_neg ni1, nc (by omega)]
        unfold kpT
        rw [if_pos c1, show (3 : Int32) = nI 3 from rfl, show nI ((h + i) % 16384) + nI 3 = nI ((h + i) % 16384 + 3) from (Int32.ofNat_add _ _).symm]
      · have pb : ¬ kpB T (wN k) h i = true := fun w => by
          have := of_decide_eq_true w
          rcases this with w | w
          · exact w c1
          · exact c2 w
        rw [if_neg (show ¬ T.2 62 ((h + i) % 16384) = kyW (T.2 63 0) k by rw [ke]; exact c2), if_neg pb]
        exact ih (i + 1) fl (by omega) (by omega)
    · rw [if_neg (show ¬ shW (T.2 62 ((h + i) % 16384)) = T.2 63 0 by rw [lv]; exact c1)]
      have pb : kpB T (wN k) h i = true := decide_eq_true (Or.inl c1)
      have e1 : (sJ T 62 ((h + i) % 16384) (kyW (T.2 63 0) k)).2 62 ((h + i) % 16384) = kyW (T.2 63 0) k := by rw [rdJ, if_pos ⟨rfl, rfl⟩]
      rw [if_pos e1, if_pos pb, if_neg ni1, nc (by omega)]
      unfold kpT
      rw [if_neg c1, show (3 : Int32) = nI 3 from rfl, show nI ((h + i) % 16384) + nI 3 = nI ((h + i) % 16384 + 3) from (Int32.ofNat_add _ _).symm]
/-- keep: where a key lies, or comes to lie -/
theorem c_keep (hnf : 16385 ≤ nf) (hk : wN k < KM) (he : wN (T.2 63 0) < 2 ^ 40) : PP nf (d + 1) 87 T [] [k] = if kpF T (wN k) (hsN k) = -1 then some (1, 0, T) else some (nI ((hsN k + (kpF T (wN k) (hsN k)).toNatClampNeg) % 16384 + 3), 0, kpT T ((hsN k + (kpF T (wN k) (hsN k)).toNatClampNeg) % 16384) (kyW (T.2 63 0) k)) := by
  rw [e_Types_keep]
  unfold rb_Types_keep
  rw [lK, vK]
  have := kp_l (F := PP nf d) (nf := nf) (T := T) (h := hsN k) hk he hs_lt 16384 0 nf (by omega) (by omega)
  rw [Nat.add_zero, Nat.mod_eq_of_lt hs_lt, ← hs_eq] at this
  exact this
end CTT
