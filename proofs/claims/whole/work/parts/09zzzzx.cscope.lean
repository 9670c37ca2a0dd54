/-! the class's scope: what is known is told bit by bit -/
def fb (w : Int64) (n : Nat) : Bool := w.toBitVec.getLsbD n
def sh1 (n : Nat) : Int64 := (1 : Int64) <<< ((nI n).toInt64 &&& 63)
/-- one bit told anew -/
def sbW (w : Int64) (n : Nat) (b : Bool) : Int64 := if b = true then w ||| sh1 n else w &&& (sh1 n ^^^ (-1 : Int64))
abbrev flw (T : gSt) : Int64 := T.2 77 0
def isRk (T : gSt) (nm : Int64) (r : Nat) : Bool := decide (T.2 73 r = nm)
def isVr (T : gSt) (nm : Int64) (v : Nat) : Bool := decide (T.2 69 v = nm)
section CSO
variable {nf d : Nat} {T T' : gSt} {X : Lx} {i j k p q m n e c z lo hi t r v : Nat} {x y a b : Int32} {w u nm : Int64} {bo : Bool}
theorem s64 : ∀ n, n < 64 → (((nI n).toInt64 &&& 63 : Int64).toBitVec.smod 64) = BitVec.ofNat 64 n := by decide +kernel
theorem fb_ext (h : ∀ n, n < 64 → fb w n = fb u n) : w = u := by
  apply Int64.toBitVec_inj.mp
  exact BitVec.eq_of_getLsbD_eq (fun i hi => h i hi)
theorem fb_1 (hn : n < 64) (hm : m < 64) : fb (sh1 n) m = decide (m = n) := by
  unfold fb sh1
  show ((1 : Int64).toBitVec <<< ((nI n).toInt64 &&& 63 : Int64).toBitVec.smod 64).getLsbD m = _
  rw [s64 n hn, BitVec.shiftLeft_eq', BitVec.getLsbD_shiftLeft]
  have e1 : (1 : Int64).toBitVec = 1#64 := rfl
  have e2 : (BitVec.ofNat 64 n).toNat = n := by rw [BitVec.toNat_ofNat]; omega
  rw [e1, e2, BitVec.getLsbD_one]
  by_cases c : m = n
  · subst c; simp [hm]
  · by_cases c2 : m < n
    · simp [c, c2]
    · have : ¬ m - n = 0 := by omega
      simp [c, this]
theorem fb_or : fb (w ||| u) m = (fb w m || fb u m) := by
  unfold fb
  rw [Int64.toBitVec_or, BitVec.getLsbD_or]
theorem fb_an : fb (w &&& u) m = (fb w m && fb u m) := by
  unfold fb
  rw [Int64.toBitVec_and, BitVec.getLsbD_and]
theorem fb_xr : fb (w ^^^ u) m = (fb w m ^^ fb u m) := by
  unfold fb
  rw [Int64.toBitVec_xor, BitVec.getLsbD_xor]
theorem fb_m1 (hm : m < 64) : fb (-1) m = true := by
  unfold fb
  have e : (-1 : Int64).toBitVec = BitVec.allOnes 64 := by decide
  rw [e, BitVec.getLsbD_allOnes]
  exact decide_eq_true hm
theorem fb_sb (hn : n < 64) (hm : m < 64) : fb (sbW w n bo) m = if m = n then bo else fb w m := by
  unfold sbW
  cases bo with
  | true =>
    rw [if_pos rfl, fb_or, fb_1 hn hm]
    by_cases c : m = n
    · rw [if_pos c]; simp [c]
    · rw [if_neg c]; simp [c]
  | false =>
    rw [if_neg (by decide), fb_an, fb_xr, fb_1 hn hm, fb_m1 hm]
    by_cases c : m = n
    · rw [if_pos c]; simp [c]
    · rw [if_neg c]; simp [c]
theorem fb_sr (hn : n < 64) : (((w >>> ((nI n).toInt64 &&& 63)) &&& (1 : Int64)) = 0) = (fb w n = false) := by
  have e : ((w >>> ((nI n).toInt64 &&& 63)) &&& (1 : Int64)).toBitVec = (BitVec.sshiftRight' w.toBitVec (((nI n).toInt64 &&& 63 : Int64).toBitVec.smod 64)) &&& 1#64 := rfl
  rw [s64 n hn] at e
  have e2 : (BitVec.sshiftRight' w.toBitVec (BitVec.ofNat 64 n)).getLsbD 0 = fb w n := by
    unfold BitVec.sshiftRight' fb
    rw [BitVec.getLsbD_sshiftRight, BitVec.toNat_ofNat, Nat.mod_eq_of_lt (by omega)]
    simp [hn]
  rw [BitVec.and_one_eq_setWidth_ofBool_getLsbD, e2] at e
  apply propext
  constructor
  · intro h
    have h2 := congrArg Int64.toBitVec h
    rw [e] at h2
    cases hb : fb w n with
    | false => rfl
    | true => rw [hb] at h2; exact absurd h2 (by decide)
  · intro h
    apply Int64.toBitVec_inj.mp
    rw [e, h]
    rfl
theorem fb_ct {k : Int64} (hn : n < 64) (hk : k = sh1 n) : ((w &&& k) = 0) = (fb w n = false) := by
  rw [hk]
  apply propext
  constructor
  · intro h
    have : fb (w &&& sh1 n) n = fb 0 n := by rw [h]
    rw [fb_an, fb_1 hn hn] at this
    simp only [decide_true, Bool.and_true] at this
    rw [this]
    unfold fb
    show (0#64).getLsbD n = false
    simp
  · intro h
    refine fb_ext (fun m hm => ?_)
    rw [fb_an, fb_1 hn hm]
    have e0 : fb 0 m = false := by
      unfold fb
      show (0#64).getLsbD m = false
      simp
    rw [e0]
    by_cases c : m = n
    · rw [c, h]; rfl
    · simp [c]
theorem c_isLive (hr : r < 12) (hd : 1 ≤ d) : PP nf d 107 T [nI r] [] = some ((if fb (flw T) (40 + r) = true then 1 else 0), 0, T) := by
  obtain ⟨d, rfl⟩ : ∃ g, d = g + 1 := ⟨d - 1, by omega⟩
  rw [e_Scope_isLive]
  unfold rb_Scope_isLive
  simp only [lg_cmp_eq]
  have e40 : (40 : Int32) + nI r = nI (40 + r) := (Int32.ofNat_add 40 r).symm
  rw [e40]
  have := fb_sr (w := flw T) (n := 40 + r) (by omega)
  by_cases c : fb (flw T) (40 + r) = true
  · rw [if_neg (by rw [this, c]; decide), if_pos c]
  · rw [if_pos (by rw [this]; simpa using c), if_neg c]
theorem c_setLive (hr : r < 12) (hx : x = if bo = true then 1 else 0) (hd : 1 ≤ d) : PP nf d 108 T [nI r, x] [] = some (0, 0, sJ T 77 0 (sbW (flw T) (40 + r) bo)) := by
  obtain ⟨d, rfl⟩ : ∃ g, d = g + 1 := ⟨d - 1, by omega⟩
  rw [e_Scope_setLive]
  unfold rb_Scope_setLive
  have e40 : (40 : Int32) + nI r = nI (40 + r) := (Int32.ofNat_add 40 r).symm
  rw [lK, e40, hx]
  unfold sbW sh1
  cases bo with
  | true => rw [if_neg (show ¬ (if true = true then (1 : Int32) else 0) = 0 by decide), if_pos rfl, stK]
  | false => rw [if_pos (show (if false = true then (1 : Int32) else 0) = 0 by decide), if_neg (by decide), stK]
theorem c_isReached (hd : 1 ≤ d) : PP nf d 117 T [] [] = some ((if fb (flw T) 52 = true then 1 else 0), 0, T) := by
  obtain ⟨d, rfl⟩ : ∃ g, d = g + 1 := ⟨d - 1, by omega⟩
  rw [e_Scope_isReached]
  unfold rb_Scope_isReached
  simp only [lg_cmp_eq]
  have := fb_ct (w := flw T) (n := 52) (k := 4503599627370496) (by omega) (by decide)
  by_cases c : fb (flw T) 52 = true
  · rw [if_neg (by rw [this, c]; decide), if_pos c]
  · rw [if_pos (by rw [this]; simpa using c), if_neg c]
theorem c_leave (hd : 1 ≤ d) : PP nf d 118 T [] [] = some (0, 0, sJ T 77 0 (sbW (flw T) 52 false)) := by
  obtain ⟨d, rfl⟩ : ∃ g, d = g + 1 := ⟨d - 1, by omega⟩
  rw [e_Scope_leave]
  unfold rb_Scope_leave sbW
  rw [if_neg (by decide), stK, show (sh1 52 ^^^ (-1 : Int64)) = -4503599627370497 by decide]
theorem c_isSet (hv : v < 20) (hd : 2 ≤ d) : PP nf d 119 T [nI v] [] = some ((if fb (flw T) 52 = true ∧ fb (flw T) v = false then 0 else 1), 0, T) := by
  obtain ⟨d, rfl⟩ : ∃ g, d = g + 1 := ⟨d - 1, by omega⟩
  rw [e_Scope_isSet]
  unfold rb_Scope_isSet
  rw [c_isReached (by omega), bis]
  have := fb_sr (w := flw T) (n := v) (by omega)
  by_cases c : fb (flw T) 52 = true
  · rw [if_pos c, if_neg (by decide)]
    simp only [lg_cmp_eq]
    by_cases c2 : fb (flw T) v = false
    · rw [if_pos (by rw [this]; exact c2), if_pos ⟨c, c2⟩]
    · rw [if_neg (by rw [this]; exact c2), if_neg (fun w => c2 w.2)]
  · rw [if_neg c, if_pos rfl, if_neg (fun w => c w.1)]
theorem c_isKnown (hv : v < 20) (hd : 2 ≤ d) : PP nf d 120 T [nI v] [] = some ((if fb (flw T) 52 = true ∧ fb (flw T) (20 + v) = false then 0 else 1), 0, T) := by
  obtain ⟨d, rfl⟩ : ∃ g, d = g + 1 := ⟨d - 1, by omega⟩
  rw [e_Scope_isKnown]
  unfold rb_Scope_isKnown
  rw [c_isReached (by omega), bis]
  have e20 : (20 : Int32) + nI v = nI (20 + v) := (Int32.ofNat_add 20 v).symm
  have := fb_sr (w := flw T) (n := 20 + v) (by omega)
  by_cases c : fb (flw T) 52 = true
  · rw [if_pos c, if_neg (by decide)]
    simp only [lg_cmp_eq, e20]
    by_cases c2 : fb (flw T) (20 + v) = false
    · rw [if_pos (by rw [this]; exact c2), if_pos ⟨c, c2⟩]
    · rw [if_neg (by rw [this]; exact c2), if_neg (fun w => c2 w.2)]
  · rw [if_neg c, if_pos rfl, if_neg (fun w => c w.1)]
theorem msk : ∀ v, v < 20 → ((((1 : Int32) <<< (nI v &&& 31)).toInt64) <<< (((20 : Int32) : Int32).toInt64 &&& 63)) = sh1 (20 + v) := by decide +kernel
theorem c_know (hv : v < 20) (hd : 1 ≤ d) : PP nf d 122 T [nI v] [] = some (0, 0, sJ T 77 0 (sbW (flw T) (20 + v) true)) := by
  obtain ⟨d, rfl⟩ : ∃ g, d = g + 1 := ⟨d - 1, by omega⟩
  rw [e_Scope_know]
  unfold rb_Scope_know sbW sh1
  have e20 : (20 : Int32) + nI v = nI (20 + v) := (Int32.ofNat_add 20 v).symm
  rw [if_neg (nzI (by omega)), if_pos rfl, e20, stK]
/-- one variable is no longer known -/
theorem c_forget1 (hv : v < 20) (hd : 1 ≤ d) : PP nf d 123 T [(1 : Int32) <<< (nI v &&& 31)] [] = some (0, 0, sJ T 77 0 (sbW (flw T) (20 + v) false)) := by
  obtain ⟨d, rfl⟩ : ∃ g, d = g + 1 := ⟨d - 1, by omega⟩
  rw [e_Scope_forgetKnown]
  unfold rb_Scope_forgetKnown sbW
  rw [if_neg (by decide), stK, msk v hv]
theorem sJ_sJ : sJ (sJ T 77 0 w) 77 0 u = sJ T 77 0 u := by
  refine Prod.ext rfl (funext fun k => funext fun q => ?_)
  rw [rdJ, rdJ, rdJ]
  split <;> rfl
theorem flw_w : flw (sJ T 77 0 w) = w := by
  unfold flw
  rw [rdJ, if_pos ⟨rfl, rfl⟩]
theorem c_give (hv : v < 20) (hx : x = if bo = true then 1 else 0) (hd : 2 ≤ d) : PP nf d 121 T [nI v, x] [] = some (0, 0, sJ T 77 0 (if bo = true then sbW (sbW (sbW (flw T) (20 + v) false) v true) (20 + v) true else sbW (sbW (flw T) (20 + v) false) v true)) := by
  obtain ⟨d, rfl⟩ : ∃ g, d = g + 1 := ⟨d - 1, by omega⟩
  rw [e_Scope_give]
  unfold rb_Scope_give
  rw [if_neg (nzI (by omega)), c_forget1 hv (by omega), bis, stK]
  have e1 : (sJ T 77 0 (sbW (flw T) (20 + v) false)).2 77 0 ||| ((1 : Int64) <<< ((nI v : Int32).toInt64 &&& 63)) = sbW (sbW (flw T) (20 + v) false) v true := by
    rw [show (sJ T 77 0 (sbW (flw T) (20 + v) false)).2 77 0 = sbW (flw T) (20 + v) false from flw_w]
    generalize sbW (flw T) (20 + v) false = w
    unfold sbW sh1
    rw [if_pos rfl]
  rw [e1, sJ_sJ, hx]
  cases bo with
  | true =>
    rw [if_pos rfl, if_pos rfl, if_neg (by decide), c_know hv (by omega), bis, flw_w, sJ_sJ]
  | false =>
    rw [if_pos (show (if false = true then (1 : Int32) else 0) = 0 by decide), if_neg (show ¬ (false = true) by decide)]
/-- the search for a REGION by its name -/
theorem c_frl (hc : T.1 72 0 = nI n) (hn : n ≤ 12) : ∀ (m i fl : Nat), m + i = n → m < fl → rl_Scope_findRegion_12 (PP nf d) nf fl T nm (nI i) = some (ff (isRk T nm) i m, 0, T) := by
  intro m
  induction m with
  | zero =>
    intro i fl h1 h2
    obtain ⟨fl, rfl⟩ : ∃ g, fl = g + 1 := ⟨fl - 1, by omega⟩
    rw [rl_Scope_findRegion_12, hc, if_pos (show nI n ≤ nI i from (nI_leI (by omega) (by omega)).mpr (by omega))]
    rfl
  | succ m ih =>
    intro i fl h1 h2
    obtain ⟨fl, rfl⟩ : ∃ g, fl = g + 1 := ⟨fl - 1, by omega⟩
    have ci : (nI i).toNatClampNeg = i := nc (by omega)
    have zi : inb (nI i) 12 := nin (by omega) (by omega)
    have li : ¬ nI n ≤ nI i := fun w => by
      have := (nI_leI (by omega) (by omega)).mp w
      omega
    rw [rl_Scope_findRegion_12, hc, if_neg li, ff]
    simp only [gd, if_pos zi, ci, lg_cmp_eq, vK, nI_1, ih (i + 1) fl (by omega) (by omega)]
    by_cases c2 : T.2 73 i = nm
    · rw [if_pos c2, if_pos (show isRk T nm i = true from decide_eq_true c2)]
    · rw [if_neg c2, if_neg (show ¬ isRk T nm i = true from fun w => c2 (of_decide_eq_true w))]
theorem c_findRegion (hnf : 20 ≤ nf) (hc : T.1 72 0 = nI n) (hn : n ≤ 12) (h1 : 1 ≤ n) (hd : 1 ≤ d) : PP nf d 103 T [] [nm] = some ((if nm = 72 then 0 else ff (isRk T nm) 1 (n - 1)), 0, T) := by
  obtain ⟨d, rfl⟩ : ∃ g, d = g + 1 := ⟨d - 1, by omega⟩
  rw [e_Scope_findRegion]
  unfold rb_Scope_findRegion
  simp only [lg_cmp_eq]
  by_cases c : nm = 72
  · rw [if_pos c, if_pos c]
  · rw [if_neg c, if_neg c]
    exact c_frl hc hn (n - 1) 1 nf (by omega) (by omega)
theorem c_fvl (hc : T.1 68 0 = nI n) (hn : n ≤ 20) : ∀ (m i fl : Nat), m + i = n → m < fl → rl_Scope_findVar_2 (PP nf d) nf fl T nm (nI i) = some (ff (isVr T nm) i m, 0, T) := by
  intro m
  induction m with
  | zero =>
    intro i fl h1 h2
    obtain ⟨fl, rfl⟩ : ∃ g, fl = g + 1 := ⟨fl - 1, by omega⟩
    rw [rl_Scope_findVar_2, hc, if_pos (show nI n ≤ nI i from (nI_leI (by omega) (by omega)).mpr (by omega))]
    rfl
  | succ m ih =>
    intro i fl h1 h2
    obtain ⟨fl, rfl⟩ : ∃ g, fl = g + 1 := ⟨fl - 1, by omega⟩
    have ci : (nI i).toNatClampNeg = i := nc (by omega)
    have zi : inb (nI i) 20 := nin (by omega) (by omega)
    have li : ¬ nI n ≤ nI i := fun w => by
      have := (nI_leI (by omega) (by omega)).mp w
      omega
    rw [rl_Scope_findVar_2, hc, if_neg li, ff]
    simp only [gd, if_pos zi, ci, lg_cmp_eq, vK, nI_1, ih (i + 1) fl (by omega) (by omega)]
    by_cases c2 : T.2 69 i = nm
    · rw [if_pos c2, if_pos (show isVr T nm i = true from decide_eq_true c2)]
    · rw [if_neg c2, if_neg (show ¬ isVr T nm i = true from fun w => c2 (of_decide_eq_true w))]
theorem c_findVar (hnf : 30 ≤ nf) (hc : T.1 68 0 = nI n) (hn : n ≤ 20) (hd : 1 ≤ d) : PP nf d 113 T [] [nm] = some (ff (isVr T nm) 0 n, 0, T) := by
  obtain ⟨d, rfl⟩ : ∃ g, d = g + 1 := ⟨d - 1, by omega⟩
  rw [e_Scope_findVar]
  unfold rb_Scope_findVar
  exact c_fvl hc hn n 0 nf (by omega) (by omega)
theorem c_vType (hc : T.1 68 0 = nI n) (hn : n ≤ 20) (hv : v < n) (hd : 1 ≤ d) : PP nf d 115 T [nI v] [] = some (T.1 70 v, 0, T) := by
  obtain ⟨d, rfl⟩ : ∃ g, d = g + 1 := ⟨d - 1, by omega⟩
  rw [e_Scope_typeOf]
  unfold rb_Scope_typeOf
  rw [if_neg (nzI (by omega)), hc, if_pos (show nI v < nI n from (nI_ltI (by omega) (by omega)).mpr hv), gd, if_pos (nin (by omega) (by omega)), nc (by omega)]
theorem c_vSlot (hc : T.1 68 0 = nI n) (hn : n ≤ 20) (hv : v < n) (hd : 1 ≤ d) : PP nf d 116 T [nI v] [] = some (T.1 71 v, 0, T) := by
  obtain ⟨d, rfl⟩ : ∃ g, d = g + 1 := ⟨d - 1, by omega⟩
  rw [e_Scope_slotOf]
  unfold rb_Scope_slotOf
  rw [if_neg (nzI (by omega)), hc, if_pos (show nI v < nI n from (nI_ltI (by omega) (by omega)).mpr hv), gd, if_pos (nin (by omega) (by omega)), nc (by omega)]
end CSO
