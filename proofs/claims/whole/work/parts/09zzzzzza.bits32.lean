/-! one bit of an int: asked on both sides -/
def fi (x : Int32) (n : Nat) : Bool := x.toBitVec.getLsbD n
section CB3
variable {x y : Int32} {n m : Nat}
theorem s32 : ∀ n, n < 32 → ((nI n &&& 31 : Int32).toBitVec.smod 32) = BitVec.ofNat 32 n := by decide +kernel
theorem fi_ext (h : ∀ n, n < 32 → fi x n = fi y n) : x = y := by
  apply Int32.toBitVec_inj.mp
  exact BitVec.eq_of_getLsbD_eq (fun i hi => h i hi)
theorem fi_1 (hn : n < 32) (hm : m < 32) : fi ((1 : Int32) <<< (nI n &&& 31)) m = decide (m = n) := by
  unfold fi
  show ((1 : Int32).toBitVec <<< (nI n &&& 31 : Int32).toBitVec.smod 32).getLsbD m = _
  rw [s32 n hn, BitVec.shiftLeft_eq', BitVec.getLsbD_shiftLeft]
  have e1 : (1 : Int32).toBitVec = 1#32 := rfl
  have e2 : (BitVec.ofNat 32 n).toNat = n := by rw [BitVec.toNat_ofNat]; omega
  rw [e1, e2, BitVec.getLsbD_one]
  by_cases c : m = n
  · subst c; simp [hm]
  · by_cases c2 : m < n
    · simp [c, c2]
    · have : ¬ m - n = 0 := by omega
      simp [c, this]
theorem fi_or : fi (x ||| y) m = (fi x m || fi y m) := by
  unfold fi
  rw [Int32.toBitVec_or, BitVec.getLsbD_or]
theorem fi_an : fi (x &&& y) m = (fi x m && fi y m) := by
  unfold fi
  rw [Int32.toBitVec_and, BitVec.getLsbD_and]
theorem fi_0 : fi 0 m = false := by
  unfold fi
  show (0#32).getLsbD m = false
  simp
theorem fi_sr (hn : n < 32) : (((x >>> (nI n &&& 31)) &&& 1) = 1) = (fi x n = true) := by
  have e : ((x >>> (nI n &&& 31)) &&& (1 : Int32)).toBitVec = (BitVec.sshiftRight' x.toBitVec ((nI n &&& 31 : Int32).toBitVec.smod 32)) &&& 1#32 := rfl
  rw [s32 n hn] at e
  have e2 : (BitVec.sshiftRight' x.toBitVec (BitVec.ofNat 32 n)).getLsbD 0 = fi x n := by
    unfold BitVec.sshiftRight' fi
    rw [BitVec.getLsbD_sshiftRight, BitVec.toNat_ofNat, Nat.mod_eq_of_lt (by omega)]
    simp [hn]
  rw [BitVec.and_one_eq_setWidth_ofBool_getLsbD, e2] at e
  apply propext
  constructor
  · intro h
    have h2 := congrArg Int32.toBitVec h
    rw [e] at h2
    cases hb : fi x n with
    | true => rfl
    | false => rw [hb] at h2; exact absurd h2 (by decide)
  · intro h
    apply Int32.toBitVec_inj.mp
    rw [e, h]
    rfl
theorem fi_ms (hn : n < 32) : ((x &&& ((1 : Int32) <<< (nI n &&& 31))) = 0) = (fi x n = false) := by
  apply propext
  constructor
  · intro h
    have : fi (x &&& ((1 : Int32) <<< (nI n &&& 31))) n = fi 0 n := by rw [h]
    rw [fi_an, fi_1 hn hn, fi_0] at this
    simpa using this
  · intro h
    refine fi_ext (fun m hm => ?_)
    rw [fi_an, fi_1 hn hm, fi_0]
    by_cases c : m = n
    · rw [c, h]; rfl
    · simp [c]
end CB3
