theorem sh8 : ((8 : Int32).toInt64 &&& 63) = (8 : Int64) := by decide
theorem or_byte {a c : Nat} (h : c < 256) : a * 256 ||| c = a * 256 + c := by
  have := Nat.shiftLeft_add_eq_or_of_lt (i := 8) (b := c) (by omega) a
  rw [Nat.shiftLeft_eq] at this
  exact this.symm
theorem sx_byte {c : Int32} (h : c.toBitVec.toNat < 256) : c.toInt64.toBitVec.toNat = c.toBitVec.toNat := by
  have e : c.toInt64.toBitVec = c.toBitVec.signExtend 64 := rfl
  have m : c.toBitVec.msb = false := by
    rw [BitVec.msb_eq_decide]
    exact decide_eq_false (by omega)
  rw [e, BitVec.signExtend_eq_setWidth_of_msb_false m, BitVec.toNat_setWidth]
  exact Nat.mod_eq_of_lt (by omega)
theorem sl_byte {x : Int64} (h : x.toBitVec.toNat < 2 ^ 56) : (x <<< (8 : Int64)).toBitVec.toNat = x.toBitVec.toNat * 256 := by
  have e : (x <<< (8 : Int64)).toBitVec = x.toBitVec <<< 8 := rfl
  rw [e, BitVec.toNat_shiftLeft, Nat.shiftLeft_eq]
  exact Nat.mod_eq_of_lt (by omega)
theorem pk_step {x : Int64} {c : Int32} (hx : x.toBitVec.toNat < 2 ^ 56) (hc : c.toBitVec.toNat < 256) : ((x <<< ((8 : Int32).toInt64 &&& 63)) ||| c.toInt64).toBitVec.toNat = x.toBitVec.toNat * 256 + c.toBitVec.toNat := by
  rw [sh8]
  have e : ((x <<< (8 : Int64)) ||| c.toInt64).toBitVec = (x <<< (8 : Int64)).toBitVec ||| c.toInt64.toBitVec := rfl
  rw [e, BitVec.toNat_or, sl_byte hx, sx_byte hc, or_byte hc]
