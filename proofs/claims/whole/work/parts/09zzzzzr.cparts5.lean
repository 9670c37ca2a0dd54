/-! the class checks fields and parameters as the reference does: all of an item's -/
section CPR5
variable {S S' T T' T1 : gSt} {X : Lx} {nf d i n t c : Nat} {l : List Nat}
theorem b_parts (hX : XO X) (hnf : 16385 ≤ nf) (hz : ∀ q, xK X q = 4 → ¬ xN X q = 0) (ht : t < 24) (hd : 61 ≤ d) (hH : HrR R0 X S T) (hP : PrR X S T t c l) (hl : lvC T 16384 + 6 * l.length + 20 < 16384) (hc : cn (fdL X c l l.length 0 S) < 6000) : wp (PP nf d 129 T [nI t] []) (fun _ _ T' => PbQ X S (fdL X c l l.length 0 S) T t c l.length 0 l.length 0 0 (if T.1 28 t = 11 then 1 else 0) T') := by
  obtain ⟨d, rfl⟩ : ∃ g, d = g + 1 := ⟨d - 1, by omega⟩
  have h8 := hP.2.1
  rw [e_Heads_checkParts]
  unfold rb_Heads_checkParts
  rw [gd, if_pos (nin ht (by omega)), nc (by omega)]
  by_cases c11 : T.1 28 t = 11
  · rw [if_pos c11, if_pos c11]
    exact b_pl (x2 := 1) (d := d) hX hnf hz ht (by omega) l.length 0 nf S T 0 0 (by omega) (by omega) (by omega) (by omega) hH hP hl hc
  · rw [if_neg c11, if_neg c11]
    exact b_pl (x2 := 0) (d := d) hX hnf hz ht (by omega) l.length 0 nf S T 0 0 (by omega) (by omega) (by omega) (by omega) hH hP hl hc
end CPR5
