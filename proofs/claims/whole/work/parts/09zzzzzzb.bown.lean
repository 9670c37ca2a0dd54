/-! one of the RS of a head, on both sides -/
/-- the names of the RS of item it; class: in sight -/
def OwR (S T : gSt) (it e : Nat) (N : Nat → Int64) : Prop := e ≤ 3 ∧ S.1 15 it = nI e ∧ (∀ q, q < e → S.2 16 (3 * it + q) = N (q + 1)) ∧ T.1 72 0 = 4 ∧ (∀ r, 1 ≤ r → r ≤ 3 → T.2 73 r = if r ≤ e then N r else 0) ∧ ∀ a, 1 ≤ a → a ≤ e → ¬ N a = 72
section CBO
variable {S T : gSt} {N : Nat → Int64} {e it nf d q : Nat} {nm : Int64} {X : Lx}
theorem own_eq (h : OwR S T it e N) (h0 : ¬ nm = 0) : (roI S it nm = -1 ∧ (if nm = 72 then (0 : Int32) else ff (isRk T nm) 1 (4 - 1)) < 1) ∨ ∃ c, roI S it nm = nI c ∧ 1 ≤ c ∧ c ≤ e ∧ (if nm = 72 then (0 : Int32) else ff (isRk T nm) 1 (4 - 1)) = nI c := by
  obtain ⟨he, h15, hS, _, hm, h72⟩ := h
  have ce : (S.1 15 it).toNatClampNeg = e := by rw [h15]; exact nc (by omega)
  unfold roI
  rw [ce]
  rcases ff_val (p := isRi S it nm) (k := e) (i := 0) with ef | ⟨j, _, j2, j3, ef⟩
  · left
    rw [if_pos ef]
    have al := (ff_all (p := isRi S it nm) (k := e) (i := 0) (by omega)).mp ef
    refine ⟨rfl, ?_⟩
    by_cases c : nm = 72
    · rw [if_pos c]; decide
    · rw [if_neg c]
      have : ff (isRk T nm) 1 (4 - 1) = -1 := (ff_all (p := isRk T nm) (k := 4 - 1) (i := 1) (by omega)).mpr (fun r r1 r2 w => by
        have w' := of_decide_eq_true w
        rw [hm r r1 (by omega)] at w'
        by_cases ce : r ≤ e
        · rw [if_pos ce] at w'
          refine al (r - 1) (by omega) (by omega) (decide_eq_true ?_)
          rw [hS (r - 1) (by omega), show r - 1 + 1 = r by omega]
          exact w'
        · rw [if_neg ce] at w'
          exact h0 w'.symm)
      rw [this]
      decide
  · right
    have nj : N (j + 1) = nm := by
      have := of_decide_eq_true j3
      rw [hS j (by omega)] at this
      exact this
    have c72 : ¬ nm = 72 := fun w => h72 (j + 1) (by omega) (by omega) (by rw [nj, w])
    rw [if_neg (by rw [ef]; exact nn1 (by omega)), ef, nI_1, if_neg c72]
    refine ⟨j + 1, rfl, by omega, by omega, ?_⟩
    have := ff_fst (p := isRk T nm) j 1 (4 - 1) (fun r r1 r2 w => by
      have w' := of_decide_eq_true w
      rw [hm r r1 (by omega), if_pos (by omega)] at w'
      refine ff_min (p := isRi S it nm) e 0 (by omega) ef (by omega) (r - 1) (by omega) (by omega) (decide_eq_true ?_)
      rw [hS (r - 1) (by omega), show r - 1 + 1 = r by omega]
      exact w') (show isRk T nm (1 + j) = true from decide_eq_true (by rw [show 1 + j = j + 1 by omega, hm (j + 1) (by omega) (by omega), if_pos (by omega)]; exact nj)) (by omega)
    rw [show 1 + j = j + 1 by omega] at this
    exact this
theorem b_own (hX : XO X) (hnf : 20 ≤ nf) (hT : TkC X T) (h : OwR S T it e N) (hq : q < xn X) (h0 : ¬ xN X q = 0) (hd : 2 ≤ d) : (∃ c, roI S it (xN X q) = nI c ∧ 1 ≤ c ∧ c ≤ 3 ∧ PP nf d 134 T [nI q] [] = some (nI c, 0, T)) ∨ (roI S it (xN X q) = -1 ∧ PP nf d 134 T [nI q] [] = some (1, 0, ntS T 3 (nI (xP X q)))) := by
  obtain ⟨d, rfl⟩ : ∃ g, d = g + 2 := ⟨d - 2, by omega⟩
  have hxn := hX.1
  have he := h.1
  have h72 := h.2.2.2.1
  rw [e_Heads_ownRegion _ (d + 1)]
  unfold rb_Heads_ownRegion
  rw [c_name hX hT hq, bis, c_findRegion (n := 4) hnf h72 (by omega) (by omega) (by omega), bis]
  rcases own_eq h h0 with ⟨e1, e2⟩ | ⟨c, e1, e2, e3, e4⟩
  · right
    refine ⟨e1, ?_⟩
    rw [if_neg (fun w => by
      have a := Int32.le_iff_toInt_le.mp w
      have b := Int32.lt_iff_toInt_lt.mp e2
      omega), c_start hX hT (by omega), bis, c_note (by omega), bis]
  · left
    refine ⟨c, e1, e2, by omega, ?_⟩
    rw [e4, if_pos (show (1 : Int32) ≤ nI c from (nI_leI (a := 1) (b := c) (by omega) (by omega)).mpr e2)]
end CBO
