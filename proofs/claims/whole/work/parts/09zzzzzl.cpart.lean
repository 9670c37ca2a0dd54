/-! the class finds a field by its name; one of the RS of a head -/
def isPn (X : Lx) (T : gSt) (t : Nat) (nm : Int64) (k : Nat) : Bool := decide (xN X (T.1 43 (8 * t + k)).toNatClampNeg = nm)
/-- the fields of item t as they may be -/
def WP (X : Lx) (T : gSt) (t n : Nat) : Prop := T.1 32 t = nI n ∧ n ≤ 8 ∧ ∀ k, k < n → ∃ j, T.1 43 (8 * t + k) = nI j ∧ j < xn X
section CFP
variable {T T' : gSt} {X : Lx} {nf d i k n m t : Nat} {nm : Int64}
theorem c_fpl (hX : XO X) (hT : TkC X T) (ht : t < 24) (hP : WP X T t n) (hd : 2 ≤ d) : ∀ (m k fl : Nat), m + k = n → m < fl → rl_Heads_findPart_3 (PP nf d) nf fl T (nI t) nm (nI k) = some (ff (isPn X T t nm) k m, 0, T) := by
  obtain ⟨h1, h2, h3⟩ := hP
  have hxn := hX.1
  have ct : (nI t).toNatClampNeg = t := nc (by omega)
  have zt : inb (nI t) 24 := nin ht (by omega)
  intro m
  induction m with
  | zero =>
    intro k fl e1 e2
    obtain ⟨fl, rfl⟩ : ∃ g, fl = g + 1 := ⟨fl - 1, by omega⟩
    rw [rl_Heads_findPart_3, gd, if_pos zt, ct, h1, if_pos (show nI n ≤ nI k from (nI_leI (by omega) (by omega)).mpr (by omega))]
    rfl
  | succ m ih =>
    intro k fl e1 e2
    obtain ⟨fl, rfl⟩ : ∃ g, fl = g + 1 := ⟨fl - 1, by omega⟩
    obtain ⟨j, j1, j2⟩ := h3 k (by omega)
    obtain ⟨d1, hd1⟩ : ∃ g, d = g + 1 := ⟨d - 1, by omega⟩
    have nmA : PP nf d 27 T [nI j] [] = some (0, xN X j, T) := by rw [hd1]; exact c_name hX hT j2
    rw [rl_Heads_findPart_3, gd, if_pos zt, ct, h1, if_neg (fun w => by
      have := (nI_leI (by omega) (by omega)).mp w
      omega), c_tokOf ht (by omega) hd, bis, j1, nmA, bis, ff]
    simp only [lg_cmp_eq, vK, nI_1, ih (k + 1) fl (by omega) (by omega)]
    have e : isPn X T t nm k = decide (xN X j = nm) := by unfold isPn; rw [j1, nc (by omega)]
    rw [e]
    by_cases c : xN X j = nm
    · rw [if_pos c, if_pos (decide_eq_true c)]
    · rw [if_neg c, if_neg (by rw [decide_eq_false c]; decide)]
theorem c_findPart (hX : XO X) (hnf : 20 ≤ nf) (hT : TkC X T) (ht : t < 24) (hP : WP X T t n) (hd : 3 ≤ d) : PP nf d 130 T [nI t] [nm] = some (ff (isPn X T t nm) 0 n, 0, T) := by
  obtain ⟨d, rfl⟩ : ∃ g, d = g + 1 := ⟨d - 1, by omega⟩
  have := hP.2.1
  rw [e_Heads_findPart]
  unfold rb_Heads_findPart
  exact c_fpl hX hT ht hP (by omega) n 0 nf (by omega) (by omega)
/-- ownRegion, whatever there is -/
theorem a_own (hX : XO X) (hnf : 20 ≤ nf) (hT : TkC X T) (hR : WR T) (hW : WT T) (hi : i < 99000) (hd : 2 ≤ d) : ∃ r T', PP nf d 134 T [nI i] [] = some (nI r, 0, T') ∧ 1 ≤ r ∧ r < 12 ∧ FwH T T' ∧ T'.2 = T.2 := by
  obtain ⟨d, rfl⟩ : ∃ g, d = g + 2 := ⟨d - 2, by omega⟩
  obtain ⟨n, n1, n2, n3⟩ := hR
  obtain ⟨u, hu, _⟩ := c_nm (nf := nf) (d := d) (i := i) hX hT (by omega)
  have ns : bi (PP nf (d + 1) 26 T [nI i] []) (fun r5 _ T5 => bi (PP nf (d + 1) 47 T5 [3, r5] []) fun _ _ T6 => some ((1 : Int32), 0, T6)) = some (1, 0, ntS T 3 (nI (xP X i))) := by
    rw [c_start hX hT (by omega), bis, c_note (by omega), bis]
  rw [e_Heads_ownRegion _ (d + 1)]
  unfold rb_Heads_ownRegion
  rw [hu, bis, c_findRegion hnf n1 n3 n2 (by omega), bis]
  by_cases c : u = 72
  · rw [if_pos c, if_neg (by decide), ns]
    exact ⟨1, _, rfl, by omega, by omega, FwH.nt hW, nt_2⟩
  · rw [if_neg c]
    rcases fr_v (T := T) n2 n3 u with e | ⟨m, e, m1, m2⟩
    · rw [e, if_neg (by decide), ns]
      exact ⟨1, _, rfl, by omega, by omega, FwH.nt hW, nt_2⟩
    · rw [e, if_pos (show (1 : Int32) ≤ nI m from (nI_leI (a := 1) (b := m) (by omega) (by omega)).mpr m1)]
      exact ⟨m, T, rfl, m1, by omega, FwH.rf hW, rfl⟩
end CFP
