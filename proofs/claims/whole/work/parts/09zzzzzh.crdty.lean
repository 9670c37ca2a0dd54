/-! the class reads TYPES, whatever there is -/
/-- the heads of items as they may be -/
def WI (T : gSt) : Prop := ∃ n, T.1 27 0 = nI n ∧ n ≤ 24
/-- REGIONS in sight as they may be -/
def WR (T : gSt) : Prop := ∃ n, T.1 72 0 = nI n ∧ 1 ≤ n ∧ n ≤ 12
section CRT
variable {S S' T T' T1 : gSt} {X : Lx} {nf d i k n m c g q e : Nat} {x y : Int32}
theorem WI.fh (h : WI T) (hF : FwH T T') : WI T' := by
  obtain ⟨n, a, b⟩ := h
  exact ⟨n, by rw [hF.1 27 (by omega) (by omega)]; exact a, b⟩
theorem WR.fh (h : WR T) (hF : FwH T T') : WR T' := by
  obtain ⟨n, a, b⟩ := h
  exact ⟨n, by rw [hF.1 72 (by omega) (by omega)]; exact a, b⟩
theorem tyY_1 : tyY T 1 := Or.inl (by omega)
theorem a_title (hX : XO X) (hnf : 16385 ≤ nf) (hT : TkC X T) (hI : WI T) (hR : WR T) (hW : WT T) (hi : i < 90000) (hd : 5 ≤ d) : ∃ y T', PP nf d 138 T [nI i] [] = some (nI y, 0, T') ∧ tyY T' y ∧ FwH T T' := by
  obtain ⟨d, rfl⟩ : ∃ g, d = g + 2 := ⟨d - 2, by omega⟩
  obtain ⟨n, n1, n2⟩ := hI
  obtain ⟨rn, r1, r2, r3⟩ := hR
  obtain ⟨u, hu, _⟩ := c_nm (nf := nf) (d := d) (i := i) hX hT (by omega)
  have rb := (rgs_b (xK X) 3 (i + 1)).1
  rw [e_Heads_readTitle _ (d + 1)]
  unfold rb_Heads_readTitle
  rw [nI_1, c_cntR hX hT (by omega) (by omega) (by omega), bis, hu, bis, c_find (fn := false) (x := 0) (by omega) n1 n2 rfl (by omega), bis]
  have ns : ∀ a : Int32, bi (PP nf (d + 1) 26 T [nI i] []) (fun r13 _ T13 => bi (PP nf (d + 1) 47 T13 [a, r13] []) fun _ _ T14 => some ((1 : Int32), 0, T14)) = some (1, 0, ntS T a (nI (xP X i))) := fun a => by
    rw [c_start hX hT (by omega), bis, c_note (by omega), bis]
  rcases ff_val (p := isIt T false u) (k := n) (i := 0) with e | ⟨t, h1, h2, _, e⟩
  · rw [e, if_pos rfl, ns 3]
    exact ⟨1, _, rfl, tyY_1, FwH.nt hW⟩
  · rw [e, if_neg (nn1 (by omega)), gd, if_pos (nin (by omega) (by omega)), nc (by omega)]
    by_cases c : T.1 31 t = nI (rgs (xK X) 3 (i + 1))
    · rw [if_pos c]
      obtain ⟨g, T1, g1, g2, g3, g4⟩ := a_rgs (nf := nf) (d := d + 1) (i := i + 1) hX (by omega) rb (by omega) hT r1 r2 r3 hW (by omega)
      rw [g1, bis]
      obtain ⟨y, T', y1, y2, _, y3⟩ := k_thg (d := d + 1) (t := t) hnf g3.2.2.1 (by omega) (by unfold itN; rw [g3.1 27 (by omega) (by omega), n1, nc (by omega)]; omega) g2 (by omega)
      rw [y1, bis]
      exact ⟨y, T', rfl, y2, g3.tr y3.fh⟩
    · rw [if_neg c, ns 7]
      exact ⟨1, _, rfl, tyY_1, FwH.nt hW⟩
theorem a_type (hX : XO X) (hnf : 16385 ≤ nf) : ∀ (m dp i d : Nat) (T : gSt), dp + m = 7 → 1 ≤ dp → TkC X T → WI T → WR T → WT T → i + 4 * m < 89000 → 3 * m + 8 ≤ d → ∃ y T', PP nf d 137 T [nI i, nI dp] [] = some (nI y, 0, T') ∧ tyY T' y ∧ FwH T T' := by
  intro m
  induction m with
  | zero =>
    intro dp i d T h1 h2 hT hI hR hW hi hd
    obtain ⟨d, rfl⟩ : ∃ g, d = g + 2 := ⟨d - 2, by omega⟩
    rw [e_Heads_readType _ (d + 1)]
    unfold rb_Heads_readType
    rw [c_kind hX hT (by omega), bis]
    refine ⟨1, T, ?_, tyY_1, FwH.rf hW⟩
    split
    · rfl
    · rw [if_neg (fun w => by
        have := (nI_leI (a := dp) (b := 6) (by omega) (by omega)).mp w
        omega)]
      rfl
  | succ m ih =>
    intro dp i d T h1 h2 hT hI hR hW hi hd
    obtain ⟨d, rfl⟩ : ∃ g, d = g + 2 := ⟨d - 2, by omega⟩
    rw [e_Heads_readType _ (d + 1)]
    unfold rb_Heads_readType
    rw [c_kind hX hT (by omega), bis]
    by_cases c26 : nI (xK X i) = 26
    · rw [if_pos c26]
      exact ⟨1, T, rfl, tyY_1, FwH.rf hW⟩
    rw [if_neg c26, if_pos (show nI dp ≤ 6 from (nI_leI (a := dp) (b := 6) (by omega) (by omega)).mpr (by omega))]
    by_cases c3 : nI (xK X i) = 3
    · rw [if_pos c3]
      obtain ⟨y, T', y1, y2, y3⟩ := a_title (d := d + 1) (i := i) hX hnf hT hI hR hW (by omega) (by omega)
      rw [y1, bis]
      exact ⟨y, T', rfl, y2, y3⟩
    rw [if_neg c3, nI_1, nI_1, show nI i + 2 = nI (i + 2) from (Int32.ofNat_add i 2).symm]
    have hR' := hR
    obtain ⟨rn, r1, r2, r3⟩ := hR
    obtain ⟨r, T1, q1, q2, q3, q4⟩ := a_reg (nf := nf) (d := d + 1) (i := i + 1) hX (by omega) hT r1 r2 r3 hW (by omega) (by omega)
    rw [q1, bis]
    obtain ⟨b, T2, b1, b2, b3⟩ := ih (dp + 1) (i + 2) (d + 1) T1 (by omega) (by omega) (hT.fh q3) (hI.fh q3) (hR'.fh q3) q3.2.2.1 (by omega) (by omega)
    rw [b1, bis]
    have fin : ∀ k, 3 ≤ k → k ≤ 5 → ∃ y T', PP nf (d + 1) 88 T2 [nI k, nI r, nI b] [] = some (nI y, 0, T') ∧ tyY T' y ∧ FwH T T' := fun k k1 k2 => by
      obtain ⟨y, T', y1, y2, _, y3⟩ := k_ptr (d := d + 1) (k := k) (r := r) (b := b) hnf b3.2.2.1 k1 k2 (by omega) b2 (by omega)
      exact ⟨y, T', y1, y2, (q3.tr b3).tr y3.fh⟩
    by_cases c59 : nI (xK X i) = 59
    · rw [if_pos c59]
      obtain ⟨y, T', y1, y2, y3⟩ := fin 3 (by omega) (by omega)
      rw [show PP nf (d + 1) 88 T2 [3, nI r, nI b] [] = _ from y1, bis]
      exact ⟨y, T', rfl, y2, y3⟩
    rw [if_neg c59]
    by_cases c55 : nI (xK X i) = 55
    · rw [if_pos c55]
      obtain ⟨y, T', y1, y2, y3⟩ := fin 4 (by omega) (by omega)
      rw [show PP nf (d + 1) 88 T2 [4, nI r, nI b] [] = _ from y1, bis]
      exact ⟨y, T', rfl, y2, y3⟩
    · rw [if_neg c55]
      obtain ⟨y, T', y1, y2, y3⟩ := fin 5 (by omega) (by omega)
      rw [show PP nf (d + 1) 88 T2 [5, nI r, nI b] [] = _ from y1, bis]
      exact ⟨y, T', rfl, y2, y3⟩
end CRT
