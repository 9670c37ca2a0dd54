/-! the class reads REGIONS -/
/-- what the reading of heads leaves as it was, behind a fault too -/
def FwH (T T' : gSt) : Prop := (∀ k, k ≠ 53 → k ≠ 54 → T'.1 k = T.1 k) ∧ (∀ q j, q ≠ 62 → T'.2 q j = T.2 q j) ∧ WT T' ∧ (∀ y, tyY T y → tyY T' y) ∧ (¬ T.1 53 0 = 0 → T'.1 53 0 = T.1 53 0 ∧ T'.1 54 0 = T.1 54 0)
/-- the same REGIONS are in sight -/
def NmR (R : RgR) (S T : gSt) : Prop := ∃ n, T.1 72 0 = nI n ∧ 1 ≤ n ∧ n ≤ 12 ∧ ∀ nm : Int64, ¬ nm = 0 → ¬ nm = 72 → (rgV S nm (rn S) = -1 ∧ ff (isRk T nm) 1 (n - 1) = -1) ∨ ∃ c m, rgV S nm (rn S) = nI c ∧ ff (isRk T nm) 1 (n - 1) = nI m ∧ R c m ∧ c < 1024 ∧ m < 12
/-- the same fault on both sides -/
def BfR (S T : gSt) : Prop := ¬ S.1 7 0 = 0 ∧ T.1 53 0 = S.1 7 0 ∧ T.1 54 0 = S.1 8 0
section CRG
variable {R : RgR} {S S' T T' T1 : gSt} {X : Lx} {nf d i k n m c g q e : Nat} {x y : Int32}
theorem FwH.rf (h : WT T) : FwH T T := ⟨fun _ _ _ => rfl, fun _ _ _ => rfl, h, fun _ a => a, fun _ => ⟨rfl, rfl⟩⟩
theorem FwH.tr (h : FwH T T1) (h2 : FwH T1 T') : FwH T T' := ⟨fun k a b => (h2.1 k a b).trans (h.1 k a b), fun q j a => (h2.2.1 q j a).trans (h.2.1 q j a), h2.2.2.1, fun y a => h2.2.2.2.1 y (h.2.2.2.1 y a), fun w => by
  have a := h.2.2.2.2 w
  have b := h2.2.2.2.2 (by rw [a.1]; exact w)
  exact ⟨b.1.trans a.1, b.2.trans a.2⟩⟩
theorem FtW.fh (h : FtW T T') : FwH T T' := ⟨fun k _ _ => by rw [h.1], h.2.1, h.2.2.1, h.2.2.2, fun _ => by rw [h.1]; exact ⟨rfl, rfl⟩⟩
theorem nt_o (h : k ≠ 53) (h2 : k ≠ 54) : (ntS T x y).1 k = T.1 k := by
  unfold ntS
  split
  · rw [sI_ne h2, sI_ne h]
  · rfl
theorem nt_2 : (ntS T x y).2 = T.2 := by
  unfold ntS
  split <;> rfl
theorem SW_2 (h : T'.2 62 = T.2 62) : SW T' = SW T := by
  funext s
  unfold SW
  rw [h]
theorem WT.ag (hW : WT T) (h : T'.2 = T.2) (h27 : T'.1 27 0 = T.1 27 0) : WT T' ∧ ∀ y, tyY T y → tyY T' y := by
  have e1 : SW T' = SW T := SW_2 (by rw [h])
  have e2 : EW T' = EW T := by unfold EW; rw [h]
  have l : ∀ s, lvK T' s = lvK T s := fun s => by unfold lvK; rw [e1, e2]
  have ty : ∀ y, tyY T' y = tyY T y := fun y => by unfold tyY; rw [l]
  refine ⟨⟨?_, ?_⟩, fun y hy => by rw [ty]; exact hy⟩
  · have := hW.1
    unfold TyI at this ⊢
    rw [e2]
    refine ⟨this.1, fun s hs hl => ?_, fun s hs => by rw [e1]; exact this.2.2 s hs⟩
    rw [e1]
    obtain ⟨i, h1, h2, h3⟩ := this.2.1 s hs (by rw [← l]; exact hl)
    exact ⟨i, h1, h2, fun j hj => by rw [l]; exact h3 j hj⟩
  · intro s hs hl
    rw [e1]
    have := hW.2 s hs (by rw [← l]; exact hl)
    unfold kyV itN at this ⊢
    simp only [ty, h27]
    exact this
theorem FwH.nt (hW : WT T) : FwH T (ntS T x y) := by
  have a := hW.ag (T' := ntS T x y) nt_2 (by rw [nt_o (by omega) (by omega)])
  refine ⟨fun k a b => nt_o a b, fun q j _ => by rw [nt_2], a.1, a.2, fun w => ?_⟩
  unfold ntS
  rw [if_neg w]
  exact ⟨rfl, rfl⟩
theorem TkC.fh (h : TkC X T) (hF : FwH T T') : TkC X T' := by
  unfold TkC at h ⊢
  rw [hF.1 25 (by omega) (by omega), hF.1 21 (by omega) (by omega), hF.1 22 (by omega) (by omega), hF.1 23 (by omega) (by omega)]
  refine ⟨h.1, h.2.1, fun j hj => ?_⟩
  rw [hF.2.1 24 j (by omega)]
  exact h.2.2 j hj
theorem fr_v (hn : 1 ≤ n) (hn2 : n ≤ 12) (nm : Int64) : ff (isRk T nm) 1 (n - 1) = -1 ∨ ∃ m, ff (isRk T nm) 1 (n - 1) = nI m ∧ 1 ≤ m ∧ m < n := by
  rcases ff_val (p := isRk T nm) (k := n - 1) (i := 1) with e | ⟨j, h1, h2, _, e⟩
  · exact Or.inl e
  · exact Or.inr ⟨j, e, h1, by omega⟩
theorem nn1 (hm : m < 100000) : ¬ nI m = -1 := fun w => by
  have := congrArg Int32.toInt w
  rw [nI_toInt (by omega)] at this
  have e : (-1 : Int32).toInt = -1 := by decide
  omega
/-- readRegion, whatever there is -/
theorem a_reg (hX : XO X) (hnf : 20 ≤ nf) (hT : TkC X T) (hn : T.1 72 0 = nI n) (hn1 : 1 ≤ n) (hn2 : n ≤ 12) (hW : WT T) (hi : i < 99000) (hd : 2 ≤ d) : ∃ r T', PP nf d 135 T [nI i] [] = some (nI r, 0, T') ∧ r < 12 ∧ FwH T T' ∧ T'.2 = T.2 := by
  obtain ⟨d, rfl⟩ : ∃ g, d = g + 2 := ⟨d - 2, by omega⟩
  obtain ⟨u, hu, _⟩ := c_nm (nf := nf) (d := d) (i := i) hX hT (by omega)
  rw [e_Heads_readRegion _ (d + 1)]
  unfold rb_Heads_readRegion
  rw [hu, bis, c_findRegion hnf hn hn2 hn1 (by omega), bis]
  by_cases c : u = 72
  · rw [if_pos c, if_neg (by decide)]
    exact ⟨0, T, rfl, by omega, FwH.rf hW, rfl⟩
  · rw [if_neg c]
    rcases fr_v (T := T) hn1 hn2 u with e | ⟨m, e, m1, m2⟩
    · rw [e, if_pos rfl, c_start hX hT (by omega), bis, c_note (by omega), bis]
      exact ⟨0, _, rfl, by omega, FwH.nt hW, nt_2⟩
    · rw [e, if_neg (nn1 (by omega))]
      exact ⟨m, T, rfl, by omega, FwH.rf hW, rfl⟩
/-- readRegion, as the reference reads it -/
theorem b_reg (hX : XO X) (hnf : 20 ≤ nf) (hT : TkC X T) (hN : NmR R S T) (h00 : R 0 0) (hi : i < xn X) (h0 : ¬ xN X i = 0) (hd : 2 ≤ d) : (∃ c m, rgQ X S i = nI c ∧ R c m ∧ c < 1024 ∧ m < 12 ∧ PP nf d 135 T [nI i] [] = some (nI m, 0, T)) ∨ (rgQ X S i = -1 ∧ PP nf d 135 T [nI i] [] = some (0, 0, ntS T 3 (nI (xP X i)))) := by
  obtain ⟨d, rfl⟩ : ∃ g, d = g + 2 := ⟨d - 2, by omega⟩
  obtain ⟨n, n1, n2, n3, n4⟩ := hN
  have hxn := hX.1
  rw [e_Heads_readRegion _ (d + 1)]
  unfold rb_Heads_readRegion rgQ
  rw [c_name hX hT hi, bis, c_findRegion hnf n1 n3 n2 (by omega), bis]
  by_cases c : xN X i = 72
  · rw [if_pos c, if_pos c, if_neg (by decide)]
    exact Or.inl ⟨0, 0, rfl, h00, by omega, by omega, rfl⟩
  · rw [if_neg c, if_neg c]
    rcases n4 (xN X i) h0 c with ⟨e1, e2⟩ | ⟨cc, m, e1, e2, e3, e4, e5⟩
    · rw [e1, e2, if_pos rfl, c_start hX hT (by omega), bis, c_note (by omega), bis]
      exact Or.inr ⟨rfl, rfl⟩
    · rw [e1, e2, if_neg (nn1 (by omega))]
      exact Or.inl ⟨cc, m, rfl, e3, e4, e5, rfl⟩
end CRG
