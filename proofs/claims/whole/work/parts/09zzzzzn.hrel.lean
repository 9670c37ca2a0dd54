/-! heads on both sides: what keeps the relations -/
section CHR
variable {R : RgR} {S S' T T' : gSt} {X : Lx} {n t : Nat} {nm : Int64}
theorem rgV_cg (h2 : S'.2 72 = S.2 72) (h3 : S'.1 73 = S.1 73) : ∀ n, rgV S' nm n = rgV S nm n := by
  intro n
  induction n with
  | zero => rfl
  | succ n ih => rw [rgV, rgV, ih, h3, show isRg S' nm n = isRg S nm n by unfold isRg; rw [h2]]
theorem NmR.st (h : NmR R S T) (h1 : S'.1 71 = S.1 71) (h2 : S'.2 72 = S.2 72) (h3 : S'.1 73 = S.1 73) (h4 : T'.1 72 0 = T.1 72 0) (h5 : ∀ j, T'.2 73 j = T.2 73 j) : NmR R S' T' := by
  obtain ⟨n, a, b, c, e⟩ := h
  refine ⟨n, by rw [h4]; exact a, b, c, fun nm x y => ?_⟩
  have er : rn S' = rn S := by unfold rn; rw [h1]
  have ef : ff (isRk T' nm) 1 (n - 1) = ff (isRk T nm) 1 (n - 1) := ff_cg _ _ (fun j _ _ => by unfold isRk; rw [h5])
  rw [er, rgV_cg h2 h3, ef]
  exact e nm x y
theorem ItH.st (h : ItH S T) (h1 : S'.1 11 = S.1 11) (h2 : S'.1 12 = S.1 12) (h3 : S'.2 13 = S.2 13) (h4 : S'.1 15 = S.1 15) (h5 : ∀ k j, (k = 27 ∨ k = 28 ∨ k = 31) → T'.1 k j = T.1 k j) (h6 : ∀ j, T'.2 30 j = T.2 30 j) : ItH S' T' := by
  obtain ⟨n, a, b, c, e⟩ := h
  refine ⟨n, by unfold inn; rw [h1]; exact a, by rw [h5 27 0 (by omega)]; exact b, c, fun t ht => ?_⟩
  rw [h5 28 t (by omega), h5 31 t (by omega), h6 t, h2, h3, h4]
  exact e t ht
/-- what goes together while heads are checked, no fault told -/
def HrR (R : RgR) (X : Lx) (S T : gSt) : Prop := TkC X T ∧ NmR R S T ∧ ItH S T ∧ Tg S ∧ S.1 7 0 = 0 ∧ T.1 53 0 = 0 ∧ WT T
/-- a TYPE is read and the relation goes on -/
theorem HrR.ty {nf d f i dp : Nat} (h : HrR R X S T) (hX : XO X) (hnf : 16385 ≤ nf) (hz : ∀ q, xK X q = 4 → ¬ xN X q = 0) (h00 : R 0 0) (hp : tyP X (f + 1) i) (he : tyE X (f + 1) i ≤ xn X) (h1 : dp + f ≤ 6) (h2 : 1 ≤ dp) (hl : lvC T 16384 + 2 * f + 4 < 16384) (hc : cn (meX X (f + 1) S i).2 < 6000) (hd : 4 * f + 20 ≤ d) : ∃ y T', PP nf d 137 T [nI i, nI dp] [] = some (nI y, 0, T') ∧ tyY T' y ∧ FwH T T' ∧ ((HrR R X (meX X (f + 1) S i).2 T' ∧ T'.1 = T.1 ∧ TyR R (meX X (f + 1) S i).2 T' f (meX X (f + 1) S i).1 y ∧ TyF S (meX X (f + 1) S i).2 T T' ∧ lvC T' 16384 ≤ lvC T 16384 + (f + 1)) ∨ BfR (meX X (f + 1) S i).2 T') := by
  obtain ⟨a1, a2, a3, a4, a5, a6, a7⟩ := h
  obtain ⟨y, T', b1, b2, b3, b4⟩ := g_type (nf := nf) hX hnf hz h00 a1 a2 a3 a4 a5 a6 f i dp d hp he h1 h2 a7 hl hc hd
  refine ⟨y, T', b1, b2, b3, ?_⟩
  rcases b4 with ⟨c1, c2, c3, c4, c5⟩ | hB
  · have fe := FE.me (X := X) (f + 1) S i
    refine Or.inl ⟨⟨a1.fh b3, a2.st (fe.1 71 (by omega)) (by rw [fe.2.1]) (fe.1 73 (by omega)) (by rw [c2]) (fun j => b3.2.1 73 j (by omega)), a3.st (fe.1 11 (by omega)) (fe.1 12 (by omega)) (by rw [fe.2.1]) (fe.1 15 (by omega)) (fun k j _ => by rw [c2]) (fun j => b3.2.1 30 j (by omega)), fe.tg a4, c1, by rw [c2]; exact a6, b3.2.2.1⟩, c2, c3, c4, c5.2.2.2⟩
  · exact Or.inr hB
end CHR
