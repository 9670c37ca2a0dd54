/-! the class checks fields and parameters as the reference does -/
/-- the fields of item t on both sides; l: the tokens of their names, c: the reference's first field -/
def PrR (X : Lx) (S T : gSt) (t c : Nat) (l : List Nat) : Prop := T.1 32 t = nI l.length ∧ l.length ≤ 8 ∧ ∀ k, k < l.length → T.1 43 (8 * t + k) = nI (l.getD k 0) ∧ l.getD k 0 < xn X ∧ S.2 21 (c + k) = xN X (l.getD k 0) ∧ tyP X 6 (l.getD k 0 + 2) ∧ tyE X 6 (l.getD k 0 + 2) ≤ xn X
/-- where a part lies: w words ahead of it -/
def plW (T : gSt) (t : Nat) : Nat → Nat → Nat
  | 0, _ => 0
  | m + 1, k => wdC T (T.1 44 (8 * t + k)).toNatClampNeg + plW T t m (k + 1)
section CPQ
variable {S S' T T' T1 : gSt} {X : Lx} {nf d i k n m t c : Nat} {l : List Nat} {x y : Int32} {nm : Int64}
theorem PrR.wp (h : PrR X S T t c l) : WP X T t l.length := ⟨h.1, h.2.1, fun k hk => ⟨_, (h.2.2 k hk).1, (h.2.2 k hk).2.1⟩⟩
theorem PrR.find (hX : XO X) (h : PrR X S T t c l) : ff (isPn X T t nm) 0 l.length = ff (isFi S c nm) 0 l.length := by
  have hxn := hX.1
  refine ff_cg _ _ (fun j _ hj => ?_)
  obtain ⟨a1, a2, a3, _⟩ := h.2.2 j (by omega)
  unfold isPn isFi
  rw [a1, nc (by omega), a3]
theorem PrR.st (h : PrR X S T t c l) (h1 : S'.2 21 = S.2 21) (h2 : ∀ k j, (k = 32 ∨ k = 43) → T'.1 k j = T.1 k j) : PrR X S' T' t c l := by
  refine ⟨by rw [h2 32 t (by omega)]; exact h.1, h.2.1, fun k hk => ?_⟩
  rw [h2 43 _ (by omega), h1]
  exact h.2.2 k hk
theorem BfR.fp (h : BfR S T) (hF : FwP t T T') : BfR S T' := by
  have := hF.2.2.2.2 (by rw [h.2.1]; exact h.1)
  exact ⟨h.1, this.1.trans h.2.1, this.2.trans h.2.2⟩
/-- a type's words are the same where its key is -/
theorem TyR.wd {f : Nat} {y : Nat} {R : RgR} {x : Int32} (h : TyR R S T f x y) (hF : TyF S S' T T') : wdC T' y = wdC T y := by
  have e : kdC T' y = kdC T y := by
    unfold kdC
    by_cases c : y < 3
    · rw [if_pos c, if_pos c]
    · rw [if_neg c, if_neg c]
      cases f with
      | zero => have := gdR_l h; omega
      | succ f =>
        rcases h with h | ⟨p, kd, r, n, b, i1, i2, i3, i4, ic, i5, i6, i7, _⟩
        · have := gdR_l h; omega
        · have := (hF.lv (q := y - 3) (by omega) i7).2
          rw [show y - 3 + 3 = y by omega] at this
          rw [this]
  unfold wdC
  rw [e]
theorem fd_bad : ∀ (m j : Nat) (S : gSt), ¬ S.1 7 0 = 0 → fdL X c l m j S = S := by
  intro m j S h
  cases m with
  | zero => rfl
  | succ m => rw [fdL, if_neg h]
end CPQ
