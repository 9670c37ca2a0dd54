/-! heads: the fields of an item -/
def fdS (X : Lx) (c n tk j : Nat) (T : gSt) : gSt := sI (meX X 6 (if ff (isFi T c (xN X tk)) 0 n = nI j then T else flT T 2 (nI (xP X tk))) (tk + 2)).2 24 (c + j) (meX X 6 (if ff (isFi T c (xN X tk)) 0 n = nI j then T else flT T 2 (nI (xP X tk))) (tk + 2)).1
def fdL (X : Lx) (c : Nat) (l : List Nat) : Nat → Nat → gSt → gSt
  | 0, _, T => T
  | k + 1, j, T => if T.1 7 0 = 0 then fdL X c l k (j + 1) (fdS X c l.length (l.getD j 0) j T) else T
/-- what heads leave as it was -/
def FH (T T' : gSt) : Prop := (∀ k, k < 65 → k ≠ 7 → k ≠ 8 → k ≠ 24 → k ≠ 26 → k ≠ 30 → anF k = false → T'.1 k = T.1 k) ∧ (∀ k, k < 72 → T'.2 k = T.2 k) ∧ (∀ k, k = 60 ∨ k = 61 ∨ k = 94 → T'.1 k = T.1 k)
section HF
variable {nf d : Nat} {T T' T1 : gSt} {X : Lx} {it r k j c n tk w i f : Nat} {l : List Nat} {x y : Int32} {Q : Int32 → Int64 → gSt → Prop}
theorem FH.rf : FH T T := ⟨fun _ _ _ _ _ _ _ _ => rfl, fun _ _ => rfl, fun _ _ => rfl⟩
theorem FH.tr (h : FH T T') (h2 : FH T' T1) : FH T T1 := ⟨fun k a b c d e f g => (h2.1 k a b c d e f g).trans (h.1 k a b c d e f g), fun k a => (h2.2.1 k a).trans (h.2.1 k a), fun k a => (h2.2.2 k a).trans (h.2.2 k a)⟩
theorem FH.wr (h : k = 24 ∨ k = 26 ∨ k = 30 ∨ (71 ≤ k ∧ k ≤ 92)) : FH T (sI T k j x) := ⟨fun g a _ _ b c d _ => sI_ne (by omega), fun _ _ => rfl, fun g a => sI_ne (by omega)⟩
theorem FH.fl : FH T (flT T x y) := ⟨fun g _ a b _ _ _ _ => flT_o a b, fun g _ => by unfold flT; split <;> rfl, fun g a => flT_o (by omega) (by omega)⟩
theorem FH.fm (hs : SP T T') {a b : Nat} (h : Fm X T T' 0 0 a b) : FH T T' := by
  refine ⟨fun k a1 a2 a3 _ _ _ a4 => hs.1 k (by omega) a4, fun k _ => by rw [hs.2], fun k a => ?_⟩
  rcases a with rfl | rfl | rfl
  · funext q; exact (h.1 q (by omega)).1
  · funext q; exact (h.1 q (by omega)).2
  · sorry
end HF
