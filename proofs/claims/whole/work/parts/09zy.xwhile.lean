/-! while: checkWhile 80 -/
section XL
variable {nf d fl : Nat} {T T' T1 S : gSt} {X : Lx} {k i e it lo hi a b v g v' g' v1 g1 n s p m c c1 j : Nat} {x ys no x2 : Int32} {ta tb sa sb t : Tr}
theorem er_gvA : ∀ (t : Tr) (acc : Int32), gvA X t (er T) acc = gvA X t T acc := by
  intro t
  induction t using Tr_ind with
  | hz t hz =>
    intro acc
    unfold gvA
    split
    · exact absurd rfl (hz _ _ _ _ _)
    · rfl
  | h k i e ta tb ihA ihB =>
    intro acc
    rw [gvA_n, gvA_n]
    unfold gvN
    rw [ihA, ihB, ihB, ihB, ihA]
    rfl
theorem wh_end {st kw lv rc : Int32} (hr : rc = 0 ∨ rc = 1) : rj_Model_checkWhile_144 (RR nf (d + 1)) nf T no st kw lv rc = some (0, 0, kwS (rsS T st kw lv rc) no) := by
  unfold rj_Model_checkWhile_144
  show gd (rc = 0 ∨ rc = 1) (bi (RR nf (d + 1) 75 (rsS T st kw lv rc) [no] []) fun _ _ T30 => some (0, 0, T30)) = _
  rw [gd, if_pos hr, x_know, bis]
end XL
