/-! try: checkTry 84 -/
section XM
variable {nf d fl : Nat} {T T' T1 S : gSt} {X : Lx} {k i e it lo hi a b v g v' g' v1 g1 n s p m c c1 j : Nat} {x ys no x2 : Int32} {ta tb sa sb t : Tr}
theorem Nw.wr {y : Int32} (h : 71 ≤ k ∧ k ≤ 92) : Nw T (sI T k j y) := ⟨⟨fun q q1 _ _ => sI_ne (by omega), fun _ _ => rfl⟩, fun q hq => sI_ne (by
  unfold anF at hq
  simp only [Bool.or_eq_true, beq_iff_eq] at hq
  omega)⟩
theorem Nw.tr (h : Nw T T') (h2 : Nw T' T1) : Nw T T1 := ⟨h.1.tr h2.1, fun k hk => (h2.2 k hk).trans (h.2 k hk)⟩
theorem Kp.t61 (h : m < lo ∨ hi ≤ m) : Kp X T (sI T 61 m x) lo hi a b := ⟨(SP.an rfl).toW, fun j _ _ => ⟨by rw [sI_ne (by omega)], by rw [rdI, if_neg (fun w => by omega)]⟩, fun u _ _ _ _ => by rw [sI_ne (by omega)]⟩
/-- behind the first BLOCK -/
def tyT (nf d : Nat) (m : Nat) (T T12 : gSt) (y0 : Int32) : gR := gd (T.1 83 0 = 0 ∨ T.1 83 0 = 1) <| stK (sI (rsS T12 (T.1 81 0) y0 (T.1 75 0) (T.1 83 0)) 87 0 ((rsS T12 (T.1 81 0) y0 (T.1 75 0) (T.1 83 0)).1 87 0 + 1)) fun T23 => gd (inb (nI m) 8200) <| stK (sI T23 61 (nI m).toNatClampNeg (T23.1 87 0)) fun T24 => gd (inb (nI m) 8200) <| bi (RR nf d 68 T24 [T24.1 53 (nI m).toNatClampNeg] []) fun _ _ T26 => stK (sI T26 87 0 ((T26.1 87 0) - 1)) fun T27 => bi (RR nf d 14 T27 [] []) fun r28 _ T28 => if r28 = (0 : Int32) then (gd (inb (nI m) 8200) <| bi (RR nf d 78 T28 [T12.1 81 0, T12.1 82 0, T12.1 75 0, T12.1 83 0, T28.1 51 (nI m).toNatClampNeg] []) fun _ _ T31 => some (0, 0, T31)) else (some (0, 0, T28))
theorem ty_tail {y0 : Int32} : rj_Model_checkTry_128 (RR nf d) nf (sI T1 81 0 (T.1 81 0)) (nI m) (T.1 75 0) (T.1 83 0) (T1.1 81 0) (T1.1 82 0) (T1.1 75 0) (T1.1 83 0) y0 = tyT nf d m T T1 y0 := rfl
end XM
