/-! what outlives what as a fun begins: both sides -/
def Oq (x y : Int32) : Prop := ∀ r s, 1 ≤ r → r ≤ 3 → 1 ≤ s → s ≤ 3 → fi x (4 * r + s) = fi y (abN r s)
section FOS
variable {S S' T T' U : gSt} {it e n m k a b c j w r s : Nat} {x y z : Int32} {nm : Int64}
theorem b0 (z : Int32) : (z &&& 1 = 1) ↔ fi z 0 = true := by
  have e : (z &&& (1 : Int32)).toBitVec = z.toBitVec &&& 1#32 := rfl
  rw [BitVec.and_one_eq_setWidth_ofBool_getLsbD] at e
  unfold fi
  cases hb : z.toBitVec.getLsbD 0 with
  | true =>
    refine ⟨fun _ => rfl, fun _ => ?_⟩
    apply Int32.toBitVec_inj.mp
    rw [e, hb]
    rfl
  | false =>
    refine ⟨fun w => ?_, (fun w => by cases w)⟩
    have : (z &&& (1 : Int32)) = 0 := by
      apply Int32.toBitVec_inj.mp
      rw [e, hb]
      rfl
    rw [this] at w
    exact absurd w (by decide)
theorem b2 (hn : n < 32) (hm : m < 32) : ((((x >>> (nI n &&& 31)) &&& (x >>> (nI m &&& 31))) &&& 1) = 1) ↔ (fi x n = true ∧ fi x m = true) := by
  have a := fi_sr (x := x) hn
  have b := fi_sr (x := x) hm
  rw [b0, fi_an, ← a, ← b, b0, b0]
  cases fi (x >>> (nI n &&& 31)) 0 <;> cases fi (x >>> (nI m &&& 31)) 0 <;> simp
theorem ab_lt (h1 : r ≤ 3) (h2 : s ≤ 3) : abN r s < 32 := by unfold abN; omega
theorem Oq.set (h : Oq x y) (ha : 1 ≤ r) (ha2 : r ≤ 3) (hb : 1 ≤ s) (hb2 : s ≤ 3) : Oq (x ||| ((1 : Int32) <<< (nI (4 * r + s) &&& 31))) (y ||| ((1 : Int32) <<< (nI (abN r s) &&& 31))) := fun p q p1 p2 q1 q2 => by
  rw [fi_on (by omega) (by omega), fi_on (ab_lt ha2 hb2) (ab_lt p2 q2)]
  by_cases c : p = r ∧ q = s
  · rw [c.1, c.2, if_pos rfl, if_pos rfl]
  · rw [if_neg (by omega), if_neg (by unfold abN; omega)]
    exact h p q p1 p2 q1 q2
theorem Oq.cl (h : Oq (S.1 76 0) y) (ha : 1 ≤ a) (ha2 : a ≤ 3) (hb : 1 ≤ b) (hb2 : b ≤ 3) (hc : 1 ≤ c) (hc2 : c ≤ 3) : Oq ((cl1 (nI a) (nI b) (nI c) S).1 76 0) (wcC a b c y) := by
  have m4 : ∀ p q : Nat, (4 : Int32) * nI p + nI q = nI (4 * p + q) := fun p q => by
    rw [show (4 : Int32) = nI 4 from rfl, nI_mul]
    exact (Int32.ofNat_add _ _).symm
  unfold cl1 wcC
  rw [m4, m4, m4]
  have t1 := b2 (x := S.1 76 0) (n := 4 * b + a) (m := 4 * a + c) (by omega) (by omega)
  have t2 := b2 (x := y) (n := abN b a) (m := abN a c) (ab_lt hb2 ha2) (ab_lt ha2 hc2)
  rw [h b a hb hb2 ha ha2, h a c ha ha2 hc hc2, ← t2] at t1
  by_cases q : (((S.1 76 0 >>> (nI (4 * b + a) &&& 31)) &&& (S.1 76 0 >>> (nI (4 * a + c) &&& 31))) &&& 1) = 1
  · have q2 := t1.mp q
    rw [if_pos q, if_neg (fun w => by rw [w] at q2; exact absurd q2 (by decide)), sI_v]
    exact h.set hb hb2 hc hc2
  · rw [if_neg q]
    have q2 : (((y >>> (nI (abN b a) &&& 31)) &&& (y >>> (nI (abN a c) &&& 31))) &&& 1) = 0 := by
      rcases and1 ((y >>> (nI (abN b a) &&& 31)) &&& (y >>> (nI (abN a c) &&& 31))) with w | w
      · exact w
      · exact absurd (t1.mpr w) q
    rw [if_pos q2]
    exact h
theorem Oq.c2 (h : Oq (S.1 76 0) y) (ha : 1 ≤ a) (ha2 : a ≤ 3) (hb : 1 ≤ b) (hb2 : b ≤ 3) : Oq ((cl2 (nI a) (nI b) S).1 76 0) (wcS a b 3 1 y) := by
  unfold cl2
  exact Oq.cl (c := 3) (Oq.cl (c := 2) (Oq.cl (c := 1) h ha ha2 hb hb2 (by omega) (by omega)) ha ha2 hb hb2 (by omega) (by omega)) ha ha2 hb hb2 (by omega) (by omega)
theorem Oq.c3 (h : Oq (S.1 76 0) y) (ha : 1 ≤ a) (ha2 : a ≤ 3) : Oq ((cl3 (nI a) S).1 76 0) (wcR a 3 1 y) := by
  unfold cl3
  exact Oq.c2 (b := 3) (Oq.c2 (b := 2) (Oq.c2 (b := 1) h ha ha2 (by omega) (by omega)) ha ha2 (by omega) (by omega)) ha ha2 (by omega) (by omega)
theorem Oq.cS (h : Oq (S.1 76 0) y) : Oq ((clS S).1 76 0) (wcT 3 1 y) := by
  unfold clS
  exact Oq.c3 (a := 3) (Oq.c3 (a := 2) (Oq.c3 (a := 1) h (by omega) (by omega)) (by omega) (by omega)) (by omega) (by omega)
/-- what where tells -/
theorem Oq.fw (hr : ∀ nm, roI U it nm = roI S it nm) (h32 : U.2 32 = S.2 32) (h : Oq (U.1 76 0) y) (hp : ∃ r s, 1 ≤ r ∧ r ≤ 3 ∧ 1 ≤ s ∧ s ≤ 3 ∧ roI S it (S.2 32 (6 * it + 2 * j)) = nI r ∧ roI S it (S.2 32 (6 * it + (2 * j + 1))) = nI s) : Oq ((fwS it j U).1 76 0) (y ||| ((1 : Int32) <<< (nI (abN (roI S it (S.2 32 (6 * it + 2 * j))).toNatClampNeg (roI S it (S.2 32 (6 * it + (2 * j + 1)))).toNatClampNeg) &&& 31))) := by
  obtain ⟨r, s, r1, r2, s1, s2, e1, e2⟩ := hp
  unfold fwS
  rw [sI_v, hr, hr, h32, show 6 * it + 2 * j + 1 = 6 * it + (2 * j + 1) by omega, e1, e2, nc (by omega), nc (by omega), show (4 : Int32) * nI r + nI s = nI (4 * r + s) from by
    rw [show (4 : Int32) = nI 4 from rfl, nI_mul]
    exact (Int32.ofNat_add _ _).symm]
  exact h.set r1 r2 s1 s2
theorem Oq.fl : ∀ (w j : Nat) (U : gSt) (y : Int32), (∀ nm, roI U it nm = roI S it nm) → U.2 32 = S.2 32 → Oq (U.1 76 0) y → (∀ q, j ≤ q → q < j + w → ∃ r s, 1 ≤ r ∧ r ≤ 3 ∧ 1 ≤ s ∧ s ≤ 3 ∧ roI S it (S.2 32 (6 * it + 2 * q)) = nI r ∧ roI S it (S.2 32 (6 * it + (2 * q + 1))) = nI s) → Oq ((fwL it w j U).1 76 0) (bwT S it w j y) := by
  intro w
  induction w with
  | zero => intro j U y _ _ h _; exact h
  | succ w ih =>
    intro j U y hr h32 h hp
    rw [fwL, bwT]
    refine ih (j + 1) (fwS it j U) _ (fun nm => ?_) (by show U.2 32 = _; exact h32) (Oq.fw hr h32 h (hp j (by omega) (by omega))) (fun q q1 q2 => hp q (by omega) (by omega))
    rw [← hr]
    unfold roI fwS
    rw [sI_ne (by omega)]
    rfl
end FOS
