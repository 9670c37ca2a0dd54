/-! through a pointer: .f, is, ^ -/
/-- the state behind a place: u 0 fetched, 1 pointed to, 2 stored to -/
def plE (u : Nat) (un : Bool) (pl : Int32) (S : gSt) : gSt := if un = true then (if u = 1 then flT S 4 pl else if u = 2 then sI S 90 0 (S.1 90 0 - 1) else S) else S
/-- a field's row -/
def rwF (u : Nat) (un : Bool) (T : gSt) (t f : Nat) (c : Int32) : Int32 × Int32 × Int32 := if un = true then ((if u = 0 then 21 else 26), nI (f + 1), c) else ((if u = 0 then 20 else if u = 1 then 24 else 25), T.1 45 (8 * t + f), c)
section CXR
variable {R : RgR} {S S' S1 T T' T1 T2 : gSt} {X : Lx} {nf d i k n m t e w c a b q g f h r s y z : Nat} {x v x' u pl : Int32} {sl : Int32 → Int32}
theorem tb_a (hW : WT T) (hy : tyY T y) : tbC T y = -1 ∨ ∃ t, tbC T y = nI t ∧ t < 24 ∧ t < itN T ∧ (kdC T y = 3 ∨ kdC T y = 4) := by
  unfold tbC
  by_cases c : (kdC T y = 3 ∨ kdC T y = 4) ∧ kO T (bhC T y) % 8 = 6
  · rw [if_pos c]
    right
    have y3 : ¬ y < 3 := fun w => by
      have := c.1
      unfold kdC at this
      rw [if_pos w] at this
      omega
    have ek : kdC T y = kO T y % 8 := by unfold kdC; rw [if_neg y3]
    have hb : tyY T (bhC T y) := by
      rcases kO_v hW hy with h | h
      · exact absurd h y3
      · rcases h.2 with w | w
        · omega
        · exact w.2.2
    rcases kO_v hW hb with h | h
    · have : kO T (bhC T y) = 0 := by unfold kO; rw [if_pos (Or.inl h)]
      omega
    · rcases h.2 with w | w
      · exact ⟨_, rfl, w.2.1, w.2.2, c.1⟩
      · omega
  · rw [if_neg c]
    exact Or.inl rfl
theorem TyR.k6 (hh : TyR R S T f x y) : ¬ kO T y % 8 = 6 := by
  rcases hh.rd with ⟨e1, e2, e3⟩ | ⟨e1, e2, e3⟩ | ⟨e1, e2, e3⟩ | ⟨p, kd, r, n, b, g, _, e1, e2, e3, e4, _, e5, e6, e7, e8, e9, _, _, _, _, e10, _⟩
  · have : kO T y = 0 := by unfold kO; rw [if_pos (by omega)]
    omega
  · have : kO T y = 0 := by unfold kO; rw [if_pos (by omega)]
    omega
  · have : kO T y = 0 := by unfold kO; rw [if_pos (by omega)]
    omega
  · unfold kdC at e10
    rw [if_neg (by omega)] at e10
    omega
theorem PkR.dg {w : Int32} (hh : PkR R S t w g) (h00 : R 0 0) (hg : g < 4096) : ∃ W, w = nI W ∧ DgR R W g := by
  obtain ⟨rr, W, a1, a2, a3, a4, a5⟩ := hh
  refine ⟨W, a3, pw3 a2 a4, hg, fun k hk => ?_⟩
  have := a5 k hk
  by_cases c : k < rr
  · rw [if_pos c] at this
    exact this
  · rw [if_neg c] at this
    have : W < 1024 ^ k := Nat.lt_of_lt_of_le a4 (Nat.pow_le_pow_right (by omega) (by omega))
    rw [Nat.div_eq_of_lt this, ‹g / 16 ^ k % 16 = 0›]
    exact h00
/-- a pointer to a struct or union, on both sides -/
theorem TyR.td (h00 : R 0 0) (hh : TyR R S T f x y) : (isTd S x = 0 ∧ tbC T y = -1) ∨ (¬ isTd S x = 0 ∧ ∃ p t g r n W, x = nI p ∧ 1 ≤ p ∧ p < cn S ∧ p < 6000 ∧ S.1 69 p = nI t ∧ t < 24 ∧ tbC T y = nI t ∧ rbC T y = g ∧ g < 4096 ∧ S.1 70 p = nI W ∧ DgR R W g ∧ S.1 67 p = nI r ∧ R r n ∧ rkC T y = n) := by
  have pt := hh.pt
  unfold isTd
  unfold tbC
  by_cases c : isPt S x = 0
  · left
    rw [if_pos c, if_neg (fun w => pt.mp c w.1)]
    exact ⟨rfl, rfl⟩
  · have ck : kdC T y = 3 ∨ kdC T y = 4 := Decidable.byContradiction fun w => c (pt.mpr w)
    rw [if_neg c]
    rcases hh.rd with ⟨e1, e2, e3⟩ | ⟨e1, e2, e3⟩ | ⟨e1, e2, e3⟩ | ⟨p, kd, r, n, b, g, e0, e1, e2, e3, e4, ec, e5, e6, e7, e8, e9, e9', e9'', e10, e11, e12, e13, e14, e15⟩
    · omega
    · omega
    · omega
    · rw [e1, nc (by omega), e14]
      by_cases c69 : 0 ≤ S.1 69 p
      · rw [if_pos c69] at e15
        obtain ⟨b1, b2, b3, t, gg, b4, b5, b6, b7, b8⟩ := e15
        right
        obtain ⟨W, w1, w2⟩ := b8.dg h00 b7
        have n69 : ¬ S.1 69 p < 0 := fun w => by
          rw [b4] at w
          have := (nI_ltI (a := t) (b := 0) (by omega) (by omega)).mp w
          omega
        rw [if_neg n69, if_pos ⟨ck, by omega⟩]
        refine ⟨by decide, p, t, gg, r, n, W, rfl, e2, e3, e4, b4, b5, by rw [show kO T b / 8 % 32 = t by omega], ?_, b7, w1, w2, e9', e10, e13⟩
        unfold rbC
        rw [e14]
        omega
      · rw [if_neg c69] at e15
        left
        have k6 := e15.k6
        have l69 : S.1 69 p < 0 := by
          rw [(ec.2.1 c69).1]
          decide
        rw [if_pos l69, if_neg (fun w => k6 w.2)]
        exact ⟨rfl, rfl⟩
theorem c_null (hy : y < 16387) (hd : 3 ≤ d) : PP nf d 152 T [nI y] [] = some (0, 0, if kdC T y = 4 then sI T 52 3 (T.1 52 3 + 1) else T) := by
  obtain ⟨d, rfl⟩ : ∃ g, d = g + 1 := ⟨d - 1, by omega⟩
  have kl := kdC_lt (T := T) (y := y)
  rw [e_Exprs_countNull]
  unfold rb_Exprs_countNull
  have q4 : (nI (kdC T y) = (4 : Int32)) = (kdC T y = 4) := ci_eq (j := 4) (by omega) (by omega)
  rw [c_kindOf (by omega) (by omega), bis]
  by_cases c : kdC T y = 4
  · rw [if_pos (q4.mpr c), if_pos c, show (3 : Int32) = nI 3 from rfl, c_tally (by omega) (by omega), bis]
  · rw [if_neg (fun w => c (q4.mp w)), if_neg c]
theorem FX.nl (hW : WT T) : FX T (if kdC T y = 4 then sI T 52 3 (T.1 52 3 + 1) else T) := by
  split
  · exact FX.ta hW (by omega)
  · exact FX.rf hW
theorem a_emp {off : Int32} {u : Nat} (hu : u ≤ 2) (hy : y < 16387) (hW : WT T) (h : ∃ c, T.1 51 0 = nI c ∧ c ≤ 6032) (hd : 4 ≤ d) : ∃ T', PP nf d 151 T [nI u, off, nI y] [] = some (0, 0, T') ∧ FX T T' ∧ ∀ n, T.1 51 0 = nI n → n < 6032 → T' = emS T n (if u = 0 then 20 else if u = 1 then 24 else 25) off (nI (wdC T y)) := by
  obtain ⟨d, rfl⟩ : ∃ g, d = g + 1 := ⟨d - 1, by omega⟩
  rw [e_Exprs_emitPointed]
  unfold rb_Exprs_emitPointed
  have q0 : (nI u = (0 : Int32)) = (u = 0) := ci_eq (j := 0) (by omega) (by omega)
  have q1 : (nI u = (1 : Int32)) = (u = 1) := ci_eq (j := 1) (by omega) (by omega)
  simp only [q0, q1]
  have go : ∀ a : Int32, ∃ T', (bi (PP nf d 97 T [nI y] []) fun r7 l7 T7 => bi (PP nf d 51 T7 [a, off, r7] []) fun r8 l8 T8 => some ((0 : Int32), (0 : Int64), T8)) = some (0, 0, T') ∧ FX T T' ∧ ∀ n, T.1 51 0 = nI n → n < 6032 → T' = emS T n a off (nI (wdC T y)) := by
    intro a
    obtain ⟨r, T', m1, m2, m3⟩ := a_emit (nf := nf) (d := d) (T := T) (x := a) (y := off) (z := nI (wdC T y)) hW h (by omega)
    exact ⟨T', by rw [c_wordsOf (by omega) (by omega), bis, m1, bis], m2, m3⟩
  by_cases c0 : u = 0
  · rw [if_pos c0, if_pos c0]; exact go 20
  · rw [if_neg c0, if_neg c0]
    by_cases c1 : u = 1
    · rw [if_pos c1, if_pos c1]; exact go 24
    · rw [if_neg c1, if_neg c1]; exact go 25
theorem a_190 {u : Nat} (hu : u ≤ 2) (hy : y < 16387) (hq : q < 8) (hW : WT T) (h : ∃ c, T.1 51 0 = nI c ∧ c ≤ 6032) (hd : 4 ≤ d) : ∃ T', rj_Exprs_checkField_190 (PP nf d) nf T (nI u) (nI q) (nI y) = some (nI y, 0, T') ∧ FX T T' ∧ ∀ n, T.1 51 0 = nI n → n < 6032 → T' = emS T n (if u = 0 then 21 else 26) (nI (q + 1)) (nI (wdC T y)) := by
  unfold rj_Exprs_checkField_190
  have q0 : (nI u = (0 : Int32)) = (u = 0) := ci_eq (j := 0) (by omega) (by omega)
  simp only [q0, nI_1]
  have go : ∀ a : Int32, ∃ T', (bi (PP nf d 97 T [nI y] []) fun r7 l7 T7 => bi (PP nf d 51 T7 [a, nI (q + 1), r7] []) fun r8 l8 T8 => some (nI y, (0 : Int64), T8)) = some (nI y, 0, T') ∧ FX T T' ∧ ∀ n, T.1 51 0 = nI n → n < 6032 → T' = emS T n a (nI (q + 1)) (nI (wdC T y)) := by
    intro a
    obtain ⟨r, T', m1, m2, m3⟩ := a_emit (nf := nf) (d := d) (T := T) (x := a) (y := nI (q + 1)) (z := nI (wdC T y)) hW h (by omega)
    exact ⟨T', by rw [c_wordsOf (by omega) (by omega), bis, m1, bis], m2, m3⟩
  by_cases c0 : u = 0
  · rw [if_pos c0, if_pos c0]; exact go 21
  · rw [if_neg c0, if_neg c0]; exact go 26
end CXR
