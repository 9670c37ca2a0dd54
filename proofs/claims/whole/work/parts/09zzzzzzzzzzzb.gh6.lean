/-! both heaps: a new object -/
/-- one more object -/
def upG (G : GH) (b : Nat) (O : GO) : GH := fun c => if c = b then O else G c
def adD (D : Nat → (Nat → AV) × Nat) (b : Nat) (vs : Nat → AV) (tg : Nat) : Nat → (Nat → AV) × Nat := fun c => if c = b then (vs, tg) else D c
/-- the shape of an object of k places, n words -/
def shG (O : GO) (vs : Nat → AV) (tg k n : Nat) : Prop := (O.2.2.2.2.2.1 = 0 → (∀ p, p < k → O.2.2.2.2.2.2.2.1 p + wg (O.2.2.2.2.2.2.2.2 p) ≤ n) ∧ ∀ p q, p < q → q < k → O.2.2.2.2.2.2.2.1 p + wg (O.2.2.2.2.2.2.2.2 p) ≤ O.2.2.2.2.2.2.2.1 q) ∧ (¬ O.2.2.2.2.2.1 = 0 → k = 1 ∧ O.2.2.2.2.2.2.2.1 0 = 1 ∧ tg < 8 ∧ ∀ f, f < 8 → 1 + wg (O.2.2.2.2.2.2.2.2 f) ≤ n)
section GH6
variable {G G' : GH} {D D' : Nat → (Nat → AV) × Nat} {M M' T T' : gSt} {nf d nb nb' mk na na' ng ng' P W a b c i j p q r s t k n m tg o pg u nx : Nat} {rg rg' : Nat → Nat} {v : AV} {g : List Nat} {x y z w : Int32} {ch : Nat → List Nat} {fr fr' l : List Nat} {f h : Nat → Nat} {O : GO}
theorem sm_pt : ∀ n, (∀ j, j < n → f j = if j = a then b else 0) → a < n → sm f n = b := by
  intro n
  induction n with
  | zero => intro _ h; omega
  | succ n ih =>
    intro h ha
    rw [sm, h n (by omega)]
    by_cases c : n = a
    · rw [if_pos c, sm_0 n (fun j hj => by rw [h j (by omega), if_neg (by omega)])]
      omega
    · rw [if_neg c, ih (fun j hj => h j (by omega)) (by omega), Nat.add_zero]
/-- all cells in use are some region's -/
theorem us_all (h : Hr M na ch fr) (hna : na < 1000) : sm (usO M ch) 4096 = sm (fun j => usR M ch j) na := by
  unfold usR
  rw [← sm_sw]
  refine sm_eq 4096 (fun o ho => ?_)
  unfold usO
  by_cases c : M.1 138 o = 0
  · rw [if_pos c, sm_0 na (fun j _ => if_neg (fun w => w.1 c))]
  · obtain ⟨_, _, _, _, r, r1, r2⟩ := h.1 o ho c
    rw [if_neg c]
    refine (sm_pt (a := r) na (fun j hj => ?_) r2).symm
    rw [r1]
    by_cases e : j = r
    · rw [if_pos e, if_pos ⟨c, by rw [e]⟩]
    · rw [if_neg e, if_neg (fun w => e (nI_inj (by omega) (by omega) w.2).symm)]
theorem pg_all (ho : ∀ p, p < P → T.1 116 p = -1 ∨ ∃ j, j < na ∧ T.1 116 p = nI j) (hna : na < 1000) : sm (fun j => pgN T P j) na = pgU T P := by
  unfold pgN pgU
  rw [← sm_sw]
  refine sm_eq P (fun p hp => ?_)
  rcases ho p hp with e | ⟨i, hi, e⟩
  · rw [if_pos e, sm_0 na (fun j hj => if_neg (fun w => by rw [e] at w; exact nI_neg1 (by omega) w))]
  · rw [if_neg (fun w => by rw [e] at w; exact nI_neg1 (by omega) w.symm)]
    refine sm_pt (a := i) na (fun j hj => ?_) hi
    rw [e]
    by_cases c : j = i
    · rw [if_pos c, if_pos (by rw [c])]
    · rw [if_neg c, if_neg (fun w => c (nI_inj (by omega) (by omega) w).symm)]
theorem sm_mul : ∀ n, sm (fun j => f j * c) n = sm f n * c := by
  intro n
  induction n with
  | zero => rw [sm, sm, Nat.zero_mul]
  | succ n ih => rw [sm, sm, ih, Nat.add_mul]
theorem cR_up (hq : ∀ q, q ≠ o → ((¬ M'.1 138 q = 0 ∧ M'.1 141 q = nI r) ↔ (¬ M.1 138 q = 0 ∧ M.1 141 q = nI r))) : ∀ (n i : Nat), cR M' r n i ≤ cR M r n i + 1 ∧ (o < i → cR M' r n i = cR M r n i) := by
  intro n
  induction n with
  | zero => intro i; exact ⟨Nat.zero_le _, fun _ => rfl⟩
  | succ n ih =>
    intro i
    obtain ⟨i1, i2⟩ := ih (i + 1)
    rw [cR, cR]
    by_cases e : i = o
    · have := i2 (by omega)
      refine ⟨?_, fun w => by omega⟩
      split <;> split <;> omega
    · have w := hq i e
      by_cases c : ¬ M.1 138 i = 0 ∧ M.1 141 i = nI r
      · rw [if_pos c, if_pos (w.mpr c)]
        exact ⟨by omega, fun w => by rw [i2 (by omega)]⟩
      · rw [if_neg c, if_neg (fun z => c (w.mp z))]
        exact ⟨by omega, fun w => by rw [i2 (by omega)]⟩
/-- cells are left for n words more on a page of region r -/
theorem mk_cells (h4 : Hr M na ch fr) (h5 : ∀ j, j < na → RwJ M T P W mk ch j) (ho : ∀ p, p < P → T.1 116 p = -1 ∨ ∃ j, j < na ∧ T.1 116 p = nI j) (hna : na < 1000) (hPW : P * W ≤ 4096) (hP : P ≤ 64) (hr : r < na) (h133 : M.1 133 r = nI pg) (hpg : 1 ≤ pg) (hpg2 : pg < 100000) (h134 : M.1 134 r = nI u) (hu : u + n ≤ W) (hW : W ≤ 64) : n ≤ fr.length := by
  have key : ∀ j, j < na → usR M ch j + (if j = r then n else 0) ≤ pgN T P j * W := fun j hj => by
    obtain ⟨pg', u', w, m, nx, r1, r2, r3, r4, r5, r6, r7, r8, r9, r10, r11, r12, r13, r14, r15⟩ := h5 j hj
    have pgl : pgN T P j ≤ P := by
      unfold pgN
      have := sm_le (f := fun q => if T.1 116 q = nI j then 1 else 0) (h := fun _ => 1) P (fun j _ => by split <;> omega)
      rw [sm_c] at this
      exact this
    by_cases c : j = r
    · subst c
      rw [if_pos rfl]
      have e1 : pg' = pg := nI_inj (by omega) (by omega) (by rw [← r1, h133])
      have e2 : u' = u := nI_inj (by omega) (by omega) (by rw [← r3, h134])
      subst e1 e2
      rw [if_neg (by omega)] at r15
      have := r15.1
      rw [r9]
      omega
    · rw [if_neg c]
      by_cases c0 : pg' = 0
      · rw [if_pos c0] at r15
        omega
      · rw [if_neg c0] at r15
        have := r15.1
        rw [r9]
        omega
  have s1 := sm_le na key
  rw [sm_mul, pg_all ho hna, sm_add, ← us_all h4 hna, sm_pt (a := r) (b := n) na (fun j _ => rfl) hr] at s1
  have s2 : pgU T P * W ≤ P * W := Nat.mul_le_mul_right _ pgU_le
  have := h4.2.2.2.2.2
  omega
end GH6
