/-! program's answers, on both sides */
-/
def cF (M : gSt) : Nat → Nat → Nat
  | 0, _ => 0
  | k + 1, i => (if M.1 12 i = 2 then 1 else 0) + cF M k (i + 1)
def PgB (M T : gSt) : Prop := ∃ n, M.1 11 0 = nI n ∧ n ≤ 24 ∧ cF M n 0 ≤ n ∧ T.1 52 0 = nI (n - cF M n 0) ∧ T.1 52 1 = nI (cF M n 0) ∧ T.1 52 2 = M.1 92 0 ∧ T.1 52 3 = M.1 88 0 ∧ T.1 52 4 = M.1 89 0 ∧ T.1 52 5 = M.1 90 0 ∧ T.1 52 6 = M.1 91 0
section SWM
variable {M M' T T' S Sf : gSt} {X : Lx} {its : List It} {F F' : gF} {nf n : Nat} {p : Int32}
theorem cF_eq (h : M'.1 12 = M.1 12) : ∀ k i, cF M' k i = cF M k i := by
  intro k
  induction k with
  | zero => intro i; rfl
  | succ k ih => intro i; rw [cF, cF, ih, h]
theorem cf_cF : ∀ (xs : List It) (t c p a z : Nat), RepP X T t c p xs → ItsOk X xs a z → cfT X 1 xs = cF T xs.length t ∧ cfT X 0 xs + cF T xs.length t = xs.length := by
  intro xs
  induction xs with
  | nil => intro t c p a z _ _; exact ⟨rfl, rfl⟩
  | cons x xs ih =>
    intro t c p a z hR hI
    obtain ⟨p', p1, p2, rI, rP⟩ := hR
    obtain ⟨b, iO, iR⟩ := hI
    obtain ⟨i, ee, l, rt, dt, n, wt, w, bd⟩ := x
    obtain ⟨i1, i2, i3, _⟩ := iO
    obtain ⟨e1, e2⟩ := ih _ _ _ _ _ rP iR
    have a1 := rI.1
    rw [List.length_cons, cF, cfT, cfT]
    show (if (xK X i = 12 ↔ (1 : Nat) = 1) then 1 else 0) + cfT X 1 xs = _ ∧ (if (xK X i = 12 ↔ (0 : Nat) = 1) then 1 else 0) + cfT X 0 xs + _ = _
    by_cases k12 : xK X i = 12
    · have v1 : (if (xK X i = 12 ↔ (1 : Nat) = 1) then 1 else 0) = 1 := if_pos ⟨fun _ => rfl, fun _ => k12⟩
      have v0 : (if (xK X i = 12 ↔ (0 : Nat) = 1) then 1 else 0) = 0 := if_neg (fun w => absurd (w.mp k12) (by decide))
      have vF : (if T.1 12 t = 2 then 1 else 0) = 1 := if_pos (by rw [a1, if_neg (by omega), if_neg (by omega)])
      rw [v1, v0, vF]
      omega
    · have v1 : (if (xK X i = 12 ↔ (1 : Nat) = 1) then 1 else 0) = 0 := if_neg (fun w => k12 (w.mpr rfl))
      have v0 : (if (xK X i = 12 ↔ (0 : Nat) = 1) then 1 else 0) = 1 := if_pos ⟨fun w => absurd w k12, fun w => absurd w (by decide)⟩
      have vF : (if T.1 12 t = 2 then 1 else 0) = 0 := if_neg (by
        rw [a1]
        rcases i3 with z | z | z
        · rw [if_pos z]; decide
        · rw [if_neg (by omega), if_pos z]; decide
        · exact absurd z k12)
      rw [v1, v0, vF]
      omega
theorem prg_b (h : Prg X its S Sf M T) : PgB M T := by
  obtain ⟨hSf, rm, hp, hf0, hc, ck, gk, _, hM, ⟨⟨hs, _, ai, ct, h71⟩, _, h27, h50, h521⟩⟩ := h
  obtain ⟨r1, r2, r3, r4, r5, r6, r7, r8, T2, eT, rp⟩ := rm
  have fhS : FH (sI S 65 0 1) (hdsS X its S) := (FH.hds (X := X) its 0 0 (sI S 65 0 1)).tr FH.mn
  have fwF : FW (hdsS X its S) Sf := by rw [hSf]; exact FW.fns _ _ _ _
  have oS : ∀ k, k = 11 ∨ k = 12 → M.1 k = S.1 k := fun k hk => by
    rw [hM k (by omega) (by omega) (by omega) (by omega) (by unfold anF; simp; omega), fwF.1 k (by omega) (by omega) (by omega), fhS.1 k (by omega) (by omega) (by omega) (by omega) (by omega) (by omega), sI_ne (by omega)]
  have e12 : M.1 12 = T2.1 12 := by rw [oS 12 (by omega), ← eT]; rfl
  obtain ⟨c1, c2⟩ := cf_cF its 0 0 0 0 _ rp r6
  rw [← cF_eq (M := T2) (M' := M) e12] at c1 c2
  obtain ⟨t2, t3, t4, t5, t6⟩ := ct
  have m9 : ∀ k, 88 ≤ k → k ≤ 92 → M.1 k = Sf.1 k := fun k a b => hM k (by omega) (by omega) (by omega) (by omega) (by unfold anF; simp; omega)
  refine ⟨its.length, by rw [oS 11 (by omega)]; exact r1, r2, by omega, by rw [h50]; congr 1; omega, by rw [h521, c1], by rw [t2, m9 92 (by omega) (by omega)], by rw [t3, m9 88 (by omega) (by omega)], by rw [t4, m9 89 (by omega) (by omega)], by rw [t5, m9 90 (by omega) (by omega)], by rw [t6, m9 91 (by omega) (by omega)]⟩
theorem pr_13 (h11 : M.1 11 0 = nI n) (hn : n ≤ 24) : ∀ (k i a fl : Nat), i + k = n → k < fl → a ≤ i → ∃ fl', rl_Model_program_I_13 F nf fl M p (nI a) (nI i) = rl_Model_program_I_13 F nf (fl' + 1) M p (nI (a + cF M k i)) (nI n) := by
  intro k
  induction k with
  | zero =>
    intro i a fl hi hf ha
    obtain ⟨fl, rfl⟩ : ∃ k', fl = k' + 1 := ⟨fl - 1, by omega⟩
    have e : i = n := by omega
    subst e
    exact ⟨fl, rfl⟩
  | succ k ih =>
    intro i a fl hi hf ha
    obtain ⟨fl, rfl⟩ : ∃ k', fl = k' + 1 := ⟨fl - 1, by omega⟩
    have lt : ¬ nI n ≤ nI i := fun w => by
      have := (nI_leI (a := n) (b := i) (by omega) (by omega)).mp w
      omega
    rw [rl_Model_program_I_13, h11, if_neg lt, gd, if_pos (nin (by omega) (by omega)), nc (by omega), cF]
    by_cases c : M.1 12 i = 2
    · rw [if_pos c, if_pos c]
      unfold vK
      obtain ⟨fl', e⟩ := ih (i + 1) (a + 1) fl (by omega) (by omega) (by omega)
      rw [nI_1, nI_1]
      exact ⟨fl', by dsimp only; rw [e, show a + 1 + cF M k (i + 1) = a + (1 + cF M k (i + 1)) by omega]⟩
    · rw [if_neg c, if_neg c]
      unfold vK
      obtain ⟨fl', e⟩ := ih (i + 1) a fl (by omega) (by omega) (by omega)
      rw [Int32.add_zero, nI_1]
      exact ⟨fl', by dsimp only; rw [e, Nat.zero_add]⟩
theorem a_program (h : (M.1 10 0 = 0 ∧ T.1 3 0 = 0) ∨ (M.1 10 0 = 1 ∧ T.1 3 0 = 1 ∧ PgB M T)) (hnf : 30 ≤ nf) : ∃ r, rb_Model_program_I F nf M p = some (r, 0, M) ∧ rb_House_program F' nf T p = some (r, 0, T) := by
  unfold rb_Model_program_I rb_House_program
  rcases h with ⟨h1, h2⟩ | ⟨h1, h2, n, b1, b2, b3, b4, b5, b6, b7, b8, b9, b10⟩
  · rw [if_pos h1, if_pos h2]
    exact ⟨_, rfl, rfl⟩
  rw [if_neg (by rw [h1]; decide), if_neg (by rw [h2]; decide)]
  obtain ⟨fl', e⟩ := pr_13 (F := F) (nf := nf) (p := p) b1 b2 n 0 0 nf (by omega) (by omega) (by omega)
  have e' : rl_Model_program_I_13 F nf nf M p 0 0 = rl_Model_program_I_13 F nf (fl' + 1) M p (nI (0 + cF M n 0)) (nI n) := e
  rw [e', rl_Model_program_I_13, b1, if_pos (Int32.le_refl _), Nat.zero_add]
  have i7 : ∀ j, j < 7 → inb (nI j) 7 := fun j hj => nin (by omega) (by omega)
  by_cases c0 : p = 0
  · subst c0
    rw [if_pos rfl, if_neg (by decide), if_pos (by decide), gd, if_pos (show inb (0 : Int32) 7 from i7 0 (by omega))]
    refine ⟨_, rfl, ?_⟩
    show some (T.1 52 0, _, _) = _
    rw [b4, show nI n - nI (cF M n 0) = nI (n - cF M n 0) from by rw [show nI n = nI (n - cF M n 0) + nI (cF M n 0) from by rw [← show nI (n - cF M n 0 + cF M n 0) = nI (n - cF M n 0) + nI (cF M n 0) from Int32.ofNat_add _ _, Nat.sub_add_cancel b3]]; exact Int32.add_sub_cancel _ _]
  rw [if_neg c0]
  by_cases c1 : p = 1
  · subst c1
    rw [if_pos rfl, if_neg (by decide), if_pos (by decide), gd, if_pos (show inb (1 : Int32) 7 from i7 1 (by omega))]
    refine ⟨_, rfl, ?_⟩
    show some (T.1 52 1, _, _) = _
    rw [b5]
  rw [if_neg c1]
  by_cases c2 : p = 2
  · subst c2
    rw [if_pos rfl, if_neg (by decide), if_pos (by decide), gd, if_pos (show inb (2 : Int32) 7 from i7 2 (by omega))]
    refine ⟨_, rfl, ?_⟩
    show some (T.1 52 2, _, _) = _
    rw [b6]
  rw [if_neg c2]
  by_cases c3 : p = 3
  · subst c3
    rw [if_pos rfl, if_neg (by decide), if_pos (by decide), gd, if_pos (show inb (3 : Int32) 7 from i7 3 (by omega))]
    refine ⟨_, rfl, ?_⟩
    show some (T.1 52 3, _, _) = _
    rw [b7]
  rw [if_neg c3]
  by_cases c4 : p = 4
  · subst c4
    rw [if_pos rfl, if_neg (by decide), if_pos (by decide), gd, if_pos (show inb (4 : Int32) 7 from i7 4 (by omega))]
    refine ⟨_, rfl, ?_⟩
    show some (T.1 52 4, _, _) = _
    rw [b8]
  rw [if_neg c4]
  by_cases c5 : p = 5
  · subst c5
    rw [if_pos rfl, if_neg (by decide), if_pos (by decide), gd, if_pos (show inb (5 : Int32) 7 from i7 5 (by omega))]
    refine ⟨_, rfl, ?_⟩
    show some (T.1 52 5, _, _) = _
    rw [b9]
  rw [if_neg c5]
  by_cases c6 : p = 6
  · subst c6
    rw [if_pos rfl, if_neg (by decide), if_pos (by decide), gd, if_pos (show inb (6 : Int32) 7 from i7 6 (by omega))]
    refine ⟨_, rfl, ?_⟩
    show some (T.1 52 6, _, _) = _
    rw [b10]
  rw [if_neg c6]
  refine ⟨_, rfl, ?_⟩
  by_cases n : p < 0
  · rw [if_pos n]
  · rw [if_neg n, if_neg]
    intro w
    obtain ⟨j, rfl, hj⟩ := i32_nn n
    have j8 : j < 7 := by
      have e : (7 : Int32) = Int32.ofNat 7 := rfl
      have := Int32.lt_iff_toInt_lt.mp w
      rw [show nI j = Int32.ofNat j from rfl, Int32.toInt_ofNat_of_lt (by omega), e, Int32.toInt_ofNat_of_lt (by omega)] at this
      omega
    obtain z | z | z | z | z | z | z : j = 0 ∨ j = 1 ∨ j = 2 ∨ j = 3 ∨ j = 4 ∨ j = 5 ∨ j = 6 := by omega
    all_goals subst z
    · exact c0 rfl
    · exact c1 rfl
    · exact c2 rfl
    · exact c3 rfl
    · exact c4 rfl
    · exact c5 rfl
    · exact c6 rfl
end SWM
