/-! the class's machine: a call begins -/
/-- the new call's row: back, base, regions, tries, handles -/
def enF (T : gSt) (c b g : Nat) : gSt := sI (sI (sI (sI (sI (sI (sI (sI (sI T 102 0 (nI (c + 1))) 101 (17 * (c + 1)) (T.1 105 0)) 101 (17 * (c + 1) + 1) (nI b)) 101 (17 * (c + 1) + 3) (T.1 122 0)) 101 (17 * (c + 1) + 4) (T.1 104 0)) 101 (17 * (c + 1) + 5) 0) 101 (17 * (c + 1) + 6) (T.1 101 (17 * c + 5 + t1C g 1))) 101 (17 * (c + 1) + 7) (T.1 101 (17 * c + 5 + t1C g 2))) 101 (17 * (c + 1) + 8) (T.1 101 (17 * c + 5 + t1C g 3))
def enC (T : gSt) (c b g t : Nat) : gSt := sI (sI (enF T c b g) 100 0 (nI (b + 80))) 105 0 (T.1 42 t)
section CM7
variable {T T' : gSt} {nf d t a b c k P W n m i q s fl r j e it g p : Nat} {w x y v op : Int32} {f : Nat → Int32}
theorem enF_o (h1 : k ≠ 101) (h2 : k ≠ 102) : (enF T c b g).1 k = T.1 k := by
  unfold enF
  rw [sI_ne h1, sI_ne h1, sI_ne h1, sI_ne h1, sI_ne h1, sI_ne h1, sI_ne h1, sI_ne h1, sI_ne h2]
theorem enF_lo (hq : q < 17 * (c + 1) ∨ 17 * (c + 1) + 9 ≤ q ∨ q = 17 * (c + 1) + 2) : (enF T c b g).1 101 q = T.1 101 q := by
  unfold enF
  rw [rdI, if_neg (by omega), rdI, if_neg (by omega), rdI, if_neg (by omega), rdI, if_neg (by omega), rdI, if_neg (by omega), rdI, if_neg (by omega), rdI, if_neg (by omega), rdI, if_neg (by omega), sI_ne (by omega)]
theorem enF_v : (enF T c b g).1 101 (17 * (c + 1)) = T.1 105 0 ∧ (enF T c b g).1 101 (17 * (c + 1) + 1) = nI b ∧ (enF T c b g).1 101 (17 * (c + 1) + 3) = T.1 122 0 ∧ (enF T c b g).1 101 (17 * (c + 1) + 4) = T.1 104 0 ∧ (enF T c b g).1 101 (17 * (c + 1) + 5) = 0 ∧ (enF T c b g).1 101 (17 * (c + 1) + 6) = T.1 101 (17 * c + 5 + t1C g 1) ∧ (enF T c b g).1 101 (17 * (c + 1) + 7) = T.1 101 (17 * c + 5 + t1C g 2) ∧ (enF T c b g).1 101 (17 * (c + 1) + 8) = T.1 101 (17 * c + 5 + t1C g 3) := by
  unfold enF
  refine ⟨?_, ?_, ?_, ?_, ?_, ?_, ?_, ?_⟩
  · rw [rdI, if_neg (by omega), rdI, if_neg (by omega), rdI, if_neg (by omega), rdI, if_neg (by omega), rdI, if_neg (by omega), rdI, if_neg (by omega), rdI, if_neg (by omega), sI_v]
  · rw [rdI, if_neg (by omega), rdI, if_neg (by omega), rdI, if_neg (by omega), rdI, if_neg (by omega), rdI, if_neg (by omega), rdI, if_neg (by omega), sI_v]
  · rw [rdI, if_neg (by omega), rdI, if_neg (by omega), rdI, if_neg (by omega), rdI, if_neg (by omega), rdI, if_neg (by omega), sI_v]
  · rw [rdI, if_neg (by omega), rdI, if_neg (by omega), rdI, if_neg (by omega), rdI, if_neg (by omega), sI_v]
  · rw [rdI, if_neg (by omega), rdI, if_neg (by omega), rdI, if_neg (by omega), sI_v]
  · rw [rdI, if_neg (by omega), rdI, if_neg (by omega), sI_v]
  · rw [rdI, if_neg (by omega), sI_v]
  · rw [sI_v]
theorem enF_102 : (enF T c b g).1 102 0 = nI (c + 1) := by
  unfold enF
  rw [sI_ne (by omega), sI_ne (by omega), sI_ne (by omega), sI_ne (by omega), sI_ne (by omega), sI_ne (by omega), sI_ne (by omega), sI_ne (by omega), sI_v]
/-- one handle -/
theorem en_1 {V : gSt} {x1 : Int32} (hV : V.1 102 0 = nI (c + 1)) (hc : c < 40) (hk1 : 1 ≤ k) (hk : k ≤ 3) (hg : g < 4096) (hr : t1C g k < 12) (hd : 1 ≤ d) : rl_Machine_enter_116 (PP nf d) nf (fl + 1) V x1 (nI g) (nI b) (nI (17 * c + 5)) (nI k) = rl_Machine_enter_116 (PP nf d) nf fl (sI V 101 (17 * (c + 1) + (5 + k)) (V.1 101 (17 * c + 5 + t1C g k))) x1 (nI g) (nI b) (nI (17 * c + 5)) (nI (k + 1)) := by
  rw [rl_Machine_enter_116, if_neg (show ¬ (3 : Int32) < nI k from fun q => by
    have := (nI_ltI (a := 3) (b := k) (by omega) (by omega)).mp q
    omega), c_toldOne (by omega) hg hd, bis, if_neg (show ¬ (11 : Int32) < nI (t1C g k) from fun q => by
    have := (nI_ltI (a := 11) (b := t1C g k) (by omega) (by omega)).mp q
    omega), show nI (17 * c + 5) + nI (t1C g k) = nI (17 * c + 5 + t1C g k) from (Int32.ofNat_add _ _).symm, gd, if_pos (nin (by omega) (by omega)), nc (by omega), show (5 : Int32) + nI k = nI (5 + k) from (Int32.ofNat_add 5 k).symm, c_setFrame hV (by omega) (by omega) hd, bis, vK, nI_1]
theorem c_enter (h27 : T.1 27 0 = nI n) (hn : n ≤ 24) (ht : t < n) (h102 : T.1 102 0 = nI c) (hc : c < 40) (h100 : T.1 100 0 = nI (b + p)) (h41 : T.1 41 t = nI p) (hp : p < 1000) (hb : b + 80 ≤ 23200) (hg : g < 4096) (hr : ∀ k, 1 ≤ k → k ≤ 3 → t1C g k < 12) (hnf : 5 < nf) (hd : 2 ≤ d) : PP nf d 217 T [nI t, nI g] [] = some (0, 0, enC T c b g t) := by
  obtain ⟨d, rfl⟩ : ∃ g, d = g + 1 := ⟨d - 1, by omega⟩
  obtain ⟨nf, rfl⟩ : ∃ g, nf = g + 4 := ⟨nf - 4, by omega⟩
  rw [e_Machine_enter]
  unfold rb_Machine_enter
  have e225 : ∀ V : gSt, PP (nf + 4) d 225 V [] [] = some (V.1 122 0, 0, V) := fun V => by
    obtain ⟨d1, hd1⟩ : ∃ g, d = g + 1 := ⟨d - 1, by omega⟩
    rw [hd1, e_Memory_regionCount]
    rfl
  have e1 : T.1 100 0 - nI p = nI b := by
    rw [h100, show nI (b + p) = nI b + nI p from Int32.ofNat_add _ _]
    exact Int32.add_sub_cancel _ _
  have e2 : (if (0 : Int32) < T.1 100 0 - nI p then T.1 100 0 - nI p else 0) = nI b := by
    rw [e1]
    by_cases z : (0 : Int32) < nI b
    · rw [if_pos z]
    · rw [if_neg z]
      have : b = 0 := Decidable.byContradiction fun n0 => z ((nI_ltI (a := 0) (b := b) (by omega) (by omega)).mpr (by omega))
      rw [this]
      rfl
  rw [if_neg (nI_ge0 (by omega)), h27, if_pos (show nI t < nI n from (nI_ltI (by omega) (by omega)).mpr ht), h102, if_pos (show nI c < 40 from (nI_ltI (b := 40) (by omega) (by omega)).mpr hc), gd, if_pos (nin (by omega) (by omega)), nc (by omega), h41, e2, vK, show nI c * 17 + 5 = nI (17 * c + 5) from fr_at (k := 5) (by omega) (by omega), vK, nI_1, stK]
  rw [show ∀ (V : gSt) (y : Int32), PP (nf + 4) d 202 V [0, y] [] = PP (nf + 4) d 202 V [nI 0, y] [] from fun _ _ => rfl, c_setFrame (c := c + 1) (k := 0) (by rw [sI_v]) (by omega) (by omega) (by omega), bis]
  rw [show ∀ (V : gSt) (y : Int32), PP (nf + 4) d 202 V [1, y] [] = PP (nf + 4) d 202 V [nI 1, y] [] from fun _ _ => rfl, c_setFrame (c := c + 1) (k := 1) (by rw [sI_ne (by omega), sI_v]) (by omega) (by omega) (by omega), bis, e225, bis]
  rw [show ∀ (V : gSt) (y : Int32), PP (nf + 4) d 202 V [3, y] [] = PP (nf + 4) d 202 V [nI 3, y] [] from fun _ _ => rfl, c_setFrame (c := c + 1) (k := 3) (by rw [sI_ne (by omega), sI_ne (by omega), sI_v]) (by omega) (by omega) (by omega), bis]
  rw [show ∀ (V : gSt) (y : Int32), PP (nf + 4) d 202 V [4, y] [] = PP (nf + 4) d 202 V [nI 4, y] [] from fun _ _ => rfl, c_setFrame (c := c + 1) (k := 4) (by rw [sI_ne (by omega), sI_ne (by omega), sI_ne (by omega), sI_v]) (by omega) (by omega) (by omega), bis]
  rw [show ∀ (V : gSt) (y : Int32), PP (nf + 4) d 202 V [5, y] [] = PP (nf + 4) d 202 V [nI 5, y] [] from fun _ _ => rfl, c_setFrame (c := c + 1) (k := 5) (by rw [sI_ne (by omega), sI_ne (by omega), sI_ne (by omega), sI_ne (by omega), sI_v]) (by omega) (by omega) (by omega), bis]
  rw [sI_ne (g := 102) (g' := 105) (by omega), sI_ne (g := 101) (g' := 122) (by omega), sI_ne (g := 101) (g' := 122) (by omega), sI_ne (g := 102) (g' := 122) (by omega), sI_ne (g := 101) (g' := 104) (by omega), sI_ne (g := 101) (g' := 104) (by omega), sI_ne (g := 101) (g' := 104) (by omega), sI_ne (g := 102) (g' := 104) (by omega), Nat.add_zero]
  have lo : ∀ V : gSt, ∀ j, j < 12 → ∀ (a : Nat) (y : Int32), (sI V 101 (17 * (c + 1) + a) y).1 101 (17 * c + 5 + j) = V.1 101 (17 * c + 5 + j) := fun V j hj a y => by
    rw [rdI, if_neg (by omega)]
  have lo0 : ∀ V : gSt, ∀ j, j < 12 → ∀ (y : Int32), (sI V 101 (17 * (c + 1)) y).1 101 (17 * c + 5 + j) = V.1 101 (17 * c + 5 + j) := fun V j hj y => lo V j hj 0 y
  have r1 := hr 1 (by omega) (by omega)
  have r2 := hr 2 (by omega) (by omega)
  have r3 := hr 3 (by omega) (by omega)
  have s1 := en_1 (nf := nf + 4) (d := d) (fl := nf + 3) (b := b) (k := 1) (g := g) (x1 := nI t) (V := sI (sI (sI (sI (sI (sI T 102 0 (nI (c + 1))) 101 (17 * (c + 1)) (T.1 105 0)) 101 (17 * (c + 1) + 1) (nI b)) 101 (17 * (c + 1) + 3) (T.1 122 0)) 101 (17 * (c + 1) + 4) (T.1 104 0)) 101 (17 * (c + 1) + 5) 0) (by rw [sI_ne (by omega), sI_ne (by omega), sI_ne (by omega), sI_ne (by omega), sI_ne (by omega), sI_v]) hc (by omega) (by omega) hg r1 (by omega)
  refine Eq.trans s1 ?_
  rw [lo _ _ r1, lo _ _ r1, lo _ _ r1, lo _ _ r1, lo0 _ _ r1, sI_ne (g := 102) (g' := 101) (by omega)]
  refine Eq.trans (en_1 (nf := nf + 4) (d := d) (fl := nf + 2) (b := b) (k := 2) (g := g) (by rw [sI_ne (by omega), sI_ne (by omega), sI_ne (by omega), sI_ne (by omega), sI_ne (by omega), sI_ne (by omega), sI_v]) hc (by omega) (by omega) hg r2 (by omega)) ?_
  rw [lo _ _ r2, lo _ _ r2, lo _ _ r2, lo _ _ r2, lo _ _ r2, lo0 _ _ r2, sI_ne (g := 102) (g' := 101) (by omega)]
  refine Eq.trans (en_1 (nf := nf + 4) (d := d) (fl := nf + 1) (b := b) (k := 3) (g := g) (by rw [sI_ne (by omega), sI_ne (by omega), sI_ne (by omega), sI_ne (by omega), sI_ne (by omega), sI_ne (by omega), sI_ne (by omega), sI_v]) hc (by omega) (by omega) hg r3 (by omega)) ?_
  rw [lo _ _ r3, lo _ _ r3, lo _ _ r3, lo _ _ r3, lo _ _ r3, lo _ _ r3, lo0 _ _ r3, sI_ne (g := 102) (g' := 101) (by omega)]
  rw [rl_Machine_enter_116, if_pos (by decide), show nI b + 80 = nI (b + 80) from (Int32.ofNat_add b 80).symm, if_neg (show ¬ (23200 : Int32) < nI (b + 80) from fun q => by
    have := (nI_ltI (a := 23200) (b := b + 80) (by omega) (by omega)).mp q
    omega), stK, gd, if_pos (nin (by omega) (by omega)), nc (by omega), stK]
  have e42 := enF_o (T := T) (c := c) (b := b) (g := g) (k := 42) (by omega) (by omega)
  unfold enF at e42
  unfold enC enF
  rw [sI_ne (g := 100) (g' := 42) (by omega)]
  exact congrArg (fun z => some ((0 : Int32), (0 : Int64), sI _ 105 0 z)) (congrFun e42 t)
end CM7
