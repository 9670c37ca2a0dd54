/-! a call -/
section XC
variable {nf d : Nat} {T T' T1 : gSt} {X : Lx} {m n p u i k e l lo hi a b s f q : Nat} {x y r w all : Int32} {t ta tb : Tr} {nm : Int64}
theorem roi_l (hf : f < 24) (h15 : T.1 15 f = nI n) (hn : n ≤ 3) : ∀ (k fl i : Nat), i + k = n → k < fl → rl_Model_regionOfItem_3 (RR nf d) nf fl T (nI f) nm (nI i) = some (if ff (isRi T f nm) i k = -1 then -1 else ff (isRi T f nm) i k + 1, 0, T) := by
  have zf : inb (nI f) 24 := nin (by omega) (by omega)
  have cf : (nI f).toNatClampNeg = f := nc (by omega)
  intro k
  induction k with
  | zero =>
    intro fl i hi hfl
    obtain ⟨fl', rfl⟩ : ∃ g, fl = g + 1 := ⟨fl - 1, by omega⟩
    rw [rl_Model_regionOfItem_3]
    simp only [gd, if_pos zf, cf, h15]
    rw [if_pos ((nI_leI (by omega) (by omega)).mpr (by omega))]
    rfl
  | succ k ih =>
    intro fl i hi hfl
    obtain ⟨fl', rfl⟩ : ∃ g, fl = g + 1 := ⟨fl - 1, by omega⟩
    rw [rl_Model_regionOfItem_3]
    have e3 : (3 : Int32) * nI f + nI i = nI (3 * f + i) := by
      rw [show (3 : Int32) = nI 3 from rfl, nI_mul, nI_add]
    have z3 : inb (nI (3 * f + i)) 72 := nin (by omega) (by omega)
    have c3 : (nI (3 * f + i)).toNatClampNeg = 3 * f + i := nc (by omega)
    simp only [gd, if_pos zf, cf, h15, e3, if_pos z3, c3, lg_cmp_eq, vK, nI_1]
    rw [if_neg (fun h => by have := (nI_leI (a := n) (b := i) (by omega) (by omega)).mp h; omega)]
    rw [ih fl' (i + 1) (by omega) (by omega)]
    by_cases c : T.2 16 (3 * f + i) = nm
    · have hff : ff (isRi T f nm) i (k + 1) = nI i := ff_yes (by unfold isRi; simp [c]) (by omega)
      rw [if_pos c, hff, if_neg (nI_m1 (by omega)), nI_1]
    · have hff : ff (isRi T f nm) i (k + 1) = ff (isRi T f nm) (i + 1) k := ff_no (by unfold isRi; simp [c]) (by omega)
      rw [if_neg c, hff]
theorem x_roI (hf : f < 24) (h15 : T.1 15 f = nI n) (hn : n ≤ 3) (hnf : 5000 ≤ nf) : RR nf (d + 1) 62 T [nI f] [nm] = some (roI T f nm, 0, T) := by
  rw [e_Model_regionOfItem]
  unfold rb_Model_regionOfItem roI
  rw [h15, nc (by omega)]
  exact roi_l hf h15 hn n nf 0 (by omega) (by omega)
theorem er_cd {fi : Int32} : ∀ (m k : Nat) (T : gSt), er (cddS X fi all q m k T) = cddS X fi all q m k (er T) := by
  intro m
  induction m with
  | zero => intro k T; rfl
  | succ m ih =>
    intro k T
    rw [cddS, cddS]
    have e7 : (er T).1 7 0 = T.1 7 0 := rfl
    have e30 : (er T).1 30 fi.toNatClampNeg = T.1 30 fi.toNatClampNeg := rfl
    rw [e7, e30, er_isLv]
    by_cases c : T.1 7 0 = 0
    · rw [if_pos c, if_pos c]
      by_cases c2 : ((T.1 30 fi.toNatClampNeg >>> ((nI k + 1) &&& 31)) &&& 1) = 0 ∧ isLv T (ptOf all (nI k)) = 0
      · rw [if_pos c2, if_pos c2, ih, er_fl]
      · rw [if_neg c2, if_neg c2, ih]
    · rw [if_neg c, if_neg c]
theorem er_cw {fi : Int32} : ∀ (m k : Nat) (T : gSt), er (cwhS X fi all q m k T) = cwhS X fi all q m k (er T) := by
  intro m
  induction m with
  | zero => intro k T; rfl
  | succ m ih =>
    intro k T
    rw [cwhS, cwhS]
    have e7 : (er T).1 7 0 = T.1 7 0 := rfl
    have e30 : ∀ f nm, roI (er T) f nm = roI T f nm := fun _ _ => rfl
    have e2 : (er T).2 = T.2 := rfl
    rw [e7, e2, er_dOv]
    simp only [e30]
    by_cases c : T.1 7 0 = 0
    · rw [if_pos c, if_pos c]
      by_cases c2 : dOv T (ptOf all (roI T fi.toNatClampNeg (T.2 32 (6 * fi.toNatClampNeg + 2 * k)) - 1)) (ptOf all (roI T fi.toNatClampNeg (T.2 32 (6 * fi.toNatClampNeg + 2 * k + 1)) - 1)) = 0
      · rw [if_pos c2, if_pos c2, ih, er_fl]
      · rw [if_neg c2, if_neg c2, ih]
    · rw [if_neg c, if_neg c]
theorem nt_cd {fi : Int32} : ∀ (m k : Nat) (T : gSt), ∀ g, anF g = true → (cddS X fi all q m k T).1 g = T.1 g := by
  intro m
  induction m with
  | zero => intro k T g _; rfl
  | succ m ih =>
    intro k T g hg
    rw [cddS]
    split
    · rw [ih _ _ g hg]
      split
      · exact nt_fl g hg
      · rfl
    · rfl
theorem nt_cw {fi : Int32} : ∀ (m k : Nat) (T : gSt), ∀ g, anF g = true → (cwhS X fi all q m k T).1 g = T.1 g := by
  intro m
  induction m with
  | zero => intro k T g _; rfl
  | succ m ih =>
    intro k T g hg
    rw [cwhS]
    split
    · rw [ih _ _ g hg]
      split
      · exact nt_fl g hg
      · rfl
    · rfl
theorem cd_l (hm : m < 8200) (hf : f < 24) (hu : u + e ≤ 4000) (he : e ≤ 3) (hnf : 5000 ≤ nf) : ∀ (k fl i : Nat) (T : gSt), i + k = e → k < fl → T.1 59 m = nI e → T.1 58 m = nI u → (∀ j, j < e → T.1 47 (u + j) = nI (xP X (q + j))) → rl_Model_checkCall_130 (RR nf (d + 1)) nf fl T (nI m) (nI f) all (nI i) = rl_Model_checkCall_205 (RR nf (d + 1)) nf nf (cddS X (nI f) all q k i T) (nI m) (nI f) all 0 := by
  have zm : inb (nI m) 8200 := nin (by omega) (by omega)
  have cm : (nI m).toNatClampNeg = m := nc (by omega)
  have zf : inb (nI f) 24 := nin (by omega) (by omega)
  have cf : (nI f).toNatClampNeg = f := nc (by omega)
  intro k
  induction k with
  | zero =>
    intro fl i T hi hfl h59 h58 h47
    obtain ⟨fl', rfl⟩ : ∃ g, fl = g + 1 := ⟨fl - 1, by omega⟩
    rw [rl_Model_checkCall_130]
    simp only [gd, if_pos zm, cm, h59]
    rw [if_pos ((nI_leI (by omega) (by omega)).mpr (by omega))]
    rfl
  | succ k ih =>
    intro fl i T hi hfl h59 h58 h47
    obtain ⟨fl', rfl⟩ : ∃ g, fl = g + 1 := ⟨fl - 1, by omega⟩
    rw [rl_Model_checkCall_130]
    simp only [gd, if_pos zm, cm, h59, x_bad, bi, bdI_0, if_pos zf, cf, x_part, x_isLv, h58, nI_add, vK, nI_1]
    rw [if_neg (fun h => by have := (nI_leI (a := e) (b := i) (by omega) (by omega)).mp h; omega)]
    rw [if_pos (nin (by omega) (by omega) : inb (nI (u + i)) 4000), nc (m := u + i) (by omega), h47 i (by omega), x_fail]
    simp only
    rw [cddS, cf, nI_1]
    by_cases c : T.1 7 0 = 0
    · rw [if_pos c, if_pos c]
      have o : ∀ g, g ≠ 7 → g ≠ 8 → (flT T 5 (nI (xP X (q + i)))).1 g = T.1 g := fun g h1 h2 => flT_o h1 h2
      have i1 := ih fl' (i + 1) T (by omega) (by omega) h59 h58 h47
      have i2 := ih fl' (i + 1) (flT T 5 (nI (xP X (q + i)))) (by omega) (by omega) (by rw [o 59 (by omega) (by omega)]; exact h59) (by rw [o 58 (by omega) (by omega)]; exact h58) (by rw [o 47 (by omega) (by omega)]; exact h47)
      by_cases c2 : ((T.1 30 f >>> (nI (i + 1) &&& 31)) &&& 1) = 0
      · rw [if_pos c2]
        by_cases c3 : isLv T (ptOf all (nI i)) = 0
        · rw [if_pos c3, if_pos (And.intro c2 c3)]
          exact i2
        · rw [if_neg c3, if_neg (fun z => c3 z.2)]
          exact i1
      · rw [if_neg c2, if_neg (fun z => c2 z.1)]
        exact i1
    · rw [if_neg c, if_neg c]
theorem cw_l (hm : m < 8200) (hf : f < 24) (hu : u + e ≤ 4000) (he : e ≤ 3) (hn : n ≤ 3) (hnf : 5000 ≤ nf) (hp : PK all 3) : ∀ (k fl i : Nat) (T : gSt), i + k = n → k < fl → T.1 31 f = nI n → T.1 15 f = nI e → T.1 58 m = nI u → (∀ j, j < e → T.1 47 (u + j) = nI (xP X (q + j))) → (∀ k, k < 2 * n → ∃ a, roI T f (T.2 32 (6 * f + k)) = nI a ∧ 1 ≤ a ∧ a ≤ e) → Ri T → rl_Model_checkCall_205 (RR nf (d + 2)) nf fl T (nI m) (nI f) all (nI i) = rj_Model_checkCall_317 (RR nf (d + 2)) nf (cwhS X (nI f) all q k i T) (nI m) (nI f) all := by
  have zm : inb (nI m) 8200 := nin (by omega) (by omega)
  have cm : (nI m).toNatClampNeg = m := nc (by omega)
  have zf : inb (nI f) 24 := nin (by omega) (by omega)
  have cf : (nI f).toNatClampNeg = f := nc (by omega)
  intro k
  induction k with
  | zero =>
    intro fl i T hi hfl h31 h15 h58 h47 hr hI
    obtain ⟨fl', rfl⟩ : ∃ g, fl = g + 1 := ⟨fl - 1, by omega⟩
    rw [rl_Model_checkCall_205]
    simp only [gd, if_pos zf, cf, h31]
    rw [if_pos ((nI_leI (by omega) (by omega)).mpr (by omega))]
    rfl
  | succ k ih =>
    intro fl i T hi hfl h31 h15 h58 h47 hr hI
    obtain ⟨fl', rfl⟩ : ∃ g, fl = g + 1 := ⟨fl - 1, by omega⟩
    obtain ⟨a1, a2, a3, a4⟩ := hr (2 * i) (by omega)
    obtain ⟨b1, b2, b3, b4⟩ := hr (2 * i + 1) (by omega)
    have e6 : (6 : Int32) * nI f + (2 : Int32) * nI i = nI (6 * f + 2 * i) := by
      rw [show (6 : Int32) = nI 6 from rfl, show (2 : Int32) = nI 2 from rfl, nI_mul, nI_mul, nI_add]
    have z6 : inb (nI (6 * f + 2 * i)) 144 := nin (by omega) (by omega)
    have c6 : (nI (6 * f + 2 * i)).toNatClampNeg = 6 * f + 2 * i := nc (by omega)
    have z7 : inb (nI (6 * f + 2 * i + 1)) 144 := nin (by omega) (by omega)
    have c7 : (nI (6 * f + 2 * i + 1)).toNatClampNeg = 6 * f + 2 * i + 1 := nc (by omega)
    have s1 : ∀ j, 1 ≤ j → nI j - 1 = nI (j - 1) := by
      intro j hj
      obtain ⟨k, rfl⟩ : ∃ k, j = k + 1 := ⟨j - 1, by omega⟩
      rw [← nI_1]
      exact Int32.add_sub_cancel _ _
    rw [rl_Model_checkCall_205]
    rw [cwhS, cf]
    rw [← Nat.add_assoc] at b2
    have xp : ∀ x y S, RR nf (d + 2) 42 S [x, y] [] = some (ptOf x y, 0, S) := fun _ _ _ => x_part (d := d + 1)
    have xb : ∀ S, RR nf (d + 2) 14 S [] [] = some (bdI S, 0, S) := fun _ => x_bad (d := d + 1)
    have xr : ∀ nm, RR nf (d + 2) 62 T [nI f] [nm] = some (roI T f nm, 0, T) := fun _ => x_roI (d := d + 1) hf h15 he hnf
    have xf : ∀ x y S, RR nf (d + 2) 13 S [x, y] [] = some (0, 0, flT S x y) := fun _ _ _ => x_fail (d := d + 1)
    have hno : ¬ nI n ≤ nI i := fun h => by have := (nI_leI (a := n) (b := i) (by omega) (by omega)).mp h; omega
    rw [gd, if_pos zf, h31, if_neg hno, xb, bis, e6, c6, nI_1, c7]
    simp only [bdI_0]
    rw [gd, if_pos z6, xr, bis, gd, if_pos z7, xr, bis, a2, b2, s1 a1 a3, s1 b1 b3, xp, bis, xp, bis, x_dOv hI (rC2.rc (hp.at (j := b1 - 1) (by omega))) hnf, bis]
    have o : ∀ (y : Int32) g, g ≠ 7 → g ≠ 8 → (flT T 5 y).1 g = T.1 g := fun y g h1 h2 => flT_o h1 h2
    have er : ∀ (y : Int32) nm, roI (flT T 5 y) f nm = roI T f nm := fun y nm => roI_fe (FE.fl (by decide))
    rw [gd, if_pos zm, cm, h58, nI_add, s1 (u + a1) (by omega), gd, if_pos (nin (by omega) (by omega) : inb (nI (u + a1 - 1)) 4000), nc (m := u + a1 - 1) (by omega), show u + a1 - 1 = u + (a1 - 1) from by omega, h47 (a1 - 1) (by omega), xf, bis]
    simp only [vK, nI_1]
    by_cases c : T.1 7 0 = 0
    · rw [if_pos c, if_pos c]
      have i1 := ih fl' (i + 1) T (by omega) (by omega) h31 h15 h58 h47 hr hI
      have i2 := ih fl' (i + 1) (flT T 5 (nI (xP X (q + (a1 - 1))))) (by omega) (by omega) (by rw [o _ 31 (by omega) (by omega)]; exact h31) (by rw [o _ 15 (by omega) (by omega)]; exact h15) (by rw [o _ 58 (by omega) (by omega)]; exact h58) (by rw [o _ 47 (by omega) (by omega)]; exact h47) (by rw [flT_j]; intro k hk; rw [er]; exact hr k hk) (by unfold Ri; rw [o _ 74 (by omega) (by omega)]; exact hI)
      by_cases c2 : dOv T (ptOf all (nI (a1 - 1))) (ptOf all (nI (b1 - 1))) = 0
      · rw [if_pos c2, if_pos c2, nc (m := a1) (by omega), show q + a1 - 1 = q + (a1 - 1) from by omega]
        exact i2
      · rw [if_neg c2, if_neg c2]
        exact i1
    · rw [if_neg c, if_neg c]
end XC
