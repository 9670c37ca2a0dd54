/-! small methods of the class: faults, counts, code rows, items -/
def ntS (T : gSt) (x y : Int32) : gSt := if T.1 53 0 = 0 then sI (sI T 53 0 x) 54 0 y else T
def emS (T : gSt) (n : Nat) (a b c : Int32) : gSt := sI (sI (sI (sI T 48 n a) 49 n b) 50 n c) 51 0 (nI (n + 1))
def isIt (T : gSt) (fn : Bool) (nm : Int64) (i : Nat) : Bool := decide ((T.1 28 i = 12 ↔ fn = true) ∧ T.2 30 i = nm)
section CLF
variable {nf d : Nat} {T T' : gSt} {X : Lx} {i j k p q m n e c z lo hi t : Nat} {x y a b w : Int32} {nm : Int64}
theorem c_note (hd : 1 ≤ d) : PP nf d 47 T [x, y] [] = some (0, 0, ntS T x y) := by
  obtain ⟨d, rfl⟩ : ∃ g, d = g + 1 := ⟨d - 1, by omega⟩
  rw [e_Code_note]
  unfold rb_Code_note ntS
  split <;> rfl
theorem c_sound (hd : 1 ≤ d) : PP nf d 48 T [] [] = some ((if T.1 53 0 = 0 then 1 else 0), 0, T) := by
  obtain ⟨d, rfl⟩ : ∃ g, d = g + 1 := ⟨d - 1, by omega⟩
  rw [e_Code_isSound]
  unfold rb_Code_isSound
  split <;> rfl
theorem c_tally (hk : k < 7) (hd : 1 ≤ d) : PP nf d 49 T [nI k] [] = some (0, 0, sI T 52 k (T.1 52 k + 1)) := by
  obtain ⟨d, rfl⟩ : ∃ g, d = g + 1 := ⟨d - 1, by omega⟩
  have ck : (nI k).toNatClampNeg = k := nc (by omega)
  have zk : inb (nI k) 7 := nin hk (by omega)
  have l0 : ¬ nI k < 0 := nzI (by omega)
  have l7 : ¬ (7 : Int32) ≤ nI k := fun w => by
    have := (nI_leI (a := 7) (b := k) (by omega) (by omega)).mp w
    omega
  rw [e_Code_tally]
  unfold rb_Code_tally
  rw [if_neg l0, if_neg l7]
  simp only [gd, if_pos zk, ck, stK]
theorem c_emit (h : T.1 51 0 = nI n) (hn : n < 6032) (hd : 1 ≤ d) : PP nf d 51 T [a, b, w] [] = some (nI n, 0, emS T n a b w) := by
  obtain ⟨d, rfl⟩ : ∃ g, d = g + 1 := ⟨d - 1, by omega⟩
  have cn : (nI n).toNatClampNeg = n := nc (by omega)
  have zn : inb (nI n) 6032 := nin hn (by omega)
  have ln : nI n < 6032 := (nI_ltI (a := n) (b := 6032) (by omega) (by omega)).mpr hn
  rw [e_Code_emit]
  unfold rb_Code_emit emS
  rw [h, if_pos ln]
  have o : ∀ (S : gSt) (k q : Nat) (v : Int32), k ≠ 51 → (sI S k q v).1 51 = S.1 51 := fun S k q v h => sI_ne (fun e => h e.symm)
  simp only [gd, stK, o _ _ _ _ (show 48 ≠ 51 by omega), o _ _ _ _ (show 49 ≠ 51 by omega), o _ _ _ _ (show 50 ≠ 51 by omega), h, if_pos zn, cn, nI_1]
  rw [sI_v]
  have e : nI (n + 1) - 1 = nI n := nI_sub
  rw [e]
/-- behind the last row nothing is laid -/
theorem c_emit0 (h : T.1 51 0 = nI n) (hn : 6032 ≤ n) (hn2 : n < 100000) (hd : 1 ≤ d) : ∃ r, PP nf d 51 T [a, b, w] [] = some (r, 0, T) := by
  obtain ⟨d, rfl⟩ : ∃ g, d = g + 1 := ⟨d - 1, by omega⟩
  have ln : ¬ nI n < 6032 := fun w => by
    have := (nI_ltI (a := n) (b := 6032) (by omega) (by omega)).mp w
    omega
  rw [e_Code_emit]
  unfold rb_Code_emit
  rw [h, if_neg ln]
  exact ⟨_, rfl⟩
theorem c_isPart (ht : t < 24) (hq : q < 8) (hd : 1 ≤ d) : PP nf d 44 T [nI t, nI q] [] = some (1, 0, T) := by
  obtain ⟨d, rfl⟩ : ∃ g, d = g + 1 := ⟨d - 1, by omega⟩
  rw [e_Items_isPart]
  unfold rb_Items_isPart
  rw [if_neg (nzI (by omega)), if_neg (fun w => by
    have := (nI_leI (a := 24) (b := t) (by omega) (by omega)).mp w
    omega), if_neg (nzI (by omega)), if_neg (fun w => by
    have := (nI_leI (a := 8) (b := q) (by omega) (by omega)).mp w
    omega)]
theorem c_tokOf (ht : t < 24) (hq : q < 8) (hd : 2 ≤ d) : PP nf d 36 T [nI t, nI q] [] = some (T.1 43 (8 * t + q), 0, T) := by
  obtain ⟨d, rfl⟩ : ∃ g, d = g + 1 := ⟨d - 1, by omega⟩
  rw [e_Items_tokOfPart]
  unfold rb_Items_tokOfPart
  rw [c_isPart ht hq (by omega), bis, if_neg (by decide), mul8 ht hq, gd, if_pos (nin (by omega) (by omega)), nc (by omega)]
theorem c_typeOf (ht : t < 24) (hq : q < 8) (hd : 2 ≤ d) : PP nf d 37 T [nI t, nI q] [] = some (T.1 44 (8 * t + q), 0, T) := by
  obtain ⟨d, rfl⟩ : ∃ g, d = g + 1 := ⟨d - 1, by omega⟩
  rw [e_Items_typeOfPart]
  unfold rb_Items_typeOfPart
  rw [c_isPart ht hq (by omega), bis, if_neg (by decide), mul8 ht hq, gd, if_pos (nin (by omega) (by omega)), nc (by omega)]
theorem c_placeOf (ht : t < 24) (hq : q < 8) (hd : 2 ≤ d) : PP nf d 38 T [nI t, nI q] [] = some (T.1 45 (8 * t + q), 0, T) := by
  obtain ⟨d, rfl⟩ : ∃ g, d = g + 1 := ⟨d - 1, by omega⟩
  rw [e_Items_placeOfPart]
  unfold rb_Items_placeOfPart
  rw [c_isPart ht hq (by omega), bis, if_neg (by decide), mul8 ht hq, gd, if_pos (nin (by omega) (by omega)), nc (by omega)]
theorem c_setPart (ht : t < 24) (hq : q < 8) (hd : 2 ≤ d) : PP nf d 40 T [nI t, nI q, x, y] [] = some (0, 0, sI (sI T 44 (8 * t + q) x) 45 (8 * t + q) y) := by
  obtain ⟨d, rfl⟩ : ∃ g, d = g + 1 := ⟨d - 1, by omega⟩
  rw [e_Items_setPart]
  unfold rb_Items_setPart
  rw [c_isPart ht hq (by omega), bis, if_neg (by decide), mul8 ht hq, gd, if_pos (nin (by omega) (by omega)), nc (by omega), stK, gd, if_pos (nin (by omega) (by omega)), stK]
/-- the search for an item of a name -/
theorem c_fil {fn : Bool} (hc : T.1 27 0 = nI n) (hn : n ≤ 24) : ∀ (m i fl : Nat), m + i = n → m < fl → rl_Items_find_3 (PP nf d) nf fl T nm (if fn = true then 1 else 0) (nI i) = some (ff (isIt T fn nm) i m, 0, T) := by
  intro m
  induction m with
  | zero =>
    intro i fl h1 h2
    obtain ⟨fl, rfl⟩ : ∃ g, fl = g + 1 := ⟨fl - 1, by omega⟩
    rw [rl_Items_find_3, hc, if_pos (show nI n ≤ nI i from (nI_leI (by omega) (by omega)).mpr (by omega))]
    rfl
  | succ m ih =>
    intro i fl h1 h2
    obtain ⟨fl, rfl⟩ : ∃ g, fl = g + 1 := ⟨fl - 1, by omega⟩
    have ci : (nI i).toNatClampNeg = i := nc (by omega)
    have zi : inb (nI i) 24 := nin (by omega) (by omega)
    have li : ¬ nI n ≤ nI i := fun w => by
      have := (nI_leI (by omega) (by omega)).mp w
      omega
    have go := ih (i + 1) fl (by omega) (by omega)
    rw [rl_Items_find_3, hc, if_neg li, ff]
    unfold rj_Items_find_53
    simp only [gd, if_pos zi, ci, lg_cmp_eq, vK, nI_1, go]
    by_cases c1 : T.1 28 i = 12
    · cases fn with
      | true =>
        by_cases c2 : T.2 30 i = nm
        · rw [if_neg (by decide), if_pos c1, if_neg (by decide), if_pos c2, if_pos (show isIt T true nm i = true from decide_eq_true ⟨⟨fun _ => rfl, fun _ => c1⟩, c2⟩)]
        · rw [if_neg (by decide), if_pos c1, if_neg (by decide), if_neg c2, if_neg (show ¬ isIt T true nm i = true from fun w => c2 (of_decide_eq_true w).2)]
      | false =>
        rw [if_pos (by decide), if_pos c1, if_pos trivial, if_neg (show ¬ isIt T false nm i = true from fun w => absurd ((of_decide_eq_true w).1.mp c1) (by decide))]
    · cases fn with
      | true =>
        rw [if_neg (by decide), if_neg c1, if_pos trivial, if_neg (show ¬ isIt T true nm i = true from fun w => c1 ((of_decide_eq_true w).1.mpr rfl))]
      | false =>
        by_cases c2 : T.2 30 i = nm
        · rw [if_pos (by decide), if_neg c1, if_neg (by decide), if_pos c2, if_pos (show isIt T false nm i = true from decide_eq_true ⟨⟨fun w => absurd w c1, fun w => absurd w (by decide)⟩, c2⟩)]
        · rw [if_pos (by decide), if_neg c1, if_neg (by decide), if_neg c2, if_neg (show ¬ isIt T false nm i = true from fun w => c2 (of_decide_eq_true w).2)]
theorem c_find {fn : Bool} (hnf : 30 ≤ nf) (hc : T.1 27 0 = nI n) (hn : n ≤ 24) (hx : x = if fn = true then 1 else 0) (hd : 1 ≤ d) : PP nf d 45 T [x] [nm] = some (ff (isIt T fn nm) 0 n, 0, T) := by
  obtain ⟨d, rfl⟩ : ∃ g, d = g + 1 := ⟨d - 1, by omega⟩
  rw [hx, e_Items_find]
  unfold rb_Items_find
  exact c_fil hc hn n 0 nf (by omega) (by omega)
theorem c_crl (hX : XO X) (hT : TkC X T) : ∀ (m c fl : Nat), m + c = 3 → m < fl → i < 99000 → rl_Source_countRegions_2 (PP nf (d + 1)) nf fl T (nI i) (nI c) = some (nI (c + rgs (xK X) m (i + c)), 0, T) := by
  intro m
  induction m with
  | zero =>
    intro c fl h1 h2 h3
    obtain ⟨fl, rfl⟩ : ∃ g, fl = g + 1 := ⟨fl - 1, by omega⟩
    rw [rl_Source_countRegions_2, if_pos (show (3 : Int32) ≤ nI c by rw [show c = 3 by omega]; decide), rgs, Nat.add_zero]
  | succ m ih =>
    intro c fl h1 h2 h3
    obtain ⟨fl, rfl⟩ : ∃ g, fl = g + 1 := ⟨fl - 1, by omega⟩
    have hk := (hX.2 (i + c)).2
    rw [rl_Source_countRegions_2, if_neg (fun w => by
      have := (nI_leI (a := 3) (b := c) (by omega) (by omega)).mp w
      omega), show nI i + nI c = nI (i + c) from (Int32.ofNat_add _ _).symm, c_kind hX hT (by omega), bis, rgs]
    have q4 : (nI (xK X (i + c)) = 4) = (xK X (i + c) = 4) := ci_eq (j := 4) (by omega) (by omega)
    simp only [q4]
    by_cases c4 : xK X (i + c) = 4
    · rw [if_pos c4, if_pos c4, vK, nI_1, ih (c + 1) fl (by omega) (by omega) h3, show i + (c + 1) = i + c + 1 by omega, show c + 1 + rgs (xK X) m (i + c + 1) = c + (rgs (xK X) m (i + c + 1) + 1) by omega]
    · rw [if_neg c4, if_neg c4, Nat.add_zero]
theorem c_cntR (hX : XO X) (hT : TkC X T) (hnf : 10 ≤ nf) (hi : i < 99000) (hd : 2 ≤ d) : PP nf d 35 T [nI i] [] = some (nI (rgs (xK X) 3 i), 0, T) := by
  obtain ⟨d, rfl⟩ : ∃ g, d = g + 2 := ⟨d - 2, by omega⟩
  rw [e_Source_countRegions _ (d + 1)]
  unfold rb_Source_countRegions
  have := c_crl (nf := nf) (d := d) (i := i) hX hT 3 0 nf (by omega) (by omega) hi
  rw [Nat.add_zero, Nat.zero_add] at this
  exact this
end CLF
