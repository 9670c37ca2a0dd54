/-! the class's machine: objects are made -/
section MK2
variable {M M' T T' : gSt} {nf d n m a b c k t P W w r i j q s : Nat} {x y z : Int32} {f : Nat → Int32}
theorem c_pgw (h : T.1 118 0 = nI W) (hd : 1 ≤ d) : PP nf d 223 T [] [] = some (nI W, 0, T) := by
  obtain ⟨d, rfl⟩ : ∃ g, d = g + 1 := ⟨d - 1, by omega⟩
  rw [e_Memory_pageWords]
  unfold rb_Memory_pageWords
  rw [h]
theorem i64_mul {a b : Int64} {m n : Nat} (ha : a.toInt = (m : Int)) (hb : b.toInt = (n : Int)) (h : m * n < 2 ^ 40) : (a * b).toInt = ((m * n : Nat) : Int) := by
  rw [Int64.toInt_mul, ha, hb, ← Int.natCast_mul]
  exact Int.bmod_eq_of_le (by omega) (by omega)
theorem nI_nn (h : n < 2 ^ 31) : ¬ nI n < 0 := by
  rw [Int32.lt_iff_toInt_lt, nI_toInt h]
  show ¬ (n : Int) < 0
  omega
theorem kw_lt (hk : k < 2 ^ 31) (hw : w ≤ 100) : k * w < 2 ^ 40 := by
  have : k * w ≤ 2 ^ 31 * 100 := Nat.mul_le_mul (by omega) hw
  omega
theorem c_plN (hx : x < 0) (hd : 2 ≤ d) : PP nf d 213 T [y, x, z] [] = bi (PP nf (d - 1) 216 T [5] []) (fun _ _ T2 => some (-1, 0, T2)) := by
  obtain ⟨d, rfl⟩ : ∃ g, d = g + 1 := ⟨d - 1, by omega⟩
  rw [e_Machine_placeFor]
  unfold rb_Machine_placeFor
  rw [if_pos hx]
  rfl
theorem c_pl5 (hk : k < 2 ^ 31) (hw : w ≤ 100) (h : T.1 118 0 = nI W) (hW : W ≤ 64) (hn : W < k * w) (hd : 2 ≤ d) : PP nf d 213 T [x, nI k, nI w] [] = bi (PP nf (d - 1) 216 T [5] []) (fun _ _ T2 => some (-1, 0, T2)) := by
  obtain ⟨d, rfl⟩ : ∃ g, d = g + 1 := ⟨d - 1, by omega⟩
  rw [e_Machine_placeFor]
  unfold rb_Machine_placeFor
  rw [if_neg (nI_nn hk), c_pgw h (by omega), bis, if_neg (fun q => by
    have := (lg_W (i64_mul (i64_n hk) (i64_n (n := w) (by omega)) (kw_lt hk hw)) (W := W) (by omega)).mp q
    omega)]
  rfl
theorem c_plk (h102 : T.1 102 0 = nI c) (hc : c ≤ 40) (hb : b < 12) (hk : k < 2 ^ 31) (hw : w ≤ 100) (h118 : T.1 118 0 = nI W) (hW : W ≤ 64) (hn : k * w ≤ W) (h101 : T.1 101 (17 * c + (5 + b)) = nI r) (hp : PP nf (d - 1) 230 T [nI r, nI (k * w)] [] = some (z, 0, T')) (hd : 2 ≤ d) : PP nf d 213 T [nI b, nI k, nI w] [] = some (z, 0, if z = -1 then sI T' 106 0 4 else T') := by
  obtain ⟨d, rfl⟩ : ∃ g, d = g + 1 := ⟨d - 1, by omega⟩
  rw [Nat.add_sub_cancel] at hp
  rw [e_Machine_placeFor]
  unfold rb_Machine_placeFor
  rw [if_neg (nI_nn hk), c_pgw h118 (by omega), bis, if_pos ((lg_W (i64_mul (i64_n hk) (i64_n (n := w) (by omega)) (kw_lt hk hw)) (W := W) (by omega)).mpr hn), show (5 : Int32) + nI b = nI (5 + b) from (Int32.ofNat_add 5 b).symm, c_frame h102 hc (by omega) (by omega), bis, h101, show nI k * nI w = nI (k * w) from (Int32.ofNat_mul k w).symm, hp, bis]
  by_cases e : z = -1
  · rw [if_pos e, if_pos e, stK]
  · rw [if_neg e, if_neg e]
theorem c_mk0 (hx : x = 40 ∨ x = 41) {y' z' : Int32} (hy : y' = (if x = 40 then y else y &&& 15)) (hz : z' = (if x = 40 then z else z >>> ((8 : Int32) &&& 31))) (h2 : PP nf (d - 1) 213 T [y', 1, z'] [] = some (-1, 0, T')) (hd : 1 ≤ d) : PP nf d 211 T [x, y, z] [] = some (0, 0, T') := by
  obtain ⟨d, rfl⟩ : ∃ g, d = g + 1 := ⟨d - 1, by omega⟩
  rw [Nat.add_sub_cancel] at h2
  rw [e_Machine_doMaking]
  unfold rb_Machine_doMaking
  rcases hx with e | e
  · subst e
    rw [if_pos rfl] at hy hz
    subst hy hz
    rw [if_pos rfl, h2, bis, if_pos rfl]
  · subst e
    rw [if_neg (by decide)] at hy hz
    subst hy hz
    rw [if_neg (by decide), if_pos rfl, h2, bis, if_pos rfl]
theorem nI_n1 (h : a < 90000) : ¬ nI a = -1 := fun w => nI_neg1 (b := a) (by omega) w.symm
theorem c_m40 (h2 : PP nf (d - 1) 213 T [x, 1, nI n] [] = some (nI a, 0, T')) (ha : a < 90000) (h100 : T'.1 100 0 = nI (t + n)) (ht : t + n < 23200) (hn : n < 1000) (hnf : n + 1 < nf) (hp : Pgs T' P W) (ho : ∀ i, i < n → Own T' P W (a + i)) (hd : 6 ≤ d) : PP nf d 211 T [40, x, nI n] [] = some (0, 0, stW (mmW T' a (fun i => T'.1 99 (t + i)) 0 n) t (fun _ => nI (a + 1)) 1) := by
  obtain ⟨d, rfl⟩ : ∃ g, d = g + 1 := ⟨d - 1, by omega⟩
  rw [Nat.add_sub_cancel] at h2
  rw [e_Machine_doMaking]
  unfold rb_Machine_doMaking
  rw [if_pos rfl, h2, bis, if_neg (nI_n1 ha), c_store (t := t) h100 (by omega) hn hnf hp ho (by omega), bis, nI_1, c_push (t := t) (by rw [sI_v]) (by omega) (by omega), bis, ps_stW, stW_100]
theorem bt_41 (hb : b < 12) (hf : j < 8) : (nI b ||| ((nI j + 1) <<< ((4 : Int32) &&& 31))) &&& 15 = nI b ∧ (nI b ||| ((nI j + 1) <<< ((4 : Int32) &&& 31))) >>> ((4 : Int32) &&& 31) = nI (j + 1) := by
  have := (by decide : ∀ (b : Fin 12) (j : Fin 8), (nI b.val ||| ((nI j.val + 1) <<< ((4 : Int32) &&& 31))) &&& 15 = nI b.val ∧ (nI b.val ||| ((nI j.val + 1) <<< ((4 : Int32) &&& 31))) >>> ((4 : Int32) &&& 31) = nI (j.val + 1)) ⟨b, hb⟩ ⟨j, hf⟩
  exact this
theorem bt_41b (hw : w < 4) (hn : n < 26) : (nI w ||| (nI n <<< ((8 : Int32) &&& 31))) &&& 255 = nI w ∧ (nI w ||| (nI n <<< ((8 : Int32) &&& 31))) >>> ((8 : Int32) &&& 31) = nI n := by
  have := (by decide : ∀ (w : Fin 4) (n : Fin 26), (nI w.val ||| (nI n.val <<< ((8 : Int32) &&& 31))) &&& 255 = nI w.val ∧ (nI w.val ||| (nI n.val <<< ((8 : Int32) &&& 31))) >>> ((8 : Int32) &&& 31) = nI n.val) ⟨w, hw⟩ ⟨n, hn⟩
  exact this
theorem c_m41 (h15 : x &&& 15 = nI b) (h4 : x >>> ((4 : Int32) &&& 31) = nI (j + 1)) (h255 : y &&& 255 = nI w) (h8 : y >>> ((8 : Int32) &&& 31) = nI n) (h2 : PP nf (d - 1) 213 T [nI b, 1, nI n] [] = some (nI a, 0, T')) (ha : a < 90000) (h100 : T'.1 100 0 = nI (t + w)) (ht : t + w < 23200) (hw : w < 1000) (hwn : w < n) (hnf : n + 1 < nf) (hp : Pgs T' P W) (ho : ∀ i, i < n → Own T' P W (a + i)) (hd : 6 ≤ d) : PP nf d 211 T [41, x, y] [] = some (0, 0, stW (mmW (puT T' a (nI (j + 1))) (a + 1) (fun i => T'.1 99 (t + i)) 0 w) t (fun _ => nI (a + 1)) 1) := by
  obtain ⟨d, rfl⟩ : ∃ g, d = g + 1 := ⟨d - 1, by omega⟩
  rw [Nat.add_sub_cancel] at h2
  rw [e_Machine_doMaking]
  unfold rb_Machine_doMaking
  have eo : ∀ k, k ≠ 114 → k ≠ 115 → (puT T' a (nI (j + 1))).1 k = T'.1 k := fun k k1 k2 => by
    unfold puT
    rw [sI_ne k2, sI_ne k1]
  have o2 : ∀ i, i < w → Own (puT T' a (nI (j + 1))) P W (a + 1 + i) := fun i hi => by
    have := ho (i + 1) (by omega)
    rw [show a + (i + 1) = a + 1 + i by omega] at this
    unfold Own
    rw [eo 116 (by omega) (by omega)]
    exact this
  have p2 : Pgs (puT T' a (nI (j + 1))) P W := by
    unfold Pgs
    rw [eo 117 (by omega) (by omega), eo 118 (by omega) (by omega)]
    exact hp
  rw [if_neg (by decide), if_pos rfl, h15, h8, h2, bis, if_neg (nI_n1 ha), h4, c_put (a := a) hp (ho 0 (by omega)) (by omega), bis, nI_1, h255, c_store (t := t) (by rw [eo 100 (by omega) (by omega)]; exact h100) (by omega) hw (by omega) p2 o2 (by omega), bis, c_push (t := t) (by rw [sI_v]) (by omega) (by omega), bis, ps_stW, stW_100, eo 99 (by omega) (by omega)]
theorem mmW_u : mmW T a f 0 (i + 1) = puT (mmW T a f 0 i) (a + i) (f i) := by
  refine st_ext (fun k q => ?_) rfl
  unfold puT
  by_cases k1 : k = 115
  · subst k1
    by_cases e : q = a + i
    · rw [mmW_g, if_pos (by omega), e, sI_v]
    · rw [mmW_g, rdI, if_neg (fun w : 115 = 115 ∧ q = a + i => e w.2), sI_ne (by omega), mmW_g]
      by_cases z : a + 0 ≤ q ∧ q < a + i
      · rw [if_pos z, if_pos (by omega)]
      · rw [if_neg z, if_neg (by omega)]
  · rw [sI_ne k1]
    by_cases k2 : k = 114
    · subst k2
      by_cases e : q = a + i
      · rw [mmW_w, if_pos (by omega), e, sI_v, Nat.add_sub_cancel_left]
      · rw [mmW_w, rdI, if_neg (fun w : 114 = 114 ∧ q = a + i => e w.2), mmW_w]
        by_cases z : a + 0 ≤ q ∧ q < a + i
        · rw [if_pos z, if_pos (by omega)]
        · rw [if_neg z, if_neg (by omega)]
    · rw [sI_ne k2, mmW_o k2 k1, mmW_o k2 k1]
theorem rem_w (hw : w = 1 ∨ w = 3) (hi : i < 65) : nI i - nI i / nI w * nI w = nI (i % w) ∧ ¬ nI w = 0 := by
  rcases hw with e | e <;> subst e
  · exact ((by decide : ∀ i : Fin 65, nI i.val - nI i.val / nI 1 * nI 1 = nI (i.val % 1) ∧ ¬ nI 1 = 0) ⟨i, hi⟩)
  · exact ((by decide : ∀ i : Fin 65, nI i.val - nI i.val / nI 3 * nI 3 = nI (i.val % 3) ∧ ¬ nI 3 = 0) ⟨i, hi⟩)
/-- three words -/
theorem ps_3 (T : gSt) : psT (psT (psT (sI T 100 0 (nI t)) t x) (t + 1) y) (t + 1 + 1) z = stW T t (fun i => if i = 0 then x else if i = 1 then y else z) 3 := by
  have h0 : stW (sI T 100 0 (nI t)) t (fun i => if i = 0 then x else if i = 1 then y else z) 0 = sI T 100 0 (nI t) := stW_0 (by rw [sI_v])
  have h1 := stW_s (T := sI T 100 0 (nI t)) (t := t) (f := fun i => if i = 0 then x else if i = 1 then y else z) (n := 0)
  have h2 := stW_s (T := sI T 100 0 (nI t)) (t := t) (f := fun i => if i = 0 then x else if i = 1 then y else z) (n := 1)
  have h3 := stW_s (T := sI T 100 0 (nI t)) (t := t) (f := fun i => if i = 0 then x else if i = 1 then y else z) (n := 2)
  rw [h0] at h1
  rw [← h1] at h2
  rw [← h2, stW_100] at h3
  exact h3
theorem c_rowL (hw : w = 1 ∨ w = 3) (hk : k * w ≤ 64) (hk31 : k < 2 ^ 31) (hp : Pgs T P W) (ho : ∀ i, i < k * w → Own T P W (a + i)) (ha : a < 90000) (ht : t + 10 < 23200) (hd : 4 ≤ d) : ∀ (j i fl : Nat), j + i = k * w → j < fl → rl_Machine_makeRow_36 (PP nf d) nf fl (mmW T a (fun i => T.1 99 (t + 1 + i % w)) 0 i) (nI w) (nI (t + 1)) (nI k) (nI a) (nI i) = some (0, 0, stW (mmW T a (fun i => T.1 99 (t + 1 + i % w)) 0 (k * w)) t (fun i => if i = 0 then nI (a + 1) else if i = 1 then 0 else nI k) 3) := by
  have w31 : w ≤ 3 := by omega
  have w1 : 1 ≤ w := by omega
  have ew : nI k * nI w = nI (k * w) := (Int32.ofNat_mul k w).symm
  intro j
  induction j with
  | zero =>
    intro i fl h1 h2
    obtain ⟨fl, rfl⟩ : ∃ g, fl = g + 1 := ⟨fl - 1, by omega⟩
    have ei : i = k * w := by omega
    subst ei
    have e1 : nI (t + 1) - 1 = nI t := nI_p1
    have e2 : (if (0 : Int32) < nI (t + 1) - 1 then nI (t + 1) - 1 else 0) = nI t := by
      rw [e1]
      by_cases c : (0 : Int32) < nI t
      · rw [if_pos c]
      · rw [if_neg c]
        have : t = 0 := Decidable.byContradiction fun n0 => c (by
          rw [Int32.lt_iff_toInt_lt, nI_toInt (by omega)]
          show (0 : Int) < (t : Int)
          omega)
        rw [this]
        rfl
    rw [rl_Machine_makeRow_36, ew, if_pos (Int32.le_refl _), stK, e2, nI_1, c_push (t := t) (by rw [sI_v]) (by omega) (by omega), bis, c_push (t := t + 1) (by unfold psT; rw [sI_v]) (by omega) (by omega), bis, c_push (t := t + 1 + 1) (by unfold psT; rw [sI_v]) (by omega) (by omega), bis, ps_3]
  | succ j ih =>
    intro i fl h1 h2
    obtain ⟨fl, rfl⟩ : ∃ g, fl = g + 1 := ⟨fl - 1, by omega⟩
    have hi : i < k * w := by omega
    obtain ⟨r1, r2⟩ := rem_w (i := i) hw (by omega)
    have im : i % w < w := Nat.mod_lt _ (by omega)
    have eo : ∀ k, k ≠ 114 → k ≠ 115 → (mmW T a (fun i => T.1 99 (t + 1 + i % w)) 0 i).1 k = T.1 k := fun k k1 k2 => mmW_o k1 k2
    have p2 : Pgs (mmW T a (fun i => T.1 99 (t + 1 + i % w)) 0 i) P W := by
      unfold Pgs
      rw [eo 117 (by omega) (by omega), eo 118 (by omega) (by omega)]
      exact hp
    have o2 : Own (mmW T a (fun i => T.1 99 (t + 1 + i % w)) 0 i) P W (a + i) := by
      unfold Own
      rw [eo 116 (by omega) (by omega)]
      exact ho i hi
    rw [rl_Machine_makeRow_36, ew, if_neg (show ¬ nI (k * w) ≤ nI i from fun q => by
      have := (nI_leI (a := k * w) (b := i) (by omega) (by omega)).mp q
      omega), gd, if_pos r2, r1, show nI (t + 1) + nI (i % w) = nI (t + 1 + i % w) from (Int32.ofNat_add _ _).symm, c_wordAt (by omega) (by omega), bis, show nI a + nI i = nI (a + i) from (Int32.ofNat_add _ _).symm, c_put p2 o2 (by omega), bis, vK, nI_1, eo 99 (by omega) (by omega)]
    have := ih (i + 1) fl (by omega) (by omega)
    rw [mmW_u] at this
    exact this
theorem c_mrow (h100 : T.1 100 0 = nI (t + 1 + w)) (hw : w = 1 ∨ w = 3) (h99 : T.1 99 t = nI k) (h2 : PP nf (d - 2) 213 T [x, nI k, nI w] [] = some (nI a, 0, T')) (e99 : T'.1 99 = T.1 99) (hk : k * w ≤ 64) (hk31 : k < 2 ^ 31) (hp : Pgs T' P W) (ho : ∀ i, i < k * w → Own T' P W (a + i)) (ha : a < 90000) (ht : t + 10 < 23200) (hnf : 64 < nf) (hd : 6 ≤ d) : PP nf d 211 T [42, x, nI w] [] = some (0, 0, stW (mmW T' a (fun i => T.1 99 (t + 1 + i % w)) 0 (k * w)) t (fun i => if i = 0 then nI (a + 1) else if i = 1 then 0 else nI k) 3) := by
  obtain ⟨d, rfl⟩ : ∃ g, d = g + 2 := ⟨d - 2, by omega⟩
  rw [Nat.add_sub_cancel] at h2
  have := c_rowL (nf := nf) (d := d) hw hk hk31 hp ho ha ht (by omega) (k * w) 0 nf (by omega) (by omega)
  rw [e99, mmW_0] at this
  rw [e_Machine_doMaking]
  unfold rb_Machine_doMaking
  rw [if_neg (by decide), if_neg (by decide), e_Machine_makeRow]
  unfold rb_Machine_makeRow
  have e1 : T.1 100 0 - nI w = nI (t + 1) := by
    rw [h100, show nI (t + 1 + w) = nI (t + 1) + nI w from Int32.ofNat_add _ _]
    exact Int32.add_sub_cancel _ _
  rw [vK, e1, show nI (t + 1) - 1 = nI t from nI_p1, c_wordAt (by omega) (by omega), bis, h99, h2, bis, if_neg (nI_n1 ha)]
  exact (congrArg (fun z => bi z (fun _ _ T13 => some ((0 : Int32), (0 : Int64), T13))) this).trans bis
theorem c_mrow0 (h100 : T.1 100 0 = nI (t + 1 + w)) (h99 : T.1 99 t = y) (h2 : PP nf (d - 2) 213 T [x, y, nI w] [] = some (-1, 0, T')) (ht : t + 10 < 23200) (hd : 6 ≤ d) : PP nf d 211 T [42, x, nI w] [] = some (0, 0, T') := by
  obtain ⟨d, rfl⟩ : ∃ g, d = g + 2 := ⟨d - 2, by omega⟩
  rw [Nat.add_sub_cancel] at h2
  rw [e_Machine_doMaking]
  unfold rb_Machine_doMaking
  rw [if_neg (by decide), if_neg (by decide), e_Machine_makeRow]
  unfold rb_Machine_makeRow
  have e1 : T.1 100 0 - nI w = nI (t + 1) := by
    rw [h100, show nI (t + 1 + w) = nI (t + 1) + nI w from Int32.ofNat_add _ _]
    exact Int32.add_sub_cancel _ _
  rw [vK, e1, show nI (t + 1) - 1 = nI t from nI_p1, c_wordAt (by omega) (by omega), bis, h99, h2, bis, if_pos rfl, bis]
end MK2
