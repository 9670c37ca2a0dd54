/-! the class's machine: tries, calls -/
def tyM (T : gSt) (k : Nat) (x : Int32) : gSt := sI (sI (sI (sI (sI T 103 (4 * k) x) 103 (4 * k + 1) (T.1 102 0)) 103 (4 * k + 2) (T.1 100 0)) 103 (4 * k + 3) (T.1 122 0)) 104 0 (nI (k + 1))
def rzT (T : gSt) (k : Nat) : gSt := sI (sI (sI (sI (sI T 109 0 (T.1 109 0 + 1)) 104 0 (nI k)) 105 0 (T.1 103 (4 * k))) 102 0 (T.1 103 (4 * k + 1))) 100 0 (T.1 103 (4 * k + 2))
section CM6
variable {T T' : gSt} {nf d t a b c k P W n m i q s fl r j e it g : Nat} {w x y v op : Int32} {f : Nat → Int32}
theorem n4 (hk : k < 10000) : nI k * 4 = nI (4 * k) := by
  rw [show (4 : Int32) = nI 4 from rfl, nI_mul, Nat.mul_comm]
theorem c_tryI (h : T.1 104 0 = nI k) (hk : k < 800) (hd : 3 ≤ d) : PP nf d 214 T [54, x, y] [] = some (0, 0, tyM T k x) := by
  obtain ⟨d, rfl⟩ : ∃ g, d = g + 2 := ⟨d - 2, by omega⟩
  rw [e_Machine_doControl]
  unfold rb_Machine_doControl
  rw [if_neg (by decide), if_neg (by decide), if_neg (by decide), if_neg (by decide), if_pos rfl, e_Machine_pushTry]
  unfold rb_Machine_pushTry
  have e225 : ∀ V : gSt, PP nf d 225 V [] [] = some (V.1 122 0, 0, V) := fun V => by
    obtain ⟨d1, hd1⟩ : ∃ g, d = g + 1 := ⟨d - 1, by omega⟩
    rw [hd1, e_Memory_regionCount]
    rfl
  rw [h, n4 (by omega), vK, if_neg (nI_ge0 (by omega)), show nI (4 * k) + 4 = nI (4 * k + 4) from (Int32.ofNat_add _ 4).symm, if_neg (fun q => by
    have := (nI_ltI (a := 3200) (b := 4 * k + 4) (by omega) (by omega)).mp q
    omega), gd, if_pos (nin (by omega) (by omega)), nc (by omega), stK, show nI (4 * k) + 1 = nI (4 * k + 1) from (Int32.ofNat_add _ 1).symm, gd, if_pos (nin (by omega) (by omega)), nc (by omega), stK, show nI (4 * k) + 2 = nI (4 * k + 2) from (Int32.ofNat_add _ 2).symm, gd, if_pos (nin (by omega) (by omega)), nc (by omega), stK, e225, bis, show nI (4 * k) + 3 = nI (4 * k + 3) from (Int32.ofNat_add _ 3).symm, gd, if_pos (nin (by omega) (by omega)), nc (by omega), stK, stK, bis]
  unfold tyM
  rw [sI_ne (g' := 102) (g := 103) (by omega), sI_ne (g' := 100) (g := 103) (by omega), sI_ne (g' := 100) (g := 103) (by omega), sI_ne (g' := 122) (g := 103) (by omega), sI_ne (g' := 122) (g := 103) (by omega), sI_ne (g' := 122) (g := 103) (by omega), sI_ne (g' := 104) (g := 103) (by omega), sI_ne (g' := 104) (g := 103) (by omega), sI_ne (g' := 104) (g := 103) (by omega), sI_ne (g' := 104) (g := 103) (by omega), h, nI_1]
theorem c_endtry (h : T.1 104 0 = nI (k + 1)) (hk : k < 10000) (hd : 1 ≤ d) : PP nf d 214 T [55, x, y] [] = some (0, 0, sI T 104 0 (nI k)) := by
  obtain ⟨d, rfl⟩ : ∃ g, d = g + 1 := ⟨d - 1, by omega⟩
  rw [e_Machine_doControl]
  unfold rb_Machine_doControl
  rw [if_neg (by decide), if_neg (by decide), if_neg (by decide), if_neg (by decide), if_neg (by decide), if_pos rfl, stK, h, nI_sub]
  by_cases c0 : k = 0
  · subst c0
    rw [if_neg (by decide)]
    rfl
  · rw [if_pos (show (0 : Int32) < nI k from (nI_ltI (a := 0) (by omega) (by omega)).mpr (by omega))]
/-- something catches -/
theorem c_raise1 (h : T.1 104 0 = nI (k + 1)) (hk : k < 800) (hd : 2 ≤ d) : PP nf d 216 T [x] [] = bi (PP nf (d - 1) 229 (rzT T k) [T.1 103 (4 * k + 3)] []) (fun _ _ T15 => bi (PP nf (d - 1) 197 T15 [x] []) fun _ _ T16 => some (0, 0, T16)) := by
  obtain ⟨d, rfl⟩ : ∃ g, d = g + 1 := ⟨d - 1, by omega⟩
  rw [e_Machine_raise]
  unfold rb_Machine_raise
  have e104 : (sI T 109 0 (T.1 109 0 + 1)).1 104 0 = nI (k + 1) := by rw [sI_ne (by omega)]; exact h
  rw [stK, e104, nI_sub, n4 (by omega), vK, if_neg (nI_ge0 (by omega)), show nI (4 * k) + 4 = nI (4 * k + 4) from (Int32.ofNat_add _ 4).symm, if_pos (show nI (4 * k + 4) ≤ 3200 from (nI_leI (b := 3200) (by omega) (by omega)).mpr (by omega)), stK, gd, if_pos (nin (by omega) (by omega)), nc (by omega), stK, show nI (4 * k) + 1 = nI (4 * k + 1) from (Int32.ofNat_add _ 1).symm, gd, if_pos (nin (by omega) (by omega)), nc (by omega), stK, show nI (4 * k) + 2 = nI (4 * k + 2) from (Int32.ofNat_add _ 2).symm, gd, if_pos (nin (by omega) (by omega)), nc (by omega), stK, show nI (4 * k) + 3 = nI (4 * k + 3) from (Int32.ofNat_add _ 3).symm, gd, if_pos (nin (by omega) (by omega)), nc (by omega)]
  have e103 : ∀ (V : gSt) (g j : Nat) (u : Int32), g ≠ 103 → (sI V g j u).1 103 = V.1 103 := fun V g j u hg => sI_ne (fun w => hg w.symm)
  simp only [e103 _ _ _ _ (show 109 ≠ 103 by omega), e103 _ _ _ _ (show 104 ≠ 103 by omega), e103 _ _ _ _ (show 105 ≠ 103 by omega), e103 _ _ _ _ (show 102 ≠ 103 by omega), e103 _ _ _ _ (show 100 ≠ 103 by omega)]
  rfl
theorem c_throw (h : T.1 100 0 = nI (t + 1)) (ht : t + 1 ≤ 23200) (hd : 2 ≤ d) : PP nf d 214 T [56, x, y] [] = bi (PP nf (d - 1) 216 (sI T 100 0 (nI t)) [T.1 99 t] []) (fun _ _ T4 => some ((0 : Int32), (0 : Int64), T4)) := by
  obtain ⟨d, rfl⟩ : ∃ g, d = g + 1 := ⟨d - 1, by omega⟩
  rw [e_Machine_doControl]
  unfold rb_Machine_doControl
  rw [if_neg (by decide), if_neg (by decide), if_neg (by decide), if_neg (by decide), if_neg (by decide), if_neg (by decide), if_pos rfl, c_pop h (by omega) (by omega), bis, Nat.add_sub_cancel]
theorem c_closeI (h102 : T.1 102 0 = nI c) (hc : c ≤ 40) (hk : k < 12) (hd : 2 ≤ d) : PP nf d 214 T [53, nI k, y] [] = bi (PP nf (d - 1) 229 T [T.1 101 (17 * c + (5 + k))] []) (fun _ _ T4 => some ((0 : Int32), (0 : Int64), T4)) := by
  obtain ⟨d, rfl⟩ : ∃ g, d = g + 1 := ⟨d - 1, by omega⟩
  rw [e_Machine_doControl]
  unfold rb_Machine_doControl
  rw [if_neg (by decide), if_neg (by decide), if_neg (by decide), if_pos rfl, show (5 : Int32) + nI k = nI (5 + k) from (Int32.ofNat_add 5 k).symm, c_frame h102 hc (by omega) (by omega), bis, Nat.add_sub_cancel]
/-- leave: the result's words, then the caller goes on -/
theorem c_lv16 (hn : n < 1000) (ht : b + n ≤ t) (htt : t + n ≤ 23200) (hd : 1 ≤ d) : ∀ (m i fl : Nat), m + i = n → m < fl → rl_Machine_leave_16 (PP nf d) nf fl (slQ T b (fun i => T.1 99 (t + i)) 0 i) (nI n) (nI b) (nI t) (nI i) = rl_Machine_leave_16 (PP nf d) nf (fl - m) (slQ T b (fun i => T.1 99 (t + i)) 0 n) (nI n) (nI b) (nI t) (nI n) := by
  intro m
  induction m with
  | zero => intro i fl h1 _; rw [show i = n by omega]; rfl
  | succ m ih =>
    intro i fl h1 h2
    obtain ⟨fl, rfl⟩ : ∃ g, fl = g + 1 := ⟨fl - 1, by omega⟩
    rw [rl_Machine_leave_16, if_neg (fun q => by
      have := (nI_leI (a := n) (b := i) (by omega) (by omega)).mp q
      omega), show nI t + nI i = nI (t + i) from (Int32.ofNat_add _ _).symm, c_wordAt (by omega) hd, bis, slQ_w, if_neg (by omega), show nI b + nI i = nI (b + i) from (Int32.ofNat_add _ _).symm, c_setWord (by omega) hd, bis, vK, nI_1]
    have eS : sI (slQ T b (fun i => T.1 99 (t + i)) 0 i) 99 (b + i) (T.1 99 (t + i)) = slQ T b (fun i => T.1 99 (t + i)) 0 (i + 1) := by
      refine st_ext (fun k j => ?_) rfl
      by_cases c1 : k = 99
      · subst c1
        rw [rdI, slQ_w, slQ_w]
        by_cases e : j = b + i
        · rw [if_pos ⟨rfl, e⟩, if_pos (by omega), e, show b + i - b = i by omega]
        · rw [if_neg (fun w : 99 = 99 ∧ j = b + i => e w.2)]
          by_cases z : b + 0 ≤ j ∧ j < b + i
          · rw [if_pos z, if_pos (by omega)]
          · rw [if_neg z, if_neg (by omega)]
      · rw [sI_ne c1, slQ_o c1, slQ_o c1]
    rw [eS, ih (i + 1) fl (by omega) (by omega), show fl + 1 - (m + 1) = fl - m by omega]
/-- the state as leave closes the frame's regions -/
def lvM (T : gSt) (b t n : Nat) : gSt := sI (slQ T b (fun i => T.1 99 (t + i)) 0 n) 100 0 (nI (b + n))
/-- .. and behind that -/
def lvN (T : gSt) (c : Nat) : gSt := sI (sI (sI T 104 0 (T.1 101 (17 * (c + 1) + 4))) 105 0 (T.1 101 (17 * (c + 1)))) 102 0 (nI c)
theorem c_leaveI (h : T.1 100 0 = nI (t + n)) (h102 : T.1 102 0 = nI (c + 1)) (hc : c < 40) (hb : T.1 101 (17 * (c + 1) + 1) = nI b) (hn : n < 1000) (ht : b + n ≤ t) (htt : t + n ≤ 23200) (hnf : n < nf) (hd : 3 ≤ d) {V : gSt} (hcl : PP nf (d - 2) 229 (lvM T b t n) [T.1 101 (17 * (c + 1) + 3)] [] = some (0, 0, V)) (hV1 : V.1 101 = T.1 101) (hV2 : V.1 102 = T.1 102) : PP nf d 214 T [58, nI n, y] [] = some (0, 0, if c = 0 then sI (lvN V c) 106 0 2 else lvN V c) := by
  obtain ⟨d, rfl⟩ : ∃ g, d = g + 2 := ⟨d - 2, by omega⟩
  rw [show d + 2 - 2 = d by omega] at hcl
  rw [e_Machine_doControl]
  unfold rb_Machine_doControl
  rw [if_neg (by decide), if_neg (by decide), if_neg (by decide), if_neg (by decide), if_neg (by decide), if_neg (by decide), if_neg (by decide), if_neg (by decide), e_Machine_leave]
  unfold rb_Machine_leave
  have e : nI (t + n) - nI n = nI t := by
    rw [show nI (t + n) = nI t + nI n from Int32.ofNat_add _ _]
    exact Int32.add_sub_cancel _ _
  have e0 : slQ T b (fun i => T.1 99 (t + i)) 0 0 = T := slQ_0
  have l := c_lv16 (T := T) (nf := nf) (b := b) (t := t) hn ht htt (show 1 ≤ d by omega) n 0 nf (by omega) hnf
  rw [e0] at l
  obtain ⟨fl, hfl⟩ : ∃ g, nf - n = g + 1 := ⟨nf - n - 1, by omega⟩
  rw [c_fr1 (c := c + 1) h102 (by omega) (by omega), bis, hb, h, e, vK, show (0 : Int32) = nI 0 from rfl, l, hfl, rl_Machine_leave_16, if_pos (Int32.le_refl _), stK, show nI b + nI n = nI (b + n) from (Int32.ofNat_add _ _).symm]
  have o101 : (lvM T b t n).1 101 = T.1 101 := by unfold lvM; rw [sI_ne (by omega), slQ_o (by omega)]
  have o102 : (lvM T b t n).1 102 = T.1 102 := by unfold lvM; rw [sI_ne (by omega), slQ_o (by omega)]
  have f3 := c_frame (nf := nf) (d := d) (T := lvM T b t n) (c := c + 1) (k := 3) (by rw [o102]; exact h102) (by omega) (by omega) (by omega)
  have f4 := c_frame (nf := nf) (d := d) (T := V) (c := c + 1) (k := 4) (by rw [hV2]; exact h102) (by omega) (by omega) (by omega)
  have f0 := c_frame (nf := nf) (d := d) (T := sI V 104 0 (V.1 101 (17 * (c + 1) + 4))) (c := c + 1) (k := 0) (by rw [sI_ne (by omega), hV2]; exact h102) (by omega) (by omega) (by omega)
  rw [o101] at f3
  have f3' : PP nf d 201 (sI (slQ T b (fun i => T.1 99 (t + i)) 0 n) 100 0 (nI (b + n))) [3] [] = some (T.1 101 (17 * (c + 1) + 3), 0, lvM T b t n) := f3
  have f4' : PP nf d 201 V [4] [] = some (V.1 101 (17 * (c + 1) + 4), 0, V) := f4
  have f0' : PP nf d 201 (sI V 104 0 (V.1 101 (17 * (c + 1) + 4))) [0] [] = some (V.1 101 (17 * (c + 1)), 0, sI V 104 0 (V.1 101 (17 * (c + 1) + 4))) := by
    rw [sI_ne (g := 104) (g' := 101) (by omega)] at f0
    exact f0
  have e1 : (sI (sI V 104 0 (V.1 101 (17 * (c + 1) + 4))) 105 0 (V.1 101 (17 * (c + 1)))).1 102 0 = nI (c + 1) := by rw [sI_ne (by omega), sI_ne (by omega), hV2]; exact h102
  rw [f3', bis, hcl, bis, f4', bis, stK, f0', bis, stK, stK, e1, nI_sub]
  have e102 : (if (0 : Int32) < nI c then nI c else 0) = nI c := by
    by_cases c0 : c = 0
    · subst c0; rfl
    · rw [if_pos (show (0 : Int32) < nI c from (nI_ltI (a := 0) (b := c) (by omega) (by omega)).mpr (by omega))]
  rw [e102, sI_v]
  by_cases c0 : c = 0
  · rw [if_pos (show nI c = (0 : Int32) by rw [c0]; rfl), stK, bis, if_pos c0]
    rfl
  · rw [if_neg (show ¬ nI c = (0 : Int32) from fun w => c0 (nI_inj (a := c) (b := 0) (by omega) (by omega) w)), bis, if_neg c0]
    rfl
end CM6
