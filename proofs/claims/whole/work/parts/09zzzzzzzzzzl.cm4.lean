/-! the class's machine: instructions -/
section CM4
variable {T T' : gSt} {nf d t a b c k P W n m i q s fl r : Nat} {w x y v op : Int32} {f : Nat → Int32}
theorem ps_100 : psT (sI T 100 0 x) t v = psT T t v := by
  unfold psT
  rw [sI_cc (g := 100) (h := 99) (by omega), sI_ow]
def nuV (op l r : Int32) : Int32 := if op = 10 then l + r else if op = 11 then l - r else if op = 12 then l * r else if op = 13 then l / r else if op = 14 then l - l / r * r else if op = 15 then (if l = r then 1 else 0) else (if r ≤ l then 0 else 1)
/-- two numbers -/
theorem c_num (h : T.1 100 0 = nI (t + 2)) (ht : t + 2 ≤ 23200) (hd : 2 ≤ d) (ho : op = 10 ∨ op = 11 ∨ op = 12 ∨ op = 15 ∨ op = 16 ∨ ((op = 13 ∨ op = 14) ∧ ¬ T.1 99 (t + 1) = 0)) : PP nf d 206 T [op] [] = some (0, 0, psT T t (nuV op (T.1 99 t) (T.1 99 (t + 1)))) := by
  obtain ⟨d, rfl⟩ : ∃ g, d = g + 1 := ⟨d - 1, by omega⟩
  rw [e_Machine_doNumeric]
  unfold rb_Machine_doNumeric
  rw [c_pop (t := t + 1) (by rw [h]) (by omega) (by omega), bis, c_pop (t := t) (by rw [sI_v]) (by omega) (by omega), bis, sI_ne (by omega), sI_ow]
  have pu : ∀ v, bi (PP nf d 197 (sI T 100 0 (nI t)) [v] []) (fun _ _ T4 => some ((0 : Int32), (0 : Int64), T4)) = some (0, 0, psT T t v) := fun v => by
    rw [c_push (t := t) (by rw [sI_v]) (by omega) (by omega), bis, ps_100]
  rcases ho with e | e | e | e | e | ⟨e | e, hn⟩ <;> subst e
  · rw [if_pos rfl]; exact pu _
  · rw [if_neg (by decide), if_pos rfl]; exact pu _
  · rw [if_neg (by decide), if_neg (by decide), if_pos rfl]; exact pu _
  · rw [if_neg (by decide), if_neg (by decide), if_neg (by decide), if_neg (by decide), if_neg (by decide), if_pos rfl, show nuV 15 (T.1 99 t) (T.1 99 (t + 1)) = if T.1 99 t = T.1 99 (t + 1) then 1 else 0 from rfl]
    split
    · exact pu _
    · exact pu _
  · rw [if_neg (by decide), if_neg (by decide), if_neg (by decide), if_neg (by decide), if_neg (by decide), if_neg (by decide), if_pos rfl, show nuV 16 (T.1 99 t) (T.1 99 (t + 1)) = if T.1 99 (t + 1) ≤ T.1 99 t then 0 else 1 from rfl]
    split
    · exact pu _
    · exact pu _
  · rw [if_neg (by decide), if_neg (by decide), if_neg (by decide), if_pos rfl]
    unfold rj_Machine_doNumeric_116
    rw [if_neg hn, if_pos rfl, gd, if_pos hn]
    exact pu _
  · rw [if_neg (by decide), if_neg (by decide), if_neg (by decide), if_neg (by decide), if_pos rfl]
    unfold rj_Machine_doNumeric_116
    rw [if_neg hn, if_neg (by decide), gd, if_pos hn]
    exact pu _
/-- nothing catches -/
def raT (T : gSt) (x : Int32) : gSt := sI (sI (sI T 109 0 (T.1 109 0 + 1)) 106 0 3) 107 0 x
theorem c_raise0 (h : T.1 104 0 = 0) (hd : 1 ≤ d) : PP nf d 216 T [x] [] = some (0, 0, raT T x) := by
  obtain ⟨d, rfl⟩ : ∃ g, d = g + 1 := ⟨d - 1, by omega⟩
  rw [e_Machine_raise]
  unfold rb_Machine_raise raT
  rw [stK, sI_ne (by omega), h, vK, if_pos (by decide), stK, stK]
theorem c_div0 (h : T.1 100 0 = nI (t + 2)) (ht : t + 2 ≤ 23200) (hd : 2 ≤ d) (ho : op = 13 ∨ op = 14) (hn : T.1 99 (t + 1) = 0) : PP nf d 206 T [op] [] = bi (PP nf (d - 1) 216 (sI T 100 0 (nI t)) [4] []) (fun _ _ T4 => some ((0 : Int32), (0 : Int64), T4)) := by
  obtain ⟨d, rfl⟩ : ∃ g, d = g + 1 := ⟨d - 1, by omega⟩
  rw [e_Machine_doNumeric]
  unfold rb_Machine_doNumeric
  rw [c_pop (t := t + 1) (by rw [h]) (by omega) (by omega), bis, c_pop (t := t) (by rw [sI_v]) (by omega) (by omega), bis, sI_ne (by omega), sI_ow, hn, Nat.add_sub_cancel]
  rcases ho with e | e <;> subst e
  · rw [if_neg (by decide), if_neg (by decide), if_neg (by decide), if_pos rfl]
    unfold rj_Machine_doNumeric_116
    rw [if_pos rfl]
  · rw [if_neg (by decide), if_neg (by decide), if_neg (by decide), if_neg (by decide), if_pos rfl]
    unfold rj_Machine_doNumeric_116
    rw [if_pos rfl]
theorem c_pushI (h : T.1 100 0 = nI t) (ht : t < 23200) (hd : 2 ≤ d) : PP nf d 203 T [2, x, y] [] = some (0, 0, psT T t x) := by
  obtain ⟨d, rfl⟩ : ∃ g, d = g + 1 := ⟨d - 1, by omega⟩
  rw [e_Machine_doSimple]
  unfold rb_Machine_doSimple
  rw [if_pos rfl, c_push h ht (by omega), bis]
theorem c_drop (h : T.1 100 0 = nI (t + n)) (ht : t + n ≤ 23200) (hd : 1 ≤ d) : PP nf d 203 T [5, nI n, y] [] = some (0, 0, sI T 100 0 (nI t)) := by
  obtain ⟨d, rfl⟩ : ∃ g, d = g + 1 := ⟨d - 1, by omega⟩
  rw [e_Machine_doSimple]
  unfold rb_Machine_doSimple
  have e : nI (t + n) - nI n = nI t := by
    rw [show nI (t + n) = nI t + nI n from Int32.ofNat_add _ _]
    exact Int32.add_sub_cancel _ _
  rw [if_neg (by decide), if_neg (by decide), if_neg (by decide), if_pos rfl, stK, h, e]
  by_cases c0 : t = 0
  · subst c0
    rw [if_neg (by decide)]
    rfl
  · rw [if_pos (show (0 : Int32) < nI t from (nI_ltI (a := 0) (by omega) (by omega)).mpr (by omega))]
def pkT (T : gSt) (p : Nat) (v : Int32) : gSt := sI (if p < 300 then sI T 112 p v else T) 113 0 (T.1 113 0 + 1)
theorem c_print (h : T.1 100 0 = nI (t + 1)) (ht : t + 1 ≤ 23200) (hp : T.1 113 0 = nI q) (hq : q < 2 ^ 31) (hd : 2 ≤ d) : PP nf d 203 T [7, x, y] [] = some (0, 0, pkT (sI T 100 0 (nI t)) q (T.1 99 t)) := by
  obtain ⟨d, rfl⟩ : ∃ g, d = g + 1 := ⟨d - 1, by omega⟩
  obtain ⟨d, rfl⟩ : ∃ g, d = g + 1 := ⟨d - 1, by omega⟩
  rw [e_Machine_doSimple]
  unfold rb_Machine_doSimple
  rw [if_neg (by decide), if_neg (by decide), if_neg (by decide), if_neg (by decide), if_neg (by decide), if_pos rfl, c_pop h (by omega) (by omega), bis, e_Machine_keepPrinted]
  unfold rb_Machine_keepPrinted pkT
  have e113 : (sI T 100 0 (nI t)).1 113 0 = nI q := by rw [sI_ne (by omega)]; exact hp
  have le : (300 : Int32) ≤ nI q ↔ 300 ≤ q := by
    rw [Int32.le_iff_toInt_le, nI_toInt hq]
    show (300 : Int) ≤ _ ↔ _
    omega
  rw [e113]
  by_cases c : 300 ≤ q
  · rw [if_pos (le.mpr c), stK, bis, if_neg (by omega)]
  · rw [if_neg (fun w => c (le.mp w)), gd, if_pos (nin (by omega) (by omega)), nc (by omega), stK, stK, bis, if_pos (by omega), sI_ne (by omega), e113]
theorem c_size (h : T.1 100 0 = nI (t + 3)) (ht : t + 3 ≤ 23200) (hd : 2 ≤ d) : PP nf d 203 T [8, x, y] [] = some (0, 0, psT T t (T.1 99 (t + 2))) := by
  obtain ⟨d, rfl⟩ : ∃ g, d = g + 1 := ⟨d - 1, by omega⟩
  rw [e_Machine_doSimple]
  unfold rb_Machine_doSimple
  have e : nI (t + 2) - 2 = nI t := by
    rw [show nI (t + 2) = nI t + 2 from Int32.ofNat_add _ 2]
    exact Int32.add_sub_cancel _ _
  rw [if_neg (by decide), if_neg (by decide), if_neg (by decide), if_neg (by decide), if_neg (by decide), if_neg (by decide), if_pos rfl, c_pop (t := t + 2) (by rw [h]) (by omega) (by omega), bis, stK, sI_v, e, sI_ow]
  have e2 : (if (0 : Int32) < nI t then nI t else 0) = nI t := by
    by_cases c0 : t = 0
    · subst c0; rfl
    · rw [if_pos (show (0 : Int32) < nI t from (nI_ltI (a := 0) (by omega) (by omega)).mpr (by omega))]
  rw [e2, c_push (t := t) (by rw [sI_v]) (by omega) (by omega), bis, ps_100]
theorem c_move (h : T.1 100 0 = nI (t + 4)) (ht : t + 4 ≤ 23200) (hd : 2 ≤ d) : PP nf d 203 T [9, x, y] [] = some (0, 0, sI (sI T 100 0 (nI (t + 3))) 99 (t + 1) (T.1 99 (t + 1) + T.1 99 (t + 3))) := by
  obtain ⟨d, rfl⟩ : ∃ g, d = g + 1 := ⟨d - 1, by omega⟩
  rw [e_Machine_doSimple]
  unfold rb_Machine_doSimple
  have e : nI (t + 3) - 2 = nI (t + 1) := by
    rw [show nI (t + 3) = nI (t + 1) + 2 from Int32.ofNat_add (t + 1) 2]
    exact Int32.add_sub_cancel _ _
  rw [if_neg (by decide), if_neg (by decide), if_neg (by decide), if_neg (by decide), if_neg (by decide), if_neg (by decide), if_neg (by decide), c_pop (t := t + 3) (by rw [h]) (by omega) (by omega), bis, sI_v, e, c_wordAt (by omega) (by omega), bis, sI_ne (by omega), c_setWord (by omega) (by omega), bis]
theorem c_jump (hd : 1 ≤ d) : PP nf d 214 T [50, x, y] [] = some (0, 0, sI T 105 0 x) := by
  obtain ⟨d, rfl⟩ : ∃ g, d = g + 1 := ⟨d - 1, by omega⟩
  rw [e_Machine_doControl]
  unfold rb_Machine_doControl
  rw [if_pos rfl, stK]
theorem c_jz (h : T.1 100 0 = nI (t + 1)) (ht : t + 1 ≤ 23200) (hd : 2 ≤ d) : PP nf d 214 T [51, x, y] [] = some (0, 0, if T.1 99 t = 0 then sI (sI T 100 0 (nI t)) 105 0 x else sI T 100 0 (nI t)) := by
  obtain ⟨d, rfl⟩ : ∃ g, d = g + 1 := ⟨d - 1, by omega⟩
  rw [e_Machine_doControl]
  unfold rb_Machine_doControl
  rw [if_neg (by decide), if_pos rfl, c_pop h (by omega) (by omega), bis]
  split
  · rfl
  · rfl
theorem c_openI (h : T.1 122 0 = nI r) (hr : r < 321) (h102 : T.1 102 0 = nI c) (hc : c ≤ 40) (hk : k < 12) (hd : 2 ≤ d) : PP nf d 214 T [52, nI k, y] [] = some (0, 0, sI (opM T r) 101 (17 * c + (5 + k)) (nI r)) := by
  obtain ⟨d, rfl⟩ : ∃ g, d = g + 1 := ⟨d - 1, by omega⟩
  rw [e_Machine_doControl]
  unfold rb_Machine_doControl
  have e : (opM T r).1 102 0 = nI c := by
    unfold opM
    rw [sI_ne (by omega), sI_ne (by omega), sI_ne (by omega), sI_ne (by omega), sI_ne (by omega), sI_ne (by omega)]
    exact h102
  rw [if_neg (by decide), if_neg (by decide), if_pos rfl, c_open h hr (by omega), bis, show (5 : Int32) + nI k = nI (5 + k) from (Int32.ofNat_add 5 k).symm, c_setFrame e hc (by omega) (by omega), bis]
end CM4
