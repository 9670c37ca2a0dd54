/-! the class's machine: instructions on pointers and ROWS -/
section CM5
variable {T T' : gSt} {nf d t a b c k P W n m i q s fl r j e : Nat} {w x y v op : Int32} {f : Nat → Int32}
theorem stW_100 : stW (sI T 100 0 x) t f n = stW T t f n := by
  refine st_ext (fun k j => ?_) rfl
  rw [stW_r, stW_r, sI_ne (g' := 99) (by omega)]
  by_cases c1 : k = 99
  · rw [if_pos c1, if_pos c1]
  · rw [if_neg c1, if_neg c1, rdI]
    by_cases c2 : k = 100 ∧ j = 0
    · rw [if_pos c2, if_pos c2]
    · rw [if_neg c2, if_neg c2, if_neg c2]
theorem mmW_100 : mmW (sI T 100 0 x) a f i n = sI (mmW T a f i n) 100 0 x := by
  refine st_ext (fun k j => ?_) rfl
  have e1 : ∀ q, (sI T 100 0 x).1 114 q = T.1 114 q := fun q => by rw [sI_ne (by omega)]
  have e2 : ∀ q, (sI T 100 0 x).1 115 q = T.1 115 q := fun q => by rw [sI_ne (by omega)]
  by_cases c2 : k = 100 ∧ j = 0
  · rw [c2.1, c2.2, mmW_r, if_neg (by omega), if_neg (by omega), sI_v, sI_v]
  · rw [rdI (T := mmW T a f i n), if_neg c2, mmW_r, mmW_r, e1, e2, rdI, if_neg c2]
theorem Pgs.tp (h : Pgs T P W) : Pgs (sI T 100 0 x) P W := h.eq (sI_ne (by omega)) (sI_ne (by omega))
theorem Own.tp (h : Own T P W a) : Own (sI T 100 0 x) P W a := h.eq (sI_ne (by omega))
theorem nI_p1 : nI (a + 1) - 1 = nI a := nI_sub
theorem nz1 (h : a < 90000) : ¬ nI (a + 1) = 0 := fun w => by
  have := nI_inj (a := a + 1) (b := 0) (by omega) (by omega) w
  omega
/-- a pointer is null -/
theorem c_pt0 (h : T.1 100 0 = nI (t + 1)) (ht : t + 1 ≤ 23200) (hn : T.1 99 t = 0) (hd : 2 ≤ d) : PP nf d 207 T [op, x, y] [] = bi (PP nf (d - 1) 216 (sI T 100 0 (nI t)) [1] []) (fun _ _ T4 => some ((0 : Int32), (0 : Int64), T4)) := by
  obtain ⟨d, rfl⟩ : ∃ g, d = g + 1 := ⟨d - 1, by omega⟩
  rw [e_Machine_doPointed]
  unfold rb_Machine_doPointed
  rw [c_pop h (by omega) (by omega), bis, hn, if_pos rfl, Nat.add_sub_cancel]
/-- what is pointed to, fetched -/
theorem c_get20 (h : T.1 100 0 = nI (t + 1)) (ht : t + n + 1 ≤ 23200) (hp : T.1 99 t = nI (a + 1)) (ha : a < 90000) (hn : n < 1000) (hnf : n < nf) (hg : Pgs T P W) (ho : ∀ i, i < n → Own T P W (a + s + i) ∧ ¬ T.1 115 (a + s + i) = 0) (hd : 5 ≤ d) : PP nf d 207 T [20, nI s, nI n] [] = some (0, 0, stW T t (fun i => T.1 114 (a + s + i)) n) := by
  obtain ⟨d, rfl⟩ : ∃ g, d = g + 1 := ⟨d - 1, by omega⟩
  rw [e_Machine_doPointed]
  unfold rb_Machine_doPointed
  rw [c_pop h (by omega) (by omega), bis, hp, if_neg (nz1 ha), vK, nI_p1, if_pos rfl, show nI a + nI s = nI (a + s) from (Int32.ofNat_add _ _).symm, c_fetch (t := t) (P := P) (W := W) (by rw [sI_v]) (by omega) hn hnf hg.tp (fun i hi => ⟨(ho i hi).1.tp, by rw [sI_ne (by omega)]; exact (ho i hi).2⟩) (by omega), bis, stW_100]
  rw [sI_ne (by omega)]
theorem c_get21 (h : T.1 100 0 = nI (t + 1)) (ht : t + n + 1 ≤ 23200) (hp : T.1 99 t = nI (a + 1)) (ha : a < 90000) (hn : n < 1000) (hnf : n < nf) (hg : Pgs T P W) (h0 : Own T P W a ∧ ¬ T.1 115 a = 0) (ht1 : T.1 114 a = x) (ho : ∀ i, i < n → Own T P W (a + 1 + i) ∧ ¬ T.1 115 (a + 1 + i) = 0) (hd : 5 ≤ d) : PP nf d 207 T [21, x, nI n] [] = some (0, 0, stW T t (fun i => T.1 114 (a + 1 + i)) n) := by
  obtain ⟨d, rfl⟩ : ∃ g, d = g + 1 := ⟨d - 1, by omega⟩
  rw [e_Machine_doPointed]
  unfold rb_Machine_doPointed
  rw [c_pop h (by omega) (by omega), bis, hp, if_neg (nz1 ha), vK, nI_p1, if_neg (by decide), if_pos rfl, c_get (P := P) (W := W) hg.tp h0.1.tp (by rw [sI_ne (by omega)]; exact h0.2) (by omega), bis, sI_ne (by omega), if_pos ht1, nI_1, c_fetch (t := t) (P := P) (W := W) (by rw [sI_v]) (by omega) hn hnf hg.tp (fun i hi => ⟨(ho i hi).1.tp, by rw [sI_ne (by omega)]; exact (ho i hi).2⟩) (by omega), bis, stW_100]
  rw [sI_ne (by omega)]
theorem c_tag (h : T.1 100 0 = nI (t + 1)) (ht : t + 1 ≤ 23200) (hp : T.1 99 t = nI (a + 1)) (ha : a < 90000) (hg : Pgs T P W) (h0 : Own T P W a ∧ ¬ T.1 115 a = 0) (ht1 : ¬ T.1 114 a = x) (hd : 5 ≤ d) : PP nf d 207 T [21, x, y] [] = bi (PP nf (d - 1) 216 (sI T 100 0 (nI t)) [3] []) (fun _ _ T4 => some ((0 : Int32), (0 : Int64), T4)) := by
  obtain ⟨d, rfl⟩ : ∃ g, d = g + 1 := ⟨d - 1, by omega⟩
  rw [e_Machine_doPointed]
  unfold rb_Machine_doPointed
  rw [c_pop h (by omega) (by omega), bis, hp, if_neg (nz1 ha), vK, nI_p1, if_neg (by decide), if_pos rfl, c_get (P := P) (W := W) hg.tp h0.1.tp (by rw [sI_ne (by omega)]; exact h0.2) (by omega), bis, sI_ne (by omega), if_neg ht1, Nat.add_sub_cancel]
theorem c_is22 (h : T.1 100 0 = nI (t + 1)) (ht : t + 1 ≤ 23200) (hp : T.1 99 t = nI (a + 1)) (ha : a < 90000) (hg : Pgs T P W) (h0 : Own T P W a ∧ ¬ T.1 115 a = 0) (hd : 5 ≤ d) : PP nf d 207 T [22, x, y] [] = some (0, 0, psT T t (if T.1 114 a = x then 1 else 0)) := by
  obtain ⟨d, rfl⟩ : ∃ g, d = g + 1 := ⟨d - 1, by omega⟩
  rw [e_Machine_doPointed]
  unfold rb_Machine_doPointed
  rw [c_pop h (by omega) (by omega), bis, hp, if_neg (nz1 ha), vK, nI_p1, if_neg (by decide), if_neg (by decide), if_pos rfl, c_get (P := P) (W := W) hg.tp h0.1.tp (by rw [sI_ne (by omega)]; exact h0.2) (by omega), bis, sI_ne (by omega)]
  split
  · rw [c_push (t := t) (by rw [sI_v]) (by omega) (by omega), bis, ps_100]
  · rw [c_push (t := t) (by rw [sI_v]) (by omega) (by omega), bis, ps_100]
theorem c_nn23 (h : T.1 100 0 = nI (t + 1)) (ht : t + 1 ≤ 23200) (hp : ¬ T.1 99 t = 0) (hd : 5 ≤ d) : PP nf d 207 T [23, x, y] [] = some (0, 0, psT T t (T.1 99 t)) := by
  obtain ⟨d, rfl⟩ : ∃ g, d = g + 1 := ⟨d - 1, by omega⟩
  rw [e_Machine_doPointed]
  unfold rb_Machine_doPointed
  rw [c_pop h (by omega) (by omega), bis, if_neg hp, vK, if_neg (by decide), if_neg (by decide), if_neg (by decide), if_pos rfl, c_push (t := t) (by rw [sI_v]) (by omega) (by omega), bis, ps_100]
theorem c_ad24 (h : T.1 100 0 = nI (t + 1)) (ht : t + 1 ≤ 23200) (hp : ¬ T.1 99 t = 0) (hd : 5 ≤ d) : PP nf d 207 T [24, x, y] [] = some (0, 0, psT T t (T.1 99 t + x)) := by
  obtain ⟨d, rfl⟩ : ∃ g, d = g + 1 := ⟨d - 1, by omega⟩
  rw [e_Machine_doPointed]
  unfold rb_Machine_doPointed
  rw [c_pop h (by omega) (by omega), bis, if_neg hp, vK, if_neg (by decide), if_neg (by decide), if_neg (by decide), if_neg (by decide), if_pos rfl, c_push (t := t) (by rw [sI_v]) (by omega) (by omega), bis, ps_100]
/-- a value below the pointer put there -/
theorem c_pu25 (h : T.1 100 0 = nI (t + n + 1)) (ht : t + n + 1 ≤ 23200) (hp : T.1 99 (t + n) = nI (a + 1)) (ha : a < 90000) (hn : n < 1000) (hnf : n + 1 < nf) (hg : Pgs T P W) (ho : ∀ i, i < n → Own T P W (a + s + i)) (hd : 5 ≤ d) : PP nf d 207 T [25, nI s, nI n] [] = some (0, 0, sI (mmW T (a + s) (fun i => T.1 99 (t + i)) 0 n) 100 0 (nI t)) := by
  obtain ⟨d, rfl⟩ : ∃ g, d = g + 1 := ⟨d - 1, by omega⟩
  rw [e_Machine_doPointed]
  unfold rb_Machine_doPointed
  rw [c_pop (t := t + n) h (by omega) (by omega), bis, hp, if_neg (nz1 ha), vK, nI_p1, if_neg (by decide), if_neg (by decide), if_neg (by decide), if_neg (by decide), if_neg (by decide), if_pos rfl, show nI a + nI s = nI (a + s) from (Int32.ofNat_add _ _).symm, c_store (t := t) (P := P) (W := W) (by rw [sI_v]) (by omega) hn hnf hg.tp (fun i hi => (ho i hi).tp) (by omega), bis, sI_ne (g' := 99) (by omega), mmW_100, sI_ow]
/-- .. with its tag -/
theorem c_pu26 (h : T.1 100 0 = nI (t + n + 1)) (ht : t + n + 1 ≤ 23200) (hp : T.1 99 (t + n) = nI (a + 1)) (ha : a < 90000) (hn : n < 1000) (hnf : n + 1 < nf) (hg : Pgs T P W) (h0 : Own T P W a) (ho : ∀ i, i < n → Own T P W (a + 1 + i)) (hd : 5 ≤ d) (hop : ¬ (20 ≤ op ∧ op ≤ 25)) (h20 : op = 26) : PP nf d 207 T [op, x, nI n] [] = some (0, 0, sI (mmW (puT T a x) (a + 1) (fun i => T.1 99 (t + i)) 0 n) 100 0 (nI t)) := by
  obtain ⟨d, rfl⟩ : ∃ g, d = g + 1 := ⟨d - 1, by omega⟩
  subst h20
  rw [e_Machine_doPointed]
  unfold rb_Machine_doPointed
  have eo : ∀ k, k ≠ 114 → k ≠ 115 → (puT (sI T 100 0 (nI (t + n))) a x).1 k = (sI T 100 0 (nI (t + n))).1 k := fun k k1 k2 => by
    unfold puT
    rw [sI_ne k2, sI_ne k1]
  rw [c_pop (t := t + n) h (by omega) (by omega), bis, hp, if_neg (nz1 ha), vK, nI_p1, if_neg (by decide), if_neg (by decide), if_neg (by decide), if_neg (by decide), if_neg (by decide), if_neg (by decide), c_put (P := P) (W := W) hg.tp h0.tp (by omega), bis, nI_1, c_store (t := t) (P := P) (W := W) (by rw [eo 100 (by omega) (by omega), sI_v]) (by omega) hn hnf (hg.tp.eq (eo 117 (by omega) (by omega)) (eo 118 (by omega) (by omega))) (fun i hi => (ho i hi).tp.eq (eo 116 (by omega) (by omega))) (by omega), bis, eo 99 (by omega) (by omega), sI_ne (g' := 99) (by omega), pu_100, mmW_100, sI_ow]
/-- out of bounds -/
theorem c_ix0 (h : T.1 100 0 = nI (t + 4)) (ht : t + 4 ≤ 23200) (hb : T.1 99 (t + 1) + T.1 99 (t + 3) < 0 ∨ ¬ T.1 99 (t + 1) + T.1 99 (t + 3) < T.1 99 (t + 2)) (hd : 2 ≤ d) : PP nf d 210 T [op, y] [] = bi (PP nf (d - 1) 216 (sI T 100 0 (nI t)) [2] []) (fun _ _ T4 => some ((0 : Int32), (0 : Int64), T4)) := by
  obtain ⟨d, rfl⟩ : ∃ g, d = g + 1 := ⟨d - 1, by omega⟩
  rw [e_Machine_doIndexed]
  unfold rb_Machine_doIndexed
  rw [c_pop (t := t + 3) (by rw [h]) (by omega) (by omega), bis, c_pop (t := t + 2) (by rw [sI_v]) (by omega) (by omega), bis, sI_ne (by omega), sI_ow, c_pop (t := t + 1) (by rw [sI_v]) (by omega) (by omega), bis, sI_ne (by omega), sI_ow, vK, c_pop (t := t) (by rw [sI_v]) (by omega) (by omega), bis, sI_ne (by omega), sI_ow, vK, Nat.add_sub_cancel]
  by_cases c0 : T.1 99 (t + 1) + T.1 99 (t + 3) < 0
  · rw [if_pos c0]
  · rw [if_neg c0, if_neg (by rcases hb with q | q; exact absurd q c0; exact q)]
theorem c_ixp (h : T.1 100 0 = nI (t + 4)) (ht : t + 4 ≤ 23200) (hj : T.1 99 (t + 1) + T.1 99 (t + 3) = nI j) (hn : T.1 99 (t + 2) = nI m) (hjm : j < m) (hm : m < 90000) (hp : T.1 99 t = nI (a + 1)) (hd : 2 ≤ d) : PP nf d 210 T [op, nI n] [] = (if op = 30 then (bi (PP nf (d - 1) 208 (sI T 100 0 (nI t)) [nI (a + j * n), nI n] []) fun _ _ T12 => some (0, 0, T12)) else (if op = 31 then (bi (PP nf (d - 1) 197 (sI T 100 0 (nI t)) [nI (a + j * n) + 1] []) fun _ _ T14 => some (0, 0, T14)) else (bi (PP nf (d - 1) 209 (sI T 100 0 (nI t)) [nI (a + j * n), nI n] []) fun _ _ T16 => some (0, 0, T16)))) := by
  obtain ⟨d, rfl⟩ : ∃ g, d = g + 1 := ⟨d - 1, by omega⟩
  rw [e_Machine_doIndexed]
  unfold rb_Machine_doIndexed
  rw [c_pop (t := t + 3) (by rw [h]) (by omega) (by omega), bis, c_pop (t := t + 2) (by rw [sI_v]) (by omega) (by omega), bis, sI_ne (by omega), sI_ow, c_pop (t := t + 1) (by rw [sI_v]) (by omega) (by omega), bis, sI_ne (by omega), sI_ow, vK, c_pop (t := t) (by rw [sI_v]) (by omega) (by omega), bis, sI_ne (by omega), sI_ow, vK, hj, hn, hp, nI_p1, if_neg (nI_ge0 (by omega)), if_pos (show nI j < nI m from (nI_ltI (by omega) (by omega)).mpr hjm), vK, nI_mul, show nI a + nI (j * n) = nI (a + j * n) from (Int32.ofNat_add _ _).symm, Nat.add_sub_cancel]
end CM5
