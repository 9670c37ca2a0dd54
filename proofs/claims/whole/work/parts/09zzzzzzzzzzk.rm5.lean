/-! the reference's heap: a new object -/
def mkB (T : gSt) (r o : Nat) (k : Int32) : gSt := sI (sI (sI (sI (sI (sI T 137 0 (T.1 137 0 + 1)) 138 o (T.1 137 0 + 1)) 141 o (nI r)) 140 o k) 142 o (-1)) 139 o (-1)
def mkN0 (T : gSt) (r : Nat) : gSt := sI (sI T 105 0 (T.1 105 0 + 1)) 136 r (T.1 136 r + 1)
def mkU (T : gSt) (r : Nat) (x : Int32) : gSt := sI (sI (mkN0 T r) 134 r (T.1 134 r + x)) 135 r (T.1 135 r + x)
def mkP (T : gSt) (r : Nat) : gSt := sI (sI (sI T 132 0 (T.1 132 0 - 1)) 133 r (T.1 133 r + 1)) 134 r 0
section RM5
variable {T T' T1 : gSt} {nf d t a b c k n m i q s fl o h p e A A' r cnt g u W : Nat} {w x y z v bb x1 x2 : Int32} {l fr fr' : List Nat} {ch : Nat → List Nat} {Q : Int32 → Int64 → gSt → Prop} {p2 : Int64}
theorem x_mk162 (ho : o < 4096) (hb : T.1 138 o = 0) (hq : ∀ q, q < o → ¬ T.1 138 q = 0) (hc : chn (T.1 149) (T.1 143 0) (l ++ fr')) (hn : (l ++ fr').Nodup) (hl : l.length < 100000) (hnf : 4096 < nf) (hnf2 : l.length < nf) : ∀ (m i fl : Nat), m + i = o → m < fl → rl_Model_make_162 (RR nf d) nf fl T (nI r) (nI l.length) (nI i) = some (nI o, 0, tkT o l (mkB T r o (nI l.length))) := by
  intro m
  induction m with
  | zero =>
    intro i fl h1 h2
    obtain ⟨fl, rfl⟩ : ∃ g, fl = g + 1 := ⟨fl - 1, by omega⟩
    have e : i = o := by omega
    subst e
    have zo : inb (nI i) 4096 := nin ho (by omega)
    rw [rl_Model_make_162, gd, if_pos zo, nc (by omega), if_pos hb]
    simp only [stK, gd, if_pos zo, nc (show i < 100000 by omega), sI_v]
    have eo : ∀ k, k = 149 ∨ k = 143 → (mkB T r i (nI l.length)).1 k = T.1 k := fun k hk => by
      unfold mkB
      rw [sI_ne (by omega), sI_ne (by omega), sI_ne (by omega), sI_ne (by omega), sI_ne (by omega), sI_ne (by omega)]
    exact x_mk235 (n := l.length) ho l fr' (mkB T r i (nI l.length)) 0 nf (by rw [eo 149 (by omega), eo 143 (by omega)]; exact hc) hn (by omega) hl hnf2
  | succ m ih =>
    intro i fl h1 h2
    obtain ⟨fl, rfl⟩ : ∃ g, fl = g + 1 := ⟨fl - 1, by omega⟩
    rw [rl_Model_make_162, gd, if_pos (nin (by omega) (by omega)), nc (by omega), if_neg (hq i (by omega)), vK, nI_1]
    exact ih (i + 1) fl (by omega) (by omega)
/-- an object of n words, k places -/
theorem x_mk109 (hr : r < 400) (hx : ¬ x = 0) (ho : o < 4096) (hb : T.1 138 o = 0) (hq : ∀ q, q < o → ¬ T.1 138 q = 0) (hc : chn (T.1 149) (T.1 143 0) (l ++ fr')) (hn : (l ++ fr').Nodup) (hl : l.length < 100000) (hnf : 4096 < nf) (hnf2 : l.length < nf) : rj_Model_make_109 (RR nf d) nf T (nI r) (nI l.length) x = some (nI o, 0, tkT o l (mkB (mkU T r x) r o (nI l.length))) := by
  have zr : inb (nI r) 400 := nin hr (by omega)
  have e1 : rj_Model_make_109 (RR nf d) nf T (nI r) (nI l.length) x = rl_Model_make_162 (RR nf d) nf nf (mkU T r x) (nI r) (nI l.length) (nI 0) := by
    unfold rj_Model_make_109 mkU mkN0
    simp only [stK, gd, if_pos zr, nc (show r < 100000 by omega), if_neg hx]
    rw [sI_ne (g' := 136) (g := 105) (by omega), sI_ne (g' := 134) (g := 136) (by omega), sI_ne (g' := 134) (g := 105) (by omega), sI_ne (g' := 135) (g := 134) (by omega), sI_ne (g' := 135) (g := 136) (by omega), sI_ne (g' := 135) (g := 105) (by omega)]
    rfl
  have eo : ∀ k, k = 138 ∨ k = 149 ∨ k = 143 → (mkU T r x).1 k = T.1 k := fun k hk => by
    unfold mkU mkN0
    rw [sI_ne (by omega), sI_ne (by omega), sI_ne (by omega), sI_ne (by omega)]
  rw [e1]
  exact x_mk162 ho (by rw [eo 138 (by omega)]; exact hb) (fun q h => by rw [eo 138 (by omega)]; exact hq q h) (by rw [eo 149 (by omega), eo 143 (by omega)]; exact hc) hn hl hnf hnf2 o 0 nf (by omega) (by omega)
/-- .. the page has room -/
theorem x_make1 (hr : r < 400) (hle : lg_cmp p2 ((T.1 131 0).toInt64) ≤ 0) (h32 : p2.toInt32 = nI n) (hn1 : 1 ≤ n) (hn2 : n < 100000) (h131 : T.1 131 0 = nI W) (hW : W ≤ 64) (h133 : T.1 133 r = nI g) (hg : 1 ≤ g) (hg2 : g < 100000) (h134 : T.1 134 r = nI u) (hu : u + n ≤ W) (ho : o < 4096) (hb : T.1 138 o = 0) (hq : ∀ q, q < o → ¬ T.1 138 q = 0) (hc : chn (T.1 149) (T.1 143 0) (l ++ fr')) (hn : (l ++ fr').Nodup) (hl : l.length < 100000) (hnf : 4096 < nf) (hnf2 : l.length < nf) (hd : 1 ≤ d) : RR nf d 110 T [nI r, nI l.length] [p2] = some (nI o, 0, tkT o l (mkB (mkU T r (nI n)) r o (nI l.length))) := by
  obtain ⟨d, rfl⟩ : ∃ g, d = g + 1 := ⟨d - 1, by omega⟩
  have zr : inb (nI r) 400 := nin hr (by omega)
  have n0 : ¬ nI n = 0 := fun w => by
    have := nI_inj (a := n) (b := 0) (by omega) (by omega) w
    omega
  rw [e_Model_make]
  unfold rb_Model_make
  rw [if_pos hle, vK, h32, if_neg n0, gd, if_pos zr, nc (by omega), h133, if_neg (fun q => by
    have := (nI_leI (a := g) (b := 0) (by omega) (by omega)).mp q
    omega), gd, if_pos zr, h131, h134, show nI u + nI n = nI (u + n) from (Int32.ofNat_add _ _).symm, if_neg (fun q => by
    have := (nI_ltI (a := W) (b := u + n) (by omega) (by omega)).mp q
    omega)]
  unfold rj_Model_make_51 rj_Model_make_77
  rw [if_neg (by decide)]
  exact x_mk109 hr n0 ho hb hq hc hn hl hnf hnf2
/-- .. on a new page -/
theorem x_make2 (hr : r < 400) (hle : lg_cmp p2 ((T.1 131 0).toInt64) ≤ 0) (h32 : p2.toInt32 = nI n) (hn1 : 1 ≤ n) (hn2 : n < 100000) (h131 : T.1 131 0 = nI W) (hW : W ≤ 64) (h133 : T.1 133 r = nI g) (hg2 : g < 100000) (h134 : T.1 134 r = nI u) (hu : u ≤ 64) (hno : g = 0 ∨ W < u + n) (h132 : T.1 132 0 = nI (e + 1)) (he : e < 90000) (ho : o < 4096) (hb : T.1 138 o = 0) (hq : ∀ q, q < o → ¬ T.1 138 q = 0) (hc : chn (T.1 149) (T.1 143 0) (l ++ fr')) (hn : (l ++ fr').Nodup) (hl : l.length < 100000) (hnf : 4096 < nf) (hnf2 : l.length < nf) (hd : 1 ≤ d) : RR nf d 110 T [nI r, nI l.length] [p2] = some (nI o, 0, tkT o l (mkB (mkU (mkP T r) r (nI n)) r o (nI l.length))) := by
  obtain ⟨d, rfl⟩ : ∃ g, d = g + 1 := ⟨d - 1, by omega⟩
  have zr : inb (nI r) 400 := nin hr (by omega)
  have n0 : ¬ nI n = 0 := fun w => by
    have := nI_inj (a := n) (b := 0) (by omega) (by omega) w
    omega
  have f0 : ¬ nI (e + 1) = 0 := fun w => by
    have := nI_inj (a := e + 1) (b := 0) (by omega) (by omega) w
    omega
  have e77 : rj_Model_make_77 (RR nf d) nf T (nI r) (nI l.length) (nI n) 0 = some (nI o, 0, tkT o l (mkB (mkU (mkP T r) r (nI n)) r o (nI l.length))) := by
    have e1 : rj_Model_make_77 (RR nf d) nf T (nI r) (nI l.length) (nI n) 0 = rj_Model_make_109 (RR nf d) nf (mkP T r) (nI r) (nI l.length) (nI n) := by
      unfold rj_Model_make_77 mkP
      rw [if_pos rfl]
      simp only [stK, gd, if_pos zr, nc (show r < 100000 by omega)]
      rw [sI_ne (g' := 133) (g := 132) (by omega)]
    have eo : ∀ k, k = 138 ∨ k = 149 ∨ k = 143 → (mkP T r).1 k = T.1 k := fun k hk => by
      unfold mkP
      rw [sI_ne (by omega), sI_ne (by omega), sI_ne (by omega)]
    rw [e1]
    exact x_mk109 hr n0 ho (by rw [eo 138 (by omega)]; exact hb) (fun q h => by rw [eo 138 (by omega)]; exact hq q h) (by rw [eo 149 (by omega), eo 143 (by omega)]; exact hc) hn hl hnf hnf2
  rw [e_Model_make]
  unfold rb_Model_make
  rw [if_pos hle, vK, h32, if_neg n0, gd, if_pos zr, nc (by omega), h133]
  by_cases c0 : g = 0
  · rw [if_pos (show nI g ≤ 0 by rw [c0]; decide), h132, if_neg f0]
    exact e77
  · rw [if_neg (fun q => by
      have := (nI_leI (a := g) (b := 0) (by omega) (by omega)).mp q
      omega), gd, if_pos zr, h131, h134, show nI u + nI n = nI (u + n) from (Int32.ofNat_add _ _).symm, if_pos (show nI W < nI (u + n) from (nI_ltI (by omega) (by omega)).mpr (by omega)), h132, if_neg f0]
    exact e77
/-- .. no page is left -/
theorem x_make3 (hr : r < 400) (hle : lg_cmp p2 ((T.1 131 0).toInt64) ≤ 0) (h32 : p2.toInt32 = nI n) (hn1 : 1 ≤ n) (hn2 : n < 100000) (h131 : T.1 131 0 = nI W) (hW : W ≤ 64) (h133 : T.1 133 r = nI g) (hg2 : g < 100000) (h134 : T.1 134 r = nI u) (hu : u ≤ 64) (hno : g = 0 ∨ W < u + n) (h132 : T.1 132 0 = 0) (hd : 1 ≤ d) : RR nf d 110 T [nI r, x] [p2] = some (-1, 0, sI T 100 0 4) := by
  obtain ⟨d, rfl⟩ : ∃ g, d = g + 1 := ⟨d - 1, by omega⟩
  have zr : inb (nI r) 400 := nin hr (by omega)
  have n0 : ¬ nI n = 0 := fun w => by
    have := nI_inj (a := n) (b := 0) (by omega) (by omega) w
    omega
  rw [e_Model_make]
  unfold rb_Model_make
  rw [if_pos hle, vK, h32, if_neg n0, gd, if_pos zr, nc (by omega), h133]
  by_cases c0 : g = 0
  · rw [if_pos (show nI g ≤ 0 by rw [c0]; decide), h132, if_pos rfl, stK]
  · rw [if_neg (fun q => by
      have := (nI_leI (a := g) (b := 0) (by omega) (by omega)).mp q
      omega), gd, if_pos zr, h131, h134, show nI u + nI n = nI (u + n) from (Int32.ofNat_add _ _).symm, if_pos (show nI W < nI (u + n) from (nI_ltI (by omega) (by omega)).mpr (by omega)), h132, if_pos rfl, stK]
/-- .. of no words -/
theorem x_make0 (hr : r < 400) (hle : lg_cmp p2 ((T.1 131 0).toInt64) ≤ 0) (h32 : p2.toInt32 = 0) (hd : 1 ≤ d) : RR nf d 110 T [nI r, x] [p2] = some (-2, 0, mkN0 T r) := by
  obtain ⟨d, rfl⟩ : ∃ g, d = g + 1 := ⟨d - 1, by omega⟩
  have zr : inb (nI r) 400 := nin hr (by omega)
  rw [e_Model_make]
  unfold rb_Model_make
  rw [if_pos hle, vK, h32, if_pos rfl]
  unfold rj_Model_make_51 rj_Model_make_77
  rw [if_neg (by decide)]
  unfold rj_Model_make_109 mkN0
  rw [stK, gd, if_pos zr, gd, if_pos zr, nc (by omega), stK, if_pos rfl, sI_ne (g' := 136) (g := 105) (by omega)]
end RM5
