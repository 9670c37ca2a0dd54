/-! the class's memory: a place for words -/
def fgV (T : gSt) (a i : Nat) : gSt := (fun k j => if k = 115 then (if a ≤ j ∧ j < a + i then 0 else T.1 115 j) else T.1 k j, T.2)
/-- a page for region r -/
def tpT (T : gSt) (r p W : Nat) : gSt := fgV (sI (sI (sI (sI (sI T 116 p (nI r)) 119 0 (T.1 119 0 + 1)) 123 r (T.1 123 r + 1)) 126 r (nI (p * W))) 127 r (nI W)) (p * W) W
def mkT (T : gSt) (r : Nat) (x : Int32) : gSt := sI (sI (sI (sI (sI T 126 r (T.1 126 r + x)) 127 r (T.1 127 r - x)) 124 r (T.1 124 r + x)) 125 r (T.1 125 r + 1)) 120 0 (T.1 120 0 + 1)
section CM3
variable {T T' : gSt} {nf d t a b c k P W n m i q s fl r p : Nat} {w x y v : Int32} {f : Nat → Int32}
theorem fgV_r {j : Nat} : (fgV T a i).1 k j = if k = 115 then (if a ≤ j ∧ j < a + i then 0 else T.1 115 j) else T.1 k j := rfl
theorem fgV_o (h : k ≠ 115) : (fgV T a i).1 k = T.1 k := by
  funext j
  rw [fgV_r, if_neg h]
theorem c_forget (h : T.1 118 0 = nI W) (hW : W ≤ 64) (ha : a + W ≤ 4096) (hnf : 64 < nf) : rl_Memory_takePage_54 (PP nf d) nf nf T (nI a) (nI a) = some (0, 0, fgV T a W) := by
  have go : ∀ (m i fl : Nat), m + i = W → m < fl → rl_Memory_takePage_54 (PP nf d) nf fl (fgV T a i) (nI a) (nI (a + i)) = some (0, 0, fgV T a W) := by
    intro m
    induction m with
    | zero =>
      intro i fl h1 h2
      obtain ⟨fl, rfl⟩ : ∃ g, fl = g + 1 := ⟨fl - 1, by omega⟩
      rw [rl_Memory_takePage_54, fgV_o (by omega), h, show nI a + nI W = nI (a + W) from (Int32.ofNat_add _ _).symm, if_pos (show nI (a + W) ≤ nI (a + i) from (nI_leI (by omega) (by omega)).mpr (by omega)), show i = W by omega]
    | succ m ih =>
      intro i fl h1 h2
      obtain ⟨fl, rfl⟩ : ∃ g, fl = g + 1 := ⟨fl - 1, by omega⟩
      rw [rl_Memory_takePage_54, fgV_o (by omega), h, show nI a + nI W = nI (a + W) from (Int32.ofNat_add _ _).symm, if_neg (fun q => by
        have := (nI_leI (a := a + W) (b := a + i) (by omega) (by omega)).mp q
        omega), if_neg (fun q => by
        have := (nI_leI (a := 4096) (b := a + i) (by omega) (by omega)).mp q
        omega), gd, if_pos (nin (by omega) (by omega)), nc (by omega), stK, vK, nI_1]
      have eS : fgV T a (i + 1) = sI (fgV T a i) 115 (a + i) 0 := by
        refine st_ext (fun k j => ?_) rfl
        rw [rdI]
        by_cases k1 : k = 115
        · subst k1
          rw [fgV_r, fgV_r, if_pos rfl, if_pos rfl]
          by_cases e : j = a + i
          · rw [if_pos (by omega), if_pos ⟨rfl, e⟩]
          · rw [if_neg (fun w : 115 = 115 ∧ j = a + i => e w.2)]
            by_cases z : a ≤ j ∧ j < a + i
            · rw [if_pos z, if_pos (by omega)]
            · rw [if_neg z, if_neg (by omega)]
        · rw [if_neg (fun w => k1 w.1), fgV_o k1, fgV_o k1]
      rw [← eS]
      have := ih (i + 1) fl (by omega) (by omega)
      rw [show a + (i + 1) = a + i + 1 by omega] at this
      exact this
  have := go W 0 nf (by omega) (by omega)
  have e0 : fgV T a 0 = T := by
    refine st_ext (fun k j => ?_) rfl
    rw [fgV_r]
    by_cases k1 : k = 115
    · rw [if_pos k1, if_neg (by omega), k1]
    · rw [if_neg k1]
  rw [e0] at this
  exact this
/-- the first page that no region has -/
theorem c_free (hp : Pgs T P W) (hpP : p < P) (hf : T.1 116 p = -1) (hb : ∀ q, q < p → ¬ T.1 116 q = -1) (hnf : 64 < nf) (hd : 1 ≤ d) : PP nf d 231 T [] [] = some (nI p, 0, T) := by
  obtain ⟨d, rfl⟩ : ∃ g, d = g + 1 := ⟨d - 1, by omega⟩
  obtain ⟨h1, h2, h3, h4, h5⟩ := hp
  rw [e_Memory_freePage]
  unfold rb_Memory_freePage
  have go : ∀ (m q fl : Nat), m + q = p → m < fl → rl_Memory_freePage_2 (PP nf d) nf fl T (nI q) = some (nI p, 0, T) := by
    intro m
    induction m with
    | zero =>
      intro q fl g1 g2
      obtain ⟨fl, rfl⟩ : ∃ g, fl = g + 1 := ⟨fl - 1, by omega⟩
      have eq : q = p := by omega
      subst eq
      rw [rl_Memory_freePage_2, h1, if_neg (fun w => by
        have := (nI_leI (a := P) (b := q) (by omega) (by omega)).mp w
        omega), gd, if_pos (nin (by omega) (by omega)), nc (by omega), if_pos hf]
    | succ m ih =>
      intro q fl g1 g2
      obtain ⟨fl, rfl⟩ : ∃ g, fl = g + 1 := ⟨fl - 1, by omega⟩
      rw [rl_Memory_freePage_2, h1, if_neg (fun w => by
        have := (nI_leI (a := P) (b := q) (by omega) (by omega)).mp w
        omega), gd, if_pos (nin (by omega) (by omega)), nc (by omega), if_neg (hb q (by omega)), vK, nI_1]
      exact ih (q + 1) fl (by omega) (by omega)
  exact go p 0 nf (by omega) (by omega)
theorem c_freeNo (hp : Pgs T P W) (hb : ∀ q, q < P → ¬ T.1 116 q = -1) (hnf : 64 < nf) (hd : 1 ≤ d) : PP nf d 231 T [] [] = some (-1, 0, T) := by
  obtain ⟨d, rfl⟩ : ∃ g, d = g + 1 := ⟨d - 1, by omega⟩
  obtain ⟨h1, h2, h3, h4, h5⟩ := hp
  rw [e_Memory_freePage]
  unfold rb_Memory_freePage
  have go : ∀ (m q fl : Nat), m + q = P → m < fl → rl_Memory_freePage_2 (PP nf d) nf fl T (nI q) = some (-1, 0, T) := by
    intro m
    induction m with
    | zero =>
      intro q fl g1 g2
      obtain ⟨fl, rfl⟩ : ∃ g, fl = g + 1 := ⟨fl - 1, by omega⟩
      rw [rl_Memory_freePage_2, h1, if_pos (show nI P ≤ nI q from (nI_leI (by omega) (by omega)).mpr (by omega))]
    | succ m ih =>
      intro q fl g1 g2
      obtain ⟨fl, rfl⟩ : ∃ g, fl = g + 1 := ⟨fl - 1, by omega⟩
      rw [rl_Memory_freePage_2, h1, if_neg (fun w => by
        have := (nI_leI (a := P) (b := q) (by omega) (by omega)).mp w
        omega), gd, if_pos (nin (by omega) (by omega)), nc (by omega), if_neg (hb q (by omega)), vK, nI_1]
      exact ih (q + 1) fl (by omega) (by omega)
  exact go P 0 nf (by omega) (by omega)
/-- the page comes to region r -/
theorem c_take (hp : Pgs T P W) (hr : r < 321) (hpP : p < P) (hnf : 64 < nf) (hd : 1 ≤ d) : PP nf d 232 T [nI r, nI p] [] = some (0, 0, tpT T r p W) := by
  obtain ⟨d, rfl⟩ : ∃ g, d = g + 1 := ⟨d - 1, by omega⟩
  obtain ⟨h1, h2, h3, h4, h5⟩ := hp
  have zr : inb (nI r) 321 := nin hr (by omega)
  have zp : inb (nI p) 64 := nin (by omega) (by omega)
  have cr : (nI r).toNatClampNeg = r := nc (by omega)
  have cp : (nI p).toNatClampNeg = p := nc (by omega)
  have pw : p * W + W ≤ 4096 := by
    have : (p + 1) * W ≤ 64 * 64 := Nat.mul_le_mul (by omega) h5
    rw [Nat.add_mul, Nat.one_mul] at this
    omega
  rw [e_Memory_takePage]
  unfold rb_Memory_takePage
  simp only [gd, if_pos zr, if_pos zp, cr, cp, vK, stK]
  have e118 : ∀ (V : gSt) (g j : Nat) (u : Int32), g ≠ 118 → (sI V g j u).1 118 0 = V.1 118 0 := fun V g j u hg => by rw [sI_ne (fun w => hg w.symm)]
  simp only [e118 _ _ _ _ (show 116 ≠ 118 by omega), e118 _ _ _ _ (show 119 ≠ 118 by omega), e118 _ _ _ _ (show 123 ≠ 118 by omega), e118 _ _ _ _ (show 126 ≠ 118 by omega), e118 _ _ _ _ (show 127 ≠ 118 by omega), h3, nI_mul]
  rw [c_forget (W := W) (by simp only [e118 _ _ _ _ (show 116 ≠ 118 by omega), e118 _ _ _ _ (show 119 ≠ 118 by omega), e118 _ _ _ _ (show 123 ≠ 118 by omega), e118 _ _ _ _ (show 126 ≠ 118 by omega), e118 _ _ _ _ (show 127 ≠ 118 by omega), h3]) h5 pw hnf]
  unfold tpT
  rw [sI_ne (g' := 119) (g := 116) (by omega), sI_ne (g' := 123) (g := 119) (by omega), sI_ne (g' := 123) (g := 116) (by omega)]
theorem c_mk34 (hr : r < 321) : rj_Memory_make_42 (PP nf d) nf T (nI r) x = some (T.1 126 r, 0, mkT T r x) := by
  have zr : inb (nI r) 321 := nin hr (by omega)
  unfold rj_Memory_make_42 mkT
  simp only [gd, if_pos zr, vK, stK, nc (show r < 100000 by omega)]
  rw [sI_ne (g' := 127) (g := 126) (by omega), sI_ne (g' := 124) (g := 127) (by omega), sI_ne (g' := 124) (g := 126) (by omega), sI_ne (g' := 125) (g := 124) (by omega), sI_ne (g' := 125) (g := 127) (by omega), sI_ne (g' := 125) (g := 126) (by omega), sI_ne (g' := 120) (g := 125) (by omega), sI_ne (g' := 120) (g := 124) (by omega), sI_ne (g' := 120) (g := 127) (by omega), sI_ne (g' := 120) (g := 126) (by omega)]
/-- a place for x words where the page has room -/
theorem c_make1 (h : T.1 122 0 = nI m) (hm : m ≤ 321) (hr : r < m) (hx : x ≤ T.1 127 r) (hd : 1 ≤ d) : PP nf d 230 T [nI r, x] [] = some (T.1 126 r, 0, mkT T r x) := by
  obtain ⟨d, rfl⟩ : ∃ g, d = g + 1 := ⟨d - 1, by omega⟩
  rw [e_Memory_make]
  unfold rb_Memory_make
  rw [if_neg (nI_ge0 (by omega)), h, if_pos (show nI r < nI m from (nI_ltI (by omega) (by omega)).mpr hr), gd, if_pos (nin (by omega) (by omega)), nc (by omega), if_pos hx, c_mk34 (by omega)]
/-- .. on a new page -/
theorem c_make2 (h : T.1 122 0 = nI m) (hm : m ≤ 321) (hr : r < m) (hx : ¬ x ≤ T.1 127 r) (hp : Pgs T P W) (hpP : p < P) (hf : T.1 116 p = -1) (hb : ∀ q, q < p → ¬ T.1 116 q = -1) (hnf : 64 < nf) (hd : 3 ≤ d) : PP nf d 230 T [nI r, x] [] = some (nI (p * W), 0, mkT (tpT T r p W) r x) := by
  obtain ⟨d, rfl⟩ : ∃ g, d = g + 1 := ⟨d - 1, by omega⟩
  rw [e_Memory_make]
  unfold rb_Memory_make
  rw [if_neg (nI_ge0 (by omega)), h, if_pos (show nI r < nI m from (nI_ltI (by omega) (by omega)).mpr hr), gd, if_pos (nin (by omega) (by omega)), nc (by omega), if_neg hx, c_free hp hpP hf hb hnf (by omega), bis, if_neg (show ¬ nI p = -1 from fun w => by
    have := nzI (q := p) (by have := hp.2.1; have := hp.2.2.2.1; omega)
    rw [w] at this
    exact this (by decide)), c_take hp (by omega) hpP hnf (by omega), bis, c_mk34 (by omega)]
  have : (tpT T r p W).1 126 r = nI (p * W) := by
    unfold tpT
    rw [fgV_o (by omega), sI_ne (by omega), sI_v]
  rw [this]
/-- .. no page is left -/
theorem c_make3 (h : T.1 122 0 = nI m) (hm : m ≤ 321) (hr : r < m) (hx : ¬ x ≤ T.1 127 r) (hp : Pgs T P W) (hb : ∀ q, q < P → ¬ T.1 116 q = -1) (hnf : 64 < nf) (hd : 3 ≤ d) : PP nf d 230 T [nI r, x] [] = some (-1, 0, T) := by
  obtain ⟨d, rfl⟩ : ∃ g, d = g + 1 := ⟨d - 1, by omega⟩
  rw [e_Memory_make]
  unfold rb_Memory_make
  rw [if_neg (nI_ge0 (by omega)), h, if_pos (show nI r < nI m from (nI_ltI (by omega) (by omega)).mpr hr), gd, if_pos (nin (by omega) (by omega)), nc (by omega), if_neg hx, c_freeNo hp hb hnf (by omega), bis, if_pos rfl]
end CM3
