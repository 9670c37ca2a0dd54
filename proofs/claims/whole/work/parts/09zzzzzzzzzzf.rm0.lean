/-! the reference's machine: its small methods -/
/-- cells in a chain -/
def chn (L : Nat → Int32) : Int32 → List Nat → Prop
  | c, [] => c = -1
  | c, a :: l => c = nI a ∧ a < 4096 ∧ chn L (L a) l
/-- a value on the stack -/
def rpT (T : gSt) (h : Nat) (x y z w : Int32) : gSt := sI (sI (sI (sI (sI T 110 h x) 111 h y) 112 h z) 113 h w) 109 0 (nI (h + 1))
/-- the value at p of the stack put to cell c -/
def rcT (T : gSt) (c p : Nat) : gSt := sI (sI (sI (sI (sI T 144 c (T.1 110 p)) 145 c (T.1 111 p)) 146 c (T.1 112 p)) 147 c (T.1 113 p)) 148 c 1
section RM0
variable {T T' : gSt} {nf d t a b c k n m i q s fl o h p e : Nat} {w x y z v bb : Int32} {l : List Nat}
theorem x_push (hh : T.1 109 0 = nI h) (h8 : h < 8200) (hd : 1 ≤ d) : RR nf d 106 T [x, y, z] [] = some (0, 0, rpT T h x y z 0) := by
  obtain ⟨d, rfl⟩ : ∃ g, d = g + 1 := ⟨d - 1, by omega⟩
  have zh : inb (nI h) 8200 := nin h8 (by omega)
  have e : ∀ (V : gSt) (g j : Nat) (u : Int32), g ≠ 109 → (sI V g j u).1 109 0 = V.1 109 0 := fun V g j u hg => by rw [sI_ne (fun w => hg w.symm)]
  rw [e_Model_push]
  unfold rb_Model_push rpT
  simp only [gd, stK, e _ _ _ _ (show 110 ≠ 109 by omega), e _ _ _ _ (show 111 ≠ 109 by omega), e _ _ _ _ (show 112 ≠ 109 by omega), e _ _ _ _ (show 113 ≠ 109 by omega), hh, if_pos zh, nc (show h < 100000 by omega), nI_1]
theorem x_placeOf (ho : o < 4096) (hb : T.1 138 o = bb) (hn : T.1 140 o = nI l.length) (hl : l.length < 100000) (hc : chn (T.1 149) (T.1 139 o) l) (hk : k < l.length) (hnf : l.length < nf) (hd : 1 ≤ d) : RR nf d 111 T [nI o, bb, nI k] [] = some (nI (l.getD k 0), 0, T) := by
  obtain ⟨d, rfl⟩ : ∃ g, d = g + 1 := ⟨d - 1, by omega⟩
  have zo : inb (nI o) 4096 := nin ho (by omega)
  rw [e_Model_placeOf]
  unfold rb_Model_placeOf
  rw [if_neg (nI_ge0 (by omega)), gd, if_pos zo, nc (by omega), if_pos hb, if_neg (nI_ge0 (by omega)), gd, if_pos zo, hn, if_pos (show nI k < nI l.length from (nI_ltI (by omega) (by omega)).mpr hk), gd, if_pos zo, vK]
  have go : ∀ (m : Nat) (c : Int32) (ls : List Nat) (i fl : Nat), m + i = k → m < fl → m < ls.length → chn (T.1 149) c ls → rl_Model_placeOf_51 (RR nf d) nf fl T (nI k) c (nI i) = some (nI (ls.getD m 0), 0, T) := by
    intro m
    induction m with
    | zero =>
      intro c ls i fl h1 h2 h3 h4
      obtain ⟨fl, rfl⟩ : ∃ g, fl = g + 1 := ⟨fl - 1, by omega⟩
      rw [rl_Model_placeOf_51, if_pos (show nI k ≤ nI i from (nI_leI (by omega) (by omega)).mpr (by omega))]
      cases ls with
      | nil => exact absurd h3 (Nat.not_lt_zero _)
      | cons a ls => rw [h4.1]; rfl
    | succ m ih =>
      intro c ls i fl h1 h2 h3 h4
      obtain ⟨fl, rfl⟩ : ∃ g, fl = g + 1 := ⟨fl - 1, by omega⟩
      cases ls with
      | nil => exact absurd h3 (Nat.not_lt_zero _)
      | cons a ls =>
        obtain ⟨e1, e2, e3⟩ := h4
        rw [List.length_cons] at h3
        rw [rl_Model_placeOf_51, if_neg (fun q => by
          have := (nI_leI (a := k) (b := i) (by omega) (by omega)).mp q
          omega), e1, gd, if_pos (nin e2 (by omega)), nc (by omega), vK, vK, nI_1]
        exact ih _ ls (i + 1) fl (by omega) (by omega) (by omega) e3
  exact go k _ l 0 nf (by omega) (by omega) hk hc
theorem chn_lt : ∀ (l : List Nat) (c : Int32) (L : Nat → Int32) (k : Nat), chn L c l → k < l.length → l.getD k 0 < 4096 := by
  intro l
  induction l with
  | nil => intro c L k _ h; exact absurd h (Nat.not_lt_zero _)
  | cons a l ih =>
    intro c L k h hk
    cases k with
    | zero => exact h.2.1
    | succ k => exact ih _ L k h.2.2 (by rw [List.length_cons] at hk; omega)
/-- the value of a cell onto the stack -/
theorem x_pushPlace (ho : o < 4096) (hb : T.1 138 o = bb) (hn : T.1 140 o = nI l.length) (hl : l.length < 100000) (hc : chn (T.1 149) (T.1 139 o) l) (hk : k < l.length) (hg : ¬ T.1 148 (l.getD k 0) = 0) (hh : T.1 109 0 = nI h) (h8 : h < 8200) (hnf : l.length < nf) (hd : 2 ≤ d) : RR nf d 112 T [nI o, bb, nI k] [] = some (0, 0, rpT T h (T.1 144 (l.getD k 0)) (T.1 145 (l.getD k 0)) (T.1 146 (l.getD k 0)) (T.1 147 (l.getD k 0))) := by
  obtain ⟨d, rfl⟩ : ∃ g, d = g + 1 := ⟨d - 1, by omega⟩
  have cl := chn_lt l _ _ k hc hk
  have zc : inb (nI (l.getD k 0)) 4096 := nin cl (by omega)
  have ge : (0 : Int32) ≤ nI (l.getD k 0) := Int32.not_lt.mp (nI_ge0 (by omega))
  rw [e_Model_pushPlace]
  unfold rb_Model_pushPlace
  rw [x_placeOf ho hb hn hl hc hk hnf (by omega), bis, if_neg (nI_ge0 (by omega)), gd, if_pos zc, nc (by omega), if_neg hg]
  unfold rj_Model_pushPlace_34
  rw [if_pos ge, gd, if_pos zc, nc (by omega)]
  unfold rj_Model_pushPlace_51
  rw [if_pos ge, gd, if_pos zc, if_pos ge, gd, if_pos zc, nc (by omega)]
  unfold rj_Model_pushPlace_83
  rw [x_push hh h8 (by omega), bis, if_pos ge, gd, if_pos zc, nc (by omega)]
  have e109 : (rpT T h (T.1 144 (l.getD k 0)) (T.1 145 (l.getD k 0)) (T.1 146 (l.getD k 0)) 0).1 109 0 = nI (h + 1) := by unfold rpT; rw [sI_v]
  have e147 : (rpT T h (T.1 144 (l.getD k 0)) (T.1 145 (l.getD k 0)) (T.1 146 (l.getD k 0)) 0).1 147 = T.1 147 := by
    unfold rpT
    rw [sI_ne (by omega), sI_ne (by omega), sI_ne (by omega), sI_ne (by omega), sI_ne (by omega)]
  rw [e109, nI_sub, gd, if_pos (nin h8 (by omega)), nc (by omega), stK, e147]
  unfold rpT
  rw [sI_cc (g := 109) (h := 113) (by omega), sI_ow]
/-- the value at p of the stack to a cell -/
theorem x_put (ho : o < 4096) (hb : T.1 138 o = bb) (hn : T.1 140 o = nI l.length) (hl : l.length < 100000) (hc : chn (T.1 149) (T.1 139 o) l) (hk : k < l.length) (hp : p < 8200) (hnf : l.length < nf) (hd : 2 ≤ d) : RR nf d 113 T [nI o, bb, nI k, nI p] [] = some (0, 0, rcT T (l.getD k 0) p) := by
  obtain ⟨d, rfl⟩ : ∃ g, d = g + 1 := ⟨d - 1, by omega⟩
  have cl := chn_lt l _ _ k hc hk
  have zc : inb (nI (l.getD k 0)) 4096 := nin cl (by omega)
  have zp : inb (nI p) 8200 := nin hp (by omega)
  have ge : (0 : Int32) ≤ nI (l.getD k 0) := Int32.not_lt.mp (nI_ge0 (by omega))
  rw [e_Model_put]
  unfold rb_Model_put rcT
  rw [x_placeOf ho hb hn hl hc hk hnf (by omega), bis, if_pos ge]
  simp only [gd, if_pos zc, if_pos zp, stK, nc (show p < 100000 by omega), nc (show l.getD k 0 < 100000 by omega)]
  rw [sI_ne (g' := 111) (g := 144) (by omega), sI_ne (g' := 112) (g := 145) (by omega), sI_ne (g' := 112) (g := 144) (by omega), sI_ne (g' := 113) (g := 146) (by omega), sI_ne (g' := 113) (g := 145) (by omega), sI_ne (g' := 113) (g := 144) (by omega)]
theorem x_varM (hD : T.1 103 0 = nI (e + 1)) (he : e < 1000) (hs : s < 1000) (hd : 1 ≤ d) : RR nf d 115 T [nI s] [] = some (nI (20 * e + s), 0, T) := by
  obtain ⟨d, rfl⟩ : ∃ g, d = g + 1 := ⟨d - 1, by omega⟩
  rw [e_Model_var]
  unfold rb_Model_var
  rw [hD, nI_sub, show (20 : Int32) = nI 20 from rfl, nI_mul, show nI (20 * e) + nI s = nI (20 * e + s) from (Int32.ofNat_add _ _).symm]
theorem x_regM (hD : T.1 103 0 = nI (e + 1)) (he : e < 40) (hs : s < 12) (hd : 1 ≤ d) : RR nf d 116 T [nI s] [] = some ((if s = 0 then 0 else T.1 121 (12 * e + s)), 0, T) := by
  obtain ⟨d, rfl⟩ : ∃ g, d = g + 1 := ⟨d - 1, by omega⟩
  rw [e_Model_regionIndex]
  unfold rb_Model_regionIndex
  by_cases c0 : s = 0
  · subst c0
    rw [if_pos (show nI 0 = (0 : Int32) from rfl), if_pos rfl]
  · rw [if_neg (show ¬ nI s = (0 : Int32) from fun q => c0 (nI_inj (a := s) (b := 0) (by omega) (by omega) q)), if_neg c0, hD, nI_sub, show (12 : Int32) = nI 12 from rfl, nI_mul, show nI (12 * e) + nI s = nI (12 * e + s) from (Int32.ofNat_add _ _).symm, gd, if_pos (nin (by omega) (by omega)), nc (by omega)]
end RM0
