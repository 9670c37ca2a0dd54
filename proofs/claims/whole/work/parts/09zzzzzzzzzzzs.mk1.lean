/-! the reference's machine: objects are made -/
section MK1
variable {M M' M1 Sf : gSt} {nf d t a b c k n m i q s fl o h p e r f mx : Nat} {w x y z v bb x1 x2 x3 x4 x5 x6 : Int32} {ls : List Nat} {l1 p2 x7 : Int64} {g : Nat → Nat}
/-- what comes behind make -/
def mbK (nf d : Nat) (x1 x4 x6 : Int32) (r24 : Int32) (T24 : gSt) : gR := if r24 = (-1 : Int32) then (some (0, 0, T24)) else (stK (sI T24 109 0 ((T24.1 109 0) - x6)) fun T26 => rl_Model_makeBy_207 (RR nf d) nf nf T26 x1 x4 x6 r24 (0 : Int32))
theorem mb171 {y0 y1 : Int64} : rj_Model_makeBy_171 (RR nf d) nf M x1 x4 x5 x6 y0 y1 = bi (RR nf d 110 M [x5, x6] [y1 + y0]) (fun r _ T24 => mbK nf d x1 x4 x6 r T24) := rfl
theorem i64_add {a b : Int64} {m n : Nat} (ha : a.toInt = (m : Int)) (hb : b.toInt = (n : Int)) (h : m + n < 2 ^ 40) : (a + b).toInt = ((m + n : Nat) : Int) := by
  rw [Int64.toInt_add, ha, hb]
  have : ((m : Int) + (n : Int)) = ((m + n : Nat) : Int) := by omega
  rw [this]
  exact Int.bmod_eq_of_le (by omega) (by omega)
theorem i64_n (h : n < 2 ^ 31) : ((nI n).toInt64).toInt = (n : Int) := by
  rw [Int32.toInt_toInt64, nI_toInt h]
theorem i64_0 : (0 : Int64).toInt = ((0 : Nat) : Int) := by decide
/-- the words of a cell -/
theorem mb_cell2 (hnf : 1 ≤ nf) (hd : 2 ≤ d) : rj_Model_makeBy_37 (RR nf d) nf M 14 (nI n) x4 x5 1 = bi (RR nf d 110 M [x5, 1] [(nI n).toInt64 + 0]) (fun r _ T24 => mbK nf d 14 x4 1 r T24) := by
  obtain ⟨nf, rfl⟩ : ∃ g, nf = g + 1 := ⟨nf - 1, by omega⟩
  unfold rj_Model_makeBy_37
  rw [if_pos rfl, lK, rl_Model_makeBy_69, if_pos rfl]
  unfold rj_Model_makeBy_86
  rw [gd, if_pos (by decide), if_neg (show ¬ (14 : Int32) = 17 by decide)]
  split
  · exact mb171
  · exact mb171
theorem x_woS (hx : tV M x) (hc : cn M ≤ 6000) (hd : 2 ≤ d) : RR nf d 102 M [x] [] = some (nI (wS M x), 0, M) := by
  obtain ⟨d, rfl⟩ : ∃ g, d = g + 2 := ⟨d - 2, by omega⟩
  rw [x_wo (n := cn M) (by
    rcases hx.row with e | ⟨p, hp⟩
    · exact Or.inl (by rw [e]; decide)
    · exact Or.inr ⟨p, hp.1, hp.2.1, hp.2.2⟩) hc]
  unfold wdO wS
  split <;> rfl
/-- the words of a struct, of a union -/
theorem mb_loop (hx1 : x1 = 16 ∨ x1 = 17) (ht : t < 24) (hm8 : m ≤ 8) (hcm : c + m ≤ 220) (h18 : M.1 18 t = nI c) (h19 : M.1 19 t = nI m) (hv : ∀ f, f < m → tV M (M.1 24 (c + f))) (hc : cn M ≤ 6000) (hd : 2 ≤ d) : ∀ (j f fl : Nat) (x7 : Int64), j + f = m → j < fl → x7.toInt = (((if x1 = 16 then ofs M c f else 1) : Nat) : Int) → ∃ p2 : Int64, p2.toInt = (((if x1 = 16 then ofs M c m else 1 + mxs M c m) : Nat) : Int) ∧ rl_Model_makeBy_69 (RR nf d) nf fl M x1 (nI t) x4 x5 x6 x7 (nI (mxs M c f)) (nI f) = bi (RR nf d 110 M [x5, x6] [p2]) (fun r _ T24 => mbK nf d x1 x4 x6 r T24) := by
  have n14 : ¬ x1 = 14 := by rcases hx1 with e | e <;> rw [e] <;> decide
  have ofl : ∀ f, ofs M c f ≤ 3 * f := fun f => by
    induction f with
    | zero => exact Nat.le_refl _
    | succ f ih => have := wS_3 (S := M) (x := M.1 24 (c + f)); rw [ofs]; omega
  have mxl : ∀ f, mxs M c f ≤ 3 := fun f => by
    induction f with
    | zero => exact Nat.zero_le _
    | succ f ih => have := wS_3 (S := M) (x := M.1 24 (c + f)); rw [mxs]; omega
  intro j
  induction j with
  | zero =>
    intro f fl x7 h1 h2 h3
    obtain ⟨fl, rfl⟩ : ∃ g, fl = g + 1 := ⟨fl - 1, by omega⟩
    have ef : f = m := by omega
    subst ef
    have := ofl f
    have := mxl f
    rw [rl_Model_makeBy_69, if_neg n14]
    unfold rj_Model_makeBy_86
    rw [gd, if_pos (nin ht (by omega)), nc (by omega), h19, if_pos (Int32.le_refl _)]
    rcases hx1 with e | e
    · subst e
      rw [if_pos rfl] at h3 ⊢
      rw [if_neg (show ¬ (16 : Int32) = 17 by decide), mb171]
      exact ⟨x7 + 0, i64_add h3 i64_0 (by omega), rfl⟩
    · subst e
      rw [if_neg (by decide)] at h3 ⊢
      rw [if_pos rfl, mb171]
      exact ⟨x7 + (nI (mxs M c f)).toInt64, i64_add h3 (i64_n (by omega)) (by omega), rfl⟩
  | succ j ih =>
    intro f fl x7 h1 h2 h3
    obtain ⟨fl, rfl⟩ : ∃ g, fl = g + 1 := ⟨fl - 1, by omega⟩
    have := ofl f
    have mf := mxl f
    have w3 := wS_3 (S := M) (x := M.1 24 (c + f))
    rw [rl_Model_makeBy_69, if_neg n14]
    unfold rj_Model_makeBy_86
    rw [gd, if_pos (nin ht (by omega)), nc (by omega), h19, if_neg (show ¬ nI m ≤ nI f from fun q => by
      have := (nI_leI (a := m) (b := f) (by omega) (by omega)).mp q
      omega), if_neg n14, gd, if_pos (nin ht (by omega)), h18, show nI c + nI f = nI (c + f) from (Int32.ofNat_add _ _).symm, gd, if_pos (nin (by omega) (by omega)), nc (by omega), x_woS (hv f (by omega)) hc hd, bis]
    have step : ∀ (y0 : Int64), (x7 + y0).toInt = (((if x1 = 16 then ofs M c (f + 1) else 1) : Nat) : Int) → ∃ p2 : Int64, p2.toInt = (((if x1 = 16 then ofs M c m else 1 + mxs M c m) : Nat) : Int) ∧ rj_Model_makeBy_131 (RR nf d) nf (rl_Model_makeBy_69 (RR nf d) nf fl) M x1 (nI t) x4 x5 x6 (nI (mxs M c f)) (nI f) (nI (wS M (M.1 24 (c + f)))) y0 x7 = bi (RR nf d 110 M [x5, x6] [p2]) (fun r _ T24 => mbK nf d x1 x4 x6 r T24) := fun y0 hy => by
      unfold rj_Model_makeBy_131
      rw [lK]
      have i2 := ih (f + 1) fl (x7 + y0) (by omega) (by omega) hy
      rw [mxs] at i2
      by_cases le : wS M (M.1 24 (c + f)) ≤ mxs M c f
      · rw [if_pos ((nI_leI (by omega) (by omega)).mpr le), vK, nI_1]
        rw [show max (mxs M c f) (wS M (M.1 24 (c + f))) = mxs M c f by omega] at i2
        exact i2
      · rw [if_neg (fun q => le ((nI_leI (by omega) (by omega)).mp q)), vK, nI_1]
        rw [show max (mxs M c f) (wS M (M.1 24 (c + f))) = wS M (M.1 24 (c + f)) by omega] at i2
        exact i2
    rcases hx1 with e | e
    · subst e
      rw [if_pos rfl] at h3
      rw [if_pos rfl]
      refine step _ ?_
      rw [if_pos rfl, ofs]
      exact i64_add h3 (i64_n (by omega)) (by omega)
    · subst e
      rw [if_neg (by decide)] at h3
      rw [if_neg (by decide)]
      refine step _ ?_
      rw [if_neg (by decide)]
      exact i64_add h3 i64_0 (by omega)
/-- the values are put to their places -/
theorem mb207 (ho : o < 4096) (hb : M.1 138 o = bb) (hn : M.1 140 o = nI ls.length) (hl : ls.length < 100) (hc : chn (M.1 149) (M.1 139 o) ls) (hh : M.1 109 0 = nI h) (h8 : h + 100 < 8200) (hnf : 200 < nf) (hd : 3 ≤ d) : ∀ (j i fl : Nat), j + i = ls.length → j < fl → rl_Model_makeBy_207 (RR nf d) nf fl (ptsT M ls (fun p => h + p) i) x1 x4 (nI ls.length) (nI o) (nI i) = some (0, 0, if x1 = 17 then rpT (sI (ptsT M ls (fun p => h + p) ls.length) 142 o x4) h 0 (nI o) bb 0 else rpT (ptsT M ls (fun p => h + p) ls.length) h 0 (nI o) bb 0) := by
  have zo : inb (nI o) 4096 := nin ho (by omega)
  have eo : ∀ i k, ¬ (144 ≤ k ∧ k ≤ 148) → (ptsT M ls (fun p => h + p) i).1 k = M.1 k := fun i k hk => ptsT_o hk i
  intro j
  induction j with
  | zero =>
    intro i fl h1 h2
    obtain ⟨fl, rfl⟩ : ∃ g, fl = g + 1 := ⟨fl - 1, by omega⟩
    have ei : i = ls.length := by omega
    subst ei
    rw [rl_Model_makeBy_207, if_pos (Int32.le_refl _)]
    by_cases c : x1 = 17
    · rw [if_pos c, if_pos c, gd, if_pos zo, nc (by omega), stK, gd, if_pos zo, sI_ne (g' := 138) (by omega), eo _ 138 (by omega), hb, x_push (h := h) (by rw [sI_ne (by omega), eo _ 109 (by omega)]; exact hh) (by omega) (by omega), bis]
    · rw [if_neg c, if_neg c, gd, if_pos zo, nc (by omega), eo _ 138 (by omega), hb, x_push (h := h) (by rw [eo _ 109 (by omega)]; exact hh) (by omega) (by omega), bis]
  | succ j ih =>
    intro i fl h1 h2
    obtain ⟨fl, rfl⟩ : ∃ g, fl = g + 1 := ⟨fl - 1, by omega⟩
    rw [rl_Model_makeBy_207, if_neg (fun q => by
      have := (nI_leI (a := ls.length) (b := i) (by omega) (by omega)).mp q
      omega), gd, if_pos zo, nc (by omega), eo _ 138 (by omega), hb, eo _ 109 (by omega), hh, show nI h + nI i = nI (h + i) from (Int32.ofNat_add _ _).symm, x_put (l := ls) (k := i) (p := h + i) ho (by rw [eo _ 138 (by omega)]; exact hb) (by rw [eo _ 140 (by omega)]; exact hn) (by omega) (by rw [eo _ 149 (by omega), eo _ 139 (by omega)]; exact hc) (by omega) (by omega) (by omega) (by omega), bis, vK, nI_1]
    exact ih (i + 1) fl (by omega) (by omega)
/-- make: too many words -/
theorem x_make5 (h131 : M.1 131 0 = nI t) (ht : t < 2 ^ 31) (hp2 : p2.toInt = (n : Int)) (hn : t < n) (hd : 2 ≤ d) (hr : RR nf (d - 1) 114 M [5] [] = some (z, l1, M')) : RR nf d 110 M [x5, x6] [p2] = some (-1, 0, M') := by
  obtain ⟨d, rfl⟩ : ∃ g, d = g + 1 := ⟨d - 1, by omega⟩
  rw [Nat.add_sub_cancel] at hr
  rw [e_Model_make]
  unfold rb_Model_make
  rw [h131, if_neg (fun w => by
    have := (lg_W hp2 ht).mp w
    omega), hr, bis]
end MK1
