/-! the state without its notes on nodes and uses; regions and types by their tokens -/
def anF (k : Nat) : Bool := k == 48 || k == 60 || k == 61 || k == 93 || k == 94
def er (T : gSt) : gSt := (fun k => if anF k = true then (fun _ => 0) else T.1 k, T.2)
section ER
variable {T T' : gSt} {X : Lx} {n p u m q k i j : Nat} {r s x y v w a b : Int32} {z : T5}
theorem er_i (h : anF k = false) : (er T).1 k = T.1 k := by
  show (if anF k = true then (fun _ => 0) else T.1 k) = T.1 k
  rw [h]
  rfl
theorem er_j : (er T).2 = T.2 := rfl
theorem er_w (h : anF k = false) : er (sI T k i v) = sI (er T) k i v := by
  refine Prod.ext ?_ rfl
  funext g j
  show (if anF g = true then (fun _ => 0) else (sI T k i v).1 g) j = (sI (er T) k i v).1 g j
  rw [rdI]
  show _ = if g = k ∧ j = i then v else (if anF g = true then (fun _ => (0 : Int32)) else T.1 g) j
  by_cases hg : anF g = true
  · rw [if_pos hg, if_pos hg, if_neg (fun h2 => by rw [h2.1, h] at hg; exact absurd hg (by decide))]
  · rw [if_neg hg, if_neg hg, rdI]
theorem er_a (h : anF k = true) : er (sI T k i v) = er T := by
  refine Prod.ext ?_ rfl
  funext g j
  show (if anF g = true then (fun _ => 0) else (sI T k i v).1 g) j = (if anF g = true then (fun _ => 0) else T.1 g) j
  by_cases hg : anF g = true
  · rw [if_pos hg, if_pos hg]
  · rw [if_neg hg, if_neg hg, rdI, if_neg (show ¬ (g = k ∧ j = i) from fun h2 => hg (h2.1 ▸ h))]
theorem er_sj {v : Int64} : er (sJ T k i v) = sJ (er T) k i v := rfl
theorem er_fl : er (flT T a b) = flT (er T) a b := by
  unfold flT failS
  show _ = if T.1 7 0 = 0 then _ else _
  by_cases h : T.1 7 0 = 0
  · rw [if_pos h, if_pos h, er_w rfl, er_w rfl]
  · rw [if_neg h, if_neg h]
theorem er_ad : er (adT T n z) = adT (er T) n z := by
  unfold adT
  rw [er_w rfl, er_w rfl, er_w rfl, er_w rfl, er_w rfl, er_w rfl]
theorem er_knF : knF (er T) z = knF T z := rfl
theorem er_cn : cn (er T) = cn T := rfl
theorem er_knR : knR (er T) z = knR T z := rfl
theorem er_knS : er (knS T z) = knS (er T) z := by
  unfold knS
  rw [er_knF, er_cn]
  by_cases h : knF T z = -1
  · rw [if_pos h, if_pos h]
    by_cases h2 : cn T < 6000
    · rw [if_pos h2, if_pos h2, er_ad]
    · rw [if_neg h2, if_neg h2, er_w rfl]
  · rw [if_neg h, if_neg h]
theorem er_chT : ∀ (f : Nat) (T : gSt) (x : Int32), (chT f (er T) x w).1 = (chT f T x w).1 ∧ (chT f (er T) x w).2 = er (chT f T x w).2 := by
  intro f
  induction f with
  | zero => intro T x; exact ⟨rfl, rfl⟩
  | succ f ih =>
    intro T x
    have i1 := (ih T (T.1 68 x.toNatClampNeg)).1
    have i2 := (ih T (T.1 68 x.toNatClampNeg)).2
    have g : ∀ g j, anF g = false → (er T).1 g j = T.1 g j := fun g j h => by rw [er_i h]
    rw [chT, chT]
    simp only [g 69 _ rfl, g 66 _ rfl, g 67 _ rfl, g 68 _ rfl, g 70 _ rfl, g 15 _ rfl]
    by_cases h : 0 < x
    · simp only [if_pos h]
      by_cases h2 : 0 ≤ T.1 69 x.toNatClampNeg
      · simp only [if_pos h2]
        exact ⟨rfl, er_knS.symm⟩
      · simp only [if_neg h2]
        rw [i1, i2]
        exact ⟨rfl, er_knS.symm⟩
    · rw [if_neg h, if_neg h]
      exact ⟨rfl, rfl⟩
theorem er_rgV {w : Int64} : ∀ n, rgV (er T) w n = rgV T w n := by
  intro n
  induction n with
  | zero => rfl
  | succ n ih =>
    rw [rgV, rgV, ih]
    rfl
/-- the region that the token q names -/
def rgQ (X : Lx) (T : gSt) (q : Nat) : Int32 := if xN X q = 72 then 0 else rgV T (xN X q) (rn T)
def srR (X : Lx) (T : gSt) (q : Nat) : Int32 := if 0 ≤ rgQ X T q then rgQ X T q else 0
def srS (X : Lx) (T : gSt) (q : Nat) : gSt := if 0 ≤ rgQ X T q then T else flT T 3 (nI (xP X q))
abbrev usN (X : Lx) (T : gSt) (p q : Nat) : Prop := T.2 46 p = xN X q ∧ T.1 47 p = nI (xP X q)
theorem us_Q (h : usN X T p q) : rgN T (rn T) p = rgQ X (er T) q := by
  unfold rgN rgQ
  rw [er_rgV, h.1]
  rfl
theorem us_R (h : usN X T p q) : rgAtR T (rn T) p = srR X (er T) q := by
  unfold rgAtR srR
  rw [us_Q h]
theorem us_S (h : usN X T p q) : er (rgAtS T (rn T) p) = srS X (er T) q := by
  unfold rgAtS srS
  rw [us_Q h]
  by_cases c : 0 ≤ rgQ X (er T) q
  · rw [if_pos c, if_pos c, er_a rfl]
  · rw [if_neg c, if_neg c, er_a rfl, er_fl, h.2]
/-- a region that must be live -/
def slS (X : Lx) (T : gSt) (q : Nat) : gSt := if (srS X T q).1 7 0 = 0 ∧ isLv (srS X T q) (srR X T q) = 0 then flT (srS X T q) 5 (nI (xP X q)) else srS X T q
theorem us_L (h : usN X T p q) : er (lvS T p) = slS X (er T) q := by
  unfold lvS slS
  rw [← us_S h, ← us_R h, h.2]
  show _ = if (rgAtS T (rn T) p).1 7 0 = 0 ∧ isLv (rgAtS T (rn T) p) (rgAtR T (rn T) p) = 0 then _ else _
  by_cases c : (rgAtS T (rn T) p).1 7 0 = 0 ∧ isLv (rgAtS T (rn T) p) (rgAtR T (rn T) p) = 0
  · rw [if_pos c, if_pos c, er_fl]
  · rw [if_neg c, if_neg c]
/-- regions of tokens in a row, as one number -/
def waX (X : Lx) : Nat → gSt → Nat → Nat → Int32 → Int32 × gSt
  | 0, T, _, _, all => (all, T)
  | m + 1, T, q, k, all => if T.1 7 0 = 0 then waX X m (srS X T (q + k)) q (k + 1) (all ||| (srR X T (q + k) <<< (((10 : Int32) * nI k) &&& 31))) else (all, T)
theorem us_W : ∀ (m k : Nat) (T : gSt) (all : Int32), (∀ j, j < m → usN X T (u + (k + j)) (q + (k + j))) → waX X m (er T) q k all = ((waT m T u k all).1, er (waT m T u k all).2) := by
  intro m
  induction m with
  | zero => intro k T all h; rfl
  | succ m ih =>
    intro k T all h
    rw [waX, waT]
    have h0 := h 0 (by omega)
    rw [Nat.add_zero] at h0
    show (if T.1 7 0 = 0 then _ else _) = _
    by_cases c : T.1 7 0 = 0
    · rw [if_pos c, if_pos c, ← us_S h0, ← us_R h0]
      refine ih (k + 1) _ _ (fun j hj => ?_)
      have := h (j + 1) (by omega)
      unfold usN
      rw [rgAtS_o (k := 47) (by omega) (by omega) (by omega), rgAtS_j]
      rw [show k + 1 + j = k + (j + 1) from by omega]
      exact this
    · rw [if_neg c, if_neg c]
theorem waT_o (h : k ≠ 7) (h2 : k ≠ 8) (h3 : k ≠ 48) : ∀ (m i : Nat) (T : gSt) (all : Int32), (waT m T u i all).2.1 k = T.1 k := by
  intro m
  induction m with
  | zero => intro i T all; rfl
  | succ m ih =>
    intro i T all
    rw [waT]
    split
    · rw [ih, rgAtS_o h h2 h3]
    · rfl
theorem waT_j : ∀ (m i : Nat) (T : gSt) (all : Int32), (waT m T u i all).2.2 = T.2 := by
  intro m
  induction m with
  | zero => intro i T all; rfl
  | succ m ih =>
    intro i T all
    rw [waT]
    split
    · rw [ih, rgAtS_j]
    · rfl
theorem rgAt_48 (h : j ≠ p) : (rgAtS T n p).1 48 j = T.1 48 j := by
  unfold rgAtS
  split
  · rw [rdI, if_neg (fun z => h z.2)]
  · rw [rdI, if_neg (fun z => h z.2), flT_o (by omega) (by omega)]
theorem waT_48 : ∀ (m i : Nat) (T : gSt) (all : Int32), (j < u + i ∨ u + i + m ≤ j) → (waT m T u i all).2.1 48 j = T.1 48 j := by
  intro m
  induction m with
  | zero => intro i T all h; rfl
  | succ m ih =>
    intro i T all h
    rw [waT]
    split
    · rw [ih _ _ _ (by omega), rgAt_48 (by omega)]
    · rfl
theorem er_isLv : isLv (er T) x = isLv T x := rfl
theorem er_isPt : isPt (er T) x = isPt T x := rfl
theorem er_isRo : isRo (er T) x = isRo T x := rfl
theorem er_isTd : isTd (er T) x = isTd T x := rfl
theorem er_sameC : sameC (er T) x y = sameC T x y := rfl
theorem er_inC : ∀ (f : Nat) (c : Int32), inC (er T) r f c = inC T r f c := by
  intro f
  induction f with
  | zero => intro c; rfl
  | succ f ih =>
    intro c
    rw [inC, inC, ih]
    rfl
theorem er_dOv : dOv (er T) r s = dOv T r s := by
  unfold dOv
  rw [er_inC]
  rfl
theorem er_mfI : mfI (er T) x y = mfI T x y := by
  unfold mfI
  rw [er_dOv]
  rfl
theorem er_ftS : er (ftS T x y v) = ftS (er T) x y v := by
  unfold ftS
  rw [er_mfI]
  show _ = if T.1 7 0 = 0 ∧ ¬ mfI T x y ≤ 0 then _ else _
  by_cases c : T.1 7 0 = 0 ∧ ¬ mfI T x y ≤ 0
  · rw [if_pos c, if_pos c]
    unfold failS
    rw [er_w rfl, er_w rfl]
  · rw [if_neg c, if_neg c]
end ER
