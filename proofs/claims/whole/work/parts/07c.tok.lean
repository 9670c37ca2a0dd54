/-! the tokens of a text, as the reference meets them: kinds by the class's numbers -/
abbrev Tr : Type := Lean.Grind.CommRing.Expr
abbrev Lx : Type := (Nat → Int32) × Nat × (Nat → Nat) × (Nat → Nat) × (Nat → Nat) × (Nat → Int64) × Nat
def xf (X : Lx) : Nat → Int32 := X.1
def xz (X : Lx) : Nat := X.2.1
def xK (X : Lx) : Nat → Nat := X.2.2.1
def xP (X : Lx) : Nat → Nat := X.2.2.2.1
def xA (X : Lx) : Nat → Nat := X.2.2.2.2.1
def xN (X : Lx) : Nat → Int64 := X.2.2.2.2.2.1
def xn (X : Lx) : Nat := X.2.2.2.2.2.2
def srtK (k : Nat) : Int32 := if k = 0 then 7 else if k = 1 then 0 else if k = 2 then 1 else if k = 3 then 3 else if k = 4 then 4 else if k = 5 then 5 else if k < 40 then 2 else 6
def chL : List Int32 := [123, 125, 40, 41, 91, 93, 59, 44, 58, 46, 61, 60, 62, 43, 45, 42, 47, 37, 38, 64, 63, 94, 256]
def chK (k : Nat) : Int32 := chL.getD (k - 40) (-1)
def wL : List Nat := [10, 11, 12, 26, 13, 14, 15, 27, 34, 35, 28, 30, 29, 31, 32, 33, 18, 16, 17, 19, 21, 22, 23, 24, 20, 25]
def wK (j : Nat) : Nat := wL.getD (j - 6) 0
abbrev hasN (k : Nat) : Prop := k = 2 ∨ k = 3 ∨ k = 4 ∨ (10 ≤ k ∧ k < 36)
def okK (k : Nat) : Prop := k < 6 ∨ (10 ≤ k ∧ k < 36) ∨ (40 ≤ k ∧ k < 63)
abbrev tokOk (X : Lx) (i : Nat) : Prop := okK (xK X i) ∧ xP X i ≤ xA X i ∧ xA X i ≤ xz X ∧ tSort (xf X) (xz X) (xP X i) = srtK (xK X i) ∧ tAft (xf X) (xz X) (xP X i) = xA X i ∧ (∀ o, 40 ≤ xK X i → tNum (xf X) (xz X) (xP X i) o = chK (xK X i)) ∧ (∀ o, xK X i = 5 → tNum (xf X) (xz X) (xP X i) o = (xN X i).toInt32) ∧ (∀ o, hasN (xK X i) → tWord (xf X) (xz X) (xP X i) o = xN X i) ∧ (∀ j, 6 ≤ j → j < 32 → ((srtK (xK X i) = 2 ∧ xN X i = pks j (s_len.getD j 0)) ↔ xK X i = wK j))
abbrev LX (X : Lx) : Prop := xn X ≤ 4000 ∧ xz X ≤ 4000 ∧ (∀ i, xn X ≤ i → xK X i = 0) ∧ (∀ i, i < xn X → xK X i ≠ 0) ∧ (∀ i, i ≤ xn X → tokOk X i) ∧ (∀ i, i < xn X → xP X (i + 1) = xA X i + bs (xf X) (xA X i) (xz X - xA X i)) ∧ xP X 0 = bs (xf X) 0 (xz X)
def AtI (X : Lx) (T : gSt) (i : Nat) : Prop := (40 ≤ xK X i → T.1 5 0 = chK (xK X i)) ∧ (xK X i = 5 → T.1 5 0 = (xN X i).toInt32) ∧ (hasN (xK X i) → T.2 6 0 = xN X i)
abbrev AtM (X : Lx) (T : gSt) (i : Nat) : Prop := i ≤ xn X ∧ T.1 0 = xf X ∧ T.1 1 0 = nI (xz X) ∧ T.1 2 0 = srtK (xK X i) ∧ T.1 3 0 = nI (xP X i) ∧ T.1 4 0 = nI (xA X i) ∧ AtI X T i
theorem chK_inj : ∀ a, a < 63 → 40 ≤ a → ∀ b, b < 63 → 40 ≤ b → chK a = chK b → a = b := by decide
theorem srtK_sg : ∀ k, k < 63 → (srtK k = 6 ↔ 40 ≤ k) := by decide
theorem srtK_nm : ∀ k, k < 63 → (srtK k = 1 ↔ k = 2) := by decide
theorem srtK_ti : ∀ k, k < 63 → (srtK k = 3 ↔ k = 3) := by decide
theorem srtK_rg : ∀ k, k < 63 → (srtK k = 4 ↔ k = 4) := by decide
theorem srtK_nu : ∀ k, k < 63 → (srtK k = 5 ↔ k = 5) := by decide
theorem srtK_en : ∀ k, k < 63 → (srtK k = 7 ↔ k = 0) := by decide
theorem okK_lt {k : Nat} (h : okK k) : k < 63 := by
  unfold okK at h
  omega
theorem advS_i {T : gSt} {g j : Nat} (h : g < 2 ∨ 5 < g) : (advS T).1 g j = T.1 g j := by
  unfold advS
  simp only [rdI, rdJI]
  rw [if_neg (by omega), if_neg (by omega), if_neg (by omega), if_neg (by omega)]
theorem advS_if {T : gSt} {g : Nat} (h : g < 2 ∨ 5 < g) : (advS T).1 g = T.1 g := funext (fun _ => advS_i h)
theorem advS_j {T : gSt} {g j : Nat} (h : g ≠ 6) : (advS T).2 g j = T.2 g j := by
  unfold advS
  simp only [rdIJ, rdJ]
  rw [if_neg (by omega)]
theorem advS_jf {T : gSt} {g : Nat} (h : g ≠ 6) : (advS T).2 g = T.2 g := funext (fun _ => advS_j h)
theorem adv_ok {X : Lx} {T : gSt} {i : Nat} (hX : LX X) (h : AtM X T i) : advOk T := by
  obtain ⟨h0, h1, h2, h3, h4, h5, -⟩ := h
  obtain ⟨x1, x2, x3, x4, x5, x6⟩ := hX
  have t := x5 i h0
  unfold advOk
  rw [h5, h2, nI_toInt (by omega), nI_toInt (by omega)]
  omega
theorem adv_at {X : Lx} {T : gSt} {i : Nat} (hX : LX X) (h : AtM X T i) (hi : i < xn X) : AtM X (advS T) (i + 1) := by
  obtain ⟨h0, h1, h2, h3, h4, h5, h6, h7, h8⟩ := h
  obtain ⟨x1, x2, x3, x4, x5, x6, x7⟩ := hX
  have t := x5 i h0
  obtain ⟨u1, u2, u3, u4, u5, u6, u7, u8, u9⟩ := x5 (i + 1) hi
  have eA : adA T = xA X i := by unfold adA; rw [h5, nI_clamp (by omega)]
  have eZ : adZ T = xz X := by unfold adZ; rw [h2, nI_clamp (by omega)]
  have eQ : adQ T = xP X (i + 1) := by unfold adQ; rw [eA, eZ, h1, x6 i hi]
  refine ⟨hi, ?_, ?_, ?_, ?_, ?_, And.intro ?_ (And.intro ?_ ?_)⟩
  · rw [advS_if (by omega), h1]
  · rw [advS_i (by omega), h2]
  · unfold advS
    simp only [rdI, rdJI]
    rw [eZ, eQ, h1, u4]
    simp
  · unfold advS
    simp only [rdI, rdJI]
    rw [eQ]
    simp
  · unfold advS
    simp only [rdI, rdJI]
    rw [eZ, eQ, h1, u5]
    simp
  · intro hk
    unfold advS
    simp only [rdI, rdJI]
    rw [eZ, eQ, h1, u6 _ hk]
    simp
  · intro hk
    unfold advS
    simp only [rdI, rdJI]
    rw [eZ, eQ, h1, u7 _ hk]
    simp
  · intro hk
    unfold advS
    simp only [rdIJ, rdJ]
    rw [eZ, eQ, h1, u8 _ hk]
    simp
/-! what the small methods answer -/
def failS (T : gSt) (n p : Int32) : gSt := sI (sI T 7 0 n) 8 0 p
section QL
variable {nf d : Nat} {T : gSt} {X : Lx} {i : Nat}
theorem q_bad0 (h : T.1 7 0 = 0) : RR nf (d + 1) 14 T [] [] = some (0, 0, T) := by
  rw [e_Model_bad]
  unfold rb_Model_bad
  rw [if_pos h]
theorem q_bad1 (h : ¬ T.1 7 0 = 0) : RR nf (d + 1) 14 T [] [] = some (1, 0, T) := by
  rw [e_Model_bad]
  unfold rb_Model_bad
  rw [if_neg h]
theorem q_fail0 (h : T.1 7 0 = 0) (n p : Int32) : RR nf (d + 1) 13 T [n, p] [] = some (0, 0, failS T n p) := by
  rw [e_Model_fail]
  unfold rb_Model_fail
  rw [if_pos h]
  rfl
theorem q_fail1 (h : ¬ T.1 7 0 = 0) (n p : Int32) : RR nf (d + 1) 13 T [n, p] [] = some (0, 0, T) := by
  rw [e_Model_fail]
  unfold rb_Model_fail
  rw [if_neg h]
theorem q_wrong0 (h : T.1 7 0 = 0) : RR nf (d + 2) 15 T [] [] = some (0, 0, failS T 1 (T.1 3 0)) := by
  rw [e_Model_wrong]
  unfold rb_Model_wrong
  rw [q_fail0 h]
  rfl
theorem q_wrong1 (h : ¬ T.1 7 0 = 0) : RR nf (d + 2) 15 T [] [] = some (0, 0, T) := by
  rw [e_Model_wrong]
  unfold rb_Model_wrong
  rw [q_fail1 h]
  rfl
theorem q_adv (hX : LX X) (h : AtM X T i) : RR nf (d + 1) 10 T [] [] = some (0, 0, advS T) := by
  rw [e_Model_advance]
  unfold rb_Model_advance gd
  rw [if_pos (adv_ok hX h)]
theorem q_sg1 (h : ¬ T.1 7 0 = 0) (c : Int32) : RR nf (d + 2) 16 T [c] [] = some (0, 0, T) := by
  rw [e_Model_isSign]
  unfold rb_Model_isSign
  split
  · split
    · rw [q_bad1 h]
      rfl
    · rfl
  · rfl
theorem q_sgY (hX : LX X) (h : AtM X T i) (hg : T.1 7 0 = 0) {c : Int32} (k : Nat) (hc : chK k = c) (hk : xK X i = k) (hk0 : 40 ≤ k) : RR nf (d + 2) 16 T [c] [] = some (1, 0, T) := by
  obtain ⟨h0, h1, h2, h3, h4, h5, h6, -⟩ := h
  have t := hX.2.2.2.2.1 i h0
  rw [e_Model_isSign]
  unfold rb_Model_isSign
  rw [if_pos (by rw [h3]; exact (srtK_sg _ (okK_lt t.1)).mpr (by omega)), if_pos (by rw [h6 (by omega), hk, hc]), q_bad0 hg]
  rfl
theorem q_sgN (hX : LX X) (h : AtM X T i) (hg : T.1 7 0 = 0) {c : Int32} (k : Nat) (hc : chK k = c) (hk : xK X i ≠ k) (hk0 : 40 ≤ k) (hk1 : k < 63) : RR nf (d + 2) 16 T [c] [] = some (0, 0, T) := by
  obtain ⟨h0, h1, h2, h3, h4, h5, h6, -⟩ := h
  have t := hX.2.2.2.2.1 i h0
  rw [e_Model_isSign]
  unfold rb_Model_isSign
  by_cases q : 40 ≤ xK X i
  · rw [if_pos (by rw [h3]; exact (srtK_sg _ (okK_lt t.1)).mpr q), if_neg (by rw [h6 q, ← hc]; exact fun e => hk (chK_inj _ (okK_lt t.1) q k hk1 hk0 e))]
  · rw [if_neg (by rw [h3]; exact fun e => q ((srtK_sg _ (okK_lt t.1)).mp e))]
theorem q_tk1 (h : ¬ T.1 7 0 = 0) (c : Int32) : RR nf (d + 3) 18 T [c] [] = some (0, 0, T) := by
  rw [e_Model_takes]
  unfold rb_Model_takes
  rw [q_sg1 h]
  rfl
theorem q_tkY (hX : LX X) (h : AtM X T i) (hg : T.1 7 0 = 0) {c : Int32} (k : Nat) (hc : chK k = c) (hk : xK X i = k) (hk0 : 40 ≤ k) : RR nf (d + 3) 18 T [c] [] = some (1, 0, advS T) := by
  rw [e_Model_takes]
  unfold rb_Model_takes
  rw [q_sgY hX h hg k hc hk hk0]
  rw [bis]
  rw [if_neg (by decide), q_adv hX h]
  rfl
theorem q_tkN (hX : LX X) (h : AtM X T i) (hg : T.1 7 0 = 0) {c : Int32} (k : Nat) (hc : chK k = c) (hk : xK X i ≠ k) (hk0 : 40 ≤ k) (hk1 : k < 63) : RR nf (d + 3) 18 T [c] [] = some (0, 0, T) := by
  rw [e_Model_takes]
  unfold rb_Model_takes
  rw [q_sgN hX h hg k hc hk hk0 hk1]
  rfl
theorem q_nd1 (h : ¬ T.1 7 0 = 0) (c : Int32) : RR nf (d + 4) 20 T [c] [] = some (0, 0, T) := by
  rw [e_Model_need]
  unfold rb_Model_need
  rw [q_tk1 h]
  rw [bis]
  rw [if_pos rfl, q_wrong1 h]
  rfl
theorem q_ndY (hX : LX X) (h : AtM X T i) (hg : T.1 7 0 = 0) {c : Int32} (k : Nat) (hc : chK k = c) (hk : xK X i = k) (hk0 : 40 ≤ k) : RR nf (d + 4) 20 T [c] [] = some (0, 0, advS T) := by
  rw [e_Model_need]
  unfold rb_Model_need
  rw [q_tkY hX h hg k hc hk hk0]
  rfl
theorem q_ndN (hX : LX X) (h : AtM X T i) (hg : T.1 7 0 = 0) {c : Int32} (k : Nat) (hc : chK k = c) (hk : xK X i ≠ k) (hk0 : 40 ≤ k) (hk1 : k < 63) : RR nf (d + 4) 20 T [c] [] = some (0, 0, failS T 1 (T.1 3 0)) := by
  rw [e_Model_need]
  unfold rb_Model_need
  rw [q_tkN hX h hg k hc hk hk0 hk1]
  rw [bis]
  rw [if_pos rfl, q_wrong0 hg]
  rfl
theorem q_nm1 (h : ¬ T.1 7 0 = 0) : RR nf (d + 3) 21 T [] [] = some (0, T.2 6 0, T) := by
  rw [e_Model_needName]
  unfold rb_Model_needName
  by_cases q : T.1 2 0 = 1
  · rw [if_pos q]
    rw [lKs]
    rw [q_bad1 h]
    rfl
  · rw [if_neg q, q_wrong1 h]
    rw [bis, lKs]
    rw [q_bad1 h]
    rfl
theorem q_nmY (hX : LX X) (h : AtM X T i) (hg : T.1 7 0 = 0) (hk : xK X i = 2) : RR nf (d + 3) 21 T [] [] = some (0, T.2 6 0, advS T) := by
  have t := hX.2.2.2.2.1 i h.1
  rw [e_Model_needName]
  unfold rb_Model_needName
  rw [if_pos (by rw [h.2.2.2.1]; exact (srtK_nm _ (okK_lt t.1)).mpr hk)]
  rw [lKs]
  rw [q_bad0 hg]
  rw [bis]
  rw [if_pos rfl, q_adv hX h]
  rfl
theorem failS_bad {n p : Int32} (hn : n ≠ 0) : ¬ (failS T n p).1 7 0 = 0 := by
  unfold failS
  simp only [rdI]
  simp [hn]
theorem q_nmN (hX : LX X) (h : AtM X T i) (hg : T.1 7 0 = 0) (hk : xK X i ≠ 2) : RR nf (d + 3) 21 T [] [] = some (0, T.2 6 0, failS T 1 (T.1 3 0)) := by
  have t := hX.2.2.2.2.1 i h.1
  rw [e_Model_needName]
  unfold rb_Model_needName
  rw [if_neg (by rw [h.2.2.2.1]; exact fun e => hk ((srtK_nm _ (okK_lt t.1)).mp e)), q_wrong0 hg]
  rw [bis, lKs]
  rw [q_bad1 (failS_bad (by decide))]
  rfl
def rgS (T : gSt) (u : Nat) : gSt := sI (sI (sJ T 46 u (T.2 6 0)) 47 u (T.1 3 0)) 45 0 (nI (u + 1))
theorem rgS_i {u g j : Nat} (h : g ≠ 45) (h2 : g ≠ 47) : (rgS T u).1 g j = T.1 g j := by
  unfold rgS
  simp only [rdI, rdJI]
  rw [if_neg (by omega), if_neg (by omega)]
theorem rgS_j {u g j : Nat} (h : g ≠ 46) : (rgS T u).2 g j = T.2 g j := by
  unfold rgS
  simp only [rdIJ, rdJ]
  rw [if_neg (by omega)]
theorem rgS_at {u : Nat} (h : AtM X T i) : AtM X (rgS T u) i := by
  obtain ⟨h0, h1, h2, h3, h4, h5, h6, h7, h8⟩ := h
  have e : ∀ g j, g < 6 → (rgS T u).1 g j = T.1 g j := fun g j hg => rgS_i (by omega) (by omega)
  refine ⟨h0, (funext fun j => e 0 j (by omega)).trans h1, ?_, ?_, ?_, ?_, And.intro ?_ (And.intro ?_ ?_)⟩
  · rw [e _ _ (by omega), h2]
  · rw [e _ _ (by omega), h3]
  · rw [e _ _ (by omega), h4]
  · rw [e _ _ (by omega), h5]
  · rw [e _ _ (by omega)]; exact h6
  · rw [e _ _ (by omega)]; exact h7
  · rw [rgS_j (by omega)]; exact h8
theorem q_rg1 (h : ¬ T.1 7 0 = 0) : RR nf (d + 3) 22 T [] [] = some (0, 0, T) := by
  rw [e_Model_needRegion]
  unfold rb_Model_needRegion rj_Model_needRegion_12
  by_cases q : T.1 2 0 = 4
  · rw [if_pos q, q_bad1 h]
    rfl
  · rw [if_neg q, q_wrong1 h]
    rw [bis]
    rw [q_bad1 h]
    rfl
theorem q_rgN (hX : LX X) (h : AtM X T i) (hg : T.1 7 0 = 0) (hk : xK X i ≠ 4) : RR nf (d + 3) 22 T [] [] = some (0, 0, failS T 1 (T.1 3 0)) := by
  have t := hX.2.2.2.2.1 i h.1
  rw [e_Model_needRegion]
  unfold rb_Model_needRegion rj_Model_needRegion_12
  rw [if_neg (by rw [h.2.2.2.1]; exact fun e => hk ((srtK_rg _ (okK_lt t.1)).mp e)), q_wrong0 hg]
  rw [bis]
  rw [q_bad1 (failS_bad (by decide))]
  rfl
theorem q_rgY (hX : LX X) (h : AtM X T i) (hg : T.1 7 0 = 0) (hk : xK X i = 4) {u : Nat} (hu : T.1 45 0 = nI u) (hu2 : u < 4000) : RR nf (d + 3) 22 T [] [] = some (nI u, 0, advS (rgS T u)) := by
  have t := hX.2.2.2.2.1 i h.1
  have ec := nc (m := u) (by omega)
  rw [e_Model_needRegion]
  unfold rb_Model_needRegion rj_Model_needRegion_12
  rw [if_pos (by rw [h.2.2.2.1]; exact (srtK_rg _ (okK_lt t.1)).mpr hk), q_bad0 hg]
  rw [bis, if_pos rfl]
  show gd (inb (T.1 45 0) 4000) (gd (inb (T.1 45 0) 4000) (bi (RR nf (d + 2) 10 (sI (sI (sJ T 46 (T.1 45 0).toNatClampNeg (T.2 6 0)) 47 (T.1 45 0).toNatClampNeg (T.1 3 0)) 45 0 (T.1 45 0 + 1)) [] []) (fun r8 l8 T8 => some (T8.1 45 0 - 1, 0, T8)))) = _
  rw [hu, ec, nI_1]
  unfold gd
  rw [if_pos (nin hu2 (by omega)), if_pos (nin hu2 (by omega))]
  rw [show sI (sI (sJ T 46 u (T.2 6 0)) 47 u (T.1 3 0)) 45 0 (nI (u + 1)) = rgS T u from rfl, q_adv hX (rgS_at h)]
  show some ((advS (rgS T u)).1 45 0 - 1, (0 : Int64), advS (rgS T u)) = _
  rw [advS_i (by omega)]
  rw [show (rgS T u).1 45 0 = nI (u + 1) by unfold rgS; simp only [rdI]; simp]
  rw [nI_pred]
theorem q_wd1 (h : ¬ T.1 7 0 = 0) (x : Int32) : RR nf (d + 1) 17 T [x] [] = some (0, 0, T) := by
  rw [e_Model_isWord]
  unfold rb_Model_isWord isWd
  rw [if_neg (fun q => h q.2.2)]
theorem q_wdY (hX : LX X) (h : AtM X T i) (hg : T.1 7 0 = 0) (j : Nat) (hj : 6 ≤ j) (hj2 : j < 32) (hk : xK X i = wK j) : RR nf (d + 1) 17 T [nI j] [] = some (1, 0, T) := by
  have t := hX.2.2.2.2.1 i h.1
  have w := (t.2.2.2.2.2.2.2.2 j hj hj2).mpr hk
  have hn : hasN (xK X i) := by
    have : ∀ k, k < 63 → srtK k = 2 → okK k → hasN k := by unfold okK; decide
    exact this _ (okK_lt t.1) w.1 t.1
  rw [e_Model_isWord, nc (by omega)]
  unfold rb_Model_isWord isWd
  rw [if_pos ⟨by rw [h.2.2.2.1]; exact w.1, by rw [h.2.2.2.2.2.2.2.2 hn]; exact w.2, hg⟩]
theorem q_wdN (hX : LX X) (h : AtM X T i) (j : Nat) (hj : 6 ≤ j) (hj2 : j < 32) (hk : xK X i ≠ wK j) : RR nf (d + 1) 17 T [nI j] [] = some (0, 0, T) := by
  have t := hX.2.2.2.2.1 i h.1
  have w := t.2.2.2.2.2.2.2.2 j hj hj2
  rw [e_Model_isWord, nc (by omega)]
  unfold rb_Model_isWord isWd
  rw [if_neg (fun q => hk (w.mp ⟨by rw [← h.2.2.2.1]; exact q.1, by
    have hn : hasN (xK X i) := by
      have : ∀ k, k < 63 → srtK k = 2 → okK k → hasN k := by unfold okK; decide
      exact this _ (okK_lt t.1) (by rw [← h.2.2.2.1]; exact q.1) t.1
    rw [← h.2.2.2.2.2.2.2.2 hn]; exact q.2.1⟩))]
theorem q_tw1 (h : ¬ T.1 7 0 = 0) (j : Nat) : RR nf (d + 2) 19 T [nI j] [] = some (0, 0, T) := by
  rw [e_Model_takesWord]
  unfold rb_Model_takesWord
  rw [q_wd1 h]
  rfl
theorem q_twY (hX : LX X) (h : AtM X T i) (hg : T.1 7 0 = 0) (j : Nat) (hj : 6 ≤ j) (hj2 : j < 32) (hk : xK X i = wK j) : RR nf (d + 2) 19 T [nI j] [] = some (1, 0, advS T) := by
  rw [e_Model_takesWord, nc (by omega)]
  unfold rb_Model_takesWord
  rw [q_wdY hX h hg j hj hj2 hk]
  rw [bis]
  rw [if_neg (by decide), q_adv hX h]
  rfl
theorem q_twN (hX : LX X) (h : AtM X T i) (j : Nat) (hj : 6 ≤ j) (hj2 : j < 32) (hk : xK X i ≠ wK j) : RR nf (d + 2) 19 T [nI j] [] = some (0, 0, T) := by
  rw [e_Model_takesWord, nc (by omega)]
  unfold rb_Model_takesWord
  rw [q_wdN hX h j hj hj2 hk]
  rfl
def ndS (T : gSt) (a : Nat) (k p : Int32) : gSt := sI (sI (sI (sI (sI (sI (sI (sI T 49 0 (nI (a + 1))) 50 a k) 51 a p) 52 a (-1)) 53 a (-1)) 54 a (-1)) 55 a (-1)) 59 a 0
theorem q_node {a : Nat} (ha : T.1 49 0 = nI a) (ha2 : a < 8200) (k p : Int32) : RR nf (d + 1) 30 T [k, p] [] = some (nI a, 0, ndS T a k p) := by
  have ec := nc (m := a) (by omega)
  rw [e_Model_node]
  unfold rb_Model_node vK stK gd
  dsimp only
  rw [ha, ec, nI_1]
  simp only [if_pos (nin (k := 8200) ha2 (by omega))]
  rfl
abbrev isOp (k : Nat) : Prop := k = 53 ∨ k = 54 ∨ k = 55 ∨ k = 56 ∨ k = 57 ∨ k = 62 ∨ k = 51
theorem q_op1 (h : ¬ T.1 7 0 = 0) : RR nf (d + 2) 34 T [] [] = some (-1, 0, T) := by
  rw [e_Model_operator]
  unfold rb_Model_operator
  split
  · rw [q_bad1 h]
    rfl
  · rfl
theorem q_opY (hX : LX X) (h : AtM X T i) (hg : T.1 7 0 = 0) (hk : isOp (xK X i)) : RR nf (d + 2) 34 T [] [] = some (chK (xK X i), 0, T) := by
  obtain ⟨h0, h1, h2, h3, h4, h5, h6, -⟩ := h
  have t := hX.2.2.2.2.1 i h0
  have e5 := h6 (by omega)
  rw [e_Model_operator]
  unfold rb_Model_operator
  rw [if_pos (by rw [h3]; exact (srtK_sg _ (okK_lt t.1)).mpr (by omega)), q_bad0 hg]
  rw [bis]
  rw [if_pos rfl, e5]
  rcases hk with e | e | e | e | e | e | e <;> rw [e] <;> rfl
theorem q_opN (hX : LX X) (h : AtM X T i) (hg : T.1 7 0 = 0) (hk : ¬ isOp (xK X i)) : RR nf (d + 2) 34 T [] [] = some (-1, 0, T) := by
  obtain ⟨h0, h1, h2, h3, h4, h5, h6, -⟩ := h
  have t := hX.2.2.2.2.1 i h0
  rw [e_Model_operator]
  unfold rb_Model_operator
  by_cases q : 40 ≤ xK X i
  · have e5 := h6 q
    rw [if_pos (by rw [h3]; exact (srtK_sg _ (okK_lt t.1)).mpr q), q_bad0 hg]
    rw [bis]
    rw [if_pos rfl, e5]
    have hh : ∀ k, k < 63 → 40 ≤ k → k ∉ [53, 54, 55, 56, 57, 62, 51] → chK k ∉ ([43, 45, 42, 47, 37, 256, 60] : List Int32) := by decide
    have h9 := hh _ (okK_lt t.1) q (by
      intro h9
      simp only [List.mem_cons, List.not_mem_nil, or_false] at h9
      exact hk h9)
    simp only [List.mem_cons, List.not_mem_nil, or_false, not_or] at h9
    obtain ⟨c1, c2, c3, c4, c5, c6, c7⟩ := h9
    rw [if_neg c1, if_neg c2, if_neg c3, if_neg c4, if_neg c5, if_neg c6, if_neg c7]
  · rw [if_neg (by rw [h3]; exact fun e => q ((srtK_sg _ (okK_lt t.1)).mp e))]
end QL
