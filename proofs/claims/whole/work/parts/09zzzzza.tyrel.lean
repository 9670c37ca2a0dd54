/-! a type of the reference's and one of the class's tell the same; R: which REGIONS go with which -/
abbrev RgR : Type := Nat → Nat → Prop
/-- the REGIONS of a struct or union -/
def PkR (R : RgR) (S : gSt) (t : Nat) (w : Int32) (g : Nat) : Prop := ∃ rr W, S.1 15 t = nI rr ∧ rr ≤ 3 ∧ w = nI W ∧ W < 1024 ^ rr ∧ ∀ k, k < 3 → (if k < rr then R (W / 1024 ^ k % 1024) (g / 16 ^ k % 16) else g / 16 ^ k % 16 = 0)
def ThR (R : RgR) (S T : gSt) (a w : Int32) (b : Nat) : Prop := 3 ≤ b ∧ b < 16387 ∧ lvK T (b - 3) ∧ ∃ t g, a = nI t ∧ t < 24 ∧ kO T b = 6 + 8 * t + 256 * g ∧ g < 4096 ∧ PkR R S t w g
/-- a row as it is kept, and the first of its kind -/
def cnR (S : gSt) (p : Nat) : Prop := (0 ≤ S.1 69 p → S.1 68 p = -1) ∧ (¬ 0 ≤ S.1 69 p → S.1 69 p = -1 ∧ S.1 70 p = 0) ∧ ∀ q, 1 ≤ q → q < p → rwT S q ≠ rwT S p
def gdR (x : Int32) (y : Nat) : Prop := (x = 0 ∧ y = 1) ∨ (x = -1 ∧ y = 0) ∨ (x = -2 ∧ y = 2)
def PtR (R : RgR) (S T : gSt) (B : Int32 → Nat → Prop) (x : Int32) (y : Nat) : Prop := ∃ p kd r n b, x = nI p ∧ 1 ≤ p ∧ p < cn S ∧ p < 6000 ∧ cnR S p ∧ 3 ≤ y ∧ y < 16387 ∧ lvK T (y - 3) ∧ S.1 66 p = nI kd ∧ 1 ≤ kd ∧ kd ≤ 3 ∧ S.1 67 p = nI r ∧ r < 1024 ∧ R r n ∧ n < 16 ∧ kO T y = kd + 2 + 8 * n + 128 * b ∧ (if 0 ≤ S.1 69 p then ThR R S T (S.1 69 p) (S.1 70 p) b else B (S.1 68 p) b)
def TyR (R : RgR) (S T : gSt) : Nat → Int32 → Nat → Prop
  | 0, x, y => gdR x y
  | f + 1, x, y => gdR x y ∨ PtR R S T (TyR R S T f) x y
/-- REGIONS go together one to one -/
def R11 (R : RgR) : Prop := (∀ c n m, R c n → R c m → n = m) ∧ (∀ c e n, R c n → R e n → c = e)
section CTR
variable {R R' : RgR} {S S' T T' : gSt} {f t p q k g b c n m y z : Nat} {x a w v : Int32}
theorem lv_ky (h : lvK T n) : SW T n = SW T n % KM + KM * EW T := by
  have := Nat.mod_add_div (SW T n) KM
  unfold lvK at h
  rw [h] at this
  exact this.symm
/-- a live type is told by its key -/
theorem kO_one (hI : TyI T) (h1 : 3 ≤ y) (h2 : y < 16387) (h3 : lvK T (y - 3)) (h4 : 3 ≤ z) (h5 : z < 16387) (h6 : lvK T (z - 3)) (h : kO T y = kO T z) : y = z := by
  unfold kO at h
  rw [if_neg (by omega), if_neg (by omega)] at h
  have e : SW T (y - 3) = SW T (z - 3) := by rw [lv_ky h3, lv_ky h6, h]
  have := ky_one hI (by omega) (by omega) h3 e
  omega
theorem pw3 {rr W : Nat} (h : rr ≤ 3) (hW : W < 1024 ^ rr) : W < 2 ^ 30 := by
  have := Nat.pow_le_pow_right (show 1024 > 0 by omega) h
  have e : (1024 : Nat) ^ 3 = 2 ^ 30 := rfl
  omega
theorem nI_inj3 {a b : Nat} (ha : a < 2 ^ 30) (hb : b < 2 ^ 30) (h : nI a = nI b) : a = b := by
  have e := congrArg Int32.toInt h
  rw [nI_toInt (by omega), nI_toInt (by omega)] at e
  omega
theorem dig3 (h1 : g < 4096) (h2 : b < 4096) (h : ∀ k, k < 3 → g / 16 ^ k % 16 = b / 16 ^ k % 16) : g = b := by
  have a0 := h 0 (by omega)
  have a1 := h 1 (by omega)
  have a2 := h 2 (by omega)
  simp only [Nat.pow_zero, Nat.div_one, Nat.pow_one] at a0 a1
  have e2 : (16 : Nat) ^ 2 = 256 := rfl
  rw [e2] at a2
  omega
theorem PkR.cl (hR : R11 R) (h : PkR R S t w g) (h' : PkR R S t w b) (h1 : g < 4096) (h2 : b < 4096) : g = b := by
  obtain ⟨rr, W, a1, a2, a3, a4, a5⟩ := h
  obtain ⟨rr', W', b1, b2, b3, b4, b5⟩ := h'
  have er : rr = rr' := nI_inj (by omega) (by omega) (by rw [← a1, ← b1])
  subst er
  have eW : W = W' := nI_inj3 (pw3 a2 a4) (pw3 a2 b4) (by rw [← a3, ← b3])
  subst eW
  refine dig3 h1 h2 (fun k hk => ?_)
  have c1 := a5 k hk
  have c2 := b5 k hk
  by_cases c : k < rr
  · rw [if_pos c] at c1 c2
    exact hR.1 _ _ _ c1 c2
  · rw [if_neg c] at c1 c2
    rw [c1, c2]
/-- and the other way: the packed REGIONS of the reference are told by the class's -/
theorem PkR.sp {v : Int32} (hR : R11 R) (h : PkR R S t w g) (h' : PkR R S t v g) : w = v := by
  obtain ⟨rr, W, a1, a2, a3, a4, a5⟩ := h
  obtain ⟨rr', W', b1, b2, b3, b4, b5⟩ := h'
  have er : rr = rr' := nI_inj (by omega) (by omega) (by rw [← a1, ← b1])
  subst er
  have dg : ∀ k, k < rr → W / 1024 ^ k % 1024 = W' / 1024 ^ k % 1024 := fun k hk => by
    have c1 := a5 k (by omega)
    have c2 := b5 k (by omega)
    rw [if_pos hk] at c1 c2
    exact hR.2 _ _ _ c1 c2
  have : W = W' := by
    rcases (by omega : rr = 0 ∨ rr = 1 ∨ rr = 2 ∨ rr = 3) with e | e | e | e <;> subst e
    · have := Nat.pow_zero 1024; omega
    · have d0 := dg 0 (by omega)
      simp only [Nat.pow_zero, Nat.div_one] at d0
      have e1 : (1024 : Nat) ^ 1 = 1024 := rfl
      rw [e1] at a4 b4
      omega
    · have d0 := dg 0 (by omega)
      have d1 := dg 1 (by omega)
      simp only [Nat.pow_zero, Nat.div_one, Nat.pow_one] at d0 d1
      have e1 : (1024 : Nat) ^ 2 = 1048576 := rfl
      rw [e1] at a4 b4
      omega
    · have d0 := dg 0 (by omega)
      have d1 := dg 1 (by omega)
      have d2 := dg 2 (by omega)
      simp only [Nat.pow_zero, Nat.div_one, Nat.pow_one] at d0 d1
      have e1 : (1024 : Nat) ^ 2 = 1048576 := rfl
      have e2 : (1024 : Nat) ^ 3 = 1073741824 := rfl
      rw [e1] at d2
      rw [e2] at a4 b4
      omega
  rw [a3, b3, this]
theorem ThR.cl (hR : R11 R) (hI : TyI T) (h : ThR R S T a w y) (h' : ThR R S T a w z) : y = z := by
  obtain ⟨h1, h2, h3, t, g, h4, h5, h6, h7, h8⟩ := h
  obtain ⟨i1, i2, i3, t', g', i4, i5, i6, i7, i8⟩ := h'
  have et : t = t' := nI_inj (by omega) (by omega) (by rw [← h4, ← i4])
  subst et
  have eg := h8.cl hR i8 h7 i7
  subst eg
  exact kO_one hI h1 h2 h3 i1 i2 i3 (by rw [h6, i6])
theorem gdR_i (h : gdR x y) (h' : gdR x z) : y = z := by
  rcases h with ⟨h1, h2⟩ | ⟨h1, h2⟩ | ⟨h1, h2⟩ <;> rcases h' with ⟨i1, i2⟩ | ⟨i1, i2⟩ | ⟨i1, i2⟩ <;> first | omega | (rw [h1] at i1; exact absurd i1 (by decide))
theorem gdR_p (h : gdR (nI p) y) (h1 : 1 ≤ p) (h2 : p < 6000) : False := by
  have e := nI_toInt (n := p) (by omega)
  rcases h with ⟨h, _⟩ | ⟨h, _⟩ | ⟨h, _⟩
  · have := nI_inj (b := 0) (by omega) (by omega) h
    omega
  · have := congrArg Int32.toInt h
    rw [e] at this
    have e2 : (-1 : Int32).toInt = -1 := by decide
    omega
  · have := congrArg Int32.toInt h
    rw [e] at this
    have e2 : (-2 : Int32).toInt = -2 := by decide
    omega
/-- one type of the class goes with a type -/
theorem TyR.cl (hR : R11 R) (hI : TyI T) : ∀ (f : Nat) (x : Int32) (y z : Nat), TyR R S T f x y → TyR R S T f x z → y = z := by
  intro f
  induction f with
  | zero => intro x y z h h'; exact gdR_i h h'
  | succ f ih =>
    intro x y z h h'
    rcases h with h | ⟨p, kd, r, n, b, h1, h2, h3, h4, hc, h5, h6, h7, h8, h9, h10, h11, h12, h13, h14, h15, h16⟩
    · rcases h' with h' | ⟨p, kd, r, n, b, i1, i2, i3, i4, _⟩
      · exact gdR_i h h'
      · rw [i1] at h
        exact (gdR_p h i2 i4).elim
    · rcases h' with h' | ⟨p', kd', r', n', b', i1, i2, i3, i4, ic, i5, i6, i7, i8, i9, i10, i11, i12, i13, i14, i15, i16⟩
      · rw [h1] at h'
        exact (gdR_p h' h2 h4).elim
      · have ep : p = p' := nI_inj (by omega) (by omega) (by rw [← h1, ← i1])
        subst ep
        have ek : kd = kd' := nI_inj (by omega) (by omega) (by rw [← h8, ← i8])
        subst ek
        have er : r = r' := nI_inj (by omega) (by omega) (by rw [← h11, ← i11])
        subst er
        have en : n = n' := hR.1 _ _ _ h13 i13
        subst en
        have eb : b = b' := by
          by_cases c : 0 ≤ S.1 69 p
          · rw [if_pos c] at h16 i16
            exact h16.cl hR hI i16
          · rw [if_neg c] at h16 i16
            exact ih _ _ _ h16 i16
        subst eb
        exact kO_one hI h5 h6 h7 i5 i6 i7 (by rw [h15, i15])
/-- what keeps the relation: rows and live slots stay -/
def TyF (S S' T T' : gSt) : Prop := cn S ≤ cn S' ∧ (∀ p g, 1 ≤ p → p < cn S → 66 ≤ g → g ≤ 70 → S'.1 g p = S.1 g p) ∧ S'.1 15 = S.1 15 ∧ EW T' = EW T ∧ ∀ q, q < 16384 → lvK T q → T'.2 62 q = T.2 62 q
theorem TyF.rf : TyF S S T T := ⟨Nat.le_refl _, fun _ _ _ _ _ _ => rfl, rfl, rfl, fun _ _ _ => rfl⟩
theorem TyF.lv (h : TyF S S' T T') (hq : q < 16384) (hl : lvK T q) : lvK T' q ∧ kO T' (q + 3) = kO T (q + 3) := by
  have e : SW T' q = SW T q := by unfold SW; rw [h.2.2.2.2 q hq hl]
  refine ⟨by unfold lvK; rw [e, h.2.2.2.1]; exact hl, ?_⟩
  unfold kO
  rw [if_neg (by omega), if_neg (by omega), show q + 3 - 3 = q by omega, e]
theorem TyF.tr {S2 T2 : gSt} (h : TyF S S' T T') (h2 : TyF S' S2 T' T2) : TyF S S2 T T2 := ⟨Nat.le_trans h.1 h2.1, fun p g a b c d => (h2.2.1 p g a (Nat.lt_of_lt_of_le b h.1) c d).trans (h.2.1 p g a b c d), h2.2.2.1.trans h.2.2.1, h2.2.2.2.1.trans h.2.2.2.1, fun q a b => (h2.2.2.2.2 q a (h.lv a b).1).trans (h.2.2.2.2 q a b)⟩
theorem KpQ.tf (h : KpQ T T' n k) : TyF S S T T' := ⟨Nat.le_refl _, fun _ _ _ _ _ _ => rfl, rfl, h.2.2.1, h.2.2.2.2.2.2.1⟩
theorem PkR.mo (h : PkR R S t w g) (h15 : S'.1 15 = S.1 15) (hR : ∀ c n, R c n → R' c n) : PkR R' S' t w g := by
  obtain ⟨rr, W, a1, a2, a3, a4, a5⟩ := h
  refine ⟨rr, W, by rw [h15]; exact a1, a2, a3, a4, fun k hk => ?_⟩
  have c1 := a5 k hk
  by_cases c : k < rr
  · rw [if_pos c] at c1 ⊢
    exact hR _ _ c1
  · rw [if_neg c] at c1 ⊢
    exact c1
theorem TyF.rw (hF : TyF S S' T T') (h1 : 1 ≤ p) (h2 : p < cn S) : rwT S' p = rwT S p := by
  unfold rwT
  rw [hF.2.1 p 66 h1 h2 (by omega) (by omega), hF.2.1 p 67 h1 h2 (by omega) (by omega), hF.2.1 p 68 h1 h2 (by omega) (by omega), hF.2.1 p 69 h1 h2 (by omega) (by omega), hF.2.1 p 70 h1 h2 (by omega) (by omega)]
theorem cnR.mo (h : cnR S p) (hF : TyF S S' T T') (h1 : 1 ≤ p) (h2 : p < cn S) : cnR S' p := by
  unfold cnR at h ⊢
  rw [hF.2.1 p 68 h1 h2 (by omega) (by omega), hF.2.1 p 69 h1 h2 (by omega) (by omega), hF.2.1 p 70 h1 h2 (by omega) (by omega)]
  refine ⟨h.1, h.2.1, fun q a b => ?_⟩
  rw [hF.rw a (by omega), hF.rw h1 h2]
  exact h.2.2 q a b
theorem ThR.mo (h : ThR R S T a w y) (hF : TyF S S' T T') (hR : ∀ c n, R c n → R' c n) : ThR R' S' T' a w y := by
  obtain ⟨h1, h2, h3, t, g, h4, h5, h6, h7, h8⟩ := h
  have := hF.lv (q := y - 3) (by omega) h3
  rw [show y - 3 + 3 = y by omega] at this
  exact ⟨h1, h2, this.1, t, g, h4, h5, by rw [this.2]; exact h6, h7, h8.mo hF.2.2.1 hR⟩
theorem TyR.mo (hF : TyF S S' T T') (hR : ∀ c n, R c n → R' c n) : ∀ (f : Nat) (x : Int32) (y : Nat), TyR R S T f x y → TyR R' S' T' f x y := by
  intro f
  induction f with
  | zero => intro x y h; exact h
  | succ f ih =>
    intro x y h
    rcases h with h | ⟨p, kd, r, n, b, h1, h2, h3, h4, hc, h5, h6, h7, h8, h9, h10, h11, h12, h13, h14, h15, h16⟩
    · exact Or.inl h
    · have l := hF.lv (q := y - 3) (by omega) h7
      rw [show y - 3 + 3 = y by omega] at l
      have o := fun g a c => hF.2.1 p g h2 h3 a c
      refine Or.inr ⟨p, kd, r, n, b, h1, h2, Nat.lt_of_lt_of_le h3 hF.1, h4, hc.mo hF h2 h3, h5, h6, l.1, by rw [o 66 (by omega) (by omega)]; exact h8, h9, h10, by rw [o 67 (by omega) (by omega)]; exact h11, h12, hR _ _ h13, h14, by rw [l.2]; exact h15, ?_⟩
      rw [o 69 (by omega) (by omega), o 70 (by omega) (by omega), o 68 (by omega) (by omega)]
      by_cases c : 0 ≤ S.1 69 p
      · rw [if_pos c] at h16 ⊢
        exact h16.mo hF hR
      · rw [if_neg c] at h16 ⊢
        exact ih _ _ h16
theorem TyR.up : ∀ (f : Nat) (x : Int32) (y : Nat), TyR R S T f x y → TyR R S T (f + 1) x y := by
  intro f
  induction f with
  | zero => intro x y h; exact Or.inl h
  | succ f ih =>
    intro x y h
    rcases h with h | ⟨p, kd, r, n, b, h1, h2, h3, h4, hc, h5, h6, h7, h8, h9, h10, h11, h12, h13, h14, h15, h16⟩
    · exact Or.inl h
    · refine Or.inr ⟨p, kd, r, n, b, h1, h2, h3, h4, hc, h5, h6, h7, h8, h9, h10, h11, h12, h13, h14, h15, ?_⟩
      by_cases c : 0 ≤ S.1 69 p
      · rw [if_pos c] at h16 ⊢
        exact h16
      · rw [if_neg c] at h16 ⊢
        exact ih _ _ h16
/-- the kind of a key -/
theorem kd8 {kd n b : Nat} (h1 : kd ≤ 3) (h3 : n < 16) (h : kO T y = kd + 2 + 8 * n + 128 * b) : kO T y % 8 = kd + 2 ∧ kO T y / 8 % 16 = n ∧ kO T y / 128 = b := by omega
theorem gdR_l (h : gdR x y) : y < 3 := by
  rcases h with ⟨_, h⟩ | ⟨_, h⟩ | ⟨_, h⟩ <;> omega
theorem gdR_j (h : gdR x y) (h' : gdR v y) : x = v := by
  rcases h with ⟨h1, h2⟩ | ⟨h1, h2⟩ | ⟨h1, h2⟩ <;> rcases h' with ⟨i1, i2⟩ | ⟨i1, i2⟩ | ⟨i1, i2⟩ <;> first | omega | rw [h1, i1]
/-- a type isn't a thing -/
theorem TyR.th : ∀ (f : Nat) (x : Int32) (y : Nat), TyR R S T f x y → ThR R S T a w y → False := by
  intro f x y h ⟨h1, h2, h3, t, g, h4, h5, h6, h7, h8⟩
  have lo : gdR x y → False := fun h => by have := gdR_l h; omega
  cases f with
  | zero => exact lo h
  | succ f =>
    rcases h with h | ⟨p, kd, r, n, b, i1, i2, i3, i4, ic, i5, i6, i7, i8, i9, i10, i11, i12, i13, i14, i15, i16⟩
    · exact lo h
    · have := kd8 i10 i14 i15
      omega
/-- one type of the reference goes with a type of the class -/
theorem TyR.sp (hR : R11 R) : ∀ (f : Nat) (x v : Int32) (y : Nat), TyR R S T f x y → TyR R S T f v y → x = v := by
  intro f
  induction f with
  | zero => intro x v y h h'; exact gdR_j h h'
  | succ f ih =>
    intro x v y h h'
    rcases h with h | ⟨p, kd, r, n, b, h1, h2, h3, h4, hc, h5, h6, h7, h8, h9, h10, h11, h12, h13, h14, h15, h16⟩
    · rcases h' with h' | ⟨p, kd, r, n, b, i1, i2, i3, i4, ic, i5, _⟩
      · exact gdR_j h h'
      · have := gdR_l h; omega
    · rcases h' with h' | ⟨p', kd', r', n', b', i1, i2, i3, i4, ic, i5, i6, i7, i8, i9, i10, i11, i12, i13, i14, i15, i16⟩
      · have := gdR_l h'; omega
      · have e1 := kd8 h10 h14 h15
        have e2 := kd8 i10 i14 i15
        have ek : kd = kd' := by omega
        have en : n = n' := by omega
        have eb : b = b' := by omega
        subst ek en eb
        have er : r = r' := hR.2 _ _ _ h13 i13
        subst er
        have rows : rwT S p = rwT S p' := by
          unfold rwT
          rw [h8, i8, h11, i11]
          by_cases c : 0 ≤ S.1 69 p
          · by_cases c' : 0 ≤ S.1 69 p'
            · rw [if_pos c] at h16
              rw [if_pos c'] at i16
              obtain ⟨a1, a2, a3, t, g, a4, a5, a6, a7, a8⟩ := h16
              obtain ⟨b1, b2, b3, t', g', b4, b5, b6, b7, b8⟩ := i16
              have et : t = t' := by omega
              have eg : g = g' := by omega
              subst et eg
              rw [a4, b4, hc.1 c, ic.1 c', a8.sp hR b8]
            · rw [if_pos c] at h16
              rw [if_neg c'] at i16
              exact (TyR.th f _ _ i16 h16).elim
          · by_cases c' : 0 ≤ S.1 69 p'
            · rw [if_neg c] at h16
              rw [if_pos c'] at i16
              exact (TyR.th f _ _ h16 i16).elim
            · rw [if_neg c] at h16
              rw [if_neg c'] at i16
              rw [ih _ _ _ h16 i16, (hc.2.1 c).1, (hc.2.1 c).2, (ic.2.1 c').1, (ic.2.1 c').2]
        have : p = p' := by
          rcases Nat.lt_trichotomy p p' with w | w | w
          · exact absurd rows (ic.2.2 p h2 w)
          · exact w
          · exact absurd rows.symm (hc.2.2 p' i2 w)
        rw [h1, i1, this]
end CTR
