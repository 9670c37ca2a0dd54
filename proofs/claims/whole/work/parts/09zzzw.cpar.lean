/-! the class's parser: tokens, good and bad states -/
def TkC (X : Lx) (T : gSt) : Prop := T.1 25 0 = nI (xn X) ∧ T.1 21 0 = nI (xP X (xn X)) ∧ ∀ j, j < xn X → T.1 22 j = nI (xK X j) ∧ T.1 23 j = nI (xP X j) ∧ T.2 24 j = xN X j
def XO (X : Lx) : Prop := xn X ≤ 4000 ∧ ∀ j, (xn X ≤ j → xK X j = 0 ∧ xP X j = xP X (xn X)) ∧ xK X j < 63
def GC (X : Lx) (T : gSt) (i p : Nat) : Prop := T.1 58 0 = nI i ∧ i ≤ xn X ∧ T.1 59 0 = 0 ∧ T.1 53 0 = 0 ∧ T.1 19 0 = nI p ∧ TkC X T ∧ (T.1 128 0 = nI (xK X i) ∧ xn X ≤ 4000 ∧ xK X (xn X) = 0)
/-- behind a fault at token e -/
def Bd (X : Lx) (T : gSt) (e : Nat) : Prop := T.1 59 0 = 1 ∧ T.1 53 0 = 1 ∧ T.1 54 0 = nI (xP X e) ∧ (∃ p, T.1 19 0 = nI p ∧ p ≤ 4008) ∧ TkC X T ∧ ∃ i, T.1 58 0 = nI i ∧ i ≤ 4001 ∧ T.1 128 0 = 0
def cBd (X : Lx) (i : Nat) (T : gSt) : gSt := sI (sI (sI (sI T 59 0 1) 128 0 0) 53 0 1) 54 0 (nI (xP X i))
def lkK (T : gSt) (i : Nat) : Int32 := if nI i < T.1 25 0 then T.1 22 i else 0
def cMv (T : gSt) (i : Nat) : gSt := sI (sI T 58 0 (nI i)) 128 0 (lkK T i)
/-- what the parser leaves as it was: of EXPRS, of STEPS (vars and regions are counted) -/
def FC (T T' : gSt) : Prop := (∀ k, k ≠ 58 → k ≠ 59 → k ≠ 53 → k ≠ 54 → ¬ (11 ≤ k ∧ k ≤ 19 ∨ k = 128) → T'.1 k = T.1 k) ∧ T'.2 = T.2
def FD (T T' : gSt) : Prop := (∀ k, k ≠ 58 → k ≠ 59 → k ≠ 53 → k ≠ 54 → k ≠ 60 → k ≠ 61 → ¬ (11 ≤ k ∧ k ≤ 19 ∨ k = 128) → T'.1 k = T.1 k) ∧ T'.2 = T.2
/-- the nodes below p stay -/
def Nf (T T' : gSt) (p : Nat) : Prop := ∀ k j, 11 ≤ k → k ≤ 18 → j < p → T'.1 k j = T.1 k j
def cNd (T : gSt) (p : Nat) (a b : Int32) : gSt := sI (sI (sI (sI (sI (sI (sI (sI (sI T 11 p a) 12 p b) 13 p 0) 14 p 0) 15 p 0) 16 p 0) 17 p 0) 18 p 0) 19 0 (nI (p + 1))
section CPA
variable {nf d : Nat} {T T' T1 : gSt} {X : Lx} {i j k p q m n e : Nat} {x y a b : Int32}
theorem TkC.fd (h : TkC X T) (hF : FD T T') : TkC X T' := by
  unfold TkC at h ⊢
  rw [hF.1 25 (by omega) (by omega) (by omega) (by omega) (by omega) (by omega) (by omega), hF.1 21 (by omega) (by omega) (by omega) (by omega) (by omega) (by omega) (by omega), hF.1 22 (by omega) (by omega) (by omega) (by omega) (by omega) (by omega) (by omega), hF.1 23 (by omega) (by omega) (by omega) (by omega) (by omega) (by omega) (by omega), hF.2]
  exact h
theorem FC.fd (h : FC T T') : FD T T' := ⟨fun k a b c d _ _ g => h.1 k a b c d g, h.2⟩
theorem TkC.fc (h : TkC X T) (hF : FC T T') : TkC X T' := h.fd hF.fd
theorem FC.rf : FC T T := ⟨fun _ _ _ _ _ _ => rfl, rfl⟩
theorem FC.tr (h : FC T T1) (h2 : FC T1 T') : FC T T' := ⟨fun k a b c d g => (h2.1 k a b c d g).trans (h.1 k a b c d g), h2.2.trans h.2⟩
theorem FC.wr (h : k = 58 ∨ k = 59 ∨ k = 53 ∨ k = 54 ∨ (11 ≤ k ∧ k ≤ 19) ∨ k = 128) : FC T (sI T k i x) := ⟨fun g a b c d l => sI_ne (by omega), rfl⟩
theorem FD.tr (h : FD T T1) (h2 : FD T1 T') : FD T T' := ⟨fun k a b c d e f g => (h2.1 k a b c d e f g).trans (h.1 k a b c d e f g), h2.2.trans h.2⟩
theorem FD.wr (h : k = 58 ∨ k = 59 ∨ k = 53 ∨ k = 54 ∨ k = 60 ∨ k = 61 ∨ (11 ≤ k ∧ k ≤ 19) ∨ k = 128) : FD T (sI T k i x) := ⟨fun g a b c d e f l => sI_ne (by omega), rfl⟩
theorem FC.bd : FC T (cBd X i T) := (((FC.wr (by omega)).tr (FC.wr (by omega))).tr (FC.wr (by omega))).tr (FC.wr (by omega))
theorem FC.mv : FC T (cMv T i) := (FC.wr (by omega)).tr (FC.wr (by omega))
theorem cMv_o {g : Nat} (h : g ≠ 58 ∧ g ≠ 128) : (cMv T i).1 g = T.1 g := by unfold cMv; rw [sI_ne h.2, sI_ne h.1]
theorem cMv_8 : (cMv T i).1 58 0 = nI i := by unfold cMv; rw [sI_ne (by omega), sI_v]
theorem cMv_k : (cMv T i).1 128 0 = lkK T i := by unfold cMv; rw [sI_v]
theorem FC.nd : FC T (cNd T p a b) := ((((((((FC.wr (by omega)).tr (FC.wr (by omega))).tr (FC.wr (by omega))).tr (FC.wr (by omega))).tr (FC.wr (by omega))).tr (FC.wr (by omega))).tr (FC.wr (by omega))).tr (FC.wr (by omega))).tr (FC.wr (by omega))
theorem Nf.rf : Nf T T p := fun _ _ _ _ _ => rfl
theorem Nf.tr (h : Nf T T1 p) (h2 : Nf T1 T' p) : Nf T T' p := fun k j a b c => (h2 k j a b c).trans (h k j a b c)
theorem Nf.le (h : Nf T T' p) (hq : q ≤ p) : Nf T T' q := fun k j a b c => h k j a b (by omega)
theorem Nf.mv : Nf T (cMv T i) p := fun k j a b c => by rw [cMv_o (by omega)]
theorem Nf.wr (h : p ≤ i) : Nf T (sI T k i x) p := fun g j a b c => by rw [rdI, if_neg (fun w => by omega)]
theorem cNd_o (h : ¬ (11 ≤ k ∧ k ≤ 19)) : (cNd T p a b).1 k = T.1 k := by
  unfold cNd
  rw [sI_ne (by omega), sI_ne (by omega), sI_ne (by omega), sI_ne (by omega), sI_ne (by omega), sI_ne (by omega), sI_ne (by omega), sI_ne (by omega), sI_ne (by omega)]
theorem cNd_19 : (cNd T p a b).1 19 0 = nI (p + 1) := by unfold cNd; exact sI_v
theorem cNd_v (h1 : 11 ≤ k) (h2 : k ≤ 18) : (cNd T p a b).1 k j = if j = p then (if k = 11 then a else if k = 12 then b else 0) else T.1 k j := by
  unfold cNd
  rw [sI_ne (by omega)]
  simp only [rdI]
  by_cases c : j = p
  · simp only [c, and_true, if_true]
    repeat' split
    all_goals first | rfl | omega
  · simp only [c, and_false, if_false]
theorem Nf.nd : Nf T (cNd T p a b) p := fun k j h1 h2 h3 => by rw [cNd_v h1 h2, if_neg (by omega)]
theorem ci_lt (h1 : i < 100000) (h2 : j < 100000) : (nI i < nI j) = (i < j) := propext (nI_ltI (by omega) (by omega))
theorem ci_eq (h1 : i < 100000) (h2 : j < 100000) : (nI i = nI j) = (i = j) := propext ⟨fun h => nI_inj h1 h2 h, fun h => by rw [h]⟩
theorem lkK_k (h : TkC X T) (h1 : xn X ≤ 4000) (h2 : xK X (xn X) = 0) (hj : j ≤ xn X) : lkK T j = nI (xK X j) := by
  unfold lkK
  rw [h.1]
  by_cases c : j < xn X
  · rw [if_pos (by rw [ci_lt (by omega) (by omega)]; exact c), (h.2.2 j c).1]
  · rw [if_neg (by rw [ci_lt (by omega) (by omega)]; exact c), show j = xn X by omega, h2]
    rfl
theorem GC.mv (h : GC X T i p) (hj : j ≤ xn X) : GC X (cMv T j) j p := ⟨cMv_8, hj, by rw [cMv_o (by omega)]; exact h.2.2.1, by rw [cMv_o (by omega)]; exact h.2.2.2.1, by rw [cMv_o (by omega)]; exact h.2.2.2.2.1, h.2.2.2.2.2.1.fc FC.mv, by rw [cMv_k]; exact lkK_k h.2.2.2.2.2.1 h.2.2.2.2.2.2.2.1 h.2.2.2.2.2.2.2.2 hj, h.2.2.2.2.2.2.2⟩
theorem GC.nd (h : GC X T i p) : GC X (cNd T p a b) i (p + 1) := ⟨by rw [cNd_o (by omega)]; exact h.1, h.2.1, by rw [cNd_o (by omega)]; exact h.2.2.1, by rw [cNd_o (by omega)]; exact h.2.2.2.1, cNd_19, h.2.2.2.2.2.1.fc FC.nd, by rw [cNd_o (by omega)]; exact h.2.2.2.2.2.2.1, h.2.2.2.2.2.2.2⟩
theorem GC.wr (h : GC X T i p) (hk : 11 ≤ k ∧ k ≤ 18 ∨ k = 60 ∨ k = 61) : GC X (sI T k j x) i p := ⟨by rw [sI_ne (by omega)]; exact h.1, h.2.1, by rw [sI_ne (by omega)]; exact h.2.2.1, by rw [sI_ne (by omega)]; exact h.2.2.2.1, by rw [sI_ne (by omega)]; exact h.2.2.2.2.1, h.2.2.2.2.2.1.fd (FD.wr (by omega)), by rw [sI_ne (by omega)]; exact h.2.2.2.2.2.2.1, h.2.2.2.2.2.2.2⟩
theorem GC.bd (h : GC X T i p) (hX : XO X) (hp : p ≤ 4008) : Bd X (cBd X i T) i := by
  refine ⟨?_, ?_, sI_v, ⟨p, ?_, hp⟩, h.2.2.2.2.2.1.fc FC.bd, i, ?_, ?_, ?_⟩
  · unfold cBd; rw [sI_ne (by omega), sI_ne (by omega), sI_ne (by omega), sI_v]
  · unfold cBd; rw [sI_ne (by omega), sI_v]
  · unfold cBd; rw [sI_ne (by omega), sI_ne (by omega), sI_ne (by omega), sI_ne (by omega)]; exact h.2.2.2.2.1
  · unfold cBd; rw [sI_ne (by omega), sI_ne (by omega), sI_ne (by omega), sI_ne (by omega)]; exact h.1
  · have := h.2.1; have := hX.1; omega
  · unfold cBd; rw [sI_ne (by omega), sI_ne (by omega), sI_v]
theorem Bd.wr (h : Bd X T e) (hk : 11 ≤ k ∧ k ≤ 18 ∨ k = 60 ∨ k = 61) : Bd X (sI T k j x) e := by
  obtain ⟨h1, h2, h3, ⟨p, h4, h5⟩, h6, i, h7, h8, h9⟩ := h
  exact ⟨by rw [sI_ne (by omega)]; exact h1, by rw [sI_ne (by omega)]; exact h2, by rw [sI_ne (by omega)]; exact h3, ⟨p, by rw [sI_ne (by omega)]; exact h4, h5⟩, h6.fd (FD.wr (by omega)), i, by rw [sI_ne (by omega)]; exact h7, h8, by rw [sI_ne (by omega)]; exact h9⟩
theorem Bd.lk (h : Bd X T e) : T.1 128 0 = 0 := by
  obtain ⟨h1, h2, h3, h4, h5, i, h6, h7, h8⟩ := h
  exact h8
theorem GC.lk (h : GC X T i p) : T.1 128 0 = nI (xK X i) := h.2.2.2.2.2.2.1
/-- the kind, place, name of a token -/
theorem c_kind (hX : XO X) (hT : TkC X T) (hi : i < 100000) : PP nf (d + 1) 25 T [nI i] [] = some (nI (xK X i), 0, T) := by
  have h4 := hX.1
  rw [e_Source_kindAt]
  unfold rb_Source_kindAt
  rw [if_neg (nzI hi), hT.1]
  by_cases c : i < xn X
  · rw [if_pos (by rw [ci_lt hi (by omega)]; exact c), gd, if_pos (nin (by omega) (by omega)), nc hi, (hT.2.2 i c).1]
  · rw [if_neg (by rw [ci_lt hi (by omega)]; exact c), ((hX.2 i).1 (by omega)).1]
    rfl
theorem c_start (hX : XO X) (hT : TkC X T) (hi : i < 100000) : PP nf (d + 1) 26 T [nI i] [] = some (nI (xP X i), 0, T) := by
  have h4 := hX.1
  rw [e_Source_startOf]
  unfold rb_Source_startOf
  rw [if_neg (nzI hi), hT.1]
  by_cases c : i < xn X
  · rw [if_pos (by rw [ci_lt hi (by omega)]; exact c), gd, if_pos (nin (by omega) (by omega)), nc hi, (hT.2.2 i c).2.1]
  · rw [if_neg (by rw [ci_lt hi (by omega)]; exact c), ((hX.2 i).1 (by omega)).2, hT.2.1]
theorem c_name (hX : XO X) (hT : TkC X T) (hi : i < xn X) : PP nf (d + 1) 27 T [nI i] [] = some (0, xN X i, T) := by
  have h4 := hX.1
  rw [e_Source_nameAt]
  unfold rb_Source_nameAt
  rw [if_neg (nzI (by omega)), hT.1, if_pos (by rw [ci_lt (by omega) (by omega)]; exact hi), gd, if_pos (nin (by omega) (by omega)), nc (by omega), (hT.2.2 i hi).2.2]
/-- the kind of the token at hand, as the parser looks at it -/
theorem GC.is (h : GC X T i p) (hX : XO X) (hk : k < 100000) : (T.1 128 0 = nI k) = (xK X i = k) := by
  have := (hX.2 i).2
  rw [h.lk, ci_eq (by omega) hk]
theorem c_adv (hX : XO X) (h : GC X T i p) (hi : i < xn X) : PP nf (d + 2) 58 T [] [] = some (0, 0, cMv T (i + 1)) := by
  have h4 := hX.1
  rw [e_Parser_advance nf (d + 1)]
  unfold rb_Parser_advance
  have e2 : (sI T 58 0 (nI (i + 1))).1 59 0 = 0 := by rw [sI_ne (by omega)]; exact h.2.2.1
  rw [stK, h.1, nI_1, if_pos e2, sI_v, c_kind hX (h.2.2.2.2.2.1.fc (FC.wr (by omega))) (by omega), bis, stK]
  unfold cMv
  rw [lkK_k h.2.2.2.2.2.1 h.2.2.2.2.2.2.2.1 h.2.2.2.2.2.2.2.2 (by omega)]
theorem c_acc (hX : XO X) (h : GC X T i p) (hk : k < 100000) (hk0 : 0 < k := by omega) : PP nf (d + 3) 59 T [nI k] [] = if xK X i = k then some (1, 0, cMv T (i + 1)) else some (0, 0, T) := by
  rw [e_Parser_accept nf (d + 2)]
  unfold rb_Parser_accept
  by_cases c : xK X i = k
  · have hi : i < xn X := Decidable.byContradiction fun w => by
      have := ((hX.2 i).1 (by omega)).1
      omega
    rw [if_pos (by rw [h.is hX hk]; exact c), if_pos c, c_adv hX h hi, bis]
  · rw [if_neg (by rw [h.is hX hk]; exact c), if_neg c]
theorem c_stop (hX : XO X) (h : GC X T i p) : PP nf (d + 2) 61 T [] [] = some (0, 0, cBd X i T) := by
  have h4 := hX.1
  have := h.2.1
  rw [e_Parser_stop nf (d + 1)]
  unfold rb_Parser_stop
  have e1 : (sI (sI T 59 0 1) 128 0 0).1 58 0 = nI i := by rw [sI_ne (by omega), sI_ne (by omega)]; exact h.1
  have e2 : (sI (sI T 59 0 1) 128 0 0).1 53 0 = 0 := by rw [sI_ne (by omega), sI_ne (by omega)]; exact h.2.2.2.1
  rw [stK, stK, e1, c_start hX (h.2.2.2.2.2.1.fc ((FC.wr (by omega)).tr (FC.wr (by omega)))) (by omega), bis, e_Code_note]
  unfold rb_Code_note
  rw [if_pos e2]
  rfl
theorem c_need (hX : XO X) (h : GC X T i p) (hk : k < 100000) (hk0 : 0 < k := by omega) : PP nf (d + 4) 60 T [nI k] [] = some (0, 0, if xK X i = k then cMv T (i + 1) else cBd X i T) := by
  rw [e_Parser_need nf (d + 3)]
  unfold rb_Parser_need
  by_cases c : xK X i = k
  · have hi : i < xn X := Decidable.byContradiction fun w => by
      have := ((hX.2 i).1 (by omega)).1
      omega
    rw [if_pos (by rw [h.is hX hk]; exact c), if_pos c, c_adv hX h hi, bis]
  · rw [if_neg (by rw [h.is hX hk]; exact c), if_neg c, c_stop hX h, bis]
theorem K_lt (hX : XO X) (h : xK X i = k) (hk : 0 < k) : i < xn X := Decidable.byContradiction fun w => by
  have := ((hX.2 i).1 (by omega)).1
  omega
/-! behind a fault nothing is seen -/
theorem b_acc (h : Bd X T e) (hx : x ≠ 0 := by first | decide | assumption) : PP nf (d + 2) 59 T [x] [] = some (0, 0, T) := by
  rw [e_Parser_accept nf (d + 1)]
  unfold rb_Parser_accept
  rw [if_neg (by rw [h.lk]; exact fun w => hx w.symm)]
theorem sI_same {g : Nat} (h : T.1 g i = x) : sI T g i x = T := by
  refine Prod.ext (funext fun k => funext fun q => ?_) rfl
  rw [rdI]
  split
  · rename_i w; rw [w.1, w.2, h]
  · rfl
theorem b_stop (hX : XO X) (h : Bd X T e) : PP nf (d + 2) 61 T [] [] = some (0, 0, T) := by
  obtain ⟨h1, h2, h3, h4, h5, i, h6, h7, h8⟩ := h
  rw [e_Parser_stop nf (d + 1)]
  unfold rb_Parser_stop
  rw [stK, sI_same h1, stK, sI_same h8, h6, c_start hX h5 (by omega), bis, e_Code_note]
  unfold rb_Code_note
  rw [if_neg (by rw [h2]; decide), bis]
theorem b_need (hX : XO X) (h : Bd X T e) (hx : x ≠ 0 := by first | decide | assumption) : PP nf (d + 3) 60 T [x] [] = some (0, 0, T) := by
  rw [e_Parser_need nf (d + 2)]
  unfold rb_Parser_need
  rw [if_neg (by rw [h.lk]; exact fun w => hx w.symm), b_stop hX h, bis]
theorem c_node (h : GC X T i p) (hp : p < 4008) : PP nf (d + 1) 28 T [a, b] [] = some (nI p, 0, cNd T p a b) := by
  have zp : inb (nI p) 4008 := nin hp (by omega)
  have cp : (nI p).toNatClampNeg = p := nc (by omega)
  have h19 := h.2.2.2.2.1
  rw [e_Source_addNode]
  unfold rb_Source_addNode cNd
  simp only [stK]
  have o : ∀ (S : gSt) (k q : Nat) (v : Int32), k ≠ 19 → (sI S k q v).1 19 = S.1 19 := fun S k q v h => sI_ne (fun e => h e.symm)
  simp only [o _ _ _ _ (show 11 ≠ 19 by omega), o _ _ _ _ (show 12 ≠ 19 by omega), o _ _ _ _ (show 13 ≠ 19 by omega), o _ _ _ _ (show 14 ≠ 19 by omega), o _ _ _ _ (show 15 ≠ 19 by omega), o _ _ _ _ (show 16 ≠ 19 by omega), o _ _ _ _ (show 17 ≠ 19 by omega), o _ _ _ _ (show 18 ≠ 19 by omega), h19, gd, if_pos zp, cp, nI_1]
  rw [if_pos (by rw [show (4008 : Int32) = nI 4008 from rfl, ci_lt (by omega) (by omega)]; exact hp), sI_v]
  have e : nI (p + 1) - 1 = nI p := nI_sub
  rw [e]
end CPA
