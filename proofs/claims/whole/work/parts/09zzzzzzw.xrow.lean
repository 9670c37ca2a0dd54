/-! rows of instructions; what a check of a tree comes to -/
/-- how many tails, how many operators a tree ends with -/
def tlN : Tr → Nat
  | .add (.add (.var k) (.add (.var _) (.var _))) (.add a _) => if k = 3 ∨ k = 4 then tlN a + 1 else 0
  | _ => 0
def opN : Tr → Nat
  | .add (.add (.var k) (.add (.var _) (.var _))) (.add a _) => if k = 5 then opN a + 1 else 0
  | _ => 0
/-- a tree has been checked, from T to T'; y its type -/
def CeQ (X : Lx) (T : gSt) (t : Tr) (y : Nat) (T' : gSt) : Prop := tyY T' y ∧ FX T T' ∧ ∀ R sl S n, XR R sl X S T → Rm X (chk X t 0 0 S).2.2.2 T t n → XQ R sl X S T t 0 0 n y T'
/-- what is asked ahead of the check of a tree -/
def CeP (X : Lx) (T : gSt) (t : Tr) (mo lo hi z m dd d : Nat) (a b : Nat) : Prop := RcG X T t mo lo hi z ∧ 1 ≤ lo ∧ hi ≤ 4008 ∧ Wf X t false a b ∧ b ≤ xn X ∧ XG X t m mo ∧ dd + m = 20 ∧ 8 * m + 110 ≤ d ∧ WX X T
/-- a TERM; stop: a tail that lies behind it -/
def CE0 (nf : Nat) (X : Lx) (t : Tr) : Prop := ∀ (T : gSt) (lo hi z a b m dd d stop : Nat) (Q : Int32 → Int64 → gSt → Prop), CeP X T t 0 lo hi z m dd d a b → (stop = 0 ∨ hi ≤ stop) → stop < 4008 → (∀ y T', CeQ X T t y T' → wp (rl_Exprs_checkTerm_44 (PP nf d) nf (nf - tlN t) T' (nI stop) (nI dd) (nI y) (nI (xP X (bgT t))) (if z = 0 then T.1 18 lo else T.1 13 z) (nI (tlN t))) Q) → wp (bi (PP nf d 156 T [nI lo, nI dd] []) fun r4 _ T4 => bi (PP nf d 33 T4 [nI lo] []) fun r5 _ T5 => gd (inb (nI lo) 4008) <| vK (T5.1 18 (nI lo).toNatClampNeg) fun z7 => rl_Exprs_checkTerm_44 (PP nf d) nf nf T5 (nI stop) (nI dd) r4 r5 z7 (0 : Int32)) Q
/-- an EXPR -/
def CE1 (nf : Nat) (X : Lx) (t : Tr) : Prop := ∀ (T : gSt) (lo hi z a b m dd d : Nat) (Q : Int32 → Int64 → gSt → Prop), CeP X T t 1 lo hi z m dd d a b → 8 * m + 112 ≤ d → (∀ y T', CeQ X T t y T' → wp (rl_Exprs_check_22 (PP nf d) nf (nf - opN t) T' (nI lo) (nI dd) (nI y) (T.1 13 z) (nI (opN t))) Q) → wp (bi (PP nf d 148 T [nI lo, (0 : Int32), nI dd] []) fun r1 _ T1 => gd (inb (nI lo) 4008) <| vK (T1.1 13 (nI lo).toNatClampNeg) fun z3 => rl_Exprs_check_22 (PP nf d) nf nf T1 (nI lo) (nI dd) r1 z3 (0 : Int32)) Q
section CXW
variable {R : RgR} {S S' S1 S2 T T' T1 T2 T5 : gSt} {X : Lx} {nf d i k n m t e w c a b q g f h r s y z : Nat} {x v x' pl : Int32} {sl : Int32 → Int32} {ta tb tr : Tr}
theorem KrO_1 {v : Int32} (h : cw3 T n = (2, v, 0)) : KrO R sl S T (j1 1 v 0 0 0) n := by
  unfold KrO j1
  rw [if_pos rfl]
  exact h
theorem KrO_2 (h : cw3 T n = (2, 0, 0)) : KrO R sl S T (j1 2 0 0 0 0) n := by
  unfold KrO j1
  rw [if_neg (show ¬ (2 : Int32) = 1 by decide), if_pos rfl]
  exact h
theorem KrO_3 (h : cw3 T n = (6, 0, 0)) : KrO R sl S T (j1 3 0 0 0 0) n := by
  unfold KrO j1
  rw [if_neg (show ¬ (3 : Int32) = 1 by decide), if_neg (show ¬ (3 : Int32) = 2 by decide), if_pos rfl]
  exact h
theorem KrO_4 {v : Int32} (h : cw3 T n = (3, 60 + v - 1, 1)) : KrO R sl S T (j1 4 v 0 0 0) n := by
  unfold KrO j1
  rw [if_neg (show ¬ (4 : Int32) = 1 by decide), if_neg (show ¬ (4 : Int32) = 2 by decide), if_neg (show ¬ (4 : Int32) = 3 by decide), if_pos rfl]
  exact h
theorem KrO_6 {fi hx ty cc : Int32} (h0 : itR R S T hx t) (h : wdR R S T ty cc) (hr : cw3 T n = (if S.1 12 t = 1 then (21, fi + 1, cc) else (20, T.1 45 (8 * t + fi.toNatClampNeg), cc))) : KrO R sl S T (j1 6 fi hx ty 0) n := by
  unfold KrO j1
  rw [if_neg (show ¬ (6 : Int32) = 1 by decide), if_neg (show ¬ (6 : Int32) = 2 by decide), if_neg (show ¬ (6 : Int32) = 3 by decide), if_neg (show ¬ (6 : Int32) = 4 by decide), if_neg (show ¬ (6 : Int32) = 5 by decide), if_pos rfl]
  exact ⟨t, cc, h0, h, hr⟩
theorem KrO_7 {fi hx ty rs cc : Int32} (h0 : itR R S T hx t) (h : wdR R S T ty cc) (hr : cw3 T n = (24, T.1 45 (8 * t + fi.toNatClampNeg), cc)) : KrO R sl S T (j1 7 fi hx ty rs) n := by
  unfold KrO j1
  rw [if_neg (show ¬ (7 : Int32) = 1 by decide), if_neg (show ¬ (7 : Int32) = 2 by decide), if_neg (show ¬ (7 : Int32) = 3 by decide), if_neg (show ¬ (7 : Int32) = 4 by decide), if_neg (show ¬ (7 : Int32) = 5 by decide), if_neg (show ¬ (7 : Int32) = 6 by decide), if_pos rfl]
  exact ⟨t, cc, h0, h, hr⟩
theorem KrO_8 {hx ty cc : Int32} (h : wdR R S T ty cc) (hr : cw3 T n = (30, 0, cc)) : KrO R sl S T (j1 8 hx ty 0 0) n := by
  unfold KrO j1
  rw [if_neg (show ¬ (8 : Int32) = 1 by decide), if_neg (show ¬ (8 : Int32) = 2 by decide), if_neg (show ¬ (8 : Int32) = 3 by decide), if_neg (show ¬ (8 : Int32) = 4 by decide), if_neg (show ¬ (8 : Int32) = 5 by decide), if_neg (show ¬ (8 : Int32) = 6 by decide), if_neg (show ¬ (8 : Int32) = 7 by decide), if_pos rfl]
  exact ⟨cc, h, hr⟩
theorem KrO_9 {hx ty rs cc : Int32} (h : wdR R S T ty cc) (hr : cw3 T n = (31, 0, cc)) : KrO R sl S T (j1 9 0 hx ty rs) n := by
  unfold KrO j1
  rw [if_neg (show ¬ (9 : Int32) = 1 by decide), if_neg (show ¬ (9 : Int32) = 2 by decide), if_neg (show ¬ (9 : Int32) = 3 by decide), if_neg (show ¬ (9 : Int32) = 4 by decide), if_neg (show ¬ (9 : Int32) = 5 by decide), if_neg (show ¬ (9 : Int32) = 6 by decide), if_neg (show ¬ (9 : Int32) = 7 by decide), if_neg (show ¬ (9 : Int32) = 8 by decide), if_pos rfl]
  exact ⟨cc, h, hr⟩
theorem KrO_10 {fi hx ty cc : Int32} (h : wdR R S T ty cc) (hr : cw3 T n = (20, 0, cc)) : KrO R sl S T (j1 10 fi hx ty 0) n := by
  unfold KrO j1
  rw [if_neg (show ¬ (10 : Int32) = 1 by decide), if_neg (show ¬ (10 : Int32) = 2 by decide), if_neg (show ¬ (10 : Int32) = 3 by decide), if_neg (show ¬ (10 : Int32) = 4 by decide), if_neg (show ¬ (10 : Int32) = 5 by decide), if_neg (show ¬ (10 : Int32) = 6 by decide), if_neg (show ¬ (10 : Int32) = 7 by decide), if_neg (show ¬ (10 : Int32) = 8 by decide), if_neg (show ¬ (10 : Int32) = 9 by decide), if_pos rfl]
  exact ⟨cc, h, hr⟩
theorem KrO_11 {fi hx ty : Int32} (hr : cw3 T n = (22, fi + 1, 0)) : KrO R sl S T (j1 11 fi hx ty 0) n := by
  unfold KrO j1
  rw [if_neg (show ¬ (11 : Int32) = 1 by decide), if_neg (show ¬ (11 : Int32) = 2 by decide), if_neg (show ¬ (11 : Int32) = 3 by decide), if_neg (show ¬ (11 : Int32) = 4 by decide), if_neg (show ¬ (11 : Int32) = 5 by decide), if_neg (show ¬ (11 : Int32) = 6 by decide), if_neg (show ¬ (11 : Int32) = 7 by decide), if_neg (show ¬ (11 : Int32) = 8 by decide), if_neg (show ¬ (11 : Int32) = 9 by decide), if_neg (show ¬ (11 : Int32) = 10 by decide), if_pos rfl]
  exact hr
theorem KrO_12 {hx ty : Int32} (hr : cw3 T n = (23, 0, 0)) : KrO R sl S T (j1 12 hx ty 0 0) n := by
  unfold KrO j1
  rw [if_neg (show ¬ (12 : Int32) = 1 by decide), if_neg (show ¬ (12 : Int32) = 2 by decide), if_neg (show ¬ (12 : Int32) = 3 by decide), if_neg (show ¬ (12 : Int32) = 4 by decide), if_neg (show ¬ (12 : Int32) = 5 by decide), if_neg (show ¬ (12 : Int32) = 6 by decide), if_neg (show ¬ (12 : Int32) = 7 by decide), if_neg (show ¬ (12 : Int32) = 8 by decide), if_neg (show ¬ (12 : Int32) = 9 by decide), if_neg (show ¬ (12 : Int32) = 10 by decide), if_neg (show ¬ (12 : Int32) = 11 by decide), if_pos rfl]
  exact hr
theorem KrO_13 {hx : Int32} (hr : cw3 T n = (8, 0, 0)) : KrO R sl S T (j1 13 hx 0 0 0) n := by
  unfold KrO j1
  rw [if_neg (show ¬ (13 : Int32) = 1 by decide), if_neg (show ¬ (13 : Int32) = 2 by decide), if_neg (show ¬ (13 : Int32) = 3 by decide), if_neg (show ¬ (13 : Int32) = 4 by decide), if_neg (show ¬ (13 : Int32) = 5 by decide), if_neg (show ¬ (13 : Int32) = 6 by decide), if_neg (show ¬ (13 : Int32) = 7 by decide), if_neg (show ¬ (13 : Int32) = 8 by decide), if_neg (show ¬ (13 : Int32) = 9 by decide), if_neg (show ¬ (13 : Int32) = 10 by decide), if_neg (show ¬ (13 : Int32) = 11 by decide), if_neg (show ¬ (13 : Int32) = 12 by decide), if_pos rfl]
  exact hr
theorem KrO_14 {rr ty rs b cc : Int32} (h0 : rmR R rr b) (h : wdR R S T ty cc) (hr : cw3 T n = (40, b, cc)) : KrO R sl S T (j1 14 rr ty rs 0) n := by
  unfold KrO j1
  rw [if_neg (show ¬ (14 : Int32) = 1 by decide), if_neg (show ¬ (14 : Int32) = 2 by decide), if_neg (show ¬ (14 : Int32) = 3 by decide), if_neg (show ¬ (14 : Int32) = 4 by decide), if_neg (show ¬ (14 : Int32) = 5 by decide), if_neg (show ¬ (14 : Int32) = 6 by decide), if_neg (show ¬ (14 : Int32) = 7 by decide), if_neg (show ¬ (14 : Int32) = 8 by decide), if_neg (show ¬ (14 : Int32) = 9 by decide), if_neg (show ¬ (14 : Int32) = 10 by decide), if_neg (show ¬ (14 : Int32) = 11 by decide), if_neg (show ¬ (14 : Int32) = 12 by decide), if_neg (show ¬ (14 : Int32) = 13 by decide), if_pos (show (14 : Int32) = 14 ∨ (14 : Int32) = 15 by decide)]
  exact ⟨b, cc, h0, h, hr⟩
theorem KrO_15 {rr ty rs b cc : Int32} (h0 : rmR R rr b) (h : wdR R S T ty cc) (hr : cw3 T n = (42, b, cc)) : KrO R sl S T (j1 15 rr ty rs 0) n := by
  unfold KrO j1
  rw [if_neg (show ¬ (15 : Int32) = 1 by decide), if_neg (show ¬ (15 : Int32) = 2 by decide), if_neg (show ¬ (15 : Int32) = 3 by decide), if_neg (show ¬ (15 : Int32) = 4 by decide), if_neg (show ¬ (15 : Int32) = 5 by decide), if_neg (show ¬ (15 : Int32) = 6 by decide), if_neg (show ¬ (15 : Int32) = 7 by decide), if_neg (show ¬ (15 : Int32) = 8 by decide), if_neg (show ¬ (15 : Int32) = 9 by decide), if_neg (show ¬ (15 : Int32) = 10 by decide), if_neg (show ¬ (15 : Int32) = 11 by decide), if_neg (show ¬ (15 : Int32) = 12 by decide), if_neg (show ¬ (15 : Int32) = 13 by decide), if_pos (show (15 : Int32) = 14 ∨ (15 : Int32) = 15 by decide)]
  exact ⟨b, cc, h0, h, hr⟩
theorem KrO_16 {rr rs b : Int32} (h0 : rmR R rr b) (h : itR R S T rs t) (hr : cw3 T n = (40, b, T.1 41 t)) : KrO R sl S T (j1 16 rr rs 0 0) n := by
  unfold KrO j1
  rw [if_neg (show ¬ (16 : Int32) = 1 by decide), if_neg (show ¬ (16 : Int32) = 2 by decide), if_neg (show ¬ (16 : Int32) = 3 by decide), if_neg (show ¬ (16 : Int32) = 4 by decide), if_neg (show ¬ (16 : Int32) = 5 by decide), if_neg (show ¬ (16 : Int32) = 6 by decide), if_neg (show ¬ (16 : Int32) = 7 by decide), if_neg (show ¬ (16 : Int32) = 8 by decide), if_neg (show ¬ (16 : Int32) = 9 by decide), if_neg (show ¬ (16 : Int32) = 10 by decide), if_neg (show ¬ (16 : Int32) = 11 by decide), if_neg (show ¬ (16 : Int32) = 12 by decide), if_neg (show ¬ (16 : Int32) = 13 by decide), if_neg (show ¬ ((16 : Int32) = 14 ∨ (16 : Int32) = 15) by decide), if_pos rfl]
  exact ⟨b, t, h0, h, hr⟩
theorem KrO_17 {rr rs fi b : Int32} {y f : Nat} {x : Int32} (h0 : rmR R rr b) (h : itR R S T rs t) (h1 : T.1 44 (8 * t + fi.toNatClampNeg) = nI y) (h2 : y < 16387) (h3 : TyR R0 S T f x y) (hr : cw3 T n = (41, b ||| ((fi + 1) <<< ((4 : Int32) &&& 31)), nI (wdC T y) ||| (T.1 41 t <<< ((8 : Int32) &&& 31)))) : KrO R sl S T (j1 17 rr rs fi 0) n := by
  unfold KrO j1
  rw [if_neg (show ¬ (17 : Int32) = 1 by decide), if_neg (show ¬ (17 : Int32) = 2 by decide), if_neg (show ¬ (17 : Int32) = 3 by decide), if_neg (show ¬ (17 : Int32) = 4 by decide), if_neg (show ¬ (17 : Int32) = 5 by decide), if_neg (show ¬ (17 : Int32) = 6 by decide), if_neg (show ¬ (17 : Int32) = 7 by decide), if_neg (show ¬ (17 : Int32) = 8 by decide), if_neg (show ¬ (17 : Int32) = 9 by decide), if_neg (show ¬ (17 : Int32) = 10 by decide), if_neg (show ¬ (17 : Int32) = 11 by decide), if_neg (show ¬ (17 : Int32) = 12 by decide), if_neg (show ¬ (17 : Int32) = 13 by decide), if_neg (show ¬ ((17 : Int32) = 14 ∨ (17 : Int32) = 15) by decide), if_neg (show ¬ (17 : Int32) = 16 by decide), if_pos rfl]
  exact ⟨b, t, y, h0, h, h1, h2, ⟨f, x, h3⟩, hr⟩
theorem KrO_18 {fi ty : Int32} {W g e : Nat} (h0 : e ≤ 3) (h1 : W < 1024 ^ e) (h2 : g < 16 ^ e) (h3 : ∀ k, k < e → R (W / 1024 ^ k % 1024) (g / 16 ^ k % 16)) (hr : cw3 T n = (57, fi, nI g)) : KrO R sl S T (j1 18 fi (nI W) ty (nI e)) n := by
  unfold KrO j1
  rw [if_neg (show ¬ (18 : Int32) = 1 by decide), if_neg (show ¬ (18 : Int32) = 2 by decide), if_neg (show ¬ (18 : Int32) = 3 by decide), if_neg (show ¬ (18 : Int32) = 4 by decide), if_neg (show ¬ (18 : Int32) = 5 by decide), if_neg (show ¬ (18 : Int32) = 6 by decide), if_neg (show ¬ (18 : Int32) = 7 by decide), if_neg (show ¬ (18 : Int32) = 8 by decide), if_neg (show ¬ (18 : Int32) = 9 by decide), if_neg (show ¬ (18 : Int32) = 10 by decide), if_neg (show ¬ (18 : Int32) = 11 by decide), if_neg (show ¬ (18 : Int32) = 12 by decide), if_neg (show ¬ (18 : Int32) = 13 by decide), if_neg (show ¬ ((18 : Int32) = 14 ∨ (18 : Int32) = 15) by decide), if_neg (show ¬ (18 : Int32) = 16 by decide), if_neg (show ¬ (18 : Int32) = 17 by decide), if_pos rfl]
  exact ⟨W, g, e, rfl, rfl, h0, h1, h2, h3, hr⟩
theorem KrO_19 {sg lt rt ty : Int32} {f y : Nat} (h : TyR R S T f ty y) (hr : cw3 T n = ((if kdC T y = 5 then 9 else opK sg), 0, 0)) : KrO R sl S T (j1 19 sg lt rt ty) n := by
  unfold KrO j1
  rw [if_neg (show ¬ (19 : Int32) = 1 by decide), if_neg (show ¬ (19 : Int32) = 2 by decide), if_neg (show ¬ (19 : Int32) = 3 by decide), if_neg (show ¬ (19 : Int32) = 4 by decide), if_neg (show ¬ (19 : Int32) = 5 by decide), if_neg (show ¬ (19 : Int32) = 6 by decide), if_neg (show ¬ (19 : Int32) = 7 by decide), if_neg (show ¬ (19 : Int32) = 8 by decide), if_neg (show ¬ (19 : Int32) = 9 by decide), if_neg (show ¬ (19 : Int32) = 10 by decide), if_neg (show ¬ (19 : Int32) = 11 by decide), if_neg (show ¬ (19 : Int32) = 12 by decide), if_neg (show ¬ (19 : Int32) = 13 by decide), if_neg (show ¬ ((19 : Int32) = 14 ∨ (19 : Int32) = 15) by decide), if_neg (show ¬ (19 : Int32) = 16 by decide), if_neg (show ¬ (19 : Int32) = 17 by decide), if_neg (show ¬ (19 : Int32) = 18 by decide)]
  exact ⟨rfl, f, y, h, hr⟩
theorem tlN_n : tlN (tD k i e ta tb) = if k = 3 ∨ k = 4 then tlN ta + 1 else 0 := rfl
theorem opN_n : opN (tD k i e ta tb) = if k = 5 then opN ta + 1 else 0 := rfl
theorem kwT_n : kwT (tD k i e ta tb) = if k = 1 then 1 else if k = 2 ∨ k = 9 then kwT ta else if k = 10 then kwT ta + kwT tb else if k = 4 ∨ k = 5 ∨ k = 8 then kwT ta + kwT tb + 1 else kwT ta + 1 := rfl
theorem lvT_n {X : Lx} : lvT X (tD k i e ta tb) = if k = 1 then 1 else if k = 2 then lvT X ta else if k = 3 then lvT X ta + tw X i else if k = 6 then lvT X ta + 6 else if k = 4 ∨ k = 5 then lvT X ta + lvT X tb else if k = 7 then lvT X ta + 8 else if k = 8 ∨ k = 9 then lvT X ta + lvT X tb + 1 else lvT X ta + lvT X tb + 6 := rfl
/-- tails and operators are tokens -/
theorem tl_le (tr : Tr) : ∀ (a b : Nat), Wf X tr false a b → tlN tr + a < b ∧ opN tr + a < b := by
  induction tr using Tr_ind with
  | hz t hz =>
    intro a b h
    have := (Wf_le t false a b h).1 rfl
    have e1 : tlN t = 0 := by
      unfold tlN
      split
      · exact absurd rfl (hz _ _ _ _ _)
      · rfl
    have e2 : opN t = 0 := by
      unfold opN
      split
      · exact absurd rfl (hz _ _ _ _ _)
      · rfl
    omega
  | h k i e ta tb ihA ihB =>
    intro a b h
    have l := (Wf_le _ false a b h).1 rfl
    rw [tlN_n, opN_n]
    rw [Wf_n] at h
    unfold WfN at h
    rw [if_neg (by decide)] at h
    by_cases c3 : k = 3
    · subst c3
      rw [if_neg (by omega), if_neg (by omega), if_pos rfl] at h
      have := ihA _ _ h.1
      rw [if_pos (Or.inl rfl), if_neg (by omega)]
      omega
    by_cases c4 : k = 4
    · subst c4
      rw [if_neg (by omega), if_neg (by omega), if_neg (by omega), if_pos rfl] at h
      obtain ⟨h1, c, h2, h3⟩ := h
      have := ihA _ _ h1
      have := (Wf_le _ false _ _ h2).1 rfl
      rw [if_pos (Or.inr rfl), if_neg (by omega)]
      omega
    by_cases c5 : k = 5
    · subst c5
      rw [if_neg (by omega), if_neg (by omega), if_neg (by omega), if_neg (by omega), if_pos rfl] at h
      have := ihA _ _ h.1
      have := (Wf_le _ false _ _ h.2).1 rfl
      rw [if_neg (by omega), if_pos rfl]
      omega
    rw [if_neg (by omega), if_neg c5]
    omega
theorem ck_of (hX : XO X) (hw : Wf X tr false a b) (hb : b ≤ xn X) (hk : Ck S) (hc : cn (chk X tr 0 0 S).2.2.2 < 6000) : Ck (chk X tr 0 0 S).2.2.2 := (chk_inv tr false a b 0 0 S ⟨hw, by have := hX.1; omega⟩ hk (fun w => by cases w) hc).1
theorem XR.h0 (h : XR R sl X S T) : S.1 7 0 = 0 := h.1.2.2.2.2.1
theorem XR.h53 (h : XR R sl X S T) : T.1 53 0 = 0 := h.1.2.2.2.2.2.1
end CXW
