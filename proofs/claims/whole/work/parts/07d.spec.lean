/-! the grammar as a function of the kinds of tokens: trees (a node: kind, token, number, two parts), or the token that can't stand -/
def tD (k i e : Nat) (a b : Tr) : Tr := .add (.add (.var k) (.add (.var i) (.var e))) (.add a b)
def tZ : Tr := .num 0
abbrev ER : Type := Except Nat (Tr × Nat)
def eb (x : ER) (k : Tr → Nat → ER) : ER := match x with
  | .error e => .error e
  | .ok (t, i) => k t i
def ek (K : Nat → Nat) (k i : Nat) (x : ER) : ER := if K i = k then x else .error i
def rgs (K : Nat → Nat) : Nat → Nat → Nat
  | 0, _ => 0
  | m + 1, i => if K i = 4 then rgs K m (i + 1) + 1 else 0
def pArgs (K : Nat → Nat) (G : Nat → ER) (c : Nat) : Nat → Nat → Nat → ER
  | 0, _, i => .error i
  | f + 1, q, i => if K i = c then .ok (tZ, i + 1) else if q ≠ 0 ∧ K i ≠ 47 then .error i else if q = 8 then .error (i + 1) else
      eb (G (if q = 0 then i else i + 1)) fun a j => eb (pArgs K G c f (q + 1) j) fun r j2 => .ok (tD 10 0 0 a r, j2)
def pPrim (K : Nat → Nat) (G : Nat → Nat → ER) (i : Nat) : ER :=
  if K i = 42 then eb (G 0 (i + 1)) fun a j => ek K 43 j (.ok (tD 2 i 0 a tZ, j + 1))
  else if K i = 5 ∨ K i = 27 ∨ K i = 34 ∨ K i = 35 then .ok (tD 1 i 0 tZ tZ, i + 1)
  else if K i = 2 then (if K (i + 1) = 4 ∨ K (i + 1) = 42 then ek K 42 (i + 1 + rgs K 3 (i + 1)) (eb (pArgs K (G 0) 43 4001 0 (i + 1 + rgs K 3 (i + 1) + 1)) fun a j => .ok (tD 6 i (rgs K 3 (i + 1)) a tZ, j)) else .ok (tD 1 i 0 tZ tZ, i + 1))
  else if K i = 28 then ek K 4 (i + 1) (ek K 3 (i + 2) (if K (i + 3 + rgs K 3 (i + 3)) = 49 then ek K 2 (i + 3 + rgs K 3 (i + 3) + 1) (ek K 42 (i + 3 + rgs K 3 (i + 3) + 2) (eb (G 0 (i + 3 + rgs K 3 (i + 3) + 3)) fun a j => ek K 43 j (.ok (tD 7 i (rgs K 3 (i + 3)) a tZ, j + 1)))) else ek K 40 (i + 3 + rgs K 3 (i + 3)) (eb (pArgs K (G 0) 41 4001 0 (i + 3 + rgs K 3 (i + 3) + 1)) fun a j => .ok (tD 7 i (rgs K 3 (i + 3)) a tZ, j))))
  else if K i = 29 then ek K 4 (i + 1) (ek K 42 (i + 2) (eb (G 0 (i + 3)) fun a j => ek K 43 j (.ok (tD 8 i 0 a tZ, j + 1))))
  else if K i = 30 then ek K 4 (i + 1) (ek K 42 (i + 2) (eb (G 0 (i + 3)) fun a j => ek K 47 j (eb (G 0 (j + 1)) fun b j2 => ek K 43 j2 (.ok (tD 8 i 0 a b, j2 + 1)))))
  else if K i = 58 then eb (G 1 (i + 1)) fun a j => .ok (tD 9 i 0 a tZ, j)
  else if K i = 31 ∨ K i = 32 then ek K 42 (i + 1) (eb (G 0 (i + 2)) fun a j => ek K 43 j (.ok (tD 8 i 0 a tZ, j + 1)))
  else .error i
def pTails (K : Nat → Nat) (G : Nat → Nat → ER) : Nat → Tr → Nat → ER
  | 0, _, i => .error i
  | f + 1, t, i => if K i = 49 ∨ K i = 33 then ek K 2 (i + 1) (pTails K G f (tD 3 i 0 t tZ) (i + 2))
    else if K i = 61 then pTails K G f (tD 3 i 0 t tZ) (i + 1)
    else if K i = 44 then eb (G 0 (i + 1)) fun a j => ek K 45 j (pTails K G f (tD 4 i 0 t a) (j + 1))
    else .ok (t, i)
def pTerm (K : Nat → Nat) (G : Nat → Nat → ER) (i : Nat) : ER := eb (pPrim K G i) fun t j => pTails K G 4001 t j
def pOps (K : Nat → Nat) (G : Nat → Nat → ER) : Nat → Tr → Nat → ER
  | 0, _, i => .error i
  | f + 1, t, i => if isOp (K i) then eb (pTerm K G (i + 1)) fun r j => pOps K G f (tD 5 i (K i) t r) j else .ok (t, i)
def pExpr (K : Nat → Nat) (G : Nat → Nat → ER) (i : Nat) : ER := eb (pTerm K G i) fun t j => pOps K G 4001 t j
def pEx (K : Nat → Nat) : Nat → Nat → Nat → ER
  | 0, _, i => .error i
  | m + 1, t, i => if t = 0 then pExpr K (pEx K m) i else pTerm K (pEx K m) i
/-! where a tree begins, how many a list has -/
def bgT : Tr → Nat
  | .add (.add (.var k) (.add (.var i) (.var _))) (.add a _) => if k = 2 ∨ k = 3 ∨ k = 4 ∨ k = 5 then bgT a else i
  | _ => 0
def lenT : Tr → Nat
  | .add (.add (.var _) (.add (.var _) (.var _))) (.add _ b) => lenT b + 1
  | _ => 0
/-! how the reference holds a tree: its nodes lie from lo to hi, x is what names it -/
def nN (T : gSt) : Nat := (T.1 49 0).toNatClampNeg
def nU (T : gSt) : Nat := (T.1 45 0).toNatClampNeg
def nW (T : gSt) : Nat := (T.1 37 0).toNatClampNeg
abbrev RepU (X : Lx) (T : gSt) (u i e : Nat) : Prop := u + e ≤ nU T ∧ ∀ k, k < e → T.2 46 (u + k) = xN X (i + k) ∧ T.1 47 (u + k) = nI (xP X (i + k))
abbrev nmd (X : Lx) (T : gSt) (m i : Nat) : Prop := T.2 56 m = xN X i ∧ T.1 57 m = nI (xP X i)
/-- a node by its own kind; Ra, Rb: how its parts are held -/
def RpN (X : Lx) (T : gSt) (Ra Rb : Nat → Nat → Int32 → Prop) (ba la k i e lo hi : Nat) (x : Int32) : Prop :=
  if k = 1 then x = nI lo ∧ hi = lo + 1 ∧ T.1 51 lo = nI (xP X i) ∧ (if xK X i = 5 then T.1 50 lo = 0 ∧ T.1 52 lo = (xN X i).toInt32 else if xK X i = 27 then T.1 50 lo = 1 else if xK X i = 34 then T.1 50 lo = 2 else if xK X i = 35 then T.1 50 lo = 3 else T.1 50 lo = 4 ∧ nmd X T lo i)
  else if k = 2 then Ra lo hi x
  else if k = 3 then ∃ m y, x = nI m ∧ lo ≤ m ∧ Ra lo m y ∧ hi = m + 1 ∧ T.1 51 m = nI (xP X ba) ∧ T.1 52 m = y ∧ (if xK X i = 49 then T.1 50 m = 14 ∧ nmd X T m (i + 1) else if xK X i = 61 then T.1 50 m = 16 else T.1 50 m = 17 ∧ nmd X T m (i + 1))
  else if k = 4 then ∃ m y z, x = nI m ∧ lo ≤ m ∧ m < hi ∧ Ra lo m y ∧ Rb (m + 1) hi z ∧ T.1 51 m = nI (xP X ba) ∧ T.1 52 m = y ∧ T.1 53 m = z ∧ T.1 50 m = 15
  else if k = 5 then ∃ m y z, x = nI m ∧ lo ≤ m ∧ m < hi ∧ Ra lo m y ∧ Rb (m + 1) hi z ∧ T.1 51 m = nI (xP X ba) ∧ T.1 52 m = y ∧ T.1 53 m = z ∧ T.1 50 m = 13 ∧ T.1 54 m = chK e
  else if k = 6 then ∃ u z, x = nI lo ∧ lo < hi ∧ Ra (lo + 1) hi z ∧ T.1 50 lo = 5 ∧ T.1 51 lo = nI (xP X i) ∧ nmd X T lo i ∧ T.1 58 lo = nI u ∧ T.1 59 lo = nI e ∧ RepU X T u (i + 1) e ∧ T.1 52 lo = z ∧ T.1 53 lo = nI la
  else if k = 7 then ∃ u v z, x = nI lo ∧ lo < hi ∧ T.1 51 lo = nI (xP X i) ∧ T.1 54 lo = nI v ∧ RepU X T v (i + 1) 1 ∧ nmd X T lo (i + 2) ∧ T.1 58 lo = nI u ∧ T.1 59 lo = nI e ∧ RepU X T u (i + 3) e ∧ (if xK X (i + 3 + e) = 49 then T.1 50 lo = 7 ∧ T.1 52 lo = nI (lo + 1) ∧ lo + 1 < hi ∧ T.1 51 (lo + 1) = nI (xP X (i + 3 + e)) ∧ nmd X T (lo + 1) (i + 3 + e + 1) ∧ T.1 52 (lo + 1) = z ∧ Ra (lo + 2) hi z else T.1 50 lo = 6 ∧ T.1 61 lo = nI (xP X (i + 3 + e)) ∧ T.1 52 lo = z ∧ T.1 53 lo = nI la ∧ Ra (lo + 1) hi z)
  else if k = 8 then ∃ z, x = nI lo ∧ lo < hi ∧ T.1 51 lo = nI (xP X i) ∧ T.1 52 lo = z ∧ (if xK X i = 29 then T.1 50 lo = 8 ∧ Ra (lo + 1) hi z ∧ ∃ u, T.1 58 lo = nI u ∧ RepU X T u (i + 1) 1 else if xK X i = 30 then T.1 50 lo = 9 ∧ (∃ u, T.1 58 lo = nI u ∧ RepU X T u (i + 1) 1) ∧ ∃ c y, lo < c ∧ c ≤ hi ∧ Ra (lo + 1) c z ∧ Rb c hi y ∧ T.1 53 lo = y else (T.1 50 lo = if xK X i = 31 then 11 else 12) ∧ Ra (lo + 1) hi z)
  else if k = 9 then ∃ z, x = nI lo ∧ lo < hi ∧ T.1 51 lo = nI (xP X i) ∧ T.1 52 lo = z ∧ T.1 50 lo = 10 ∧ Ra (lo + 1) hi z
  else if k = 10 then ∃ m y z, x = nI m ∧ lo ≤ m ∧ m < hi ∧ Ra lo m y ∧ T.1 50 m = 30 ∧ T.1 51 m = nI (xP X ba) ∧ T.1 52 m = y ∧ T.1 55 m = z ∧ Rb (m + 1) hi z
  else False
def RepM (X : Lx) (T : gSt) : Tr → Nat → Nat → Int32 → Prop
  | .add (.add (.var k) (.add (.var i) (.var e))) (.add a b), lo, hi, x => RpN X T (RepM X T a) (RepM X T b) (bgT a) (lenT a) k i e lo hi x
  | .num _, lo, hi, x => x = -1 ∧ lo = hi
  | _, _, _, _ => False
theorem RepM_n {X : Lx} {T : gSt} {k i e lo hi : Nat} {a b : Tr} {x : Int32} : RepM X T (tD k i e a b) lo hi x = RpN X T (RepM X T a) (RepM X T b) (bgT a) (lenT a) k i e lo hi x := rfl
/-- T' is as T on the nodes from lo to hi, and has all uses that T had -/
abbrev Ag (T T' : gSt) (lo hi : Nat) : Prop := (∀ g j, 50 ≤ g → g ≤ 61 → g ≠ 60 → lo ≤ j → j < hi → T'.1 g j = T.1 g j) ∧ (∀ j, lo ≤ j → j < hi → T'.2 56 j = T.2 56 j) ∧ nU T ≤ nU T' ∧ ∀ j, j < nU T → T'.2 46 j = T.2 46 j ∧ T'.1 47 j = T.1 47 j
theorem Ag.sub {T T' : gSt} {lo hi a b : Nat} (h : Ag T T' lo hi) (h1 : lo ≤ a) (h2 : b ≤ hi) : Ag T T' a b := ⟨fun g j p q r s t => h.1 g j p q r (by omega) (by omega), fun j s t => h.2.1 j (by omega) (by omega), h.2.2⟩
theorem RepU.ag {X : Lx} {T T' : gSt} {lo hi u i e : Nat} (h : Ag T T' lo hi) (hu : RepU X T u i e) : RepU X T' u i e := ⟨by have := h.2.2.1; omega, fun k hk => by rw [(h.2.2.2 (u + k) (by omega)).1, (h.2.2.2 (u + k) (by omega)).2]; exact hu.2 k hk⟩
theorem RpN.ag {X : Lx} {T T' : gSt} {Ra Rb Ra' Rb' : Nat → Nat → Int32 → Prop} {ba la k i e lo hi : Nat} {x : Int32} (h : Ag T T' lo hi) (ha : ∀ lo' hi' y, lo ≤ lo' → hi' ≤ hi → Ra lo' hi' y → Ra' lo' hi' y) (hb : ∀ lo' hi' y, lo ≤ lo' → hi' ≤ hi → Rb lo' hi' y → Rb' lo' hi' y) (hr : RpN X T Ra Rb ba la k i e lo hi x) : RpN X T' Ra' Rb' ba la k i e lo hi x := by
  have n1 : ∀ m t, lo ≤ m → m < hi → nmd X T m t → nmd X T' m t := fun m t p q r => ⟨(h.2.1 m p q).trans r.1, (h.1 57 m (by omega) (by omega) (by omega) p q).trans r.2⟩
  have w : ∀ g m v, 50 ≤ g → g ≤ 61 → g ≠ 60 → lo ≤ m → m < hi → T.1 g m = v → T'.1 g m = v := fun g m v p q r s t u => (h.1 g m p q r s t).trans u
  unfold RpN at hr ⊢
  by_cases c1 : k = 1
  · simp only [if_pos c1] at hr ⊢
    obtain ⟨r1, r2, r3, r4⟩ := hr
    refine ⟨r1, r2, w 51 lo _ (by omega) (by omega) (by omega) (by omega) (by omega) r3, ?_⟩
    split at r4
    · rename_i c; rw [if_pos c]; exact ⟨w 50 lo _ (by omega) (by omega) (by omega) (by omega) (by omega) r4.1, w 52 lo _ (by omega) (by omega) (by omega) (by omega) (by omega) r4.2⟩
    · rename_i c; rw [if_neg c]
      split at r4
      · rename_i c; rw [if_pos c]; exact w 50 lo _ (by omega) (by omega) (by omega) (by omega) (by omega) r4
      · rename_i c; rw [if_neg c]
        split at r4
        · rename_i c; rw [if_pos c]; exact w 50 lo _ (by omega) (by omega) (by omega) (by omega) (by omega) r4
        · rename_i c; rw [if_neg c]
          split at r4
          · rename_i c; rw [if_pos c]; exact w 50 lo _ (by omega) (by omega) (by omega) (by omega) (by omega) r4
          · rename_i c; rw [if_neg c]; exact ⟨w 50 lo _ (by omega) (by omega) (by omega) (by omega) (by omega) r4.1, n1 lo i (by omega) (by omega) r4.2⟩
  simp only [if_neg c1] at hr ⊢
  by_cases c2 : k = 2
  · simp only [if_pos c2] at hr ⊢
    exact ha lo hi x (by omega) (by omega) hr
  simp only [if_neg c2] at hr ⊢
  by_cases c3 : k = 3
  · simp only [if_pos c3] at hr ⊢
    obtain ⟨m, y, r1, r2, r3, r4, r5, r6, r7⟩ := hr
    refine ⟨m, y, r1, r2, ha lo m y (by omega) (by omega) r3, r4, w 51 m _ (by omega) (by omega) (by omega) (by omega) (by omega) r5, w 52 m _ (by omega) (by omega) (by omega) (by omega) (by omega) r6, ?_⟩
    split at r7
    · rename_i c; rw [if_pos c]; exact ⟨w 50 m _ (by omega) (by omega) (by omega) (by omega) (by omega) r7.1, n1 m _ (by omega) (by omega) r7.2⟩
    · rename_i c; rw [if_neg c]
      split at r7
      · rename_i c; rw [if_pos c]; exact w 50 m _ (by omega) (by omega) (by omega) (by omega) (by omega) r7
      · rename_i c; rw [if_neg c]; exact ⟨w 50 m _ (by omega) (by omega) (by omega) (by omega) (by omega) r7.1, n1 m _ (by omega) (by omega) r7.2⟩
  simp only [if_neg c3] at hr ⊢
  by_cases c4 : k = 4
  · simp only [if_pos c4] at hr ⊢
    obtain ⟨m, y, z, r1, r2, r3, r4, r5, r6, r7, r8, r9⟩ := hr
    exact ⟨m, y, z, r1, r2, r3, ha lo m y (by omega) (by omega) r4, hb (m + 1) hi z (by omega) (by omega) r5, w 51 m _ (by omega) (by omega) (by omega) (by omega) (by omega) r6, w 52 m _ (by omega) (by omega) (by omega) (by omega) (by omega) r7, w 53 m _ (by omega) (by omega) (by omega) (by omega) (by omega) r8, w 50 m _ (by omega) (by omega) (by omega) (by omega) (by omega) r9⟩
  simp only [if_neg c4] at hr ⊢
  by_cases c5 : k = 5
  · simp only [if_pos c5] at hr ⊢
    obtain ⟨m, y, z, r1, r2, r3, r4, r5, r6, r7, r8, r9, r10⟩ := hr
    exact ⟨m, y, z, r1, r2, r3, ha lo m y (by omega) (by omega) r4, hb (m + 1) hi z (by omega) (by omega) r5, w 51 m _ (by omega) (by omega) (by omega) (by omega) (by omega) r6, w 52 m _ (by omega) (by omega) (by omega) (by omega) (by omega) r7, w 53 m _ (by omega) (by omega) (by omega) (by omega) (by omega) r8, w 50 m _ (by omega) (by omega) (by omega) (by omega) (by omega) r9, w 54 m _ (by omega) (by omega) (by omega) (by omega) (by omega) r10⟩
  simp only [if_neg c5] at hr ⊢
  by_cases c6 : k = 6
  · simp only [if_pos c6] at hr ⊢
    obtain ⟨u, z, r1, r2, r3, r4, r5, r6, r7, r8, r9, r10, r11⟩ := hr
    exact ⟨u, z, r1, r2, ha (lo + 1) hi z (by omega) (by omega) r3, w 50 lo _ (by omega) (by omega) (by omega) (by omega) (by omega) r4, w 51 lo _ (by omega) (by omega) (by omega) (by omega) (by omega) r5, n1 lo _ (by omega) (by omega) r6, w 58 lo _ (by omega) (by omega) (by omega) (by omega) (by omega) r7, w 59 lo _ (by omega) (by omega) (by omega) (by omega) (by omega) r8, RepU.ag h r9, w 52 lo _ (by omega) (by omega) (by omega) (by omega) (by omega) r10, w 53 lo _ (by omega) (by omega) (by omega) (by omega) (by omega) r11⟩
  simp only [if_neg c6] at hr ⊢
  by_cases c7 : k = 7
  · simp only [if_pos c7] at hr ⊢
    obtain ⟨u, v, z, r1, r2, r3, r4, r5, r6, r7, r8, r9, r10⟩ := hr
    refine ⟨u, v, z, r1, r2, w 51 lo _ (by omega) (by omega) (by omega) (by omega) (by omega) r3, w 54 lo _ (by omega) (by omega) (by omega) (by omega) (by omega) r4, RepU.ag h r5, n1 lo _ (by omega) (by omega) r6, w 58 lo _ (by omega) (by omega) (by omega) (by omega) (by omega) r7, w 59 lo _ (by omega) (by omega) (by omega) (by omega) (by omega) r8, RepU.ag h r9, ?_⟩
    split at r10
    · rename_i c; rw [if_pos c]
      obtain ⟨s1, s2, s3, s4, s5, s6, s7⟩ := r10
      exact ⟨w 50 lo _ (by omega) (by omega) (by omega) (by omega) (by omega) s1, w 52 lo _ (by omega) (by omega) (by omega) (by omega) (by omega) s2, s3, w 51 (lo + 1) _ (by omega) (by omega) (by omega) (by omega) (by omega) s4, n1 (lo + 1) _ (by omega) (by omega) s5, w 52 (lo + 1) _ (by omega) (by omega) (by omega) (by omega) (by omega) s6, ha (lo + 2) hi z (by omega) (by omega) s7⟩
    · rename_i c; rw [if_neg c]
      obtain ⟨s1, s2, s3, s4, s5⟩ := r10
      exact ⟨w 50 lo _ (by omega) (by omega) (by omega) (by omega) (by omega) s1, w 61 lo _ (by omega) (by omega) (by omega) (by omega) (by omega) s2, w 52 lo _ (by omega) (by omega) (by omega) (by omega) (by omega) s3, w 53 lo _ (by omega) (by omega) (by omega) (by omega) (by omega) s4, ha (lo + 1) hi z (by omega) (by omega) s5⟩
  simp only [if_neg c7] at hr ⊢
  by_cases c8 : k = 8
  · simp only [if_pos c8] at hr ⊢
    obtain ⟨z, r1, r2, r3, r4, r5⟩ := hr
    refine ⟨z, r1, r2, w 51 lo _ (by omega) (by omega) (by omega) (by omega) (by omega) r3, w 52 lo _ (by omega) (by omega) (by omega) (by omega) (by omega) r4, ?_⟩
    split at r5
    · rename_i c; rw [if_pos c]
      obtain ⟨s1, s2, u, s3, s4⟩ := r5
      exact ⟨w 50 lo _ (by omega) (by omega) (by omega) (by omega) (by omega) s1, ha (lo + 1) hi z (by omega) (by omega) s2, u, w 58 lo _ (by omega) (by omega) (by omega) (by omega) (by omega) s3, RepU.ag h s4⟩
    · rename_i c; rw [if_neg c]
      split at r5
      · rename_i c; rw [if_pos c]
        obtain ⟨s1, ⟨u, s3, s4⟩, c', y, s5, s6, s7, s8, s9⟩ := r5
        exact ⟨w 50 lo _ (by omega) (by omega) (by omega) (by omega) (by omega) s1, ⟨u, w 58 lo _ (by omega) (by omega) (by omega) (by omega) (by omega) s3, RepU.ag h s4⟩, c', y, s5, s6, ha (lo + 1) c' z (by omega) (by omega) s7, hb c' hi y (by omega) (by omega) s8, w 53 lo _ (by omega) (by omega) (by omega) (by omega) (by omega) s9⟩
      · rename_i c; rw [if_neg c]
        exact ⟨w 50 lo _ (by omega) (by omega) (by omega) (by omega) (by omega) r5.1, ha (lo + 1) hi z (by omega) (by omega) r5.2⟩
  simp only [if_neg c8] at hr ⊢
  by_cases c9 : k = 9
  · simp only [if_pos c9] at hr ⊢
    obtain ⟨z, r1, r2, r3, r4, r5, r6⟩ := hr
    exact ⟨z, r1, r2, w 51 lo _ (by omega) (by omega) (by omega) (by omega) (by omega) r3, w 52 lo _ (by omega) (by omega) (by omega) (by omega) (by omega) r4, w 50 lo _ (by omega) (by omega) (by omega) (by omega) (by omega) r5, ha (lo + 1) hi z (by omega) (by omega) r6⟩
  simp only [if_neg c9] at hr ⊢
  by_cases c10 : k = 10
  · simp only [if_pos c10] at hr ⊢
    obtain ⟨m, y, z, r1, r2, r3, r4, r5, r6, r7, r8, r9⟩ := hr
    exact ⟨m, y, z, r1, r2, r3, ha lo m y (by omega) (by omega) r4, w 50 m _ (by omega) (by omega) (by omega) (by omega) (by omega) r5, w 51 m _ (by omega) (by omega) (by omega) (by omega) (by omega) r6, w 52 m _ (by omega) (by omega) (by omega) (by omega) (by omega) r7, w 55 m _ (by omega) (by omega) (by omega) (by omega) (by omega) r8, hb (m + 1) hi z (by omega) (by omega) r9⟩
  simp only [if_neg c10] at hr
def tsz : Tr → Nat
  | .add a b => tsz a + tsz b + 1
  | _ => 1
theorem RepM.ag_n {X : Lx} {T T' : gSt} : ∀ (n : Nat) (t : Tr), tsz t ≤ n → ∀ (lo hi : Nat) (x : Int32), Ag T T' lo hi → RepM X T t lo hi x → RepM X T' t lo hi x := by
  intro n
  induction n with
  | zero =>
    intro t ht
    cases t <;> simp [tsz] at ht
  | succ n ih =>
    intro t ht lo hi x h hr
    unfold RepM at hr
    split at hr
    · rename_i k i e a b
      have hs : tsz a ≤ n ∧ tsz b ≤ n := by
        simp only [tsz] at ht
        omega
      exact RpN.ag (Ra := RepM X T a) (Rb := RepM X T b) (Ra' := RepM X T' a) (Rb' := RepM X T' b) h (fun lo' hi' y h1 h2 q => ih a hs.1 lo' hi' y (h.sub h1 h2) q) (fun lo' hi' y h1 h2 q => ih b hs.2 lo' hi' y (h.sub h1 h2) q) hr
    · exact hr
    · exact hr.elim
theorem RepM.ag {X : Lx} {T T' : gSt} {t : Tr} {lo hi : Nat} {x : Int32} (h : Ag T T' lo hi) (hr : RepM X T t lo hi x) : RepM X T' t lo hi x := RepM.ag_n (tsz t) t (Nat.le_refl _) lo hi x h hr
