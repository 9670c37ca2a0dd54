/-! STEPS and BLOCKS: the grammar, and how the reference holds them -/
abbrev SR : Type := Except Nat (Tr × Nat × Nat × Nat)
def sb (x : SR) (k : Tr → Nat → Nat → Nat → SR) : SR := match x with
  | .error e => .error e
  | .ok (t, i, v, g) => k t i v g
def se (x : ER) (k : Tr → Nat → SR) : SR := match x with
  | .error e => .error e
  | .ok (t, i) => k t i
def sy (x : Except Nat Nat) (k : Nat → SR) : SR := match x with
  | .error e => .error e
  | .ok i => k i
def sn (K : Nat → Nat) (k i : Nat) (x : SR) : SR := if K i = k then x else .error i
def pStep (K : Nat → Nat) (E : Nat → ER) (B : Nat → Nat → Nat → SR) (i v g : Nat) : SR :=
  if K i = 15 then (if v = 20 then .error (i + 1) else sn K 2 (i + 1) (sn K 48 (i + 2) (sy (pTy K 6 false (i + 3)) fun j => if K j = 50 then se (E (j + 1)) fun a j2 => sn K 46 j2 (.ok (tD 20 i v a tZ, j2 + 1, v + 1, g)) else sn K 46 j (.ok (tD 20 i v tZ tZ, j + 1, v + 1, g)))))
  else if K i = 18 then se (E (i + 1)) fun a j => sb (B j v g) fun b j2 v2 g2 => .ok (tD 22 i 0 a b, j2, v2, g2)
  else if K i = 16 then se (E (i + 1)) fun a j => sb (B j v g) fun b j2 v2 g2 => if K j2 = 17 then sb (B (j2 + 1) v2 g2) fun c j3 v3 g3 => .ok (tD 21 i 0 a (tD 12 0 0 b c), j3, v3, g3) else .ok (tD 21 i 0 a (tD 12 0 0 b tZ), j2, v2, g2)
  else if K i = 19 then (if K (i + 1) = 46 then .ok (tD 23 i 0 tZ tZ, i + 2, v, g) else se (E (i + 1)) fun a j => sn K 46 j (.ok (tD 23 i 0 a tZ, j + 1, v, g)))
  else if K i = 21 then (if g = 8 then .error i else sn K 4 (i + 1) (sb (B (i + 2) v (g + 1)) fun b j v2 g2 => .ok (tD 26 i 0 b tZ, j, v2, g2)))
  else if K i = 22 then sn K 4 (i + 1) (sn K 46 (i + 2) (.ok (tD 27 i 0 tZ tZ, i + 3, v, g)))
  else if K i = 23 then sb (B (i + 1) v g) fun b j v2 g2 => sn K 24 j (sb (B (j + 1) v2 g2) fun c j3 v3 g3 => .ok (tD 28 i 0 b c, j3, v3, g3))
  else if K i = 20 ∨ K i = 25 then se (E (i + 1)) fun a j => sn K 46 j (.ok (tD (if K i = 20 then 24 else 25) i 0 a tZ, j + 1, v, g))
  else se (E i) fun a j => if K j = 50 then se (E (j + 1)) fun b j2 => sn K 46 j2 (.ok (tD 29 i 0 a b, j2 + 1, v, g)) else sn K 46 j (.ok (tD 30 i 0 a tZ, j + 1, v, g))
def pSteps (K : Nat → Nat) (S : Nat → Nat → Nat → SR) : Nat → Nat → Nat → Nat → SR
  | 0, i, _, _ => .error i
  | f + 1, i, v, g => if K i = 41 then .ok (tZ, i, v, g) else sb (S i v g) fun s j v2 g2 => sb (pSteps K S f j v2 g2) fun r j3 v3 g3 => .ok (tD 11 0 0 s r, j3, v3, g3)
def pBl (K : Nat → Nat) : Nat → Nat → Nat → Nat → SR
  | 0, i, _, _ => .error i
  | m + 1, i, v, g => sn K 40 i (sb (pSteps K (pStep K (pEx K m 0) (pBl K m)) 4001 (i + 1) v g) fun s j v2 g2 => sn K 41 j (.ok (tD 31 j 0 s tZ, j + 1, v2, g2)))
/-- a STEP's node by its kind; p: the node whose second and third part a pair tells -/
def RsN (X : Lx) (T : gSt) (Ra Rb : Nat → Nat → Int32 → Prop) (Sa Sb : Nat → Nat → Nat → Int32 → Prop) (k i e p lo hi : Nat) (x : Int32) : Prop :=
  if k = 20 then x = nI lo ∧ lo < hi ∧ T.1 50 lo = 20 ∧ T.1 51 lo = nI (xP X i) ∧ nmd X T lo (i + 1) ∧ T.1 61 lo = nI e ∧ (∃ w, T.1 53 lo = nI w ∧ RepW X T 6 w (i + 3)) ∧ Ra (lo + 1) hi (T.1 52 lo)
  else if k = 21 then x = nI lo ∧ T.1 50 lo = 21 ∧ T.1 51 lo = nI (xP X i) ∧ ∃ c, lo < c ∧ c ≤ hi ∧ Ra (lo + 1) c (T.1 52 lo) ∧ Sb lo c hi x
  else if k = 12 then ∃ c, lo < c ∧ c ≤ hi ∧ Sa lo lo c (T.1 53 p) ∧ Sb c c hi (T.1 54 p)
  else if k = 22 then x = nI lo ∧ T.1 50 lo = 22 ∧ T.1 51 lo = nI (xP X i) ∧ ∃ c, lo < c ∧ c ≤ hi ∧ Ra (lo + 1) c (T.1 52 lo) ∧ Sb c c hi (T.1 53 lo)
  else if k = 23 then x = nI lo ∧ lo < hi ∧ T.1 50 lo = 23 ∧ T.1 51 lo = nI (xP X i) ∧ Ra (lo + 1) hi (T.1 52 lo)
  else if k = 24 ∨ k = 25 ∨ k = 30 then ∃ m, x = nI m ∧ lo ≤ m ∧ hi = m + 1 ∧ Ra lo m (T.1 52 m) ∧ T.1 50 m = nI k ∧ T.1 51 m = nI (xP X i)
  else if k = 29 then ∃ m, x = nI m ∧ lo ≤ m ∧ m < hi ∧ Ra lo m (T.1 52 m) ∧ Rb (m + 1) hi (T.1 53 m) ∧ T.1 50 m = 29 ∧ T.1 51 m = nI (xP X i)
  else if k = 26 then x = nI lo ∧ lo < hi ∧ T.1 50 lo = 26 ∧ T.1 51 lo = nI (xP X i) ∧ (∃ u, T.1 58 lo = nI u ∧ RepU X T u (i + 1) 1) ∧ Sa (lo + 1) (lo + 1) hi (T.1 52 lo)
  else if k = 27 then x = nI lo ∧ hi = lo + 1 ∧ T.1 50 lo = 27 ∧ T.1 51 lo = nI (xP X i) ∧ ∃ u, T.1 58 lo = nI u ∧ RepU X T u (i + 1) 1
  else if k = 28 then x = nI lo ∧ T.1 50 lo = 28 ∧ T.1 51 lo = nI (xP X i) ∧ ∃ c, lo < c ∧ c ≤ hi ∧ Sa (lo + 1) (lo + 1) c (T.1 52 lo) ∧ Sb c c hi (T.1 53 lo)
  else if k = 31 then x = nI lo ∧ lo < hi ∧ T.1 50 lo = 31 ∧ T.1 57 lo = nI (xP X i) ∧ Sa (lo + 1) (lo + 1) hi (T.1 52 lo)
  else if k = 11 then ∃ q c, x = nI q ∧ lo ≤ q ∧ q < c ∧ c ≤ hi ∧ Sa lo lo c x ∧ Sb c c hi (T.1 55 q)
  else False
def RepS (X : Lx) (T : gSt) : Tr → Nat → Nat → Nat → Int32 → Prop
  | .add (.add (.var k) (.add (.var i) (.var e))) (.add a b), p, lo, hi, x => RsN X T (RepM X T a) (RepM X T b) (RepS X T a) (RepS X T b) k i e p lo hi x
  | .num _, _, lo, hi, x => x = -1 ∧ lo = hi
  | _, _, _, _, _ => False
theorem RepS_n {X : Lx} {T : gSt} {k i e p lo hi : Nat} {a b : Tr} {x : Int32} : RepS X T (tD k i e a b) p lo hi x = RsN X T (RepM X T a) (RepM X T b) (RepS X T a) (RepS X T b) k i e p lo hi x := rfl
abbrev AgS (T T' : gSt) (p lo hi : Nat) : Prop := Ag T T' lo hi ∧ (lo < hi → T'.1 53 p = T.1 53 p ∧ T'.1 54 p = T.1 54 p) ∧ Aw T T'
theorem RsN.ag {X : Lx} {T T' : gSt} {Ra Rb Ra' Rb' : Nat → Nat → Int32 → Prop} {Sa Sb Sa' Sb' : Nat → Nat → Nat → Int32 → Prop} {k i e p lo hi : Nat} {x : Int32} (h : AgS T T' p lo hi) (ha : ∀ lo' hi' y, lo ≤ lo' → hi' ≤ hi → Ra lo' hi' y → Ra' lo' hi' y) (hb : ∀ lo' hi' y, lo ≤ lo' → hi' ≤ hi → Rb lo' hi' y → Rb' lo' hi' y) (sa : ∀ p' lo' hi' y, (p' = lo' ∨ lo ≤ p' ∧ p' < hi) → lo ≤ lo' → hi' ≤ hi → Sa p' lo' hi' y → Sa' p' lo' hi' y) (sb : ∀ p' lo' hi' y, (p' = lo' ∨ lo ≤ p' ∧ p' < hi) → lo ≤ lo' → hi' ≤ hi → Sb p' lo' hi' y → Sb' p' lo' hi' y) (hr : RsN X T Ra Rb Sa Sb k i e p lo hi x) : RsN X T' Ra' Rb' Sa' Sb' k i e p lo hi x := by
  have n1 : ∀ m t, lo ≤ m → m < hi → nmd X T m t → nmd X T' m t := fun m t p q r => ⟨(h.1.2.1 m p q).trans r.1, (h.1.1 57 m (by omega) (by omega) (by omega) p q).trans r.2⟩
  have w : ∀ g m, 50 ≤ g → g ≤ 61 → g ≠ 60 → lo ≤ m → m < hi → T'.1 g m = T.1 g m := fun g m p q r s t => h.1.1 g m p q r s t
  unfold RsN at hr ⊢
  by_cases c : k = 20
  · simp only [if_pos c] at hr ⊢
    obtain ⟨r1, r2, r3, r4, r5, r6, ⟨v, r7, r8⟩, r9⟩ := hr
    rw [w 50 lo (by omega) (by omega) (by omega) (by omega) (by omega), w 51 lo (by omega) (by omega) (by omega) (by omega) (by omega), w 61 lo (by omega) (by omega) (by omega) (by omega) (by omega), w 53 lo (by omega) (by omega) (by omega) (by omega) (by omega), w 52 lo (by omega) (by omega) (by omega) (by omega) (by omega)]
    exact ⟨r1, r2, r3, r4, n1 lo _ (by omega) (by omega) r5, r6, ⟨v, r7, RepW.av 6 v _ h.2.2.av r8⟩, ha _ _ _ (by omega) (by omega) r9⟩
  simp only [if_neg c] at hr ⊢
  clear c
  by_cases c : k = 21
  · simp only [if_pos c] at hr ⊢
    obtain ⟨r1, r2, r3, d, r4, r5, r6, r7⟩ := hr
    rw [w 50 lo (by omega) (by omega) (by omega) (by omega) (by omega), w 51 lo (by omega) (by omega) (by omega) (by omega) (by omega), w 52 lo (by omega) (by omega) (by omega) (by omega) (by omega)]
    exact ⟨r1, r2, r3, d, r4, r5, ha _ _ _ (by omega) (by omega) r6, sb lo d hi x (Or.inr (by omega)) (by omega) (by omega) r7⟩
  simp only [if_neg c] at hr ⊢
  clear c
  by_cases c : k = 12
  · simp only [if_pos c] at hr ⊢
    obtain ⟨d, r1, r2, r3, r4⟩ := hr
    rw [(h.2.1 (by omega)).1, (h.2.1 (by omega)).2]
    exact ⟨d, r1, r2, sa lo lo d _ (Or.inl rfl) (by omega) (by omega) r3, sb d d hi _ (Or.inl rfl) (by omega) (by omega) r4⟩
  simp only [if_neg c] at hr ⊢
  clear c
  by_cases c : k = 22
  · simp only [if_pos c] at hr ⊢
    obtain ⟨r1, r2, r3, d, r4, r5, r6, r7⟩ := hr
    rw [w 50 lo (by omega) (by omega) (by omega) (by omega) (by omega), w 51 lo (by omega) (by omega) (by omega) (by omega) (by omega), w 52 lo (by omega) (by omega) (by omega) (by omega) (by omega), w 53 lo (by omega) (by omega) (by omega) (by omega) (by omega)]
    exact ⟨r1, r2, r3, d, r4, r5, ha _ _ _ (by omega) (by omega) r6, sb d d hi _ (Or.inl rfl) (by omega) (by omega) r7⟩
  simp only [if_neg c] at hr ⊢
  clear c
  by_cases c : k = 23
  · simp only [if_pos c] at hr ⊢
    obtain ⟨r1, r2, r3, r4, r5⟩ := hr
    rw [w 50 lo (by omega) (by omega) (by omega) (by omega) (by omega), w 51 lo (by omega) (by omega) (by omega) (by omega) (by omega), w 52 lo (by omega) (by omega) (by omega) (by omega) (by omega)]
    exact ⟨r1, r2, r3, r4, ha _ _ _ (by omega) (by omega) r5⟩
  simp only [if_neg c] at hr ⊢
  clear c
  by_cases c : k = 24 ∨ k = 25 ∨ k = 30
  · simp only [if_pos c] at hr ⊢
    obtain ⟨m, r1, r2, r3, r4, r5, r6⟩ := hr
    refine ⟨m, r1, r2, r3, ?_, ?_, ?_⟩
    · rw [w 52 m (by omega) (by omega) (by omega) (by omega) (by omega)]; exact ha _ _ _ (by omega) (by omega) r4
    · rw [w 50 m (by omega) (by omega) (by omega) (by omega) (by omega)]; exact r5
    · rw [w 51 m (by omega) (by omega) (by omega) (by omega) (by omega)]; exact r6
  simp only [if_neg c] at hr ⊢
  clear c
  by_cases c : k = 29
  · simp only [if_pos c] at hr ⊢
    obtain ⟨m, r1, r2, r3, r4, r5, r6, r7⟩ := hr
    refine ⟨m, r1, r2, r3, ?_, ?_, ?_, ?_⟩
    · rw [w 52 m (by omega) (by omega) (by omega) (by omega) (by omega)]; exact ha _ _ _ (by omega) (by omega) r4
    · rw [w 53 m (by omega) (by omega) (by omega) (by omega) (by omega)]; exact hb _ _ _ (by omega) (by omega) r5
    · rw [w 50 m (by omega) (by omega) (by omega) (by omega) (by omega)]; exact r6
    · rw [w 51 m (by omega) (by omega) (by omega) (by omega) (by omega)]; exact r7
  simp only [if_neg c] at hr ⊢
  clear c
  by_cases c : k = 26
  · simp only [if_pos c] at hr ⊢
    obtain ⟨r1, r2, r3, r4, ⟨u, r5, r6⟩, r7⟩ := hr
    rw [w 50 lo (by omega) (by omega) (by omega) (by omega) (by omega), w 51 lo (by omega) (by omega) (by omega) (by omega) (by omega), w 52 lo (by omega) (by omega) (by omega) (by omega) (by omega), w 58 lo (by omega) (by omega) (by omega) (by omega) (by omega)]
    exact ⟨r1, r2, r3, r4, ⟨u, r5, RepU.ag h.1 r6⟩, sa (lo + 1) (lo + 1) hi _ (Or.inl rfl) (by omega) (by omega) r7⟩
  simp only [if_neg c] at hr ⊢
  clear c
  by_cases c : k = 27
  · simp only [if_pos c] at hr ⊢
    obtain ⟨r1, r2, r3, r4, u, r5, r6⟩ := hr
    rw [w 50 lo (by omega) (by omega) (by omega) (by omega) (by omega), w 51 lo (by omega) (by omega) (by omega) (by omega) (by omega), w 58 lo (by omega) (by omega) (by omega) (by omega) (by omega)]
    exact ⟨r1, r2, r3, r4, u, r5, RepU.ag h.1 r6⟩
  simp only [if_neg c] at hr ⊢
  clear c
  by_cases c : k = 28
  · simp only [if_pos c] at hr ⊢
    obtain ⟨r1, r2, r3, d, r4, r5, r6, r7⟩ := hr
    rw [w 50 lo (by omega) (by omega) (by omega) (by omega) (by omega), w 51 lo (by omega) (by omega) (by omega) (by omega) (by omega), w 52 lo (by omega) (by omega) (by omega) (by omega) (by omega), w 53 lo (by omega) (by omega) (by omega) (by omega) (by omega)]
    exact ⟨r1, r2, r3, d, r4, r5, sa (lo + 1) (lo + 1) d _ (Or.inl rfl) (by omega) (by omega) r6, sb d d hi _ (Or.inl rfl) (by omega) (by omega) r7⟩
  simp only [if_neg c] at hr ⊢
  clear c
  by_cases c : k = 31
  · simp only [if_pos c] at hr ⊢
    obtain ⟨r1, r2, r3, r4, r5⟩ := hr
    rw [w 50 lo (by omega) (by omega) (by omega) (by omega) (by omega), w 57 lo (by omega) (by omega) (by omega) (by omega) (by omega), w 52 lo (by omega) (by omega) (by omega) (by omega) (by omega)]
    exact ⟨r1, r2, r3, r4, sa (lo + 1) (lo + 1) hi _ (Or.inl rfl) (by omega) (by omega) r5⟩
  simp only [if_neg c] at hr ⊢
  clear c
  by_cases c : k = 11
  · simp only [if_pos c] at hr ⊢
    obtain ⟨q, d, r1, r2, r3, r4, r5, r6⟩ := hr
    refine ⟨q, d, r1, r2, r3, r4, sa lo lo d x (Or.inl rfl) (by omega) (by omega) r5, ?_⟩
    rw [w 55 q (by omega) (by omega) (by omega) (by omega) (by omega)]
    exact sb d d hi _ (Or.inl rfl) (by omega) (by omega) r6
  simp only [if_neg c] at hr
theorem RepS.ag_n {X : Lx} {T T' : gSt} : ∀ (n : Nat) (t : Tr), tsz t ≤ n → ∀ (p lo hi : Nat) (x : Int32), AgS T T' p lo hi → RepS X T t p lo hi x → RepS X T' t p lo hi x := by
  intro n
  induction n with
  | zero =>
    intro t ht
    cases t <;> simp [tsz] at ht
  | succ n ih =>
    intro t ht p lo hi x h hr
    unfold RepS at hr
    split at hr
    · rename_i k i e a b
      have hs : tsz a ≤ n ∧ tsz b ≤ n := by
        simp only [tsz] at ht
        omega
      have hp : ∀ p' lo' hi', (p' = lo' ∨ lo ≤ p' ∧ p' < hi) → lo ≤ lo' → hi' ≤ hi → AgS T T' p' lo' hi' := by
        intro p' lo' hi' hp h1 h2
        refine ⟨h.1.sub h1 h2, fun hlt => ?_, h.2.2⟩
        exact ⟨h.1.1 53 p' (by omega) (by omega) (by omega) (by omega) (by omega), h.1.1 54 p' (by omega) (by omega) (by omega) (by omega) (by omega)⟩
      exact RsN.ag (Ra' := RepM X T' a) (Rb' := RepM X T' b) (Sa' := RepS X T' a) (Sb' := RepS X T' b) h (fun lo' hi' y h1 h2 q => RepM.ag (h.1.sub h1 h2) q) (fun lo' hi' y h1 h2 q => RepM.ag (h.1.sub h1 h2) q) (fun p' lo' hi' y h0 h1 h2 q => ih a hs.1 p' lo' hi' y (hp p' lo' hi' h0 h1 h2) q) (fun p' lo' hi' y h0 h1 h2 q => ih b hs.2 p' lo' hi' y (hp p' lo' hi' h0 h1 h2) q) hr
    · exact hr
    · exact hr.elim
theorem RepS.ag {X : Lx} {T T' : gSt} {t : Tr} {p lo hi : Nat} {x : Int32} (h : AgS T T' p lo hi) (hr : RepS X T t p lo hi x) : RepS X T' t p lo hi x := RepS.ag_n (tsz t) t (Nat.le_refl _) p lo hi x h hr
/-- a tree of its own: what it is held by lies in it -/
theorem RepS.own {X : Lx} {T T' : gSt} {t : Tr} {lo hi : Nat} {x : Int32} (h : Ag T T' lo hi) (hw : Aw T T') (hr : RepS X T t lo lo hi x) : RepS X T' t lo lo hi x := RepS.ag ⟨h, fun hlt => ⟨h.1 53 lo (by omega) (by omega) (by omega) (by omega) hlt, h.1 54 lo (by omega) (by omega) (by omega) (by omega) hlt⟩, hw⟩ hr
