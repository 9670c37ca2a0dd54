/-! items as both sides hold them, ahead of heads and behind -/
def FgL (X : Lx) : List It → Prop
  | [] => True
  | x :: xs => FgO X x ∧ FgL X xs
/-- an item on both sides -/
def JI (X : Lx) (S T : gSt) (t c : Nat) (x : It) (a z lo m : Nat) : Prop := HeS X S t c x ∧ HeT X T t x ∧ S.2 13 t = xN X (x.1 + 1) ∧ S.1 18 t = nI c ∧ S.1 19 t = nI x.2.2.1.length ∧ c ≤ 8 * t ∧ (S.1 25 t < 0 ↔ x.2.2.2.1 = 0) ∧ S.1 31 t = nI x.2.2.2.2.2.2.2.1 ∧ FgO X x ∧ ItOk X x a z ∧ z ≤ xn X ∧ (xK X x.1 = 12 → FcT X T t lo m x.2.2.2.2.2.2.2.2 ∧ S.1 57 (S.1 34 t).toNatClampNeg = nI (xP X (enB x.2.2.2.2.2.2.2.2)))
def JL (X : Lx) (S T : gSt) : List It → Nat → Nat → Nat → Nat → Prop
  | [], _, _, _, _ => True
  | x :: xs, t, c, a, lo => ∃ z m, JI X S T t c x a z lo m ∧ JL X S T xs (t + 1) (c + x.2.2.1.length) z m
/-- names of heads that passed -/
def NuL (S : gSt) : List It → Nat → Nat → Prop
  | [], _, _ => True
  | x :: xs, t, c => HnU S t c x.2.2.1.length ∧ (S.1 12 t = 2 → fi (S.1 30 t) 0 = false) ∧ NuL S xs (t + 1) (c + x.2.2.1.length)
section JLL
variable {S S' T T' T1 T2 : gSt} {X : Lx} {nf d it e v g n k i u c m lo hi a z z0 n0 y p q r j s f t fl rt dt wt w : Nat} {x op : Int32} {nm : Int64} {b : Tr} {l : List Nat} {xi : It} {xs : List It} {R : RgR}
theorem pItem_sg (h : pItem (xK X) i = .ok (xi, j)) (h12 : xK X xi.1 = 12) : SG X xi.2.2.2.2.2.2.2.2 1 2 := by
  unfold pItem at h
  by_cases k12 : xK X i = 12
  · rw [if_pos k12] at h
    split at h
    · generalize hr : pHead (xK X) (i + 2 + rgs (xK X) 3 (i + 2)) = r at h
      cases r with
      | error e => cases h
      | ok y =>
        obtain ⟨l, rt, dt, n, wt, w, j4⟩ := y
        dsimp only at h
        generalize hr2 : pBl (xK X) 20 j4 l.length 0 = r2 at h
        cases r2 with
        | error e => cases h
        | ok z =>
          obtain ⟨bd, j2, v', g'⟩ := z
          cases h
          exact pBl_sg 20 _ _ _ _ _ _ _ (by omega) hr2
    · cases h
  · rw [if_neg k12] at h
    exfalso
    split at h
    · split at h
      · generalize hr : pSt (xK X) (pFl (xK X) 9 0 (i + 2 + rgs (xK X) 3 (i + 2) + 1)) = r at h
        cases r with
        | error e => cases h
        | ok y =>
          obtain ⟨l, j3⟩ := y
          cases h
          exact k12 h12
      · cases h
    · cases h
theorem pIts_fg : ∀ (f i : Nat) (l : List It), pIts (xK X) f i = .ok l → hgL X l → FgL X l := by
  intro f
  induction f with
  | zero => intro i l h; rw [pIts] at h; cases h
  | succ f ih =>
    intro i l h hg
    rw [pIts] at h
    split at h
    · generalize hr : pItem (xK X) i = r at h
      cases r with
      | error e => cases h
      | ok y =>
        obtain ⟨x, j⟩ := y
        dsimp only at h
        split at h
        · cases h
          exact ⟨⟨hg.1, pItem_sg hr⟩, trivial⟩
        · generalize hr2 : pIts (xK X) f j = r2 at h
          cases r2 with
          | error e => cases h
          | ok l2 =>
            cases h
            exact ⟨⟨hg.1, pItem_sg hr⟩, ih _ _ hr2 hg.2⟩
    · cases h
theorem TyR.yy (h : TyR R S T f x y) : tyY T y := by
  cases f with
  | zero =>
    rcases h with q | q | q <;> exact Or.inl (by omega)
  | succ f =>
    rcases h with (q | q | q) | q
    · exact Or.inl (by omega)
    · exact Or.inl (by omega)
    · exact Or.inl (by omega)
    · obtain ⟨p, kd, r, n, b, _, _, _, _, _, h3, h4, h5, _⟩ := q
      exact Or.inr ⟨h4, h5⟩
theorem nI_neg (h : n < 2 ^ 31) : ¬ nI n < 0 := nI_pos h
theorem ji_mk (hX : XO X) (hr : RepI X T2 t c p q xi) (hc : RcI X T t lo m xi) (hk : ItOk X xi a z) (hzn : z ≤ xn X) (hg : FgO X xi) (hct : c ≤ 8 * t) (hlo : 1 ≤ lo) (hm : m ≤ 4008) (hq : q < 100000) (hnw : nW T2 ≤ 4000) : JI X (er T2) T t c xi a z lo m := by
  obtain ⟨i, e, l, rt, dt, n, wt, w, b⟩ := xi
  have hxn := hX.1
  obtain ⟨a1, a2, a3, a4, a5, a6, a7, a8, a9, a10, a11, a12, a13⟩ := hr
  obtain ⟨x1, x2, x3, x4, x5, x6⟩ := a12
  obtain ⟨b1, b2, b3, b4, b5, b6, b7, b8, b9, b10, b11, b12⟩ := hc
  have o : ∀ k, anF k = false → (er T2).1 k = T2.1 k := fun k hk => er_i hk
  have hk0 := hk
  obtain ⟨k1, k2, k3, k4, k5, k6, k7⟩ := hk
  have eB : xK X i = 12 → enB b < xn X := fun q12 => by
    obtain ⟨a', v', g', ka, kw, kb⟩ := k7 q12
    obtain ⟨i', e', ta, tb, rfl, _, h3⟩ := Ws_2 _ kw
    show i' < xn X
    omega
  refine ⟨⟨?_, ?_, a4, ?_, fun k hk => ?_, fun k hk => (a10 k hk).1, fun k hk => ?_, fun k hk => ?_⟩, ⟨b1, b2, b3, b5, b6, b7, b8, b9, b10, b11⟩, a2, ?_, ?_, hct, ?_, ?_, hg, hk0, hzn, fun q12 => ⟨⟨(b12 q12).1, (b12 q12).2.1, (b12 q12).2.2, hlo, hm, (show enB b < 100000 by have := eB q12; omega)⟩, ?_⟩⟩
  · rw [o 12 (by decide)]; exact a1
  · rw [o 14 (by decide)]; exact a3
  · rw [o 15 (by decide)]; exact a5
  · have := a6 k hk
    unfold entR at this ⊢
    rw [o 17 (by decide)]; exact this
  · have := x3 k hk
    unfold entD at this ⊢
    rw [o 29 (by decide)]; exact this
  · have := x6 k hk
    unfold entW at this ⊢
    rw [o 33 (by decide)]; exact this
  · rw [o 18 (by decide)]; exact a7
  · rw [o 19 (by decide)]; exact a8
  · rw [o 25 (by decide)]
    show T2.1 25 t < 0 ↔ rt = 0
    by_cases c0 : rt = 0
    · rw [if_pos c0] at a11
      rw [a11]
      exact ⟨fun _ => c0, fun _ => by decide⟩
    · rw [if_neg c0] at a11
      obtain ⟨w', w1, w2⟩ := a11
      rw [w1]
      have := w2.1
      exact ⟨fun q => absurd q (nI_neg (by omega)), fun q => absurd q c0⟩
  · rw [o 31 (by decide)]; exact x5
  · rw [o 57 (by decide), o 34 (by decide)]
    obtain ⟨l1, h1, l2, h2, l3⟩ := a13 q12
    obtain ⟨a', v', g', ka, kw, kb⟩ := k7 q12
    obtain ⟨i', e', ta, tb, rfl, _, h3⟩ := Ws_2 _ kw
    rw [RepS_n] at l3
    unfold RsN at l3
    rw [if_neg (by omega), if_neg (by omega), if_neg (by omega), if_neg (by omega), if_neg (by omega), if_neg (by omega), if_neg (by omega), if_neg (by omega), if_neg (by omega), if_neg (by omega), if_pos rfl] at l3
    obtain ⟨r1, r2, r3, r4, r5⟩ := l3
    rw [r1, nc (by omega)]
    exact r4
theorem jl_mk (hX : XO X) (hzn : z0 ≤ xn X) (hnn : nN T2 < 100000) (hnw : nW T2 ≤ 4000) (hhi : hi ≤ 4008) : ∀ (xs : List It) (t c p a lo : Nat), RepP X T2 t c p xs → RcP X T t lo hi xs → ItsOk X xs a z0 → FgL X xs → c ≤ 8 * t → 1 ≤ lo → JL X (er T2) T xs t c a lo := by
  intro xs
  induction xs with
  | nil => intro t c p a lo _ _ _ _ _ _; trivial
  | cons x xs ih =>
    intro t c p a lo hr hc hk hg hct hlo
    obtain ⟨p', p1, p2, r1, r2⟩ := hr
    obtain ⟨m, m1, m2, c1, c2⟩ := hc
    obtain ⟨z, k1, k2⟩ := hk
    have l8 : x.2.2.1.length ≤ 8 := r1.2.2.2.2.2.2.2.2.1
    have hz := ItsOk.le k2
    exact ⟨z, m, ji_mk hX r1 c1 k1 (by omega) hg.1 hct hlo (by omega) (by omega) hnw, ih (t + 1) _ p' z m r2 c2 k2 hg.2 (by omega) (by omega)⟩
theorem JL.hr : ∀ (xs : List It) (t c a lo : Nat), JL X S T xs t c a lo → HrL X S T xs t c := by
  intro xs
  induction xs with
  | nil => intro t c a lo _; trivial
  | cons x xs ih =>
    intro t c a lo h
    obtain ⟨z, m, h1, h2⟩ := h
    exact ⟨h1.1, h1.2.1, ih _ _ _ _ h2⟩
theorem JL.fp : ∀ (xs : List It) (t c a lo : Nat), JL X S T xs t c a lo → FpL X T xs t a lo := by
  intro xs
  induction xs with
  | nil => intro t c a lo _; trivial
  | cons x xs ih =>
    intro t c a lo h
    obtain ⟨z, m, h1, h2⟩ := h
    obtain ⟨a1, a2, a3, a4, a5, a6, a7, a8, a9, a10, a11, a12⟩ := h1
    obtain ⟨i, e, l, rt, dt, n, wt, w, b⟩ := x
    exact ⟨z, m, a2, a1.2.2.1, a9, a10, a11, fun q => (a12 q).1, ih _ _ _ _ h2⟩
theorem JL.get : ∀ (xs : List It) (t c a lo : Nat), JL X S T xs t c a lo → ∀ s, t ≤ s → s < t + xs.length → ∃ c x a z lo m, JI X S T s c x a z lo m := by
  intro xs
  induction xs with
  | nil => intro t c a lo _ s h1 h2; rw [List.length_nil] at h2; omega
  | cons x xs ih =>
    intro t c a lo h s s1 s2
    obtain ⟨z, m, h1, h2⟩ := h
    rw [List.length_cons] at s2
    by_cases q : s = t
    · subst q
      exact ⟨c, x, a, z, lo, m, h1⟩
    · exact ih _ _ _ _ h2 s (by omega) (by omega)
theorem JI.st (h : JI X S T t c xi a z lo m) (s1 : ∀ k, k < 65 → k ≠ 7 → k ≠ 8 → k ≠ 24 → k ≠ 26 → k ≠ 30 → S'.1 k = S.1 k) (s2 : ∀ k, k < 72 → S'.2 k = S.2 k) (o : ∀ k, (11 ≤ k ∧ k ≤ 18) ∨ (28 ≤ k ∧ k ≤ 37) ∨ k = 43 → T'.1 k = T.1 k) (o2 : ∀ j, T'.2 30 j = T.2 30 j) : JI X S' T' t c xi a z lo m := by
  obtain ⟨i, e, l, rt, dt, n, wt, w, b⟩ := xi
  obtain ⟨⟨x1, x2, x3, x4, x5, x6, x7, x8⟩, ⟨y1, y2, y3, y4, y5, y6, y7, y8, y9, y10⟩, a3, a4, a5, a6, a7, a8, a9, a10, a11, a12⟩ := h
  have p : ∀ k, k < 65 → k ≠ 7 ∧ k ≠ 8 ∧ k ≠ 24 ∧ k ≠ 26 ∧ k ≠ 30 → S'.1 k = S.1 k := fun k h1 h2 => s1 k h1 h2.1 h2.2.1 h2.2.2.1 h2.2.2.2.1 h2.2.2.2.2
  refine ⟨⟨?_, ?_, x3, ?_, fun k hk => ?_, fun k hk => ?_, fun k hk => ?_, fun k hk => ?_⟩, ⟨?_, ?_, ?_, ?_, ?_, y6, fun k hk => ?_, ?_, ?_, ?_⟩, ?_, ?_, ?_, a6, ?_, ?_, a9, a10, a11, fun q => ⟨⟨?_, ?_, ?_, (a12 q).1.2.2.2⟩, ?_⟩⟩
  · rw [p 12 (by omega) (by omega)]; exact x1
  · rw [p 14 (by omega) (by omega)]; exact x2
  · rw [p 15 (by omega) (by omega)]; exact x4
  · unfold entR
    rw [s2 16 (by omega), p 17 (by omega) (by omega)]
    exact x5 k hk
  · rw [s2 21 (by omega)]; exact x6 k hk
  · unfold entD
    rw [s2 28 (by omega), p 29 (by omega) (by omega)]
    exact x7 k hk
  · unfold entW
    rw [s2 32 (by omega), p 33 (by omega) (by omega)]
    exact x8 k hk
  · rw [o 28 (by omega)]; exact y1
  · rw [o 29 (by omega)]; exact y2
  · rw [o2]; exact y3
  · rw [o 31 (by omega)]; exact y4
  · rw [o 32 (by omega)]; exact y5
  · rw [o 43 (by omega)]; exact y7 k hk
  · rw [o 33 (by omega)]; exact y8
  · rw [o 34 (by omega)]; exact y9
  · rw [o 35 (by omega)]; exact y10
  · rw [s2 13 (by omega)]; exact a3
  · rw [p 18 (by omega) (by omega)]; exact a4
  · rw [p 19 (by omega) (by omega)]; exact a5
  · rw [p 25 (by omega) (by omega)]; exact a7
  · rw [p 31 (by omega) (by omega)]; exact a8
  · rw [o 36 (by omega)]; exact (a12 q).1.1
  · rw [o 37 (by omega)]; exact (a12 q).1.2.1
  · rw [RcS_eq (T := T) (fun g g1 g2 => o g (by omega))]; exact (a12 q).1.2.2.1
  · rw [p 57 (by omega) (by omega), p 34 (by omega) (by omega)]; exact (a12 q).2
theorem JL.st (s1 : ∀ k, k < 65 → k ≠ 7 → k ≠ 8 → k ≠ 24 → k ≠ 26 → k ≠ 30 → S'.1 k = S.1 k) (s2 : ∀ k, k < 72 → S'.2 k = S.2 k) (o : ∀ k, (11 ≤ k ∧ k ≤ 18) ∨ (28 ≤ k ∧ k ≤ 37) ∨ k = 43 → T'.1 k = T.1 k) (o2 : ∀ j, T'.2 30 j = T.2 30 j) : ∀ (xs : List It) (t c a lo : Nat), JL X S T xs t c a lo → JL X S' T' xs t c a lo := by
  intro xs
  induction xs with
  | nil => intro t c a lo _; trivial
  | cons x xs ih =>
    intro t c a lo h
    obtain ⟨z, m, h1, h2⟩ := h
    exact ⟨z, m, h1.st s1 s2 o o2, ih _ _ _ _ h2⟩
theorem HnU.st (h : HnU S t c m) (h15 : S'.1 15 = S.1 15) (h16 : S'.2 16 = S.2 16) (h21 : S'.2 21 = S.2 21) : HnU S' t c m := by
  unfold HnU
  rw [h15, h16, h21]
  exact h
/-- names of heads that passed differ; dead never tells 'H' -/
theorem hds_nu : ∀ (xs : List It) (t c a lo : Nat) (S : gSt), JL X S T xs t c a lo → (hdsL X xs t c S).1 7 0 = 0 → NuL (hdsL X xs t c S) xs t c := by
  intro xs
  induction xs with
  | nil => intro t c a lo S _ _; trivial
  | cons x xs ih =>
    intro t c a lo S h h7
    obtain ⟨z, m, h1, h2⟩ := h
    have h0 : S.1 7 0 = 0 := (FH.hds (X := X) (x :: xs) t c S).ok h7
    rw [hdsL, if_pos h0] at h7 ⊢
    have f1 : FH S (hdI X t c x S) := FH.hd
    have f2 := FH.hds (X := X) xs (t + 1) (c + x.2.2.1.length) (hdI X t c x S)
    have f12 := f1.tr f2
    have h71 := f2.ok h7
    have fr := hds_30 (X := X) xs (t + 1) (c + x.2.2.1.length) (hdI X t c x S) t (by omega)
    obtain ⟨i, e, l, rt, dt, n, wt, w, b⟩ := x
    have l8 : l.length ≤ 8 := h1.2.1.2.2.2.2.2.1
    have nu := hd_nm (X := X) (it := t) (c := c) (l := l) (rt := rt) (n := n) (w := w) (S := S) h71 l8 h1.1.2.2.2.2.2.1
    refine ⟨nu.st (f12.1 15 (by omega) (by omega) (by omega) (by omega) (by omega) (by omega)) (f12.2.1 16 (by omega)) (f12.2.1 21 (by omega)), fun q => ?_, ih (t + 1) (c + l.length) z m _ (JL.st f1.1 f1.2.1 (fun _ _ => rfl) (fun _ => rfl) xs _ _ _ _ h2) h7⟩
    rw [fr]
    have e12 : S.1 12 t = 2 := by rw [← q, f12.1 12 (by omega) (by omega) (by omega) (by omega) (by omega) (by omega)]
    show fi ((tlS X t rt n w (fdL X c l l.length 0 (hdA t S))).1 30 t) 0 = false
    have fA : FH S (fdL X c l l.length 0 (hdA t S)) := FH.hA.tr (FH.fd _ _ _)
    unfold tlS
    rw [fA.1 12 (by omega) (by omega) (by omega) (by omega) (by omega) (by omega), e12, if_pos (by decide), whL_o 30 (by omega) (by omega)]
    have e15 : (S.1 15 t).toNatClampNeg ≤ 3 := by
      have := h1.1.2.2.2.1
      rw [this, nc (by have := h1.1.2.2.1; omega)]
      exact h1.1.2.2.1
    refine de_0 (S := S) e15 n 0 _ ?_ ?_
    · rw [(FH.rts (X := X) (it := t) (rt := rt)).1 15 (by omega) (by omega) (by omega) (by omega) (by omega) (by omega), fA.1 15 (by omega) (by omega) (by omega) (by omega) (by omega) (by omega)]
    · unfold rtS
      split
      · rw [sI_v, fi_0]
      · rw [sI_v, fi_0]
end JLL
