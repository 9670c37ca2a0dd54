/-! behind the heads: what funs lean on, both sides -/
section FST
variable {S S' T T' T1 T2 : gSt} {X : Lx} {nf d it e v g n k i u c m lo hi a z z0 n0 y p q r j s f t fl rt dt wt w : Nat} {x op : Int32} {nm : Int64} {b : Tr} {l : List Nat} {xi : It} {xs : List It} {R : RgR}
theorem c88.wi (hk : k < 88) : c88 S (sI S k j x) := fun g hg => sI_ne (by omega)
theorem c88.de : ∀ (m j : Nat) (S : gSt), c88 S (deL t m j S) := by
  intro m
  induction m with
  | zero => intro j S; exact c88.rf
  | succ m ih =>
    intro j S
    rw [deL]
    split
    · refine c88.go ?_ (ih _ _)
      unfold deS
      split
      · split
        · exact c88.fl
        · exact c88.wi (by omega)
      · exact c88.fl
    · exact c88.rf
theorem c88.fd : ∀ (k j : Nat) (S : gSt), c88 S (fdL X c l k j S) := by
  intro k
  induction k with
  | zero => intro j S; exact c88.rf
  | succ k ih =>
    intro j S
    rw [fdL]
    split
    · refine c88.go ?_ (ih _ _)
      unfold fdS
      refine c88.go (c88.go (T1 := fdN c l.length (xN X (l.getD j 0)) j (nI (xP X (l.getD j 0))) S) ?_ (c88.me _ _ _)) (c88.wi (by omega))
      exact fun g hg => fdN_o g (by omega) (by omega)
    · exact c88.rf
theorem c88.hd : c88 S (hdI X t c xi S) := by
  have A : c88 S (hdA t S) := by
    unfold hdA sgS
    refine c88.go (T1 := nmS t S) ?_ (c88.go (T1 := drL t (S.1 15 t).toNatClampNeg 0 (nmS t S)) (fun g hg => drL_o g (by omega) (by omega) _ _ _) (c88.go (c88.wi (k := 71) (by omega)) (fun g hg => sgL_o g (by omega) (by omega) _ _ _)))
    unfold nmS
    split
    · exact c88.rf
    · exact c88.fl
  have B : ∀ S : gSt, c88 S (tlS X t xi.2.2.2.1 xi.2.2.2.2.2.1 xi.2.2.2.2.2.2.2.1 S) := by
    intro S
    unfold tlS
    split
    · refine c88.go (T1 := rtS X t xi.2.2.2.1 S) ?_ (c88.go (c88.de _ _ _) (fun g hg => whL_o g (by omega) (by omega) _ _ _))
      unfold rtS
      split
      · exact c88.go (c88.wi (by omega)) (c88.wi (by omega))
      · exact c88.go (c88.go (c88.me _ _ _) (c88.wi (by omega))) (c88.wi (by omega))
    · exact c88.rf
  unfold hdI hdS
  exact c88.go (c88.go A (c88.fd _ _ _)) (B _)
theorem c88.hds : ∀ (xs : List It) (t c : Nat) (S : gSt), c88 S (hdsL X xs t c S) := by
  intro xs
  induction xs with
  | nil => intro t c S; exact c88.rf
  | cons x xs ih =>
    intro t c S
    rw [hdsL]
    split
    · exact c88.go c88.hd (ih _ _ _)
    · exact c88.rf
theorem JI.pr (hX : XO X) (h : JI X S T t c xi a z lo m) : PrR X S T t c xi.2.2.1 := by
  obtain ⟨i, e, l, rt, dt, n, wt, w, b⟩ := xi
  obtain ⟨⟨x1, x2, x3, x4, x5, x6, x7, x8⟩, ⟨y1, y2, y3, y4, y5, y6, y7, y8, y9, y10⟩, a3, a4, a5, a6, a7, a8, a9, a10, a11, a12⟩ := h
  obtain ⟨k1, k2, k3, k4, _⟩ := a10
  refine ⟨y5, y6, fun k hk => ⟨?_, ?_, x6 k hk, a9.1.2.2.1 k hk, Nat.le_trans (k4 k hk).2 a11⟩⟩
  · have := y7 k hk
    rw [show 8 * t + 0 + k = 8 * t + k by omega] at this
    exact this
  · have w1 := (k4 k hk).2
    have w2 := tyE_ge (X := X) 6 (l.getD k 0 + 2)
    show l.getD k 0 < xn X
    omega
/-- an item's head, checked: what EXPRS ask for -/
theorem ji_ai (hX : XO X) (ht : t < 24) (h : JI X S T t c xi a z lo m) (hc : HcR X S T t c xi) (h26 : S.1 12 t = 2 → xi.2.2.2.1 = 0 → S.1 26 t = -1) : AiO X S T t ∧ WJ X T t := by
  have hp := h.pr hX
  have w3 := hgO_w h.2.2.2.2.2.2.2.2.1.1
  have hp0 := hp
  obtain ⟨i, e, l, rt, dt, n, wt, w, b⟩ := xi
  obtain ⟨⟨x1, x2, x3, x4, x5, x6, x7, x8⟩, hT, a3, a4, a5, a6, a7, a8, a9, a10, a11, a12⟩ := h
  obtain ⟨k1, k2, k3, k4, _⟩ := a10
  have hT0 := hT
  obtain ⟨y1, y2, y3, y4, y5, y6, y7, y8, y9, y10⟩ := hT
  refine ⟨⟨c, (i, e, l, rt, dt, n, wt, w, b), hT0, hp, hc, x1, k3, a4, by omega, a5, a8, w3, fun q q2 => h26 q2 (a7.mp q)⟩, ?_⟩
  obtain ⟨h1, h2, h3, h4⟩ := hc
  obtain ⟨p1, p2, p3⟩ := hp0
  refine ⟨l.length, ⟨p1, p2, fun k hk => ⟨l.getD k 0, (p3 k hk).1, (p3 k hk).2.1⟩⟩, fun q hq => ?_, ?_, ⟨e, y4, x3⟩, ?_⟩
  · obtain ⟨y, z1, z2, z3, _⟩ := h1 q hq
    exact ⟨y, z1, z3.yy⟩
  · by_cases q : xK X i = 12
    · obtain ⟨⟨y, z1, z2, z3⟩, _⟩ := h3 q
      exact ⟨y, z1, z3.yy⟩
    · exact ⟨0, (h4 q).1, Or.inl (by omega)⟩
  · by_cases q : xK X i = 12
    · obtain ⟨_, _, b2, _, b4⟩ := h3 q
      refine ⟨w, b2, w3, fun q hq => ?_⟩
      obtain ⟨r, s, r1, r2, s1, s2, _, _, r5⟩ := b4 q hq
      exact ⟨r, s, r1, r2, s1, s2, r5⟩
    · exact ⟨0, (h4 q).2, by omega, fun q hq => absurd hq (Nat.not_lt_zero _)⟩
theorem ai_mk (hX : XO X) : ∀ (xs : List It) (t c a lo : Nat), t + xs.length ≤ 24 → JL X S T xs t c a lo → HcL X S T xs t c → (∀ q x, xs[q]? = some x → S.1 12 (t + q) = 2 → x.2.2.2.1 = 0 → S.1 26 (t + q) = -1) → ∀ s, t ≤ s → s < t + xs.length → AiO X S T s ∧ WJ X T s := by
  intro xs
  induction xs with
  | nil => intro t c a lo _ _ _ _ s h1 h2; rw [List.length_nil] at h2; omega
  | cons x xs ih =>
    intro t c a lo hl h hc h26 s s1 s2
    obtain ⟨z, m, h1, h2⟩ := h
    rw [List.length_cons] at s2 hl
    by_cases q : s = t
    · subst q
      exact ji_ai hX (by omega) h1 hc.1 (h26 0 x rfl)
    · exact ih (t + 1) _ _ _ (by omega) h2 hc.2 (fun q y hy => by
        have := h26 (q + 1) y hy
        rw [show t + (q + 1) = t + 1 + q by omega] at this
        exact this) s (by omega) (by omega)
theorem fi_mk (hi : inn S ≤ 24) : ∀ (xs : List It) (t c a lo : Nat), t + xs.length ≤ inn S → JL X S T xs t c a lo → HcL X S T xs t c → NuL S xs t c → FiL X S T xs t c := by
  intro xs
  induction xs with
  | nil => intro t c a lo _ _ _ _; trivial
  | cons x xs ih =>
    intro t c a lo hl h hc hn
    obtain ⟨z, m, h1, h2⟩ := h
    rw [List.length_cons] at hl
    refine ⟨fun q => ?_, ih (t + 1) _ _ _ (by omega) h2 hc.2 hn.2.2⟩
    obtain ⟨a1, a2, a3, a4, a5, a6, a7, a8, a9, a10, a11, a12⟩ := h1
    obtain ⟨i, e, l, rt, dt, n, wt, w, b⟩ := x
    have q' : xK X i = 12 := q
    have e12 : S.1 12 t = 2 := by rw [a1.1, if_neg (by omega), if_neg (by omega)]
    exact ⟨a1, hc.1, hn.1, hn.2.1 e12, by omega, a4, by omega, a5, (a12 q).2⟩
end FST
