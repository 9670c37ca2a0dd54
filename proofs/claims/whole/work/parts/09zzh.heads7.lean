/-! heads: what they have settled where no fault was told -/
def TD (S : gSt) (x : Int32) : Prop := tV S x ∧ dOk S 7 x
def itG (S : gSt) (t c : Nat) (z : It) : Prop := (∀ f, f < z.2.2.1.length → TD S (S.1 24 (c + f))) ∧ (0 ≤ S.1 25 t → TD S (S.1 26 t)) ∧ (∀ k, k < 2 * z.2.2.2.2.2.2.2.1 → ∃ a, roI S t (S.2 32 (6 * t + k)) = nI a ∧ 1 ≤ a ∧ a ≤ z.2.1)
def itGs (S : gSt) : List It → Nat → Nat → Prop
  | [], _, _ => True
  | x :: xs, t, c => itG S t c x ∧ itGs S xs (t + 1) (c + x.2.2.1.length)
section HL
variable {nf d : Nat} {T T' T1 S S' : gSt} {X : Lx} {it r k j c n tk w i f rt t : Nat} {l : List Nat} {x y : Int32} {z : It}
theorem dOk.s1 : ∀ (f : Nat) (x : Int32), dOk T f x → dOk T (f + 1) x := by
  intro f
  induction f with
  | zero => intro x h hx; exact absurd hx h
  | succ f ih =>
    intro x h hx
    obtain ⟨p, e, h1, h2, h3⟩ := h hx
    refine ⟨p, e, h1, h2, ?_⟩
    by_cases c : 0 ≤ T.1 69 p
    · rw [if_pos c] at h3 ⊢; exact h3
    · rw [if_neg c] at h3 ⊢; exact ih _ h3
theorem TD.fh (h : TD T x) (hF : FH T T') (hg : Tg T) (hc : cn T' < 6000) : TD T' x := ⟨h.1.up (hF.2.2.1 hg).2.1, dOk.up (hF.2.2.1 hg).2.1 (hF.1 15 (by omega) (by omega) (by omega) (by omega) (by omega) (by omega)) ((hF.2.2.1 hg).2.2 hc) 7 x h.2⟩
theorem FH.ok (h : FH T T') (c : T'.1 7 0 = 0) : T.1 7 0 = 0 := Decidable.byContradiction fun q => h.2.2.2 q c
theorem FE.k24 (h : FE T T') : T'.1 24 = T.1 24 := h.1 24 (by omega)
theorem fdN_o {v : Int64} (g : Nat) (h : g ≠ 7) (h2 : g ≠ 8) : (fdN c n v j x T).1 g = T.1 g := by
  unfold fdN
  split
  · rfl
  · exact flT_o h h2
theorem fdS_24 {q : Nat} (h : q ≠ c + j) : (fdS X c n tk j T).1 24 q = T.1 24 q := by
  unfold fdS
  rw [rdI, if_neg (fun e => h e.2), (FE.me _ _ _).1 24 (by omega), fdN_o 24 (by omega) (by omega)]
theorem fdL_24 {q : Nat} : ∀ (k j : Nat) (T : gSt), q < c + j ∨ c + j + k ≤ q → (fdL X c l k j T).1 24 q = T.1 24 q := by
  intro k
  induction k with
  | zero => intro j T _; rfl
  | succ k ih =>
    intro j T h
    rw [fdL]
    split
    · rw [ih (j + 1) _ (by omega), fdS_24 (by omega)]
    · rfl
theorem fdS_td (h : Ckm T) (hw : tyW X 6 (tk + 2)) (hc : cn (fdS X c n tk j T) < 6000) (h0 : (fdS X c n tk j T).1 7 0 = 0) : TD (fdS X c n tk j T) ((fdS X c n tk j T).1 24 (c + j)) := by
  have e24 : (fdS X c n tk j T).1 24 (c + j) = (meX X 6 (fdN c n (xN X tk) j (nI (xP X tk)) T) (tk + 2)).1 := by unfold fdS; rw [rdI, if_pos ⟨rfl, rfl⟩]
  rw [e24]
  unfold fdS at hc h0 ⊢
  rw [cn_w (by omega)] at hc
  rw [sI_ne (by omega)] at h0
  have m := me_ok 6 _ _ hw h.fdn hc
  have m2 := m.2 h0
  exact TD.fh ⟨m2.1, dOk.s1 _ _ m2.2⟩ (FH.wr (by omega)) m.1.1 (by rw [cn_w (by omega)]; exact hc)
theorem fd_td (hY : ∀ j, j < l.length → tyW X 6 (l.getD j 0 + 2)) : ∀ (k j : Nat) (S : gSt), j + k = l.length → Ckm S → cn (fdL X c l k j S) < 6000 → (fdL X c l k j S).1 7 0 = 0 → (∀ f, f < j → TD S (S.1 24 (c + f))) → ∀ f, f < l.length → TD (fdL X c l k j S) ((fdL X c l k j S).1 24 (c + f)) := by
  intro k
  induction k with
  | zero => intro j S hj _ _ _ h f hf; exact h f (by omega)
  | succ k ih =>
    intro j S hj h hcc h0 hp
    have s0 : S.1 7 0 = 0 := (FH.fd _ _ _).ok h0
    rw [fdL] at hcc h0 ⊢
    rw [if_pos s0] at hcc h0 ⊢
    have fh1 : FH S (fdS X c l.length (l.getD j 0) j S) := FH.fds
    have c1 := (FH.fd (X := X) (c := c) (l := l) k (j + 1) _).lt (fh1.tg h.1) hcc
    have ck1 := fdS_ck h (hY j (by omega)) c1
    refine ih (j + 1) _ (by omega) ck1 hcc h0 ?_
    intro f hf
    by_cases e : f = j
    · subst e
      exact fdS_td h (hY f (by omega)) c1 ((FH.fd _ _ _).ok h0)
    · rw [fdS_24 (by omega)]
      exact (hp f (by omega)).fh fh1 h.1 c1
theorem roI_v (h15 : S.1 15 t = nI r) (hr : r ≤ 3) {nm : Int64} (h : 0 ≤ roI S t nm) : ∃ a, roI S t nm = nI a ∧ 1 ≤ a ∧ a ≤ r := by
  unfold roI at h ⊢
  rw [h15, nc (by omega)] at h ⊢
  rcases ff_val (p := isRi S t nm) (k := r) (i := 0) with hv | ⟨j, g1, g2, g3, g4⟩
  · rw [hv, if_pos rfl] at h
    exact absurd h (by decide)
  · rw [g4, if_neg (nI_m1 (by omega)), nI_1]
    exact ⟨j + 1, rfl, by omega, by omega⟩
theorem wh_ok : ∀ (k j : Nat) (S : gSt), (whL it k j S).1 7 0 = 0 → whL it k j S = S ∧ ∀ q, j ≤ q → q < j + k → 0 ≤ roI S it (S.2 32 (6 * it + q)) := by
  intro k
  induction k with
  | zero => intro j S _; exact ⟨rfl, fun q h1 h2 => by omega⟩
  | succ k ih =>
    intro j S h
    have s0 : S.1 7 0 = 0 := (FH.wh _ _ _).ok h
    rw [whL] at h ⊢
    rw [if_pos s0] at h ⊢
    have s1 := (FH.wh k (j + 1) _).ok h
    by_cases c : 0 ≤ roI S it (S.2 32 (6 * it + j))
    · have e : whS it j S = S := by unfold whS; rw [if_pos c]
      rw [e] at h ⊢
      obtain ⟨i1, i2⟩ := ih (j + 1) S h
      refine ⟨i1, fun q h1 h2 => ?_⟩
      by_cases e2 : q = j
      · subst e2; exact c
      · exact i2 q (by omega) (by omega)
    · unfold whS at s1
      rw [if_neg c] at s1
      exact absurd s1 (flT_bad (by decide))
/-- a head's own: no fault behind it -/
theorem hd_it (hI : HI X T t c z) (hk : ¬ 2 ≤ T.1 12 t → z.2.2.2.1 = 0 ∧ z.2.2.2.2.2.2.2.1 = 0) (h : Ck0 T) (hc : cn (hdI X t c z T) < 6000) (h0 : (hdI X t c z T).1 7 0 = 0) : itG (hdI X t c z T) t c z := by
  obtain ⟨i, e, l, rt, dt, n, wt, w, b⟩ := z
  obtain ⟨hY, hO⟩ := hI
  have hY : HY X T t c l := hY
  have hO : HO X T t rt n w e := hO
  have hk : ¬ 2 ≤ T.1 12 t → rt = 0 ∧ w = 0 := hk
  have eH : hdI X t c (i, e, l, rt, dt, n, wt, w, b) T = tlS X t rt n w (fdL X c l l.length 0 (hdA t T)) := rfl
  rw [eH] at hc h0 ⊢
  have h1 := h.hA hO.2.1 hO.2.2.1
  have fF := FH.fd (X := X) (c := c) (l := l) l.length 0 (hdA t T)
  have c1 : cn (fdL X c l l.length 0 (hdA t T)) < 6000 := FH.tl.lt (fF.tg h1.1) hc
  have ty := fun j hj => (hY.2.2.2.2.2.2.1 j hj).1
  have ck := Ckm.fd (c := c) ty _ _ _ (Nat.zero_add _) h1 c1
  have td := fd_td (c := c) ty _ _ _ (Nat.zero_add _) h1 c1 (FH.tl.ok h0) (fun f hf => by omega)
  generalize hS : fdL X c l l.length 0 (hdA t T) = S at *
  have fS : FH T S := hS ▸ FH.hA.tr (FH.fd _ _ _)
  have hO2 := hO.fh fS
  have ft : FH S (tlS X t rt n w S) := FH.tl
  have hO3 := hO2.fh ft
  have e12 : S.1 12 t = T.1 12 t := by rw [fS.1 12 (by omega) (by omega) (by omega) (by omega) (by omega) (by omega)]
  have e24 : (tlS X t rt n w S).1 24 = S.1 24 := by
    unfold tlS
    split
    · rw [whL_o 24 (by omega) (by omega), deL_o 24 (by omega) (by omega) (by omega)]
      unfold rtS
      split
      · rw [sI_ne (by omega), sI_ne (by omega)]
      · rw [sI_ne (by omega), sI_ne (by omega), (FE.me _ _ _).1 24 (by omega)]
    · rfl
  refine ⟨fun f hf => ?_, fun h25 => ?_, fun k hk2 => ?_⟩
  · rw [e24]
    exact (td f hf).fh ft ck.1 hc
  · by_cases c12 : 2 ≤ S.1 12 t
    · unfold tlS at hc h0 h25 ⊢
      rw [if_pos c12] at hc h0 h25 ⊢
      have hw := (wh_ok _ _ _ h0).1
      rw [hw] at hc h0 h25 ⊢
      have hR := hO2.1
      by_cases zr : rt = 0
      · have := hO3.1
        unfold HR tlS at this
        rw [if_pos zr, if_pos c12, hw] at this
        rw [this] at h25
        exact absurd h25 (by decide)
      · have fd : FH (rtS X t rt S) (deL t n 0 (rtS X t rt S)) := FH.de _ _ _
        have cr := fd.lt (FH.rts.tg ck.1) hc
        have r0 := fd.ok h0
        rw [deL_o 26 (by omega) (by omega) (by omega)]
        unfold rtS at cr r0 fd hc ⊢
        rw [if_neg zr] at cr r0 fd hc ⊢
        have cm := cr
        rw [cn_w (by omega), cn_w (by omega)] at cm
        rw [sI_ne (by omega), sI_ne (by omega)] at r0
        have m := me_ok 6 _ _ (hR.ty zr) ck cm
        have m2 := m.2 r0
        rw [sI_ne (by omega), rdI, if_pos ⟨rfl, rfl⟩]
        have w2 : FH (meX X 6 S rt).2 (sI (sI (meX X 6 S rt).2 26 t (meX X 6 S rt).1) 30 t 0) := (FH.wr (by omega)).tr (FH.wr (by omega))
        exact TD.fh (TD.fh ⟨m2.1, dOk.s1 _ _ m2.2⟩ w2 m.1.1 cr) fd (w2.tg m.1.1) hc
    · have := hO3.1
      unfold HR at this
      rw [if_pos (hk (e12 ▸ c12)).1] at this
      rw [this] at h25
      exact absurd h25 (by decide)
  · by_cases c12 : 2 ≤ S.1 12 t
    · refine roI_v hO3.2.1 hO3.2.2.1 ?_
      unfold tlS at h0 ⊢
      rw [if_pos c12] at h0 ⊢
      obtain ⟨w1, w2⟩ := wh_ok _ _ _ h0
      rw [w1]
      exact w2 k (by omega) (by have : k < 2 * w := hk2; omega)
    · have : k < 2 * w := hk2
      have := (hk (e12 ▸ c12)).2
      omega
theorem itG.fh (h : itG T t c z) (hF : FH T T') (hg : Tg T) (hc : cn T' < 6000) (h24 : ∀ q, q < c + z.2.2.1.length → T'.1 24 q = T.1 24 q) (h26 : T'.1 26 t = T.1 26 t) : itG T' t c z := by
  obtain ⟨a1, a2, a3⟩ := h
  refine ⟨fun f hf => ?_, fun q => ?_, fun k hk => ?_⟩
  · rw [h24 _ (by omega)]
    exact (a1 f hf).fh hF hg hc
  · rw [hF.1 25 (by omega) (by omega) (by omega) (by omega) (by omega) (by omega)] at q
    rw [h26]
    exact (a2 q).fh hF hg hc
  · rw [hF.2.1 32 (by omega)]
    have : ∀ nm, roI T' t nm = roI T t nm := fun nm => by
      have e : isRi T' t nm = isRi T t nm := by
        funext q
        unfold isRi
        rw [hF.2.1 16 (by omega)]
      unfold roI
      rw [e, hF.1 15 (by omega) (by omega) (by omega) (by omega) (by omega) (by omega)]
    rw [this]
    exact a3 k hk
theorem hd_fr : (∀ q, q < c → (hdI X t c z T).1 24 q = T.1 24 q) ∧ (∀ q, q ≠ t → (hdI X t c z T).1 26 q = T.1 26 q) := by
  have A : ∀ g, g = 24 ∨ g = 26 → (hdA t T).1 g = T.1 g := by
    intro g hg
    unfold hdA sgS
    rw [sgL_o g (by omega) (by omega), sI_ne (by omega), drL_o g (by omega) (by omega)]
    unfold nmS
    split
    · rfl
    · exact flT_o (by omega) (by omega)
  have B : ∀ S : gSt, (tlS X t z.2.2.2.1 z.2.2.2.2.2.1 z.2.2.2.2.2.2.2.1 S).1 24 = S.1 24 ∧ ∀ q, q ≠ t → (tlS X t z.2.2.2.1 z.2.2.2.2.2.1 z.2.2.2.2.2.2.2.1 S).1 26 q = S.1 26 q := by
    intro S
    unfold tlS
    split
    · refine ⟨?_, fun q hq => ?_⟩
      · rw [whL_o 24 (by omega) (by omega), deL_o 24 (by omega) (by omega) (by omega)]
        unfold rtS
        split
        · rw [sI_ne (by omega), sI_ne (by omega)]
        · rw [sI_ne (by omega), sI_ne (by omega), (FE.me _ _ _).1 24 (by omega)]
      · rw [whL_o 26 (by omega) (by omega), deL_o 26 (by omega) (by omega) (by omega)]
        unfold rtS
        split
        · rw [sI_ne (by omega), rdI, if_neg (fun e => hq e.2)]
        · rw [sI_ne (by omega), rdI, if_neg (fun e => hq e.2), (FE.me _ _ _).1 26 (by omega)]
    · exact ⟨rfl, fun _ _ => rfl⟩
  have C26 : ∀ (k j : Nat) (S : gSt), (fdL X c z.2.2.1 k j S).1 26 = S.1 26 := by
    intro k
    induction k with
    | zero => intro j S; rfl
    | succ k ih =>
      intro j S
      rw [fdL]
      split
      · rw [ih]
        unfold fdS
        rw [sI_ne (by omega), (FE.me _ _ _).1 26 (by omega), fdN_o 26 (by omega) (by omega)]
      · rfl
  refine ⟨fun q hq => ?_, fun q hq => ?_⟩
  · unfold hdI hdS
    rw [(B _).1, fdL_24 _ _ _ (by omega), A 24 (by omega)]
  · unfold hdI hdS
    rw [(B _).2 q hq, C26, A 26 (by omega)]
theorem hds_fr : ∀ (xs : List It) (t c : Nat) (S : gSt), (∀ q, q < c → (hdsL X xs t c S).1 24 q = S.1 24 q) ∧ (∀ q, q < t → (hdsL X xs t c S).1 26 q = S.1 26 q) := by
  intro xs
  induction xs with
  | nil => intro t c S; exact ⟨fun _ _ => rfl, fun _ _ => rfl⟩
  | cons x xs ih =>
    intro t c S
    rw [hdsL]
    split
    · have i := ih (t + 1) (c + x.2.2.1.length) (hdI X t c x S)
      have f := hd_fr (X := X) (t := t) (c := c) (z := x) (T := S)
      exact ⟨fun q hq => (i.1 q (by omega)).trans (f.1 q hq), fun q hq => (i.2 q (by omega)).trans (f.2 q (by omega))⟩
    · exact ⟨fun _ _ => rfl, fun _ _ => rfl⟩
/-- a struct or union has no result and no where -/
def Kn (S : gSt) : List It → Nat → Prop
  | [], _ => True
  | x :: xs, t => (¬ 2 ≤ S.1 12 t → x.2.2.2.1 = 0 ∧ x.2.2.2.2.2.2.2.1 = 0) ∧ Kn S xs (t + 1)
theorem Kn.fh (hF : FH T T') : ∀ (xs : List It) (t : Nat), Kn T xs t → Kn T' xs t := by
  intro xs
  induction xs with
  | nil => intro t _; trivial
  | cons x xs ih =>
    intro t h
    refine ⟨?_, ih _ h.2⟩
    rw [hF.1 12 (by omega) (by omega) (by omega) (by omega) (by omega) (by omega)]
    exact h.1
theorem hds_it : ∀ (xs : List It) (t c : Nat) (S : gSt), HIs X S xs t c → Kn S xs t → Ck0 S → cn (hdsL X xs t c S) < 6000 → (hdsL X xs t c S).1 7 0 = 0 → Ck0 (hdsL X xs t c S) ∧ itGs (hdsL X xs t c S) xs t c := by
  intro xs
  induction xs with
  | nil => intro t c S _ _ h _ _; exact ⟨h, trivial⟩
  | cons x xs ih =>
    intro t c S hI hK h hc h0
    have s0 : S.1 7 0 = 0 := (FH.hds _ _ _ _).ok h0
    rw [hdsL] at hc h0 ⊢
    rw [if_pos s0] at hc h0 ⊢
    have fh : FH S (hdI X t c x S) := FH.hd
    have fr := FH.hds (X := X) xs (t + 1) (c + x.2.2.1.length) (hdI X t c x S)
    have c1 := fr.lt (fh.tg h.1) hc
    have ck := hd_ck hI.1.1 hI.1.2 h c1
    have own := hd_it hI.1 hK.1 h c1 (fr.ok h0)
    have i := ih (t + 1) (c + x.2.2.1.length) _ (HIs.fh fh _ _ _ hI.2) (Kn.fh fh _ _ hK.2) ck.to0 hc h0
    have f2 := hds_fr (X := X) xs (t + 1) (c + x.2.2.1.length) (hdI X t c x S)
    exact ⟨i.1, own.fh fr ck.1 hc f2.1 (f2.2 t (by omega)), i.2⟩
theorem itOk_of {xs : List It} : ∀ (xs : List It) (t c : Nat), HIs X T xs t c → itGs T xs t c → ∀ q, t ≤ q → q < t + xs.length → itOk T q := by
  intro xs
  induction xs with
  | nil => intro t c _ _ q h1 h2; rw [List.length_nil] at h2; omega
  | cons x xs ih =>
    intro t c hI hG q h1 h2
    rw [List.length_cons] at h2
    by_cases e : q = t
    · subst e
      obtain ⟨hY, hO⟩ := hI.1
      obtain ⟨g1, g2, g3⟩ := hG.1
      exact ⟨c, x.2.2.1.length, x.2.1, x.2.2.2.2.2.2.2.1, hY.2.1, hY.2.2.1, hY.2.2.2.1, hY.2.2.2.2.1, hO.2.1, hO.2.2.1, hO.2.2.2.2.2.1, hO.2.2.2.2.2.2, g1, g2, g3⟩
    · exact ih (t + 1) _ hI.2 hG.2 q (by omega) (by omega)
end HL
