/-! what a written TYPE means -/
def kdT (X : Lx) (i : Nat) : Int32 := if xK X i = 59 then 1 else if xK X i = 55 then 2 else 3
abbrev tiQ (X : Lx) (i : Nat) : Prop := xK X i ≠ 60 ∧ xK X (i + 2) = 3
def tiS (X : Lx) (T : gSt) (i : Nat) : gSt := if 0 ≤ ff (isTi T (xN X (i + 2))) 0 (inn T) then (if T.1 15 (ff (isTi T (xN X (i + 2))) 0 (inn T)).toNatClampNeg = nI (rgs (xK X) 3 (i + 3)) then T else flT T 7 (nI (xP X (i + 2)))) else flT T 3 (nI (xP X (i + 2)))
def meX (X : Lx) : Nat → gSt → Nat → Int32 × gSt
  | 0, T, _ => (0, T)
  | f + 1, T, i => if T.1 7 0 = 0 then (if xK X i = 26 then (0, T) else if 0 ≤ rgQ X T (i + 1) then
      (if tiQ X i then (if (waX X (rgs (xK X) 3 (i + 3)) (tiS X T i) (i + 3) 0 0).2.1 7 0 = 0 then kn (waX X (rgs (xK X) 3 (i + 3)) (tiS X T i) (i + 3) 0 0).2 (kdT X i, rgQ X T (i + 1), -1, ff (isTi T (xN X (i + 2))) 0 (inn T), (waX X (rgs (xK X) 3 (i + 3)) (tiS X T i) (i + 3) 0 0).1) else (0, (waX X (rgs (xK X) 3 (i + 3)) (tiS X T i) (i + 3) 0 0).2))
      else (if (meX X f T (i + 2)).2.1 7 0 = 0 then kn (meX X f T (i + 2)).2 (kdT X i, rgQ X T (i + 1), (meX X f T (i + 2)).1, -1, 0) else (0, (meX X f T (i + 2)).2)))
    else (0, flT T 3 (nI (xP X (i + 1))))) else (0, T)
/-- the token behind a written TYPE -/
def tyE (X : Lx) : Nat → Nat → Nat
  | 0, i => i
  | f + 1, i => if xK X i = 26 then i + 1 else if tiQ X i then i + 3 + rgs (xK X) 3 (i + 3) else tyE X f (i + 2)
/-- what the reading of TYPES leans on -/
def Ckm (T : gSt) : Prop := Tg T ∧ Rws T ∧ (Rg T ∧ ∀ k, k < rn T → rC2 (T.1 73 k)) ∧ (T.1 11 0 = nI (inn T) ∧ inn T ≤ 24 ∧ ∀ t, t < inn T → ∃ r, T.1 15 t = nI r ∧ r ≤ 3)
section MN
variable {nf d : Nat} {T T' T1 S : gSt} {X : Lx} {m n p u i k e l lo hi a b s f q v f0 c : Nat} {x y r w all z rg : Int32}
theorem Ck.toM (h : Ck T) : Ckm T := ⟨h.1, h.2.1, h.2.2.1, h.2.2.2.2.1.1, h.2.2.2.2.1.2.1, fun t ht => by
  obtain ⟨c, m, r, w, b1, b2, b3, b4, b5, b6, b7⟩ := h.2.2.2.2.1.2.2 t ht
  exact ⟨r, b5, b6⟩⟩
theorem FE.ti : FE T (tiS X T i) := by
  unfold tiS
  exact FE.if2 (FE.fi (by decide)) (FE.fl (by decide))
theorem FE.me : ∀ (f : Nat) (T : gSt) (i : Nat), FE T (meX X f T i).2 := by
  intro f
  induction f with
  | zero => intro T i; exact FE.rf
  | succ f ih =>
    intro T i
    rw [meX]
    repeat' split
    · exact FE.rf
    · exact (FE.ti.tr (FE.wa _ _ _ _)).tr FE.kn
    · exact FE.ti.tr (FE.wa _ _ _ _)
    · exact (ih _ _).tr FE.kn
    · exact ih _ _
    · exact FE.fl (by decide)
    · exact FE.rf
theorem Ckm.st (h : Ckm T) (hF : FE T T') (hR : Rws T') : Ckm T' := by
  obtain ⟨a1, a2, ⟨a3, a4⟩, a5, a6, a7⟩ := h
  refine ⟨hF.tg a1, hR, ⟨⟨?_, ?_⟩, ?_⟩, ?_, ?_, ?_⟩
  · rw [hF.ern, hF.1 71 (by omega)]; exact a3.1
  · rw [hF.ern]; exact a3.2
  · intro k hk
    rw [hF.ern] at hk
    rw [hF.1 73 (by omega)]
    exact a4 k hk
  · rw [hF.einn, hF.1 11 (by omega)]; exact a5
  · rw [hF.einn]; exact a6
  · intro t ht
    rw [hF.einn] at ht
    rw [hF.1 15 (by omega)]
    exact a7 t ht
theorem Ckm.fl (h : Ckm T) (ha : ¬ x = 0) : Ckm (flT T x y) := h.st (FE.fl ha) h.2.1.fl
theorem Ckm.kn {z : T5} (h : Ckm T) (hz : rwOk T (cn T) z) (hc : cn (knS T z) < 6000) : Ckm (knS T z) ∧ ∃ p, knR T z = nI p ∧ 1 ≤ p ∧ p < cn (knS T z) ∧ rwT (knS T z) p = z := ⟨h.st FE.kn (Rws.kn h.1 h.2.1 hz hc).1, (Rws.kn h.1 h.2.1 hz hc).2⟩
theorem rgQ_ok (h : Ckm T) (hq : 0 ≤ rgQ X T q) : rC2 (rgQ X T q) := by
  have z : rC2 0 := ⟨0, rfl, by omega⟩
  have key : ∀ (w : Int64) (n : Nat), n ≤ rn T → rgV T w n = -1 ∨ rC2 (rgV T w n) := by
    intro w n
    induction n with
    | zero => intro _; exact Or.inl rfl
    | succ n ih =>
      intro hn
      rw [rgV]
      by_cases c : isRg T w n = true
      · rw [if_pos c]
        exact Or.inr (h.2.2.1.2 n (by omega))
      · rw [if_neg c]
        exact ih (by omega)
  unfold rgQ at hq ⊢
  by_cases c2 : xN X q = 72
  · rw [if_pos c2]; exact z
  · rw [if_neg c2] at hq ⊢
    rcases key (xN X q) (rn T) (Nat.le_refl _) with k | k
    · rw [k] at hq
      exact absurd hq (by decide)
    · exact k
theorem srR_ok (h : Ckm T) : rC2 (srR X T q) := by
  unfold srR
  by_cases c : 0 ≤ rgQ X T q
  · rw [if_pos c]; exact rgQ_ok h c
  · rw [if_neg c]; exact ⟨0, rfl, by omega⟩
theorem Ckm.sr (h : Ckm T) : Ckm (srS X T q) := by
  unfold srS
  split
  · exact h
  · exact h.fl (by decide)
theorem Ckm.wa : ∀ (m k : Nat) (T : gSt) (w : Int32), Ckm T → k + m ≤ 3 → PK w k → Ckm (waX X m T q k w).2 ∧ cn (waX X m T q k w).2 = cn T ∧ PK (waX X m T q k w).1 3 := by
  intro m
  induction m with
  | zero => intro k T w h hk hp; exact ⟨h, rfl, hp.up⟩
  | succ m ih =>
    intro k T w h hk hp
    rw [waX]
    by_cases c : T.1 7 0 = 0
    · rw [if_pos c]
      have := ih (k + 1) (srS X T (q + k)) _ h.sr (by omega) (hp.st (by omega) (srR_ok (X := X) (q := q + k) h)).1
      exact ⟨this.1, this.2.1.trans cn_sr, this.2.2⟩
    · rw [if_neg c]
      exact ⟨h, rfl, hp.up⟩
theorem Ckm.ti (h : Ckm T) : Ckm (tiS X T i) := by
  unfold tiS
  repeat' split
  · exact h
  · exact h.fl (by decide)
  · exact h.fl (by decide)
theorem ti_ff {nm : Int64} (h : inn T ≤ 24) (hf : 0 ≤ ff (isTi T nm) 0 (inn T)) : ∃ u, ff (isTi T nm) 0 (inn T) = nI u ∧ u < inn T ∧ (nI u).toNatClampNeg = u := by
  rcases ff_val (p := isTi T nm) (k := inn T) (i := 0) with hv | ⟨j, g1, g2, g3, g4⟩
  · rw [hv] at hf
    exact absurd hf (by decide)
  · exact ⟨j, g4, by omega, nc (by omega)⟩
theorem rgs3 {K : Nat → Nat} {i : Nat} : rgs K 3 i ≤ 3 := rgs_le 3 i
theorem kdT_ok : kdT X i = 1 ∨ kdT X i = 2 ∨ kdT X i = 3 := by
  unfold kdT
  repeat' split
  · exact Or.inl rfl
  · exact Or.inr (Or.inl rfl)
  · exact Or.inr (Or.inr rfl)
theorem kdT_3 (h : kdT X i = 3) (h2 : xK X i = 59 ∨ xK X i = 55 ∨ xK X i = 60) : xK X i = 60 := by
  unfold kdT at h
  rcases h2 with h2 | h2 | h2
  · rw [if_pos h2] at h; exact absurd h (by decide)
  · rw [if_neg (by omega), if_pos h2] at h; exact absurd h (by decide)
  · exact h2
/-- a written TYPE, token by token -/
def tyW (X : Lx) : Nat → Nat → Prop
  | 0, _ => False
  | f + 1, i => xK X i = 26 ∨ ((xK X i = 59 ∨ xK X i = 55 ∨ xK X i = 60) ∧ (tiQ X i ∨ ¬ tiQ X i ∧ tyW X f (i + 2)))
theorem me_ok : ∀ (f : Nat) (T : gSt) (i : Nat), tyW X f i → Ckm T → cn (meX X f T i).2 < 6000 → Ckm (meX X f T i).2 ∧ ((meX X f T i).2.1 7 0 = 0 → tV (meX X f T i).2 (meX X f T i).1 ∧ dOk (meX X f T i).2 f (meX X f T i).1) := by
  intro f
  induction f with
  | zero => intro T i hw; exact hw.elim
  | succ f ih =>
    intro T i hw h hc
    have z0 : ∀ S, tV S 0 ∧ dOk S (f + 1) 0 := fun S => ⟨Or.inl rfl, fun q => absurd q (by decide)⟩
    rw [meX] at hc ⊢
    by_cases c0 : ¬ T.1 7 0 = 0
    · simp only [if_neg c0] at hc ⊢
      exact ⟨h, fun q => absurd q c0⟩
    have c0 := Decidable.not_not.mp c0
    simp only [if_pos c0] at hc ⊢
    by_cases c1 : xK X i = 26
    · simp only [if_pos c1] at hc ⊢
      exact ⟨h, fun _ => z0 _⟩
    simp only [if_neg c1] at hc ⊢
    obtain ⟨w1, w2⟩ := hw.resolve_left c1
    by_cases c2 : 0 ≤ rgQ X T (i + 1)
    · simp only [if_pos c2] at hc ⊢
      have hrg := rgQ_ok h c2
      by_cases c3 : tiQ X i
      · simp only [if_pos c3] at hc ⊢
        have w := Ckm.wa (X := X) (q := i + 3) (rgs (xK X) 3 (i + 3)) 0 (tiS X T i) 0 h.ti (by have := rgs3 (K := xK X) (i := i + 3); omega) PK.zr
        have fW := FE.ti.tr (FE.wa (X := X) (q := i + 3) (rgs (xK X) 3 (i + 3)) 0 (tiS X T i) 0)
        have wb : ¬ (tiS X T i).1 7 0 = 0 → ¬ (waX X (rgs (xK X) 3 (i + 3)) (tiS X T i) (i + 3) 0 0).2.1 7 0 = 0 := fun h => by rw [waX_bad h]; exact h
        generalize waX X (rgs (xK X) 3 (i + 3)) (tiS X T i) (i + 3) 0 0 = W at *
        by_cases c4 : W.2.1 7 0 = 0
        · simp only [if_pos c4] at hc ⊢
          have c5 : 0 ≤ ff (isTi T (xN X (i + 2))) 0 (inn T) := by
            by_cases g : 0 ≤ ff (isTi T (xN X (i + 2))) 0 (inn T)
            · exact g
            · exfalso
              have hb : ¬ (tiS X T i).1 7 0 = 0 := by
                unfold tiS
                rw [if_neg g]
                exact flT_bad (by decide)
              exact wb hb c4
          obtain ⟨u, u1, u2, cu⟩ := ti_ff h.2.2.2.2.1 c5
          have u2' : u < inn W.2 := by rw [fW.einn]; exact u2
          have h24 := w.1.2.2.2.2.1
          have h0u : (0 : Int32) ≤ nI u := (nI_leI (a := 0) (b := u) (by omega) (by omega)).mpr (by omega)
          rw [u1] at hc ⊢
          obtain ⟨k1, p, k2, k3, k4, k5⟩ := w.1.kn (z := (kdT X i, rgQ X T (i + 1), -1, nI u, W.1)) ⟨kdT_ok, hrg, w.2.2, fun e => absurd (kdT_3 e w1) c3.1, by
            show (if 0 ≤ nI u then _ else _)
            rw [if_pos h0u]
            exact ⟨u, rfl, u2'⟩⟩ hc
          refine ⟨k1, fun _ => ⟨Or.inr ⟨p, k2, k3, k4⟩, fun _ => ⟨p, k2, by omega, k4, ?_⟩⟩⟩
          have e69 := (rwT_g k5).2.2.2.1
          rw [e69, if_pos h0u]
          obtain ⟨rr, r1, r2⟩ := k1.2.2.2.2.2 u (by rw [FE.kn.einn]; exact u2')
          exact ⟨u, rr, rfl, by omega, r1, r2⟩
        · simp only [if_neg c4] at hc ⊢
          exact ⟨w.1, fun q => absurd q c4⟩
      · simp only [if_neg c3] at hc ⊢
        obtain ⟨-, w3⟩ := w2.resolve_left c3
        have fe := FE.me (X := X) f T (i + 2)
        have g1 := fe.tg h.1
        have hc1 : cn (meX X f T (i + 2)).2 < 6000 := by
          by_cases c4 : (meX X f T (i + 2)).2.1 7 0 = 0
          · simp only [if_pos c4] at hc
            exact kn_lt g1 hc
          · simp only [if_neg c4] at hc
            exact hc
        have i1 := ih T (i + 2) w3 h hc1
        by_cases c4 : (meX X f T (i + 2)).2.1 7 0 = 0
        · simp only [if_pos c4] at hc ⊢
          obtain ⟨v1, v2⟩ := i1.2 c4
          obtain ⟨k1, p, k2, k3, k4, k5⟩ := i1.1.kn (z := (kdT X i, rgQ X T (i + 1), (meX X f T (i + 2)).1, -1, 0)) ⟨kdT_ok, hrg, PK.zr.up, fun _ => (by decide : ¬ (0 : Int32) ≤ -1), by
            show (if (0 : Int32) ≤ -1 then _ else _)
            rw [if_neg (by decide)]
            exact v1⟩ hc
          refine ⟨k1, fun _ => ⟨Or.inr ⟨p, k2, k3, k4⟩, fun _ => ⟨p, k2, by omega, k4, ?_⟩⟩⟩
          have e69 := (rwT_g k5).2.2.2.1
          have e68 := (rwT_g k5).2.2.1
          rw [e69, if_neg (show ¬ (0 : Int32) ≤ -1 by decide), e68]
          exact v2.fe FE.kn g1 hc
        · simp only [if_neg c4] at hc ⊢
          exact ⟨i1.1, fun q => absurd q c4⟩
    · simp only [if_neg c2] at hc ⊢
      exact ⟨h.fl (by decide), fun q => absurd q (flT_bad (by decide))⟩
theorem tyE_ge : ∀ (f i : Nat), i ≤ tyE X f i := by
  intro f
  induction f with
  | zero => intro i; exact Nat.le_refl _
  | succ f ih =>
    intro i
    rw [tyE]
    repeat' split
    · omega
    · omega
    · have := ih (i + 2); omega
theorem er_ti : er (tiS X T i) = tiS X (er T) i := by
  unfold tiS
  show _ = if 0 ≤ ff (isTi T (xN X (i + 2))) 0 (inn T) then (if T.1 15 (ff (isTi T (xN X (i + 2))) 0 (inn T)).toNatClampNeg = _ then _ else _) else _
  by_cases c : 0 ≤ ff (isTi T (xN X (i + 2))) 0 (inn T)
  · rw [if_pos c, if_pos c]
    by_cases c2 : T.1 15 (ff (isTi T (xN X (i + 2))) 0 (inn T)).toNatClampNeg = nI (rgs (xK X) 3 (i + 3))
    · rw [if_pos c2, if_pos c2]
    · rw [if_neg c2, if_neg c2, er_fl]
  · rw [if_neg c, if_neg c, er_fl]
theorem nt_ti : ∀ k, anF k = true → (tiS X T i).1 k = T.1 k := fun k hk => by
  unfold tiS
  repeat' split
  · rfl
  · exact nt_fl k hk
  · exact nt_fl k hk
/-- the reference's reading of a TYPE -/
theorem x_mean0 (hnf : 8300 ≤ nf) (hP : ∀ q, q < xn X → xP X q < 100000) : ∀ (f d : Nat) (T : gSt) (w i : Nat), RepW X T f w i → tyW X f i → Ckm (er T) → nU T ≤ 4000 → nW T ≤ 4000 → tyE X f i ≤ xn X → cn (meX X f (er T) i).2 < 6000 → wp (RR nf (d + f + 4) 57 T [nI w] []) (fun r _ T' => er T' = (meX X f (er T) i).2 ∧ Fm X T T' 0 0 i (tyE X f i) ∧ r = (meX X f (er T) i).1) := by
  intro f
  induction f with
  | zero => intro d T w i hR; exact hR.elim
  | succ f ih =>
    intro d T w i hR hw hC hU hW hE hc
    rw [RepW] at hR
    obtain ⟨h1, h2⟩ := hR
    have zw : inb (nI w) 4000 := nin (by omega) (by omega)
    have cw : (nI w).toNatClampNeg = w := nc (by omega)
    rw [e_Model_meaning nf (d + (f + 1) + 3)]
    unfold rb_Model_meaning
    rw [meX] at hc ⊢
    rw [tyE] at hE ⊢
    have e7 : (er T).1 7 0 = T.1 7 0 := rfl
    rw [e7] at hc ⊢
    by_cases c0 : ¬ T.1 7 0 = 0
    · simp only [if_neg c0] at hc ⊢
      exact wp_be (x_bd1 c0) (wp_f (by decide) (wp_some ⟨rfl, Fm.rf, rfl⟩))
    have c0 := Decidable.not_not.mp c0
    simp only [if_pos c0] at hc ⊢
    refine wp_be (x_bd0 c0) (wp_t rfl (wp_gd zw ?_))
    rw [cw]
    by_cases c1 : xK X i = 26
    · simp only [if_pos c1] at hc h2 ⊢
      rw [h2]
      exact wp_t rfl (wp_some ⟨rfl, Fm.rf, rfl⟩)
    simp only [if_neg c1] at hc h2 hE ⊢
    obtain ⟨w1, w2⟩ := hw.resolve_left c1
    obtain ⟨r1, ⟨u, r2, r3⟩, r4⟩ := h2
    have hk0 : ¬ T.1 38 w = 0 := by
      rw [r1]
      (repeat' split) <;> decide
    refine wp_f hk0 (wp_gd zw ?_)
    rw [r2]
    have hus : usN X T u (i + 1) := r3.us (n := 0) (by omega)
    have hu4 : u < 4000 := by have := r3.1; omega
    have hRg : Rg T := hC.2.2.1.1
    refine wp_be (x_rgAt (n := rn T) hRg.1 hRg.2 (by omega) hu4) ?_
    have eS := us_S hus
    have eQ := us_Q hus
    have fm0 : ∀ b, i + 1 < b → Fm X T (rgAtS T (rn T) u) 0 0 i b := by
      intro b hb
      refine ⟨fun j _ => ?_, fun j => ?_, fun j _ => ?_, ?_⟩
      · rw [rgAtS_o (by omega) (by omega) (by omega), rgAtS_o (by omega) (by omega) (by omega)]; exact ⟨rfl, rfl⟩
      · by_cases c : j = u
        · right; exact ⟨i + 1, by omega, hb, by rw [c]; exact hus.2⟩
        · left; exact rgAt_48 c
      · rw [rgAtS_o (by omega) (by omega) (by omega)]
      · rw [rgAtS_o (by omega) (by omega) (by omega)]
    have o : ∀ g, g ≠ 7 → g ≠ 8 → g ≠ 48 → (rgAtS T (rn T) u).1 g = T.1 g := fun g a b c => rgAtS_o a b c
    have oj : (rgAtS T (rn T) u).2 = T.2 := rgAtS_j
    by_cases c2 : ¬ 0 ≤ rgQ X (er T) (i + 1)
    · simp only [if_neg c2] at hc ⊢
      have eS' : er (rgAtS T (rn T) u) = flT (er T) 3 (nI (xP X (i + 1))) := by rw [eS]; unfold srS; rw [if_neg c2]
      have hb : ¬ (rgAtS T (rn T) u).1 7 0 = 0 := by
        have : ¬ (er (rgAtS T (rn T) u)).1 7 0 = 0 := by rw [eS']; exact flT_bad (by decide)
        exact this
      refine wp_be (x_bd1 hb) (wp_f (by decide) (wp_some ⟨eS', ?_, rfl⟩))
      refine fm0 _ ?_
      have := tyE_ge (X := X) f (i + 2)
      split <;> omega
    have c2 := Decidable.not_not.mp c2
    simp only [if_pos c2] at hc ⊢
    have eS' : er (rgAtS T (rn T) u) = er T := by rw [eS]; unfold srS; rw [if_pos c2]
    have hb : (rgAtS T (rn T) u).1 7 0 = 0 := by
      have : (er (rgAtS T (rn T) u)).1 7 0 = 0 := by rw [eS']; exact c0
      exact this
    have eR : rgAtR T (rn T) u = rgQ X (er T) (i + 1) := by
      unfold rgAtR
      rw [eQ, if_pos c2]
    rw [eR]
    have sp0 : SP T (rgAtS T (rn T) u) := SP.of (by rw [eS']; exact FE.rf)
    generalize rgAtS T (rn T) u = T1 at *
    refine wp_be (x_bd0 hb) (wp_t rfl (wp_gd zw ?_))
    rw [o 42 (by omega) (by omega) (by omega)]
    have hC1 : Ckm (er T1) := by rw [eS']; exact hC
    have h24 : inn T1 ≤ 24 := hC1.2.2.2.2.1
    have h11 : T1.1 11 0 = nI (inn T1) := hC1.2.2.2.1
    by_cases c3 : tiQ X i
    · simp only [if_pos c3] at hc r4 hE ⊢
      obtain ⟨s1, s2, u', s3, s4, s5⟩ := r4
      have hp2 := hP (i + 2) (by omega)
      rw [s1]
      refine wp_t ((nI_leI (a := 0) (b := xP X (i + 2)) (by omega) (by omega)).mpr (by omega)) (wp_gd zw ?_)
      rw [oj, s2]
      refine wp_be (x_title h11 h24 (by omega)) ?_
      have he3 := rgs3 (K := xK X) (i := i + 3)
      have hu5 := s5.1
      -- behind the search
      have rest : ∀ S2 : gSt, S2 = tiS X T1 i → wp (rj_Model_meaning_140 (RR nf (d + (f + 1) + 3)) nf S2 (nI w) (rgQ X (er T) (i + 1)) (ff (isTi T1 (xN X (i + 2))) 0 (inn T1))) (fun r _ T' => er T' = (if (waX X (rgs (xK X) 3 (i + 3)) (tiS X (er T) i) (i + 3) 0 0).2.1 7 0 = 0 then kn (waX X (rgs (xK X) 3 (i + 3)) (tiS X (er T) i) (i + 3) 0 0).2 (kdT X i, rgQ X (er T) (i + 1), -1, ff (isTi (er T) (xN X (i + 2))) 0 (inn (er T)), (waX X (rgs (xK X) 3 (i + 3)) (tiS X (er T) i) (i + 3) 0 0).1) else (0, (waX X (rgs (xK X) 3 (i + 3)) (tiS X (er T) i) (i + 3) 0 0).2)).2 ∧ Fm X T T' 0 0 i (i + 3 + rgs (xK X) 3 (i + 3)) ∧ r = (if (waX X (rgs (xK X) 3 (i + 3)) (tiS X (er T) i) (i + 3) 0 0).2.1 7 0 = 0 then kn (waX X (rgs (xK X) 3 (i + 3)) (tiS X (er T) i) (i + 3) 0 0).2 (kdT X i, rgQ X (er T) (i + 1), -1, ff (isTi (er T) (xN X (i + 2))) 0 (inn (er T)), (waX X (rgs (xK X) 3 (i + 3)) (tiS X (er T) i) (i + 3) 0 0).1) else (0, (waX X (rgs (xK X) 3 (i + 3)) (tiS X (er T) i) (i + 3) 0 0).2)).1) := by
        intro S2 hS2
        have e2 : er S2 = tiS X (er T) i := by rw [hS2, er_ti, eS']
        have sp2 : SP T1 S2 := by rw [hS2]; exact SP.fe FE.ti
        have nt2 : ∀ k, anF k = true → S2.1 k = T1.1 k := by rw [hS2]; exact nt_ti
        have hC2 : Ckm (er S2) := by rw [e2, ← eS']; exact hC1.ti
        have efi : ff (isTi (er T) (xN X (i + 2))) 0 (inn (er T)) = ff (isTi T1 (xN X (i + 2))) 0 (inn T1) := by rw [← eS']; rfl
        rw [efi] at hc ⊢
        rw [← e2] at hc ⊢
        have sp02 : SP T S2 := sp0.tr sp2
        unfold rj_Model_meaning_140
        refine wp_gd zw (wp_gd zw ?_)
        rw [cw, sp02.1 43 (by omega) rfl, sp02.1 44 (by omega) rfl, s3, s4]
        refine wp_be (x_wth (u := u') (m := rgs (xK X) 3 (i + 3)) hC2.2.2.1.1 (by omega) he3 (by omega)) ?_
        have hU2 : RepU X S2 u' (i + 3) (rgs (xK X) 3 (i + 3)) := RepU.sp sp02 s5
        have hus2 : ∀ j, j < rgs (xK X) 3 (i + 3) → usN X S2 (u' + (0 + j)) (i + 3 + (0 + j)) := fun j hj => by rw [Nat.zero_add]; exact hU2.us hj
        have eW := us_W (X := X) (u := u') (q := i + 3) (rgs (xK X) 3 (i + 3)) 0 S2 0 hus2
        have wF : Fm X S2 (waT (rgs (xK X) 3 (i + 3)) S2 u' 0 0).2 0 0 i (i + 3 + rgs (xK X) 3 (i + 3)) := Fm.wa (q := i + 3) (by omega) (by omega) (fun j hj => (hU2.us hj).2)
        have feW : FE (er S2) (waX X (rgs (xK X) 3 (i + 3)) (er S2) (i + 3) 0 0).2 := FE.wa _ _ _ _
        rw [eW] at hc feW ⊢
        have spW : SP S2 (waT (rgs (xK X) 3 (i + 3)) S2 u' 0 0).2 := SP.of feW
        have gW := feW.tg hC2.1
        generalize waT (rgs (xK X) 3 (i + 3)) S2 u' 0 0 = W at *
        obtain ⟨al, S3⟩ := W
        simp only at hc wF feW spW gW ⊢
        have fm2 : Fm X T S2 0 0 i (i + 3 + rgs (xK X) 3 (i + 3)) := (fm0 _ (by omega)).tr (Fm.nt nt2) sp0
        have fm3 : Fm X T S3 0 0 i (i + 3 + rgs (xK X) 3 (i + 3)) := fm2.tr wF sp02
        by_cases c4 : ¬ S3.1 7 0 = 0
        · have c4' : ¬ (er S3).1 7 0 = 0 := c4
          rw [if_neg c4']
          exact wp_be (x_bd1 c4) (wp_f (by decide) (wp_some ⟨rfl, fm3, rfl⟩))
        have c4 := Decidable.not_not.mp c4
        have c4' : (er S3).1 7 0 = 0 := c4
        rw [if_pos c4'] at hc ⊢
        refine wp_be (x_bd0 c4) (wp_t rfl (wp_gd zw ?_))
        have e38 : S3.1 38 w = kdT X i := by rw [spW.1 38 (by omega) rfl, sp02.1 38 (by omega) rfl]; exact r1
        rw [e38]
        have gS3 : Tg S3 := gW
        have hcS' : cn (er S3) < 6000 := kn_lt gW hc
        have hcS : cn S3 < 6000 := hcS'
        refine wp_be (x_kn (d := d + f + 3) gS3 hcS (by omega)) (wp_some ⟨er_knS, fm3.tr (Fm.nt nt_kn) (sp02.tr spW), er_knR.symm⟩)
      by_cases k1 : 0 ≤ ff (isTi T1 (xN X (i + 2))) 0 (inn T1)
      · obtain ⟨t, t1, t2, ct⟩ := ti_ff h24 k1
        refine wp_t k1 (wp_gd (by rw [t1]; exact nin (by omega) (by omega)) (wp_gd zw ?_))
        rw [o 44 (by omega) (by omega) (by omega), s4, o 42 (by omega) (by omega) (by omega), s1]
        by_cases k2 : T1.1 15 (ff (isTi T1 (xN X (i + 2))) 0 (inn T1)).toNatClampNeg = nI (rgs (xK X) 3 (i + 3))
        · exact wp_t k2 (rest T1 (by unfold tiS; rw [if_pos k1, if_pos k2]))
        · exact wp_f k2 (wp_gd zw (wp_be x_fail (rest _ (by unfold tiS; rw [if_pos k1, if_neg k2]))))
      · refine wp_f k1 (wp_gd zw ?_)
        rw [o 42 (by omega) (by omega) (by omega), s1]
        exact wp_be x_fail (rest _ (by unfold tiS; rw [if_neg k1]))
    · simp only [if_neg c3] at hc r4 hE ⊢
      obtain ⟨s1, s2, s3⟩ := r4
      obtain ⟨-, w3⟩ := w2.resolve_left c3
      rw [s1]
      refine wp_f (by decide) (wp_gd zw ?_)
      rw [o 40 (by omega) (by omega) (by omega), s2]
      have av : Av T T1 (w + 1) := ⟨by rw [sp_nU sp0]; exact Nat.le_refl _, fun j _ => ⟨by rw [sp0.2], by rw [sp0.1 47 (by omega) rfl]⟩, by unfold nW; rw [sp0.1 37 (by omega) rfl]; exact Nat.le_refl _, fun g j a b _ _ => by rw [sp0.1 g (by omega) (by unfold anF; simp; omega)], fun j _ _ => by rw [sp0.2]⟩
      have ge := tyE_ge (X := X) f (i + 2)
      have fe := FE.me (X := X) f (er T) (i + 2)
      have g1 := fe.tg hC.1
      have hc1 : cn (meX X f (er T) (i + 2)).2 < 6000 := by
        by_cases c4 : (meX X f (er T) (i + 2)).2.1 7 0 = 0
        · simp only [if_pos c4] at hc
          exact kn_lt g1 hc
        · simp only [if_neg c4] at hc
          exact hc
      have wI := ih d T1 (w + 1) (i + 2) (RepW.av f (w + 1) (i + 2) av s3) w3 hC1 (by rw [sp_nU sp0]; exact hU) (by unfold nW; rw [sp0.1 37 (by omega) rfl]; exact hW) hE (by rw [eS']; exact hc1)
      rw [eS'] at wI
      refine wp_bi wI ?_
      rintro ra _ T2 ⟨q1, q2, q3⟩
      have sp1 : SP T1 T2 := SP.of (by rw [q1, eS']; exact fe)
      have fm2 : Fm X T T2 0 0 i (tyE X f (i + 2)) := (fm0 _ (by omega)).tr (q2.up (by omega) (by omega) (by omega) (by omega)) sp0
      rw [← q1] at hc g1 hc1 ⊢
      by_cases c4 : ¬ T2.1 7 0 = 0
      · have c4' : ¬ (er T2).1 7 0 = 0 := c4
        simp only [if_neg c4']
        exact wp_be (x_bd1 c4) (wp_f (by decide) (wp_some ⟨rfl, fm2, rfl⟩))
      have c4 := Decidable.not_not.mp c4
      have c4' : (er T2).1 7 0 = 0 := c4
      simp only [if_pos c4'] at hc ⊢
      refine wp_be (x_bd0 c4) (wp_t rfl (wp_gd zw ?_))
      have e38 : T2.1 38 w = kdT X i := by rw [sp1.1 38 (by omega) rfl, sp0.1 38 (by omega) rfl]; exact r1
      rw [e38, q3]
      have gT2 : Tg T2 := g1
      refine wp_be (x_kn (d := d + f + 3) gT2 hc1 (by omega)) (wp_some ⟨er_knS, fm2.tr (Fm.nt nt_kn) (sp0.tr sp1), er_knR.symm⟩)
theorem x_mean (hnf : 8300 ≤ nf) (hP : ∀ q, q < xn X → xP X q < 100000) : ∀ (f d : Nat) (T : gSt) (w i : Nat), RepW X T f w i → tyW X f i → Ckm (er T) → nU T ≤ 4000 → nW T ≤ 4000 → tyE X f i ≤ xn X → cn (meX X f (er T) i).2 < 6000 → wp (RR nf (d + f + 4) 57 T [nI w] []) (fun r _ T' => er T' = (meX X f (er T) i).2 ∧ Fm X T T' 0 0 i (tyE X f i) ∧ (T'.1 7 0 = 0 → r = (meX X f (er T) i).1)) := fun f d T w i a b c e g h k => wp_mono (x_mean0 hnf hP f d T w i a b c e g h k) (fun _ _ _ q => ⟨q.1, q.2.1, fun _ => q.2.2⟩)
end MN
