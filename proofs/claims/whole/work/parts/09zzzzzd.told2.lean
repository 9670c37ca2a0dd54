/-! the class's told = the reference's changed -/
/-- in a head the REGIONS have the same numbers on both sides -/
def R0 : RgR := fun c n => c = n ∧ c ≤ 3
/-- told REGIONS, packed on both sides -/
def DgR (R : RgR) (W g : Nat) : Prop := W < 2 ^ 30 ∧ g < 4096 ∧ ∀ k, k < 3 → R (W / 1024 ^ k % 1024) (g / 16 ^ k % 16)
/-- what the class's types leave as it was, n keys more at most -/
def FtC (n : Nat) (T T' : gSt) : Prop := T'.1 = T.1 ∧ (∀ q j, q ≠ 62 → T'.2 q j = T.2 q j) ∧ TyI T' ∧ lvC T' 16384 ≤ lvC T 16384 + n
section CTP
variable {R : RgR} {S S' T T' T1 : gSt} {nf d g i r W O c k n m t s : Nat} {x w : Int32}
theorem FtC.tr (h : FtC n T T1) (h2 : FtC m T1 T') : FtC (n + m) T T' := ⟨h2.1.trans h.1, fun q j a => (h2.2.1 q j a).trans (h.2.1 q j a), h2.2.2.1, by have := h.2.2.2; have := h2.2.2.2; omega⟩
theorem FtC.rf (h : TyI T) : FtC 0 T T := ⟨rfl, fun _ _ _ => rfl, h, by omega⟩
theorem FtC.le (h : FtC n T T') (hm : n ≤ m) : FtC m T T' := ⟨h.1, h.2.1, h.2.2.1, by have := h.2.2.2; omega⟩
theorem KpQ.ft (h : KpQ T T' s k) : FtC 1 T T' := ⟨h.2.2.2.2.1, fun q j a => h.2.2.2.2.2.1 q j (fun w => a w.1), h.2.2.2.1, h.2.2.2.2.2.2.2.1⟩
theorem ta_dig (hk : k < 3) (hi : i < 4096) : taC g i / 16 ^ k % 16 = t1C g (i / 16 ^ k % 16) := by
  have a0 := t1_lt (g := g) (r := i % 16) (by omega)
  have a1 := t1_lt (g := g) (r := i / 16 % 16) (by omega)
  have a2 := t1_lt (g := g) (r := i / 256 % 16) (by omega)
  unfold taC
  rcases (by omega : k = 0 ∨ k = 1 ∨ k = 2) with e | e | e <;> subst e
  · rw [Nat.pow_zero, Nat.div_one, Nat.div_one]; omega
  · rw [Nat.pow_one]; omega
  · rw [show (16 : Nat) ^ 2 = 256 from rfl]; omega
theorem ta_lt (hi : i < 4096) : taC g i < 4096 := by
  have a0 := t1_lt (g := g) (r := i % 16) (by omega)
  have a1 := t1_lt (g := g) (r := i / 16 % 16) (by omega)
  have a2 := t1_lt (g := g) (r := i / 256 % 16) (by omega)
  unfold taC
  omega
theorem pw_dig {rr : Nat} (hr : rr ≤ 3) : pwS W O rr < 1024 ^ rr ∧ ∀ k, k < rr → pwS W O rr / 1024 ^ k % 1024 = p1S W (O / 1024 ^ k % 1024) := by
  have b : ∀ k, p1S W (O / 1024 ^ k % 1024) < 1024 := fun k => p1_lt (Nat.mod_lt _ (by omega))
  have b0 := b 0
  have b1 := b 1
  have b2 := b 2
  have e0 : (1024 : Nat) ^ 0 = 1 := rfl
  have e1 : (1024 : Nat) ^ 1 = 1024 := rfl
  have e2 : (1024 : Nat) ^ 2 = 1048576 := rfl
  have e3 : (1024 : Nat) ^ 3 = 1073741824 := rfl
  have z1 : pwS W O 1 = p1S W (O / 1024 ^ 0 % 1024) := by rw [pwS, pwS, Nat.pow_zero, Nat.zero_add, Nat.one_mul]
  have z2 : pwS W O 2 = p1S W (O / 1024 ^ 0 % 1024) + 1024 * p1S W (O / 1024 ^ 1 % 1024) := by rw [pwS, z1, e1]
  have z3 : pwS W O 3 = p1S W (O / 1024 ^ 0 % 1024) + 1024 * p1S W (O / 1024 ^ 1 % 1024) + 1048576 * p1S W (O / 1024 ^ 2 % 1024) := by rw [pwS, z2, e2]
  rcases (by omega : rr = 0 ∨ rr = 1 ∨ rr = 2 ∨ rr = 3) with e | e | e | e <;> subst e
  · exact ⟨by rw [e0, pwS]; omega, fun k hk => by omega⟩
  · rw [z1, e1]
    refine ⟨b0, fun k hk => ?_⟩
    have : k = 0 := by omega
    subst this
    generalize p1S W (O / 1024 ^ 0 % 1024) = a0 at *
    rw [e0]
    omega
  · rw [z2, e2]
    refine ⟨by omega, fun k hk => ?_⟩
    rcases (by omega : k = 0 ∨ k = 1) with e | e <;> subst e
    · generalize p1S W (O / 1024 ^ 0 % 1024) = a0 at *
      generalize p1S W (O / 1024 ^ 1 % 1024) = a1 at *
      rw [e0]; omega
    · generalize p1S W (O / 1024 ^ 0 % 1024) = a0 at *
      generalize p1S W (O / 1024 ^ 1 % 1024) = a1 at *
      rw [e1]; omega
  · rw [z3, e3]
    refine ⟨by omega, fun k hk => ?_⟩
    rcases (by omega : k = 0 ∨ k = 1 ∨ k = 2) with e | e | e <;> subst e
    · generalize p1S W (O / 1024 ^ 0 % 1024) = a0 at *
      generalize p1S W (O / 1024 ^ 1 % 1024) = a1 at *
      generalize p1S W (O / 1024 ^ 2 % 1024) = a2 at *
      rw [e0]; omega
    · generalize p1S W (O / 1024 ^ 0 % 1024) = a0 at *
      generalize p1S W (O / 1024 ^ 1 % 1024) = a1 at *
      generalize p1S W (O / 1024 ^ 2 % 1024) = a2 at *
      rw [e1]; omega
    · generalize p1S W (O / 1024 ^ 0 % 1024) = a0 at *
      generalize p1S W (O / 1024 ^ 1 % 1024) = a1 at *
      generalize p1S W (O / 1024 ^ 2 % 1024) = a2 at *
      rw [e2]; omega
theorem told1 (h00 : R 0 0) (hD : DgR R W g) (hc : c ≤ 3) : R (p1S W c) (t1C g c) := by
  unfold p1S t1C
  by_cases c1 : c < 1
  · rw [if_pos (Or.inl c1), if_pos (Or.inl c1), show c = 0 by omega]; exact h00
  · rw [if_neg (by omega), if_neg (by omega)]
    exact hD.2.2 (c - 1) (by omega)
theorem pk_told {gg : Nat} (h00 : R 0 0) (hD : DgR R W g) (hg : gg < 4096) (h : PkR R0 S t w gg) : ∃ rr, S.1 15 t = nI rr ∧ rr ≤ 3 ∧ PkR R S t (chW (nI W) w rr 0 0) (taC g gg) := by
  obtain ⟨rr, O, a1, a2, a3, a4, a5⟩ := h
  refine ⟨rr, a1, a2, ?_⟩
  have hO := pw3 a2 a4
  have dg : ∀ k, k < rr → O / 1024 ^ k % 1024 = gg / 16 ^ k % 16 ∧ O / 1024 ^ k % 1024 ≤ 3 := fun k hk => by
    have := a5 k (by omega)
    rw [if_pos hk] at this
    exact this
  have pd := pw_dig (W := W) (O := O) a2
  rw [a3, chW_nI hD.1 hO a2 (fun k hk => (dg k hk).2)]
  refine ⟨rr, pwS W O rr, a1, a2, rfl, pd.1, fun k hk => ?_⟩
  rw [ta_dig hk hg]
  by_cases c : k < rr
  · rw [if_pos c, pd.2 k c, ← (dg k c).1]
    exact told1 h00 hD (dg k c).2
  · rw [if_neg c]
    have := a5 k hk
    rw [if_neg c] at this
    rw [this]
    rfl
/-- a type told: both sides go together -/
theorem told_ok (hnf : 16385 ≤ nf) (h00 : R 0 0) (hD : DgR R W g) : ∀ (f : Nat) (S T : gSt) (x : Int32) (y dp F d : Nat), TyR R0 S T f x y → dp + f ≤ 6 → 1 ≤ dp → f ≤ F → Tg S → TyI T → lvC T 16384 + 2 * f + 2 < 16384 → cn (chT F S x (nI W)).2 < 6000 → 10 * f + 20 ≤ d → ∃ z T', PP nf d 98 T [nI y, nI g, nI dp] [] = some (nI z, 0, T') ∧ TyR R (chT F S x (nI W)).2 T' f (chT F S x (nI W)).1 z ∧ TyF S (chT F S x (nI W)).2 T T' ∧ FtC (f + 1) T T' := by
  intro f
  induction f with
  | zero =>
    intro S T x y dp F d h h1 h1' h2 hg hI hl hc hd
    obtain ⟨d, rfl⟩ : ∃ g, d = g + 1 := ⟨d - 1, by omega⟩
    have hy := gdR_l h
    have x0 : ¬ 0 < x := by
      rcases h with ⟨h, _⟩ | ⟨h, _⟩ | ⟨h, _⟩ <;> rw [h] <;> decide
    have e : chT F S x (nI W) = (x, S) := by
      cases F with
      | zero => rfl
      | succ F => rw [chT, if_neg x0]
    rw [e]
    refine ⟨y, T, ?_, h, TyF.rf, (FtC.rf hI).le (by omega)⟩
    rw [e_Types_told]
    unfold rb_Types_told
    rw [c_kindOf (by omega) (by omega), bis]
    have : kdC T y = y := by unfold kdC; rw [if_pos hy]
    rw [this, if_pos (show nI y ≤ 2 from (nI_leI (a := y) (b := 2) (by omega) (by omega)).mpr (by omega))]
  | succ f ih =>
    intro S T x y dp F d h h1 h1' h2 hg hI hl hc hd
    rcases h with h | ⟨p, kd, r, n, b, i1, i2, i3, i4, ic, i5, i6, i7, i8, i9, i10, i11, i12, ⟨en, r3⟩, i14, i15, i16⟩
    · obtain ⟨d, rfl⟩ : ∃ g, d = g + 1 := ⟨d - 1, by omega⟩
      have hy := gdR_l h
      have x0 : ¬ 0 < x := by
        rcases h with ⟨h, _⟩ | ⟨h, _⟩ | ⟨h, _⟩ <;> rw [h] <;> decide
      have e : chT F S x (nI W) = (x, S) := by
        cases F with
        | zero => rfl
        | succ F => rw [chT, if_neg x0]
      rw [e]
      refine ⟨y, T, ?_, Or.inl h, TyF.rf, (FtC.rf hI).le (by omega)⟩
      rw [e_Types_told]
      unfold rb_Types_told
      rw [c_kindOf (by omega) (by omega), bis]
      have : kdC T y = y := by unfold kdC; rw [if_pos hy]
      rw [this, if_pos (show nI y ≤ 2 from (nI_leI (a := y) (b := 2) (by omega) (by omega)).mpr (by omega))]
    · obtain ⟨d, rfl⟩ : ∃ g, d = g + 1 := ⟨d - 1, by omega⟩
      obtain ⟨F, rfl⟩ : ∃ e, F = e + 1 := ⟨F - 1, by omega⟩
      subst en
      have kk := kd8 (T := T) (y := y) i10 i14 i15
      have x0 : 0 < x := by rw [i1]; exact (nI_ltI (a := 0) (b := p) (by omega) (by omega)).mpr i2
      have cx : x.toNatClampNeg = p := by rw [i1]; exact nc (by omega)
      have t1l := t1_lt (g := g) (r := r) i14
      have p1l := p1_lt (W := W) i12
      have hRn := told1 (c := r) h00 hD r3
      have hcp : chP (nI W) (S.1 67 p) = nI (p1S W r) := by rw [i11]; exact chP_nI hD.1 r3
      have e1 : kdC T y = kd + 2 := by unfold kdC; rw [if_neg (by omega)]; exact kk.1
      have e2 : rkC T y = r := kk.2.1
      have e3 : bhC T y = b := kk.2.2
      have hd6 : nI dp ≤ 6 := (nI_leI (a := dp) (b := 6) (by omega) (by omega)).mpr (by omega)
      have hd6' : nI (dp + 1) ≤ 6 := (nI_leI (a := dp + 1) (b := 6) (by omega) (by omega)).mpr (by omega)
      have nk2 : ∀ v, 3 ≤ v → v < 100 → ¬ nI v ≤ 2 := fun v h1 h2 w => by
        have := (nI_leI (a := v) (b := 2) (by omega) (by omega)).mp w
        omega
      have n6 : ¬ nI (kd + 2) = 6 := fun w => by
        have := nI_inj (b := 6) (by omega) (by omega) w
        omega
      -- the class's way, once what is behind is told
      have go : ∀ (zb : Nat) (T1 : gSt), PP nf d 98 T [nI b, nI g, nI (dp + 1)] [] = some (nI zb, 0, T1) → zb < 16387 → TyI T1 → lvC T1 16384 < 16384 → ∃ s T', PP nf (d + 1) 98 T [nI y, nI g, nI dp] [] = some (nI (s + 3), 0, T') ∧ KpQ T1 T' s (kd + 2 + 8 * t1C g r + 128 * zb) := by
        intro zb T1 ez hz hI1 hl1
        obtain ⟨s, T', q1, q2⟩ := c_ptr (d := d) (k := kd + 2) (r := t1C g r) (b := zb) hnf hI1 hl1 (by omega) t1l (by omega) (by omega)
        refine ⟨s, T', ?_, q2⟩
        rw [e_Types_told]
        unfold rb_Types_told
        rw [c_kindOf (by omega) (by omega), bis, e1, if_neg (nk2 _ (by omega) (by omega)), if_pos hd6, if_neg n6, c_regionOf (by omega) (by omega), bis, e2, c_toldOne (by omega) hD.2.1 (by omega), bis, c_behind (by omega) (by omega), bis, e3, nI_1, ez, bis, q1, bis]
      by_cases c : 0 ≤ S.1 69 p
      · rw [if_pos c] at i16
        obtain ⟨a1, a2, a3, t, gg, a4, a5, a6, a7, a8⟩ := i16
        obtain ⟨rr, b1, rr3, b2⟩ := pk_told h00 hD a7 a8
        have tal := ta_lt (g := g) a7
        have ct : (S.1 69 p).toNatClampNeg = t := by rw [a4]; exact nc (by omega)
        have cr : (S.1 15 t).toNatClampNeg = rr := by rw [b1]; exact nc (by omega)
        have ech : chT (F + 1) S x (nI W) = kn S (nI kd, nI (p1S W r), -1, nI t, chW (nI W) (S.1 70 p) rr 0 0) := by
          rw [chT, if_pos x0, cx, if_pos c, ct, cr, hcp, i8, a4]
        rw [ech] at hc ⊢
        have b8 : kO T b < 16777216 := kO_lt
        -- the thing
        obtain ⟨q, T1, q1, q2⟩ := c_thg (d := d - 1) (t := t) (r := taC g gg) hnf hI (by omega) (by omega) tal (by omega)
        have eth : PP nf d 98 T [nI b, nI g, nI (dp + 1)] [] = some (nI (q + 3), 0, T1) := by
          obtain ⟨d', hd'⟩ : ∃ e, d = e + 1 := ⟨d - 1, by omega⟩
          rw [hd'] at q1 ⊢
          rw [e_Types_told]
          unfold rb_Types_told
          have k6 : kdC T b = 6 := by unfold kdC; rw [if_neg (by omega)]; omega
          rw [c_kindOf (by omega) (by omega), bis, k6, if_neg (nk2 6 (by omega) (by omega)), if_pos hd6', if_pos (show nI 6 = 6 from rfl), c_keyOf (by omega) (by omega), bis, bShr (j := 8) (by decide) (by omega) (by omega), bAnd (j := 12) rfl (by omega), show kO T b / 2 ^ 8 % 2 ^ 12 = gg by omega, c_toldAll (by omega) a7 hD.2.1 (by omega), bis, bShr (j := 3) (by decide) (by omega) (by omega), bAnd (j := 5) rfl (by omega), show kO T b / 2 ^ 3 % 2 ^ 5 = t by omega]
          rw [show d' + 1 - 1 = d' by omega] at q1
          rw [q1, bis]
        have ft1 := q2.ft
        obtain ⟨s, T', r1, r2⟩ := go (q + 3) T1 eth (by have := q2.1; omega) q2.2.2.2.1 (by have := ft1.2.2.2; omega)
        refine ⟨s + 3, T', r1, ?_, (TyF.kp q2).tr (TyF.kn hg hc r2), (ft1.tr r2.ft).le (by omega)⟩
        exact ty_thg (f := f) hg hc rfl i9 i10 hRn p1l t1l a5 tal b2 q2 r2
      · rw [if_neg c] at i16
        have ech : chT (F + 1) S x (nI W) = kn (chT F S (S.1 68 p) (nI W)).2 (nI kd, nI (p1S W r), (chT F S (S.1 68 p) (nI W)).1, -1, 0) := by
          rw [chT, if_pos x0, cx, if_neg c, hcp, i8]
        rw [ech] at hc ⊢
        have hc1 : cn (chT F S (S.1 68 p) (nI W)).2 < 6000 := by
          have hg1 : Tg (chT F S (S.1 68 p) (nI W)).2 := (FE.ch F S (S.1 68 p)).tg hg
          exact Nat.lt_of_le_of_lt ((FE.kn).2.2.1 hg1).2.1 hc
        obtain ⟨zb, T1, z1, z2, z3, z4⟩ := ih S T (S.1 68 p) b (dp + 1) F d i16 (by omega) (by omega) (by omega) hg hI (by omega) hc1 (by omega)
        have hg1 : Tg (chT F S (S.1 68 p) (nI W)).2 := (FE.ch F S (S.1 68 p)).tg hg
        obtain ⟨s, T', r1, r2⟩ := go zb T1 z1 z2.lt7 z4.2.2.1 (by have := z4.2.2.2; omega)
        refine ⟨s + 3, T', r1, ?_, z3.tr (TyF.kn hg1 hc r2), (z4.tr r2.ft).le (by omega)⟩
        exact ty_ptr hg1 hc rfl i9 i10 hRn p1l t1l z2 r2
end CTP
