/-! room for types: TYPES as they are written have five pointers at most -/
def tyV (X : Lx) : Nat → Nat → Prop
  | 0, i => xK X i = 26
  | g + 1, i => xK X i = 26 ∨ tiQ X i ∨ (¬ tiQ X i ∧ tyV X g (i + 2))
section RMT
variable {T T' S : gSt} {X : Lx} {i j k f p q : Nat} {x y w : Int32} {z : T5}
theorem ty_v : ∀ (f i j : Nat), pTy (xK X) (f + 1) false i = .ok j → tyV X f i := by
  intro f
  induction f with
  | zero =>
    intro i j h
    rw [pTy, if_neg (show ¬ (false = true ∧ xK X i = 3) from fun q => absurd q.1 (by decide))] at h
    by_cases c1 : xK X i = 59 ∨ xK X i = 55
    · rw [if_pos c1] at h
      split at h
      · cases h
      · cases h
    rw [if_neg c1] at h
    by_cases c2 : xK X i = 60
    · rw [if_pos c2] at h
      split at h
      · cases h
      · cases h
    rw [if_neg c2] at h
    by_cases c3 : xK X i = 26
    · exact c3
    · rw [if_neg c3] at h; cases h
  | succ f ih =>
    intro i j h
    rw [pTy, if_neg (show ¬ (false = true ∧ xK X i = 3) from fun q => absurd q.1 (by decide))] at h
    by_cases c1 : xK X i = 59 ∨ xK X i = 55
    · rw [if_pos c1] at h
      by_cases c2 : xK X (i + 1) = 4
      · rw [if_pos c2] at h
        by_cases c3 : xK X (i + 2) = 3
        · exact Or.inr (Or.inl ⟨by omega, c3⟩)
        · rw [pTy_cell c3] at h
          exact Or.inr (Or.inr ⟨fun q => c3 q.2, ih _ _ h⟩)
      · rw [if_neg c2] at h; cases h
    rw [if_neg c1] at h
    by_cases c2 : xK X i = 60
    · rw [if_pos c2] at h
      by_cases c3 : xK X (i + 1) = 4
      · rw [if_pos c3] at h
        exact Or.inr (Or.inr ⟨fun q => q.1 c2, ih _ _ h⟩)
      · rw [if_neg c3] at h; cases h
    rw [if_neg c2] at h
    by_cases c3 : xK X i = 26
    · exact Or.inl c3
    · rw [if_neg c3] at h; cases h
theorem ff_min {p : Nat → Bool} {j : Nat} : ∀ (k i : Nat), i + k < 2 ^ 31 → ff p i k = nI j → j < 2 ^ 31 → ∀ q, i ≤ q → q < j → ¬ p q = true := by
  intro k
  induction k with
  | zero =>
    intro i hk h hj
    exact absurd h.symm (nI_m1 (by omega))
  | succ k ih =>
    intro i hk h hj q h1 h2
    by_cases c : p i = true
    · rw [ff_yes c (by omega)] at h
      have := (nI_eq (by omega) hj).mp h
      omega
    · rw [ff_no c (by omega)] at h
      by_cases e : q = i
      · subst e; exact c
      · exact ih (i + 1) (by omega) h hj q (by omega) h2
/-- the row that known gives is the first of its kind -/
theorem kn_1st (hg : Tg T) (hc : cn (knS T z) < 6000) (hq : knR T z = nI q) (hq2 : q < cn (knS T z)) : ∀ p, 1 ≤ p → p < q → rwT (knS T z) p ≠ z := by
  have h6 := kn_lt hg hc
  intro p h1 h2
  unfold knR at hq
  unfold knS at hq2 ⊢
  by_cases c : knF T z = -1
  · rw [if_pos c] at hq hq2 ⊢
    rw [if_pos h6] at hq2 ⊢
    rw [hg.1] at hq
    have e : cn T = q := nI_inj (by omega) (by rw [cn_ad h6] at hq2; omega) hq
    rw [adT_row, if_neg (by omega)]
    unfold knF at c
    rw [ff_all (by omega)] at c
    have := c p h1 (by omega)
    exact fun z' => this (by unfold eqT; exact decide_eq_true z')
  · rw [if_neg c] at hq hq2 ⊢
    unfold knF at hq
    have := ff_min (cn T - 1) 1 (by omega) hq (by omega) p h1 h2
    exact fun z' => this (by unfold eqT; exact decide_eq_true z')
theorem wa_0 (hr : rn T = 0) {q : Nat} : ∀ (m k : Nat) (T : gSt), rn T = 0 → (waX X m T q k 0).1 = 0 := by
  intro m
  induction m with
  | zero => intro k T _; rfl
  | succ m ih =>
    intro k T h
    rw [waX]
    split
    · have e : srR X T (q + k) = 0 := by
        unfold srR rgQ
        rw [h]
        by_cases a : xN X (q + k) = 72
        · rw [if_pos a]
          rfl
        · rw [if_neg a, rgV, if_neg (by decide)]
      have e2 : ((0 : Int32) ||| ((0 : Int32) <<< (((10 : Int32) * nI k) &&& 31))) = 0 := by
        rw [show ((0 : Int32) <<< (((10 : Int32) * nI k) &&& 31)) = 0 from Int32.zero_shiftLeft]
        rfl
      rw [e, e2]
      refine ih (k + 1) _ ?_
      have : rn (srS X T (q + k)) = rn T := FE.sr.ern
      rw [this]; exact h
    · rfl
theorem me_rm : ∀ (f g : Nat) (T : gSt) (i : Nat), tyV X g i → tyW X f i → Ckm T → cn (meX X f T i).2 < 6000 → (meX X f T i).2.1 7 0 = 0 → dpt (meX X f T i).2 7 (meX X f T i).1 ≤ g ∧ (rn T = 0 → ∀ f', aH (meX X f T i).2 f' (meX X f T i).1) := by
  intro f
  induction f with
  | zero => intro g T i _ hw; exact hw.elim
  | succ f ih =>
    intro g T i hv hw h hc h0
    have full := me_ok (f + 1) T i hw h hc
    have z0 : ∀ S : gSt, dpt S 7 0 ≤ g ∧ (rn T = 0 → ∀ f', aH S f' 0) := fun S => ⟨by rw [dpt, if_neg (by decide)]; omega, fun _ f' => by
      cases f' with
      | zero => trivial
      | succ f' => exact fun q => absurd q (by decide)⟩
    rw [meX] at hc h0 ⊢
    by_cases c0 : ¬ T.1 7 0 = 0
    · simp only [if_neg c0] at h0
      exact absurd h0 c0
    have c0 := Decidable.not_not.mp c0
    simp only [if_pos c0] at hc h0 ⊢
    by_cases c1 : xK X i = 26
    · simp only [if_pos c1]
      exact z0 _
    simp only [if_neg c1] at hc h0 ⊢
    obtain ⟨w1, w2⟩ := hw.resolve_left c1
    obtain ⟨g', rfl⟩ : ∃ g', g = g' + 1 := by
      cases g with
      | zero => exact absurd hv c1
      | succ g' => exact ⟨g', rfl⟩
    have hv2 := Or.resolve_left hv c1
    by_cases c2 : 0 ≤ rgQ X T (i + 1)
    · simp only [if_pos c2] at hc h0 ⊢
      have hrg := rgQ_ok h c2
      have r0 : rn T = 0 → rgQ X T (i + 1) = 0 := fun z => by
        unfold rgQ at c2 ⊢
        rw [z] at c2 ⊢
        split
        · rfl
        · rename_i b
          rw [if_neg b] at c2
          exact absurd c2 (by show ¬ (0 : Int32) ≤ rgV T (xN X (i + 1)) 0; rw [rgV]; decide)
      by_cases c3 : tiQ X i
      · simp only [if_pos c3] at hc h0 ⊢
        have w := Ckm.wa (X := X) (q := i + 3) (rgs (xK X) 3 (i + 3)) 0 (tiS X T i) 0 h.ti (by have := rgs3 (K := xK X) (i := i + 3); omega) PK.zr
        have fW := FE.ti.tr (FE.wa (X := X) (q := i + 3) (rgs (xK X) 3 (i + 3)) 0 (tiS X T i) 0)
        have wb : ¬ (tiS X T i).1 7 0 = 0 → ¬ (waX X (rgs (xK X) 3 (i + 3)) (tiS X T i) (i + 3) 0 0).2.1 7 0 = 0 := fun h => by rw [waX_bad h]; exact h
        have w0 : rn T = 0 → (waX X (rgs (xK X) 3 (i + 3)) (tiS X T i) (i + 3) 0 0).1 = 0 := fun z => wa_0 (T := T) z _ _ _ (by rw [FE.ti.ern]; exact z)
        generalize waX X (rgs (xK X) 3 (i + 3)) (tiS X T i) (i + 3) 0 0 = W at *
        by_cases c4 : W.2.1 7 0 = 0
        · simp only [if_pos c4] at hc h0 ⊢
          have c5 : 0 ≤ ff (isTi T (xN X (i + 2))) 0 (inn T) := by
            by_cases g : 0 ≤ ff (isTi T (xN X (i + 2))) 0 (inn T)
            · exact g
            · exfalso
              have hb : ¬ (tiS X T i).1 7 0 = 0 := by
                unfold tiS
                rw [if_neg g]
                exact flT_bad (by decide)
              exact wb hb c4
          obtain ⟨u, u1, u2, cu⟩ := ti_ff h.2.2.2.2.1 c5
          have u2' : u < inn W.2 := by rw [fW.einn]; exact u2
          have h24 := w.1.2.2.2.2.1
          have h0u : (0 : Int32) ≤ nI u := (nI_leI (a := 0) (b := u) (by omega) (by omega)).mpr (by omega)
          rw [u1] at hc h0 ⊢
          obtain ⟨k1, p, k2, k3, k4, k5⟩ := w.1.kn (z := (kdT X i, rgQ X T (i + 1), -1, nI u, W.1)) ⟨kdT_ok, hrg, w.2.2, fun e => absurd (kdT_3 e w1) c3.1, by
            show (if 0 ≤ nI u then _ else _)
            rw [if_pos h0u]
            exact ⟨u, rfl, u2'⟩⟩ hc
          have r5 := rwT_g k5
          have hp := nI_gt k3 (by omega : p < 100000)
          have cp : (nI p).toNatClampNeg = p := nc (by omega)
          rw [k2]
          refine ⟨?_, fun z f' => ?_⟩
          · rw [dpt, if_pos hp, cp, r5.2.2.2.1, if_pos h0u]
            omega
          · cases f' with
            | zero => trivial
            | succ f' =>
              intro _
              refine ⟨p, rfl, k3, k4, fun q q1 q2 => ?_, ?_, ?_, ?_⟩
              · rw [k5]; exact kn_1st w.1.1 hc k2 k4 q q1 q2
              · rw [r5.2.1]; exact r0 z
              · rw [r5.2.2.2.2]; exact w0 z
              · rw [r5.2.2.2.1, if_pos h0u, r5.2.2.1]
        · simp only [if_neg c4] at h0
          exact absurd h0 c4
      · simp only [if_neg c3] at hc h0 ⊢
        obtain ⟨-, w3⟩ := w2.resolve_left c3
        have v3 : tyV X g' (i + 2) := (hv2.resolve_left c3).2
        have fe := FE.me (X := X) f T (i + 2)
        have g1 := fe.tg h.1
        by_cases c4 : (meX X f T (i + 2)).2.1 7 0 = 0
        · simp only [if_pos c4] at hc h0 ⊢
          have hc1 : cn (meX X f T (i + 2)).2 < 6000 := kn_lt g1 hc
          have i1 := me_ok f T (i + 2) w3 h hc1
          have i2 := ih g' T (i + 2) v3 w3 h hc1 c4
          obtain ⟨v1, v2⟩ := i1.2 c4
          obtain ⟨k1, p, k2, k3, k4, k5⟩ := i1.1.kn (z := (kdT X i, rgQ X T (i + 1), (meX X f T (i + 2)).1, -1, 0)) ⟨kdT_ok, hrg, PK.zr.up, fun _ => (by decide : ¬ (0 : Int32) ≤ -1), by
            show (if (0 : Int32) ≤ -1 then _ else _)
            rw [if_neg (by decide)]
            exact v1⟩ hc
          have r5 := rwT_g k5
          have hp := nI_gt k3 (by omega : p < 100000)
          have cp : (nI p).toNatClampNeg = p := nc (by omega)
          have fk : FE (meX X f T (i + 2)).2 (knS (meX X f T (i + 2)).2 (kdT X i, rgQ X T (i + 1), (meX X f T (i + 2)).1, -1, 0)) := FE.kn
          have t3 := fk.2.2.1 g1
          rw [k2]
          refine ⟨?_, fun z f' => ?_⟩
          · have e1 : dpt (knS (meX X f T (i + 2)).2 (kdT X i, rgQ X T (i + 1), (meX X f T (i + 2)).1, -1, 0)) 7 (nI p) = 1 + dpt (meX X f T (i + 2)).2 6 (meX X f T (i + 2)).1 := by
              rw [dpt, if_pos hp, cp, r5.2.2.2.1, if_neg (show ¬ (0 : Int32) ≤ -1 from by decide), r5.2.2.1]
              show 1 + dpt _ 6 (meX X f T (i + 2)).1 = _
              rw [dpt_fe fk g1 i1.1.2.1 hc v1]
            have e2 : dpt (meX X f T (i + 2)).2 6 (meX X f T (i + 2)).1 ≤ dpt (meX X f T (i + 2)).2 7 (meX X f T (i + 2)).1 := dpt_mono 6 _
            rw [e1]
            have := i2.1
            omega
          · cases f' with
            | zero => trivial
            | succ f' =>
              intro _
              refine ⟨p, rfl, k3, k4, fun q q1 q2 => ?_, ?_, ?_, ?_⟩
              · rw [k5]; exact kn_1st g1 hc k2 k4 q q1 q2
              · rw [r5.2.1]; exact r0 z
              · rw [r5.2.2.2.2]
              · rw [r5.2.2.2.1, if_neg (show ¬ (0 : Int32) ≤ -1 from by decide), r5.2.2.1]
                exact ⟨rfl, aH.up t3.2.1 (t3.2.2 hc) _ _ (i2.2 z f')⟩
        · simp only [if_neg c4] at h0
          exact absurd h0 c4
    · simp only [if_neg c2] at h0
      exact absurd h0 (flT_bad (by decide))
end RMT
