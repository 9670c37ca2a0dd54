/-- what the class's rows of tokens hold: the tokens that the reference comes to, one after the other -/
theorem scn_tk {f : Nat → Int32} {fw : Nat → Int64} {tz : Nat} (hz : tz ≤ 4000) {m : Nat} : ∀ {a tn : Nat} {gk gs : Nat → Int32} {gn : Nat → Int64} {R : Nat × (Nat → Int32) × (Nat → Int32) × (Nat → Int64)}, a ≤ tz → tz - a < m → scn f fw tz m a tn gk gs gn = R →
    tn ≤ R.1 ∧ (∀ j, j < tn → R.2.1 j = gk j ∧ R.2.2.1 j = gs j ∧ R.2.2.2 j = gn j) ∧ (∀ i, tn + i < R.1 → tkAt f tz (sk f tz a) i < tz ∧ R.2.1 (tn + i) = tokK f fw tz (tkAt f tz (sk f tz a) i) ∧ R.2.2.1 (tn + i) = nI (tkAt f tz (sk f tz a) i) ∧ R.2.2.2 (tn + i) = tokV f tz (tkAt f tz (sk f tz a) i)) ∧ tkAt f tz (sk f tz a) (R.1 - tn) = tz := by
  induction m with
  | zero => intro a tn gk gs gn R _ h; omega
  | succ m ih =>
    intro a tn gk gs gn R ha hm hR
    by_cases c : tz ≤ a
    · rw [scn_end c] at hR
      subst hR
      have e : sk f tz a = tz := by
        unfold sk
        rw [show tz - a = 0 by omega]
        show a + 0 = tz
        omega
      refine ⟨Nat.le_refl _, fun j _ => ⟨rfl, rfl, rfl⟩, fun i hi => absurd hi (by show ¬ tn + i < tn; omega), ?_⟩
      rw [e]
      show tkAt f tz tz (tn - tn) = tz
      rw [Nat.sub_self]
      rfl
    · have hs : scn f fw tz (m + 1) a tn gk gs gn = scn f fw tz m (sNext f tz a) (if f a = 32 then tn else tn + 1) (if f a = 32 then gk else upd gk tn (tokK f fw tz a)) (if f a = 32 then gs else upd gs tn (nI a)) (if f a = 32 then gn else vp_updL gn tn (tokV f tz a)) := if_neg c
      rw [hs] at hR
      have hgt := sNext_gt (f := f) (tz := tz) (a := a)
      have hle := sNext_le (f := f) (tz := tz) (a := a) (by omega)
      by_cases c32 : f a = 32
      · rw [if_pos c32, if_pos c32, if_pos c32, if_pos c32] at hR
        have e1 : sNext f tz a = a + 1 := if_pos c32
        rw [e1] at hR
        have e2 : sk f tz (a + 1) = sk f tz a := by
          unfold sk
          rw [bs_y (a := a) c32 (show 0 < tz - a by omega), show tz - a - 1 = tz - (a + 1) by omega]
          omega
        have := ih (by omega) (by omega) hR
        rw [e2] at this
        exact this
      · rw [if_neg c32, if_neg c32, if_neg c32, if_neg c32] at hR
        obtain ⟨h1, h2, h3, h4⟩ := ih hle (by omega) hR
        have e0 : sk f tz a = a := by
          unfold sk
          rw [bs_n (Or.inr c32)]
          rfl
        have e1 : nq f tz a = sk f tz (sNext f tz a) := by
          unfold nq sk
          rw [aft_next hz (by omega) c32]
        have e2 : ∀ i, tkAt f tz a (i + 1) = tkAt f tz (sk f tz (sNext f tz a)) i := fun i => by
          show tkAt f tz (nq f tz a) i = _
          rw [e1]
        rw [e0]
        refine ⟨by omega, fun j hj => ?_, fun i hi => ?_, ?_⟩
        · obtain ⟨a1, a2, a3⟩ := h2 j (by omega)
          exact ⟨a1.trans (pk_un (by omega)), a2.trans (pk_un (by omega)), a3.trans (pk_uLn (by omega))⟩
        · cases i with
          | zero =>
            obtain ⟨a1, a2, a3⟩ := h2 tn (by omega)
            exact ⟨by show a < tz; omega, a1.trans pk_us, a2.trans pk_us, a3.trans pk_uLs⟩
          | succ i =>
            have := h3 i (by omega)
            rw [e2, show tn + (i + 1) = tn + 1 + i by omega]
            exact this
        · rw [show R.1 - tn = (R.1 - (tn + 1)) + 1 by omega, e2]
          exact h4
