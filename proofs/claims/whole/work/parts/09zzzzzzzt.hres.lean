/-! a fun without a result, as heads leave it -/
section CYT
variable {S S' T : gSt} {X : Lx} {t c k : Nat} {x : It}
theorem hd_26 (h12 : S.1 12 t = 2) (hr : x.2.2.2.1 = 0) : (hdI X t c x S).1 26 t = -1 := by
  unfold hdI hdS tlS
  have fA : FH S (fdL X c x.2.2.1 x.2.2.1.length 0 (hdA t S)) := FH.hA.tr (FH.fd _ _ _)
  have e12 : (fdL X c x.2.2.1 x.2.2.1.length 0 (hdA t S)).1 12 t = 2 := by
    rw [fA.1 12 (by omega) (by omega) (by omega) (by omega) (by omega) (by omega)]
    exact h12
  rw [if_pos (by rw [e12]; decide), whL_o 26 (by omega) (by omega), deL_o 26 (by omega) (by omega) (by omega)]
  unfold rtS
  rw [if_pos hr, sI_ne (by omega), sI_v]
theorem hds_26 : ∀ (xs : List It) (t c : Nat) (S : gSt), (hdsL X xs t c S).1 7 0 = 0 → ∀ q x, xs[q]? = some x → S.1 12 (t + q) = 2 → x.2.2.2.1 = 0 → (hdsL X xs t c S).1 26 (t + q) = -1 := by
  intro xs
  induction xs with
  | nil => intro t c S _ q x h; simp at h
  | cons y xs ih =>
    intro t c S h0 q x hq h12 hr
    have s0 : S.1 7 0 = 0 := (FH.hds (y :: xs) t c S).ok h0
    rw [hdsL, if_pos s0] at h0 ⊢
    cases q with
    | zero =>
      simp at hq
      subst hq
      rw [Nat.add_zero] at h12
      show (hdsL X xs (t + 1) (c + y.2.2.1.length) (hdI X t c y S)).1 26 t = -1
      rw [(hds_fr (X := X) xs (t + 1) (c + y.2.2.1.length) (hdI X t c y S)).2 t (by omega)]
      exact hd_26 h12 hr
    | succ q =>
      have := ih (t + 1) (c + y.2.2.1.length) (hdI X t c y S) h0 q x (by simpa using hq) (by
        have f : FH S (hdI X t c y S) := FH.hd
        rw [f.1 12 (by omega) (by omega) (by omega) (by omega) (by omega) (by omega), show t + 1 + q = t + (q + 1) by omega]
        exact h12) hr
      rw [show t + 1 + q = t + (q + 1) by omega] at this
      exact this
end CYT
