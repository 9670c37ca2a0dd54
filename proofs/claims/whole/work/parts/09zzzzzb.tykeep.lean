/-! a type is kept on both sides -/
section CKN
variable {R R' : RgR} {S S' T T' T1 : gSt} {f t p q k g b c n m s y z r kd nf d : Nat} {x w v : Int32} {zz : T5}
theorem kn_row (hg : Tg S) (hc : cn (knS S zz) < 6000) : ∃ p, knR S zz = nI p ∧ 1 ≤ p ∧ p < cn (knS S zz) ∧ rwT (knS S zz) p = zz ∧ ∀ q, 1 ≤ q → q < p → rwT (knS S zz) q ≠ zz := by
  have hn : cn S ≤ 6001 := hg.2.2
  unfold knR knS at *
  rcases ff_val (p := eqT S zz) (k := cn S - 1) (i := 1) with e | ⟨j, h1, h2, h3, e⟩
  · have e' : knF S zz = -1 := e
    rw [if_pos e'] at hc ⊢
    rw [if_pos e']
    have al := (ff_all (p := eqT S zz) (k := cn S - 1) (i := 1) (by omega)).mp e
    by_cases h6 : cn S < 6000
    · rw [if_pos h6] at hc ⊢
      have ea : cn (adT S (cn S) zz) = cn S + 1 := by
        unfold cn adT
        rw [sI_v]
        exact nc (by unfold cn at h6; omega)
      refine ⟨cn S, hg.1, hg.2.1, by rw [ea]; omega, ?_, fun q hq1 hq2 => ?_⟩
      · rw [adT_row, if_pos rfl]
      · rw [adT_row, if_neg (by omega)]
        intro w
        exact al q hq1 (by omega) (decide_eq_true w)
    · rw [if_neg h6] at hc
      have e1 : cn (sI S 65 0 6001) = 6001 := by
        unfold cn
        rw [sI_v]
        exact nc (m := 6001) (by omega)
      omega
  · have e' : ¬ knF S zz = -1 := fun w => by
      have e2 : knF S zz = nI j := e
      rw [e2] at w
      have := congrArg Int32.toInt w
      rw [nI_toInt (by omega)] at this
      have e3 : (-1 : Int32).toInt = -1 := by decide
      omega
    rw [if_neg e'] at hc ⊢
    rw [if_neg e']
    refine ⟨j, e, h1, by omega, of_decide_eq_true h3, fun q hq1 hq2 w => ?_⟩
    exact ff_min (p := eqT S zz) (cn S - 1) 1 (by omega) e (by omega) q hq1 hq2 (decide_eq_true w)
/-- the reference's list grows, the class's too -/
theorem TyF.kn (hg : Tg S) (hc : cn (knS S zz) < 6000) (hk : KpQ T T' s k) : TyF S (knS S zz) T T' := by
  have fe : FE S (knS S zz) := FE.kn
  have tr := fe.2.2.1 hg
  refine ⟨tr.2.1, fun p g h1 h2 h3 h4 => ?_, fe.1 15 (by omega), hk.2.2.1, hk.2.2.2.2.2.2.1⟩
  have := tr.2.2 hc p h2
  unfold rwT at this
  simp only [Prod.mk.injEq] at this
  obtain ⟨a1, a2, a3, a4, a5⟩ := this
  rcases (by omega : g = 66 ∨ g = 67 ∨ g = 68 ∨ g = 69 ∨ g = 70) with e | e | e | e | e <;> subst e <;> assumption
theorem TyF.kp (hk : KpQ T T' s k) : TyF S S T T' := hk.tf
theorem TyR.lt7 (h : TyR R S T f x b) : b < 16387 := by
  cases f with
  | zero => have := gdR_l h; omega
  | succ f =>
    rcases h with h | ⟨p, kd, r, n, b', i1, i2, i3, i4, ic, i5, i6, _⟩
    · have := gdR_l h; omega
    · exact i6
/-- a pointer to a type -/
theorem ty_ptr (hg : Tg S) (hc : cn (knS S zz) < 6000) (hz : zz = (nI kd, nI r, x, -1, 0)) (h1 : 1 ≤ kd) (h3 : kd ≤ 3) (hr : R r n) (hr2 : r < 1024) (hn : n < 16) (hb : TyR R S T f x b) (hk : KpQ T T' s (kd + 2 + 8 * n + 128 * b)) : TyR R (knS S zz) T' (f + 1) (knR S zz) (s + 3) := by
  obtain ⟨p, p1, p2, p3, p4, p5⟩ := kn_row hg hc
  have hF := TyF.kn (s := s) hg hc hk
  have hb2 := hb.lt7
  have ky := hk.key (by have : KM = 16777216 := rfl; omega)
  have rw4 := p4
  unfold rwT at rw4
  rw [hz] at rw4
  simp only [Prod.mk.injEq] at rw4
  rw [← hz] at rw4
  obtain ⟨a1, a2, a3, a4, a5⟩ := rw4
  refine Or.inr ⟨p, kd, r, n, b, p1, p2, p3, by omega, ⟨fun w => ?_, fun _ => ⟨a4, a5⟩, fun q q1 q2 => by rw [p4]; exact p5 q q1 q2⟩, by omega, by have := hk.1; omega, by rw [show s + 3 - 3 = s by omega]; exact ky.2, a1, h1, h3, a2, hr2, hr, hn, ky.1, ?_⟩
  · rw [a4] at w; exact absurd w (by decide)
  · rw [a4, if_neg (by decide), a3]
    exact TyR.mo hF (fun _ _ h => h) f x b hb
/-- a pointer to a struct or union -/
theorem ty_thg (hg : Tg S) (hc : cn (knS S zz) < 6000) (hz : zz = (nI kd, nI r, -1, nI t, w)) (h1 : 1 ≤ kd) (h3 : kd ≤ 3) (hr : R r n) (hr2 : r < 1024) (hn : n < 16) (ht : t < 24) (hgg : g < 4096) (hp : PkR R S t w g) (hk1 : KpQ T T1 q (6 + 8 * t + 256 * g)) (hk : KpQ T1 T' s (kd + 2 + 8 * n + 128 * (q + 3))) : TyR R (knS S zz) T' (f + 1) (knR S zz) (s + 3) := by
  obtain ⟨p, p1, p2, p3, p4, p5⟩ := kn_row hg hc
  have hF : TyF S (knS S zz) T T' := (TyF.kp hk1).tr (TyF.kn hg hc hk)
  have hq := hk1.1
  have ky := hk.key (by have : KM = 16777216 := rfl; omega)
  have ky1 := hk1.key (by have : KM = 16777216 := rfl; omega)
  have old := hk.old (q := q) hq ky1.2
  have rw4 := p4
  unfold rwT at rw4
  rw [hz] at rw4
  simp only [Prod.mk.injEq] at rw4
  rw [← hz] at rw4
  obtain ⟨a1, a2, a3, a4, a5⟩ := rw4
  have t0 : 0 ≤ (knS S zz).1 69 p := by
    rw [a4]
    exact (nI_leI (a := 0) (b := t) (by omega) (by omega)).mpr (by omega)
  refine Or.inr ⟨p, kd, r, n, q + 3, p1, p2, p3, by omega, ⟨fun _ => a3, fun w => absurd t0 w, fun q q1 q2 => by rw [p4]; exact p5 q q1 q2⟩, by omega, by have := hk.1; omega, by rw [show s + 3 - 3 = s by omega]; exact ky.2, a1, h1, h3, a2, hr2, hr, hn, ky.1, ?_⟩
  rw [if_pos t0, a4, a5]
  refine ⟨by omega, by omega, by rw [show q + 3 - 3 = q by omega]; exact old.2.1, t, g, rfl, ht, by rw [old.2.2]; exact ky1.1, hgg, hp.mo hF.2.2.1 (fun _ _ h => h)⟩
end CKN
