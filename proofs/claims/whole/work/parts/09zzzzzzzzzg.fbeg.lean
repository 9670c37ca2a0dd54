/-! as a fun begins: LIVE REGIONS, what outlives what, both sides -/
section FBG
variable {S S' T T' U : gSt} {X : Lx} {it e n m k a b c j w r s t : Nat} {x y z : Int32} {nm : Int64} {wl : Int64}
theorem os_fn (h40 : T.1 40 it = wcT 3 1 (bwT S it w 0 0)) (hp : ∀ q, q < w → ∃ r s, 1 ≤ r ∧ r ≤ 3 ∧ 1 ≤ s ∧ s ≤ 3 ∧ roI S it (S.2 32 (6 * it + 2 * q)) = nI r ∧ roI S it (S.2 32 (6 * it + (2 * q + 1))) = nI s) : OsR it (fnB it w S) T := by
  have fq : FQ S (fnA it S) := FQ.nA
  have hr : ∀ nm, roI (fnA it S) it nm = roI S it nm := fun nm => by
    have e : isRi (fnA it S) it nm = isRi S it nm := by
      funext k
      unfold isRi
      rw [fq.2.1 16 (by omega)]
    unfold roI
    rw [e, fq.1 15 (by omega) (by omega)]
  have a0 : (fnA it S).1 76 0 = 0 := by unfold fnA; rw [sI_v]
  have z0 : Oq ((fnA it S).1 76 0) 0 := fun r s _ _ _ _ => by rw [a0, fi_0, fi_0]
  have h1 := Oq.fl (it := it) (S := S) w 0 (fnA it S) 0 hr (fq.2.1 32 (by omega)) z0 (fun q _ q2 => hp q (by omega))
  have h2 := h1.cS
  have e76 : (fnB it w S).1 76 0 = (clS (fwL it w 0 (fnA it S))).1 76 0 := by
    unfold fnB zrS
    rw [sI_ne (by omega), sI_ne (by omega), sI_ne (by omega), sI_ne (by omega), sI_ne (by omega), sI_ne (by omega), sI_ne (by omega)]
  intro r s r1 r2 s1 s2
  rw [e76, h40]
  exact h2 r s r1 r2 s1 s2
theorem fb_liv : ∀ (m r : Nat) (w : Int64), r + m ≤ 12 → ∀ k, k < 64 → fb (livW x m r w) k = if 40 + r ≤ k ∧ k < 40 + r + m then decide (((x >>> (nI (k - 40) &&& 31)) &&& 1) = 0) else fb w k := by
  intro m
  induction m with
  | zero => intro r w _ k _; rw [livW, if_neg (by omega)]
  | succ m ih =>
    intro r w h k hk
    rw [livW, ih (r + 1) _ (by omega) k hk]
    by_cases c : 40 + (r + 1) ≤ k ∧ k < 40 + (r + 1) + m
    · rw [if_pos c, if_pos (by omega)]
    · rw [if_neg c, fb_sb (by omega) hk]
      by_cases c2 : k = 40 + r
      · rw [if_pos c2, if_pos (by omega), c2, show 40 + r - 40 = r by omega]
      · rw [if_neg c2, if_neg (by omega)]
theorem fb_beg : ∀ k, k < 64 → fb 4504699138998272 k = decide (k = 40 ∨ k = 52) := by decide +kernel
/-- LIVE, on the class's side -/
theorem fb_ef (he : e ≤ 3) (hk : k < 64) : fb (livW x e 1 4504699138998272) k = if 41 ≤ k ∧ k ≤ 40 + e then !(fi x (k - 40)) else decide (k = 40 ∨ k = 52) := by
  rw [fb_liv e 1 _ (by omega) k hk]
  by_cases c : 41 ≤ k ∧ k ≤ 40 + e
  · rw [if_pos (by omega), if_pos c]
    have a := fi_sr (x := x) (n := k - 40) (by omega)
    cases hf : fi x (k - 40) with
    | true =>
      rw [hf] at a
      have : ((x >>> (nI (k - 40) &&& 31)) &&& 1) = 1 := a.mpr rfl
      rw [this]
      rfl
    | false =>
      rcases and1 (x >>> (nI (k - 40) &&& 31)) with w | w
      · rw [w]; rfl
      · have := a.mp w
        rw [hf] at this
        cases this
  · rw [if_neg (by omega), if_neg c]
    exact fb_beg k hk
/-- the same, on the spec's -/
theorem fi_15 (he : e ≤ 3) : ∀ c, c < 32 → fi ((15 : Int32) >>> (((3 : Int32) - nI e) &&& 31)) c = decide (c ≤ e) := by
  rcases (by omega : e = 0 ∨ e = 1 ∨ e = 2 ∨ e = 3) with w | w | w | w <;> subst w <;> decide +kernel
theorem fi_beg (he : e ≤ 3) (h15 : S.1 15 it = nI e) (hc : c < 32) : fi ((fnB it w S).1 75 0) c = (decide (c ≤ e) && !(fi (S.1 30 it) c)) := by
  have e0 : ∀ k, k ≠ 64 → k ≤ 70 → (fn0 it S).1 k = S.1 k := fun k a b => (FQ.n0 : FQ S (fn0 it S)).1 k a b
  have e75 : (fnB it w S).1 75 0 = ((15 : Int32) >>> (((3 : Int32) - nI e) &&& 31)) &&& (S.1 30 it ^^^ (-1)) := by
    have f : ∀ (k j : Nat) (V : gSt), (fwL it k j V).1 75 = V.1 75 := by
      intro k
      induction k with
      | zero => intro j V; rfl
      | succ k ih => intro j V; rw [fwL, ih]; unfold fwS; rw [sI_ne (by omega)]
    have f1 : ∀ a b c (V : gSt), (cl1 a b c V).1 75 = V.1 75 := fun a b c V => by unfold cl1; split; exact sI_ne (by omega); rfl
    have f2 : ∀ a b (V : gSt), (cl2 a b V).1 75 = V.1 75 := fun a b V => by unfold cl2; rw [f1, f1, f1]
    have f3 : ∀ a (V : gSt), (cl3 a V).1 75 = V.1 75 := fun a V => by unfold cl3; rw [f2, f2, f2]
    unfold fnB zrS clS
    rw [sI_ne (by omega), sI_ne (by omega), sI_ne (by omega), sI_ne (by omega), sI_ne (by omega), sI_ne (by omega), sI_ne (by omega), f3, f3, f3, f]
    unfold fnA
    rw [sI_ne (by omega), sI_v, e0 15 (by omega) (by omega), e0 30 (by omega) (by omega), h15]
  rw [e75, fi_an, fi_15 he c hc, fi_xr, fi_m1 hc]
  cases fi (S.1 30 it) c <;> rfl
end FBG
