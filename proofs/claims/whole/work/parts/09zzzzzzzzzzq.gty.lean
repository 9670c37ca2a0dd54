/-! types with their REGIONS -/
def gty (S : gSt) (ρ : Nat → Nat) (x : Int32) : List Nat := gTr S ρ 6000 x
/-- REGIONS told anew -/
def chρ (ρ : Nat → Nat) (w : Int32) (c : Nat) : Nat := ρ (chP w (nI c)).toNatClampNeg
section GTY
variable {S S' T T' Sf : gSt} {ρ ρ' : Nat → Nat} {p q f g k t r rr m : Nat} {x y w o all : Int32}
theorem nI_np (h : p < 100000) (h1 : 1 ≤ p) : ¬ nI p ≤ 0 := fun w => by
  have := (nI_leI (a := p) (b := 0) (by omega) (by omega)).mp w
  omega
theorem gTr_s (h1 : 1 ≤ p) (h2 : p < 100000) : gTr S ρ (f + 1) (nI p) = (S.1 66 p).toNatClampNeg :: ρ (S.1 67 p).toNatClampNeg :: (if S.1 69 p < 0 then 0 :: gTr S ρ f (S.1 68 p) else 1 :: (S.1 69 p).toNatClampNeg :: (List.range (S.1 15 (S.1 69 p).toNatClampNeg).toNatClampNeg).map (fun k => ρ (ptOf (S.1 70 p) (nI k)).toNatClampNeg)) := by
  rw [gTr, if_neg (nI_np h2 h1)]
  unfold tf
  rw [nc h2]
theorem gTr_0 : gTr S ρ f 0 = [0] := by
  cases f with
  | zero => rfl
  | succ f => rw [gTr, if_pos (by decide)]
theorem gTr_fu (hR : Rws S) : ∀ (p : Nat), p < cn S → p < 100000 → ∀ f, p ≤ f → gTr S ρ f (nI p) = gTr S ρ p (nI p) := by
  intro p
  induction p using Nat.strongRecOn with
  | ind p ih =>
    intro hp h1 f hf
    cases p with
    | zero => exact gTr_0.trans gTr_0.symm
    | succ p =>
      obtain ⟨f, rfl⟩ : ∃ g, f = g + 1 := ⟨f - 1, by omega⟩
      rw [gTr_s (by omega) h1, gTr_s (by omega) h1]
      by_cases c : S.1 69 (p + 1) < 0
      · rw [if_pos c, if_pos c]
        have o5 := (hR (p + 1) (by omega) hp).2.2.2.2
        change (if 0 ≤ S.1 69 (p + 1) then _ else S.1 68 (p + 1) = 0 ∨ ∃ q, S.1 68 (p + 1) = nI q ∧ 1 ≤ q ∧ q < p + 1) at o5
        rw [if_neg (Int32.not_le.mpr c)] at o5
        rcases o5 with e | ⟨q, e, q1, q2⟩
        · rw [e, gTr_0, gTr_0]
        · rw [e, ih q (by omega) (by omega) (by omega) f (by omega), ih q (by omega) (by omega) (by omega) p (by omega)]
      · rw [if_neg c, if_neg c]
theorem gty_0 (h : x ≤ 0) : gty S ρ x = [0] := by
  unfold gty
  rw [gTr, if_pos h]
theorem gty_p (hR : Rws S) (h1 : 1 ≤ p) (h2 : p < cn S) (h3 : cn S ≤ 6000) : gty S ρ (nI p) = (S.1 66 p).toNatClampNeg :: ρ (S.1 67 p).toNatClampNeg :: (if S.1 69 p < 0 then 0 :: gty S ρ (S.1 68 p) else 1 :: (S.1 69 p).toNatClampNeg :: (List.range (S.1 15 (S.1 69 p).toNatClampNeg).toNatClampNeg).map (fun k => ρ (ptOf (S.1 70 p) (nI k)).toNatClampNeg)) := by
  unfold gty
  rw [show (6000 : Nat) = 5999 + 1 from rfl, gTr_s h1 (by omega)]
  by_cases c : S.1 69 p < 0
  · rw [if_pos c, if_pos c]
    have o5 := (hR p (by omega) h2).2.2.2.2
    change (if 0 ≤ S.1 69 p then _ else S.1 68 p = 0 ∨ ∃ q, S.1 68 p = nI q ∧ 1 ≤ q ∧ q < p) at o5
    rw [if_neg (Int32.not_le.mpr c)] at o5
    rcases o5 with e | ⟨q, e, q1, q2⟩
    · rw [e, gTr_0, gTr_0]
    · rw [e, gTr_fu hR q (by omega) (by omega) 5999 (by omega), gTr_fu hR q (by omega) (by omega) 6000 (by omega)]
  · rw [if_neg c, if_neg c]
theorem chW_at (hw : PK w 3) (ho : PK o 3) : ∀ (m k : Nat) (all : Int32), k + m ≤ 3 → PK all k → ∀ j, j < 3 → ptOf (chW w o m k all) (nI j) = if k ≤ j ∧ j < k + m then chP w (ptOf o (nI j)) else ptOf all (nI j) := by
  intro m
  induction m with
  | zero => intro k all _ _ j _; rw [chW, if_neg (by omega)]
  | succ m ih =>
    intro k all hk h j hj
    obtain ⟨s1, s2, s3⟩ := h.st (show k < 3 by omega) (chP_ok (ho.at (show k < 3 by omega)) hw)
    rw [chW, ih (k + 1) _ (by omega) s1 j hj]
    by_cases c : j = k
    · subst c
      rw [if_neg (by omega), if_pos (by omega)]
      exact s2
    · by_cases c2 : k + 1 ≤ j ∧ j < k + 1 + m
      · rw [if_pos c2, if_pos (by omega)]
      · rw [if_neg c2, if_neg (by omega)]
        by_cases c3 : j < k
        · exact s3 j c3
        · rw [(s1 j hj).2 (by omega), (h j hj).2 (by omega)]
theorem rC2.nI (h : rC2 x) : nI x.toNatClampNeg = x := by
  obtain ⟨r, e, hr⟩ := h
  rw [e, nc (by omega)]
/-- a type told with other REGIONS -/
theorem gty_ch (hw : PK w 3) (hRf : Rws Sf) (h6 : cn Sf ≤ 6000) : ∀ (f : Nat) (T : gSt) (x : Int32), Tg T → Rws T → tV T x → dOk T f x → cn (chT f T x w).2 < 6000 → cn (chT f T x w).2 ≤ cn Sf → (∀ p, p < cn (chT f T x w).2 → rwT Sf p = rwT (chT f T x w).2 p) → Sf.1 15 = T.1 15 → gty Sf ρ (chT f T x w).1 = gty Sf (chρ ρ w) x := by
  intro f
  induction f with
  | zero =>
    intro T x hg hr hv hd hc hs he h15
    have : x ≤ 0 := Int32.not_lt.mp hd
    show gty Sf ρ x = _
    rw [gty_0 this, gty_0 this]
  | succ f ih =>
    intro T x hg hr hv hd hc hs he h15
    by_cases hx : 0 < x
    · obtain ⟨p, rfl, d1, d2, d3⟩ := hd hx
      have cp : (nI p).toNatClampNeg = p := nc (by omega)
      have hp1 : 1 ≤ p := by
        refine Nat.pos_of_ne_zero (fun e => ?_)
        subst e
        exact absurd hx (by decide)
      have fa := FE.ch (w := w) (f + 1) T (nI p)
      have tr := fa.2.2.1 hg
      have rp : rwT Sf p = rwT T p := (he p (by omega)).trans (tr.2.2 hc p d2)
      obtain ⟨r1, r2, r3, r4, r5⟩ := row5 rp
      obtain ⟨o1, o2, o3, o4, o5⟩ := hr p hp1 d2
      change rC2 (T.1 67 p) at o2
      change PK (T.1 70 p) 3 at o3
      change T.1 66 p = 3 → ¬ 0 ≤ T.1 69 p at o4
      change (if 0 ≤ T.1 69 p then ∃ t, T.1 69 p = nI t ∧ t < inn T else T.1 68 p = 0 ∨ ∃ q, T.1 68 p = nI q ∧ 1 ≤ q ∧ q < p) at o5
      rw [gty_p hRf hp1 (by omega) h6, r1, r2, r3, r4, r5]
      rw [chT, if_pos hx] at hc hs he ⊢
      simp only [cp] at hc hs he ⊢
      by_cases h9 : 0 ≤ T.1 69 p
      · simp only [if_pos h9] at hc hs he d3 o5 ⊢
        obtain ⟨t, rr, t1, t2, t3, t4⟩ := d3
        have e1 : (T.1 15 (T.1 69 p).toNatClampNeg).toNatClampNeg = rr := by rw [t1, nc (by omega), t3, nc (by omega)]
        obtain ⟨k2, q, k3, k4, k5, k6⟩ := Rws.kn hg hr (z := (T.1 66 p, chP w (T.1 67 p), -1, T.1 69 p, chW w (T.1 70 p) (T.1 15 (T.1 69 p).toNatClampNeg).toNatClampNeg 0 0)) ⟨o1, chP_ok o2 hw, by rw [e1]; exact chW_ok hw o3 rr 0 0 (by omega) PK.zr, o4, by show (if 0 ≤ T.1 69 p then _ else _); rw [if_pos h9]; exact o5⟩ hc
        show gty Sf ρ (knR T _) = _
        have rq := (he q k5).trans k6
        obtain ⟨z1, z2, z3, z4, z5⟩ := rwT_g rq
        rw [k3, gty_p hRf k4 (by omega) h6, z1, z2, z4, z5]
        dsimp only
        rw [if_neg (Int32.not_lt.mpr h9), if_neg (Int32.not_lt.mpr h9), h15, e1]
        congr 1
        congr 1
        · unfold chρ
          rw [o2.nI]
        congr 1
        congr 1
        refine List.map_congr_left (fun k hk => ?_)
        rw [List.mem_range] at hk
        rw [chW_at hw o3 rr 0 0 (by omega) PK.zr k (by omega), if_pos (by omega)]
        unfold chρ
        rw [(o3.at (show k < 3 by omega)).nI]
      · simp only [if_neg h9] at hc hs he d3 o5 ⊢
        have v1 : tV T (T.1 68 p) := by
          rcases o5 with o5 | ⟨q, o6, o7, o8⟩
          · exact Or.inl o5
          · exact Or.inr ⟨q, o6, o7, by omega⟩
        have fe := FE.ch (w := w) f T (T.1 68 p)
        have g1 := fe.tg hg
        have c1 := kn_lt g1 hc
        have i1 := ch_ok hw f T (T.1 68 p) hg hr v1 d3 c1
        obtain ⟨k2, q, k3, k4, k5, k6⟩ := Rws.kn g1 i1.1 (z := (T.1 66 p, chP w (T.1 67 p), (chT f T (T.1 68 p) w).1, -1, 0)) ⟨o1, chP_ok o2 hw, PK.zr.up, fun _ => (by decide : ¬ (0 : Int32) ≤ -1), by
          show (if (0 : Int32) ≤ -1 then _ else _)
          rw [if_neg (by decide)]
          exact i1.2⟩ hc
        have fk := (FE.kn (T := (chT f T (T.1 68 p) w).2) (z := (T.1 66 p, chP w (T.1 67 p), (chT f T (T.1 68 p) w).1, -1, 0))).2.2.1 g1
        have ii := ih T (T.1 68 p) hg hr v1 d3 c1 (by have := fk.2.1; exact Nat.le_trans this hs) (fun p' hp' => (he p' (Nat.lt_of_lt_of_le hp' fk.2.1)).trans (fk.2.2 hc p' hp')) h15
        show gty Sf ρ (knR (chT f T (T.1 68 p) w).2 _) = _
        have rq := (he q k5).trans k6
        obtain ⟨z1, z2, z3, z4, z5⟩ := rwT_g rq
        rw [k3, gty_p hRf k4 (Nat.lt_of_lt_of_le k5 hs) h6, z1, z2, z3, z4]
        dsimp only
        rw [if_pos (show (-1 : Int32) < 0 by decide), if_pos (Int32.not_le.mp h9), ii]
        congr 1
        congr 1
        unfold chρ
        rw [o2.nI]
    · have : x ≤ 0 := Int32.not_lt.mp hx
      rw [chT, if_neg hx]
      show gty Sf ρ x = _
      rw [gty_0 this, gty_0 this]
end GTY
