/-! a fun among all funs */
-/
/-- what is told of a fun: its BLOCK, its rows on both sides */
-/
def FuA (X : Lx) (Sf M T : gSt) (t N1 N2 : Nat) : Prop := ∃ (x : It) (c : Nat) (S : gSt) (a b v' g' n q m r : Nat), FW S Sf ∧ (∀ k, k < 72 → Sf.2 k = S.2 k) ∧ HI X S t c x ∧ Ws X x.2.2.2.2.2.2.2.2 2 a b x.2.2.1.length 0 v' g' ∧ SG X x.2.2.2.2.2.2.2.2 1 2 ∧ Gk X t Sf x.2.2.2.2.2.2.2.2 0 0 0 (fnC t c x.2.2.1.length x.2.2.2.2.2.2.2.1 S) ∧ (n ≤ q ∧ q < N1 ∧ M.1 36 t = nI n ∧ CdS X t M x.2.2.2.2.2.2.2.2 0 0 (fnC t c x.2.2.1.length x.2.2.2.2.2.2.2.1 S) n q ∧ rwC4 M q = (28, 0, 0, 0)) ∧ (m ≤ r ∧ r < N2 ∧ T.1 42 t = nI m ∧ KdS X t x.2.1 Sf T x.2.2.2.2.2.2.2.2 0 0 (fnC t c x.2.2.1.length x.2.2.2.2.2.2.2.1 S) m r ∧ cw3 T r = (58, 0, 0)) ∧ ((stS X t x.2.2.2.2.2.2.2.2 0 0 0 (fnC t c x.2.2.1.length x.2.2.2.2.2.2.2.1 S)).1 83 0 = 1 → Sf.1 25 t < 0)
section SWA
variable {M T Sf S : gSt} {X : Lx}
theorem pIts_sgl : ∀ (f i : Nat) (l : List It), pIts (xK X) f i = .ok l → ∀ x, x ∈ l → xK X x.1 = 12 → SG X x.2.2.2.2.2.2.2.2 1 2 := by
  intro f
  induction f with
  | zero => intro i l h; rw [pIts] at h; cases h
  | succ f ih =>
    intro i l h x hx
    rw [pIts] at h
    split at h
    · generalize hr : pItem (xK X) i = r at h
      cases r with
      | error e => cases h
      | ok y =>
        obtain ⟨y, j⟩ := y
        dsimp only at h
        split at h
        · cases h
          rcases List.mem_cons.mp hx with rfl | hx
          · exact pItem_sg hr
          · exact absurd hx List.not_mem_nil
        · generalize hr2 : pIts (xK X) f j = r2 at h
          cases r2 with
          | error e => cases h
          | ok l2 =>
            cases h
            rcases List.mem_cons.mp hx with rfl | hx
            · exact pItem_sg hr
            · exact ih _ _ hr2 x hx
    · cases h
theorem fu_at (hf0 : Sf.1 7 0 = 0) : ∀ (xs : List It) (t c a z : Nat) (S : gSt) (n N1 m N2 : Nat), HIs X S xs t c → ItsOk X xs a z → (∀ q, t ≤ q → q < t + xs.length → S.1 12 q = 2 → ∃ x, xs.getD (q - t) (0, 0, [], 0, 0, 0, 0, 0, tZ) = x ∧ xK X x.1 = 12) → (∀ x, x ∈ xs → xK X x.1 = 12 → SG X x.2.2.2.2.2.2.2.2 1 2) → FW (fnsL X xs t c S) Sf → (∀ k, k < 72 → Sf.2 k = S.2 k) → GkL X Sf xs t c S → CdL X M xs t c S n N1 → KdL X Sf T xs t c S m N2 → ∀ u, t ≤ u → u < t + xs.length → Sf.1 12 u = 2 → FuA X Sf M T u N1 N2 := by
  intro xs
  induction xs with
  | nil =>
    intro t c a z S n N1 m N2 _ _ _ _ _ _ _ _ _ u h1 h2
    exact absurd h2 (by show ¬ u < t + 0; omega)
  | cons x xs ih =>
    intro t c a z S n N1 m N2 hI hO hK hsg hF h2 hg hC hT u u1 u2 u12
    have c0 : S.1 7 0 = 0 := (FW.fns (X := X) (x :: xs) t c S).ok (hF.ok hf0)
    have hF0 := (FW.fns (X := X) (x :: xs) t c S).tr hF
    rw [fnsL, if_pos c0] at hF
    obtain ⟨e, iO, iR⟩ := hO
    have f1 := (FW.fns (X := X) xs (t + 1) (c + x.2.2.1.length) (fnI X t c x S)).tr hF
    have fI : FW S (fnI X t c x S) := FW.fni
    have o : ∀ k, k < 64 → k ≠ 7 → k ≠ 8 → (fnI X t c x S).1 k = S.1 k := fun k k1 k2 k3 => fI.1 k k1 k2 k3
    have o2 : ∀ k, k < 72 → (fnI X t c x S).2 k = S.2 k := fun k k1 => by
      unfold fnI
      split
      · unfold fnS
        rw [FS.fne.2.1 k k1, (st_fs _ 0 0 0 _).2.1 k k1, FQ.nC.2.1 k k1]
      · rfl
    rw [List.length_cons] at u2
    have hK' : ∀ q, t + 1 ≤ q → q < t + 1 + xs.length → (fnI X t c x S).1 12 q = 2 → ∃ x, xs.getD (q - (t + 1)) (0, 0, [], 0, 0, 0, 0, 0, tZ) = x ∧ xK X x.1 = 12 := fun q h1 h2 h3 => by
      rw [o 12 (by omega) (by omega) (by omega)] at h3
      obtain ⟨x', e1, e2⟩ := hK q (by omega) (by rw [List.length_cons]; omega) h3
      refine ⟨x', ?_, e2⟩
      rw [show q - t = (q - (t + 1)) + 1 by omega] at e1
      exact e1
    have rest : ∀ n m, CdL X M xs (t + 1) (c + x.2.2.1.length) (fnI X t c x S) n N1 → KdL X Sf T xs (t + 1) (c + x.2.2.1.length) (fnI X t c x S) m N2 → ¬ u = t → FuA X Sf M T u N1 N2 := fun n m hc ht hu => ih (t + 1) (c + x.2.2.1.length) e z _ n N1 m N2 (HIs.gx o o2 _ _ _ hI.2) iR hK' (fun x hx => hsg x (List.mem_cons_of_mem _ hx)) hF (fun k hk => by rw [o2 k hk]; exact h2 k hk) hg.2 hc ht u (by omega) (by omega) u12
    rw [CdL] at hC
    rw [KdL] at hT
    by_cases c12 : S.1 12 t = 2
    · rw [if_pos c12] at hC hT
      obtain ⟨q, q1, q2, q3, q4, q5, q6⟩ := hC
      obtain ⟨r, r1, r2, r3, r4, r5, r6⟩ := hT
      by_cases hu : u = t
      · subst hu
        obtain ⟨x', ex, k12⟩ := hK u (Nat.le_refl _) (by rw [List.length_cons]; omega) c12
        rw [Nat.sub_self] at ex
        have ex : x = x' := ex
        subst ex
        obtain ⟨a', v', g', d1, d2, d3⟩ := iO.2.2.2.2.2.2 k12
        refine ⟨x, c, S, a', e, v', g', n, q, m, r, hF0, h2, hI.1, d2, hsg x List.mem_cons_self k12, hg.1 c12, ⟨q1, q2, q3, q4, q5⟩, ⟨r1, r2, r3, r4, r5⟩, fun h83 => ?_⟩
        have eI : fnI X u c x S = fnS X u c x.2.2.1.length x.2.2.2.2.2.2.2.1 x.2.2.2.2.2.2.2.2 S := by unfold fnI; rw [if_pos c12]
        have o1 := f1.ok hf0
        rw [eI] at o1 f1
        have f2 : FW (stS X u x.2.2.2.2.2.2.2.2 0 0 0 (fnC u c x.2.2.1.length x.2.2.2.2.2.2.2.1 S)) Sf := FS.trw FS.fne f1
        have e7 := f2.ok hf0
        refine Decidable.byContradiction fun w => ?_
        rw [f2.1 25 (by omega) (by omega) (by omega)] at w
        unfold fnS fnE at o1
        rw [if_pos e7, if_neg w, if_neg (by rw [h83]; decide)] at o1
        exact flT_bad (by decide) o1
      · exact rest _ _ q6 r6 hu
    · rw [if_neg c12] at hC hT
      refine rest _ _ hC hT (fun w => c12 ?_)
      subst w
      rw [← hF0.1 12 (by omega) (by omega) (by omega)]
      exact u12
end SWA
