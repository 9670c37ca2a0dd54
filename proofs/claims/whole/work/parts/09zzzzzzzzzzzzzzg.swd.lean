/-! a program: all that runs lean on */
-/
section SWD
variable {M T S Sf U : gSt} {X : Lx} {its : List It} {t c p u : Nat}
theorem pFl_ne {K : Nat → Nat} : ∀ (f q j : Nat) (l : List Nat) (j3 : Nat), pFl K f q j = .ok (l, j3) → 1 ≤ l.length := by
  intro f
  cases f with
  | zero => intro q j l j3 h; rw [pFl] at h; cases h
  | succ f =>
    intro q j l j3 h
    rw [pFl] at h
    split at h
    · cases h
    · generalize pField K j = r at h
      cases r with
      | error e => cases h
      | ok j2 =>
        dsimp only at h
        split at h
        · split at h
          · cases h
            exact Nat.le_refl _
          · generalize pFl K f (q + 1) (j2 + 1) = r2 at h
            cases r2 with
            | error e => cases h
            | ok y =>
              obtain ⟨l2, j4⟩ := y
              cases h
              show 1 ≤ l2.length + 1
              omega
        · cases h
theorem pItem_ne {i j : Nat} {x : It} (h : pItem (xK X) i = .ok (x, j)) (h12 : ¬ xK X x.1 = 12) : 1 ≤ x.2.2.1.length := by
  unfold pItem at h
  by_cases k12 : xK X i = 12
  · rw [if_pos k12] at h
    exfalso
    split at h
    · generalize pHead (xK X) (i + 2 + rgs (xK X) 3 (i + 2)) = r at h
      cases r with
      | error e => cases h
      | ok y =>
        obtain ⟨l, rt, dt, n, wt, w, j4⟩ := y
        dsimp only at h
        generalize pBl (xK X) 20 j4 l.length 0 = r2 at h
        cases r2 with
        | error e => cases h
        | ok z =>
          obtain ⟨bd, j2, v', g'⟩ := z
          cases h
          exact h12 k12
    · cases h
  · rw [if_neg k12] at h
    split at h
    · split at h
      · generalize hr0 : pFl (xK X) 9 0 (i + 2 + rgs (xK X) 3 (i + 2) + 1) = r0 at h
        cases r0 with
        | error e => cases h
        | ok y =>
          obtain ⟨l, j3⟩ := y
          have z := pFl_ne _ _ _ _ _ hr0
          unfold pSt at h
          dsimp only at h
          split at h
          · next e he =>
            split at he
            · cases he
            · cases h
          · next l' j' he =>
            split at he
            · cases he
              cases h
              exact z
            · cases he
      · cases h
    · cases h
theorem pIts_len : ∀ (f i : Nat) (l : List It), pIts (xK X) f i = .ok l → ∀ x, x ∈ l → ¬ xK X x.1 = 12 → 1 ≤ x.2.2.1.length := by
  intro f
  induction f with
  | zero => intro i l h; rw [pIts] at h; cases h
  | succ f ih =>
    intro i l h x hx
    rw [pIts] at h
    split at h
    · generalize hr : pItem (xK X) i = r at h
      cases r with
      | error e => cases h
      | ok y =>
        obtain ⟨y, j⟩ := y
        dsimp only at h
        split at h
        · cases h
          rcases List.mem_cons.mp hx with rfl | hx
          · exact pItem_ne hr
          · exact absurd hx List.not_mem_nil
        · generalize hr2 : pIts (xK X) f j = r2 at h
          cases r2 with
          | error e => cases h
          | ok l2 =>
            cases h
            rcases List.mem_cons.mp hx with rfl | hx
            · exact pItem_ne hr
            · exact ih _ _ hr2 x hx
    · cases h
theorem rp_at : ∀ (xs : List It) (t c p : Nat), RepP X T t c p xs → ∀ u, t ≤ u → u < t + xs.length → ∃ x, x ∈ xs ∧ T.1 12 u = (if xK X x.1 = 10 then 0 else if xK X x.1 = 11 then 1 else 2) ∧ T.1 19 u = nI x.2.2.1.length ∧ x.2.2.1.length ≤ 8 := by
  intro xs
  induction xs with
  | nil => intro t c p _ u h1 h2; exact absurd h2 (by show ¬ u < t + 0; omega)
  | cons x xs ih =>
    intro t c p h u u1 u2
    obtain ⟨p', p1, p2, rI, rP⟩ := h
    rw [List.length_cons] at u2
    by_cases e : u = t
    · subst e
      obtain ⟨i, ee, l, rt, dt, n, wt, w, bd⟩ := x
      exact ⟨_, List.mem_cons_self, rI.1, rI.2.2.2.2.2.2.2.1, rI.2.2.2.2.2.2.2.2.1⟩
    · obtain ⟨y, y1, y2⟩ := ih _ _ _ rP u (by omega) (by omega)
      exact ⟨y, List.mem_cons_of_mem _ y1, y2⟩
theorem fns_k2 {k : Nat} (hk : k < 72) : ∀ (xs : List It) (t c : Nat) (S : gSt), (fnsL X xs t c S).2 k = S.2 k := by
  intro xs
  induction xs with
  | nil => intro t c S; rfl
  | cons x xs ih =>
    intro t c S
    rw [fnsL]
    split
    · rw [ih]
      unfold fnI
      split
      · unfold fnS
        rw [FS.fne.2.1 k hk, (st_fs _ 0 0 0 _).2.1 k hk, FQ.nC.2.1 k hk]
      · rfl
    · rfl
theorem prg_all (h : Prg X its S Sf M T) : ∃ n1, CxP M T Sf ∧ FwQ Sf T ∧ PgG M T Sf n1 ∧ nU M ≤ 4000 ∧ T.1 27 0 = nI its.length ∧ its.length ≤ 24 ∧ inn Sf = its.length ∧ T.1 51 0 = nI n1 ∧ n1 ≤ 6032 ∧ Sf.1 7 0 = 0 := by
  obtain ⟨hSf, rm, hp, hf0, hc, ck, gk, ⟨N1, cd, N12⟩, hM, ⟨⟨hs, _, ai, ct, h71⟩, ⟨n1, kd, h51, n6⟩, h27, _, _⟩⟩ := h
  obtain ⟨r1, r2, r3, r4, r5, r6, r7, r8, T2, eT, rp⟩ := rm
  have k0 : Ck0 (sI S 65 0 1) := ck0_65 r1 r2 r5
  have hI0 := his_65 (X := X) its 0 0 r3
  have fhL := FH.hds (X := X) its 0 0 (sI S 65 0 1)
  have fhS : FH (sI S 65 0 1) (hdsS X its S) := fhL.tr FH.mn
  have fwF : FW (hdsS X its S) Sf := by rw [hSf]; exact FW.fns _ _ _ _
  have fK0 : FK (sI S 65 0 1) Sf := FK.fh fhS (FK.fw fwF)
  have fKH : FK (hdsL X its 0 0 (sI S 65 0 1)) Sf := FK.fh FH.mn (FK.fw fwF)
  have oS : ∀ k, k < 64 → k ≠ 7 → k ≠ 8 → k ≠ 24 → k ≠ 26 → k ≠ 30 → Sf.1 k = S.1 k := fun k a b c d e f => by rw [fK0.1 k a b c d e f, sI_ne (by omega)]
  have oH : ∀ k, k = 24 ∨ k = 26 ∨ k = 30 → Sf.1 k = (hdsL X its 0 0 (sI S 65 0 1)).1 k := fun k hk => by
    rw [fwF.1 k (by omega) (by omega) (by omega)]
    unfold hdsS mnS
    split
    · rfl
    · rw [flT_o (by omega) (by omega)]
  have hin : inn Sf = its.length := by unfold inn; rw [oS 11 (by omega) (by omega) (by omega) (by omega) (by omega) (by omega), r1, nc (by omega)]
  have h7 : (hdsL X its 0 0 (sI S 65 0 1)).1 7 0 = 0 := FH.ok (FH.mn (T := (hdsL X its 0 0 (sI S 65 0 1)))) (fwF.ok hf0)
  have own := hds_in (X := X) ck.2.1 hc its 0 0 (sI S 65 0 1) hI0 k0 fKH h7
  have c6 : cn Sf ≤ 6000 := by omega
  have iq : ∀ t, t < inn Sf → ∃ c m, ItQ Sf T t c m := fun t ht => by
    obtain ⟨c', x, ⟨U, u1, u2⟩, a1, a2, a3⟩ := own t (by omega) (by omega)
    have oU : ∀ k, k < 64 → k ≠ 7 → k ≠ 8 → k ≠ 24 → k ≠ 26 → k ≠ 30 → Sf.1 k = U.1 k := fun k a b c d e f => by rw [fK0.1 k a b c d e f, u1.1 k (by omega) b c d e f]
    have x15 : Sf.1 15 t = nI x.2.1 := by rw [oU 15 (by omega) (by omega) (by omega) (by omega) (by omega) (by omega)]; exact u2.2.2.1
    have x3 := u2.2.2.2.1
    have eE : eN Sf t = x.2.1 := by unfold eN; rw [x15, nc (by omega)]
    have x18 : Sf.1 18 t = nI c' := by rw [oU 18 (by omega) (by omega) (by omega) (by omega) (by omega) (by omega)]; exact u2.1.2.1
    have x19 : Sf.1 19 t = nI x.2.2.1.length := by rw [oU 19 (by omega) (by omega) (by omega) (by omega) (by omega) (by omega)]; exact u2.1.2.2.1
    have l8 := u2.1.2.2.2.1
    have c2 := u2.1.2.2.2.2.1
    refine it_q c6 (ck.2.2.2.2.2 t ht) (ai t ht) (fun c m e1 e2 e3 f hf => ?_) (fun h25 h12 => ?_) (fun h12 => ?_)
    · have ec : c = c' := nI_inj (by omega) (by omega) (by rw [← e1, x18])
      have em : m = x.2.2.1.length := nI_inj (by omega) (by omega) (by rw [← e2, x19])
      rw [ec, eE, oH 24 (by omega)]
      exact a1 f (by omega)
    · rw [eE, oH 26 (by omega)]
      rw [fK0.1 25 (by omega) (by omega) (by omega) (by omega) (by omega) (by omega)] at h25
      rw [fK0.1 12 (by omega) (by omega) (by omega) (by omega) (by omega) (by omega)] at h12
      exact a2 h25 h12
    · obtain ⟨y, y1, y2, y3, y4⟩ := rp_at its 0 0 0 rp t (by omega) (by omega)
      have e12 : Sf.1 12 t = T2.1 12 t := by rw [oS 12 (by omega) (by omega) (by omega) (by omega) (by omega) (by omega), ← eT]; rfl
      have e19 : Sf.1 19 t = T2.1 19 t := by rw [oS 19 (by omega) (by omega) (by omega) (by omega) (by omega) (by omega), ← eT]; rfl
      refine ⟨y.2.2.1.length, by rw [e19, y3], pIts_len _ _ _ hp y y1 (fun w => ?_), by omega⟩
      rw [e12, y2, if_neg (by omega), if_neg (by omega)] at h12
      exact absurd h12 (by decide)
  have cx : CxP M T Sf := ⟨ck.2.1, hc, fun k hk => hM k (by omega) (by omega) (by omega) (by omega) (by unfold anF; simp; omega), ⟨n1, h51, n6⟩, by omega, iq⟩
  refine ⟨n1, cx, fun t f c ht hf => fw_q c6 (ck.2.2.2.2.2 t ht) (ai t ht) hf, fun t ht h12 => ?_, ?_, h27, r2, hin, h51, n6, hf0⟩
  · obtain ⟨c', x, _, _, _, a3⟩ := own t (by omega) (by omega)
    have h30 : fi (Sf.1 30 t) 0 = false := by
      rw [oH 30 (by omega)]
      exact a3 (by rw [← fK0.1 12 (by omega) (by omega) (by omega) (by omega) (by omega) (by omega)]; exact h12)
    refine fn_pg (X := X) cx hf0 ck ht h12 h30 (fu_at (X := X) hf0 its 0 0 0 (xn X) (hdsS X its S) 0 N1 0 n1 (HIs.fh fhS _ _ _ hI0) r6 (fun q h1 h2 h3 => ?_) (pIts_sgl _ _ _ hp) (by rw [hSf]; exact FS.rf.fw) (fun k hk => by rw [hSf]; exact fns_k2 hk its 0 0 _) gk cd kd t (by omega) (by omega) h12) N12
    have e12 : T2.1 12 q = 2 := by
      have z : T2.1 12 q = S.1 12 q := by rw [← eT]; rfl
      rw [z, ← oS 12 (by omega) (by omega) (by omega) (by omega) (by omega) (by omega), fwF.1 12 (by omega) (by omega) (by omega)]
      exact h3
    exact knd_12 its 0 0 0 0 (xn X) rp r6 q h1 h2 e12
  · cases its with
    | nil => exact absurd hp (pIts_ne _ _)
    | cons x xs =>
      have z := r3.1.1.2.2.2.2.2.2.2.1
      unfold nU at z ⊢
      rw [hM 45 (by omega) (by omega) (by omega) (by omega) (by decide), oS 45 (by omega) (by omega) (by omega) (by omega) (by omega) (by omega)]
      exact z
end SWD
