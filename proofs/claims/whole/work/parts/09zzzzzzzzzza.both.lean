/-! both builds -/
/-- a program, as both machines hold it -/
def Prg (X : Lx) (its : List It) (S Sf M T : gSt) : Prop := Sf = fnsL X its 0 0 (hdsS X its S) ∧ RmP X its S ∧ pIts (xK X) 24 0 = .ok its ∧ Sf.1 7 0 = 0 ∧ cn Sf < 6000 ∧ Ckf Sf ∧ GkL X Sf its 0 0 (hdsS X its S) ∧ (∃ n', CdL X M its 0 0 (hdsS X its S) 0 n' ∧ n' ≤ 12000) ∧ (∀ k, k ≤ 92 → k ≠ 1 → k ≠ 10 → k ≠ 36 → anF k = false → M.1 k = Sf.1 k) ∧ (FnR X Sf T ∧ (∃ n1, KdL X Sf T its 0 0 (hdsS X its S) 0 n1 ∧ T.1 51 0 = nI n1 ∧ n1 ≤ 6032) ∧ T.1 27 0 = nI its.length ∧ T.1 52 0 = nI (cfT X 0 its) ∧ T.1 52 1 = nI (cfT X 1 its))
/-- behind both builds -/
def BlQ (M T M' T' : gSt) : Prop := CbI T T' ∧ Ri M' ∧ M'.1 0 = M.1 0 ∧ M'.1 1 0 = 0 ∧ M'.1 9 0 = 1 ∧ M'.1 7 0 = T'.1 53 0 ∧ M'.1 8 0 = T'.1 54 0 ∧ (∀ k, 100 ≤ k → M'.1 k = (stpS M).1 k) ∧ ((M'.1 10 0 = 0 ∧ T'.1 3 0 = 0) ∨ (M'.1 10 0 = 1 ∧ T'.1 3 0 = 1 ∧ ∃ X its S Sf, Prg X its S Sf M' T'))
section BTH
variable {S S' T T' M M' M1 M2 : gSt} {X : Lx} {nf d e k i j z r m t it : Nat} {its : List It}
theorem CdS_eq (h : ∀ k, k = 12 ∨ k = 45 ∨ k = 48 ∨ k = 66 ∨ k = 69 ∨ (96 ≤ k ∧ k ≤ 99) → M'.1 k = M.1 k) (t : Tr) : CdS X it M' t = CdS X it M t := by
  have e1 : rwC4 M' = rwC4 M := by
    funext n
    unfold rwC4
    rw [h 96 (by omega), h 97 (by omega), h 98 (by omega), h 99 (by omega)]
  have eb : rB M' = rB M := by
    funext j
    unfold rB wdO isRo tf
    rw [h 12 (by omega), h 69 (by omega), h 66 (by omega)]
  have er : rOk M' = rOk M := by
    funext j n
    unfold rOk nU
    rw [e1, eb, h 48 (by omega), h 45 (by omega)]
  have el : ∀ (ks : List T5) (n : Nat), LyL M' ks n = LyL M ks n := by
    intro ks
    induction ks with
    | nil => intro n; rfl
    | cons j ks ih => intro n; rw [LyL, LyL, er, ih]
  have e2 : ExC M' = ExC M := by
    funext js n m
    unfold ExC
    rw [el]
  have ep : rP M' = rP M := by
    funext l
    unfold rP tf
    rw [h 12 (by omega), h 69 (by omega)]
  have e3 : CpP M' = CpP M := by
    funext js n m
    unfold CpP
    simp only [el, e1, ep]
  induction t using Tr_ind with
  | hz t hz =>
    funext ys no S n n'
    rw [CdS_z hz, CdS_z hz]
  | h k i e ta tb ihA ihB =>
    funext ys no S n n'
    rw [CdS_n, CdS_n, ihA, ihB]
    unfold CsN
    simp only [e1, e2, e3, h 96 (by omega), h 97 (by omega), h 98 (by omega), h 99 (by omega)]
theorem CdL_eq (h : ∀ k, k = 12 ∨ k = 36 ∨ k = 45 ∨ k = 48 ∨ k = 66 ∨ k = 69 ∨ (96 ≤ k ∧ k ≤ 99) → M'.1 k = M.1 k) : ∀ (xs : List It) (t c : Nat) (S : gSt) (n n' : Nat), CdL X M xs t c S n n' → CdL X M' xs t c S n n' := by
  have e1 : rwC4 M' = rwC4 M := by
    funext n
    unfold rwC4
    rw [h 96 (by omega), h 97 (by omega), h 98 (by omega), h 99 (by omega)]
  intro xs
  induction xs with
  | nil => intro t c S n n' w; exact w
  | cons x xs ih =>
    intro t c S n n' w
    rw [CdL] at w ⊢
    by_cases c : S.1 12 t = 2
    · rw [if_pos c] at w ⊢
      obtain ⟨q, h1, h2, h3, h4, h5, h6⟩ := w
      exact ⟨q, h1, h2, by rw [h 36 (by omega)]; exact h3, by rw [CdS_eq (M := M) (fun k hk => h k (by omega))]; exact h4, by rw [e1]; exact h5, ih _ _ _ _ _ h6⟩
    · rw [if_neg c] at w ⊢
      exact ih _ _ _ _ _ w
theorem bl_k (hk : 95 ≤ k) (hy : Fy (blS M) M1) : M1.1 k = (stpS M).1 k := by
  rw [hy.1 k (by omega)]
  unfold blS
  rw [sI_ne (by omega), sI_ne (by omega), sI_ne (by omega), sI_ne (by omega), sI_ne (by omega), sI_ne (by omega), sI_ne (by omega), sI_ne (by omega), sI_ne (by omega), sI_ne (by omega)]
theorem bl_0 (hy : Fy (blS M) M1) : M1.1 0 = M.1 0 ∧ M1.1 1 = M.1 1 ∧ M1.1 9 0 = 1 ∧ M1.1 10 0 = 0 ∧ ∀ k, 88 ≤ k → k ≤ 92 → M1.1 k 0 = 0 := by
  refine ⟨by rw [hy.1 0 (by omega)]; rfl, by rw [hy.1 1 (by omega)]; rfl, by rw [hy.1 9 (by omega)]; rfl, by rw [hy.1 10 (by omega)]; rfl, fun k h1 h2 => ?_⟩
  rw [hy.1 k (by omega)]
  obtain h | h | h | h | h : k = 88 ∨ k = 89 ∨ k = 90 ∨ k = 91 ∨ k = 92 := by omega
  all_goals subst h; rfl
theorem pIts_ne {K : Nat → Nat} : ∀ (f i : Nat), ¬ pIts K f i = .ok [] := by
  intro f
  cases f with
  | zero => intro i h; rw [pIts] at h; cases h
  | succ f =>
    intro i h
    rw [pIts] at h
    split at h
    · generalize pItem K i = r at h
      cases r with
      | error e => cases h
      | ok y =>
        obtain ⟨x, j⟩ := y
        dsimp only at h
        split at h
        · cases h
        · generalize pIts K f j = r2 at h
          cases r2 with
          | error e => cases h
          | ok l => cases h
    · cases h
/-- THE BUILDS of both -/
theorem b_bld {d' : Nat} (hnf : 16385 ≤ nf) (hd : 700 ≤ d) (hd' : 543 ≤ d') (h1 : M.1 1 0 = nI z) (hRi : Ri M) (hT : CbP T z) (h0 : T.1 0 = M.1 0) (hI : I78 M) (hJ : I54 T) : wp (RR nf (d + 2) 126 M [] []) (fun r _ M' => wp (PP nf d' 3 T [] []) (fun r' _ T' => r' = r ∧ BlQ M T M' T' ∧ I78 M' ∧ I54 T')) := by
  have hT0 := hT
  obtain ⟨c1, c2, c3, c4, c5, c6, c7⟩ := hT0
  have hch : ∀ j, j < z → 0 ≤ M.1 0 j ∧ M.1 0 j ≤ 255 := fun j hj => by rw [← h0]; exact c3 j (by omega)
  have wR := x_bld (nf := nf) (d := d) c2 hch (by omega) hd h1 hRi
  obtain ⟨r, l, M', eR, hB⟩ := wR
  refine ⟨r, l, M', eR, ?_⟩
  have i78 : I78 M' := jv_RR (d + 2) 126 M [] [] hI (jvA_o (by decide)) r l M' eR
  rcases hB with ⟨e, M1, p1, p2, p3, p4, p5, p6, p7⟩ | ⟨its, S, M1, p1, p2, ⟨M2, p3, p4, p5, p6, p7⟩, p8, p9, p10, p11, p12, p13⟩
  · have wP := c_bld (nf := nf) (d := d') (S := M) (T := T) hnf hd' hT (fun its hp => by
      rw [h0] at hp
      rw [p1] at hp
      cases hp)
    obtain ⟨r', l', T', eP, cI, cE⟩ := wP
    have i54 : I54 T' := iv_PP d' 3 T [] [] hJ (ivA_o (by decide) (by decide)) r' l' T' eP
    obtain ⟨b1, b2, b3, b4, b5⟩ := bl_0 p5
    rw [h0] at cE
    rcases cE with ⟨e', q1, q2, q3, q4, q5⟩ | ⟨its, q1, _⟩
    · rw [p1] at q1
      cases q1
      subst p7
      refine ⟨r', l', T', eP, by rw [q2, p6], ⟨cI, fun c hc => by rw [sI_ne (by omega)]; exact p4 c hc, by rw [sI_ne (by omega)]; exact b1, sI_v, by rw [sI_ne (by omega)]; exact b3, by rw [sI_ne (by omega), p2, q4], by rw [sI_ne (by omega), p3, q5], fun k hk => by rw [sI_ne (by omega)]; exact bl_k (by omega) p5, Or.inl ⟨by rw [sI_ne (by omega)]; exact b4, q3⟩⟩, i78, i54⟩
    · rw [p1] at q1
      cases q1
  · obtain ⟨b1, b2, b3, b4, b5⟩ := bl_0 p4
    have eS : ∀ k, anF k = false → S.1 k = M2.1 k := fun k hk => by rw [← p3]; exact er_i hk
    have hBs : BsP (mkX (M.1 0) z) its S z := by
      refine ⟨p2, ⟨M2, p3, p5, p6, ?_⟩, by rw [eS 1 (by decide), b2]; exact h1, fun k k1 k2 => ?_⟩
      · have hI := p2.2.2.1
        cases its with
        | nil => exact absurd p1 (pIts_ne _ _)
        | cons x xs =>
          have w := hI.1.1.2.2.2.2.2.2.2.2
          unfold nW at w ⊢
          rw [eS 37 (by decide)] at w
          exact w
      · have : anF k = false := by unfold anF; simp; omega
        rw [eS k this]
        exact b5 k k1 k2
    have wP := c_bld (nf := nf) (d := d') (S := S) (T := T) hnf hd' hT (fun its' hp => by
      rw [h0] at hp ⊢
      rw [p1] at hp
      cases hp
      exact hBs)
    obtain ⟨r', l', T', eP, cI, cE⟩ := wP
    have i54 : I54 T' := iv_PP d' 3 T [] [] hJ (ivA_o (by decide) (by decide)) r' l' T' eP
    refine ⟨r', l', T', eP, ?_⟩
    rw [h0] at cE
    rcases cE with ⟨e', q1, _⟩ | ⟨its', q1, hO⟩
    · rw [p1] at q1
      cases q1
    · rw [p1] at q1
      cases q1
      have eF : ∀ k, anF k = false → M1.1 k = (fnsL (mkX (M.1 0) z) its 0 0 (hdsS (mkX (M.1 0) z) its S)).1 k := fun k hk => by rw [← p8]; exact (er_i hk).symm
      have p8' : er M1 = fnsL (mkX (M.1 0) z) its 0 0 (hdsS (mkX (M.1 0) z) its (er M2)) := by rw [p3]; exact p8
      have fk : ∀ k, k = 0 ∨ k = 9 ∨ k = 10 ∨ k = 11 → M1.1 k = M2.1 k := fun k hk => bld_fk p8' (by omega) (by omega) (by omega) (by omega) (by omega) (by omega) (by omega)
      have f9 : ∀ k, 100 ≤ k → M1.1 k = (stpS M).1 k := fun k hk => by
        have an : anF k = false := by unfold anF; simp; omega
        rw [eF k an, F9.fns its 0 0 _ k (by omega), F9.hds k (by omega), eS k an]
        exact bl_k (by omega) p4
      rcases hO with ⟨bf, q2, q3⟩ | ⟨q2, q3, q4, q5, q6, q7, q8⟩
      · have n7 : ¬ M1.1 7 0 = 0 := by rw [eF 7 (by decide)]; exact bf.1
        obtain ⟨r1, r2⟩ := p12 n7
        subst r2
        exact ⟨by rw [q2, r1], ⟨cI, fun c hc => by rw [sI_ne (by omega)]; exact p10 c hc, by rw [sI_ne (by omega), fk 0 (by omega)]; exact b1, sI_v, by rw [sI_ne (by omega), fk 9 (by omega)]; exact b3, by rw [sI_ne (by omega), eF 7 (by decide), bf.2.1], by rw [sI_ne (by omega), eF 8 (by decide), bf.2.2], fun k hk => by rw [sI_ne (by omega)]; exact f9 k hk, Or.inl ⟨by rw [sI_ne (by omega), fk 10 (by omega)]; exact b4, q3⟩⟩, i78, i54⟩
      · have e7 : (fnsL (mkX (M.1 0) z) its 0 0 (hdsS (mkX (M.1 0) z) its S)).1 7 0 = 0 := q5.1.2.2.2.1
        have e53 : T'.1 53 0 = 0 := q5.1.2.2.2.2.1
        have m7 : M1.1 7 0 = 0 := by rw [eF 7 (by decide)]; exact e7
        obtain ⟨r1, T2, n', lo, n12, eM, cd, gk, ck⟩ := p13 m7
        have oM : ∀ k, k ≠ 1 → k ≠ 10 → k ≠ 36 → k ≠ 93 → ¬ (95 ≤ k ∧ k ≤ 99) → M'.1 k = M1.1 k := fun k k1 k2 k3 k4 k5 => by
          rw [eM, sI_ne k2, lo.2.2.1 k k4 k3 k5, sI_ne (by omega), sI_ne k1]
        have e11 : M1.1 11 0 = nI its.length := by rw [fk 11 (by omega), ← eS 11 (by decide)]; exact p2.1
        have m7' : M'.1 7 0 = 0 := by rw [oM 7 (by omega) (by omega) (by omega) (by omega) (by omega)]; exact m7
        have e1 : M'.1 1 0 = 0 := by
          rw [eM, sI_ne (by omega), lo.2.2.1 1 (by omega) (by omega) (by omega), sI_ne (by omega), sI_v]
        refine ⟨by rw [q2, r1, e11], ⟨cI, fun c hc => by rw [oM 74 (by omega) (by omega) (by omega) (by omega) (by omega)]; exact p10 c hc, by rw [oM 0 (by omega) (by omega) (by omega) (by omega) (by omega), fk 0 (by omega)]; exact b1, e1, by rw [oM 9 (by omega) (by omega) (by omega) (by omega) (by omega), fk 9 (by omega)]; exact b3, by rw [m7', e53], by rw [i78 m7', i54 e53], fun k hk => by rw [oM k (by omega) (by omega) (by omega) (by omega) (by omega)]; exact f9 k hk, Or.inr ⟨by rw [eM, sI_v], q3, mkX (M.1 0) z, its, S, _, rfl, p2, p1, e7, ?_, ?_, ?_, ⟨n', ?_, n12⟩, fun k k1 k2 k3 k4 k5 => ?_, q5, q6, q4, q7, q8⟩⟩, i78, i54⟩
        · have : cn M1 = cn (fnsL (mkX (M.1 0) z) its 0 0 (hdsS (mkX (M.1 0) z) its S)) := by unfold cn; rw [eF 65 (by decide)]
          rw [← this]
          exact p9
        · rw [← p8]; exact ck
        · rw [← p8]; exact gk
        · rw [eM]
          exact CdL_eq (fun k hk => sI_ne (by omega)) its _ _ _ _ _ cd
        · have kk : k ≠ 93 := by omega
          rw [oM k k2 k3 k4 kk (by omega)]
          exact eF k k5
end BTH
