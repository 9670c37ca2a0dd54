/-! room for types: there is room for every text of 4000 characters -/
section RMR
variable {T T' S : gSt} {X : Lx} {i j k a b n t c p : Nat} {x : It} {l : List Nat}
theorem xP_mono (hX : LX X) (h : SPc X) : ∀ (k i : Nat), i + k ≤ xn X → xP X i ≤ xP X (i + k) := by
  intro k
  induction k with
  | zero => intro i _; exact Nat.le_refl _
  | succ k ih =>
    intro i hi
    have := ih i (by omega)
    have := (h (i + k) (hX.2.2.2.1 (i + k) (by omega))).1
    rw [show i + (k + 1) = i + k + 1 by omega]
    omega
theorem xP_le (hX : LX X) (h : SPc X) (hij : i ≤ j) (hj : j ≤ xn X) : xP X i ≤ xP X j := by
  have := xP_mono hX h (j - i) i (by omega)
  rw [show i + (j - i) = j by omega] at this
  exact this
theorem in_x (hX : LX X) (h : xK X i ≠ 0) : i < xn X := Decidable.byContradiction fun w => h (hX.2.2.1 i (by omega))
theorem fcn_c {tk : Nat} : ∀ (k j : Nat), fcn X (tk :: l) k (j + 1) = fcn X l k j := by
  intro k
  induction k with
  | zero => intro j; rfl
  | succ k ih =>
    intro j
    rw [fcn, fcn, ih]
    rfl
theorem fcn_1 {tk : Nat} : fcn X (tk :: l) (tk :: l).length 0 = tyN X (tk + 2) + fcn X l l.length 0 := by
  rw [List.length_cons, fcn, fcn_c]
  rfl
theorem fV_c {tk : Nat} (h1 : tyV X 5 (tk + 2)) (h : fV X l) : fV X (tk :: l) := by
  intro k hk
  cases k with
  | zero => exact h1
  | succ k => exact h k (by rw [List.length_cons] at hk; omega)
theorem field_w (h : SPc X) {j2 : Nat} (hh : pField (xK X) j = .ok j2) : tyV X 5 (j + 2) ∧ xP X j + 2 + tyN X (j + 2) ≤ xP X j2 := by
  unfold pField at hh
  by_cases c1 : xK X j = 2
  · rw [if_pos c1] at hh
    by_cases c2 : xK X (j + 1) = 48
    · rw [if_pos c2] at hh
      have t := ty_ok 6 (j + 2) j2 hh
      have t2 := ty_sp h _ _ _ _ hh
      have s0 := h.k c1 (by omega)
      have s1 := h.k2 (j + 2) c2 (by omega) rfl
      refine ⟨ty_v 5 _ _ hh, ?_⟩
      unfold tyN
      rw [← t.2]
      omega
    · rw [if_neg c2] at hh; cases hh
  · rw [if_neg c1] at hh; cases hh
theorem pFl_w (h : SPc X) : ∀ (f q j : Nat) (l : List Nat) (j3 : Nat), pFl (xK X) f q j = .ok (l, j3) → fV X l ∧ xP X j + fcn X l l.length 0 + 3 * l.length ≤ xP X j3 ∧ xK X j3 = 41 := by
  intro f
  induction f with
  | zero => intro q j l j3 hh; rw [pFl] at hh; cases hh
  | succ f ih =>
    intro q j l j3 hh
    rw [pFl] at hh
    by_cases q8 : q = 8
    · rw [if_pos q8] at hh; cases hh
    rw [if_neg q8] at hh
    generalize hr : pField (xK X) j = r at hh
    cases r with
    | error e => cases hh
    | ok j2 =>
      obtain ⟨t1, t2⟩ := field_w h hr
      dsimp only at hh
      by_cases k46 : xK X j2 = 46
      · rw [if_pos k46] at hh
        have s := h.k k46 (by omega)
        by_cases k41 : xK X (j2 + 1) = 41
        · rw [if_pos k41] at hh
          cases hh
          refine ⟨fV_c t1 (fun k hk => absurd hk (Nat.not_lt_zero _)), ?_, k41⟩
          rw [fcn_1]
          show xP X j + (tyN X (j + 2) + 0) + 3 * 1 ≤ _
          omega
        · rw [if_neg k41] at hh
          generalize hr2 : pFl (xK X) f (q + 1) (j2 + 1) = r2 at hh
          cases r2 with
          | error e => cases hh
          | ok y =>
            obtain ⟨l2, j4⟩ := y
            have i1 := ih _ _ _ _ hr2
            cases hh
            refine ⟨fV_c t1 i1.1, ?_, i1.2.2⟩
            rw [fcn_1, List.length_cons]
            omega
      · rw [if_neg k46] at hh; cases hh
theorem pPa_w (h : SPc X) : ∀ (f q j : Nat) (l : List Nat) (j3 : Nat), pPa (xK X) f q j = .ok (l, j3) → fV X l ∧ xP X j + fcn X l l.length 0 + 2 * l.length ≤ xP X j3 ∧ xK X j3 = 43 := by
  intro f
  induction f with
  | zero => intro q j l j3 hh; rw [pPa] at hh; cases hh
  | succ f ih =>
    intro q j l j3 hh
    rw [pPa] at hh
    by_cases k43 : xK X j = 43
    · rw [if_pos k43] at hh
      cases hh
      exact ⟨fun k hk => absurd hk (Nat.not_lt_zero _), Nat.le_refl _, k43⟩
    rw [if_neg k43] at hh
    by_cases q2 : q ≠ 0 ∧ xK X j ≠ 47
    · rw [if_pos q2] at hh; cases hh
    rw [if_neg q2] at hh
    by_cases q6 : q = 6
    · rw [if_pos q6] at hh; cases hh
    rw [if_neg q6] at hh
    have sk : xP X j ≤ xP X (if q = 0 then j else j + 1) := by
      split
      · exact Nat.le_refl _
      · rename_i z
        have k47 : xK X j = 47 := Decidable.byContradiction fun w => q2 ⟨z, w⟩
        have := h.k k47 (by omega)
        omega
    generalize htk : (if q = 0 then j else j + 1) = tk at hh sk
    generalize hr : pField (xK X) tk = r at hh
    cases r with
    | error e => cases hh
    | ok j2 =>
      obtain ⟨t1, t2⟩ := field_w h hr
      dsimp only at hh
      generalize hr2 : pPa (xK X) f (q + 1) j2 = r2 at hh
      cases r2 with
      | error e => cases hh
      | ok y =>
        obtain ⟨l2, j4⟩ := y
        have i1 := ih _ _ _ _ hr2
        cases hh
        refine ⟨fV_c t1 i1.1, ?_, i1.2.2⟩
        rw [fcn_1, List.length_cons]
        omega
theorem pRest_w (hX : LX X) (h : SPc X) {rt dt n wt w j3 : Nat} (hh : pRest (xK X) j = .ok (rt, dt, n, wt, w, j3)) (hk : xK X j = 43) (hj3 : j3 ≤ xn X) : (rt ≠ 0 → tyV X 5 rt) ∧ xP X j + 1 + (if rt = 0 then 0 else tyN X rt) ≤ xP X j3 := by
  have s0 := h.k hk (by omega)
  unfold pRest at hh
  by_cases c : xK X (j + 1) = 48
  · rw [if_pos c] at hh
    generalize hr : pTy (xK X) 6 false (j + 2) = r at hh
    cases r with
    | error e => cases hh
    | ok j2 =>
      have t := ty_ok 6 _ _ hr
      have t2 := ty_sp h _ _ _ _ hr
      have tv := ty_v 5 _ _ hr
      have s1 := h.k2 (j + 2) c (by omega) rfl
      dsimp only at hh
      generalize hr2 : pDT (xK X) j2 = r2 at hh
      cases r2 with
      | error e => cases hh
      | ok z =>
        obtain ⟨z1, z2, z3, z4, z5⟩ := z
        have le := pDT_le hr2
        cases hh
        have m := xP_le hX h le hj3
        refine ⟨fun _ => tv, ?_⟩
        rw [if_neg (by omega)]
        unfold tyN
        rw [← t.2]
        omega
  · rw [if_neg c] at hh
    generalize hr2 : pDT (xK X) (j + 1) = r2 at hh
    cases r2 with
    | error e => cases hh
    | ok z =>
      obtain ⟨z1, z2, z3, z4, z5⟩ := z
      have le := pDT_le hr2
      cases hh
      have m := xP_le hX h le hj3
      exact ⟨fun q => absurd rfl q, by rw [if_pos rfl]; omega⟩
theorem pItem_w (hX : LX X) (h : SPc X) (hk : xK X i = 10 ∨ xK X i = 11 ∨ xK X i = 12) (hh : pItem (xK X) i = .ok (x, j)) : ItV X x ∧ 3 * xP X i + hcs X x + fcs X x + 14 ≤ 3 * xP X j := by
  have s0 := (h i (by omega)).1
  unfold pItem at hh
  by_cases k12 : xK X i = 12
  · rw [if_pos k12] at hh
    by_cases k2 : xK X (i + 1) = 2
    · rw [if_pos k2] at hh
      have s1 := h.k2 (i + 2) k2 (by omega) rfl
      generalize hr : pHead (xK X) (i + 2 + rgs (xK X) 3 (i + 2)) = r at hh
      cases r with
      | error e => cases hh
      | ok y =>
        obtain ⟨l, rt, dt, n, wt, w, j4⟩ := y
        dsimp only at hh
        generalize hr2 : pBl (xK X) 20 j4 l.length 0 = r2 at hh
        cases r2 with
        | error e => cases hh
        | ok z =>
          obtain ⟨bd, j2, v', g'⟩ := z
          have hb := pBl_cw h 20 _ _ _ _ _ _ _ hr2
          have j40 : xK X j4 = 40 ∧ 2 ≤ cws X bd := by
            rw [pBl] at hr2
            obtain ⟨k1, hr3⟩ := sn_ok hr2
            obtain ⟨s, j1, v2, g2, e1, hr3⟩ := sb_ok hr3
            obtain ⟨k2, hr3⟩ := sn_ok hr3
            injection hr3 with hr3
            injection hr3 with h1 hr3
            subst h1
            exact ⟨k1, by show 2 ≤ cws X s + 2; omega⟩
          have hj4 := in_x hX (i := j4) (by rw [j40.1]; omega)
          unfold pHead at hr
          by_cases k42 : xK X (i + 2 + rgs (xK X) 3 (i + 2)) = 42
          · rw [if_pos k42] at hr
            have in1 := in_x hX (i := i + 2 + rgs (xK X) 3 (i + 2)) (by rw [k42]; omega)
            have m1 := xP_le hX h (i := i + 2) (j := i + 2 + rgs (xK X) 3 (i + 2)) (by omega) (by omega)
            have s2 := h.k k42 (by omega)
            generalize hr4 : pPa (xK X) 7 0 (i + 2 + rgs (xK X) 3 (i + 2) + 1) = r4 at hr
            cases r4 with
            | error e => cases hr
            | ok y =>
              obtain ⟨l2, j3⟩ := y
              obtain ⟨p1, p2, p3⟩ := pPa_w h _ _ _ _ _ hr4
              dsimp only at hr
              generalize hr5 : pRest (xK X) j3 = r5 at hr
              cases r5 with
              | error e => cases hr
              | ok z =>
                obtain ⟨z1, z2, z3, z4, z5, z6⟩ := z
                cases hr
                obtain ⟨q1, q2⟩ := pRest_w hX h hr5 p3 (by omega)
                cases hh
                refine ⟨⟨p1, q1⟩, ?_⟩
                unfold hcs fcs
                dsimp only
                split at q2
                · rename_i z; rw [if_pos z]; omega
                · rename_i z; rw [if_neg z]; omega
          · rw [if_neg k42] at hr; cases hr
    · rw [if_neg k2] at hh; cases hh
  · rw [if_neg k12] at hh
    by_cases k3 : xK X (i + 1) = 3
    · rw [if_pos k3] at hh
      have s1 := h.k2 (i + 2) k3 (by omega) rfl
      by_cases k40 : xK X (i + 2 + rgs (xK X) 3 (i + 2)) = 40
      · rw [if_pos k40] at hh
        have in1 := in_x hX (i := i + 2 + rgs (xK X) 3 (i + 2)) (by rw [k40]; omega)
        have m1 := xP_le hX h (i := i + 2) (j := i + 2 + rgs (xK X) 3 (i + 2)) (by omega) (by omega)
        have s2 := h.k k40 (by omega)
        generalize hr : pFl (xK X) 9 0 (i + 2 + rgs (xK X) 3 (i + 2) + 1) = r at hh
        cases r with
        | error e => cases hh
        | ok y =>
          obtain ⟨l, j3⟩ := y
          obtain ⟨p1, p2, p3⟩ := pFl_w h _ _ _ _ _ hr
          have s3 := h.k p3 (by omega)
          unfold pSt at hh
          dsimp only at hh
          by_cases c : xK X (j3 + 1) = 46
          · rw [if_pos c] at hh
            have s4 := h.k2 (j3 + 2) c (by omega) rfl
            cases hh
            refine ⟨⟨p1, fun q => absurd rfl q⟩, ?_⟩
            unfold hcs fcs
            dsimp only
            rw [if_pos rfl]
            have : cws X tZ = 0 := rfl
            omega
          · rw [if_neg c] at hh; cases hh
      · rw [if_neg k40] at hh; cases hh
    · rw [if_neg k3] at hh; cases hh
theorem pIts_w (hX : LX X) (h : SPc X) : ∀ (f i : Nat) (l : List It), pIts (xK X) f i = .ok l → ItVs X l ∧ 3 * xP X i + hcL X l + fcL X l + 14 ≤ 3 * xP X (xn X) := by
  intro f
  induction f with
  | zero => intro i l hh; rw [pIts] at hh; cases hh
  | succ f ih =>
    intro i l hh
    rw [pIts] at hh
    by_cases k : xK X i = 10 ∨ xK X i = 11 ∨ xK X i = 12
    · rw [if_pos k] at hh
      generalize hr : pItem (xK X) i = r at hh
      cases r with
      | error e => cases hh
      | ok y =>
        obtain ⟨x, j⟩ := y
        have p := pItem_w hX h k hr
        have q := pItem_last hr
        have hj : j ≤ xn X := Decidable.byContradiction fun w => q.2 (hX.2.2.1 (j - 1) (by omega))
        have m := xP_le hX h hj (Nat.le_refl _)
        dsimp only at hh
        by_cases k0 : xK X j = 0
        · rw [if_pos k0] at hh
          cases hh
          refine ⟨⟨p.1, trivial⟩, ?_⟩
          show 3 * xP X i + (hcs X x + 0) + (fcs X x + 0) + 14 ≤ _
          omega
        · rw [if_neg k0] at hh
          generalize hr2 : pIts (xK X) f j = r2 at hh
          cases r2 with
          | error e => cases hh
          | ok ll =>
            have i1 := ih _ _ hr2
            cases hh
            refine ⟨⟨p.1, i1.1⟩, ?_⟩
            show 3 * xP X i + (hcs X x + hcL X ll) + (fcs X x + fcL X ll) + 14 ≤ _
            omega
    · rw [if_neg k] at hh; cases hh
theorem knd_12 : ∀ (xs : List It) (t c p a z : Nat), RepP X T t c p xs → ItsOk X xs a z → ∀ q, t ≤ q → q < t + xs.length → T.1 12 q = 2 → ∃ x, xs.getD (q - t) (0, 0, [], 0, 0, 0, 0, 0, tZ) = x ∧ xK X x.1 = 12 := by
  intro xs
  induction xs with
  | nil => intro t c p a z _ _ q h1 h2; rw [List.length_nil] at h2; omega
  | cons x xs ih =>
    intro t c p a z hR hI q h1 h2 h3
    rw [List.length_cons] at h2
    obtain ⟨p', p1, p2, rI, rP⟩ := hR
    obtain ⟨b, iO, iR⟩ := hI
    by_cases e : q = t
    · subst e
      refine ⟨x, by rw [Nat.sub_self]; rfl, ?_⟩
      obtain ⟨i, ee, l, rt, dt, n, wt, w, bd⟩ := x
      have a1 := rI.1
      obtain ⟨i1, i2, i3, i4⟩ := iO
      rcases i3 with h | h | h
      · rw [if_pos h, h3] at a1
        exact absurd a1 (by decide)
      · rw [if_neg (by omega), if_pos h, h3] at a1
        exact absurd a1 (by decide)
      · exact h
    · obtain ⟨x', e1, e2⟩ := ih (t + 1) _ _ _ _ rP iR q (by omega) (by omega) h3
      refine ⟨x', ?_, e2⟩
      rw [show q - t = (q - (t + 1)) + 1 by omega]
      exact e1
/-- there is room -/
theorem room (hX : LX X) (h : SPc X) (hz : xP X (xn X) ≤ 4000) : ∀ its S, pIts (xK X) 24 0 = .ok its → RmP X its S → cn (fnsL X its 0 0 (hdsS X its S)) < 6000 := by
  intro its S hp hR
  obtain ⟨r1, r2, r3, r4, r5, r6, r7, r8, T, eT, rP⟩ := hR
  have w := pIts_w hX h 24 0 its hp
  have k0 : Ck0 (sI S 65 0 1) := ck0_65 r1 r2 r5
  have hI0 := his_65 _ _ _ r3
  have cn1 : cn (sI S 65 0 1) = 1 := by unfold cn; rw [rdI, if_pos ⟨rfl, rfl⟩]; rfl
  have hcn := hds_cn its 0 0 (sI S 65 0 1) hI0 k0.1
  rw [cn1] at hcn
  have fhL := FH.hds (X := X) its 0 0 (sI S 65 0 1)
  have eM : cn (hdsS X its S) = cn (hdsL X its 0 0 (sI S 65 0 1)) := by
    unfold hdsS mnS
    split
    · rfl
    · exact cn_fl
  have c1 : cn (hdsS X its S) < 6000 := by omega
  have fk : ∀ k, k < 65 → k ≠ 7 → k ≠ 8 → k ≠ 24 → k ≠ 26 → k ≠ 30 → (hdsS X its S).1 k = S.1 k := fun k k1 k2 k3 k4 k5 k6 => by
    unfold hdsS
    rw [FH.mn.1 k k1 k2 k3 k4 k5 k6, fhL.1 k k1 k2 k3 k4 k5 k6, sI_ne (by omega)]
  have tgH : Tg (hdsS X its S) := FH.mn.tg (fhL.tg k0.1)
  have hIH : HIs X (hdsS X its S) its 0 0 := HIs.fh (fhL.tr FH.mn) _ _ _ hI0
  have hin : inn (hdsS X its S) = its.length := by unfold inn; rw [fk 11 (by omega) (by omega) (by omega) (by omega) (by omega) (by omega), r1, nc (by omega)]
  have fin := fns_rm (X := X) (n := xn X) its 0 0 0 (hdsS X its S) hIH r6 hX.1 (by omega) (fun q h1 h2 h3 => by
    rw [fk 12 (by omega) (by omega) (by omega) (by omega) (by omega) (by omega)] at h3
    have h4 : T.1 12 q = 2 := by rw [← eT] at h3; exact h3
    exact knd_12 its 0 0 0 0 (xn X) rP r6 q h1 h2 h4) tgH c1 (fun h7 => by
    refine ⟨hds_ck r1 r2 hI0 (kn_65 _ _ r4) k0 r7 c1 h7, ?_⟩
    have f1 : (hdsL X its 0 0 (sI S 65 0 1)).1 7 0 = 0 := by
      unfold hdsS at h7
      exact FH.mn.ok h7
    have e : hdsS X its S = hdsL X its 0 0 (sI S 65 0 1) := by
      unfold hdsS mnS at h7 ⊢
      split
      · rfl
      · rename_i z
        rw [if_neg z] at h7
        exact absurd h7 (flT_bad (by decide))
    have c2 : cn (hdsL X its 0 0 (sI S 65 0 1)) < 6000 := by omega
    have hv := hds_v its 0 0 (sI S 65 0 1) hI0 w.1 (kn_65 _ _ r4) k0 c2 f1
    rw [e] at hIH hin ⊢
    intro t ht cc m e18 e19 hcm
    exact Hq_of its 0 0 hIH hv t (by omega) (by omega) cc m e18 e19 hcm)
  refine Decidable.byContradiction fun bad => ?_
  have e : pt0 (fnsL X its 0 0 (hdsS X its S)) = 12000 := by unfold pt0; rw [if_neg bad]
  omega
end RMR
