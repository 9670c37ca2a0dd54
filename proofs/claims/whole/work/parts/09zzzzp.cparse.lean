/-! the class's parser: an item, the whole text -/
section CPS
variable {nf d : Nat} {T T' T1 T2 T3 T7 : gSt} {X : Lx} {i j k p p' q m n e c z lo hi v g j0 j2 t : Nat} {x y r a0 a : Int32} {b : Tr} {u : Int64} {K : Int32 → Int64 → gSt → gR} {K2 : Int32 → gSt → gR} {Q : Int32 → Int64 → gSt → Prop} {ls : List Nat} {it : It}
theorem RcI.fr (h : RcI X T t lo hi it) (hF : FcI (t + 1) T T') (hN : Nf T T' hi) : RcI X T' t lo hi it := by
  obtain ⟨i, e, l, rt, dt, n, wt, w, b⟩ := it
  obtain ⟨h1, h2, h3, h4, h5, h6, h7, h8, h9, h10, h11, h12⟩ := h
  have o : ∀ k, 28 ≤ k → k ≤ 37 → T'.1 k t = T.1 k t := fun k c1 c2 => hF.1 k t (by omega) (by omega) (by omega) (by omega) (by omega) (by omega) (by omega) (by omega) (by omega) (by omega)
  refine ⟨by rw [o 28 (by omega) (by omega)]; exact h1, by rw [o 29 (by omega) (by omega)]; exact h2, by rw [hF.2 30 t (by omega)]; exact h3, h4, by rw [o 31 (by omega) (by omega)]; exact h5, by rw [o 32 (by omega) (by omega)]; exact h6, h7, fun n hn => ?_, by rw [o 33 (by omega) (by omega)]; exact h9, by rw [o 34 (by omega) (by omega)]; exact h10, by rw [o 35 (by omega) (by omega)]; exact h11, fun k12 => ?_⟩
  · rw [hF.1 43 _ (by omega) (by omega) (by omega) (by omega) (by omega) (by omega) (by omega) (by omega) (by omega) (by omega)]
    exact h8 n hn
  · obtain ⟨a1, a2, a3⟩ := h12 k12
    exact ⟨by rw [o 36 (by omega) (by omega)]; exact a1, by rw [o 37 (by omega) (by omega)]; exact a2, RcS.ag b 2 0 _ _ (by omega) a3 ⟨fun g j' c1 c2 c3 c4 _ => hN g j' c1 c2 c4, fun w => absurd w (by omega)⟩⟩
theorem zb_params (hX : XO X) (hnf : 10 ≤ nf) (b2 : Bd X T2 e) (q2 : T2.1 32 t = 0) (ht : t < 24) (hd : 8 ≤ d) : wp (PP nf d 67 T2 [nI t] []) (fun _ _ T' => Bd X T' e ∧ FcI t T2 T') := by
  obtain ⟨d, rfl⟩ : ∃ g, d = g + 1 := ⟨d - 1, by omega⟩
  rw [e_Parser_parseParameters]
  unfold rb_Parser_parseParameters
  refine wb_sees b2 ?_
  obtain ⟨nf', hnf'⟩ : ∃ g, nf = g + 1 := ⟨nf - 1, by omega⟩
  rw [show rl_Parser_parseParameters_17 (PP nf d) nf nf T2 (nI t) 1 0 = rj_Parser_parseParameters_37 (PP nf d) nf (rl_Parser_parseParameters_17 (PP nf d) nf nf') T2 (nI t) 0 by rw [hnf', rl_Parser_parseParameters_17, if_neg (by decide), if_neg (by decide), if_neg (by decide)]]
  unfold rj_Parser_parseParameters_37
  rw [stK]
  have b3 : Bd X (sI T2 60 0 (T2.1 60 0 + 1)) e := b2.wi (by omega)
  have f3 : FcI t T2 (sI T2 60 0 (T2.1 60 0 + 1)) := FcI.wr (by omega)
  have q3 : (sI T2 60 0 (T2.1 60 0 + 1)).1 32 t = nI 0 := by rw [sI_ne (by omega)]; exact q2
  generalize sI T2 60 0 (T2.1 60 0 + 1) = T3 at *
  refine wp_bi (zb_part hX b3 q3 ht (by omega) (by omega)) ?_
  intro _ _ T4 h4
  refine wb_acc h4.1 (by omega) ?_
  rw [vK, zb_pl hX h4.1 (by omega) (by omega)]
  exact wp_some ⟨h4.1, f3.tr h4.2⟩
theorem zb_fun (hX : XO X) (hnf : 10 ≤ nf) (b2 : Bd X T2 e) (hF : FcI t T T2) (q2 : T2.1 32 t = 0) (ht : t < 24) (hd : 12 ≤ d) : wp (PP nf d 66 T2 [nI t] []) (fun _ _ T' => CuE X T t e T') := by
  obtain ⟨d, rfl⟩ : ∃ g, d = g + 1 := ⟨d - 1, by omega⟩
  rw [e_Parser_parseFun]
  unfold rb_Parser_parseFun
  rw [stK, stK]
  have b3 : Bd X (sI (sI T2 60 0 0) 61 0 0) e := (b2.wi (by omega)).wi (by omega)
  have f3 : FcI t T (sI (sI T2 60 0 0) 61 0 0) := (hF.tr (FcI.wr (by omega))).tr (FcI.wr (by omega))
  have q3 : (sI (sI T2 60 0 0) 61 0 0).1 32 t = 0 := by rw [sI_ne (by omega), sI_ne (by omega)]; exact q2
  generalize sI (sI T2 60 0 0) 61 0 0 = T3 at *
  refine wb_need hX b3 (by omega) ?_
  refine wp_bi (zb_params hX hnf b3 q3 ht (by omega)) ?_
  intro _ _ T4 h4
  refine wb_acc h4.1 (by omega) ?_
  rw [if_pos rfl]
  exact zb_49 hX (by omega) h4.1 (f3.tr h4.2) ht (by omega)
theorem uF_i {Kn : Nat → Nat} (h : Kn i = 12) : pItem Kn i = if Kn (i + 1) = 2 then (match uF Kn (i + 2 + rgs Kn 3 (i + 2)) with
    | .error e => .error e
    | .ok (l, rt, dt, n, wt, w, b, j2) => .ok ((i, rgs Kn 3 (i + 2), l, rt, dt, n, wt, w, b), j2)) else .error (i + 1) := by
  unfold pItem
  rw [if_pos h]
  by_cases c2 : Kn (i + 1) = 2
  · rw [if_pos c2, if_pos c2]
    generalize i + 2 + rgs Kn 3 (i + 2) = j
    unfold pHead uF pRest pDT uD uW uB
    by_cases c42 : Kn j = 42
    · simp only [if_pos c42]
      cases pPa Kn 7 0 (j + 1) with
      | error e => rfl
      | ok y =>
        obtain ⟨l, j3⟩ := y
        dsimp only
        by_cases c48 : Kn (j3 + 1) = 48
        · simp only [if_pos c48]
          cases pTy Kn 6 false (j3 + 2) with
          | error e => rfl
          | ok j4 =>
            dsimp only
            by_cases c13 : Kn j4 = 13
            · simp only [if_pos c13]
              cases pDead Kn 3 0 (j4 + 1) with
              | error e => rfl
              | ok y =>
                obtain ⟨n, j5⟩ := y
                dsimp only
                cases pTail Kn j5 with
                | error e => rfl
                | ok y =>
                  obtain ⟨wt, w, j6⟩ := y
                  dsimp only
                  cases pBl Kn 20 j6 l.length 0 with
                  | error e => rfl
                  | ok y => rfl
            · simp only [if_neg c13]
              cases pTail Kn j4 with
              | error e => rfl
              | ok y =>
                obtain ⟨wt, w, j6⟩ := y
                dsimp only
                cases pBl Kn 20 j6 l.length 0 with
                | error e => rfl
                | ok y => rfl
        · simp only [if_neg c48]
          by_cases c13 : Kn (j3 + 1) = 13
          · simp only [if_pos c13]
            cases pDead Kn 3 0 (j3 + 1 + 1) with
            | error e => rfl
            | ok y =>
              obtain ⟨n, j5⟩ := y
              dsimp only
              cases pTail Kn j5 with
              | error e => rfl
              | ok y =>
                obtain ⟨wt, w, j6⟩ := y
                dsimp only
                cases pBl Kn 20 j6 l.length 0 with
                | error e => rfl
                | ok y => rfl
          · simp only [if_neg c13]
            cases pTail Kn (j3 + 1) with
            | error e => rfl
            | ok y =>
              obtain ⟨wt, w, j6⟩ := y
              dsimp only
              cases pBl Kn 20 j6 l.length 0 with
              | error e => rfl
              | ok y => rfl
    · simp only [if_neg c42]
  · rw [if_neg c2, if_neg c2]
theorem c_nm (hX : XO X) (hT : TkC X T) (hi : i < 100000) : ∃ u, PP nf (d + 1) 27 T [nI i] [] = some (0, u, T) ∧ (i < xn X → u = xN X i) := by
  by_cases c : i < xn X
  · exact ⟨xN X i, c_name hX hT c, fun _ => rfl⟩
  · have h4 := hX.1
    rw [e_Source_nameAt]
    unfold rb_Source_nameAt
    rw [if_neg (nzI hi), hT.1, if_neg (by rw [ci_lt hi (by omega)]; exact c)]
    exact ⟨_, rfl, fun w => absurd w c⟩
/-- the closing token of a BLOCK -/
theorem uF_en {Kn : Nat → Nat} {l : List Nat} {rt dt wt w : Nat} (h : uF Kn j = .ok (l, rt, dt, n, wt, w, b, j2)) : enB b = j2 - 1 := by
  have bl : ∀ jj v b j5 v2 g2, pBl Kn 20 jj v 0 = .ok (b, j5, v2, g2) → enB b = j5 - 1 := by
    intro jj v b j5 v2 g2 hb
    rw [pBl] at hb
    unfold sn at hb
    split at hb
    · generalize pSteps Kn (pStep Kn (pEx Kn 19 0) (pBl Kn 19)) 4001 (jj + 1) v 0 = res at hb
      cases res with
      | error e => simp [sb] at hb
      | ok y =>
        obtain ⟨s, j, v3, g3⟩ := y
        dsimp only [sb] at hb
        split at hb
        · simp only [Except.ok.injEq, Prod.mk.injEq] at hb
          obtain ⟨rfl, rfl, _⟩ := hb
          rfl
        · simp at hb
    · simp at hb
  have uw : ∀ v jj wt w b j5, uW Kn v jj = .ok (wt, w, b, j5) → enB b = j5 - 1 := by
    intro v jj wt w b j5 hw
    unfold uW uB at hw
    generalize pTail Kn jj = r1 at hw
    cases r1 with
    | error e => simp at hw
    | ok y =>
      obtain ⟨a, a', j3⟩ := y
      dsimp only at hw
      generalize hr : pBl Kn 20 j3 v 0 = r2 at hw
      cases r2 with
      | error e => simp at hw
      | ok y =>
        obtain ⟨b', j6, v2, g2⟩ := y
        simp only [Except.ok.injEq, Prod.mk.injEq] at hw
        obtain ⟨_, _, rfl, rfl⟩ := hw
        exact bl _ _ _ _ _ _ hr
  have ud : ∀ v jj dt n wt w b j5, uD Kn v jj = .ok (dt, n, wt, w, b, j5) → enB b = j5 - 1 := by
    intro v jj dt n wt w b j5 hw
    unfold uD at hw
    split at hw
    · generalize pDead Kn 3 0 (jj + 1) = r1 at hw
      cases r1 with
      | error e => simp at hw
      | ok y =>
        obtain ⟨a, j3⟩ := y
        dsimp only at hw
        generalize hr : uW Kn v j3 = r2 at hw
        cases r2 with
        | error e => simp at hw
        | ok y =>
          obtain ⟨wt', w', b', j6⟩ := y
          simp only [Except.ok.injEq, Prod.mk.injEq] at hw
          obtain ⟨_, _, _, _, rfl, rfl⟩ := hw
          exact uw _ _ _ _ _ _ hr
    · generalize hr : uW Kn v jj = r2 at hw
      cases r2 with
      | error e => simp at hw
      | ok y =>
        obtain ⟨wt', w', b', j6⟩ := y
        simp only [Except.ok.injEq, Prod.mk.injEq] at hw
        obtain ⟨_, _, _, _, rfl, rfl⟩ := hw
        exact uw _ _ _ _ _ _ hr
  unfold uF at h
  split at h
  · generalize pPa Kn 7 0 (j + 1) = r1 at h
    cases r1 with
    | error e => simp at h
    | ok y =>
      obtain ⟨l', j3⟩ := y
      dsimp only at h
      split at h
      · generalize pTy Kn 6 false (j3 + 2) = r2 at h
        cases r2 with
        | error e => simp at h
        | ok j4 =>
          dsimp only at h
          generalize hr : uD Kn l'.length j4 = r3 at h
          cases r3 with
          | error e => simp at h
          | ok y =>
            obtain ⟨dt', n', wt', w', b', j6⟩ := y
            simp only [Except.ok.injEq, Prod.mk.injEq] at h
            obtain ⟨_, _, _, _, _, _, rfl, rfl⟩ := h
            exact ud _ _ _ _ _ _ _ _ hr
      · generalize hr : uD Kn l'.length (j3 + 1) = r3 at h
        cases r3 with
        | error e => simp at h
        | ok y =>
          obtain ⟨dt', n', wt', w', b', j6⟩ := y
          simp only [Except.ok.injEq, Prod.mk.injEq] at h
          obtain ⟨_, _, _, _, _, _, rfl, rfl⟩ := h
          exact ud _ _ _ _ _ _ _ _ hr
  · simp at h
/-- an item behind its name and its REGIONS, or behind a fault there -/
def HdK (X : Lx) (T : gSt) (t p i : Nat) (T' : gSt) : Prop := (∃ e, pItem (xK X) i = .error e ∧ Bd X T' e ∧ FcI t T T') ∨ (GC X T' (i + 2 + rgs (xK X) 3 (i + 2)) p ∧ FcI t T T' ∧ i + 1 < xn X ∧ xK X (i + 1) = (if xK X i = 12 then 2 else 3) ∧ Nf T T' p ∧ T'.1 27 0 = nI (t + 1) ∧ T'.1 28 t = nI (xK X i) ∧ T'.1 29 t = nI (i + 1) ∧ T'.2 30 t = xN X (i + 1) ∧ T'.1 31 t = nI (rgs (xK X) 3 (i + 2)) ∧ ∀ k, 32 ≤ k → k ≤ 35 → T'.1 k t = 0)
theorem c_head (hX : XO X) (hnf : 5000 ≤ nf) (hg : GC X T i p) (hp : p ≤ i + 1) (ht : t < 24) (hd : 310 ≤ d) (hk : xK X i = 10 ∨ xK X i = 11 ∨ xK X i = 12) : wp (PP nf d 62 T [nI t] []) (fun _ _ T' => HdK X T t p i T') := by
  obtain ⟨d, rfl⟩ : ∃ g, d = g + 1 := ⟨d - 1, by omega⟩
  have hxn := hX.1
  have hi := K_lt hX rfl (show 0 < xK X i by omega)
  have zt : inb (nI t) 24 := nin ht (by omega)
  have ct : (nI t).toNatClampNeg = t := nc (by omega)
  have n24 : ¬ (24 : Int32) ≤ nI t := fun w => by
    have := (nI_leI (a := 24) (b := t) (by omega) (by omega)).mp w
    omega
  rw [e_Parser_parseHead]
  unfold rb_Parser_parseHead
  -- behind the word
  have go : ∀ fn : Bool, (fn = true ↔ xK X i = 12) → wp (rj_Parser_parseHead_48 (PP nf d) nf T (nI t) (if fn = true then 1 else 0)) (fun _ _ T' => HdK X T t p i T') := by
    intro fn hfn
    unfold rj_Parser_parseHead_48
    rw [hg.lk]
    simp only [gd, if_pos zt, ct, stK]
    have g1 : GC X (sI T 28 t (nI (xK X i))) i p := hg.wi (by omega)
    rw [at1 hX g1 hi (by omega), bis]
    have g2 : GC X (cMv (sI T 28 t (nI (xK X i))) (i + 1)) (i + 1) p := g1.mv (by omega)
    rw [show (cMv (sI T 28 t (nI (xK X i))) (i + 1)).1 58 0 = nI (i + 1) from g2.1]
    have g3 : GC X (sI (cMv (sI T 28 t (nI (xK X i))) (i + 1)) 29 t (nI (i + 1))) (i + 1) p := g2.wi (by omega)
    rw [show (sI (cMv (sI T 28 t (nI (xK X i))) (i + 1)) 29 t (nI (i + 1))).1 58 0 = nI (i + 1) from g3.1]
    obtain ⟨d1, hd1⟩ : ∃ g, d = g + 1 := ⟨d - 1, by omega⟩
    obtain ⟨u, hu, hu2⟩ := c_nm (nf := nf) (d := d1) (i := i + 1) hX g3.2.2.2.2.2.1 (by omega)
    rw [← hd1] at hu
    rw [hu, bis]
    have g4 : GC X (sJ (sI (cMv (sI T 28 t (nI (xK X i))) (i + 1)) 29 t (nI (i + 1))) 30 t u) (i + 1) p := g3.wj (by omega)
    have f4 : FcI t T (sJ (sI (cMv (sI T 28 t (nI (xK X i))) (i + 1)) 29 t (nI (i + 1))) 30 t u) := (((FcI.wr (by omega)).tr FC.mv.ci).tr (FcI.wr (by omega))).tr (FcI.wj (by omega))
    have r4 : ∀ k j', (k ≠ 58 ∧ k ≠ 128) → k ≠ 28 → k ≠ 29 → (sJ (sI (cMv (sI T 28 t (nI (xK X i))) (i + 1)) 29 t (nI (i + 1))) 30 t u).1 k j' = T.1 k j' := fun k j' c1 c2 c3 => by rw [rdJI, sI_ne c3, mvo c1, sI_ne c2]
    have v28 : (sJ (sI (cMv (sI T 28 t (nI (xK X i))) (i + 1)) 29 t (nI (i + 1))) 30 t u).1 28 t = nI (xK X i) := by rw [rdJI, sI_ne (by omega), mvo (by omega), sI_v]
    have v29 : (sJ (sI (cMv (sI T 28 t (nI (xK X i))) (i + 1)) 29 t (nI (i + 1))) 30 t u).1 29 t = nI (i + 1) := by rw [rdJI, sI_v]
    have v30 : (sJ (sI (cMv (sI T 28 t (nI (xK X i))) (i + 1)) 29 t (nI (i + 1))) 30 t u).2 30 t = u := by rw [rdJ, if_pos ⟨rfl, rfl⟩]
    generalize sJ (sI (cMv (sI T 28 t (nI (xK X i))) (i + 1)) 29 t (nI (i + 1))) 30 t u = T4 at *
    have both : wp (rj_Parser_parseHead_108 (PP nf d) nf T4 (nI t) (if fn = true then 2 else 3)) (fun _ _ T' => HdK X T t p i T') := by
      unfold rj_Parser_parseHead_108
      simp only [gd, if_pos zt, ct, stK]
      -- the counters of an item's head
      have zer : ∀ (S : gSt) (rg : Int32) (k j' : Nat), (sI (sI (sI (sI (sI (sI S 31 t rg) 32 t 0) 33 t 0) 34 t 0) 35 t 0) 27 0 (nI t + 1)).1 k j' = if k = 27 ∧ j' = 0 then nI (t + 1) else if (32 ≤ k ∧ k ≤ 35) ∧ j' = t then 0 else if k = 31 ∧ j' = t then rg else S.1 k j' := by
        intro S rg k j'
        rw [nI_1, rdI]
        by_cases c1 : k = 27 ∧ j' = 0
        · rw [if_pos c1, if_pos c1]
        rw [if_neg c1, if_neg c1, rdI]
        by_cases c2 : k = 35 ∧ j' = t
        · rw [if_pos c2, if_pos (by omega)]
        rw [if_neg c2, rdI]
        by_cases c3 : k = 34 ∧ j' = t
        · rw [if_pos c3, if_pos (by omega)]
        rw [if_neg c3, rdI]
        by_cases c4 : k = 33 ∧ j' = t
        · rw [if_pos c4, if_pos (by omega)]
        rw [if_neg c4, rdI]
        by_cases c5 : k = 32 ∧ j' = t
        · rw [if_pos c5, if_pos (by omega)]
        rw [if_neg c5, rdI, if_neg (show ¬ ((32 ≤ k ∧ k ≤ 35) ∧ j' = t) by omega)]
      have fz : ∀ (S : gSt) (rg : Int32), FcI t S (sI (sI (sI (sI (sI (sI S 31 t rg) 32 t 0) 33 t 0) 34 t 0) 35 t 0) 27 0 (nI t + 1)) := fun S rg => ((((((FcI.wr (by omega)).tr (FcI.wr (by omega))).tr (FcI.wr (by omega))).tr (FcI.wr (by omega))).tr (FcI.wr (by omega))).tr (FcI.wr (by omega)))
      have e2 : ∀ (S : gSt) (rg : Int32), (sI (sI (sI (sI (sI (sI S 31 t rg) 32 t 0) 33 t 0) 34 t 0) 35 t 0) 27 0 (nI t + 1)).2 = S.2 := fun S rg => rfl
      have gz : ∀ (S : gSt) (rg : Int32) (j' : Nat), GC X S j' p → GC X (sI (sI (sI (sI (sI (sI S 31 t rg) 32 t 0) 33 t 0) 34 t 0) 35 t 0) 27 0 (nI t + 1)) j' p := fun S rg j' h => (((((h.wi (by omega)).wi (by omega)).wi (by omega)).wi (by omega)).wi (by omega)).wi (by omega)
      have bz : ∀ (S : gSt) (rg : Int32) (e : Nat), Bd X S e → Bd X (sI (sI (sI (sI (sI (sI S 31 t rg) 32 t 0) 33 t 0) 34 t 0) 35 t 0) 27 0 (nI t + 1)) e := fun S rg e h => (((((h.wi (by omega)).wi (by omega)).wi (by omega)).wi (by omega)).wi (by omega)).wi (by omega)
      have rn : i + 1 < xn X → i + 2 + rgs (xK X) 3 (i + 2) ≤ xn X := fun h => rgs_n (m := 3) hX (show i + 2 ≤ xn X by omega)
      have rb := (rgs_b (xK X) 3 (i + 2)).1
      -- behind a fault
      have bad : ∀ (S : gSt) (e : Nat), Bd X S e → FcI t T S → pItem (xK X) i = .error e → wp (bi (PP nf d 63 S [3] []) fun r15 _ T15 => some (0, 0, sI (sI (sI (sI (sI (sI T15 31 t r15) 32 t 0) 33 t 0) 34 t 0) 35 t 0) 27 0 (nI t + 1))) (fun _ _ T' => HdK X T t p i T') := by
        intro S e hb hf he
        rw [zb_regs (by omega) hb (by omega), bis]
        exact wp_some (Or.inl ⟨e, he, bz S 0 e hb, hf.tr (fz S 0)⟩)
      have good : i + 1 < xn X → xK X (i + 1) = (if xK X i = 12 then 2 else 3) → wp (bi (PP nf d 63 (cMv T4 (i + 1 + 1)) [3] []) fun r15 _ T15 => some (0, 0, sI (sI (sI (sI (sI (sI T15 31 t r15) 32 t 0) 33 t 0) 34 t 0) 35 t 0) 27 0 (nI t + 1))) (fun _ _ T' => HdK X T t p i T') := by
        intro h1 hk1
        have rn := rn h1
        have g5 := g4.mv (j := i + 1 + 1) (by omega)
        rw [c_regs (m := 3) (x := 3) hX (by omega) g5 (by omega) rfl (by omega), bis, cMv_2]
        rw [show i + 1 + 1 = i + 2 by omega]
        have z6 := zer (cMv T4 (i + 2 + rgs (xK X) 3 (i + 2))) (nI (rgs (xK X) 3 (i + 2)))
        have y6 := e2 (cMv T4 (i + 2 + rgs (xK X) 3 (i + 2))) (nI (rgs (xK X) 3 (i + 2)))
        refine wp_some (Or.inr ⟨gz _ _ _ (g4.mv rn), (f4.tr FC.mv.ci).tr (fz _ _), h1, hk1, fun k j' d1 d2 d3 => ?_, ?_, ?_, ?_, ?_, ?_, fun k c1 c2 => ?_⟩)
        · rw [z6 k j', if_neg (by omega), if_neg (by omega), if_neg (by omega), mvo (by omega), r4 k j' (by omega) (by omega) (by omega)]
        · rw [z6 27 0, if_pos (by omega)]
        · rw [z6 28 t, if_neg (by omega), if_neg (by omega), if_neg (by omega), mvo (by omega)]; exact v28
        · rw [z6 29 t, if_neg (by omega), if_neg (by omega), if_neg (by omega), mvo (by omega)]; exact v29
        · rw [y6, cMv_2s, v30]; exact hu2 h1
        · rw [z6 31 t, if_neg (by omega), if_neg (by omega), if_pos (by omega)]
        · rw [z6 k t, if_neg (by omega), if_pos (by omega)]
      cases fn with
      | true =>
        have k12 : xK X i = 12 := hfn.mp rfl
        rw [if_pos (show true = true from rfl)]
        refine w_need (k := 2) hX g4 rfl (by omega) (by omega) (fun k2 => ?_) (fun k2 => ?_)
        · exact good (K_lt hX k2 (by omega)) (by rw [if_pos k12]; exact k2)
        · exact bad _ _ (g4.bd hX (by omega)) (f4.tr FC.bd.ci) (by rw [uF_i k12, if_neg k2])
      | false =>
        have n12 : ¬ xK X i = 12 := fun w => absurd (hfn.mpr w) (by decide)
        rw [if_neg (show ¬ (false = true) by decide)]
        refine w_need (k := 3) hX g4 rfl (by omega) (by omega) (fun k3 => ?_) (fun k3 => ?_)
        · exact good (K_lt hX k3 (by omega)) (by rw [if_neg n12]; exact k3)
        · exact bad _ _ (g4.bd hX (by omega)) (f4.tr FC.bd.ci) (by unfold pItem; rw [if_neg n12, if_neg k3])
    cases fn with
    | true => exact both
    | false => exact both
  refine w_sees (k := 12) hX hg rfl (by omega) (fun k12 => ?_) (fun k12 => ?_)
  · unfold rj_Parser_parseHead_14
    rw [if_neg n24, if_neg (show ¬ (1 : Int32) = 0 by decide)]
    exact go true ⟨fun _ => k12, fun _ => rfl⟩
  · unfold rj_Parser_parseHead_14
    rw [if_neg n24, if_pos (show (0 : Int32) = 0 from rfl)]
    have gf := go false ⟨fun w => absurd w (by decide), fun w => absurd w k12⟩
    refine w_sees (k := 10) hX hg rfl (by omega) (fun _ => gf) (fun k10 => ?_)
    exact w_sees (k := 11) hX hg rfl (by omega) (fun _ => gf) (fun k11 => absurd hk (by omega))
/-- an item whole, and what the loop does behind it -/
theorem c_item {rc : gSt → Int32 → gR} (hX : XO X) (hnf : 5000 ≤ nf) (hg : GC X T i p) (hp : p ≤ i + 1) (hp1 : 1 ≤ p) (ht : t < 24) (hd : 310 ≤ d) (hk : xK X i = 10 ∨ xK X i = 11 ∨ xK X i = 12) (hK : ∀ T', CiQ X T t p i (pItem (xK X) i) T' → wp (rc T' (nI t + 1)) Q) : wp (rj_Parser_parse_59 (PP nf d) nf rc T (nI t)) Q := by
  have hxn := hX.1
  have zt : inb (nI t) 24 := nin ht (by omega)
  have ct : (nI t).toNatClampNeg = t := nc (by omega)
  unfold rj_Parser_parse_59
  refine wp_bi (c_head hX hnf hg hp ht hd hk) ?_
  intro _ _ T6 h6
  rcases h6 with ⟨e, he, b6, f6⟩ | ⟨g6, f6, h1, hk1, N6, w27, v28, v29, v30, v31, q6⟩
  · rw [if_neg (by rw [b6.1]; decide), if_neg (by rw [b6.1]; decide), vK]
    exact hK T6 (by rw [he]; exact ⟨b6, f6⟩)
  · rw [if_pos g6.2.2.1, gd, if_pos zt, ct, v28]
    have rn := g6.2.1
    have rb := (rgs_b (xK X) 3 (i + 2)).1
    by_cases k12 : xK X i = 12
    · rw [if_pos k12] at hk1
      rw [uF_i k12, if_pos hk1] at hK
      rw [if_pos (show nI (xK X i) = 12 by rw [k12]; rfl)]
      generalize rgs (xK X) 3 (i + 2) = rg at *
      refine wp_bi (c_fun (d := d) hX hnf g6 (by omega) hp1 ht (by omega) (q6 32 (by omega) (by omega)) (q6 33 (by omega) (by omega)) (q6 34 (by omega) (by omega)) (q6 35 (by omega) (by omega))) ?_
      intro _ _ T7 h7
      rw [vK]
      refine hK T7 ?_
      clear hK
      generalize hr : uF (xK X) (i + 2 + rg) = res at *
      cases res with
      | error e => exact ⟨h7.1, f6.tr h7.2⟩
      | ok y =>
        obtain ⟨l, rt, dt, n, wt, w, b, j5⟩ := y
        obtain ⟨p', c1, c2, c3, c4, c5, c6, c7, c8, c9, c10, c11, c12, c13, c14, c15, c16, c17⟩ := h7
        refine ⟨p', c1, by omega, c3, by omega, f6.tr c5, N6.tr c6, ?_, ?_, ?_, ?_, by omega, ?_, c9, c10, c11, c12, c13, c14, fun _ => ⟨c15, ?_, c17⟩⟩
        · rw [c7 27 0 (by omega)]; exact w27
        · rw [c7 28 t (by omega)]; exact v28
        · rw [c7 29 t (by omega)]; exact v29
        · rw [c8]; exact v30
        · rw [c7 31 t (by omega)]; exact v31
        · rw [c16, uF_en hr]
    · rw [if_neg k12] at hk1
      have e12 : ¬ nI (xK X i) = 12 := fun w => k12 (nI_inj (b := 12) (by omega) (by omega) w)
      rw [if_neg e12, if_pos g6.2.2.1]
      unfold pItem at hK
      rw [if_neg k12, if_pos hk1] at hK
      generalize rgs (xK X) 3 (i + 2) = rg at *
      refine wp_bi (c_fields (d := d) hX (by omega) ht (by omega) g6 (by omega) (q6 32 (by omega) (by omega))) ?_
      intro _ _ T7 h7
      rw [vK]
      refine hK T7 ?_
      clear hK
      by_cases k40 : xK X (i + 2 + rg) = 40
      · rw [if_pos k40] at h7 ⊢
        generalize pSt (xK X) (pFl (xK X) 9 0 (i + 2 + rg + 1)) = res at *
        cases res with
        | error e => exact ⟨h7.1, f6.tr h7.2⟩
        | ok y =>
          obtain ⟨l, j3⟩ := y
          obtain ⟨a1, a2, a3, a4, a5, a6, a7⟩ := h7
          rw [Nat.zero_add] at a4 a6
          have o7 : ∀ k j', (k ≠ 58 ∧ k ≠ 128) → k ≠ 60 → k ≠ 32 → k ≠ 43 → T7.1 k j' = T6.1 k j' := fun k j' c1 c2 c3 c4 => a3.1 k j' c1 c2 (by omega) (by omega)
          refine ⟨p, a1, by omega, by omega, by omega, f6.tr a3.ci, fun k j' d1 d2 d3 => ?_, ?_, ?_, ?_, ?_, by omega, ?_, a4, a6, a5, ?_, ?_, ?_, fun w => absurd w k12⟩
          · rw [o7 k j' (by omega) (by omega) (by omega) (by omega), N6 k j' d1 d2 d3]
          · rw [o7 27 0 (by omega) (by omega) (by omega) (by omega)]; exact w27
          · rw [o7 28 t (by omega) (by omega) (by omega) (by omega)]; exact v28
          · rw [o7 29 t (by omega) (by omega) (by omega) (by omega)]; exact v29
          · rw [a3.2]; exact v30
          · rw [o7 31 t (by omega) (by omega) (by omega) (by omega)]; exact v31
          · rw [o7 33 t (by omega) (by omega) (by omega) (by omega), q6 33 (by omega) (by omega)]; rfl
          · rw [o7 34 t (by omega) (by omega) (by omega) (by omega), q6 34 (by omega) (by omega)]; rfl
          · rw [o7 35 t (by omega) (by omega) (by omega) (by omega), q6 35 (by omega) (by omega)]; rfl
      · rw [if_neg k40] at h7 ⊢
        exact ⟨h7.1, f6.tr h7.2⟩
end CPS
