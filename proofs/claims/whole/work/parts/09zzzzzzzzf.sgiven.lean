/-! the VARS that a BLOCK gives something to, on the class's side -/
def gkN (X : Lx) (T : gSt) (n : Nat) (A B : Int32 → Int32) (ta : Tr) (k : Nat) (acc : Int32) : Int32 :=
  if k = 31 then A acc else if k = 11 then B (A acc)
  else if k = 29 then (if vaI X T n ta = -1 then acc ||| 0 else acc ||| (1 <<< (vaI X T n ta &&& 31)))
  else if k = 21 then acc ||| B 0
  else if k = 12 then A 0 ||| B 0
  else if k = 22 then acc ||| (B 0 ||| 0)
  else if k = 26 then acc ||| (A 0 ||| 0)
  else if k = 28 then acc ||| (A 0 ||| B 0)
  else acc
def gvK (X : Lx) (T : gSt) (n : Nat) : Tr → Int32 → Int32
  | .add (.add (.var k) (.add (.var _) (.var _))) (.add a b), acc => gkN X T n (gvK X T n a) (gvK X T n b) a k acc
  | _, acc => acc
section SGV
variable {S T : gSt} {X : Lx} {nf d i k n e a b v g v' g' lo hi dd c p : Nat} {acc x : Int32} {ta tb t : Tr}
theorem gvK_n : gvK X T n (tD k i e ta tb) acc = gkN X T n (gvK X T n ta) (gvK X T n tb) ta k acc := rfl
theorem Ws_lt (h : Ws X t 0 a b v g v' g') : a < b := by
  induction t using Tr_ind with
  | hz t hz =>
    unfold Ws at h
    split at h
    · exact absurd rfl (hz _ _ _ _ _)
    · exact absurd h.1 (by decide)
    · exact h.elim
  | h k i e ta tb _ _ =>
    rw [Ws_n] at h
    unfold WsN at h
    rw [if_neg (by omega), if_neg (by omega), if_neg (by omega)] at h
    by_cases c : k = 20
    · rw [if_pos c] at h
      obtain ⟨h1, _, _, _, _, _, h2⟩ := h
      have t3 : i + 3 ≤ tyE X 6 (i + 3) := tyE_ge 6 (i + 3)
      by_cases z : isZ ta = true
      · rw [if_pos z] at h2; omega
      · rw [if_neg z] at h2
        obtain ⟨c, w, _⟩ := h2
        have := (Wf_le _ false _ _ w.1).1 rfl
        omega
    rw [if_neg c] at h; clear c
    by_cases c : k = 21
    · rw [if_pos c] at h
      obtain ⟨h1, c, h2, h3⟩ := h
      have := (Wf_le _ false _ _ h2.1).1 rfl
      have := (Ws_mo _ _ _ _ _ _ _ _ h3).1
      omega
    rw [if_neg c] at h; clear c
    by_cases c : k = 22
    · rw [if_pos c] at h
      obtain ⟨h1, c, h2, h3⟩ := h
      have := (Wf_le _ false _ _ h2.1).1 rfl
      have := (Ws_mo _ _ _ _ _ _ _ _ h3).1
      omega
    rw [if_neg c] at h; clear c
    by_cases c : k = 23
    · rw [if_pos c] at h
      obtain ⟨h1, _, _, h2⟩ := h
      by_cases z : isZ ta = true
      · rw [if_pos z] at h2; omega
      · rw [if_neg z] at h2
        obtain ⟨c, w, _⟩ := h2
        have := (Wf_le _ false _ _ w.1).1 rfl
        omega
    rw [if_neg c] at h; clear c
    by_cases c : k = 24 ∨ k = 25
    · rw [if_pos c] at h
      obtain ⟨h1, _, _, c, w, _⟩ := h
      have := (Wf_le _ false _ _ w.1).1 rfl
      omega
    rw [if_neg c] at h; clear c
    by_cases c : k = 30
    · rw [if_pos c] at h
      obtain ⟨h1, _, _, c, w, _⟩ := h
      have := (Wf_le _ false _ _ w.1).1 rfl
      omega
    rw [if_neg c] at h; clear c
    by_cases c : k = 29
    · rw [if_pos c] at h
      obtain ⟨h1, _, _, c, c2, w, w2, _⟩ := h
      have := (Wf_le _ false _ _ w.1).1 rfl
      have := (Wf_le _ false _ _ w2.1).1 rfl
      omega
    rw [if_neg c] at h; clear c
    by_cases c : k = 26
    · rw [if_pos c] at h
      have := (Ws_mo _ _ _ _ _ _ _ _ h.2.2).1
      omega
    rw [if_neg c] at h; clear c
    by_cases c : k = 27
    · rw [if_pos c] at h
      omega
    rw [if_neg c] at h; clear c
    by_cases c : k = 28
    · rw [if_pos c] at h
      obtain ⟨h1, c, v1, g1, h2, h3⟩ := h
      have := (Ws_mo _ _ _ _ _ _ _ _ h2).1
      have := (Ws_mo _ _ _ _ _ _ _ _ h3).1
      omega
    rw [if_neg c] at h
    exact h.elim
theorem gv0 (hdd : dd ≤ 20) (hnf : 1 ≤ nf) (hd : 1 ≤ d) : PP nf d 191 T [(0 : Int32), nI dd] [] = some (0, 0, T) := by
  obtain ⟨d, rfl⟩ : ∃ g, d = g + 1 := ⟨d - 1, by omega⟩
  obtain ⟨nf, rfl⟩ : ∃ g, nf = g + 1 := ⟨nf - 1, by omega⟩
  rw [e_Steps_varsGiven]
  unfold rb_Steps_varsGiven
  rw [if_pos (show nI dd ≤ 20 from (nI_leI (a := dd) (b := 20) (by omega) (by omega)).mpr hdd), rl_Steps_varsGiven_16, if_pos rfl]
/-- a BLOCK; a list of STEPS -/
def GvP2 (nf : Nat) (X : Lx) (t : Tr) : Prop := (∀ (T : gSt) (lo hi dd d n a b v g v' g' : Nat), RcS X T t 2 0 lo hi → 1 ≤ lo → hi ≤ 4008 → SG X t dd 2 → Ws X t 2 a b v g v' g' → b ≤ xn X → TkC X T → T.1 11 0 = 0 → T.1 68 0 = nI n → n ≤ 20 → 28 ≤ d + dd → PP nf d 191 T [if emB t = true then 0 else nI lo, nI dd] [] = some (gvK X T n t 0, 0, T)) ∧ (∀ (T : gSt) (lo hi dd d n a b v g v' g' fl j : Nat) (acc : Int32), RcS X T t 1 0 lo hi → 1 ≤ lo → hi ≤ 4008 → SG X t dd 1 → dd ≤ 20 → Ws X t 1 a b v g v' g' → b ≤ xn X → TkC X T → T.1 11 0 = 0 → T.1 68 0 = nI n → n ≤ 20 → 27 ≤ d + dd → b < fl + a → j ≤ a → rl_Steps_varsGiven_16 (PP nf d) nf fl T (nI dd) acc (if isZ t = true then 0 else nI lo) (nI j) = some (gvK X T n t acc, 0, T))
theorem c_gv (hX : XO X) (hnf : 16385 ≤ nf) : ∀ (N : Nat) (t : Tr), ndT t < N → GvP2 nf X t := by
  have hxn := hX.1
  intro N
  induction N with
  | zero => intro t h; omega
  | succ N ih =>
    intro t
    induction t using Tr_ind with
    | hz t hz =>
      intro _
      refine ⟨fun T lo hi dd d n a b v g v' g' _ _ _ hs => ?_, fun T lo hi dd d n a b v g v' g' fl j acc h hl hh hs hdd hw hb hT h0 h68 hn hd hf hj => ?_⟩
      · unfold SG at hs
        split at hs
        · exact absurd rfl (hz _ _ _ _ _)
        · exact absurd hs (by decide)
        · exact hs.elim
      · unfold SG at hs
        split at hs
        · exact absurd rfl (hz _ _ _ _ _)
        · have := hw.2.1
          obtain ⟨fl, rfl⟩ : ∃ g, fl = g + 1 := ⟨fl - 1, by omega⟩
          rw [rl_Steps_varsGiven_16, if_pos (by rfl)]
          rfl
        · exact hs.elim
    | h k i e ta tb _ _ =>
      intro hN
      rw [ndT_n] at hN
      refine ⟨fun T lo hi dd d n a b v g v' g' h hl hh hs hw hb hT h0 h68 hn hd => ?_, fun T lo hi dd d n a b v g v' g' fl j acc h hl hh hs hdd hw hb hT h0 h68 hn hd hf hj => ?_⟩
      · -- a BLOCK
        rw [RcS_n] at h
        unfold RsC at h
        rw [if_neg (by omega), if_pos rfl] at h
        obtain ⟨k31, h⟩ := h
        subst k31
        obtain ⟨_, s1, s2, s3⟩ := hs
        obtain ⟨_, w1, w2⟩ := hw
        obtain ⟨d, rfl⟩ : ∃ g, d = g + 1 := ⟨d - 1, by omega⟩
        rw [e_Steps_varsGiven]
        unfold rb_Steps_varsGiven
        rw [if_pos (show nI dd ≤ 20 from (nI_leI (a := dd) (b := 20) (by omega) (by omega)).mpr s3), show emB (tD 31 i e ta tb) = isZ ta from rfl]
        exact (ih ta (by omega)).2 T lo hi dd d n (a + 1) i v g v' g' nf 0 0 h hl hh s1 s3 w1 (by omega) hT h0 h68 hn (by omega) (by omega) (by omega)
      · -- a list
        rw [RcS_n] at h
        unfold RsC at h
        rw [if_neg (by omega), if_neg (by omega), if_pos rfl] at h
        obtain ⟨k11, c, r1, r2, r3, r4, r5⟩ := h
        subst k11
        obtain ⟨_, s1, s2⟩ := hs
        obtain ⟨_, c1, v1, g1, w1, w2⟩ := hw
        have lt := Ws_lt w1
        have le := (Ws_mo _ _ _ _ _ _ _ _ w2).1
        obtain ⟨fl, rfl⟩ : ∃ g, fl = g + 1 := ⟨fl - 1, by omega⟩
        have zl : inb (nI lo) 4008 := nin (by omega) (by omega)
        have next : ∀ acc' : Int32, rl_Steps_varsGiven_16 (PP nf d) nf fl T (nI dd) acc' (T.1 13 lo) (nI (j + 1)) = some (gvK X T n tb acc', 0, T) := fun acc' => by
          rw [r4]
          exact (ih tb (by omega)).2 T c hi dd d n c1 b v1 g1 v' g' fl (j + 1) acc' r5 (by omega) hh s2 hdd w2 hb hT h0 h68 hn hd (by omega) (by omega)
        rw [show isZ (tD 11 i e ta tb) = false from rfl, if_neg (show ¬ (false = true) by decide), rl_Steps_varsGiven_16, if_neg (show ¬ nI lo = 0 from fun w => by
          have := nI_inj (b := 0) (by omega) (by omega) w
          omega), if_neg (fun w => by have := (nI_leI (a := 4000) (b := j) (by omega) (by omega)).mp w; omega), gd, if_pos zl, vK, nc (by omega), gvK_n]
        show _ = some (gvK X T n tb (gvK X T n ta acc), 0, T)
        -- the STEP
        have two : ∀ (p1 p2 : Int32) (x1 x2 : Int32), PP nf d 191 T [T.1 17 lo, nI (dd + 1)] [] = some (x1, 0, T) → PP nf d 191 T [T.1 18 lo, nI (dd + 1)] [] = some (x2, 0, T) → rj_Steps_varsGiven_115 (PP nf d) nf (rl_Steps_varsGiven_16 (PP nf d) nf fl) T (nI dd) acc (nI lo) (nI j) = some (gvK X T n tb (acc ||| (x1 ||| x2)), 0, T) := fun _ _ x1 x2 e1 e2 => by
          unfold rj_Steps_varsGiven_115
          rw [gd, if_pos zl, nc (by omega), nI_1, e1, bis, gd, if_pos zl, e2, bis, vK, gd, if_pos zl, vK, vK, nI_1, next]
        have plain : ∀ z : Int32, T.1 11 lo = z → ¬ z = 50 → ¬ z = 16 → ¬ z = 18 → ¬ z = 21 → ¬ z = 23 → (if T.1 11 lo = 50 then (gd (inb (nI lo) 4008) <| bi (PP nf d 175 T [T.1 16 lo] []) fun r18 l18 T18 => if r18 = (-1 : Int32) then (vK (acc ||| (0 : Int32)) fun z24 => gd (inb (nI lo) 4008) <| vK (T18.1 13 lo) fun z26 => vK (nI j + (1 : Int32)) fun z27 => rl_Steps_varsGiven_16 (PP nf d) nf fl T18 (nI dd) z24 z26 z27) else (vK (acc ||| ((1 : Int32) <<< (r18 &&& 31))) fun z20 => gd (inb (nI lo) 4008) <| vK (T18.1 13 lo) fun z22 => vK (nI j + (1 : Int32)) fun z23 => rl_Steps_varsGiven_16 (PP nf d) nf fl T18 (nI dd) z20 z22 z23)) else if T.1 11 lo = 16 then rj_Steps_varsGiven_115 (PP nf d) nf (rl_Steps_varsGiven_16 (PP nf d) nf fl) T (nI dd) acc (nI lo) (nI j) else if T.1 11 lo = 18 then rj_Steps_varsGiven_115 (PP nf d) nf (rl_Steps_varsGiven_16 (PP nf d) nf fl) T (nI dd) acc (nI lo) (nI j) else if T.1 11 lo = 21 then rj_Steps_varsGiven_115 (PP nf d) nf (rl_Steps_varsGiven_16 (PP nf d) nf fl) T (nI dd) acc (nI lo) (nI j) else if T.1 11 lo = 23 then rj_Steps_varsGiven_115 (PP nf d) nf (rl_Steps_varsGiven_16 (PP nf d) nf fl) T (nI dd) acc (nI lo) (nI j) else gd (inb (nI lo) 4008) <| vK (T.1 13 lo) fun z15 => vK (nI j + (1 : Int32)) fun z16 => rl_Steps_varsGiven_16 (PP nf d) nf fl T (nI dd) acc z15 z16) = some (gvK X T n tb acc, 0, T) := fun z e0 e1 e2 e3 e4 e5 => by
          rw [e0, if_neg e1, if_neg e2, if_neg e3, if_neg e4, if_neg e5, gd, if_pos zl, vK, vK, nI_1, next]
        have blk : ∀ (u : Tr) (lo' hi' a' b' v2 g2 v3 g3 : Nat), ndT u < N → RcS X T u 2 0 lo' hi' → 1 ≤ lo' → hi' ≤ 4008 → SG X u (dd + 1) 2 → Ws X u 2 a' b' v2 g2 v3 g3 → b' ≤ xn X → PP nf d 191 T [if emB u = true then 0 else nI lo', nI (dd + 1)] [] = some (gvK X T n u 0, 0, T) := fun u lo' hi' a' b' v2 g2 v3 g3 q1 q2 q3 q4 q5 q6 q7 => (ih u q1).1 T lo' hi' (dd + 1) d n a' b' v2 g2 v3 g3 q2 q3 q4 q5 q6 q7 hT h0 h68 hn (by omega)
        clear ih
        induction ta using Tr_ind with
        | hz ta hz =>
          unfold SG at s1
          split at s1
          · exact absurd rfl (hz _ _ _ _ _)
          · exact absurd s1 (by decide)
          · exact s1.elim
        | h kk ii ee ua ub _ _ =>
          rw [ndT_n] at hN
          rw [RcS_n] at r3
          unfold RsC at r3
          rw [if_neg (by omega), if_neg (by omega), if_neg (by omega)] at r3
          obtain ⟨q1, q2, q3⟩ := r3
          rw [SG_n] at s1
          unfold sgN at s1
          rw [if_neg (by omega), if_neg (by omega), if_neg (by omega)] at s1
          rw [Ws_n] at w1
          unfold WsN at w1
          rw [if_neg (by omega), if_neg (by omega), if_neg (by omega)] at w1
          have pl0 : ¬ kk = 29 → ¬ kk = 21 → ¬ kk = 22 → ¬ kk = 26 → ¬ kk = 28 → ¬ kk = 31 → ¬ kk = 11 → ¬ kk = 12 → gvK X T n (tD kk ii ee ua ub) acc = acc := fun b1 b2 b3 b4 b5 b6 b7 b8 => by
            rw [gvK_n]
            unfold gkN
            rw [if_neg b6, if_neg b7, if_neg b1, if_neg b2, if_neg b8, if_neg b3, if_neg b4, if_neg b5]
          by_cases c20 : kk = 20
          · rw [if_pos c20] at q3
            rw [pl0 (by omega) (by omega) (by omega) (by omega) (by omega) (by omega) (by omega) (by omega)]
            exact plain _ q3.1 (by decide) (by decide) (by decide) (by decide) (by decide)
          rw [if_neg c20] at q3 s1 w1; clear c20
          by_cases c21 : kk = 21
          · rw [if_pos c21] at q3 s1 w1
            subst c21
            rw [show gvK X T n (tD 21 ii ee ua ub) acc = (acc ||| gvK X T n ub 0) from rfl]
            obtain ⟨e1, e2, c', e3, e4, e5, e6⟩ := q3
            obtain ⟨_, cc, w3, w4⟩ := w1
            obtain ⟨_, s3⟩ := s1
            rw [e1, if_neg (by decide), if_pos rfl]
            induction ub using Tr_ind with
            | hz ub hz =>
              unfold SG at s3
              split at s3
              · exact absurd rfl (hz _ _ _ _ _)
              · exact absurd s3 (by decide)
              · exact s3.elim
            | h k3 i3 e3' va vb _ _ =>
              rw [ndT_n] at hN
              rw [RcS_n] at e6
              unfold RsC at e6
              rw [if_pos rfl] at e6
              obtain ⟨k12, c2, f1, f2, f3, f4, f5, f6⟩ := e6
              subst k12
              rw [SG_n] at s3
              unfold sgN at s3
              rw [if_pos rfl] at s3
              obtain ⟨_, s4, s5⟩ := s3
              rw [Ws_n] at w4
              unfold WsN at w4
              rw [if_neg (by omega), if_neg (by omega), if_pos rfl] at w4
              obtain ⟨_, c3, v2, g2, w5, w6⟩ := w4
              have g12 : gvK X T n (tD 12 i3 e3' va vb) 0 = (gvK X T n va 0 ||| gvK X T n vb 0) := rfl
              rw [g12]
              unfold vB at f3 f5
              have l5 := (Ws_mo _ _ _ _ _ _ _ _ w5).1
              have l6 : c3 ≤ c1 := by
                by_cases z : isZ vb = true
                · rw [if_pos z] at w6; omega
                · rw [if_neg z] at w6
                  have := (Ws_mo _ _ _ _ _ _ _ _ w6).1
                  omega
              refine two 0 0 _ _ ?_ ?_
              · rw [f3]
                exact blk va c' c2 cc c3 v g v2 g2 (by omega) f4 (by omega) (by omega) s4 w5 (by omega)
              · rw [f5]
                by_cases z : isZ vb = true
                · have eb : emB vb = true := by
                    unfold isZ at z
                    split at z
                    · rfl
                    · cases z
                  have gz : gvK X T n vb 0 = 0 := by
                    unfold isZ at z
                    split at z
                    · rfl
                    · cases z
                  have d20 : dd + 1 ≤ 20 := by
                    induction va using Tr_ind with
                    | hz va hz =>
                      unfold SG at s4
                      split at s4
                      · exact absurd rfl (hz _ _ _ _ _)
                      · exact absurd s4 (by decide)
                      · exact s4.elim
                    | h k4 i4 e4 wa wb _ _ => exact s4.2.2.2
                  rw [if_pos eb, gz]
                  exact gv0 d20 (by omega) (by omega)
                · rw [if_neg z] at w6
                  have s5' : SG X vb (dd + 1) 2 := s5.resolve_left z
                  exact blk vb c2 c (c3 + 1) c1 v2 g2 v1 g1 (by omega) f6 (by omega) (by omega) s5' w6 (by omega)
          rw [if_neg c21] at q3 s1 w1
          by_cases c22 : kk = 22
          · rw [if_pos c22] at q3 s1 w1
            subst c22
            rw [show gvK X T n (tD 22 ii ee ua ub) acc = (acc ||| (gvK X T n ub 0 ||| 0)) from rfl]
            obtain ⟨⟨e1, e18⟩, e2, c', e3, e4, e5, e6, e7⟩ := q3
            obtain ⟨_, cc, w3, w4⟩ := w1
            obtain ⟨_, s3⟩ := s1
            rw [e1, if_neg (by decide), if_neg (by decide), if_pos rfl]
            unfold vB at e6
            refine two 0 0 _ _ ?_ ?_
            · rw [e6]
              exact blk ub c' c cc c1 v g v1 g1 (by omega) e7 (by omega) (by omega) s3 w4 (by omega)
            · have d20 : dd + 1 ≤ 20 := by
                induction ub using Tr_ind with
                | hz va hz =>
                  unfold SG at s3
                  split at s3
                  · exact absurd rfl (hz _ _ _ _ _)
                  · exact absurd s3 (by decide)
                  · exact s3.elim
                | h k4 i4 e4 wa wb _ _ => exact s3.2.2.2
              rw [e18]
              exact gv0 d20 (by omega) (by omega)
          rw [if_neg c22] at q3 s1 w1
          by_cases c23 : kk = 23
          · rw [if_pos c23] at q3
            rw [pl0 (by omega) (by omega) (by omega) (by omega) (by omega) (by omega) (by omega) (by omega)]
            exact plain _ q3.1 (by decide) (by decide) (by decide) (by decide) (by decide)
          rw [if_neg c23] at q3 s1 w1
          by_cases c24 : kk = 24 ∨ kk = 25
          · rw [if_pos c24] at q3
            rw [pl0 (by omega) (by omega) (by omega) (by omega) (by omega) (by omega) (by omega) (by omega)]
            have := q3.1
            by_cases c : kk = 24
            · rw [if_pos c] at this
              exact plain _ this (by decide) (by decide) (by decide) (by decide) (by decide)
            · rw [if_neg c] at this
              exact plain _ this (by decide) (by decide) (by decide) (by decide) (by decide)
          rw [if_neg c24] at q3 w1
          by_cases c26 : kk = 26
          · rw [if_pos c26] at q3
            rw [if_neg (by omega), if_neg (by omega), if_pos c26] at s1
            rw [if_neg (by omega), if_neg (by omega), if_pos c26] at w1
            subst c26
            rw [show gvK X T n (tD 26 ii ee ua ub) acc = (acc ||| (gvK X T n ua 0 ||| 0)) from rfl]
            obtain ⟨⟨e1, e18⟩, e6, e7⟩ := q3
            obtain ⟨_, w3, w4⟩ := w1
            obtain ⟨_, s3⟩ := s1
            rw [e1, if_neg (by decide), if_neg (by decide), if_neg (by decide), if_pos rfl]
            unfold vB at e6
            refine two 0 0 _ _ ?_ ?_
            · rw [e6]
              exact blk ua (lo + 1) c (a + 2) c1 v (g + 1) v1 g1 (by omega) e7 (by omega) (by omega) s3 w4 (by omega)
            · have d20 : dd + 1 ≤ 20 := by
                induction ua using Tr_ind with
                | hz va hz =>
                  unfold SG at s3
                  split at s3
                  · exact absurd rfl (hz _ _ _ _ _)
                  · exact absurd s3 (by decide)
                  · exact s3.elim
                | h k4 i4 e4 wa wb _ _ => exact s3.2.2.2
              rw [e18]
              exact gv0 d20 (by omega) (by omega)
          rw [if_neg c26] at q3
          by_cases c27 : kk = 27
          · rw [if_pos c27] at q3
            rw [pl0 (by omega) (by omega) (by omega) (by omega) (by omega) (by omega) (by omega) (by omega)]
            exact plain _ q3.1 (by decide) (by decide) (by decide) (by decide) (by decide)
          rw [if_neg c27] at q3
          by_cases c28 : kk = 28
          · rw [if_pos c28] at q3
            rw [if_neg (by omega), if_neg (by omega), if_neg c26, if_neg c27, if_pos c28] at s1
            rw [if_neg (by omega), if_neg (by omega), if_neg c26, if_neg c27, if_pos c28] at w1
            subst c28
            rw [show gvK X T n (tD 28 ii ee ua ub) acc = (acc ||| (gvK X T n ua 0 ||| gvK X T n ub 0)) from rfl]
            obtain ⟨e1, c', e2, e3, e4, e5, e6, e7⟩ := q3
            obtain ⟨_, cc, v2, g2, w3, w4⟩ := w1
            obtain ⟨s3, s4⟩ := s1
            have l4 := (Ws_mo _ _ _ _ _ _ _ _ w4).1
            rw [e1, if_neg (by decide), if_neg (by decide), if_neg (by decide), if_neg (by decide), if_pos rfl]
            unfold vB at e4 e6
            refine two 0 0 _ _ ?_ ?_
            · rw [e4]
              exact blk ua (lo + 1) c' (a + 1) cc v g v2 g2 (by omega) e5 (by omega) (by omega) s3 w3 (by omega)
            · rw [e6]
              exact blk ub c' c (cc + 1) c1 v2 g2 v1 g1 (by omega) e7 (by omega) (by omega) s4 w4 (by omega)
          rw [if_neg c28] at q3
          by_cases c29 : kk = 29
          · rw [if_pos c29] at q3
            rw [if_neg (by omega), if_pos c29] at s1
            rw [if_neg (by omega), if_pos c29] at w1
            subst c29
            rw [show gvK X T n (tD 29 ii ee ua ub) acc = (if vaI X T n ua = -1 then acc ||| 0 else acc ||| (1 <<< (vaI X T n ua &&& 31))) from rfl]
            obtain ⟨e1, e2, c', e3, e4, e5, _⟩ := q3
            obtain ⟨_, _, _, cc, c2, w3, w4, _⟩ := w1
            obtain ⟨⟨s3, s4⟩, _⟩ := s1
            rw [e1, if_pos rfl, gd, if_pos zl, e2, c_alone (nf := nf) (d := d) hX hnf hT h0 h68 hn e5 s3 (by omega) (by omega) (by omega) w3.1 (by omega), bis]
            by_cases c : vaI X T n ua = -1
            · rw [if_pos c, if_pos c, vK, gd, if_pos zl, vK, vK, nI_1, next]
            · rw [if_neg c, if_neg c, vK, gd, if_pos zl, vK, vK, nI_1, next]
          rw [if_neg c29] at q3
          by_cases c30 : kk = 30
          · rw [if_pos c30] at q3
            rw [pl0 (by omega) (by omega) (by omega) (by omega) (by omega) (by omega) (by omega) (by omega)]
            exact plain _ q3.1 (by decide) (by decide) (by decide) (by decide) (by decide)
          rw [if_neg c30] at q3
          exact q3.elim
end SGV
