/-! places of the code: conditions */
-/
section SUR
variable {M0 T0 S S' S1 S2 S3 Sf : gSt} {X : Lx} {it e v g n n' n2 m m' m2 k i q c en j a b v' g' dd dd' u s n1 B L p nx mx : Nat} {t ta tb : Tr} {x y r w ys no b0 t1 pl' z0 : Int32} {nm : Int64} {st st' s0 : List Int32} {hs : List HD} {jj : T5} {ks js : List T5}
theorem slW_fv (fv : FV S S') (h66 : S'.1 66 = S.1 66) : ∀ u, u ≤ vn S → slW S' u = slW S u := by
  intro u
  induction u with
  | zero => intro _; rfl
  | succ u ih =>
    intro hu
    rw [slW, slW, ih (by omega), (fv.2.2.2.2.2.1 u (by omega)).2.1]
    unfold wS isRo
    rw [h66]
theorem VwS.fv (h : VwS Sf S) (fv : FV S S') (h7 : S'.1 77 0 = S.1 77 0) (h66 : S'.1 66 = S.1 66) : VwS Sf S' := by
  obtain ⟨a1, a2, a3, a4, a5⟩ := h
  have ev : vn S' = vn S := by unfold vn; rw [h7]
  refine ⟨fun u hu => ?_, by omega, fun a b ha hb he => ?_, fun u hu => ?_, fun u hu => ?_⟩
  · rw [(fv.2.2.2.2.2.1 u (by omega)).1]; exact a1 u (by omega)
  · rw [(fv.2.2.2.2.2.1 a (by omega)).1, (fv.2.2.2.2.2.1 b (by omega)).1] at he
    exact a3 a b (by omega) (by omega) he
  · rw [(fv.2.2.2.2.2.1 u (by omega)).2.1]
    exact ⟨(a4 u (by omega)).1, (a4 u (by omega)).2.fv fv⟩
  · rw [slW_fv fv h66 u (by omega), slV_fv fv u (by omega)]
    exact a5 u (by omega)
theorem JS.iv2 (h : JS Sf it dd S hs) (vw : VwS Sf S) : IvP Sf it S [] hs := by
  obtain ⟨j1, j2, ⟨c, j3, j4⟩, j5, j6, j7, j8, j9, j10⟩ := h
  exact ⟨vw, j1, ⟨c, j3, by omega⟩, fun x hx => absurd hx List.not_mem_nil, by show 0 ≤ 450; omega, by show 0 ≤ 150; omega, j6, by omega, fun h hh => (j8 h hh).1⟩
theorem kw_66 : (kwS S x).1 66 = S.1 66 := by
  unfold kwS
  split
  · rfl
  · rw [sI_ne (by omega)]
theorem JS.kw (h : JS Sf it dd S hs) (vw : VwS Sf S) : JS Sf it dd (kwS S x) hs ∧ IvP Sf it (kwS S x) [] hs := by
  obtain ⟨_, g0, _, _, _, e86, _, _, g8, _⟩ := h.1.mg
  have fr : FR S (kwS S x) := FR.of FV.kw FP.kw e86 g8
  have j := h.fr fr kw_8.2.2.2.1
  exact ⟨j, j.iv2 (vw.fv fr.1 kw_8.2.2.2.1 kw_66)⟩
theorem cd_ok (h : (cdC X ta S).1 7 0 = 0) (h0 : (chk X ta 0 0 S).2.2.2.1 7 0 = 0) : cdC X ta S = (chk X ta 0 0 S).2.2.2 ∧ ((chk X ta 0 0 S).1 = 0 ∨ ¬ isPt (chk X ta 0 0 S).2.2.2 (chk X ta 0 0 S).1 = 0) := by
  unfold cdC cnT at h ⊢
  by_cases c : (chk X ta 0 0 S).2.2.2.1 7 0 = 0 ∧ ¬ (chk X ta 0 0 S).1 = 0 ∧ isPt (chk X ta 0 0 S).2.2.2 (chk X ta 0 0 S).1 = 0
  · rw [if_pos c] at h
    exact absurd h (flT_bad (by decide))
  · rw [if_neg c]
    refine ⟨rfl, ?_⟩
    by_cases c2 : (chk X ta 0 0 S).1 = 0
    · exact Or.inl c2
    · exact Or.inr (fun w => c ⟨h0, c2, w⟩)
theorem an_lf (t : Tr) : tkd X t = 4 → akN X t S = -1 := by
  induction t using Tr_ind with
  | hz t hz =>
    intro h
    unfold akN
    split
    · exact absurd rfl (hz _ _ _ _ _)
    · rfl
  | h k i e a b ihA ihB =>
    intro h
    have ek : tkd X (tD k i e a b) = if k = 2 then tkd X a else if k = 1 then (if xK X i = 5 then 0 else if xK X i = 27 then 1 else if xK X i = 34 then 2 else if xK X i = 35 then 3 else 4) else if k = 3 then (if xK X i = 49 then 14 else if xK X i = 61 then 16 else 17) else if k = 4 then 15 else if k = 5 then 13 else if k = 6 then 5 else if k = 7 then (if xK X (i + 3 + e) = 49 then 7 else 6) else if k = 8 then (if xK X i = 29 then 8 else if xK X i = 30 then 9 else if xK X i = 31 then 11 else 12) else if k = 9 then 10 else 30 := rfl
    have e2 : akN X (tD k i e a b) S = if k = 2 then akN X a S else if k = 5 ∧ chK e = 256 ∧ tkd X a = 4 ∧ tkd X b = 1 then akV S (xN X (lfI a)) else -1 := rfl
    rw [ek] at h
    rw [e2]
    by_cases k2 : k = 2
    · rw [if_pos k2] at h ⊢
      exact ihA h
    rw [if_neg k2] at h ⊢
    by_cases k5 : k = 5
    · subst k5
      rw [if_neg (by decide), if_neg (by decide), if_neg (by decide), if_pos rfl] at h
      exact absurd h (by decide)
    · rw [if_neg (fun w => k5 w.1)]
theorem gd_cd (cx : CxP M0 T0 Sf) (hj : Sf.2 16 = S.2 16 ∧ Sf.2 32 = S.2 32) (ge : GE X Sf ta S) (hx : XG X ta (19 - dd) 1 ∧ dd ≤ 19) (hdd : 1 ≤ dd) (js : JS Sf it dd S hs) (sl : SlB S v) (hC : Ck S) (hF : FW S Sf) (h7 : (cdC X ta S).1 7 0 = 0) (hE : ExC M0 (chk X ta 0 0 S).2.2.1 n n2) (hK : KxC (eN Sf it) Sf T0 S (chk X ta 0 0 S).2.2.1 m m2) (r26 : rwC4 M0 n2 = (26, nI nx, qK (chk X ta 0 0 S).1, 0)) (t51 : cw3 T0 m2 = (51, nI mx, 0)) (l1 : n2 < nx) (l2 : m2 < mx) (l3 : nx < 12000) (l4 : mx < n1) (ps : PsH n2 m2 hs) (g1 : Gdk M0 T0 Sf n1 it k (n2 + 1) (m2 + 1) (kwS (cdC X ta S) (akY X ta (cdC X ta S))) [] hs) (g2 : Gdk M0 T0 Sf n1 it k nx mx (kwS (cdC X ta S) (akN X ta (cdC X ta S))) [] hs) : Gdk M0 T0 Sf n1 it k n m S [] hs := by
  have hc6 : cn Sf ≤ 6000 := by have := cx.2.1; omega
  have iv := js.iv sl hC hF cx.2.1
  have hf1 := ge.2.2.2.1
  have h0 := ge.2.2.1
  obtain ⟨eC, hty⟩ := cd_ok h7 hf1
  rw [eC] at g1 g2
  have fe := chk_fe (X := X) ta 0 0 S
  obtain ⟨f1, f2, f3, f4, f5, f6⟩ := fe_8 fe
  obtain ⟨c1, c2⟩ := chk_iv cx ge
  have fW1 := ge.2.2.2.2
  obtain ⟨_, g0, _, _, _, e86, _, _, g8, _⟩ := js.1.mg
  have fr1 : FR S (chk X ta 0 0 S).2.2.2 := FR.of (FV.fe fe) (FP.fe fe) e86 g8
  have js1 := js.fr fr1 f3
  have sl1 := sl.fv (FV.fe fe) f3 (Nat.le_refl _) sl.1
  have vw1 := vw_of js1.2.1 sl1 c1 fW1 cx.2.1
  have ev1 : vn (chk X ta 0 0 S).2.2.2 = vn S := by unfold vn; rw [f3]
  have fdq : ∀ nm, fd (isVa (chk X ta 0 0 S).2.2.2 nm) (vn (chk X ta 0 0 S).2.2.2) = fd (isVa S nm) (vn S) := fun nm => by
    rw [ev1]
    exact fd_eq (FN.eq f3 f4 f5) (vn S) (Nat.le_refl _)
  have f80 : (chk X ta 0 0 S).2.2.2.1 80 = S.1 80 := fe.1 80 (by unfold fE; omega)
  -- a VAR becomes known
  have knS : ∀ s : Nat, s < 20 → KnS Sf S (kwS (chk X ta 0 0 S).2.2.2 (nI s)) s := fun s s20 => by
    have kp := kw_8 (S := (chk X ta 0 0 S).2.2.2) (x := nI s)
    have fr2 := kw_fr (x := nI s) fr1
    have e1 : (kwS (chk X ta 0 0 S).2.2.2 (nI s)) = sI (chk X ta 0 0 S).2.2.2 82 0 ((chk X ta 0 0 S).2.2.2.1 82 0 ||| (1 <<< (nI s &&& 31))) := by unfold kwS; rw [if_neg (nI_ge0 (by omega))]
    refine ⟨⟨by unfold rn; rw [fr2.1.1], fr2.1.2.1, fr2.1.2.2.1, fr2.1.2.2.2.1, by rw [kp.2.2.1, fe.1 75 (by unfold fE; omega)], fr2.2.1, fr2.2.2.1⟩, fun u s' ⟨a1, a2, a3, a4, a5⟩ => ?_⟩
    have ev2 : vn (kwS (chk X ta 0 0 S).2.2.2 (nI s)) = vn S := by unfold vn; rw [kp.2.2.2.1, f3]
    obtain ⟨b1, b2, b3⟩ := fr2.1.2.2.2.2.2.1 u (by omega)
    rw [b1] at a2
    rw [kp.1, f1] at a4
    refine ⟨⟨by omega, a2, a3, a4, a5⟩, b2.symm, (slV_fv fr2.1 u (by omega)).symm, fun w => ?_⟩
    rw [e1, sI_v, fi_on (by omega) (by omega), f2] at w
    by_cases z : s' = s
    · exact Or.inr z
    · rw [if_neg z] at w; exact Or.inl w
  have ivK : ∀ s : Nat, IvP Sf it (kwS (chk X ta 0 0 S).2.2.2 (nI s)) [] hs := fun s => (js1.kw vw1).2
  by_cases cY : akY X ta (chk X ta 0 0 S).2.2.2 < 0
  · have eY : kwS (chk X ta 0 0 S).2.2.2 (akY X ta (chk X ta 0 0 S).2.2.2) = (chk X ta 0 0 S).2.2.2 := by unfold kwS; rw [if_pos cY]
    rw [eY] at g1
    by_cases cN : akN X ta (chk X ta 0 0 S).2.2.2 < 0
    · -- no VAR becomes known
      have eNN : kwS (chk X ta 0 0 S).2.2.2 (akN X ta (chk X ta 0 0 S).2.2.2) = (chk X ta 0 0 S).2.2.2 := by unfold kwS; rw [if_pos cN]
      rw [eNN] at g2
      have g1 := g1.wk (wk_fe fe)
      have g2 := g2.wk (wk_fe fe)
      have n1' : ¬ (chk X ta 0 0 S).1 = -1 := by
        rcases hty with z | z
        · rw [z]; decide
        · intro w
          rw [w] at z
          exact z rfl
      refine gd_xp cx hj ge hx hdd hE hK iv (by show 0 ≤ 12; omega) (by show 0 ≤ 3; omega) (by omega) (by omega) (fun h hh => by have := ps h hh; omega) (fun ivx => ?_)
      unfold psh at ivx ⊢
      rw [if_neg n1'] at ivx ⊢
      rcases hty with z | z
      · rw [z] at ivx r26 ⊢
        exact gd_ru ivx (by omega) (by omega) ps (fun j hj => Or.inr (Or.inr (Or.inr (Or.inr (Or.inr (Or.inl ⟨nx, mx, 0, 0, [], r26, t51, rfl, l1, l2, l3, l4, iv, g1.le (by omega), g2.le (by omega)⟩))))))
      · have hp : ∃ p, rowP Sf (chk X ta 0 0 S).1 p ∧ (Sf.1 66 p = 1 ∨ Sf.1 66 p = 2) := by
          rcases c2 with e | e | e | ⟨p, e, p1, p2⟩
          · exact absurd e n1'
          · rw [e] at z; exact absurd rfl z
          · rw [e] at z; exact absurd rfl z
          · have c6 := fW1.lt c1.1 cx.2.1
            have r := fW1.row c1.1 cx.2.1 p2
            have r66 : Sf.1 66 p = (chk X ta 0 0 S).2.2.2.1 66 p := (rwT_g (T := Sf) (p := p) (z := rwT (chk X ta 0 0 S).2.2.2 p) r).1
            have hp : rowP Sf (chk X ta 0 0 S).1 p := ⟨e, p1, Nat.lt_of_lt_of_le p2 (fW1.cnle c1.1)⟩
            refine ⟨p, hp, ?_⟩
            unfold isPt at z
            rw [if_neg (hp.np hc6), e, nc (by omega), ← r66] at z
            rcases row66 cx.1 hp with q | q | q
            · exact Or.inl q
            · exact Or.inr q
            · rw [q] at z; exact absurd rfl z
        obtain ⟨p, hp, hk⟩ := hp
        have q1 : qK (chk X ta 0 0 S).1 = 1 := by unfold qK; rw [if_neg (hp.n0 hc6)]
        rw [q1] at r26
        exact gd_ru ivx (by omega) (by omega) ps (fun j hj => Or.inr (Or.inr (Or.inr (Or.inr (Or.inr (Or.inr (Or.inl ⟨nx, mx, 0, 0, _, p, [], r26, t51, rfl, ⟨hp, hk⟩, l1, l2, l3, l4, iv, g1.le (by omega), g2.le (by omega)⟩)))))))
    · -- a VAR against null
      obtain ⟨i0, e0, ta0, tb0, h1, h2, h3, h4, h5⟩ := an_c ta (chk X ta 0 0 S).2.2.2 cN
      obtain ⟨pl, hlf⟩ := lf_c ta0 h3
      have eK0 := h1 S h0
      rw [chk_n, if_pos h0] at eK0
      have eK1 : (chk X ta 0 0 S) = bnC X (chk X ta0) (chk X tb0) ta0 tb0 (chK e0) S := eK0
      have eR := hlf S h0
      have hR7 : (nmC S (xN X (lfI ta0)) pl).2.2.1 7 0 = 0 := by
        refine Decidable.byContradiction fun w => ?_
        rw [eK1] at hf1
        unfold bnC at hf1
        dsimp only at hf1
        rw [eR, if_neg w] at hf1
        exact w hf1
      have eQ := nl_c tb0 h4 (nmC S (xN X (lfI ta0)) pl).2.2 hR7
      obtain ⟨u, s, u1, ufd, u79, s20, u81, esl, hva⟩ := nm_ok hR7 sl
      have eB : (chk X ta 0 0 S) = ((opC (nmC S (xN X (lfI ta0)) pl).2.2 256 (nmC S (xN X (lfI ta0)) pl).1 (-2) (plT X ta0) (plT X tb0)).1, (nmC S (xN X (lfI ta0)) pl).1, [j1 5 (nI s) (nmC S (xN X (lfI ta0)) pl).1 0 0, j1 2 0 0 0 0, j1 19 256 (nmC S (xN X (lfI ta0)) pl).1 (-2) (opC (nmC S (xN X (lfI ta0)) pl).2.2 256 (nmC S (xN X (lfI ta0)) pl).1 (-2) (plT X ta0) (plT X tb0)).1], (opC (nmC S (xN X (lfI ta0)) pl).2.2 256 (nmC S (xN X (lfI ta0)) pl).1 (-2) (plT X ta0) (plT X tb0)).2) := by
        rw [eK1]
        unfold bnC
        dsimp only
        rw [eR]
        dsimp only
        rw [if_pos hR7, eQ]
        dsimp only
        rw [if_pos hR7, h2, esl]
        rfl
      have hop : opC (nmC S (xN X (lfI ta0)) pl).2.2 256 (nmC S (xN X (lfI ta0)) pl).1 (-2) (plT X ta0) (plT X tb0) = (0, (nmC S (xN X (lfI ta0)) pl).2.2) := by
        have hf3 : (opC (nmC S (xN X (lfI ta0)) pl).2.2 256 (nmC S (xN X (lfI ta0)) pl).1 (-2) (plT X ta0) (plT X tb0)).2.1 7 0 = 0 := by rw [eB] at hf1; exact hf1
        unfold opC at hf3 ⊢
        rw [if_neg (fun w => absurd w.1 (by decide))] at hf3 ⊢
        by_cases q : (256 : Int32) = 256 ∧ ((nmC S (xN X (lfI ta0)) pl).1 = -2 ∨ ¬ isPt (nmC S (xN X (lfI ta0)) pl).2.2 (nmC S (xN X (lfI ta0)) pl).1 = 0) ∧ ((-2 : Int32) = -2 ∨ ¬ isPt (nmC S (xN X (lfI ta0)) pl).2.2 (-2) = 0)
        · rw [if_pos q, if_pos (Or.inr rfl)]
        · rw [if_neg q] at hf3
          by_cases q2 : (nmC S (xN X (lfI ta0)) pl).1 = 0
          · rw [if_pos q2, if_neg (by decide)] at hf3
            exact absurd hf3 (flT_bad (by decide))
          · rw [if_neg q2] at hf3
            exact absurd hf3 (flT_bad (by decide))
      rw [hop] at eB
      have eS1 : (chk X ta 0 0 S).2.2.2 = (nmC S (xN X (lfI ta0)) pl).2.2 := by rw [eB]
      have ety0 : (chk X ta 0 0 S).1 = 0 := by rw [eB]
      have ejs : (chk X ta 0 0 S).2.2.1 = [j1 5 (nI s) (nmC S (xN X (lfI ta0)) pl).1 0 0, j1 2 0 0 0 0, j1 19 256 (nmC S (xN X (lfI ta0)) pl).1 (-2) 0] := by rw [eB]
      have eks : ksE (chk X ta 0 0 S).2.2.1 = [j1 5 (nI s) (nmC S (xN X (lfI ta0)) pl).1 0 0, j1 2 0 0 0 0, j1 19 256 (nmC S (xN X (lfI ta0)) pl).1 (-2) 0] := by rw [ejs]; rfl
      rw [h5] at cN g2
      obtain ⟨eA, p, hp, hk⟩ := ak_ok c1 fW1 cx.2.1 cN (u := u) (s := s) (by omega) (by have := sl.2.1; omega) (by rw [fdq]; exact ufd) (by rw [f4]; exact u79)
      rw [f80] at hp
      rw [eA] at g2
      obtain ⟨e1, ly⟩ := hE
      obtain ⟨e2, kr⟩ := hK
      rw [eks] at e1 ly e2 kr
      have e1 : n2 = n + 3 := e1
      have e2 : m2 = m + 3 := e2
      subst e1 e2
      -- the VAR's type
      have tyV : ∃ p', rowP Sf (nmC S (xN X (lfI ta0)) pl).1 p' ∧ (Sf.1 66 p' = 1 ∨ Sf.1 66 p' = 2) := by
        have ge' := ge
        obtain ⟨⟨lo, hi, hw, hd40⟩, gC, g0', gf, gF⟩ := ge'
        have ty := (ty_all (X := X) cx.2.1 cx.1 iv.1.1 hj ta).1 lo hi (19 - dd) 1 S (Nat.le_refl _) hw gC g0' FE.rf gf gF hx.1
        have tl := ty.2.1 450 150 [] (by show 0 + _ ≤ 450; unfold NW; omega) (by show 0 + _ ≤ 150; unfold NL; omega)
        rw [eks] at tl
        obtain ⟨s1, t1, _⟩ := tl
        rw [tyJ_5 (show (j1 5 (nI s) (nmC S (xN X (lfI ta0)) pl).1 0 0).1 = 5 from rfl)] at t1
        obtain ⟨_, u', s', hva', es', ht⟩ := t1
        have es' : nI s = nI s' := es'
        have ess : s = s' := nI_inj (by omega) (by have := hva'.2.2.1; omega) es'
        have eu : u' = u := sl.2.2.2 u' u hva'.1 u1 (by rw [hva'.2.1, u79, ess])
        rcases ht with ht | ⟨_, p', _, _, q', hq', hz'⟩
        · have ht : (nmC S (xN X (lfI ta0)) pl).1 = S.1 80 u' := ht
          exact ⟨p, by rw [ht, eu]; exact hp, Or.inr hk⟩
        · exact ⟨q', hq', Or.inl (rwT_g hz').1⟩
      obtain ⟨p', hp', hk'⟩ := tyV
      have rl : rwC4 M0 n = (5, nI s, 0, 0) := rO_n ly.1 (by show ¬ (5 : Int32) = 18; decide)
      have rl2 : rwC4 M0 (n + 1) = (2, 0, 0, 0) := rO_n ly.2.1 (by show ¬ (2 : Int32) = 18; decide)
      have rl3 : rwC4 M0 (n + 2) = (21, 0, 0, 0) := by
        have := rO_n ly.2.2.1 (by show ¬ (19 : Int32) = 18; decide)
        rw [show n + 1 + 1 = n + 2 from rfl] at this
        rw [this]
        show (if isRo M0 0 = 0 then (if (256 : Int32) = 256 ∧ ¬ (nmC S (xN X (lfI ta0)) pl).1 = 0 then ((21 : Int32), (0 : Int32), (0 : Int32), (0 : Int32)) else (19, 256, 0, 0)) else (20, 0, 0, 0)) = _
        rw [if_pos isRo_0, if_pos ⟨rfl, hp'.n0 hc6⟩]
      obtain ⟨cc, kw, krow⟩ : ∃ c, wdR (RgE (eN Sf it) S) Sf T0 (nmC S (xN X (lfI ta0)) pl).1 c ∧ cw3 T0 m = (3, slF S (nI s), c) := kr.1
      have kr2 : cw3 T0 (m + 1) = (2, 0, 0) := kr.2.1
      obtain ⟨_, fy, yy, hyy, kr3⟩ : (19 : Int32) = 19 ∧ ∃ f y, TyR (RgE (eN Sf it) S) Sf T0 f 0 y ∧ cw3 T0 (m + 2) = ((if kdC T0 y = 5 then 9 else opK 256), 0, 0) := kr.2.2.1
      rw [if_neg (hyy.ro.mp isRo_0)] at kr3
      have kr3 : cw3 T0 (m + 2) = (15, 0, 0) := kr3
      have ecc : cc = 1 := by
        rw [wd_w kw, if_neg (tV_n1 hp'.tv hc6), wS_p hc6 hp' hk']
        rfl
      rw [ecc, slF_u iv.1 u1 u79] at krow
      rw [ety0] at r26
      exact gd_ru iv (by omega) (by omega) (ps.le (by omega) (by omega)) (fun j hj => Or.inr (Or.inr (Or.inr (Or.inr (Or.inr (Or.inr (Or.inr (Or.inr (Or.inl ⟨u, s, p, nx, mx, 0, 0, 0, 0, 0, 0, 0, 0, 0, 0, 0, 0, 0, _, hva, hp, Or.inr hk, rl, krow, by omega, by omega, rl2, kr2, rl3, kr3, r26, t51, rfl, l1, l2, l3, l4, knS s s20, ivK s, (g1.wk (wk_fe fe)).le (by omega), g2.le (by omega)⟩)))))))))
  · -- a VAR alone
    have t4 : tkd X ta = 4 := by
      refine Decidable.byContradiction fun w => cY ?_
      unfold akY
      rw [if_neg w]
      decide
    obtain ⟨pl, hlf⟩ := lf_c ta t4
    have eK := hlf S h0
    have hf2 : (nmC S (xN X (lfI ta)) pl).2.2.1 7 0 = 0 := by rw [eK] at hf1; exact hf1
    obtain ⟨u, s, u1, ufd, u79, s20, u81, esl, hva⟩ := nm_ok hf2 sl
    have eY : akY X ta (chk X ta 0 0 S).2.2.2 = akV (chk X ta 0 0 S).2.2.2 (xN X (lfI ta)) := by unfold akY; rw [if_pos t4]
    rw [eY] at cY g1
    obtain ⟨eA, p, hp, hk⟩ := ak_ok c1 fW1 cx.2.1 cY (u := u) (s := s) (by omega) (by have := sl.2.1; omega) (by rw [fdq]; exact ufd) (by rw [f4]; exact u79)
    rw [f80] at hp
    rw [eA] at g1
    have eNn : akN X ta (chk X ta 0 0 S).2.2.2 = -1 := an_lf ta t4
    have eNN : kwS (chk X ta 0 0 S).2.2.2 (akN X ta (chk X ta 0 0 S).2.2.2) = (chk X ta 0 0 S).2.2.2 := by unfold kwS; rw [eNn, if_pos (by decide)]
    rw [eNN] at g2
    have ejs : (chk X ta 0 0 S).2.2.1 = [j1 5 (nI s) (chk X ta 0 0 S).1 0 0] := by rw [eK, esl]
    have eks : ksE (chk X ta 0 0 S).2.2.1 = [j1 5 (nI s) (chk X ta 0 0 S).1 0 0] := by rw [ejs]; rfl
    obtain ⟨e1, ly⟩ := hE
    obtain ⟨e2, kr⟩ := hK
    rw [eks] at e1 ly e2 kr
    have e1 : n2 = n + 1 := e1
    have e2 : m2 = m + 1 := e2
    subst e1 e2
    have rl : rwC4 M0 n = (5, nI s, 0, 0) := rO_n ly.1 (by show ¬ (5 : Int32) = 18; decide)
    obtain ⟨cc, kw, krow⟩ : ∃ c, wdR (RgE (eN Sf it) S) Sf T0 (chk X ta 0 0 S).1 c ∧ cw3 T0 m = (3, slF S (nI s), c) := kr.1
    have tyX : (chk X ta 0 0 S).1 = -2 ∨ (chk X ta 0 0 S).1 = -1 ∨ wS Sf (chk X ta 0 0 S).1 = 1 := by
      rcases c2 with e | e | e
      · exact Or.inr (Or.inl e)
      · exact Or.inl e
      · rcases hty with z | z
        · rw [z]; exact Or.inr (Or.inr wS_0)
        · refine Or.inr (Or.inr ?_)
          rw [← ws_fw c1 fW1 cx.2.1 e]
          unfold wS isRo
          unfold isPt at z
          by_cases q0 : (chk X ta 0 0 S).1 ≤ 0
          · rw [if_pos q0]; rfl
          · rw [if_neg q0] at z ⊢
            by_cases q3 : 3 ≤ (chk X ta 0 0 S).2.2.2.1 66 (chk X ta 0 0 S).1.toNatClampNeg
            · rw [if_pos q3] at z; exact absurd rfl z
            · rw [if_neg (show ¬ (chk X ta 0 0 S).2.2.2.1 66 (chk X ta 0 0 S).1.toNatClampNeg = 3 from fun w => q3 (by rw [w]; exact Int32.le_refl _))]; rfl
    have n1' : ¬ (chk X ta 0 0 S).1 = -1 := by
      rcases hty with z | z
      · rw [z]; decide
      · intro w
        rw [w] at z
        exact z rfl
    have ecc : cc = 1 := by
      rw [wd_w kw, if_neg n1']
      rcases tyX with z | z | z
      · rw [z]; rfl
      · exact absurd z n1'
      · rw [z]; rfl
    have q1 : qK (chk X ta 0 0 S).1 = 1 := by
      unfold qK
      rw [if_neg]
      intro w
      have ge' := ge
      obtain ⟨⟨lo, hi, hw, hd40⟩, gC, g0', gf, gF⟩ := ge'
      have ty := (ty_all (X := X) cx.2.1 cx.1 iv.1.1 hj ta).1 lo hi (19 - dd) 1 S (Nat.le_refl _) hw gC g0' FE.rf gf gF hx.1
      have tl := ty.2.1 450 150 [] (by show 0 + _ ≤ 450; unfold NW; omega) (by show 0 + _ ≤ 150; unfold NL; omega)
      rw [eks] at tl
      obtain ⟨s1, t1, _⟩ := tl
      rw [tyJ_5 (show (j1 5 (nI s) (chk X ta 0 0 S).1 0 0).1 = 5 from rfl)] at t1
      obtain ⟨_, u', s', hva', es', ht⟩ := t1
      have es' : nI s = nI s' := es'
      have ess : s = s' := nI_inj (by omega) (by have := hva'.2.2.1; omega) es'
      have eu : u' = u := sl.2.2.2 u' u hva'.1 u1 (by rw [hva'.2.1, u79, ess])
      rcases ht with ht | ⟨_, p', _, _, q', hq', _⟩
      · have ht : (chk X ta 0 0 S).1 = S.1 80 u' := ht
        rw [ht, eu] at w
        exact hp.n0 hc6 w
      · exact hq'.n0 hc6 w
    rw [q1] at r26
    rw [ecc, slF_u iv.1 u1 u79] at krow
    exact gd_ru iv (by omega) (by omega) (ps.le (by omega) (by omega)) (fun j hj => Or.inr (Or.inr (Or.inr (Or.inr (Or.inr (Or.inr (Or.inr (Or.inl ⟨u, s, p, nx, mx, 0, 0, 0, 0, _, hva, hp, Or.inr hk, rl, krow, by omega, by omega, r26, t51, rfl, l1, l2, l3, l4, knS s s20, ivK s, g1.le (by omega), (g2.wk (wk_fe fe)).le (by omega)⟩))))))))
end SUR
