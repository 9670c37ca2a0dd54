/-! what the check of STEPS notes on their nodes -/
def trM (X : Lx) (A : StF) (ta : Tr) (T : gSt) : gSt :=
  let T2 := A 0 0 0 (trO T)
  let T4 := rsS (sI T2 84 0 (T2.1 84 0 - 1)) (T.1 81 0) (if T.1 83 0 = 0 then T.1 82 0 else T.1 82 0 &&& (gvA X ta T 0 ^^^ (-1))) (T.1 75 0) (T.1 83 0)
  sI T4 87 0 (T4.1 87 0 + 1)
def AsN (X : Lx) (T : gSt) (EA EB : Nat → Nat → Int32 → ChR → Prop) (Sa Sb : Nat → Nat → Nat → Int32 → Int32 → Int32 → gSt → Prop) (A : StF) (ta tb : Tr) (k i e p lo hi : Nat) (x ys no : Int32) (S : gSt) : Prop :=
  if k = 20 then x = nI lo ∧ lo < hi ∧ T.1 61 lo = nI e ∧ (if isZ ta = true then T.1 52 lo = -1 else EA (lo + 1) hi (T.1 52 lo) (vaR X ta (vaM X S i).2))
  else if k = 21 then x = nI lo ∧ ∃ c, lo < c ∧ c ≤ hi ∧ EA (lo + 1) c (T.1 52 lo) (chk X ta 0 0 S) ∧ Sb lo c hi x (akY X ta (cdC X ta S)) (akN X ta (cdC X ta S)) (cdC X ta S)
  else if k = 12 then ∃ c, lo < c ∧ c ≤ hi ∧ Sa lo lo c (T.1 53 p) 0 0 (kwS S ys) ∧ (if isZ tb = true then T.1 54 p = -1 else Sb c c hi (T.1 54 p) 0 0 (kwS (rsS (A 0 0 0 (kwS S ys)) (S.1 81 0) (S.1 82 0) (S.1 75 0) (S.1 83 0)) no))
  else if k = 22 then x = nI lo ∧ ∃ c, lo < c ∧ c ≤ hi ∧ EA (lo + 1) c (T.1 52 lo) (chk X ta 0 0 (whO X tb S)) ∧ Sb c c hi (T.1 53 lo) 0 0 (kwS (cdC X ta (whO X tb S)) (akY X ta (cdC X ta (whO X tb S))))
  else if k = 23 then x = nI lo ∧ lo < hi ∧ (if isZ ta = true then T.1 52 lo = -1 else EA (lo + 1) hi (T.1 52 lo) (chk X ta 0 0 S))
  else if k = 24 ∨ k = 25 then ∃ m, x = nI m ∧ lo ≤ m ∧ hi = m + 1 ∧ EA lo m (T.1 52 m) (chk X ta 0 0 S)
  else if k = 30 then ∃ m, x = nI m ∧ lo ≤ m ∧ hi = m + 1 ∧ EA lo m (T.1 52 m) (chk X ta 0 0 S) ∧ T.1 60 m = (chk X ta 0 0 S).1
  else if k = 29 then ∃ m y, x = nI m ∧ m < hi ∧ T.1 52 m = nI y ∧ lo ≤ y ∧ y < m ∧ EB (m + 1) hi (T.1 53 m) (chk X tb 0 0 S) ∧ (if tkd X ta = 4 then T.1 61 y = tf (chk X tb 0 0 S).2.2.2 79 (fd (isVa (chk X tb 0 0 S).2.2.2 (xN X (lfI ta))) (vn (chk X tb 0 0 S).2.2.2)) ∧ T.1 60 y = tf (chk X tb 0 0 S).2.2.2 80 (fd (isVa (chk X tb 0 0 S).2.2.2 (xN X (lfI ta))) (vn (chk X tb 0 0 S).2.2.2)) else EA lo m (T.1 52 m) (chk X ta 0 0 (chk X tb 0 0 S).2.2.2))
  else if k = 26 then x = nI lo ∧ lo < hi ∧ (∃ u, T.1 58 lo = nI u ∧ RepU X T u (i + 1) 1 ∧ T.1 48 u = 4 + S.1 86 0) ∧ Sa (lo + 1) (lo + 1) hi (T.1 52 lo) 0 0 (rgO S (xN X (i + 1)))
  else if k = 27 then x = nI lo ∧ hi = lo + 1 ∧ ∃ u, T.1 58 lo = nI u ∧ RepU X T u (i + 1) 1 ∧ T.1 48 u = srR X S (i + 1)
  else if k = 28 then x = nI lo ∧ T.1 61 lo = (trM X A ta S).1 87 0 ∧ ∃ c, lo < c ∧ c ≤ hi ∧ Sa (lo + 1) (lo + 1) c (T.1 52 lo) 0 0 (trO S) ∧ Sb c c hi (T.1 53 lo) 0 0 (trM X A ta S)
  else if k = 31 then x = nI lo ∧ lo < hi ∧ Sa (lo + 1) (lo + 1) hi (T.1 52 lo) 0 0 S
  else if k = 11 then ∃ q c, x = nI q ∧ lo ≤ q ∧ q < c ∧ c ≤ hi ∧ Sa lo lo c x 0 0 S ∧ Sb c c hi (T.1 55 q) 0 0 (A 0 0 0 S)
  else False
def AnS (X : Lx) (it : Nat) (T : gSt) : Tr → Nat → Nat → Nat → Int32 → Int32 → Int32 → gSt → Prop
  | .add (.add (.var k) (.add (.var i) (.var e))) (.add a b), p, lo, hi, x, ys, no, S => AsN X T (fun lo hi x R => AnE X T a lo hi x R.1 R.2.1 R.2.2.1) (fun lo hi x R => AnE X T b lo hi x R.1 R.2.1 R.2.2.1) (AnS X it T a) (AnS X it T b) (stS X it a) a b k i e p lo hi x ys no S
  | .num _, _, _, _, x, _, _, _ => x = -1
  | _, _, _, _, _, _, _, _ => False
section ANS
variable {T T' T'' : gSt} {X : Lx} {lo hi a b lo2 hi2 a2 b2 m n u i e k it p : Nat} {x ty tl ys no : Int32} {t ta tb : Tr} {S : gSt}
theorem AnS_n : AnS X it T (tD k i e ta tb) p lo hi x ys no S = AsN X T (fun lo hi x R => AnE X T ta lo hi x R.1 R.2.1 R.2.2.1) (fun lo hi x R => AnE X T tb lo hi x R.1 R.2.1 R.2.2.1) (AnS X it T ta) (AnS X it T tb) (stS X it ta) ta tb k i e p lo hi x ys no S := rfl
theorem SPw.of (h : FS (er T) (er T')) : SPw T T' := ⟨fun k h0 h1 h2 => by
  have := h.1 k h0 (by omega) (by omega)
  rw [er_i h2, er_i h2] at this
  exact this, h.2.1⟩
theorem Fm.trw (h : Fm X T T' lo hi a b) (h2 : Fm X T' T'' lo hi a b) (hs : SPw T T') : Fm X T T'' lo hi a b := ⟨fun j q => ⟨(h2.1 j q).1.trans (h.1 j q).1, (h2.1 j q).2.trans (h.1 j q).2⟩, fun u => by
  rcases h2.2.1 u with c | ⟨q, q1, q2, q3⟩
  · rw [c]; exact h.2.1 u
  · refine Or.inr ⟨q, q1, q2, ?_⟩
    rw [hs.1 47 (by omega) (by omega) rfl] at q3
    exact q3, fun j q => (h2.2.2.1 j (by rw [h.2.2.2]; exact q)).trans (h.2.2.1 j q), h2.2.2.2.trans h.2.2.2⟩
theorem Kp.fmw (hx : PI X) (hs : SPw T T') (h : Fm X T T' lo hi a b) (hn : hi2 ≤ lo ∨ hi ≤ lo2) (ht : b2 ≤ a ∨ b ≤ a2) (h1 : b2 ≤ xn X) (h2 : b ≤ xn X) : Kp X T T' lo2 hi2 a2 b2 := ⟨hs.toX, fun j q1 q2 => h.1 j (by omega), fun u q q1 q2 q3 => by
  rcases h.2.1 u with c | ⟨q', e1, e2, e3⟩
  · exact c
  · have := hx q q' (by omega) (by omega) (q3.symm.trans e3)
    omega⟩
theorem Ag.sw (hs : SPw T T') (h61 : ∀ j, lo ≤ j → j < hi → T'.1 61 j = T.1 61 j) : Ag T T' lo hi := by
  refine ⟨fun g j a b c d e => ?_, fun j _ _ => by rw [hs.2 56 (by omega)], ?_, fun j _ => ⟨by rw [hs.2 46 (by omega)], by rw [hs.1 47 (by omega) (by omega) rfl]⟩⟩
  · by_cases q : g = 61
    · subst q; exact h61 j d e
    · rw [hs.1 g (by omega) (by omega) (by unfold anF; simp; omega)]
  · unfold nU
    rw [hs.1 45 (by omega) (by omega) rfl]
    exact Nat.le_refl _
theorem Aw.sw (hs : SPw T T') : Aw T T' := by
  refine ⟨?_, fun j _ => ⟨by rw [hs.2 46 (by omega)], by rw [hs.1 47 (by omega) (by omega) rfl]⟩, ?_, fun g j a b _ => ?_, fun j _ => by rw [hs.2 41 (by omega)]⟩
  · unfold nU
    rw [hs.1 45 (by omega) (by omega) rfl]
    exact Nat.le_refl _
  · unfold nW
    rw [hs.1 37 (by omega) (by omega) rfl]
    exact Nat.le_refl _
  · rw [hs.1 g (by omega) (by omega) (by unfold anF; simp; omega)]
theorem RepM.sw (h : RepM X T t lo hi x) (hs : SPw T T') (h61 : ∀ j, lo ≤ j → j < hi → T'.1 61 j = T.1 61 j) : RepM X T' t lo hi x := RepM.ag (Ag.sw hs h61) h
theorem RepS.sw (h : RepS X T t p lo hi x) (hs : SPw T T') (h61 : ∀ j, lo ≤ j → j < hi → T'.1 61 j = T.1 61 j) : RepS X T' t p lo hi x := RepS.ag ⟨Ag.sw hs h61, fun _ => ⟨by rw [hs.1 53 (by omega) (by omega) rfl], by rw [hs.1 54 (by omega) (by omega) rfl]⟩, Aw.sw hs⟩ h
theorem AnS.kp (t : Tr) : ∀ (m a b v g v' g' p lo hi : Nat) (x ys no : Int32) (S : gSt), Ws X t m a b v g v' g' → b ≤ xn X → Kp X T T' lo hi a b → AnS X it T t p lo hi x ys no S → AnS X it T' t p lo hi x ys no S := by
  induction t using Tr_ind with
  | hz t hz =>
    intro m a b v g v' g' p lo hi x ys no S hw _ _ h
    unfold Ws at hw
    split at hw
    · rename_i k i e a b
      exact absurd rfl (hz k i e a b)
    · exact h
    · exact hw.elim
  | h k i e ta tb ihA ihB =>
    intro m a b v g v' g' p lo hi x ys no S hw hb hk h
    rw [AnS_n] at h ⊢
    rw [Ws_n] at hw
    have f : ∀ g, 50 ≤ g → g ≤ 59 → T'.1 g = T.1 g := fun g a b => hk.1.1 g (by omega) (by omega) (by unfold anF; simp; omega)
    have eA : ∀ (lo' hi' a' b' : Nat) (y : Int32) (R : ChR), Wf X ta false a' b' → lo ≤ lo' → hi' ≤ hi → a ≤ a' → b' ≤ b → AnE X T ta lo' hi' y R.1 R.2.1 R.2.2.1 → AnE X T' ta lo' hi' y R.1 R.2.1 R.2.2.1 := fun lo' hi' a' b' y R w l1 l2 l3 l4 q => AnE.kp hb ta false a' b' lo' hi' y _ _ _ l4 w (hk.sub l1 l2 l3 l4) q
    have eB : ∀ (lo' hi' a' b' : Nat) (y : Int32) (R : ChR), Wf X tb false a' b' → lo ≤ lo' → hi' ≤ hi → a ≤ a' → b' ≤ b → AnE X T tb lo' hi' y R.1 R.2.1 R.2.2.1 → AnE X T' tb lo' hi' y R.1 R.2.1 R.2.2.1 := fun lo' hi' a' b' y R w l1 l2 l3 l4 q => AnE.kp hb tb false a' b' lo' hi' y _ _ _ l4 w (hk.sub l1 l2 l3 l4) q
    have us : ∀ u q, a ≤ q → q < b → RepU X T u q 1 → RepU X T' u q 1 ∧ T'.1 48 u = T.1 48 u := fun u q l1 l2 w => ⟨w.sx hk.1, hk.2.2 u q l1 l2 (w.us (n := 0) (by omega)).2⟩
    unfold WsN at hw
    unfold AsN at h ⊢
    by_cases m2 : m = 2
    · rw [if_pos m2] at hw
      obtain ⟨rfl, hw, hib⟩ := hw
      obtain ⟨h1, h2, h3⟩ : x = nI lo ∧ lo < hi ∧ AnS X it T ta (lo + 1) (lo + 1) hi (T.1 52 lo) 0 0 S := h
      have mo := Ws_mo _ _ _ _ _ _ _ _ hw
      show x = nI lo ∧ lo < hi ∧ AnS X it T' ta (lo + 1) (lo + 1) hi (T'.1 52 lo) 0 0 S
      rw [f 52 (by omega) (by omega)]
      exact ⟨h1, h2, ihA _ _ _ _ _ _ _ _ _ _ _ _ _ _ hw (by omega) (hk.sub (by omega) (by omega) (by omega) (by omega)) h3⟩
    rw [if_neg m2] at hw
    by_cases m1 : m = 1
    · rw [if_pos m1] at hw
      obtain ⟨rfl, c, v1, g1, hwa, hwb⟩ := hw
      obtain ⟨q, c1, h1, h2, h3, h4, h5, h6⟩ : ∃ q c, x = nI q ∧ lo ≤ q ∧ q < c ∧ c ≤ hi ∧ AnS X it T ta lo lo c x 0 0 S ∧ AnS X it T tb c c hi (T.1 55 q) 0 0 (stS X it ta 0 0 0 S) := h
      have mo := Ws_mo _ _ _ _ _ _ _ _ hwa
      have mo2 := Ws_mo _ _ _ _ _ _ _ _ hwb
      show ∃ q c, x = nI q ∧ lo ≤ q ∧ q < c ∧ c ≤ hi ∧ AnS X it T' ta lo lo c x 0 0 S ∧ AnS X it T' tb c c hi (T'.1 55 q) 0 0 (stS X it ta 0 0 0 S)
      rw [f 55 (by omega) (by omega)]
      exact ⟨q, c1, h1, h2, h3, h4, ihA _ _ _ _ _ _ _ _ _ _ _ _ _ _ hwa (by omega) (hk.sub (by omega) (by omega) (by omega) (by omega)) h5, ihB _ _ _ _ _ _ _ _ _ _ _ _ _ _ hwb (by omega) (hk.sub (by omega) (by omega) (by omega) (by omega)) h6⟩
    rw [if_neg m1] at hw
    by_cases m3 : m = 3
    · rw [if_pos m3] at hw
      obtain ⟨rfl, c, v1, g1, hwa, hwb⟩ := hw
      rw [if_neg (by omega), if_neg (by omega), if_pos rfl] at h ⊢
      obtain ⟨c1, h1, h2, h3, h4⟩ := h
      have cb : c ≤ b := by
        split at hwb
        · exact hwb.2.2
        · have := Ws_mo _ _ _ _ _ _ _ _ hwb; omega
      have mo := Ws_mo _ _ _ _ _ _ _ _ hwa
      rw [f 53 (by omega) (by omega), f 54 (by omega) (by omega)]
      refine ⟨c1, h1, h2, ihA _ _ _ _ _ _ _ _ _ _ _ _ _ _ hwa (by omega) (hk.sub (by omega) (by omega) (by omega) (by omega)) h3, ?_⟩
      by_cases z : isZ tb = true
      · rw [if_pos z] at h4 ⊢; exact h4
      · rw [if_neg z] at h4 hwb ⊢
        exact ihB _ _ _ _ _ _ _ _ _ _ _ _ _ _ hwb (by omega) (hk.sub (by omega) (by omega) (by omega) (by omega)) h4
    rw [if_neg m3] at hw
    by_cases k20 : k = 20
    · rw [if_pos k20] at hw h ⊢
      obtain ⟨h1, h2, h3, h4⟩ := h
      rw [f 52 (by omega) (by omega)]
      refine ⟨h1, h2, by rw [(hk.2.1 lo (by omega) (by omega)).2]; exact h3, ?_⟩
      have w7 := hw.2.2.2.2.2.2
      have ge := tyE_ge (X := X) 6 (i + 3)
      by_cases z : isZ ta = true
      · rw [if_pos z] at h4 ⊢; exact h4
      · rw [if_neg z] at h4 w7 ⊢
        obtain ⟨c, w8, w9⟩ := w7
        exact eA _ _ _ _ _ _ w8.1 (by omega) (by omega) (by omega) (by omega) h4
    rw [if_neg k20] at hw h ⊢
    by_cases k21 : k = 21
    · rw [if_pos k21] at hw h ⊢
      obtain ⟨h1, c, h2, h3, h4, h5⟩ := h
      obtain ⟨w1, c', w2, w3⟩ := hw
      have mo := Ws_mo _ _ _ _ _ _ _ _ w3
      have le := Wf_le2 w2.1
      rw [f 52 (by omega) (by omega)]
      exact ⟨h1, c, h2, h3, eA _ _ _ _ _ _ w2.1 (by omega) (by omega) (by omega) (by omega) h4, ihB _ _ _ _ _ _ _ _ _ _ _ _ _ _ w3 (by omega) (hk.sub (by omega) (by omega) (by omega) (by omega)) h5⟩
    rw [if_neg k21] at hw h ⊢
    by_cases k22 : k = 22
    · rw [if_pos k22] at hw
      rw [if_neg (by omega), if_pos k22] at h ⊢
      obtain ⟨h1, c, h2, h3, h4, h5⟩ := h
      obtain ⟨w1, c', w2, w3⟩ := hw
      have mo := Ws_mo _ _ _ _ _ _ _ _ w3
      have le := Wf_le2 w2.1
      rw [f 52 (by omega) (by omega), f 53 (by omega) (by omega)]
      exact ⟨h1, c, h2, h3, eA _ _ _ _ _ _ w2.1 (by omega) (by omega) (by omega) (by omega) h4, ihB _ _ _ _ _ _ _ _ _ _ _ _ _ _ w3 (by omega) (hk.sub (by omega) (by omega) (by omega) (by omega)) h5⟩
    rw [if_neg k22] at hw
    by_cases k23 : k = 23
    · rw [if_pos k23] at hw
      rw [if_neg (by omega), if_neg k22, if_pos k23] at h ⊢
      obtain ⟨h1, h2, h3⟩ := h
      rw [f 52 (by omega) (by omega)]
      refine ⟨h1, h2, ?_⟩
      have w7 := hw.2.2.2
      by_cases z : isZ ta = true
      · rw [if_pos z] at h3 ⊢; exact h3
      · rw [if_neg z] at h3 w7 ⊢
        obtain ⟨c, w8, w9⟩ := w7
        exact eA _ _ _ _ _ _ w8.1 (by omega) (by omega) (by omega) (by omega) h3
    rw [if_neg k23] at hw
    by_cases k24 : k = 24 ∨ k = 25
    · rw [if_pos k24] at hw
      rw [if_neg (by omega), if_neg k22, if_neg k23, if_pos k24] at h ⊢
      obtain ⟨m, h1, h2, h3, h4⟩ := h
      obtain ⟨w1, _, _, c, w2, w3⟩ := hw
      rw [f 52 (by omega) (by omega)]
      exact ⟨m, h1, h2, h3, eA _ _ _ _ _ _ w2.1 (by omega) (by omega) (by omega) (by omega) h4⟩
    rw [if_neg k24] at hw
    by_cases k30 : k = 30
    · rw [if_pos k30] at hw
      rw [if_neg (by omega), if_neg k22, if_neg k23, if_neg k24, if_pos k30] at h ⊢
      obtain ⟨m, h1, h2, h3, h4, h5⟩ := h
      obtain ⟨w1, _, _, c, w2, w3⟩ := hw
      rw [f 52 (by omega) (by omega)]
      exact ⟨m, h1, h2, h3, eA _ _ _ _ _ _ w2.1 (by omega) (by omega) (by omega) (by omega) h4, by rw [(hk.2.1 m (by omega) (by omega)).1]; exact h5⟩
    rw [if_neg k30] at hw
    by_cases k29 : k = 29
    · rw [if_pos k29] at hw
      rw [if_neg (by omega), if_neg k22, if_neg k23, if_neg k24, if_neg k30, if_pos k29] at h ⊢
      obtain ⟨m, y, h1, h2, h3, h4, h5, h6, h7⟩ := h
      obtain ⟨w1, _, _, c, c2, w2, w3, w4⟩ := hw
      have le := Wf_le2 w2.1
      have le3 := Wf_le2 w3.1
      rw [f 52 (by omega) (by omega), f 53 (by omega) (by omega)]
      refine ⟨m, y, h1, h2, h3, h4, h5, eB _ _ _ _ _ _ w3.1 (by omega) (by omega) (by omega) (by omega) h6, ?_⟩
      by_cases z : tkd X ta = 4
      · rw [if_pos z] at h7 ⊢
        rw [(hk.2.1 y (by omega) (by omega)).1, (hk.2.1 y (by omega) (by omega)).2]
        exact h7
      · rw [if_neg z] at h7 ⊢
        exact eA _ _ _ _ _ _ w2.1 (by omega) (by omega) (by omega) (by omega) h7
    rw [if_neg k29] at hw
    by_cases k26 : k = 26
    · rw [if_pos k26] at hw
      rw [if_neg (by omega), if_neg k22, if_neg k23, if_neg k24, if_neg k30, if_neg k29, if_pos k26] at h ⊢
      obtain ⟨h1, h2, ⟨u, h3, h4, h5⟩, h6⟩ := h
      obtain ⟨w1, w2, w3⟩ := hw
      have mo := Ws_mo _ _ _ _ _ _ _ _ w3
      have q := us u (i + 1) (by omega) (by omega) h4
      rw [f 52 (by omega) (by omega), f 58 (by omega) (by omega)]
      exact ⟨h1, h2, ⟨u, h3, q.1, q.2.trans h5⟩, ihA _ _ _ _ _ _ _ _ _ _ _ _ _ _ w3 (by omega) (hk.sub (by omega) (by omega) (by omega) (by omega)) h6⟩
    rw [if_neg k26] at hw
    by_cases k27 : k = 27
    · rw [if_pos k27] at hw
      rw [if_neg (by omega), if_neg k22, if_neg k23, if_neg k24, if_neg k30, if_neg k29, if_neg k26, if_pos k27] at h ⊢
      obtain ⟨h1, h2, u, h3, h4, h5⟩ := h
      have q := us u (i + 1) (by omega) (by omega) h4
      rw [f 58 (by omega) (by omega)]
      exact ⟨h1, h2, u, h3, q.1, q.2.trans h5⟩
    rw [if_neg k27] at hw
    by_cases k28 : k = 28
    · rw [if_pos k28] at hw
      rw [if_neg (by omega), if_neg k22, if_neg k23, if_neg k24, if_neg k30, if_neg k29, if_neg k26, if_neg k27, if_pos k28] at h ⊢
      obtain ⟨h1, h2, c, h3, h4, h5, h6⟩ := h
      obtain ⟨w1, c', v1, g1, w2, w3⟩ := hw
      have mo := Ws_mo _ _ _ _ _ _ _ _ w2
      have mo2 := Ws_mo _ _ _ _ _ _ _ _ w3
      rw [f 52 (by omega) (by omega), f 53 (by omega) (by omega)]
      exact ⟨h1, by rw [(hk.2.1 lo (by omega) (by omega)).2]; exact h2, c, h3, h4, ihA _ _ _ _ _ _ _ _ _ _ _ _ _ _ w2 (by omega) (hk.sub (by omega) (by omega) (by omega) (by omega)) h5, ihB _ _ _ _ _ _ _ _ _ _ _ _ _ _ w3 (by omega) (hk.sub (by omega) (by omega) (by omega) (by omega)) h6⟩
    · rw [if_neg k28] at hw
      exact hw.elim
end ANS
