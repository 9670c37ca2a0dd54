/-! the code of STEPS: what its rows hold -/
def ExC (T : gSt) (js : List T5) (n m : Nat) : Prop := m = n + (ksE js).length ∧ LyL T (ksE js) n
/-- the row that puts a value to a place -/
def rP (T : gSt) (l : T5) : Int32 × Int32 × Int32 × Int32 := if l.1 = 6 then (23, l.2.1, T.1 12 (tf T 69 l.2.2.1).toNatClampNeg, 0) else if l.1 = 8 then (24, 0, 0, 0) else (25, 0, 0, 0)
def CpP (T : gSt) (js : List T5) (n m : Nat) : Prop := ∃ l0 l, js = l0 ++ [l] ∧ (l.1 = 6 ∨ l.1 = 8 ∨ l.1 = 10) ∧ LyL T (ksE l0) n ∧ rwC4 T (n + (ksE l0).length) = rP T l ∧ m = n + (ksE l0).length + 1
def qK (x : Int32) : Int32 := if x = 0 then 0 else 1
def CsN (X : Lx) (T : gSt) (Ca Cb : Int32 → Int32 → gSt → Nat → Nat → Prop) (A : StF) (ta tb : Tr) (k i e : Nat) (ys no : Int32) (S : gSt) (n n' : Nat) : Prop :=
  if k = 31 then Ca 0 0 S n n'
  else if k = 11 then ∃ q, n ≤ q ∧ q ≤ n' ∧ Ca 0 0 S n q ∧ Cb 0 0 (A 0 0 0 S) q n'
  else if k = 12 then ∃ q, n + 1 ≤ q ∧ q ≤ n' ∧ Ca 0 0 (kwS S ys) (n + 1) q ∧ (if isZ tb = true then n' = q ∧ T.1 97 n = nI q else rwC4 T q = (27, nI n', 0, 0) ∧ T.1 97 n = nI (q + 1) ∧ q + 1 ≤ n' ∧ Cb 0 0 (prE A ys no S) (q + 1) n')
  else n < n' ∧ rwC4 T n = (0, nI (xP X i), 0, 0) ∧
    (if k = 20 then (if isZ ta = true then n' = n + 1 else ∃ m, ExC T (vaR X ta (vaM X S i).2).2.2.1 (n + 1) m ∧ rwC4 T m = (22, nI e, 0, 0) ∧ n' = m + 1)
    else if k = 21 then ∃ m, ExC T (chk X ta 0 0 S).2.2.1 (n + 1) m ∧ m < n' ∧ T.1 96 m = 26 ∧ T.1 98 m = qK (chk X ta 0 0 S).1 ∧ T.1 99 m = 0 ∧ Cb (akY X ta (cdC X ta S)) (akN X ta (cdC X ta S)) (cdC X ta S) m n'
    else if k = 22 then ∃ m q, ExC T (chk X ta 0 0 (whO X tb S)).2.2.1 (n + 1) m ∧ m < q ∧ n' = q + 1 ∧ rwC4 T m = (26, nI n', qK (chk X ta 0 0 (whO X tb S)).1, 0) ∧ rwC4 T q = (27, nI n, 0, 0) ∧ Cb 0 0 (kwS (cdC X ta (whO X tb S)) (akY X ta (cdC X ta (whO X tb S)))) (m + 1) q
    else if k = 23 then (if isZ ta = true then rwC4 T (n + 1) = (28, 0, 0, 0) ∧ n' = n + 2 else ∃ m, ExC T (chk X ta 0 0 S).2.2.1 (n + 1) m ∧ rwC4 T m = (28, 1, 0, 0) ∧ n' = m + 1)
    else if k = 24 ∨ k = 25 then ∃ m b, ExC T (chk X ta 0 0 S).2.2.1 (n + 1) m ∧ rwC4 T m = (nI (k + 5), b, 0, 0) ∧ n' = m + 1
    else if k = 30 then ∃ m, ExC T (chk X ta 0 0 S).2.2.1 (n + 1) m ∧ rwC4 T m = (36, (if (chk X ta 0 0 S).1 = -1 then 0 else 1), 0, 0) ∧ n' = m + 1
    else if k = 29 then ∃ m, ExC T (chk X tb 0 0 S).2.2.1 (n + 1) m ∧ m < n' ∧ (if tkd X ta = 4 then rwC4 T m = (22, tf (chk X tb 0 0 S).2.2.2 79 (fd (isVa (chk X tb 0 0 S).2.2.2 (xN X (lfI ta))) (vn (chk X tb 0 0 S).2.2.2)), 0, 0) ∧ n' = m + 1 else CpP T (chk X ta 0 0 (chk X tb 0 0 S).2.2.2).2.2.1 m n')
    else if k = 26 then ∃ q, n + 2 ≤ q ∧ n' = q + 1 ∧ rwC4 T (n + 1) = (31, 4 + S.1 86 0, 0, 0) ∧ rwC4 T q = (32, 4 + S.1 86 0, 0, 0) ∧ Ca 0 0 (rgO S (xN X (i + 1))) (n + 2) q
    else if k = 27 then rwC4 T (n + 1) = (33, srR X S (i + 1), 0, 0) ∧ n' = n + 2
    else if k = 28 then ∃ q, n + 2 ≤ q ∧ q + 2 ≤ n' ∧ rwC4 T (n + 1) = (34, nI (q + 2), (trM X A ta S).1 87 0, 0) ∧ rwC4 T q = (35, 0, 0, 0) ∧ rwC4 T (q + 1) = (27, nI n', 0, 0) ∧ Ca 0 0 (trO S) (n + 2) q ∧ Cb 0 0 (trM X A ta S) (q + 2) n'
    else False)
/-- rows n to n' are the code of STEPS -/
def CdS (X : Lx) (it : Nat) (T : gSt) : Tr → Int32 → Int32 → gSt → Nat → Nat → Prop
  | .add (.add (.var k) (.add (.var i) (.var e))) (.add a b), ys, no, S, n, n' => CsN X T (CdS X it T a) (CdS X it T b) (stS X it a) a b k i e ys no S n n'
  | _, _, _, _, n, n' => n' = n
def AgR (T T' : gSt) (a b : Nat) : Prop := (∀ k, k ≤ 92 → k ≠ 36 → T'.1 k = T.1 k) ∧ ∀ k q, 96 ≤ k → k ≤ 99 → a ≤ q → q < b → T'.1 k q = T.1 k q
section CDS
variable {nf d : Nat} {T T' T1 Tf S : gSt} {X : Lx} {it n n' m k p q u lo hi a b c s i e : Nat} {x y z ty tl ys no : Int32} {j l : T5} {js ks l0 l2 : List T5} {t ta tb : Tr}
theorem CdS_n : CdS X it T (tD k i e ta tb) ys no S n n' = CsN X T (CdS X it T ta) (CdS X it T tb) (stS X it ta) ta tb k i e ys no S n n' := rfl
theorem CdS_z (h : ∀ k i e a b, t ≠ tD k i e a b) : CdS X it T t ys no S n n' = (n' = n) := by
  unfold CdS
  split
  · rename_i k i e a b
    exact absurd rfl (h k i e a b)
  · rfl
theorem AgR.sub (h : AgR T T' a b) (h1 : a ≤ n) (h2 : m ≤ b) : AgR T T' n m := ⟨h.1, fun k q a b c d => h.2 k q a b (by omega) (by omega)⟩
theorem AgR.lf (h : LF T T' n n') (hb : b ≤ n) : AgR T T' a b := ⟨fun k hk _ => h.o hk, fun k q h1 h2 _ h4 => h.2.2.2.2.1 k q h1 h2 (by omega)⟩
theorem AgR.tr (h : AgR T T1 a b) (h2 : AgR T1 T' a b) : AgR T T' a b := ⟨fun k hk h3 => (h2.1 k hk h3).trans (h.1 k hk h3), fun k q a b c d => (h2.2 k q a b c d).trans (h.2 k q a b c d)⟩
theorem AgR.pt (h : q < a ∨ b ≤ q) : AgR T (sI T 97 q x) a b := ⟨fun k hk _ => sI_ne (by omega), fun k r _ _ c d => by rw [rdI, if_neg (fun w => by omega)]⟩
theorem LF.pt (h : LF T T' n n') (hq : n ≤ q) : LF T (sI T' 97 q x) n n' := ⟨h.1, by rw [sI_ne (by omega)]; exact h.2.1, fun k a b => by rw [sI_ne (by omega)]; exact h.2.2.1 k a b, h.2.2.2.1, fun k r a b c => by rw [rdI, if_neg (fun w => by omega)]; exact h.2.2.2.2.1 k r a b c, fun j hj => by rw [sI_ne (by omega)]; exact h.2.2.2.2.2 j hj⟩
theorem AgR.rw (h : AgR T T' a b) (h1 : a ≤ q) (h2 : q < b) : rwC4 T' q = rwC4 T q := by
  unfold rwC4
  rw [h.2 96 q (by omega) (by omega) h1 h2, h.2 97 q (by omega) (by omega) h1 h2, h.2 98 q (by omega) (by omega) h1 h2, h.2 99 q (by omega) (by omega) h1 h2]
theorem rOk.ag (h : rOk T j p) (hF : AgR T T' a b) (h1 : a ≤ p) (h2 : p < b) : rOk T' j p := by
  have er : rwC4 T' p = rwC4 T p := hF.rw h1 h2
  have eb : rB T' j = rB T j := by
    unfold rB wdO isRo tf
    rw [hF.1 12 (by omega) (by omega), hF.1 69 (by omega) (by omega), hF.1 66 (by omega) (by omega)]
  unfold rOk nU at h ⊢
  rw [er, eb, hF.1 48 (by omega) (by omega), hF.1 45 (by omega) (by omega)]
  exact h
theorem LyL.ag (hF : AgR T T' a b) : ∀ (ks : List T5) (p : Nat), a ≤ p → p + ks.length ≤ b → LyL T ks p → LyL T' ks p := by
  intro ks
  induction ks with
  | nil => intro p _ _ _; trivial
  | cons j ks ih =>
    intro p h0 hp h
    rw [List.length_cons] at hp
    exact ⟨h.1.ag hF (by omega) (by omega), ih (p + 1) (by omega) (by omega) h.2⟩
theorem ExC.ag (h : ExC T js n m) (hF : AgR T T' a b) (h1 : a ≤ n) (h2 : m ≤ b) : ExC T' js n m := ⟨h.1, LyL.ag hF _ _ h1 (by have := h.1; omega) h.2⟩
theorem CpP.ag (h : CpP T js n m) (hF : AgR T T' a b) (h1 : a ≤ n) (h2 : m ≤ b) : CpP T' js n m := by
  obtain ⟨l0, l, e1, e2, e3, e4, e5⟩ := h
  refine ⟨l0, l, e1, e2, LyL.ag hF _ _ h1 (by omega) e3, ?_, e5⟩
  rw [hF.rw (by omega) (by omega), e4]
  unfold rP tf
  rw [hF.1 12 (by omega) (by omega), hF.1 69 (by omega) (by omega)]
theorem CdS.ag (t : Tr) : ∀ (ys no : Int32) (S : gSt) (n n' : Nat), AgR T T' n n' → CdS X it T t ys no S n n' → CdS X it T' t ys no S n n' := by
  induction t using Tr_ind with
  | hz t hz =>
    intro ys no S n n' _ h
    rw [CdS_z hz] at h ⊢
    exact h
  | h k i e ta tb ihA ihB =>
    intro ys no S n n' hF h
    rw [CdS_n] at h ⊢
    unfold CsN at h ⊢
    by_cases c : k = 31
    · rw [if_pos c] at h ⊢
      exact ihA _ _ _ _ _ hF h
    rw [if_neg c] at h ⊢; clear c
    by_cases c : k = 11
    · rw [if_pos c] at h ⊢
      obtain ⟨q, h1, h2, h3, h4⟩ := h
      exact ⟨q, h1, h2, ihA _ _ _ _ _ (hF.sub (by omega) (by omega)) h3, ihB _ _ _ _ _ (hF.sub (by omega) (by omega)) h4⟩
    rw [if_neg c] at h ⊢; clear c
    by_cases c : k = 12
    · rw [if_pos c] at h ⊢
      obtain ⟨q, h1, h2, h3, h4⟩ := h
      refine ⟨q, h1, h2, ihA _ _ _ _ _ (hF.sub (by omega) (by omega)) h3, ?_⟩
      rw [hF.2 97 n (by omega) (by omega) (by omega) (by omega)]
      by_cases z : isZ tb = true
      · rw [if_pos z] at h4 ⊢; exact h4
      · rw [if_neg z] at h4 ⊢
        obtain ⟨a1, a2, a3, a4⟩ := h4
        exact ⟨by rw [hF.rw (by omega) (by omega)]; exact a1, a2, a3, ihB _ _ _ _ _ (hF.sub (by omega) (by omega)) a4⟩
    rw [if_neg c] at h ⊢; clear c
    obtain ⟨hn, h0, h⟩ := h
    refine ⟨hn, by rw [hF.rw (by omega) (by omega)]; exact h0, ?_⟩
    by_cases c : k = 20
    · rw [if_pos c] at h ⊢
      by_cases z : isZ ta = true
      · rw [if_pos z] at h ⊢; exact h
      · rw [if_neg z] at h ⊢
        obtain ⟨m, a1, a2, a3⟩ := h
        have := a1.1
        exact ⟨m, a1.ag hF (by omega) (by omega), by rw [hF.rw (by omega) (by omega)]; exact a2, a3⟩
    rw [if_neg c] at h ⊢; clear c
    by_cases c : k = 21
    · rw [if_pos c] at h ⊢
      obtain ⟨m, a1, a2, a3, a4, a5, a6⟩ := h
      have := a1.1
      exact ⟨m, a1.ag hF (by omega) (by omega), a2, by rw [hF.2 96 m (by omega) (by omega) (by omega) (by omega)]; exact a3, by rw [hF.2 98 m (by omega) (by omega) (by omega) (by omega)]; exact a4, by rw [hF.2 99 m (by omega) (by omega) (by omega) (by omega)]; exact a5, ihB _ _ _ _ _ (hF.sub (by omega) (by omega)) a6⟩
    rw [if_neg c] at h ⊢; clear c
    by_cases c : k = 22
    · rw [if_pos c] at h ⊢
      obtain ⟨m, q, a1, a2, a3, a4, a5, a6⟩ := h
      have := a1.1
      exact ⟨m, q, a1.ag hF (by omega) (by omega), a2, a3, by rw [hF.rw (by omega) (by omega)]; exact a4, by rw [hF.rw (by omega) (by omega)]; exact a5, ihB _ _ _ _ _ (hF.sub (by omega) (by omega)) a6⟩
    rw [if_neg c] at h ⊢; clear c
    by_cases c : k = 23
    · rw [if_pos c] at h ⊢
      by_cases z : isZ ta = true
      · rw [if_pos z] at h ⊢; exact ⟨by rw [hF.rw (by omega) (by omega)]; exact h.1, h.2⟩
      · rw [if_neg z] at h ⊢
        obtain ⟨m, a1, a2, a3⟩ := h
        have := a1.1
        exact ⟨m, a1.ag hF (by omega) (by omega), by rw [hF.rw (by omega) (by omega)]; exact a2, a3⟩
    rw [if_neg c] at h ⊢; clear c
    by_cases c : k = 24 ∨ k = 25
    · rw [if_pos c] at h ⊢
      obtain ⟨m, b, a1, a2, a3⟩ := h
      have := a1.1
      exact ⟨m, b, a1.ag hF (by omega) (by omega), by rw [hF.rw (by omega) (by omega)]; exact a2, a3⟩
    rw [if_neg c] at h ⊢; clear c
    by_cases c : k = 30
    · rw [if_pos c] at h ⊢
      obtain ⟨m, a1, a2, a3⟩ := h
      have := a1.1
      exact ⟨m, a1.ag hF (by omega) (by omega), by rw [hF.rw (by omega) (by omega)]; exact a2, a3⟩
    rw [if_neg c] at h ⊢; clear c
    by_cases c : k = 29
    · rw [if_pos c] at h ⊢
      obtain ⟨m, a1, a2, a3⟩ := h
      have := a1.1
      refine ⟨m, a1.ag hF (by omega) (by omega), a2, ?_⟩
      by_cases z : tkd X ta = 4
      · rw [if_pos z] at a3 ⊢
        exact ⟨by rw [hF.rw (by omega) (by omega)]; exact a3.1, a3.2⟩
      · rw [if_neg z] at a3 ⊢
        exact a3.ag hF (by omega) (by omega)
    rw [if_neg c] at h ⊢; clear c
    by_cases c : k = 26
    · rw [if_pos c] at h ⊢
      obtain ⟨q, a1, a2, a3, a4, a5⟩ := h
      exact ⟨q, a1, a2, by rw [hF.rw (by omega) (by omega)]; exact a3, by rw [hF.rw (by omega) (by omega)]; exact a4, ihA _ _ _ _ _ (hF.sub (by omega) (by omega)) a5⟩
    rw [if_neg c] at h ⊢; clear c
    by_cases c : k = 27
    · rw [if_pos c] at h ⊢
      exact ⟨by rw [hF.rw (by omega) (by omega)]; exact h.1, h.2⟩
    rw [if_neg c] at h ⊢; clear c
    by_cases c : k = 28
    · rw [if_pos c] at h ⊢
      obtain ⟨q, a1, a2, a3, a4, a5, a6, a7⟩ := h
      exact ⟨q, a1, a2, by rw [hF.rw (by omega) (by omega)]; exact a3, by rw [hF.rw (by omega) (by omega)]; exact a4, by rw [hF.rw (by omega) (by omega)]; exact a5, ihA _ _ _ _ _ (hF.sub (by omega) (by omega)) a6, ihB _ _ _ _ _ (hF.sub (by omega) (by omega)) a7⟩
    rw [if_neg c] at h
    exact h.elim
theorem jG.fs (h : jG T j) (hF : FW T T') (hg : Tg T) (hc : cn T' < 6000) : jG T' j := by
  have t3 := hF.2.1 hg
  refine ⟨fun q => ?_, fun q => (h.2.1 q).up t3.2.1, fun q => ⟨(h.2.2 q).1.up t3.2.1, (h.2.2 q).2.up t3.2.1⟩⟩
  obtain ⟨p, u, a1, a2, a3, a4, a5⟩ := h.1 q
  exact ⟨p, u, a1, a2, by omega, by rw [(row5 (t3.2.2 hc p a3)).2.2.2.1]; exact a4, by rw [hF.einn]; exact a5⟩
theorem GE.jg (h : GE X Tf t S) (hc : cn Tf < 6000) : jGs Tf (chk X t 0 0 S).2.2.1 ∧ amT X t := by
  obtain ⟨⟨lo, hi, w, _⟩, hC, h0, h1, hF⟩ := h
  have g := (chk_fe (X := X) t 0 0 S).tg hC.1
  have r := chk_jg t false lo hi 0 0 S w hC h0 (fun e => absurd e (by decide)) (hF.lt g hc) h1
  exact ⟨fun j hj => (r.1 j hj).fs hF g hc, r.2⟩
/-- the fields that the final state of the checks and the state that is laid out share -/
abbrev EqF (T Tf : gSt) : Prop := T.1 65 = Tf.1 65 ∧ T.1 69 = Tf.1 69 ∧ T.1 11 = Tf.1 11
theorem EqF.lf (h : EqF T Tf) (hF : LF T T' n n') : EqF T' Tf := ⟨by rw [hF.o (by omega)]; exact h.1, by rw [hF.o (by omega)]; exact h.2.1, by rw [hF.o (by omega)]; exact h.2.2⟩
theorem x_exC (hX : xn X ≤ 4000) (hnf : 8300 ≤ nf) (hcf : cn Tf < 6000) (hG : GE X Tf t S) (hA : AnE X T t lo hi x (chk X t 0 0 S).1 (chk X t 0 0 S).2.1 (chk X t 0 0 S).2.2.1) (hhi : hi ≤ 8200) (hw : Wf X t false a b) (hb : b ≤ xn X) (hE : EqF T Tf) (hP : LyP T 0 n) (hn : n + cw X t ≤ 12000) (hd : 260 ≤ d) : wp (RR nf d 103 T [x] []) (fun _ _ T' => ∃ m, LF T T' n m ∧ ExC T' (chk X t 0 0 S).2.2.1 n m ∧ m ≤ n + cw X t) := by
  have g := hG.jg hcf
  have l := Nat.le_trans (ksE_len (js := (chk X t 0 0 S).2.2.1)) (AnE_len _ _ _ _ _ _ _ _ _ _ hA hw)
  obtain ⟨⟨_, _, _, hdp⟩, _⟩ := hG
  obtain ⟨r, v, T1, e1, w1⟩ := (x_lyX hX hnf t T d lo hi a b 0 n x _ _ _ hA hhi hw hb g.2 (fun j hj => (g.1 j hj).eq hE.1 hE.2.1 hE.2.2) hP (by omega) (by omega) (by omega)).2
  exact ⟨r, v, T1, e1, _, w1.1, ⟨rfl, w1.2⟩, by omega⟩
end CDS
