/-! the code of all funs -/
def ccL (X : Lx) : List It → Nat
  | [] => 0
  | x :: xs => 3 * cws X x.2.2.2.2.2.2.2.2 + 1 + ccL X xs
def NdL (X : Lx) (T : gSt) : List It → Nat → Prop
  | [], _ => True
  | x :: xs, t => T.1 12 t = (if xK X x.1 = 10 then 0 else if xK X x.1 = 11 then 1 else 2) ∧ (T.1 12 t = 2 → xK X x.1 = 12) ∧ (xK X x.1 = 12 → NdS X T x.2.2.2.2.2.2.2.2 0 (T.1 34 t)) ∧ NdL X T xs (t + 1)
def GkL (X : Lx) (Tf : gSt) : List It → Nat → Nat → gSt → Prop
  | [], _, _, _ => True
  | x :: xs, t, c, S => (S.1 12 t = 2 → Gk X t Tf x.2.2.2.2.2.2.2.2 0 0 0 (fnC t c x.2.2.1.length x.2.2.2.2.2.2.2.1 S)) ∧ GkL X Tf xs (t + 1) (c + x.2.2.1.length) (fnI X t c x S)
/-- rows n to n' are the code of all funs -/
def CdL (X : Lx) (T : gSt) : List It → Nat → Nat → gSt → Nat → Nat → Prop
  | [], _, _, _, n, n' => n' = n
  | x :: xs, t, c, S, n, n' => if S.1 12 t = 2 then ∃ q, n ≤ q ∧ q < n' ∧ T.1 36 t = nI n ∧ CdS X t T x.2.2.2.2.2.2.2.2 0 0 (fnC t c x.2.2.1.length x.2.2.2.2.2.2.2.1 S) n q ∧ rwC4 T q = (28, 0, 0, 0) ∧ CdL X T xs (t + 1) (c + x.2.2.1.length) (fnI X t c x S) (q + 1) n' else CdL X T xs (t + 1) (c + x.2.2.1.length) (fnI X t c x S) n n'
/-- what laying out all funs from t on leaves as it was -/
def LO (t : Nat) (T T' : gSt) (n n' : Nat) : Prop := n ≤ n' ∧ T'.1 95 0 = nI n' ∧ (∀ k, k ≠ 93 → k ≠ 36 → ¬ (95 ≤ k ∧ k ≤ 99) → T'.1 k = T.1 k) ∧ T'.2 = T.2 ∧ (∀ k q, 96 ≤ k → k ≤ 99 → q < n → T'.1 k q = T.1 k q) ∧ ∀ j, j < t → T'.1 36 j = T.1 36 j
section LOO
variable {nf d : Nat} {T T' T1 Tf S : gSt} {X : Lx} {it n n' m k p q u lo hi a b c s i e t z : Nat} {x y ys no : Int32} {xs : List It} {Q : Int32 → Int64 → gSt → Prop}
theorem AnE_eq (h : ∀ k, 45 ≤ k → k ≤ 61 → T'.1 k = T.1 k) (h2 : T'.2 = T.2) (t : Tr) : AnE X T' t = AnE X T t := by
  induction t using Tr_ind with
  | hz t hz =>
    funext lo hi x ty tl js
    unfold AnE
    split
    · exact absurd rfl (hz _ _ _ _ _)
    · rfl
    · rfl
  | h k i e ta tb ihA ihB =>
    funext lo hi x ty tl js
    rw [AnE_n, AnE_n, ihA, ihB]
    unfold AnN RepU nU
    rw [h 45 (by omega) (by omega), h 47 (by omega) (by omega), h 48 (by omega) (by omega), h 50 (by omega) (by omega), h 52 (by omega) (by omega), h 53 (by omega) (by omega), h 54 (by omega) (by omega), h 55 (by omega) (by omega), h 58 (by omega) (by omega), h 60 (by omega) (by omega), h 61 (by omega) (by omega), h2]
theorem AnS_eq (h : ∀ k, 45 ≤ k → k ≤ 61 → T'.1 k = T.1 k) (h2 : T'.2 = T.2) (t : Tr) : AnS X it T' t = AnS X it T t := by
  induction t using Tr_ind with
  | hz t hz =>
    funext p lo hi x ys no S
    unfold AnS
    split
    · exact absurd rfl (hz _ _ _ _ _)
    · rfl
    · rfl
  | h k i e ta tb ihA ihB =>
    funext p lo hi x ys no S
    rw [AnS_n, AnS_n, ihA, ihB, AnE_eq h h2 ta, AnE_eq h h2 tb]
    unfold AsN RepU nU
    rw [h 45 (by omega) (by omega), h 47 (by omega) (by omega), h 48 (by omega) (by omega), h 52 (by omega) (by omega), h 53 (by omega) (by omega), h 54 (by omega) (by omega), h 55 (by omega) (by omega), h 58 (by omega) (by omega), h 60 (by omega) (by omega), h 61 (by omega) (by omega), h2]
theorem AnL.eq (h : ∀ k, 45 ≤ k → k ≤ 61 → T'.1 k = T.1 k) (h34 : T'.1 34 = T.1 34) (h2 : T'.2 = T.2) : ∀ (xs : List It) (t c : Nat) (S : gSt), AnL X T xs t c S → AnL X T' xs t c S := by
  intro xs
  induction xs with
  | nil => intro t c S _; trivial
  | cons x xs ih =>
    intro t c S hl
    refine ⟨fun k => ?_, ih _ _ _ hl.2⟩
    obtain ⟨lo, hi, h1, h3⟩ := hl.1 k
    refine ⟨lo, hi, h1, ?_⟩
    rw [AnS_eq h h2, h34]
    exact h3
theorem NdL.eq (h : ∀ g, 50 ≤ g → g ≤ 55 → T'.1 g = T.1 g) (h12 : T'.1 12 = T.1 12) (h34 : T'.1 34 = T.1 34) : ∀ (xs : List It) (t : Nat), NdL X T xs t → NdL X T' xs t := by
  intro xs
  induction xs with
  | nil => intro t _; trivial
  | cons x xs ih =>
    intro t hl
    refine ⟨by rw [h12]; exact hl.1, by rw [h12]; exact hl.2.1, fun k => ?_, ih _ hl.2.2.2⟩
    rw [h34]
    exact NdS.eq h _ _ _ (hl.2.2.1 k)
theorem nd_its (hN : nN T ≤ 8200) : ∀ (xs : List It) (t c p a z : Nat), RepP X T t c p xs → ItsOk X xs a z → NdL X T xs t := by
  intro xs
  induction xs with
  | nil => intro t c p a z _ _; trivial
  | cons x xs ih =>
    intro t c p a z hR hI
    obtain ⟨p', p1, p2, rI, rP⟩ := hR
    obtain ⟨b, iO, iR⟩ := hI
    obtain ⟨i, ee, l, rt, dt, n, wt, w, bd⟩ := x
    obtain ⟨i1, i2, i3, i4, i5, i6, i7⟩ := iO
    refine ⟨rI.1, fun h => ?_, fun h => ?_, ih _ _ _ _ _ rP iR⟩
    · have a1 := rI.1
      rcases i3 with h' | h' | h'
      · rw [if_pos h', h] at a1
        exact absurd a1 (by decide)
      · rw [if_neg (by omega), if_pos h', h] at a1
        exact absurd a1 (by decide)
      · exact h'
    · obtain ⟨lo, hi, h1, h2, h3⟩ := rI.2.2.2.2.2.2.2.2.2.2.2.2 h
      obtain ⟨a', v', g', w1, w2, w3⟩ := i7 h
      exact nd_of bd 2 a' b _ 0 v' g' lo lo hi _ h3 (by omega) w2 0 (by omega)
theorem AgR.lay (h : LO t T T' n n') (hb : b ≤ n) : AgR T T' a b := ⟨fun k hk h3 => h.2.2.1 k (by omega) h3 (by omega), fun k q h1 h2 _ h4 => h.2.2.2.2.1 k q h1 h2 (by omega)⟩
theorem FW.fq (h : FQ T T') : FW T T' := ⟨fun k a _ _ => h.1 k (by omega) (by omega), Trw.fq h, fun q => by rw [h.1 7 (by omega) (by omega)]; exact q⟩
theorem FW.fni {x : It} : FW S (fnI X t c x S) := by
  unfold fnI
  split
  · unfold fnS
    exact (FW.fq FQ.nC).tr ((st_fs _ 0 0 0 _).fw.tr FS.fne.fw)
  · exact FS.rf.fw
theorem FW.fns : ∀ (xs : List It) (t c : Nat) (S : gSt), FW S (fnsL X xs t c S) := by
  intro xs
  induction xs with
  | nil => intro t c S; exact FS.rf.fw
  | cons x xs ih =>
    intro t c S
    rw [fnsL]
    split
    · exact FW.fni.tr (ih _ _ _)
    · exact FS.rf.fw
theorem gk_its (hcf : cn Tf < 6000) (hf0 : Tf.1 7 0 = 0) : ∀ (xs : List It) (t c a : Nat) (S : gSt), HIs X S xs t c → ItsOk X xs a n → n ≤ 4000 → inn S = t + xs.length → (∀ q, t ≤ q → q < t + xs.length → S.1 12 q = 2 → ∃ x, xs.getD (q - t) (0, 0, [], 0, 0, 0, 0, 0, tZ) = x ∧ xK X x.1 = 12) → FW (fnsL X xs t c S) Tf → Ckf S → GkL X Tf xs t c S := by
  intro xs
  induction xs with
  | nil => intro t c a S _ _ _ _ _ _ _; trivial
  | cons x xs ih =>
    intro t c a S hI hO hn hin hK hF ck
    have c0 : S.1 7 0 = 0 := (FW.fns (X := X) (x :: xs) t c S).ok (hF.ok hf0)
    have hg := ck.1
    rw [fnsL, if_pos c0] at hF
    obtain ⟨e, iO, iR⟩ := hO
    have hen := itz_le _ _ _ iR
    rw [List.length_cons] at hin
    have f1 := (FW.fns (X := X) xs (t + 1) (c + x.2.2.1.length) (fnI X t c x S)).tr hF
    have fI : FW S (fnI X t c x S) := FW.fni
    by_cases c12 : S.1 12 t = 2
    · obtain ⟨x', ex, k12⟩ := hK t (Nat.le_refl _) (by rw [List.length_cons]; omega) c12
      rw [Nat.sub_self] at ex
      have ex : x = x' := ex
      subst ex
      have hY := hI.1.1
      have hOo := hI.1.2
      have eI : fnI X t c x S = fnS X t c x.2.2.1.length x.2.2.2.2.2.2.2.1 x.2.2.2.2.2.2.2.2 S := by unfold fnI; rw [if_pos c12]
      obtain ⟨a', v', g', d1, d2, d3⟩ := iO.2.2.2.2.2.2 k12
      replace d3 : bdT x.2.2.2.2.2.2.2.2 ≤ 20 := d3
      have h24 : ∀ f, f < x.2.2.1.length → tV S (S.1 24 (c + f)) := by
        intro f hf
        obtain ⟨c', m', r', w', q1, q2, q3, q4, q5, q6, q7, q8, q9, q10, q11⟩ := ck.2.2.2.2.2 t (by omega)
        have b := hY.2.2.2.2.1
        have e1 : c' = c := nI_inj (by omega) (by omega) (q1.symm.trans hY.2.1)
        have e2 : m' = x.2.2.1.length := nI_inj (by omega) (by omega) (q2.symm.trans hY.2.2.1)
        rw [← e1]
        exact (q9 f (by omega)).1
      have si := fn_si (c := c) (w := x.2.2.2.2.2.2.2.1) ck (by omega) hY.2.2.2.1 hOo.2.1 hOo.2.2.1 h24
      have c1 := f1.lt (fI.tg hg) hcf
      have o1 := f1.ok hf0
      rw [eI] at c1 o1
      have ck1 := fn_ck (X := X) (it := t) (c := c) (m := x.2.2.1.length) (w := x.2.2.2.2.2.2.2.1) (tt := x.2.2.2.2.2.2.2.2) ck (by omega) hY.2.2.2.1 hOo.2.1 hOo.2.2.1 h24 d2 (by omega) d3 c1 o1
      rw [← eI] at ck1
      refine ⟨fun _ => ?_, ?_⟩
      · have f2 : FW (stS X t x.2.2.2.2.2.2.2.2 0 0 0 (fnC t c x.2.2.1.length x.2.2.2.2.2.2.2.1 S)) Tf := by
          rw [eI] at f1
          exact FS.trw FS.fne f1
        exact st_gs hcf hf0 _ 2 a' e _ 0 v' g' 0 0 0 0 0 _ d2 (by omega) (by unfold bL; rw [if_pos rfl]; omega) (Nat.le_refl _) si f2
      · have o : ∀ k, k < 64 → k ≠ 7 → k ≠ 8 → (fnI X t c x S).1 k = S.1 k := fun k k1 k2 k3 => fI.1 k k1 k2 k3
        have o2 : ∀ k, k < 72 → (fnI X t c x S).2 k = S.2 k := fun k k1 => by
          rw [eI]
          unfold fnS
          rw [FS.fne.2.1 k k1, (st_fs _ 0 0 0 _).2.1 k k1, FQ.nC.2.1 k k1]
        refine ih (t + 1) (c + x.2.2.1.length) e _ (HIs.gx o o2 _ _ _ hI.2) iR hn (by rw [fI.einn]; omega) ?_ hF ck1
        intro q h1 h2 h3
        rw [o 12 (by omega) (by omega) (by omega)] at h3
        obtain ⟨x', e1, e2⟩ := hK q (by omega) (by rw [List.length_cons]; omega) h3
        refine ⟨x', ?_, e2⟩
        rw [show q - t = (q - (t + 1)) + 1 by omega] at e1
        exact e1
    · have eI : fnI X t c x S = S := by unfold fnI; rw [if_neg c12]
      refine ⟨fun h => absurd h c12, ?_⟩
      rw [eI] at hF ⊢
      refine ih (t + 1) (c + x.2.2.1.length) e S hI.2 iR hn (by omega) ?_ hF ck
      intro q h1 h2 h3
      obtain ⟨x', e1, e2⟩ := hK q (by omega) (by rw [List.length_cons]; omega) h3
      refine ⟨x', ?_, e2⟩
      rw [show q - t = (q - (t + 1)) + 1 by omega] at e1
      exact e1
/-- the loop over all funs -/
theorem l_lay (hX : xn X ≤ 4000) (hnf : 8300 ≤ nf) (hcf : cn Tf < 6000) (hd : 400 ≤ d) (hz : z ≤ xn X) : ∀ (xs : List It) (t c a : Nat) (S T : gSt) (n fl : Nat), T.1 11 0 = nI (t + xs.length) → t + xs.length ≤ 24 → AnL X T xs t c S → NdL X T xs t → GkL X Tf xs t c S → ItsOk X xs a z → (∀ q, T.1 12 q = S.1 12 q) → EqF T Tf → LyP T 0 n → n + ccL X xs ≤ 12000 → xs.length < fl → wp (rl_Model_layOut_7 (RR nf d) nf fl T (nI t)) (fun _ _ T' => ∃ n', LO t T T' n n' ∧ n' ≤ n + ccL X xs ∧ CdL X T' xs t c S n n') := by
  intro xs
  induction xs with
  | nil =>
    intro t c a S T n fl h11 ht _ _ _ _ _ _ hP _ hfl
    obtain ⟨fl', rfl⟩ : ∃ g, fl = g + 1 := ⟨fl - 1, by omega⟩
    rw [List.length_nil, Nat.add_zero] at h11
    rw [rl_Model_layOut_7, h11, if_pos (Int32.le_refl _)]
    exact wp_some ⟨n, ⟨Nat.le_refl _, hP.2.1, fun _ _ _ _ => rfl, rfl, fun _ _ _ _ _ => rfl, fun _ _ => rfl⟩, by omega, rfl⟩
  | cons x xs ih =>
    intro t c a S T n fl h11 ht hA hN hG hI h12 hE hP hn hfl
    rw [List.length_cons] at h11 ht hfl
    have hcc : ccL X (x :: xs) = 3 * cws X x.2.2.2.2.2.2.2.2 + 1 + ccL X xs := rfl
    obtain ⟨fl', rfl⟩ : ∃ g, fl = g + 1 := ⟨fl - 1, by omega⟩
    obtain ⟨b, iO, iR⟩ := hI
    have hbz := itz_le _ _ _ iR
    obtain ⟨n1, n2, n3, n4⟩ := hN
    have zt : inb (nI t) 24 := nin (by omega) (by omega)
    have ct : (nI t).toNatClampNeg = t := nc (by omega)
    have hlt : ¬ nI (t + (xs.length + 1)) ≤ nI t := fun w => by
      have := (nI_leI (by omega) (by omega)).mp w
      omega
    have eI12 : ∀ q, (fnI X t c x S).1 12 q = S.1 12 q := fun q => by rw [(FW.fni (X := X) (t := t) (c := c) (x := x) (S := S)).1 12 (by omega) (by omega) (by omega)]
    rw [rl_Model_layOut_7, h11, if_neg hlt]
    simp only [gd, if_pos zt, ct]
    by_cases c12 : S.1 12 t = 2
    · have k12 := n2 ((h12 t).trans c12)
      obtain ⟨lo, hi, hhi, hA1⟩ := hA.1 c12
      obtain ⟨a', v', g', d1, d2, d3⟩ := iO.2.2.2.2.2.2 k12
      replace d3 : bdT x.2.2.2.2.2.2.2.2 ≤ 20 := d3
      rw [h12 t, c12, if_pos (by decide), stK, hP.2.1]
      obtain ⟨d, rfl⟩ : ∃ g, d = g + 1 := ⟨d - 1, by omega⟩
      have o5 : ∀ k, k ≠ 36 → (sI T 36 t (nI n)).1 k = T.1 k := fun k hk => sI_ne hk
      have v5 : ∀ j, (sI T 36 t (nI n)).1 36 j = if j = t then nI n else T.1 36 j := fun j => by
        rw [rdI]
        by_cases e : j = t
        · rw [if_pos ⟨rfl, e⟩, if_pos e]
        · rw [if_neg (fun w => e w.2), if_neg e]
      have w5 : (sI T 36 t (nI n)).2 = T.2 := rfl
      generalize sI T 36 t (nI n) = T5 at *
      have an5 : AnS X t T5 x.2.2.2.2.2.2.2.2 lo lo hi (T.1 34 t) 0 0 (fnC t c x.2.2.1.length x.2.2.2.2.2.2.2.1 S) := by
        rw [AnS_eq (fun k a b => o5 k (by omega)) w5]
        exact hA1
      have nd5 : NdS X T5 x.2.2.2.2.2.2.2.2 0 (T.1 34 t) := NdS.eq (fun g a b => o5 g (by omega)) _ _ _ (n3 k12)
      have hE5 : EqF T5 Tf := ⟨by rw [o5 65 (by omega)]; exact hE.1, by rw [o5 69 (by omega)]; exact hE.2.1, by rw [o5 11 (by omega)]; exact hE.2.2⟩
      have hP5 : LyP T5 0 n := ⟨by rw [o5 94 (by omega)]; exact hP.1, by rw [o5 95 (by omega)]; exact hP.2.1, by unfold nU; rw [o5 45 (by omega)]; exact hP.2.2.1, by unfold inn; rw [o5 11 (by omega)]; exact hP.2.2.2.1, by unfold cn; rw [o5 65 (by omega)]; exact hP.2.2.2.2⟩
      obtain ⟨r, w, T7, e7, q, f7, l7, x7⟩ := (x_lst (it := t) hX hnf hcf x.2.2.2.2.2.2.2.2).1 T5 (d + 1) lo 0 lo hi (T.1 34 t) 0 0 0 (fnC t c x.2.2.1.length x.2.2.2.2.2.2.2.1 S) n _ _ _ _ _ _ d2 (by omega) ⟨an5, nd5, hhi, hG.1 c12, hE5⟩ hP5 (by omega) (by omega)
      have l8 := f7.1
      rw [o5 34 (by omega), e7, bis, x_lay f7.2.1 (by omega), bis, vK, nI_1]
      have f8 : LF T7 (ly T7 q 28 0 0 0) q (q + 1) := LF.l1
      have r8 : rwC4 (ly T7 q 28 0 0 0) q = (28, 0, 0, 0) := ly_row
      generalize ly T7 q 28 0 0 0 = T8 at *
      have f58 := f7.tr f8
      have o8 : ∀ k, k ≤ 92 → k ≠ 36 → T8.1 k = T.1 k := fun k hk h3 => by rw [f58.o hk, o5 k h3]
      have w8 : T8.2 = T.2 := f58.2.2.2.1.trans w5
      have go := ih (t + 1) (c + x.2.2.1.length) b (fnI X t c x S) T8 (q + 1) fl' (by rw [o8 11 (by omega) (by omega), h11, show t + (xs.length + 1) = t + 1 + xs.length by omega]) (by omega) (AnL.eq (fun k a b => o8 k (by omega) (by omega)) (o8 34 (by omega) (by omega)) w8 _ _ _ _ hA.2) (NdL.eq (fun k a b => o8 k (by omega) (by omega)) (o8 12 (by omega) (by omega)) (o8 34 (by omega) (by omega)) _ _ n4) hG.2 iR (fun q => by rw [o8 12 (by omega) (by omega), h12 q, eI12 q]) (hE5.lf f58) (hP5.lf f58) (by omega) (by omega)
      refine wp_mono go ?_
      intro r v T' ⟨n', g1, g2, g3⟩
      have l9 := g1.1
      refine ⟨n', ⟨by omega, g1.2.1, fun k a b e => ?_, g1.2.2.2.1.trans w8, fun k q a b e => ?_, fun j hj => ?_⟩, by omega, ?_⟩
      · rw [g1.2.2.1 k a b e, f58.2.2.1 k a e, o5 k b]
      · rw [g1.2.2.2.2.1 k q a b (by omega), f58.2.2.2.2.1 k q a b e, o5 k (by omega)]
      · rw [g1.2.2.2.2.2 j (by omega), f58.o (by omega), v5, if_neg (by omega)]
      · rw [CdL, if_pos c12]
        refine ⟨q, l8, by omega, ?_, CdS.ag _ _ _ _ _ _ ((AgR.lf f8 (Nat.le_refl _)).tr (AgR.lay g1 (by omega))) x7, ?_, g3⟩
        · rw [g1.2.2.2.2.2 t (by omega), f58.o (by omega), v5, if_pos rfl]
        · rw [(AgR.lay (a := q) (b := q + 1) g1 (Nat.le_refl _)).rw (Nat.le_refl _) (by omega)]
          exact r8
    · have k2 : ¬ (2 : Int32) ≤ T.1 12 t := by
        have n1' := n1
        split at n1'
        · rw [n1']; decide
        · split at n1'
          · rw [n1']; decide
          · exact absurd ((h12 t).symm.trans n1') c12
      rw [if_neg k2, vK, nI_1]
      have eI : fnI X t c x S = S := by unfold fnI; rw [if_neg c12]
      have go := ih (t + 1) (c + x.2.2.1.length) b (fnI X t c x S) T n fl' (by rw [h11, show t + (xs.length + 1) = t + 1 + xs.length by omega]) (by omega) hA.2 n4 hG.2 iR (fun q => by rw [h12 q, eI12 q]) hE hP (by omega) (by omega)
      refine wp_mono go ?_
      intro r v T' ⟨n', g1, g2, g3⟩
      refine ⟨n', ⟨g1.1, g1.2.1, g1.2.2.1, g1.2.2.2.1, g1.2.2.2.2.1, fun j hj => g1.2.2.2.2.2 j (by omega)⟩, by omega, ?_⟩
      rw [CdL, if_neg c12]
      exact g3
end LOO
