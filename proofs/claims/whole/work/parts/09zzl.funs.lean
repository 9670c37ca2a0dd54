/-! all funs, one after another -/
def fnI (X : Lx) (t c : Nat) (x : It) (S : gSt) : gSt := if S.1 12 t = 2 then fnS X t c x.2.2.1.length x.2.2.2.2.2.2.2.1 x.2.2.2.2.2.2.2.2 S else S
def fnsL (X : Lx) : List It → Nat → Nat → gSt → gSt
  | [], _, _, S => S
  | x :: xs, t, c, S => if S.1 7 0 = 0 then fnsL X xs (t + 1) (c + x.2.2.1.length) (fnI X t c x S) else S
/-- the notes of all funs -/
def AnL (X : Lx) (T : gSt) : List It → Nat → Nat → gSt → Prop
  | [], _, _, _ => True
  | x :: xs, t, c, S => (S.1 12 t = 2 → ∃ lo hi, hi ≤ 8200 ∧ AnS X t T x.2.2.2.2.2.2.2.2 lo lo hi (T.1 34 t) 0 0 (fnC t c x.2.2.1.length x.2.2.2.2.2.2.2.1 S)) ∧ AnL X T xs (t + 1) (c + x.2.2.1.length) (fnI X t c x S)
section FUL
variable {nf d : Nat} {T T' T1 S S' : gSt} {X : Lx} {it r k j c n m w i f fl q t lo hi a b v' g' p p' lo2 hi2 a2 b2 : Nat} {x y x1 x2 x3 x4 : Int32} {nm : Int64} {tt : Tr} {z : It} {Q : Int32 → Int64 → gSt → Prop}
theorem Kp.fmx (hx : PI X) (hs : SPx T T') (h : Fm X T T' lo hi a b) (hn : hi2 ≤ lo ∨ hi ≤ lo2) (ht : b2 ≤ a ∨ b ≤ a2) (h1 : b2 ≤ xn X) (h2 : b ≤ xn X) : Kp X T T' lo2 hi2 a2 b2 := ⟨hs, fun j q1 q2 => h.1 j (by omega), fun u q q1 q2 q3 => by
  rcases h.2.1 u with c | ⟨q', e1, e2, e3⟩
  · exact c
  · have := hx q q' (by omega) (by omega) (q3.symm.trans e3)
    omega⟩
theorem Trw.fq (h : FQ T T') : Trw T T' := fun g => ⟨g.fq h, by rw [fq_cn h]; exact Nat.le_refl _, fun _ p _ => fq_rw h⟩
theorem Trw.fns : Trw S (fnS X it c m w tt S) := ((Trw.fq FQ.nC).tr (st_fs tt 0 0 0 _).2.2.1).tr FS.fne.2.2.1
theorem fnS_bad (h : ¬ S.1 7 0 = 0) : ¬ (fnS X it c m w tt S).1 7 0 = 0 := FS.fne.2.2.2 ((st_fs tt 0 0 0 _).2.2.2 (by rw [FQ.nC.1 7 (by omega) (by omega)]; exact h))
theorem Trw.fni : Trw S (fnI X t c z S) := by
  unfold fnI
  split
  · exact Trw.fns
  · exact Trw.rf
theorem fnI_bad (h : ¬ S.1 7 0 = 0) : ¬ (fnI X t c z S).1 7 0 = 0 := by
  unfold fnI
  split
  · exact fnS_bad h
  · exact h
theorem fns_tr : ∀ (xs : List It) (t c : Nat) (S : gSt), Trw S (fnsL X xs t c S) ∧ (¬ S.1 7 0 = 0 → ¬ (fnsL X xs t c S).1 7 0 = 0) := by
  intro xs
  induction xs with
  | nil => intro t c S; exact ⟨Trw.rf, fun h => h⟩
  | cons x xs ih =>
    intro t c S
    rw [fnsL]
    split
    · exact ⟨Trw.fni.tr (ih _ _ _).1, fun h => (ih _ _ _).2 (fnI_bad h)⟩
    · exact ⟨Trw.rf, fun h => h⟩
theorem fn_ck (hC : Ckf S) (hit : it < inn S) (hm : m ≤ 8) (h15 : S.1 15 it = nI r) (hr : r ≤ 3) (h24 : ∀ f, f < m → tV S (S.1 24 (c + f))) (hW : Ws X tt 2 a b m 0 v' g') (hb : b < 100000) (hbd : bdT tt ≤ 20) (hc : cn (fnS X it c m w tt S) < 6000) (h0 : (fnS X it c m w tt S).1 7 0 = 0) : Ckf (fnS X it c m w tt S) := by
  have si := fn_si (c := c) (w := w) hC hit hm h15 hr h24
  have t0 := (FS.fne (it := it) (T := stS X it tt 0 0 0 (fnC it c m w S))).ok h0
  have cS := (FS.fne (it := it)).lt ((st_fs tt 0 0 0 _).tg si.1.1) hc
  have sk := st_inv (X := X) (it := it) tt 2 a b m 0 v' g' 0 hW hb (by show 0 + bdT tt ≤ 41; omega) 0 0 0 0 _ (Nat.le_refl _) si cS t0
  have e : fnS X it c m w tt S = stS X it tt 0 0 0 (fnC it c m w S) := by
    unfold fnS at h0 ⊢
    generalize stS X it tt 0 0 0 (fnC it c m w S) = V at *
    unfold fnE at h0 ⊢
    rw [if_pos t0] at h0 ⊢
    by_cases c1 : V.1 25 it < 0
    · rw [if_pos c1]
    · rw [if_neg c1] at h0 ⊢
      by_cases c2 : V.1 83 0 = 0
      · rw [if_pos c2]
      · rw [if_neg c2] at h0
        exact absurd h0 (flT_bad (by decide))
  rw [e]
  have ck := sk.1.1
  exact ⟨ck.1, ck.2.1, ck.2.2.2.1, ck.2.2.2.2.1⟩
theorem Aw.sx (hs : SPx T T') : Aw T T' := ⟨by unfold nU; rw [hs.1 45 (by omega) (by omega) rfl]; exact Nat.le_refl _, fun j _ => ⟨by rw [hs.2 46 (by omega)], by rw [hs.1 47 (by omega) (by omega) rfl]⟩, by unfold nW; rw [hs.1 37 (by omega) (by omega) rfl]; exact Nat.le_refl _, fun g j a b _ => by rw [hs.1 g (by omega) (by omega) (by unfold anF; simp; omega)], fun j _ => by rw [hs.2 41 (by omega)]⟩
theorem RepS.sx (h : RepS X T tt lo lo hi x) (hs : SPx T T') (h61 : ∀ j, lo ≤ j → j < hi → T'.1 61 j = T.1 61 j) : RepS X T' tt lo lo hi x := by
  have aw := Aw.sx hs
  refine RepS.ag ⟨⟨fun g j a b c d e => ?_, fun j _ _ => by rw [hs.2 56 (by omega)], aw.1, aw.2.1⟩, fun _ => ⟨by rw [hs.1 53 (by omega) (by omega) rfl], by rw [hs.1 54 (by omega) (by omega) rfl]⟩, aw⟩ h
  by_cases q : g = 61
  · subst q; exact h61 j d e
  · rw [hs.1 g (by omega) (by omega) (by unfold anF; simp; omega)]
set_option maxHeartbeats 4000000 in
theorem RepI.sx (h : RepI X T t c p p' z) (hs : SPx T T') (h61 : ∀ j, p ≤ j → T'.1 61 j = T.1 61 j) : RepI X T' t c p p' z := by
  obtain ⟨i, ee, l, rt, dt, n, wt, w, b⟩ := z
  obtain ⟨a1, a2, a3, a4, a5, a6, a7, a8, a9, a10, a11, a12, a13⟩ := h
  have o : ∀ g, 9 ≤ g → g < 37 → T'.1 g = T.1 g := fun g x1 x2 => hs.1 g (by omega) (by omega) (by unfold anF; simp; omega)
  have aw := Aw.sx hs
  refine ⟨?_, ?_, ?_, a4, ?_, ?_, ?_, ?_, a9, ?_, ?_, ?_, ?_⟩
  · rw [o 12 (by omega) (by omega)]; exact a1
  · rw [hs.2 13 (by omega)]; exact a2
  · rw [o 14 (by omega) (by omega)]; exact a3
  · rw [o 15 (by omega) (by omega)]; exact a5
  · intro k hk
    unfold entR
    rw [hs.2 16 (by omega), o 17 (by omega) (by omega)]
    exact a6 k hk
  · rw [o 18 (by omega) (by omega)]; exact a7
  · rw [o 19 (by omega) (by omega)]; exact a8
  · intro k hk
    obtain ⟨x1, x2, w', x3, x4⟩ := a10 k hk
    exact ⟨by rw [hs.2 21 (by omega)]; exact x1, by rw [o 22 (by omega) (by omega)]; exact x2, w', by rw [o 23 (by omega) (by omega)]; exact x3, RepW.av 6 w' _ aw.av x4⟩
  · by_cases hrt : rt = 0
    · rw [if_pos hrt] at a11 ⊢
      rw [o 25 (by omega) (by omega)]; exact a11
    · rw [if_neg hrt] at a11 ⊢
      obtain ⟨w', x1, x2⟩ := a11
      exact ⟨w', by rw [o 25 (by omega) (by omega)]; exact x1, RepW.av 6 w' _ aw.av x2⟩
  · obtain ⟨x1, x2, x3, x4, x5, x6⟩ := a12
    refine ⟨x1, by rw [o 27 (by omega) (by omega)]; exact x2, fun k hk => ?_, x4, by rw [o 31 (by omega) (by omega)]; exact x5, fun k hk => ?_⟩
    · unfold entD
      rw [hs.2 28 (by omega), o 29 (by omega) (by omega)]
      exact x3 k hk
    · unfold entW
      rw [hs.2 32 (by omega), o 33 (by omega) (by omega)]
      exact x6 k hk
  · intro k12
    obtain ⟨lo, hi, h0, h1, h2⟩ := a13 k12
    refine ⟨lo, hi, h0, h1, ?_⟩
    rw [o 34 (by omega) (by omega)]
    exact RepS.sx h2 hs (fun j x1 _ => h61 j (by omega))
theorem RepP.sx (hs : SPx T T') : ∀ (xs : List It) (t c p : Nat), RepP X T t c p xs → (∀ j, p ≤ j → T'.1 61 j = T.1 61 j) → RepP X T' t c p xs := by
  intro xs
  induction xs with
  | nil => intro t c p _ _; trivial
  | cons x xs ih =>
    intro t c p h h61
    obtain ⟨p', h1, h2, h3, h4⟩ := h
    exact ⟨p', h1, by unfold nN; rw [hs.1 49 (by omega) (by omega) rfl]; exact h2, h3.sx hs h61, ih _ _ _ h4 (fun j hj => h61 j (by omega))⟩
theorem spx_fn (h : er T' = fnS X it c m w tt (er T)) : SPx T T' := by
  have fq : FQ (er T) (fnC it c m w (er T)) := FQ.nC
  have f1 := st_fs (X := X) (it := it) tt 0 0 0 (fnC it c m w (er T))
  have f2 := FS.fne (it := it) (T := stS X it tt 0 0 0 (fnC it c m w (er T)))
  refine ⟨fun k k1 k2 k3 => ?_, fun k k1 => ?_⟩
  · have e1 : (er T').1 k = (er T).1 k := by
      rw [h]
      unfold fnS
      rw [f2.1 k (by omega) (by omega) (by omega), f1.1 k (by omega) (by omega) (by omega), fq.1 k (by omega) (by omega)]
    rw [er_i k3, er_i k3] at e1
    exact e1
  · have e1 : (er T').2 k = (er T).2 k := by
      rw [h]
      unfold fnS
      rw [f2.2.1 k k1, f1.2.1 k k1, fq.2.1 k k1]
    exact e1
set_option maxHeartbeats 4000000 in
theorem l_fns (hx : PI X) (hX : xn X ≤ 4000) (hPl : ∀ q, q < xn X → xP X q < 100000) (hnf : 8300 ≤ nf) (hd : 400 ≤ d) {zz : Nat} (hzz : zz ≤ xn X) : ∀ (xs : List It) (t c p a fl : Nat) (T : gSt), xs.length < fl → T.1 11 0 = nI (t + xs.length) → t + xs.length ≤ 24 → c ≤ 8 * t → RepP X T t c p xs → ItsOk X xs a zz → (T.1 7 0 = 0 → Ckf (er T)) → Tg (er T) → nN T ≤ 8200 → nU T ≤ 4000 → nW T ≤ 4000 → T.1 94 0 = 0 → cn (fnsL X xs t c (er T)) < 6000 → (∀ T', er T' = fnsL X xs t c (er T) → Kp X T T' 0 p 0 a → T'.1 94 0 = 0 → (T'.1 7 0 = 0 → Ckf (er T') ∧ AnL X T' xs t c (er T)) → wp (rj_Model_build_107 (RR nf (d + 1)) nf T') Q) → wp (rl_Model_build_71 (RR nf (d + 1)) nf fl T (nI t)) Q := by
  intro xs
  induction xs with
  | nil =>
    intro t c p a fl T hf h11 ht hct hR hI hC hT hN hU hW h94 hc hQ
    obtain ⟨fl', rfl⟩ : ∃ q, fl = q + 1 := ⟨fl - 1, by omega⟩
    rw [rl_Model_build_71, h11, List.length_nil, Nat.add_zero, if_pos (Int32.le_refl _)]
    exact hQ T rfl Kp.rf h94 (fun q => ⟨hC q, trivial⟩)
  | cons x xs ih =>
    intro t c p a fl T hf h11 ht hct hR hI hC hT hN hU hW h94 hc hQ
    rw [List.length_cons] at hf h11 ht
    obtain ⟨fl', rfl⟩ : ∃ q, fl = q + 1 := ⟨fl - 1, by omega⟩
    have hlt : ¬ nI (t + (xs.length + 1)) ≤ nI t := fun q => by
      have := (nI_leI (by omega) (by omega)).mp q
      omega
    have zi : inb (nI t) 24 := nin (by omega) (by omega)
    have ci : (nI t).toNatClampNeg = t := nc (by omega)
    rw [fnsL] at hc hQ
    rw [rl_Model_build_71, h11, if_neg hlt]
    by_cases c0 : ¬ T.1 7 0 = 0
    · have c0e : ¬ (er T).1 7 0 = 0 := c0
      rw [if_neg c0e] at hc hQ
      rw [x_bd1 c0, bis, if_neg (by decide)]
      exact hQ T rfl Kp.rf h94 (fun q => absurd q c0)
    have c0 := Decidable.not_not.mp c0
    have c0e : (er T).1 7 0 = 0 := c0
    have ck := hC c0
    rw [if_pos c0e] at hc hQ
    rw [x_bd0 c0, bis, if_pos rfl, gd, if_pos zi, ci]
    obtain ⟨p', p1, p2, rI, rP⟩ := hR
    obtain ⟨e, iO, iR⟩ := hI
    have hinn : inn T = t + (xs.length + 1) := by unfold inn; rw [h11, nc (by omega)]
    have ize : ∀ (xs : List It) (a z : Nat), ItsOk X xs a z → a ≤ z := by
      intro xs
      induction xs with
      | nil => intro a z h; exact h
      | cons x xs ih =>
        intro a z h
        obtain ⟨b, h1, h2⟩ := h
        have := ih _ _ h2
        obtain ⟨x0, x1, x2, x3, x4, x5, x6, x7, x8⟩ := x
        have := h1.2.1
        omega
    have hez := ize _ _ _ iR
    obtain ⟨i, ee, l, rt, dt, n, wt, w, bd⟩ := x
    obtain ⟨i1, i2, i3, i4, i5, i6, i7⟩ := iO
    have rI0 := rI
    obtain ⟨a1, a2, a3, a4, a5, a6, a7, a8, a9, a10, a11, a12, a13⟩ := rI
    have e12 : (er T).1 12 t = T.1 12 t := rfl
    have hQ2 : ∀ T', er T' = fnsL X xs (t + 1) (c + l.length) (fnI X t c (i, ee, l, rt, dt, n, wt, w, bd) (er T)) → Kp X T T' 0 p 0 a → T'.1 94 0 = 0 → (T'.1 7 0 = 0 → Ckf (er T') ∧ AnL X T' ((i, ee, l, rt, dt, n, wt, w, bd) :: xs) t c (er T)) → wp (rj_Model_build_107 (RR nf (d + 1)) nf T') Q := hQ
    by_cases c12 : T.1 12 t = 2
    · rw [if_pos c12]
      have k12 : xK X i = 12 := by
        rcases i3 with h | h | h
        · rw [if_pos h] at a1
          rw [c12] at a1
          exact absurd a1 (by decide)
        · rw [if_neg (by omega), if_pos h] at a1
          rw [c12] at a1
          exact absurd a1 (by decide)
        · exact h
      obtain ⟨lo, hi, b1, b2, b3⟩ := a13 k12
      obtain ⟨a', v', g', d1, d2, d3⟩ := i7 k12
      have eI : fnI X t c (i, ee, l, rt, dt, n, wt, w, bd) (er T) = fnS X t c l.length w bd (er T) := by unfold fnI; rw [e12, if_pos c12]
      have hc2 : cn (fnsL X xs (t + 1) (c + l.length) (fnS X t c l.length w bd (er T))) < 6000 := by rw [← eI]; exact hc
      have trI : Trw (er T) (fnS X t c l.length w bd (er T)) := Trw.fns
      have tgI := (trI hT).1
      have c1 : cn (fnS X t c l.length w bd (er T)) < 6000 := Nat.lt_of_le_of_lt ((fns_tr (X := X) xs (t + 1) (c + l.length) _).1 tgI).2.1 hc2
      have h24 : ∀ f, f < l.length → tV (er T) (T.1 24 (c + f)) := by
        intro f hf
        obtain ⟨c', m', r', w', q1, q2, q3, q4, q5, q6, q7, q8, q9, q10, q11⟩ := ck.2.2.2.2.2 t (by show t < inn T; omega)
        have q1 : T.1 18 t = nI c' := q1
        have q2 : T.1 19 t = nI m' := q2
        have e1 : c' = c := nI_inj (by omega) (by omega) (q1.symm.trans a7)
        have e2 : m' = l.length := nI_inj (by omega) (by omega) (q2.symm.trans a8)
        rw [← e1]
        exact (q9 f (by omega)).1
      refine wp_bi (x_cf (nf := nf) (d := d) (c := c) (m := l.length) (r := ee) (w := w) (tt := bd) hx hX hPl hnf ck (by omega) a7 a8 (by omega) a9 a5 a4 a12.2.2.2.2.1 a12.2.2.2.1 h24 b3 (by omega) d2 (by omega) h94 hU hW c0 d3 hd c1) ?_
      intro _ _ T1 h1
      obtain ⟨h11a, h12a, h13a⟩ := h1
      have sx : SPx T T1 := spx_fn h11a
      rw [vK, nI_1]
      have kp1 : Kp X T T1 0 p 0 a := Kp.fmx hx sx h12a (by omega) (by omega) (by omega) (by omega)
      refine ih (t + 1) (c + l.length) p' e fl' T1 (by omega) ?_ (by omega) (by omega) ?_ iR ?_ ?_ ?_ ?_ ?_ ?_ ?_ ?_
      · rw [sx.1 11 (by omega) (by omega) rfl, h11]; congr 1; omega
      · exact RepP.sx sx _ _ _ _ rP (fun j hj => (h12a.1 j (by omega)).2)
      · intro q
        rw [h11a]
        exact fn_ck ck (by show t < inn T; omega) a9 a5 a4 h24 d2 (by omega) d3 c1 (by rw [← h11a]; exact q)
      · rw [h11a]; exact tgI
      · unfold nN; rw [sx.1 49 (by omega) (by omega) rfl]; exact hN
      · unfold nU; rw [sx.1 45 (by omega) (by omega) rfl]; exact hU
      · unfold nW; rw [sx.1 37 (by omega) (by omega) rfl]; exact hW
      · rw [h12a.2.2.2]; exact h94
      · rw [h11a]; exact hc2
      · intro T' e' k' n' f'
        rw [h11a] at e'
        refine hQ2 T' (by rw [eI]; exact e') (kp1.tr (k'.sub (by omega) (by omega) (by omega) (by omega))) n' ?_
        intro q
        obtain ⟨f1, f2⟩ := f' q
        have t10 : T1.1 7 0 = 0 := Decidable.byContradiction fun z => by
          have z2 : ¬ (er T1).1 7 0 = 0 := z
          have := (fns_tr (X := X) xs (t + 1) (c + l.length) (er T1)).2 z2
          rw [h11a, ← e'] at this
          exact this q
        refine ⟨f1, fun _ => ⟨lo, hi, by omega, ?_⟩, ?_⟩
        · have := AnS.kp bd _ _ _ _ _ _ _ _ _ _ _ _ _ _ d2 (by omega) (k'.sub (lo2 := lo) (hi2 := hi) (a2 := a') (b2 := e) (by omega) (by omega) (by omega) (by omega)) (h13a t10)
          rw [show T'.1 34 t = T.1 34 t from by rw [k'.1.1 34 (by omega) (by omega) rfl, sx.1 34 (by omega) (by omega) rfl]]
          exact this
        · show AnL X T' xs (t + 1) (c + l.length) (fnI X t c (i, ee, l, rt, dt, n, wt, w, bd) (er T))
          rw [eI, ← h11a]
          exact f2
    · rw [if_neg c12, vK, nI_1]
      have eI : fnI X t c (i, ee, l, rt, dt, n, wt, w, bd) (er T) = er T := by unfold fnI; rw [e12, if_neg c12]
      refine ih (t + 1) (c + l.length) p' e fl' T (by omega) ?_ (by omega) (by omega) rP iR hC hT hN hU hW h94 ?_ ?_
      · rw [h11]; congr 1; omega
      · rw [← eI]; exact hc
      · intro T' e' k' n' f'
        refine hQ2 T' (by rw [eI]; exact e') (k'.sub (by omega) (by omega) (by omega) (by omega)) n' ?_
        intro q
        obtain ⟨f1, f2⟩ := f' q
        refine ⟨f1, fun z => absurd z c12, ?_⟩
        show AnL X T' xs (t + 1) (c + l.length) (fnI X t c (i, ee, l, rt, dt, n, wt, w, bd) (er T))
        rw [eI]
        exact f2
end FUL
