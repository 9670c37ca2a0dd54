/-! all funs: both sides -/
/-- the class's code of all funs: the twin of CdL -/
def KdL (X : Lx) (Sf T : gSt) : List It → Nat → Nat → gSt → Nat → Nat → Prop
  | [], _, _, _, n, n' => n' = n
  | x :: xs, t, c, S, n, n' => if S.1 12 t = 2 then ∃ q, n ≤ q ∧ q < n' ∧ T.1 42 t = nI n ∧ KdS X t x.2.1 Sf T x.2.2.2.2.2.2.2.2 0 0 (fnC t c x.2.2.1.length x.2.2.2.2.2.2.2.1 S) n q ∧ cw3 T q = (58, 0, 0) ∧ KdL X Sf T xs (t + 1) (c + x.2.2.1.length) (fnI X t c x S) (q + 1) n' else KdL X Sf T xs (t + 1) (c + x.2.2.1.length) (fnI X t c x S) n n'
/-- the items of a text, whatever there is -/
def FpL (X : Lx) (T : gSt) : List It → Nat → Nat → Nat → Prop
  | [], _, _, _ => True
  | x :: xs, t, a, lo => ∃ z m, HeT X T t x ∧ x.2.1 ≤ 3 ∧ FgO X x ∧ ItOk X x a z ∧ z ≤ xn X ∧ (xK X x.1 = 12 → FcT X T t lo m x.2.2.2.2.2.2.2.2) ∧ FpL X T xs (t + 1) z m
/-- their heads, checked -/
def FiL (X : Lx) (S T : gSt) : List It → Nat → Nat → Prop
  | [], _, _ => True
  | x :: xs, t, c => (xK X x.1 = 12 → FiR X S T t c x) ∧ FiL X S T xs (t + 1) (c + x.2.2.1.length)
/-- rows, types that funs may ask for -/
def fkW (X : Lx) : List It → Nat
  | [] => 0
  | x :: xs => (if xK X x.1 = 12 then kwS2 x.2.2.2.2.2.2.2.2 + 1 else 0) + fkW X xs
def flW (X : Lx) : List It → Nat
  | [] => 0
  | x :: xs => (if xK X x.1 = 12 then lvS2 X x.2.2.2.2.2.2.2.2 else 0) + flW X xs
def FlO (X : Lx) (S S' T : gSt) (xs : List It) (t c n0 : Nat) (T' : gSt) : Prop := BfR S' T' ∨ (FnR X S' T' ∧ TyF S S' T T' ∧ (∃ n1, T'.1 51 0 = nI n1 ∧ n0 ≤ n1 ∧ n1 ≤ n0 + fkW X xs ∧ KdL X S' T' xs t c S n0 n1) ∧ lvC T' 16384 ≤ lvC T 16384 + flW X xs)
section FNL
variable {S S' T T' T1 T2 T3 T4 : gSt} {X : Lx} {nf d it e v g n k i u c m lo hi a z n0 y p q r j s f t fl v' g' rt dt wt w : Nat} {x op : Int32} {nm : Int64} {b : Tr} {l : List Nat} {xi : It} {xs : List It}
theorem fnS_o (hk : k < 64) (h7 : k ≠ 7) (h8 : k ≠ 8) : (fnS X it c m w b S).1 k = S.1 k := by
  unfold fnS
  rw [(FS.fne (it := it)).1 k (by omega) h7 h8, (st_fs (X := X) (it := it) b 0 0 0 (fnC it c m w S)).1 k (by omega) h7 h8, FQ.nC.1 k (by omega) (by omega)]
theorem fnS_2 (hk : k < 72) : (fnS X it c m w b S).2 k = S.2 k := by
  unfold fnS
  rw [(FS.fne (it := it)).2.1 k hk, (st_fs (X := X) (it := it) b 0 0 0 (fnC it c m w S)).2.1 k hk, FQ.nC.2.1 k hk]
theorem fns_o (hk : k < 64) (h7 : k ≠ 7) (h8 : k ≠ 8) : ∀ (xs : List It) (t c : Nat) (S : gSt), (fnsL X xs t c S).1 k = S.1 k := by
  intro xs
  induction xs with
  | nil => intro t c S; rfl
  | cons x xs ih =>
    intro t c S
    rw [fnsL]
    split
    · rw [ih]
      unfold fnI
      split
      · exact fnS_o hk h7 h8
      · rfl
    · rfl
theorem fns_2 (hk : k < 72) : ∀ (xs : List It) (t c : Nat) (S : gSt), (fnsL X xs t c S).2 k = S.2 k := by
  intro xs
  induction xs with
  | nil => intro t c S; rfl
  | cons x xs ih =>
    intro t c S
    rw [fnsL]
    split
    · rw [ih]
      unfold fnI
      split
      · exact fnS_2 hk
      · rfl
    · rfl
theorem FcT.ff (h : FcT X T t lo hi b) (hF : FF it T T') : FcT X T' t lo hi b := by
  obtain ⟨a1, a2, a3, a4, a5, a6⟩ := h
  exact ⟨by rw [hF.o (by omega) (by omega) (by omega)]; exact a1, by rw [hF.o (by omega) (by omega) (by omega)]; exact a2, by rw [RcS_eq (T := T) (fun g g1 g2 => hF.o (by omega) (by omega) (by omega))]; exact a3, a4, a5, a6⟩
theorem FpL.ff (hF : FF it T T') : ∀ (xs : List It) (t a lo : Nat), FpL X T xs t a lo → FpL X T' xs t a lo := by
  intro xs
  induction xs with
  | nil => intro t a lo _; trivial
  | cons x xs ih =>
    intro t a lo h
    obtain ⟨z, m, h1, h2, h3, h4, h5, h7, h8⟩ := h
    exact ⟨z, m, h1.ff hF, h2, h3, h4, h5, fun q => (h7 q).ff hF, ih _ _ _ h8⟩
theorem hgO_w (h : hgO X xi) : xi.2.2.2.2.2.2.2.1 ≤ 3 := by
  obtain ⟨i, e, l, rt, dt, n, wt, w, b⟩ := xi
  obtain ⟨_, _, _, _, _, h⟩ := h
  show w ≤ 3
  rcases h with h | ⟨_, _, h, _⟩ <;> omega
theorem FiR.fn (h : FiR X S T s u xi) (hH : HeT X T s xi) (hg : hgO X xi) (s1 : ∀ k, k < 64 → k ≠ 7 → k ≠ 8 → S'.1 k = S.1 k) (s2 : ∀ k, k < 72 → S'.2 k = S.2 k) (hF : TyF S S' T T') (fF : FF it T T') : FiR X S' T' s u xi := by
  have hw3 := hgO_w hg
  obtain ⟨i, e, l, rt, dt, n, wt, w, b⟩ := xi
  have l8 : l.length ≤ 8 := hH.2.2.2.2.2.1
  obtain ⟨⟨a1, a2, a3, a4, a5, a6, a7, a8⟩, b1, b2, b3, b4, b5, b6, b7, b8⟩ := h
  refine ⟨⟨?_, ?_, a3, ?_, fun k hk => ?_, fun k hk => ?_, fun k hk => ?_, fun k hk => ?_⟩, b1.st hF (s1 15 (by omega) (by omega) (by omega)) (s2 16 (by omega)) (s2 32 (by omega)) (fun q _ => by rw [s1 24 (by omega) (by omega) (by omega)]) (by rw [s1 26 (by omega) (by omega) (by omega)]) (by rw [s1 30 (by omega) (by omega) (by omega)]) l8 hw3 (fun k j hk => by rw [fF.o (by omega) (by omega) (by omega)]), ?_, ?_, ?_, ?_, b6, ?_, ?_⟩
  · rw [s1 12 (by omega) (by omega) (by omega)]; exact a1
  · rw [s1 14 (by omega) (by omega) (by omega)]; exact a2
  · rw [s1 15 (by omega) (by omega) (by omega)]; exact a4
  · unfold entR
    rw [s2 16 (by omega), s1 17 (by omega) (by omega) (by omega)]
    exact a5 k hk
  · rw [s2 21 (by omega)]; exact a6 k hk
  · unfold entD
    rw [s2 28 (by omega), s1 29 (by omega) (by omega) (by omega)]
    exact a7 k hk
  · unfold entW
    rw [s2 32 (by omega), s1 33 (by omega) (by omega) (by omega)]
    exact a8 k hk
  · unfold HnU
    rw [s1 15 (by omega) (by omega) (by omega), s2 16 (by omega), s2 21 (by omega)]
    exact b2
  · rw [s1 30 (by omega) (by omega) (by omega)]; exact b3
  · unfold inn
    rw [s1 11 (by omega) (by omega) (by omega)]
    exact b4
  · rw [s1 18 (by omega) (by omega) (by omega)]; exact b5
  · rw [s1 19 (by omega) (by omega) (by omega)]; exact b7
  · rw [s1 57 (by omega) (by omega) (by omega), s1 34 (by omega) (by omega) (by omega)]; exact b8
theorem FiL.fn (s1 : ∀ k, k < 64 → k ≠ 7 → k ≠ 8 → S'.1 k = S.1 k) (s2 : ∀ k, k < 72 → S'.2 k = S.2 k) (hF : TyF S S' T T') (fF : FF it T T') : ∀ (xs : List It) (t a lo c : Nat), FpL X T xs t a lo → FiL X S T xs t c → FiL X S' T' xs t c := by
  intro xs
  induction xs with
  | nil => intro t a lo c _ _; trivial
  | cons x xs ih =>
    intro t a lo c hp h
    obtain ⟨z, m, h1, _, h3, _, _, _, h8⟩ := hp
    exact ⟨fun q => (h.1 q).fn h1 h3.1 s1 s2 hF fF, ih _ _ _ _ h8 h.2⟩
/-- the check of all funs -/
theorem y_fns (hX : XO X) (hnf : 16385 ≤ nf) (hz : ∀ q, xK X q = 4 → ¬ xN X q = 0) (hd : 540 ≤ d) : ∀ (xs : List It) (t a lo fl : Nat) (T : gSt), xs.length < fl → T.1 27 0 = nI (t + xs.length) → t + xs.length ≤ 24 → WF X T → FpL X T xs t a lo → wp (rl_Steps_check_2 (PP nf d) nf fl T (nI t)) (fun _ _ T' => FF t T T' ∧ ∀ S c n0, FnR X S T → FiL X S T xs t c → T.1 51 0 = nI n0 → n0 + fkW X xs ≤ 6032 → lvC T 16384 + flW X xs + 30 < 16384 → cn (fnsL X xs t c S) < 6000 → FlO X S (fnsL X xs t c S) T xs t c n0 T') := by
  intro xs
  induction xs with
  | nil =>
    intro t a lo fl T hfl h27 h24 hw _
    obtain ⟨fl, rfl⟩ : ∃ g, fl = g + 1 := ⟨fl - 1, by omega⟩
    rw [rl_Steps_check_2, h27, if_pos (show nI (t + ([] : List It).length) ≤ nI t from (nI_leI (by have : ([] : List It).length = 0 := rfl; omega) (by omega)).mpr (Nat.le_refl _))]
    refine wp_some ⟨FF.rf hw.2.1, fun S c n0 hr _ h51 _ _ _ => Or.inr ⟨hr, TyF.rf, ⟨n0, h51, Nat.le_refl _, by omega, rfl⟩, by omega⟩⟩
  | cons x xs ih =>
    intro t a lo fl T hfl h27 h24 hw hp
    rw [List.length_cons] at hfl h27 h24
    obtain ⟨fl, rfl⟩ : ∃ g, fl = g + 1 := ⟨fl - 1, by omega⟩
    have hp0 := hp
    obtain ⟨z, m, h1, h2, h3, h4, h5, h7, h8⟩ := hp
    obtain ⟨i, e, l, rt, dt, n, wt, w, b⟩ := x
    have zt : inb (nI t) 24 := nin (by omega) (by omega)
    have ct : (nI t).toNatClampNeg = t := nc (by omega)
    have e28 : T.1 28 t = nI (xK X i) := h1.1
    have itn : t < itN T := by unfold itN; rw [h27, nc (by omega)]; omega
    rw [rl_Steps_check_2, h27, if_neg (fun q => by
      have := (nI_leI (a := t + (xs.length + 1)) (b := t) (by omega) (by omega)).mp q
      omega), gd, if_pos zt, ct, e28]
    have k12 : nI (xK X i) = 12 ↔ xK X i = 12 := ⟨fun q => nI_inj (by have := (hX.2 i).2; omega) (by omega) (show nI (xK X i) = nI 12 from q), fun q => by rw [q]; rfl⟩
    have s12 : ∀ S, FnR X S T → (S.1 12 t = 2 ↔ xK X i = 12) := fun S hr => by
      obtain ⟨n', n1, n2, n3, n4⟩ := hr.1.2.1
      have : t < n' := by
        have : n' = t + (xs.length + 1) := nI_inj (by omega) (by omega) (by rw [← n2, ← h27])
        omega
      rw [← k12, ← e28]
      exact (n4 t this).1.symm
    split
    · rename_i q12
      have x12 := k12.mp q12
      refine wp_bi (y_fun (nf := nf) (d := d) hX hnf hz hd hw h1 h2 x12 h3 h4 h5 itn (by omega) (h7 x12)) ?_
      intro _ _ T1 ⟨f1, B1⟩
      rw [vK, nI_1]
      have w1 := hw.ff f1
      refine wp_mono (ih (t + 1) z m fl T1 (by omega) (by rw [f1.o (by omega) (by omega) (by omega), h27]; congr 1; omega) (by omega) w1 (FpL.ff f1 _ _ _ _ h8)) ?_
      intro _ _ T' ⟨f2, B2⟩
      have f2' : FF t T1 T' := f2.dn (by omega)
      refine ⟨f1.tr f2', fun S c n0 hr hf h51 hn hl hc => ?_⟩
      have h70 : S.1 7 0 = 0 := hr.1.2.2.2.1
      have eI : fnI X t c (i, e, l, rt, dt, n, wt, w, b) S = fnS X t c l.length w b S := by
        unfold fnI
        rw [if_pos ((s12 S hr).mpr x12)]
      have eL : fnsL X ((i, e, l, rt, dt, n, wt, w, b) :: xs) t c S = fnsL X xs (t + 1) (c + l.length) (fnS X t c l.length w b S) := by
        rw [fnsL, if_pos h70, eI]
      have eK : fkW X ((i, e, l, rt, dt, n, wt, w, b) :: xs) = kwS2 b + 1 + fkW X xs := by
        rw [fkW, if_pos x12]
      have eV : flW X ((i, e, l, rt, dt, n, wt, w, b) :: xs) = lvS2 X b + flW X xs := by
        rw [flW, if_pos x12]
      rw [eL] at hc ⊢
      rw [eK] at hn
      rw [eV] at hl
      have tgS : Tg S := hr.2.1.1
      have tg1 := ((Trw.fns (X := X) (it := t) (c := c) (m := l.length) (w := w) (tt := b)) tgS)
      have cn1 := ((fns_tr (X := X) xs (t + 1) (c + l.length) (fnS X t c l.length w b S)).1 tg1.1).2.1
      rcases B1 S c n0 hr (hf.1 x12) h51 (by omega) (by omega) (by omega) with bf | ⟨r1, r2, r3, ⟨n1, r4, r5, r6, r7, r8⟩, r9⟩
      · refine Or.inl ?_
        have : fnsL X xs (t + 1) (c + l.length) (fnS X t c l.length w b S) = fnS X t c l.length w b S := by
          cases xs with
          | nil => rfl
          | cons y ys => rw [fnsL, if_neg bf.1]
        rw [this]
        exact bf.ff f2
      · have fi1 := FiL.fn (S' := fnS X t c l.length w b S) (fun k a b c => fnS_o a b c) (fun k a => fnS_2 a) r2 f1 xs (t + 1) z m (c + l.length) h8 hf.2
        rcases B2 (fnS X t c l.length w b S) (c + l.length) (n1 + 1) r1 fi1 r4 (by omega) (by omega) hc with bf | ⟨u1, u2, ⟨n2, u3, u4, u5, u6⟩, u7⟩
        · exact Or.inl bf
        · refine Or.inr ⟨u1, r2.tr u2, ⟨n2, u3, by omega, by rw [eK]; omega, ?_⟩, by rw [eV]; omega⟩
          have ag : AgK (fnS X t c l.length w b S) (fnsL X xs (t + 1) (c + l.length) (fnS X t c l.length w b S)) T1 T' n0 (n1 + 1) := by
            obtain ⟨c', _, _, _, y4⟩ := f2.2.2.2.2.2.2.1 (n1 + 1) r4 (by omega)
            refine ⟨u2, fns_o (by omega) (by omega) (by omega) _ _ _ _, fun k ka kb => f2.o (by omega) (by omega) ka.2, fun g q g1 g2 _ q2 => y4 g q g1 g2 q2⟩
          rw [KdL, if_pos ((s12 S hr).mpr x12), eI]
          refine ⟨n1, r5, by omega, by rw [f2.2.1 t (by omega)]; exact r3, KdS.mo _ _ _ _ _ _ (ag.sub (Nat.le_refl _) (by omega)) r7, by rw [ag.rw r5 (by omega)]; exact r8, u6⟩
    · rename_i q12
      have x12 : ¬ xK X i = 12 := fun q => q12 (k12.mpr q)
      rw [vK, nI_1]
      refine wp_mono (ih (t + 1) z m fl T (by omega) (by rw [h27]; congr 1; omega) (by omega) hw h8) ?_
      intro _ _ T' ⟨f2, B2⟩
      refine ⟨f2.dn (by omega), fun S c n0 hr hf h51 hn hl hc => ?_⟩
      have h70 : S.1 7 0 = 0 := hr.1.2.2.2.1
      have eI : fnI X t c (i, e, l, rt, dt, n, wt, w, b) S = S := by
        unfold fnI
        rw [if_neg (fun q => x12 ((s12 S hr).mp q))]
      have eL : fnsL X ((i, e, l, rt, dt, n, wt, w, b) :: xs) t c S = fnsL X xs (t + 1) (c + l.length) S := by
        rw [fnsL, if_pos h70, eI]
      have eK : fkW X ((i, e, l, rt, dt, n, wt, w, b) :: xs) = fkW X xs := by
        rw [fkW, if_neg x12, Nat.zero_add]
      have eV : flW X ((i, e, l, rt, dt, n, wt, w, b) :: xs) = flW X xs := by
        rw [flW, if_neg x12, Nat.zero_add]
      rw [eL] at hc ⊢
      rw [eK] at hn
      rw [eV] at hl
      rcases B2 S (c + l.length) n0 hr hf.2 h51 hn hl hc with bf | ⟨u1, u2, ⟨n2, u3, u4, u5, u6⟩, u7⟩
      · exact Or.inl bf
      · refine Or.inr ⟨u1, u2, ⟨n2, u3, u4, by rw [eK]; exact u5, ?_⟩, by rw [eV]; exact u7⟩
        rw [KdL, if_neg (fun q => x12 ((s12 S hr).mp q)), eI]
        exact u6
end FNL
