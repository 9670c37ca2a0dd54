/-! a region STEP on both sides: it is opened, it is left -/
def opT (T : gSt) (k : Nat) (nm : Int64) : gSt := sJ (sI (sI (sJ T 73 k nm) 74 k (T.1 75 0)) 72 0 (nI (k + 1))) 77 0 (sbW (flw T) (40 + k) true)
def clQ (T : gSt) (k : Nat) : gSt := sI (sJ T 77 0 (sbW (flw T) (40 + k) false)) 72 0 (nI k)
section ZSD
variable {S S' S1 S2 T T' T1 T2 T3 : gSt} {X : Lx} {nf d it e v g n dd v' g' k i e' u c m lo hi a b n0 y z p q r j s f yv yx yr lr N : Nat} {ta tb tr : Tr} {pl x op cc t x4 : Int32} {R : RgR} {nm w w2 : Int64} {bo : Bool} {zz : T5} {cd po : Nat → Nat}
/-- the region around -/
theorem inL_v (hm : ∀ j, j < m → po j < n ∧ S.1 85 (po j) = nI (cd j) ∧ 4 ≤ cd j ∧ cd j < 12) (ho : ∀ i j, i < j → j < m → po i < po j) (hq : ∀ q, q < n → S.1 85 q = -1 ∨ ∃ j, j < m ∧ q = po j) : ∀ (k q l : Nat) (z : Int32), q + k = n → l ≤ m → (∀ j, j < m → (po j < q ↔ j < l)) → z = (if l = 0 then 0 else nI (cd (l - 1))) → inL S k q z = (if m = 0 then 0 else nI (cd (m - 1))) := by
  intro k
  induction k with
  | zero =>
    intro q l z h1 h2 h3 h4
    have : l = m := by
      by_cases c : l = m
      · exact c
      · have := (h3 l (by omega)).mp (by have := (hm l (by omega)).1; omega)
        omega
    subst this
    exact h4
  | succ k ih =>
    intro q l z h1 h2 h3 h4
    rw [inL]
    rcases hq q (by omega) with w | ⟨j, j1, j2⟩
    · rw [if_pos (by rw [w]; decide)]
      refine ih (q + 1) l z (by omega) h2 (fun j hj => ?_) h4
      rw [← h3 j hj]
      have : ¬ po j = q := fun e => by
        have := (hm j hj).2.1
        rw [e, w] at this
        exact nI_m1 (by have := (hm j hj).2.2.2; omega) this.symm
      omega
    · obtain ⟨p1, p2, p3, p4⟩ := hm j j1
      subst j2
      have jl : j = l := by
        have a1 : ¬ j < l := fun w => by have := (h3 j j1).mpr w; omega
        have a2 : l < m := by omega
        by_cases c : j = l
        · exact c
        · have := ho l j (by omega) j1
          have := (h3 l a2).mp this
          omega
      subst jl
      rw [if_neg (by rw [p2]; exact nIle0 (by omega) (by omega)), p2]
      refine ih (po j + 1) (j + 1) _ (by omega) (by omega) (fun i hi => ?_) (by rw [if_neg (by omega), show j + 1 - 1 = j by omega])
      constructor
      · intro w
        by_cases c : i ≤ j
        · omega
        · have := ho j i (by omega) hi
          omega
      · intro w
        by_cases c : i = j
        · rw [c]; omega
        · have := ho i j (by omega) j1
          omega
theorem rgO_o (h : ¬ (k = 86 ∨ k = 74 ∨ k = 73 ∨ k = 71 ∨ k = 85 ∨ k = 84 ∨ k = 75)) : (rgO S nm).1 k = S.1 k := by
  unfold rgO
  rw [sI_ne (by omega), sI_ne (by omega), sI_ne (by omega), sI_ne (by omega), sI_ne (by omega), sJ_i, sI_ne (by omega), sI_ne (by omega)]
theorem rgO_2 (h : k ≠ 72) : (rgO S nm).2 k = S.2 k := by
  unfold rgO
  show (sJ S 72 (rn S) nm).2 k = _
  exact sJ_ne h
theorem rgO_v (hg : S.1 86 0 = nI g) (hg8 : g ≤ 8) (ha : arn S = n) : (rgO S nm).1 71 0 = nI (rn S + 1) ∧ (rgO S nm).1 84 0 = nI (n + 1) ∧ (rgO S nm).1 86 0 = nI (g + 1) ∧ (∀ k, (rgO S nm).1 73 k = if k = rn S then nI (4 + g) else S.1 73 k) ∧ (∀ k, (rgO S nm).1 74 k = if k = 4 + g then inL S n 0 0 else S.1 74 k) ∧ (∀ k, (rgO S nm).1 85 k = if k = n then nI (4 + g) else S.1 85 k) ∧ (∀ k, (rgO S nm).2 72 k = if k = rn S then nm else S.2 72 k) ∧ (rgO S nm).1 75 0 = S.1 75 0 ||| ((1 : Int32) <<< (nI (4 + g) &&& 31)) := by
  have e4g : (4 : Int32) + nI g = nI (4 + g) := by
    rw [show (4 : Int32) = nI 4 from rfl]
    exact (Int32.ofNat_add 4 g).symm
  have c4g : (nI (4 + g)).toNatClampNeg = 4 + g := nc (by omega)
  refine ⟨?_, ?_, ?_, fun k => ?_, fun k => ?_, fun k => ?_, fun k => ?_, ?_⟩
  · unfold rgO
    rw [sI_ne (by omega), sI_ne (by omega), sI_ne (by omega), sI_v]
  · unfold rgO
    rw [sI_ne (by omega), sI_v, ha]
  · unfold rgO
    rw [sI_ne (by omega), sI_ne (by omega), sI_ne (by omega), sI_ne (by omega), sI_ne (by omega), sJ_i, sI_ne (by omega), sI_v, hg]
    exact nI_1 _
  · unfold rgO
    rw [sI_ne (by omega), sI_ne (by omega), sI_ne (by omega), sI_ne (by omega), hg, e4g, sI_at, sJ_i, sI_ne (by omega), sI_ne (by omega)]
    rfl
  · unfold rgO
    rw [sI_ne (by omega), sI_ne (by omega), sI_ne (by omega), sI_ne (by omega), sI_ne (by omega), sJ_i, hg, e4g, c4g, ha, sI_at, sI_ne (by omega)]
    rfl
  · unfold rgO
    rw [sI_ne (by omega), sI_ne (by omega), hg, e4g, ha, sI_at, sI_ne (by omega), sI_ne (by omega), sJ_i, sI_ne (by omega), sI_ne (by omega)]
    rfl
  · unfold rgO
    show (sJ (sI (sI S 86 0 _) 74 _ _) 72 (rn S) nm).2 72 k = _
    rw [rdJ]
    by_cases c : k = rn S
    · rw [if_pos ⟨rfl, c⟩, if_pos c]
    · rw [if_neg (fun q => c q.2), if_neg c]
      rfl
  · unfold rgO
    rw [sI_v, hg, e4g]
theorem opT_o (h : k ≠ 72) (h2 : k ≠ 74) : (opT T m nm).1 k = T.1 k := by
  unfold opT
  show (sI (sI (sJ T 73 m nm) 74 m (T.1 75 0)) 72 0 (nI (m + 1))).1 k = _
  rw [sI_ne h, sI_ne h2]
  rfl
theorem opT_v : (opT T m nm).1 72 0 = nI (m + 1) ∧ (∀ k, (opT T m nm).1 74 k = if k = m then T.1 75 0 else T.1 74 k) ∧ (∀ k, (opT T m nm).2 73 k = if k = m then nm else T.2 73 k) ∧ flw (opT T m nm) = sbW (flw T) (40 + m) true ∧ ∀ q j, q ≠ 73 → q ≠ 77 → (opT T m nm).2 q j = T.2 q j := by
  refine ⟨?_, fun k => ?_, fun k => ?_, ?_, fun q j h1 h2 => ?_⟩
  · unfold opT
    show (sI (sI (sJ T 73 m nm) 74 m (T.1 75 0)) 72 0 (nI (m + 1))).1 72 0 = _
    rw [sI_v]
  · unfold opT
    show (sI (sI (sJ T 73 m nm) 74 m (T.1 75 0)) 72 0 (nI (m + 1))).1 74 k = _
    rw [sI_ne (by omega), rdI]
    by_cases c : k = m
    · rw [if_pos ⟨rfl, c⟩, if_pos c]
    · rw [if_neg (fun q => c q.2), if_neg c]; rfl
  · unfold opT
    show (sJ (sJ T 73 m nm) 77 0 (sbW (flw T) (40 + m) true)).2 73 k = _
    rw [rdJ, if_neg (fun q => by have := q.1; omega), rdJ]
    by_cases c : k = m
    · rw [if_pos ⟨rfl, c⟩, if_pos c]
    · rw [if_neg (fun q => c q.2), if_neg c]
  · unfold opT
    exact flw_w
  · unfold opT
    show (sJ (sJ T 73 m nm) 77 0 (sbW (flw T) (40 + m) true)).2 q j = _
    rw [rdJ, if_neg (fun z => h2 z.1), rdJ, if_neg (fun z => h1 z.1)]
theorem SrR.opn (h : SrR X it e v g n S T) (hg : g < 8) (hn : n < 40) (hnm : ¬ nm = 0 ∧ ¬ nm = 72) (hfr : ∀ a, rIn e (rn S - e) a → ¬ T.2 73 a = nm) : ∃ m, rn S = e + m ∧ T.1 72 0 = nI (4 + m) ∧ SrR X it e v (g + 1) (n + 1) (rgO S nm) (opT T (4 + m) nm) ∧ TyF S (rgO S nm) T (opT T (4 + m) nm) ∧ FZ T (opT T (4 + m) nm) ∧ lvC (opT T (4 + m) nm) 16384 = lvC T 16384 ∧ m ≤ 7 := by
  have hV := h.1.2.2.2.2.2.2.2.2.1
  obtain ⟨m, gg, n', cd, po, hA, hB⟩ := h.1.2.2.2.2.2.2.1
  have hA' := hA
  have hB' := hB
  obtain ⟨h1, h2, h3, h4, h5, h6, h7, h8, h9, h10, h11, h12, h13⟩ := hA
  obtain ⟨b1, b2, b3, b4, b5, b6, b7⟩ := hB
  have s86 := h.1.2.2.1.2.2.2.1
  have s84 := h.1.2.2.1.2.2.2.2.2.2.1
  have egg : gg = g := nI_inj (by omega) (by omega) (by rw [← h12, ← s86])
  have enn : n' = n := nI_inj (by omega) (by omega) (by rw [← b1, ← s84])
  subst egg enn
  have ean : arn S = n' := by unfold arn; rw [s84]; exact nc (by omega)
  -- fewer than eight: they have different codes
  have m7 : m ≤ 7 := by
    have key : ∀ j, j < m → 4 + j ≤ cd j := by
      intro j
      induction j with
      | zero => intro hj; exact (h8 0 hj).2.2.1
      | succ j ih =>
        intro hj
        have := ih (by omega)
        have := h9 j (j + 1) (by omega) hj
        omega
    by_cases c : m = 0
    · omega
    · have := key (m - 1) (by omega)
      have := (h8 (m - 1) (by omega)).2.2.2.1
      omega
  obtain ⟨o71, o84, o86, o73, o74, o85, o72, o75⟩ := rgO_v (nm := nm) s86 (by omega) ean
  have o := fun k hk => rgO_o (S := S) (nm := nm) (k := k) hk
  obtain ⟨t72, t74, t73, tfl, t2⟩ := opT_v (T := T) (m := 4 + m) (nm := nm)
  have tO := fun k a b => opT_o (T := T) (m := 4 + m) (nm := nm) (k := k) a b
  have hF : TyF S (rgO S nm) T (opT T (4 + m) nm) := TyF.st (by rw [o 65 (by omega)]) (fun k _ _ => o k (by omega)) (o 15 (by omega)) (by funext j; exact t2 62 j (by omega) (by omega)) (t2 63 0 (by omega) (by omega))
  have fz : FZ T (opT T (4 + m) nm) := FZ.sc h.1.2.2.2.2.2.1 (fun k hk => tO k (by omega) (by omega)) (fun q j _ a b => t2 q j a b) (by rw [tO 71 (by omega) (by omega)])
  have rge : ∀ c k, RgE e S c k → RgE e (rgO S nm) c k := fun c k hr => by
    have ern : rn (rgO S nm) = rn S + 1 := by unfold rn at o71 ⊢; rw [o71]; exact nc (by unfold rn at h3; omega)
    rcases hr with w | ⟨j, w1, w2, w3, w4⟩
    · exact Or.inl w
    · exact Or.inr ⟨j, by omega, w2, by rw [o73, if_neg (by omega)]; exact w3, w4⟩
  have lv : lvC (opT T (4 + m) nm) 16384 = lvC T 16384 := lvC_62 (by funext j; exact t2 62 j (by omega) (by omega)) (by funext j; exact t2 63 j (by omega) (by omega)) 16384
  have trS : ∀ q, q ≤ n' → trc (rgO S nm) q = trc S q := fun q => by
    induction q with
    | zero => intro _; rfl
    | succ q ih =>
      intro hq
      rw [trc, trc, ih (by omega), o85, if_neg (show ¬ q = n' by omega)]
  obtain ⟨cd', hcd⟩ : ∃ f : Nat → Nat, ∀ j, f j = if j = m then 4 + gg else cd j := ⟨_, fun _ => rfl⟩
  obtain ⟨po', hpo⟩ : ∃ f : Nat → Nat, ∀ j, f j = if j = m then n' else po j := ⟨_, fun _ => rfl⟩
  have rA : RwA e (m + 1) (gg + 1) cd' (rgO S nm) (opT T (4 + m) nm) := by
    have ern : rn (rgO S nm) = e + (m + 1) := by unfold rn at o71 ⊢; rw [o71, nc (by unfold rn at h3; omega)]; unfold rn at h3; omega
    have inS : ∀ a, rIn e (m + 1) a → a = 4 + m ∨ rIn e m a := fun a ha => by
      rcases ha with w | w
      · exact Or.inr (Or.inl w)
      · by_cases c : a = 4 + m
        · exact Or.inl c
        · exact Or.inr (Or.inr (by omega))
    have nin : ∀ a, rIn e m a → ¬ a = 4 + m := fun a ha w => by rcases ha with u | u <;> omega
    refine ⟨h1, by omega, ern, by rw [o71, h3]; rfl, t72, fun k hk => ?_, fun k k1 k2 => ?_, fun j hj => ?_, fun i j hij hj => ?_, fun a b ha hb hab => ?_, fun a ha => ?_, o86, by omega⟩
    · rw [o72, if_neg (by omega), t73, if_neg (by omega), o73, if_neg (by omega)]
      exact h6 k hk
    · rw [t73, if_neg (by omega)]
      exact h7 k k1 k2
    · rw [o72, t73, o73, hcd, hcd]
      by_cases c : j = m
      · subst c
        rw [if_pos (by omega), if_pos rfl, if_pos (by omega), if_pos rfl]
        refine ⟨rfl, rfl, by omega, by omega, ?_⟩
        rw [o74, if_pos rfl]
        have iv := inL_v (S := S) (m := j) (n := n') (cd := cd) (po := po) (fun i hi => ⟨(b3 i hi).1, (b3 i hi).2, (h8 i hi).2.2.1, by have := (h8 i hi).2.2.2.1; omega⟩) b4 b5 n' 0 0 0 (by omega) (by omega) (fun i _ => by omega) (by rw [if_pos rfl])
        rw [iv]
        by_cases c0 : j = 0
        · rw [if_pos c0, if_pos c0]
        · rw [if_neg c0, if_neg c0, if_neg (by omega)]
      · obtain ⟨a1, a2, a3, a4, a5⟩ := h8 j (by omega)
        rw [if_neg (by omega), if_neg (by omega), if_neg (by omega), if_neg c]
        refine ⟨a1, a2, a3, by omega, ?_⟩
        rw [o74, if_neg (by omega), a5]
        by_cases c0 : j = 0
        · rw [if_pos c0, if_pos c0]
        · rw [if_neg c0, if_neg c0, if_neg (by omega)]
    · rw [hcd, hcd, if_neg (show ¬ i = m by omega)]
      by_cases c : j = m
      · rw [if_pos c]
        exact (h8 i (by omega)).2.2.2.1
      · rw [if_neg c]
        exact h9 i j hij (by omega)
    · rw [t73, t73] at hab
      rcases inS a ha with w | w <;> rcases inS b hb with u | u
      · omega
      · rw [if_pos w, if_neg (nin b u)] at hab
        exact absurd hab.symm (hfr b (by rw [show rn S - e = m by omega]; exact u))
      · rw [if_neg (nin a w), if_pos u] at hab
        exact absurd hab (hfr a (by rw [show rn S - e = m by omega]; exact w))
      · rw [if_neg (nin a w), if_neg (nin b u)] at hab
        exact h10 a b w u hab
    · rw [t73]
      rcases inS a ha with w | w
      · rw [if_pos w]
        exact ⟨hnm.2, hnm.1⟩
      · rw [if_neg (nin a w)]
        exact h11 a w
  have rB : RwB (m + 1) (n' + 1) cd' po' (rgO S nm) (opT T (4 + m) nm) := by
    refine ⟨o84, by omega, fun j hj => ?_, fun i j hij hj => ?_, fun q hq => ?_, ?_, fun j hj => ?_⟩
    · rw [hpo, hcd]
      by_cases c : j = m
      · rw [if_pos c, if_pos c, o85, if_pos rfl]
        exact ⟨by omega, rfl⟩
      · obtain ⟨a1, a2⟩ := b3 j (by omega)
        rw [if_neg c, if_neg c, o85, if_neg (by omega)]
        exact ⟨by omega, a2⟩
    · rw [hpo, hpo, if_neg (show ¬ i = m by omega)]
      by_cases c : j = m
      · rw [if_pos c]
        exact (b3 i (by omega)).1
      · rw [if_neg c]
        exact b4 i j hij (by omega)
    · rw [o85]
      by_cases c : q = n'
      · exact Or.inr ⟨m, by omega, by rw [hpo, if_pos rfl]; exact c⟩
      · rw [if_neg c]
        rcases b5 q (by omega) with w | ⟨j, w1, w2⟩
        · exact Or.inl w
        · exact Or.inr ⟨j, by omega, by rw [hpo, if_neg (by omega)]; exact w2⟩
    · have e1 : trc (rgO S nm) (n' + 1) = trc S n' := by
        rw [trc, trS n' (Nat.le_refl _), o85, if_pos rfl, if_neg (nI_m1 (by omega))]
        omega
      rw [e1, tO 75 (by omega) (by omega)]
      exact b6
    · rw [t74, hpo]
      by_cases c : j = m
      · rw [if_pos (by omega), if_pos c, trS n' (Nat.le_refl _)]
        exact b6
      · have := (b3 j (by omega)).1
        rw [if_neg (by omega), if_neg c, trS _ (by omega)]
        exact b7 j (by omega)
  have sw : ∀ u, u ≤ vn S → slW (rgO S nm) u = slW S u := slW_eq (fun u hu => by rw [o 80 (by omega)]) (fun u hu => isRo_tf hF (h.1.tv u hu) h.1.2.2.1.1.1)
  have ec : cn (rgO S nm) = cn S := by unfold cn; rw [o 65 (by omega)]
  have e2 : ∀ k, k < 72 → (rgO S nm).2 k = S.2 k := fun k hk => rgO_2 (by omega)
  have e78 : (rgO S nm).2 78 = S.2 78 := rgO_2 (by omega)
  have fs : FS S (rgO S nm) := ⟨fun k k1 k2 k3 => o k (by omega), e2, fun hg => ⟨by unfold Tg; rw [ec, o 65 (by omega)]; exact hg, by omega, fun _ p _ => by unfold rwT; rw [o 66 (by omega), o 67 (by omega), o 68 (by omega), o 69 (by omega), o 70 (by omega)]⟩, fun q => by rw [o 7 (by omega)]; exact q⟩
  have si := (si_rgo (nm := nm) h.1.2.2.1 hg (by omega)).1
  obtain ⟨⟨a1, a2, a3, a4, a5, a6, a7, a9, a11, a12, a13, a14, a15, a16⟩, f1, f2, f3, f4, f5⟩ := h
  refine ⟨m, h3, h5, ⟨⟨a1.fz fz, a2.fz fs fz, si, by rw [o 7 (by omega)]; exact a4, by rw [tO 53 (by omega) (by omega)]; exact a5, fz.2.2.1, ⟨m + 1, gg + 1, n' + 1, _, _, rA, rB⟩, a9.st (by rw [o 76 (by omega)]) (by rw [tO 40 (by omega) (by omega)]), ?_, a12.fz hF fs fz, by rw [o 87 (by omega), tO 76 (by omega) (by omega)]; exact a13, a14.st (tO 52 (by omega) (by omega)) (fun k k1 k2 => by rw [o k (by omega)]), by rw [tO 67 (by omega) (by omega)]; exact a15, a16.1, by rw [o 12 (by omega)]; exact a16.2⟩, ?_⟩, hF, fz, lv, m7⟩
  · obtain ⟨nn, i1, i2, i3, i4, i5, i6, i7, i8⟩ := a11
    have en : nn = vn S := by unfold vn; rw [i1, nc (by omega)]
    refine ⟨nn, by rw [o 77 (by omega)]; exact i1, by rw [tO 68 (by omega) (by omega)]; exact i2, i3, fun u hu => ?_, by rw [e78]; exact i5, fun u hu => by rw [tO 71 (by omega) (by omega), sw u (by omega)]; exact i6 u hu, by rw [o 79 (by omega)]; exact i7, i8⟩
    obtain ⟨c1, c2, y, c3, c4, c5⟩ := i4 u hu
    rw [e78, t2 69 u (by omega) (by omega), o 79 (by omega), o 80 (by omega), tO 70 (by omega) (by omega)]
    exact ⟨c1, c2, y, c3, c4, TyR.mo hF rge _ _ _ c5⟩
  · have evn : vn (rgO S nm) = vn S := by unfold vn; rw [o 77 (by omega)]
    have v20 := hV.vs.1
    unfold FwR
    rw [evn, o 79 (by omega), o 81 (by omega), o 82 (by omega), o75, o 83 (by omega), tO 70 (by omega) (by omega), tfl]
    have new : RgE e (rgO S nm) (4 + gg) (4 + m) := rA.rg.mpr (Or.inr ⟨m, by omega, by rw [hcd, if_pos rfl], rfl⟩)
    refine ⟨fun c hc hq => ?_, fun k hk hq => ?_, fun c k hr => ?_, ?_, fun u s hu hs h20 => ?_⟩
    · rw [fi_on (by omega) hc] at hq
      by_cases cc : c = 4 + gg
      · exact ⟨4 + m, by rw [cc]; exact new⟩
      · rw [if_neg cc] at hq
        obtain ⟨k, hk⟩ := f1 c hc hq
        exact ⟨k, rge c k hk⟩
    · rw [fb_sb (by omega) (by omega)] at hq
      by_cases ck : 40 + k = 40 + (4 + m)
      · exact ⟨4 + gg, by rw [show k = 4 + m by omega]; exact new⟩
      · rw [if_neg ck] at hq
        obtain ⟨c, hc⟩ := f2 k hk hq
        exact ⟨c, rge c k hc⟩
    · have l := RgE.lt hr
      rw [fi_on (by omega) (by omega), fb_sb (by omega) (by omega)]
      rcases rA.rg.mp hr with w | ⟨j, w1, w2, w3⟩
      · rw [if_neg (by omega), if_neg (by omega)]
        exact f3 c k (Or.inl w)
      · by_cases cj : j = m
        · have w2' : c = (if j = m then 4 + gg else cd j) := by rw [← hcd]; exact w2
          rw [if_pos cj] at w2'
          rw [if_pos w2', if_pos (by omega)]
        · have w2' : c = (if j = m then 4 + gg else cd j) := by rw [← hcd]; exact w2
          rw [if_neg cj] at w2'
          have := (h8 j (by omega)).2.2.2.1
          rw [if_neg (by omega), if_neg (by omega)]
          exact f3 c k (hA'.rg.mpr (Or.inr ⟨j, by omega, w2', w3⟩))
    · rw [fb_sb (by omega) (by omega), if_neg (by omega)]
      exact f4
    · rw [fb_sb (by omega) (by omega), if_neg (by omega), fb_sb (by omega) (by omega), if_neg (by omega), fb_sb (n := 40 + (4 + m)) (m := 20 + u) (by omega) (by omega), if_neg (by omega)]
      have kd : ∀ z, kdC (opT T (4 + m) nm) z = kdC T z := fun z => by
        unfold kdC kO SW
        rw [show (opT T (4 + m) nm).2 62 = T.2 62 by funext j; exact t2 62 j (by omega) (by omega)]
      obtain ⟨q1, q2⟩ := f5 u s hu hs h20
      exact ⟨q1, fun y y1 y2 y3 => q2 y y1 y2 (by rw [kd] at y3; exact y3)⟩
theorem SrR.lev (h : SrR X it e v g (n + 1) S2 T2) (hS : SrR X it e v' g' n S T) (F : TyF S S2 T T2) (fv : FV (rgO S nm) S2) (hm : rn S = e + m) (hn : n < 40) (hv : vn S2 = vn S) : SrR X it e v g n (rgL S2 (4 + S.1 86 0)) (clQ T2 (4 + m)) ∧ TyF S2 (rgL S2 (4 + S.1 86 0)) T2 (clQ T2 (4 + m)) ∧ FV S (rgL S2 (4 + S.1 86 0)) ∧ (isLv S2 (4 + S.1 86 0) = 0 ↔ fb (flw T2) (40 + (4 + m)) = false) := by
  have hV := hS.1.2.2.2.2.2.2.2.2.1
  have hV2 := h.1.2.2.2.2.2.2.2.2.1
  have s86 := hS.1.2.2.1.2.2.2.1
  have g8 := hS.1.2.2.1.2.2.2.2.1
  have s84 := hS.1.2.2.1.2.2.2.2.2.2.1
  have ean : arn S = n := by unfold arn; rw [s84]; exact nc (by omega)
  have e4g : (4 : Int32) + S.1 86 0 = nI (4 + g') := by
    rw [s86, show (4 : Int32) = nI 4 from rfl]
    exact (Int32.ofNat_add 4 g').symm
  rw [e4g]
  obtain ⟨o71, o84, o86, o73, o74, o85, o72, o75⟩ := rgO_v (nm := nm) s86 g8 ean
  have o := fun k hk => rgO_o (S := S) (nm := nm) (k := k) hk
  have r71 : S.1 71 0 = nI (rn S) ∧ rn S ≤ 11 := by
    obtain ⟨m1, _, _, _, _, hA, _⟩ := hS.1.2.2.2.2.2.2.1
    have x1 := hA.1
    have x2 := hA.2.1
    have x3 := hA.2.2.1
    exact ⟨by rw [hA.2.2.2.1, hA.2.2.1], by omega⟩
  obtain ⟨r71, r11b⟩ := r71
  obtain ⟨m2, g2, n2, cd, po, hA, hB⟩ := h.1.2.2.2.2.2.2.1
  have hA' := hA
  obtain ⟨h1, h2, h3, h4, h5, h6, h7, h8, h9, h10, h11, h12, h13⟩ := hA
  obtain ⟨b1, b2, b3, b4, b5, b6, b7⟩ := hB
  have s842 := h.1.2.2.1.2.2.2.2.2.2.1
  have s862 := h.1.2.2.1.2.2.2.1
  have g82 := h.1.2.2.1.2.2.2.2.1
  have eg : g2 = g := nI_inj (by omega) (by omega) (by rw [← h12, ← s862])
  have en2 : n2 = n + 1 := nI_inj (by omega) (by omega) (by rw [← b1, ← s842])
  subst eg en2
  have ern : rn (rgO S nm) = rn S + 1 := by
    have : rn (rgO S nm) = (nI (rn S + 1)).toNatClampNeg := by rw [← o71]; rfl
    rw [this]
    exact nc (by omega)
  have ern2 : rn S2 = rn S + 1 := by
    have : rn S2 = rn (rgO S nm) := by unfold rn; rw [fv.1]
    omega
  have em : m2 = m + 1 := by omega
  subst em
  have earO : arn (rgO S nm) = n + 1 := by
    have : arn (rgO S nm) = (nI (n + 1)).toNatClampNeg := by rw [← o84]; rfl
    rw [this]
    exact nc (by omega)
  have cdm : cd m = 4 + g' := by
    have a := (h8 m (by omega)).2.1
    have c := fv.2.1 (e + m) (by omega)
    rw [o73, if_pos (by omega)] at c
    have := (h8 m (by omega)).2.2.2.1
    exact nI_inj (by omega) (by omega) (by rw [← a, c])
  have cinj : ∀ i j, i < m + 1 → j < m + 1 → cd i = cd j → i = j := fun i j hi hj w => by
    rcases Nat.lt_trichotomy i j with q | q | q
    · have := h9 i j q hj; omega
    · exact q
    · have := h9 j i q hi; omega
  have pom : po m = n := by
    have c := fv.2.2.2.1 n (by omega)
    rw [o85, if_pos rfl] at c
    rcases b5 n (by omega) with w | ⟨j, j1, j2⟩
    · rw [w] at c
      exact absurd c.symm (nI_m1 (by omega))
    · have d := (b3 j j1).2
      rw [← j2, c] at d
      have l := (h8 j j1).2.2.2.1
      have := nI_inj (by omega) (by omega) d
      have := cinj j m j1 (by omega) (by omega)
      rw [← this]
      exact j2.symm
  -- the spec's side
  have z84 : S2.1 84 0 - 1 = nI n := by rw [s842]; exact nI_sub
  have z71 : S2.1 71 0 - 1 = nI (e + m) := by rw [h4, show e + (m + 1) = e + m + 1 by omega]; exact nI_sub
  have L : rgL S2 (nI (4 + g')) = dlS (sI (sI S2 84 0 (nI n)) 71 0 (nI (e + m))) (nI (4 + g')) := by unfold rgL; rw [z84, z71]
  rw [L]
  have lo : ∀ k, ¬ (k = 84 ∨ k = 71 ∨ k = 75) → (dlS (sI (sI S2 84 0 (nI n)) 71 0 (nI (e + m))) (nI (4 + g'))).1 k = S2.1 k := fun k hk => by
    unfold dlS
    rw [sI_ne (by omega), sI_ne (by omega), sI_ne (by omega)]
  have l84 : (dlS (sI (sI S2 84 0 (nI n)) 71 0 (nI (e + m))) (nI (4 + g'))).1 84 0 = nI n := by
    unfold dlS
    rw [sI_ne (by omega), sI_ne (by omega), sI_v]
  have l71 : (dlS (sI (sI S2 84 0 (nI n)) 71 0 (nI (e + m))) (nI (4 + g'))).1 71 0 = nI (e + m) := by
    unfold dlS
    rw [sI_ne (by omega), sI_v]
  have l75 : (dlS (sI (sI S2 84 0 (nI n)) 71 0 (nI (e + m))) (nI (4 + g'))).1 75 0 = S2.1 75 0 &&& (((1 : Int32) <<< (nI (4 + g') &&& 31)) ^^^ (-1)) := by
    unfold dlS
    rw [sI_v, sI_ne (by omega), sI_ne (by omega)]
  have l2 : (dlS (sI (sI S2 84 0 (nI n)) 71 0 (nI (e + m))) (nI (4 + g'))).2 = S2.2 := rfl
  generalize dlS (sI (sI S2 84 0 (nI n)) 71 0 (nI (e + m))) (nI (4 + g')) = S3 at lo l84 l71 l75 l2 ⊢
  have tO : ∀ k, k ≠ 72 → (clQ T2 (4 + m)).1 k = T2.1 k := fun k hk => by
    unfold clQ
    rw [sI_ne hk]
    rfl
  have t72 : (clQ T2 (4 + m)).1 72 0 = nI (4 + m) := by unfold clQ; rw [sI_v]
  have t2 : ∀ q j, q ≠ 77 → (clQ T2 (4 + m)).2 q j = T2.2 q j := fun q j hq => by
    unfold clQ
    show (sJ T2 77 0 (sbW (flw T2) (40 + (4 + m)) false)).2 q j = _
    rw [rdJ, if_neg (fun z => hq z.1)]
  have tfl : flw (clQ T2 (4 + m)) = sbW (flw T2) (40 + (4 + m)) false := flw_w (T := T2) (w := sbW (flw T2) (40 + (4 + m)) false)
  have evnO : vn (rgO S nm) = vn S := by unfold vn; rw [o 77 (by omega)]
  have evn3 : vn S3 = vn S := by unfold vn at hv ⊢; rw [lo 77 (by omega)]; exact hv
  have ern3 : rn S3 = rn S := by
    have : rn S3 = (nI (e + m)).toNatClampNeg := by rw [← l71]; rfl
    rw [this, hm]
    exact nc (by omega)
  have hF : TyF S2 S3 T2 (clQ T2 (4 + m)) := TyF.st (by rw [lo 65 (by omega)]) (fun k _ _ => lo k (by omega)) (lo 15 (by omega)) (by funext j; exact t2 62 j (by omega)) (t2 63 0 (by omega))
  have fv3 : FV S S3 := by
    obtain ⟨q1, q2, q3, q4, q5, q6, q7⟩ := fv
    refine ⟨by rw [l71, r71, hm], fun k hk => ?_, by rw [l84, s84], fun q hq => ?_, by omega, fun u hu => ?_, ?_⟩
    · rw [lo 73 (by omega), q2 k (by omega), o73, if_neg (by omega)]
    · rw [lo 85 (by omega), q4 q (by omega), o85, if_neg (by omega)]
    · rw [lo 79 (by omega), lo 80 (by omega), (q6 u (by omega)).1, (q6 u (by omega)).2.1, o 79 (by omega), o 80 (by omega), l2, (q6 u (by omega)).2.2, rgO_2 (by omega)]
      exact ⟨rfl, rfl, rfl⟩
    · rw [lo 12 (by omega), q7, o 12 (by omega)]
  have hR3 : RgE e S3 = RgE e S := RgE.fv fv3
  have hR2 : RgE e S2 = RgE e (rgO S nm) := RgE.fv fv
  have sub : ∀ c k, RgE e S c k → RgE e S2 c k := fun c k hr => by
    rw [hR2]
    rcases hr with w | ⟨j, w1, w2, w3, w4⟩
    · exact Or.inl w
    · exact Or.inr ⟨j, by omega, w2, by rw [o73, if_neg (by omega)]; exact w3, w4⟩
  have rg3 : ∀ c k, RgE e S2 c k → ¬ k = 4 + m → RgE e S3 c k := fun c k hr hk => by
    rcases hA'.rg.mp hr with w | ⟨j, w1, w2, w3⟩
    · exact Or.inl w
    · obtain ⟨x1, x2, x3, x4, x5⟩ := h8 j w1
      exact Or.inr ⟨j, by omega, by omega, by rw [lo 73 (by omega), w2]; exact x2, by omega, by omega, w3⟩
  have pr : RgE e S2 (4 + g') (4 + m) := hA'.rg.mpr (Or.inr ⟨m, by omega, by omega, rfl⟩)
  have r11 := hA'.r11
  have rA : RwA e m g2 cd S3 (clQ T2 (4 + m)) := by
    refine ⟨h1, by omega, by omega, l71, t72, fun k hk => ?_, fun k k1 k2 => ?_, fun j hj => ?_, fun i j hij hj => h9 i j hij (by omega), fun a b ha hb hab => ?_, fun a ha => ?_, by rw [lo 86 (by omega)]; exact h12, h13⟩
    · rw [l2, t2 73 _ (by omega), lo 73 (by omega)]; exact h6 k hk
    · rw [t2 73 _ (by omega)]; exact h7 k k1 k2
    · rw [l2, t2 73 _ (by omega), lo 73 (by omega), lo 74 (by omega)]; exact h8 j (by omega)
    · rw [t2 73 _ (by omega), t2 73 _ (by omega)] at hab
      exact h10 a b (by rcases ha with w | w; exact Or.inl w; exact Or.inr (by omega)) (by rcases hb with w | w; exact Or.inl w; exact Or.inr (by omega)) hab
    · rw [t2 73 _ (by omega)]
      exact h11 a (by rcases ha with w | w; exact Or.inl w; exact Or.inr (by omega))
  have trS : ∀ q, trc S3 q = trc S2 q := fun q => by
    induction q with
    | zero => rfl
    | succ q ih => rw [trc, trc, ih, lo 85 (by omega)]
  have rB : RwB m n cd po S3 (clQ T2 (4 + m)) := by
    refine ⟨l84, by omega, fun j hj => ?_, fun i j hij hj => b4 i j hij (by omega), fun q hq => ?_, ?_, fun j hj => ?_⟩
    · rw [lo 85 (by omega)]
      have := b4 j m hj (by omega)
      exact ⟨by omega, (b3 j (by omega)).2⟩
    · rw [lo 85 (by omega)]
      rcases b5 q (by omega) with w | ⟨j, w1, w2⟩
      · exact Or.inl w
      · exact Or.inr ⟨j, by
          by_cases c : j = m
          · rw [c, pom] at w2; omega
          · omega, w2⟩
    · rw [tO 75 (by omega), b6, trS, trc]
      have c := fv.2.2.2.1 n (by omega)
      rw [o85, if_pos rfl] at c
      rw [c, if_neg (nI_m1 (by omega))]
      rfl
    · rw [tO 74 (by omega), trS]
      exact b7 j (by omega)
  have fz : FZ T2 (clQ T2 (4 + m)) := FZ.sc h.1.2.2.2.2.2.1 (fun k hk => tO k (by omega)) (fun q j _ _ b => t2 q j b) (by rw [tO 71 (by omega)])
  have sw : ∀ u, u ≤ vn S2 → slW S3 u = slW S2 u := slW_eq (fun u hu => by rw [lo 80 (by omega)]) (fun u hu => isRo_tf hF (h.1.tv u hu) h.1.2.2.1.1.1)
  have ec : cn S3 = cn S2 := by unfold cn; rw [lo 65 (by omega)]
  have fs : FS S2 S3 := ⟨fun k k1 k2 k3 => lo k (by omega), fun k _ => by rw [l2], fun hg => ⟨by unfold Tg; rw [ec, lo 65 (by omega)]; exact hg, by omega, fun _ p _ => by unfold rwT; rw [lo 66 (by omega), lo 67 (by omega), lo 68 (by omega), lo 69 (by omega), lo 70 (by omega)]⟩, fun q => by rw [lo 7 (by omega)]; exact q⟩
  have lvq : isLv S2 (nI (4 + g')) = 0 ↔ fb (flw T2) (40 + (4 + m)) = false := by rw [isLv_fi (by omega), h.2.2.2.1 _ _ pr]
  obtain ⟨⟨a1, a2, a3, a4, a5, a6, a7, a9, a11, a12, a13, a14, a15, a16⟩, f1, f2, f3, f4, f5⟩ := h
  refine ⟨⟨⟨a1.fz fz, a2.fz fs fz, ?_, by rw [lo 7 (by omega)]; exact a4, by rw [tO 53 (by omega)]; exact a5, fz.2.2.1, ⟨m, g2, n, cd, po, rA, rB⟩, a9.st (by rw [lo 76 (by omega)]) (by rw [tO 40 (by omega)]), ?_, a12.fz hF fs fz, by rw [lo 87 (by omega), tO 76 (by omega)]; exact a13, a14.st (tO 52 (by omega)) (fun k k1 k2 => by rw [lo k (by omega)]), by rw [tO 67 (by omega)]; exact a15, a16.1, by rw [lo 12 (by omega)]; exact a16.2⟩, ?_⟩, hF, fv3, lvq⟩
  · obtain ⟨s1, s2, s3, s4, s5, s6, s7, s8⟩ := a3
    refine ⟨s1.mv (fun k a b => lo k (by omega)) (fun k hk => by rw [l2]) ?_ ?_ ?_, by omega, by rw [lo 83 (by omega)]; exact s3, by rw [lo 86 (by omega)]; exact s4, s5, by omega, l84, fun j hj => by rw [lo 85 (by omega)]; exact s8 j (by omega)⟩
    · have := s1.2.2.1
      refine ⟨⟨by rw [l71, ern3, hm], by omega⟩, fun k hk => ?_⟩
      rw [lo 73 (by omega)]
      exact this.2 k (by omega)
    · have := s1.2.2.2.1
      intro z hz
      rw [lo 74 (by omega)]
      exact this z hz
    · have := s1.2.2.2.2.2
      refine ⟨by rw [lo 77 (by omega)]; rw [evn3, ← hv]; exact this.1, by rw [evn3, ← hv]; exact this.2.1, fun u hu => ?_⟩
      rw [lo 80 (by omega)]
      exact this.2.2 u (by omega)
  · obtain ⟨nn, i1, i2, i3, i4, i5, i6, i7, i8⟩ := a11
    have enn : nn = vn S2 := by unfold vn; rw [i1, nc (by omega)]
    refine ⟨nn, by rw [lo 77 (by omega)]; exact i1, by rw [tO 68 (by omega)]; exact i2, i3, fun u hu => ?_, by rw [l2]; exact i5, fun u hu => by rw [tO 71 (by omega), sw u (by omega)]; exact i6 u hu, by rw [lo 79 (by omega)]; exact i7, i8⟩
    obtain ⟨c1, c2, y, c3, c4, c5⟩ := i4 u hu
    rw [l2, t2 69 u (by omega), lo 79 (by omega), lo 80 (by omega), tO 70 (by omega), hR3]
    refine ⟨c1, c2, y, c3, c4, ?_⟩
    obtain ⟨_, _, _, y0, d1, d2, d3⟩ := hV.at (show u < vn S by omega)
    have e80 : S2.1 80 u = S.1 80 u := by
      have := (fv.2.2.2.2.2.1 u (by omega)).2.1
      rw [this, o 80 (by omega)]
    have k1 : TyR (RgE e S2) S2 T2 5 (S2.1 80 u) y0 := by rw [e80]; exact TyR.mo F sub _ _ _ d3
    have ey := TyR.cl r11 a6.1 _ _ _ _ c5 k1
    rw [e80, ey]
    exact TyR.mo (F.tr hF) (fun _ _ z => z) _ _ _ d3
  · have v20 := hV.vs.1
    unfold FwR
    rw [evn3, lo 79 (by omega), lo 81 (by omega), lo 82 (by omega), l75, lo 83 (by omega), tO 70 (by omega), tfl]
    refine ⟨fun c hc hq => ?_, fun k hk hq => ?_, fun c k hr => ?_, ?_, fun u s hu hs h20 => ?_⟩
    · rw [fi_of (by omega) hc] at hq
      by_cases cc : c = 4 + g'
      · rw [if_pos cc] at hq; cases hq
      · rw [if_neg cc] at hq
        obtain ⟨k, hk⟩ := f1 c hc hq
        exact ⟨k, rg3 c k hk (fun w => cc (r11.2 _ _ _ (w ▸ hk) pr))⟩
    · rw [fb_sb (by omega) (by omega)] at hq
      by_cases ck : 40 + k = 40 + (4 + m)
      · rw [if_pos ck] at hq; cases hq
      · rw [if_neg ck] at hq
        obtain ⟨c, hc⟩ := f2 k hk hq
        exact ⟨c, rg3 c k hc (by omega)⟩
    · have l := RgE.lt hr
      rw [hR3] at hr
      have hr2 := sub c k hr
      have nk : ¬ k = 4 + m := fun w => by
        rcases hr with u | ⟨j, u1, u2, u3, u4, u5, u6⟩ <;> omega
      have ncg : ¬ c = 4 + g' := fun w => by
        subst w
        exact nk (r11.1 _ _ _ hr2 pr)
      rw [fi_of (by omega) (by omega), if_neg ncg, fb_sb (by omega) (by omega), if_neg (by omega)]
      exact f3 c k hr2
    · rw [fb_sb (by omega) (by omega), if_neg (by omega)]
      exact f4
    · rw [fb_sb (by omega) (by omega), if_neg (by omega), fb_sb (by omega) (by omega), if_neg (by omega), fb_sb (n := 40 + (4 + m)) (m := 20 + u) (by omega) (by omega), if_neg (by omega)]
      have kd : ∀ z, kdC (clQ T2 (4 + m)) z = kdC T2 z := fun z => by
        unfold kdC kO SW
        rw [show (clQ T2 (4 + m)).2 62 = T2.2 62 by funext j; exact t2 62 j (by omega)]
      obtain ⟨q1, q2⟩ := f5 u s (by omega) hs h20
      exact ⟨q1, fun y y1 y2 y3 => q2 y y1 y2 (by rw [kd] at y3; exact y3)⟩
end ZSD
