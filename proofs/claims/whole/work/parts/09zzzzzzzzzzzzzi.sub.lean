/-! every STEP keeps REGIONS and what lies around */
-/
def lsVA : Tr → Bool
  | .add (.add (.var k) (.add (.var _) (.var _))) (.add _ _) => decide (k = 11) || decide (k = 20)
  | _ => false
section SUB
variable {S S' S1 S2 S3 S4 Sf : gSt} {X : Lx} {it e e' v g n k i q c en m j a b v' g' N : Nat} {ta tb t : Tr} {x oq pl st kq lq rc ys no : Int32} {nm : Int64} {A B : StF} {cd po : Nat → Nat}
theorem lsVA_n : lsVA (tD k i e ta tb) = (decide (k = 11) || decide (k = 20)) := rfl
/-- the last REGION around */
-/
theorem inL_w (hn : n = q + j) (h4 : ∀ i, i < m → po i < n ∧ S.1 85 (po i) = nI (cd i)) (h2 : ∀ i, i < m → 4 ≤ cd i ∧ cd i < 12) (h5 : ∀ i j, i < j → j < m → po i < po j) (h6 : ∀ q, q < n → S.1 85 q = -1 ∨ ∃ i, i < m ∧ q = po i) : ∀ (q j : Nat) (z : Int32), n = q + j → inL S q j z = if 1 ≤ m ∧ j ≤ po (m - 1) then nI (cd (m - 1)) else z := by
  intro q
  induction q with
  | zero =>
    intro j z hj
    rw [inL, if_neg]
    rintro ⟨w1, w2⟩
    have := (h4 (m - 1) (by omega)).1
    omega
  | succ q ih =>
    intro j z hj
    rw [inL, ih (j + 1) _ (by omega)]
    rcases h6 j (by omega) with w | ⟨i, i1, i2⟩
    · have ne : 1 ≤ m → ¬ j = po (m - 1) := fun m1 w0 => by
        have h1 := (h4 (m - 1) (by omega)).2
        rw [← w0, w] at h1
        exact nI_neg1 (by have := h2 (m - 1) (by omega); omega) h1
      rw [w, if_pos (show (-1 : Int32) ≤ 0 by decide)]
      by_cases c : 1 ≤ m ∧ j ≤ po (m - 1)
      · have := ne c.1
        rw [if_pos c, if_pos (by omega)]
      · rw [if_neg c, if_neg (by omega)]
    · have h1 := (h4 i i1).2
      have h3 := h2 i i1
      rw [← i2] at h1
      rw [h1, if_neg (nI_np (by omega) (by omega))]
      have le : po i ≤ po (m - 1) := by
        by_cases c : i = m - 1
        · rw [c]; exact Nat.le_refl _
        · exact Nat.le_of_lt (h5 i (m - 1) (by omega) (by omega))
      rw [if_pos (show 1 ≤ m ∧ j ≤ po (m - 1) by omega)]
      by_cases c : 1 ≤ m ∧ j + 1 ≤ po (m - 1)
      · rw [if_pos c]
      · rw [if_neg c]
        have : i = m - 1 := by
          refine Decidable.byContradiction fun w => ?_
          have := h5 i (m - 1) (by omega) (by omega)
          omega
        rw [this]
theorem RwS.mg (h : RwS en S) : ∃ m g n, rn S = en + m ∧ S.1 71 0 = nI (en + m) ∧ S.1 86 0 = nI g ∧ S.1 84 0 = nI n ∧ m ≤ g ∧ g ≤ 8 ∧ en ≤ 3 ∧ n ≤ 40 ∧ (∀ k, k < en → S.1 73 k = nI (k + 1)) ∧ (∀ q, q < n → S.1 85 q = -1 ∨ ∃ c, S.1 85 q = nI c ∧ 4 ≤ c ∧ c < 4 + g) ∧ (∀ j, j < m → ∃ c, S.1 73 (en + j) = nI c ∧ 4 ≤ c ∧ c < 4 + g) := by
  obtain ⟨m, g, n, cd, po, ⟨a1, a2, a3, a4, a5, a6, a7, a8⟩, b1, b2, b3, b4, b5, b6, b7, b8⟩ := h
  have lo : ∀ j, j < m → 4 + j ≤ cd j := by
    intro j
    induction j with
    | zero => intro hj; exact (b2 0 hj).2.1
    | succ j ih =>
      intro hj
      have := ih (by omega)
      have := b3 j (j + 1) (by omega) hj
      omega
  refine ⟨m, g, n, a3, a4, a5, a7, ?_, a6, a1, a8, b1, fun q hq => ?_, fun j hj => ⟨cd j, (b2 j hj).1, (b2 j hj).2.1, (b2 j hj).2.2.1⟩⟩
  · by_cases c : m = 0
    · omega
    · have := lo (m - 1) (by omega)
      have := (b2 (m - 1) (by omega)).2.2.1
      omega
  · rcases b6 q hq with w | ⟨j, j1, j2⟩
    · exact Or.inl w
    · exact Or.inr ⟨cd j, by rw [j2]; exact (b4 j j1).2, (b2 j j1).2.1, (b2 j j1).2.2.1⟩
/-- what rgO does */
-/
theorem rgO_w (hg : S.1 86 0 = nI g) (g8 : g ≤ 8) (hr : rn S < 50) (ha : arn S < 90) : (rgO S nm).1 86 0 = nI (g + 1) ∧ rn (rgO S nm) = rn S + 1 ∧ (rgO S nm).1 71 0 = nI (rn S + 1) ∧ arn (rgO S nm) = arn S + 1 ∧ (rgO S nm).1 84 0 = nI (arn S + 1) ∧ (∀ k, (rgO S nm).1 73 k = if k = rn S then nI (4 + g) else S.1 73 k) ∧ (∀ q, (rgO S nm).1 85 q = if q = arn S then nI (4 + g) else S.1 85 q) ∧ (∀ c, (rgO S nm).1 74 c = if c = 4 + g then inL S (arn S) 0 0 else S.1 74 c) ∧ (∀ c, c < 32 → fi ((rgO S nm).1 75 0) c = if c = 4 + g then true else fi (S.1 75 0) c) ∧ (∀ k, k ≠ 71 → k ≠ 73 → k ≠ 74 → k ≠ 75 → k ≠ 84 → k ≠ 85 → k ≠ 86 → (rgO S nm).1 k = S.1 k) ∧ (∀ k, k ≠ 72 → (rgO S nm).2 k = S.2 k) := by
  have e4 : (4 : Int32) + S.1 86 0 = nI (4 + g) := by rw [hg]; exact (Int32.ofNat_add _ _).symm
  have e5 : (4 + S.1 86 0).toNatClampNeg = 4 + g := by rw [e4, nc (by omega)]
  unfold rgO
  rw [e5, e4]
  refine ⟨?_, ?_, ?_, ?_, ?_, fun k => ?_, fun q => ?_, fun c => ?_, fun c hc => ?_, fun k k1 k2 k3 k4 k5 k6 k7 => ?_, fun k hk => ?_⟩
  · rw [sI_ne (by omega), sI_ne (by omega), sI_ne (by omega), sI_ne (by omega), sI_ne (by omega), sJ_i, sI_ne (by omega), sI_v, hg, nI_1]
  · unfold rn
    rw [sI_ne (by omega), sI_ne (by omega), sI_ne (by omega), sI_v, nc (by unfold rn at hr; omega)]
  · rw [sI_ne (by omega), sI_ne (by omega), sI_ne (by omega), sI_v]
  · unfold arn
    rw [sI_ne (by omega), sI_v, nc (by unfold arn at ha; omega)]
  · rw [sI_ne (by omega), sI_v]
  · rw [sI_ne (by omega), sI_ne (by omega), sI_ne (by omega), sI_ne (by omega), rdI]
    by_cases c : k = rn S
    · rw [if_pos ⟨rfl, c⟩, if_pos c]
    · rw [if_neg (fun w => c w.2), if_neg c, sJ_i, sI_ne (by omega), sI_ne (by omega)]
  · rw [sI_ne (by omega), sI_ne (by omega), rdI]
    by_cases c : q = arn S
    · rw [if_pos ⟨rfl, c⟩, if_pos c]
    · rw [if_neg (fun w => c w.2), if_neg c, sI_ne (by omega), sI_ne (by omega), sJ_i, sI_ne (by omega), sI_ne (by omega)]
  · rw [sI_ne (by omega), sI_ne (by omega), sI_ne (by omega), sI_ne (by omega), sI_ne (by omega), sJ_i, rdI]
    by_cases z : c = 4 + g
    · rw [if_pos ⟨rfl, z⟩, if_pos z]
    · rw [if_neg (fun w => z w.2), if_neg z, sI_ne (by omega)]
  · rw [sI_v, fi_on (by omega) hc]
  · rw [sI_ne k4, sI_ne k5, sI_ne k6, sI_ne k1, sI_ne k2, sJ_i, sI_ne k3, sI_ne k7]
  · exact sJ_ne hk
theorem RwS.opn (h : RwS en S) (hg : S.1 86 0 = nI g) (g8 : g < 8) (hn : arn S < 40) : RwS en (rgO S nm) := by
  have mg := h.mg
  obtain ⟨m, g', n, cd, po, ⟨a1, a2, a3, a4, a5, a6, a7, a8⟩, b1, b2, b3, b4, b5, b6, b7, b8⟩ := h
  obtain ⟨m', g2, n', e1, _, e3, _, e4, _⟩ := mg
  have eg : g' = g := nI_inj (by omega) (by omega) (by rw [← a5, hg])
  have eg2 : g2 = g := nI_inj (by omega) (by omega) (by rw [← e3, hg])
  have em : m' = m := by omega
  subst em
  subst eg2
  subst eg
  have en' : arn S = n := by unfold arn; rw [a7, nc (by omega)]
  obtain ⟨r1, r2, r3, r4, r5, r6, r7, r8, r9, r10, r11⟩ := rgO_w (nm := nm) hg (by omega) (by omega) (by omega)
  refine ⟨m' + 1, g' + 1, n + 1, fun j => if j = m' then 4 + g' else cd j, fun j => if j = m' then n else po j, ⟨a1, by omega, by rw [r2, a3]; omega, by rw [r3, a3]; rfl, r1, by omega, by rw [r5, en'], by omega⟩, fun k hk => ?_, fun j hj => ?_, fun i j hi hj => ?_, fun j hj => ?_, fun i j hi hj => ?_, fun q hq => ?_, fun c hc w => ?_, ?_⟩
  · rw [r6, if_neg (by omega)]; exact b1 k hk
  · dsimp only
    by_cases c : j = m'
    · subst c
      rw [if_pos rfl, r6, if_pos (by omega), r8, if_pos rfl]
      refine ⟨rfl, by omega, by omega, ?_⟩
      rw [en', inL_w (n := n) (m := j) (cd := cd) (po := po) (q := n) (j := 0) rfl b4 (fun i hi => ⟨(b2 i hi).2.1, by have := (b2 i hi).2.2.1; omega⟩) b5 b6 n 0 0 rfl]
      by_cases z : j = 0
      · rw [if_neg (by omega), if_pos z]
      · rw [if_pos (by omega), if_neg z, if_neg (by omega)]
    · obtain ⟨z1, z2, z3, z4⟩ := b2 j (by omega)
      rw [if_neg c, r6, if_neg (by omega), r8, if_neg (by omega)]
      refine ⟨z1, z2, by omega, ?_⟩
      rw [z4]
      by_cases z : j = 0
      · rw [if_pos z, if_pos z]
      · rw [if_neg z, if_neg z, if_neg (by omega)]
  · dsimp only
    by_cases c : j = m'
    · rw [if_pos c, if_neg (by omega)]
      have := (b2 i (by omega)).2.2.1
      exact this
    · rw [if_neg c, if_neg (by omega)]
      exact b3 i j hi (by omega)
  · dsimp only
    by_cases c : j = m'
    · rw [if_pos c, if_pos c, r7, if_pos (by omega)]
      exact ⟨by omega, rfl⟩
    · obtain ⟨z1, z2⟩ := b4 j (by omega)
      rw [if_neg c, if_neg c, r7, if_neg (by omega)]
      exact ⟨by omega, z2⟩
  · dsimp only
    by_cases c : j = m'
    · rw [if_pos c, if_neg (by omega)]
      exact (b4 i (by omega)).1
    · rw [if_neg c, if_neg (by omega)]
      exact b5 i j hi (by omega)
  · rw [r7]
    by_cases c : q = arn S
    · rw [if_pos c]
      exact Or.inr ⟨m', by omega, by dsimp only; rw [if_pos rfl]; omega⟩
    · rw [if_neg c]
      rcases b6 q (by omega) with w | ⟨j, j1, j2⟩
      · exact Or.inl w
      · exact Or.inr ⟨j, by omega, by dsimp only; rw [if_neg (by omega)]; exact j2⟩
  · rw [r9 c hc] at w
    by_cases z : c = 4 + g'
    · exact Or.inr ⟨m', by omega, by dsimp only; rw [if_pos rfl]; exact z⟩
    · rw [if_neg z] at w
      rcases b7 c hc w with w | ⟨j, j1, j2⟩
      · exact Or.inl w
      · exact Or.inr ⟨j, by omega, by dsimp only; rw [if_neg (by omega)]; exact j2⟩
  · rw [r9 0 (by omega), if_neg (by omega)]
    exact b8
theorem RwS.tr (h : RwS en S) (hn : arn S < 40) : RwS en (trO S) := by
  obtain ⟨m, g, n, cd, po, ⟨a1, a2, a3, a4, a5, a6, a7, a8⟩, b1, b2, b3, b4, b5, b6, b7, b8⟩ := h
  have en' : arn S = n := by unfold arn; rw [a7, nc (by omega)]
  have o : ∀ k, k ≠ 84 → k ≠ 85 → (trO S).1 k = S.1 k := fun k k1 k2 => by unfold trO; rw [sI_ne k1, sI_ne k2]
  have o85 : ∀ q, (trO S).1 85 q = if q = arn S then -1 else S.1 85 q := fun q => by
    unfold trO
    rw [sI_ne (by omega), rdI]
    by_cases c : q = arn S
    · rw [if_pos ⟨rfl, c⟩, if_pos c]
    · rw [if_neg (fun w => c w.2), if_neg c]
  refine ⟨m, g, n + 1, cd, po, ⟨a1, a2, by unfold rn; rw [o 71 (by omega) (by omega)]; exact a3, by rw [o 71 (by omega) (by omega)]; exact a4, by rw [o 86 (by omega) (by omega)]; exact a5, a6, by unfold trO; rw [sI_v, en'], by omega⟩, fun k hk => by rw [o 73 (by omega) (by omega)]; exact b1 k hk, fun j hj => by rw [o 73 (by omega) (by omega), o 74 (by omega) (by omega)]; exact b2 j hj, b3, fun j hj => ?_, b5, fun q hq => ?_, fun c hc w => by rw [o 75 (by omega) (by omega)] at w; exact b7 c hc w, by rw [o 75 (by omega) (by omega)]; exact b8⟩
  · obtain ⟨z1, z2⟩ := b4 j hj
    exact ⟨by omega, by rw [o85, if_neg (by omega)]; exact z2⟩
  · rw [o85]
    by_cases c : q = arn S
    · exact Or.inl (if_pos c)
    · rw [if_neg c]
      exact b6 q (by omega)
/-- close: what it closes */
-/
theorem cs_ok (h : RwS en S) (hC : Cst S) (h0 : S.1 7 0 = 0) (h1 : (csC X i S).1 7 0 = 0) : ∃ c q0, srR X S (i + 1) = nI c ∧ 4 ≤ c ∧ c < 12 ∧ q0 < arn S ∧ S.1 85 q0 = nI c ∧ ¬ isLv S (nI c) = 0 ∧ (∀ q, q0 < q → q < arn S → ¬ S.1 85 q < 0 ∧ isLv S (S.1 85 q) = 0) ∧ (∀ q, q < arn S → S.1 85 q = nI c → q = q0) ∧ csC X i S = dlS S (nI c) ∧ sght S c := by
  have hq : 0 ≤ rgQ X S (i + 1) := by
    refine Decidable.byContradiction fun w => ?_
    have e : srS X S (i + 1) = flT S 3 (nI (xP X (i + 1))) := by unfold srS; rw [if_neg w]
    unfold csC at h1
    rw [e, if_neg (flT_bad (by decide))] at h1
    exact flT_bad (by decide) h1
  have es : srS X S (i + 1) = S := by unfold srS; rw [if_pos hq]
  obtain ⟨c, ec, sg⟩ := rgQ_sg hC hq
  unfold csC at h1 ⊢
  rw [es, if_pos h0] at h1 ⊢
  by_cases w : srR X S (i + 1) < 4 ∨ isLv S (srR X S (i + 1)) = 0
  · rw [if_pos w] at h1
    exact absurd h1 (flT_bad (by decide))
  rw [if_neg w] at h1 ⊢
  rw [ec] at w h1 ⊢
  have c12 : c < 12 := by
    rcases sg with z | z
    · omega
    · exact z.1
  have c4 : 4 ≤ c := by
    refine Decidable.byContradiction fun z => w (Or.inl ?_)
    exact (nI_ltI (a := c) (b := 4) (by omega) (by omega)).mpr (by omega)
  have lv : ¬ isLv S (nI c) = 0 := fun z => w (Or.inr z)
  obtain ⟨m, g, n, cd, po, ⟨a1, a2, a3, a4, a5, a6, a7, a8⟩, b1, b2, b3, b4, b5, b6, b7, b8⟩ := h
  have en' : arn S = n := by unfold arn; rw [a7, nc (by omega)]
  have inj : ∀ q, q < n → S.1 85 q = nI c → ∃ j, j < m ∧ q = po j ∧ cd j = c := fun q hq he => by
    rcases b6 q hq with z | ⟨j, j1, j2⟩
    · rw [z] at he
      exact absurd he (nI_neg1 (by omega))
    · refine ⟨j, j1, j2, ?_⟩
      have := (b4 j j1).2
      rw [← j2, he] at this
      exact (nI_inj (by omega) (by have := (b2 j j1).2.2.1; omega) this).symm
  have cdi : ∀ i j, i < m → j < m → cd i = cd j → i = j := fun i j hi hj e => by
    rcases Nat.lt_trichotomy i j with z | z | z
    · have := b3 i j z hj; omega
    · exact z
    · have := b3 j i z hi; omega
  obtain ⟨j, j1, j2⟩ : ∃ j, j < m ∧ c = cd j := by
    have hl : fi (S.1 75 0) c = true := by
      cases e : fi (S.1 75 0) c with
      | true => rfl
      | false => exact absurd ((isLv_fi (by omega)).mpr e) lv
    rcases b7 c (by omega) hl with z | z
    · omega
    · exact z
  have uq : ∀ q, q < n → S.1 85 q = nI c → q = po j := fun q hq he => by
    obtain ⟨i, i1, i2, i3⟩ := inj q hq he
    rw [i2, cdi i j i1 j1 (by omega)]
  have pj := b4 j j1
  have above : ∀ q, po j < q → q < n → ¬ S.1 85 q < 0 ∧ isLv S (S.1 85 q) = 0 := fun q h2 h3 => by
    refine Decidable.byContradiction fun z => ?_
    have bad : S.1 85 q < 0 ∨ ¬ isLv S (S.1 85 q) = 0 := by
      by_cases z1 : S.1 85 q < 0
      · exact Or.inl z1
      · exact Or.inr fun z2 => z ⟨z1, z2⟩
    rw [arL_no h0 (by rw [j2]; exact pj.2) h2 bad (arn S) (by omega) (fun q' q1 q2 e => by have := uq q' (by omega) e; omega)] at h1
    exact flT_bad (T := S) (a := 8) (b := nI (xP X i)) (by decide) (by
      have e : (dlS (flT S 8 (nI (xP X i))) (nI c)).1 7 0 = (flT S 8 (nI (xP X i))).1 7 0 := by unfold dlS; rw [sI_ne (by omega)]
      rw [← e]
      exact h1)
  refine ⟨c, po j, rfl, c4, c12, by omega, by rw [pj.2, j2], lv, fun q h2 h3 => above q h2 (by omega), fun q hq he => uq q (by omega) he, ?_, sg⟩
  rw [arL_ok (p := po j) (by rw [pj.2, j2]) (arn S) (by omega) (fun q h2 h3 => ⟨fun e => by have := uq q (by omega) e; omega, above q h2 (by omega)⟩)]
end SUB
