/-! the whole check: heads, then funs -/
section CHW
variable {nf d : Nat} {T T' T1 S S' : gSt} {X : Lx} {it r k j c n m w i f fl q t lo hi a b v' g' p p' rt : Nat} {l : List Nat} {x y : Int32} {nm : Int64} {tt : Tr} {z : It} {Q : Int32 → Int64 → gSt → Prop}
theorem aw_er : Aw T (er T) := ⟨Nat.le_refl _, fun j _ => ⟨rfl, rfl⟩, Nat.le_refl _, fun g j a b _ => by rw [er_i (by unfold anF; simp; omega)], fun j _ => rfl⟩
/-- RepI reads no field 24 26 30 -/
theorem RepI.gx (h : RepI X T t c p p' z) (o : ∀ g, 9 ≤ g → g < 37 → g ≠ 24 → g ≠ 26 → g ≠ 30 → T'.1 g = T.1 g) (o2 : ∀ g, g < 72 → T'.2 g = T.2 g) (aw : Aw T T') (hS : ∀ (tt : Tr) (lo hi : Nat) (x : Int32), RepS X T tt lo lo hi x → RepS X T' tt lo lo hi x) : RepI X T' t c p p' z := by
  obtain ⟨i, ee, l, rt, dt, n, wt, w, b⟩ := z
  obtain ⟨a1, a2, a3, a4, a5, a6, a7, a8, a9, a10, a11, a12, a13⟩ := h
  refine ⟨?_, ?_, ?_, a4, ?_, ?_, ?_, ?_, a9, ?_, ?_, ?_, ?_⟩
  · rw [o 12 (by omega) (by omega) (by omega) (by omega) (by omega)]; exact a1
  · rw [o2 13 (by omega)]; exact a2
  · rw [o 14 (by omega) (by omega) (by omega) (by omega) (by omega)]; exact a3
  · rw [o 15 (by omega) (by omega) (by omega) (by omega) (by omega)]; exact a5
  · intro k hk
    unfold entR
    rw [o2 16 (by omega), o 17 (by omega) (by omega) (by omega) (by omega) (by omega)]
    exact a6 k hk
  · rw [o 18 (by omega) (by omega) (by omega) (by omega) (by omega)]; exact a7
  · rw [o 19 (by omega) (by omega) (by omega) (by omega) (by omega)]; exact a8
  · intro k hk
    obtain ⟨x1, x2, w', x3, x4⟩ := a10 k hk
    exact ⟨by rw [o2 21 (by omega)]; exact x1, by rw [o 22 (by omega) (by omega) (by omega) (by omega) (by omega)]; exact x2, w', by rw [o 23 (by omega) (by omega) (by omega) (by omega) (by omega)]; exact x3, RepW.av 6 w' _ aw.av x4⟩
  · by_cases hrt : rt = 0
    · rw [if_pos hrt] at a11 ⊢
      rw [o 25 (by omega) (by omega) (by omega) (by omega) (by omega)]; exact a11
    · rw [if_neg hrt] at a11 ⊢
      obtain ⟨w', x1, x2⟩ := a11
      exact ⟨w', by rw [o 25 (by omega) (by omega) (by omega) (by omega) (by omega)]; exact x1, RepW.av 6 w' _ aw.av x2⟩
  · obtain ⟨x1, x2, x3, x4, x5, x6⟩ := a12
    refine ⟨x1, by rw [o 27 (by omega) (by omega) (by omega) (by omega) (by omega)]; exact x2, fun k hk => ?_, x4, by rw [o 31 (by omega) (by omega) (by omega) (by omega) (by omega)]; exact x5, fun k hk => ?_⟩
    · unfold entD
      rw [o2 28 (by omega), o 29 (by omega) (by omega) (by omega) (by omega) (by omega)]
      exact x3 k hk
    · unfold entW
      rw [o2 32 (by omega), o 33 (by omega) (by omega) (by omega) (by omega) (by omega)]
      exact x6 k hk
  · intro k12
    obtain ⟨lo, hi, h0, h1, h2⟩ := a13 k12
    refine ⟨lo, hi, h0, h1, ?_⟩
    rw [o 34 (by omega) (by omega) (by omega) (by omega) (by omega)]
    exact hS _ _ _ _ h2
theorem RepP.hd2 (hF : ∀ k, k < 65 → k ≠ 7 → k ≠ 8 → k ≠ 24 → k ≠ 26 → k ≠ 30 → (er T').1 k = (er T).1 k) (hF2 : ∀ k, k < 72 → (er T').2 k = (er T).2 k) (hA : An T T') : ∀ (xs : List It) (t c p : Nat), RepP X T t c p xs → RepP X T' t c p xs := by
  have o : ∀ g, g < 65 → g ≠ 7 → g ≠ 8 → g ≠ 24 → g ≠ 26 → g ≠ 30 → anF g = false → T'.1 g = T.1 g := fun g h1 h2 h3 h4 h5 h6 h7 => by
    have := hF g h1 h2 h3 h4 h5 h6
    rw [er_i h7, er_i h7] at this
    exact this
  have o2 : ∀ g, g < 72 → T'.2 g = T.2 g := hF2
  have oo : ∀ g, 37 ≤ g → g < 60 → g ≠ 48 → T'.1 g = T.1 g := fun g h1 h2 h3 => o g (by omega) (by omega) (by omega) (by omega) (by omega) (by omega) (by unfold anF; simp; omega)
  have aw : Aw T T' := ⟨by unfold nU; rw [oo 45 (by omega) (by omega) (by omega)]; exact Nat.le_refl _, fun j _ => ⟨by rw [o2 46 (by omega)], by rw [oo 47 (by omega) (by omega) (by omega)]⟩, by unfold nW; rw [oo 37 (by omega) (by omega) (by omega)]; exact Nat.le_refl _, fun g j a b _ => by rw [oo g (by omega) (by omega) (by omega)], fun j _ => by rw [o2 41 (by omega)]⟩
  have hS : ∀ (tt : Tr) (lo hi : Nat) (x : Int32), RepS X T tt lo lo hi x → RepS X T' tt lo lo hi x := by
    intro tt lo hi x h
    refine RepS.ag ⟨⟨fun g j a b c d e => ?_, fun j _ _ => by rw [o2 56 (by omega)], aw.1, aw.2.1⟩, fun _ => ⟨by rw [oo 53 (by omega) (by omega) (by omega)], by rw [oo 54 (by omega) (by omega) (by omega)]⟩, aw⟩ h
    by_cases q : g = 61
    · subst q; rw [hA.2.1]
    · rw [oo g (by omega) (by omega) (by omega)]
  intro xs
  induction xs with
  | nil => intro t c p _; trivial
  | cons x xs ih =>
    intro t c p h
    obtain ⟨p', h1, h2, h3, h4⟩ := h
    exact ⟨p', h1, by unfold nN; rw [oo 49 (by omega) (by omega) (by omega)]; exact h2, h3.gx (fun g x1 x2 x3 x4 x5 => o g (by omega) (by omega) (by omega) x3 x4 x5 (by unfold anF; simp; omega)) o2 aw hS, ih _ _ _ h4⟩
theorem RepI.toHI (h : RepI X T t c p p' z) (hk : ItOk X z a b) (hb : b ≤ xn X) (ht : t < 24) (hc : c ≤ 8 * t) (hU : nU T ≤ 4000) (hW : nW T ≤ 4000) : HI X (er T) t c z := by
  obtain ⟨i, ee, l, rt, dt, n, wt, w, bd⟩ := z
  obtain ⟨a1, a2, a3, a4, a5, a6, a7, a8, a9, a10, a11, a12, a13⟩ := h
  obtain ⟨i1, i2, i3, i4, i5, i6, i7⟩ := hk
  refine ⟨⟨ht, a7, a8, a9, by show c + l.length ≤ 220; omega, ?_, fun j hj => ⟨(i4 j hj).1, Nat.le_trans (i4 j hj).2 hb⟩, hU, hW⟩, ?_, a5, a4, a12.2.1, a12.1, a12.2.2.2.2.1, a12.2.2.2.1⟩
  · intro k hk
    obtain ⟨x1, x2, w', x3, x4⟩ := a10 k hk
    exact ⟨x1, x2, w', x3, RepW.av 6 w' _ aw_er.av x4⟩
  · show HR X (er T) t rt
    unfold HR
    by_cases hrt : rt = 0
    · rw [if_pos hrt] at a11 ⊢
      exact a11
    · rw [if_neg hrt] at a11 ⊢
      obtain ⟨w', x1, x2⟩ := a11
      exact ⟨⟨w', x1, RepW.av 6 w' _ aw_er.av x2⟩, (i5 hrt).1, Nat.le_trans (i5 hrt).2 hb⟩
theorem itz_le : ∀ (xs : List It) (a z : Nat), ItsOk X xs a z → a ≤ z := by
  intro xs
  induction xs with
  | nil => intro a z h; exact h
  | cons x xs ih =>
    intro a z h
    obtain ⟨b, h1, h2⟩ := h
    have := ih _ _ h2
    obtain ⟨x0, x1, x2, x3, x4, x5, x6, x7, x8⟩ := x
    have := h1.2.1
    omega
theorem RepP.his (hU : nU T ≤ 4000) (hW : nW T ≤ 4000) : ∀ (xs : List It) (t c p a z : Nat), RepP X T t c p xs → ItsOk X xs a z → z ≤ xn X → t + xs.length ≤ 24 → c ≤ 8 * t → HIs X (er T) xs t c ∧ Kn (er T) xs t ∧ ∀ q, t ≤ q → q < t + xs.length → ∃ r, T.1 15 q = nI r ∧ r ≤ 3 := by
  intro xs
  induction xs with
  | nil => intro t c p a z _ _ _ _ _; exact ⟨trivial, trivial, fun q h1 h2 => by rw [List.length_nil] at h2; omega⟩
  | cons x xs ih =>
    intro t c p a z hR hI hz ht hc
    rw [List.length_cons] at ht
    obtain ⟨p', p1, p2, rI, rP⟩ := hR
    obtain ⟨b, iO, iR⟩ := hI
    have hb := itz_le _ _ _ iR
    have hi := rI.toHI iO (by omega) (by omega) hc hU hW
    have hl : x.2.2.1.length ≤ 8 := hi.1.2.2.2.1
    obtain ⟨j1, j2, j3⟩ := ih (t + 1) (c + x.2.2.1.length) p' b z rP iR hz (by omega) (by omega)
    refine ⟨⟨hi, j1⟩, ⟨?_, j2⟩, fun q h1 h2 => ?_⟩
    · obtain ⟨i, ee, l, rt, dt, n, wt, w, bd⟩ := x
      intro h12
      have a1 := rI.1
      obtain ⟨i1, i2, i3, i4, i5, i6, i7⟩ := iO
      have h12 : ¬ 2 ≤ T.1 12 t := h12
      have k12 : xK X i ≠ 12 := by
        intro k
        rw [if_neg (by omega), if_neg (by omega)] at a1
        rw [a1] at h12
        exact h12 (by decide)
      exact ⟨(i6 k12).1, (i6 k12).2.2⟩
    · rw [List.length_cons] at h2
      by_cases e : q = t
      · subst e; exact ⟨x.2.1, hi.2.2.1, hi.2.2.2.1⟩
      · exact j3 q (by omega) (by omega)
-- field 74 plays no part in heads
theorem k74_hd : (hdI X t c z T).1 74 = T.1 74 := by
  have A : (hdA t T).1 74 = T.1 74 := by
    unfold hdA sgS
    rw [sgL_o 74 (by omega) (by omega), sI_ne (by omega), drL_o 74 (by omega) (by omega)]
    unfold nmS
    split
    · rfl
    · exact flT_o (by omega) (by omega)
  have B : ∀ S : gSt, (tlS X t z.2.2.2.1 z.2.2.2.2.2.1 z.2.2.2.2.2.2.2.1 S).1 74 = S.1 74 := by
    intro S
    unfold tlS
    split
    · rw [whL_o 74 (by omega) (by omega), deL_o 74 (by omega) (by omega) (by omega)]
      unfold rtS
      split
      · rw [sI_ne (by omega), sI_ne (by omega)]
      · rw [sI_ne (by omega), sI_ne (by omega), (FE.me _ _ _).1 74 (by omega)]
    · rfl
  have C : ∀ (k j : Nat) (S : gSt), (fdL X c z.2.2.1 k j S).1 74 = S.1 74 := by
    intro k
    induction k with
    | zero => intro j S; rfl
    | succ k ih =>
      intro j S
      rw [fdL]
      split
      · rw [ih]
        unfold fdS
        rw [sI_ne (by omega), (FE.me _ _ _).1 74 (by omega), fdN_o 74 (by omega) (by omega)]
      · rfl
  unfold hdI hdS
  rw [B, C, A]
theorem k74_hds : ∀ (xs : List It) (t c : Nat) (T : gSt), (hdsL X xs t c T).1 74 = T.1 74 := by
  intro xs
  induction xs with
  | nil => intro t c T; rfl
  | cons x xs ih =>
    intro t c T
    rw [hdsL]
    split
    · rw [ih, k74_hd]
    · rfl
/-- what heads settle -/
theorem hds_ck {xs : List It} (h11 : S.1 11 0 = nI xs.length) (hl : xs.length ≤ 24) (hI : HIs X (sI S 65 0 1) xs 0 0) (hK : Kn (sI S 65 0 1) xs 0) (h0 : Ck0 (sI S 65 0 1)) (hRi : Ri S) (hc : cn (hdsS X xs S) < 6000) (hf : (hdsS X xs S).1 7 0 = 0) : Ckf (hdsS X xs S) := by
  have fh := FH.hds (X := X) xs 0 0 (sI S 65 0 1)
  unfold hdsS at hc hf ⊢
  have c1 : cn (hdsL X xs 0 0 (sI S 65 0 1)) < 6000 := FH.mn.lt (fh.tg h0.1) hc
  have f1 := FH.mn.ok hf
  have i := hds_it (X := X) xs 0 0 _ hI hK h0 c1 f1
  have e : mnS (hdsL X xs 0 0 (sI S 65 0 1)) = hdsL X xs 0 0 (sI S 65 0 1) := by
    unfold mnS at hf ⊢
    split
    · rfl
    · rename_i z
      rw [if_neg z] at hf
      exact absurd hf (flT_bad (by decide))
  rw [e]
  have e11 : inn (hdsL X xs 0 0 (sI S 65 0 1)) = xs.length := by
    unfold inn
    rw [fh.1 11 (by omega) (by omega) (by omega) (by omega) (by omega) (by omega), sI_ne (by omega), h11, nc (by omega)]
  refine ⟨i.1.1, i.1.2.1, ?_, i.1.2.2.1, i.1.2.2.2.1, fun t ht => ?_⟩
  · intro q hq
    rw [k74_hds, sI_ne (by omega)]
    exact hRi q hq
  · rw [e11] at ht
    exact itOk_of (xs := xs) xs 0 0 (HIs.fh fh _ _ _ hI) i.2 t (by omega) (by omega)
end CHW
