/-! an item -/
abbrev It : Type := Nat × Nat × List Nat × Nat × Nat × Nat × Nat × Nat × Tr
def pItem (K : Nat → Nat) (i : Nat) : Except Nat (It × Nat) := if K i = 12 then (if K (i + 1) = 2 then (match pHead K (i + 2 + rgs K 3 (i + 2)) with
  | .error e => .error e
  | .ok (l, rt, dt, n, wt, w, j) => match pBl K 20 j l.length 0 with
    | .error e => .error e
    | .ok (b, j2, _, _) => .ok ((i, rgs K 3 (i + 2), l, rt, dt, n, wt, w, b), j2)) else .error (i + 1))
  else (if K (i + 1) = 3 then (if K (i + 2 + rgs K 3 (i + 2)) = 40 then (match pSt K (pFl K 9 0 (i + 2 + rgs K 3 (i + 2) + 1)) with
  | .error e => .error e
  | .ok (l, j3) => .ok ((i, rgs K 3 (i + 2), l, 0, 0, 0, 0, 0, tZ), j3)) else .error (i + 2 + rgs K 3 (i + 2))) else .error (i + 1))
def RepI (X : Lx) (T : gSt) (t c p p' : Nat) (x : It) : Prop := match x with
  | (i, e, l, rt, dt, n, wt, w, b) => T.1 12 t = (if xK X i = 10 then 0 else if xK X i = 11 then 1 else 2) ∧ T.2 13 t = xN X (i + 1) ∧ T.1 14 t = nI (xP X (i + 1)) ∧ e ≤ 3 ∧ T.1 15 t = nI e ∧ (∀ k, k < e → entR X T t (i + 2) k) ∧ T.1 18 t = nI c ∧ T.1 19 t = nI l.length ∧ l.length ≤ 8 ∧ RepFs X T c l ∧ (if rt = 0 then T.1 25 t = -1 else ∃ w', T.1 25 t = nI w' ∧ RepW X T 6 w' rt) ∧ RepDW X T t dt n wt w ∧ (xK X i = 12 → ∃ lo hi, p ≤ lo ∧ hi ≤ p' ∧ RepS X T b lo lo hi (T.1 34 t))
def IQ (X : Lx) (T : gSt) (t c i : Nat) (res : Except Nat (It × Nat)) (T' : gSt) : Prop := match res with
  | .ok (x, j) => i < j ∧ Gd X T' j ∧ Gw T' j ∧ FI t c T T' ∧ T'.1 11 0 = nI (t + 1) ∧ (∃ n, n ≤ 8 ∧ T'.1 20 0 = nI (c + n) ∧ x.2.2.1.length = n) ∧ RepI X T' t c (nN T) (nN T') x ∧ nN T' ≤ 2 * j
  | .error e => i ≤ e ∧ Zi X e T (2 * e + 100) T'
section IV
variable {nf d : Nat} {T T0 T1 T2 : gSt} {X : Lx} {e B i j m n v g t c q : Nat}
theorem rgs_le {K : Nat → Nat} : ∀ (m i : Nat), rgs K m i ≤ m := by
  intro m
  induction m with
  | zero => intro i; exact Nat.le_refl _
  | succ m ih =>
    intro i
    rw [rgs]
    split
    · have := ih (i + 1); omega
    · omega
theorem RepFs.fz {l : List Nat} (h : RepFs X T c l) (hz : Fh T T1) (ha : Aw T T1) : RepFs X T1 c l := by
  intro k hk
  obtain ⟨a1, a2, w, a3, a4⟩ := h k hk
  exact ⟨by rw [hz.2 21 (by omega)]; exact a1, by rw [hz.1 22 (by omega)]; exact a2, w, by rw [hz.1 23 (by omega)]; exact a3, RepW.av 6 w _ ha.av a4⟩
theorem RepDW.fz {dt n wt w : Nat} (h : RepDW X T t dt n wt w) (hz : Fh T T1) : RepDW X T1 t dt n wt w := by
  obtain ⟨a1, a2, a3, a4, a5, a6⟩ := h
  refine ⟨a1, by rw [hz.1 27 (by omega)]; exact a2, fun k hk => ?_, a4, by rw [hz.1 31 (by omega)]; exact a5, fun k hk => ?_⟩
  · unfold entD
    rw [hz.2 28 (by omega), hz.1 29 (by omega)]
    exact a3 k hk
  · unfold entW
    rw [hz.2 32 (by omega), hz.1 33 (by omega)]
    exact a6 k hk
theorem pFl_len (K : Nat → Nat) : ∀ (f q j : Nat) (l : List Nat) (j3 : Nat), pFl K f q j = .ok (l, j3) → q ≤ 8 → q + l.length ≤ 8 := by
  intro f
  induction f with
  | zero => intro q j l j3 h; rw [pFl] at h; cases h
  | succ f ih =>
    intro q j l j3 h hq
    rw [pFl] at h
    by_cases q8 : q = 8
    · rw [if_pos q8] at h; cases h
    · rw [if_neg q8] at h
      generalize pField K j = r1 at h
      cases r1 with
      | error e => cases h
      | ok j2 =>
        dsimp only at h
        by_cases k46 : K j2 = 46
        · rw [if_pos k46] at h
          by_cases k41 : K (j2 + 1) = 41
          · rw [if_pos k41] at h; cases h; simp only [List.length_cons, List.length_nil]; omega
          · rw [if_neg k41] at h
            cases hr : pFl K f (q + 1) (j2 + 1) with
            | error e => rw [hr] at h; cases h
            | ok lj =>
              obtain ⟨l', j4⟩ := lj
              rw [hr] at h
              cases h
              have := ih (q + 1) (j2 + 1) l' j3 hr (by omega)
              simp only [List.length_cons]
              omega
        · rw [if_neg k46] at h; cases h
theorem b_294 (hnf : 5000 ≤ nf) (h : Zi X e T0 B T) (htI : inb (nI t) 24) (ht : t < 24) (h64 : T.1 64 0 = nI t) (h20 : ∃ c, c < 220 ∧ T.1 20 0 = nI c) : wp (rl_Model_readItem_294 (RR nf (d + 31)) nf nf T) (fun _ _ T' => Zi X e T0 B T') := by
  obtain ⟨n', rfl⟩ := nfS hnf
  obtain ⟨c', hc1, hc2⟩ := h20
  rw [rl_Model_readItem_294]
  refine wp_gd (by rw [h64]; exact htI) ?_
  have hI : Ic T t c' := ⟨h64, ht, hc2, hc1⟩
  refine wp_if (fun _ => ?_) (fun _ => ?_)
  · refine wp_be (q_wrong1 h.bd) ?_
    exact b_312 (d := d + 1) h hI
  · exact b_312 (d := d + 1) h hI
set_option maxHeartbeats 8000000 in
theorem x_188 (hX : LX X) (hnf : 5000 ≤ nf) (hd : 649 ≤ d) {p1 : Int32} (hp : xK X i = 10 ∧ p1 = 0 ∨ xK X i = 11 ∧ p1 = 1 ∨ xK X i = 12 ∧ p1 = 2) (hk : xK X i = 12 ∧ xK X (i + 1) = 2 ∨ xK X i ≠ 12 ∧ xK X (i + 1) = 3) (hj : j = i + 2 + rgs (xK X) 3 (i + 2)) (hG : Gd X T j) (hW : Gw T j) (hF : FI t c T0 T) (h64 : T.1 64 0 = nI t) (ht : t < 24) (h20 : T.1 20 0 = nI c) (hc : c ≤ 200) (h11 : T.1 11 0 = nI (t + 1)) (h12 : T.1 12 t = p1) (h13 : T.2 13 t = xN X (i + 1)) (h14 : T.1 14 t = nI (xP X (i + 1))) (h15 : T.1 15 t = nI (rgs (xK X) 3 (i + 2))) (hR : ∀ k, k < rgs (xK X) 3 (i + 2) → entR X T t (i + 2) k) (hN : nN T = nN T0) (hb : nN T0 ≤ 2 * (i + 1)) : wp (rj_Model_readItem_188 (RR nf (d + 31)) nf T p1) (fun _ _ T' => IQ X T0 t c i (pItem (xK X) i) T') := by
  have hx := hX.1
  have hj0 := hG.1.1
  have htI : inb (nI t) 24 := nin (by omega) (by omega)
  have ct : (nI t).toNatClampNeg = t := nc (by omega)
  have hr3 := rgs_le (K := xK X) 3 (i + 2)
  unfold rj_Model_readItem_188
  refine wp_gd (by rw [h64]; exact htI) ?_
  refine wp_st ?_
  rw [h64, ct, h20]
  have e1 : (sI T 18 t (nI c)).1 64 0 = nI t := by rw [sI_ne (by omega)]; exact h64
  refine wp_gd (by rw [e1]; exact htI) ?_
  refine wp_st ?_
  rw [e1, ct]
  refine wp_st ?_
  refine wp_st ?_
  have e2 : (sI (sI (sI (sI T 18 t (nI c)) 19 t 0) 62 0 0) 63 0 0).1 64 0 = nI t := by rw [sI_ne (by omega), sI_ne (by omega), sI_ne (by omega)]; exact e1
  refine wp_gd (by rw [e2]; exact htI) ?_
  refine wp_st ?_
  rw [e2, ct]
  have e3 : (sI (sI (sI (sI (sI T 18 t (nI c)) 19 t 0) 62 0 0) 63 0 0) 25 t (-1)).1 64 0 = nI t := by rw [sI_ne (by omega)]; exact e2
  refine wp_gd (by rw [e3]; exact htI) ?_
  refine wp_st ?_
  rw [e3, ct]
  have e4 : (sI (sI (sI (sI (sI (sI T 18 t (nI c)) 19 t 0) 62 0 0) 63 0 0) 25 t (-1)) 27 t 0).1 64 0 = nI t := by rw [sI_ne (by omega)]; exact e3
  refine wp_gd (by rw [e4]; exact htI) ?_
  refine wp_st ?_
  rw [e4, ct]
  have hG1 : Gd X (sI (sI (sI (sI (sI (sI (sI T 18 t (nI c)) 19 t 0) 62 0 0) 63 0 0) 25 t (-1)) 27 t 0) 31 t 0) j := ((((((hG.wh (by omega)).wh (by omega)).wh (by omega)).wh (by omega)).wh (by omega)).wh (by omega)).wh (by omega)
  have hW1 : Gw (sI (sI (sI (sI (sI (sI (sI T 18 t (nI c)) 19 t 0) 62 0 0) 63 0 0) 25 t (-1)) 27 t 0) 31 t 0) j := ((((((hW.wh (by omega)).wh (by omega)).wh (by omega)).wh (by omega)).wh (by omega)).wh (by omega)).wh (by omega)
  have hF1 : FI t c T0 (sI (sI (sI (sI (sI (sI (sI T 18 t (nI c)) 19 t 0) 62 0 0) 63 0 0) 25 t (-1)) 27 t 0) 31 t 0) := ((((((hF.w (by omega) (Or.inl (by omega))).w (by omega) (Or.inl (by omega))).w (by omega) (Or.inr (by omega))).w (by omega) (Or.inr (by omega))).w (by omega) (Or.inl (by omega))).w (by omega) (Or.inl (by omega))).w (by omega) (Or.inl (by omega))
  have o : ∀ g', g' ≠ 18 → g' ≠ 19 → g' ≠ 62 → g' ≠ 63 → g' ≠ 25 → g' ≠ 27 → g' ≠ 31 → (sI (sI (sI (sI (sI (sI (sI T 18 t (nI c)) 19 t 0) 62 0 0) 63 0 0) 25 t (-1)) 27 t 0) 31 t 0).1 g' = T.1 g' := fun g' a1 a2 a3 a4 a5 a6 a7 => by rw [sI_ne a7, sI_ne a6, sI_ne a5, sI_ne a4, sI_ne a3, sI_ne a2, sI_ne a1]
  have ol : (sI (sI (sI (sI (sI (sI (sI T 18 t (nI c)) 19 t 0) 62 0 0) 63 0 0) 25 t (-1)) 27 t 0) 31 t 0).2 = T.2 := rfl
  have o18 : (sI (sI (sI (sI (sI (sI (sI T 18 t (nI c)) 19 t 0) 62 0 0) 63 0 0) 25 t (-1)) 27 t 0) 31 t 0).1 18 t = nI c := by simp only [rdI]; simp
  have o19 : (sI (sI (sI (sI (sI (sI (sI T 18 t (nI c)) 19 t 0) 62 0 0) 63 0 0) 25 t (-1)) 27 t 0) 31 t 0).1 19 t = 0 := by simp only [rdI]; simp
  have o62 : (sI (sI (sI (sI (sI (sI (sI T 18 t (nI c)) 19 t 0) 62 0 0) 63 0 0) 25 t (-1)) 27 t 0) 31 t 0).1 62 0 = 0 := by simp only [rdI]; simp
  have o63 : (sI (sI (sI (sI (sI (sI (sI T 18 t (nI c)) 19 t 0) 62 0 0) 63 0 0) 25 t (-1)) 27 t 0) 31 t 0).1 63 0 = 0 := by simp only [rdI]; simp
  have o25 : (sI (sI (sI (sI (sI (sI (sI T 18 t (nI c)) 19 t 0) 62 0 0) 63 0 0) 25 t (-1)) 27 t 0) 31 t 0).1 25 t = -1 := by simp only [rdI]; simp
  have o27 : (sI (sI (sI (sI (sI (sI (sI T 18 t (nI c)) 19 t 0) 62 0 0) 63 0 0) 25 t (-1)) 27 t 0) 31 t 0).1 27 t = 0 := by simp only [rdI]; simp
  have o31 : (sI (sI (sI (sI (sI (sI (sI T 18 t (nI c)) 19 t 0) 62 0 0) 63 0 0) 25 t (-1)) 27 t 0) 31 t 0).1 31 t = 0 := by simp only [rdI]; simp
  have hN1 : nN (sI (sI (sI (sI (sI (sI (sI T 18 t (nI c)) 19 t 0) 62 0 0) 63 0 0) 25 t (-1)) 27 t 0) 31 t 0) = nN T0 := by unfold nN; rw [o 49 (by omega) (by omega) (by omega) (by omega) (by omega) (by omega) (by omega)]; exact hN
  generalize sI (sI (sI (sI (sI (sI (sI T 18 t (nI c)) 19 t 0) 62 0 0) 63 0 0) 25 t (-1)) 27 t 0) 31 t 0 = S at *
  have s64 : S.1 64 0 = nI t := by rw [o 64 (by omega) (by omega) (by omega) (by omega) (by omega) (by omega) (by omega)]; exact h64
  have s20 : S.1 20 0 = nI c := by rw [o 20 (by omega) (by omega) (by omega) (by omega) (by omega) (by omega) (by omega)]; exact h20
  have s11 : S.1 11 0 = nI (t + 1) := by rw [o 11 (by omega) (by omega) (by omega) (by omega) (by omega) (by omega) (by omega)]; exact h11
  have s12 : S.1 12 t = p1 := by rw [o 12 (by omega) (by omega) (by omega) (by omega) (by omega) (by omega) (by omega)]; exact h12
  have s13 : S.2 13 t = xN X (i + 1) := by rw [ol]; exact h13
  have s14 : S.1 14 t = nI (xP X (i + 1)) := by rw [o 14 (by omega) (by omega) (by omega) (by omega) (by omega) (by omega) (by omega)]; exact h14
  have s15 : S.1 15 t = nI (rgs (xK X) 3 (i + 2)) := by rw [o 15 (by omega) (by omega) (by omega) (by omega) (by omega) (by omega) (by omega)]; exact h15
  have sR : ∀ k, k < rgs (xK X) 3 (i + 2) → entR X S t (i + 2) k := by
    intro k hk
    unfold entR
    rw [ol, o 17 (by omega) (by omega) (by omega) (by omega) (by omega) (by omega) (by omega)]
    exact hR k hk
  have kind : p1 = (if xK X i = 10 then 0 else if xK X i = 11 then 1 else 2) := by
    rcases hp with h | h | h
    · rw [if_pos h.1, h.2]
    · rw [if_neg (by omega), if_pos h.1, h.2]
    · rw [if_neg (by omega), if_neg (by omega), h.2]
  unfold pItem
  rw [← hj]
  generalize rgs (xK X) 3 (i + 2) = ee at *
  by_cases k12 : xK X i = 12
  · have hp2 : p1 = 2 := by rcases hp with h | h | h <;> first | omega | exact h.2
    have hk2 : xK X (i + 1) = 2 := by omega
    rw [if_pos k12, if_pos hk2]
    refine wp_t hp2 ?_
    refine wp_bi (x_head (t := t) (c := c) hX hnf hG1 hW1 ⟨s64, ht, s20, by omega⟩ hc o19 o62 o27 o31) ?_
    intro r l S2 h2
    generalize pHead (xK X) j = res at h2 ⊢
    cases res with
    | error e' =>
      obtain ⟨a1, a2, a3⟩ := h2
      refine wp_be (b_block (d := d + 26) hnf a2.bd _) ?_
      refine wp_gd (by rw [a3]; exact htI) ?_
      refine wp_st ?_
      refine wp_gd (by rw [sI_ne (by omega), a3]; exact htI) ?_
      refine wp_st ?_
      exact wp_some ⟨by omega, (((a2.fy hF1.1).w (by omega)).w (by omega)).le (by omega)⟩
    | ok x =>
      obtain ⟨ll, rt, dt, n', wt, w, j4⟩ := x
      obtain ⟨a1, a2, a3, a4, a5, a6, a7, a8, a9, a10, a11, a12, a13, a14, a15, a16, a17⟩ := h2
      dsimp only
      have hj4 := a2.1.1
      have hS2 : Gs X S2 j4 ll.length 0 := ⟨a2, a3, a11, by rw [a9, o63, nI_0]⟩
      have hb := x_blocks hX hnf 20 (by omega) (d + 31) (by omega) S2 j4 ll.length 0 hS2 (by omega) (by omega) (by omega)
      rw [show nI (21 - 20) = (1 : Int32) from rfl] at hb
      refine wp_bi hb ?_
      intro r3 l3 S3 h3
      refine wp_gd (by rw [a10]; exact htI) ?_
      refine wp_st ?_
      rw [a10, ct]
      generalize pBl (xK X) 20 j4 ll.length 0 = rb at h3 ⊢
      cases rb with
      | error e' =>
        obtain ⟨b1, b2, b3, b4⟩ := h3
        have hz := b4.zi (hF1.1.tr a4.1) b2
        have q64 : S3.1 64 0 = nI t := by rw [b4.2.2.1.1 64 (by omega)]; exact a10
        refine wp_gd (by rw [sI_ne (by omega), q64]; exact htI) ?_
        refine wp_st ?_
        exact wp_some ⟨by omega, ((hz.w (by omega)).w (by omega)).le (by omega)⟩
      | ok y =>
        obtain ⟨b, j5, v', g'⟩ := y
        obtain ⟨b1, b2, b3, b4, b5, b6, b7, q', b8, b9, b10, b11, b12⟩ := h3
        have hj5 := b2.1.1.1
        have q64 : S3.1 64 0 = nI t := by rw [b5.1.1 64 (by omega)]; exact a10
        refine wp_gd (by rw [sI_ne (by omega), q64]; exact htI) ?_
        refine wp_st ?_
        rw [show (sI S3 34 t r3).1 64 0 = nI t from by rw [sI_ne (by omega)]; exact q64, ct]
        have fh : Fh S2 S3 := b5.1.fh
        have o3 : ∀ g'', g'' ≠ 34 → g'' ≠ 35 → (sI (sI S3 34 t r3) 35 t ((sI S3 34 t r3).1 62 0)).1 g'' = S3.1 g'' := fun g'' x1 x2 => by rw [sI_ne x2, sI_ne x1]
        have hF4 : FI t c T0 (sI (sI S3 34 t r3) 35 t ((sI S3 34 t r3).1 62 0)) := (((hF1.tr a4).tr (b5.1.fi b5.fn)).w (by omega) (Or.inl (by omega))).w (by omega) (Or.inl (by omega))
        have aw : Aw S3 (sI (sI S3 34 t r3) 35 t ((sI S3 34 t r3).1 62 0)) := ((Fn.rf (T := S3)).w (g := 34) (j := t) (x := r3) (by omega) |>.w (g := 35) (j := t) (x := (sI S3 34 t r3).1 62 0) (by omega)).2.2
        have ag : ∀ lo hi, Ag S3 (sI (sI S3 34 t r3) 35 t ((sI S3 34 t r3).1 62 0)) lo hi := fun lo hi => ⟨fun g'' j'' x1 x2 _ _ _ => by rw [o3 g'' (by omega) (by omega)], fun _ _ _ => rfl, aw.1, aw.2.1⟩
        have fh4 : ∀ (g'' : Nat), (11 ≤ g'' ∧ g'' ≤ 33) → (sI (sI S3 34 t r3) 35 t ((sI S3 34 t r3).1 62 0)).1 g'' = S2.1 g'' := fun g'' h => by rw [o3 g'' (by omega) (by omega), fh.1 g'' (by omega)]
        have fl4 : ∀ (g'' : Nat), (13 ≤ g'' ∧ g'' ≤ 32) → (sI (sI S3 34 t r3) 35 t ((sI S3 34 t r3).1 62 0)).2 g'' = S2.2 g'' := fun g'' h => fh.2 g'' h
        have aw2 : Aw S2 (sI (sI S3 34 t r3) 35 t ((sI S3 34 t r3).1 62 0)) := b5.2.2.2.tr aw
        have hN4 : nN (sI (sI S3 34 t r3) 35 t ((sI S3 34 t r3).1 62 0)) = nN S3 := by rw [nN_w (by omega), nN_w (by omega)]
        have o34 : (sI (sI S3 34 t r3) 35 t ((sI S3 34 t r3).1 62 0)).1 34 t = r3 := by rw [sI_ne (by omega), sI_v]
        have hG4 : Gd X (sI (sI S3 34 t r3) 35 t ((sI S3 34 t r3).1 62 0)) j5 := (b2.1.wh (by omega)).wh (by omega)
        have hW4 : Gw (sI (sI S3 34 t r3) 35 t ((sI S3 34 t r3).1 62 0)) j5 := (b2.2.1.wh (by omega)).wh (by omega)
        generalize sI (sI S3 34 t r3) 35 t ((sI S3 34 t r3).1 62 0) = S4 at *
        refine wp_some ⟨by omega, hG4, hW4, hF4, ?_, ⟨ll.length, by omega, ?_, rfl⟩, ⟨?_, ?_, ?_, hr3, ?_, ?_, ?_, ?_, by omega, ?_, ?_, ?_, ?_⟩, by rw [hN4]; omega⟩
        · rw [fh4 11 (by omega), a7]; exact s11
        · rw [fh4 20 (by omega)]; exact a13
        · rw [fh4 12 (by omega), a5 12 t (by omega), s12]; exact kind
        · rw [fl4 13 (by omega), a6 13 t (by omega)]; exact s13
        · rw [fh4 14 (by omega), a5 14 t (by omega)]; exact s14
        · rw [fh4 15 (by omega), a5 15 t (by omega)]; exact s15
        · intro k hk
          unfold entR
          rw [fl4 16 (by omega), fh4 17 (by omega), a6 16 _ (by omega), a5 17 _ (by omega)]
          exact sR k hk
        · rw [fh4 18 (by omega), a5 18 t (by omega)]; exact o18
        · rw [fh4 19 (by omega)]; exact a14
        · intro k hk
          obtain ⟨x1, x2, w', x3, x4⟩ := a15 k hk
          exact ⟨by rw [fl4 21 (by omega)]; exact x1, by rw [fh4 22 (by omega)]; exact x2, w', by rw [fh4 23 (by omega)]; exact x3, RepW.av 6 w' _ aw2.av x4⟩
        · by_cases hrt : rt = 0
          · rw [if_pos hrt] at a16 ⊢
            rw [fh4 25 (by omega), a16]; exact o25
          · rw [if_neg hrt] at a16 ⊢
            obtain ⟨w', x1, x2⟩ := a16
            exact ⟨w', by rw [fh4 25 (by omega)]; exact x1, RepW.av 6 w' _ aw2.av x2⟩
        · obtain ⟨x1, x2, x3, x4, x5, x6⟩ := a17
          refine ⟨x1, by rw [fh4 27 (by omega)]; exact x2, fun k hk => ?_, x4, by rw [fh4 31 (by omega)]; exact x5, fun k hk => ?_⟩
          · unfold entD
            rw [fl4 28 (by omega), fh4 29 (by omega)]
            exact x3 k hk
          · unfold entW
            rw [fl4 32 (by omega), fh4 33 (by omega)]
            exact x6 k hk
        · intro _
          refine ⟨nN S2, nN S3, by omega, by omega, ?_⟩
          rw [o34]
          exact RepS.own (ag _ _) aw b6
  · have hp2 : ¬ p1 = 2 := by
      rcases hp with h | h | h
      · rw [h.2]; decide
      · rw [h.2]; decide
      · omega
    have hk3 : xK X (i + 1) = 3 := by omega
    rw [if_neg k12, if_pos hk3]
    refine wp_f hp2 ?_
    refine g_need (d := d + 27) hX 40 hG1 rfl (by omega) (by omega) (fun k40 hj2 => ?_) (fun k40 S2 hz => ?_)
    · rw [if_pos k40]
      have hG2 := hG1.adv hX hj2
      have fz : Fz S (advS S) := Fz.rf.adv
      have hn : Fn S (advS S) := Fn.rf.adv
      refine wp_mono (x_fl (t := t) (d := d + 1) hX hnf 9 nf 0 (advS S) (j + 1) c hG2 hW1.adv ⟨by rw [advS_i (by omega)]; exact s64, ht, by rw [advS_i (by omega)]; exact s20, by omega⟩ (by rw [advS_i (by omega), o19, nI_0]) (by omega) (by omega) (by omega) (by omega)) ?_
      intro r l T' h
      have hlen0 : ∀ l j3, pSt (xK X) (pFl (xK X) 9 0 (j + 1)) = .ok (l, j3) → l.length ≤ 8 := by
        intro l j3 hp
        cases hr : pFl (xK X) 9 0 (j + 1) with
        | error e' => rw [hr] at hp; unfold pSt at hp; cases hp
        | ok lj =>
          obtain ⟨l', j4⟩ := lj
          rw [hr] at hp
          unfold pSt at hp
          dsimp only at hp
          split at hp
          · cases hp
            have := pFl_len (xK X) 9 0 (j + 1) l j4 hr (by omega)
            omega
          · cases hp
      generalize pSt (xK X) (pFl (xK X) 9 0 (j + 1)) = res at h hlen0 ⊢
      cases res with
      | error e' =>
        exact ⟨by have := h.1; omega, (h.2.fy (hF1.1.tr fz.fy)).le (by have h3 := h.2.2.2.2.2.1; have h4 := h.1; have h5 := nN_adv (T := S); omega)⟩
      | ok lj =>
        obtain ⟨ll, j3⟩ := lj
        obtain ⟨c1, c2, c3, c4, c5⟩ := h
        have u : ∀ g'' j'', 11 ≤ g'' → g'' ≤ 36 → g'' ≠ 20 → g'' ≠ 19 → g'' ≠ 22 → g'' ≠ 23 → T'.1 g'' j'' = S.1 g'' j'' := fun g'' j'' x1 x2 x3 x4 x5 x6 => by rw [c4.2.2.2.2.2.2.2.1 g'' j'' x1 x2 (by omega) (by omega) (by omega), advS_i (by omega)]
        have ul : ∀ g'' j'', 13 ≤ g'' → g'' ≤ 32 → g'' ≠ 21 → T'.2 g'' j'' = S.2 g'' j'' := fun g'' j'' x1 x2 x3 => by rw [c4.2.2.2.2.2.2.2.2 g'' j'' x1 x2 (by omega), advS_j (by omega)]
        have hlen : ll.length ≤ 8 := hlen0 ll j3 rfl
        refine ⟨by omega, c2, c3, (hF1.tr (fz.fi hn)).tr c4.fi, ?_, ⟨ll.length, hlen, c4.2.2.2.2.1, rfl⟩, ⟨?_, ?_, ?_, hr3, ?_, ?_, ?_, ?_, hlen, c5, ?_, ?_, ?_⟩, ?_⟩
        · rw [u 11 0 (by omega) (by omega) (by omega) (by omega) (by omega) (by omega)]; exact s11
        · rw [u 12 t (by omega) (by omega) (by omega) (by omega) (by omega) (by omega), s12]; exact kind
        · rw [ul 13 t (by omega) (by omega) (by omega)]; exact s13
        · rw [u 14 t (by omega) (by omega) (by omega) (by omega) (by omega) (by omega)]; exact s14
        · rw [u 15 t (by omega) (by omega) (by omega) (by omega) (by omega) (by omega)]; exact s15
        · intro k hk
          obtain ⟨x1, x2⟩ := sR k hk
          exact ⟨(ul 16 _ (by omega) (by omega) (by omega)).trans x1, (u 17 _ (by omega) (by omega) (by omega) (by omega) (by omega) (by omega)).trans x2⟩
        · rw [u 18 t (by omega) (by omega) (by omega) (by omega) (by omega) (by omega)]; exact o18
        · rw [c4.2.2.2.2.2.2.1]; congr 1; omega
        · rw [if_pos rfl, u 25 t (by omega) (by omega) (by omega) (by omega) (by omega) (by omega)]; exact o25
        · refine ⟨by omega, ?_, fun k hk => by omega, by omega, ?_, fun k hk => by omega⟩
          · rw [u 27 t (by omega) (by omega) (by omega) (by omega) (by omega) (by omega), o27, nI_0]
          · rw [u 31 t (by omega) (by omega) (by omega) (by omega) (by omega) (by omega), o31, nI_0]
        · intro h; omega
        · have h5 := nN_adv (T := S)
          have h6 := c4.2.2.2.1
          omega
    · rw [if_neg k40]
      have hz' := (hz.zi hF1.1 hj0).le (by omega : nN S ≤ 2 * j + 100)
      refine wp_mono (b_294 hnf hz' htI ht ?_ ?_) ?_
      · rw [hz.2.2.1.1 64 (by omega)]; exact s64
      · exact ⟨c, by omega, by rw [hz.2.2.1.1 20 (by omega)]; exact s20⟩
      · intro r l T' h
        exact ⟨by omega, h⟩
end IV
