/-! the check of an EXPR keeps what is sound -/
abbrev Wb (X : Lx) (t : Tr) (m : Bool) (lo hi : Nat) : Prop := Wf X t m lo hi ∧ hi < 100000
abbrev IvF (X : Lx) (t : Tr) : Prop := ∀ (m : Bool) (lo hi f : Nat) (w : Int32) (T : gSt), Wb X t m lo hi → Ck T → (m = true → agOk T f w t) → cn (chk X t f w T).2.2.2 < 6000 → IvQ X t m (chk X t f w T)
section CJ
variable {T T' T'' T1 : gSt} {X : Lx} {n p u q k i j e f lo hi lo' hi' : Nat} {r s x y v w a b c : Int32} {z : T5} {ta tb t : Tr}
theorem z_tR {S : gSt} : tR S 0 := Or.inr (Or.inr (Or.inl rfl))
theorem cn_kn_lt (hg : Tg T) (h : cn (knS T z) < 6000) : cn T < 6000 := kn_lt hg h
theorem cn_ft_lt (hg : Tg T) (h : cn (ftS T x y v) < 6000) : cn T < 6000 := (FE.ft (x := x) (y := y) (v := v)).lt hg h
theorem cn_ch_lt (hg : Tg T) (h : cn (chT n T x w).2 < 6000) : cn T < 6000 := (FE.ch (w := w) n T x).lt hg h
theorem iv_ex0 (hA : IvF X ta) (hw : Wb X ta false lo hi) (h : Ck T) (hc : cn (chk X ta 0 0 T).2.2.2 < 6000) : Ck (chk X ta 0 0 T).2.2.2 ∧ ((chk X ta 0 0 T).2.2.2.1 7 0 = 0 → tR (chk X ta 0 0 T).2.2.2 (chk X ta 0 0 T).1 ∧ lfOk X ta (chk X ta 0 0 T)) := by
  have := hA false lo hi 0 0 T hw h (fun q => absurd q (by decide)) hc
  exact ⟨this.1, fun q => this.2 q rfl⟩
theorem iv_er (h : Ck T) {m : Bool} (hb : ¬ T.1 7 0 = 0) : IvQ X t m (erR T) := ⟨h, fun e => absurd e hb⟩
theorem lf_no (h1 : tkd X t ≠ 14) (h2 : tkd X t ≠ 15) {R : ChR} : lfOk X t R := fun q => q.elim (fun e => absurd e h1) (fun e => absurd e h2)
theorem iv_ag (hA : IvF X ta) (hB : IvF X tb) (hw1 : Wb X ta false lo hi) (hw2 : Wb X tb true lo' hi') (h : Ck T) (hg : agOk T f w (tD k i e ta tb)) (hc : cn (agC X (chk X ta) (chk X tb) ta f w T).2.2.2 < 6000) : Ck (agC X (chk X ta) (chk X tb) ta f w T).2.2.2 := by
  unfold agC at hc ⊢
  have fa := chk_fe (X := X) ta 0 0 T
  by_cases c1 : (chk X ta 0 0 T).2.2.2.1 7 0 = 0
  · simp only [if_pos c1] at hc ⊢
    have g1 := fa.tg h.1
    have f2 := FE.ch (w := w) 7 (chk X ta 0 0 T).2.2.2 ((chk X ta 0 0 T).2.2.2.1 24 f)
    have g2 := f2.tg g1
    have f3 := FE.ft (T := (chT 7 (chk X ta 0 0 T).2.2.2 ((chk X ta 0 0 T).2.2.2.1 24 f) w).2) (x := (chk X ta 0 0 T).1) (y := (chT 7 (chk X ta 0 0 T).2.2.2 ((chk X ta 0 0 T).2.2.2.1 24 f) w).1) (v := plT X ta)
    have g3 := f3.tg g2
    have f4 := chk_fe (X := X) tb (f + 1) w (ftS (chT 7 (chk X ta 0 0 T).2.2.2 ((chk X ta 0 0 T).2.2.2.1 24 f) w).2 (chk X ta 0 0 T).1 (chT 7 (chk X ta 0 0 T).2.2.2 ((chk X ta 0 0 T).2.2.2.1 24 f) w).1 (plT X ta))
    have c3 := f4.lt g3 hc
    have c2 := f3.lt g2 c3
    have c0 := f2.lt g1 c2
    have i1 := (iv_ex0 hA hw1 h c0).1
    have hg1 := hg.fe fa h.1 c0
    obtain ⟨a1, a2, a3⟩ := hg1.2 0 (by show 0 < lenT tb + 1; omega)
    rw [Nat.add_zero] at a1 a2 a3
    have i2 := i1.ch hg.1 a2 a3 c2
    have i3 := i2.1.ft c3
    refine (hB true lo' hi' (f + 1) w _ hw2 i3 (fun _ => ?_) hc).1
    have hg3 := hg1.fe (f2.tr f3) g1 c3
    refine ⟨hg3.1, fun j hj => ?_⟩
    have := hg3.2 (j + 1) (by show j + 1 < lenT tb + 1; omega)
    rw [show f + 1 + j = f + (j + 1) from by omega]
    exact this
  · simp only [if_neg c1] at hc ⊢
    exact (iv_ex0 hA hw1 h hc).1
theorem iv_lf (h : Ck T) (hc : cn (lfC X i T).2.2.2 < 6000) : IvQ X (tD 1 i e ta tb) false (lfC X i T) := by
  have hc0 : cn T < 6000 := fe_lf.lt h.1 hc
  have hl : ∀ R, lfOk X (tD 1 i e ta tb) R := by
    intro R
    refine lf_no ?_ ?_
    all_goals
      show (if (1 : Nat) = 2 then _ else if (1 : Nat) = 1 then _ else _) ≠ _
      rw [if_neg (by omega), if_pos rfl]
      repeat' split
      all_goals omega
  unfold lfC at hc ⊢
  by_cases c1 : xK X i = 5
  · simp only [if_pos c1]; exact ⟨h, fun _ _ => ⟨z_tR, hl _⟩⟩
  simp only [if_neg c1] at hc ⊢
  by_cases c2 : xK X i = 27
  · simp only [if_pos c2]; exact ⟨h, fun _ _ => ⟨Or.inr (Or.inl rfl), hl _⟩⟩
  simp only [if_neg c2] at hc ⊢
  by_cases c3 : xK X i = 34
  · simp only [if_pos c3]; exact ⟨h, fun _ _ => ⟨z_tR, hl _⟩⟩
  simp only [if_neg c3] at hc ⊢
  by_cases c4 : xK X i = 35
  · simp only [if_pos c4] at hc ⊢
    by_cases c5 : T.1 87 0 = 0
    · simp only [if_pos c5]; exact iv_er (h.fl (by decide) hc0) (flT_bad (by decide))
    · simp only [if_neg c5]; exact ⟨h, fun _ _ => ⟨z_tR, hl _⟩⟩
  simp only [if_neg c4] at hc ⊢
  have := iv_nm h hc0 hc
  exact ⟨this.1, fun q _ => ⟨this.2 q, hl _⟩⟩
theorem iv_tl (hA : IvF X ta) (hw : Wb X ta false lo hi) (h : Ck T) (hc : cn (tlC X (chk X ta) ta i T).2.2.2 < 6000) : IvQ X (tD 3 i e ta tb) false (tlC X (chk X ta) ta i T) := by
  have fa := chk_fe (X := X) ta 0 0 T
  unfold tlC at hc ⊢
  dsimp only at hc ⊢
  by_cases c1 : (chk X ta 0 0 T).2.2.2.1 7 0 = 0
  · simp only [if_pos c1] at hc ⊢
    have c0 : cn (chk X ta 0 0 T).2.2.2 < 6000 := FE.th.lt (fa.tg h.1) hc
    have i1 := iv_ex0 hA hw h c0
    have := iv_th i1.1 (i1.2 c1).1 c0 hc
    refine ⟨this.1, fun q _ => ⟨(this.2 q).1, fun hk => ?_⟩⟩
    have e14 : tkd X (tD 3 i e ta tb) = if xK X i = 49 then 14 else if xK X i = 61 then 16 else 17 := rfl
    rw [e14] at hk
    have k49 : xK X i = 49 := by
      by_cases c : xK X i = 49
      · exact c
      · rw [if_neg c] at hk
        by_cases c2 : xK X i = 61
        · rw [if_pos c2] at hk; omega
        · rw [if_neg c2] at hk; omega
    obtain ⟨p, p1, p2, p3, p4, p5⟩ := (this.2 q).2 (by unfold tlK; rw [if_pos k49])
    exact ⟨p, p1, p2, p3, fun _ => p4, p5⟩
  · simp only [if_neg c1] at hc ⊢
    exact iv_er (iv_ex0 hA hw h hc).1 c1
theorem iv_ex (hA : IvF X ta) (hB : IvF X tb) (hw : Wb X ta false lo hi) (hw2 : Wb X tb false lo' hi') (h : Ck T) (hc : cn (exC X (chk X ta) (chk X tb) ta tb T).2.2.2 < 6000) : IvQ X (tD 4 i e ta tb) false (exC X (chk X ta) (chk X tb) ta tb T) := by
  have fa := chk_fe (X := X) ta 0 0 T
  have ga := fa.tg h.1
  have fb := chk_fe (X := X) tb 0 0 (chk X ta 0 0 T).2.2.2
  have gb := fb.tg ga
  unfold exC at hc ⊢
  dsimp only at hc ⊢
  by_cases c1 : (chk X ta 0 0 T).2.2.2.1 7 0 = 0
  · simp only [if_pos c1] at hc ⊢
    by_cases c2 : (chk X tb 0 0 (chk X ta 0 0 T).2.2.2).2.2.2.1 7 0 = 0
    · simp only [if_pos c2] at hc ⊢
      have c3 := FE.ix.lt gb hc
      have c4 := fb.lt ga c3
      have i1 := iv_ex0 hA hw h c4
      have i2 := iv_ex0 hB hw2 i1.1 c3
      have := iv_ix (u := (chk X tb 0 0 (chk X ta 0 0 T).2.2.2).1) (x := plT X ta) (y := plT X tb) i2.1 ((i1.2 c1).1.fe fb ga) c3
      refine ⟨this.1, fun q _ => ⟨(this.2 q).1, fun hk => ?_⟩⟩
      obtain ⟨p0, p, p1, p2, p3⟩ := (this.2 q).2
      refine ⟨p, p1, p2, p3, fun e14 => absurd e14 ?_, p0⟩
      show ¬ (15 : Nat) = 14
      omega
    · simp only [if_neg c2] at hc ⊢
      have i1 := iv_ex0 hA hw h (fb.lt ga hc)
      exact iv_er (iv_ex0 hB hw2 i1.1 hc).1 c2
  · simp only [if_neg c1] at hc ⊢
    exact iv_er (iv_ex0 hA hw h hc).1 c1
theorem iv_bn {sg : Int32} (hA : IvF X ta) (hB : IvF X tb) (hw : Wb X ta false lo hi) (hw2 : Wb X tb false lo' hi') (h : Ck T) (hc : cn (bnC X (chk X ta) (chk X tb) ta tb sg T).2.2.2 < 6000) : IvQ X (tD 5 i e ta tb) false (bnC X (chk X ta) (chk X tb) ta tb sg T) := by
  have fa := chk_fe (X := X) ta 0 0 T
  have ga := fa.tg h.1
  have fb := chk_fe (X := X) tb 0 0 (chk X ta 0 0 T).2.2.2
  have gb := fb.tg ga
  unfold bnC at hc ⊢
  dsimp only at hc ⊢
  by_cases c1 : (chk X ta 0 0 T).2.2.2.1 7 0 = 0
  · simp only [if_pos c1] at hc ⊢
    by_cases c2 : (chk X tb 0 0 (chk X ta 0 0 T).2.2.2).2.2.2.1 7 0 = 0
    · simp only [if_pos c2] at hc ⊢
      have c3 := FE.op.lt gb hc
      have c4 := fb.lt ga c3
      have i1 := iv_ex0 hA hw h c4
      have i2 := iv_ex0 hB hw2 i1.1 c3
      have := iv_op (sg := sg) (r := (chk X tb 0 0 (chk X ta 0 0 T).2.2.2).1) (x := plT X ta) (y := plT X tb) i2.1 ((i1.2 c1).1.fe fb ga) c3
      exact ⟨this.1, fun q _ => ⟨this.2, lf_no (by show (13 : Nat) ≠ 14; omega) (by show (13 : Nat) ≠ 15; omega)⟩⟩
    · simp only [if_neg c2] at hc ⊢
      have i1 := iv_ex0 hA hw h (fb.lt ga hc)
      exact iv_er (iv_ex0 hB hw2 i1.1 hc).1 c2
  · simp only [if_neg c1] at hc ⊢
    exact iv_er (iv_ex0 hA hw h hc).1 c1
theorem iv_nn (hA : IvF X ta) (hw : Wb X ta false lo hi) (h : Ck T) (hc : cn (nnC X (chk X ta) ta T).2.2.2 < 6000) : Ck (nnC X (chk X ta) ta T).2.2.2 ∧ ((nnC X (chk X ta) ta T).2.2.2.1 7 0 = 0 → tR (nnC X (chk X ta) ta T).2.2.2 (nnC X (chk X ta) ta T).1) := by
  have fa := chk_fe (X := X) ta 0 0 T
  have ga := fa.tg h.1
  unfold nnC at hc ⊢
  dsimp only at hc ⊢
  by_cases c1 : (chk X ta 0 0 T).2.2.2.1 7 0 = 0
  · simp only [if_pos c1] at hc ⊢
    by_cases c2 : isPt (chk X ta 0 0 T).2.2.2 (chk X ta 0 0 T).1 = 0
    · simp only [if_pos c2] at hc ⊢
      have hc' : cn (flT (chk X ta 0 0 T).2.2.2 4 (plT X ta)) < 6000 := hc
      rw [cn_fl] at hc'
      exact ⟨(iv_ex0 hA hw h hc').1.fl (by decide) hc', fun e => absurd e (flT_bad (by decide))⟩
    · simp only [if_neg c2] at hc ⊢
      have c3 : cn (nuS (chk X ta 0 0 T).2.2.2 (chk X ta 0 0 T).1) < 6000 := FE.kn.lt (FE.nu.tg ga) hc
      have c4 := c3
      rw [cn_nu] at c4
      have i1 := iv_ex0 hA hw h c4
      obtain ⟨p, e1, p1, p2⟩ := (i1.2 c1).1.pos (isPt_pos c2)
      have cp : (nI p).toNatClampNeg = p := nc (by omega)
      have so := i1.1.sol p1 p2
      unfold tf at hc ⊢
      rw [e1, cp] at hc ⊢
      rw [e1] at c3
      have so' : rwOk (nuS (chk X ta 0 0 T).2.2.2 (nI p)) (cn (nuS (chk X ta 0 0 T).2.2.2 (nI p))) (1, (chk X ta 0 0 T).2.2.2.1 67 p, (chk X ta 0 0 T).2.2.2.1 68 p, (chk X ta 0 0 T).2.2.2.1 69 p, (chk X ta 0 0 T).2.2.2.1 70 p) := by
        rw [cn_nu]
        exact so.fe FE.nu.einn
      obtain ⟨k1, q, k2, k3, k4, -⟩ := (i1.1.nu c4).kn so' hc
      exact ⟨k1, fun _ => Or.inr (Or.inr (Or.inr ⟨q, k2, k3, k4⟩))⟩
  · simp only [if_neg c1] at hc ⊢
    exact ⟨(iv_ex0 hA hw h hc).1, fun e => absurd e c1⟩
theorem iv_sz (hA : IvF X ta) (hw : Wb X ta false lo hi) (h : Ck T) (hc : cn (szC X (chk X ta) ta T).2.2.2 < 6000) : Ck (szC X (chk X ta) ta T).2.2.2 ∧ ((szC X (chk X ta) ta T).2.2.2.1 7 0 = 0 → tR (szC X (chk X ta) ta T).2.2.2 (szC X (chk X ta) ta T).1) := by
  unfold szC at hc ⊢
  dsimp only at hc ⊢
  by_cases c1 : (chk X ta 0 0 T).2.2.2.1 7 0 = 0
  · simp only [if_pos c1] at hc ⊢
    by_cases c2 : isRo (chk X ta 0 0 T).2.2.2 (chk X ta 0 0 T).1 = 0
    · simp only [if_pos c2] at hc ⊢
      have hc' : cn (flT (chk X ta 0 0 T).2.2.2 4 (plT X ta)) < 6000 := hc
      rw [cn_fl] at hc'
      exact ⟨(iv_ex0 hA hw h hc').1.fl (by decide) hc', fun e => absurd e (flT_bad (by decide))⟩
    · simp only [if_neg c2] at hc ⊢
      exact ⟨(iv_ex0 hA hw h hc).1, fun _ => z_tR⟩
  · simp only [if_neg c1] at hc ⊢
    exact ⟨(iv_ex0 hA hw h hc).1, fun e => absurd e c1⟩
theorem iv_md {js : List T5} (hr : rC2 r) (hs : s = 1 ∨ s = 3) (hA : IvF X ta) (hw : Wb X ta false lo hi) (h : Ck T) (hc : cn (mdC X (chk X ta) ta s r js T).2.2.2 < 6000) : Ck (mdC X (chk X ta) ta s r js T).2.2.2 ∧ ((mdC X (chk X ta) ta s r js T).2.2.2.1 7 0 = 0 → tR (mdC X (chk X ta) ta s r js T).2.2.2 (mdC X (chk X ta) ta s r js T).1) := by
  have fa := chk_fe (X := X) ta 0 0 T
  have ga := fa.tg h.1
  unfold mdC at hc ⊢
  dsimp only at hc ⊢
  by_cases c0 : (chk X ta 0 0 T).2.2.2.1 7 0 = 0 ∧ ¬ 0 ≤ (chk X ta 0 0 T).1
  · simp only [if_pos c0, if_neg (flT_bad (T := (chk X ta 0 0 T).2.2.2) (a := 4) (b := plT X ta) (by decide))] at hc ⊢
    have hc' : cn (flT (chk X ta 0 0 T).2.2.2 4 (plT X ta)) < 6000 := hc
    rw [cn_fl] at hc'
    exact ⟨(iv_ex0 hA hw h hc').1.fl (by decide) hc', fun e => absurd e (flT_bad (by decide))⟩
  · simp only [if_neg c0] at hc ⊢
    by_cases c1 : (chk X ta 0 0 T).2.2.2.1 7 0 = 0
    · simp only [if_pos c1] at hc ⊢
      have c3 : cn (mkS (chk X ta 0 0 T).2.2.2) < 6000 := FE.kn.lt (FE.mk.tg ga) hc
      have c4 := c3
      rw [cn_mk] at c4
      have i1 := iv_ex0 hA hw h c4
      have h0 : 0 ≤ (chk X ta 0 0 T).1 := Decidable.not_not.mp (fun q => c0 ⟨c1, q⟩)
      have hv : tV (chk X ta 0 0 T).2.2.2 (chk X ta 0 0 T).1 := by
        rcases (i1.2 c1).1 with q | q | q
        · rw [q] at h0; exact absurd h0 (by decide)
        · rw [q] at h0; exact absurd h0 (by decide)
        · exact q
      have so : rwOk (mkS (chk X ta 0 0 T).2.2.2) (cn (mkS (chk X ta 0 0 T).2.2.2)) (s, r, (chk X ta 0 0 T).1, -1, 0) := by
        refine ⟨?_, hr, PK.zr.up, fun _ => (by decide : ¬ (0 : Int32) ≤ -1), ?_⟩
        · rcases hs with e | e
          · exact Or.inl e
          · exact Or.inr (Or.inr e)
        · show (if (0 : Int32) ≤ -1 then _ else _)
          rw [if_neg (by decide), cn_mk]
          exact hv
      obtain ⟨k1, q, k2, k3, k4, -⟩ := (i1.1.mk c4).kn so hc
      exact ⟨k1, fun _ => Or.inr (Or.inr (Or.inr ⟨q, k2, k3, k4⟩))⟩
    · simp only [if_neg c1] at hc ⊢
      exact ⟨(iv_ex0 hA hw h hc).1, fun e => absurd e c1⟩
theorem iv_rw (hA : IvF X ta) (hB : IvF X tb) (hw : Wb X ta false lo hi) (hw2 : Wb X tb false lo' hi') (h : Ck T) (hc0 : cn T < 6000) (hc : cn (rwC X (chk X ta) (chk X tb) ta tb i T).2.2.2 < 6000) : Ck (rwC X (chk X ta) (chk X tb) ta tb i T).2.2.2 ∧ ((rwC X (chk X ta) (chk X tb) ta tb i T).2.2.2.1 7 0 = 0 → tR (rwC X (chk X ta) (chk X tb) ta tb i T).2.2.2 (rwC X (chk X ta) (chk X tb) ta tb i T).1) := by
  have hr : rC2 (srR X T (i + 1)) := rg_ok h.2.2
  have h0 : Ck (slS X T (i + 1)) := h.sl hc0
  unfold rwC at hc ⊢
  dsimp only at hc ⊢
  generalize slS X T (i + 1) = T0 at *
  by_cases c0 : T0.1 7 0 = 0
  · simp only [if_pos c0] at hc ⊢
    have fa := chk_fe (X := X) ta 0 0 T0
    have ga := fa.tg h0.1
    have f1 : FE (chk X ta 0 0 T0).2.2.2 (if (chk X ta 0 0 T0).2.2.2.1 7 0 = 0 ∧ ¬ (chk X ta 0 0 T0).1 = 0 then flT (chk X ta 0 0 T0).2.2.2 4 (plT X ta) else (chk X ta 0 0 T0).2.2.2) := FE.if2 (FE.fl (by decide)) FE.rf
    have c1 := (fe_md (X := X) (ta := tb) (s := 3) (r := srR X T (i + 1)) (js := (chk X ta 0 0 T0).2.2.1) (chk_fe tb)).lt (f1.tg ga) hc
    have c2 := f1.lt ga c1
    have i1 := iv_ex0 hA hw h0 c2
    have i2 : Ck (if (chk X ta 0 0 T0).2.2.2.1 7 0 = 0 ∧ ¬ (chk X ta 0 0 T0).1 = 0 then flT (chk X ta 0 0 T0).2.2.2 4 (plT X ta) else (chk X ta 0 0 T0).2.2.2) := by
      split
      · exact i1.1.fl (by decide) c2
      · exact i1.1
    exact iv_md hr (Or.inr rfl) hB hw2 i2 hc
  · simp only [if_neg c0] at hc ⊢
    exact ⟨h0, fun e => absurd e c0⟩
theorem iv_an (hA : IvF X ta) (hw : Wb X ta false lo hi) (h : Ck T) (hc0 : cn T < 6000) (hc : cn (anC X (chk X ta) ta T).2.2.2 < 6000) : Ck (anC X (chk X ta) ta T).2.2.2 ∧ ((anC X (chk X ta) ta T).2.2.2.1 7 0 = 0 → tR (anC X (chk X ta) ta T).2.2.2 (anC X (chk X ta) ta T).1) := by
  have fa := chk_fe (X := X) ta 0 0 T
  have ga := fa.tg h.1
  unfold anC at hc ⊢
  dsimp only at hc ⊢
  by_cases c0 : tkd X ta = 14 ∨ tkd X ta = 15
  · simp only [if_pos c0] at hc ⊢
    by_cases c1 : (chk X ta 0 0 T).2.2.2.1 7 0 = 0
    · simp only [if_pos c1] at hc ⊢
      by_cases c2 : tkd X ta = 14 ∧ (chk X ta 0 0 T).2.2.2.1 12 (tf (chk X ta 0 0 T).2.2.2 69 (chk X ta 0 0 T).2.1).toNatClampNeg = 1
      · simp only [if_pos c2] at hc ⊢
        have hc' : cn (flT (chk X ta 0 0 T).2.2.2 4 (plT X ta)) < 6000 := hc
        rw [cn_fl] at hc'
        exact ⟨(iv_ex0 hA hw h hc').1.fl (by decide) hc', fun e => absurd e (flT_bad (by decide))⟩
      · simp only [if_neg c2] at hc ⊢
        have c4 := FE.kn.lt ga hc
        have i1 := iv_ex0 hA hw h c4
        obtain ⟨p, e1, p1, p2, p3, p4⟩ := (i1.2 c1).2 c0
        have cp : (nI p).toNatClampNeg = p := nc (by omega)
        unfold tf at hc ⊢
        rw [e1, cp] at hc ⊢
        obtain ⟨k1, q, k2, k3, k4, -⟩ := i1.1.kn (z := (1, (chk X ta 0 0 T).2.2.2.1 67 p, (chk X ta 0 0 T).1, -1, 0)) ⟨Or.inl rfl, (i1.1.row p1 p2).2.1, PK.zr.up, fun _ => (by decide : ¬ (0 : Int32) ≤ -1), by
          show (if (0 : Int32) ≤ -1 then _ else _)
          rw [if_neg (by decide)]
          exact p4⟩ hc
        exact ⟨k1, fun _ => Or.inr (Or.inr (Or.inr ⟨q, k2, k3, k4⟩))⟩
    · simp only [if_neg c1] at hc ⊢
      exact ⟨(iv_ex0 hA hw h hc).1, fun e => absurd e c1⟩
  · simp only [if_neg c0] at hc ⊢
    exact ⟨h.fl (by decide) hc0, fun e => absurd e (flT_bad (by decide))⟩
theorem Ck.cd {fi all : Int32} : ∀ (m k : Nat) (T : gSt), Ck T → cn T < 6000 → Ck (cddS X fi all q m k T) ∧ cn (cddS X fi all q m k T) = cn T := by
  intro m
  induction m with
  | zero => intro k T h _; exact ⟨h, rfl⟩
  | succ m ih =>
    intro k T h hc
    rw [cddS]
    by_cases c : T.1 7 0 = 0
    · rw [if_pos c]
      split
      · have := ih (k + 1) _ (h.fl (a := 5) (b := nI (xP X (q + k))) (by decide) hc) (by rw [cn_fl]; exact hc)
        exact ⟨this.1, this.2.trans cn_fl⟩
      · exact ih (k + 1) T h hc
    · rw [if_neg c]
      exact ⟨h, rfl⟩
theorem Ck.cw {fi all : Int32} : ∀ (m k : Nat) (T : gSt), Ck T → cn T < 6000 → Ck (cwhS X fi all q m k T) ∧ cn (cwhS X fi all q m k T) = cn T := by
  intro m
  induction m with
  | zero => intro k T h _; exact ⟨h, rfl⟩
  | succ m ih =>
    intro k T h hc
    rw [cwhS]
    by_cases c : T.1 7 0 = 0
    · rw [if_pos c]
      split
      · have := ih (k + 1) _ (h.fl (a := 5) (b := nI (xP X (q + (roI T fi.toNatClampNeg (T.2 32 (6 * fi.toNatClampNeg + 2 * k))).toNatClampNeg - 1))) (by decide) hc) (by rw [cn_fl]; exact hc)
        exact ⟨this.1, this.2.trans cn_fl⟩
      · exact ih (k + 1) T h hc
    · rw [if_neg c]
      exact ⟨h, rfl⟩
/-- the arguments of an item, by number -/
theorem ag_it (h : Ck T) (hu : u < inn T) (hl : nI (lenT t) = T.1 19 u) (hl8 : lenT t < 100000) (hp : PK w 3) : agOk T (T.1 18 u).toNatClampNeg w t := by
  obtain ⟨c, m, r, w', b1, b2, b3, b4, b5, b6, b7, b8, b9, b10, b11⟩ := h.2.2.2.2.1.2.2 u hu
  rw [b1, nc (by omega)]
  rw [b2] at hl
  have := nI_inj hl8 (by omega) hl
  exact ⟨hp, fun j hj => ⟨by omega, b9 j (by omega)⟩⟩
theorem fu_ok {nm : Int64} (h : Ck T) (hf : 0 ≤ ff (isFu T nm) 0 (inn T)) : ∃ u, ff (isFu T nm) 0 (inn T) = nI u ∧ u < inn T ∧ (nI u).toNatClampNeg = u := by
  have := h.2.2.2.2.1.2.1
  rcases ff_val (p := isFu T nm) (k := inn T) (i := 0) with hv | ⟨j, g1, g2, g3, g4⟩
  · rw [hv] at hf
    exact absurd hf (by decide)
  · exact ⟨j, g4, by omega, nc (by omega)⟩
theorem ti_ok {nm : Int64} (h : Ck T) (hf : 0 ≤ ff (isTi T nm) 0 (inn T)) : ∃ u, ff (isTi T nm) 0 (inn T) = nI u ∧ u < inn T ∧ (nI u).toNatClampNeg = u := by
  have := h.2.2.2.2.1.2.1
  rcases ff_val (p := isTi T nm) (k := inn T) (i := 0) with hv | ⟨j, g1, g2, g3, g4⟩
  · rw [hv] at hf
    exact absurd hf (by decide)
  · exact ⟨j, g4, by omega, nc (by omega)⟩
theorem iv_clD (hl : lenT ta < 100000) (hA : IvF X ta) (hw : Wb X ta true lo hi) (h : Ck T) (hu : u < inn T) (hp : PK w 3) (hc : cn (clD X (chk X ta) ta i e (nI u) w T).2 < 6000) : Ck (clD X (chk X ta) ta i e (nI u) w T).2 := by
  have h24 := h.2.2.2.2.1.2.1
  have cu : (nI u).toNatClampNeg = u := nc (by omega)
  unfold clD at hc ⊢
  dsimp only at hc ⊢
  rw [cu] at hc ⊢
  by_cases c1 : nI (lenT ta) = T.1 19 u
  · rw [if_pos c1] at hc ⊢
    by_cases c2 : T.1 7 0 = 0
    · rw [if_pos c2] at hc ⊢
      have fa := chk_fe (X := X) ta (T.1 18 u).toNatClampNeg w T
      have ga := fa.tg h.1
      have c3 := ((FE.cd _ _ _).tr (FE.cw _ _ _)).lt ga hc
      have i1 := (hA true lo hi _ w T hw h (fun _ => ag_it h hu c1 hl hp) c3).1
      have i2 := Ck.cd (X := X) (q := i + 1) (fi := nI u) (all := w) e 0 _ i1 c3
      exact (Ck.cw _ 0 _ i2.1 (by rw [i2.2]; exact c3)).1
    · rw [if_neg c2] at hc ⊢
      have c3 : cn T < 6000 := ((FE.cd _ _ _).tr (FE.cw _ _ _)).lt h.1 hc
      have i2 := Ck.cd (X := X) (q := i + 1) (fi := nI u) (all := w) e 0 T h c3
      exact (Ck.cw _ 0 _ i2.1 (by rw [i2.2]; exact c3)).1
  · rw [if_neg c1, if_neg (flT_bad (by decide))] at hc ⊢
    have g1 : Tg (flT T 7 (nI (xP X i))) := (FE.fl (by decide)).tg h.1
    have c3 : cn (flT T 7 (nI (xP X i))) < 6000 := ((FE.cd _ _ _).tr (FE.cw _ _ _)).lt g1 hc
    have h1 := h.fl (a := 7) (b := nI (xP X i)) (by decide) (by rw [cn_fl] at c3; exact c3)
    have i2 := Ck.cd (X := X) (q := i + 1) (fi := nI u) (all := w) e 0 _ h1 c3
    exact (Ck.cw _ 0 _ i2.1 (by rw [i2.2]; exact c3)).1
theorem iv_cl (hl : lenT ta < 100000) (he : e ≤ 3) (hA : IvF X ta) (hw : Wb X ta true lo hi) (h : Ck T) (hc0 : cn T < 6000) (hc : cn (clC X (chk X ta) ta i e T).2.2.2 < 6000) : Ck (clC X (chk X ta) ta i e T).2.2.2 ∧ ((clC X (chk X ta) ta i e T).2.2.2.1 7 0 = 0 → tR (clC X (chk X ta) ta i e T).2.2.2 (clC X (chk X ta) ta i e T).1) := by
  unfold clC at hc ⊢
  dsimp only at hc ⊢
  by_cases c1 : 0 ≤ ff (isFu T (xN X i)) 0 (inn T)
  · obtain ⟨u, u1, u2, cu⟩ := fu_ok h c1
    simp only [if_pos c1] at hc ⊢
    rw [u1] at hc ⊢
    simp only [cu] at hc ⊢
    have key : ∀ T1, FE T T1 → Ck T1 → cn T1 < 6000 → ∀ ee, ee ≤ 3 → ∀ R : ChR, R = (if (waX X ee T1 (i + 1) 0 0).2.1 7 0 = 0 then (if (clD X (chk X ta) ta i e (nI u) (waX X ee T1 (i + 1) 0 0).1 (waX X ee T1 (i + 1) 0 0).2).2.1 7 0 = 0 then (if 0 ≤ (clD X (chk X ta) ta i e (nI u) (waX X ee T1 (i + 1) 0 0).1 (waX X ee T1 (i + 1) 0 0).2).2.1 25 u then ((chT 7 (clD X (chk X ta) ta i e (nI u) (waX X ee T1 (i + 1) 0 0).1 (waX X ee T1 (i + 1) 0 0).2).2 ((clD X (chk X ta) ta i e (nI u) (waX X ee T1 (i + 1) 0 0).1 (waX X ee T1 (i + 1) 0 0).2).2.1 26 u) (waX X ee T1 (i + 1) 0 0).1).1, 0, (clD X (chk X ta) ta i e (nI u) (waX X ee T1 (i + 1) 0 0).1 (waX X ee T1 (i + 1) 0 0).2).1.2.2.1 ++ [j1 18 (nI u) (waX X ee T1 (i + 1) 0 0).1 (chT 7 (clD X (chk X ta) ta i e (nI u) (waX X ee T1 (i + 1) 0 0).1 (waX X ee T1 (i + 1) 0 0).2).2 ((clD X (chk X ta) ta i e (nI u) (waX X ee T1 (i + 1) 0 0).1 (waX X ee T1 (i + 1) 0 0).2).2.1 26 u) (waX X ee T1 (i + 1) 0 0).1).1 (nI e)], (chT 7 (clD X (chk X ta) ta i e (nI u) (waX X ee T1 (i + 1) 0 0).1 (waX X ee T1 (i + 1) 0 0).2).2 ((clD X (chk X ta) ta i e (nI u) (waX X ee T1 (i + 1) 0 0).1 (waX X ee T1 (i + 1) 0 0).2).2.1 26 u) (waX X ee T1 (i + 1) 0 0).1).2) else (-1, 0, (clD X (chk X ta) ta i e (nI u) (waX X ee T1 (i + 1) 0 0).1 (waX X ee T1 (i + 1) 0 0).2).1.2.2.1 ++ [j1 18 (nI u) (waX X ee T1 (i + 1) 0 0).1 (-1) (nI e)], (clD X (chk X ta) ta i e (nI u) (waX X ee T1 (i + 1) 0 0).1 (waX X ee T1 (i + 1) 0 0).2).2)) else erR (clD X (chk X ta) ta i e (nI u) (waX X ee T1 (i + 1) 0 0).1 (waX X ee T1 (i + 1) 0 0).2).2) else erR (waX X ee T1 (i + 1) 0 0).2) → cn R.2.2.2 < 6000 → Ck R.2.2.2 ∧ (R.2.2.2.1 7 0 = 0 → tR R.2.2.2 R.1) := by
      intro T1 hF h1 hc1 ee hee R hR hcR
      have w1 := Ck.wa (X := X) (q := i + 1) ee 0 T1 0 h1 hc1 (by omega) PK.zr
      have wF := FE.wa (X := X) (q := i + 1) ee 0 T1 0
      generalize waX X ee T1 (i + 1) 0 0 = W at *
      have hu' : u < inn W.2 := by rw [(hF.tr wF).einn]; exact u2
      have dF := (fe_clD (X := X) (ta := ta) (i := i) (e := e) (fi := nI u) (all := W.1) (T := W.2) (chk_fe (X := X) ta)).2
      have dI := iv_clD (i := i) (e := e) hl hA hw w1.1 hu' w1.2.2
      generalize clD X (chk X ta) ta i e (nI u) W.1 W.2 = D at *
      subst hR
      by_cases c2 : W.2.1 7 0 = 0
      · simp only [if_pos c2] at hcR ⊢
        by_cases c3 : D.2.1 7 0 = 0
        · simp only [if_pos c3] at hcR ⊢
          by_cases c4 : 0 ≤ D.2.1 25 u
          · simp only [if_pos c4] at hcR ⊢
            have hcD : cn D.2 < 6000 := cn_ch_lt (dF.tg w1.1.1) hcR
            have d1 := dI hcD
            have hu2 : u < inn D.2 := by rw [dF.einn]; exact hu'
            obtain ⟨c, m, r, w', b1, b2, b3, b4, b5, b6, b7, b8, b9, b10, b11⟩ := d1.2.2.2.2.1.2.2 u hu2
            have := d1.ch w1.2.2 (b10 c4).1 (b10 c4).2 hcR
            exact ⟨this.1, fun _ => Or.inr (Or.inr this.2)⟩
          · simp only [if_neg c4] at hcR ⊢
            exact ⟨dI hcR, fun _ => Or.inl rfl⟩
        · simp only [if_neg c3] at hcR ⊢
          exact ⟨dI hcR, fun e => absurd e c3⟩
      · simp only [if_neg c2] at hcR ⊢
        exact ⟨w1.1, fun e => absurd e c2⟩
    by_cases c5 : T.1 15 u = nI e
    · simp only [if_pos c5] at hc ⊢
      exact key T FE.rf h hc0 (if T.1 7 0 = 0 then e else 0) (by split <;> omega) _ rfl hc
    · simp only [if_neg c5] at hc ⊢
      exact key _ (FE.fl (by decide)) (h.fl (by decide) hc0) (by rw [cn_fl]; exact hc0) (if (flT T 7 (nI (xP X i))).1 7 0 = 0 then e else 0) (by split <;> omega) _ rfl hc
  · simp only [if_neg c1] at hc ⊢
    have hb : ¬ (flT T 3 (nI (xP X i))).1 7 0 = 0 := flT_bad (by decide)
    simp only [if_neg hb] at hc ⊢
    have e0 : waX X 0 (flT T 3 (nI (xP X i))) (i + 1) 0 0 = (0, flT T 3 (nI (xP X i))) := rfl
    rw [e0] at hc ⊢
    simp only [if_neg hb] at hc ⊢
    exact ⟨h.fl (by decide) hc0, fun e => absurd e hb⟩
theorem iv_nwD {ti : Int32} (hl : ¬ xK X (i + 3 + e) = 49 → lenT ta < 100000) (hr : rC2 r) (hA : IvF X ta) (hw : if xK X (i + 3 + e) = 49 then Wb X ta false lo hi else Wb X ta true lo hi) (h : Ck T) (hc0 : cn T < 6000) (hu : u < inn T) (hp : PK w 3) (hc : cn (nwD X (chk X ta) ta i e r (nI u) w T).2.2.2 < 6000) : Ck (nwD X (chk X ta) ta i e r (nI u) w T).2.2.2 ∧ ((nwD X (chk X ta) ta i e r (nI u) w T).2.2.2.1 7 0 = 0 → tR (nwD X (chk X ta) ta i e r (nI u) w T).2.2.2 (nwD X (chk X ta) ta i e r (nI u) w T).1) := by
  have h24 := h.2.2.2.2.1.2.1
  have cu : (nI u).toNatClampNeg = u := nc (by omega)
  have row : ∀ S, Ck S → u < inn S → rwOk S (cn S) (1, r, -1, nI u, w) := fun S hS hi => ⟨Or.inl rfl, hr, hp, fun e => absurd e (by decide : ¬ (1 : Int32) = 3), by
    show (if 0 ≤ nI u then _ else _)
    rw [if_pos (show (0 : Int32) ≤ nI u from (nI_leI (a := 0) (b := u) (by omega) (by omega)).mpr (by omega))]
    exact ⟨u, rfl, hi⟩⟩
  have mkk : ∀ S, FE T S → Ck S → cn (knS (mkS S) (1, r, -1, nI u, w)) < 6000 → Ck (knS (mkS S) (1, r, -1, nI u, w)) ∧ tR (knS (mkS S) (1, r, -1, nI u, w)) (knR (mkS S) (1, r, -1, nI u, w)) := by
    intro S hF hS hcS
    have c3 : cn (mkS S) < 6000 := FE.kn.lt (FE.mk.tg hS.1) hcS
    have c4 := c3
    rw [cn_mk] at c4
    have hm := hS.mk c4
    obtain ⟨k1, q, k2, k3, k4, -⟩ := hm.kn (row _ hm (by rw [(hF.tr FE.mk).einn]; exact hu)) hcS
    exact ⟨k1, Or.inr (Or.inr (Or.inr ⟨q, k2, k3, k4⟩))⟩
  unfold nwD at hc ⊢
  dsimp only at hc ⊢
  rw [cu] at hc ⊢
  by_cases c0 : xK X (i + 3 + e) = 49
  · simp only [if_pos c0] at hc hw ⊢
    have n10 : ¬ (1 : Int32) = 0 := by decide
    simp only [if_neg n10] at hc ⊢
    by_cases c1 : T.1 12 u = 1
    · simp only [if_pos c1] at hc ⊢
      by_cases c2 : T.1 7 0 = 0
      · simp only [if_pos c2] at hc ⊢
        by_cases c3 : 0 ≤ fnF T (nI u) (xN X (i + 3 + e + 1))
        · simp only [if_pos c3] at hc ⊢
          obtain ⟨c, m, j, f1, f2, f3, f4, f5, f6, f7, f8⟩ := fld_ok h hc0 hu c3
          have fa := chk_fe (X := X) ta 0 0 T
          have ga := fa.tg h.1
          have e6 : fty (chk X ta 0 0 T).2.2.2 (nI u) (fnF T (nI u) (xN X (i + 3 + e + 1))) = T.1 24 (c + j) := by
            rw [f5, ← f6]
            unfold fty
            rw [fa.1 24 (by omega), fa.1 18 (by omega)]
          rw [e6] at hc ⊢
          have f2' := FE.ch (w := w) 7 (chk X ta 0 0 T).2.2.2 (T.1 24 (c + j))
          have g2 := f2'.tg ga
          have f3' := FE.ft (T := (chT 7 (chk X ta 0 0 T).2.2.2 (T.1 24 (c + j)) w).2) (x := (chk X ta 0 0 T).1) (y := (chT 7 (chk X ta 0 0 T).2.2.2 (T.1 24 (c + j)) w).1) (v := plT X ta)
          have g3 := f3'.tg g2
          have hcf : cn (ftS (chT 7 (chk X ta 0 0 T).2.2.2 (T.1 24 (c + j)) w).2 (chk X ta 0 0 T).1 (chT 7 (chk X ta 0 0 T).2.2.2 (T.1 24 (c + j)) w).1 (plT X ta)) < 6000 := by
            by_cases c4 : (ftS (chT 7 (chk X ta 0 0 T).2.2.2 (T.1 24 (c + j)) w).2 (chk X ta 0 0 T).1 (chT 7 (chk X ta 0 0 T).2.2.2 (T.1 24 (c + j)) w).1 (plT X ta)).1 7 0 = 0
            · simp only [if_pos c4] at hc
              exact (FE.mk.tr FE.kn).lt g3 hc
            · simp only [if_neg c4] at hc
              exact hc
          have c5 := f3'.lt g2 hcf
          have c6 := f2'.lt ga c5
          have i1 := iv_ex0 hA hw h c6
          have i2 := i1.1.ch hp (f7.fe fa h.1) (f8.fe fa h.1 c6) c5
          have i3 := i2.1.ft hcf
          by_cases c4 : (ftS (chT 7 (chk X ta 0 0 T).2.2.2 (T.1 24 (c + j)) w).2 (chk X ta 0 0 T).1 (chT 7 (chk X ta 0 0 T).2.2.2 (T.1 24 (c + j)) w).1 (plT X ta)).1 7 0 = 0
          · simp only [if_pos c4] at hc ⊢
            have := mkk _ ((fa.tr f2').tr f3') i3 hc
            exact ⟨this.1, fun _ => this.2⟩
          · simp only [if_neg c4] at hc ⊢
            exact ⟨i3, fun e => absurd e c4⟩
        · simp only [if_neg c3] at hc ⊢
          exact ⟨h.fl (by decide) hc0, fun e => absurd e (flT_bad (by decide))⟩
      · simp only [if_neg c2] at hc ⊢
        exact ⟨h, fun e => absurd e c2⟩
    · simp only [if_neg c1] at hc ⊢
      have hb : ¬ (flT T 7 (nI (xP X (i + 3 + e)))).1 7 0 = 0 := flT_bad (by decide)
      simp only [if_neg hb] at hc ⊢
      exact ⟨h.fl (by decide) hc0, fun e => absurd e hb⟩
  · simp only [if_neg c0] at hc hw ⊢
    simp only [↓reduceIte] at hc ⊢
    have hfl : ∀ (a b : Int32), ¬ a = 0 → Ck (flT T a b) := fun a b ha => h.fl ha hc0
    by_cases c1 : T.1 12 u = 0
    · simp only [if_pos c1] at hc ⊢
      by_cases c2 : nI (lenT ta) = T.1 19 u
      · simp only [if_pos c2] at hc ⊢
        by_cases c3 : T.1 7 0 = 0
        · simp only [if_pos c3] at hc ⊢
          have fa := chk_fe (X := X) ta (T.1 18 u).toNatClampNeg w T
          have ga := fa.tg h.1
          have hcf : cn (chk X ta (T.1 18 u).toNatClampNeg w T).2.2.2 < 6000 := by
            by_cases c4 : (chk X ta (T.1 18 u).toNatClampNeg w T).2.2.2.1 7 0 = 0
            · simp only [if_pos c4] at hc
              exact (FE.mk.tr FE.kn).lt ga hc
            · simp only [if_neg c4] at hc
              exact hc
          have i1 := (hA true lo hi _ w T hw h (fun _ => ag_it h hu c2 (hl c0) hp) hcf).1
          by_cases c4 : (chk X ta (T.1 18 u).toNatClampNeg w T).2.2.2.1 7 0 = 0
          · simp only [if_pos c4] at hc ⊢
            have := mkk _ fa i1 hc
            exact ⟨this.1, fun _ => this.2⟩
          · simp only [if_neg c4] at hc ⊢
            exact ⟨i1, fun e => absurd e c4⟩
        · simp only [if_neg c3] at hc ⊢
          exact ⟨h, fun e => absurd e c3⟩
      · simp only [if_neg c2] at hc ⊢
        have hb : ¬ (flT T 7 (nI (xP X (i + 2)))).1 7 0 = 0 := flT_bad (by decide)
        simp only [if_neg hb] at hc ⊢
        exact ⟨h.fl (by decide) hc0, fun e => absurd e hb⟩
    · simp only [if_neg c1] at hc ⊢
      have hb : ¬ (flT T 7 (nI (xP X (i + 3 + e)))).1 7 0 = 0 := flT_bad (by decide)
      simp only [if_neg hb] at hc ⊢
      exact ⟨h.fl (by decide) hc0, fun e => absurd e hb⟩
theorem waX_bad {m k : Nat} (h : ¬ T.1 7 0 = 0) : waX X m T q k w = (w, T) := by
  cases m with
  | zero => rfl
  | succ m => rw [waX, if_neg h]
theorem iv_nw (hl : ¬ xK X (i + 3 + e) = 49 → lenT ta < 100000) (he : e ≤ 3) (hA : IvF X ta) (hw : if xK X (i + 3 + e) = 49 then Wb X ta false lo hi else Wb X ta true lo hi) (h : Ck T) (hc0 : cn T < 6000) (hc : cn (nwC X (chk X ta) ta i e T).2.2.2 < 6000) : Ck (nwC X (chk X ta) ta i e T).2.2.2 ∧ ((nwC X (chk X ta) ta i e T).2.2.2.1 7 0 = 0 → tR (nwC X (chk X ta) ta i e T).2.2.2 (nwC X (chk X ta) ta i e T).1) := by
  have hr : rC2 (srR X T (i + 1)) := rg_ok h.2.2
  have h0 : Ck (slS X T (i + 1)) := h.sl hc0
  have f0 : FE T (slS X T (i + 1)) := FE.sl
  have c00 : cn (slS X T (i + 1)) < 6000 := by rw [cn_sl]; exact hc0
  unfold nwC at hc ⊢
  dsimp only at hc ⊢
  generalize srR X T (i + 1) = r at *
  generalize slS X T (i + 1) = T0 at *
  by_cases c0 : T0.1 7 0 = 0
  · simp only [if_pos c0] at hc ⊢
    by_cases c1 : 0 ≤ ff (isTi T0 (xN X (i + 2))) 0 (inn T0)
    · obtain ⟨u, u1, u2, cu⟩ := ti_ok h0 c1
      simp only [if_pos c1] at hc ⊢
      rw [u1] at hc ⊢
      simp only [cu] at hc ⊢
      by_cases c2 : T0.1 15 u = nI e
      · simp only [if_pos c2] at hc ⊢
        have w1 := Ck.wa (X := X) (q := i + 3) e 0 T0 0 h0 c00 (by omega) PK.zr
        have wF := FE.wa (X := X) (q := i + 3) e 0 T0 0
        generalize waX X e T0 (i + 3) 0 0 = W at *
        by_cases c3 : W.2.1 7 0 = 0
        · simp only [if_pos c3] at hc ⊢
          exact iv_nwD (ti := 0) hl hr hA hw w1.1 (by rw [w1.2.1]; exact c00) (by rw [wF.einn]; exact u2) w1.2.2 hc
        · simp only [if_neg c3] at hc ⊢
          exact ⟨w1.1, fun e => absurd e c3⟩
      · have hb : ¬ (flT T0 7 (nI (xP X (i + 2)))).1 7 0 = 0 := flT_bad (by decide)
        simp only [if_neg c2, waX_bad hb, if_neg hb] at hc ⊢
        exact ⟨h0.fl (by decide) c00, fun e => absurd e hb⟩
    · have hb : ¬ (flT T0 3 (nI (xP X (i + 2)))).1 7 0 = 0 := flT_bad (by decide)
      simp only [if_neg c1, waX_bad hb, if_neg hb] at hc ⊢
      exact ⟨h0.fl (by decide) c00, fun e => absurd e hb⟩
  · simp only [if_neg c0] at hc ⊢
    exact ⟨h0, fun e => absurd e c0⟩
theorem lenT_n {k i e : Nat} {a b : Tr} : lenT (tD k i e a b) = lenT b + 1 := rfl
theorem Wf_n {k i e : Nat} {a b : Tr} {m : Bool} : Wf X (tD k i e a b) m lo hi = WfN X (Wf X a) (Wf X b) k i e m lo hi := rfl
theorem WfN.lst {Wa Wc : Bool → Nat → Nat → Prop} (h : WfN X Wa Wc k i e true lo hi) : k = 10 ∧ ∃ b c, lo ≤ b ∧ Wa false b c ∧ Wc true c hi := by
  unfold WfN at h
  rw [if_pos rfl] at h
  exact h
theorem Wf_le (t : Tr) : ∀ (m : Bool) (lo hi : Nat), Wf X t m lo hi → (m = false → lo < hi) ∧ (m = true → lo + lenT t ≤ hi) := by
  induction t using Tr_ind with
  | h k i e a b ihA ihB =>
    intro m lo hi h
    rw [Wf_n] at h
    cases m with
    | true =>
      refine ⟨fun q => absurd q (by decide), fun _ => ?_⟩
      obtain ⟨-, b1, c, h1, h2, h3⟩ := WfN.lst h
      have := (ihA false _ _ h2).1 rfl
      have := (ihB true _ _ h3).2 rfl
      rw [lenT_n]
      omega
    | false =>
      refine ⟨fun _ => ?_, fun q => absurd q (by decide)⟩
      unfold WfN at h
      rw [if_neg (by decide)] at h
      by_cases c : k = 1
      · simp only [if_pos c] at h; exact h.2
      simp only [if_neg c] at h; clear c
      by_cases c : k = 2
      · simp only [if_pos c] at h
        obtain ⟨c1, h1, h2, h3⟩ := h
        have := (ihA false _ _ h2).1 rfl
        omega
      simp only [if_neg c] at h; clear c
      by_cases c : k = 3
      · simp only [if_pos c] at h
        have := (ihA false _ _ h.1).1 rfl
        omega
      simp only [if_neg c] at h; clear c
      by_cases c : k = 4
      · simp only [if_pos c] at h
        obtain ⟨h1, c1, h2, h3⟩ := h
        have := (ihA false _ _ h1).1 rfl
        have := (ihB false _ _ h2).1 rfl
        omega
      simp only [if_neg c] at h; clear c
      by_cases c : k = 5
      · simp only [if_pos c] at h
        have := (ihA false _ _ h.1).1 rfl
        have := (ihB false _ _ h.2).1 rfl
        omega
      simp only [if_neg c] at h; clear c
      by_cases c : k = 6
      · simp only [if_pos c] at h
        obtain ⟨h1, h2, c1, h3, h4⟩ := h
        have := (ihA true _ _ h3).2 rfl
        omega
      simp only [if_neg c] at h; clear c
      by_cases c : k = 7
      · simp only [if_pos c] at h
        obtain ⟨h1, h2, c1, h3, h4⟩ := h
        by_cases c : xK X (i + 3 + e) = 49
        · rw [if_pos c] at h3
          have := (ihA false _ _ h3).1 rfl
          omega
        · rw [if_neg c] at h3
          have := (ihA true _ _ h3).2 rfl
          omega
      simp only [if_neg c] at h; clear c
      by_cases c : k = 8
      · simp only [if_pos c] at h
        obtain ⟨h1, h2⟩ := h
        by_cases c : xK X i = 29
        · rw [if_pos c] at h2
          obtain ⟨c1, h3, h4⟩ := h2
          have := (ihA false _ _ h3).1 rfl
          omega
        rw [if_neg c] at h2
        by_cases c : xK X i = 30
        · rw [if_pos c] at h2
          obtain ⟨c1, d1, h3, h4, h5⟩ := h2
          have := (ihA false _ _ h3).1 rfl
          have := (ihB false _ _ h4).1 rfl
          omega
        · rw [if_neg c] at h2
          obtain ⟨c1, h3, h4⟩ := h2
          have := (ihA false _ _ h3).1 rfl
          omega
      simp only [if_neg c] at h; clear c
      by_cases c : k = 9
      · simp only [if_pos c] at h
        have := (ihA false _ _ h.2).1 rfl
        omega
      simp only [if_neg c] at h
  | hz t hz =>
    intro m lo hi h
    unfold Wf at h
    split at h
    · rename_i k i e a b
      exact absurd rfl (hz k i e a b)
    · exact ⟨fun q => by rw [h.1] at q; exact absurd q (by decide), fun _ => h.2⟩
    · exact h.elim
theorem chk_inv (t : Tr) : IvF X t := by
  induction t using Tr_ind with
  | hz t hz =>
    intro m lo hi f w T hw h hg hc
    rw [chk_nz hz] at hc ⊢
    refine ⟨h, fun _ hm => ?_⟩
    obtain ⟨hw, -⟩ := hw
    subst hm
    unfold Wf at hw
    split at hw
    · rename_i k i e a b
      exact absurd rfl (hz k i e a b)
    · exact absurd hw.1 (by decide)
    · exact hw.elim
  | h k i e a b ihA ihB =>
    intro m lo hi f w T hw h hg hc
    rw [chk_n] at hc ⊢
    by_cases c0 : ¬ T.1 7 0 = 0
    · rw [if_neg c0] at hc ⊢
      exact iv_er h c0
    have c0 := Decidable.not_not.mp c0
    rw [if_pos c0] at hc ⊢
    have hc0 : cn T < 6000 := (fe_n (chk_fe (X := X) a) (chk_fe (X := X) b)).lt h.1 hc
    obtain ⟨hw, hb⟩ := hw
    rw [Wf_n] at hw
    cases m with
    | true =>
      obtain ⟨hk, b1, c1, h1, h2, h3⟩ := WfN.lst hw
      have l3 := (Wf_le b true _ _ h3).2 rfl
      subst hk
      refine ⟨?_, fun _ q => absurd q (by decide)⟩
      have hc' : cn (agC X (chk X a) (chk X b) a f w T).2.2.2 < 6000 := hc
      exact iv_ag ihA ihB ⟨h2, by omega⟩ ⟨h3, hb⟩ h (hg rfl) hc'
    | false =>
      unfold WfN at hw
      rw [if_neg (by decide)] at hw
      unfold chN at hc ⊢
      by_cases c : k = 1
      · simp only [if_pos c] at hw hc ⊢
        subst c
        exact iv_lf h hc
      simp only [if_neg c] at hw hc ⊢
      clear c
      by_cases c : k = 2
      · simp only [if_pos c] at hw hc ⊢
        subst c
        obtain ⟨c1, h1, h2, h3⟩ := hw
        have := iv_ex0 ihA ⟨h2, by omega⟩ h hc
        exact ⟨this.1, fun q _ => this.2 q⟩
      simp only [if_neg c] at hw hc ⊢
      clear c
      by_cases c : k = 3
      · simp only [if_pos c] at hw hc ⊢
        subst c
        exact iv_tl ihA ⟨hw.1, by omega⟩ h hc
      simp only [if_neg c] at hw hc ⊢
      clear c
      by_cases c : k = 4
      · simp only [if_pos c] at hw hc ⊢
        subst c
        obtain ⟨h1, c1, h2, h3⟩ := hw
        have := (Wf_le b false _ _ h2).1 rfl
        exact iv_ex ihA ihB ⟨h1, by omega⟩ ⟨h2, by omega⟩ h hc
      simp only [if_neg c] at hw hc ⊢
      clear c
      by_cases c : k = 5
      · simp only [if_pos c] at hw hc ⊢
        subst c
        have := (Wf_le b false _ _ hw.2).1 rfl
        exact iv_bn ihA ihB ⟨hw.1, by omega⟩ ⟨hw.2, by omega⟩ h hc
      simp only [if_neg c] at hw hc ⊢
      clear c
      by_cases c : k = 6
      · simp only [if_pos c] at hw hc ⊢
        subst c
        obtain ⟨h1, h2, c1, h3, h4⟩ := hw
        have := (Wf_le a true _ _ h3).2 rfl
        have := iv_cl (i := i) (by omega) h2 ihA ⟨h3, by omega⟩ h hc0 hc
        exact ⟨this.1, fun q _ => ⟨this.2 q, lf_no (by show (5 : Nat) ≠ 14; omega) (by show (5 : Nat) ≠ 15; omega)⟩⟩
      simp only [if_neg c] at hw hc ⊢
      clear c
      by_cases c : k = 7
      · simp only [if_pos c] at hw hc ⊢
        subst c
        obtain ⟨h1, h2, c1, h3, h4⟩ := hw
        have hl : (¬ xK X (i + 3 + e) = 49 → lenT a < 100000) ∧ (if xK X (i + 3 + e) = 49 then Wb X a false (i + 3 + e + 3) c1 else Wb X a true (i + 3 + e + 1) c1) := by
          by_cases c : xK X (i + 3 + e) = 49
          · rw [if_pos c] at h3 ⊢
            exact ⟨fun q => absurd c q, h3, by omega⟩
          · rw [if_neg c] at h3 ⊢
            have := (Wf_le a true _ _ h3).2 rfl
            exact ⟨fun _ => by omega, h3, by omega⟩
        have hw2 : if xK X (i + 3 + e) = 49 then Wb X a false (if xK X (i + 3 + e) = 49 then i + 3 + e + 3 else i + 3 + e + 1) c1 else Wb X a true (if xK X (i + 3 + e) = 49 then i + 3 + e + 3 else i + 3 + e + 1) c1 := by
          have hl2 := hl.2
          by_cases c : xK X (i + 3 + e) = 49
          · simp only [if_pos c] at hl2 ⊢
            exact hl2
          · simp only [if_neg c] at hl2 ⊢
            exact hl2
        have := iv_nw hl.1 h2 ihA hw2 h hc0 hc
        exact ⟨this.1, fun q _ => ⟨this.2 q, lf_no (by show (if xK X (i + 3 + e) = 49 then (7 : Nat) else 6) ≠ 14; split <;> omega) (by show (if xK X (i + 3 + e) = 49 then (7 : Nat) else 6) ≠ 15; split <;> omega)⟩⟩
      simp only [if_neg c] at hw hc ⊢
      clear c
      by_cases c : k = 8
      · simp only [if_pos c] at hw hc ⊢
        subst c
        obtain ⟨h1, h2⟩ := hw
        have hn : ∀ R, lfOk X (tD 8 i e a b) R := fun R => lf_no (by show (if xK X i = 29 then (8 : Nat) else if xK X i = 30 then 9 else if xK X i = 31 then 11 else 12) ≠ 14; (repeat' split) <;> omega) (by show (if xK X i = 29 then (8 : Nat) else if xK X i = 30 then 9 else if xK X i = 31 then 11 else 12) ≠ 15; (repeat' split) <;> omega)
        by_cases c : xK X i = 29
        · simp only [if_pos c] at h2 hc ⊢
          obtain ⟨c1, h3, h4⟩ := h2
          unfold clLv at hc ⊢
          have := iv_md (js := []) (rg_ok (X := X) (q := i + 1) h.2.2) (Or.inl rfl) ihA ⟨h3, by omega⟩ (h.sl hc0) hc
          exact ⟨this.1, fun q _ => ⟨this.2 q, hn _⟩⟩
        simp only [if_neg c] at h2 hc ⊢
        clear c
        by_cases c : xK X i = 30
        · simp only [if_pos c] at h2 hc ⊢
          obtain ⟨c1, d1, h3, h4, h5⟩ := h2
          have := (Wf_le b false _ _ h4).1 rfl
          have := iv_rw (i := i) ihA ihB ⟨h3, by omega⟩ ⟨h4, by omega⟩ h hc0 hc
          exact ⟨this.1, fun q _ => ⟨this.2 q, hn _⟩⟩
        simp only [if_neg c] at h2 hc ⊢
        clear c
        obtain ⟨c1, h3, h4⟩ := h2
        by_cases c : xK X i = 31
        · simp only [if_pos c] at hc ⊢
          have := iv_nn ihA ⟨h3, by omega⟩ h hc
          exact ⟨this.1, fun q _ => ⟨this.2 q, hn _⟩⟩
        · simp only [if_neg c] at hc ⊢
          have := iv_sz ihA ⟨h3, by omega⟩ h hc
          exact ⟨this.1, fun q _ => ⟨this.2 q, hn _⟩⟩
      simp only [if_neg c] at hw hc ⊢
      clear c
      by_cases c : k = 9
      · simp only [if_pos c] at hw hc ⊢
        subst c
        have := iv_an ihA ⟨hw.2, by omega⟩ h hc0 hc
        exact ⟨this.1, fun q _ => ⟨this.2 q, lf_no (by show (10 : Nat) ≠ 14; omega) (by show (10 : Nat) ≠ 15; omega)⟩⟩
      simp only [if_neg c] at hw
end CJ
