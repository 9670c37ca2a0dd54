/-! room for types: elements, signs, cells, rows -/
section RM4
variable {T T' T1 S S' Sa : gSt} {X : Lx} {p q k m n f v i e lo hi lo' hi' : Nat} {x y w r s a b : Int32} {z : T5} {nm : Int64} {ta tb t : Tr} {R R' : ChR}
theorem pot_s {C : Prop} [Decidable C] (h1 : pot S = n) (h2 : pot S' = n) : pot (if C then S else S') = n := by
  split
  · exact h1
  · exact h2
theorem tR_off (h : tR T r) (h2 : ¬ r = -2) : off T r ≤ 4 := off_le h2
theorem ix_pot {t u : Int32} : pot (ixC T t u x y).2 = pot T := by
  unfold ixC
  repeat' split
  · exact pot_fl
  · exact pot_fl
  · exact pot_w (by omega) (by omega) (by omega)
  · exact pot_fl
theorem op_pot {sg l : Int32} : pot (opC T sg l r x y).2 = pot T := by
  unfold opC
  repeat' split
  all_goals first | rfl | exact pot_fl
theorem ix_ok {t u : Int32} (h : (ixC T t u x y).2.1 7 0 = 0) (h0 : T.1 7 0 = 0) : ¬ isRo T t = 0 ∧ u = 0 ∧ (ixC T t u x y).1 = tf T 68 t ∧ (∀ k, k ≠ 89 → (ixC T t u x y).2.1 k = T.1 k) := by
  unfold ixC at h ⊢
  by_cases c1 : isRo T t = 0
  · rw [if_pos c1] at h; exact absurd h (flT_bad (by decide))
  rw [if_neg c1] at h ⊢
  by_cases c2 : isLv T (tf T 67 t) = 0
  · rw [if_pos c2] at h; exact absurd h (flT_bad (by decide))
  rw [if_neg c2] at h ⊢
  by_cases c3 : u = 0
  · rw [if_pos c3]
    exact ⟨c1, c3, rfl, fun k hk => sI_ne hk⟩
  · rw [if_neg c3] at h; exact absurd h (flT_bad (by decide))
/-- an element of a row -/
theorem rm_ex (hA : RF X ta) (hB : RF X tb) (hw : Wb X ta false lo hi) (hw2 : Wb X tb false lo' hi') (h : Ck T) (hq : Hq T) (h0 : T.1 7 0 = 0) (hc : cn T < 6000) : RBq X (tD 4 i e ta tb) T (exC X (chk X ta) (chk X tb) ta tb T) := by
  have hs := (hA false lo hi 0 0 T hw h hq h0 hc (fun e => absurd e (by decide))).1 rfl
  have hfe := chk_fe (X := X) ta 0 0 T
  have c1 : cw X (tD 4 i e ta tb) = cw X ta + cw X tb + 2 := rfl
  have tk : tkd X (tD 4 i e ta tb) = 15 := rfl
  unfold exC
  generalize hR : chk X ta 0 0 T = R at *
  dsimp only
  refine rb_bd (Sa := R.2.2.2) (by have := hs.2; omega) (fun q => by rw [if_neg q]; rfl) ?_ (hfe.tg h.1) (fun c7 c6 => ?_)
  · split
    · split
      · exact (chk_fe (X := X) tb 0 0 R.2.2.2).tr FE.ix
      · exact chk_fe (X := X) tb 0 0 R.2.2.2
    · exact FE.rf
  rw [if_pos c7]
  have hv := iv_ex0 (chk_inv ta) hw h (by rw [hR]; exact c6)
  rw [hR] at hv
  have s1 := (hs.1 c7 c6).1
  have hqR := hq.fe h hfe c6
  have hs2 := (hB false lo' hi' 0 0 R.2.2.2 hw2 hv.1 hqR c7 c6 (fun e => absurd e (by decide))).1 rfl
  have hfe2 := chk_fe (X := X) tb 0 0 R.2.2.2
  generalize hQ : chk X tb 0 0 R.2.2.2 = Q at *
  refine rb_bd (Sa := Q.2.2.2) (by have := hs2.2; omega) (fun q => by rw [if_neg q]; rfl) ?_ (hfe2.tg hv.1.1) (fun d7 d6 => ?_)
  · split
    · exact FE.ix
    · exact FE.rf
  rw [if_pos d7]
  have hv2 := iv_ex0 (chk_inv tb) hw2 hv.1 (by rw [hQ]; exact d6)
  rw [hQ] at hv2
  have s2 := (hs2.1 d7 d6).1
  have ip : pot (ixC Q.2.2.2 R.1 Q.1 (plT X ta) (plT X tb)).2 = pot Q.2.2.2 := ix_pot
  refine ⟨fun g7 g6 => ?_, by show pot (ixC Q.2.2.2 R.1 Q.1 (plT X ta) (plT X tb)).2 ≤ _; omega⟩
  have ok := ix_ok g7 d7
  have tvr := (iv_ix (u := Q.1) (x := plT X ta) (y := plT X tb) hv2.1 ((hv.2 c7).1.fe hfe2 hv.1.1) d6).2 g7
  have o1 : off (ixC Q.2.2.2 R.1 Q.1 (plT X ta) (plT X tb)).2 (ixC Q.2.2.2 R.1 Q.1 (plT X ta) (plT X tb)).1 ≤ 4 := off_le (tR_m2 (FE.ix.tg hv2.1.1) tvr.2.1)
  have o2 : off Q.2.2.2 Q.1 = 2 := by rw [ok.2.1, off_i (by decide) (by decide)]
  refine ⟨?_, fun q => by rw [tk] at q; omega, fun _ => ?_⟩
  · show pot (ixC Q.2.2.2 R.1 Q.1 (plT X ta) (plT X tb)).2 + off (ixC Q.2.2.2 R.1 Q.1 (plT X ta) (plT X tb)).2 (ixC Q.2.2.2 R.1 Q.1 (plT X ta) (plT X tb)).1 ≤ _
    omega
  · show pot (ixC Q.2.2.2 R.1 Q.1 (plT X ta) (plT X tb)).2 + 6 ≤ _
    omega
/-- what a sign gives: a row's own type, or a number -/
theorem op_ty {sg l : Int32} (h : (opC T sg l r x y).2.1 7 0 = 0) (h0 : T.1 7 0 = 0) : (opC T sg l r x y).2 = T ∧ ((opC T sg l r x y).1 = 0 ∨ ((opC T sg l r x y).1 = l ∧ r = 0 ∧ ¬ isRo T l = 0)) := by
  unfold opC at h ⊢
  by_cases c1 : sg = 43 ∧ ¬ isRo T l = 0 ∧ r = 0
  · rw [if_pos c1]; exact ⟨rfl, Or.inr ⟨rfl, c1.2.2, c1.2.1⟩⟩
  rw [if_neg c1] at h ⊢
  have bad : ∀ c : Int32, ¬ c = 0 → ∀ q : Int32, ¬ (flT T c q).1 7 0 = 0 := fun c hc q => flT_bad hc
  split
  · rename_i c2
    rw [if_pos c2] at h
    split
    · exact ⟨rfl, Or.inl rfl⟩
    · rename_i c3
      rw [if_neg c3] at h
      split
      · rename_i c4
        rw [if_pos c4] at h
        split
        · rename_i c5; rw [if_pos c5] at h; exact absurd h (bad _ (by decide) _)
        · rename_i c5
          rw [if_neg c5] at h
          split
          · rename_i c6; rw [if_pos c6] at h; exact absurd h (bad _ (by decide) _)
          · exact ⟨rfl, Or.inl rfl⟩
      · rename_i c4; rw [if_neg c4] at h; exact absurd h (bad _ (by decide) _)
  · rename_i c2
    rw [if_neg c2] at h
    split
    · rename_i c3
      rw [if_pos c3] at h
      split
      · exact ⟨rfl, Or.inl rfl⟩
      · rename_i c4; rw [if_neg c4] at h; exact absurd h (bad _ (by decide) _)
    · rename_i c3; rw [if_neg c3] at h; exact absurd h (bad _ (by decide) _)
theorem rm_bn {sg : Int32} (hA : RF X ta) (hB : RF X tb) (hw : Wb X ta false lo hi) (hw2 : Wb X tb false lo' hi') (h : Ck T) (hq : Hq T) (h0 : T.1 7 0 = 0) (hc : cn T < 6000) : RBq X (tD 5 i e ta tb) T (bnC X (chk X ta) (chk X tb) ta tb sg T) := by
  have hs := (hA false lo hi 0 0 T hw h hq h0 hc (fun e => absurd e (by decide))).1 rfl
  have hfe := chk_fe (X := X) ta 0 0 T
  have c1 : cw X (tD 5 i e ta tb) = cw X ta + cw X tb + 1 := rfl
  have tk : tkd X (tD 5 i e ta tb) = 13 := rfl
  unfold bnC
  generalize hR : chk X ta 0 0 T = R at *
  dsimp only
  refine rb_bd (Sa := R.2.2.2) (by have := hs.2; omega) (fun q => by rw [if_neg q]; rfl) ?_ (hfe.tg h.1) (fun c7 c6 => ?_)
  · split
    · split
      · exact (chk_fe (X := X) tb 0 0 R.2.2.2).tr FE.op
      · exact chk_fe (X := X) tb 0 0 R.2.2.2
    · exact FE.rf
  rw [if_pos c7]
  have hv := iv_ex0 (chk_inv ta) hw h (by rw [hR]; exact c6)
  rw [hR] at hv
  have s1 := (hs.1 c7 c6).1
  have hqR := hq.fe h hfe c6
  have hs2 := (hB false lo' hi' 0 0 R.2.2.2 hw2 hv.1 hqR c7 c6 (fun e => absurd e (by decide))).1 rfl
  have hfe2 := chk_fe (X := X) tb 0 0 R.2.2.2
  generalize hQ : chk X tb 0 0 R.2.2.2 = Q at *
  refine rb_bd (Sa := Q.2.2.2) (by have := hs2.2; omega) (fun q => by rw [if_neg q]; rfl) ?_ (hfe2.tg hv.1.1) (fun d7 d6 => ?_)
  · split
    · exact FE.op
    · exact FE.rf
  rw [if_pos d7]
  have s2 := (hs2.1 d7 d6).1
  have ip : pot (opC Q.2.2.2 sg R.1 Q.1 (plT X ta) (plT X tb)).2 = pot Q.2.2.2 := op_pot
  refine ⟨fun g7 g6 => ?_, by show pot (opC Q.2.2.2 sg R.1 Q.1 (plT X ta) (plT X tb)).2 ≤ _; omega⟩
  have ok := op_ty g7 d7
  refine ⟨?_, fun q => by rw [tk] at q; omega, fun q => by rw [tk] at q; omega⟩
  show pot (opC Q.2.2.2 sg R.1 Q.1 (plT X ta) (plT X tb)).2 + off (opC Q.2.2.2 sg R.1 Q.1 (plT X ta) (plT X tb)).2 (opC Q.2.2.2 sg R.1 Q.1 (plT X ta) (plT X tb)).1 ≤ _
  rcases ok.2 with z | ⟨z1, z2, z3⟩
  · rw [z, off_i (by decide) (by decide)]
    omega
  · rw [z1, ok.1]
    have o2 : off Q.2.2.2 Q.1 = 2 := by rw [z2, off_i (by decide) (by decide)]
    have o1 : off Q.2.2.2 R.1 = off R.2.2.2 R.1 := off_fe hfe2 hv.1.1 hv.1.2.1 d6 (hv.2 c7).1
    omega
theorem rm_nn (hk : ¬ xK X i = 29) (hk2 : ¬ xK X i = 30) (hA : RF X ta) (hw : Wb X ta false lo hi) (h : Ck T) (hq : Hq T) (h0 : T.1 7 0 = 0) (hc : cn T < 6000) : RBq X (tD 8 i e ta tb) T (nnC X (chk X ta) ta T) := by
  have hs := (hA false lo hi 0 0 T hw h hq h0 hc (fun e => absurd e (by decide))).1 rfl
  have hfe := chk_fe (X := X) ta 0 0 T
  have c1 : cw X (tD 8 i e ta tb) = cw X ta + 3 := by
    show (if xK X i = 29 then _ else if xK X i = 30 then _ else _) = _
    rw [if_neg hk, if_neg hk2]
  have tk : tkd X (tD 8 i e ta tb) = 11 ∨ tkd X (tD 8 i e ta tb) = 12 := by
    show (if xK X i = 29 then 8 else if xK X i = 30 then 9 else if xK X i = 31 then 11 else 12) = 11 ∨ (if xK X i = 29 then 8 else if xK X i = 30 then 9 else if xK X i = 31 then 11 else 12) = 12
    rw [if_neg hk, if_neg hk2]
    split <;> omega
  unfold nnC
  generalize hR : chk X ta 0 0 T = R at *
  dsimp only
  refine rb_bd (Sa := R.2.2.2) (by have := hs.2; omega) (fun q => by rw [if_neg q]; rfl) ?_ (hfe.tg h.1) (fun c7 c6 => ?_)
  · split
    · split
      · exact FE.fl (by decide)
      · exact FE.nu.tr FE.kn
    · exact FE.rf
  rw [if_pos c7]
  have hv := iv_ex0 (chk_inv ta) hw h (by rw [hR]; exact c6)
  rw [hR] at hv
  have s1 := (hs.1 c7 c6).1
  by_cases c2 : isPt R.2.2.2 R.1 = 0
  · rw [if_pos c2]
    exact rb_f (by rw [pot_fl]; omega) (flT_bad (by decide))
  rw [if_neg c2]
  generalize hz : ((1 : Int32), tf R.2.2.2 67 R.1, tf R.2.2.2 68 R.1, tf R.2.2.2 69 R.1, tf R.2.2.2 70 R.1) = z
  have ck1 := hv.1.nu (x := R.1) c6
  have k1 := cn_kn1 (z := z) ck1.1
  have p1 := pot_add (k := 1) (FE.kn (z := z)) ck1.1 (show Vv _ from ck1.2.2.2.2.2.2.2) (by rw [cn_nu]; exact c6) k1
  rw [pot_nu] at p1
  refine ⟨fun g7 g6 => ⟨?_, fun q => by omega, fun q => by omega⟩, by show pot (knS (nuS R.2.2.2 R.1) z) ≤ _; omega⟩
  show pot (knS (nuS R.2.2.2 R.1) z) + off (knS (nuS R.2.2.2 R.1) z) (knR (nuS R.2.2.2 R.1) z) ≤ _
  obtain ⟨p, ep, pp1, pp2⟩ := (hv.2 c7).1.pos (isPt_pos c2)
  have t1 := tf_row hv.1.1 pp2
  have hz2 : z = (1, (nuS R.2.2.2 R.1).1 67 p, (nuS R.2.2.2 R.1).1 68 p, (nuS R.2.2.2 R.1).1 69 p, (nuS R.2.2.2 R.1).1 70 p) := by
    rw [← hz, ep, t1.2.1, t1.2.2.1, t1.2.2.2.1, t1.2.2.2.2]
    unfold nuS
    rw [sI_ne (by omega), sI_ne (by omega), sI_ne (by omega), sI_ne (by omega)]
  have kk := ck1.kn (z := z) (by rw [hz2]; exact ck1.sol pp1 (by rw [cn_nu]; exact pp2)) g6
  obtain ⟨q, q1, q2, q3, q4⟩ := kk.2
  have := off_le (T := knS (nuS R.2.2.2 R.1) z) (tR_m2 kk.1.1 (Or.inr ⟨q, q1, q2, q3⟩))
  omega
theorem rm_sz (hk : ¬ xK X i = 29) (hk2 : ¬ xK X i = 30) (hA : RF X ta) (hw : Wb X ta false lo hi) (h : Ck T) (hq : Hq T) (h0 : T.1 7 0 = 0) (hc : cn T < 6000) : RBq X (tD 8 i e ta tb) T (szC X (chk X ta) ta T) := by
  have hs := (hA false lo hi 0 0 T hw h hq h0 hc (fun e => absurd e (by decide))).1 rfl
  have hfe := chk_fe (X := X) ta 0 0 T
  have c1 : cw X (tD 8 i e ta tb) = cw X ta + 3 := by
    show (if xK X i = 29 then _ else if xK X i = 30 then _ else _) = _
    rw [if_neg hk, if_neg hk2]
  have tk : tkd X (tD 8 i e ta tb) = 11 ∨ tkd X (tD 8 i e ta tb) = 12 := by
    show (if xK X i = 29 then 8 else if xK X i = 30 then 9 else if xK X i = 31 then 11 else 12) = 11 ∨ (if xK X i = 29 then 8 else if xK X i = 30 then 9 else if xK X i = 31 then 11 else 12) = 12
    rw [if_neg hk, if_neg hk2]
    split <;> omega
  unfold szC
  generalize hR : chk X ta 0 0 T = R at *
  dsimp only
  refine rb_bd (Sa := R.2.2.2) (by have := hs.2; omega) (fun q => by rw [if_neg q]; rfl) ?_ (hfe.tg h.1) (fun c7 c6 => ?_)
  · split
    · split
      · exact FE.fl (by decide)
      · exact FE.rf
    · exact FE.rf
  rw [if_pos c7]
  have s1 := (hs.1 c7 c6).1
  by_cases c2 : isRo R.2.2.2 R.1 = 0
  · rw [if_pos c2]
    exact rb_f (by rw [pot_fl]; omega) (flT_bad (by decide))
  rw [if_neg c2]
  refine ⟨fun g7 g6 => ⟨?_, fun q => by omega, fun q => by omega⟩, by show pot R.2.2.2 ≤ _; omega⟩
  show pot R.2.2.2 + off R.2.2.2 0 ≤ _
  rw [off_i (by decide) (by decide)]
  omega
/-- cell and row, from their last part on; n: what is left of the room -/
theorem rm_md {js : List T5} {sk : Int32} {T0 : gSt} {n : Nat} (hr : rC2 r) (hsk : sk = 1 ∨ sk = 3) (hA : RF X ta) (hw : Wb X ta false lo hi) (h : Ck T) (hq : Hq T) (h0 : T.1 7 0 = 0) (hc : cn T < 6000) (hn : pot T + 3 * cw X ta + 6 ≤ pot T0 + 3 * cw X t) (tk : ¬ tkd X t = 14 ∧ ¬ tkd X t = 15) : RBq X t T0 (mdC X (chk X ta) ta sk r js T) := by
  have hs := (hA false lo hi 0 0 T hw h hq h0 hc (fun e => absurd e (by decide))).1 rfl
  have hfe := chk_fe (X := X) ta 0 0 T
  unfold mdC
  generalize hR : chk X ta 0 0 T = R at *
  dsimp only
  have i1 : ¬ R.2.2.2.1 7 0 = 0 → (if R.2.2.2.1 7 0 = 0 ∧ ¬ 0 ≤ R.1 then flT R.2.2.2 4 (plT X ta) else R.2.2.2) = R.2.2.2 := fun q => by rw [if_neg (fun z => q z.1)]
  have i2 : 0 ≤ R.1 → (if R.2.2.2.1 7 0 = 0 ∧ ¬ 0 ≤ R.1 then flT R.2.2.2 4 (plT X ta) else R.2.2.2) = R.2.2.2 := fun q => by rw [if_neg (fun z => z.2 q)]
  have i3 : R.2.2.2.1 7 0 = 0 → ¬ 0 ≤ R.1 → (if R.2.2.2.1 7 0 = 0 ∧ ¬ 0 ≤ R.1 then flT R.2.2.2 4 (plT X ta) else R.2.2.2) = flT R.2.2.2 4 (plT X ta) := fun q z => by rw [if_pos ⟨q, z⟩]
  have i4 : FE R.2.2.2 (if R.2.2.2.1 7 0 = 0 ∧ ¬ 0 ≤ R.1 then flT R.2.2.2 4 (plT X ta) else R.2.2.2) := by
    split
    · exact FE.fl (by decide)
    · exact FE.rf
  generalize (if R.2.2.2.1 7 0 = 0 ∧ ¬ 0 ≤ R.1 then flT R.2.2.2 4 (plT X ta) else R.2.2.2) = T1 at *
  refine rb_bd (Sa := R.2.2.2) (by have := hs.2; omega) (fun q => by rw [i1 q, if_neg q]; rfl) ?_ (hfe.tg h.1) (fun c7 c6 => ?_)
  · split
    · exact (i4.tr FE.mk).tr FE.kn
    · exact i4
  have hv := iv_ex0 (chk_inv ta) hw h (by rw [hR]; exact c6)
  rw [hR] at hv
  have s1 := (hs.1 c7 c6).1
  by_cases c2 : 0 ≤ R.1
  · rw [i2 c2, if_pos c7]
    have ck1 := hv.1.mk c6
    have k1 := cn_kn1 (z := (sk, r, R.1, -1, 0)) ck1.1
    have p1 := pot_add (k := 1) (FE.kn (z := (sk, r, R.1, -1, 0))) ck1.1 (show Vv _ from ck1.2.2.2.2.2.2.2) (by rw [cn_mk]; exact c6) k1
    rw [pot_mk] at p1
    refine ⟨fun g7 g6 => ⟨?_, fun q => absurd q tk.1, fun q => absurd q tk.2⟩, by show pot (knS (mkS R.2.2.2) (sk, r, R.1, -1, 0)) ≤ _; omega⟩
    show pot (knS (mkS R.2.2.2) (sk, r, R.1, -1, 0)) + off (knS (mkS R.2.2.2) (sk, r, R.1, -1, 0)) (knR (mkS R.2.2.2) (sk, r, R.1, -1, 0)) ≤ _
    have tvR : tV R.2.2.2 R.1 := by
      rcases (hv.2 c7).1 with z | z | z
      · rw [z] at c2; exact absurd c2 (by decide)
      · rw [z] at c2; exact absurd c2 (by decide)
      · exact z
    have row : rwOk (mkS R.2.2.2) (cn (mkS R.2.2.2)) (sk, r, R.1, -1, 0) := by
      refine ⟨?_, hr, PK.zr.up, fun _ => (by decide : ¬ (0 : Int32) ≤ -1), ?_⟩
      · rcases hsk with z | z
        · exact Or.inl z
        · exact Or.inr (Or.inr z)
      · show (if (0 : Int32) ≤ -1 then _ else _)
        rw [if_neg (by decide), cn_mk]
        exact tvR
    have kk := ck1.kn (z := (sk, r, R.1, -1, 0)) row g6
    obtain ⟨q, q1, q2, q3, q4⟩ := kk.2
    have := off_le (T := knS (mkS R.2.2.2) (sk, r, R.1, -1, 0)) (tR_m2 kk.1.1 (Or.inr ⟨q, q1, q2, q3⟩))
    omega
  · have fb := flT_bad (T := R.2.2.2) (a := 4) (b := plT X ta) (by decide)
    rw [i3 c7 c2, if_neg fb]
    exact rb_f (by rw [pot_fl]; omega) fb
end RM4
