/-! a list of STEPS, a BLOCK: both sides, the loop -/
section ZSC
variable {S S' S1 S2 T T' T1 T2 T3 : gSt} {X : Lx} {nf d it e v g n dd v' g' k i e' u c m lo hi a b n0 y z p q r j s f yv yx yr lr N : Nat} {ta tb tr : Tr} {pl x op cc t x4 : Int32} {R : RgR} {nm w w2 : Int64} {bo : Bool} {zz : T5}
theorem RcS_eq (h : ∀ g, 11 ≤ g → g ≤ 18 → T'.1 g = T.1 g) (t : Tr) : RcS X T' t = RcS X T t := by
  induction t using Tr_ind with
  | hz t hz =>
    unfold RcS
    split
    · exact absurd rfl (hz _ _ _ _ _)
    · rfl
    · rfl
  | h k i e ta tb ihA ihB =>
    rw [RcS_n, RcS_n, ihA, ihB, RcG_eq h, RcG_eq h]
    funext mo p lo hi
    unfold RsC vB cRX
    simp only [h 11 (by omega) (by omega), h 12 (by omega) (by omega), h 13 (by omega) (by omega), h 16 (by omega) (by omega), h 17 (by omega) (by omega), h 18 (by omega) (by omega)]
theorem RcS.fz {mo : Nat} (h : RcS X T tr mo p lo hi) (hF : FZ T T') : RcS X T' tr mo p lo hi := by
  rw [RcS_eq (fun g a b => hF.o (by omega) (by omega))]
  exact h
/-- a STEP has a row -/
theorem kw_pos (h : SG X tr dd 0) : 1 ≤ kwS2 tr ∧ ∃ k i e ta tb, tr = tD k i e ta tb := by
  induction tr using Tr_ind with
  | hz t hz =>
    unfold SG at h
    split at h
    · exact absurd rfl (hz _ _ _ _ _)
    · exact absurd h (by decide)
    · exact h.elim
  | h k i e ta tb _ _ =>
    refine ⟨?_, _, _, _, _, _, rfl⟩
    rw [SG_n] at h
    unfold sgN at h
    rw [if_neg (by omega), if_neg (by omega), if_neg (by omega)] at h
    rw [kwS2_n]
    by_cases c31 : k = 31
    · subst c31; simp at h
    by_cases c11 : k = 11
    · subst c11; simp at h
    by_cases c12 : k = 12
    · subst c12; simp at h
    rw [if_neg c31, if_neg c11, if_neg c12]
    repeat' split
    all_goals omega
theorem z_nil (hX : XO X) (hz : ∀ k i e a b, tr ≠ tD k i e a b) : Zl0 nf X it tr := by
  intro T lo hi dd d a b v g v' g' u0 fl j Q ⟨p1, p2, p3, p4, p5, p6, p7, p8, p9, p10, p11⟩ hj hfl hQ
  have es : ∀ S, stS X it tr 0 0 0 S = S := fun S => by
    unfold stS
    split
    · exact absurd rfl (hz _ _ _ _ _)
    · rfl
  have ez : isZ tr = true := by
    unfold SG at p4
    split at p4
    · exact absurd rfl (hz _ _ _ _ _)
    · rfl
    · exact p4.elim
  have ew : v' = v ∧ g' = g := by
    unfold Ws at p5
    split at p5
    · exact absurd rfl (hz _ _ _ _ _)
    · exact p5.2.2
    · exact p5.elim
  obtain ⟨rfl, rfl⟩ := ew
  obtain ⟨fl, rfl⟩ : ∃ g, fl = g + 1 := ⟨fl - 1, by
    have := (Ws_mo _ _ _ _ _ _ _ _ p5).1
    have := hX.1
    omega⟩
  rw [rl_Steps_checkBlock_21, if_pos ez, if_pos rfl]
  obtain ⟨u, hu, huv⟩ := p7.2.1
  refine hQ T (FZ.rf p7.1.2.1) (FqZ.st p7.1 (FZ.rf p7.1.2.1) hu huv p7.2.2.1 rfl (fun _ => rfl) rfl rfl rfl) (fun e n S n0 hR hbd hn h51 hk hl hc => ?_)
  unfold ZO2
  rw [es]
  refine Or.inr ⟨hR, TyF.rf, ⟨n0, h51, Nat.le_refl _, by omega, ?_⟩, by omega, FV.rf⟩
  rw [KdS_z hz]
theorem z_list (hX : XO X) (hA : Zs2 nf X it ta) (hB : Zl0 nf X it tb) : Zl0 nf X it (tD 11 i e' ta tb) := by
  intro T lo hi dd d a b v g v' g' u0 fl j Q ⟨p1, p2, p3, p4, p5, p6, p7, p8, p9, p10, p11⟩ hj hfl hQ
  have hxn := hX.1
  rw [RcS_n] at p1
  unfold RsC at p1
  rw [if_neg (by omega), if_neg (by omega), if_pos rfl] at p1
  obtain ⟨_, c, c1, c2, r1, r2, r3⟩ := p1
  rw [SG_n] at p4
  unfold sgN at p4
  rw [if_neg (by omega), if_neg (by omega), if_pos rfl] at p4
  obtain ⟨_, sa, sb⟩ := p4
  rw [Ws_n] at p5
  unfold WsN at p5
  rw [if_neg (by omega), if_pos rfl] at p5
  obtain ⟨_, ct, v1, g1, wa, wb⟩ := p5
  have lt := Ws_lt wa
  obtain ⟨mb, mv, mg⟩ := Ws_mo _ _ _ _ _ _ _ _ wb
  obtain ⟨kp, ka, ia, ea, taa, tba, eta⟩ := kw_pos sa
  obtain ⟨fl, rfl⟩ : ∃ g, fl = g + 1 := ⟨fl - 1, by omega⟩
  obtain ⟨d, rfl⟩ : ∃ g, d = g + 1 := ⟨d - 1, by omega⟩
  have zl : inb (nI lo) 4008 := nin (by omega) (by omega)
  have r12 : T.1 12 lo = nI ia := by
    have r1' := r1
    rw [eta, RcS_n] at r1'
    unfold RsC at r1'
    rw [if_neg (by omega), if_neg (by omega), if_neg (by omega)] at r1'
    exact r1'.2.1
  have iaa : ia = a := by
    have wa' := wa
    rw [eta, Ws_n] at wa'
    unfold WsN at wa'
    rw [if_neg (by omega), if_neg (by omega), if_neg (by omega)] at wa'
    repeat' split at wa'
    all_goals first | exact wa'.1 | exact wa'.elim
  have tk : tkI ta = ia := by rw [eta]; rfl
  rw [rl_Steps_checkBlock_21, show isZ (tD 11 i e' ta tb) = false from rfl, if_neg (show ¬ false = true by decide), if_neg (fun w => by
    have := nI_inj (a := lo) (b := 0) (by omega) (by omega) w
    omega), if_neg (fun w => by
    have := (nI_leI (a := 4000) (b := j) (by omega) (by omega)).mp w
    omega), gd, if_pos zl, nc (by omega), r12, c_start hX p7.1.1 (by omega), bis]
  obtain ⟨r4, T1, m1, m2, m3⟩ := a_emit (nf := nf) (d := d + 1) (T := T) (x := 1) (y := nI (xP X ia)) (z := 0) p7.1.2.1 p7.1.2.2.2.2.2.1 (by omega)
  rw [m1, bis]
  obtain ⟨W1, q1⟩ := p7.fx m2
  refine wp_bi (hA T1 lo c dd (d + 1) a ct v g v1 g1 ⟨r1.fz m2.fz, p2, by omega, sa, wa, by omega, W1, p8, by omega, by omega, by omega⟩) ?_
  intro _ _ T2 ⟨z1, z2, z3⟩
  have fz2 := m2.fz.tr z1
  rw [gd, if_pos zl, fz2.o (k := 13) (by omega) (by omega), r2, vK, nI_1, vK]
  have W2 : WZ X T2 v1 g1 dd := W1.fzq z1 z2 (by omega) (Ws_mo _ _ _ _ _ _ _ _ wa).2.2 (by omega)
  refine hB T2 c hi dd (d + 1) ct b v1 g1 v' g' u0 fl (j + 1) Q ⟨r3.fz fz2, by omega, p3, sb, wb, p6, W2, p8, p9, p10, p11⟩ (by omega) (by omega) ?_
  intro T3 fz3 fq3 zB
  refine hQ T3 (fz2.tr fz3) ((q1.tr z2).tr fq3) (fun e n S n0 hR hbd hn h51 hk hl hc => ?_)
  have ekw : kwS2 (tD 11 i e' ta tb) = kwS2 ta + kwS2 tb := rfl
  have elv : lvS2 X (tD 11 i e' ta tb) = lvS2 X ta + lvS2 X tb := rfl
  have ebd : bdT (tD 11 i e' ta tb) = max (bdT ta) (bdT tb) := rfl
  have est : stS X it (tD 11 i e' ta tb) 0 0 0 S = stS X it tb 0 0 0 (stS X it ta 0 0 0 S) := by
    rw [stS_n]
    unfold stN
    rw [if_neg (by omega), if_pos rfl, if_pos hR.1.2.2.2.1]
  rw [ebd] at hbd
  have hb1 : n + bdT ta ≤ 40 := by have := Nat.le_max_left (bdT ta) (bdT tb); omega
  have hb2 : n + bdT tb ≤ 40 := by have := Nat.le_max_right (bdT ta) (bdT tb); omega
  unfold ZO2
  rw [ekw] at hk ⊢
  rw [elv] at hl ⊢
  rw [est] at hc ⊢
  have fA : FS S (stS X it ta 0 0 0 S) := st_fs ta 0 0 0 S
  have fB : FS (stS X it ta 0 0 0 S) (stS X it tb 0 0 0 (stS X it ta 0 0 0 S)) := st_fs tb 0 0 0 _
  have gS := hR.1.2.2.1.1.1
  have cA : cn (stS X it ta 0 0 0 S) < 6000 := fB.lt (fA.tg gS) hc
  have eT := m3 n0 h51 (by omega)
  obtain ⟨b1, b2, b3⟩ := hR.em (a := 1) (b := nI (xP X ia)) (z := 0) h51 (by omega)
  rw [← eT] at b1 b2 b3
  rcases z3 e n S n0 b1 hb1 (by rw [eT]; exact em_51) (by rw [eT, em_row, tk]) (by omega) (by omega) cA with bf | ⟨a1, a2, ⟨n1, a3, a4, a5, a6⟩, a7, a8⟩
  · left
    rw [st_bad sb bf.1]
    exact bf.fz fz3
  · rcases zB e n _ n1 a1 hb2 hn a3 (by omega) (by omega) hc with bf | ⟨d1, d2, ⟨n2, d3, d4, d5, d6⟩, d7, d8⟩
    · exact Or.inl bf
    · refine Or.inr ⟨d1, (b2.tr a2).tr d2, ⟨n2, d3, by omega, by omega, ?_⟩, by omega, a8.on d8⟩
      rw [KdS_n]
      unfold KsN
      rw [if_neg (by omega), if_pos rfl]
      refine ⟨n1, a4, d4, KdS.mo _ _ _ _ _ _ (AgK.fz d2 d8.2.2.2.2.2.2 fz3 a3 (by omega) (Nat.le_refl _)) a6, d6⟩
theorem z_block (hX : XO X) (hnf : 16385 ≤ nf) (hA : Zl0 nf X it ta) : Zb0 nf X it (tD 31 i e' ta tb) := by
  intro T lo hi dd d a b v g v' g' ⟨p1, p2, p3, p4, p5, p6, p7, p8, p9, p10, p11⟩
  have hxn := hX.1
  rw [RcS_n] at p1
  unfold RsC at p1
  rw [if_neg (by omega), if_pos rfl] at p1
  rw [SG_n] at p4
  unfold sgN at p4
  rw [if_neg (by omega), if_pos rfl] at p4
  rw [Ws_n] at p5
  unfold WsN at p5
  rw [if_pos rfl] at p5
  obtain ⟨_, wa, wi⟩ := p5
  obtain ⟨_, sa, sd, sd2⟩ := p4
  obtain ⟨d, rfl⟩ : ∃ g, d = g + 1 := ⟨d - 1, by omega⟩
  obtain ⟨u, hu, huv⟩ := p7.2.1
  have v20 := p7.2.2.1
  have evn : ∀ S, vn (stS X it (tD 31 i e' ta tb) 0 0 0 S) = vn S := fun S => by
    rw [stS_n]
    unfold stN vn
    rw [if_pos rfl, sI_v]
  have ewb : emB (tD 31 i e' ta tb) = isZ ta := rfl
  rw [e_Steps_checkBlock]
  unfold rb_Steps_checkBlock
  rw [if_pos (show nI dd ≤ 20 from (nI_leI (a := dd) (b := 20) (by omega) (by omega)).mpr (by omega)), show PP nf d 111 T [] [] = some (T.1 68 0, 0, T) from by
    obtain ⟨d, rfl⟩ : ∃ g, d = g + 1 := ⟨d - 1, by omega⟩
    rw [e_Scope_varsSeen]
    rfl, bis, hu, ewb, show (0 : Int32) = nI 0 from rfl]
  refine hA T lo hi dd d (a + 1) i v g v' g' u nf 0 _ ⟨p1.2, p2, p3, sa, wa, by omega, p7, p8, by omega, p10, p11⟩ (by omega) (by omega) ?_
  intro T1 fz1 fq1 zB
  have fq1' := fq1
  obtain ⟨f1, f2, f3, uu, u', f4, f5, f6, f7, f8, f9⟩ := fq1
  have euu : uu = u := nI_inj (by omega) (by omega) (by rw [← f4, ← hu])
  subst euu
  rw [c_fgv (nf := nf) (d := d) (k := uu) f5 (by omega) (by omega) (by omega), bis, show min u' uu = uu by omega]
  have fz2 : FZ T1 (sI T1 68 0 (nI uu)) := FZ.sc fz1.2.2.1 (fun k hk => sI_ne (by omega)) (fun q j _ _ _ => rfl) (by rw [sI_ne (by omega)])
  have fq2 : FqZ T (sI T1 68 0 (nI uu)) v' := ⟨by rw [sI_ne (by omega)]; exact f1, by rw [sI_ne (by omega)]; exact f2, by rw [sI_ne (by omega)]; exact f3, uu, uu, hu, sI_v, Nat.le_refl _, by omega, by omega, fun j hj => by
    obtain ⟨y, y1, y2⟩ := f9 j (by omega)
    exact ⟨y, by rw [sI_ne (by omega)]; exact y1, fz2.2.2.2.1 y y2⟩⟩
  refine wp_some ⟨fz1.tr fz2, fq2, sI_v, fun e n S n0 hR hbd hn h51 hk hl hc => ?_, evn⟩
  have ekw : kwS2 (tD 31 i e' ta tb) = kwS2 ta := rfl
  have elv : lvS2 X (tD 31 i e' ta tb) = lvS2 X ta := rfl
  have ebd : bdT (tD 31 i e' ta tb) = bdT ta + 1 := rfl
  have est : stS X it (tD 31 i e' ta tb) 0 0 0 S = sI (stS X it ta 0 0 0 S) 77 0 (S.1 77 0) := by
    rw [stS_n]
    unfold stN
    rw [if_pos rfl]
  unfold ZO2
  rw [ekw] at hk ⊢
  rw [elv] at hl ⊢
  rw [est] at hc ⊢
  rw [ebd] at hbd
  have ec : cn (sI (stS X it ta 0 0 0 S) 77 0 (S.1 77 0)) = cn (stS X it ta 0 0 0 S) := by unfold cn; rw [sI_ne (by omega)]
  have hV := hR.1.2.2.2.2.2.2.2.2.1
  obtain ⟨w20, s77, t68⟩ := hV.vs
  have eu : vn S = uu := nI_inj (by omega) (by omega) (by rw [← t68, ← hu])
  rcases zB e n S n0 hR (by omega) hn h51 hk hl (by omega) with bf | ⟨d1, d2, ⟨n2, d3, d4, d5, d6⟩, d7, d8⟩
  · left
    have : BfR (sI (stS X it ta 0 0 0 S) 77 0 (S.1 77 0)) T1 := by
      unfold BfR
      rw [sI_ne (by omega), sI_ne (by omega)]
      exact bf
    exact this.fz fz2
  · have vle := d8.2.2.2.2.1
    obtain ⟨e1, e2, e3⟩ := d1.bl (m := uu) (by omega)
    rw [s77, eu]
    refine Or.inr ⟨e1, d2.tr e2, ⟨n2, by rw [sI_ne (by omega)]; exact d3, d4, d5, ?_⟩, ?_, ?_⟩
    · rw [KdS_n]
      unfold KsN
      rw [if_pos rfl]
      exact KdS.mo _ _ _ _ _ _ ⟨e2, sI_ne (by omega), fun k _ _ => sI_ne (by omega), fun g q _ _ _ _ => by rw [sI_ne (by omega)]⟩ d6
    · rw [lvC_62 (T := T1) (T' := sI T1 68 0 (nI uu)) rfl rfl 16384]
      exact d7
    · obtain ⟨h1, h2, h3, h4, h5, h6, h7⟩ := d8
      have evn' : vn (sI (stS X it ta 0 0 0 S) 77 0 (nI uu)) = uu := by unfold vn; rw [sI_v]; exact nc (by omega)
      exact ⟨by rw [sI_ne (by omega)]; exact h1, fun k hk => by rw [sI_ne (by omega)]; exact h2 k hk, by rw [sI_ne (by omega)]; exact h3, fun q hq => by rw [sI_ne (by omega)]; exact h4 q hq, by omega, fun u hu => ⟨by rw [sI_ne (by omega)]; exact (h6 u hu).1, by rw [sI_ne (by omega)]; exact (h6 u hu).2.1, (h6 u hu).2.2⟩, by rw [sI_ne (by omega)]; exact h7⟩
end ZSC
