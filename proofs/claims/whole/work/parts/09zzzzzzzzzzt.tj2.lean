/-! the instructions of an EXPR have their types: one EXPR behind another -/
section TJ2
variable {S Sf T T' T1 : gSt} {X : Lx} {p q k m n t u c e f s B L i lo hi lo' hi' mm mo : Nat} {x y w r pl pn sg v : Int32} {st s0 s1 s2 : List Int32} {js ks : List T5} {j z : T5} {ρ : Nat → Nat} {nm : Int64} {ta tb tr : Tr} {R : ChR}
theorem wsl_c (h : wsl Sf st + 3 ≤ B) : wsl Sf (x :: st) ≤ B := by
  have := wS_3 (S := Sf) (x := x)
  show wS Sf x + wsl Sf st ≤ B
  omega
theorem wsl_c3 : wsl Sf (x :: st) ≤ wsl Sf st + 3 := by
  have := wS_3 (S := Sf) (x := x)
  show wS Sf x + wsl Sf st ≤ _
  omega
theorem NW_3 : 3 ≤ NW mm mo := by unfold NW; omega
theorem NL_1 : 1 ≤ NL mm mo := by unfold NL; omega
/-- one more instruction behind those of a part -/
theorem ty_ap1 (hB : wsl Sf st + 3 ≤ B) (hL : st.length + 1 ≤ L) (hA : TyL Sf S B L (ksE js) st s1) (h7 : ¬ j.1 = 7) (hJ : tyJ Sf S j s1 (v :: st)) (hv : ¬ v = -1) : TyL Sf S B L (ksE (js ++ [j])) st (psh v st) := by
  rw [ksE_n h7, psh_n hv]
  exact TyL.ap _ _ _ _ _ hA (TyL.one hJ (wsl_c hB) (by rw [List.length_cons]; exact hL))
theorem tk_noJ (hk : ¬ (tkd X tr = 14 ∨ tkd X tr = 15 ∨ tkd X tr = 16)) (h1 : kGo R.2.2.1) (h2 : ∀ (B L : Nat) (st : List Int32), wsl Sf st + NW mm mo ≤ B → st.length + NL mm mo ≤ L → TyL Sf S B L (ksE R.2.2.1) st (psh R.1 st)) : TyE X Sf S tr R mm mo := ⟨h1, h2, fun w => absurd w hk⟩
theorem ty_lf (hc : cn Sf < 6000) (hSl : SlD S) (hC : Ck T) (hE : FE S T) (hf : (lfC X i T).2.2.2.1 7 0 = 0) (hF : FW (lfC X i T).2.2.2 Sf) : ∃ j, (lfC X i T).2.2.1 = [j] ∧ ¬ j.1 = 7 ∧ ¬ (lfC X i T).1 = -1 ∧ ∀ s0, tyJ Sf S j s0 ((lfC X i T).1 :: s0) := by
  unfold lfC at hf hF ⊢
  by_cases c1 : xK X i = 5
  · simp only [if_pos c1]
    refine ⟨_, rfl, by show ¬ (1 : Int32) = 7; decide, by decide, fun s0 => ?_⟩
    rw [tyJ_1 (Or.inl rfl)]
  simp only [if_neg c1] at hf hF ⊢
  by_cases c2 : xK X i = 27
  · simp only [if_pos c2]
    refine ⟨_, rfl, by show ¬ (2 : Int32) = 7; decide, by decide, fun s0 => ?_⟩
    rw [tyJ_2 rfl]
  simp only [if_neg c2] at hf hF ⊢
  by_cases c3 : xK X i = 34
  · simp only [if_pos c3]
    refine ⟨_, rfl, by show ¬ (3 : Int32) = 7; decide, by decide, fun s0 => ?_⟩
    rw [tyJ_1 (Or.inr rfl)]
  simp only [if_neg c3] at hf hF ⊢
  by_cases c4 : xK X i = 35
  · simp only [if_pos c4] at hf hF ⊢
    by_cases c5 : T.1 87 0 = 0
    · simp only [if_pos c5] at hf
      exact absurd hf (flT_bad (by decide))
    simp only [if_neg c5] at hf hF ⊢
    refine ⟨_, rfl, by show ¬ (4 : Int32) = 7; decide, by decide, fun s0 => ?_⟩
    rw [tyJ_4 rfl]
    rw [hE.1 87 (by omega)] at c5 ⊢
    exact ⟨rfl, rfl, c5⟩
  simp only [if_neg c4] at hf hF ⊢
  have hfe : FE T (nmC T (xN X i) (nI (xP X i))).2.2 := FE.nm
  have hTF : FW T Sf := hfe.fw.tr hF
  have hc0 := hTF.lt hC.1 hc
  unfold nmC at hf hF ⊢
  by_cases d1 : 0 ≤ fd (isVa T (xN X i)) (vn T)
  · simp only [if_pos d1] at hf hF ⊢
    obtain ⟨j, j1', j2, j3⟩ := var_ok hC d1
    have hv := hC.2.2.2.2.2.2.1
    have cj : (nI j).toNatClampNeg = j := nc (by omega)
    have e80 : tf T 80 (fd (isVa T (xN X i)) (vn T)) = T.1 80 j := by unfold tf; rw [j2, cj]
    have e79 : tf T 79 (fd (isVa T (xN X i)) (vn T)) = T.1 79 j := by unfold tf; rw [j2, cj]
    simp only [e80, e79] at hf hF ⊢
    have jS : j < vn S := by rw [← hE.evn]; exact j1'
    obtain ⟨s, s1, s2⟩ := hSl j jS
    have s1' : T.1 79 j = nI s := by rw [hE.1 79 (by omega)]; exact s1
    rw [s1'] at hf hF ⊢
    by_cases d2 : ((T.1 81 0 >>> (nI s &&& 31)) &&& 1) = 0
    · simp only [if_pos d2] at hf
      exact absurd hf (flT_bad (by decide))
    simp only [if_neg d2] at hf hF ⊢
    have set : fi (S.1 81 0) s = true := by
      rw [← hE.1 81 (by omega), ← fi_sr (by omega)]
      exact (and1 _).resolve_left d2
    have va : vaP S j s := ⟨jS, s1, s2, set, by omega⟩
    by_cases d3 : 0 < T.1 80 j ∧ tf T 66 (T.1 80 j) = 2 ∧ ((T.1 82 0 >>> (nI s &&& 31)) &&& 1) = 1
    · simp only [if_pos d3] at hf hF ⊢
      have j4 : tR T (T.1 80 j) := Or.inr (Or.inr j3)
      obtain ⟨p, e, p1, p2⟩ := j4.pos (Int32.not_le.mpr d3.1)
      have hp : rowP T (T.1 80 j) p := ⟨e, p1, p2⟩
      have ep := hp.cl (by omega)
      have d32 := d3.2.1
      simp only [tf, ep] at hf hF d32 ⊢
      have nw := new_k hc hC (hC.sol p1 p2) hF
      obtain ⟨r1, r2, r3, r4, r5⟩ := row5 (hTF.row hC.1 hc hp.2.2)
      refine ⟨_, rfl, by show ¬ (5 : Int32) = 7; decide, ?_, fun s0 => ?_⟩
      · obtain ⟨q, hq, _⟩ := nw
        exact hq.n1 (by omega)
      · rw [tyJ_5 rfl]
        refine ⟨rfl, j, s, va, rfl, Or.inr ⟨?_, p, ?_, by rw [r1]; exact d32, by rw [r2, r3, r4, r5]; exact nw⟩⟩
        · rw [← hE.1 82 (by omega), ← fi_sr (by omega)]
          exact d3.2.2
        · rw [← hE.1 80 (by omega)]
          exact hp.up hTF hC.1
    · simp only [if_neg d3] at hf hF ⊢
      refine ⟨_, rfl, by show ¬ (5 : Int32) = 7; decide, ?_, fun s0 => ?_⟩
      · rcases j3.row with e | ⟨q, hq⟩
        · rw [e]; decide
        · exact hq.n1 (by omega)
      · rw [tyJ_5 rfl]
        exact ⟨rfl, j, s, va, rfl, Or.inl (by rw [hE.1 80 (by omega)]; rfl)⟩
  · simp only [if_neg d1] at hf
    exact absurd hf (flT_bad (by decide))
theorem ty_tl (hc : cn Sf < 6000) (hRf : Rws Sf) (hA : TyX X Sf S ta) (hw : Wb X ta false lo hi) (hC : Ck T) (h0 : T.1 7 0 = 0) (hE : FE S T) (hf : (tlC X (chk X ta) ta i T).2.2.2.1 7 0 = 0) (hF : FW (tlC X (chk X ta) ta i T).2.2.2 Sf) (hx : XG X ta mm 0) : TyE X Sf S (tD 3 i e ta tb) (tlC X (chk X ta) ta i T) mm mo := by
  have fa := chk_fe (X := X) ta 0 0 T
  have ga := fa.tg hC.1
  have ek : tkd X (tD 3 i e ta tb) = if xK X i = 49 then 14 else if xK X i = 61 then 16 else 17 := rfl
  unfold tlC at hf hF ⊢
  dsimp only at hf hF ⊢
  by_cases c1 : (chk X ta 0 0 T).2.2.2.1 7 0 = 0
  · simp only [if_pos c1] at hf hF ⊢
    have fth : FE (chk X ta 0 0 T).2.2.2 (thC (chk X ta 0 0 T).2.2.2 (tlK X i) (chk X ta 0 0 T).1 (xN X (i + 1)) (plT X ta) (nI (xP X (i + 1)))).2.2 := FE.th
    have FA : FW (chk X ta 0 0 T).2.2.2 Sf := fth.fw.tr hF
    have hv := iv_ex0 (chk_inv ta) hw hC (FA.lt ga hc)
    have EA := hA lo hi mm 0 T (by omega) hw hC h0 hE c1 FA hx
    have hk : (tlK X i = 14 ∧ (if xK X i = 49 then (6 : Int32) else if xK X i = 61 then 10 else 11) = 6) ∨ (tlK X i = 16 ∧ (if xK X i = 49 then (6 : Int32) else if xK X i = 61 then 10 else 11) = 10) ∨ (tlK X i = 17 ∧ (if xK X i = 49 then (6 : Int32) else if xK X i = 61 then 10 else 11) = 11) := by
      unfold tlK
      by_cases k1 : xK X i = 49
      · exact Or.inl ⟨if_pos k1, if_pos k1⟩
      · by_cases k2 : xK X i = 61
        · exact Or.inr (Or.inl ⟨by rw [if_neg k1, if_pos k2], by rw [if_neg k1, if_pos k2]⟩)
        · exact Or.inr (Or.inr ⟨by rw [if_neg k1, if_neg k2], by rw [if_neg k1, if_neg k2]⟩)
    have th := th_ty hc hRf hv.1 (hE.tr fa) (hv.2 c1).1 hk hf hF
    have n7 : ¬ (if xK X i = 49 then (6 : Int32) else if xK X i = 61 then 10 else 11) = 7 := by
      rcases hk with h | h | h <;> rw [h.2] <;> decide
    have lk : (xK X i = 49 → (if xK X i = 49 then (6 : Int32) else if xK X i = 61 then 10 else 11) = 6) ∧ (¬ xK X i = 49 → xK X i = 61 → (if xK X i = 49 then (6 : Int32) else if xK X i = 61 then 10 else 11) = 10) := ⟨fun h => if_pos h, fun h h2 => by rw [if_neg h, if_pos h2]⟩
    generalize (if xK X i = 49 then (6 : Int32) else if xK X i = 61 then 10 else 11) = o at *
    generalize thC (chk X ta 0 0 T).2.2.2 (tlK X i) (chk X ta 0 0 T).1 (xN X (i + 1)) (plT X ta) (nI (xP X (i + 1))) = C at *
    generalize chk X ta 0 0 T = R at *
    obtain ⟨t1, t2, t3⟩ := th
    have E1 : ∀ (B L : Nat) (st : List Int32), wsl Sf st + NW mm mo ≤ B → st.length + NL mm mo ≤ L → TyL Sf S B L (ksE R.2.2.1) st (R.1 :: st) := fun B L st hB hL => by
      have := EA.2.1 B L st (by unfold NW at *; omega) (by unfold NL at *; omega)
      rw [psh_n t1] at this
      exact this
    refine ⟨EA.1.nj n7, fun B L st hB hL => ty_ap1 (by have := NW_3 (mm := mm) (mo := mo); omega) (by have := NL_1 (mm := mm) (mo := mo); omega) (E1 B L st hB hL) n7 (t3 st) t2, fun _ => ⟨R.2.2.1, _, rfl, EA.1, ?_, fun B L st hB hL => ⟨R.1 :: st, E1 B L st hB hL, t3 st⟩⟩⟩
    unfold lsT
    rw [ek]
    refine ⟨fun h => ⟨?_, rfl, rfl⟩, fun h => ?_, fun h => ⟨?_, rfl, rfl⟩⟩
    · by_cases k1 : xK X i = 49
      · exact lk.1 k1
      · rw [if_neg k1] at h
        by_cases k2 : xK X i = 61
        · rw [if_pos k2] at h; omega
        · rw [if_neg k2] at h; omega
    · by_cases k1 : xK X i = 49
      · rw [if_pos k1] at h; omega
      · rw [if_neg k1] at h
        by_cases k2 : xK X i = 61
        · rw [if_pos k2] at h; omega
        · rw [if_neg k2] at h; omega
    · by_cases k1 : xK X i = 49
      · rw [if_pos k1] at h; omega
      · rw [if_neg k1] at h
        by_cases k2 : xK X i = 61
        · exact lk.2 k1 k2
        · rw [if_neg k2] at h; omega
  · simp only [if_neg c1] at hf
    exact absurd hf c1
theorem ty_ex (hc : cn Sf < 6000) (hA : TyX X Sf S ta) (hB : TyX X Sf S tb) (hw : Wb X ta false lo hi) (hw2 : Wb X tb false lo' hi') (hC : Ck T) (h0 : T.1 7 0 = 0) (hE : FE S T) (hf : (exC X (chk X ta) (chk X tb) ta tb T).2.2.2.1 7 0 = 0) (hF : FW (exC X (chk X ta) (chk X tb) ta tb T).2.2.2 Sf) (hx : XG X ta mm 0) (hm : 1 ≤ mm) (hx2 : XG X tb (mm - 1) 1) : TyE X Sf S (tD 4 i e ta tb) (exC X (chk X ta) (chk X tb) ta tb T) mm mo := by
  have fa := chk_fe (X := X) ta 0 0 T
  have ga := fa.tg hC.1
  have ek : tkd X (tD 4 i e ta tb) = 15 := rfl
  unfold exC at hf hF ⊢
  dsimp only at hf hF ⊢
  by_cases c1 : (chk X ta 0 0 T).2.2.2.1 7 0 = 0
  · simp only [if_pos c1] at hf hF ⊢
    have fb := chk_fe (X := X) tb 0 0 (chk X ta 0 0 T).2.2.2
    have gb := fb.tg ga
    by_cases c2 : (chk X tb 0 0 (chk X ta 0 0 T).2.2.2).2.2.2.1 7 0 = 0
    · simp only [if_pos c2] at hf hF ⊢
      have fx : FE (chk X tb 0 0 (chk X ta 0 0 T).2.2.2).2.2.2 (ixC (chk X tb 0 0 (chk X ta 0 0 T).2.2.2).2.2.2 (chk X ta 0 0 T).1 (chk X tb 0 0 (chk X ta 0 0 T).2.2.2).1 (plT X ta) (plT X tb)).2 := FE.ix
      have FB := fx.fw.tr hF
      have FA := fb.fw.tr FB
      have hv := iv_ex0 (chk_inv ta) hw hC (FA.lt ga hc)
      have hv2 := iv_ex0 (chk_inv tb) hw2 hv.1 (FB.lt gb hc)
      have EA := hA lo hi mm 0 T (by omega) hw hC h0 hE c1 FA hx
      have EB := hB lo' hi' (mm - 1) 1 _ (by omega) hw2 hv.1 c1 (hE.tr fa) c2 FB hx2
      have th := ix_ty (pl := plT X ta) (pn := plT X tb) hc hv2.1 ((hE.tr fa).tr fb) ((hv.2 c1).1.fe fb ga) hf hF
      generalize ixC (chk X tb 0 0 (chk X ta 0 0 T).2.2.2).2.2.2 (chk X ta 0 0 T).1 (chk X tb 0 0 (chk X ta 0 0 T).2.2.2).1 (plT X ta) (plT X tb) = C at *
      generalize chk X tb 0 0 (chk X ta 0 0 T).2.2.2 = Q at *
      generalize chk X ta 0 0 T = R at *
      obtain ⟨t1, t2, t3, t4⟩ := th
      have n7 : ¬ (j1 8 R.1 C.1 0 0).1 = 7 := by show ¬ (8 : Int32) = 7; decide
      have E3 : ∀ (B L : Nat) (st : List Int32), wsl Sf st + NW mm mo ≤ B → st.length + NL mm mo ≤ L → TyL Sf S B L (ksE (R.2.2.1 ++ Q.2.2.1)) st (0 :: R.1 :: st) := fun B L st hB hL => by
        have w3 := wsl_c3 (Sf := Sf) (x := R.1) (st := st)
        have E1 := EA.2.1 B L st (by unfold NW at *; omega) (by unfold NL at *; omega)
        rw [psh_n t1] at E1
        have E2 := EB.2.1 B L (R.1 :: st) (by unfold NW at *; omega) (by unfold NL at *; rw [List.length_cons]; omega)
        rw [t2, psh_n (by decide)] at E2
        rw [ksE_ap EB.1]
        exact TyL.ap _ _ _ _ _ E1 E2
      refine ⟨(EA.1.ap EB.1).nx n7, fun B L st hB hL => ty_ap1 (by have := NW_3 (mm := mm) (mo := mo); omega) (by have := NL_1 (mm := mm) (mo := mo); omega) (E3 B L st hB hL) n7 (t4 st) t3, fun _ => ⟨R.2.2.1 ++ Q.2.2.1, _, rfl, EA.1.ap EB.1, ?_, fun B L st hB hL => ⟨0 :: R.1 :: st, E3 B L st hB hL, t4 st⟩⟩⟩
      unfold lsT
      rw [ek]
      exact ⟨fun h => absurd h (by omega), fun _ => ⟨rfl, rfl, rfl⟩, fun h => absurd h (by omega)⟩
    · simp only [if_neg c2] at hf
      exact absurd hf c2
  · simp only [if_neg c1] at hf
    exact absurd hf c1
theorem ty_bn (hc : cn Sf < 6000) (hA : TyX X Sf S ta) (hB : TyX X Sf S tb) (hw : Wb X ta false lo hi) (hw2 : Wb X tb false lo' hi') (hC : Ck T) (h0 : T.1 7 0 = 0) (hE : FE S T) (hf : (bnC X (chk X ta) (chk X tb) ta tb sg T).2.2.2.1 7 0 = 0) (hF : FW (bnC X (chk X ta) (chk X tb) ta tb sg T).2.2.2 Sf) (hx : XG X ta mm 1) (hx2 : XG X tb mm 0) : TyE X Sf S (tD 5 i e ta tb) (bnC X (chk X ta) (chk X tb) ta tb sg T) mm 1 := by
  have fa := chk_fe (X := X) ta 0 0 T
  have ga := fa.tg hC.1
  have ek : tkd X (tD 5 i e ta tb) = 13 := rfl
  unfold bnC at hf hF ⊢
  dsimp only at hf hF ⊢
  by_cases c1 : (chk X ta 0 0 T).2.2.2.1 7 0 = 0
  · simp only [if_pos c1] at hf hF ⊢
    have fb := chk_fe (X := X) tb 0 0 (chk X ta 0 0 T).2.2.2
    have gb := fb.tg ga
    by_cases c2 : (chk X tb 0 0 (chk X ta 0 0 T).2.2.2).2.2.2.1 7 0 = 0
    · simp only [if_pos c2] at hf hF ⊢
      have fx : FE (chk X tb 0 0 (chk X ta 0 0 T).2.2.2).2.2.2 (opC (chk X tb 0 0 (chk X ta 0 0 T).2.2.2).2.2.2 sg (chk X ta 0 0 T).1 (chk X tb 0 0 (chk X ta 0 0 T).2.2.2).1 (plT X ta) (plT X tb)).2 := FE.op
      have FB := fx.fw.tr hF
      have FA := fb.fw.tr FB
      have hv := iv_ex0 (chk_inv ta) hw hC (FA.lt ga hc)
      have hv2 := iv_ex0 (chk_inv tb) hw2 hv.1 (FB.lt gb hc)
      have EA := hA lo hi mm 1 T (by omega) hw hC h0 hE c1 FA hx
      have EB := hB lo' hi' mm 0 _ (by omega) hw2 hv.1 c1 (hE.tr fa) c2 FB hx2
      have th := op_tyJ (pl := plT X ta) (pn := plT X tb) hc hv2.1 ((hE.tr fa).tr fb) ((hv.2 c1).1.fe fb ga) (hv2.2 c2).1 hf hF
      generalize opC (chk X tb 0 0 (chk X ta 0 0 T).2.2.2).2.2.2 sg (chk X ta 0 0 T).1 (chk X tb 0 0 (chk X ta 0 0 T).2.2.2).1 (plT X ta) (plT X tb) = C at *
      generalize chk X tb 0 0 (chk X ta 0 0 T).2.2.2 = Q at *
      generalize chk X ta 0 0 T = R at *
      obtain ⟨t1, t2, t3, t4⟩ := th
      have n7 : ¬ (j1 19 sg R.1 Q.1 C.1).1 = 7 := by show ¬ (19 : Int32) = 7; decide
      refine tk_noJ (by rw [ek]; omega) ((EA.1.ap EB.1).nx n7) (fun B L st hB hL => ?_)
      have w3 := wsl_c3 (Sf := Sf) (x := R.1) (st := st)
      have E1 := EA.2.1 B L st (by unfold NW at *; omega) (by unfold NL at *; omega)
      rw [psh_n t1] at E1
      have E2 := EB.2.1 B L (R.1 :: st) (by unfold NW at *; omega) (by unfold NL at *; rw [List.length_cons]; omega)
      rw [psh_n t2] at E2
      have E3 : TyL Sf S B L (ksE (R.2.2.1 ++ Q.2.2.1)) st (Q.1 :: R.1 :: st) := by
        rw [ksE_ap EB.1]
        exact TyL.ap _ _ _ _ _ E1 E2
      exact ty_ap1 (by have := NW_3 (mm := mm) (mo := 1); omega) (by have := NL_1 (mm := mm) (mo := 1); omega) E3 n7 (t4 st) t3
    · simp only [if_neg c2] at hf
      exact absurd hf c2
  · simp only [if_neg c1] at hf
    exact absurd hf c1
theorem ty_nn (hc : cn Sf < 6000) (hA : TyX X Sf S ta) (hw : Wb X ta false lo hi) (hC : Ck T) (h0 : T.1 7 0 = 0) (hE : FE S T) (hf : (nnC X (chk X ta) ta T).2.2.2.1 7 0 = 0) (hF : FW (nnC X (chk X ta) ta T).2.2.2 Sf) (hm : 1 ≤ mm) (hx : XG X ta (mm - 1) 1) (hk : ¬ (tkd X tr = 14 ∨ tkd X tr = 15 ∨ tkd X tr = 16)) : TyE X Sf S tr (nnC X (chk X ta) ta T) mm mo := by
  have fa := chk_fe (X := X) ta 0 0 T
  have ga := fa.tg hC.1
  unfold nnC at hf hF ⊢
  dsimp only at hf hF ⊢
  by_cases c1 : (chk X ta 0 0 T).2.2.2.1 7 0 = 0
  · simp only [if_pos c1] at hf hF ⊢
    by_cases c2 : isPt (chk X ta 0 0 T).2.2.2 (chk X ta 0 0 T).1 = 0
    · simp only [if_pos c2] at hf
      exact absurd hf (flT_bad (by decide))
    simp only [if_neg c2] at hf hF ⊢
    have fk : FE (chk X ta 0 0 T).2.2.2 (knS (nuS (chk X ta 0 0 T).2.2.2 (chk X ta 0 0 T).1) (1, tf (chk X ta 0 0 T).2.2.2 67 (chk X ta 0 0 T).1, tf (chk X ta 0 0 T).2.2.2 68 (chk X ta 0 0 T).1, tf (chk X ta 0 0 T).2.2.2 69 (chk X ta 0 0 T).1, tf (chk X ta 0 0 T).2.2.2 70 (chk X ta 0 0 T).1)) := FE.nu.tr FE.kn
    have FA := fk.fw.tr hF
    have hcA := FA.lt ga hc
    have hv := iv_ex0 (chk_inv ta) hw hC hcA
    have EA := hA lo hi (mm - 1) 1 T (by omega) hw hC h0 hE c1 FA hx
    generalize chk X ta 0 0 T = R at *
    obtain ⟨p, hp, hk2⟩ := pt_row hv.1 (hv.2 c1).1 hcA c2
    have ep := hp.cl (by omega)
    simp only [tf, ep] at hf hF ⊢
    have hn : Ck (nuS R.2.2.2 R.1) := hv.1.nu hcA
    have fn : FE R.2.2.2 (nuS R.2.2.2 R.1) := FE.nu
    have rn : rwT (nuS R.2.2.2 R.1) p = rwT R.2.2.2 p := (fn.2.2.1 ga).2.2 (by rw [cn_nu]; exact hcA) p hp.2.2
    have sol := hn.sol (p := p) hp.2.1 (by rw [cn_nu]; exact hp.2.2)
    obtain ⟨n1, n2, n3, n4, n5⟩ := row5 rn
    rw [n2, n3, n4, n5] at sol
    have nw := new_k hc hn sol hF
    obtain ⟨r1, r2, r3, r4, r5⟩ := row5 (FA.row ga hc hp.2.2)
    generalize knR (nuS R.2.2.2 R.1) (1, R.2.2.2.1 67 p, R.2.2.2.1 68 p, R.2.2.2.1 69 p, R.2.2.2.1 70 p) = v at *
    have n7 : ¬ (j1 12 R.1 v 0 0).1 = 7 := by show ¬ (12 : Int32) = 7; decide
    have nv : ¬ v = -1 := by obtain ⟨q, hq, _⟩ := nw; exact hq.n1 (by omega)
    refine tk_noJ hk (EA.1.nx n7) (fun B L st hB hL => ?_)
    have E1 := EA.2.1 B L st (by unfold NW at *; omega) (by unfold NL at *; omega)
    rw [psh_n (hp.n1 (by omega))] at E1
    refine ty_ap1 (by have := NW_3 (mm := mm) (mo := mo); omega) (by have := NL_1 (mm := mm) (mo := mo); omega) E1 n7 ?_ nv
    rw [tyJ_12 rfl]
    exact ⟨st, p, rfl, rfl, hp.up FA ga, by rw [r1]; exact hk2, by rw [r2, r3, r4, r5]; exact nw⟩
  · simp only [if_neg c1] at hf
    exact absurd hf c1
theorem ty_sz (hc : cn Sf < 6000) (hA : TyX X Sf S ta) (hw : Wb X ta false lo hi) (hC : Ck T) (h0 : T.1 7 0 = 0) (hE : FE S T) (hf : (szC X (chk X ta) ta T).2.2.2.1 7 0 = 0) (hF : FW (szC X (chk X ta) ta T).2.2.2 Sf) (hm : 1 ≤ mm) (hx : XG X ta (mm - 1) 1) (hk : ¬ (tkd X tr = 14 ∨ tkd X tr = 15 ∨ tkd X tr = 16)) : TyE X Sf S tr (szC X (chk X ta) ta T) mm mo := by
  have fa := chk_fe (X := X) ta 0 0 T
  have ga := fa.tg hC.1
  unfold szC at hf hF ⊢
  dsimp only at hf hF ⊢
  by_cases c1 : (chk X ta 0 0 T).2.2.2.1 7 0 = 0
  · simp only [if_pos c1] at hf hF ⊢
    by_cases c2 : isRo (chk X ta 0 0 T).2.2.2 (chk X ta 0 0 T).1 = 0
    · simp only [if_pos c2] at hf
      exact absurd hf (flT_bad (by decide))
    simp only [if_neg c2] at hf hF ⊢
    have hcA := hF.lt ga hc
    have hv := iv_ex0 (chk_inv ta) hw hC hcA
    have EA := hA lo hi (mm - 1) 1 T (by omega) hw hC h0 hE c1 hF hx
    generalize chk X ta 0 0 T = R at *
    obtain ⟨p, hp, hk2, _⟩ := ro_rw hv.1 (hv.2 c1).1 hcA c2
    obtain ⟨r1, r2, r3, r4, r5⟩ := row5 (hF.row ga hc hp.2.2)
    have n7 : ¬ (j1 13 R.1 0 0 0).1 = 7 := by show ¬ (13 : Int32) = 7; decide
    refine tk_noJ hk (EA.1.nx n7) (fun B L st hB hL => ?_)
    have E1 := EA.2.1 B L st (by unfold NW at *; omega) (by unfold NL at *; omega)
    rw [psh_n (hp.n1 (by omega))] at E1
    refine ty_ap1 (by have := NW_3 (mm := mm) (mo := mo); omega) (by have := NL_1 (mm := mm) (mo := mo); omega) E1 n7 ?_ (show ¬ (0 : Int32) = -1 by decide)
    rw [tyJ_13 rfl]
    exact ⟨st, p, rfl, rfl, hp.up hF ga, by rw [r1]; exact hk2⟩
  · simp only [if_neg c1] at hf
    exact absurd hf c1
end TJ2
