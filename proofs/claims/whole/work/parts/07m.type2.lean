section VX
variable {nf d : Nat} {T T0 T1 T2 : gSt} {X : Lx} {e B i m n : Nat}
theorem wp_and {o : gR} {Q R : Int32 → Int64 → gSt → Prop} (h1 : wp o Q) (h2 : wp o R) : wp o (fun r l T => Q r l T ∧ R r l T) := by
  obtain ⟨r, l, T, e, h⟩ := h1
  obtain ⟨r', l', T', e', h'⟩ := h2
  rw [e] at e'
  cases e'
  exact ⟨r, l, T, e, h, h'⟩
theorem x_usesF_l (hX : LX X) (F0 : gF) (hF0 : F0 = RR nf (d + 3)) : ∀ (f q : Nat) (T : gSt) (i : Nat), Gd X T i → q ≤ 3 → 3 < q + f → wp (rl_Model_readUses_2 F0 nf f T (nI q)) (fun _ _ T' => Ft T T' ∧ T'.1 37 = T.1 37) := by
  subst hF0
  intro f
  induction f with
  | zero => intro q T i hG h1 h2; omega
  | succ f ih =>
    intro q T i hG h1 h2
    have t := hX.2.2.2.2.1 i hG.1.1
    rw [rl_Model_readUses_2]
    refine wp_be (q_bad0 hG.2.1) ?_
    refine wp_t rfl ?_
    by_cases hk : xK X i = 4
    · refine wp_t (by rw [hG.1.2.2.2.1]; exact (srtK_rg _ (okK_lt t.1)).mpr hk) ?_
      by_cases h3 : q = 3
      · subst h3
        refine wp_t (by decide) ?_
        exact wp_some ⟨Ft.rf, rfl⟩
      · refine wp_f (by intro q3; exact h3 (by have := (nI_leI (a := 3) (b := q) (by omega) (by omega)).mp q3; omega)) ?_
        refine g_region (d := d) hX hG (fun _ T2 g1 g2 g3 _ _ _ _ => ?_) (fun hn => absurd hk hn)
        refine wp_v ?_
        rw [nI_1]
        refine wp_mono (ih (q + 1) T2 (i + 1) g1 (by omega) (by omega)) ?_
        intro _ _ T3 h
        exact ⟨g3.tr h.1, h.2.trans (g2.2.2.2.1 37 (by omega))⟩
    · refine wp_f (by rw [hG.1.2.2.2.1]; exact fun q => hk ((srtK_rg _ (okK_lt t.1)).mp q)) ?_
      exact wp_some ⟨Ft.rf, rfl⟩
theorem x_usesF (hX : LX X) (hnf : 5000 ≤ nf) (hG : Gd X T i) : wp (RR nf (d + 4) 29 T [] []) (fun r _ T' => r = nI (rgs (xK X) 3 i) ∧ Gd X T' (i + rgs (xK X) 3 i) ∧ RepU X T' (nU T) i (rgs (xK X) 3 i) ∧ Ft T T' ∧ T'.1 37 = T.1 37) := by
  have h2 : wp (RR nf (d + 4) 29 T [] []) (fun _ _ T' => Ft T T' ∧ T'.1 37 = T.1 37) := by
    rw [e_Model_readUses]
    unfold rb_Model_readUses
    have h := x_usesF_l (nf := nf) (d := d) hX (RR nf (d + 3)) rfl nf 0 T i hG (by omega) (by omega)
    rw [nI_0] at h
    exact h
  refine wp_mono (wp_and (x_uses (d := d) hX hnf hG) h2) ?_
  intro r l T' h
  exact ⟨h.1.1, h.1.2.1, h.1.2.2.2.2.2.1, h.2⟩
theorem b_type (hb : ¬ T.1 7 0 = 0) (p : Int32) : RR nf (d + 4) 28 T [p] [] = some (0, 0, T) := by
  have h10 : rj_Model_type_10 (RR nf (d + 3)) nf T p = some (0, 0, T) := by
    unfold rj_Model_type_10
    rw [q_wd1 hb]
    rw [bis]
    rw [if_pos rfl, q_sg1 hb]
    rw [bis]
    rw [if_pos rfl, q_sg1 hb]
    rw [bis]
    rw [if_pos rfl, q_sg1 hb]
    rw [bis]
    rw [if_pos rfl, q_wrong1 hb]
    show rj_Model_type_73 (RR nf (d + 3)) nf T p (-1) = _
    unfold rj_Model_type_73
    rw [q_bad1 hb]
    rfl
  rw [e_Model_type]
  unfold rb_Model_type
  split
  · exact h10
  · rw [q_wrong1 hb]
    exact h10
/-- what reading a TYPE comes to -/
def TQ (X : Lx) (T : gSt) (i f : Nat) (res : Except Nat Nat) (r : Int32) (T' : gSt) : Prop := match res with
  | .ok j => i < j ∧ Gd X T' j ∧ Gw T' j ∧ Ft T T' ∧ r = nI (nW T) ∧ RepW X T' f (nW T) i
  | .error e => i ≤ e ∧ e ≤ xn X ∧ inb r 4000 ∧ Zb X e T (nN T) T'
theorem nN_ft (h : Ft T T1) : nN T1 = nN T := by
  unfold nN
  rw [h.2.1 49 (by omega) (by omega)]
theorem nW_of {w : Nat} (h : T.1 37 0 = nI w) (hw : w < 5000) : nW T = w := by
  unfold nW
  rw [h, nc (by omega)]
theorem x_t177 (hX : LX X) (hnf : 5000 ≤ nf) {w : Nat} {kd us inn tp fi mn : Int32} {ti : Int64} (hG : Gd X T (i + 2)) (hF : Ft T0 T) (hw : w < 4000) (hw2 : w ≤ i) (hW0 : nW T0 = w) (hI : T.1 37 0 = nI (w + 1)) (hD : WD T w kd us inn ti tp fi mn) (k3 : xK X (i + 2) = 3) {u : Nat} (hU : RepU X T u (i + 1) 1) : wp (rj_Model_type_177 (RR nf (d + 7)) nf T (nI w)) (fun r _ T' => r = nI w ∧ w < nW T' ∧ Gd X T' (i + 3 + rgs (xK X) 3 (i + 3)) ∧ Gw T' (i + 3 + rgs (xK X) 3 (i + 3)) ∧ Ft T0 T' ∧ (∃ u', RepU X T' u' (i + 3) (rgs (xK X) 3 (i + 3)) ∧ WD T' w kd us inn (xN X (i + 2)) (nI (xP X (i + 2))) (nI u') (nI (rgs (xK X) 3 (i + 3)))) ∧ RepU X T' u (i + 1) 1) := by
  have hx := hX.1
  have hj := hG.lt hX (by omega)
  have hnW : inb (nI w) 4000 := nin hw (by omega)
  unfold rj_Model_type_177 rj_Model_type_208
  refine wp_gd hnW ?_
  refine wp_st ?_
  refine wp_gd hnW ?_
  refine wp_st ?_
  rw [nc (m := w) (by omega), hG.1.2.2.2.2.2.2.2.2 (Or.inr (Or.inl k3)), show (sJ T 41 w (xN X (i + 2))).1 3 0 = T.1 3 0 from rfl, hG.pl]
  have hG1 : Gd X (sI (sJ T 41 w (xN X (i + 2))) 42 w (nI (xP X (i + 2)))) (i + 2) := (hG.wj (by omega)).wt (by omega)
  have hF1 : Ft T0 (sI (sJ T 41 w (xN X (i + 2))) 42 w (nI (xP X (i + 2)))) := (hF.wj (by omega)).w (by omega) (by omega)
  have hD1 := (hD.w41 (v := xN X (i + 2))).w42 (v := nI (xP X (i + 2)))
  have hI1 : (sI (sJ T 41 w (xN X (i + 2))) 42 w (nI (xP X (i + 2)))).1 37 0 = nI (w + 1) := by rw [sI_ne (by omega)]; exact hI
  have hU1 : RepU X (sI (sJ T 41 w (xN X (i + 2))) 42 w (nI (xP X (i + 2)))) u (i + 1) 1 := ⟨by rw [nU_w (by omega)]; exact hU.1, fun k hk => by rw [rdIJ, sJ_ne (by omega), sI_ne (by omega)]; exact hU.2 k hk⟩
  generalize sI (sJ T 41 w (xN X (i + 2))) 42 w (nI (xP X (i + 2))) = S1 at *
  refine wp_be (q_bad0 hG1.2.1) ?_
  refine wp_t rfl ?_
  refine wp_be (q_adv hX hG1.1) ?_
  refine wp_gd hnW ?_
  refine wp_st ?_
  have hG2 := hG1.adv hX hj
  rw [hG2.2.2.2.1]
  have hG3 := hG2.wt (g := 43) (j := w) (v := nI (nU (advS S1))) (by omega)
  have hF3 := hF1.adv.w (g := 43) (j := w) (v := nI (nU (advS S1))) (by omega) (by omega)
  have hD3 := hD1.adv.w43 (v := nI (nU (advS S1)))
  have hI3 : (sI (advS S1) 43 w (nI (nU (advS S1)))).1 37 0 = nI (w + 1) := by rw [sI_ne (by omega), advS_i (by omega)]; exact hI1
  have hU3 : RepU X (sI (advS S1) 43 w (nI (nU (advS S1)))) u (i + 1) 1 := ⟨by rw [nU_w (by omega), nU_adv]; exact hU1.1, fun k hk => by rw [rdIJ, sI_ne (by omega), advS_j (by omega), advS_i (by omega)]; exact hU1.2 k hk⟩
  have sN : nU (sI (advS S1) 43 w (nI (nU (advS S1)))) = nU (advS S1) := nU_w (by omega)
  generalize sI (advS S1) 43 w (nI (nU (advS S1))) = S3 at *
  refine wp_bi (x_usesF (d := d + 3) hX hnf hG3) ?_
  intro r l S4 h4
  obtain ⟨a1, a2, a3, a4, a5⟩ := h4
  subst a1
  rw [sN] at a3
  refine wp_gd hnW ?_
  refine wp_st ?_
  have w3 : nW S3 = w + 1 := nW_of hI3 (by omega)
  have hI4 : S4.1 37 0 = nI (w + 1) := by rw [congrFun a5 0]; exact hI3
  have w4 : nW S4 = w + 1 := nW_of hI4 (by omega)
  have hD4 := (hD3.ft a4 (by omega)).w44 (v := nI (rgs (xK X) 3 (i + 3)))
  have hU4 := RepU.aw a4.2.2.2 hU3
  have nU4 : nU (sI S4 44 w (nI (rgs (xK X) 3 (i + 3)))) = nU S4 := nU_w (by omega)
  refine wp_some ⟨rfl, by rw [nW_w (by omega), w4]; omega, a2.wt (by omega), ⟨by rw [sI_ne (by omega), nW_w (by omega), w4]; exact hI4, by rw [nW_w (by omega), w4]; omega⟩, (hF3.tr a4).w (by omega) (by omega), ⟨nU (advS S1), ⟨by rw [nU4]; exact a3.1, fun k hk => by rw [rdIJ, sI_ne (by omega)]; exact a3.2 k hk⟩, hD4⟩, ⟨by rw [nU4]; exact hU4.1, fun k hk => by rw [rdIJ, sI_ne (by omega)]; exact hU4.2 k hk⟩⟩
theorem b_t177 (hnf : 5000 ≤ nf) {x3 : Int32} (h : Zb X e T0 B T) (hx : inb x3 4000) : wp (rj_Model_type_177 (RR nf (d + 7)) nf T x3) (fun r _ T' => r = x3 ∧ Zb X e T0 B T') := by
  unfold rj_Model_type_177 rj_Model_type_208
  refine wp_gd hx ?_
  refine wp_st ?_
  refine wp_gd hx ?_
  refine wp_st ?_
  have h2 : Zb X e T0 B (sI (sJ T 41 x3.toNatClampNeg (T.2 6 0)) 42 x3.toNatClampNeg ((sJ T 41 x3.toNatClampNeg (T.2 6 0)).1 3 0)) := (h.wj (by decide)).w (by omega)
  refine wp_be (q_bad1 h2.bd) ?_
  refine wp_f (by decide) ?_
  refine wp_gd hx ?_
  refine wp_st ?_
  refine wp_be (b_uses (d := d + 5) hnf (h2.w (by omega)).bd) ?_
  refine wp_gd hx ?_
  refine wp_st ?_
  exact wp_some ⟨rfl, (h2.w (by omega)).w (by omega)⟩
theorem x_type (hX : LX X) (hnf : 5000 ≤ nf) : ∀ (f D : Nat), f ≤ 6 → f + 10 ≤ D → ∀ (T : gSt) (i : Nat), Gd X T i → Gw T i → wp (RR nf D 28 T [nI (7 - f)] []) (fun r _ T' => TQ X T i f (pTy (xK X) f false i) r T') := by
  have hx := hX.1
  intro f
  induction f with
  | zero =>
    intro D _ hD T i hG hW
    have hi := hG.1.1
    obtain ⟨d, rfl⟩ : ∃ d, D = d + 4 := ⟨D - 4, by omega⟩
    have hz := hG.fail (B := nN T) Fz.rf (Nat.le_refl _)
    have hb := b_type (nf := nf) (d := d) hz.bd (nI (7 - 0))
    rw [e_Model_type] at hb ⊢
    unfold rb_Model_type at hb ⊢
    rw [if_neg (by decide), q_wrong1 hz.bd] at hb
    refine wp_f (by decide) ?_
    refine wp_be (q_wrong0 hG.2.1) ?_
    refine wp_eq hb ?_
    exact ⟨Nat.le_refl _, hi, by decide, hz⟩
  | succ f ih =>
    intro D hf hD T i hG hW
    have hi := hG.1.1
    obtain ⟨d, rfl⟩ : ∃ d, D = d + 8 := ⟨D - 8, by omega⟩
    rw [e_Model_type]
    unfold rb_Model_type
    refine wp_t ((nI_leI (a := 7 - (f + 1)) (b := 6) (by omega) (by omega)).mpr (by omega)) ?_
    unfold rj_Model_type_10
    have ef : nI (7 - (f + 1)) + 1 = nI (7 - f) := by rw [nI_1]; congr 1; omega
    have mk : ∀ kd : Int32, (xK X i = 26 ∧ kd = 0 ∨ xK X i = 59 ∧ kd = 1 ∨ xK X i = 55 ∧ kd = 2 ∨ xK X i = 60 ∧ kd = 3) → wp (rj_Model_type_73 (RR nf (d + 7)) nf T (nI (7 - (f + 1))) kd) (fun r _ T' => TQ X T i (f + 1) (pTy (xK X) (f + 1) false i) r T') := by
      intro kd hkd
      have hil := hG.lt hX (by omega)
      have hw2 := hW.2
      have hw4 : nW T < 4000 := by omega
      have hnW : inb (nI (nW T)) 4000 := nin hw4 (by omega)
      unfold rj_Model_type_73
      refine wp_be (q_bad0 hG.2.1) ?_
      refine wp_t rfl ?_
      refine wp_v ?_
      refine wp_st ?_
      rw [hW.1, nI_1, nc (m := nW T) (by omega)]
      refine wp_gd hnW ?_
      refine wp_st ?_
      refine wp_gd hnW ?_
      refine wp_st ?_
      refine wp_gd hnW ?_
      refine wp_st ?_
      refine wp_gd hnW ?_
      refine wp_st ?_
      have hG1 : Gd X (sI (sI (sI (sI (sI T 37 0 (nI (nW T + 1))) 38 (nW T) kd) 40 (nW T) (-1)) 42 (nW T) (-1)) 44 (nW T) 0) i := ((((hG.wt (by omega)).wt (by omega)).wt (by omega)).wt (by omega)).wt (by omega)
      have hD0 : WD (sI T 37 0 (nI (nW T + 1))) (nW T) (T.1 38 (nW T)) (T.1 39 (nW T)) (T.1 40 (nW T)) (T.2 41 (nW T)) (T.1 42 (nW T)) (T.1 43 (nW T)) (T.1 44 (nW T)) := ⟨by rw [sI_ne (by omega)], by rw [sI_ne (by omega)], by rw [sI_ne (by omega)], rfl, by rw [sI_ne (by omega)], by rw [sI_ne (by omega)], by rw [sI_ne (by omega)]⟩
      have hD1 := (((hD0.w38 (v := kd)).w40 (v := -1)).w42 (v := -1)).w44 (v := 0)
      have hI1 : (sI (sI (sI (sI (sI T 37 0 (nI (nW T + 1))) 38 (nW T) kd) 40 (nW T) (-1)) 42 (nW T) (-1)) 44 (nW T) 0).1 37 0 = nI (nW T + 1) := by simp only [rdI]; simp
      have hF1 : Ft T (sI (sI (sI (sI (sI T 37 0 (nI (nW T + 1))) 38 (nW T) kd) 40 (nW T) (-1)) 42 (nW T) (-1)) 44 (nW T) 0) := by
        have h0 : Ft T (sI T 37 0 (nI (nW T + 1))) := ⟨Fz.rf.w (by omega), fun g a b => sI_ne (by omega), rfl, ⟨by rw [nU_w (by omega)]; exact Nat.le_refl _, fun j _ => ⟨rfl, by rw [sI_ne (by omega)]⟩, by rw [nW_of (T := sI T 37 0 (nI (nW T + 1))) (w := nW T + 1) sI_v (by omega)]; omega, fun g j a b _ => by rw [sI_ne (by omega)], fun _ _ => rfl⟩⟩
        exact (((h0.w (by omega) (Nat.le_refl _)).w (by omega) (Nat.le_refl _)).w (by omega) (Nat.le_refl _)).w (by omega) (Nat.le_refl _)
      generalize sI (sI (sI (sI (sI T 37 0 (nI (nW T + 1))) 38 (nW T) kd) 40 (nW T) (-1)) 42 (nW T) (-1)) 44 (nW T) 0 = S1 at *
      refine wp_be (q_adv hX hG1.1) ?_
      have hG2 := hG1.adv hX hil
      have hF2 := hF1.adv
      have hI2 : (advS S1).1 37 0 = nI (nW T + 1) := (advS_i (by omega)).trans hI1
      have hD2 := hD1.adv
      generalize advS S1 = S2 at *
      have hW2 : nW S2 = nW T + 1 := nW_of hI2 (by omega)
      rw [pTy, if_neg (show ¬ (false = true ∧ xK X i = 3) by simp)]
      by_cases k26 : xK X i = 26
      · have hk0 : kd = 0 := by rcases hkd with h | h | h | h <;> first | exact h.2 | omega
        refine wp_t hk0 ?_
        rw [if_neg (by omega), if_neg (by omega), if_pos k26]
        refine wp_some ⟨by omega, hG2, ⟨by rw [hI2, hW2], by omega⟩, hF2, rfl, ?_⟩
        rw [RepW]
        refine ⟨by omega, ?_⟩
        rw [if_pos k26, hD2.1, hk0]
      · have hkn : ¬ kd = 0 := by
          rcases hkd with h | h | h | h
          · omega
          · rw [h.2]; decide
          · rw [h.2]; decide
          · rw [h.2]; decide
        refine wp_f hkn ?_
        have hrest : (if xK X i = 59 ∨ xK X i = 55 then (if xK X (i + 1) = 4 then pTy (xK X) f true (i + 2) else .error (i + 1)) else if xK X i = 60 then (if xK X (i + 1) = 4 then pTy (xK X) f false (i + 2) else .error (i + 1)) else if xK X i = 26 then .ok (i + 1) else .error i) = (if xK X (i + 1) = 4 then pTy (xK X) f (decide (xK X i ≠ 60)) (i + 2) else .error (i + 1) : Except Nat Nat) := by
          by_cases c : xK X i = 60
          · rw [if_neg (by omega), if_pos c, show decide (xK X i ≠ 60) = false by simp [c]]
          · rw [if_pos (by omega), show decide (xK X i ≠ 60) = true by simp [c]]
        rw [hrest]
        have h3 : ((3 : Int32) ≤ kd) ↔ xK X i = 60 := by
          rcases hkd with h | h | h | h
          · omega
          · rw [h.2, h.1]; decide
          · rw [h.2, h.1]; decide
          · rw [h.2, h.1]; decide
        have hj2 := hG2.1.1
        have nn2 : nN S2 = nN T := nN_ft hF2
        have t2 := hX.2.2.2.2.1 (i + 1) hG2.1.1
        refine g_region (d := d + 4) hX hG2 (fun k4 S3 g1 g2 g3 g4 g5 g6 g7 => ?_) (fun k4 S3 hz => ?_)
        · rw [if_pos k4]
          refine wp_gd hnW ?_
          refine wp_st ?_
          have hG4 := g1.wt (g := 39) (j := nW T) (v := nI (nU S2)) (by omega)
          have hF4 := (hF2.tr g3).w (g := 39) (j := nW T) (v := nI (nU S2)) (by omega) (Nat.le_refl _)
          have hD4 := (hD2.ft g3 (by omega)).w39 (v := nI (nU S2))
          have pU : RepU X (sI S3 39 (nW T) (nI (nU S2))) (nU S2) (i + 1) 1 := ⟨by rw [nU_w (by omega)]; exact g5.1, fun k hk => by rw [rdIJ, sI_ne (by omega)]; exact g5.2 k hk⟩
          have hI4 : (sI S3 39 (nW T) (nI (nU S2))).1 37 0 = nI (nW T + 1) := by
            rw [sI_ne (by omega), congrFun (g2.2.2.2.1 37 (by omega)) 0, hI2]
          generalize sI S3 39 (nW T) (nI (nU S2)) = S4 at *
          have hW4 : nW S4 = nW T + 1 := nW_of hI4 (by omega)
          have hj4 := hG4.1.1
          have t4 := hX.2.2.2.2.1 (i + 2) hG4.1.1
          have kok : kd = (if xK X i = 59 then 1 else if xK X i = 55 then 2 else 3) := by
            rcases hkd with h | h | h | h
            · omega
            · rw [if_pos h.1, h.2]
            · rw [if_neg (by omega), if_pos h.1, h.2]
            · rw [if_neg (by omega), if_neg (by omega), h.2]
          have inner : (xK X i = 60 ∨ xK X (i + 2) ≠ 3) → wp (rj_Model_type_231 (RR nf (d + 7)) nf S4 (nI (7 - (f + 1))) (nI (nW T))) (fun r _ T' => TQ X T i (f + 1) (pTy (xK X) f (decide (xK X i ≠ 60)) (i + 2)) r T') := by
            intro hc
            have ec : pTy (xK X) f (decide (xK X i ≠ 60)) (i + 2) = pTy (xK X) f false (i + 2) := by
              by_cases c : xK X i = 60
              · rw [show decide (xK X i ≠ 60) = false by simp [c]]
              · rw [show decide (xK X i ≠ 60) = true by simp [c]]
                exact pTy_cell (hc.resolve_left c)
            rw [ec]
            unfold rj_Model_type_231
            rw [ef]
            refine wp_bi (ih (d + 7) (by omega) (by omega) S4 (i + 2) hG4 ⟨by rw [hI4, hW4], by omega⟩) ?_
            intro r l S5 h5
            generalize pTy (xK X) f false (i + 2) = res at h5 ⊢
            cases res with
            | error e =>
              obtain ⟨a1, a2, a3, a4⟩ := h5
              refine wp_gd hnW ?_
              refine wp_st ?_
              refine wp_some ⟨by omega, a2, hnW, ?_⟩
              have := (a4.fz hF4.1).w (g := 40) (j := (nI (nW T)).toNatClampNeg) (v := r) (by omega)
              exact this.le (by rw [nN_ft hF4]; exact Nat.le_refl _)
            | ok j =>
              obtain ⟨a1, a2, a3, a4, a5, a6⟩ := h5
              rw [hW4] at a5 a6
              subst a5
              refine wp_gd hnW ?_
              refine wp_st ?_
              rw [nc (m := nW T) (by omega)]
              have hD5 := (hD4.ft a4 (by omega)).w40 (v := nI (nW T + 1))
              have hle5 := a4.2.2.2.2.2.1
              have hU5 := RepU.aw a4.2.2.2 pU
              have nU5 : nU (sI S5 40 (nW T) (nI (nW T + 1))) = nU S5 := nU_w (by omega)
              have nW5 : nW (sI S5 40 (nW T) (nI (nW T + 1))) = nW S5 := nW_w (by omega)
              refine wp_some ⟨by omega, a2.wt (by omega), ⟨by rw [sI_ne (by omega), nW5]; exact a3.1, by rw [nW5]; exact a3.2⟩, (hF4.tr a4).w (by omega) (Nat.le_refl _), rfl, ?_⟩
              rw [RepW]
              refine ⟨by omega, ?_⟩
              rw [if_neg k26]
              refine ⟨hD5.1.trans kok, ⟨nU S2, hD5.2.1, ⟨by rw [nU5]; exact hU5.1, fun k hk => by rw [rdIJ, sI_ne (by omega)]; exact hU5.2 k hk⟩⟩, ?_⟩
              rw [if_neg (by omega)]
              refine ⟨hD5.2.2.2.2.1, hD5.2.2.1, ?_⟩
              exact RepW.av (T := S5) f (nW T + 1) (i + 2) ⟨by rw [nU5]; exact Nat.le_refl _, fun j' _ => ⟨rfl, by rw [sI_ne (by omega)]⟩, by rw [nW5]; exact Nat.le_refl _, fun g j' a b c _ => by rw [rdI, if_neg (by omega)], fun _ _ _ => rfl⟩ a6
          by_cases c60 : xK X i = 60
          · refine wp_t (h3.mpr c60) ?_
            exact inner (Or.inl c60)
          · refine wp_f (fun q => c60 (h3.mp q)) ?_
            by_cases c3 : xK X (i + 2) = 3
            · refine wp_t (by rw [hG4.1.2.2.2.1]; exact (srtK_ti _ (okK_lt t4.1)).mpr c3) ?_
              refine wp_be (q_bad0 hG4.2.1) ?_
              refine wp_t rfl ?_
              rw [ef, show decide (xK X i ≠ 60) = true by simp [c60]]
              by_cases f0 : f = 0
              · subst f0
                refine wp_f (by decide) ?_
                refine wp_be (q_wrong0 hG4.2.1) ?_
                have hz := hG4.fail (B := nN S4) hF4.1 (Nat.le_refl _)
                rw [nN_ft hF4] at hz
                refine wp_mono (b_t177 hnf hz hnW) ?_
                intro r l S5 h5
                show TQ X T i (0 + 1) (.error (i + 2)) _ _
                exact ⟨by omega, hj4, by rw [h5.1]; exact hnW, h5.2⟩
              · refine wp_t ((nI_leI (a := 7 - f) (b := 6) (by omega) (by omega)).mpr (by omega)) ?_
                obtain ⟨f', rfl⟩ : ∃ f', f = f' + 1 := ⟨f - 1, by omega⟩
                rw [pTy, if_pos ⟨rfl, c3⟩]
                refine wp_mono (x_t177 (d := d) hX hnf hG4 hF4 hw4 hw2 rfl hI4 hD4 c3 pU) ?_
                intro r l S5 h5
                obtain ⟨b1, b8, b2, b3, b4, ⟨u', b5, b6⟩, b7⟩ := h5
                have hj5 := b2.1.1
                refine ⟨by omega, b2, b3, b4, b1, ?_⟩
                rw [RepW]
                refine ⟨b8, ?_⟩
                · rw [if_neg k26]
                  refine ⟨b6.1.trans kok, ⟨nU S2, b6.2.1, b7⟩, ?_⟩
                  rw [if_pos ⟨c60, c3⟩]
                  exact ⟨b6.2.2.2.2.1, b6.2.2.2.1, u', b6.2.2.2.2.2.1, b6.2.2.2.2.2.2, b5⟩
            · refine wp_f (by rw [hG4.1.2.2.2.1]; exact fun q => c3 ((srtK_ti _ (okK_lt t4.1)).mp q)) ?_
              exact inner (Or.inr c3)
        · rw [if_neg k4]
          refine wp_gd hnW ?_
          refine wp_st ?_
          have hz3 := (hz.fz hF2.1).w (g := 39) (j := nW T) (v := 0) (by omega)
          rw [nn2] at hz3
          have fin231 : ∀ S, Zb X (i + 1) T (nN T) S → wp (rj_Model_type_231 (RR nf (d + 7)) nf S (nI (7 - (f + 1))) (nI (nW T))) (fun r _ T' => TQ X T i (f + 1) (.error (i + 1)) r T') := by
            intro S hS
            unfold rj_Model_type_231
            refine wp_be (b_type (d := d + 3) hS.bd _) ?_
            refine wp_gd hnW ?_
            refine wp_st ?_
            exact wp_some ⟨by omega, hj2, hnW, hS.w (by omega)⟩
          refine wp_if (fun _ => fin231 _ hz3) (fun _ => ?_)
          refine wp_if (fun _ => ?_) (fun _ => fin231 _ hz3)
          refine wp_be (q_bad1 hz3.bd) ?_
          refine wp_f (by decide) ?_
          exact fin231 _ hz3
    by_cases k26 : xK X i = 26
    · refine wp_be (q_wdY hX hG.1 hG.2.1 9 (by omega) (by omega) k26) ?_
      refine wp_f (by decide) ?_
      exact mk 0 (Or.inl ⟨k26, rfl⟩)
    refine wp_be (q_wdN hX hG.1 9 (by omega) (by omega) (by show xK X i ≠ 26; omega)) ?_
    refine wp_t rfl ?_
    by_cases k59 : xK X i = 59
    · refine wp_be (q_sgY hX hG.1 hG.2.1 59 rfl k59 (by omega)) ?_
      refine wp_f (by decide) ?_
      exact mk 1 (Or.inr (Or.inl ⟨k59, rfl⟩))
    refine wp_be (q_sgN hX hG.1 hG.2.1 59 rfl k59 (by omega) (by omega)) ?_
    refine wp_t rfl ?_
    by_cases k55 : xK X i = 55
    · refine wp_be (q_sgY hX hG.1 hG.2.1 55 rfl k55 (by omega)) ?_
      refine wp_f (by decide) ?_
      exact mk 2 (Or.inr (Or.inr (Or.inl ⟨k55, rfl⟩)))
    refine wp_be (q_sgN hX hG.1 hG.2.1 55 rfl k55 (by omega) (by omega)) ?_
    refine wp_t rfl ?_
    by_cases k60 : xK X i = 60
    · refine wp_be (q_sgY hX hG.1 hG.2.1 60 rfl k60 (by omega)) ?_
      refine wp_f (by decide) ?_
      exact mk 3 (Or.inr (Or.inr (Or.inr ⟨k60, rfl⟩)))
    refine wp_be (q_sgN hX hG.1 hG.2.1 60 rfl k60 (by omega) (by omega)) ?_
    refine wp_t rfl ?_
    refine wp_be (q_wrong0 hG.2.1) ?_
    have hz := hG.fail (B := nN T) Fz.rf (Nat.le_refl _)
    unfold rj_Model_type_73
    refine wp_be (q_bad1 hz.bd) ?_
    refine wp_f (by decide) ?_
    refine wp_some ?_
    rw [pTy, if_neg (show ¬ (false = true ∧ xK X i = 3) by simp), if_neg (by omega), if_neg (by omega), if_neg k26]
    exact ⟨Nat.le_refl _, hi, by decide, hz⟩
end VX
