/-! cell and row -/
section CYD
variable {R : RgR} {S S' S0 S1 S2 T T' T1 T2 : gSt} {X : Lx} {nf d i k n m t e w c a b q g f h r s y z lo hi dd mb y1 y2 kd kw kw1 lv lv1 : Nat} {x v x' pl u1 u2 u3 op : Int32} {sl : Int32 → Int32} {ta tb tr : Tr} {zz j : T5} {js js2 : List T5}
/-- a make behind its value -/
theorem mk_tl (hnf : 16385 ≤ nf) (hw : WX X T) (hy : tyY T y) (hr : r < 12) (hk1 : 1 ≤ kd) (hk3 : kd ≤ 3) (hd : 4 ≤ d) : ∃ z T', (bi (PP nf d 49 T [(6 : Int32)] []) fun _ _ T5 => bi (PP nf d 97 T5 [nI y] []) fun r6 _ T6 => bi (PP nf d 51 T6 [op, nI r, r6] []) fun _ _ T7 => bi (PP nf d 88 T7 [nI (kd + 2), nI r, nI y] []) fun r8 _ T8 => some (r8, (0 : Int64), T8)) = some (nI z, 0, T') ∧ tyY T' z ∧ FX T T' ∧ ∀ R sl S h x n c, XR R sl X S T → TyR R S T h x y → T.1 51 0 = nI n → n < 6032 → lvC T 16384 + 2 < 16384 → R c r → c < 1024 → cn (knS (mkS S) (nI kd, nI c, x, -1, 0)) < 6000 → Ck (knS (mkS S) (nI kd, nI c, x, -1, 0)) → XR R sl X (knS (mkS S) (nI kd, nI c, x, -1, 0)) T' ∧ TyF S (knS (mkS S) (nI kd, nI c, x, -1, 0)) T T' ∧ (∃ h, TyR R (knS (mkS S) (nI kd, nI c, x, -1, 0)) T' h (knR (mkS S) (nI kd, nI c, x, -1, 0)) z) ∧ T'.1 51 0 = nI (n + 1) ∧ (∃ cc, wdR R (knS (mkS S) (nI kd, nI c, x, -1, 0)) T' x cc ∧ cw3 T' n = (op, nI r, cc)) ∧ lvC T' 16384 ≤ lvC T 16384 + 1 ∧ FE S (knS (mkS S) (nI kd, nI c, x, -1, 0)) := by
  have yl := hy.lt
  obtain ⟨w1, w2, w3, w4, w5, w6, w7, w8, w9⟩ := hw
  rw [show (6 : Int32) = nI 6 from rfl, c_tally (by omega) (by omega), bis, c_wordsOf (by omega) (by omega), bis]
  have f5 : FX T (sI T 52 6 (T.1 52 6 + 1)) := FX.ta w2 (by omega)
  obtain ⟨r6, T6, m1, m2, m3⟩ := a_emit (nf := nf) (d := d) (T := sI T 52 6 (T.1 52 6 + 1)) (x := op) (y := nI r) (z := nI (wdC (sI T 52 6 (T.1 52 6 + 1)) y)) f5.2.2.1 (by rw [sI_ne (by omega)]; exact w6) (by omega)
  have f6 := f5.tr m2
  obtain ⟨z, T7, k1, k2, k3, k4⟩ := ptr_ab (nf := nf) (d := d) (T := T6) (r := r) hnf f6.2.2.1 (f6.2.2.2.1 _ hy) (by omega) hk1 hk3 (by omega)
  rw [m1, bis, k1, bis]
  refine ⟨z, T7, rfl, k2, f6.tr k3.fx, fun R sl S h x n c hR hT h51 hn hl hRc hc hcn hck => ?_⟩
  have e6 := m3 n (by rw [sI_ne (by omega)]; exact h51) hn
  have c0 : cn S < 6000 := (FE.mk.tr FE.kn : FE S _).lt hR.2.1.1 hcn
  have tgm : Tg (mkS S) := FE.mk.tg hR.2.1.1
  have F6 : TyF S (mkS S) T T6 := by
    rw [e6]
    exact TyF.st (by unfold mkS; rw [sI_ne (by omega)]) (fun k _ _ => by unfold mkS; rw [sI_ne (by omega)]) (by unfold mkS; rw [sI_ne (by omega)]) rfl rfl
  have lv6 : lvC T6 16384 = lvC T 16384 := by
    rw [e6]
    exact lvC_62 (T := T) (T' := emS (sI T 52 6 (T.1 52 6 + 1)) n op (nI r) (nI (wdC (sI T 52 6 (T.1 52 6 + 1)) y))) rfl rfl 16384
  obtain ⟨v1, v2, v3⟩ := k4 R (mkS S) x h c (TyR.mo F6 (fun _ _ z => z) _ _ _ hT) tgm hRc hc (by omega) hcn
  have k3' := k3
  have v2' := v2
  rw [e6] at k3' v2'
  obtain ⟨b1, b2, b3, b4, b5, b6, b7⟩ := hR.mk h51 hn k3' v2' c0 hck
  refine ⟨b1, b2, ⟨_, v1⟩, b5, ⟨_, ⟨h, y, TyR.mo b2 (fun _ _ z => z) _ _ _ hT, ?_⟩, b6⟩, by omega, b4⟩
  rw [hT.wd b2]
  rfl
theorem mdC_n (hh : ¬ S.1 7 0 = 0) : mdC X (chk X tr) tr v x js S = erR S := by
  unfold mdC
  rw [chk_bad hh]
  dsimp only [erR]
  rw [if_neg (show ¬ (S.1 7 0 = 0 ∧ ¬ (0 : Int32) ≤ 0) from fun w => hh w.1), if_neg hh]
/-- the value of a cell or a row, and the make -/
theorem y_md (hX : XO X) (hnf : 16385 ≤ nf) (hC : CE1 nf X tr) (hP : CeP X T2 tr 1 lo hi z m dd d a b) (hd : 8 * m + 112 ≤ d) (h13 : T2.1 13 z = 0) (hr : r < 12) (hk : kd = 1 ∨ kd = 3) (hop : op = if kd = 3 then 42 else 40) : wp (bi (PP nf (d + 2) 168 T2 [nI lo, nI dd] []) fun r4 _ T4 => bi (PP nf (d + 2) 49 T4 [(6 : Int32)] []) fun _ _ T5 => bi (PP nf (d + 2) 97 T5 [r4] []) fun r6 _ T6 => bi (PP nf (d + 2) 51 T6 [op, nI r, r6] []) fun _ _ T7 => bi (PP nf (d + 2) 88 T7 [nI (kd + 2), nI r, r4] []) fun r8 _ T8 => some (r8, (0 : Int64), T8)) (fun rr _ T' => ∃ y, rr = nI y ∧ tyY T' y ∧ FX T2 T' ∧ ∀ R sl S S0 T n c js kw1 lv1, XR R sl X S0 T2 → TyF S S0 T T2 → T2.1 51 0 = nI (n + (ksE js).length) → KrL R sl S0 T2 (ksE js) n → (ksE js).length ≤ kw1 → kGo js → lvC T2 16384 ≤ lvC T 16384 + lv1 → n + kw1 + kwT tr + 1 ≤ 6032 → lvC T 16384 + lv1 + lvT X tr + 1 + 30 < 16384 → R c r → c < 1024 → cn (mdC X (chk X tr) tr (nI kd) (nI c) js S0).2.2.2 < 6000 → Ck (mdC X (chk X tr) tr (nI kd) (nI c) js S0).2.2.2 → XOk R sl X S T (mdC X (chk X tr) tr (nI kd) (nI c) js S0) (kw1 + kwT tr + 1) (lv1 + lvT X tr + 1) n y T') := by
  have hP' := hP
  refine wp_bi (y_val hX hnf hC hP hd h13) ?_
  obtain ⟨p1, p2, p3, p4, p5, p6, p7, p8, p9⟩ := hP
  intro r4 _ T4 ⟨⟨y4, e4, y2, y3⟩, yB⟩
  rw [e4]
  have x4 := p9.fx y3
  obtain ⟨zt, T7, g1, g2, g3, g4⟩ := mk_tl (nf := nf) (d := d + 2) (T := T4) (X := X) (r := r) (kd := kd) (op := op) hnf x4 y2 hr (by omega) (by omega) (by omega)
  rw [g1]
  refine wp_some ⟨zt, rfl, g2, y3.tr g3, fun R sl S S0 T n c js kw1 lv1 hR hF h51 hK hkw hG hlv hn hl hRc hc hcn hck => ?_⟩
  have fe1 : FE S0 (chk X tr 0 0 S0).2.2.2 := chk_fe tr 0 0 S0
  have tg1 := fe1.tg hR.2.1.1
  have cA : cn (chk X tr 0 0 S0).2.2.2 < 6000 := by
    unfold mdC at hcn
    dsimp only at hcn
    by_cases cf : (chk X tr 0 0 S0).2.2.2.1 7 0 = 0 ∧ ¬ 0 ≤ (chk X tr 0 0 S0).1
    · rw [if_pos cf] at hcn
      split at hcn
      · exact ((FE.fl (by decide)).tr (FE.mk.tr FE.kn) : FE (chk X tr 0 0 S0).2.2.2 _).lt tg1 hcn
      · exact (FE.fl (by decide) : FE (chk X tr 0 0 S0).2.2.2 _).lt tg1 hcn
    · rw [if_neg cf] at hcn
      split at hcn
      · exact (FE.mk.tr FE.kn : FE (chk X tr 0 0 S0).2.2.2 _).lt tg1 hcn
      · exact hcn
  have qv := yB R sl S0 (n + (ksE js).length) y4 e4 y2.lt hR ⟨h51, by omega, by omega, cA⟩
  unfold mdC at hcn hck ⊢
  dsimp only at hcn hck ⊢
  rcases qv with q | ⟨h0, ⟨q1, q2⟩ | ⟨q1, q2⟩⟩
  · rw [if_neg (show ¬ ((chk X tr 0 0 S0).2.2.2.1 7 0 = 0 ∧ ¬ 0 ≤ (chk X tr 0 0 S0).1) from fun w => q.1 w.1), if_neg q.1]
    exact Or.inr (q.fx g3)
  · rw [if_pos (show (chk X tr 0 0 S0).2.2.2.1 7 0 = 0 ∧ ¬ 0 ≤ (chk X tr 0 0 S0).1 from ⟨h0, q1⟩), if_neg q2.1]
    exact Or.inr (q2.fx g3)
  · rw [if_neg (show ¬ ((chk X tr 0 0 S0).2.2.2.1 7 0 = 0 ∧ ¬ 0 ≤ (chk X tr 0 0 S0).1) from fun w => w.2 q1), if_pos h0] at hcn hck ⊢
    unfold XQ XOk at q2
    rcases q2 with ⟨a1, a2, ⟨h1, a3⟩, a4, a5, a6, a7, a8⟩ | hBf
    · obtain ⟨b1, b2, b3, b4, ⟨cc, b5, b6⟩, b7, b8⟩ := g4 R sl _ h1 _ (n + (ksE js).length + (ksE (chk X tr 0 0 S0).2.2.1).length) c a1 a3 a4 (by omega) (by omega) hRc hc hcn hck
      have eap := ksE_ap (js := js) a7
      have rm : rmR R (nI c) (nI r) := ⟨c, r, rfl, rfl, hRc⟩
      have a5' : KrL R sl (chk X tr 0 0 S0).2.2.2 T4 (ksE (js ++ (chk X tr 0 0 S0).2.2.1)) n := by
        rw [eap]
        exact KrL.ap _ _ _ (hK.fx a2 fe1 y3 h51 (by omega)) a5
      have l2 : (ksE (js ++ (chk X tr 0 0 S0).2.2.1)).length = (ksE js).length + (ksE (chk X tr 0 0 S0).2.2.1).length := by rw [eap, List.length_append]
      refine XOk.ap1 (kw1 := kw1 + kwT tr) (hF.tr a2) (by rw [l2, ← Nat.add_assoc]; exact a4) a5' (by rw [l2]; omega) (hG.ap a7) (by omega) g3 b8 b1 b2 b3 (by rw [l2, ← Nat.add_assoc]; exact b4) ?_ ?_ (by omega) (by omega)
      · rw [l2, ← Nat.add_assoc]
        rcases hk with w | w
        · subst w
          rw [if_neg (show ¬ nI 1 = (3 : Int32) by decide)]
          rw [if_neg (by decide)] at hop
          rw [hop] at b6
          exact KrO_14 rm b5 b6
        · subst w
          rw [if_pos (show nI 3 = (3 : Int32) from rfl)]
          rw [if_pos rfl] at hop
          rw [hop] at b6
          exact KrO_15 rm b5 b6
      · show ¬ (if nI kd = (3 : Int32) then (15 : Int32) else 14) = 7
        split <;> decide
    · exact absurd h0 hBf.1
end CYD
