/-! new -/
def NwQ (X : Lx) (ta : Tr) (R : ChR) (T : gSt) (lo hi a b i e v : Nat) (z r : Int32) (T' : gSt) : Prop := er T' = R.2.2.2 ∧ Fm X T T' lo hi a b ∧ (T'.1 7 0 = 0 → r = R.1 ∧ R.2.1 = 0 ∧ (if xK X (i + 3 + e) = 49 then ∃ t0 u0 l0, AnE X T' ta (lo + 2) hi z t0 u0 l0 ∧ R.2.2.1 = l0 ++ [j1 17 (T'.1 48 v) R.1 (T'.1 61 (lo + 1)) 0] else ∃ l0, AnE X T' ta (lo + 1) hi z 0 0 l0 ∧ R.2.2.1 = l0 ++ [j1 16 (T'.1 48 v) R.1 0 0]))
section XW
variable {nf d : Nat} {T T' T1 S : gSt} {X : Lx} {m n p u i k e l lo hi a b s f q v f0 c : Nat} {x y r w all z rg : Int32} {t ta tb : Tr} {nm : Int64}
theorem x_346 (hnf : 6000 ≤ nf) (hg : Tg T) (hc : T.1 7 0 = 0 → cn T < 6000) : RR nf (d + 1) 14 T [] [] = RR nf (d + 1) 14 T [] [] → rj_Model_checkNew_346 (RR nf (d + 1)) nf T r x all = if T.1 7 0 = 0 then some (knR (mkS T) (1, r, -1, x, all), 0, knS (mkS T) (1, r, -1, x, all)) else some (0, 0, T) := by
  intro _
  unfold rj_Model_checkNew_346
  by_cases c : T.1 7 0 = 0
  · rw [if_pos c, x_bd0 c, bis, if_pos rfl]
    have g2 : Tg (mkS T) := FE.mk.tg hg
    have e1 : sI T 91 0 (T.1 91 0 + 1) = mkS T := rfl
    rw [e1]
    show bi (RR nf (d + 1) 41 (mkS T) _ _) _ = _
    rw [x_kn g2 (by rw [cn_mk]; exact hc c) hnf]
    rfl
  · rw [if_neg c, x_bd1 c, bis, if_neg (by decide)]
/-- union: the field, then its value -/
theorem x_nwU (hnf : 8300 ≤ nf) (hx : PI X) (hX : xn X ≤ 4000) (hA : CkE nf X ta) (hbx : b ≤ xn X) (hcb : c ≤ b) (hun : xK X (i + 3 + e) = 49) (hz : RepM X S ta (lo + 2) hi z) (hlo : lo + 1 < hi) (hhi : hi ≤ 8200) (h52 : S.1 52 lo = nI (lo + 1)) (h52b : S.1 52 (lo + 1) = z) (hnm : nmd X S (lo + 1) (i + 3 + e + 1)) (h51 : S.1 51 (lo + 1) = nI (xP X (i + 3 + e))) (hai : a = i) (hw : Wf X ta false (i + 3 + e + 3) c) (hC : Ck (er S)) (hs : S.1 94 0 = nI s) (hss : s + (hi - lo) ≤ 8200) (hd : 6 * dpT ta + 21 ≤ d) (hUU : nU S ≤ 4000) (h0 : S.1 7 0 = 0) (hf : f0 < inn S) (hP : PK all 3) (hv : S.1 47 v = nI (xP X (i + 1))) (hv48 : S.1 48 v = r) (hc : cn (nwD X (chk X ta) ta i e r (nI f0) all (er S)).2.2.2 < 6000) : wp (rj_Model_checkNew_137 (RR nf d) nf S (nI lo) r (nI f0) all 1 1 (S.1 12 f0)) (fun r' _ T' => NwQ X ta (nwD X (chk X ta) ta i e r (nI f0) all (er S)) S lo hi a b i e v z r' T') := by
  have zm : inb (nI lo) 8200 := nin (by omega) (by omega)
  have cm : (nI lo).toNatClampNeg = lo := nc (by omega)
  have zm1 : inb (nI (lo + 1)) 8200 := nin (by omega) (by omega)
  have cm1 : (nI (lo + 1)).toNatClampNeg = lo + 1 := nc (by omega)
  have h24 : inn S ≤ 24 := hC.2.2.2.2.1.2.1
  have zf : inb (nI f0) 24 := nin (by omega) (by omega)
  have cf : (nI f0).toNatClampNeg = f0 := nc (by omega)
  have hcS : cn S < 6000 := (fe_nwD (X := X) (ta := ta) (i := i) (e := e) (r := r) (ti := nI f0) (all := all) (T := er S) (chk_fe ta)).lt hC.1 hc
  have hWle := Wf_le2 hw
  obtain ⟨d', rfl⟩ : ∃ g, d = g + 20 := ⟨d - 20, by omega⟩
  have n10 : ¬ (1 : Int32) = 0 := by decide
  have b206 : ∀ T2 : gSt, ¬ T2.1 7 0 = 0 → wp (rj_Model_checkNew_206 (RR nf (d' + 20)) nf T2 (nI lo) r (nI f0) all 1) (fun r _ T' => T' = T2) := by
    intro T2 hb
    unfold rj_Model_checkNew_206
    exact wp_be (x_bd1 hb) (wp_f (by decide) (wp_some rfl))
  have b259 : ∀ (T2 : gSt) (ff0 : Int32), ¬ T2.1 7 0 = 0 → wp (rj_Model_checkNew_259 (RR nf (d' + 20)) nf T2 (nI lo) r (nI f0) all ff0) (fun r _ T' => T' = T2) := by
    intro T2 ff0 hb
    unfold rj_Model_checkNew_259
    exact wp_be (x_bd1 hb) (wp_f (by decide) (wp_some rfl))
  unfold rj_Model_checkNew_137
  unfold nwD at hc ⊢
  simp only [if_pos hun, if_neg n10, cf] at hc ⊢
  by_cases k1 : ¬ S.1 12 f0 = 1
  · have k1' : ¬ (er S).1 12 f0 = 1 := k1
    have hb : ¬ (flT S 7 (nI (xP X (i + 3 + e)))).1 7 0 = 0 := flT_bad (by decide)
    have hbe : ¬ (flT (er S) 7 (nI (xP X (i + 3 + e)))).1 7 0 = 0 := flT_bad (by decide)
    simp only [if_neg k1', if_neg hbe]
    refine wp_f k1 (wp_gd zm ?_)
    rw [cm, h52]
    refine wp_gd zm1 ?_
    rw [cm1, h51]
    refine wp_be x_fail (wp_mono (b206 _ hb) ?_)
    rintro r' _ T' rfl
    exact ⟨er_fl, Fm.nt nt_fl, fun q => absurd q hb⟩
  have k1 := Decidable.not_not.mp k1
  have k1' : (er S).1 12 f0 = 1 := k1
  have h0' : (er S).1 7 0 = 0 := h0
  simp only [if_pos k1', if_pos h0'] at hc ⊢
  refine wp_t k1 ?_
  unfold rj_Model_checkNew_206
  refine wp_be (x_bd0 h0) (wp_t rfl (wp_f (by decide) (wp_gd zm ?_)))
  rw [cm, h52]
  refine wp_gd zm1 ?_
  rw [cm1, hnm.1]
  obtain ⟨c0, m0, r0, w0, b1, b2, b3, b4, b5, b6, b7, b8, b9, b10, b11⟩ := hC.2.2.2.2.1.2.2 f0 hf
  have b1' : S.1 18 f0 = nI c0 := b1
  have b2' : S.1 19 f0 = nI m0 := b2
  refine wp_be (x_fld (w := xN X (i + 3 + e + 1)) (by omega) b1' b2' b4 (by omega)) ?_
  have efn : ff (isFi S c0 (xN X (i + 3 + e + 1))) 0 m0 = fnF (er S) (nI f0) (xN X (i + 3 + e + 1)) := by
    unfold fnF
    rw [cf, b1, b2, nc (by omega), nc (by omega)]
    rfl
  rw [efn]
  by_cases k2 : ¬ 0 ≤ fnF (er S) (nI f0) (xN X (i + 3 + e + 1))
  · have hb : ¬ (flT S 3 (nI (xP X (i + 3 + e + 1)))).1 7 0 = 0 := flT_bad (by decide)
    simp only [if_neg k2]
    refine wp_gd zm ?_
    rw [h52]
    refine wp_gd zm1 ?_
    rw [cm1, hnm.2]
    refine wp_be x_fail (wp_mono (b259 _ _ hb) ?_)
    rintro r' _ T' rfl
    exact ⟨er_fl, Fm.nt nt_fl, fun q => absurd q hb⟩
  have k2 := Decidable.not_not.mp k2
  simp only [if_pos k2] at hc ⊢
  obtain ⟨c1, m1, j, f1, f2, f3, f4, f5, f6, f7, f8⟩ := fld_ok hC hcS hf k2
  have ecc : c1 = c0 := nI_inj (by omega) (by omega) (f1.symm.trans b1)
  subst ecc
  generalize fnF (er S) (nI f0) (xN X (i + 3 + e + 1)) = fj at *
  unfold rj_Model_checkNew_259
  refine wp_be (x_bd0 h0) (wp_t rfl (wp_gd zm ?_))
  rw [cm, h52]
  refine wp_gd zm1 ?_
  rw [cm1]
  refine wp_st (wp_gd zm ?_)
  rw [sI_ne (g' := 52) (by omega), h52]
  refine wp_gd zm1 ?_
  rw [cm1, h52b]
  refine wp_v ?_
  have eS : er (sI S 61 (lo + 1) fj) = er S := er_a rfl
  have spS : SP S (sI S 61 (lo + 1) fj) := SP.an rfl
  have fmS : Fm X S (sI S 61 (lo + 1) fj) lo hi a b := Fm.fd (by omega) hlo
  have o61 : (sI S 61 (lo + 1) fj).1 61 (lo + 1) = fj := sI_v
  have repS : RepM X (sI S 61 (lo + 1) fj) ta (lo + 2) hi z := RepM.kp hz spS (fun j q1 q2 => by rw [rdI, if_neg (fun w => by omega)])
  have o94 : (sI S 61 (lo + 1) fj).1 94 0 = nI s := by rw [sI_ne (by omega)]; exact hs
  have o48 : (sI S 61 (lo + 1) fj).1 48 = S.1 48 := sI_ne (by omega)
  have hCS : Ck (er (sI S 61 (lo + 1) fj)) := by rw [eS]; exact hC
  have fa := chk_fe (X := X) ta 0 0 (er S)
  have ga := fa.tg hC.1
  have e6 : fty (chk X ta 0 0 (er S)).2.2.2 (nI f0) fj = S.1 24 (c1 + j) := by
    have : fty (er S) (nI f0) fj = S.1 24 (c1 + j) := by rw [f5, f6]; rfl
    rw [← this]
    unfold fty
    rw [fa.1 24 (by omega), fa.1 18 (by omega)]
  rw [e6] at hc ⊢
  have f2' := FE.ch (w := all) 7 (chk X ta 0 0 (er S)).2.2.2 (S.1 24 (c1 + j))
  have g2 := f2'.tg ga
  have f3' := FE.ft (T := (chT 7 (chk X ta 0 0 (er S)).2.2.2 (S.1 24 (c1 + j)) all).2) (x := (chk X ta 0 0 (er S)).1) (y := (chT 7 (chk X ta 0 0 (er S)).2.2.2 (S.1 24 (c1 + j)) all).1) (v := plT X ta)
  have g3 := f3'.tg g2
  have hcf : cn (ftS (chT 7 (chk X ta 0 0 (er S)).2.2.2 (S.1 24 (c1 + j)) all).2 (chk X ta 0 0 (er S)).1 (chT 7 (chk X ta 0 0 (er S)).2.2.2 (S.1 24 (c1 + j)) all).1 (plT X ta)) < 6000 := by
    by_cases c4 : (ftS (chT 7 (chk X ta 0 0 (er S)).2.2.2 (S.1 24 (c1 + j)) all).2 (chk X ta 0 0 (er S)).1 (chT 7 (chk X ta 0 0 (er S)).2.2.2 (S.1 24 (c1 + j)) all).1 (plT X ta)).1 7 0 = 0
    · simp only [if_pos c4] at hc
      exact (FE.mk.tr FE.kn).lt g3 hc
    · simp only [if_neg c4] at hc
      exact hc
  have c5 := f3'.lt g2 hcf
  have c6 := f2'.lt ga c5
  have wA := hA (sI S 61 (lo + 1) fj) (d' + 20) (lo + 2) hi _ c s z repS hhi hw (by omega) hCS o94 (by omega) (by omega) (by rw [sp_nU spS]; exact hUU) (by rw [eS]; exact c6)
  generalize hSS : sI S 61 (lo + 1) fj = SS at *
  refine wp_bi wA ?_
  rintro ra _ T1 ⟨q1, q2, q3⟩
  rw [eS] at q1 q3
  have fe1 : FE (er S) (er T1) := by rw [q1]; exact fa
  have sp1 : SP S T1 := SP.of fe1
  have hC1 : Ck (er T1) := by rw [q1]; exact (iv_ex0 (chk_inv ta) ⟨hw, by omega⟩ hC c6).1
  have hc1 : cn T1 < 6000 := by rw [← er_cn, q1]; exact c6
  have fm1 : Fm X S T1 lo hi a b := fmS.tr (q2.up (by omega) (by omega) (by omega) (by omega)) spS
  have v48 : T1.1 48 v = S.1 48 v := by
    rcases q2.2.1 v with h | ⟨q, h1, h2, h3⟩
    · rw [h, o48]
    · exfalso
      rw [spS.1 47 (by omega) rfl, hv] at h3
      have := hx (i + 1) q (by omega) (by omega) h3
      omega
  have t61 : T1.1 61 (lo + 1) = fj := by rw [(q2.1 (lo + 1) (by omega)).2]; exact o61
  obtain ⟨my, y1, y2, y3, y4, y5⟩ := RepM_nd ta _ _ _ _ z repS hw
  refine wp_gd zf ?_
  rw [cf, sp1.1 18 (by omega) rfl, b1', f5, nI_add]
  refine wp_gd (nin (by omega) (by omega)) ?_
  rw [nc (by omega), sp1.1 24 (by omega) rfl]
  have ec := er_chT (w := all) 7 T1 (S.1 24 (c1 + j))
  rw [q1] at ec
  have hcT : cn (chT 7 T1 (S.1 24 (c1 + j)) all).2 < 6000 := by rw [← er_cn, ← ec.2]; exact c5
  have f8' : dOk (er T1) 7 (S.1 24 (c1 + j)) := f8.fe fe1 hC.1 (by rw [q1]; exact c6)
  have f7' : tV (er T1) (S.1 24 (c1 + j)) := f7.fe fe1 hC.1
  refine wp_be (x_chg (by omega) 7 (d' + 11) T1 _ (er_dOk _ _ f8') hC1.1 hcT) ?_
  have hC2 := hC1.ch hP f7' f8' (by rw [q1]; exact c5)
  rw [q1, ec.1, ec.2] at hC2
  have sp2 : SP T1 (chT 7 T1 (S.1 24 (c1 + j)) all).2 := SP.fe (FE.ch _ _ _)
  have nt2 : ∀ k, anF k = true → (chT 7 T1 (S.1 24 (c1 + j)) all).2.1 k = T1.1 k := fun k hk => nt_ch k hk
  generalize (chT 7 T1 (S.1 24 (c1 + j)) all).2 = T2 at *
  generalize (chT 7 T1 (S.1 24 (c1 + j)) all).1 = r2 at *
  rw [y1]
  refine wp_gd (nin (by omega) (by omega)) ?_
  have o51 : T2.1 51 my = plT X ta := by
    rw [sp2.1 51 (by omega) rfl, sp1.1 51 (by omega) rfl, ← spS.1 51 (by omega) rfl]
    exact y4
  rw [nc (by omega), o51]
  have hy2 : T2.1 7 0 = 0 → r2 = 0 ∨ inb r2 6000 := fun _ => by
    rcases hC2.2 with h | ⟨p, h1, h2, h3⟩
    · exact Or.inl h
    · have h3' : p < cn T2 := h3
      exact Or.inr (by rw [h1]; exact nin (by omega) (by omega))
  have hry : T2.1 7 0 = 0 → inb r2 6000 → ¬ r2 = 0 → rC (T2.1 67 r2.toNatClampNeg) := fun _ q q0 => by
    rcases hC2.2 with h | ⟨p, h1, h2, h3⟩
    · exact absurd h q0
    · have h3' : p < cn T2 := h3
      rw [h1, nc (by omega)]
      exact rC2.rc (hC2.1.row h2 h3).2.1
  have hRi2 : Ri T2 := hC2.1.2.2.2.1
  have hbb : T2.1 7 0 = 0 → T1.1 7 0 = 0 := fun h => by
    by_cases g : T1.1 7 0 = 0
    · exact g
    · exfalso
      have g' : ¬ (er T1).1 7 0 = 0 := g
      have := (FE.ch (w := all) 7 (er T1) (S.1 24 (c1 + j))).2.2.2 g'
      rw [q1, ec.2] at this
      exact this h
  have hxF : T2.1 7 0 = 0 → tF ra := fun h => by
    have k5 := hbb h
    rw [(q3 k5).1]
    exact tF.of (T := T1) (by rw [q1]; exact ((iv_ex0 (chk_inv ta) ⟨hw, by omega⟩ hC c6).2 (by rw [← q1]; exact k5)).1) hc1
  refine wp_be (x_fit (d := d' + 16) hRi2 hxF hy2 hry (by omega)) ?_
  have eft : ftS T2 ra r2 (plT X ta) = ftS T2 (chk X ta 0 0 (er S)).1 r2 (plT X ta) := by
    by_cases g : T2.1 7 0 = 0
    · rw [(q3 (hbb g)).1]
    · rw [ftS_er_bad g, ftS_er_bad g]
  rw [eft]
  have e3S : er (ftS T2 (chk X ta 0 0 (er S)).1 r2 (plT X ta)) = ftS (chT 7 (chk X ta 0 0 (er S)).2.2.2 (S.1 24 (c1 + j)) all).2 (chk X ta 0 0 (er S)).1 (chT 7 (chk X ta 0 0 (er S)).2.2.2 (S.1 24 (c1 + j)) all).1 (plT X ta) := by rw [er_ftS, ec.1, ec.2]
  have sp3 : SP T2 (ftS T2 (chk X ta 0 0 (er S)).1 r2 (plT X ta)) := SP.fe FE.ft
  have nt3 : ∀ k, anF k = true → (ftS T2 (chk X ta 0 0 (er S)).1 r2 (plT X ta)).1 k = T1.1 k := fun k hk => (nt_ft k hk).trans (nt2 k hk)
  have gb3 : ¬ T2.1 7 0 = 0 → ¬ (ftS T2 (chk X ta 0 0 (er S)).1 r2 (plT X ta)).1 7 0 = 0 := fun h => by rw [ftS_er_bad h]; exact h
  rw [← e3S] at hc hcf g3 ⊢
  generalize ftS T2 (chk X ta 0 0 (er S)).1 r2 (plT X ta) = T3 at *
  have sp13 : SP T1 T3 := sp2.tr sp3
  have fm3 : Fm X S T3 lo hi a b := fm1.tr (Fm.nt nt3) sp1
  rw [x_346 (d := d' + 19) (by omega) (show Tg T3 from g3) (fun _ => hcf) rfl]
  by_cases k4 : ¬ T3.1 7 0 = 0
  · have k4' : ¬ (er T3).1 7 0 = 0 := k4
    rw [if_neg k4, if_neg k4']
    exact wp_some ⟨rfl, fm3, fun q => absurd q k4⟩
  have k4 := Decidable.not_not.mp k4
  have k4' : (er T3).1 7 0 = 0 := k4
  rw [if_pos k4, if_pos k4']
  have k20 : T2.1 7 0 = 0 := by
    by_cases g : T2.1 7 0 = 0
    · exact g
    · exact absurd k4 (gb3 g)
  have an1 := (q3 (hbb k20)).2
  rw [y1] at an1
  have eM : er (mkS T3) = mkS (er T3) := er_w rfl
  have nt5 : ∀ k, anF k = true → (knS (mkS T3) (1, r, -1, nI f0, all)).1 k = T1.1 k := fun k hk => (nt_kn k hk).trans ((nt_wr (by omega) k hk).trans (nt3 k hk))
  have sp5 : SP T1 (knS (mkS T3) (1, r, -1, nI f0, all)) := sp13.tr ((SP.fe FE.mk).tr (SP.fe FE.kn))
  refine wp_some ⟨?_, fm1.tr (Fm.nt nt5) sp1, fun _ => ⟨?_, rfl, ?_⟩⟩
  · rw [er_knS, eM]
  · rw [← er_knR, eM]
  · rw [if_pos hun]
    refine ⟨_, _, _, AnE.kp (b := c) (by omega) ta false _ c (lo + 2) hi _ _ _ _ (Nat.le_refl _) hw (Kp.nt sp5 nt5) an1, ?_⟩
    rw [nt5 48 rfl, v48, hv48, nt5 61 rfl, t61, f5]
/-- struct: its fields -/
theorem x_nwT (hnf : 8300 ≤ nf) (hx : PI X) (hX : xn X ≤ 4000) (hA : CkL nf X ta) (hbx : b ≤ xn X) (hcb : c ≤ b) (hun : ¬ xK X (i + 3 + e) = 49) (hz : RepM X S ta (lo + 1) hi z) (hlo : lo < hi) (hhi : hi ≤ 8200) (h52 : S.1 52 lo = z) (h53 : S.1 53 lo = nI (lenT ta)) (h57 : S.1 57 lo = nI (xP X (i + 2))) (h61 : S.1 61 lo = nI (xP X (i + 3 + e))) (hai : a = i) (hw : Wf X ta true (i + 3 + e + 1) c) (hC : Ck (er S)) (hs : S.1 94 0 = nI s) (hss : s + (hi - lo) ≤ 8200) (hd : 6 * dpT ta + 21 ≤ d) (hUU : nU S ≤ 4000) (h0 : S.1 7 0 = 0) (hf : f0 < inn S) (hP : PK all 3) (hv : S.1 47 v = nI (xP X (i + 1))) (hv48 : S.1 48 v = r) (hc : cn (nwD X (chk X ta) ta i e r (nI f0) all (er S)).2.2.2 < 6000) : wp (rj_Model_checkNew_137 (RR nf d) nf S (nI lo) r (nI f0) all 0 0 (S.1 12 f0)) (fun r' _ T' => NwQ X ta (nwD X (chk X ta) ta i e r (nI f0) all (er S)) S lo hi a b i e v z r' T') := by
  have zm : inb (nI lo) 8200 := nin (by omega) (by omega)
  have cm : (nI lo).toNatClampNeg = lo := nc (by omega)
  have h24 : inn S ≤ 24 := hC.2.2.2.2.1.2.1
  have zf : inb (nI f0) 24 := nin (by omega) (by omega)
  have cf : (nI f0).toNatClampNeg = f0 := nc (by omega)
  have hcS : cn S < 6000 := (fe_nwD (X := X) (ta := ta) (i := i) (e := e) (r := r) (ti := nI f0) (all := all) (T := er S) (chk_fe ta)).lt hC.1 hc
  have hWle := (Wf_le ta true _ _ hw).2 rfl
  obtain ⟨d', rfl⟩ : ∃ g, d = g + 20 := ⟨d - 20, by omega⟩
  have b206 : ∀ T2 : gSt, ¬ T2.1 7 0 = 0 → wp (rj_Model_checkNew_206 (RR nf (d' + 20)) nf T2 (nI lo) r (nI f0) all 0) (fun r _ T' => T' = T2) := by
    intro T2 hb
    unfold rj_Model_checkNew_206
    exact wp_be (x_bd1 hb) (wp_f (by decide) (wp_some rfl))
  have h0' : (er S).1 7 0 = 0 := h0
  unfold rj_Model_checkNew_137
  unfold nwD at hc ⊢
  simp only [if_neg hun, cf, ↓reduceIte] at hc ⊢
  by_cases k1 : ¬ S.1 12 f0 = 0
  · have k1' : ¬ (er S).1 12 f0 = 0 := k1
    have hb : ¬ (flT S 7 (nI (xP X (i + 3 + e)))).1 7 0 = 0 := flT_bad (by decide)
    have hbe : ¬ (flT (er S) 7 (nI (xP X (i + 3 + e)))).1 7 0 = 0 := flT_bad (by decide)
    simp only [if_neg k1', if_neg hbe]
    refine wp_f k1 (wp_gd zm ?_)
    rw [cm, h61]
    refine wp_be x_fail (wp_mono (b206 _ hb) ?_)
    rintro r' _ T' rfl
    exact ⟨er_fl, Fm.nt nt_fl, fun q => absurd q hb⟩
  have k1 := Decidable.not_not.mp k1
  have k1' : (er S).1 12 f0 = 0 := k1
  simp only [if_pos k1'] at hc ⊢
  refine wp_t k1 (wp_gd zm (wp_gd zf ?_))
  rw [cm, h53, h57]
  by_cases k2 : ¬ nI (lenT ta) = S.1 19 f0
  · have k2' : ¬ nI (lenT ta) = (er S).1 19 f0 := k2
    have hb : ¬ (flT S 7 (nI (xP X (i + 2)))).1 7 0 = 0 := flT_bad (by decide)
    have hbe : ¬ (flT (er S) 7 (nI (xP X (i + 2)))).1 7 0 = 0 := flT_bad (by decide)
    simp only [if_neg k2', if_neg hbe]
    refine wp_f k2 (wp_gd zm (wp_be x_fail (wp_mono (b206 _ hb) ?_)))
    rintro r' _ T' rfl
    exact ⟨er_fl, Fm.nt nt_fl, fun q => absurd q hb⟩
  have k2 := Decidable.not_not.mp k2
  have k2' : nI (lenT ta) = (er S).1 19 f0 := k2
  simp only [if_pos k2', if_pos h0'] at hc ⊢
  refine wp_t k2 ?_
  unfold rj_Model_checkNew_206
  refine wp_be (x_bd0 h0) (wp_t rfl (wp_t rfl ?_))
  obtain ⟨c0, m0, r0, w0, b1, b2, b3, b4, b5, b6, b7, b8, b9, b10, b11⟩ := hC.2.2.2.2.1.2.2 f0 hf
  have b1' : S.1 18 f0 = nI c0 := b1
  have e94 : RR nf (d' + 20) 94 S [nI lo, nI f0, all] [] = rl_Model_fitAll_16 (RR nf (d' + 19)) nf nf S all (nI c0) z := by
    rw [e_Model_fitAll nf (d' + 19)]
    unfold rb_Model_fitAll
    simp only [gd, if_pos zf, vK, if_pos zm, cm, cf]
    rw [h52, b1']
  have eb1 : ((er S).1 18 f0).toNatClampNeg = c0 := by rw [b1, nc (by omega)]
  rw [eb1] at hc ⊢
  have fA := chk_fe (X := X) ta c0 all (er S)
  have gA := fA.tg hC.1
  have hcA : cn (chk X ta c0 all (er S)).2.2.2 < 6000 := by
    by_cases c4 : (chk X ta c0 all (er S)).2.2.2.1 7 0 = 0
    · simp only [if_pos c4] at hc
      exact (FE.mk.tr FE.kn).lt gA hc
    · simp only [if_neg c4] at hc
      exact hc
  have hag : agOk (er S) c0 all ta := by
    have := ag_it (T := er S) (u := f0) (t := ta) (w := all) hC hf k2' (by omega) hP
    rw [b1, nc (by omega)] at this
    exact this
  have wA := hA S (d' + 19) (lo + 1) hi _ c s c0 nf all z hz hhi hw (by omega) hC hag hs (by omega) (by omega) hUU (by omega) hcA
  rw [← e94] at wA
  refine wp_bi wA ?_
  rintro _ _ T3 ⟨q1, q2, q3⟩
  have fe1 : FE (er S) (er T3) := by rw [q1]; exact fA
  have sp1 : SP S T3 := SP.of fe1
  have fm1 : Fm X S T3 lo hi a b := q2.up (by omega) (by omega) (by omega) (by omega)
  have v48 : T3.1 48 v = S.1 48 v := by
    rcases q2.2.1 v with h | ⟨q, h1, h2, h3⟩
    · exact h
    · exfalso
      rw [hv] at h3
      have := hx (i + 1) q (by omega) (by omega) h3
      omega
  rw [← q1] at hc hcA gA ⊢
  rw [x_346 (d := d' + 19) (by omega) (show Tg T3 from gA) (fun _ => hcA) rfl]
  by_cases k4 : ¬ T3.1 7 0 = 0
  · have k4' : ¬ (er T3).1 7 0 = 0 := k4
    rw [if_neg k4, if_neg k4']
    exact wp_some ⟨rfl, fm1, fun q => absurd q k4⟩
  have k4 := Decidable.not_not.mp k4
  have k4' : (er T3).1 7 0 = 0 := k4
  rw [if_pos k4, if_pos k4']
  have an1 := q3 k4
  have eM : er (mkS T3) = mkS (er T3) := er_w rfl
  have nt5 : ∀ k, anF k = true → (knS (mkS T3) (1, r, -1, nI f0, all)).1 k = T3.1 k := fun k hk => (nt_kn k hk).trans (nt_wr (by omega) k hk)
  have sp5 : SP T3 (knS (mkS T3) (1, r, -1, nI f0, all)) := (SP.fe FE.mk).tr (SP.fe FE.kn)
  refine wp_some ⟨?_, fm1.tr (Fm.nt nt5) sp1, fun _ => ⟨?_, rfl, ?_⟩⟩
  · rw [er_knS, eM]
  · rw [← er_knR, eM]
  · rw [if_neg hun]
    refine ⟨_, AnE.kp (b := c) (by omega) ta true _ c (lo + 1) hi _ _ _ _ (Nat.le_refl _) hw (Kp.nt sp5 nt5) an1, ?_⟩
    rw [nt5 48 rfl, v48, hv48]
theorem nw_bad (A : ChF) (h : ¬ (slS X T (i + 1)).1 7 0 = 0) : nwC X A ta i e T = erR (slS X T (i + 1)) := by
  unfold nwC
  simp only [if_neg h]
theorem nw_no3 (A : ChF) (h : (slS X T (i + 1)).1 7 0 = 0) (h2 : ¬ 0 ≤ ff (isTi (slS X T (i + 1)) (xN X (i + 2))) 0 (inn (slS X T (i + 1)))) : nwC X A ta i e T = erR (flT (slS X T (i + 1)) 3 (nI (xP X (i + 2)))) := by
  have hb : ¬ (flT (slS X T (i + 1)) 3 (nI (xP X (i + 2)))).1 7 0 = 0 := flT_bad (by decide)
  unfold nwC
  simp only [if_pos h, if_neg h2, waX_bad hb, if_neg hb]
theorem nw_no7 (A : ChF) (h : (slS X T (i + 1)).1 7 0 = 0) (h2 : ff (isTi (slS X T (i + 1)) (xN X (i + 2))) 0 (inn (slS X T (i + 1))) = nI f0) (hf : f0 < 24) (h7 : ¬ (slS X T (i + 1)).1 15 f0 = nI e) : nwC X A ta i e T = erR (flT (slS X T (i + 1)) 7 (nI (xP X (i + 2)))) := by
  have hb : ¬ (flT (slS X T (i + 1)) 7 (nI (xP X (i + 2)))).1 7 0 = 0 := flT_bad (by decide)
  have h1 : (0 : Int32) ≤ nI f0 := (nI_leI (a := 0) (b := f0) (by omega) (by omega)).mpr (by omega)
  unfold nwC
  simp only [if_pos h, h2, if_pos h1, nc (show f0 < 100000 by omega), if_neg h7, waX_bad hb, if_neg hb]
theorem nw_ok (A : ChF) (h : (slS X T (i + 1)).1 7 0 = 0) (h2 : ff (isTi (slS X T (i + 1)) (xN X (i + 2))) 0 (inn (slS X T (i + 1))) = nI f0) (hf : f0 < 24) (h7 : (slS X T (i + 1)).1 15 f0 = nI e) : nwC X A ta i e T = if (waX X e (slS X T (i + 1)) (i + 3) 0 0).2.1 7 0 = 0 then nwD X A ta i e (srR X T (i + 1)) (nI f0) (waX X e (slS X T (i + 1)) (i + 3) 0 0).1 (waX X e (slS X T (i + 1)) (i + 3) 0 0).2 else erR (waX X e (slS X T (i + 1)) (i + 3) 0 0).2 := by
  have h1 : (0 : Int32) ≤ nI f0 := (nI_leI (a := 0) (b := f0) (by omega) (by omega)).mpr (by omega)
  unfold nwC
  simp only [if_pos h, h2, if_pos h1, nc (show f0 < 100000 by omega), if_pos h7]
/-- what a new's node holds -/
def NwR (X : Lx) (T : gSt) (ta : Tr) (lo hi i e : Nat) (z : Int32) : Prop := if xK X (i + 3 + e) = 49 then T.1 50 lo = 7 ∧ T.1 52 lo = nI (lo + 1) ∧ lo + 1 < hi ∧ T.1 51 (lo + 1) = nI (xP X (i + 3 + e)) ∧ nmd X T (lo + 1) (i + 3 + e + 1) ∧ T.1 52 (lo + 1) = z ∧ RepM X T ta (lo + 2) hi z else T.1 50 lo = 6 ∧ T.1 61 lo = nI (xP X (i + 3 + e)) ∧ T.1 52 lo = z ∧ T.1 53 lo = nI (lenT ta) ∧ RepM X T ta (lo + 1) hi z
theorem x_nw (hnf : 8300 ≤ nf) (hx : PI X) (hX : xn X ≤ 4000) (hE : CkE nf X ta) (hL : CkL nf X ta) (hbx : b ≤ xn X) (hcb : c ≤ b) (hz : NwR X T ta lo hi i e z) (hlo : lo < hi) (hhi : hi ≤ 8200) (h54 : T.1 54 lo = nI v) (hV : RepU X T v (i + 1) 1) (hnm : nmd X T lo (i + 2)) (h58 : T.1 58 lo = nI u) (h59 : T.1 59 lo = nI e) (hU : RepU X T u (i + 3) e) (he : e ≤ 3) (hai : a = i) (hw : if xK X (i + 3 + e) = 49 then Wf X ta false (i + 3 + e + 3) c else Wf X ta true (i + 3 + e + 1) c) (hC : Ck (er T)) (hs : T.1 94 0 = nI s) (hss : s + (hi - lo) ≤ 8200) (hd : 6 * dpT ta + 21 ≤ d) (hUU : nU T ≤ 4000) (h0 : T.1 7 0 = 0) (hc : cn (nwC X (chk X ta) ta i e (er T)).2.2.2 < 6000) : wp (RR nf (d + 1) 93 T [nI lo] []) (fun r' _ T' => NwQ X ta (nwC X (chk X ta) ta i e (er T)) T lo hi a b i e v z r' T') := by
  have zm : inb (nI lo) 8200 := nin (by omega) (by omega)
  have cm : (nI lo).toNatClampNeg = lo := nc (by omega)
  have hcb2 : i + 3 + e ≤ c := by
    by_cases g : xK X (i + 3 + e) = 49
    · rw [if_pos g] at hw
      have := Wf_le2 hw
      omega
    · rw [if_neg g] at hw
      have := Wf_le2 hw
      omega
  have hcT : cn T < 6000 := (fe_nw (X := X) (ta := ta) (i := i) (e := e) (T := er T) (chk_fe ta)).lt hC.1 hc
  have hve : v < 4000 := by have := hV.1; omega
  have hue : u + e ≤ 4000 := by have := hU.1; omega
  have hRg : Rg T := hC.2.2.1.1
  have hvs : usN X T v (i + 1) := by
    have := hV.us (n := 0) (by omega)
    exact this
  obtain ⟨d', rfl⟩ : ∃ g, d = g + 20 := ⟨d - 20, by omega⟩
  rw [e_Model_checkNew nf (d' + 20)]
  unfold rb_Model_checkNew
  refine wp_gd zm ?_
  rw [cm, h54]
  refine wp_be (x_lvAt hRg (by omega) hve) ?_
  have eL := us_L hvs
  have eR := us_R hvs
  have spL := lvS_sp hvs
  have fmL : Fm X T (lvS T v) lo hi a b := Fm.lv (q := i + 1) (by omega) (by omega) hvs.2
  have hCL : Ck (er (lvS T v)) := by rw [eL]; exact hC.sl hcT
  have hcL : cn (lvS T v) < 6000 := by rw [← er_cn, eL, cn_sl]; exact hcT
  have uL := lvS_use (T := T) (p := v)
  have o60 : ∀ k, k ≠ 7 → k ≠ 8 → k ≠ 48 → (lvS T v).1 k = T.1 k := fun k a b c => lvS_o a b c
  rw [eR]
  rw [eR] at uL
  generalize hT0 : lvS T v = T0 at *
  by_cases k0 : ¬ T0.1 7 0 = 0
  · have k0' : ¬ (slS X (er T) (i + 1)).1 7 0 = 0 := by rw [← eL]; exact k0
    rw [nw_bad (chk X ta) k0']
    exact wp_be (x_bd1 k0) (wp_f (by decide) (wp_some ⟨eL, fmL, fun q => absurd q k0⟩))
  have k0 := Decidable.not_not.mp k0
  have k0' : (slS X (er T) (i + 1)).1 7 0 = 0 := by rw [← eL]; exact k0
  refine wp_be (x_bd0 k0) (wp_t rfl (wp_gd zm ?_))
  have h24 : inn T0 ≤ 24 := hCL.2.2.2.2.1.2.1
  have h11 : T0.1 11 0 = nI (inn T0) := hCL.2.2.2.2.1.1
  rw [spL.2, hnm.1]
  refine wp_be (x_title h11 h24 (by omega)) ?_
  have p57 : T0.1 57 lo = nI (xP X (i + 2)) := by rw [spL.1 57 (by omega) rfl]; exact hnm.2
  have p58 : T0.1 58 lo = nI u := by rw [spL.1 58 (by omega) rfl]; exact h58
  have p59 : T0.1 59 lo = nI e := by rw [spL.1 59 (by omega) rfl]; exact h59
  rw [p57, p59]
  have hbad : ∀ (T2 : gSt) (fi : Int32), ¬ T2.1 7 0 = 0 → SP T0 T2 → Rg T2 → wp (rj_Model_checkNew_76 (RR nf (d' + 20)) nf T2 (nI lo) (srR X (er T) (i + 1)) fi) (fun r _ T' => T' = T2) := by
    intro T2 fi hb hsp hR2
    unfold rj_Model_checkNew_76
    refine wp_gd zm (wp_gd zm ?_)
    rw [cm, hsp.1 58 (by omega) rfl, p58, hsp.1 59 (by omega) rfl, p59]
    refine wp_be (x_wth (u := u) (m := e) hR2 (by omega) he hue) ?_
    have ew : waT e T2 u 0 0 = (0, T2) := by
      cases e with
      | zero => rfl
      | succ n => rw [waT, if_neg hb]
    rw [ew]
    exact wp_be (x_bd1 hb) (wp_f (by decide) (wp_some rfl))
  by_cases k1 : ¬ 0 ≤ ff (isTi T0 (xN X (i + 2))) 0 (inn T0)
  · have k1' : ¬ 0 ≤ ff (isTi (slS X (er T) (i + 1)) (xN X (i + 2))) 0 (inn (slS X (er T) (i + 1))) := by rw [← eL]; exact k1
    rw [nw_no3 (chk X ta) k0' k1']
    have hb : ¬ (flT T0 3 (nI (xP X (i + 2)))).1 7 0 = 0 := flT_bad (by decide)
    refine wp_f k1 (wp_gd zm (wp_be x_fail ?_))
    refine wp_mono (hbad _ _ hb (SP.fe (FE.fl (by decide))) (by unfold Rg rn; rw [flT_o (by omega) (by omega)]; exact hCL.2.2.1.1)) ?_
    rintro r _ T' rfl
    refine ⟨?_, fmL.tr (Fm.nt nt_fl) spL, fun q => absurd q hb⟩
    rw [er_fl, eL]
    rfl
  have k1 := Decidable.not_not.mp k1
  obtain ⟨f0, f1, f2, cf⟩ := ti_ok hCL (show 0 ≤ ff (isTi (er T0) (xN X (i + 2))) 0 (inn (er T0)) from k1)
  have f1' : ff (isTi T0 (xN X (i + 2))) 0 (inn T0) = nI f0 := f1
  have f2' : f0 < inn T0 := f2
  have f1e : ff (isTi (slS X (er T) (i + 1)) (xN X (i + 2))) 0 (inn (slS X (er T) (i + 1))) = nI f0 := by rw [← eL]; exact f1
  have zf : inb (nI f0) 24 := nin (by omega) (by omega)
  refine wp_t k1 ?_
  rw [f1']
  refine wp_gd zf (wp_gd zm ?_)
  rw [cf]
  by_cases k2 : ¬ T0.1 15 f0 = nI e
  · have k2' : ¬ (slS X (er T) (i + 1)).1 15 f0 = nI e := by rw [← eL]; exact k2
    rw [nw_no7 (chk X ta) k0' f1e (by omega) k2']
    have hb : ¬ (flT T0 7 (nI (xP X (i + 2)))).1 7 0 = 0 := flT_bad (by decide)
    refine wp_f k2 (wp_gd zm (wp_be x_fail ?_))
    refine wp_mono (hbad _ _ hb (SP.fe (FE.fl (by decide))) (by unfold Rg rn; rw [flT_o (by omega) (by omega)]; exact hCL.2.2.1.1)) ?_
    rintro r _ T' rfl
    refine ⟨?_, fmL.tr (Fm.nt nt_fl) spL, fun q => absurd q hb⟩
    rw [er_fl, eL]
    rfl
  have k2 := Decidable.not_not.mp k2
  have k2' : (slS X (er T) (i + 1)).1 15 f0 = nI e := by rw [← eL]; exact k2
  rw [nw_ok (chk X ta) k0' f1e (by omega) k2', ← eL] at hc ⊢
  refine wp_t k2 ?_
  unfold rj_Model_checkNew_76
  refine wp_gd zm (wp_gd zm ?_)
  rw [cm, p58, p59]
  refine wp_be (x_wth (u := u) (m := e) hCL.2.2.1.1 (by omega) he hue) ?_
  have hU0 : RepU X T0 u (i + 3) e := RepU.sp spL hU
  have hus : ∀ j, j < e → usN X T0 (u + (0 + j)) (i + 3 + (0 + j)) := fun j hj => by rw [Nat.zero_add]; exact hU0.us hj
  have eW := us_W (X := X) (u := u) (q := i + 3) e 0 T0 0 hus
  have wC := Ck.wa (X := X) (q := i + 3) e 0 (er T0) 0 hCL hcL (by omega) PK.zr
  have wF : Fm X T0 (waT e T0 u 0 0).2 lo hi a b := Fm.wa (q := i + 3) (by omega) (by omega) (fun j hj => (hU0.us hj).2)
  have feW : FE (er T0) (waX X e (er T0) (i + 3) 0 0).2 := FE.wa _ _ _ _
  have w61 : (waT e T0 u 0 0).2.1 61 = T0.1 61 := waT_o (by omega) (by omega) (by omega) _ _ _ _
  have w94 : (waT e T0 u 0 0).2.1 94 = T0.1 94 := waT_o (by omega) (by omega) (by omega) _ _ _ _
  have w48 : (waT e T0 u 0 0).2.1 48 v = T0.1 48 v := by
    refine waT_48 _ _ _ _ ?_
    by_cases g : v < u ∨ u + e ≤ v
    · omega
    · exfalso
      have h1 := (hU.us (n := v - u) (by omega)).2
      rw [show u + (v - u) = v from by omega, hvs.2] at h1
      have := hx (i + 1) (i + 3 + (v - u)) (by omega) (by omega) h1
      omega
  rw [eW] at wC hc feW ⊢
  have spW : SP T0 (waT e T0 u 0 0).2 := SP.of feW
  generalize waT e T0 u 0 0 = W at *
  obtain ⟨all, S⟩ := W
  simp only at wC wF feW spW hc w61 w94 w48 ⊢
  have fmS : Fm X T S lo hi a b := fmL.tr wF spL
  have spS : SP T S := spL.tr spW
  by_cases k3 : ¬ S.1 7 0 = 0
  · have k3' : ¬ (er S).1 7 0 = 0 := k3
    rw [if_neg k3']
    exact wp_be (x_bd1 k3) (wp_f (by decide) (wp_some ⟨rfl, fmS, fun q => absurd q k3⟩))
  have k3 := Decidable.not_not.mp k3
  have k3' : (er S).1 7 0 = 0 := k3
  rw [if_pos k3'] at hc ⊢
  obtain ⟨hCS, hcS, hPK⟩ := wC
  refine wp_be (x_bd0 k3) (wp_t rfl (wp_gd zm ?_))
  have fS : f0 < inn S := by
    have : inn (er S) = inn (er T0) := feW.einn
    show f0 < inn (er S)
    rw [this]
    exact f2
  have hv47 : S.1 47 v = nI (xP X (i + 1)) := by rw [spS.1 47 (by omega) rfl]; exact hvs.2
  have hv48 : S.1 48 v = srR X (er T) (i + 1) := by rw [w48]; exact uL k0
  have hsS : S.1 94 0 = nI s := by rw [w94, o60 94 (by omega) (by omega) (by omega)]; exact hs
  have s61 : ∀ j, S.1 61 j = T.1 61 j := fun j => by rw [w61, o60 61 (by omega) (by omega) (by omega)]
  have hUS : nU S ≤ 4000 := by rw [sp_nU spS]; exact hUU
  have o : ∀ g, ¬ fE g → anF g = false → S.1 g = T.1 g := spS.1
  have wrap : ∀ (r' : Int32) (T' : gSt), NwQ X ta (nwD X (chk X ta) ta i e (srR X (er T) (i + 1)) (nI f0) all (er S)) S lo hi a b i e v z r' T' → NwQ X ta (nwD X (chk X ta) ta i e (srR X (er T) (i + 1)) (nI f0) all (er S)) T lo hi a b i e v z r' T' := fun r' T' h => ⟨h.1, fmS.tr h.2.1 spS, h.2.2⟩
  rw [o 50 (by omega) rfl]
  unfold NwR at hz
  by_cases g : xK X (i + 3 + e) = 49
  · rw [if_pos g] at hz hw
    obtain ⟨z1, z2, z3, z4, z5, z6, z7⟩ := hz
    refine wp_t z1 (wp_gd zf ?_)
    rw [cf]
    refine wp_mono (x_nwU (c := c) (s := s) hnf hx hX hE hbx hcb g (RepM.kp z7 spS (fun j _ _ => s61 j)) z3 hhi (by rw [o 52 (by omega) rfl]; exact z2) (by rw [o 52 (by omega) rfl]; exact z6) ⟨by rw [spS.2]; exact z5.1, by rw [o 57 (by omega) rfl]; exact z5.2⟩ (by rw [o 51 (by omega) rfl]; exact z4) hai hw hCS hsS hss (by omega) hUS k3 fS hPK hv47 hv48 hc) ?_
    intro r' _ T' h
    exact wrap r' T' h
  · rw [if_neg g] at hz hw
    obtain ⟨z1, z2, z3, z4, z5⟩ := hz
    refine wp_f (by rw [z1]; decide) (wp_gd zf ?_)
    rw [cf]
    refine wp_mono (x_nwT (c := c) (s := s) hnf hx hX hL hbx hcb g (RepM.kp z5 spS (fun j _ _ => s61 j)) hlo hhi (by rw [o 52 (by omega) rfl]; exact z3) (by rw [o 53 (by omega) rfl]; exact z4) (by rw [o 57 (by omega) rfl]; exact hnm.2) (by rw [s61]; exact z2) hai hw hCS hsS hss (by omega) hUS k3 fS hPK hv47 hv48 hc) ?_
    intro r' _ T' h
    exact wrap r' T' h
end XW
