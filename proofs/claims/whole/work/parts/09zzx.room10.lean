/-! room for types: var, region, if, while, try -/
section RMX
variable {T T' T0 T1 T2 S S' Sa : gSt} {X : Lx} {k i j e it v g n v' g' v1 g1 N lo hi a b c w w1 w2 f m : Nat} {p q s x y r ys no : Int32} {nm : Int64} {A B : StF} {ta tb t : Tr}
theorem cn_wa2 {q : Nat} : ∀ (m k : Nat) (T : gSt) (w : Int32), cn (waX X m T q k w).2 = cn T := by
  intro m
  induction m with
  | zero => intro k T w; rfl
  | succ m ih =>
    intro k T w
    rw [waX]
    split
    · rw [ih, cn_sr]
    · rfl
theorem cn_ti : cn (tiS X T i) = cn T := by
  unfold tiS
  repeat' split
  · rfl
  · exact cn_fl
  · exact cn_fl
theorem tyE_gt : ∀ (f i : Nat), tyW X f i → i + 1 ≤ tyE X f i := by
  intro f i h
  cases f with
  | zero => exact h.elim
  | succ f =>
    rw [tyE]
    split
    · omega
    · split
      · omega
      · have := tyE_ge (X := X) f (i + 2); omega
/-- a written TYPE makes a row a pointer -/
theorem me_cn : ∀ (f : Nat) (T : gSt) (i : Nat), tyW X f i → Tg T → 2 * cn (meX X f T i).2 + 1 ≤ 2 * cn T + (tyE X f i - i) := by
  intro f
  induction f with
  | zero => intro T i h; exact h.elim
  | succ f ih =>
    intro T i hw hg
    have gt := tyE_gt _ _ hw
    rw [meX]
    by_cases c0 : T.1 7 0 = 0
    · rw [if_pos c0]
      by_cases c1 : xK X i = 26
      · rw [if_pos c1]
        show 2 * cn T + 1 ≤ _
        omega
      · rw [if_neg c1]
        obtain ⟨w1, w2⟩ := hw.resolve_left c1
        by_cases c2 : 0 ≤ rgQ X T (i + 1)
        · rw [if_pos c2]
          by_cases c3 : tiQ X i
          · rw [if_pos c3]
            have et : tyE X (f + 1) i = i + 3 + rgs (xK X) 3 (i + 3) := by rw [tyE, if_neg c1, if_pos c3]
            have ew : cn (waX X (rgs (xK X) 3 (i + 3)) (tiS X T i) (i + 3) 0 0).2 = cn T := by rw [cn_wa2, cn_ti]
            have fw : FE T (waX X (rgs (xK X) 3 (i + 3)) (tiS X T i) (i + 3) 0 0).2 := FE.ti.tr (FE.wa _ _ _ _)
            split
            · have := cn_kn1 (z := (kdT X i, rgQ X T (i + 1), -1, ff (isTi T (xN X (i + 2))) 0 (inn T), (waX X (rgs (xK X) 3 (i + 3)) (tiS X T i) (i + 3) 0 0).1)) (fw.tg hg)
              show 2 * cn (knS _ _) + 1 ≤ _
              omega
            · show 2 * cn (waX X (rgs (xK X) 3 (i + 3)) (tiS X T i) (i + 3) 0 0).2 + 1 ≤ _
              omega
          · rw [if_neg c3]
            have et : tyE X (f + 1) i = tyE X f (i + 2) := by rw [tyE, if_neg c1, if_neg c3]
            have w3 : tyW X f (i + 2) := w2.elim (fun z => absurd z c3) (fun z => z.2)
            have i1 := ih T (i + 2) w3 hg
            have gt2 := tyE_gt _ _ w3
            split
            · have := cn_kn1 (z := (kdT X i, rgQ X T (i + 1), (meX X f T (i + 2)).1, -1, 0)) ((FE.me (X := X) f T (i + 2)).tg hg)
              show 2 * cn (knS _ _) + 1 ≤ _
              omega
            · show 2 * cn (meX X f T (i + 2)).2 + 1 ≤ _
              omega
        · rw [if_neg c2]
          show 2 * cn (flT _ _ _) + 1 ≤ _
          rw [cn_fl]
          omega
    · rw [if_neg c0]
      show 2 * cn T + 1 ≤ _
      omega
theorem pot_see {sl t : Int32} (hv : vn T < 100) : pot (seS T nm sl t) ≤ pot T + 2 := by
  have o : ∀ k, k ≠ 79 → k ≠ 80 → k ≠ 77 → (seS T nm sl t).1 k = T.1 k := fun k a b c => by
    unfold seS
    rw [sI_ne c, sI_ne b, sI_ne a]
    rfl
  have e1 : cn (seS T nm sl t) = cn T := by unfold cn; rw [o 65 (by omega) (by omega) (by omega)]
  have e2 : vn (seS T nm sl t) = vn T + 1 := by
    have : (seS T nm sl t).1 77 0 = nI (vn T + 1) := by unfold seS; rw [rdI, if_pos ⟨rfl, rfl⟩]
    show ((seS T nm sl t).1 77 0).toNatClampNeg = _
    rw [this, nc (by omega)]
  have e3 : ∀ z, knF (seS T nm sl t) z = knF T z := fun z => by
    unfold knF
    have : eqT (seS T nm sl t) z = eqT T z := by
      funext p
      unfold eqT rwT
      rw [o 66 (by omega) (by omega) (by omega), o 67 (by omega) (by omega) (by omega), o 68 (by omega) (by omega) (by omega), o 69 (by omega) (by omega) (by omega), o 70 (by omega) (by omega) (by omega)]
    rw [this, e1]
  have e4 : ∀ x, usB (seS T nm sl t) x = usB T x := fun x => by
    unfold usB tf
    rw [e3, o 66 (by omega) (by omega) (by omega), o 67 (by omega) (by omega) (by omega), o 68 (by omega) (by omega) (by omega), o 69 (by omega) (by omega) (by omega), o 70 (by omega) (by omega) (by omega)]
  have e5 : ∀ u, u < vn T → (seS T nm sl t).1 80 u = T.1 80 u := fun u hu => by
    unfold seS
    rw [sI_ne (by omega), rdI, if_neg (fun z => by omega), sI_ne (by omega)]
    rfl
  have e6 : psi (seS T nm sl t) ≤ psi T + 1 := by
    unfold psi
    rw [e2, cntB]
    have := cnt_mono (p := fun v => usB T (T.1 80 v)) (q := fun v => usB (seS T nm sl t) ((seS T nm sl t).1 80 v)) (vn T) (fun u hu z => by
      have z : usB (seS T nm sl t) ((seS T nm sl t).1 80 u) = true := z
      rw [e4, e5 u hu] at z
      exact z)
    split <;> omega
  unfold pot
  rw [e1]
  split <;> omega
theorem rs_va (hty : tyW X 6 (i + 3)) (hw : ¬ isZ ta = true → Wf X ta false lo hi) (hb : hi < 100000) (hv : v < 20) (h : SI T v g n) (hq : Hq T) (h0 : T.1 7 0 = 0) (hc : cn T < 6000) : RsD T (vaC X ta i v T).2 ((tyE X 6 (i + 3) - (i + 3)) + (if isZ ta = true then 4 else cw X ta + 5)) := by
  have fM : FE T (vaM X T i).2 := (FE.wr (by omega)).tr (FE.me _ _ _)
  have gM := fM.tg h.1.1
  have fF : FE (vaM X T i).2 (vaF X ta (vaM X T i).2 (vaM X T i).1) := by
    unfold vaF vaR
    by_cases z : isZ ta = true
    · rw [if_pos z]; exact FE.rf
    · simp only [if_neg z]
      exact (chk_fe (X := X) ta 0 0 _).tr FE.ft
  have gF := fF.tg gM
  have fE : FS (vaF X ta (vaM X T i).2 (vaM X T i).1) (vaC X ta i v T).2 := by
    unfold vaC vaE
    exact FS.if2 (FS.if2 (FS.fe (FE.fl (by decide))) (FS.if2 FS.see (FS.see.tr FS.gv))) FS.rf
  -- the TYPE
  have m1 := me_cn (X := X) 6 (sI T 92 0 (T.1 92 0 + 1)) (i + 3) hty ((FE.wr (k := 92) (by omega)).tg h.1.1)
  rw [cn_w (by omega)] at m1
  have m1 : 2 * cn (vaM X T i).2 + 1 ≤ 2 * cn T + (tyE X 6 (i + 3) - (i + 3)) := m1
  have pM := pot_add (k := cn (vaM X T i).2 - cn T) fM h.1.1 (show Vv T from h.1.2.2.2.2.2.2.2) hc (by omega)
  have rM : RsD T (vaM X T i).2 (tyE X 6 (i + 3) - (i + 3)) := ⟨fun _ _ => by omega, by have := pt0_le (T := (vaM X T i).2); omega⟩
  have rF : RsD T (vaF X ta (vaM X T i).2 (vaM X T i).1) ((tyE X 6 (i + 3) - (i + 3)) + (if isZ ta = true then 0 else cw X ta + 1)) := by
    refine rs_two rM (FS.fe fF) gM (fun z => ?_) (fun c7 c6 => ?_)
    · unfold vaF vaR
      by_cases zz : isZ ta = true
      · rw [if_pos zz]
      · simp only [if_neg zz]
        rw [cn_ft2, chk_bad z]
        rfl
    · unfold vaF vaR
      by_cases zz : isZ ta = true
      · rw [if_pos zz, if_pos zz]; exact rs_rf _
      · simp only [if_neg zz]
        have hm := (h.1.wr (k := 92) (i := 0) (v := T.1 92 0 + 1) (by omega) hc).me hty c6
        have sM : SK T (vaM X T i).2 v g n := h.fe fM hm.1
        exact rs_post (ex_rs (hw zz) hb sM.1 (hq.fe h.1 fM c6) c7 c6) pot_ft cn_ft2 ft_ok
  have wsum : (tyE X 6 (i + 3) - (i + 3)) + (if isZ ta = true then 0 else cw X ta + 1) + 1 ≤ (tyE X 6 (i + 3) - (i + 3)) + (if isZ ta = true then 4 else cw X ta + 5) := by split <;> omega
  refine RsD.up ?_ wsum
  refine rs_two rF fE gF (fun z => ?_) (fun c7 c6 => ?_)
  · unfold vaC vaE
    dsimp only
    rw [if_neg z]
  · have c6M := fF.lt gM c6
    have vnF : vn (vaF X ta (vaM X T i).2 (vaM X T i).1) = vn T := by rw [fF.evn, fM.evn]
    have hv2 := h.2.1
    unfold vaC vaE
    dsimp only
    rw [if_pos c7]
    split
    · exact rs_fl _ (by decide)
    · have ps := pot_see (T := vaF X ta (vaM X T i).2 (vaM X T i).1) (nm := xN X (i + 1)) (sl := nI v) (t := (vaM X T i).1) (by omega)
      have cs : cn (seS (vaF X ta (vaM X T i).2 (vaM X T i).1) (xN X (i + 1)) (nI v) (vaM X T i).1) = cn (vaF X ta (vaM X T i).2 (vaM X T i).1) := cn_see
      have rs : RsD (vaF X ta (vaM X T i).2 (vaM X T i).1) (seS (vaF X ta (vaM X T i).2 (vaM X T i).1) (xN X (i + 1)) (nI v) (vaM X T i).1) 1 := ⟨fun _ _ => by omega, by rw [pt0_cn cs]; have := pt0_le (T := vaF X ta (vaM X T i).2 (vaM X T i).1); omega⟩
      split
      · exact rs
      · refine rs_post rs (pot_fo FO.gv) (cn_fo FO.gv) (fun z => ?_)
        have fg := FS.gv (T := seS (vaF X ta (vaM X T i).2 (vaM X T i).1) (xN X (i + 1)) (nI v) (vaM X T i).1) (sl := nI v) (t := (vaM X T i).1) (y := (vaR X ta (vaM X T i).2).1) (has := if isZ ta = true then 0 else 1)
        exact fg.ok z
theorem rs_rg (hA : RsQ A w v (g + 1) (N + 1)) (fA : FSf A) (hN : N < 90000) (hn : n ≤ N) (hg : g < 8) (h : SI T v g n) (hq : Hq T) (h0 : T.1 7 0 = 0) (hc : cn T < 6000) : RsD T (rgC X A i T) (w + 2) := by
  unfold rgC
  split
  · exact rs_fl _ (by decide)
  have s1 := si_rgo (nm := xN X (i + 1)) h hg (by omega)
  have fo : FS T (rgO T (xN X (i + 1))) := FS.rgo
  have po : pot (rgO T (xN X (i + 1))) = pot T := pot_same (fun k hk => by
    unfold rgO
    rw [sI_ne (by omega), sI_ne (by omega), sI_ne (by omega), sI_ne (by omega), sI_ne (by omega)]
    show (sI (sI T 86 0 (T.1 86 0 + 1)) 74 (4 + T.1 86 0).toNatClampNeg (inL T (arn T) 0 0)).1 k = _
    rw [sI_ne (by omega), sI_ne (by omega)])
  have e65 : cn (rgO T (xN X (i + 1))) = cn T := by
    unfold cn rgO
    rw [sI_ne (by omega), sI_ne (by omega), sI_ne (by omega), sI_ne (by omega), sI_ne (by omega)]
    show ((sI (sI T 86 0 (T.1 86 0 + 1)) 74 (4 + T.1 86 0).toNatClampNeg (inL T (arn T) 0 0)).1 65 0).toNatClampNeg = _
    rw [sI_ne (by omega), sI_ne (by omega)]
  have e7 : (rgO T (xN X (i + 1))).1 7 0 = T.1 7 0 := by
    unfold rgO
    rw [sI_ne (by omega), sI_ne (by omega), sI_ne (by omega), sI_ne (by omega), sI_ne (by omega)]
    show (sI (sI T 86 0 (T.1 86 0 + 1)) 74 (4 + T.1 86 0).toNatClampNeg (inL T (arn T) 0 0)).1 7 0 = _
    rw [sI_ne (by omega), sI_ne (by omega)]
  have r1 := rs_pre po (hA 0 0 0 (n + 1) (rgO T (xN X (i + 1))) (by omega) s1.1 (hq.fs h.1 fo (by omega)) (by rw [e7]; exact h0) (by omega))
  have lo : ∀ k, k ≠ 84 → k ≠ 71 → k ≠ 75 → (rgL (A 0 0 0 (rgO T (xN X (i + 1)))) (4 + T.1 86 0)).1 k = (A 0 0 0 (rgO T (xN X (i + 1)))).1 k := fun k a b c => by
    unfold rgL dlS
    rw [sI_ne c, sI_ne b, sI_ne a]
  refine (rs_post r1 (pot_same (fun k hk => lo k (by omega) (by omega) (by omega))) ?_ (fun z => ?_)).up (by omega)
  · unfold cn; rw [lo 65 (by omega) (by omega) (by omega)]
  · rw [lo 7 (by omega) (by omega) (by omega)] at z; exact z
theorem rs_pr {zb : Bool} (iA : IvS A v g v1 g1 N) (hA : RsQ A w1 v g N) (fA : FSf A) (hB : ¬ zb = true → RsQ B w2 v1 g1 N) (fB : FSf B) (hn : n ≤ N) (h : SI T v g n) (hq : Hq T) (h0 : T.1 7 0 = 0) (hc : cn T < 6000) : RsD T (prC X A B zb ys no i T) (if zb = true then w1 else w1 + w2 + 1) := by
  unfold prC
  dsimp only
  have ko : FO T (kwS T ys) := FO.kw
  have kf : FS T (kwS T ys) := FS.kw
  have sk := h.fo (FO.kw (p := ys)) (by rw [kw_83]; exact h.2.2.1)
  have pk := pot_fo ko
  have ck := cn_fo ko
  have k7 : (kwS T ys).1 7 0 = T.1 7 0 := by
    unfold kwS
    split
    · rfl
    · rw [sI_ne (by omega)]
  generalize kwS T ys = S at *
  have gS := sk.1.1.1
  have ff := fA 0 0 0 S
  have hS := iA 0 0 0 n S hn sk.1
  have rA := rs_pre pk (hA 0 0 0 n S hn sk.1 (hq.fs h.1 kf (by omega)) (by rw [k7]; exact h0) (by omega))
  have hqS := hq.fs h.1 kf (by omega)
  generalize A 0 0 0 S = T2 at *
  by_cases c : T2.1 7 0 = 0
  · rw [if_pos c]
    have g2 := ff.tg gS
    have k3 : FS T2 (kwS (rsS T2 (T.1 81 0) (T.1 82 0) (T.1 75 0) (T.1 83 0)) no) := FS.rs.tr FS.kw
    have k3o : FO T2 (kwS (rsS T2 (T.1 81 0) (T.1 82 0) (T.1 75 0) (T.1 83 0)) no) := FO.rs.tr FO.kw
    have k83 : (kwS (rsS T2 (T.1 81 0) (T.1 82 0) (T.1 75 0) (T.1 83 0)) no).1 83 0 = T.1 83 0 := by rw [kw_83, rs_83]
    have k37 : (kwS (rsS T2 (T.1 81 0) (T.1 82 0) (T.1 75 0) (T.1 83 0)) no).1 7 0 = T2.1 7 0 := by
      unfold kwS rsS
      split
      · rw [sI_ne (by omega), sI_ne (by omega), sI_ne (by omega), sI_ne (by omega)]
      · rw [sI_ne (by omega), sI_ne (by omega), sI_ne (by omega), sI_ne (by omega), sI_ne (by omega)]
    generalize kwS (rsS T2 (T.1 81 0) (T.1 82 0) (T.1 75 0) (T.1 83 0)) no = T3 at *
    have r3 : RsD T T3 w1 := rs_post rA (pot_fo k3o) (cn_fo k3o) (fun z => by rw [k37] at z; exact z)
    have c37 : T3.1 7 0 = 0 := by rw [k37]; exact c
    have r4 : RsD T (if zb = true then T3 else B 0 0 0 T3) (if zb = true then w1 else w1 + w2 + 1) := by
      by_cases z : zb = true
      · rw [if_pos z, if_pos z]; exact r3
      · rw [if_neg z, if_neg z]
        refine RsD.up (rs_two r3 (fB 0 0 0 T3) (k3.tg g2) (fun q => absurd c37 q) (fun c7 c6 => ?_)) (by omega : w1 + w2 ≤ w1 + w2 + 1)
        have c2' : cn T2 < 6000 := k3.lt g2 c6
        have s2 := sk.tr (hS c2' c)
        have s3 := s2.tr (s2.1.fo k3o (by rw [k83]; exact h.2.2.1))
        exact hB z 0 0 0 n T3 hn s3.1 (hqS.fs sk.1.1 (ff.tr k3) c6) c7 c6
    generalize (if zb = true then T3 else B 0 0 0 T3) = T4 at *
    split
    · exact rs_post r4 (pot_fo FO.mt) (cn_fo FO.mt) (fun z => FS.mt.ok z)
    · exact r4
  · rw [if_neg c]
    exact rA.up (by split <;> omega)
theorem rs_if (hw : Wf X ta false lo hi) (hb : hi < 100000) (hB : RsQ B w v g N) (fB : FSf B) (hn : n ≤ N) (h : SI T v g n) (hq : Hq T) (h0 : T.1 7 0 = 0) (hc : cn T < 6000) : RsD T (ifC X B ta i T) (cw X ta + w + 1) := by
  unfold ifC
  have r1 := rs_cd hw hb h hq h0 hc
  have fc : FS T (cdC X ta T) := FS.cd
  have s1 := fun c1 => si_cd hw hb h c1
  by_cases c : (cdC X ta T).1 7 0 = 0
  · rw [if_pos c]
    refine RsD.up (rs_two r1 (fB _ _ _ _) (fc.tg h.1.1) (fun z => absurd c z) (fun c7 c6 => hB _ _ _ n _ hn (s1 c6).1 (hq.fs h.1 fc c6) c7 c6)) (by omega)
  · rw [if_neg c]
    exact r1.up (by omega)
theorem rs_wh (hw : Wf X ta false lo hi) (hb : hi < 100000) (hB : RsQ B w v g N) (fB : FSf B) (hn : n ≤ N) (h : SI T v g n) (hq : Hq T) (h0 : T.1 7 0 = 0) (hc : cn T < 6000) : RsD T (whC X B ta tb i T) (cw X ta + w + 1) := by
  unfold whC
  dsimp only
  have s0 : SK T (whO X tb T) v g n ∧ FO T (whO X tb T) ∧ FS T (whO X tb T) ∧ (whO X tb T).1 7 0 = T.1 7 0 := by
    unfold whO
    split
    · exact ⟨SK.rf h, FO.rf, FS.rf, rfl⟩
    · exact ⟨h.fo (FO.wr (by omega)) (by rw [sI_ne (by omega)]; exact h.2.2.1), FO.wr (by omega), FS.wr (by omega), by rw [sI_ne (by omega)]⟩
  obtain ⟨s0, o0, f0, e7⟩ := s0
  have po := pot_fo o0
  have co := cn_fo o0
  generalize whO X tb T = S at *
  have g1 : Tg (cdC X ta S) := FS.cd.tg s0.1.1.1
  have hqS := hq.fs h.1 f0 (by omega)
  have fc : FS S (cdC X ta S) := FS.cd
  have r1 := rs_pre po (rs_cd hw hb s0.1 hqS (by rw [e7]; exact h0) (by omega))
  have h1 := si_cd hw hb s0.1
  generalize cdC X ta S = C at *
  by_cases c : C.1 7 0 = 0
  · rw [if_pos c]
    have f1 : FS C (kwS C (akY X ta C)) := FS.kw
    have fo : FO C (kwS C (akY X ta C)) := FO.kw
    have k83 : (kwS C (akY X ta C)).1 83 0 = C.1 83 0 := by rw [kw_83]
    have k7 : (kwS C (akY X ta C)).1 7 0 = C.1 7 0 := by
      unfold kwS
      split
      · rfl
      · rw [sI_ne (by omega)]
    generalize kwS C (akY X ta C) = K at *
    have rK : RsD T K (cw X ta + 1) := rs_post r1 (pot_fo fo) (cn_fo fo) (fun z => by rw [k7] at z; exact z)
    have r2 : RsD T (B 0 0 0 K) (cw X ta + 1 + w) := by
      refine rs_two rK (fB 0 0 0 K) (f1.tg g1) (fun z => absurd (k7.trans c) z) (fun c7 c6 => ?_)
      have cC := f1.lt g1 c6
      have s1 := s0.tr (h1 cC)
      have sK := s1.tr (s1.1.fo fo (by rw [k83]; exact s1.1.2.2.1))
      exact hB 0 0 0 n K hn sK.1 (hqS.fs s0.1.1 (fc.tr f1) c6) c7 c6
    generalize B 0 0 0 K = T2 at *
    have o3 : FO T2 (if T2.1 7 0 = 0 ∧ ¬ T2.1 83 0 = 0 ∧ ¬ T2.1 75 0 = C.1 75 0 then flT T2 8 (nI (xP X i)) else T2) := FO.if2 FO.fl FO.rf
    have f3 : FS T2 (if T2.1 7 0 = 0 ∧ ¬ T2.1 83 0 = 0 ∧ ¬ T2.1 75 0 = C.1 75 0 then flT T2 8 (nI (xP X i)) else T2) := FS.if2 (FS.fe (FE.fl (by decide))) FS.rf
    generalize (if T2.1 7 0 = 0 ∧ ¬ T2.1 83 0 = 0 ∧ ¬ T2.1 75 0 = C.1 75 0 then flT T2 8 (nI (xP X i)) else T2) = T3 at *
    have o4 : FO T3 (kwS (rsS T3 (C.1 81 0) (C.1 82 0) (C.1 75 0) (C.1 83 0)) (akN X ta C)) := FO.rs.tr FO.kw
    have f4 : FS T3 (kwS (rsS T3 (C.1 81 0) (C.1 82 0) (C.1 75 0) (C.1 83 0)) (akN X ta C)) := FS.rs.tr FS.kw
    exact (rs_post r2 (pot_fo (o3.tr o4)) (cn_fo (o3.tr o4)) (fun z => f3.ok (f4.ok z))).up (by omega)
  · rw [if_neg c]
    exact r1.up (by omega)
theorem rs_ty (iA : IvS A v g v1 g1 (N + 1)) (hA : RsQ A w1 v g (N + 1)) (fA : FSf A) (hB : RsQ B w2 v1 g1 N) (fB : FSf B) (hN : N < 90000) (hn : n ≤ N) (h : SI T v g n) (hq : Hq T) (h0 : T.1 7 0 = 0) (hc : cn T < 6000) : RsD T (trC X A B ta i T) (w1 + w2 + 2) := by
  unfold trC
  dsimp only
  have s0 := si_tro h (by omega)
  have g0 := s0.1.1.1
  have oo : ∀ k, k ≠ 85 → k ≠ 84 → (trO T).1 k = T.1 k := fun k a b => by
    unfold trO
    rw [sI_ne b, sI_ne a]
  have pO : pot (trO T) = pot T := pot_same (fun k hk => oo k (by omega) (by omega))
  have cO : cn (trO T) = cn T := by unfold cn; rw [oo 65 (by omega) (by omega)]
  have fO : FS T (trO T) := (FS.wr (by omega)).tr (FS.wr (by omega))
  have hqO := hq.fs h.1 fO (by omega)
  have r1 := rs_pre pO (hA 0 0 0 (n + 1) (trO T) (by omega) s0.1 hqO (by rw [oo 7 (by omega) (by omega)]; exact h0) (by omega))
  have f1 := fA 0 0 0 (trO T)
  have hS := iA 0 0 0 (n + 1) (trO T) (by omega) s0.1
  generalize A 0 0 0 (trO T) = T2 at *
  have f2 : FS T2 (sI T2 84 0 (T2.1 84 0 - 1)) := FS.wr (by omega)
  have hO : SI T2 v1 g1 (n + 1) → SK T2 (sI T2 84 0 (T2.1 84 0 - 1)) v1 g1 n := si_out
  have r3 : RsD T (sI T2 84 0 (T2.1 84 0 - 1)) w1 := rs_post r1 (pot_w (by omega) (by omega) (by omega)) (cn_w (by omega)) (fun z => by rw [sI_ne (by omega)] at z; exact z)
  have e37 : (sI T2 84 0 (T2.1 84 0 - 1)).1 7 0 = T2.1 7 0 := by rw [sI_ne (by omega)]
  generalize sI T2 84 0 (T2.1 84 0 - 1) = T3 at *
  by_cases c : T3.1 7 0 = 0
  · rw [if_pos c]
    generalize (if T.1 83 0 = 0 then T.1 82 0 else T.1 82 0 &&& (gvA X ta T 0 ^^^ (-1))) = kk at *
    have f4 : FS T3 (rsS T3 (T.1 81 0) kk (T.1 75 0) (T.1 83 0)) := FS.rs
    have o4 : FO T3 (rsS T3 (T.1 81 0) kk (T.1 75 0) (T.1 83 0)) := FO.rs
    have e83 : (rsS T3 (T.1 81 0) kk (T.1 75 0) (T.1 83 0)).1 83 0 = T.1 83 0 := rs_83
    have e47 : (rsS T3 (T.1 81 0) kk (T.1 75 0) (T.1 83 0)).1 7 0 = T3.1 7 0 := by
      unfold rsS
      rw [sI_ne (by omega), sI_ne (by omega), sI_ne (by omega), sI_ne (by omega)]
    generalize rsS T3 (T.1 81 0) kk (T.1 75 0) (T.1 83 0) = T4 at *
    have f5 : FS T4 (sI T4 87 0 (T4.1 87 0 + 1)) := FS.wr (by omega)
    have o5 : FO T4 (sI T4 87 0 (T4.1 87 0 + 1)) := FO.wr (by omega)
    have d83 : (sI T4 87 0 (T4.1 87 0 + 1)).1 83 0 = T4.1 83 0 := by rw [sI_ne (by omega)]
    have e57 : (sI T4 87 0 (T4.1 87 0 + 1)).1 7 0 = T4.1 7 0 := by rw [sI_ne (by omega)]
    generalize sI T4 87 0 (T4.1 87 0 + 1) = T5 at *
    have r5 : RsD T T5 w1 := rs_post r3 (pot_fo (o4.tr o5)) (cn_fo (o4.tr o5)) (fun _ => c)
    have c57 : T5.1 7 0 = 0 := by rw [e57, e47]; exact c
    have g2 := f1.tg g0
    have g3 := f2.tg g2
    have g4 := f4.tg g3
    have g5 := f5.tg g4
    have r6 : RsD T (B 0 0 0 T5) (w1 + w2) := by
      refine rs_two r5 (fB 0 0 0 T5) g5 (fun z => absurd c57 z) (fun c7 c6 => ?_)
      have c4 := f5.lt g4 c6
      have c3 := f4.lt g3 c4
      have c2 := f2.lt g2 c3
      have s2 := s0.tr (hS c2 (f2.ok c))
      have s3 := s2.tr (hO s2.1)
      have s5 := s3.tr (s3.1.fo (o4.tr o5) (by rw [d83, e83]; exact h.2.2.1))
      exact hB 0 0 0 n T5 hn s5.1 (hqO.fs s0.1.1 (f1.tr (f2.tr (f4.tr f5))) c6) c7 c6
    generalize B 0 0 0 T5 = T6 at *
    have r7 : RsD T (sI T6 87 0 (T6.1 87 0 - 1)) (w1 + w2) := rs_post r6 (pot_w (by omega) (by omega) (by omega)) (cn_w (by omega)) (fun z => by rw [sI_ne (by omega)] at z; exact z)
    generalize sI T6 87 0 (T6.1 87 0 - 1) = T7 at *
    split
    · exact (rs_post r7 (pot_fo FO.mt) (cn_fo FO.mt) (fun z => FS.mt.ok z)).up (by omega)
    · exact r7.up (by omega)
  · rw [if_neg c]
    exact r3.up (by omega)
end RMX
