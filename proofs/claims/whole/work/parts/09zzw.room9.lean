/-! room for types: STEPS -/
def cwsN (X : Lx) (ca cb sa sb : Nat) (za zb : Bool) (k i : Nat) : Nat :=
  if k = 31 then sa + 2 else if k = 11 then sa + sb else if k = 12 then (if zb = true then sa else sa + sb + 1)
  else if k = 20 then (tyE X 6 (i + 3) - (i + 3)) + (if za = true then 4 else ca + 5)
  else if k = 21 then ca + sb + 1 else if k = 22 then ca + sb + 1 else if k = 23 then (if za = true then 2 else ca + 2)
  else if k = 24 ∨ k = 25 then ca + 2 else if k = 26 then sa + 2 else if k = 27 then 3 else if k = 28 then sa + sb + 2
  else if k = 29 then ca + cb + 2 else ca + 1
/-- the least number of characters that STEPS take -/
def cws (X : Lx) : Tr → Nat
  | .add (.add (.var k) (.add (.var i) (.var _))) (.add a b) => cwsN X (cw X a) (cw X b) (cws X a) (cws X b) (isZ a) (isZ b) k i
  | _ => 0
def pt0 (T : gSt) : Nat := if cn T < 6000 then 2 * cn T else 12000
def RsD (T T' : gSt) (w : Nat) : Prop := (T'.1 7 0 = 0 → cn T' < 6000 → pot T' ≤ pot T + 3 * w) ∧ pt0 T' ≤ pot T + 3 * w + 11
abbrev RsQ (A : StF) (w v g N : Nat) : Prop := ∀ (p q : Int32) (j n : Nat) (T : gSt), n ≤ N → SI T v g n → Hq T → T.1 7 0 = 0 → cn T < 6000 → RsD T (A p q j T) w
section RM9
variable {T T' T0 T1 T2 S S' Sa : gSt} {X : Lx} {k i j e it v g n v' g' v1 g1 N lo hi a b c w w1 w2 : Nat} {p q s x y r : Int32} {nm : Int64} {A B : StF} {ta tb t : Tr}
theorem cws_n : cws X (tD k i e ta tb) = cwsN X (cw X ta) (cw X tb) (cws X ta) (cws X tb) (isZ ta) (isZ tb) k i := rfl
theorem pt0_le : pt0 T ≤ pot T := by
  unfold pt0 pot
  split <;> omega
theorem pt0_cn (h : cn T' = cn T) : pt0 T' = pt0 T := by unfold pt0; rw [h]
theorem pot_fo (h : FO T T') : pot T' = pot T := pot_same (fun k hk => h.1 k (by omega))
theorem cn_fo (h : FO T T') : cn T' = cn T := by unfold cn; rw [h.1 65 (by omega)]
theorem RsD.up (h : RsD T T' w) (hw : w ≤ w1) : RsD T T' w1 := ⟨fun a b => by have := h.1 a b; omega, by have := h.2; omega⟩
theorem rs_post (h : RsD T S w) (hp : pot T' = pot S) (hc : cn T' = cn S) (hf : T'.1 7 0 = 0 → S.1 7 0 = 0) : RsD T T' w := ⟨fun a b => by rw [hp]; exact h.1 (hf a) (by omega), by rw [pt0_cn hc]; exact h.2⟩
theorem rs_pre (hp : pot T0 = pot T) (h : RsD T0 T' w) : RsD T T' w := by unfold RsD at h ⊢; rw [hp] at h; exact h
theorem rs_two (h1 : RsD T S w1) (hF : FS S T') (hg : Tg S) (hf : ¬ S.1 7 0 = 0 → cn T' = cn S) (h2 : S.1 7 0 = 0 → cn S < 6000 → RsD S T' w2) : RsD T T' (w1 + w2) := by
  by_cases c7 : S.1 7 0 = 0
  · by_cases c6 : cn S < 6000
    · have a := h1.1 c7 c6
      have b := h2 c7 c6
      exact ⟨fun x y => by have := b.1 x y; omega, by have := b.2; omega⟩
    · have := (hF.2.2.1 hg).2.1
      have e1 : pt0 T' = 12000 := by unfold pt0; rw [if_neg (by omega)]
      have e2 : pt0 S = 12000 := by unfold pt0; rw [if_neg c6]
      exact ⟨fun _ y => by omega, by have := h1.2; omega⟩
  · exact ⟨fun x => absurd x (hF.2.2.2 c7), by rw [pt0_cn (hf c7)]; have := h1.2; omega⟩
theorem Hq.fs (hq : Hq T) (h : Ck T) (hF : FS T T') (hc : cn T' < 6000) : Hq T' := by
  have o : ∀ k, k < 65 → k ≠ 7 → k ≠ 8 → T'.1 k = T.1 k := hF.1
  intro t ht c m h18 h19 hcm
  rw [hF.einn] at ht
  rw [o 18 (by omega) (by omega) (by omega)] at h18
  rw [o 19 (by omega) (by omega) (by omega)] at h19
  have t3 := hF.2.2.1 h.1
  obtain ⟨q1, q2⟩ := hq t ht c m h18 h19 hcm
  obtain ⟨c', m', r', w', b1, b2, b3, b4, b5, b6, b7, b8, b9, b10, b11⟩ := h.2.2.2.2.1.2.2 t ht
  have e1 : c' = c := nI_inj (by omega) (by omega) (b1.symm.trans h18)
  have e2 : m' = m := nI_inj (by omega) (by omega) (b2.symm.trans h19)
  subst e1 e2
  refine ⟨fun f hf => ?_, fun h25 => ?_⟩
  · rw [o 24 (by omega) (by omega) (by omega), dpt_up h.1 h.2.1 (t3.2.2 hc) 7 _ (b9 f hf).1]
    exact q1 f hf
  · rw [o 25 (by omega) (by omega) (by omega)] at h25
    rw [o 26 (by omega) (by omega) (by omega), o 15 (by omega) (by omega) (by omega), dpt_up h.1 h.2.1 (t3.2.2 hc) 7 _ (b10 h25).1]
    exact ⟨(q2 h25).1, fun z => aH.up t3.2.1 (t3.2.2 hc) _ _ ((q2 h25).2 z)⟩
theorem ex_rm (hw : Wf X ta false lo hi) (hb : hi < 100000) (h : SI T v g n) (hq : Hq T) (h0 : T.1 7 0 = 0) (hc : cn T < 6000) : ((chk X ta 0 0 T).2.2.2.1 7 0 = 0 → cn (chk X ta 0 0 T).2.2.2 < 6000 → pot (chk X ta 0 0 T).2.2.2 ≤ pot T + 3 * cw X ta + 1) ∧ pot (chk X ta 0 0 T).2.2.2 ≤ pot T + 3 * cw X ta + 11 := by
  have := (chk_rm (X := X) ta false lo hi 0 0 T ⟨hw, hb⟩ h.1 hq h0 hc (fun e => absurd e (by decide))).1 rfl
  exact ⟨fun a b => by have := (this.1 a b).1; omega, this.2⟩
theorem ex_rs (hw : Wf X ta false lo hi) (hb : hi < 100000) (h : SI T v g n) (hq : Hq T) (h0 : T.1 7 0 = 0) (hc : cn T < 6000) : RsD T (chk X ta 0 0 T).2.2.2 (cw X ta + 1) := by
  have := ex_rm hw hb h hq h0 hc
  exact ⟨fun a b => by have := this.1 a b; omega, Nat.le_trans pt0_le (by have := this.2; omega)⟩
theorem pot_ni {pl : Int32} : pot (niT T r pl) = pot T := by
  unfold niT
  split
  · exact pot_fl
  · rfl
theorem cn_ni2 {pl : Int32} : cn (niT T r pl) = cn T := by
  unfold niT
  split
  · exact cn_fl
  · rfl
theorem ni_ok {pl : Int32} (h : (niT T r pl).1 7 0 = 0) : T.1 7 0 = 0 := Decidable.byContradiction fun z => (FE.ni (r := r) (pl := pl)).2.2.2 z h
theorem pot_cnT {pl : Int32} : pot (cnT T r pl) = pot T := by
  unfold cnT
  split
  · exact pot_fl
  · rfl
theorem cn_cnT {pl : Int32} : cn (cnT T r pl) = cn T := by
  unfold cnT
  split
  · exact cn_fl
  · rfl
theorem rs_cd (hw : Wf X ta false lo hi) (hb : hi < 100000) (h : SI T v g n) (hq : Hq T) (h0 : T.1 7 0 = 0) (hc : cn T < 6000) : RsD T (cdC X ta T) (cw X ta + 1) := by
  unfold cdC
  refine rs_post (ex_rs hw hb h hq h0 hc) pot_cnT cn_cnT ?_
  unfold cnT
  intro z
  split at z
  · exact absurd z (flT_bad (by decide))
  · exact z
theorem pot_sp : pot (spS T) = pot T := pot_fo FO.sp
theorem cn_ft2 : cn (ftS T x y p) = cn T := by
  unfold ftS
  split
  · unfold failS
    rw [cn_w (by omega), cn_w (by omega)]
  · rfl
theorem ft_ok (h : (ftS T x y p).1 7 0 = 0) : T.1 7 0 = 0 := Decidable.byContradiction fun z => (FE.ft (x := x) (y := y) (v := p)).2.2.2 z h
theorem rs_rf (w : Nat) : RsD T T w := ⟨fun _ _ => by omega, by have := pt0_le (T := T); omega⟩
theorem rs_fl (w : Nat) (ha : ¬ x = 0) : RsD T (flT T x y) w := ⟨fun z => absurd z (flT_bad ha), by rw [pt0_cn cn_fl]; have := pt0_le (T := T); omega⟩
theorem rs_rt (hw : ¬ isZ ta = true → Wf X ta false lo hi) (hb : hi < 100000) (h : SI T v g n) (hq : Hq T) (h0 : T.1 7 0 = 0) (hc : cn T < 6000) : RsD T (rtC X ta i it T).2 (if isZ ta = true then 2 else cw X ta + 2) := by
  unfold rtC
  by_cases c : (rtO T (isZ ta) it (nI (xP X i))).1 7 0 = 0
  · rw [if_pos c]
    by_cases z : isZ ta = true
    · rw [if_pos z, if_pos z]
      exact rs_post (rs_rf 2) pot_sp (cn_fo FO.sp) (fun q => h0)
    · rw [if_neg z, if_neg z]
      dsimp only
      refine (rs_post (ex_rs (hw z) hb h hq h0 hc) ?_ ?_ ?_).up (by omega)
      · rw [pot_sp, pot_ft]
      · rw [cn_fo FO.sp, cn_ft2]
      · intro q
        have : (spS (ftS (chk X ta 0 0 T).2.2.2 (chk X ta 0 0 T).1 ((chk X ta 0 0 T).2.2.2.1 26 it) (plT X ta))).1 7 0 = (ftS (chk X ta 0 0 T).2.2.2 (chk X ta 0 0 T).1 ((chk X ta 0 0 T).2.2.2.1 26 it) (plT X ta)).1 7 0 := by
          unfold spS
          rw [sI_ne (by omega), sI_ne (by omega), sI_ne (by omega)]
        rw [this] at q
        exact ft_ok q
  · rw [if_neg c]
    dsimp only
    unfold rtO at c ⊢
    split
    · exact rs_rf _
    · exact rs_fl _ (by decide)
theorem rs_cs (h0 : T.1 7 0 = 0) : RsD T (csC X i T) 3 := by
  have e1 : pot (srS X T (i + 1)) = pot T := pot_sr
  have e2 : cn (srS X T (i + 1)) = cn T := cn_sr
  have hf : ∀ S : gSt, pot S = pot T → cn S = cn T → RsD T S 3 := fun S a b => rs_post (rs_rf 3) a b (fun _ => h0)
  unfold csC
  split
  · split
    · exact hf _ (by rw [pot_fl]; exact e1) (by rw [cn_fl]; exact e2)
    · exact hf _ (by rw [pot_fo ((FO.ar _ _).tr FO.dl)]; exact e1) (by rw [cn_fo ((FO.ar _ _).tr FO.dl)]; exact e2)
  · exact hf _ e1 e2
theorem pot_td {k14 : Bool} : pot (tgD T k14 r) = pot T := by
  unfold tgD
  split
  · exact pot_w (by omega) (by omega) (by omega)
  · rfl
theorem cn_td2 {k14 : Bool} : cn (tgD T k14 r) = cn T := by
  unfold tgD
  split
  · exact cn_w (by omega)
  · rfl
theorem td_ok {k14 : Bool} (h : (tgD T k14 r).1 7 0 = 0) : T.1 7 0 = 0 := by
  unfold tgD at h
  split at h
  · rw [sI_ne (by omega)] at h; exact h
  · exact h
theorem rs_se (wa : Wf X ta false a c) (wb : Wf X tb false lo hi) (hb1 : c < 100000) (hb : hi < 100000) (h : SI T v g n) (hq : Hq T) (h0 : T.1 7 0 = 0) (hc : cn T < 6000) : RsD T (seC X ta tb T) (cw X ta + cw X tb + 2) := by
  have f1 := chk_fe (X := X) tb 0 0 T
  have g1 := f1.tg h.1.1
  have r1 := ex_rs wb hb h hq h0 hc
  have fse : FS (chk X tb 0 0 T).2.2.2 (seC X ta tb T) := by
    unfold seC
    split
    · split
      · split
        · unfold svS
          split
          · exact (FS.fe FE.ft).tr FS.gv
          · exact FS.fe FE.ft
        · exact FS.fe (FE.fl (by decide))
      · split
        · exact FS.fe ((chk_fe (X := X) ta 0 0 _).tr (FE.td.tr FE.ft))
        · exact FS.fe (FE.fl (by decide))
    · exact FS.rf
  have w : cw X ta + cw X tb + 2 = (cw X tb + 1) + (cw X ta + 1) := by omega
  rw [w]
  refine rs_two r1 fse g1 (fun z => by unfold seC; rw [if_neg z]) (fun c7 c6 => ?_)
  have h1 := (si_ch wb hb h c6).1
  have hq1 := hq.fe h.1 f1 c6
  unfold seC
  rw [if_pos c7]
  by_cases c1 : tkd X ta = 4
  · rw [if_pos c1]
    split
    · unfold svS
      split
      · refine rs_post (rs_rf _) ?_ ?_ (fun _ => c7)
        · rw [pot_fo FO.gv, pot_ft]
        · rw [cn_fo FO.gv, cn_ft2]
      · exact rs_post (rs_rf _) pot_ft cn_ft2 (fun _ => c7)
    · exact rs_fl _ (by decide)
  · rw [if_neg c1]
    split
    · refine rs_post (ex_rs wa hb1 h1.1 hq1 c7 c6) ?_ ?_ (fun z => td_ok (ft_ok z))
      · rw [pot_ft, pot_td]
      · rw [cn_ft2, cn_td2]
    · exact rs_fl _ (by decide)
end RM9
