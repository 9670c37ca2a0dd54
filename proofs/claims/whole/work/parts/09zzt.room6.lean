/-! room for types: arguments and calls -/
section RM6
variable {T T' T1 S S' Sa : gSt} {X : Lx} {p q k m n f v i e lo hi lo' hi' u : Nat} {x y w r s a b pl : Int32} {z : T5} {nm : Int64} {ta tb t : Tr} {R R' : ChR}
theorem pot_ft : pot (ftS T x y pl) = pot T := by
  unfold ftS
  split
  · unfold failS
    rw [pot_w (by omega) (by omega) (by omega), pot_w (by omega) (by omega) (by omega)]
  · rfl
theorem pot_cd {fi all : Int32} : ∀ (m k : Nat) (T : gSt), pot (cddS X fi all q m k T) = pot T := by
  intro m
  induction m with
  | zero => intro k T; rfl
  | succ m ih =>
    intro k T
    rw [cddS]
    split
    · rw [ih]
      split
      · exact pot_fl
      · rfl
    · rfl
theorem pot_cw {fi all : Int32} : ∀ (m k : Nat) (T : gSt), pot (cwhS X fi all q m k T) = pot T := by
  intro m
  induction m with
  | zero => intro k T; rfl
  | succ m ih =>
    intro k T
    rw [cwhS]
    split
    · rw [ih]
      split
      · exact pot_fl
      · rfl
    · rfl
/-- a value that is to fit: the row of what it is to be -/
theorem arg_fit (h : Ck S) (hc : cn S < 6000) (hr : tR S r) (hw : PK w 3) (hv : tV S y) (hd : dOk S 7 y) (h5 : dpt S 7 y ≤ 5) : pot (ftS (chT 7 S y w).2 r (chT 7 S y w).1 pl) ≤ pot S + 10 ∧ ((ftS (chT 7 S y w).2 r (chT 7 S y w).1 pl).1 7 0 = 0 → cn (ftS (chT 7 S y w).2 r (chT 7 S y w).1 pl) < 6000 → ¬ r = -2 → pot (ftS (chT 7 S y w).2 r (chT 7 S y w).1 pl) ≤ pot S + 2) := by
  have hF := FE.ch (w := w) 7 S y
  have g := hF.tg h.1
  have vv : Vv S := h.2.2.2.2.2.2.2
  have k1 := ch_cn (w := w) 7 S y h.1
  have p1 := pot_add hF h.1 vv hc k1
  refine ⟨by rw [pot_ft]; omega, fun h0 hc2 hr2 => ?_⟩
  rw [pot_ft]
  have hcC : cn (chT 7 S y w).2 < 6000 := FE.ft.lt g hc2
  unfold ftS at h0
  by_cases c : (chT 7 S y w).2.1 7 0 = 0 ∧ ¬ mfI (chT 7 S y w).2 r (chT 7 S y w).1 ≤ 0
  · exfalso
    rw [if_pos c] at h0
    unfold failS at h0
    rw [sI_ne (by omega), rdI, if_pos ⟨rfl, rfl⟩] at h0
    rw [h0] at c
    exact c.2 (by decide)
  rw [if_neg c] at h0
  have hm : mfI (chT 7 S y w).2 r (chT 7 S y w).1 ≤ 0 := Decidable.byContradiction fun q => c ⟨h0, q⟩
  have dp := ch_dp hw 7 S y h.1 h.2.1 hv hd hcC
  have ckC := h.ch hw hv hd hcC
  unfold mfI at hm
  by_cases c1 : r = 0 ∨ (chT 7 S y w).1 = 0
  · rw [if_pos c1] at hm
    by_cases c2 : r = (chT 7 S y w).1
    · have y0 : (chT 7 S y w).1 = 0 := c1.elim (fun z => by rw [← c2]; exact z) id
      rw [y0] at dp
      have d0 : dpt (chT 7 S y w).2 7 0 = 0 := by rw [dpt, if_neg (by decide)]
      rw [d0] at dp
      rw [← dp] at k1
      have := pot_add (k := 0) hF h.1 vv hc k1
      omega
    · rw [if_neg c2] at hm
      exact absurd hm (by decide)
  rw [if_neg c1, if_neg hr2] at hm
  by_cases c3 : r = -1
  · rw [if_pos c3] at hm
    exact absurd hm (by decide)
  rw [if_neg c3] at hm
  by_cases c4 : ((chT 7 S y w).2.1 66 r.toNatClampNeg = (chT 7 S y w).2.1 66 (chT 7 S y w).1.toNatClampNeg ∨ (chT 7 S y w).2.1 66 r.toNatClampNeg = 1 ∧ (chT 7 S y w).2.1 66 (chT 7 S y w).1.toNatClampNeg = 2) ∧ ¬ sameC (chT 7 S y w).2 r (chT 7 S y w).1 = 0
  · have sc := c4.2
    unfold sameC at sc
    have sc2 : (chT 7 S y w).2.1 68 r.toNatClampNeg = (chT 7 S y w).2.1 68 (chT 7 S y w).1.toNatClampNeg ∧ (chT 7 S y w).2.1 69 r.toNatClampNeg = (chT 7 S y w).2.1 69 (chT 7 S y w).1.toNatClampNeg ∧ (chT 7 S y w).2.1 70 r.toNatClampNeg = (chT 7 S y w).2.1 70 (chT 7 S y w).1.toNatClampNeg := Decidable.byContradiction fun z => sc (by rw [if_neg z])
    have vr : tV S r := by
      rcases hr with z | z | z
      · exact absurd z c3
      · exact absurd z hr2
      · exact z
    rcases vr with z | ⟨p, rfl, p1', p2⟩
    · exact absurd (Or.inl z) c1
    have cp : (nI p).toNatClampNeg = p := nc (by omega)
    have r5 := row5 ((hF.2.2.1 h.1).2.2 hcC p p2)
    rw [cp, r5.2.2.1, r5.2.2.2.1] at sc2
    have k2 := ch_one (f := 6) hw h.1 h.2.1 hv hd hcC (fun n9 => by
      rw [← sc2.1]
      rw [← sc2.2.1] at n9
      have o5 := (h.row p1' p2).2.2.2.2
      rw [if_neg n9] at o5
      exact o5.elim Or.inl (fun ⟨q, a, b, c⟩ => Or.inr ⟨q, a, b, by omega⟩))
    have := pot_add (k := 1) hF h.1 vv hc k2
    omega
  · rw [if_neg c4] at hm
    exact absurd hm (by decide)
theorem off_0 : 0 ≤ off T r := Nat.zero_le _
theorem rm_ag (hA : RF X ta) (hB : RF X tb) (hw1 : Wb X ta false lo hi) (hw2 : Wb X tb true lo' hi') (h : Ck T) (hq : Hq T) (h0 : T.1 7 0 = 0) (hc : cn T < 6000) (hg : agOk T f w (tD 10 i e ta tb)) (hg5 : agD T f (tD 10 i e ta tb)) : RAq X (tD 10 i e ta tb) T (agC X (chk X ta) (chk X tb) ta f w T) := by
  have hs := (hA false lo hi 0 0 T hw1 h hq h0 hc (fun e => absurd e (by decide))).1 rfl
  have hfe := chk_fe (X := X) ta 0 0 T
  have c1 : cw X (tD 10 i e ta tb) = if isZ tb = true then cw X ta else cw X ta + cw X tb + 1 := rfl
  have cle : cw X ta ≤ cw X (tD 10 i e ta tb) := by rw [c1]; split <;> omega
  have z10 : isZ (tD 10 i e ta tb) = false := rfl
  unfold agC
  generalize hR : chk X ta 0 0 T = R at *
  refine ra_bd (Sa := R.2.2.2) (by have := hs.2; omega) (fun q => by rw [if_neg q]) ?_ (hfe.tg h.1) (fun c7 c6 => ?_)
  · split
    · exact ((FE.ch _ _ _).tr FE.ft).tr (chk_fe (X := X) tb _ _ _)
    · exact FE.rf
  rw [if_pos c7]
  have hv := iv_ex0 (chk_inv ta) hw1 h (by rw [hR]; exact c6)
  rw [hR] at hv
  have s1 := (hs.1 c7 c6).1
  have hg1 := hg.fe hfe h.1 c6
  obtain ⟨a1, a2, a3⟩ := hg1.2 0 (by show 0 < lenT tb + 1; omega)
  rw [Nat.add_zero] at a1 a2 a3
  have a5 : dpt R.2.2.2 7 (R.2.2.2.1 24 f) ≤ 5 := by
    have := hg5 0 (by show 0 < lenT tb + 1; omega)
    rw [Nat.add_zero] at this
    rw [hfe.1 24 (by omega)]
    have tv := (hg.2 0 (by show 0 < lenT tb + 1; omega)).2.1
    rw [Nat.add_zero] at tv
    rw [dpt_fe hfe h.1 h.2.1 c6 tv]
    exact this
  have fit := arg_fit (pl := plT X ta) hv.1 c6 (hv.2 c7).1 hg.1 a2 a3 a5
  have fF : FE R.2.2.2 (ftS (chT 7 R.2.2.2 (R.2.2.2.1 24 f) w).2 R.1 (chT 7 R.2.2.2 (R.2.2.2.1 24 f) w).1 (plT X ta)) := (FE.ch _ _ _).tr FE.ft
  have ckT1 : cn (ftS (chT 7 R.2.2.2 (R.2.2.2.1 24 f) w).2 R.1 (chT 7 R.2.2.2 (R.2.2.2.1 24 f) w).1 (plT X ta)) < 6000 → Ck (ftS (chT 7 R.2.2.2 (R.2.2.2.1 24 f) w).2 R.1 (chT 7 R.2.2.2 (R.2.2.2.1 24 f) w).1 (plT X ta)) := fun c3 => (hv.1.ch hg.1 a2 a3 (FE.ft.lt ((FE.ch _ _ _).tg hv.1.1) c3)).1.ft c3
  show RAq X (tD 10 i e ta tb) T (0, 0, R.2.2.1 ++ (chk X tb (f + 1) w (ftS (chT 7 R.2.2.2 (R.2.2.2.1 24 f) w).2 R.1 (chT 7 R.2.2.2 (R.2.2.2.1 24 f) w).1 (plT X ta))).2.2.1, (chk X tb (f + 1) w (ftS (chT 7 R.2.2.2 (R.2.2.2.1 24 f) w).2 R.1 (chT 7 R.2.2.2 (R.2.2.2.1 24 f) w).1 (plT X ta))).2.2.2)
  generalize ftS (chT 7 R.2.2.2 (R.2.2.2.1 24 f) w).2 R.1 (chT 7 R.2.2.2 (R.2.2.2.1 24 f) w).1 (plT X ta) = T1 at *
  have fB := chk_fe (X := X) tb (f + 1) w T1
  refine ra_bd (Sa := T1) (by have := fit.1; omega) (fun q => by show (chk X tb (f + 1) w T1).2.2.2 = T1; rw [chk_bad q]; rfl) fB (fF.tg hv.1.1) (fun d7 d6 => ?_)
  have p3 : pot T1 ≤ pot T + 3 * cw X ta + 3 := by
    by_cases m2 : R.1 = -2
    · have : off R.2.2.2 R.1 = 13 := by unfold off; rw [if_pos m2]
      have := fit.1
      omega
    · have := fit.2 d7 d6 m2
      omega
  have ck1 := ckT1 d6
  by_cases zb : isZ tb = true
  · have e0 : chk X tb (f + 1) w T1 = erR T1 := by
      unfold isZ at zb
      split at zb
      · rfl
      · exact absurd zb (by decide)
    rw [e0]
    have c2 : cw X (tD 10 i e ta tb) = cw X ta := by rw [c1, if_pos zb]
    refine ⟨fun _ _ => ?_, ?_⟩
    · show pot T1 ≤ _
      rw [z10, if_neg (by decide)]
      omega
    · show pot T1 ≤ _
      omega
  · have c2 : cw X (tD 10 i e ta tb) = cw X ta + cw X tb + 1 := by rw [c1, if_neg zb]
    have hqT := hq.fe h (hfe.tr fF) d6
    have hs2 := (hB true lo' hi' (f + 1) w T1 hw2 ck1 hqT d7 d6 (fun _ => ⟨?_, ?_⟩)).2 rfl
    · refine ⟨fun g7 g6 => ?_, ?_⟩
      · have := hs2.1 g7 g6
        rw [if_neg zb] at this
        rw [z10, if_neg (by decide)]
        show pot (chk X tb (f + 1) w T1).2.2.2 ≤ _
        omega
      · have := hs2.2
        show pot (chk X tb (f + 1) w T1).2.2.2 ≤ _
        omega
    · have hg3 := hg1.fe fF hv.1.1 d6
      refine ⟨hg3.1, fun j hj => ?_⟩
      have := hg3.2 (j + 1) (by show j + 1 < lenT tb + 1; omega)
      rw [show f + 1 + j = f + (j + 1) from by omega]
      exact this
    · intro j hj
      have b := hg5 (j + 1) (by show j + 1 < lenT tb + 1; omega)
      have tv := (hg.2 (j + 1) (by show j + 1 < lenT tb + 1; omega)).2.1
      rw [show f + 1 + j = f + (j + 1) from by omega, (hfe.tr fF).1 24 (by omega), dpt_fe (hfe.tr fF) h.1 h.2.1 d6 tv]
      exact b
theorem ag_d (h : Ck T) (hq : Hq T) (hu : u < inn T) (hl : nI (lenT t) = T.1 19 u) (hl8 : lenT t < 100000) : agD T (T.1 18 u).toNatClampNeg t := by
  obtain ⟨c, m, r, w', b1, b2, b3, b4, b5, b6, b7, b8, b9, b10, b11⟩ := h.2.2.2.2.1.2.2 u hu
  rw [b1, nc (by omega)]
  have q := (hq u hu c m b1 b2 b4).1
  rw [b2] at hl
  have := nI_inj hl8 (by omega) hl
  exact fun j hj => q j (by omega)
theorem rm_clD (hl : lenT ta < 100000) (hA : RF X ta) (hw : Wb X ta true lo hi) (h : Ck T) (hq : Hq T) (h0 : T.1 7 0 = 0) (hc : cn T < 6000) (hu : u < inn T) (hp : PK w 3) : ((clD X (chk X ta) ta i e (nI u) w T).2.1 7 0 = 0 → cn (clD X (chk X ta) ta i e (nI u) w T).2 < 6000 → pot (clD X (chk X ta) ta i e (nI u) w T).2 ≤ pot T + 3 * cw X ta + 3) ∧ pot (clD X (chk X ta) ta i e (nI u) w T).2 ≤ pot T + 3 * cw X ta + 11 := by
  have h24 := h.2.2.2.2.1.2.1
  have cu : (nI u).toNatClampNeg = u := nc (by omega)
  unfold clD
  dsimp only
  rw [cu]
  by_cases c1 : nI (lenT ta) = T.1 19 u
  · rw [if_pos c1, if_pos h0]
    have hs := (hA true lo hi (T.1 18 u).toNatClampNeg w T hw h hq h0 hc (fun _ => ⟨ag_it h hu c1 hl hp, ag_d h hq hu c1 hl⟩)).2 rfl
    have hfe := chk_fe (X := X) ta (T.1 18 u).toNatClampNeg w T
    generalize chk X ta (T.1 18 u).toNatClampNeg w T = R at *
    have fd : FE R.2.2.2 (cwhS X (nI u) w (i + 1) (R.2.2.2.1 31 u).toNatClampNeg 0 (cddS X (nI u) w (i + 1) e 0 R.2.2.2)) := (FE.cd _ _ _).tr (FE.cw _ _ _)
    rw [pot_cw, pot_cd]
    refine ⟨fun g7 g6 => ?_, hs.2⟩
    have r7 : R.2.2.2.1 7 0 = 0 := Decidable.byContradiction fun z => fd.2.2.2 z g7
    have r6 : cn R.2.2.2 < 6000 := fd.lt (hfe.tg h.1) g6
    have := hs.1 r7 r6
    split at this <;> omega
  · rw [if_neg c1, if_neg (flT_bad (by decide)), pot_cw, pot_cd]
    show (_ → _ → pot (flT _ _ _) ≤ _) ∧ pot (flT _ _ _) ≤ _
    rw [pot_fl]
    exact ⟨fun _ _ => by omega, by omega⟩
end RM6
