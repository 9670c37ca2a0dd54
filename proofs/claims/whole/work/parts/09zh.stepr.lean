/-! return, and an assignment -/
def rtO (T : gSt) (z : Bool) (it : Nat) (p : Int32) : gSt := if (0 ≤ T.1 25 it) ↔ z = false then T else flT T 8 p
def rtC (X : Lx) (ta : Tr) (i it : Nat) (T : gSt) : List T5 × gSt :=
  if (rtO T (isZ ta) it (nI (xP X i))).1 7 0 = 0 then (if isZ ta = true then ([], spS T) else ((chk X ta 0 0 T).2.2.1, spS (ftS (chk X ta 0 0 T).2.2.2 (chk X ta 0 0 T).1 ((chk X ta 0 0 T).2.2.2.1 26 it) (plT X ta)))) else ([], rtO T (isZ ta) it (nI (xP X i)))
section RT
variable {nf d : Nat} {T T' T1 S : gSt} {X : Lx} {m n p u i k e l lo hi a b s v it c : Nat} {x y r t sl has pn : Int32} {nm : Int64} {ta tb : Tr}
theorem er_sp : er (spS T) = spS (er T) := by
  unfold spS
  rw [er_w rfl, er_w rfl, er_w rfl]
theorem nt_sp : ∀ k, anF k = true → (spS T).1 k = T.1 k := fun k hk => by
  have h : k ≠ 81 ∧ k ≠ 82 ∧ k ≠ 83 := by
    unfold anF at hk
    simp only [Bool.or_eq_true, beq_iff_eq] at hk
    omega
  unfold spS
  rw [sI_ne h.2.1, sI_ne h.1, sI_ne h.2.2]
theorem cn_sp : cn (spS T) = cn T := by
  unfold spS cn
  rw [sI_ne (by omega), sI_ne (by omega), sI_ne (by omega)]
theorem sw_sp : SPw T (spS T) := ⟨fun k k1 _ _ => by unfold spS; rw [sI_ne (by omega), sI_ne (by omega), sI_ne (by omega)], fun k _ => rfl⟩
theorem sp_7 : (spS T).1 7 0 = T.1 7 0 := by
  unfold spS
  rw [sI_ne (by omega), sI_ne (by omega), sI_ne (by omega)]
theorem isZ_01 (z : Bool) : z = true ∨ z = false := by cases z <;> simp
theorem Ck.rt (hC : Ck T) (hit : it < inn T) (h25 : 0 ≤ T.1 25 it) : tV T (T.1 26 it) := by
  obtain ⟨c, m, r, w, b1, b2, b3, b4, b5, b6, b7, b8, b9, b10, b11⟩ := hC.2.2.2.2.1.2.2 it hit
  exact (b10 h25).1
theorem x_rt (hx : PI X) (hX : xn X ≤ 4000) (hnf : 8300 ≤ nf) (hE : CkE nf X ta) (hlo : lo < hi) (hhi : hi ≤ 8200) (h51 : T.1 51 lo = nI (xP X i)) (hR : RepM X T ta (lo + 1) hi (T.1 52 lo)) (hwf : ¬ isZ ta = true → Wf X ta false (i + 1) c ∧ c < b) (hai : a = i) (hbx : b ≤ xn X) (hC : Ck (er T)) (h64 : T.1 64 0 = nI it) (hit : it < inn T) (hs : T.1 94 0 = nI s) (hss : s + (hi - lo) ≤ 8200) (hd : 6 * dpT ta + 22 ≤ d) (hUU : nU T ≤ 4000) (h0 : T.1 7 0 = 0) (hcT : cn T < 6000) (hc : cn (rtC X ta i it (er T)).2 < 6000) : wp (RR nf d 81 T [nI lo] []) (fun _ _ T' => er T' = (rtC X ta i it (er T)).2 ∧ Fm X T T' lo hi a b ∧ (T'.1 7 0 = 0 → ¬ isZ ta = true → AnE X T' ta (lo + 1) hi (T.1 52 lo) (chk X ta 0 0 (er T)).1 (chk X ta 0 0 (er T)).2.1 (chk X ta 0 0 (er T)).2.2.1)) := by
  have zm : inb (nI lo) 8200 := nin (by omega) (by omega)
  have cm : (nI lo).toNatClampNeg = lo := nc (by omega)
  have h24 : inn T ≤ 24 := hC.2.2.2.2.1.2.1
  have zi : inb (nI it) 24 := nin (by omega) (by omega)
  have ci : (nI it).toNatClampNeg = it := nc (by omega)
  obtain ⟨d', rfl⟩ : ∃ g, d = g + 20 := ⟨d - 20, by omega⟩
  have e25 : (er T).1 25 it = T.1 25 it := rfl
  have bad8 : ∀ (h : ¬ ((0 ≤ T.1 25 it) ↔ isZ ta = false)), wp (rj_Model_checkReturn_46 (RR nf (d' + 19)) nf (flT T 8 (nI (xP X i))) (nI lo)) (fun _ _ T' => er T' = (rtC X ta i it (er T)).2 ∧ Fm X T T' lo hi a b ∧ (T'.1 7 0 = 0 → ¬ isZ ta = true → AnE X T' ta (lo + 1) hi (T.1 52 lo) (chk X ta 0 0 (er T)).1 (chk X ta 0 0 (er T)).2.1 (chk X ta 0 0 (er T)).2.2.1)) := by
    intro h
    have hb : ¬ (flT T 8 (nI (xP X i))).1 7 0 = 0 := flT_bad (by decide)
    unfold rj_Model_checkReturn_46
    refine wp_be (x_bd1 hb) (wp_f (by decide) (wp_some ⟨?_, Fm.nt nt_fl, fun q => absurd q hb⟩))
    have eO : rtO (er T) (isZ ta) it (nI (xP X i)) = flT (er T) 8 (nI (xP X i)) := by
      unfold rtO
      rw [e25, if_neg h]
    have hbe : ¬ (flT (er T) 8 (nI (xP X i))).1 7 0 = 0 := flT_bad (by decide)
    unfold rtC
    rw [eO, if_neg hbe]
    exact er_fl
  have good : ∀ (h : (0 ≤ T.1 25 it) ↔ isZ ta = false), wp (rj_Model_checkReturn_46 (RR nf (d' + 19)) nf T (nI lo)) (fun _ _ T' => er T' = (rtC X ta i it (er T)).2 ∧ Fm X T T' lo hi a b ∧ (T'.1 7 0 = 0 → ¬ isZ ta = true → AnE X T' ta (lo + 1) hi (T.1 52 lo) (chk X ta 0 0 (er T)).1 (chk X ta 0 0 (er T)).2.1 (chk X ta 0 0 (er T)).2.2.1)) := by
    intro h
    have eO : rtO (er T) (isZ ta) it (nI (xP X i)) = er T := by
      unfold rtO
      rw [e25, if_pos h]
    have h0' : (er T).1 7 0 = 0 := h0
    unfold rtC at hc ⊢
    rw [eO, if_pos h0'] at hc ⊢
    unfold rj_Model_checkReturn_46
    refine wp_be (x_bd0 h0) (wp_t rfl (wp_gd zm ?_))
    rw [cm]
    by_cases z : isZ ta = true
    · have hx1 := (isZ_M z hR).1
      rw [if_pos z]
      refine wp_t (by rw [hx1]; decide) (wp_be x_stop (wp_some ⟨er_sp, Fm.nt nt_sp, fun _ h => absurd z h⟩))
    · rw [if_neg z] at hc ⊢
      obtain ⟨w1, w2⟩ := hwf z
      have le1 := Wf_le2 w1
      obtain ⟨my, y1, y2, y3, y4, y5⟩ := RepM_nd ta _ _ _ _ _ hR w1
      have c52 : ¬ T.1 52 lo < 0 := by rw [y1]; exact nI_pos (by omega)
      refine wp_f c52 (wp_gd zm ?_)
      have fa := chk_fe (X := X) ta 0 0 (er T)
      have ga := fa.tg hC.1
      have hc' : cn (ftS (chk X ta 0 0 (er T)).2.2.2 (chk X ta 0 0 (er T)).1 ((chk X ta 0 0 (er T)).2.2.2.1 26 it) (plT X ta)) < 6000 := by
        have := hc
        rw [cn_sp] at this
        exact this
      have hcA : cn (chk X ta 0 0 (er T)).2.2.2 < 6000 := FE.ft.lt ga hc'
      refine wp_bi (hE T (d' + 19) (lo + 1) hi _ c s _ hR hhi w1 (by omega) hC hs (by omega) (by omega) hUU hcA) ?_
      rintro ra _ T3 ⟨p1, p2, p3⟩
      have bh := ch_bh w1 (by omega) hC hcA p1
      obtain ⟨⟨sp3, hC3, hc3⟩, hok3⟩ := bh
      have s64 : T3.1 64 0 = nI it := by rw [sp3.1 64 (by omega) rfl]; exact h64
      have s52 : T3.1 52 lo = T.1 52 lo := by rw [sp3.1 52 (by omega) rfl]
      rw [s64]
      refine wp_gd zi (wp_gd zm ?_)
      rw [s52, y1]
      refine wp_gd (nin (by omega) (by omega)) ?_
      rw [ci, nc (by omega), sp3.1 51 (by omega) rfl, y4]
      have zf : isZ ta = false := (isZ_01 (isZ ta)).resolve_left z
      have tV3 : tV (er T3) (T3.1 26 it) := by
        have : tV (er T) (T.1 26 it) := hC.rt hit (h.mpr zf)
        have h2 := this.fe (T' := er T3) (by rw [p1]; exact fa) hC.1
        rw [sp3.1 26 (by omega) rfl]
        exact h2
      have tin : T3.1 26 it = 0 ∨ inb (T3.1 26 it) 6000 := by
        rcases tV3 with h | ⟨p, h1, h2, h3⟩
        · exact Or.inl h
        · have h3' : p < cn T3 := h3
          exact Or.inr (by rw [h1]; exact nin (by omega) (by omega))
      have trC : inb (T3.1 26 it) 6000 → ¬ T3.1 26 it = 0 → rC (T3.1 67 (T3.1 26 it).toNatClampNeg) := fun _ h0 => by
        rcases tV3 with h | ⟨p, h1, h2, h3⟩
        · exact absurd h h0
        · have h3' : p < cn T3 := h3
          rw [h1, nc (by omega)]
          exact rC2.rc (hC3.row h2 h3).2.1
      have traF : T3.1 7 0 = 0 → tF ra := fun h => by
        rw [(p3 h).1]
        exact tF.of (T := T3) (hok3 h).1 hc3
      rw [x_fit (T := T3) (nf := nf) (d := d' + 15) hC3.2.2.2.1 traF (fun _ => tin) (fun _ => trC) (by omega), bis]
      have eft : ftS T3 ra (T3.1 26 it) (plT X ta) = ftS T3 (chk X ta 0 0 (er T)).1 (T3.1 26 it) (plT X ta) := by
        by_cases g : T3.1 7 0 = 0
        · rw [(p3 g).1]
        · rw [ftS_er_bad g, ftS_er_bad g]
      rw [eft]
      have e4 : er (ftS T3 (chk X ta 0 0 (er T)).1 (T3.1 26 it) (plT X ta)) = ftS (chk X ta 0 0 (er T)).2.2.2 (chk X ta 0 0 (er T)).1 ((chk X ta 0 0 (er T)).2.2.2.1 26 it) (plT X ta) := by rw [er_ftS, p1]; rw [← p1]; rfl
      have sp4 : SP T3 (ftS T3 (chk X ta 0 0 (er T)).1 (T3.1 26 it) (plT X ta)) := SP.fe FE.ft
      have nt4 : ∀ k, anF k = true → (ftS T3 (chk X ta 0 0 (er T)).1 (T3.1 26 it) (plT X ta)).1 k = T3.1 k := fun k hk => nt_ft k hk
      have b4 : ¬ T3.1 7 0 = 0 → ¬ (ftS T3 (chk X ta 0 0 (er T)).1 (T3.1 26 it) (plT X ta)).1 7 0 = 0 := fun h => by rw [ftS_er_bad h]; exact h
      rw [← e4]
      generalize ftS T3 (chk X ta 0 0 (er T)).1 (T3.1 26 it) (plT X ta) = T4 at *
      have fm3 : Fm X T T3 lo hi a b := p2.up (by omega) (by omega) (by omega) (by omega)
      have fm4 : Fm X T T4 lo hi a b := fm3.tr (Fm.nt nt4) sp3
      refine wp_be x_stop (wp_some ⟨er_sp, fm4.tr (Fm.nt nt_sp) (sp3.tr sp4), fun q _ => ?_⟩)
      rw [sp_7] at q
      have t30 : T3.1 7 0 = 0 := by
        by_cases g : T3.1 7 0 = 0
        · exact g
        · exact absurd q (b4 g)
      rw [← y1]
      exact AnE.kp (b := c) (by omega) ta false _ c (lo + 1) hi _ _ _ _ (Nat.le_refl _) w1 (Kp.nw (sp4.toW.tr sw_sp) (fun k hk => (nt_sp k hk).trans (nt4 k hk))) (p3 t30).2
  rw [e_Model_checkReturn nf (d' + 19)]
  unfold rb_Model_checkReturn
  rw [h64]
  refine wp_gd zi ?_
  rw [ci]
  have neg52 : T.1 52 lo < 0 ↔ isZ ta = true := by
    by_cases z : isZ ta = true
    · exact ⟨fun _ => z, fun _ => by rw [(isZ_M z hR).1]; decide⟩
    · obtain ⟨w1, w2⟩ := hwf z
      obtain ⟨my, y1, y2, y3, y4, y5⟩ := RepM_nd ta _ _ _ _ _ hR w1
      exact ⟨fun h => absurd h (by rw [y1]; exact nI_pos (by omega)), fun h => absurd h z⟩
  by_cases c25 : T.1 25 it < 0
  · refine wp_t c25 ?_
    have c25' : ¬ 0 ≤ T.1 25 it := Int32.not_le.mpr c25
    unfold rj_Model_checkReturn_17
    refine wp_gd zm ?_
    rw [cm]
    by_cases c52 : T.1 52 lo < 0
    · have z := neg52.mp c52
      exact wp_t c52 (wp_t rfl (good ⟨fun h => absurd h c25', fun h => absurd z (by rw [h]; decide)⟩))
    · have z : isZ ta = false := (isZ_01 (isZ ta)).resolve_left (fun h => c52 (neg52.mpr h))
      refine wp_f c52 (wp_f (by decide) (wp_gd zm ?_))
      rw [h51]
      exact wp_be x_fail (bad8 (fun h => c25' (h.mpr z)))
  · refine wp_f c25 ?_
    have c25' : 0 ≤ T.1 25 it := Int32.not_lt.mp c25
    unfold rj_Model_checkReturn_17
    refine wp_gd zm ?_
    rw [cm]
    by_cases c52 : T.1 52 lo < 0
    · have z := neg52.mp c52
      refine wp_t c52 (wp_f (by decide) (wp_gd zm ?_))
      rw [h51]
      exact wp_be x_fail (bad8 (fun h => by have := h.mp c25'; rw [z] at this; exact absurd this (by decide)))
    · have z : isZ ta = false := (isZ_01 (isZ ta)).resolve_left (fun h => c52 (neg52.mpr h))
      exact wp_f c52 (wp_t rfl (good ⟨fun _ => z, fun _ => c25'⟩))
end RT
