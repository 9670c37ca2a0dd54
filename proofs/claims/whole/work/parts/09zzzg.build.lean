/-! a build, up to the laying out -/
def stpS (T : gSt) : gSt := sI (sI (sI (sI (sI (sI (sI (sI (sI (sI (sI (sI (sI (sI T 100 0 0) 101 0 0) 103 0 0) 104 0 0) 105 0 0) 106 0 0) 107 0 0) 108 0 0) 129 0 0) 150 0 0) 109 0 0) 123 0 0) 130 0 0) 132 0 0
def blS (T : gSt) : gSt := sI (sI (sI (sI (sI (sI (sI (sI (sI (sI (stpS T) 9 0 1) 7 0 0) 8 0 (-1)) 10 0 0) 88 0 0) 89 0 0) 90 0 0) 91 0 0) 92 0 0) 94 0 0
section BLD
variable {nf d z : Nat} {T T' S : gSt} {X : Lx} {xs : List It} {n t c a : Nat} {Q : Int32 → Int64 → gSt → Prop}
theorem stp_o (k : Nat) (h : k < 100) : (stpS T).1 k = T.1 k := by
  unfold stpS
  rw [sI_ne (by omega), sI_ne (by omega), sI_ne (by omega), sI_ne (by omega), sI_ne (by omega), sI_ne (by omega), sI_ne (by omega), sI_ne (by omega), sI_ne (by omega), sI_ne (by omega), sI_ne (by omega), sI_ne (by omega), sI_ne (by omega), sI_ne (by omega)]
theorem bl_o (k : Nat) (h : k < 88) (h1 : k ≠ 7) (h2 : k ≠ 8) (h3 : k ≠ 9) (h4 : k ≠ 10) : (blS T).1 k = T.1 k := by
  unfold blS
  rw [sI_ne (by omega), sI_ne (by omega), sI_ne (by omega), sI_ne (by omega), sI_ne (by omega), sI_ne (by omega), sI_ne (by omega), sI_ne (by omega), sI_ne (by omega), sI_ne (by omega), stp_o k (by omega)]
theorem x_stp : RR nf (d + 1) 107 T [] [] = some (0, 0, stpS T) := rfl
/-- regions lie one in another when all funs were checked, or a fault was told -/
theorem fns_ri : ∀ (xs : List It) (t c a : Nat) (S : gSt), HIs X S xs t c → ItsOk X xs a n → n ≤ 4000 → inn S = t + xs.length → (∀ q, t ≤ q → q < t + xs.length → S.1 12 q = 2 → ∃ x, xs.getD (q - t) (0, 0, [], 0, 0, 0, 0, 0, tZ) = x ∧ xK X x.1 = 12) → Tg S → cn (fnsL X xs t c S) < 6000 → Ri S → (S.1 7 0 = 0 → Ckf S) → Ri (fnsL X xs t c S) := by
  intro xs
  induction xs with
  | nil => intro t c a S _ _ _ _ _ _ _ h _; exact h
  | cons x xs ih =>
    intro t c a S hI hO hn hin hK hg hcL hRi hC
    rw [fnsL] at hcL ⊢
    by_cases c0 : S.1 7 0 = 0
    · rw [if_pos c0] at hcL ⊢
      have ck := hC c0
      obtain ⟨e, iO, iR⟩ := hO
      have hen := itz_le _ _ _ iR
      rw [List.length_cons] at hin
      by_cases c12 : S.1 12 t = 2
      · obtain ⟨x', ex, k12⟩ := hK t (Nat.le_refl _) (by rw [List.length_cons]; omega) c12
        rw [Nat.sub_self] at ex
        have ex : x = x' := ex
        subst ex
        have hY := hI.1.1
        have hOo := hI.1.2
        have eI : fnI X t c x S = fnS X t c x.2.2.1.length x.2.2.2.2.2.2.2.1 x.2.2.2.2.2.2.2.2 S := by unfold fnI; rw [if_pos c12]
        rw [eI] at hcL ⊢
        obtain ⟨a', v', g', d1, d2, d3⟩ := iO.2.2.2.2.2.2 k12
        have h24 : ∀ f, f < x.2.2.1.length → tV S (S.1 24 (c + f)) := by
          intro f hf
          obtain ⟨c', m', r', w', q1, q2, q3, q4, q5, q6, q7, q8, q9, q10, q11⟩ := ck.2.2.2.2.2 t (by omega)
          have b := hY.2.2.2.2.1
          have e1 : c' = c := nI_inj (by omega) (by omega) (q1.symm.trans hY.2.1)
          have e2 : m' = x.2.2.1.length := nI_inj (by omega) (by omega) (q2.symm.trans hY.2.2.1)
          rw [← e1]
          exact (q9 f (by omega)).1
        have tr : Trw S (fnS X t c x.2.2.1.length x.2.2.2.2.2.2.2.1 x.2.2.2.2.2.2.2.2 S) := Trw.fns
        have g1 := (tr hg).1
        have c1 : cn (fnS X t c x.2.2.1.length x.2.2.2.2.2.2.2.1 x.2.2.2.2.2.2.2.2 S) < 6000 := Nat.lt_of_le_of_lt ((fns_tr (X := X) xs (t + 1) (c + x.2.2.1.length) _).1 g1).2.1 hcL
        have si := fn_si (c := c) (w := x.2.2.2.2.2.2.2.1) ck (by omega) hY.2.2.2.1 hOo.2.1 hOo.2.2.1 h24
        have fq : FQ S (fnC t c x.2.2.1.length x.2.2.2.2.2.2.2.1 S) := FQ.nC
        have cS := (FS.fne (it := t)).lt ((st_fs (X := X) (it := t) x.2.2.2.2.2.2.2.2 0 0 0 _).tg si.1.1) c1
        have ri1 : Ri (fnS X t c x.2.2.1.length x.2.2.2.2.2.2.2.1 x.2.2.2.2.2.2.2.2 S) := by
          have r := st_ri (X := X) (it := t) x.2.2.2.2.2.2.2.2 2 a' e _ 0 v' g' 0 d2 (by omega) (by rw [Nat.zero_add]; exact Nat.le_trans d3 (by decide)) 0 0 0 0 _ (Nat.le_refl _) si (by rw [fq.1 7 (by omega) (by omega)]; exact c0) cS
          refine r.eq ?_
          unfold fnS fnE
          repeat' split
          all_goals first | rfl | exact flT_o (by omega) (by omega)
        have fck := fun h00 => fn_ck (X := X) (it := t) (c := c) (m := x.2.2.1.length) (w := x.2.2.2.2.2.2.2.1) (tt := x.2.2.2.2.2.2.2.2) ck (by omega) hY.2.2.2.1 hOo.2.1 hOo.2.2.1 h24 d2 (by omega) d3 c1 h00
        have o : ∀ k, k < 64 → k ≠ 7 → k ≠ 8 → (fnS X t c x.2.2.1.length x.2.2.2.2.2.2.2.1 x.2.2.2.2.2.2.2.2 S).1 k = S.1 k := fun k k1 k2 k3 => by
          unfold fnS
          rw [FS.fne.1 k (by omega) k2 k3, (st_fs _ 0 0 0 _).1 k (by omega) k2 k3, fq.1 k (by omega) (by omega)]
        have o2 : ∀ k, k < 72 → (fnS X t c x.2.2.1.length x.2.2.2.2.2.2.2.1 x.2.2.2.2.2.2.2.2 S).2 k = S.2 k := fun k k1 => by
          unfold fnS
          rw [FS.fne.2.1 k k1, (st_fs _ 0 0 0 _).2.1 k k1, fq.2.1 k k1]
        generalize fnS X t c x.2.2.1.length x.2.2.2.2.2.2.2.1 x.2.2.2.2.2.2.2.2 S = S1 at *
        have hin1 : inn S1 = inn S := by unfold inn; rw [o 11 (by omega) (by omega) (by omega)]
        refine ih (t + 1) (c + x.2.2.1.length) e S1 (HIs.gx o o2 _ _ _ hI.2) iR hn (by omega) ?_ g1 hcL ri1 fck
        intro q h1 h2 h3
        rw [o 12 (by omega) (by omega) (by omega)] at h3
        obtain ⟨x', e1, e2⟩ := hK q (by omega) (by rw [List.length_cons]; omega) h3
        refine ⟨x', ?_, e2⟩
        rw [show q - t = (q - (t + 1)) + 1 by omega] at e1
        exact e1
      · have eI : fnI X t c x S = S := by unfold fnI; rw [if_neg c12]
        rw [eI] at hcL ⊢
        refine ih (t + 1) (c + x.2.2.1.length) e S hI.2 iR hn (by omega) ?_ hg hcL hRi hC
        intro q h1 h2 h3
        obtain ⟨x', e1, e2⟩ := hK q (by omega) (by rw [List.length_cons]; omega) h3
        refine ⟨x', ?_, e2⟩
        rw [show q - t = (q - (t + 1)) + 1 by omega] at e1
        exact e1
    · rw [if_neg c0] at hcL ⊢
      exact hRi
theorem bld_ri (hX : LX X) (hR : RmP X xs S) (hc : cn (fnsL X xs 0 0 (hdsS X xs S)) < 6000) : Ri (fnsL X xs 0 0 (hdsS X xs S)) := by
  obtain ⟨r1, r2, r3, r4, r5, r6, r7, r8, T, eT, rP⟩ := hR
  have k0 : Ck0 (sI S 65 0 1) := ck0_65 r1 r2 r5
  have hI0 := his_65 _ _ _ r3
  have fhL := FH.hds (X := X) xs 0 0 (sI S 65 0 1)
  have fk : ∀ k, k < 65 → k ≠ 7 → k ≠ 8 → k ≠ 24 → k ≠ 26 → k ≠ 30 → (hdsS X xs S).1 k = S.1 k := fun k k1 k2 k3 k4 k5 k6 => by
    unfold hdsS
    rw [FH.mn.1 k k1 k2 k3 k4 k5 k6, fhL.1 k k1 k2 k3 k4 k5 k6, sI_ne (by omega)]
  have tgH : Tg (hdsS X xs S) := FH.mn.tg (fhL.tg k0.1)
  have c1 : cn (hdsS X xs S) < 6000 := Nat.lt_of_le_of_lt ((fns_tr (X := X) xs 0 0 _).1 tgH).2.1 hc
  have hIH : HIs X (hdsS X xs S) xs 0 0 := HIs.fh (fhL.tr FH.mn) _ _ _ hI0
  have hin : inn (hdsS X xs S) = xs.length := by unfold inn; rw [fk 11 (by omega) (by omega) (by omega) (by omega) (by omega) (by omega), r1, nc (by omega)]
  have riH : Ri (hdsS X xs S) := by
    refine r7.eq ?_
    have e : (mnS (hdsL X xs 0 0 (sI S 65 0 1))).1 74 = (hdsL X xs 0 0 (sI S 65 0 1)).1 74 := by
      unfold mnS
      split
      · rfl
      · exact flT_o (by omega) (by omega)
    unfold hdsS
    rw [e, k74_hds, sI_ne (by omega)]
  exact fns_ri (X := X) (n := xn X) xs 0 0 0 (hdsS X xs S) hIH r6 hX.1 (by omega) (fun q h1 h2 h3 => by
    rw [fk 12 (by omega) (by omega) (by omega) (by omega) (by omega) (by omega)] at h3
    have h4 : T.1 12 q = 2 := by rw [← eT] at h3; exact h3
    exact knd_12 xs 0 0 0 0 (xn X) rP r6 q h1 h2 h4) tgH hc riH (fun h7 => hds_ck r1 r2 hI0 (kn_65 _ _ r4) k0 r7 c1 h7)
/-- the reference's build of any text, up to the laying out -/
theorem x_build (hz : z ≤ 4000) (hch : ∀ j, j < z → 0 ≤ T.1 0 j ∧ T.1 0 j ≤ 255) (hnf : 8300 ≤ nf) (hd : 700 ≤ d) (h1 : T.1 1 0 = nI z) (hRi : Ri T)
    (hE : ∀ e T', pIts (xK (mkX (T.1 0) z)) 24 0 = .error e → T'.1 7 0 = 1 → T'.1 8 0 = nI (xP (mkX (T.1 0) z) e) → Ri T' → Fy (blS T) T' → wp (rj_Model_build_107 (RR nf (d + 1)) nf T') Q)
    (hO : ∀ its S T', pIts (xK (mkX (T.1 0) z)) 24 0 = .ok its → RmP (mkX (T.1 0) z) its S → (∃ T2, er T2 = S ∧ Fy (blS T) T2 ∧ RepP (mkX (T.1 0) z) T2 0 0 0 its ∧ nN T2 ≤ 8200 ∧ nU T2 ≤ 4000) → er T' = fnsL (mkX (T.1 0) z) its 0 0 (hdsS (mkX (T.1 0) z) its S) → cn T' < 6000 → T'.1 94 0 = 0 → Ri T' → (T'.1 7 0 = 0 → Ckf (er T') ∧ AnL (mkX (T.1 0) z) T' its 0 0 (hdsS (mkX (T.1 0) z) its S)) → wp (rj_Model_build_107 (RR nf (d + 1)) nf T') Q) :
    wp (RR nf (d + 2) 126 T [] []) Q := by
  have hX := LX_mk hz hch
  have sp := SPc_mk (f := T.1 0) hz
  have rm := room hX sp.1 (by rw [sp.2]; exact hz)
  rw [e_Model_build]
  unfold rb_Model_build
  rw [x_stp, bis, stK, stK, stK, stK, stK, stK, stK, stK, stK, stK]
  show wp (bi (RR nf (d + 1) 23 (blS T) [] []) _) Q
  refine x_chkA (X := mkX (T.1 0) z) hX (PI_mk hz) (xP_mk hz) hnf hd ?_ ?_ ?_ ?_ ?_ rm ?_ ?_
  · rw [bl_o 0 (by omega) (by omega) (by omega) (by omega) (by omega)]; rfl
  · rw [bl_o 1 (by omega) (by omega) (by omega) (by omega) (by omega)]; exact h1
  · unfold blS
    rw [sI_ne (by omega), sI_ne (by omega), sI_ne (by omega), sI_ne (by omega), sI_ne (by omega), sI_ne (by omega), sI_ne (by omega), sI_ne (by omega), rdI, if_pos ⟨rfl, rfl⟩]
  · unfold blS
    rw [rdI, if_pos ⟨rfl, rfl⟩]
  · exact hRi.eq (bl_o 74 (by omega) (by omega) (by omega) (by omega) (by omega))
  · intro e T' p1 p2 p3 p4
    exact hE e T' p1 p2 p3 (hRi.eq ((p4.1 74 (by omega)).trans (bl_o 74 (by omega) (by omega) (by omega) (by omega) (by omega)))) p4
  · intro its S T' p1 p2 p3 p4 p5 p6
    have cc := rm its S p1 p2
    have ri := bld_ri hX p2 cc
    rw [← p4] at cc ri
    exact hO its S T' p1 p2 p3 p4 cc p5 ri p6
end BLD
