/-! a whole build -/
/-- what a build of a text without a fault leaves: the check's last state T1, the laid-out code T2 -/
def BdO (X : Lx) (its : List It) (S T1 T' : gSt) : Prop := ∃ T2 n', LO 0 (sI (sI T1 1 0 0) 95 0 0) T2 0 n' ∧ n' ≤ 12000 ∧ T' = sI T2 10 0 1 ∧ CdL X T2 its 0 0 (hdsS X its S) 0 n' ∧ GkL X (er T1) its 0 0 (hdsS X its S) ∧ Ckf (er T1)
def BdQ (X : Lx) (T : gSt) (r : Int32) (T' : gSt) : Prop := (∃ e T1, pIts (xK X) 24 0 = .error e ∧ T1.1 7 0 = 1 ∧ T1.1 8 0 = nI (xP X e) ∧ Ri T1 ∧ Fy (blS T) T1 ∧ r = -1 ∧ T' = sI T1 1 0 0) ∨ (∃ its S T1, pIts (xK X) 24 0 = .ok its ∧ RmP X its S ∧ (∃ T2, er T2 = S ∧ Fy (blS T) T2 ∧ RepP X T2 0 0 0 its ∧ nN T2 ≤ 8200 ∧ nU T2 ≤ 4000) ∧ er T1 = fnsL X its 0 0 (hdsS X its S) ∧ cn T1 < 6000 ∧ Ri T1 ∧ T1.1 94 0 = 0 ∧ (¬ T1.1 7 0 = 0 → r = -1 ∧ T' = sI T1 1 0 0) ∧ (T1.1 7 0 = 0 → r = T1.1 11 0 ∧ BdO X its S T1 T'))
section BLX
variable {nf d z : Nat} {T T' S : gSt} {X : Lx} {xs : List It} {n t c a : Nat} {Q : Int32 → Int64 → gSt → Prop}
theorem pIts_c (hX : LX X) (h : SPc X) : ∀ (f i : Nat) (l : List It), pIts (xK X) f i = .ok l → 3 * xP X i + ccL X l ≤ 3 * xP X (xn X) := by
  intro f
  induction f with
  | zero => intro i l hh; rw [pIts] at hh; cases hh
  | succ f ih =>
    intro i l hh
    rw [pIts] at hh
    by_cases k : xK X i = 10 ∨ xK X i = 11 ∨ xK X i = 12
    · rw [if_pos k] at hh
      generalize hr : pItem (xK X) i = r at hh
      cases r with
      | error e => cases hh
      | ok y =>
        obtain ⟨x, j⟩ := y
        have p := (pItem_w hX h k hr).2
        have q := pItem_last hr
        have hj : j ≤ xn X := Decidable.byContradiction fun w => q.2 (hX.2.2.1 (j - 1) (by omega))
        have m := xP_le hX h hj (Nat.le_refl _)
        unfold fcs at p
        dsimp only at hh
        by_cases k0 : xK X j = 0
        · rw [if_pos k0] at hh
          cases hh
          show 3 * xP X i + (3 * cws X x.2.2.2.2.2.2.2.2 + 1 + 0) ≤ _
          omega
        · rw [if_neg k0] at hh
          generalize hr2 : pIts (xK X) f j = r2 at hh
          cases r2 with
          | error e => cases hh
          | ok ll =>
            have i1 := ih _ _ hr2
            cases hh
            show 3 * xP X i + (3 * cws X x.2.2.2.2.2.2.2.2 + 1 + ccL X ll) ≤ _
            omega
    · rw [if_neg k] at hh; cases hh
/-- the frame of heads and funs -/
theorem bld_fk {k : Nat} (h0 : er T' = fnsL X xs 0 0 (hdsS X xs (er T))) (k1 : k < 64) (k2 : k ≠ 7) (k3 : k ≠ 8) (k4 : k ≠ 24) (k5 : k ≠ 26) (k6 : k ≠ 30) (hk : k ≠ 48 ∧ k ≠ 60 ∧ k ≠ 61) : T'.1 k = T.1 k := by
  have a : anF k = false := by unfold anF; simp; omega
  have e1 : (er T').1 k = T'.1 k := er_i a
  have e2 : (er T).1 k = T.1 k := er_i a
  rw [← e1, h0, (FW.fns (X := X) xs 0 0 (hdsS X xs (er T))).1 k k1 k2 k3]
  unfold hdsS
  rw [FH.mn.1 k (by omega) k2 k3 k4 k5 k6, (FH.hds (X := X) xs 0 0 (sI (er T) 65 0 1)).1 k (by omega) k2 k3 k4 k5 k6, sI_ne (by omega), e2]
theorem x_bld (hz : z ≤ 4000) (hch : ∀ j, j < z → 0 ≤ T.1 0 j ∧ T.1 0 j ≤ 255) (hnf : 8300 ≤ nf) (hd : 700 ≤ d) (h1 : T.1 1 0 = nI z) (hRi : Ri T) : wp (RR nf (d + 2) 126 T [] []) (fun r _ T' => BdQ (mkX (T.1 0) z) T r T') := by
  have hX := LX_mk hz hch
  have sp := SPc_mk (f := T.1 0) hz
  refine x_build hz hch hnf hd h1 hRi ?_ ?_
  · intro e T1 p1 p2 p3 p4 p5
    unfold rj_Model_build_107
    have b : ¬ (sI T1 1 0 0).1 7 0 = 0 := by rw [sI_ne (by omega), p2]; decide
    rw [stK, x_bd1 b, bis, if_neg (by decide)]
    exact wp_some (Or.inl ⟨e, T1, p1, p2, p3, p4, p5, rfl, rfl⟩)
  · intro its S T1 p1 p2 p3 p4 p5 p6 p7 p8
    have p20 := p2
    obtain ⟨T2, e2, fy, rp, hN, hU⟩ := p3
    unfold rj_Model_build_107
    rw [stK]
    by_cases c0 : T1.1 7 0 = 0
    · have b : (sI T1 1 0 0).1 7 0 = 0 := by rw [sI_ne (by omega)]; exact c0
      rw [x_bd0 b, bis, if_pos rfl]
      obtain ⟨ck, an⟩ := p8 c0
      obtain ⟨r1, r2, r3, r4, r5, r6, r7, r8, _⟩ := p2
      have e4 := p4
      rw [← e2] at e4
      have fk : ∀ k, k < 64 → k ≠ 7 → k ≠ 8 → k ≠ 24 → k ≠ 26 → k ≠ 30 → (k ≠ 48 ∧ k ≠ 60 ∧ k ≠ 61) → T1.1 k = T2.1 k := fun k a b c d e f g => bld_fk e4 a b c d e f g
      have cf : cn (er T1) < 6000 := p5
      have of : (er T1).1 7 0 = 0 := c0
      -- heads
      have k0 : Ck0 (sI S 65 0 1) := ck0_65 r1 r2 r5
      have hI0 := his_65 _ _ _ r3
      have fhL := FH.hds (X := (mkX (T.1 0) z)) its 0 0 (sI S 65 0 1)
      have fh : ∀ k, k < 65 → k ≠ 7 → k ≠ 8 → k ≠ 24 → k ≠ 26 → k ≠ 30 → (hdsS (mkX (T.1 0) z) its S).1 k = S.1 k := fun k k1 k2 k3 k4 k5 k6 => by
        unfold hdsS
        rw [FH.mn.1 k k1 k2 k3 k4 k5 k6, fhL.1 k k1 k2 k3 k4 k5 k6, sI_ne (by omega)]
      have tgH : Tg (hdsS (mkX (T.1 0) z) its S) := FH.mn.tg (fhL.tg k0.1)
      have fwF : FW (hdsS (mkX (T.1 0) z) its S) (er T1) := by rw [p4]; exact FW.fns _ _ _ _
      have cH := fwF.lt tgH cf
      have oH := fwF.ok of
      have ckH := hds_ck r1 r2 hI0 (kn_65 _ _ r4) k0 r7 cH oH
      have hIH : HIs (mkX (T.1 0) z) (hdsS (mkX (T.1 0) z) its S) its 0 0 := HIs.fh (fhL.tr FH.mn) _ _ _ hI0
      have hin : inn (hdsS (mkX (T.1 0) z) its S) = its.length := by unfold inn; rw [fh 11 (by omega) (by omega) (by omega) (by omega) (by omega) (by omega), r1, nc (by omega)]
      have gk := gk_its (X := mkX (T.1 0) z) (n := xn (mkX (T.1 0) z)) cf of its 0 0 0 (hdsS (mkX (T.1 0) z) its S) hIH r6 hX.1 (by omega) (fun q h1 h2 h3 => by
        rw [fh 12 (by omega) (by omega) (by omega) (by omega) (by omega) (by omega)] at h3
        have h4 : T2.1 12 q = 2 := by rw [← e2] at h3; exact h3
        exact knd_12 its 0 0 0 0 (xn (mkX (T.1 0) z)) rp r6 q h1 h2 h4) (by rw [p4]; exact FS.rf.fw) ckH
      have nd2 := nd_its hN its 0 0 0 0 _ rp r6
      -- the laying out
      have room := pIts_c hX sp.1 _ _ _ p1
      have rz : xP (mkX (T.1 0) z) (xn (mkX (T.1 0) z)) ≤ 4000 := by rw [sp.2]; exact hz
      have o3 : ∀ k, k ≠ 1 → k ≠ 95 → (sI (sI T1 1 0 0) 95 0 0).1 k = T1.1 k := fun k a b => by rw [sI_ne b, sI_ne a]
      have w3 : (sI (sI T1 1 0 0) 95 0 0).2 = T1.2 := rfl
      have v3 : (sI (sI T1 1 0 0) 95 0 0).1 95 0 = nI 0 := by rw [rdI, if_pos ⟨rfl, rfl⟩]; rfl
      have an3 := AnL.eq (X := mkX (T.1 0) z) (T := T1) (T' := sI (sI T1 1 0 0) 95 0 0) (fun k a b => o3 k (by omega) (by omega)) (o3 34 (by omega) (by omega)) w3 its 0 0 _ an
      have f5 : ∀ k, 50 ≤ k → k ≤ 55 → (sI (sI T1 1 0 0) 95 0 0).1 k = T2.1 k := fun k a b => by rw [o3 k (by omega) (by omega), fk k (by omega) (by omega) (by omega) (by omega) (by omega) (by omega) (by omega)]
      have nd3 := NdL.eq (X := mkX (T.1 0) z) (T := T2) (T' := sI (sI T1 1 0 0) 95 0 0) f5 (by rw [o3 12 (by omega) (by omega), fk 12 (by omega) (by omega) (by omega) (by omega) (by omega) (by omega) (by omega)]) (by rw [o3 34 (by omega) (by omega), fk 34 (by omega) (by omega) (by omega) (by omega) (by omega) (by omega) (by omega)]) its 0 nd2
      have e11 : T1.1 11 0 = nI its.length := by
        rw [fk 11 (by omega) (by omega) (by omega) (by omega) (by omega) (by omega) (by omega)]
        rw [← e2] at r1
        exact r1
      have hE : EqF (sI (sI T1 1 0 0) 95 0 0) (er T1) := ⟨by rw [o3 65 (by omega) (by omega)]; rfl, by rw [o3 69 (by omega) (by omega)]; rfl, by rw [o3 11 (by omega) (by omega)]; rfl⟩
      have hP : LyP (sI (sI T1 1 0 0) 95 0 0) 0 0 := ⟨by rw [o3 94 (by omega) (by omega)]; exact p6, v3, by unfold nU at hU ⊢; rw [o3 45 (by omega) (by omega), fk 45 (by omega) (by omega) (by omega) (by omega) (by omega) (by omega) (by omega)]; exact hU, by unfold inn; rw [o3 11 (by omega) (by omega), e11, nc (by omega)]; exact r2, by unfold cn at p5 ⊢; rw [o3 65 (by omega) (by omega)]; omega⟩
      have h12 : ∀ q, (sI (sI T1 1 0 0) 95 0 0).1 12 q = (hdsS (mkX (T.1 0) z) its S).1 12 q := fun q => by
        rw [o3 12 (by omega) (by omega), fk 12 (by omega) (by omega) (by omega) (by omega) (by omega) (by omega) (by omega), fh 12 (by omega) (by omega) (by omega) (by omega) (by omega) (by omega), ← e2]
        rfl
      have go := l_lay (X := mkX (T.1 0) z) (nf := nf) (d := d) hX.1 hnf cf (by omega) (Nat.le_refl (xn (mkX (T.1 0) z))) its 0 0 0 _ _ 0 nf (by rw [o3 11 (by omega) (by omega), e11, Nat.zero_add]) (by omega) an3 nd3 gk r6 h12 hE hP (by omega) (by omega)
      obtain ⟨r, v, T3, e3, n', g1, g2, g3⟩ := go
      rw [e_Model_layOut]
      unfold rb_Model_layOut
      rw [stK]
      rw [show (0 : Int32) = nI 0 from rfl] at e3 ⊢
      rw [e3, bis, stK]
      refine wp_some (Or.inr ⟨its, S, T1, p1, p20, ⟨T2, e2, fy, rp, hN, hU⟩, p4, p5, p7, p6, fun h => absurd c0 h, fun _ => ⟨?_, T3, n', g1, by omega, rfl, g3, gk, ck⟩⟩)
      rw [sI_ne (by omega), g1.2.2.1 11 (by omega) (by omega) (by omega), o3 11 (by omega) (by omega)]
    · have b : ¬ (sI T1 1 0 0).1 7 0 = 0 := by rw [sI_ne (by omega)]; exact c0
      rw [x_bd1 b, bis, if_neg (by decide)]
      exact wp_some (Or.inr ⟨its, S, T1, p1, p20, ⟨T2, e2, fy, rp, hN, hU⟩, p4, p5, p7, p6, fun _ => ⟨rfl, rfl⟩, fun h => absurd h c0⟩)
end BLX
