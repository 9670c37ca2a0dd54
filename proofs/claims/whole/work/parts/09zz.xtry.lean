/-! try: checkTry 84 -/
section XM
variable {nf d fl : Nat} {T T' T1 S : gSt} {X : Lx} {k i e it lo hi a b v g v' g' v1 g1 n s p m c c1 j : Nat} {x ys no x2 : Int32} {ta tb sa sb t : Tr}
theorem Nw.wr {y : Int32} (h : 71 ≤ k ∧ k ≤ 92) : Nw T (sI T k j y) := ⟨⟨fun q q1 _ _ => sI_ne (by omega), fun _ _ => rfl⟩, fun q hq => sI_ne (by
  unfold anF at hq
  simp only [Bool.or_eq_true, beq_iff_eq] at hq
  omega)⟩
theorem Nw.tr (h : Nw T T') (h2 : Nw T' T1) : Nw T T1 := ⟨h.1.tr h2.1, fun k hk => (h2.2 k hk).trans (h.2 k hk)⟩
theorem Kp.t61 (h : m < lo ∨ hi ≤ m) : Kp X T (sI T 61 m x) lo hi a b := ⟨(SP.an rfl).toW.toX, fun j _ _ => ⟨by rw [sI_ne (by omega)], by rw [rdI, if_neg (fun w => by omega)]⟩, fun u _ _ _ _ => by rw [sI_ne (by omega)]⟩
/-- behind the first BLOCK -/
def tyT (nf d : Nat) (m : Nat) (T T12 : gSt) (y0 : Int32) : gR := gd (T.1 83 0 = 0 ∨ T.1 83 0 = 1) <| stK (sI (rsS T12 (T.1 81 0) y0 (T.1 75 0) (T.1 83 0)) 87 0 ((rsS T12 (T.1 81 0) y0 (T.1 75 0) (T.1 83 0)).1 87 0 + 1)) fun T23 => gd (inb (nI m) 8200) <| stK (sI T23 61 (nI m).toNatClampNeg (T23.1 87 0)) fun T24 => gd (inb (nI m) 8200) <| bi (RR nf d 68 T24 [T24.1 53 (nI m).toNatClampNeg] []) fun _ _ T26 => stK (sI T26 87 0 ((T26.1 87 0) - 1)) fun T27 => bi (RR nf d 14 T27 [] []) fun r28 _ T28 => if r28 = (0 : Int32) then (gd (inb (nI m) 8200) <| bi (RR nf d 78 T28 [T12.1 81 0, T12.1 82 0, T12.1 75 0, T12.1 83 0, T28.1 51 (nI m).toNatClampNeg] []) fun _ _ T31 => some (0, 0, T31)) else (some (0, 0, T28))
theorem ty_tail {y0 : Int32} : rj_Model_checkTry_128 (RR nf d) nf (sI T1 81 0 (T.1 81 0)) (nI m) (T.1 75 0) (T.1 83 0) (T1.1 81 0) (T1.1 82 0) (T1.1 75 0) (T1.1 83 0) y0 = tyT nf d m T T1 y0 := rfl
/-- the second BLOCK of a try -/
theorem x_ty2 {U : gSt} {y0 : Int32} (hX : xn X ≤ 4000) (hB : CkB nf X it tb) (hlc : lo < c) (hhi : hi ≤ 8200) (h51 : T1.1 51 lo = nI (xP X i)) (h83 : T.1 83 0 = 0 ∨ T.1 83 0 = 1) (u83 : T1.1 83 0 = 0 ∨ T1.1 83 0 = 1) (hR : RepS X T1 tb c c hi (T1.1 53 lo)) (wb : Ws X tb 2 c1 b v g v' g') (hac : a ≤ c1) (hbx : b ≤ xn X) (hP : Pre it T1 n v g s) (hch : c ≤ hi) (hN : n + bdT tb ≤ 41) (hs : s + (hi - lo) ≤ 8200) (hd : 3 * bdT tb + 300 ≤ d) (eU : U = sI (rsS (er T1) (T.1 81 0) y0 (T.1 75 0) (T.1 83 0)) 87 0 ((rsS (er T1) (T.1 81 0) y0 (T.1 75 0) (T.1 83 0)).1 87 0 + 1)) (hc : cn (stS X it tb 0 0 0 U) < 6000) : wp (tyT nf d lo T T1 y0) (fun _ _ T' => er T' = (if (sI (stS X it tb 0 0 0 U) 87 0 ((stS X it tb 0 0 0 U).1 87 0 - 1)).1 7 0 = 0 then mtS (sI (stS X it tb 0 0 0 U) 87 0 ((stS X it tb 0 0 0 U).1 87 0 - 1)) ((er T1).1 81 0) ((er T1).1 82 0) ((er T1).1 75 0) ((er T1).1 83 0) (nI (xP X i)) else sI (stS X it tb 0 0 0 U) 87 0 ((stS X it tb 0 0 0 U).1 87 0 - 1)) ∧ Fm X T1 T' lo hi a b ∧ SPw T1 T' ∧ (∀ q, lo < q → q < c → T'.1 60 q = T1.1 60 q ∧ T'.1 61 q = T1.1 61 q) ∧ (∀ w, T'.1 48 w = T1.1 48 w ∨ ∃ q, c1 ≤ q ∧ q < b ∧ T1.1 47 w = nI (xP X q)) ∧ (T'.1 7 0 = 0 → T'.1 61 lo = U.1 87 0 ∧ AnS X it T' tb c c hi (T1.1 53 lo) 0 0 U)) := by
  obtain ⟨d', rfl⟩ : ∃ z, d = z + 2 := ⟨d - 2, by omega⟩
  have zm : inb (nI lo) 8200 := nin (by omega) (by omega)
  have cm : (nI lo).toNatClampNeg = lo := nc (by omega)
  have mo := Ws_mo _ _ _ _ _ _ _ _ wb
  unfold tyT
  refine wp_gd h83 (wp_st (wp_gd zm (wp_st (wp_gd zm ?_))))
  rw [cm]
  have nV : Nw T1 (sI (rsS T1 (T.1 81 0) y0 (T.1 75 0) (T.1 83 0)) 87 0 ((rsS T1 (T.1 81 0) y0 (T.1 75 0) (T.1 83 0)).1 87 0 + 1)) := (Nw.fo FO.rs).tr (Nw.wr (by omega))
  have eV : er (sI (rsS T1 (T.1 81 0) y0 (T.1 75 0) (T.1 83 0)) 87 0 ((rsS T1 (T.1 81 0) y0 (T.1 75 0) (T.1 83 0)).1 87 0 + 1)) = U := by
    rw [er_w rfl, er_rs, eU]
    rfl
  have zV : (sI (rsS T1 (T.1 81 0) y0 (T.1 75 0) (T.1 83 0)) 87 0 ((rsS T1 (T.1 81 0) y0 (T.1 75 0) (T.1 83 0)).1 87 0 + 1)).1 7 0 = 0 := by
    rw [sI_ne (by omega), rs_7]
    exact hP.2.2.2.2.2.2
  have sV : SK (er T1) U v g n := by
    rw [eU]
    exact hP.1.fo (FO.rs.tr (FO.wr (by omega))) (by rw [sI_ne (by omega), rs_83]; exact h83)
  have vU : (sI (rsS T1 (T.1 81 0) y0 (T.1 75 0) (T.1 83 0)) 87 0 ((rsS T1 (T.1 81 0) y0 (T.1 75 0) (T.1 83 0)).1 87 0 + 1)).1 87 0 = U.1 87 0 := by
    rw [← eV]
    rfl
  generalize sI (rsS T1 (T.1 81 0) y0 (T.1 75 0) (T.1 83 0)) 87 0 ((rsS T1 (T.1 81 0) y0 (T.1 75 0) (T.1 83 0)).1 87 0 + 1) = V at *
  rw [vU]
  have eW : er (sI V 61 lo (U.1 87 0)) = U := by rw [er_a rfl]; exact eV
  have swW : SPw T1 (sI V 61 lo (U.1 87 0)) := nV.1.tr (SP.an rfl).toW
  have zW : (sI V 61 lo (U.1 87 0)).1 7 0 = 0 := by rw [sI_ne (by omega)]; exact zV
  have w61 : ∀ q, (sI V 61 lo (U.1 87 0)).1 61 q = if q = lo then U.1 87 0 else T1.1 61 q := by
    intro q
    rw [sI_at, nV.2 61 rfl]
    rfl
  have w60 : (sI V 61 lo (U.1 87 0)).1 60 = T1.1 60 := by rw [sI_ne (by omega), nV.2 60 rfl]
  have w48 : (sI V 61 lo (U.1 87 0)).1 48 = T1.1 48 := by rw [sI_ne (by omega), nV.2 48 rfl]
  have fmW : Fm X T1 (sI V 61 lo (U.1 87 0)) lo hi a b := (nV.fm).trw (Fm.fd (by omega) (by omega)) nV.1
  generalize sI V 61 lo (U.1 87 0) = W at *
  have hPW : Pre it W n v g s := hP.st fmW swW (by rw [eW]; exact sV.1) zW
  have hRW : RepS X W tb c c hi (T1.1 53 lo) := hR.sw swW (fun q h1 h2 => by rw [w61, if_neg (by omega)])
  rw [swW.1 53 (by omega) (by omega) rfl]
  refine wp_bi (hB W (d' + 2) c hi c1 b v g v' g' n s (T1.1 53 lo) hRW hhi wb hbx hPW hN (by omega) hd (by rw [eW]; exact hc)) ?_
  intro r l Y hQ
  have eY : er Y = stS X it tb 0 0 0 U := by rw [hQ.1, eW]
  have swY : SPw T1 Y := swW.tr hQ.sw
  have fmY : Fm X T1 Y lo hi a b := fmW.trw (hQ.2.1.up (by omega) (by omega) (by omega) (by omega)) swW
  refine wp_st ?_
  have nZ : Nw Y (sI Y 87 0 (Y.1 87 0 - 1)) := Nw.wr (by omega)
  have eZ : er (sI Y 87 0 (Y.1 87 0 - 1)) = sI (stS X it tb 0 0 0 U) 87 0 ((stS X it tb 0 0 0 U).1 87 0 - 1) := by
    rw [er_w rfl, eY]
    have : Y.1 87 0 = (stS X it tb 0 0 0 U).1 87 0 := by rw [← eY]; rfl
    rw [this]
  have z7 : (sI Y 87 0 (Y.1 87 0 - 1)).1 7 0 = Y.1 7 0 := by rw [sI_ne (by omega)]
  rw [← eZ]
  generalize sI Y 87 0 (Y.1 87 0 - 1) = Z at *
  have fin : ∀ F : gSt, Nw Z F → F.1 7 0 = 0 ∨ True → (F.1 7 0 = 0 → Y.1 7 0 = 0) → (Fm X T1 F lo hi a b ∧ SPw T1 F ∧ (∀ q, lo < q → q < c → F.1 60 q = T1.1 60 q ∧ F.1 61 q = T1.1 61 q) ∧ (∀ w, F.1 48 w = T1.1 48 w ∨ ∃ q, c1 ≤ q ∧ q < b ∧ T1.1 47 w = nI (xP X q)) ∧ (F.1 7 0 = 0 → F.1 61 lo = U.1 87 0 ∧ AnS X it F tb c c hi (T1.1 53 lo) 0 0 U)) := by
    intro F nF _ h7
    have nYF := nZ.tr nF
    refine ⟨fmY.trw nYF.fm swY, swY.tr nYF.1, fun q h1 h2 => ?_, fun w => ?_, fun q => ⟨?_, ?_⟩⟩
    · rw [nYF.2 60 rfl, nYF.2 61 rfl, (hQ.2.1.1 q (by omega)).1, (hQ.2.1.1 q (by omega)).2, w60, w61, if_neg (by omega)]
      exact ⟨rfl, rfl⟩
    · rw [nYF.2 48 rfl]
      rcases hQ.2.1.2.1 w with z | ⟨q, q1, q2, q3⟩
      · left; rw [z, w48]
      · right
        rw [swW.1 47 (by omega) (by omega) rfl] at q3
        exact ⟨q, q1, q2, q3⟩
    · rw [nYF.2 61 rfl, (hQ.2.1.1 lo (by omega)).2, w61, if_pos rfl]
    · have an := hQ.2.2 (h7 q)
      rw [eW] at an
      exact AnS.kp tb _ _ _ _ _ _ _ _ _ _ _ _ _ _ wb hbx nYF.kp an
  by_cases c0 : Z.1 7 0 = 0
  · have c0' : (er Z).1 7 0 = 0 := c0
    rw [if_pos c0']
    have p51 : Z.1 51 lo = nI (xP X i) := by rw [(nZ.1).1 51 (by omega) (by omega) rfl, swY.1 51 (by omega) (by omega) rfl]; exact h51
    refine wp_be (x_bd0 c0) (wp_t rfl (wp_gd zm ?_))
    rw [p51]
    exact wp_be (x_meet u83) (wp_some ⟨er_mt, fin _ (Nw.fo FO.mt) (Or.inr trivial) (fun _ => z7.symm.trans c0)⟩)
  · have c0' : ¬ (er Z).1 7 0 = 0 := c0
    rw [if_neg c0']
    exact wp_be (x_bd1 c0) (wp_f (by decide) (wp_some ⟨rfl, fin Z ⟨⟨fun _ _ _ _ => rfl, fun _ _ => rfl⟩, fun _ _ => rfl⟩ (Or.inr trivial) (fun q => z7.symm.trans q)⟩))
end XM
