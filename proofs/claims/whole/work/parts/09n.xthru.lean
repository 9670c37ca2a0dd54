/-! through a pointer -/
section XT
variable {nf d : Nat} {T T' : gSt} {X : Lx} {m n p u i l : Nat} {x y t r s kd pl pn : Int32} {nm : Int64} {z : T5}
theorem x_bd0 (h : T.1 7 0 = 0) : RR nf (d + 1) 14 T [] [] = some (0, 0, T) := q_bad0 h
theorem x_bd1 (h : ¬ T.1 7 0 = 0) : RR nf (d + 1) 14 T [] [] = some (1, 0, T) := q_bad1 h
theorem tR.ok (h : tR (er T) s) : tOk (cn T) s := by
  rcases h with h | h | h | ⟨p, e, p1, p2⟩
  · left; rw [h]; decide
  · left; rw [h]; decide
  · left; rw [h]; decide
  · right; exact ⟨p, e, p1, p2⟩
theorem er_dOk : ∀ (f : Nat) (x : Int32), dOk (er T) f x → dOk T f x := by
  intro f
  induction f with
  | zero => intro x h; exact h
  | succ f ih =>
    intro x h hx
    obtain ⟨p, e, h1, h2, h3⟩ := h hx
    refine ⟨p, e, h1, h2, ?_⟩
    have e69 : (er T).1 69 p = T.1 69 p := rfl
    have e68 : (er T).1 68 p = T.1 68 p := rfl
    rw [e69, e68] at h3
    by_cases c : 0 ≤ T.1 69 p
    · rw [if_pos c] at h3 ⊢
      exact h3
    · rw [if_neg c] at h3 ⊢
      exact ih _ h3
abbrev ThQ (T : gSt) (kd s : Int32) (nm : Int64) (pl pn : Int32) (m : Nat) (r : Int32) (T' : gSt) : Prop := er T' = (thC (er T) kd s nm pl pn).2.2 ∧ A1 T T' m ∧ (T'.1 7 0 = 0 → r = (thC (er T) kd s nm pl pn).1 ∧ (kd ≠ 16 → T'.1 61 m = (thC (er T) kd s nm pl pn).2.1))
theorem x_th (hC : Ck (er T)) (hnf : 6000 ≤ nf) (hm : m < 8200) (hl : l < 8200) (h50 : T.1 50 m = kd) (hk : kd = 14 ∨ kd = 16 ∨ kd = 17) (h52 : T.1 52 m = nI l) (h60 : T.1 60 l = s) (h51 : T.1 51 l = pl) (h56 : kd ≠ 16 → T.2 56 m = nm ∧ T.1 57 m = pn) (hs : tR (er T) s) (hb : T.1 7 0 = 0) (hc : cn (thC (er T) kd s nm pl pn).2.2 < 6000) : wp (RR nf (d + 11) 89 T [nI m] []) (fun r _ T' => ThQ T kd s nm pl pn m r T') := by
  have zm : inb (nI m) 8200 := nin (by omega) (by omega)
  have cm : (nI m).toNatClampNeg = m := nc (by omega)
  have zl : inb (nI l) 8200 := nin (by omega) (by omega)
  have cl : (nI l).toNatClampNeg = l := nc (by omega)
  have hg : Tg T := hC.1
  have hc0 : cn T < 6000 := (FE.th (T := er T) (r := kd) (s := s) (nm := nm) (x := pl) (y := pn)).lt hC.1 hc
  have ht : tOk (cn T) s := hs.ok
  -- behind a fault
  have j156b : ∀ (S : gSt) (a : Int32), ¬ S.1 7 0 = 0 → wp (rj_Model_checkThrough_156 (RR nf (d + 10)) nf S (nI m) s a) (fun r _ T' => T' = S) := by
    intro S a hS
    unfold rj_Model_checkThrough_156
    refine wp_be (x_bd1 hS) ?_
    exact wp_f (by decide) (wp_some rfl)
  have j238b : ∀ (S : gSt) (a b : Int32), ¬ S.1 7 0 = 0 → wp (rj_Model_checkThrough_238 (RR nf (d + 10)) nf S (nI m) s a b) (fun r _ T' => T' = S) := by
    intro S a b hS
    unfold rj_Model_checkThrough_238
    refine wp_be (x_bd1 hS) ?_
    exact wp_f (by decide) (wp_some rfl)
  -- it isn't right
  have bad4 : thOk (er T) kd s = false → ∀ a, wp (rj_Model_checkThrough_103 (RR nf (d + 10)) nf T (nI m) s a 0) (fun r _ T' => ThQ T kd s nm pl pn m r T') := by
    intro hno a
    unfold rj_Model_checkThrough_103
    refine wp_t rfl (wp_gd zm ?_)
    rw [cm, h52]
    refine wp_gd zl ?_
    rw [cl, h51]
    refine wp_be x_fail ?_
    refine wp_mono (j156b _ a (flT_bad (by decide))) ?_
    rintro r _ T' rfl
    unfold ThQ thC
    rw [if_neg (by rw [hno]; decide)]
    exact ⟨er_fl, A1.fl, fun q => absurd q (flT_bad (by decide))⟩
  -- it is right
  have good : ∀ (a : Int32), thOk (er T) kd s = true → (a = 0 ↔ kd = 16) → ¬ s ≤ 0 → wp (rj_Model_checkThrough_103 (RR nf (d + 10)) nf T (nI m) s a 1) (fun r _ T' => ThQ T kd s nm pl pn m r T') := by
    intro a hok ha hpos
    obtain ⟨p, rfl, p1, p2⟩ := hs.pos hpos
    have p2' : p < cn T := p2
    have zp : inb (nI p) 6000 := nin (by omega) (by omega)
    have cp : (nI p).toNatClampNeg = p := nc (by omega)
    have rw0 := hC.row p1 p2
    unfold ThQ
    unfold thC at hc ⊢
    simp only [if_pos hok] at hc ⊢
    unfold rj_Model_checkThrough_103
    refine wp_f (by decide) (wp_gd zp ?_)
    rw [cp]
    refine wp_be x_isLv ?_
    have e67 : tf (er T) 67 (nI p) = T.1 67 p := by unfold tf; rw [cp]; rfl
    have e66 : tf (er T) 66 (nI p) = T.1 66 p := by unfold tf; rw [cp]; rfl
    have e68 : tf (er T) 68 (nI p) = T.1 68 p := by unfold tf; rw [cp]; rfl
    have e69 : tf (er T) 69 (nI p) = T.1 69 p := by unfold tf; rw [cp]; rfl
    have e70 : tf (er T) 70 (nI p) = T.1 70 p := by unfold tf; rw [cp]; rfl
    rw [e67, er_isLv] at hc ⊢
    by_cases c2 : isLv T (T.1 67 p) = 0
    · simp only [if_pos c2] at hc ⊢
      refine wp_gd zm ?_
      rw [cm, h52]
      refine wp_gd zl ?_
      rw [cl, h51]
      refine wp_be x_fail ?_
      refine wp_mono (j156b _ a (flT_bad (by decide))) ?_
      rintro r _ T' rfl
      exact ⟨er_fl, A1.fl, fun q => absurd q (flT_bad (by decide))⟩
    simp only [if_neg c2] at hc ⊢
    unfold rj_Model_checkThrough_156
    refine wp_be (x_bd0 hb) (wp_t rfl (wp_gd zp ?_))
    rw [cp]
    have hnu : ∀ v : Int32, v = (if T.1 66 p = 2 then 1 else 0) → er (sI T 88 0 (T.1 88 0 + v)) = nuS (er T) (nI p) := by
      intro v hv
      unfold nuS
      rw [er_w rfl, e66, hv]
      rfl
    have main : ∀ v : Int32, v = (if T.1 66 p = 2 then 1 else 0) → wp (rj_Model_checkThrough_185 (RR nf (d + 10)) nf T (nI m) (nI p) a v (T.1 88 0)) (fun r _ T' => er T' = (if kd = 16 then (tf (er T) 68 (nI p), (0 : Int32), nuS (er T) (nI p)) else if 0 ≤ fnF (er T) (tf (er T) 69 (nI p)) nm then (if kd = 17 then (0, fnF (er T) (tf (er T) 69 (nI p)) nm, nuS (er T) (nI p)) else ((chT 7 (tgS (nuS (er T) (nI p)) (tf (er T) 69 (nI p))) (fty (er T) (tf (er T) 69 (nI p)) (fnF (er T) (tf (er T) 69 (nI p)) nm)) (tf (er T) 70 (nI p))).1, fnF (er T) (tf (er T) 69 (nI p)) nm, (chT 7 (tgS (nuS (er T) (nI p)) (tf (er T) 69 (nI p))) (fty (er T) (tf (er T) 69 (nI p)) (fnF (er T) (tf (er T) 69 (nI p)) nm)) (tf (er T) 70 (nI p))).2)) else (0, 0, flT (nuS (er T) (nI p)) 3 pn)).2.2 ∧ A1 T T' m ∧ (T'.1 7 0 = 0 → r = (if kd = 16 then (tf (er T) 68 (nI p), (0 : Int32), nuS (er T) (nI p)) else if 0 ≤ fnF (er T) (tf (er T) 69 (nI p)) nm then (if kd = 17 then (0, fnF (er T) (tf (er T) 69 (nI p)) nm, nuS (er T) (nI p)) else ((chT 7 (tgS (nuS (er T) (nI p)) (tf (er T) 69 (nI p))) (fty (er T) (tf (er T) 69 (nI p)) (fnF (er T) (tf (er T) 69 (nI p)) nm)) (tf (er T) 70 (nI p))).1, fnF (er T) (tf (er T) 69 (nI p)) nm, (chT 7 (tgS (nuS (er T) (nI p)) (tf (er T) 69 (nI p))) (fty (er T) (tf (er T) 69 (nI p)) (fnF (er T) (tf (er T) 69 (nI p)) nm)) (tf (er T) 70 (nI p))).2)) else (0, 0, flT (nuS (er T) (nI p)) 3 pn)).1 ∧ (kd ≠ 16 → T'.1 61 m = (if kd = 16 then (tf (er T) 68 (nI p), (0 : Int32), nuS (er T) (nI p)) else if 0 ≤ fnF (er T) (tf (er T) 69 (nI p)) nm then (if kd = 17 then (0, fnF (er T) (tf (er T) 69 (nI p)) nm, nuS (er T) (nI p)) else ((chT 7 (tgS (nuS (er T) (nI p)) (tf (er T) 69 (nI p))) (fty (er T) (tf (er T) 69 (nI p)) (fnF (er T) (tf (er T) 69 (nI p)) nm)) (tf (er T) 70 (nI p))).1, fnF (er T) (tf (er T) 69 (nI p)) nm, (chT 7 (tgS (nuS (er T) (nI p)) (tf (er T) 69 (nI p))) (fty (er T) (tf (er T) 69 (nI p)) (fnF (er T) (tf (er T) 69 (nI p)) nm)) (tf (er T) 70 (nI p))).2)) else (0, 0, flT (nuS (er T) (nI p)) 3 pn)).2.1))) := by
      intro v hv
      have eN := hnu v hv
      unfold rj_Model_checkThrough_185
      refine wp_st ?_
      by_cases c3 : kd = 16
      · simp only [if_pos c3]
        refine wp_t (ha.mpr c3) (wp_gd zp ?_)
        rw [cp, sI_ne (by omega)]
        exact wp_some ⟨eN, A1.wr (by omega), fun _ => ⟨e68.symm, fun q => absurd c3 q⟩⟩
      simp only [if_neg c3] at hc ⊢
      obtain ⟨h56a, h57a⟩ := h56 c3
      refine wp_f (fun q => c3 (ha.mp q)) (wp_gd zp ?_)
      unfold thOk at hok
      rw [if_neg c3] at hok
      have hok' := of_decide_eq_true hok
      obtain ⟨p', u, q1, q2, q3, q4, u1, u2, h9⟩ := td_row hC hs hc0 hok'.1
      have q3' : p' < cn T := q3
      have epp : p' = p := (nI_inj (by omega) (by omega) q1).symm
      subst epp
      have u1' : T.1 69 p' = nI u := u1
      rw [cp, sI_ne (g' := 69) (by omega), u1']
      refine wp_v (wp_gd zm ?_)
      have h24 : inn T ≤ 24 := hC.2.2.2.2.1.2.1
      have u2' : u < inn T := u2
      obtain ⟨c, mm, rr, w', b1, b2, b3, b4, b5, b6, b7, b8, b9, b10, b11⟩ := hC.2.2.2.2.1.2.2 u u2
      have cu : (nI u).toNatClampNeg = u := nc (by omega)
      have zu : inb (nI u) 24 := nin (by omega) (by omega)
      have efn : fnF (er T) (nI u) nm = ff (isFi T c nm) 0 mm := by
        unfold fnF
        rw [cu, b1, b2, nc (by omega), nc (by omega)]
        rfl
      rw [cm, sI_j, h56a]
      have b1' : T.1 18 u = nI c := b1
      have b2' : T.1 19 u = nI mm := b2
      refine wp_be (x_fld (T := sI T 88 0 (T.1 88 0 + v)) (w := nm) (by omega) (by rw [sI_ne (by omega)]; exact b1') (by rw [sI_ne (by omega)]; exact b2') b4 (by omega)) ?_
      have eff : ff (isFi (sI T 88 0 (T.1 88 0 + v)) c nm) 0 mm = fnF (er T) (nI u) nm := by
        rw [efn]
        rfl
      rw [eff]
      rw [e69, u1', e70] at hc ⊢
      by_cases c4 : 0 ≤ fnF (er T) (nI u) nm
      · simp only [if_pos c4] at hc ⊢
        obtain ⟨c', m', j, f1, f2, f3, f4, f5, f6, f7, f8⟩ := fld_ok hC hc0 u2 c4
        have ecc : c' = c := nI_inj (by omega) (by omega) (f1.symm.trans b1)
        subst ecc
        unfold rj_Model_checkThrough_238
        refine wp_be (x_bd0 (by rw [sI_ne (by omega)]; exact hb)) (wp_t rfl (wp_gd zm ?_))
        rw [cm]
        refine wp_st (wp_gd zm ?_)
        rw [sI_ne (g' := 50) (by omega), sI_ne (g' := 50) (by omega), h50]
        have eN2 : er (sI (sI T 88 0 (T.1 88 0 + v)) 61 m (fnF (er T) (nI u) nm)) = nuS (er T) (nI p') := by rw [er_a rfl, eN]
        by_cases c5 : kd = 17
        · simp only [if_pos c5]
          exact wp_some ⟨eN2, (A1.wr (by omega)).tr A1.fd, fun _ => ⟨rfl, fun _ => sI_v⟩⟩
        simp only [if_neg c5] at hc ⊢
        refine wp_gd zu ?_
        rw [cu, sI_ne (g' := 12) (by omega), sI_ne (g' := 12) (by omega), sI_ne (g' := 90) (by omega), sI_ne (g' := 90) (by omega)]
        have tail : ∀ v2 : Int32, v2 = (if T.1 12 u = 1 then 1 else 0) → wp (rj_Model_checkThrough_289 (RR nf (d + 10)) nf (sI (sI T 88 0 (T.1 88 0 + v)) 61 m (fnF (er T) (nI u) nm)) (nI p') (nI u) (fnF (er T) (nI u) nm) v2 (T.1 90 0)) (fun r _ T' => er T' = (chT 7 (tgS (nuS (er T) (nI p')) (nI u)) (fty (er T) (nI u) (fnF (er T) (nI u) nm)) (T.1 70 p')).2 ∧ A1 T T' m ∧ (T'.1 7 0 = 0 → r = (chT 7 (tgS (nuS (er T) (nI p')) (nI u)) (fty (er T) (nI u) (fnF (er T) (nI u) nm)) (T.1 70 p')).1 ∧ (kd ≠ 16 → T'.1 61 m = fnF (er T) (nI u) nm))) := by
          intro v2 hv2
          have eT : er (sI (sI (sI T 88 0 (T.1 88 0 + v)) 61 m (fnF (er T) (nI u) nm)) 90 0 (T.1 90 0 + v2)) = tgS (nuS (er T) (nI p')) (nI u) := by
            rw [er_w rfl, eN2]
            unfold tgS
            rw [cu, hv2]
            unfold nuS
            rw [sI_ne (g' := 90) (by omega), sI_ne (g' := 12) (by omega)]
            rfl
          have aT : A1 T (sI (sI (sI T 88 0 (T.1 88 0 + v)) 61 m (fnF (er T) (nI u) nm)) 90 0 (T.1 90 0 + v2)) m := ((A1.wr (by omega)).tr A1.fd).tr (A1.wr (by omega))
          have o : ∀ g, g ≠ 88 → g ≠ 61 → g ≠ 90 → (sI (sI (sI T 88 0 (T.1 88 0 + v)) 61 m (fnF (er T) (nI u) nm)) 90 0 (T.1 90 0 + v2)).1 g = T.1 g := fun g a b c => by rw [sI_ne c, sI_ne b, sI_ne a]
          have o61 : (sI (sI (sI T 88 0 (T.1 88 0 + v)) 61 m (fnF (er T) (nI u) nm)) 90 0 (T.1 90 0 + v2)).1 61 m = fnF (er T) (nI u) nm := by rw [sI_ne (by omega), sI_v]
          unfold rj_Model_checkThrough_289
          refine wp_st ?_
          generalize sI (sI (sI T 88 0 (T.1 88 0 + v)) 61 m (fnF (er T) (nI u) nm)) 90 0 (T.1 90 0 + v2) = S at *
          refine wp_gd zu ?_
          rw [cu, o 18 (by omega) (by omega) (by omega), b1', f5, nI_add]
          refine wp_gd (nin (by omega) (by omega)) (wp_gd zp ?_)
          rw [cp, nc (by omega), o 24 (by omega) (by omega) (by omega), o 70 (by omega) (by omega) (by omega)]
          rw [f5, f6] at hc
          have hS : Ck (er S) := by
            rw [eT]
            exact (hC.nu hc0).tg2 (by rw [cn_nu]; exact hc0)
          have hF : FE (er T) (er S) := by
            rw [eT]
            exact FE.nu.tr FE.tg2
          have hcS : cn (chT 7 S (T.1 24 (c' + j)) (T.1 70 p')).2 < 6000 := by
            have := (er_chT (w := T.1 70 p') 7 S (T.1 24 (c' + j))).2
            rw [eT] at this
            rw [← er_cn, ← this]
            exact hc
          have gS : Tg S := hS.1
          have hcS0 : cn S < 6000 := cn_ch_lt gS hcS
          have f8' : dOk (er S) 7 (T.1 24 (c' + j)) := f8.fe hF hC.1 hcS0
          have hd : dOk S 7 (T.1 24 (c' + j)) := er_dOk _ _ f8'
          refine wp_be (x_chg hnf 7 (d + 1) S _ hd gS hcS) ?_
          rw [f6]
          refine wp_some ⟨?_, aT.tr A1.ch, fun _ => ⟨?_, fun _ => ?_⟩⟩
          · rw [← (er_chT 7 S _).2, eT]
            rfl
          · rw [← (er_chT 7 S _).1, eT]
            rfl
          · rw [chT_o (by omega), o61, f5]
        by_cases c6 : T.1 12 u = 1
        · exact wp_t c6 (tail 1 (by rw [if_pos c6]))
        · exact wp_f c6 (tail 0 (by rw [if_neg c6]))
      · simp only [if_neg c4] at hc ⊢
        refine wp_gd zm ?_
        rw [sI_ne (g' := 57) (by omega), h57a]
        refine wp_be x_fail ?_
        refine wp_mono (j238b _ _ _ (flT_bad (by decide))) ?_
        rintro r _ T' rfl
        exact ⟨by rw [er_fl, eN], (A1.wr (by omega)).tr A1.fl, fun q => absurd q (flT_bad (by decide))⟩
    by_cases c6 : T.1 66 p = 2
    · exact wp_t c6 (main 1 (by rw [if_pos c6]))
    · exact wp_f c6 (main 0 (by rw [if_neg c6]))
  rw [e_Model_checkThrough nf (d + 10)]
  unfold rb_Model_checkThrough
  refine wp_gd zm ?_
  rw [cm, h52]
  refine wp_gd zl ?_
  rw [cl, h60]
  refine wp_v (wp_gd zm ?_)
  rw [h50]
  by_cases c0 : kd = 16
  · refine wp_t c0 ?_
    unfold rj_Model_checkThrough_28
    refine wp_t rfl ?_
    refine wp_be (x_isPt ht (by omega)) ?_
    by_cases c1 : isPt T s = 0
    · refine wp_t c1 ?_
      unfold rj_Model_checkThrough_63
      refine wp_t rfl ?_
      refine bad4 ?_ 0
      unfold thOk
      rw [if_pos c0]
      exact decide_eq_false (fun q => q.1 c1)
    · refine wp_f c1 (wp_gd (ht.inr (by omega) (isPt_pos c1)) ?_)
      by_cases c9 : 0 ≤ T.1 69 s.toNatClampNeg
      · refine wp_t c9 ?_
        unfold rj_Model_checkThrough_63
        refine wp_t rfl ?_
        refine bad4 ?_ 0
        unfold thOk
        rw [if_pos c0]
        exact decide_eq_false (fun q => q.2 c9)
      · refine wp_f c9 ?_
        unfold rj_Model_checkThrough_63
        refine wp_f (by decide) (wp_gd zm ?_)
        rw [cm, h50]
        refine wp_f (by rw [c0]; decide) ?_
        refine good 0 ?_ ⟨fun _ => c0, fun _ => rfl⟩ (isPt_pos c1)
        unfold thOk
        rw [if_pos c0]
        exact decide_eq_true ⟨c1, c9⟩
  · refine wp_f c0 ?_
    unfold rj_Model_checkThrough_28
    refine wp_f (by decide) ?_
    refine wp_be (x_isTd ht (by omega)) ?_
    unfold rj_Model_checkThrough_63
    by_cases c1 : isTd T s = 0
    · refine wp_t c1 ?_
      rw [c1]
      refine bad4 ?_ 1
      unfold thOk
      rw [if_neg c0]
      exact decide_eq_false (fun q => q.1 c1)
    · refine wp_f c1 (wp_gd zm ?_)
      have e1 : isTd T s = 1 := by
        unfold isTd at c1 ⊢
        by_cases k1 : isPt T s = 0
        · rw [if_pos k1] at c1; exact absurd rfl c1
        · rw [if_neg k1] at c1 ⊢
          by_cases k2 : T.1 69 s.toNatClampNeg < 0
          · rw [if_pos k2] at c1; exact absurd rfl c1
          · rw [if_neg k2]
      rw [cm, h50]
      by_cases c5 : kd = 17
      · refine wp_t c5 ?_
        obtain ⟨p, u, q1, q2, q3, q4, u1, u2, h9⟩ := td_row hC hs hc0 c1
        have h24 : inn T ≤ 24 := hC.2.2.2.2.1.2.1
        have u2' : u < inn T := u2
        have u1' : T.1 69 p = nI u := u1
        have q3' : p < cn T := q3
        have zs : inb s 6000 := by rw [q1]; exact nin (by omega) (by omega)
        have es : T.1 69 s.toNatClampNeg = nI u := by rw [q1, q4]; exact u1'
        refine wp_gd zs ?_
        rw [es]
        refine wp_gd (nin (by omega) (by omega)) ?_
        by_cases c6 : T.1 12 (nI u).toNatClampNeg = 1
        · refine wp_t c6 ?_
          refine good 1 ?_ ⟨fun q => absurd q (by decide), fun q => absurd q c0⟩ (isPt_pos (isTd_pt c1))
          unfold thOk
          rw [if_neg c0]
          refine decide_eq_true ⟨c1, fun _ => ?_⟩
          show T.1 12 (T.1 69 s.toNatClampNeg).toNatClampNeg = 1
          rw [es]
          exact c6
        · refine wp_f c6 ?_
          refine bad4 ?_ 1
          unfold thOk
          rw [if_neg c0]
          refine decide_eq_false (fun q => c6 ?_)
          have := q.2 c5
          change T.1 12 (T.1 69 s.toNatClampNeg).toNatClampNeg = 1 at this
          rw [es] at this
          exact this
      · refine wp_f c5 ?_
        rw [e1]
        refine good 1 ?_ ⟨fun q => absurd q (by decide), fun q => absurd q c0⟩ (isPt_pos (isTd_pt c1))
        unfold thOk
        rw [if_neg c0]
        exact decide_eq_true ⟨c1, fun q => absurd q c5⟩
end XT
