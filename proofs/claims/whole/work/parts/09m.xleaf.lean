/-! the reference's checks of single nodes -/
abbrev A1 (T T' : gSt) (m : Nat) : Prop := T'.1 48 = T.1 48 ∧ T'.1 60 = T.1 60 ∧ T'.1 93 = T.1 93 ∧ T'.1 94 = T.1 94 ∧ ∀ j, j ≠ m → T'.1 61 j = T.1 61 j
section XL
variable {nf d : Nat} {T T' : gSt} {X : Lx} {m n p u i : Nat} {x y t r s : Int32} {nm : Int64} {z : T5}
theorem A1.rf : A1 T T m := ⟨rfl, rfl, rfl, rfl, fun _ _ => rfl⟩
theorem A1.fl : A1 T (flT T x y) m := ⟨flT_o (by omega) (by omega), flT_o (by omega) (by omega), flT_o (by omega) (by omega), flT_o (by omega) (by omega), fun j _ => by rw [flT_o (by omega) (by omega)]⟩
theorem A1.kn : A1 T (knS T z) m := ⟨knS_o (by omega), knS_o (by omega), knS_o (by omega), knS_o (by omega), fun j _ => by rw [knS_o (by omega)]⟩
theorem A1.ch {f : Nat} {w : Int32} : A1 T (chT f T x w).2 m := ⟨chT_o (by omega) _ _ _, chT_o (by omega) _ _ _, chT_o (by omega) _ _ _, chT_o (by omega) _ _ _, fun j _ => by rw [chT_o (by omega)]⟩
theorem A1.wr {k j : Nat} (h : k ≠ 48 ∧ k ≠ 60 ∧ k ≠ 61 ∧ k ≠ 93 ∧ k ≠ 94) : A1 T (sI T k j x) m := ⟨sI_ne (by omega), sI_ne (by omega), sI_ne (by omega), sI_ne (by omega), fun j _ => by rw [sI_ne (by omega)]⟩
theorem A1.fd : A1 T (sI T 61 m x) m := ⟨sI_ne (by omega), sI_ne (by omega), sI_ne (by omega), sI_ne (by omega), fun j h => by rw [rdI, if_neg (fun q => h q.2)]⟩
theorem A1.tr {T'' : gSt} (h : A1 T T' m) (h2 : A1 T' T'' m) : A1 T T'' m := ⟨h2.1.trans h.1, h2.2.1.trans h.2.1, h2.2.2.1.trans h.2.2.1, h2.2.2.2.1.trans h.2.2.2.1, fun j q => (h2.2.2.2.2 j q).trans (h.2.2.2.2 j q)⟩
/-- a name -/
theorem x_nm (hC : Ck (er T)) (hnf : 6000 ≤ nf) (hm : m < 8200) (h56 : T.2 56 m = nm) (h51 : T.1 51 m = x) (hb : T.1 7 0 = 0) (hc : cn (nmC (er T) nm x).2.2 < 6000) : wp (RR nf (d + 3) 88 T [nI m] []) (fun r _ T' => er T' = (nmC (er T) nm x).2.2 ∧ A1 T T' m ∧ (T'.1 7 0 = 0 → r = (nmC (er T) nm x).1 ∧ T'.1 61 m = (nmC (er T) nm x).2.1)) := by
  have zm : inb (nI m) 8200 := nin (by omega) (by omega)
  have cm : (nI m).toNatClampNeg = m := nc (by omega)
  have hv := hC.2.2.2.2.2
  have hg : Tg T := hC.1
  have hc0 : cn T < 6000 := (FE.nm (T := er T) (nm := nm) (x := x)).lt hC.1 hc
  rw [e_Model_checkName nf (d + 2)]
  unfold rb_Model_checkName
  refine wp_gd zm ?_
  rw [cm, h56]
  refine wp_be (x_var (T := T) (n := vn T) hv.1 hv.2.1 (by omega)) ?_
  by_cases c1 : 0 ≤ fd (isVa (er T) nm) (vn (er T))
  · have c1' : 0 ≤ fd (isVa T nm) (vn T) := c1
    obtain ⟨j, jb, j2, j3⟩ := var_ok hC c1
    have j2' : fd (isVa T nm) (vn T) = nI j := j2
    have hv2 : vn T ≤ 20 := hv.2.1
    have jb' : j < vn T := jb
    have cj : (nI j).toNatClampNeg = j := nc (by omega)
    have zj : inb (nI j) 20 := nin (by omega) (by omega)
    refine wp_t c1' ?_
    rw [j2']
    refine wp_gd zj ?_
    rw [cj]
    have e79 : tf (er T) 79 (fd (isVa (er T) nm) (vn (er T))) = T.1 79 j := by unfold tf; rw [j2, cj]; rfl
    have e80 : tf (er T) 80 (fd (isVa (er T) nm) (vn (er T))) = T.1 80 j := by unfold tf; rw [j2, cj]; rfl
    unfold nmC at hc ⊢
    simp only [if_pos c1, e79, e80] at hc ⊢
    by_cases c2 : ((T.1 81 0 >>> (T.1 79 j &&& 31)) &&& 1) = 0
    · have c2' : (((er T).1 81 0 >>> (T.1 79 j &&& 31)) &&& 1) = 0 := c2
      simp only [if_pos c2']
      refine wp_t c2 (wp_gd zm ?_)
      rw [h51]
      refine wp_be x_fail ?_
      unfold rj_Model_checkName_57
      refine wp_be x_bad ?_
      refine wp_f (fun q => flT_bad (T := T) (a := 6) (b := x) (by decide) (bdI_0.mp q)) ?_
      exact wp_some ⟨er_fl, A1.fl, fun q => absurd q (flT_bad (by decide))⟩
    · have c2' : ¬ (((er T).1 81 0 >>> (T.1 79 j &&& 31)) &&& 1) = 0 := c2
      simp only [if_neg c2'] at hc ⊢
      refine wp_f c2 ?_
      unfold rj_Model_checkName_57
      refine wp_be x_bad ?_
      refine wp_t (bdI_0.mpr hb) (wp_gd zj ?_)
      rw [cj]
      refine wp_v (wp_gd zj (wp_gd zm ?_))
      rw [cm]
      refine wp_st ?_
      by_cases c3 : 0 < T.1 80 j ∧ T.1 66 (T.1 80 j).toNatClampNeg = 2 ∧ ((T.1 82 0 >>> (T.1 79 j &&& 31)) &&& 1) = 1
      · have c3' : 0 < T.1 80 j ∧ tf (er T) 66 (T.1 80 j) = 2 ∧ (((er T).1 82 0 >>> (T.1 79 j &&& 31)) &&& 1) = 1 := c3
        simp only [if_pos c3'] at hc ⊢
        have j4 : tR (er T) (T.1 80 j) := Or.inr (Or.inr j3)
        obtain ⟨p, e, p1, p2⟩ := j4.pos (Int32.not_le.mpr c3.1)
        have p2' : p < cn T := p2
        have zp : inb (T.1 80 j) 6000 := by rw [e]; exact nin (by omega) (by omega)
        refine wp_f (Int32.not_le.mpr c3.1) (wp_gd zp (wp_t (by rw [sI_ne (by omega)]; exact c3.2.1) (wp_gd zj ?_)))
        refine wp_t (by rw [sI_ne (by omega), sI_ne (by omega)]; exact c3.2.2) ?_
        unfold rj_Model_checkName_121
        refine wp_f (by decide) (wp_gd zp (wp_gd zp (wp_gd zp (wp_gd zp ?_))))
        have g1 : Tg (sI T 61 m (T.1 79 j)) := by
          unfold Tg
          rw [cn_w (by omega), sI_ne (by omega)]
          exact hg
        refine wp_be (x_kn g1 (by rw [cn_w (by omega)]; exact hc0) hnf) ?_
        rw [sI_ne (g' := 67) (by omega), sI_ne (g' := 68) (by omega), sI_ne (g' := 69) (by omega), sI_ne (g' := 70) (by omega)]
        refine wp_some ⟨?_, A1.fd.tr A1.kn, fun _ => ⟨?_, ?_⟩⟩
        · rw [er_knS, er_a rfl]
          rfl
        · rw [← er_knR, er_a rfl]
          rfl
        · rw [knS_o (by omega), sI_v]
      · have c3' : ¬ (0 < T.1 80 j ∧ tf (er T) 66 (T.1 80 j) = 2 ∧ (((er T).1 82 0 >>> (T.1 79 j &&& 31)) &&& 1) = 1) := c3
        simp only [if_neg c3'] at hc ⊢
        have fin : wp (rj_Model_checkName_121 (RR nf (d + 2)) nf (sI T 61 m (T.1 79 j)) (T.1 80 j) 0) (fun r _ T' => er T' = er T ∧ A1 T T' m ∧ (T'.1 7 0 = 0 → r = T.1 80 j ∧ T'.1 61 m = T.1 79 j)) := by
          unfold rj_Model_checkName_121
          refine wp_t rfl ?_
          exact wp_some ⟨er_a rfl, A1.fd, fun _ => ⟨rfl, sI_v⟩⟩
        by_cases k1 : T.1 80 j ≤ 0
        · exact wp_t k1 fin
        refine wp_f k1 ?_
        have j4 : tR (er T) (T.1 80 j) := Or.inr (Or.inr j3)
        obtain ⟨p, e, p1, p2⟩ := j4.pos k1
        have p2' : p < cn T := p2
        have zp : inb (T.1 80 j) 6000 := by rw [e]; exact nin (by omega) (by omega)
        refine wp_gd zp ?_
        by_cases k2 : (sI T 61 m (T.1 79 j)).1 66 (T.1 80 j).toNatClampNeg = 2
        · refine wp_t k2 (wp_gd zj ?_)
          refine wp_f (fun q => c3 ⟨Int32.not_le.mp k1, ?_, ?_⟩) fin
          · rw [sI_ne (by omega)] at k2; exact k2
          · rw [sI_ne (by omega), sI_ne (by omega)] at q; exact q
        · exact wp_f k2 fin
  · have c1' : ¬ 0 ≤ fd (isVa T nm) (vn T) := c1
    refine wp_f c1' (wp_gd zm ?_)
    rw [h51]
    refine wp_be x_fail ?_
    unfold rj_Model_checkName_57
    refine wp_be x_bad ?_
    refine wp_f (fun q => flT_bad (T := T) (a := 3) (b := x) (by decide) (bdI_0.mp q)) ?_
    unfold nmC
    simp only [if_neg c1]
    exact wp_some ⟨er_fl, A1.fl, fun q => absurd q (flT_bad (by decide))⟩
end XL
