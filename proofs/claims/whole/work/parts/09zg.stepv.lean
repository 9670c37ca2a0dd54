/-! a var STEP -/
def vaM (X : Lx) (T : gSt) (i : Nat) : Int32 × gSt := meX X 6 (sI T 92 0 (T.1 92 0 + 1)) (i + 3)
def vaR (X : Lx) (ta : Tr) (T : gSt) : ChR := if isZ ta = true then (-1, 0, [], T) else chk X ta 0 0 T
def vaF (X : Lx) (ta : Tr) (T : gSt) (t : Int32) : gSt := if isZ ta = true then T else ftS (vaR X ta T).2.2.2 (vaR X ta T).1 t (plT X ta)
def vaE (T : gSt) (nm : Int64) (pn sl t e has : Int32) : gSt := if T.1 7 0 = 0 then (if 0 ≤ fd (isVa T nm) (vn T) then flT T 2 pn else if (seS T nm sl t).1 83 0 = 0 then seS T nm sl t else gvS (seS T nm sl t) sl t e has) else T
def vaC (X : Lx) (ta : Tr) (i v : Nat) (T : gSt) : List T5 × gSt := ((vaR X ta (vaM X T i).2).2.2.1, vaE (vaF X ta (vaM X T i).2 (vaM X T i).1) (xN X (i + 1)) (nI (xP X (i + 1))) (nI v) (vaM X T i).1 (vaR X ta (vaM X T i).2).1 (if isZ ta = true then 0 else 1))
section VA
variable {nf d : Nat} {T T' T1 S : gSt} {X : Lx} {m n p u i k e l lo hi a b s v : Nat} {x y r t sl has pn : Int32} {nm : Int64} {ta tb : Tr}
theorem cn_see : cn (seS T nm sl t) = cn T := by
  unfold seS cn
  rw [sI_ne (by omega), sI_ne (by omega), sI_ne (by omega)]
  rfl
theorem cn_gv : cn (gvS T sl t y has) = cn T := by
  unfold gvS cn
  rw [sI_ne (by omega), sI_ne (by omega)]
theorem er_see : er (seS T nm sl t) = seS (er T) nm sl t := by
  unfold seS
  rw [er_w rfl, er_w rfl, er_w rfl, er_sj]
  rfl
theorem er_gv : er (gvS T sl t y has) = gvS (er T) sl t y has := by
  unfold gvS
  rw [er_w rfl, er_w rfl]
  rfl
theorem er_vaE {pn : Int32} : er (vaE T nm pn sl t y has) = vaE (er T) nm pn sl t y has := by
  unfold vaE
  have e7 : (er T).1 7 0 = T.1 7 0 := rfl
  have e2 : fd (isVa (er T) nm) (vn (er T)) = fd (isVa T nm) (vn T) := rfl
  have e3 : (seS (er T) nm sl t).1 83 0 = (seS T nm sl t).1 83 0 := by rw [← er_see]; rfl
  rw [e7, e2, e3]
  by_cases c : T.1 7 0 = 0
  · rw [if_pos c, if_pos c]
    by_cases c2 : 0 ≤ fd (isVa T nm) (vn T)
    · rw [if_pos c2, if_pos c2, er_fl]
    · rw [if_neg c2, if_neg c2]
      by_cases c3 : (seS T nm sl t).1 83 0 = 0
      · rw [if_pos c3, if_pos c3, er_see]
      · rw [if_neg c3, if_neg c3, er_gv, er_see]
  · rw [if_neg c, if_neg c]
theorem nt_see : ∀ k, anF k = true → (seS T nm sl t).1 k = T.1 k := fun k hk => by
  have h : k ≠ 77 ∧ k ≠ 79 ∧ k ≠ 80 := by
    unfold anF at hk
    simp only [Bool.or_eq_true, beq_iff_eq] at hk
    omega
  unfold seS
  rw [sI_ne h.1, sI_ne h.2.2, sI_ne h.2.1]
  rfl
theorem nt_gv : ∀ k, anF k = true → (gvS T sl t y has).1 k = T.1 k := fun k hk => by
  have h : k ≠ 81 ∧ k ≠ 82 := by
    unfold anF at hk
    simp only [Bool.or_eq_true, beq_iff_eq] at hk
    omega
  unfold gvS
  rw [sI_ne h.2, sI_ne h.1]
theorem nt_vaE {pn : Int32} : ∀ k, anF k = true → (vaE T nm pn sl t y has).1 k = T.1 k := fun k hk => by
  unfold vaE
  repeat' split
  · exact nt_fl k hk
  · exact nt_see k hk
  · exact (nt_gv k hk).trans (nt_see k hk)
  · rfl
theorem cn_vaE {pn : Int32} : cn (vaE T nm pn sl t y has) = cn T := by
  unfold vaE
  repeat' split
  · exact cn_fl
  · exact cn_see
  · exact cn_gv.trans cn_see
  · rfl
/-- from the fitted value on -/
theorem x_va91 (hnf : 5000 ≤ nf) (hC : Ck (er T)) (hc : cn T < 6000) (hm : m < 8200) (h56 : T.2 56 m = nm) (h57 : T.1 57 m = pn) (h61 : T.1 61 m = sl) (h52 : T.1 52 m < 0 ↔ has = 0) (hhas : has = 0 ∨ has = 1) (hvn : vn T < 20) (ht : T.1 7 0 = 0 → ¬ t ≤ 0 → inb t 6000) (hy : T.1 7 0 = 0 → ¬ y ≤ 0 → inb y 6000) : RR nf (d + 2) 14 T [] [] = RR nf (d + 2) 14 T [] [] → rj_Model_checkVar_91 (RR nf (d + 2)) nf T (nI m) t y = some (0, 0, vaE T nm pn sl t y has) := by
  intro _
  have zm : inb (nI m) 8200 := nin (by omega) (by omega)
  have cm : (nI m).toNatClampNeg = m := nc (by omega)
  have hv := hC.2.2.2.2.2
  have hv1 : T.1 77 0 = nI (vn T) := hv.1
  have b122 : ∀ S : gSt, ¬ S.1 7 0 = 0 → rj_Model_checkVar_122 (RR nf (d + 2)) nf S (nI m) t y = some (0, 0, S) := by
    intro S hS
    unfold rj_Model_checkVar_122
    rw [x_bd1 hS, bis, if_neg (by decide)]
  unfold rj_Model_checkVar_91 vaE
  by_cases c : ¬ T.1 7 0 = 0
  · rw [if_neg c, x_bd1 c, bis, if_neg (by decide)]
    exact b122 T c
  have c := Decidable.not_not.mp c
  rw [if_pos c, x_bd0 c, bis, if_pos rfl]
  simp only [gd, if_pos zm, cm]
  rw [h56, x_var hv1 (by omega) hnf, bis, h57]
  by_cases c2 : 0 ≤ fd (isVa T nm) (vn T)
  · rw [if_neg (Int32.not_lt.mpr c2), if_pos c2, x_fail, bis]
    exact b122 _ (flT_bad (by decide))
  · rw [if_pos (Int32.not_le.mp c2), if_neg c2]
    unfold rj_Model_checkVar_122
    rw [x_bd0 c, bis, if_pos rfl]
    simp only [gd, if_pos zm, cm]
    rw [h61, h56, x_see hv1 hvn, bis]
    have o : ∀ g, g ≠ 77 → g ≠ 79 → g ≠ 80 → (seS T nm sl t).1 g = T.1 g := fun g h1 h2 h3 => by
      unfold seS
      rw [sI_ne h1, sI_ne h3, sI_ne h2]
      rfl
    by_cases c3 : (seS T nm sl t).1 83 0 = 0
    · rw [if_pos c3, if_pos c3]
    · rw [if_neg c3, if_neg c3, o 52 (by omega) (by omega) (by omega), o 61 (by omega) (by omega) (by omega), h61]
      by_cases c4 : T.1 52 m < 0
      · rw [if_pos c4, x_give (ht c) (hy c), bis, h52.mp c4]
      · rw [if_neg c4, x_give (ht c) (hy c), bis]
        rcases hhas with h | h
        · exact absurd (h52.mpr h) c4
        · rw [h]
theorem isZ_M (h : isZ ta = true) (hR : RepM X T ta lo hi x) : x = -1 ∧ lo = hi := by
  unfold isZ at h
  split at h
  · exact hR
  · exact absurd h (by decide)
theorem Ck.me (hC : Ck T) (hw : tyW X 6 i) (hc : cn (meX X 6 T i).2 < 6000) : Ck (meX X 6 T i).2 ∧ ((meX X 6 T i).2.1 7 0 = 0 → tV (meX X 6 T i).2 (meX X 6 T i).1) := by
  have := me_ok 6 T i hw hC.toM hc
  exact ⟨hC.st (FE.me _ _ _) this.1.2.1 hc, fun q => (this.2 q).1⟩
theorem Fm.any {a2 b2 : Nat} (h : Fm X T T' 0 0 a b) (h3 : a2 ≤ a) (h4 : b ≤ b2) : Fm X T T' lo hi a2 b2 := ⟨fun j _ => h.1 j (Or.inr (Nat.zero_le _)), fun u => (h.2.1 u).elim Or.inl (fun ⟨q, q1, q2, q3⟩ => Or.inr ⟨q, by omega, by omega, q3⟩), h.2.2⟩
/-- a var STEP -/
theorem x_va (hx : PI X) (hX : xn X ≤ 4000) (hP : ∀ q, q < xn X → xP X q < 100000) (hnf : 8300 ≤ nf) (hE : CkE nf X ta) {w c : Nat} (hlo : lo < hi) (hhi : hi ≤ 8200) (hnm : nmd X T lo (i + 1)) (h61 : T.1 61 lo = nI v) (h53 : T.1 53 lo = nI w) (hW : RepW X T 6 w (i + 3)) (hR : RepM X T ta (lo + 1) hi (T.1 52 lo)) (hty : tyW X 6 (i + 3)) (hwz : isZ ta = true → tyE X 6 (i + 3) < b) (hwf : ¬ isZ ta = true → Wf X ta false (tyE X 6 (i + 3) + 1) c ∧ c < b) (hai : a = i) (hbx : b ≤ xn X) (hC : Ck (er T)) (hv : vn T ≤ v) (hv20 : v < 20) (hs : T.1 94 0 = nI s) (hss : s + (hi - lo) ≤ 8200) (hd : 6 * dpT ta + 22 ≤ d) (hUU : nU T ≤ 4000) (hWW : nW T ≤ 4000) (h0 : T.1 7 0 = 0) (hc : cn (vaC X ta i v (er T)).2 < 6000) : wp (RR nf d 71 T [nI lo] []) (fun _ _ T' => er T' = (vaC X ta i v (er T)).2 ∧ Fm X T T' (lo + 1) hi a b ∧ (T'.1 7 0 = 0 → ¬ isZ ta = true → AnE X T' ta (lo + 1) hi (T.1 52 lo) (vaR X ta (vaM X (er T) i).2).1 (vaR X ta (vaM X (er T) i).2).2.1 (vaR X ta (vaM X (er T) i).2).2.2.1)) := by
  have zm : inb (nI lo) 8200 := nin (by omega) (by omega)
  have cm : (nI lo).toNatClampNeg = lo := nc (by omega)
  have ge := tyE_ge (X := X) 6 (i + 3)
  have hend : tyE X 6 (i + 3) ≤ xn X ∧ tyE X 6 (i + 3) ≤ b := by
    by_cases z : isZ ta = true
    · have := hwz z; omega
    · have h1 := hwf z
      have := Wf_le2 h1.1
      omega
  -- the room
  have e1 : er (sI T 92 0 (T.1 92 0 + 1)) = sI (er T) 92 0 ((er T).1 92 0 + 1) := er_w rfl
  have feM : FE (er T) (vaM X (er T) i).2 := (FE.wr (by omega)).tr (FE.me _ _ _)
  have gM := feM.tg hC.1
  have feF : FE (vaM X (er T) i).2 (vaF X ta (vaM X (er T) i).2 (vaM X (er T) i).1) := by
    unfold vaF vaR
    by_cases z : isZ ta = true
    · rw [if_pos z]; exact FE.rf
    · simp only [if_neg z]
      exact (chk_fe ta 0 0 _).tr FE.ft
  have hcF : cn (vaF X ta (vaM X (er T) i).2 (vaM X (er T) i).1) < 6000 := by
    have h := hc
    unfold vaC at h
    rw [cn_vaE] at h
    exact h
  have hcM := feF.lt gM hcF
  have hc0 : cn (er T) < 6000 := feM.lt hC.1 hcM
  have hC1 : Ck (er (sI T 92 0 (T.1 92 0 + 1))) := by rw [e1]; exact hC.wr (by omega) hc0
  have hCM : Ck (vaM X (er T) i).2 ∧ ((vaM X (er T) i).2.1 7 0 = 0 → tV (vaM X (er T) i).2 (vaM X (er T) i).1) := by
    unfold vaM
    rw [← e1]
    exact hC1.me hty (by rw [e1]; exact hcM)
  obtain ⟨d', rfl⟩ : ∃ g, d = g + 20 := ⟨d - 20, by omega⟩
  rw [e_Model_checkVar nf (d' + 19)]
  unfold rb_Model_checkVar
  refine wp_st (wp_gd zm ?_)
  have n1 : ∀ g, g ≠ 92 → (sI T 92 0 (T.1 92 0 + 1)).1 g = T.1 g := fun g h => sI_ne h
  have sp1 : SP T (sI T 92 0 (T.1 92 0 + 1)) := SP.fe (FE.wr (by omega))
  rw [cm, n1 53 (by omega), h53]
  have av : Av T (sI T 92 0 (T.1 92 0 + 1)) w := ⟨by rw [sp_nU sp1]; exact Nat.le_refl _, fun j _ => ⟨rfl, by rw [n1 47 (by omega)]⟩, by unfold nW; rw [n1 37 (by omega)]; exact Nat.le_refl _, fun g j a b _ _ => by rw [n1 g (by omega)], fun j _ _ => rfl⟩
  refine wp_bi (x_mean hnf hP 6 (d' + 9) (sI T 92 0 (T.1 92 0 + 1)) w (i + 3) (RepW.av 6 w _ av hW) hty hC1.toM (by rw [sp_nU sp1]; exact hUU) (by unfold nW; rw [n1 37 (by omega)]; exact hWW) hend.1 (by rw [e1]; exact hcM)) ?_
  rintro t _ T2 ⟨q1, q2, q3⟩
  rw [e1] at q1 q3
  change er T2 = (vaM X (er T) i).2 at q1
  change T2.1 7 0 = 0 → t = (vaM X (er T) i).1 at q3
  have sp2 : SP T T2 := SP.of (by rw [q1]; exact feM)
  have fm2 : Fm X T T2 (lo + 1) hi a b := (Fm.nt (nt_wr (by omega))).tr (q2.any (by omega) hend.2) sp1
  have u61 : ∀ j, T2.1 61 j = T.1 61 j := fun j => by
    rw [(q2.1 j (Or.inr (Nat.zero_le _))).2, n1 61 (by omega)]
  have u94 : T2.1 94 0 = nI s := by rw [q2.2.2.2, n1 94 (by omega)]; exact hs
  have hC2 : Ck (er T2) := by rw [q1]; exact hCM.1
  have hc2 : cn T2 < 6000 := by rw [← er_cn, q1]; exact hcM
  have o52 : T2.1 52 lo = T.1 52 lo := by rw [sp2.1 52 (by omega) rfl]
  have o51 : T2.1 51 = T.1 51 := sp2.1 51 (by omega) rfl
  have o57 : T2.1 57 lo = nI (xP X (i + 1)) := by rw [sp2.1 57 (by omega) rfl]; exact hnm.2
  have o56 : T2.2 56 lo = xN X (i + 1) := by rw [sp2.2]; exact hnm.1
  have ovn : vn T2 = vn T := by
    unfold vn
    rw [sp2.1 77 (by omega) rfl]
  refine wp_gd zm ?_
  rw [o52]
  unfold vaC at hc ⊢
  simp only at hc ⊢
  have tt : T2.1 7 0 = 0 → ¬ t ≤ 0 → inb t 6000 := fun h h2 => by
    have h' : (vaM X (er T) i).2.1 7 0 = 0 := by rw [← q1]; exact h
    have tv := hCM.2 h'
    rw [← q3 h, ← q1] at tv
    rcases tv with hz | ⟨p, h3, h4, h5⟩
    · exact absurd (by rw [hz]; decide) h2
    · have h5' : p < cn T2 := h5
      rw [h3]; exact nin (by omega) (by omega)
  have vaE_eq : ∀ (S : gSt) (t1 t2 y1 y2 has : Int32), (S.1 7 0 = 0 → t1 = t2 ∧ y1 = y2) → vaE S (xN X (i + 1)) (nI (xP X (i + 1))) (nI v) t1 y1 has = vaE S (xN X (i + 1)) (nI (xP X (i + 1))) (nI v) t2 y2 has := by
    intro S t1 t2 y1 y2 has h
    by_cases g : S.1 7 0 = 0
    · rw [(h g).1, (h g).2]
    · unfold vaE
      rw [if_neg g, if_neg g]
  by_cases z : isZ ta = true
  · -- without a value
    have hx1 := (isZ_M z hR).1
    have eF : vaF X ta (vaM X (er T) i).2 (vaM X (er T) i).1 = er T2 := by unfold vaF; rw [if_pos z, q1]
    have eR : (vaR X ta (vaM X (er T) i).2).1 = -1 := by unfold vaR; rw [if_pos z]
    rw [eF, eR, if_pos z, ← er_vaE]
    have c52 : T.1 52 lo < 0 := by rw [hx1]; decide
    refine wp_t c52 ?_
    unfold rj_Model_checkVar_51
    refine wp_gd zm ?_
    rw [cm, o52]
    refine wp_t c52 ?_
    rw [x_va91 (d := d' + 17) (nm := xN X (i + 1)) (pn := nI (xP X (i + 1))) (sl := nI v) (has := 0) (by omega) hC2 hc2 (by omega) o56 o57 (by rw [u61]; exact h61) ⟨fun _ => rfl, fun _ => by rw [o52]; exact c52⟩ (Or.inl rfl) (by omega) tt (fun _ h => absurd (by decide) h) rfl]
    refine wp_some ⟨?_, fm2.tr (Fm.nt nt_vaE) sp2, fun _ h => absurd z h⟩
    rw [vaE_eq T2 t (vaM X (er T) i).1 (-1) (-1) 0 (fun h => ⟨q3 h, rfl⟩)]
  · -- with one
    obtain ⟨w1, w2⟩ := hwf z
    obtain ⟨my, y1, y2, y3, y4, y5⟩ := RepM_nd ta _ _ _ _ _ hR w1
    have c52 : ¬ T.1 52 lo < 0 := by rw [y1]; exact nI_pos (by omega)
    have c52b : 0 ≤ T.1 52 lo := Int32.not_lt.mp c52
    refine wp_f c52 ?_
    have eRf : vaR X ta (vaM X (er T) i).2 = chk X ta 0 0 (er T2) := by unfold vaR; rw [if_neg z, q1]
    have eF : vaF X ta (vaM X (er T) i).2 (vaM X (er T) i).1 = ftS (chk X ta 0 0 (er T2)).2.2.2 (chk X ta 0 0 (er T2)).1 (vaM X (er T) i).1 (plT X ta) := by unfold vaF; rw [if_neg z, eRf]
    rw [eRf] at hc ⊢
    rw [eF] at hc hcF ⊢
    rw [if_neg z] at hc ⊢
    by_cases c0 : ¬ T2.1 7 0 = 0
    · have c0' : ¬ (er T2).1 7 0 = 0 := c0
      refine wp_be (x_bd1 c0) (wp_f (by decide) ?_)
      unfold rj_Model_checkVar_51
      refine wp_gd zm ?_
      rw [cm, o52]
      refine wp_f c52 (wp_gd zm (wp_t c52b (wp_gd zm ?_)))
      rw [y1]
      refine wp_gd (nin (by omega) (by omega)) ?_
      rw [x_fit (T := T2) (nf := nf) (d := d' + 15) hC2.2.2.2.1 (fun h => absurd h c0) (fun h => absurd h c0) (fun h => absurd h c0) (by omega), bis, ftS_er_bad c0]
      rw [x_va91 (d := d' + 17) (nm := xN X (i + 1)) (pn := nI (xP X (i + 1))) (sl := nI v) (has := 1) (by omega) hC2 hc2 (by omega) o56 o57 (by rw [u61]; exact h61) ⟨fun h => absurd (by rw [← o52]; exact h) c52, fun h => absurd h (by decide)⟩ (Or.inr rfl) (by omega) (fun h => absurd h c0) (fun h => absurd h c0) rfl]
      have eb : ∀ (t y : Int32), vaE T2 (xN X (i + 1)) (nI (xP X (i + 1))) (nI v) t y 1 = T2 := fun t y => by unfold vaE; rw [if_neg c0]
      rw [eb]
      refine wp_some ⟨?_, fm2, fun q => absurd q c0⟩
      rw [chk_bad c0']
      show er T2 = vaE (ftS (er T2) 0 _ _) _ _ _ _ _ _
      rw [ftS_er_bad c0']
      unfold vaE
      rw [if_neg c0']
    have c0 := Decidable.not_not.mp c0
    refine wp_be (x_bd0 c0) (wp_t rfl (wp_gd zm ?_))
    rw [o52]
    have fa := chk_fe (X := X) ta 0 0 (er T2)
    have g2 : Tg (er T2) := hC2.1
    have hcA : cn (chk X ta 0 0 (er T2)).2.2.2 < 6000 := FE.ft.lt (fa.tg g2) hcF
    refine wp_bi (hE T2 (d' + 19) (lo + 1) hi _ c s _ (RepM.kp hR sp2 (fun j _ _ => u61 j)) hhi w1 (by omega) hC2 u94 (by omega) (by omega) (by rw [sp_nU sp2]; exact hUU) hcA) ?_
    rintro ra _ T3 ⟨p1, p2, p3⟩
    have bh := ch_bh w1 (by omega) hC2 hcA p1
    obtain ⟨⟨sp3, hC3, hc3⟩, hok3⟩ := bh
    have fm3 : Fm X T T3 (lo + 1) hi a b := fm2.tr (p2.up (by omega) (by omega) (by omega) (by omega)) sp2
    have spT3 : SP T T3 := sp2.tr sp3
    have s52 : T3.1 52 lo = T.1 52 lo := by rw [spT3.1 52 (by omega) rfl]
    unfold rj_Model_checkVar_51
    refine wp_gd zm ?_
    rw [cm, s52]
    refine wp_f c52 (wp_gd zm (wp_t c52b (wp_gd zm ?_)))
    rw [y1]
    refine wp_gd (nin (by omega) (by omega)) ?_
    rw [nc (by omega), spT3.1 51 (by omega) rfl, y4]
    have tV3 : tV (er T3) t := by
      have h' : (vaM X (er T) i).2.1 7 0 = 0 := by rw [← q1]; exact c0
      have tv := hCM.2 h'
      rw [← q3 c0, ← q1] at tv
      exact tv.fe (by rw [p1]; exact fa) g2
    have tin : t = 0 ∨ inb t 6000 := by
      rcases tV3 with h | ⟨p, h1, h2, h3⟩
      · exact Or.inl h
      · have h3' : p < cn T3 := h3
        exact Or.inr (by rw [h1]; exact nin (by omega) (by omega))
    have trC : inb t 6000 → ¬ t = 0 → rC (T3.1 67 t.toNatClampNeg) := fun _ h0 => by
      rcases tV3 with h | ⟨p, h1, h2, h3⟩
      · exact absurd h h0
      · have h3' : p < cn T3 := h3
        rw [h1, nc (by omega)]
        exact rC2.rc (hC3.row h2 h3).2.1
    have traF : T3.1 7 0 = 0 → tF ra := fun h => by
      rw [(p3 h).1]
      exact tF.of (T := T3) (hok3 h).1 hc3
    rw [x_fit (T := T3) (nf := nf) (d := d' + 15) hC3.2.2.2.1 traF (fun _ => tin) (fun _ => trC) (by omega), bis]
    have eft : ftS T3 ra t (plT X ta) = ftS T3 (chk X ta 0 0 (er T2)).1 (vaM X (er T) i).1 (plT X ta) := by
      by_cases g : T3.1 7 0 = 0
      · rw [(p3 g).1, q3 c0]
      · rw [ftS_er_bad g, ftS_er_bad g]
    rw [eft]
    have e4 : er (ftS T3 (chk X ta 0 0 (er T2)).1 (vaM X (er T) i).1 (plT X ta)) = ftS (chk X ta 0 0 (er T2)).2.2.2 (chk X ta 0 0 (er T2)).1 (vaM X (er T) i).1 (plT X ta) := by rw [er_ftS, p1]
    have sp4 : SP T3 (ftS T3 (chk X ta 0 0 (er T2)).1 (vaM X (er T) i).1 (plT X ta)) := SP.fe FE.ft
    have nt4 : ∀ k, anF k = true → (ftS T3 (chk X ta 0 0 (er T2)).1 (vaM X (er T) i).1 (plT X ta)).1 k = T3.1 k := fun k hk => nt_ft k hk
    have b4 : ¬ T3.1 7 0 = 0 → ¬ (ftS T3 (chk X ta 0 0 (er T2)).1 (vaM X (er T) i).1 (plT X ta)).1 7 0 = 0 := fun h => by rw [ftS_er_bad h]; exact h
    have hC4 : Ck (er (ftS T3 (chk X ta 0 0 (er T2)).1 (vaM X (er T) i).1 (plT X ta))) := by
      rw [er_ftS]
      exact hC3.ft (by rw [← er_ftS, e4]; exact hcF)
    have hc4 : cn (ftS T3 (chk X ta 0 0 (er T2)).1 (vaM X (er T) i).1 (plT X ta)) < 6000 := by rw [← er_cn, e4]; exact hcF
    rw [← e4] at hc hcF ⊢
    generalize ftS T3 (chk X ta 0 0 (er T2)).1 (vaM X (er T) i).1 (plT X ta) = T4 at *
    have spT4 : SP T T4 := spT3.tr sp4
    have v61 : T4.1 61 lo = nI v := by
      rw [nt4 61 rfl, (p2.1 lo (by omega)).2, u61]
      exact h61
    have t30 : T4.1 7 0 = 0 → T3.1 7 0 = 0 := fun h => by
      by_cases g : T3.1 7 0 = 0
      · exact g
      · exact absurd h (b4 g)
    have vn4 : vn T4 < 20 := by
      have : vn T4 = vn T := by
        unfold vn
        rw [spT4.1 77 (by omega) rfl]
      omega
    have rin : T4.1 7 0 = 0 → ¬ ra ≤ 0 → inb ra 6000 := fun h h2 => by
      have h3 := t30 h
      have := (hok3 h3).1
      rw [← (p3 h3).1] at this
      exact this.ok.inr (by omega) h2
    rw [x_va91 (d := d' + 17) (nm := xN X (i + 1)) (pn := nI (xP X (i + 1))) (sl := nI v) (has := 1) (by omega) hC4 hc4 (by omega) (by rw [spT4.2]; exact hnm.1) (by rw [spT4.1 57 (by omega) rfl]; exact hnm.2) v61 ⟨fun h => absurd (by rw [spT4.1 52 (by omega) rfl] at h; exact h) c52, fun h => absurd h (by decide)⟩ (Or.inr rfl) vn4 (fun _ h => tin.resolve_left (fun e => h (by rw [e]; decide))) rin rfl]
    have fm4 : Fm X T T4 (lo + 1) hi a b := fm3.tr (Fm.nt nt4) spT3
    refine wp_some ⟨?_, fm4.tr (Fm.nt nt_vaE) spT4, fun q _ => ?_⟩
    · rw [← er_vaE, vaE_eq T4 t (vaM X (er T) i).1 ra (chk X ta 0 0 (er T2)).1 1 (fun h => ⟨q3 c0, (p3 (t30 h)).1⟩)]
    · have t40 : T4.1 7 0 = 0 := by
        by_cases g : T4.1 7 0 = 0
        · exact g
        · exfalso
          have eb : ∀ (t y : Int32), vaE T4 (xN X (i + 1)) (nI (xP X (i + 1))) (nI v) t y 1 = T4 := fun t y => by unfold vaE; rw [if_neg g]
          rw [eb] at q
          exact g q
      have an := (p3 (t30 t40)).2
      have ntE : ∀ k, anF k = true → (vaE T4 (xN X (i + 1)) (nI (xP X (i + 1))) (nI v) t ra 1).1 k = T3.1 k := fun k hk => (nt_vaE k hk).trans (nt4 k hk)
      have swE : SPw T3 (vaE T4 (xN X (i + 1)) (nI (xP X (i + 1))) (nI v) t ra 1) := by
        refine sp4.toW.tr ?_
        have swS : SPw T4 (seS T4 (xN X (i + 1)) (nI v) t) := ⟨fun k k1 _ _ => by unfold seS; rw [sI_ne (by omega), sI_ne (by omega), sI_ne (by omega)]; rfl, fun k k1 => by unfold seS; rw [sI_j, sI_j, sI_j, sJ_ne (by omega)]⟩
        unfold vaE
        rw [if_pos t40]
        by_cases g2 : 0 ≤ fd (isVa T4 (xN X (i + 1))) (vn T4)
        · rw [if_pos g2]
          exact (SP.fe (FE.fl (by decide))).toW
        · rw [if_neg g2]
          by_cases g3 : (seS T4 (xN X (i + 1)) (nI v) t).1 83 0 = 0
          · rw [if_pos g3]
            exact swS
          · rw [if_neg g3]
            exact swS.tr ⟨fun k k1 _ _ => by unfold gvS; rw [sI_ne (by omega), sI_ne (by omega)], fun k _ => rfl⟩
      have le1 := Wf_le2 w1
      rw [← y1]
      exact AnE.kp (b := c) (by omega) ta false _ c (lo + 1) hi _ _ _ _ (Nat.le_refl _) w1 (Kp.nw swE ntE) an
end VA
