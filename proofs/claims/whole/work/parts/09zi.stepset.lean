/-! an assignment -/
def svS (T : gSt) (w : Int32) (r : Int32) (pr : Int32) : gSt := if (ftS T r (tf T 80 w) pr).1 7 0 = 0 ∧ ¬ (ftS T r (tf T 80 w) pr).1 83 0 = 0 then gvS (ftS T r (tf T 80 w) pr) (tf T 79 w) (tf T 80 w) r 1 else ftS T r (tf T 80 w) pr
def tgD (T : gSt) (k14 : Bool) (tl : Int32) : gSt := if T.1 7 0 = 0 ∧ k14 = true ∧ T.1 12 (tf T 69 tl).toNatClampNeg = 1 then sI T 90 0 (T.1 90 0 - 1) else T
def seC (X : Lx) (ta tb : Tr) (T : gSt) : gSt :=
  if (chk X tb 0 0 T).2.2.2.1 7 0 = 0 then
    (if tkd X ta = 4 then (if 0 ≤ fd (isVa (chk X tb 0 0 T).2.2.2 (xN X (lfI ta))) (vn (chk X tb 0 0 T).2.2.2) then svS (chk X tb 0 0 T).2.2.2 (fd (isVa (chk X tb 0 0 T).2.2.2 (xN X (lfI ta))) (vn (chk X tb 0 0 T).2.2.2)) (chk X tb 0 0 T).1 (plT X tb) else flT (chk X tb 0 0 T).2.2.2 3 (plT X ta))
    else if tkd X ta = 14 ∨ tkd X ta = 15 ∨ tkd X ta = 16 then ftS (tgD (chk X ta 0 0 (chk X tb 0 0 T).2.2.2).2.2.2 (decide (tkd X ta = 14)) (chk X ta 0 0 (chk X tb 0 0 T).2.2.2).2.1) (chk X tb 0 0 T).1 (chk X ta 0 0 (chk X tb 0 0 T).2.2.2).1 (plT X tb)
    else flT (chk X tb 0 0 T).2.2.2 4 (plT X ta))
  else (chk X tb 0 0 T).2.2.2
section SE
variable {nf d : Nat} {T T' T1 S : gSt} {X : Lx} {m n p u i k e l lo hi a b s v it c : Nat} {x y r t sl has pn w : Int32} {nm : Int64} {ta tb : Tr}
/-- what lies behind ^ is a type -/
theorem iv_ca (t : Tr) : ∀ (a b : Nat) (T : gSt), Wf X t false a b → b < 100000 → Ck T → cn (chk X t 0 0 T).2.2.2 < 6000 → (chk X t 0 0 T).2.2.2.1 7 0 = 0 → tkd X t = 16 → tV (chk X t 0 0 T).2.2.2 (chk X t 0 0 T).1 := by
  induction t using Tr_ind with
  | hz t hz =>
    intro a b T hw
    exfalso
    unfold Wf at hw
    split at hw
    · rename_i k i e a b
      exact absurd rfl (hz k i e a b)
    · exact absurd hw.1 (by decide)
    · exact hw.elim
  | h k i e ta tb ihA ihB =>
    intro a b T hw hb hC hc hok ht
    have h0 : T.1 7 0 = 0 := by
      by_cases g : T.1 7 0 = 0
      · exact g
      · rw [chk_bad g] at hok
        exact absurd hok g
    have key : tkd X (tD k i e ta tb) = if k = 2 then tkd X ta else if k = 1 then (if xK X i = 5 then 0 else if xK X i = 27 then 1 else if xK X i = 34 then 2 else if xK X i = 35 then 3 else 4) else if k = 3 then (if xK X i = 49 then 14 else if xK X i = 61 then 16 else 17) else if k = 4 then 15 else if k = 5 then 13 else if k = 6 then 5 else if k = 7 then (if xK X (i + 3 + e) = 49 then 7 else 6) else if k = 8 then (if xK X i = 29 then 8 else if xK X i = 30 then 9 else if xK X i = 31 then 11 else 12) else if k = 9 then 10 else 30 := rfl
    rw [Wf_n] at hw
    unfold WfN at hw
    rw [if_neg (by decide)] at hw
    by_cases c2 : k = 2
    · subst c2
      rw [if_neg (by omega), if_pos rfl] at hw
      obtain ⟨c1, e1, e2, e3⟩ := hw
      have eN : chk X (tD 2 i e ta tb) 0 0 T = chk X ta 0 0 T := by
        rw [chk_n, if_pos h0]
        rfl
      rw [eN] at hc hok ⊢
      rw [key, if_pos rfl] at ht
      exact ihA _ _ T e2 (by omega) hC hc hok ht
    by_cases c3 : k = 3
    · subst c3
      rw [if_neg (by omega), if_neg (by omega), if_pos rfl] at hw
      rw [key, if_neg (by omega), if_neg (by omega), if_pos rfl] at ht
      have k61 : xK X i = 61 := by
        by_cases g : xK X i = 49
        · rw [if_pos g] at ht; omega
        rw [if_neg g] at ht
        by_cases g2 : xK X i = 61
        · exact g2
        · rw [if_neg g2] at ht; omega
      have tk : tlK X i = 16 := by
        unfold tlK
        rw [if_neg (by omega), if_pos k61]
      have eN : chk X (tD 3 i e ta tb) 0 0 T = tlC X (chk X ta) ta i T := by
        rw [chk_n, if_pos h0]
        rfl
      rw [eN] at hc hok ⊢
      unfold tlC at hc hok ⊢
      dsimp only at hc hok ⊢
      by_cases c1 : (chk X ta 0 0 T).2.2.2.1 7 0 = 0
      · simp only [if_pos c1] at hc hok ⊢
        have gA := (chk_fe (X := X) ta 0 0 T).tg hC.1
        have hcA := FE.th.lt gA hc
        have iv := iv_ex0 (chk_inv ta) ⟨hw.1, by omega⟩ hC hcA
        have tRa := (iv.2 c1).1
        rw [tk] at hc hok ⊢
        unfold thC at hc hok ⊢
        by_cases k1 : thOk (chk X ta 0 0 T).2.2.2 16 (chk X ta 0 0 T).1 = true
        · simp only [if_pos k1] at hc hok ⊢
          by_cases k2 : isLv (chk X ta 0 0 T).2.2.2 (tf (chk X ta 0 0 T).2.2.2 67 (chk X ta 0 0 T).1) = 0
          · simp only [if_pos k2] at hok
            exact absurd hok (flT_bad (by decide))
          · simp only [if_neg k2, ↓reduceIte] at hc hok ⊢
            unfold thOk at k1
            rw [if_pos rfl] at k1
            have k1' := of_decide_eq_true k1
            obtain ⟨p, e1, p1, p2⟩ := tRa.pos (isPt_pos k1'.1)
            have cp : (nI p).toNatClampNeg = p := nc (by omega)
            have c9 := k1'.2
            unfold tf at c9 ⊢
            rw [e1, cp] at c9 ⊢
            obtain ⟨o1, o2, o3, o4, o5⟩ := iv.1.row p1 p2
            rw [if_neg c9] at o5
            rcases o5 with o5 | ⟨q, e2, e3, e4⟩
            · exact Or.inl o5
            · exact Or.inr ⟨q, e2, e3, by rw [cn_nu]; omega⟩
        · simp only [if_neg k1] at hok
          exact absurd hok (flT_bad (by decide))
      · simp only [if_neg c1] at hok
        exact absurd hok c1
    exfalso
    rw [key, if_neg c2, if_neg c3] at ht
    revert ht
    (repeat' split) <;> omega
theorem er_svS {pr : Int32} : er (svS T w r pr) = svS (er T) w r pr := by
  unfold svS
  have et : ∀ g y, anF g = false → tf (er T) g y = tf T g y := fun g y hg => by unfold tf; rw [er_i hg]
  rw [et 80 _ rfl, et 79 _ rfl, ← er_ftS]
  show _ = if (ftS T r (tf T 80 w) pr).1 7 0 = 0 ∧ ¬ (ftS T r (tf T 80 w) pr).1 83 0 = 0 then _ else _
  by_cases c : (ftS T r (tf T 80 w) pr).1 7 0 = 0 ∧ ¬ (ftS T r (tf T 80 w) pr).1 83 0 = 0
  · rw [if_pos c, if_pos c, er_gv]
  · rw [if_neg c, if_neg c]
theorem er_tgD {k14 : Bool} : er (tgD T k14 w) = tgD (er T) k14 w := by
  unfold tgD
  have et : ∀ g y, anF g = false → tf (er T) g y = tf T g y := fun g y hg => by unfold tf; rw [er_i hg]
  rw [et 69 _ rfl]
  show _ = if T.1 7 0 = 0 ∧ k14 = true ∧ T.1 12 (tf T 69 w).toNatClampNeg = 1 then _ else _
  by_cases c : T.1 7 0 = 0 ∧ k14 = true ∧ T.1 12 (tf T 69 w).toNatClampNeg = 1
  · rw [if_pos c, if_pos c, er_w rfl]
    rfl
  · rw [if_neg c, if_neg c]
theorem FE.td {k14 : Bool} : FE T (tgD T k14 w) := by
  unfold tgD
  split
  · exact FE.wr (by omega)
  · exact FE.rf
theorem nt_td {k14 : Bool} : ∀ k, anF k = true → (tgD T k14 w).1 k = T.1 k := fun k hk => by
  unfold tgD
  split
  · exact nt_wr (by omega) k hk
  · rfl
theorem cn_td {k14 : Bool} : cn (tgD T k14 w) = cn T := by
  unfold tgD
  split
  · exact cn_w (by omega)
  · rfl
theorem Ck.td {k14 : Bool} (h : Ck T) (hc : cn T < 6000) : Ck (tgD T k14 w) := by
  unfold tgD
  split
  · exact h.wr (by omega) hc
  · exact h
/-- what an assignment has noted -/
def SeQ (X : Lx) (ta tb : Tr) (T T' : gSt) (lo m hi : Nat) (y z : Int32) : Prop := AnE X T' tb (m + 1) hi z (chk X tb 0 0 (er T)).1 (chk X tb 0 0 (er T)).2.1 (chk X tb 0 0 (er T)).2.2.1 ∧ (if tkd X ta = 4 then T'.1 61 y.toNatClampNeg = tf (chk X tb 0 0 (er T)).2.2.2 79 (fd (isVa (chk X tb 0 0 (er T)).2.2.2 (xN X (lfI ta))) (vn (chk X tb 0 0 (er T)).2.2.2)) ∧ T'.1 60 y.toNatClampNeg = tf (chk X tb 0 0 (er T)).2.2.2 80 (fd (isVa (chk X tb 0 0 (er T)).2.2.2 (xN X (lfI ta))) (vn (chk X tb 0 0 (er T)).2.2.2)) else AnE X T' ta lo m y (chk X ta 0 0 (chk X tb 0 0 (er T)).2.2.2).1 (chk X ta 0 0 (chk X tb 0 0 (er T)).2.2.2).2.1 (chk X ta 0 0 (chk X tb 0 0 (er T)).2.2.2).2.2.1)
theorem x_se {c2 : Nat} {z : Int32} (hx : PI X) (hX : xn X ≤ 4000) (hnf : 8300 ≤ nf) (hA : CkE nf X ta) (hB : CkE nf X tb) (hlm : lo ≤ m) (hm : m < hi) (hhi : hi ≤ 8200) (hRa : RepM X T ta lo m y) (h52 : T.1 52 m = y) (hRb : RepM X T tb (m + 1) hi z) (h53 : T.1 53 m = z) (wa : Wf X ta false a c) (wb : Wf X tb false (c + 1) c2) (hc2 : c2 < b) (hbx : b ≤ xn X) (hC : Ck (er T)) (hs : T.1 94 0 = nI s) (hss : s + (hi - lo) ≤ 8200) (hd : 6 * dpT ta + 23 ≤ d) (hd2 : 6 * dpT tb + 23 ≤ d) (hUU : nU T ≤ 4000) (h0 : T.1 7 0 = 0) (hc : cn (seC X ta tb (er T)) < 6000) : wp (RR nf d 73 T [nI m] []) (fun _ _ T' => er T' = seC X ta tb (er T) ∧ Fm X T T' lo hi a b ∧ (T'.1 7 0 = 0 → SeQ X ta tb T T' lo m hi y z)) := by
  have zm : inb (nI m) 8200 := nin (by omega) (by omega)
  have cm : (nI m).toNatClampNeg = m := nc (by omega)
  have lea := Wf_le2 wa
  have leb := Wf_le2 wb
  obtain ⟨my, y1, y2, y3, y4, y5⟩ := RepM_nd ta _ _ _ _ _ hRa wa
  obtain ⟨mz, z1, z2, z3, z4, z5⟩ := RepM_nd tb _ _ _ _ _ hRb wb
  have zy : inb (nI my) 8200 := nin (by omega) (by omega)
  have cy : (nI my).toNatClampNeg = my := nc (by omega)
  have zz : inb (nI mz) 8200 := nin (by omega) (by omega)
  have cz : (nI mz).toNatClampNeg = mz := nc (by omega)
  have t30 := tkd_lt (X := X) ta
  have tk : ∀ k : Nat, k < 100 → (T.1 50 my = nI k ↔ tkd X ta = k) := by
    intro k hk
    rw [y5]
    exact ⟨fun h => nI_inj (by omega) (by omega) h, fun h => by rw [h]⟩
  have fb := chk_fe (X := X) tb 0 0 (er T)
  have gb := fb.tg hC.1
  have hcB : cn (chk X tb 0 0 (er T)).2.2.2 < 6000 := by
    unfold seC at hc
    by_cases c1 : (chk X tb 0 0 (er T)).2.2.2.1 7 0 = 0
    · rw [if_pos c1] at hc
      by_cases k1 : tkd X ta = 4
      · rw [if_pos k1] at hc
        by_cases k2 : 0 ≤ fd (isVa (chk X tb 0 0 (er T)).2.2.2 (xN X (lfI ta))) (vn (chk X tb 0 0 (er T)).2.2.2)
        · rw [if_pos k2] at hc
          have : cn (svS (chk X tb 0 0 (er T)).2.2.2 (fd (isVa (chk X tb 0 0 (er T)).2.2.2 (xN X (lfI ta))) (vn (chk X tb 0 0 (er T)).2.2.2)) (chk X tb 0 0 (er T)).1 (plT X tb)) = cn (ftS (chk X tb 0 0 (er T)).2.2.2 (chk X tb 0 0 (er T)).1 (tf (chk X tb 0 0 (er T)).2.2.2 80 (fd (isVa (chk X tb 0 0 (er T)).2.2.2 (xN X (lfI ta))) (vn (chk X tb 0 0 (er T)).2.2.2))) (plT X tb)) := by
            unfold svS
            split
            · exact cn_gv
            · rfl
          rw [this] at hc
          exact FE.ft.lt gb hc
        · rw [if_neg k2] at hc
          exact (FE.fl (a := 3) (by decide)).lt gb hc
      · rw [if_neg k1] at hc
        by_cases k2 : tkd X ta = 14 ∨ tkd X ta = 15 ∨ tkd X ta = 16
        · rw [if_pos k2] at hc
          exact (((chk_fe ta 0 0 _).tr FE.td).tr FE.ft).lt gb hc
        · rw [if_neg k2] at hc
          exact (FE.fl (a := 4) (by decide)).lt gb hc
    · rw [if_neg c1] at hc
      exact hc
  obtain ⟨d', rfl⟩ : ∃ g, d = g + 20 := ⟨d - 20, by omega⟩
  rw [e_Model_checkSet nf (d' + 19)]
  unfold rb_Model_checkSet
  refine wp_gd zm ?_
  rw [cm, h53]
  refine wp_bi (hB T (d' + 19) (m + 1) hi _ c2 s z hRb hhi wb (by omega) hC hs (by omega) (by omega) hUU hcB) ?_
  rintro ra _ T2 ⟨q1, q2, q3⟩
  obtain ⟨⟨sp2, hC2, hc2'⟩, hok2⟩ := ch_bh wb (by omega) hC hcB q1
  have fm2 : Fm X T T2 lo hi a b := q2.up (by omega) (by omega) (by omega) (by omega)
  unfold seC at hc ⊢
  rw [← q1] at hc ⊢
  by_cases c1 : ¬ T2.1 7 0 = 0
  · have c1' : ¬ (er T2).1 7 0 = 0 := c1
    rw [if_neg c1']
    exact wp_be (x_bd1 c1) (wp_f (by decide) (wp_some ⟨rfl, fm2, fun q => absurd q c1⟩))
  have c1 := Decidable.not_not.mp c1
  have c1' : (er T2).1 7 0 = 0 := c1
  rw [if_pos c1'] at hc ⊢
  obtain ⟨ea, an2⟩ := q3 c1
  have tRb := (hok2 c1).1
  refine wp_be (x_bd0 c1) (wp_t rfl (wp_gd zm ?_))
  have o : ∀ g, ¬ fE g → anF g = false → T2.1 g = T.1 g := sp2.1
  rw [o 52 (by omega) rfl, h52, y1]
  refine wp_v (wp_gd zy ?_)
  rw [cy, o 50 (by omega) rfl]
  generalize hRB : (chk X tb 0 0 (er T)).1 = rB at *
  have trF : ∀ S : gSt, FE (er T2) (er S) → cn S < 6000 → tF ra := fun S h hcS => by
    rw [ea]
    exact tF.of (T := S) (tRb.fe h hC2.1) hcS
  by_cases k1 : tkd X ta = 4
  · -- a var
    rw [if_pos k1] at hc ⊢
    refine wp_t ((tk 4 (by omega)).mpr k1) (wp_gd zy ?_)
    obtain ⟨m', n1, n2, n3⟩ := RepM_nm ta _ _ _ _ _ hRa wa k1
    have em : my = m' := nI_inj (by omega) (by omega) (y1.symm.trans n1)
    subst em
    have hv := hC2.2.2.2.2.2
    rw [sp2.2, n3]
    refine wp_be (x_var (T := T2) (n := vn T2) hv.1 hv.2.1 (by omega)) ?_
    have evr : fd (isVa (er T2) (xN X (lfI ta))) (vn (er T2)) = fd (isVa T2 (xN X (lfI ta))) (vn T2) := rfl
    rw [evr] at hc ⊢
    by_cases k2 : ¬ 0 ≤ fd (isVa T2 (xN X (lfI ta))) (vn T2)
    · simp only [if_neg k2] at hc ⊢
      have hb : ¬ (flT T2 3 (plT X ta)).1 7 0 = 0 := flT_bad (by decide)
      refine wp_gd zy ?_
      rw [o 51 (by omega) rfl, y4]
      refine wp_be x_fail ?_
      unfold rj_Model_checkSet_64
      exact wp_be (x_bd1 hb) (wp_f (by decide) (wp_some ⟨er_fl, fm2.tr (Fm.nt nt_fl) sp2, fun q => absurd q hb⟩))
    have k2 := Decidable.not_not.mp k2
    simp only [if_pos k2] at hc ⊢
    obtain ⟨j, j1, j2, j3⟩ := var_ok hC2 (show 0 ≤ fd (isVa (er T2) (xN X (lfI ta))) (vn (er T2)) from k2)
    have j1' : j < vn T2 := j1
    have j2' : fd (isVa T2 (xN X (lfI ta))) (vn T2) = nI j := j2
    have hv20 : vn T2 ≤ 20 := hv.2.1
    have zj : inb (nI j) 20 := nin (by omega) (by omega)
    have cj : (nI j).toNatClampNeg = j := nc (by omega)
    unfold SeQ
    rw [← q1, evr, j2']
    simp only [if_pos k1, cy, hRB]
    rw [j2'] at hc
    rw [← er_svS]
    have e79 : tf (er T2) 79 (nI j) = T2.1 79 j := by unfold tf; rw [cj]; rfl
    have e80 : tf (er T2) 80 (nI j) = T2.1 80 j := by unfold tf; rw [cj]; rfl
    rw [e79, e80]
    unfold rj_Model_checkSet_64
    refine wp_be (x_bd0 c1) (wp_t rfl (wp_gd zj (wp_gd zm ?_)))
    rw [cm, o 53 (by omega) rfl, h53, z1]
    refine wp_gd zz ?_
    rw [cz, cj, o 51 (by omega) rfl, z4]
    have tin : T2.1 80 j = 0 ∨ inb (T2.1 80 j) 6000 := by
      rcases j3 with h | ⟨p, h1, h2, h3⟩
      · exact Or.inl h
      · have h3' : p < cn T2 := h3
        have h1' : T2.1 80 j = nI p := h1
        exact Or.inr (by rw [h1']; exact nin (by omega) (by omega))
    have trC : inb (T2.1 80 j) 6000 → ¬ T2.1 80 j = 0 → rC (T2.1 67 (T2.1 80 j).toNatClampNeg) := fun _ h0 => by
      rcases j3 with h | ⟨p, h1, h2, h3⟩
      · exact absurd h h0
      · have h3' : p < cn T2 := h3
        have h1' : T2.1 80 j = nI p := h1
        rw [h1', nc (by omega)]
        exact rC2.rc (hC2.row h2 h3).2.1
    rw [x_fit (T := T2) (nf := nf) (d := d' + 15) hC2.2.2.2.1 (fun _ => trF T2 FE.rf hc2') (fun _ => tin) (fun _ => trC) (by omega), bis, ea]
    have esv : svS T2 (nI j) rB (plT X tb) = if (ftS T2 rB (T2.1 80 j) (plT X tb)).1 7 0 = 0 ∧ ¬ (ftS T2 rB (T2.1 80 j) (plT X tb)).1 83 0 = 0 then gvS (ftS T2 rB (T2.1 80 j) (plT X tb)) (T2.1 79 j) (T2.1 80 j) rB 1 else ftS T2 rB (T2.1 80 j) (plT X tb) := by
      unfold svS tf
      rw [cj]
    have sp4 : SP T2 (ftS T2 rB (T2.1 80 j) (plT X tb)) := SP.fe FE.ft
    have nt4 : ∀ k, anF k = true → (ftS T2 rB (T2.1 80 j) (plT X tb)).1 k = T2.1 k := fun k hk => nt_ft k hk
    rw [esv]
    have s79 : (ftS T2 rB (T2.1 80 j) (plT X tb)).1 79 j = T2.1 79 j := by rw [sp4.1 79 (by omega) rfl]
    have s80 : (ftS T2 rB (T2.1 80 j) (plT X tb)).1 80 j = T2.1 80 j := by rw [sp4.1 80 (by omega) rfl]
    generalize ftS T2 rB (T2.1 80 j) (plT X tb) = T4 at *
    refine wp_gd zj (wp_gd zy ?_)
    rw [cy, s79]
    refine wp_st (wp_gd zj (wp_gd zy ?_))
    rw [sI_ne (g' := 80) (by omega), s80]
    refine wp_st ?_
    have e5 : er (sI (sI T4 61 my (T2.1 79 j)) 60 my (T2.1 80 j)) = er T4 := by rw [er_a rfl, er_a rfl]
    have sp5 : SP T4 (sI (sI T4 61 my (T2.1 79 j)) 60 my (T2.1 80 j)) := (SP.an rfl).tr (SP.an rfl)
    have fm5 : Fm X T (sI (sI T4 61 my (T2.1 79 j)) 60 my (T2.1 80 j)) lo hi a b := ((fm2.tr (Fm.nt nt4) sp2).tr (Fm.fd (by omega) (by omega)) (sp2.tr sp4)).tr (Fm.t60 (by omega) (by omega)) ((sp2.tr sp4).tr (SP.an rfl))
    have v61 : (sI (sI T4 61 my (T2.1 79 j)) 60 my (T2.1 80 j)).1 61 my = T2.1 79 j := by rw [sI_ne (by omega), sI_v]
    have v60 : (sI (sI T4 61 my (T2.1 79 j)) 60 my (T2.1 80 j)).1 60 my = T2.1 80 j := sI_v
    have n5 : ∀ g, g ≠ 60 → g ≠ 61 → (sI (sI T4 61 my (T2.1 79 j)) 60 my (T2.1 80 j)).1 g = T4.1 g := fun g h1 h2 => by rw [sI_ne h1, sI_ne h2]
    have kp5 : Kp X T2 (sI (sI T4 61 my (T2.1 79 j)) 60 my (T2.1 80 j)) (m + 1) hi (c + 1) c2 := ((Kp.nt sp4 nt4).tr (Kp.a1 (SP.an rfl) A1.fd (by omega))).tr (Kp.t60 (by omega))
    generalize sI (sI T4 61 my (T2.1 79 j)) 60 my (T2.1 80 j) = T5 at *
    by_cases c4 : ¬ T4.1 7 0 = 0
    · have c5 : ¬ T5.1 7 0 = 0 := by rw [n5 7 (by omega) (by omega)]; exact c4
      rw [if_neg (show ¬ (T4.1 7 0 = 0 ∧ ¬ T4.1 83 0 = 0) from fun q => c4 q.1)]
      exact wp_be (x_bd1 c5) (wp_f (by decide) (wp_some ⟨e5, fm5, fun q => absurd q c5⟩))
    have c4 := Decidable.not_not.mp c4
    have c5 : T5.1 7 0 = 0 := by rw [n5 7 (by omega) (by omega)]; exact c4
    refine wp_be (x_bd0 c5) (wp_t rfl ?_)
    rw [n5 83 (by omega) (by omega)]
    have anB := AnE.kp (b := c2) (by omega) tb false _ c2 (m + 1) hi _ _ _ _ (Nat.le_refl _) wb kp5 an2
    rw [z1] at anB
    by_cases c6 : T4.1 83 0 = 0
    · rw [if_neg (show ¬ (T4.1 7 0 = 0 ∧ ¬ T4.1 83 0 = 0) from fun q => q.2 c6)]
      exact wp_t c6 (wp_some ⟨e5, fm5, fun _ => ⟨anB, v61, v60⟩⟩)
    · rw [if_pos (show T4.1 7 0 = 0 ∧ ¬ T4.1 83 0 = 0 from ⟨c4, c6⟩)]
      refine wp_f c6 (wp_gd zj (wp_gd zj ?_))
      rw [n5 79 (by omega) (by omega), n5 80 (by omega) (by omega), s79, s80]
      have rin : ¬ rB ≤ 0 → inb rB 6000 := fun h2 => by
        have := tRb.ok.inr (by omega) h2
        exact this
      refine wp_be (x_give (fun h => tin.resolve_left (fun e => h (by rw [e]; decide))) rin) (wp_some ⟨?_, fm5.tr (Fm.nt nt_gv) ((sp2.tr sp4).tr sp5), fun _ => ⟨?_, ?_, ?_⟩⟩)
      · rw [er_gv, er_gv, e5]
      · have swg : SPw T5 (gvS T5 (T2.1 79 j) (T2.1 80 j) rB 1) := ⟨fun k k1 _ _ => by unfold gvS; rw [sI_ne (by omega), sI_ne (by omega)], fun k _ => rfl⟩
        exact AnE.kp (T := T5) (b := c2) (by omega) tb false _ c2 (m + 1) hi _ _ _ _ (Nat.le_refl _) wb (Kp.nw swg nt_gv) anB
      · rw [nt_gv 61 rfl]; exact v61
      · rw [nt_gv 60 rfl]; exact v60
  rw [if_neg k1] at hc ⊢
  refine wp_f (fun h => k1 ((tk 4 (by omega)).mp h)) (wp_gd zy ?_)
  by_cases k2 : ¬ (tkd X ta = 14 ∨ tkd X ta = 15 ∨ tkd X ta = 16)
  · rw [if_neg k2] at hc ⊢
    have hb : ¬ (flT T2 4 (plT X ta)).1 7 0 = 0 := flT_bad (by decide)
    refine wp_f (fun h => k2 (Or.inl ((tk 14 (by omega)).mp h))) (wp_gd zy (wp_f (fun h => k2 (Or.inr (Or.inl ((tk 15 (by omega)).mp h)))) (wp_gd zy (wp_f (fun h => k2 (Or.inr (Or.inr ((tk 16 (by omega)).mp h)))) (wp_gd zy ?_)))))
    rw [o 51 (by omega) rfl, y4]
    exact wp_be x_fail (wp_some ⟨er_fl, fm2.tr (Fm.nt nt_fl) sp2, fun q => absurd q hb⟩)
  have k2 := Decidable.not_not.mp k2
  rw [if_pos k2] at hc ⊢
  have main : wp (rj_Model_checkSet_201 (RR nf (d' + 19)) nf T2 (nI m) ra (nI my)) (fun _ _ T' => er T' = ftS (tgD (chk X ta 0 0 (er T2)).2.2.2 (decide (tkd X ta = 14)) (chk X ta 0 0 (er T2)).2.1) rB (chk X ta 0 0 (er T2)).1 (plT X tb) ∧ Fm X T T' lo hi a b ∧ (T'.1 7 0 = 0 → SeQ X ta tb T T' lo m hi y z)) := by
    have fa := chk_fe (X := X) ta 0 0 (er T2)
    have g2 : Tg (er T2) := hC2.1
    have gA := fa.tg g2
    have hcD : cn (tgD (chk X ta 0 0 (er T2)).2.2.2 (decide (tkd X ta = 14)) (chk X ta 0 0 (er T2)).2.1) < 6000 := FE.ft.lt (FE.td.tg gA) hc
    have hcA : cn (chk X ta 0 0 (er T2)).2.2.2 < 6000 := by rw [cn_td] at hcD; exact hcD
    have repA : RepM X T2 ta lo m y := RepM.kp hRa sp2 (fun j j1 j2 => (q2.1 j (by omega)).2)
    have wA := hA T2 (d' + 19) lo m _ c s y repA (by omega) wa (by omega) hC2 (q2.2.2.2.trans hs) (by omega) (by omega) (by rw [sp_nU sp2]; exact hUU) hcA
    rw [y1] at wA
    unfold rj_Model_checkSet_201
    refine wp_bi wA ?_
    rintro rA _ T3 ⟨p1, p2, p3⟩
    obtain ⟨⟨sp3, hC3, hc3⟩, hok3⟩ := ch_bh wa (by omega) hC2 hcA p1
    have fm3 : Fm X T T3 lo hi a b := fm2.tr (p2.up (by omega) (by omega) (by omega) (by omega)) sp2
    have spT3 : SP T T3 := sp2.tr sp3
    have fe3 : FE (er T2) (er T3) := by rw [p1]; exact fa
    have rest : ∀ S : gSt, S = tgD T3 (decide (tkd X ta = 14)) (chk X ta 0 0 (er T2)).2.1 → wp (rj_Model_checkSet_261 (RR nf (d' + 19)) nf S (nI m) ra rA) (fun _ _ T' => er T' = ftS (tgD (chk X ta 0 0 (er T2)).2.2.2 (decide (tkd X ta = 14)) (chk X ta 0 0 (er T2)).2.1) rB (chk X ta 0 0 (er T2)).1 (plT X tb) ∧ Fm X T T' lo hi a b ∧ (T'.1 7 0 = 0 → SeQ X ta tb T T' lo m hi y z)) := by
      intro S hS
      have eS : er S = tgD (chk X ta 0 0 (er T2)).2.2.2 (decide (tkd X ta = 14)) (chk X ta 0 0 (er T2)).2.1 := by rw [hS, er_tgD, p1]
      have spS' : SP T3 S := by rw [hS]; exact SP.fe FE.td
      have ntS : ∀ k, anF k = true → S.1 k = T3.1 k := by rw [hS]; exact nt_td
      have s7 : S.1 7 0 = T3.1 7 0 := by
        rw [hS]
        unfold tgD
        split
        · rw [sI_ne (by omega)]
        · rfl
      have hCS : Ck (er S) := by rw [eS, ← p1]; exact hC3.td hc3
      have hcS : cn S < 6000 := by rw [← er_cn, eS]; exact hcD
      have feS : FE (er T2) (er S) := fe3.tr (by rw [eS, p1]; exact FE.td)
      have spTS : SP T S := spT3.tr spS'
      unfold rj_Model_checkSet_261
      refine wp_gd zm ?_
      rw [cm, spTS.1 53 (by omega) rfl, h53, z1]
      refine wp_gd zz ?_
      rw [cz, spTS.1 51 (by omega) rfl, z4]
      have tV3 : T3.1 7 0 = 0 → tV (er S) rA := fun h => by
        have h' : (chk X ta 0 0 (er T2)).2.2.2.1 7 0 = 0 := by rw [← p1]; exact h
        have tv : tV (er T3) (chk X ta 0 0 (er T2)).1 := by
          rw [p1]
          rcases k2 with k | k | k
          · obtain ⟨p, _, _, _, _, h5⟩ := (hok3 h).2 (Or.inl k)
            exact h5
          · obtain ⟨p, _, _, _, _, h5⟩ := (hok3 h).2 (Or.inr k)
            exact h5
          · exact iv_ca ta _ _ _ wa (by omega) hC2 hcA h' k
        rw [(p3 h).1]
        exact tv.fe (by rw [eS, ← p1]; exact FE.td) hC3.1
      have tin : S.1 7 0 = 0 → rA = 0 ∨ inb rA 6000 := fun h => by
        rw [s7] at h
        rcases tV3 h with h | ⟨p, h1, h2, h3⟩
        · exact Or.inl h
        · have h3' : p < cn S := h3
          exact Or.inr (by rw [h1]; exact nin (by omega) (by omega))
      have trC : S.1 7 0 = 0 → inb rA 6000 → ¬ rA = 0 → rC (S.1 67 rA.toNatClampNeg) := fun h _ h0 => by
        rw [s7] at h
        rcases tV3 h with h | ⟨p, h1, h2, h3⟩
        · exact absurd h h0
        · have h3' : p < cn S := h3
          rw [h1, nc (by omega)]
          exact rC2.rc (hCS.row h2 h3).2.1
      rw [x_fit (T := S) (nf := nf) (d := d' + 15) hCS.2.2.2.1 (fun _ => trF S feS hcS) tin trC (by omega), bis, ea]
      have eft : ftS S rB rA (plT X tb) = ftS S rB (chk X ta 0 0 (er T2)).1 (plT X tb) := by
        by_cases g : S.1 7 0 = 0
        · rw [(p3 (by rw [← s7]; exact g)).1]
        · rw [ftS_er_bad g, ftS_er_bad g]
      rw [eft]
      have sp4 : SP S (ftS S rB (chk X ta 0 0 (er T2)).1 (plT X tb)) := SP.fe FE.ft
      have nt4 : ∀ k, anF k = true → (ftS S rB (chk X ta 0 0 (er T2)).1 (plT X tb)).1 k = T3.1 k := fun k hk => (nt_ft k hk).trans (ntS k hk)
      have b4 : ¬ S.1 7 0 = 0 → ¬ (ftS S rB (chk X ta 0 0 (er T2)).1 (plT X tb)).1 7 0 = 0 := fun h => by rw [ftS_er_bad h]; exact h
      refine wp_some ⟨by rw [er_ftS, eS], fm3.tr (Fm.nt nt4) spT3, fun q => ?_⟩
      have t30' : T3.1 7 0 = 0 := by
        by_cases g : S.1 7 0 = 0
        · rw [← s7]; exact g
        · exact absurd q (b4 g)
      have kp4 : ∀ l h a b, Kp X T3 (ftS S rB (chk X ta 0 0 (er T2)).1 (plT X tb)) l h a b := fun l h a b => Kp.nt (spS'.tr sp4) nt4
      unfold SeQ
      rw [if_neg k1, ← q1, hRB]
      refine ⟨AnE.kp (b := c2) (by omega) tb false _ c2 (m + 1) hi _ _ _ _ (Nat.le_refl _) wb ((Kp.fm hx sp3 p2 (by omega) (by omega) (by omega) (by omega)).tr (kp4 _ _ _ _)) (by rw [← z1]; exact an2), AnE.kp (b := c) (by omega) ta false _ c lo m _ _ _ _ (Nat.le_refl _) wa (kp4 _ _ _ _) (by rw [y1]; exact (p3 t30').2)⟩
    by_cases c3 : ¬ T3.1 7 0 = 0
    · refine wp_be (x_bd1 c3) (wp_f (by decide) (rest T3 ?_))
      unfold tgD
      rw [if_neg (fun q => c3 q.1)]
    have c3 := Decidable.not_not.mp c3
    refine wp_be (x_bd0 c3) (wp_t rfl (wp_gd zy ?_))
    rw [cy, spT3.1 50 (by omega) rfl]
    by_cases k14 : tkd X ta = 14
    · refine wp_t ((tk 14 (by omega)).mpr k14) (wp_gd zy ?_)
      obtain ⟨m', l, l1, l1b, l2, l3, l4, l5⟩ := AnE_lf ta _ _ _ _ _ _ _ _ (p3 c3).2 wa (Or.inl k14)
      have em : my = m' := nI_inj (by omega) (by omega) l1
      subst em
      have zl : inb (nI l) 8200 := nin (by omega) (by omega)
      have cl : (nI l).toNatClampNeg = l := nc (by omega)
      obtain ⟨p, g1, g2', g3, g4, g5⟩ := (hok3 c3).2 (Or.inl k14)
      rw [← p1] at g3 g4
      have g3' : p < cn T3 := g3
      have g4' : 0 ≤ T3.1 69 p := g4 k14
      have cp : (nI p).toNatClampNeg = p := nc (by omega)
      rw [l2]
      refine wp_gd zl ?_
      rw [cl, l5]
      refine wp_gd (by rw [g1]; exact nin (by omega) (by omega)) ?_
      have o5 := (hC3.row g2' g3).2.2.2.2
      rw [if_pos (show 0 ≤ (er T3).1 69 p from g4')] at o5
      obtain ⟨u, u1, u2⟩ := o5
      have u1' : T3.1 69 p = nI u := u1
      have u2' : u < inn T3 := u2
      have h24 : inn T3 ≤ 24 := hC3.2.2.2.2.1.2.1
      have et69 : T3.1 69 (chk X ta 0 0 (er T2)).2.1.toNatClampNeg = nI u := by rw [g1, cp]; exact u1'
      rw [et69]
      refine wp_gd (nin (by omega) (by omega)) ?_
      have e69 : tf T3 69 (chk X ta 0 0 (er T2)).2.1 = nI u := by unfold tf; rw [g1, cp]; exact u1'
      by_cases k5 : T3.1 12 (nI u).toNatClampNeg = 1
      · refine wp_t k5 (wp_st (rest _ ?_))
        unfold tgD
        rw [e69, if_pos ⟨c3, decide_eq_true k14, k5⟩]
      · refine wp_f k5 (rest T3 ?_)
        unfold tgD
        rw [e69, if_neg (fun q => k5 q.2.2)]
    · refine wp_f (fun h => k14 ((tk 14 (by omega)).mp h)) (rest T3 ?_)
      unfold tgD
      rw [if_neg (fun q => k14 (of_decide_eq_true q.2.1))]
  rw [y1] at main
  by_cases k14 : tkd X ta = 14
  · exact wp_t ((tk 14 (by omega)).mpr k14) main
  refine wp_f (fun h => k14 ((tk 14 (by omega)).mp h)) (wp_gd zy ?_)
  by_cases k15 : tkd X ta = 15
  · exact wp_t ((tk 15 (by omega)).mpr k15) main
  refine wp_f (fun h => k15 ((tk 15 (by omega)).mp h)) (wp_gd zy ?_)
  exact wp_t ((tk 16 (by omega)).mpr ((k2.resolve_left k14).resolve_left k15)) main
end SE
