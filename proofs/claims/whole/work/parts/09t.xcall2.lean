/-! a call, whole -/
section XD
variable {nf d : Nat} {T T' T1 : gSt} {X : Lx} {m n p u i k e l lo hi a b s f q v : Nat} {x y r w all z : Int32} {t ta tb : Tr} {nm : Int64}
theorem wa_use : ∀ (m k : Nat) (T : gSt) (w : Int32), Ck (er T) → cn T < 6000 → k + m ≤ 3 → PK w k → (∀ j, j < k → T.1 48 (u + j) = ptOf w (nI j)) → (∀ j, j < m → usN X T (u + (k + j)) (q + (k + j))) → (waT m T u k w).2.1 7 0 = 0 → ∀ j, j < k + m → (waT m T u k w).2.1 48 (u + j) = ptOf (waT m T u k w).1 (nI j) := by
  intro m
  induction m with
  | zero => intro k T w _ _ _ _ h _ _ j hj; exact h j hj
  | succ m ih =>
    intro k T w hC hc hk hp h hu hb j hj
    rw [waT] at hb ⊢
    by_cases c : T.1 7 0 = 0
    · rw [if_pos c] at hb ⊢
      have h0 := hu 0 (by omega)
      rw [Nat.add_zero] at h0
      have eS := us_S h0
      have eR := us_R h0
      have hC1 : Ck (er (rgAtS T (rn T) (u + k))) := by rw [eS]; exact hC.sr hc
      have hc1 : cn (rgAtS T (rn T) (u + k)) < 6000 := by
        unfold cn
        rw [rgAtS_o (by omega) (by omega) (by omega)]
        exact hc
      have hrr : rC2 (rgAtR T (rn T) (u + k)) := by rw [eR]; exact rg_ok hC.2.2
      have st := hp.st (by omega) hrr
      have hk0 : 0 ≤ rgN T (rn T) (u + k) := by
        by_cases g : 0 ≤ rgN T (rn T) (u + k)
        · exact g
        · exfalso
          have hbad : ¬ (rgAtS T (rn T) (u + k)).1 7 0 = 0 := by
            unfold rgAtS
            rw [if_neg g, sI_ne (by omega)]
            exact flT_bad (by decide)
          have : ∀ (m k : Nat) (S : gSt) (w : Int32), ¬ S.1 7 0 = 0 → (waT m S u k w).2 = S := by
            intro m k S w hS
            cases m with
            | zero => rfl
            | succ m => rw [waT, if_neg hS]
          rw [this _ _ _ _ hbad] at hb
          exact hbad hb
      refine ih (k + 1) _ _ hC1 hc1 (by omega) st.1 ?_ ?_ hb j (by omega)
      · intro j2 hj2
        by_cases e : j2 = k
        · subst e
          rw [st.2.1]
          unfold rgAtS rgAtR
          rw [if_pos hk0, if_pos hk0, sI_v]
        · rw [rgAt_48 (by omega), st.2.2 j2 (by omega)]
          exact h j2 (by omega)
      · intro j2 hj2
        have := hu (j2 + 1) (by omega)
        unfold usN
        rw [rgAtS_o (k := 47) (by omega) (by omega) (by omega), rgAtS_j, show k + 1 + j2 = k + (j2 + 1) from by omega]
        exact this
    · rw [if_neg c] at hb
      exact absurd hb c
theorem Fm.wa (hq : a ≤ q) (hq2 : q + m ≤ b) (hu : ∀ j, j < m → T.1 47 (u + j) = nI (xP X (q + j))) : Fm X T (waT m T u 0 w).2 lo hi a b := by
  refine ⟨fun j _ => ?_, fun j => ?_, fun j _ => ?_, ?_⟩
  · rw [waT_o (by omega) (by omega) (by omega), waT_o (by omega) (by omega) (by omega)]
    exact ⟨rfl, rfl⟩
  · by_cases c : j < u ∨ u + m ≤ j
    · exact Or.inl (waT_48 _ _ _ _ (by omega))
    · refine Or.inr ⟨q + (j - u), by omega, by omega, ?_⟩
      have := hu (j - u) (by omega)
      rw [show u + (j - u) = j from by omega] at this
      exact this
  · rw [waT_o (by omega) (by omega) (by omega)]
  · rw [waT_o (by omega) (by omega) (by omega)]
theorem lvS_o {k : Nat} (h : k ≠ 7) (h2 : k ≠ 8) (h3 : k ≠ 48) : (lvS T p).1 k = T.1 k := by
  unfold lvS
  split
  · rw [flT_o h h2, rgAtS_o h h2 h3]
  · exact rgAtS_o h h2 h3
theorem lvS_48 {j : Nat} (h : j ≠ p) : (lvS T p).1 48 j = T.1 48 j := by
  unfold lvS
  split
  · rw [flT_o (by omega) (by omega), rgAt_48 h]
  · exact rgAt_48 h
theorem lvS_use (hb : (lvS T p).1 7 0 = 0) : (lvS T p).1 48 p = rgAtR T (rn T) p := by
  have h1 : (rgAtS T (rn T) p).1 7 0 = 0 := by
    unfold lvS at hb
    split at hb
    · exact absurd hb (flT_bad (by decide))
    · exact hb
  have hk0 : 0 ≤ rgN T (rn T) p := by
    by_cases g : 0 ≤ rgN T (rn T) p
    · exact g
    · exfalso
      unfold rgAtS at h1
      rw [if_neg g, sI_ne (by omega)] at h1
      exact flT_bad (by decide) h1
  unfold lvS
  unfold rgAtS rgAtR
  rw [if_pos hk0, if_pos hk0]
  split
  · rw [flT_o (by omega) (by omega), sI_v]
  · rw [sI_v]
theorem Fm.lv (hq : a ≤ q) (hq2 : q < b) (hu : T.1 47 p = nI (xP X q)) : Fm X T (lvS T p) lo hi a b := by
  refine ⟨fun j _ => ?_, fun j => ?_, fun j _ => ?_, ?_⟩
  · rw [lvS_o (by omega) (by omega) (by omega), lvS_o (by omega) (by omega) (by omega)]
    exact ⟨rfl, rfl⟩
  · by_cases c : j = p
    · exact Or.inr ⟨q, hq, hq2, by rw [c]; exact hu⟩
    · exact Or.inl (lvS_48 c)
  · rw [lvS_o (by omega) (by omega) (by omega)]
  · rw [lvS_o (by omega) (by omega) (by omega)]
theorem lvS_sp (hu : usN X T p q) : SP T (lvS T p) := SP.of (by rw [us_L hu]; exact FE.sl)
theorem RepU.us (h : RepU X T u i e) (hj : n < e) : usN X T (u + n) (i + n) := h.2 n hj
def ClQ (X : Lx) (ta : Tr) (T : gSt) (lo hi a b i e u : Nat) (z r : Int32) (T' : gSt) : Prop := er T' = (clC X (chk X ta) ta i e (er T)).2.2.2 ∧ Fm X T T' lo hi a b ∧ (T'.1 7 0 = 0 → r = (clC X (chk X ta) ta i e (er T)).1 ∧ ∃ l0 w, AnE X T' ta (lo + 1) hi z 0 0 l0 ∧ (∀ j, j < e → T'.1 48 (u + j) = ptOf w (nI j)) ∧ (clC X (chk X ta) ta i e (er T)).2.2.1 = l0 ++ [j1 18 (T'.1 61 lo) w (clC X (chk X ta) ta i e (er T)).1 (nI e)] ∧ (clC X (chk X ta) ta i e (er T)).2.1 = 0)
theorem cl_no (A : ChF) (h0 : T.1 7 0 = 0) (h : ¬ 0 ≤ ff (isFu T (xN X i)) 0 (inn T)) : clC X A ta i e T = erR (flT T 3 (nI (xP X i))) := by
  have hb : ¬ (flT T 3 (nI (xP X i))).1 7 0 = 0 := flT_bad (by decide)
  unfold clC
  simp only [if_neg h, if_neg hb, waX]
theorem cl_no7 (A : ChF) (h0 : T.1 7 0 = 0) (h : ff (isFu T (xN X i)) 0 (inn T) = nI u) (hu : u < 24) (h7 : ¬ T.1 15 u = nI e) : clC X A ta i e T = erR (flT T 7 (nI (xP X i))) := by
  have hb : ¬ (flT T 7 (nI (xP X i))).1 7 0 = 0 := flT_bad (by decide)
  have h1 : (0 : Int32) ≤ nI u := (nI_leI (a := 0) (b := u) (by omega) (by omega)).mpr (by omega)
  unfold clC
  rw [h]
  simp only [if_pos h1, nc (show u < 100000 by omega), if_neg h7, if_neg hb, waX]
def clE (X : Lx) (A : ChF) (a : Tr) (i e : Nat) (fi : Int32) (W : Int32 × gSt) : ChR :=
  if W.2.1 7 0 = 0 then
    (if (clD X A a i e fi W.1 W.2).2.1 7 0 = 0 then (if 0 ≤ (clD X A a i e fi W.1 W.2).2.1 25 fi.toNatClampNeg then ((chT 7 (clD X A a i e fi W.1 W.2).2 ((clD X A a i e fi W.1 W.2).2.1 26 fi.toNatClampNeg) W.1).1, 0, (clD X A a i e fi W.1 W.2).1.2.2.1 ++ [j1 18 fi W.1 (chT 7 (clD X A a i e fi W.1 W.2).2 ((clD X A a i e fi W.1 W.2).2.1 26 fi.toNatClampNeg) W.1).1 (nI e)], (chT 7 (clD X A a i e fi W.1 W.2).2 ((clD X A a i e fi W.1 W.2).2.1 26 fi.toNatClampNeg) W.1).2)
      else (-1, 0, (clD X A a i e fi W.1 W.2).1.2.2.1 ++ [j1 18 fi W.1 (-1) (nI e)], (clD X A a i e fi W.1 W.2).2))
    else erR (clD X A a i e fi W.1 W.2).2)
  else erR W.2
theorem cl_ok (A : ChF) (h0 : T.1 7 0 = 0) (h : ff (isFu T (xN X i)) 0 (inn T) = nI u) (hu : u < 24) (h7 : T.1 15 u = nI e) : clC X A ta i e T = clE X A ta i e (nI u) (waX X e T (i + 1) 0 0) := by
  have h1 : (0 : Int32) ≤ nI u := (nI_leI (a := 0) (b := u) (by omega) (by omega)).mpr (by omega)
  unfold clC clE
  rw [h]
  simp only [if_pos h1, nc (show u < 100000 by omega), if_pos h7, if_pos h0]
theorem x_cl (hx : PI X) (hX : xn X ≤ 4000) (hnf : 8300 ≤ nf) (hA : CkL nf X ta) {c : Nat} (hc1 : c ≤ b) (hz : RepM X T ta (lo + 1) hi z) (hlo : lo < hi) (hhi : hi ≤ 8200) (h56 : nmd X T lo i) (h58 : T.1 58 lo = nI u) (h59 : T.1 59 lo = nI e) (hU : RepU X T u (i + 1) e) (h52 : T.1 52 lo = z) (h53 : T.1 53 lo = nI (lenT ta)) (he : e ≤ 3) (hai : a = i) (hw : Wf X ta true (i + 1 + e + 1) c) (hbx : b ≤ xn X) (hC : Ck (er T)) (hs : T.1 94 0 = nI s) (hss : s + (hi - lo) ≤ 8200) (hd : 6 * dpT ta + 21 ≤ d) (hUU : nU T ≤ 4000) (h0 : T.1 7 0 = 0) (hc : cn (clC X (chk X ta) ta i e (er T)).2.2.2 < 6000) : wp (RR nf (d + 1) 95 T [nI lo] []) (fun r _ T' => ClQ X ta T lo hi a b i e u z r T') := by
  have zm : inb (nI lo) 8200 := nin (by omega) (by omega)
  have cm : (nI lo).toNatClampNeg = lo := nc (by omega)
  have hWle := (Wf_le ta true _ _ hw).2 rfl
  have h24 : inn T ≤ 24 := hC.2.2.2.2.1.2.1
  have h11 : T.1 11 0 = nI (inn T) := hC.2.2.2.2.1.1
  have hcT : cn T < 6000 := (fe_cl (X := X) (ta := ta) (i := i) (e := e) (T := er T) (chk_fe ta)).lt hC.1 hc
  have hue : u + e ≤ 4000 := by have := hU.1; omega
  have hnf6 : 6000 ≤ nf := by omega
  obtain ⟨d', rfl⟩ : ∃ g, d = g + 20 := ⟨d - 20, by omega⟩
  rw [e_Model_checkCall nf (d' + 20)]
  unfold rb_Model_checkCall
  refine wp_gd zm ?_
  rw [cm, h56.1]
  refine wp_be (x_fun h11 h24 (by omega)) ?_
  rw [h59, h56.2]
  have hbad : ∀ (T2 : gSt) (fi : Int32), ¬ T2.1 7 0 = 0 → SP T T2 → Rg T2 → wp (rj_Model_checkCall_56 (RR nf (d' + 20)) nf T2 (nI lo) fi) (fun r _ T' => T' = T2) := by
    intro T2 fi hb hsp hR2
    unfold rj_Model_checkCall_56
    refine wp_gd zm (wp_be (x_bd1 hb) (wp_f (by decide) ?_))
    rw [cm, hsp.1 58 (by omega) rfl, h58]
    unfold rj_Model_checkCall_80
    refine wp_be (x_wth (u := u) (m := 0) hR2 (by omega) (by omega) (by omega)) ?_
    exact wp_be (x_bd1 hb) (wp_f (by decide) (wp_some rfl))
  have hRg : Rg T := hC.2.2.1.1
  unfold ClQ
  have k0 : (er T).1 7 0 = 0 := h0
  by_cases k1 : ¬ 0 ≤ ff (isFu T (xN X i)) 0 (inn T)
  · rw [cl_no (chk X ta) k0 (show ¬ 0 ≤ ff (isFu (er T) (xN X i)) 0 (inn (er T)) from k1)]
    refine wp_f k1 (wp_gd zm (wp_be x_fail ?_))
    have hb : ¬ (flT T 3 (nI (xP X i))).1 7 0 = 0 := flT_bad (by decide)
    refine wp_mono (hbad _ _ hb (SP.fe (FE.fl (by decide))) (by unfold Rg rn; rw [flT_o (by omega) (by omega)]; exact hRg)) ?_
    rintro r _ T' rfl
    exact ⟨er_fl, Fm.nt nt_fl, fun q => absurd q hb⟩
  have k1 := Decidable.not_not.mp k1
  obtain ⟨f0, f1, f2, cf⟩ := fu_ok hC (show 0 ≤ ff (isFu (er T) (xN X i)) 0 (inn (er T)) from k1)
  have f1' : ff (isFu T (xN X i)) 0 (inn T) = nI f0 := f1
  have f2' : f0 < inn T := f2
  have zf : inb (nI f0) 24 := nin (by omega) (by omega)
  refine wp_t k1 ?_
  rw [f1']
  refine wp_gd zf (wp_gd zm ?_)
  rw [cf]
  by_cases k2 : ¬ T.1 15 f0 = nI e
  · rw [cl_no7 (chk X ta) k0 f1 (by omega) (show ¬ (er T).1 15 f0 = nI e from k2)]
    refine wp_f k2 (wp_gd zm (wp_be x_fail ?_))
    have hb : ¬ (flT T 7 (nI (xP X i))).1 7 0 = 0 := flT_bad (by decide)
    refine wp_mono (hbad _ _ hb (SP.fe (FE.fl (by decide))) (by unfold Rg rn; rw [flT_o (by omega) (by omega)]; exact hRg)) ?_
    rintro r _ T' rfl
    exact ⟨er_fl, Fm.nt nt_fl, fun q => absurd q hb⟩
  have k2 := Decidable.not_not.mp k2
  rw [cl_ok (chk X ta) k0 f1 (by omega) (show (er T).1 15 f0 = nI e from k2)] at hc ⊢
  refine wp_t k2 ?_
  unfold rj_Model_checkCall_56
  refine wp_gd zm (wp_be (x_bd0 h0) (wp_t rfl (wp_gd zm ?_)))
  rw [cm, h58, h59]
  unfold rj_Model_checkCall_80
  refine wp_be (x_wth (u := u) (m := e) hRg (by omega) he hue) ?_
  have hus : ∀ j, j < e → usN X T (u + (0 + j)) (i + 1 + (0 + j)) := fun j hj => by rw [Nat.zero_add]; exact hU.us hj
  have eW := us_W (X := X) (u := u) (q := i + 1) e 0 T 0 hus
  have wC := Ck.wa (X := X) (q := i + 1) e 0 (er T) 0 hC hcT (by omega) PK.zr
  have wU := wa_use (X := X) (u := u) (q := i + 1) e 0 T 0 hC hcT (by omega) PK.zr (fun j hj => by omega) hus
  have wF : Fm X T (waT e T u 0 0).2 lo hi a b := Fm.wa (q := i + 1) (by omega) (by omega) (fun j hj => (hU.us hj).2)
  have feW : FE (er T) (waX X e (er T) (i + 1) 0 0).2 := FE.wa _ _ _ _
  have w61 : (waT e T u 0 0).2.1 61 = T.1 61 := waT_o (by omega) (by omega) (by omega) _ _ _ _
  have w94 : (waT e T u 0 0).2.1 94 = T.1 94 := waT_o (by omega) (by omega) (by omega) _ _ _ _
  rw [eW] at wC hc feW ⊢
  have spW : SP T (waT e T u 0 0).2 := SP.of feW
  generalize waT e T u 0 0 = W at *
  obtain ⟨all, S⟩ := W
  simp only at wC wU wF feW spW hc w61 w94 ⊢
  unfold clE at hc ⊢
  simp only at hc ⊢
  by_cases k3 : ¬ S.1 7 0 = 0
  · have k3' : ¬ (er S).1 7 0 = 0 := k3
    rw [if_neg k3']
    refine wp_be (x_bd1 k3) (wp_f (by decide) (wp_some ⟨rfl, wF, fun q => absurd q k3⟩))
  have k3 := Decidable.not_not.mp k3
  have k3' : (er S).1 7 0 = 0 := k3
  rw [if_pos k3'] at hc ⊢
  have wU := wU k3
  obtain ⟨hCS, hcS, hPK⟩ := wC
  have hcS' : cn S < 6000 := by have : cn (er S) = cn (er T) := hcS; rw [er_cn, er_cn] at this; omega
  refine wp_be (x_bd0 k3) (wp_t rfl (wp_gd zm (wp_gd zf ?_)))
  have fS : f0 < inn (er S) := by rw [feW.einn]; exact f2
  have o : ∀ g, ¬ fE g → anF g = false → S.1 g = T.1 g := spW.1
  rw [cm, cf, o 53 (by omega) rfl, h53, o 57 (by omega) rfl, h56.2]
  obtain ⟨c0, m0, r0, w0, b1, b2, b3, b4, b5, b6, b7, b8, b9, b10, b11⟩ := hCS.2.2.2.2.1.2.2 f0 fS
  have b1' : S.1 18 f0 = nI c0 := b1
  have b5' : S.1 15 f0 = nI r0 := b5
  have er0 : r0 = e := by
    rw [o 15 (by omega) rfl, k2] at b5'
    exact (nI_inj (by omega) (by omega) b5').symm
  subst er0
  -- what comes behind the arguments
  have rest : ∀ T2 : gSt, FE (er S) (er T2) → Ck (er T2) → cn T2 < 6000 → rl_Model_checkCall_130 (RR nf (d' + 20)) nf nf T2 (nI lo) (nI f0) all 0 = rj_Model_checkCall_317 (RR nf (d' + 20)) nf (cwhS X (nI f0) all (i + 1) w0 0 (cddS X (nI f0) all (i + 1) r0 0 T2)) (nI lo) (nI f0) all := by
    intro T2 fe2 hC2 hc2
    have sp2 : SP T T2 := spW.tr (SP.of fe2)
    have hi2 : f0 < inn (er T2) := by rw [fe2.einn]; exact fS
    have e1 := cd_l (nf := nf) (d := d' + 19) (X := X) (q := i + 1) (all := all) (f := f0) (u := u) (e := r0) (m := lo) (by omega) (by omega) hue he (by omega) r0 nf 0 T2 (by omega) (by omega) (by rw [sp2.1 59 (by omega) rfl]; exact h59) (by rw [sp2.1 58 (by omega) rfl]; exact h58) (fun j hj => by rw [sp2.1 47 (by omega) rfl]; exact (hU.us hj).2)
    refine e1.trans ?_
    have fe3 : FE T2 (cddS X (nI f0) all (i + 1) r0 0 T2) := FE.cd _ _ _
    have hC3 : Ck (er (cddS X (nI f0) all (i + 1) r0 0 T2)) := by rw [er_cd]; exact (Ck.cd _ _ _ hC2 hc2).1
    have sp3 : SP T (cddS X (nI f0) all (i + 1) r0 0 T2) := sp2.tr (SP.fe fe3)
    generalize cddS X (nI f0) all (i + 1) r0 0 T2 = T3 at *
    have hi3 : f0 < inn (er T3) := by
      have : inn T3 = inn T2 := fe3.einn
      show f0 < inn T3
      rw [this]
      exact hi2
    obtain ⟨c3, m3, r3, w3, d1, d2, d3, d4, d5, d6, d7, d8, d9, d10, d11⟩ := hC3.2.2.2.2.1.2.2 f0 hi3
    have d5' : T3.1 15 f0 = nI r3 := d5
    have d7' : T3.1 31 f0 = nI w3 := d7
    have b7' : S.1 31 f0 = nI w0 := b7
    have er3 : r3 = r0 := by
      rw [sp3.1 15 (by omega) rfl, k2] at d5'
      exact (nI_inj (by omega) (by omega) d5').symm
    have ew3 : w3 = w0 := by
      rw [sp3.1 31 (by omega) rfl, ← o 31 (by omega) rfl, b7'] at d7'
      exact (nI_inj (by omega) (by omega) d7').symm
    subst er3
    subst ew3
    exact cw_l (nf := nf) (d := d' + 18) (X := X) (q := i + 1) (all := all) (f := f0) (u := u) (e := r3) (m := lo) (n := w3) (by omega) (by omega) hue he b8 (by omega) hPK w3 nf 0 T3 (by omega) (by omega) d7 d5 (by rw [sp3.1 58 (by omega) rfl]; exact h58) (fun j hj => by rw [sp3.1 47 (by omega) rfl]; exact (hU.us hj).2) d11 hC3.2.2.2.1
  have b317 : ∀ T3 : gSt, ¬ T3.1 7 0 = 0 → wp (rj_Model_checkCall_317 (RR nf (d' + 20)) nf T3 (nI lo) (nI f0) all) (fun r _ T' => T' = T3) := by
    intro T3 h3
    unfold rj_Model_checkCall_317
    exact wp_be (x_bd1 h3) (wp_f (by decide) (wp_some rfl))
  have cdb : ∀ T3 : gSt, ¬ T3.1 7 0 = 0 → cddS X (nI f0) all (i + 1) r0 0 T3 = T3 := by
    intro T3 h3
    cases r0 with
    | zero => rfl
    | succ n => rw [cddS, if_neg h3]
  have cwb : ∀ (n : Nat) (T3 : gSt), ¬ T3.1 7 0 = 0 → cwhS X (nI f0) all (i + 1) n 0 T3 = T3 := by
    intro n T3 h3
    cases n with
    | zero => rfl
    | succ n => rw [cwhS, if_neg h3]
  have zS : ∀ S2 : gSt, SP T S2 → S2.1 18 f0 = nI c0 → ¬ S2.1 7 0 = 0 → RR nf (d' + 20) 94 S2 [nI lo, nI f0, all] [] = some (0, 0, S2) := by
    intro S2 sp2 h18 hb
    rw [e_Model_fitAll nf (d' + 19)]
    unfold rb_Model_fitAll
    simp only [gd, if_pos zf, vK, if_pos zm, cm, cf]
    rw [sp2.1 52 (by omega) rfl, h52]
    obtain ⟨g, rfl⟩ : ∃ g, nf = g + 1 := ⟨nf - 1, by omega⟩
    rw [rl_Model_fitAll_16]
    by_cases zz : z < 0
    · rw [if_pos zz]
    · rw [if_neg zz, x_bd1 hb]
      rfl
  have gS : Tg (er S) := hCS.1
  by_cases k4 : ¬ nI (lenT ta) = S.1 19 f0
  · -- another number of arguments
    have hb : ¬ (flT S 7 (nI (xP X i))).1 7 0 = 0 := flT_bad (by decide)
    have hbe : ¬ (flT (er S) 7 (nI (xP X i))).1 7 0 = 0 := flT_bad (by decide)
    have hD : (clD X (chk X ta) ta i r0 (nI f0) all (er S)).2 = flT (er S) 7 (nI (xP X i)) := by
      have k4' : ¬ nI (lenT ta) = (er S).1 19 f0 := k4
      have e0 : (nI f0).toNatClampNeg = f0 := cf
      unfold clD
      simp only [e0, if_neg k4', if_neg hbe]
      rw [show (erR (flT (er S) 7 (nI (xP X i)))).2.2.2 = flT (er S) 7 (nI (xP X i)) from rfl, cdb _ hbe, cwb _ _ hbe]
    rw [hD, if_neg hbe]
    refine wp_f k4 (wp_gd zm (wp_be x_fail ?_))
    have spb : SP T (flT S 7 (nI (xP X i))) := spW.tr (SP.fe (FE.fl (by decide)))
    refine wp_be (zS _ spb (by rw [flT_o (by omega) (by omega)]; exact b1') hb) ?_
    have hCb : Ck (er (flT S 7 (nI (xP X i)))) := by rw [er_fl]; exact hCS.fl (by decide) hcS'
    rw [rest _ (by rw [er_fl]; exact FE.fl (by decide)) hCb (by rw [cn_fl]; exact hcS'), cdb _ hb, cwb _ _ hb]
    refine wp_mono (b317 _ hb) ?_
    rintro r _ T' rfl
    exact ⟨er_fl, wF.tr (Fm.nt nt_fl) spW, fun q => absurd q hb⟩
  have k4 := Decidable.not_not.mp k4
  have k4' : nI (lenT ta) = (er S).1 19 f0 := k4
  have fA := chk_fe (X := X) ta c0 all (er S)
  have hD : clD X (chk X ta) ta i r0 (nI f0) all (er S) = (chk X ta c0 all (er S), cwhS X (nI f0) all (i + 1) w0 0 (cddS X (nI f0) all (i + 1) r0 0 (chk X ta c0 all (er S)).2.2.2)) := by
    have e0 : (nI f0).toNatClampNeg = f0 := cf
    have e31 : (chk X ta c0 all (er S)).2.2.2.1 31 f0 = nI w0 := by rw [fA.1 31 (by omega)]; exact b7
    unfold clD
    simp only [e0, if_pos k4', if_pos k3', b1, nc (show c0 < 100000 by omega), e31, nc (show w0 < 100000 by omega)]
  rw [hD] at hc ⊢
  simp only at hc ⊢
  refine wp_t k4 ?_
  have e94 : RR nf (d' + 20) 94 S [nI lo, nI f0, all] [] = rl_Model_fitAll_16 (RR nf (d' + 19)) nf nf S all (nI c0) z := by
    rw [e_Model_fitAll nf (d' + 19)]
    unfold rb_Model_fitAll
    simp only [gd, if_pos zf, vK, if_pos zm, cm, cf]
    rw [o 52 (by omega) rfl, h52, b1']
  have feD := (FE.cd (X := X) (q := i + 1) (fi := nI f0) (all := all) r0 0 (chk X ta c0 all (er S)).2.2.2).tr (FE.cw (X := X) (q := i + 1) (fi := nI f0) (all := all) w0 0 _)
  have gA := fA.tg gS
  have gD := feD.tg gA
  have hcD : cn (cwhS X (nI f0) all (i + 1) w0 0 (cddS X (nI f0) all (i + 1) r0 0 (chk X ta c0 all (er S)).2.2.2)) < 6000 := by
    by_cases k5 : (cwhS X (nI f0) all (i + 1) w0 0 (cddS X (nI f0) all (i + 1) r0 0 (chk X ta c0 all (er S)).2.2.2)).1 7 0 = 0
    · simp only [if_pos k5] at hc
      by_cases k6 : 0 ≤ (cwhS X (nI f0) all (i + 1) w0 0 (cddS X (nI f0) all (i + 1) r0 0 (chk X ta c0 all (er S)).2.2.2)).1 25 (nI f0).toNatClampNeg
      · simp only [if_pos k6] at hc
        exact cn_ch_lt gD hc
      · simp only [if_neg k6] at hc
        exact hc
    · simp only [if_neg k5] at hc
      exact hc
  have hcA := feD.lt gA hcD
  have hag : agOk (er S) c0 all ta := by
    have := ag_it (T := er S) (u := f0) (t := ta) (w := all) hCS fS k4' (by omega) hPK
    rw [b1, nc (by omega)] at this
    exact this
  have repS : RepM X S ta (lo + 1) hi z := RepM.kp hz spW (fun j _ _ => by rw [w61])
  have hsS : S.1 94 0 = nI s := by rw [w94]; exact hs
  have wA := hA S (d' + 19) (lo + 1) hi _ c s c0 nf all z repS hhi hw (by omega) hCS hag hsS (by omega) (by omega) (by rw [sp_nU spW]; exact hUU) (by omega) hcA
  rw [← e94] at wA
  refine wp_bi wA ?_
  rintro _ _ T2 ⟨q1, q2, q3⟩
  have fe2 : FE (er S) (er T2) := by rw [q1]; exact fA
  have hC2 : Ck (er T2) := by rw [q1]; exact ((chk_inv ta) true _ c c0 all (er S) ⟨hw, by omega⟩ hCS (fun _ => hag) hcA).1
  have hc2 : cn T2 < 6000 := by rw [← er_cn, q1]; exact hcA
  rw [rest T2 fe2 hC2 hc2]
  have eT3 : er (cwhS X (nI f0) all (i + 1) w0 0 (cddS X (nI f0) all (i + 1) r0 0 T2)) = cwhS X (nI f0) all (i + 1) w0 0 (cddS X (nI f0) all (i + 1) r0 0 (chk X ta c0 all (er S)).2.2.2) := by rw [er_cw, er_cd, q1]
  rw [← eT3] at hc hcD gD ⊢
  have nt3 : ∀ g, anF g = true → (cwhS X (nI f0) all (i + 1) w0 0 (cddS X (nI f0) all (i + 1) r0 0 T2)).1 g = T2.1 g := fun g hg => (nt_cw _ _ _ g hg).trans (nt_cd _ _ _ g hg)
  have sp23 : SP T2 (cwhS X (nI f0) all (i + 1) w0 0 (cddS X (nI f0) all (i + 1) r0 0 T2)) := (SP.fe (FE.cd _ _ _)).tr (SP.fe (FE.cw _ _ _))
  have hC3 : Ck (er (cwhS X (nI f0) all (i + 1) w0 0 (cddS X (nI f0) all (i + 1) r0 0 T2))) := by
    rw [er_cw, er_cd]
    have i2 := Ck.cd (X := X) (q := i + 1) (fi := nI f0) (all := all) r0 0 _ hC2 hc2
    exact (Ck.cw _ 0 _ i2.1 (by rw [i2.2]; exact hc2)).1
  generalize cwhS X (nI f0) all (i + 1) w0 0 (cddS X (nI f0) all (i + 1) r0 0 T2) = T3 at *
  have sp2 : SP S T2 := SP.of fe2
  have spT3 : SP T T3 := (spW.tr sp2).tr sp23
  have fmT2 : Fm X T T2 lo hi a b := wF.tr (q2.up (by omega) (by omega) (by omega) (by omega)) spW
  have fmT3 : Fm X T T3 lo hi a b := fmT2.tr (Fm.nt nt3) (spW.tr sp2)
  by_cases k5 : ¬ T3.1 7 0 = 0
  · have k5' : ¬ (er T3).1 7 0 = 0 := k5
    rw [if_neg k5']
    refine wp_mono (b317 _ k5) ?_
    rintro r _ T' rfl
    exact ⟨rfl, fmT3, fun q => absurd q k5⟩
  have k5 := Decidable.not_not.mp k5
  have k5' : (er T3).1 7 0 = 0 := k5
  rw [if_pos k5'] at hc ⊢
  have k20 : T2.1 7 0 = 0 := by
    by_cases g : T2.1 7 0 = 0
    · exact g
    · exfalso
      have g' : ¬ (er T2).1 7 0 = 0 := g
      have := ((FE.cd (X := X) (q := i + 1) (fi := nI f0) (all := all) r0 0 (er T2)).tr (FE.cw (X := X) (q := i + 1) (fi := nI f0) (all := all) w0 0 _)).2.2.2 g'
      rw [q1, ← eT3] at this
      exact this k5'
  have an2 := q3 k20
  unfold rj_Model_checkCall_317
  refine wp_be (x_bd0 k5) (wp_t rfl (wp_gd zm ?_))
  rw [cm]
  refine wp_st (wp_gd zf ?_)
  have cf2 : (er T3).1 25 f0 = T3.1 25 f0 := rfl
  have cf3 : (er T3).1 26 f0 = T3.1 26 f0 := rfl
  simp only [cf, cf2, cf3] at hc ⊢
  rw [sI_ne (g' := 25) (by omega), sI_ne (g' := 26) (by omega)]
  have e48 : ∀ j, j < r0 → T3.1 48 (u + j) = ptOf all (nI j) := by
    intro j hj
    rw [nt3 48 rfl]
    rcases q2.2.1 (u + j) with h | ⟨q, h1, h2, h3⟩
    · rw [h]; exact wU j (by omega)
    · exfalso
      rw [o 47 (by omega) rfl, (hU.us hj).2] at h3
      have := hx (i + 1 + j) q (by omega) (by omega) h3
      omega
  have fm60 : Fm X T (sI T3 61 lo (nI f0)) lo hi a b := fmT3.tr (Fm.fd (Nat.le_refl _) hlo) spT3
  have kp60 : Kp X T2 (sI T3 61 lo (nI f0)) (lo + 1) hi (i + 1 + r0 + 1) c := (Kp.nt sp23 nt3).tr (Kp.a1 (SP.an rfl) A1.fd (by omega))
  by_cases k6 : 0 ≤ T3.1 25 f0
  · simp only [if_pos k6] at hc ⊢
    refine wp_gd zf ?_
    have g60 : Tg (sI T3 61 lo (nI f0)) := by
      unfold Tg
      rw [cn_w (by omega), sI_ne (by omega)]
      exact gD
    have ec := er_chT (w := all) 7 (sI T3 61 lo (nI f0)) (T3.1 26 f0)
    rw [er_a rfl] at ec
    have hcc : cn (chT 7 (sI T3 61 lo (nI f0)) (T3.1 26 f0) all).2 < 6000 := by rw [← er_cn, ← ec.2]; exact hc
    have fT3 : f0 < inn (er T3) := by
      have e1 : inn T3 = inn T := by
        unfold inn
        rw [spT3.1 11 (by omega) rfl]
      show f0 < inn T3
      rw [e1]
      exact f2'
    obtain ⟨c3, m3, r3, w3, g1, g2, g3, g4, g5, g6, g7, g8, g9, g10, g11⟩ := hC3.2.2.2.2.1.2.2 f0 fT3
    have hd7 : dOk (sI T3 61 lo (nI f0)) 7 (T3.1 26 f0) := by
      refine er_dOk _ _ ?_
      rw [er_a rfl]
      exact (g10 k6).2
    refine wp_be (x_chg hnf6 7 (d' + 11) (sI T3 61 lo (nI f0)) _ hd7 g60 hcc) ?_
    have nt4 : ∀ k, anF k = true → (chT 7 (sI T3 61 lo (nI f0)) (T3.1 26 f0) all).2.1 k = (sI T3 61 lo (nI f0)).1 k := fun k hk => nt_ch k hk
    have sp4 : SP (sI T3 61 lo (nI f0)) (chT 7 (sI T3 61 lo (nI f0)) (T3.1 26 f0) all).2 := SP.fe (FE.ch _ _ _)
    refine wp_some ⟨ec.2.symm, fm60.tr (Fm.nt nt4) (spT3.tr (SP.an rfl)), fun _ => ⟨ec.1.symm, _, all, AnE.kp (b := c) (by omega) ta true _ c (lo + 1) hi z 0 0 _ (Nat.le_refl _) hw (kp60.tr (Kp.nt sp4 nt4)) an2, fun j hj => ?_, ?_, trivial⟩⟩
    · rw [nt4 48 rfl, sI_ne (by omega)]
      exact e48 j hj
    · rw [nt4 61 rfl, sI_v]
  · simp only [if_neg k6] at hc ⊢
    refine wp_some ⟨er_a rfl, fm60, fun _ => ⟨rfl, _, all, AnE.kp (b := c) (by omega) ta true _ c (lo + 1) hi z 0 0 _ (Nat.le_refl _) hw kp60 an2, fun j hj => ?_, ?_, trivial⟩⟩
    · rw [sI_ne (by omega)]
      exact e48 j hj
    · rw [sI_v]
end XD
