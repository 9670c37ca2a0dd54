/-! the instructions of every EXPR have their types -/
section TJ5
variable {S Sf T : gSt} {X : Lx} {k i e m : Nat} {ta tb tr : Tr}
theorem tk_k (h2 : ¬ k = 2) (h3 : ¬ k = 3) (h4 : ¬ k = 4) : ¬ (tkd X (tD k i e ta tb) = 14 ∨ tkd X (tD k i e ta tb) = 15 ∨ tkd X (tD k i e ta tb) = 16) := by
  have ek : tkd X (tD k i e ta tb) = if k = 2 then tkd X ta else if k = 1 then (if xK X i = 5 then 0 else if xK X i = 27 then 1 else if xK X i = 34 then 2 else if xK X i = 35 then 3 else 4) else if k = 3 then (if xK X i = 49 then 14 else if xK X i = 61 then 16 else 17) else if k = 4 then 15 else if k = 5 then 13 else if k = 6 then 5 else if k = 7 then (if xK X (i + 3 + e) = 49 then 7 else 6) else if k = 8 then (if xK X i = 29 then 8 else if xK X i = 30 then 9 else if xK X i = 31 then 11 else 12) else if k = 9 then 10 else 30 := rfl
  rw [ek, if_neg h2, if_neg h3, if_neg h4]
  repeat' split
  all_goals omega
theorem isZ_l (h : isZ ta = true) : lenT ta = 0 := by
  unfold isZ at h
  split at h
  · rfl
  · exact absurd h (by decide)
theorem lenT_nz (hz : ∀ k i e a b, tr ≠ tD k i e a b) : lenT tr = 0 := by
  unfold lenT
  split
  · rename_i k i e a b
    exact absurd rfl (hz k i e a b)
  · rfl
theorem TyE.wk {R : ChR} {mm mo mm' mo' : Nat} (h : TyE X Sf S ta R mm mo) (h1 : NW mm mo ≤ NW mm' mo') (h2 : NL mm mo ≤ NL mm' mo') (hk : tkd X tr = tkd X ta) : TyE X Sf S tr R mm' mo' := by
  refine ⟨h.1, fun B L st a b => h.2.1 B L st (by omega) (by omega), fun w => ?_⟩
  rw [hk] at w
  obtain ⟨l0, l, g1, g2, g3, g4⟩ := h.2.2 w
  refine ⟨l0, l, g1, g2, ?_, fun B L st a b => g4 B L st (by omega) (by omega)⟩
  unfold lsT at g3 ⊢
  rw [hk]
  exact g3
/-- every EXPR, all arguments -/
theorem ty_all (hc : cn Sf < 6000) (hRf : Rws Sf) (hSl : SlD S) (hj : Sf.2 16 = S.2 16 ∧ Sf.2 32 = S.2 32) (t : Tr) : TyX X Sf S t ∧ TyA X Sf S t := by
  induction t using Tr_ind with
  | hz t hz =>
    constructor
    · intro lo hi mm mo T hmo hw hC h0 hE hf hF hx
      have hw1 := hw.1
      unfold Wf at hw1
      split at hw1
      · exact absurd rfl (hz _ _ _ _ _)
      · exact absurd hw1.1 (by decide)
      · exact hw1.elim
    · intro lo hi mm f w T hw hC h0 hE hg hf hF hx
      rw [chk_nz hz]
      refine ⟨kGo.nl, [], (lenT_nz hz).symm, fun q hq => absurd hq (Nat.not_lt_zero _), fun B L st _ _ => rfl⟩
  | h k i e a b ihA ihB =>
    constructor
    · intro lo hi mm mo T hmo hw hC h0 hE hf hF hx
      have fchk := chk_fe (X := X) (tD k i e a b) 0 0 T
      have hc0 : cn T < 6000 := (fchk.fw.tr hF).lt hC.1 hc
      rw [chk_n, if_pos h0] at hf hF ⊢
      obtain ⟨hw, hb⟩ := hw
      rw [Wf_n] at hw
      rw [XG_n] at hx
      unfold xgN at hx
      rw [if_neg (show ¬ mo = 2 by omega)] at hx
      unfold WfN at hw
      rw [if_neg (by decide)] at hw
      unfold chN at hf hF ⊢
      by_cases c : k = 1
      · simp only [if_pos c] at hf hF ⊢
        subst c
        obtain ⟨j, j1, j2, j3, j4⟩ := ty_lf hc hSl hC hE hf hF
        have hk := tk_k (X := X) (i := i) (e := e) (ta := a) (tb := b) (k := 1) (by omega) (by omega) (by omega)
        refine tk_noJ hk (by rw [j1]; exact (kG1 j2).1) (fun B L st hB hL => ?_)
        rw [j1, (kG1 j2).2, psh_n j3]
        exact TyL.one (j4 st) (wsl_c (by have := NW_3 (mm := mm) (mo := mo); omega)) (by have := NL_1 (mm := mm) (mo := mo); rw [List.length_cons]; omega)
      simp only [if_neg c] at hw hx hf hF ⊢
      clear c
      by_cases c : k = 2
      · simp only [if_pos c] at hw hx hf hF ⊢
        subst c
        obtain ⟨c1, h1, h2, h3⟩ := hw
        exact (ihA.1 _ _ (mm - 1) 1 T (by omega) ⟨h2, by omega⟩ hC h0 hE hf hF hx.2.2).wk (by unfold NW; omega) (by unfold NL; omega) rfl
      simp only [if_neg c] at hw hx hf hF ⊢
      have n2 := c
      clear c
      by_cases c : k = 3
      · simp only [if_pos c] at hw hx hf hF ⊢
        subst c
        exact ty_tl hc hRf ihA.1 ⟨hw.1, by omega⟩ hC h0 hE hf hF hx.1
      simp only [if_neg c] at hw hx hf hF ⊢
      have n3 := c
      clear c
      by_cases c : k = 4
      · simp only [if_pos c] at hw hx hf hF ⊢
        subst c
        obtain ⟨h1, c1, h2, h3⟩ := hw
        have := (Wf_le b false _ _ h2).1 rfl
        exact ty_ex hc ihA.1 ihB.1 ⟨h1, by omega⟩ ⟨h2, by omega⟩ hC h0 hE hf hF hx.2.1 hx.2.2.1 hx.2.2.2
      simp only [if_neg c] at hw hx hf hF ⊢
      have hk := tk_k (X := X) (i := i) (e := e) (ta := a) (tb := b) n2 n3 c
      clear c
      by_cases c : k = 5
      · simp only [if_pos c] at hw hx hf hF ⊢
        subst c
        have := (Wf_le b false _ _ hw.2).1 rfl
        have hmo1 : mo = 1 := hx.1
        subst hmo1
        exact ty_bn hc ihA.1 ihB.1 ⟨hw.1, by omega⟩ ⟨hw.2, by omega⟩ hC h0 hE hf hF hx.2.1 hx.2.2.1
      simp only [if_neg c] at hw hx hf hF ⊢
      clear c
      by_cases c : k = 6
      · simp only [if_pos c] at hw hx hf hF ⊢
        subst c
        obtain ⟨h1, h2, c1, h3, h4⟩ := hw
        have := (Wf_le a true _ _ h3).2 rfl
        exact ty_cl hc hRf hj h2 (by omega) ihA.2 ⟨h3, by omega⟩ hC h0 hE hf hF (hx.2.1.imp isZ_l id) hx.2.2.1 hk
      simp only [if_neg c] at hw hx hf hF ⊢
      clear c
      by_cases c : k = 7
      · simp only [if_pos c] at hw hx hf hF ⊢
        subst c
        obtain ⟨h1, h2, c1, h3, h4⟩ := hw
        obtain ⟨x1, x2, x3, x4, x5, x6⟩ := hx
        have hl : (¬ xK X (i + 3 + e) = 49 → lenT a < 100000) := by
          intro c
          rw [if_neg c] at h3
          have := (Wf_le a true _ _ h3).2 rfl
          omega
        have hw2 : if xK X (i + 3 + e) = 49 then Wb X a false (if xK X (i + 3 + e) = 49 then i + 3 + e + 3 else i + 3 + e + 1) c1 else Wb X a true (if xK X (i + 3 + e) = 49 then i + 3 + e + 3 else i + 3 + e + 1) c1 := by
          by_cases c : xK X (i + 3 + e) = 49
          · simp only [if_pos c] at h3 ⊢
            exact ⟨h3, by omega⟩
          · simp only [if_neg c] at h3 ⊢
            exact ⟨h3, by omega⟩
        refine ty_nw hc hRf hl h2 ihA.1 ihA.2 hw2 hC hE hf hF ?_ ?_ hk
        · by_cases c : xK X (i + 3 + e) = 49
          · rw [if_pos c] at x6
            right
            rcases x2 with z | z
            · rw [XG_z x6.2] at z
              exact absurd z (by decide)
            · exact z
          · rcases x2 with z | z
            · exact Or.inl ⟨c, isZ_l z⟩
            · exact Or.inr z
        · by_cases c : xK X (i + 3 + e) = 49
          · rw [if_pos c] at x6 ⊢
            exact x6.2
          · rw [if_neg c] at x6 ⊢
            exact x6.2
      simp only [if_neg c] at hw hx hf hF ⊢
      clear c
      by_cases c : k = 8
      · simp only [if_pos c] at hw hx hf hF ⊢
        subst c
        obtain ⟨h1, h2⟩ := hw
        obtain ⟨x1, x2, x3, x4⟩ := hx
        by_cases k29 : xK X i = 29
        · simp only [if_pos k29] at h2 hf hF ⊢
          obtain ⟨c, h2, h3⟩ := h2
          unfold clLv at hf hF ⊢
          dsimp only at hf hF ⊢
          have fm : FE (slS X T (i + 1)) (mdC X (chk X a) a 1 (srR X T (i + 1)) [] (slS X T (i + 1))).2.2.2 := fe_md (chk_fe a)
          obtain ⟨s1, s2, s3⟩ := sl_ok (fm.ok hf)
          rw [s1] at hf hF ⊢
          rw [isLv_fe hE] at s2
          exact ty_md (Or.inl rfl) hc (rg_ok hC.2.2) s2 ihA.1 ⟨h2, by omega⟩ hC h0 hE ⟨kGo.nl, fun B L st _ _ => by rw [if_neg (by decide)]; rfl⟩ hf hF x1 x2 hk
        simp only [if_neg k29] at h2 hf hF ⊢
        by_cases k30 : xK X i = 30
        · simp only [if_pos k30] at h2 hf hF ⊢
          obtain ⟨c, d, h2, h3, h4⟩ := h2
          have := (Wf_le b false _ _ h3).1 rfl
          exact ty_rw hc ihA.1 ihB.1 ⟨h2, by omega⟩ ⟨h3, by omega⟩ hC hE hf hF x1 x2 (x4 k30) hk
        simp only [if_neg k30] at h2 hf hF ⊢
        obtain ⟨c, h2, h3⟩ := h2
        by_cases k31 : xK X i = 31
        · simp only [if_pos k31] at hf hF ⊢
          exact ty_nn hc ihA.1 ⟨h2, by omega⟩ hC h0 hE hf hF x1 x2 hk
        · simp only [if_neg k31] at hf hF ⊢
          exact ty_sz hc ihA.1 ⟨h2, by omega⟩ hC h0 hE hf hF x1 x2 hk
      simp only [if_neg c] at hw hx hf hF ⊢
      clear c
      by_cases c : k = 9
      · simp only [if_pos c] at hw hf hF ⊢
        subst c
        exact ty_an hc ihA.1 ⟨hw.2, by omega⟩ hC h0 hE hf hF hx.2.2.1 hx.2.2.2 hk
      simp only [if_neg c] at hw
    · intro lo hi mm f w T hw hC h0 hE hg hf hF hx
      rw [chk_n, if_pos h0] at hf hF ⊢
      obtain ⟨hw, hb⟩ := hw
      rw [Wf_n] at hw
      rw [XG_n] at hx
      unfold xgN at hx
      rw [if_pos rfl] at hx
      obtain ⟨hk, b1, c1, h1, h2, h3⟩ := WfN.lst hw
      have l3 := (Wf_le b true _ _ h3).2 rfl
      subst hk
      exact ty_ag hc hRf ihA.1 ihB.2 ⟨h2, by omega⟩ ⟨h3, hb⟩ hC h0 hE hg hf hF hx.2.1 hx.2.2
end TJ5
