/-! all STEPS keep what holds -/
section SIY
variable {T : gSt} {X : Lx} {it : Nat}
abbrev bL (m : Nat) : Nat := if m = 2 then 41 else 40
theorem st_inv (t : Tr) : ∀ (m a b v g v' g' N : Nat), Ws X t m a b v g v' g' → b < 100000 → N + bdT t ≤ bL m → IvS (stS X it t) v g v' g' N := by
  induction t using Tr_ind with
  | hz t hz =>
    intro m a b v g v' g' N hw hb hN p q j n T hn h hc h0
    rw [stS_z hz]
    unfold Ws at hw
    split at hw
    · rename_i k i e a b
      exact absurd rfl (hz k i e a b)
    · rw [hw.2.2.1, hw.2.2.2]
      exact SK.rf h
    · exact hw.elim
  | h k i e ta tb ihA ihB =>
    intro m a b v g v' g' N hw hb hN p q j n T hn h hc h0
    have fA := st_fs (X := X) (it := it) ta
    have fB := st_fs (X := X) (it := it) tb
    rw [stS_n] at hc h0 ⊢
    rw [Ws_n] at hw
    rw [bdT_n] at hN
    unfold WsN at hw
    unfold bL at hN ihA ihB
    by_cases m2 : m = 2
    · rw [if_pos m2] at hw hN
      obtain ⟨rfl, hw, hib⟩ := hw
      rw [if_pos rfl] at hN
      have e0 : stN X it (stS X it ta) (stS X it tb) ta tb 31 i e p q j T = sI (stS X it ta 0 0 0 T) 77 0 (T.1 77 0) := rfl
      rw [e0] at hc h0 ⊢
      have mo := Ws_mo _ _ _ _ _ _ _ _ hw
      have c1 : cn (stS X it ta 0 0 0 T) < 6000 := hc
      have o1 : (stS X it ta 0 0 0 T).1 7 0 = 0 := h0
      have s1 := ihA 1 _ _ _ _ _ _ N hw (by omega) (by rw [if_neg (by omega)]; omega) 0 0 0 n T hn h c1 o1
      generalize stS X it ta 0 0 0 T = S at *
      obtain ⟨⟨h1, h2, h3, h4, h5, h6, h7, h8⟩, l1, l2⟩ := s1
      have cc := h1.2.2
      have e77 : (sI S 77 0 (T.1 77 0)).1 77 0 = T.1 77 0 := sI_v
      have evn : vn (sI S 77 0 (T.1 77 0)) = vn T := by
        unfold vn
        rw [e77]
      have hv2 : vn T ≤ v := h.2.1
      refine ⟨⟨?_, by omega, h3, h4, h5, h6, h7, h8⟩, by omega, l2⟩
      refine h1.mv (fun k a b => sI_ne (by omega)) (fun k _ => rfl) cc.1 cc.2.1 ⟨?_, ?_, fun w hw => ?_⟩
      · rw [evn, e77]; exact h.1.2.2.2.2.2.1
      · rw [evn]; exact h.1.2.2.2.2.2.2.1
      · rw [sI_ne (by omega)]
        exact cc.2.2.2.2.2 w (by omega)
    rw [if_neg m2] at hw hN
    by_cases m1 : m = 1
    · rw [if_pos m1] at hw
      obtain ⟨rfl, c, v1, g1, hwa, hwb⟩ := hw
      rw [if_neg (by omega), if_pos (Or.inl rfl)] at hN
      have e0 : stN X it (stS X it ta) (stS X it tb) ta tb 11 i e p q j T = if T.1 7 0 = 0 then stS X it tb 0 0 0 (stS X it ta 0 0 0 T) else T := rfl
      rw [e0] at hc h0 ⊢
      have mo := Ws_mo _ _ _ _ _ _ _ _ hwb
      by_cases c0 : T.1 7 0 = 0
      · rw [if_pos c0] at hc h0 ⊢
        have f1 := fA 0 0 0 T
        have f2 := fB 0 0 0 (stS X it ta 0 0 0 T)
        have c1 := f2.lt (f1.tg h.1.1) hc
        have o1 := f2.ok h0
        have s1 := ihA 0 _ _ _ _ _ _ N hwa (by omega) (by rw [if_neg (by omega)]; omega) 0 0 0 n T hn h c1 o1
        exact s1.tr (ihB 1 _ _ _ _ _ _ N hwb (by omega) (by rw [if_neg (by omega)]; omega) 0 0 0 n _ hn s1.1 hc h0)
      · rw [if_neg c0] at h0
        exact absurd h0 c0
    rw [if_neg m1] at hw
    by_cases m3 : m = 3
    · rw [if_pos m3] at hw
      obtain ⟨rfl, c, v1, g1, hwa, hwb⟩ := hw
      rw [if_neg (by omega), if_pos (Or.inr (Or.inl rfl))] at hN
      have e0 : stN X it (stS X it ta) (stS X it tb) ta tb 12 i e p q j T = prC X (stS X it ta) (stS X it tb) (isZ tb) p q j T := rfl
      rw [e0] at hc h0 ⊢
      have cb : c ≤ b := by
        split at hwb
        · exact hwb.2.2
        · have := Ws_mo _ _ _ _ _ _ _ _ hwb; omega
      refine si_pr (v1 := v1) (g1 := g1) (ihA 2 _ _ _ _ _ _ N hwa (by omega) (by rw [if_pos rfl]; omega)) fA ?_ fB hn h hc h0
      by_cases z : isZ tb = true
      · rw [if_pos z] at hwb ⊢
        exact ⟨hwb.1, hwb.2.1⟩
      · rw [if_neg z] at hwb ⊢
        exact ihB 2 _ _ _ _ _ _ N hwb (by omega) (by rw [if_pos rfl]; omega)
    rw [if_neg m3] at hw
    by_cases k20 : k = 20
    · rw [if_pos k20] at hw
      subst k20
      obtain ⟨h1, rfl, h3, rfl, rfl, h6, h7⟩ := hw
      have e0 : stN X it (stS X it ta) (stS X it tb) ta tb 20 i e p q j T = (vaC X ta i e T).2 := rfl
      rw [e0] at hc h0 ⊢
      by_cases z : isZ ta = true
      · exact si_va (lo := 0) (hi := 0) h6 (fun q => absurd z q) (by omega) h3 h hc h0
      · rw [if_neg z] at h7
        obtain ⟨c, h8, h9⟩ := h7
        exact si_va h6 (fun _ => h8.1) (by omega) h3 h hc h0
    rw [if_neg k20] at hw
    by_cases k21 : k = 21
    · rw [if_pos k21] at hw
      subst k21
      rw [if_neg (by omega), if_neg (by omega), if_pos (Or.inl rfl)] at hN
      obtain ⟨h1, c, h2, h3⟩ := hw
      have mo := Ws_mo _ _ _ _ _ _ _ _ h3
      have e0 : stN X it (stS X it ta) (stS X it tb) ta tb 21 i e p q j T = ifC X (stS X it tb) ta i T := rfl
      rw [e0] at hc h0 ⊢
      unfold ifC at hc h0 ⊢
      by_cases c0 : (cdC X ta T).1 7 0 = 0
      · rw [if_pos c0] at hc h0 ⊢
        have c1 := (fB _ _ _ _).lt ((FS.cd (X := X) (ta := ta)).tg h.1.1) hc
        have s1 := si_cd h2.1 (by omega) h c1
        exact s1.tr (ihB 3 _ _ _ _ _ _ N h3 (by omega) (by rw [if_neg (by omega)]; omega) _ _ _ n _ hn s1.1 hc h0)
      · rw [if_neg c0] at h0
        exact absurd h0 c0
    rw [if_neg k21] at hw
    by_cases k22 : k = 22
    · rw [if_pos k22] at hw
      subst k22
      rw [if_neg (by omega), if_neg (by omega), if_pos (Or.inr rfl)] at hN
      obtain ⟨h1, c, h2, h3⟩ := hw
      have mo := Ws_mo _ _ _ _ _ _ _ _ h3
      have e0 : stN X it (stS X it ta) (stS X it tb) ta tb 22 i e p q j T = whC X (stS X it tb) ta tb i T := rfl
      rw [e0] at hc h0 ⊢
      exact si_wh h2.1 (by omega) (ihB 2 _ _ _ _ _ _ N h3 (by omega) (by rw [if_pos rfl]; omega)) fB hn h hc h0
    rw [if_neg k22] at hw
    by_cases k23 : k = 23
    · rw [if_pos k23] at hw
      subst k23
      obtain ⟨h1, rfl, rfl, h4⟩ := hw
      have e0 : stN X it (stS X it ta) (stS X it tb) ta tb 23 i e p q j T = (rtC X ta i it T).2 := rfl
      rw [e0] at hc h0 ⊢
      by_cases z : isZ ta = true
      · exact si_rt (lo := 0) (hi := 0) (fun q => absurd z q) (by omega) h hc h0
      · rw [if_neg z] at h4
        obtain ⟨c, h8, h9⟩ := h4
        exact si_rt (fun _ => h8.1) (by omega) h hc h0
    rw [if_neg k23] at hw
    by_cases k24 : k = 24 ∨ k = 25
    · rw [if_pos k24] at hw
      obtain ⟨h1, rfl, rfl, c, h4, h5⟩ := hw
      by_cases k4 : k = 24
      · subst k4
        have e0 : stN X it (stS X it ta) (stS X it tb) ta tb 24 i e p q j T = niT (chk X ta 0 0 T).2.2.2 (chk X ta 0 0 T).1 (plT X ta) := rfl
        rw [e0] at hc h0 ⊢
        exact si_ni h4.1 (by omega) h hc
      · obtain rfl : k = 25 := by omega
        have e0 : stN X it (stS X it ta) (stS X it tb) ta tb 25 i e p q j T = spS (niT (chk X ta 0 0 T).2.2.2 (chk X ta 0 0 T).1 (plT X ta)) := rfl
        rw [e0] at hc h0 ⊢
        rw [cn_sp] at hc
        have s1 := si_ni h4.1 (by omega) h hc
        exact s1.tr (si_sp s1.1)
    rw [if_neg k24] at hw
    by_cases k30 : k = 30
    · rw [if_pos k30] at hw
      subst k30
      obtain ⟨h1, rfl, rfl, c, h4, h5⟩ := hw
      have e0 : stN X it (stS X it ta) (stS X it tb) ta tb 30 i e p q j T = (chk X ta 0 0 T).2.2.2 := rfl
      rw [e0] at hc h0 ⊢
      exact (si_ch h4.1 (by omega) h hc).1
    rw [if_neg k30] at hw
    by_cases k29 : k = 29
    · rw [if_pos k29] at hw
      subst k29
      obtain ⟨h1, rfl, rfl, c, c2, h4, h5, h6⟩ := hw
      have e0 : stN X it (stS X it ta) (stS X it tb) ta tb 29 i e p q j T = seC X ta tb T := rfl
      rw [e0] at hc h0 ⊢
      have := Wf_le2 h5.1
      exact si_se h4.1 h5.1 (by omega) (by omega) h hc h0
    rw [if_neg k29] at hw
    by_cases k26 : k = 26
    · rw [if_pos k26] at hw
      subst k26
      rw [if_neg (by omega), if_neg (by omega), if_neg (by omega), if_pos rfl] at hN
      obtain ⟨h1, h2, h3⟩ := hw
      have e0 : stN X it (stS X it ta) (stS X it tb) ta tb 26 i e p q j T = rgC X (stS X it ta) i T := rfl
      rw [e0] at hc h0 ⊢
      have mo := Ws_mo _ _ _ _ _ _ _ _ h3
      exact si_rg (ihA 2 _ _ _ _ _ _ (N + 1) h3 (by omega) (by rw [if_pos rfl]; omega)) fA (by omega) (by omega) hn h2 h hc h0
    rw [if_neg k26] at hw
    by_cases k27 : k = 27
    · rw [if_pos k27] at hw
      subst k27
      obtain ⟨h1, rfl, rfl, h4⟩ := hw
      have e0 : stN X it (stS X it ta) (stS X it tb) ta tb 27 i e p q j T = csC X i T := rfl
      rw [e0] at hc h0 ⊢
      exact si_cs h hc h0
    rw [if_neg k27] at hw
    by_cases k28 : k = 28
    · rw [if_pos k28] at hw
      subst k28
      rw [if_neg (by omega), if_pos (Or.inr (Or.inr rfl))] at hN
      obtain ⟨h1, c, v1, g1, h2, h3⟩ := hw
      have mo := Ws_mo _ _ _ _ _ _ _ _ h3
      have e0 : stN X it (stS X it ta) (stS X it tb) ta tb 28 i e p q j T = trC X (stS X it ta) (stS X it tb) ta i T := rfl
      rw [e0] at hc h0 ⊢
      exact si_ty (ihA 2 _ _ _ _ _ _ (N + 1) h2 (by omega) (by rw [if_pos rfl]; omega)) fA (ihB 2 _ _ _ _ _ _ N h3 (by omega) (by rw [if_pos rfl]; omega)) fB (by omega) hn h hc h0
    · rw [if_neg k28] at hw
      exact hw.elim
end SIY
