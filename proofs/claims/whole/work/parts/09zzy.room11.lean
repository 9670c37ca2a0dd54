/-! room for types: all STEPS -/
section RMY
variable {T : gSt} {X : Lx} {it : Nat}
theorem st_rm (t : Tr) : ∀ (m a b v g v' g' N : Nat), Ws X t m a b v g v' g' → b < 100000 → N + bdT t ≤ bL m → RsQ (stS X it t) (cws X t) v g N := by
  induction t using Tr_ind with
  | hz t hz =>
    intro m a b v g v' g' N hw hb hN p q j n T hn h hq h0 hc
    rw [stS_z hz]
    exact rs_rf _
  | h k i e ta tb ihA ihB =>
    intro m a b v g v' g' N hw hb hN p q j n T hn h hq h0 hc
    have fA := st_fs (X := X) (it := it) ta
    have fB := st_fs (X := X) (it := it) tb
    rw [stS_n]
    rw [Ws_n] at hw
    rw [bdT_n] at hN
    unfold WsN at hw
    unfold bL at hN ihA ihB
    have iA := st_inv (X := X) (it := it) ta
    unfold bL at iA
    by_cases m2 : m = 2
    · rw [if_pos m2] at hw hN
      obtain ⟨rfl, hw, hib⟩ := hw
      rw [if_pos rfl] at hN
      have e0 : stN X it (stS X it ta) (stS X it tb) ta tb 31 i e p q j T = sI (stS X it ta 0 0 0 T) 77 0 (T.1 77 0) := rfl
      have e1 : cws X (tD 31 i e ta tb) = cws X ta + 2 := rfl
      rw [e0, e1]
      have mo := Ws_mo _ _ _ _ _ _ _ _ hw
      have r := ihA 1 _ _ _ _ _ _ N hw (by omega) (by rw [if_neg (by omega)]; omega) 0 0 0 n T hn h hq h0 hc
      have s1 := iA 1 _ _ _ _ _ _ N hw (by omega) (by rw [if_neg (by omega)]; omega) 0 0 0 n T hn h
      generalize stS X it ta 0 0 0 T = S at *
      refine ⟨fun g7 g6 => ?_, ?_⟩
      · have c1 : cn S < 6000 := g6
        have o1 : S.1 7 0 = 0 := g7
        have sk := s1 c1 o1
        have a1 := r.1 o1 c1
        have evn : vn (sI S 77 0 (T.1 77 0)) = vn T := by
          unfold vn
          rw [rdI, if_pos ⟨rfl, rfl⟩]
        have ps : pot (sI S 77 0 (T.1 77 0)) ≤ pot S := by
          rw [pot_lt c1, pot_lt g6, cn_w (by omega)]
          have : psi (sI S 77 0 (T.1 77 0)) ≤ psi S := psi_mono sk.1.1.1 ((Trw.wr (k := 77) (by omega)) sk.1.1.1).1 (by rw [cn_w (by omega)]; exact Nat.le_refl _) (fun p _ => rwT_w (by omega)) sk.1.1.2.2.2.2.2.2.2 (fun v _ => by rw [sI_ne (by omega)]) (by rw [evn]; exact sk.2.1)
          omega
        omega
      · have : pt0 (sI S 77 0 (T.1 77 0)) = pt0 S := pt0_cn (cn_w (by omega))
        have := r.2
        omega
    rw [if_neg m2] at hw hN
    by_cases m1 : m = 1
    · rw [if_pos m1] at hw
      obtain ⟨rfl, c, v1, g1, hwa, hwb⟩ := hw
      rw [if_neg (by omega), if_pos (Or.inl rfl)] at hN
      have e0 : stN X it (stS X it ta) (stS X it tb) ta tb 11 i e p q j T = if T.1 7 0 = 0 then stS X it tb 0 0 0 (stS X it ta 0 0 0 T) else T := rfl
      have e1 : cws X (tD 11 i e ta tb) = cws X ta + cws X tb := rfl
      rw [e0, e1, if_pos h0]
      have mo := Ws_mo _ _ _ _ _ _ _ _ hwb
      have f1 := fA 0 0 0 T
      refine rs_two (ihA 0 _ _ _ _ _ _ N hwa (by omega) (by rw [if_neg (by omega)]; omega) 0 0 0 n T hn h hq h0 hc) (fB 0 0 0 _) (f1.tg h.1.1) (fun z => by rw [stS_bad tb hwb rfl z]) (fun c7 c6 => ?_)
      have s1 := iA 0 _ _ _ _ _ _ N hwa (by omega) (by rw [if_neg (by omega)]; omega) 0 0 0 n T hn h c6 c7
      exact ihB 1 _ _ _ _ _ _ N hwb (by omega) (by rw [if_neg (by omega)]; omega) 0 0 0 n _ hn s1.1 (hq.fs h.1 f1 c6) c7 c6
    rw [if_neg m1] at hw
    by_cases m3 : m = 3
    · rw [if_pos m3] at hw
      obtain ⟨rfl, c, v1, g1, hwa, hwb⟩ := hw
      rw [if_neg (by omega), if_pos (Or.inr (Or.inl rfl))] at hN
      have e0 : stN X it (stS X it ta) (stS X it tb) ta tb 12 i e p q j T = prC X (stS X it ta) (stS X it tb) (isZ tb) p q j T := rfl
      have e1 : cws X (tD 12 i e ta tb) = if isZ tb = true then cws X ta else cws X ta + cws X tb + 1 := rfl
      rw [e0, e1]
      have cb : c ≤ b := by
        split at hwb
        · exact hwb.2.2
        · have := Ws_mo _ _ _ _ _ _ _ _ hwb; omega
      refine rs_pr (v1 := v1) (g1 := g1) (iA 2 _ _ _ _ _ _ N hwa (by omega) (by rw [if_pos rfl]; omega)) (ihA 2 _ _ _ _ _ _ N hwa (by omega) (by rw [if_pos rfl]; omega)) fA (fun z => ?_) fB hn h hq h0 hc
      rw [if_neg z] at hwb
      exact ihB 2 _ _ _ _ _ _ N hwb (by omega) (by rw [if_pos rfl]; omega)
    rw [if_neg m3] at hw
    by_cases k20 : k = 20
    · rw [if_pos k20] at hw
      subst k20
      obtain ⟨h1, rfl, h3, rfl, rfl, h6, h7⟩ := hw
      have e0 : stN X it (stS X it ta) (stS X it tb) ta tb 20 i e p q j T = (vaC X ta i e T).2 := rfl
      have e1 : cws X (tD 20 i e ta tb) = (tyE X 6 (i + 3) - (i + 3)) + (if isZ ta = true then 4 else cw X ta + 5) := rfl
      rw [e0, e1]
      by_cases z : isZ ta = true
      · exact rs_va (lo := 0) (hi := 0) h6 (fun q => absurd z q) (by omega) h3 h hq h0 hc
      · rw [if_neg z] at h7
        obtain ⟨c, h8, h9⟩ := h7
        exact rs_va h6 (fun _ => h8.1) (by omega) h3 h hq h0 hc
    rw [if_neg k20] at hw
    by_cases k21 : k = 21
    · rw [if_pos k21] at hw
      subst k21
      rw [if_neg (by omega), if_neg (by omega), if_pos (Or.inl rfl)] at hN
      obtain ⟨h1, c, h2, h3⟩ := hw
      have mo := Ws_mo _ _ _ _ _ _ _ _ h3
      have e0 : stN X it (stS X it ta) (stS X it tb) ta tb 21 i e p q j T = ifC X (stS X it tb) ta i T := rfl
      have e1 : cws X (tD 21 i e ta tb) = cw X ta + cws X tb + 1 := rfl
      rw [e0, e1]
      exact rs_if h2.1 (by omega) (ihB 3 _ _ _ _ _ _ N h3 (by omega) (by rw [if_neg (by omega)]; omega)) fB hn h hq h0 hc
    rw [if_neg k21] at hw
    by_cases k22 : k = 22
    · rw [if_pos k22] at hw
      subst k22
      rw [if_neg (by omega), if_neg (by omega), if_pos (Or.inr rfl)] at hN
      obtain ⟨h1, c, h2, h3⟩ := hw
      have mo := Ws_mo _ _ _ _ _ _ _ _ h3
      have e0 : stN X it (stS X it ta) (stS X it tb) ta tb 22 i e p q j T = whC X (stS X it tb) ta tb i T := rfl
      have e1 : cws X (tD 22 i e ta tb) = cw X ta + cws X tb + 1 := rfl
      rw [e0, e1]
      exact rs_wh h2.1 (by omega) (ihB 2 _ _ _ _ _ _ N h3 (by omega) (by rw [if_pos rfl]; omega)) fB hn h hq h0 hc
    rw [if_neg k22] at hw
    by_cases k23 : k = 23
    · rw [if_pos k23] at hw
      subst k23
      obtain ⟨h1, rfl, rfl, h4⟩ := hw
      have e0 : stN X it (stS X it ta) (stS X it tb) ta tb 23 i e p q j T = (rtC X ta i it T).2 := rfl
      have e1 : cws X (tD 23 i e ta tb) = if isZ ta = true then 2 else cw X ta + 2 := rfl
      rw [e0, e1]
      by_cases z : isZ ta = true
      · exact rs_rt (lo := 0) (hi := 0) (fun q => absurd z q) (by omega) h hq h0 hc
      · rw [if_neg z] at h4
        obtain ⟨c, h8, h9⟩ := h4
        exact rs_rt (fun _ => h8.1) (by omega) h hq h0 hc
    rw [if_neg k23] at hw
    by_cases k24 : k = 24 ∨ k = 25
    · rw [if_pos k24] at hw
      obtain ⟨h1, rfl, rfl, c, h4, h5⟩ := hw
      have r := ex_rs h4.1 (by omega) h hq h0 hc
      by_cases k4 : k = 24
      · subst k4
        have e0 : stN X it (stS X it ta) (stS X it tb) ta tb 24 i e p q j T = niT (chk X ta 0 0 T).2.2.2 (chk X ta 0 0 T).1 (plT X ta) := rfl
        have e1 : cws X (tD 24 i e ta tb) = cw X ta + 2 := rfl
        rw [e0, e1]
        exact (rs_post r pot_ni cn_ni2 ni_ok).up (by omega)
      · obtain rfl : k = 25 := by omega
        have e0 : stN X it (stS X it ta) (stS X it tb) ta tb 25 i e p q j T = spS (niT (chk X ta 0 0 T).2.2.2 (chk X ta 0 0 T).1 (plT X ta)) := rfl
        have e1 : cws X (tD 25 i e ta tb) = cw X ta + 2 := rfl
        rw [e0, e1]
        refine (rs_post r ?_ ?_ (fun z => ni_ok (FS.sp.ok z))).up (by omega)
        · rw [pot_sp, pot_ni]
        · rw [cn_fo FO.sp, cn_ni2]
    rw [if_neg k24] at hw
    by_cases k30 : k = 30
    · rw [if_pos k30] at hw
      subst k30
      obtain ⟨h1, rfl, rfl, c, h4, h5⟩ := hw
      have e0 : stN X it (stS X it ta) (stS X it tb) ta tb 30 i e p q j T = (chk X ta 0 0 T).2.2.2 := rfl
      have e1 : cws X (tD 30 i e ta tb) = cw X ta + 1 := rfl
      rw [e0, e1]
      exact ex_rs h4.1 (by omega) h hq h0 hc
    rw [if_neg k30] at hw
    by_cases k29 : k = 29
    · rw [if_pos k29] at hw
      subst k29
      obtain ⟨h1, rfl, rfl, c, c2, h4, h5, h6⟩ := hw
      have e0 : stN X it (stS X it ta) (stS X it tb) ta tb 29 i e p q j T = seC X ta tb T := rfl
      have e1 : cws X (tD 29 i e ta tb) = cw X ta + cw X tb + 2 := rfl
      rw [e0, e1]
      have := Wf_le2 h5.1
      exact rs_se h4.1 h5.1 (by omega) (by omega) h hq h0 hc
    rw [if_neg k29] at hw
    by_cases k26 : k = 26
    · rw [if_pos k26] at hw
      subst k26
      rw [if_neg (by omega), if_neg (by omega), if_neg (by omega), if_pos rfl] at hN
      obtain ⟨h1, h2, h3⟩ := hw
      have e0 : stN X it (stS X it ta) (stS X it tb) ta tb 26 i e p q j T = rgC X (stS X it ta) i T := rfl
      have e1 : cws X (tD 26 i e ta tb) = cws X ta + 2 := rfl
      rw [e0, e1]
      have mo := Ws_mo _ _ _ _ _ _ _ _ h3
      exact rs_rg (ihA 2 _ _ _ _ _ _ (N + 1) h3 (by omega) (by rw [if_pos rfl]; omega)) fA (by omega) hn h2 h hq h0 hc
    rw [if_neg k26] at hw
    by_cases k27 : k = 27
    · rw [if_pos k27] at hw
      subst k27
      obtain ⟨h1, rfl, rfl, h4⟩ := hw
      have e0 : stN X it (stS X it ta) (stS X it tb) ta tb 27 i e p q j T = csC X i T := rfl
      have e1 : cws X (tD 27 i e ta tb) = 3 := rfl
      rw [e0, e1]
      exact rs_cs h0
    rw [if_neg k27] at hw
    by_cases k28 : k = 28
    · rw [if_pos k28] at hw
      subst k28
      rw [if_neg (by omega), if_pos (Or.inr (Or.inr rfl))] at hN
      obtain ⟨h1, c, v1, g1, h2, h3⟩ := hw
      have mo := Ws_mo _ _ _ _ _ _ _ _ h3
      have e0 : stN X it (stS X it ta) (stS X it tb) ta tb 28 i e p q j T = trC X (stS X it ta) (stS X it tb) ta i T := rfl
      have e1 : cws X (tD 28 i e ta tb) = cws X ta + cws X tb + 2 := rfl
      rw [e0, e1]
      exact rs_ty (iA 2 _ _ _ _ _ _ (N + 1) h2 (by omega) (by rw [if_pos rfl]; omega)) (ihA 2 _ _ _ _ _ _ (N + 1) h2 (by omega) (by rw [if_pos rfl]; omega)) fA (ihB 2 _ _ _ _ _ _ N h3 (by omega) (by rw [if_pos rfl]; omega)) fB (by omega) hn h hq h0 hc
    · rw [if_neg k28] at hw
      exact hw.elim
end RMY
