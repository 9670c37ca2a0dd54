/-! what STEPS keep of what is known of VARS: all of them */
-/
section SUF
variable {S S' S1 S2 S3 S4 Sf : gSt} {X : Lx} {it e e' v g n k i q c en m j a b v' g' N u s : Nat} {ta tb t : Tr} {x oq pl st kq lq rc ys no acc y t1 has : Int32} {nm : Int64} {P Q : Nat → Prop}
theorem as_a (hk : k = 31 ∨ k = 26 ∨ k = 11 ∨ k = 12 ∨ k = 28) (h : AsR X ta S u) : AsR X (tD k i e ta tb) S u := by
  obtain ⟨nm, h1, h2⟩ := h
  refine ⟨nm, ?_, h2⟩
  rw [asN_n]
  unfold asM
  by_cases c : k = 31 ∨ k = 26
  · rw [if_pos c]; exact h1
  · rw [if_neg c, if_pos (by omega)]; exact Or.inl h1
theorem as_b (hk : k = 11 ∨ k = 12 ∨ k = 28 ∨ k = 21 ∨ k = 22) (h : AsR X tb S u) : AsR X (tD k i e ta tb) S u := by
  obtain ⟨nm, h1, h2⟩ := h
  refine ⟨nm, ?_, h2⟩
  rw [asN_n]
  unfold asM
  rw [if_neg (by omega)]
  by_cases c : k = 11 ∨ k = 12 ∨ k = 28
  · rw [if_pos c]; exact Or.inr h1
  · rw [if_neg c, if_pos (by omega)]; exact h1
theorem gv_bit (he : e < 32) (hs : s < 32) : (¬ s = e → fi ((gvS S (nI e) t1 y has).1 81 0) s = fi (S.1 81 0) s ∧ fi ((gvS S (nI e) t1 y has).1 82 0) s = fi (S.1 82 0) s) ∧ (s = e → ¬ has = 0 → fi ((gvS S (nI e) t1 y has).1 81 0) s = true) := by
  unfold gvS
  rw [sI_ne (by omega), sI_v, sI_v]
  refine ⟨fun ne => ⟨?_, ?_⟩, fun eq h0 => ?_⟩
  · split
    · rw [fi_of he hs, if_neg ne]
    · rw [fi_on he hs, if_neg ne]
  · split
    · rw [fi_on he hs, if_neg ne]
    · rw [fi_of he hs, if_neg ne]
  · rw [if_neg h0, fi_on he hs, if_pos eq]
theorem fe_8 (h : FE S S') : S'.1 81 0 = S.1 81 0 ∧ S'.1 82 0 = S.1 82 0 ∧ S'.1 77 0 = S.1 77 0 ∧ S'.1 79 = S.1 79 ∧ S'.2 78 = S.2 78 ∧ S'.1 83 0 = S.1 83 0 := ⟨by rw [h.1 81 (by unfold fE; omega)], by rw [h.1 82 (by unfold fE; omega)], by rw [h.1 77 (by unfold fE; omega)], h.1 79 (by unfold fE; omega), by rw [h.2.1], by rw [h.1 83 (by unfold fE; omega)]⟩
theorem FE.knq (h : FE S S') : KnQ S S' P := KnQ.eq (fe_8 h).1 (fe_8 h).2.1
theorem fl_8 {p q : Int32} : (flT S p q).1 81 0 = S.1 81 0 ∧ (flT S p q).1 82 0 = S.1 82 0 := ⟨by rw [flT_o (by omega) (by omega)], by rw [flT_o (by omega) (by omega)]⟩
theorem cd_8 : (cdC X ta S).1 81 0 = S.1 81 0 ∧ (cdC X ta S).1 82 0 = S.1 82 0 := by
  have f := fe_8 (chk_fe (X := X) ta 0 0 S)
  unfold cdC cnT
  split
  · rw [fl_8.1, fl_8.2]; exact ⟨f.1, f.2.1⟩
  · exact ⟨f.1, f.2.1⟩
theorem va_fE : FE S (vaF X ta (vaM X S i).2 (vaM X S i).1) := by
  have f1 : FE S (vaM X S i).2 := (FE.wr (by omega) : FE S (sI S 92 0 (S.1 92 0 + 1))).tr (FE.me _ _ _)
  unfold vaF vaR
  split
  · exact f1
  · exact f1.tr ((chk_fe ta 0 0 _).tr FE.ft)
theorem pigeon : ∀ (n e : Nat) (f : Nat → Nat), e < n → (∀ u, u < n → f u < e) → (∀ a b, a < n → b < n → f a = f b → a = b) → False := by
  intro n
  induction n with
  | zero => intro e f h _ _; omega
  | succ n ih =>
    intro e f h h1 h2
    have hn := h1 n (by omega)
    refine ih (e - 1) (fun u => if f u = e - 1 then f n else f u) (by omega) (fun u hu => ?_) (fun a b ha hb hab => ?_)
    · by_cases c : f u = e - 1
      · rw [if_pos c]
        by_cases c2 : f n = e - 1
        · have := h2 u n (by omega) (by omega) (by omega); omega
        · omega
      · rw [if_neg c]
        have := h1 u (by omega); omega
    · by_cases c : f a = e - 1
      · by_cases c2 : f b = e - 1
        · exact h2 a b (by omega) (by omega) (by omega)
        · rw [if_pos c, if_neg c2] at hab
          have := h2 n b (by omega) (by omega) hab; omega
      · by_cases c2 : f b = e - 1
        · rw [if_neg c, if_pos c2] at hab
          have := h2 a n (by omega) (by omega) hab; omega
        · rw [if_neg c, if_neg c2] at hab
          exact h2 a b (by omega) (by omega) hab
/-- a VAR more */
-/
theorem va_ok (hv : SlB S e) (he : e < 20) (hk : (stS X it (tD 20 i e ta tb) ys no j S).1 7 0 = 0) : ∃ T1 ty, FE S T1 ∧ T1.1 7 0 = 0 ∧ ¬ 0 ≤ fd (isVa T1 (xN X (i + 1))) (vn T1) ∧ ty = (vaM X S i).1 ∧ T1 = vaF X ta (vaM X S i).2 (vaM X S i).1 ∧ stS X it (tD 20 i e ta tb) ys no j S = (if (seS T1 (xN X (i + 1)) (nI e) ty).1 83 0 = 0 then seS T1 (xN X (i + 1)) (nI e) ty else gvS (seS T1 (xN X (i + 1)) (nI e) ty) (nI e) ty (vaR X ta (vaM X S i).2).1 (if isZ ta = true then 0 else 1)) := by
  have e0 : stS X it (tD 20 i e ta tb) ys no j S = vaE (vaF X ta (vaM X S i).2 (vaM X S i).1) (xN X (i + 1)) (nI (xP X (i + 1))) (nI e) (vaM X S i).1 (vaR X ta (vaM X S i).2).1 (if isZ ta = true then 0 else 1) := rfl
  rw [e0] at hk ⊢
  have fe := va_fE (X := X) (ta := ta) (S := S) (i := i)
  have w2 : (vaF X ta (vaM X S i).2 (vaM X S i).1).1 7 0 = 0 := by
    refine Decidable.byContradiction fun w => ?_
    unfold vaE at hk
    rw [if_neg w] at hk
    exact w hk
  unfold vaE at hk ⊢
  rw [if_pos w2] at hk ⊢
  have w3 : ¬ 0 ≤ fd (isVa (vaF X ta (vaM X S i).2 (vaM X S i).1) (xN X (i + 1))) (vn (vaF X ta (vaM X S i).2 (vaM X S i).1)) := fun w => by
    rw [if_pos w] at hk
    exact flT_bad (by decide) hk
  rw [if_neg w3]
  exact ⟨_, _, fe, w2, w3, rfl, rfl, rfl⟩
theorem va_sl (hv : SlB S e) (he : e < 20) (hk : (stS X it (tD 20 i e ta tb) ys no j S).1 7 0 = 0) : SlB (stS X it (tD 20 i e ta tb) ys no j S) (e + 1) ∧ KnQ S (stS X it (tD 20 i e ta tb) ys no j S) P ∧ vn (stS X it (tD 20 i e ta tb) ys no j S) = vn S + 1 ∧ (stS X it (tD 20 i e ta tb) ys no j S).1 79 (vn S) = nI e ∧ (stS X it (tD 20 i e ta tb) ys no j S).1 80 (vn S) = (vaM X S i).1 := by
  obtain ⟨T1, ty, fe, z1, z2, ety, eT, e0⟩ := va_ok hv he hk
  obtain ⟨f1, f2, f3, f4, f5, f6⟩ := fe_8 fe
  obtain ⟨v1, v2, v3, v4⟩ := hv
  have evn : vn T1 = vn S := by unfold vn; rw [f3]
  have sn : vn (seS T1 (xN X (i + 1)) (nI e) ty) = vn S + 1 := by
    have : (seS T1 (xN X (i + 1)) (nI e) ty).1 77 0 = nI (vn T1 + 1) := see_77
    unfold vn at this ⊢
    rw [this]
    unfold vn at evn
    rw [evn, nc (by unfold vn at v2; omega)]
  have vlt : vn S ≤ e := by
    -- slots below e, each its own
    have : ∀ k, k ≤ vn S → ∀ l : List Nat, True := fun _ _ _ => trivial
    by_cases c : vn S ≤ e
    · exact c
    · exfalso
      exact pigeon (vn S) e (fun u => (S.1 79 u).toNatClampNeg) (by omega) (fun u hu => by
        obtain ⟨s, s1, s2⟩ := v3 u hu
        show (S.1 79 u).toNatClampNeg < e
        rw [s1, nc (by omega)]
        exact s2) (fun a b ha hb h => by
        obtain ⟨s, s1, s2⟩ := v3 a ha
        obtain ⟨s', s1', s2'⟩ := v3 b hb
        have h : (S.1 79 a).toNatClampNeg = (S.1 79 b).toNatClampNeg := h
        rw [s1, s1', nc (by omega), nc (by omega)] at h
        exact v4 a b ha hb (by rw [s1, s1', h]))
  have o79 : ∀ u, (seS T1 (xN X (i + 1)) (nI e) ty).1 79 u = if u = vn S then nI e else S.1 79 u := fun u => by rw [see_79, evn, f4]
  have o80 : (seS T1 (xN X (i + 1)) (nI e) ty).1 80 (vn S) = ty := by rw [see_80, evn, if_pos rfl]
  have sl0 : SlB (seS T1 (xN X (i + 1)) (nI e) ty) (e + 1) := by
    refine ⟨by omega, by omega, fun u hu => ?_, fun a b ha hb h => ?_⟩
    · rw [o79]
      by_cases c : u = vn S
      · exact ⟨e, by rw [if_pos c], by omega⟩
      · obtain ⟨s, s1, s2⟩ := v3 u (by omega)
        exact ⟨s, by rw [if_neg c]; exact s1, by omega⟩
    · rw [o79, o79] at h
      by_cases c : a = vn S
      · by_cases c2 : b = vn S
        · omega
        · rw [if_pos c, if_neg c2] at h
          obtain ⟨s, s1, s2⟩ := v3 b (by omega)
          rw [s1] at h
          have := nI_inj (by omega) (by omega) h
          omega
      · by_cases c2 : b = vn S
        · rw [if_neg c, if_pos c2] at h
          obtain ⟨s, s1, s2⟩ := v3 a (by omega)
          rw [s1] at h
          have := nI_inj (by omega) (by omega) h
          omega
        · rw [if_neg c, if_neg c2] at h
          exact v4 a b (by omega) (by omega) h
  have k0 : KnQ S (seS T1 (xN X (i + 1)) (nI e) ty) P := KnQ.eq (by rw [see_o (by omega) (by omega) (by omega), f1]) (by rw [see_o (by omega) (by omega) (by omega), f2])
  rw [e0]
  split
  · exact ⟨sl0, k0, sn, by rw [o79, if_pos rfl], by rw [o80, ety]⟩
  · have fo : FO (seS T1 (xN X (i + 1)) (nI e) ty) (gvS (seS T1 (xN X (i + 1)) (nI e) ty) (nI e) ty (vaR X ta (vaM X S i).2).1 (if isZ ta = true then 0 else 1)) := FO.gv
    refine ⟨sl0.fv (FV.fo fo) (by rw [fo.1 77 (by unfold fO; omega)]) (Nat.le_refl _) (by omega), fun u s hu hs hs2 => ?_, by unfold vn; rw [fo.1 77 (by unfold fO; omega)]; exact sn, by rw [fo.1 79 (by unfold fO; omega), o79, if_pos rfl], by rw [fo.1 80 (by unfold fO; omega), o80, ety]⟩
    obtain ⟨s', s1, s2⟩ := v3 u hu
    have es : s' = s := nI_inj (by omega) (by omega) (by rw [← s1, hs])
    obtain ⟨g1, _⟩ := gv_bit (S := seS T1 (xN X (i + 1)) (nI e) ty) (e := e) (s := s) (t1 := ty) (y := (vaR X ta (vaM X S i).2).1) (has := (if isZ ta = true then 0 else 1)) (by omega) (by omega)
    obtain ⟨g1, g2⟩ := g1 (by omega)
    rw [g1, g2]
    exact k0 u s hu hs hs2
end SUF
