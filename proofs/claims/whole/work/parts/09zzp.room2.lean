/-! room for types: names, tails, elements -/
/-- what an EXPR's type is worth -/
def off (T : gSt) (r : Int32) : Nat := if r = -2 then 13 else if 0 < r then (if 5 ≤ dpt T 7 r then 0 else if 4 ≤ dpt T 7 r then 2 else 4) else 2
/-- a type without any REGION, each of its rows the first of its kind -/
def aH (T : gSt) : Nat → Int32 → Prop
  | 0, _ => True
  | f + 1, x => 0 < x → ∃ p, x = nI p ∧ 1 ≤ p ∧ p < cn T ∧ (∀ q, 1 ≤ q → q < p → rwT T q ≠ rwT T p) ∧ T.1 67 p = 0 ∧ T.1 70 p = 0 ∧ (if 0 ≤ T.1 69 p then T.1 68 p = -1 else T.1 69 p = -1 ∧ aH T f (T.1 68 p))
/-- heads: no type deeper than five; those of an item without REGIONS have none -/
def Hq (T : gSt) : Prop := ∀ t, t < inn T → ∀ c m, T.1 18 t = nI c → T.1 19 t = nI m → c + m ≤ 220 → (∀ f, f < m → dpt T 7 (T.1 24 (c + f)) ≤ 5) ∧ (0 ≤ T.1 25 t → dpt T 7 (T.1 26 t) ≤ 5 ∧ (T.1 15 t = 0 → aH T 7 (T.1 26 t)))
section RM2
variable {T T' T1 S S' : gSt} {X : Lx} {p q k m n f v i e lo hi : Nat} {x y w r s a b : Int32} {z : T5} {nm : Int64} {ta tb t : Tr}
theorem off_le (h : ¬ r = -2) : off T r ≤ 4 := by
  unfold off
  rw [if_neg h]
  repeat' split
  all_goals omega
theorem off_i (h : ¬ r = -2) (h2 : ¬ 0 < r) : off T r = 2 := by unfold off; rw [if_neg h, if_neg h2]
theorem off_p (h2 : 0 < r) : off T r = (if 5 ≤ dpt T 7 r then 0 else if 4 ≤ dpt T 7 r then 2 else 4) := by
  unfold off
  rw [if_neg (fun e => by rw [e] at h2; exact absurd h2 (by decide)), if_pos h2]
theorem tR_m2 (hg : Tg T) (h : tV T x) : ¬ x = -2 := by
  rcases h with rfl | ⟨p, rfl, h1, h2⟩
  · decide
  · exact fun e => by
      have b := hg.2.2
      have := nI_gt h1 (by omega)
      rw [e] at this
      exact absurd this (by decide)
theorem pot_same (h : ∀ k, (65 ≤ k ∧ k ≤ 70) ∨ k = 77 ∨ k = 80 → T'.1 k = T.1 k) : pot T' = pot T := by
  have e1 : cn T' = cn T := by unfold cn; rw [h 65 (by omega)]
  have e2 : vn T' = vn T := by unfold vn; rw [h 77 (by omega)]
  have e3 : ∀ z, knF T' z = knF T z := fun z => by
    unfold knF
    have : eqT T' z = eqT T z := by
      funext p
      unfold eqT rwT
      rw [h 66 (by omega), h 67 (by omega), h 68 (by omega), h 69 (by omega), h 70 (by omega)]
    rw [this, e1]
  have e4 : ∀ x, usB T' x = usB T x := fun x => by
    unfold usB tf
    rw [e3, h 66 (by omega), h 67 (by omega), h 68 (by omega), h 69 (by omega), h 70 (by omega)]
  unfold pot psi
  rw [e1, e2, h 80 (by omega)]
  simp only [e4]
theorem pot_w (h : k < 65 ∨ 70 < k) (h2 : k ≠ 77) (h3 : k ≠ 80) : pot (sI T k i x) = pot T := pot_same (fun g hg => sI_ne (by omega))
theorem pot_fl : pot (flT T a b) = pot T := pot_same (fun g hg => flT_o (by omega) (by omega))
theorem pot_nu : pot (nuS T x) = pot T := pot_w (by omega) (by omega) (by omega)
theorem pot_tg : pot (tgS T x) = pot T := pot_w (by omega) (by omega) (by omega)
theorem pot_mk : pot (mkS T) = pot T := pot_w (by omega) (by omega) (by omega)
theorem dpt_same (h : ∀ k, 68 ≤ k ∧ k ≤ 69 → T'.1 k = T.1 k) : ∀ (f : Nat) (x : Int32), dpt T' f x = dpt T f x := by
  intro f
  induction f with
  | zero => intro x; rfl
  | succ f ih =>
    intro x
    rw [dpt, dpt, h 68 (by omega), h 69 (by omega), ih]
theorem off_same (h : ∀ k, 68 ≤ k ∧ k ≤ 69 → T'.1 k = T.1 k) : off T' r = off T r := by
  unfold off
  rw [dpt_same h]
theorem off_fe (hF : FE T T') (hg : Tg T) (hR : Rws T) (hc : cn T' < 6000) (hx : tR T r) : off T' r = off T r := by
  rcases hx with rfl | rfl | hx
  · rw [off_i (by decide) (by decide), off_i (by decide) (by decide)]
  · unfold off
    rw [if_pos rfl, if_pos rfl]
  · unfold off
    rw [dpt_fe hF hg hR hc hx]
theorem dp_td (h : Ck T) (hx : tR T x) (hc : cn T < 6000) (ht : ¬ isTd T x = 0) : off T x = 4 := by
  obtain ⟨p, u, rfl, p1, p2, cp, u1, u2, h9⟩ := td_row h hx hc ht
  have hp := nI_gt p1 (by omega : p < 100000)
  rw [off_p hp]
  have : dpt T 7 (nI p) = 1 := by rw [dpt, if_pos hp, cp, if_pos h9]
  rw [this, if_neg (by omega), if_neg (by omega)]
/-- a name makes no room less -/
theorem rm_nm (h : Ck T) (hc : cn T < 6000) : pot (nmC T nm x).2.2 ≤ pot T := by
  unfold nmC
  by_cases c1 : 0 ≤ fd (isVa T nm) (vn T)
  · rw [if_pos c1]
    split
    · rw [pot_fl]; exact Nat.le_refl _
    · split
      · rename_i c2 c3
        obtain ⟨j, hj, ej, vj⟩ := var_ok h c1
        have e80 : tf T 80 (fd (isVa T nm) (vn T)) = T.1 80 j := by unfold tf; rw [ej, nc (by have := h.2.2.2.2.2.2.1; omega)]
        rw [e80] at c3 ⊢
        generalize hz : ((1 : Int32), tf T 67 (T.1 80 j), tf T 68 (T.1 80 j), tf T 69 (T.1 80 j), tf T 70 (T.1 80 j)) = z
        show pot (knS T z) ≤ pot T
        by_cases c : knF T z = -1
        · have us : usB T (T.1 80 j) = true := by
            unfold usB
            rw [hz, Bool.and_eq_true, Bool.and_eq_true]
            exact ⟨decide_eq_true c3.1, decide_eq_true c3.2.1, decide_eq_true c⟩
          have hF : FE T (knS T z) := FE.kn
          have t := hF.2.2.1 h.1
          have k1 := cn_kn1 (z := z) h.1
          rw [pot_lt hc]
          by_cases c6 : cn (knS T z) < 6000
          · rw [pot_lt c6]
            have vv : Vv T := h.2.2.2.2.2.2.2
            have less : psi (knS T z) + 1 ≤ psi T := by
              unfold psi
              rw [hF.evn, hF.1 80 (by omega)]
              refine cnt_less (vn T) (fun v h1 h2 => us_mono h.1 t.1 t.2.1 (t.2.2 c6) (vv v h1) h2) j hj us ?_
              intro us2
              unfold usB at us2
              rw [Bool.and_eq_true, Bool.and_eq_true] at us2
              have u2 := of_decide_eq_true us2.2.2
              rcases vj with v0 | ⟨p, ep, p1, p2⟩
              · rw [v0] at c3
                exact absurd c3.1 (by decide)
              · have r := row5 (t.2.2 c6 p p2)
                have t1 := tf_row h.1 p2
                have t2 := tf_row t.1 (Nat.lt_of_lt_of_le p2 t.2.1)
                rw [ep] at u2 hz
                rw [t2.2.1, t2.2.2.1, t2.2.2.2.1, t2.2.2.2.2, r.2.1, r.2.2.1, r.2.2.2.1, r.2.2.2.2, ← t1.2.1, ← t1.2.2.1, ← t1.2.2.2.1, ← t1.2.2.2.2, hz] at u2
                -- the row stands there now
                have e : knS T z = adT T (cn T) z := by unfold knS; rw [if_pos c, if_pos hc]
                rw [e] at u2
                unfold knF at u2
                rw [cn_ad hc, ff_all (by omega)] at u2
                have := u2 (cn T) h.1.2.1 (by omega)
                apply this
                unfold eqT
                rw [adT_row, if_pos rfl]
                exact decide_eq_true rfl
            omega
          · rw [pot_ov c6]
            have : 1 ≤ psi T := by
              unfold psi
              have : ∀ n, j < n → 1 ≤ cntB (fun v => usB T (T.1 80 v)) n := by
                intro n
                induction n with
                | zero => intro q; omega
                | succ n ih =>
                  intro q
                  rw [cntB]
                  by_cases e : j = n
                  · subst e; rw [if_pos us]; omega
                  · have := ih (by omega); omega
              exact this _ hj
            omega
        · have e : knS T z = T := by unfold knS; rw [if_neg c]
          rw [e]
          exact Nat.le_refl _
      · exact Nat.le_refl _
  · rw [if_neg c1, pot_fl]
    exact Nat.le_refl _
/-- through a pointer -/
theorem rm_th (h : Ck T) (hq : Hq T) (hx : tR T s) (hc0 : cn T < 6000) : (¬ ((thC T r s nm x y).2.2.1 7 0 = 0 ∧ cn (thC T r s nm x y).2.2 < 6000) → pot (thC T r s nm x y).2.2 ≤ pot T + 10) ∧ ((thC T r s nm x y).2.2.1 7 0 = 0 → cn (thC T r s nm x y).2.2 < 6000 → T.1 7 0 = 0 → (r = 16 → pot (thC T r s nm x y).2.2 = pot T ∧ off (thC T r s nm x y).2.2 (thC T r s nm x y).1 ≤ off T s + 3) ∧ (¬ r = 16 → off T s = 4) ∧ (r = 17 → pot (thC T r s nm x y).2.2 = pot T ∧ (thC T r s nm x y).1 = 0) ∧ (¬ r = 16 → ¬ r = 17 → pot (thC T r s nm x y).2.2 ≤ pot T + 2 * dpt (thC T r s nm x y).2.2 7 (thC T r s nm x y).1 ∧ dpt (thC T r s nm x y).2.2 7 (thC T r s nm x y).1 ≤ 5 ∧ ¬ (thC T r s nm x y).1 = -2)) := by
  have hfe : FE T (thC T r s nm x y).2.2 := FE.th
  unfold thC at hfe ⊢
  by_cases c1 : thOk T r s = true
  · simp only [if_pos c1] at hfe ⊢
    by_cases c2 : isLv T (tf T 67 s) = 0
    · simp only [if_pos c2]
      exact ⟨fun _ => by rw [pot_fl]; omega, fun e => absurd e (flT_bad (by decide))⟩
    · simp only [if_neg c2] at hfe ⊢
      by_cases c3 : r = 16
      · simp only [if_pos c3] at hfe ⊢
        refine ⟨fun _ => by rw [pot_nu]; omega, fun _ _ _ => ⟨fun _ => ⟨pot_nu, ?_⟩, fun e => absurd c3 e, fun e => absurd (e.symm.trans c3) (by decide), fun e => absurd c3 e⟩⟩
        unfold thOk at c1
        rw [if_pos c3] at c1
        have c1' := of_decide_eq_true c1
        obtain ⟨p, rfl, p1, p2⟩ := hx.pos (isPt_pos c1'.1)
        have cp : (nI p).toNatClampNeg = p := nc (by omega)
        have c9 := c1'.2
        unfold tf at c9 ⊢
        rw [cp] at c9 ⊢
        obtain ⟨o1, o2, o3, o4, o5⟩ := h.row p1 p2
        rw [if_neg c9] at o5
        have en : off (nuS T (nI p)) (T.1 68 p) = off T (T.1 68 p) := off_same (fun k hk => sI_ne (by omega))
        rw [en]
        have hp := nI_gt p1 (by omega : p < 100000)
        have v1 : tV T (T.1 68 p) := o5.elim Or.inl (fun ⟨q, a, b, c⟩ => Or.inr ⟨q, a, b, by omega⟩)
        by_cases c0 : 0 < T.1 68 p
        · have d7 : dpt T 7 (nI p) = 1 + dpt T 6 (T.1 68 p) := by rw [dpt, if_pos hp, cp, if_neg c9]
          have dm : dpt T 6 (T.1 68 p) ≤ dpt T 7 (T.1 68 p) := dpt_mono (T := T) 6 (T.1 68 p)
          rw [off_p c0, off_p hp, d7]
          repeat' split
          all_goals omega
        · rw [off_i (tR_m2 h.1 v1) c0]
          omega
      · simp only [if_neg c3] at hfe ⊢
        unfold thOk at c1
        rw [if_neg c3] at c1
        have c1' := of_decide_eq_true c1
        have o4s := dp_td h hx hc0 c1'.1
        obtain ⟨p, u, rfl, p1, p2, cp, u1, u2, h9⟩ := td_row h hx hc0 c1'.1
        have e9 : tf T 69 (nI p) = nI u := by unfold tf; rw [cp]; exact u1
        rw [e9] at hfe ⊢
        by_cases c4 : 0 ≤ fnF T (nI u) nm
        · simp only [if_pos c4] at hfe ⊢
          by_cases c5 : r = 17
          · simp only [if_pos c5] at hfe ⊢
            exact ⟨fun _ => by rw [pot_nu]; omega, fun _ _ _ => ⟨fun e => absurd e c3, fun _ => o4s, fun _ => ⟨pot_nu, trivial⟩, fun _ e => absurd c5 e⟩⟩
          · simp only [if_neg c5] at hfe ⊢
            obtain ⟨c, m, j, f1, f2, f3, f4, f5, f6, f7, f8⟩ := fld_ok h hc0 u2 c4
            have hs : Ck (tgS (nuS T (nI p)) (nI u)) := (h.nu hc0).tg2 (by rw [cn_nu]; exact hc0)
            have hF : FE T (tgS (nuS T (nI p)) (nI u)) := FE.nu.tr FE.tg2
            have hcc : cn (tgS (nuS T (nI p)) (nI u)) < 6000 := by rw [cn_tg, cn_nu]; exact hc0
            rw [f5, f6] at hfe ⊢
            have e70 : tf T 70 (nI p) = T.1 70 p := by unfold tf; rw [cp]
            rw [e70] at hfe ⊢
            have hw := (h.row p1 p2).2.2.1
            have d5 : dpt T 7 (T.1 24 (c + j)) ≤ 5 := (hq u u2 c m f1 f2 f3).1 j f4
            have ed : dpt (tgS (nuS T (nI p)) (nI u)) 7 (T.1 24 (c + j)) = dpt T 7 (T.1 24 (c + j)) := dpt_same (fun k hk => by unfold tgS nuS; rw [sI_ne (by omega), sI_ne (by omega)]) _ _
            have ep : pot (tgS (nuS T (nI p)) (nI u)) = pot T := pot_tg.trans pot_nu
            have k1 := ch_cn (w := T.1 70 p) 7 (tgS (nuS T (nI p)) (nI u)) (T.1 24 (c + j)) hs.1
            rw [ed] at k1
            have hp2 := pot_add (FE.ch (w := T.1 70 p) 7 (tgS (nuS T (nI p)) (nI u)) (T.1 24 (c + j))) hs.1 (show Vv _ from hs.2.2.2.2.2.2.2) hcc k1
            rw [ep] at hp2
            refine ⟨fun _ => by show pot (chT 7 (tgS (nuS T (nI p)) (nI u)) (T.1 24 (c + j)) (T.1 70 p)).2 ≤ _; omega, fun _ hc2 _ => ⟨fun e => absurd e c3, fun _ => o4s, fun e => absurd e c5, fun _ _ => ?_⟩⟩
            have hd := ch_dp hw 7 (tgS (nuS T (nI p)) (nI u)) (T.1 24 (c + j)) hs.1 hs.2.1 (f7.fe hF h.1) (f8.fe hF h.1 hcc) hc2
            rw [ed] at hd
            have hv := (hs.ch hw (f7.fe hF h.1) (f8.fe hF h.1 hcc) hc2).2
            show pot (chT 7 (tgS (nuS T (nI p)) (nI u)) (T.1 24 (c + j)) (T.1 70 p)).2 ≤ pot T + 2 * dpt (chT 7 (tgS (nuS T (nI p)) (nI u)) (T.1 24 (c + j)) (T.1 70 p)).2 7 (chT 7 (tgS (nuS T (nI p)) (nI u)) (T.1 24 (c + j)) (T.1 70 p)).1 ∧ dpt (chT 7 (tgS (nuS T (nI p)) (nI u)) (T.1 24 (c + j)) (T.1 70 p)).2 7 (chT 7 (tgS (nuS T (nI p)) (nI u)) (T.1 24 (c + j)) (T.1 70 p)).1 ≤ 5 ∧ ¬ (chT 7 (tgS (nuS T (nI p)) (nI u)) (T.1 24 (c + j)) (T.1 70 p)).1 = -2
            rw [hd]
            exact ⟨hp2, d5, tR_m2 (hs.ch hw (f7.fe hF h.1) (f8.fe hF h.1 hcc) hc2).1.1 hv⟩
        · simp only [if_neg c4]
          exact ⟨fun _ => by rw [pot_fl, pot_nu]; omega, fun e => absurd e (flT_bad (by decide))⟩
  · simp only [if_neg c1]
    exact ⟨fun _ => by rw [pot_fl]; omega, fun e => absurd e (flT_bad (by decide))⟩
end RM2
