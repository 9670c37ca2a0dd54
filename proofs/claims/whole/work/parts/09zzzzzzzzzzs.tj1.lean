/-! the instructions of an EXPR have their types: names, tails, elements, operators -/
/-- how much of the stack an EXPR asks for: words, values; m levels are left, mo 1 an EXPR, 0 a TERM -/
def NW (m mo : Nat) : Nat := 24 * m + 3 + 3 * mo
def NL (m mo : Nat) : Nat := 8 * m + 1 + mo
/-- slots are numbers below 20 -/
def SlD (S : gSt) : Prop := ∀ u, u < vn S → ∃ s, S.1 79 u = nI s ∧ s < 20
/-- the last instruction of a PLACE -/
def lsT (X : Lx) (t : Tr) (R : ChR) (l : T5) : Prop := (tkd X t = 14 → l.1 = 6 ∧ l.2.2.1 = R.2.1 ∧ l.2.2.2.1 = R.1) ∧ (tkd X t = 15 → l.1 = 8 ∧ l.2.1 = R.2.1 ∧ l.2.2.1 = R.1) ∧ (tkd X t = 16 → l.1 = 10 ∧ l.2.2.1 = R.2.1 ∧ l.2.2.2.1 = R.1)
def TyE (X : Lx) (Sf S : gSt) (t : Tr) (R : ChR) (mm mo : Nat) : Prop := kGo R.2.2.1 ∧ (∀ (B L : Nat) (st : List Int32), wsl Sf st + NW mm mo ≤ B → st.length + NL mm mo ≤ L → TyL Sf S B L (ksE R.2.2.1) st (psh R.1 st)) ∧ (tkd X t = 14 ∨ tkd X t = 15 ∨ tkd X t = 16 → ∃ l0 l, R.2.2.1 = l0 ++ [l] ∧ kGo l0 ∧ lsT X t R l ∧ ∀ (B L : Nat) (st : List Int32), wsl Sf st + NW mm mo ≤ B → st.length + NL mm mo ≤ L → ∃ s1, TyL Sf S B L (ksE l0) st s1 ∧ tyJ Sf S l s1 (R.1 :: st))
def TyX (X : Lx) (Sf S : gSt) (t : Tr) : Prop := ∀ (lo hi mm mo : Nat) (T : gSt), mo ≤ 1 → Wb X t false lo hi → Ck T → T.1 7 0 = 0 → FE S T → (chk X t 0 0 T).2.2.2.1 7 0 = 0 → FW (chk X t 0 0 T).2.2.2 Sf → XG X t mm mo → TyE X Sf S t (chk X t 0 0 T) mm mo
def TyA (X : Lx) (Sf S : gSt) (t : Tr) : Prop := ∀ (lo hi mm f : Nat) (w : Int32) (T : gSt), Wb X t true lo hi → Ck T → T.1 7 0 = 0 → FE S T → agOk T f w t → (chk X t f w T).2.2.2.1 7 0 = 0 → FW (chk X t f w T).2.2.2 Sf → XG X t mm 2 → kGo (chk X t f w T).2.2.1 ∧ ∃ ts : List Int32, ts.length = lenT t ∧ AgT Sf S f w ts ∧ ∀ (B L : Nat) (st : List Int32), wsl Sf st + 3 * lenT t + NW mm 1 ≤ B + 3 → st.length + lenT t + NL mm 1 ≤ L + 1 → TyL Sf S B L (ksE (chk X t f w T).2.2.1) st (ts.reverse ++ st)
section TJ1
variable {S Sf T T' T1 : gSt} {X : Lx} {p q k m n t u c e f s B L i lo hi lo' hi' mm mo : Nat} {x y w r pl pn sg : Int32} {st s0 s1 s2 : List Int32} {js ks : List T5} {j z : T5} {ρ : Nat → Nat} {nm : Int64} {ta tb tr : Tr} {R : ChR}
theorem psh_n (h : ¬ x = -1) : psh x st = x :: st := if_neg h
theorem rowP.n1 (h : rowP T x p) (hc : cn T ≤ 6000) : ¬ x = -1 := fun e => h.np hc (by rw [e]; decide)
theorem rowP.n2 (h : rowP T x p) (hc : cn T ≤ 6000) : ¬ x = -2 := fun e => h.np hc (by rw [e]; decide)
theorem rowP.n0 (h : rowP T x p) (hc : cn T ≤ 6000) : ¬ x = 0 := fun e => h.np hc (by rw [e]; decide)
theorem pt_row (h : Ck T) (hx : tR T x) (hc : cn T < 6000) (ht : ¬ isPt T x = 0) : ∃ p, rowP T x p ∧ (T.1 66 p = 1 ∨ T.1 66 p = 2) := by
  obtain ⟨p, e, p1, p2⟩ := hx.pos (isPt_pos ht)
  refine ⟨p, ⟨e, p1, p2⟩, ?_⟩
  unfold isPt at ht
  rw [if_neg (isPt_pos ht), e, nc (by omega)] at ht
  have o1 := (h.row p1 p2).1
  rcases o1 with o | o | o
  · exact Or.inl o
  · exact Or.inr o
  · rw [o, if_pos (by decide)] at ht
    exact absurd rfl ht
theorem td_rw (h : Ck T) (hx : tR T x) (hc : cn T < 6000) (ht : ¬ isTd T x = 0) : ∃ p u, rowP T x p ∧ (T.1 66 p = 1 ∨ T.1 66 p = 2) ∧ T.1 69 p = nI u ∧ u < inn T := by
  obtain ⟨p, h1, h2⟩ := pt_row h hx hc (isTd_pt ht)
  obtain ⟨p', u, e, p1, p2, cp, u1, u2, u3⟩ := td_row h hx hc ht
  have : p = p' := nI_inj (by have := h1.2.2; omega) (by omega) (by rw [← h1.1, e])
  subst this
  exact ⟨p, u, h1, h2, u1, u2⟩
theorem ro_rw (h : Ck T) (hx : tR T x) (hc : cn T < 6000) (ht : ¬ isRo T x = 0) : ∃ p, rowP T x p ∧ T.1 66 p = 3 ∧ T.1 69 p < 0 ∧ tV T (T.1 68 p) := by
  obtain ⟨p, e, p1, p2, cp, p3, p4⟩ := ro_row h hx hc ht
  refine ⟨p, ⟨e, p1, p2⟩, ?_, Int32.not_le.mp p3, p4⟩
  unfold isRo at ht
  rw [if_neg (isRo_pos ht), e, cp] at ht
  exact Decidable.byContradiction fun w => ht (if_neg w)
theorem it_m8 (h : Ck T) (hu : u < inn T) : ∃ m, T.1 19 u = nI m ∧ m ≤ 8 := by
  obtain ⟨c, m, r, w, b1, b2, b3, b4, b5⟩ := h.2.2.2.2.1.2.2 u hu
  exact ⟨m, b2, b3⟩
/-- parts of an item, as the last state has them -/
theorem fld_P (h : Ck T) (hc : cn T < 6000) (hF : FW T Sf) (hu : u < inn T) (hf : 0 ≤ fnF T (nI u) nm) : ∃ c f, fnF T (nI u) nm = nI f ∧ fldP Sf u f c ∧ fty T (nI u) (nI f) = T.1 24 (c + f) ∧ tV T (T.1 24 (c + f)) ∧ dOk T 7 (T.1 24 (c + f)) ∧ Sf.1 24 (c + f) = T.1 24 (c + f) := by
  obtain ⟨c, m, j, f1, f2, f3, f4, f5, f6, f7, f8⟩ := fld_ok h hc hu hf
  obtain ⟨m', m1, m2⟩ := it_m8 h hu
  have : m = m' := nI_inj (by omega) (by omega) (by rw [← f2, m1])
  subst this
  exact ⟨c, j, f5, ⟨m, by rw [hF.1 18 (by omega) (by omega) (by omega)]; exact f1, by rw [hF.1 19 (by omega) (by omega) (by omega)]; exact f2, f4, f3, m2⟩, f6, f7, f8, by rw [hF.1 24 (by omega) (by omega) (by omega)]⟩
/-- through a pointer -/
theorem th_ty (hc : cn Sf < 6000) (hRf : Rws Sf) (hC : Ck T) (hE : FE S T) (hx : tR T x) {kd o : Int32} (hk : (kd = 14 ∧ o = 6) ∨ (kd = 16 ∧ o = 10) ∨ (kd = 17 ∧ o = 11)) (hf : (thC T kd x nm pl pn).2.2.1 7 0 = 0) (hF : FW (thC T kd x nm pl pn).2.2 Sf) : ¬ x = -1 ∧ ¬ (thC T kd x nm pl pn).1 = -1 ∧ ∀ s0, tyJ Sf S (j1 o (thC T kd x nm pl pn).2.1 x (thC T kd x nm pl pn).1 0) (x :: s0) ((thC T kd x nm pl pn).1 :: s0) := by
  have hfe : FE T (thC T kd x nm pl pn).2.2 := FE.th
  have hTF : FW T Sf := hfe.fw.tr hF
  have hc0 := hTF.lt hC.1 hc
  unfold thC at hf hF ⊢
  by_cases c1 : thOk T kd x = true
  · simp only [if_pos c1] at hf hF ⊢
    by_cases c2 : isLv T (tf T 67 x) = 0
    · simp only [if_pos c2] at hf
      exact absurd hf (flT_bad (by decide))
    · simp only [if_neg c2] at hf hF ⊢
      by_cases c3 : kd = 16
      · simp only [if_pos c3] at hf hF ⊢
        unfold thOk at c1
        rw [if_pos c3] at c1
        have c1' := of_decide_eq_true c1
        obtain ⟨p, hp, hk2⟩ := pt_row hC hx hc0 c1'.1
        have ep := hp.cl (by omega)
        have c9 := c1'.2
        unfold tf at c9 c2 ⊢
        rw [ep] at c9 c2 ⊢
        obtain ⟨r1, r2, r3, r4, r5⟩ := row5 (hTF.row hC.1 hc hp.2.2)
        have o5 := (hC.row hp.2.1 hp.2.2).2.2.2.2
        rw [if_neg c9] at o5
        have ho : o = 10 := by
          rcases hk with h | h | h
          · rw [h.1] at c3; exact absurd c3 (by decide)
          · exact h.2
          · rw [h.1] at c3; exact absurd c3 (by decide)
        subst ho
        have v68 : tV T (T.1 68 p) := by
          rcases o5 with o5 | ⟨q, e1, e2, e3⟩
          · exact Or.inl o5
          · have := hp.2.2
            exact Or.inr ⟨q, e1, e2, by omega⟩
        refine ⟨hp.n1 (by omega), ?_, fun s0 => ?_⟩
        · rcases v68.row with e | ⟨q, hq⟩
          · rw [e]; decide
          · exact hq.n1 (by omega)
        · rw [tyJ_10 rfl]
          exact ⟨s0, p, rfl, rfl, ⟨hp.up hTF hC.1, by rw [r1]; exact hk2, by rw [r4]; exact Int32.not_le.mp c9, by rw [r2, ← isLv_fe hE]; exact c2⟩, r3.symm⟩
      · simp only [if_neg c3] at hf hF ⊢
        unfold thOk at c1
        rw [if_neg c3] at c1
        have c1' := of_decide_eq_true c1
        obtain ⟨p, u, hp, hk2, u1, u2⟩ := td_rw hC hx hc0 c1'.1
        have ep := hp.cl (by omega)
        have e9 : tf T 69 x = nI u := by unfold tf; rw [ep]; exact u1
        have e67 : tf T 67 x = T.1 67 p := by unfold tf; rw [ep]
        have e70 : tf T 70 x = T.1 70 p := by unfold tf; rw [ep]
        rw [e67] at c2
        rw [e9] at hf hF ⊢
        obtain ⟨r1, r2, r3, r4, r5⟩ := row5 (hTF.row hC.1 hc hp.2.2)
        have tp : thrP Sf S x p u := ⟨hp.up hTF hC.1, by rw [r1]; exact hk2, by rw [r4]; exact u1, by rw [hTF.einn]; exact u2, by rw [r2, ← isLv_fe hE]; exact c2⟩
        by_cases c4 : 0 ≤ fnF T (nI u) nm
        · obtain ⟨c, f, f1, f2, f3, f4, f5, f6⟩ := fld_P hC hc0 hTF u2 c4
          simp only [if_pos c4] at hf hF ⊢
          by_cases c5 : kd = 17
          · simp only [if_pos c5] at hf hF ⊢
            have ho : o = 11 := by
              rcases hk with h | h | h
              · rw [h.1] at c5; exact absurd c5 (by decide)
              · rw [h.1] at c5; exact absurd c5 (by decide)
              · exact h.2
            subst ho
            refine ⟨hp.n1 (by omega), (by decide), fun s0 => ?_⟩
            rw [tyJ_11 rfl]
            have k17 := c1'.2 c5
            rw [e9, nc (by have := hC.2.2.2.2.1.2.1; omega)] at k17
            exact ⟨s0, p, u, f, c, rfl, rfl, tp, by rw [hTF.1 12 (by omega) (by omega) (by omega)]; exact k17, f1, f2⟩
          · simp only [if_neg c5] at hf hF ⊢
            have ho : o = 6 := by
              rcases hk with h | h | h
              · exact h.2
              · exact absurd h.1 c3
              · exact absurd h.1 c5
            subst ho
            rw [f1, f3, e70] at hf hF ⊢
            have hs : Ck (tgS (nuS T x) (nI u)) := (hC.nu hc0).tg2 (by rw [cn_nu]; exact hc0)
            have hF2 : FE T (tgS (nuS T x) (nI u)) := FE.nu.tr FE.tg2
            have hcc : cn (tgS (nuS T x) (nI u)) < 6000 := by rw [cn_tg, cn_nu]; exact hc0
            have pk := (hC.row hp.2.1 hp.2.2).2.2.1
            have fch := FE.ch (w := T.1 70 p) 7 (tgS (nuS T x) (nI u)) (T.1 24 (c + f))
            have gch := fch.tg hs.1
            have ch := hs.ch pk (f4.fe hF2 hC.1) (f5.fe hF2 hC.1 hcc) (hF.lt gch hc)
            refine ⟨hp.n1 (by omega), ?_, fun s0 => ?_⟩
            · rcases ch.2.row with e | ⟨q, hq⟩
              · rw [e]; decide
              · exact hq.n1 (by have := hF.lt gch hc; omega)
            rw [tyJ_6 rfl]
            refine ⟨s0, p, u, f, c, rfl, rfl, tp, rfl, f2, hF.tv gch ch.2, fun ρ => ?_⟩
            dsimp only [j1]
            rw [gty_c hc hRf hs pk (f4.fe hF2 hC.1) (f5.fe hF2 hC.1 hcc) hF, r5, f6]
        · simp only [if_neg c4] at hf
          exact absurd hf (flT_bad (by decide))
  · simp only [if_neg c1] at hf
    exact absurd hf (flT_bad (by decide))
/-- an element of a ROW -/
theorem ix_ty (hc : cn Sf < 6000) (hC : Ck T) (hE : FE S T) (hx : tR T x) (hf : (ixC T x y pl pn).2.1 7 0 = 0) (hF : FW (ixC T x y pl pn).2 Sf) : ¬ x = -1 ∧ y = 0 ∧ ¬ (ixC T x y pl pn).1 = -1 ∧ ∀ s0, tyJ Sf S (j1 8 x (ixC T x y pl pn).1 0 0) (0 :: x :: s0) ((ixC T x y pl pn).1 :: s0) := by
  have hfe : FE T (ixC T x y pl pn).2 := FE.ix
  have hTF : FW T Sf := hfe.fw.tr hF
  have hc0 := hTF.lt hC.1 hc
  unfold ixC at hf hF ⊢
  by_cases c1 : isRo T x = 0
  · simp only [if_pos c1] at hf
    exact absurd hf (flT_bad (by decide))
  simp only [if_neg c1] at hf hF ⊢
  by_cases c2 : isLv T (tf T 67 x) = 0
  · simp only [if_pos c2] at hf
    exact absurd hf (flT_bad (by decide))
  simp only [if_neg c2] at hf hF ⊢
  by_cases c3 : y = 0
  · simp only [if_pos c3] at hf hF ⊢
    obtain ⟨p, hp, p3, p4, p5⟩ := ro_rw hC hx hc0 c1
    have ep := hp.cl (by omega)
    unfold tf at c2 ⊢
    rw [ep] at c2 ⊢
    obtain ⟨r1, r2, r3, r4, r5⟩ := row5 (hTF.row hC.1 hc hp.2.2)
    refine ⟨hp.n1 (by omega), c3, ?_, fun s0 => ?_⟩
    · rcases p5.row with e | ⟨q, hq⟩
      · rw [e]; decide
      · exact hq.n1 (by omega)
    · rw [tyJ_8 rfl]
      exact ⟨s0, p, rfl, rfl, ⟨hp.up hTF hC.1, by rw [r1]; exact p3, by rw [r4]; exact p4, by rw [r2, ← isLv_fe hE]; exact c2⟩, r3.symm⟩
  · simp only [if_neg c3] at hf
    exact absurd hf (flT_bad (by decide))
/-- an operator -/
theorem op_tyJ {l : Int32} (hc : cn Sf < 6000) (hC : Ck T) (hE : FE S T) (hx : tR T l) (hy : tR T r) (hf : (opC T sg l r pl pn).2.1 7 0 = 0) (hF : FW (opC T sg l r pl pn).2 Sf) : ¬ l = -1 ∧ ¬ r = -1 ∧ ¬ (opC T sg l r pl pn).1 = -1 ∧ ∀ s0, tyJ Sf S (j1 19 sg l r (opC T sg l r pl pn).1) (r :: l :: s0) ((opC T sg l r pl pn).1 :: s0) := by
  have hfe : FE T (opC T sg l r pl pn).2 := FE.op
  have hTF : FW T Sf := hfe.fw.tr hF
  have hc0 := hTF.lt hC.1 hc
  have go : ∀ (v : Int32) (s0 : List Int32), ((v = l ∧ r = 0 ∧ ∃ p, rowP Sf l p ∧ Sf.1 66 p = 3) ∨ (sg = 256 ∧ v = 0 ∧ (l = -2 ∨ ∃ p, rowP Sf l p ∧ (Sf.1 66 p = 1 ∨ Sf.1 66 p = 2)) ∧ (r = -2 ∨ ∃ p, rowP Sf r p ∧ (Sf.1 66 p = 1 ∨ Sf.1 66 p = 2)) ∧ (∀ p q, rowP Sf l p → rowP Sf r q → Sf.1 68 p = Sf.1 68 q ∧ Sf.1 69 p = Sf.1 69 q ∧ Sf.1 70 p = Sf.1 70 q ∧ ¬ isLv S (Sf.1 67 p) = 0 ∧ ¬ isLv S (Sf.1 67 q) = 0)) ∨ (v = 0 ∧ l = 0 ∧ r = 0)) → tyJ Sf S (j1 19 sg l r v) (r :: l :: s0) (v :: s0) := by
    intro v s0 h
    rw [tyJ_19 rfl]
    exact ⟨s0, rfl, rfl, h⟩
  have up1 : ∀ y, ¬ isPt T y = 0 → tR T y → ∃ p, rowP Sf y p ∧ (Sf.1 66 p = 1 ∨ Sf.1 66 p = 2) ∧ rowP T y p := fun y h1 h2 => by
    obtain ⟨p, hp, hk⟩ := pt_row hC h2 hc0 h1
    obtain ⟨r1, r2, r3, r4, r5⟩ := row5 (hTF.row hC.1 hc hp.2.2)
    exact ⟨p, hp.up hTF hC.1, by rw [r1]; exact hk, hp⟩
  have n2 : ∀ y, (y = -2 ∨ ¬ isPt T y = 0) → tR T y → ¬ y = -1 := fun y h1 h2 => by
    rcases h1 with h1 | h1
    · rw [h1]; decide
    · obtain ⟨p, hp, _⟩ := up1 y h1 h2
      exact hp.n1 (by omega)
  unfold opC at hf hF ⊢
  by_cases c1 : sg = 43 ∧ ¬ isRo T l = 0 ∧ r = 0
  · simp only [if_pos c1] at hf hF ⊢
    obtain ⟨p, hp, p3, p4, p5⟩ := ro_rw hC hx hc0 c1.2.1
    obtain ⟨r1, r2, r3, r4, r5⟩ := row5 (hTF.row hC.1 hc hp.2.2)
    refine ⟨hp.n1 (by omega), by rw [c1.2.2]; decide, hp.n1 (by omega), fun s0 => go _ _ (Or.inl ⟨rfl, c1.2.2, p, hp.up hTF hC.1, by rw [r1]; exact p3⟩)⟩
  simp only [if_neg c1] at hf hF ⊢
  by_cases c2 : sg = 256 ∧ (l = -2 ∨ ¬ isPt T l = 0) ∧ (r = -2 ∨ ¬ isPt T r = 0)
  · simp only [if_pos c2] at hf hF ⊢
    have A : (l = -2 ∨ ∃ p, rowP Sf l p ∧ (Sf.1 66 p = 1 ∨ Sf.1 66 p = 2)) ∧ (r = -2 ∨ ∃ p, rowP Sf r p ∧ (Sf.1 66 p = 1 ∨ Sf.1 66 p = 2)) := by
      constructor
      · rcases c2.2.1 with h | h
        · exact Or.inl h
        · obtain ⟨p, h1, h2, _⟩ := up1 l h hx; exact Or.inr ⟨p, h1, h2⟩
      · rcases c2.2.2 with h | h
        · exact Or.inl h
        · obtain ⟨p, h1, h2, _⟩ := up1 r h hy; exact Or.inr ⟨p, h1, h2⟩
    by_cases c3 : l = -2 ∨ r = -2
    · simp only [if_pos c3] at hf hF ⊢
      refine ⟨n2 l c2.2.1 hx, n2 r c2.2.2 hy, by decide, fun s0 => go _ _ (Or.inr (Or.inl ⟨c2.1, rfl, A.1, A.2, fun p q hp hq => ?_⟩))⟩
      rcases c3 with h | h
      · exact absurd h (hp.n2 (by omega))
      · exact absurd h (hq.n2 (by omega))
    simp only [if_neg c3] at hf hF ⊢
    by_cases c4 : ¬ sameC T l r = 0 ∧ (¬ dOv T (tf T 67 l) (tf T 67 r) = 0 ∨ ¬ dOv T (tf T 67 r) (tf T 67 l) = 0)
    · simp only [if_pos c4] at hf hF ⊢
      by_cases c5 : isLv T (tf T 67 l) = 0
      · simp only [if_pos c5] at hf
        exact absurd hf (flT_bad (by decide))
      simp only [if_neg c5] at hf hF ⊢
      by_cases c6 : isLv T (tf T 67 r) = 0
      · simp only [if_pos c6] at hf
        exact absurd hf (flT_bad (by decide))
      simp only [if_neg c6] at hf hF ⊢
      refine ⟨n2 l c2.2.1 hx, n2 r c2.2.2 hy, by decide, fun s0 => go _ _ (Or.inr (Or.inl ⟨c2.1, rfl, A.1, A.2, fun p q hp hq => ?_⟩))⟩
      obtain ⟨p', h1, h2, h3⟩ := up1 l (c2.2.1.resolve_left (fun e => c3 (Or.inl e))) hx
      obtain ⟨q', g1, g2, g3⟩ := up1 r (c2.2.2.resolve_left (fun e => c3 (Or.inr e))) hy
      have e1 : p' = p := nI_inj (by have := h1.2.2; omega) (by have := hp.2.2; omega) (by rw [← h1.1, hp.1])
      have e2 : q' = q := nI_inj (by have := g1.2.2; omega) (by have := hq.2.2; omega) (by rw [← g1.1, hq.1])
      subst e1 e2
      have ep := h3.cl (by omega)
      have eq := g3.cl (by omega)
      obtain ⟨r1, r2, r3, r4, r5⟩ := row5 (hTF.row hC.1 hc h3.2.2)
      obtain ⟨s1, s2, s3, s4, s5⟩ := row5 (hTF.row hC.1 hc g3.2.2)
      have sc := c4.1
      unfold sameC at sc
      unfold tf at c5 c6
      rw [ep] at c5
      rw [eq] at c6
      rw [ep, eq] at sc
      by_cases c7 : T.1 68 p' = T.1 68 q' ∧ T.1 69 p' = T.1 69 q' ∧ T.1 70 p' = T.1 70 q'
      · refine ⟨by rw [r3, s3]; exact c7.1, by rw [r4, s4]; exact c7.2.1, by rw [r5, s5]; exact c7.2.2, by rw [r2, ← isLv_fe hE]; exact c5, by rw [s2, ← isLv_fe hE]; exact c6⟩
      · rw [if_neg c7] at sc
        exact absurd rfl sc
    · simp only [if_neg c4] at hf
      exact absurd hf (flT_bad (by decide))
  simp only [if_neg c2] at hf hF ⊢
  by_cases c3 : l = 0
  · simp only [if_pos c3] at hf hF ⊢
    by_cases c4 : r = 0
    · simp only [if_pos c4] at hf hF ⊢
      subst c3 c4
      exact ⟨by decide, by decide, by decide, fun s0 => go _ _ (Or.inr (Or.inr ⟨rfl, rfl, rfl⟩))⟩
    · simp only [if_neg c4] at hf
      exact absurd hf (flT_bad (by decide))
  · simp only [if_neg c3] at hf
    exact absurd hf (flT_bad (by decide))
end TJ1
