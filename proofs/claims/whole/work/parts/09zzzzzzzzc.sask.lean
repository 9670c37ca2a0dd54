/-! the VAR that an EXPR asks for, on the class's side -/
/-- the VAR that an EXPR is, and nothing else -/
def vaI (X : Lx) (T : gSt) (n : Nat) (t : Tr) : Int32 := if tkd X t = 4 then ff (isVr T (xN X (lfI t))) 0 n else -1
/-- NAME == null -/
def vnI (X : Lx) (T : gSt) (n : Nat) : Tr → Int32
  | .add (.add (.var k) (.add (.var _) (.var e))) (.add a b) => if k = 2 then vnI X T n a else if k = 5 ∧ e = 62 ∧ tkd X a = 4 ∧ tkd X b = 1 then ff (isVr T (xN X (lfI a))) 0 n else -1
  | _ => -1
section SAK
variable {S S' T T' : gSt} {X : Lx} {nf d i k n m e c a b lo hi z : Nat} {ta tb tr : Tr}
theorem tkd_5 : tkd X (tD 5 i e ta tb) = 13 := rfl
theorem lfI_n : lfI (tD k i e ta tb) = if k = 2 then lfI ta else i := rfl
theorem vnI_n : vnI X T n (tD k i e ta tb) = if k = 2 then vnI X T n ta else if k = 5 ∧ e = 62 ∧ tkd X ta = 4 ∧ tkd X tb = 1 then ff (isVr T (xN X (lfI ta))) 0 n else -1 := rfl
theorem lf_br (tr : Tr) : lfI tr = lfI (brT tr) := by
  induction tr using Tr_ind with
  | hz t hz =>
    unfold brT
    split
    · exact absurd rfl (hz _ _ _ _ _)
    · rfl
  | h k i e ta tb ihA ihB =>
    rw [brT_n, lfI_n]
    by_cases c : k = 2
    · rw [if_pos c, if_pos c]
      exact ihA
    · rw [if_neg c, if_neg c, lfI_n, if_neg c]
/-- a TERM that isn't in parentheses -/
theorem Rc_lf (hX : XO X) (h : RcG X T (tD k i e ta tb) 0 lo hi z) (hf : fnT T lo z) (hg : XG X (tD k i e ta tb) m 1) (hl : 1 ≤ lo) (hh : hi ≤ 4008) (h2 : ¬ k = 2) : (tkd X (tD k i e ta tb) = 4 ↔ T.1 11 lo = 2 ∧ T.1 18 lo = 0) ∧ (tkd X (tD k i e ta tb) = 1 ↔ T.1 11 lo = 27 ∧ T.1 18 lo = 0) ∧ (tkd X (tD k i e ta tb) = 4 → T.1 12 lo = nI (lfI (tD k i e ta tb)) ∧ xK X (lfI (tD k i e ta tb)) = 2) ∧ ¬ (T.1 11 lo = 42 ∧ T.1 18 lo = 0) := by
  have h18 := fun w => Rc_18 (tD k i e ta tb) lo hi z hl h w
  have hz := Rc_le _ _ _ _ _ (by omega) h
  have h11 : ¬ k = 3 → ¬ k = 4 → ¬ T.1 11 lo = 42 := fun a b => Rc_11 hX h hg h2 a b
  rw [RcG_n] at h
  unfold RcN at h
  rw [if_neg (by omega), if_neg (by omega)] at h
  unfold Rc0 at h
  rw [XG_n] at hg
  unfold xgN at hg
  rw [if_neg (by omega)] at hg
  rw [tkd_n, lfI_n, if_neg h2, if_neg h2]
  have xl := (hX.2 i).2
  have lit : ∀ j c, j < 100 → c < 100 → ¬ j = c → ¬ nI j = nI c := fun j c hj hc hn w => hn (nI_inj (by omega) (by omega) w)
  have no : ∀ q : Nat, ¬ q = 4 → ¬ q = 1 → ¬ T.1 11 lo = 2 → ¬ T.1 11 lo = 27 → ¬ T.1 11 lo = 42 → (q = 4 ↔ T.1 11 lo = 2 ∧ T.1 18 lo = 0) ∧ (q = 1 ↔ T.1 11 lo = 27 ∧ T.1 18 lo = 0) ∧ (q = 4 → T.1 12 lo = nI i ∧ xK X i = 2) ∧ ¬ (T.1 11 lo = 42 ∧ T.1 18 lo = 0) := fun q q4 q1 w1 w2 w3 => ⟨⟨fun w => absurd w q4, fun w => absurd w.1 w1⟩, ⟨fun w => absurd w q1, fun w => absurd w.1 w2⟩, fun w => absurd w q4, fun w => w3 w.1⟩
  have tl : ∀ q : Nat, ¬ q = 4 → ¬ q = 1 → lo < z → (q = 4 ↔ T.1 11 lo = 2 ∧ T.1 18 lo = 0) ∧ (q = 1 ↔ T.1 11 lo = 27 ∧ T.1 18 lo = 0) ∧ (q = 4 → T.1 12 lo = nI i ∧ xK X i = 2) ∧ ¬ (T.1 11 lo = 42 ∧ T.1 18 lo = 0) := fun q q4 q1 w => by
    obtain ⟨u, u1, u2, u3⟩ := h18 (by omega)
    have n0 : ¬ T.1 18 lo = 0 := fun v => by
      rw [u3] at v
      have := nI_inj (b := 0) (by omega) (by omega) v
      omega
    exact ⟨⟨fun w => absurd w q4, fun w => absurd w.2 n0⟩, ⟨fun w => absurd w q1, fun w => absurd w.2 n0⟩, fun w => absurd w q4, fun w => n0 w.2⟩
  by_cases c1 : k = 1
  · rw [if_pos c1] at h hg
    rw [if_pos c1]
    obtain ⟨_, z0, e1, e2⟩ := h
    have f18 : T.1 18 lo = 0 := by unfold fnT at hf; rw [if_pos z0] at hf; exact hf
    have q2 : (nI (xK X i) = (2 : Int32)) = (xK X i = 2) := ci_eq (j := 2) (by omega) (by omega)
    have q27 : (nI (xK X i) = (27 : Int32)) = (xK X i = 27) := ci_eq (j := 27) (by omega) (by omega)
    have q42 := h11 (by omega) (by omega)
    rw [e1, q2, q27]
    refine ⟨?_, ?_, ?_, fun w => q42 (by rw [e1]; exact w.1)⟩
    · rcases hg with w | w | w | w | w <;> simp [w, f18]
    · rcases hg with w | w | w | w | w <;> simp [w, f18]
    · intro w
      refine ⟨e2, ?_⟩
      rcases hg with v | v | v | v | v <;> simp [v] at w ⊢
  rw [if_neg c1, if_neg h2] at h hg
  rw [if_neg c1]
  by_cases c3 : k = 3
  · rw [if_pos c3] at h
    rw [if_pos c3]
    exact tl _ (by split <;> (try split) <;> omega) (by split <;> (try split) <;> omega) h.1
  rw [if_neg c3] at h hg ⊢
  by_cases c4 : k = 4
  · rw [if_pos c4] at h
    rw [if_pos c4]
    exact tl _ (by omega) (by omega) h.1
  rw [if_neg c4] at h hg ⊢
  have q42 := h11 c3 c4
  by_cases c5 : k = 5
  · rw [if_neg (by omega), if_neg (by omega), if_neg (by omega), if_neg (by omega)] at h
    exact h.elim
  rw [if_neg c5] at hg ⊢
  by_cases c6 : k = 6
  · rw [if_pos c6] at h ⊢
    exact no _ (by omega) (by omega) (by rw [h.2.2.1]; decide) (by rw [h.2.2.1]; decide) q42
  rw [if_neg c6] at h hg ⊢
  by_cases c7 : k = 7
  · rw [if_pos c7] at h ⊢
    exact no _ (by split <;> omega) (by split <;> omega) (by rw [h.2.2.1]; decide) (by rw [h.2.2.1]; decide) q42
  rw [if_neg c7] at h hg ⊢
  by_cases c8 : k = 8
  · rw [if_pos c8] at h hg ⊢
    have e11 := h.2.2.1
    have xg := hg.2.2.1
    clear h hg h18 hf tl
    exact no _ (by split <;> (try split) <;> (try split) <;> omega) (by split <;> (try split) <;> (try split) <;> omega) (by rw [e11]; exact lit _ 2 (by omega) (by omega) (by omega)) (by rw [e11]; exact lit _ 27 (by omega) (by omega) (by omega)) q42
  rw [if_neg c8] at h ⊢
  by_cases c9 : k = 9
  · rw [if_pos c9] at h ⊢
    exact no _ (by omega) (by omega) (by rw [h.2.2.1]; decide) (by rw [h.2.2.1]; decide) q42
  rw [if_neg c9] at h
  exact h.elim
/-- an EXPR without parentheses around it: one TERM, or several -/
theorem cRX.br (hX : XO X) (h : cRX T (RcG X T (tD k i e ta tb)) lo hi) (hl : 1 ≤ lo) (hh : hi ≤ 4008) : (¬ k = 5 ∧ T.1 13 lo = 0 ∧ ∃ z, RcG X T (tD k i e ta tb) 0 lo hi z ∧ fnT T lo z) ∨ (k = 5 ∧ ∃ w, 1 ≤ w ∧ w < hi ∧ T.1 13 lo = nI w) := by
  obtain ⟨y, y1, y2⟩ := h
  by_cases c5 : k = 5
  · right
    refine ⟨c5, ?_⟩
    rcases (Rc_13 _ lo hi y hl y1).1 with ⟨w, _⟩ | ⟨_, w⟩
    · subst c5
      rw [opN_n, if_pos rfl] at w
      omega
    · exact w
  · left
    have y1' := y1
    rw [RcG_n] at y1
    unfold RcN at y1
    rw [if_neg (by omega), if_pos rfl, if_neg c5] at y1
    obtain ⟨e1, z0, e2, e3⟩ := y1
    subst e1
    refine ⟨c5, y2, z0, ?_, e3⟩
    rw [RcG_n]
    unfold RcN
    rw [if_neg (by omega), if_neg (by omega)]
    exact e2
/-- bareTerm -/
theorem c_bterm (hX : XO X) (hnf : 16385 ≤ nf) (h0 : T.1 11 0 = 0) (h : RcG X T (tD k i e ta tb) 0 lo hi z) (hf : fnT T lo z) (hg : XG X (tD k i e ta tb) m 1) (hm : m ≤ 20) (hl : 1 ≤ lo) (hh : hi ≤ 4008) (hw : Wf X (tD k i e ta tb) false a b) (hd : 3 ≤ d) : ∃ w, PP nf d 30 T [nI lo] [] = some (nI w, 0, T) ∧ w < 4008 ∧ (tkd X (tD k i e ta tb) = 4 ↔ T.1 11 w = 2 ∧ T.1 18 w = 0) ∧ (tkd X (tD k i e ta tb) = 1 ↔ T.1 11 w = 27 ∧ T.1 18 w = 0) ∧ (tkd X (tD k i e ta tb) = 4 → T.1 12 w = nI (lfI (tD k i e ta tb)) ∧ xK X (lfI (tD k i e ta tb)) = 2) := by
  obtain ⟨d, rfl⟩ : ∃ g, d = g + 1 := ⟨d - 1, by omega⟩
  have le := (Rc_le _ _ _ _ _ (by omega) h).1 rfl
  have zl : inb (nI lo) 4008 := nin (by omega) (by omega)
  rw [e_Source_bareTerm]
  unfold rb_Source_bareTerm
  rw [c_isBare (by omega) (by omega), bis]
  by_cases c2 : k = 2
  · subst c2
    have h' := h
    rw [RcG_n] at h
    unfold RcN at h
    rw [if_neg (by omega), if_neg (by omega)] at h
    unfold Rc0 at h
    rw [if_neg (by omega), if_pos rfl] at h
    obtain ⟨_, z0, r1, r2, r3, r4⟩ := h
    have f18 : T.1 18 lo = 0 := by unfold fnT at hf; rw [if_pos z0] at hf; exact hf
    rw [if_neg (show ¬ (if T.1 11 lo = 42 ∧ T.1 18 lo = 0 then (1 : Int32) else 0) = 0 by rw [if_pos ⟨r1, f18⟩]; decide), gd, if_pos zl, nc (by omega), r3]
    rw [XG_n] at hg
    unfold xgN at hg
    rw [if_neg (by omega), if_neg (by omega), if_pos rfl] at hg
    obtain ⟨_, m1, g1⟩ := hg
    rw [Wf_n] at hw
    unfold WfN at hw
    rw [if_neg (by decide), if_neg (by omega), if_pos rfl] at hw
    obtain ⟨c, _, w1, _⟩ := hw
    obtain ⟨lo', l1, l2, l3, l4⟩ := c_bare (nf := nf) (d := d) hX hnf r4 (by omega) hh g1 (by omega) (by omega)
    obtain ⟨b1, ⟨a', b', b2, b3⟩, b4, b5, b6, _, _, k', i', e', ta', tb', b7, b8⟩ := br_all ta (m - 1) 1 _ _ (by omega) g1 w1
    rw [l3, bis, gd, if_pos (nin (by omega) (by omega)), nc (by omega)]
    have et : tkd X (tD 2 i e ta tb) = tkd X (brT ta) := by rw [tkd_n, if_pos rfl, b5]
    have el : lfI (tD 2 i e ta tb) = lfI ta := by rw [lfI_n, if_pos rfl]
    have elf : lfI ta = lfI (brT ta) := lf_br ta
    rw [et, el, elf]
    rw [b7] at l4 b1 ⊢
    rcases l4.br hX (by omega) hh with ⟨n5, w0, z1, w1', w2'⟩ | ⟨k5, w, w1', w2', w3'⟩
    · rw [if_pos w0]
      obtain ⟨q1, q2, q3, q4⟩ := Rc_lf hX w1' w2' b1 (by omega) hh b8
      exact ⟨lo', rfl, by omega, q1, q2, q3⟩
    · rw [if_neg (show ¬ T.1 13 lo' = 0 from fun v => by
        rw [w3'] at v
        have := nI_inj (b := 0) (by omega) (by omega) v
        omega)]
      subst k5
      refine ⟨0, rfl, by omega, ?_⟩
      rw [h0, tkd_5]
      exact ⟨⟨fun w => absurd w (by omega), fun w => absurd w.1 (by decide)⟩, ⟨fun w => absurd w (by omega), fun w => absurd w.1 (by decide)⟩, fun w => absurd w (by omega)⟩
  · obtain ⟨q1, q2, q3, q4⟩ := Rc_lf hX h hf hg hl hh c2
    rw [if_pos (show (if T.1 11 lo = 42 ∧ T.1 18 lo = 0 then (1 : Int32) else 0) = 0 by rw [if_neg q4])]
    exact ⟨lo, rfl, by omega, q1, q2, q3⟩
/-- varOfTerm -/
theorem c_vterm (hX : XO X) (hnf : 16385 ≤ nf) (hT : TkC X T) (h0 : T.1 11 0 = 0) (h68 : T.1 68 0 = nI n) (hn : n ≤ 20) (h : RcG X T (tD k i e ta tb) 0 lo hi z) (hf : fnT T lo z) (hg : XG X (tD k i e ta tb) m 1) (hm : m ≤ 20) (hl : 1 ≤ lo) (hh : hi ≤ 4008) (hw : Wf X (tD k i e ta tb) false a b) (hd : 4 ≤ d) : PP nf d 177 T [nI lo] [] = some (vaI X T n (tD k i e ta tb), 0, T) := by
  obtain ⟨d, rfl⟩ : ∃ g, d = g + 2 := ⟨d - 2, by omega⟩
  have hxn := hX.1
  obtain ⟨w, w1, w2, w3, w4, w5⟩ := c_bterm (nf := nf) (d := d + 1) hX hnf h0 h hf hg hm hl hh hw (by omega)
  have zw : inb (nI w) 4008 := nin (by omega) (by omega)
  rw [e_Exprs_varOfTerm _ (d + 1)]
  unfold rb_Exprs_varOfTerm
  rw [w1, bis, gd, if_pos zw, nc (by omega)]
  have no : rj_Exprs_varOfTerm_39 (PP nf (d + 1)) nf T (nI w) 0 = some (-1, 0, T) := by
    unfold rj_Exprs_varOfTerm_39
    rw [if_pos rfl]
  unfold vaI
  by_cases c4 : tkd X (tD k i e ta tb) = 4
  · obtain ⟨v1, v2⟩ := w3.mp c4
    obtain ⟨u1, u2⟩ := w5 c4
    have ul := K_lt hX u2 (by omega)
    rw [if_pos v1, gd, if_pos zw, if_pos v2, if_pos c4]
    unfold rj_Exprs_varOfTerm_39
    rw [if_neg (by decide), gd, if_pos zw, nc (by omega), u1, c_name hX hT ul, bis, c_findVar (nf := nf) (d := d + 1) (by omega) h68 hn (by omega), bis]
  · rw [if_neg c4]
    by_cases v1 : T.1 11 w = 2
    · rw [if_pos v1, gd, if_pos zw, if_neg (fun v2 => c4 (w3.mpr ⟨v1, v2⟩))]
      exact no
    · rw [if_neg v1]
      exact no
/-- nameAlone -/
theorem c_nmA (hX : XO X) (hnf : 16385 ≤ nf) (h : cRX T (RcG X T tr) lo hi) (hg : XG X tr m 1) (hm : m ≤ 20) (hl : 1 ≤ lo) (hh : hi ≤ 4008) (hw : Wf X tr false a b) (hd : 3 ≤ d) : PP nf d 237 T [nI lo] [] = some ((if tkd X tr = 4 then nI (lfI tr) else -1), 0, T) ∧ (tkd X tr = 4 → xK X (lfI tr) = 2) := by
  obtain ⟨d, rfl⟩ : ∃ g, d = g + 1 := ⟨d - 1, by omega⟩
  obtain ⟨lo', l1, l2, l3, l4⟩ := c_bare (nf := nf) (d := d) hX hnf h hl hh hg hm (by omega)
  obtain ⟨b1, ⟨a', b', b2, b3⟩, b4, b5, b6, _, _, k', i', e', ta', tb', b7, b8⟩ := br_all tr m 1 _ _ (by omega) hg hw
  have zl : inb (nI lo') 4008 := nin (by omega) (by omega)
  have cl : (nI lo').toNatClampNeg = lo' := nc (by omega)
  rw [e_Exprs_nameAlone]
  unfold rb_Exprs_nameAlone rj_Exprs_nameAlone_50
  rw [l3, bis]
  simp only [gd, if_pos zl, cl]
  rw [b5, lf_br tr]
  rw [b7] at l4 b1 b2 ⊢
  rcases l4.br hX (by omega) hh with ⟨n5, w0, z1, w1', w2'⟩ | ⟨k5, w, w1', w2', w3'⟩
  · obtain ⟨q1, q2, q3, q4⟩ := Rc_lf hX w1' w2' b1 (by omega) hh b8
    by_cases c4 : tkd X (tD k' i' e' ta' tb') = 4
    · obtain ⟨v1, v2⟩ := q1.mp c4
      obtain ⟨u1, u2⟩ := q3 c4
      rw [if_pos c4, if_pos v1, if_pos v2, if_pos w0, u1]
      exact ⟨rfl, fun _ => u2⟩
    · refine ⟨?_, fun w => absurd w c4⟩
      rw [if_neg c4]
      by_cases v1 : T.1 11 lo' = 2
      · rw [if_pos v1, if_neg (fun v2 => c4 (q1.mpr ⟨v1, v2⟩))]
      · rw [if_neg v1]
  · have n13 : ¬ T.1 13 lo' = 0 := fun v => by
      rw [w3'] at v
      have := nI_inj (b := 0) (by omega) (by omega) v
      omega
    subst k5
    have t5 : ¬ tkd X (tD 5 i' e' ta' tb') = 4 := by rw [tkd_5]; omega
    refine ⟨?_, fun w => absurd w t5⟩
    rw [if_neg t5]
    simp only [if_neg n13]
    repeat' split
    all_goals rfl
/-- varAlone -/
theorem c_alone (hX : XO X) (hnf : 16385 ≤ nf) (hT : TkC X T) (h0 : T.1 11 0 = 0) (h68 : T.1 68 0 = nI n) (hn : n ≤ 20) (h : cRX T (RcG X T tr) lo hi) (hg : XG X tr m 1) (hm : m ≤ 20) (hl : 1 ≤ lo) (hh : hi ≤ 4008) (hw : Wf X tr false a b) (hd : 6 ≤ d) : PP nf d 175 T [nI lo] [] = some (vaI X T n tr, 0, T) := by
  obtain ⟨d, rfl⟩ : ∃ g, d = g + 2 := ⟨d - 2, by omega⟩
  have hxn := hX.1
  obtain ⟨e1, e2⟩ := c_nmA (nf := nf) (d := d + 1) hX hnf h hg hm hl hh hw (by omega)
  rw [e_Exprs_varAlone _ (d + 1)]
  unfold rb_Exprs_varAlone vaI
  rw [e1, bis]
  by_cases c4 : tkd X tr = 4
  · have ul := K_lt hX (e2 c4) (by omega)
    have n1 : ¬ nI (lfI tr) = -1 := fun w => by
      have := nzI (q := lfI tr) (by omega)
      rw [w] at this
      exact this (by decide)
    rw [if_pos c4, if_pos c4, if_neg n1, c_name hX hT ul, bis, c_findVar (nf := nf) (d := d + 1) (by omega) h68 hn (by omega), bis]
  · rw [if_neg c4, if_neg c4, if_pos rfl]
end SAK
