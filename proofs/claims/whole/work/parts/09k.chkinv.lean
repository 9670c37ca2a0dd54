/-! what is checked stays sound; trees lie in order over their tokens -/
def WfN (X : Lx) (Wa Wb : Bool → Nat → Nat → Prop) (k i e : Nat) (m : Bool) (lo hi : Nat) : Prop :=
  if m = true then k = 10 ∧ ∃ b c, lo ≤ b ∧ Wa false b c ∧ Wb true c hi
  else if k = 1 then i = lo ∧ lo < hi
  else if k = 2 then ∃ c, lo = i ∧ Wa false (lo + 1) c ∧ c < hi
  else if k = 3 then Wa false lo i ∧ i < hi
  else if k = 4 then Wa false lo i ∧ ∃ c, Wb false (i + 1) c ∧ c < hi
  else if k = 5 then Wa false lo i ∧ Wb false (i + 1) hi
  else if k = 6 then lo = i ∧ e ≤ 3 ∧ ∃ c, Wa true (i + 1 + e + 1) c ∧ c ≤ hi
  else if k = 7 then lo = i ∧ e ≤ 3 ∧ ∃ c, (if xK X (i + 3 + e) = 49 then Wa false (i + 3 + e + 3) c else Wa true (i + 3 + e + 1) c) ∧ c ≤ hi
  else if k = 8 then lo = i ∧ (if xK X i = 29 then ∃ c, Wa false (i + 3) c ∧ c < hi else if xK X i = 30 then ∃ c d, Wa false (i + 3) c ∧ Wb false (c + 1) d ∧ d < hi else ∃ c, Wa false (i + 2) c ∧ c < hi)
  else if k = 9 then lo = i ∧ Wa false (lo + 1) hi
  else False
def Wf (X : Lx) : Tr → Bool → Nat → Nat → Prop
  | .add (.add (.var k) (.add (.var i) (.var e))) (.add a b), m, lo, hi => WfN X (Wf X a) (Wf X b) k i e m lo hi
  | .num _, m, lo, hi => m = true ∧ lo ≤ hi
  | _, _, _, _ => False
def agOk (T : gSt) (f : Nat) (w : Int32) (t : Tr) : Prop := PK w 3 ∧ ∀ j, j < lenT t → f + j < 220 ∧ tV T (T.1 24 (f + j)) ∧ dOk T 7 (T.1 24 (f + j))
def lfOk (X : Lx) (t : Tr) (R : ChR) : Prop := tkd X t = 14 ∨ tkd X t = 15 → ∃ p, R.2.1 = nI p ∧ 1 ≤ p ∧ p < cn R.2.2.2 ∧ (tkd X t = 14 → 0 ≤ R.2.2.2.1 69 p) ∧ tV R.2.2.2 R.1
def IvQ (X : Lx) (t : Tr) (m : Bool) (R : ChR) : Prop := Ck R.2.2.2 ∧ (R.2.2.2.1 7 0 = 0 → m = false → tR R.2.2.2 R.1 ∧ lfOk X t R)
section CI
variable {T T' T'' T1 : gSt} {X : Lx} {n p u m q k i j e f : Nat} {r s x y v w a b c : Int32} {z : T5}
theorem cn_fl : cn (flT T a b) = cn T := by
  unfold cn
  rw [flT_o (by omega) (by omega)]
theorem Ck.st (h : Ck T) (hF : FE T T') (hR : Rws T') (hc : cn T' < 6000) : Ck T' := ⟨hF.tg h.1, hR, h.2.2.fe hF h.1 hc⟩
theorem Ck.fl (h : Ck T) (ha : ¬ a = 0) (hc : cn T < 6000) : Ck (flT T a b) := h.st (FE.fl ha) h.2.1.fl (by rw [cn_fl]; exact hc)
theorem Ck.wr (h : Ck T) (hk : 88 ≤ k ∧ k ≤ 92) (hc : cn T < 6000) : Ck (sI T k i v) := h.st (FE.wr hk) (h.2.1.wr (by omega) (by omega)) (by rw [cn_w (by omega)]; exact hc)
theorem Ck.row (h : Ck T) (h1 : 1 ≤ p) (h2 : p < cn T) : (T.1 66 p = 1 ∨ T.1 66 p = 2 ∨ T.1 66 p = 3) ∧ rC2 (T.1 67 p) ∧ PK (T.1 70 p) 3 ∧ (T.1 66 p = 3 → ¬ 0 ≤ T.1 69 p) ∧ (if 0 ≤ T.1 69 p then ∃ t, T.1 69 p = nI t ∧ t < inn T else T.1 68 p = 0 ∨ ∃ q, T.1 68 p = nI q ∧ 1 ≤ q ∧ q < p) := h.2.1 p h1 h2
theorem Ck.kn (h : Ck T) (hz : rwOk T (cn T) z) (hc : cn (knS T z) < 6000) : Ck (knS T z) ∧ ∃ p, knR T z = nI p ∧ 1 ≤ p ∧ p < cn (knS T z) ∧ rwT (knS T z) p = z := ⟨h.st FE.kn (Rws.kn h.1 h.2.1 hz hc).1 hc, (Rws.kn h.1 h.2.1 hz hc).2⟩
theorem Ck.ch (h : Ck T) (hw : PK w 3) (hv : tV T x) (hd : dOk T f x) (hc : cn (chT f T x w).2 < 6000) : Ck (chT f T x w).2 ∧ tV (chT f T x w).2 (chT f T x w).1 := by
  have := ch_ok hw f T x h.1 h.2.1 hv hd hc
  exact ⟨h.st (FE.ch _ _ _) this.1 hc, this.2⟩
theorem Ck.ft (h : Ck T) (hc : cn (ftS T x y v) < 6000) : Ck (ftS T x y v) := by
  unfold ftS at hc ⊢
  by_cases c : T.1 7 0 = 0 ∧ ¬ mfI T x y ≤ 0
  · rw [if_pos c] at hc ⊢
    have h0 : ¬ mfI T x y = 0 := fun e => c.2 (by rw [e]; decide)
    have e1 : failS T (mfI T x y) v = flT T (mfI T x y) v := by
      unfold flT
      rw [if_pos c.1]
    rw [e1] at hc ⊢
    rw [cn_fl] at hc
    exact h.fl h0 hc
  · rw [if_neg c] at hc ⊢
    exact h
theorem dOk.fe (h : dOk T f x) (hF : FE T T') (hg : Tg T) (hc : cn T' < 6000) : dOk T' f x := dOk.up (hF.2.2.1 hg).2.1 (hF.1 15 (by omega)) ((hF.2.2.1 hg).2.2 hc) f x h
theorem tV.fe (h : tV T x) (hF : FE T T') (hg : Tg T) : tV T' x := h.up (hF.2.2.1 hg).2.1
theorem tR.fe (h : tR T x) (hF : FE T T') (hg : Tg T) : tR T' x := h.up (hF.2.2.1 hg).2.1
theorem agOk.fe {t : Tr} (h : agOk T f w t) (hF : FE T T') (hg : Tg T) (hc : cn T' < 6000) : agOk T' f w t := ⟨h.1, fun j hj => by
  obtain ⟨a1, a2, a3⟩ := h.2 j hj
  rw [hF.1 24 (by omega)]
  exact ⟨a1, a2.fe hF hg, a3.fe hF hg hc⟩⟩
theorem tR.pos (h : tR T x) (hx : ¬ x ≤ 0) : ∃ p, x = nI p ∧ 1 ≤ p ∧ p < cn T := by
  rcases h with h | h | h | h
  · exact absurd (by rw [h]; decide) hx
  · exact absurd (by rw [h]; decide) hx
  · exact absurd (by rw [h]; decide) hx
  · exact h
theorem isRo_pos (h : ¬ isRo T x = 0) : ¬ x ≤ 0 := fun hx => h (by unfold isRo; rw [if_pos hx])
theorem isTd_pt (h : ¬ isTd T x = 0) : ¬ isPt T x = 0 := fun hx => h (by unfold isTd; rw [if_pos hx])
theorem nn6 (hg : Tg T) (hc : cn T < 6000) (h : p < cn T) : (nI p).toNatClampNeg = p := nc (by omega)
theorem rg_ok (h : Cst T) : rC2 (srR X T q) := by
  have z : rC2 0 := ⟨0, rfl, by omega⟩
  have key : ∀ (w : Int64) (n : Nat), n ≤ rn T → rgV T w n = -1 ∨ rC2 (rgV T w n) := by
    intro w n
    induction n with
    | zero => intro _; exact Or.inl rfl
    | succ n ih =>
      intro hn
      rw [rgV]
      by_cases c : isRg T w n = true
      · rw [if_pos c]
        exact Or.inr (h.1.2 n (by omega))
      · rw [if_neg c]
        exact ih (by omega)
  unfold srR
  by_cases c : 0 ≤ rgQ X T q
  · rw [if_pos c]
    unfold rgQ at c ⊢
    by_cases c2 : xN X q = 72
    · rw [if_pos c2]; exact z
    · rw [if_neg c2] at c ⊢
      rcases key (xN X q) (rn T) (Nat.le_refl _) with k | k
      · rw [k] at c
        exact absurd c (by decide)
      · exact k
  · rw [if_neg c]; exact z
theorem Ck.sr (h : Ck T) (hc : cn T < 6000) : Ck (srS X T q) := by
  unfold srS
  split
  · exact h
  · exact h.fl (by decide) hc
theorem cn_sr : cn (srS X T q) = cn T := by
  unfold srS
  split
  · rfl
  · exact cn_fl
theorem Ck.sl (h : Ck T) (hc : cn T < 6000) : Ck (slS X T q) := by
  unfold slS
  split
  · exact (h.sr hc).fl (by decide) (by rw [cn_sr]; exact hc)
  · exact h.sr hc
theorem cn_sl : cn (slS X T q) = cn T := by
  unfold slS
  split
  · rw [cn_fl, cn_sr]
  · exact cn_sr
theorem Ck.wa : ∀ (m k : Nat) (T : gSt) (w : Int32), Ck T → cn T < 6000 → k + m ≤ 3 → PK w k → Ck (waX X m T q k w).2 ∧ cn (waX X m T q k w).2 = cn T ∧ PK (waX X m T q k w).1 3 := by
  intro m
  induction m with
  | zero => intro k T w h hc hk hp; exact ⟨h, rfl, hp.up⟩
  | succ m ih =>
    intro k T w h hc hk hp
    rw [waX]
    by_cases c : T.1 7 0 = 0
    · rw [if_pos c]
      have := ih (k + 1) (srS X T (q + k)) _ (h.sr hc) (by rw [cn_sr]; exact hc) (by omega) (hp.st (by omega) (rg_ok (X := X) (q := q + k) h.2.2)).1
      exact ⟨this.1, this.2.1.trans cn_sr, this.2.2⟩
    · rw [if_neg c]
      exact ⟨h, rfl, hp.up⟩
/-- the fields of an item, as a search finds them -/
theorem fld_ok {nm : Int64} (h : Ck T) (hc : cn T < 6000) (hu : u < inn T) (hf : 0 ≤ fnF T (nI u) nm) : ∃ c m j, T.1 18 u = nI c ∧ T.1 19 u = nI m ∧ c + m ≤ 220 ∧ j < m ∧ fnF T (nI u) nm = nI j ∧ fty T (nI u) (nI j) = T.1 24 (c + j) ∧ tV T (T.1 24 (c + j)) ∧ dOk T 7 (T.1 24 (c + j)) := by
  have h24 := h.2.2.2.2.1.2.1
  obtain ⟨c, m, r, w, b1, b2, b3, b4, b5, b6, b7, b8, b9, b10, b11⟩ := h.2.2.2.2.1.2.2 u hu
  have cu : (nI u).toNatClampNeg = u := nc (by omega)
  have e1 : fnF T (nI u) nm = ff (isFi T c nm) 0 m := by
    unfold fnF
    rw [cu, b1, b2, nc (by omega), nc (by omega)]
  rw [e1] at hf ⊢
  rcases ff_val (p := isFi T c nm) (k := m) (i := 0) with hv | ⟨j, g1, g2, g3, g4⟩
  · rw [hv] at hf
    exact absurd hf (by decide)
  · refine ⟨c, m, j, b1, b2, b4, by omega, g4, ?_, (b9 j (by omega)).1, (b9 j (by omega)).2⟩
    unfold fty
    rw [cu, b1, nI_add, nc (by omega)]
theorem var_ok {nm : Int64} (h : Ck T) (hf : 0 ≤ fd (isVa T nm) (vn T)) : ∃ j, j < vn T ∧ fd (isVa T nm) (vn T) = nI j ∧ tV T (T.1 80 j) := by
  have key : ∀ n, n ≤ vn T → fd (isVa T nm) n = -1 ∨ ∃ j, j < n ∧ fd (isVa T nm) n = nI j := by
    intro n
    induction n with
    | zero => intro _; exact Or.inl rfl
    | succ n ih =>
      intro hn
      rw [fd]
      by_cases c : isVa T nm n = true
      · rw [if_pos c]; exact Or.inr ⟨n, by omega, rfl⟩
      · rw [if_neg c]
        rcases ih (by omega) with h | ⟨j, a, b⟩
        · exact Or.inl h
        · exact Or.inr ⟨j, by omega, b⟩
  rcases key (vn T) (Nat.le_refl _) with k | ⟨j, a, b⟩
  · rw [k] at hf
    exact absurd hf (by decide)
  · exact ⟨j, a, b, h.2.2.2.2.2.2.2 j a⟩
/-- the solid kin of a row -/
theorem Ck.sol (h : Ck T) (h1 : 1 ≤ p) (h2 : p < cn T) : rwOk T (cn T) (1, T.1 67 p, T.1 68 p, T.1 69 p, T.1 70 p) := by
  obtain ⟨o1, o2, o3, o4, o5⟩ := h.row h1 h2
  refine ⟨Or.inl rfl, o2, o3, fun e => absurd e (by decide : ¬ (1 : Int32) = 3), ?_⟩
  show (if 0 ≤ T.1 69 p then _ else _)
  by_cases c : 0 ≤ T.1 69 p
  · rw [if_pos c] at o5 ⊢
    exact o5
  · rw [if_neg c] at o5 ⊢
    rcases o5 with o5 | ⟨q, e1, e2, e3⟩
    · exact Or.inl o5
    · exact Or.inr ⟨q, e1, e2, by omega⟩
theorem iv_nm {nm : Int64} (h : Ck T) (hc0 : cn T < 6000) (hc : cn (nmC T nm x).2.2 < 6000) : Ck (nmC T nm x).2.2 ∧ ((nmC T nm x).2.2.1 7 0 = 0 → tR (nmC T nm x).2.2 (nmC T nm x).1) := by
  unfold nmC at hc ⊢
  by_cases c1 : 0 ≤ fd (isVa T nm) (vn T)
  · simp only [if_pos c1] at hc ⊢
    obtain ⟨j, j1, j2, j3⟩ := var_ok h c1
    have hv := h.2.2.2.2.2.2.1
    have cj : (nI j).toNatClampNeg = j := nc (by omega)
    have e80 : tf T 80 (fd (isVa T nm) (vn T)) = T.1 80 j := by unfold tf; rw [j2, cj]
    simp only [e80] at hc ⊢
    by_cases c2 : ((T.1 81 0 >>> (tf T 79 (fd (isVa T nm) (vn T)) &&& 31)) &&& 1) = 0
    · simp only [if_pos c2] at hc ⊢
      exact ⟨h.fl (by decide) hc0, fun e => absurd e (flT_bad (by decide))⟩
    · simp only [if_neg c2] at hc ⊢
      by_cases c3 : 0 < T.1 80 j ∧ tf T 66 (T.1 80 j) = 2 ∧ ((T.1 82 0 >>> (tf T 79 (fd (isVa T nm) (vn T)) &&& 31)) &&& 1) = 1
      · simp only [if_pos c3] at hc ⊢
        have j4 : tR T (T.1 80 j) := Or.inr (Or.inr j3)
        obtain ⟨p, e, p1, p2⟩ := j4.pos (Int32.not_le.mpr c3.1)
        have cp : (nI p).toNatClampNeg = p := nc (by omega)
        simp only [tf, e, cp] at hc ⊢
        obtain ⟨k1, q, k2, k3, k4, -⟩ := h.kn (h.sol p1 p2) hc
        exact ⟨k1, fun _ => Or.inr (Or.inr (Or.inr ⟨q, k2, k3, k4⟩))⟩
      · simp only [if_neg c3] at hc ⊢
        exact ⟨h, fun _ => Or.inr (Or.inr j3)⟩
  · simp only [if_neg c1] at hc ⊢
    exact ⟨h.fl (by decide) hc0, fun e => absurd e (flT_bad (by decide))⟩
theorem Ck.nu (h : Ck T) (hc : cn T < 6000) : Ck (nuS T x) := h.wr (by omega) hc
theorem Ck.tg2 (h : Ck T) (hc : cn T < 6000) : Ck (tgS T x) := h.wr (by omega) hc
theorem Ck.mk (h : Ck T) (hc : cn T < 6000) : Ck (mkS T) := h.wr (by omega) hc
theorem cn_nu : cn (nuS T x) = cn T := cn_w (by omega)
theorem cn_tg : cn (tgS T x) = cn T := cn_w (by omega)
theorem cn_mk : cn (mkS T) = cn T := cn_w (by omega)
/-- a pointer to a struct or union: its row -/
theorem td_row (h : Ck T) (hx : tR T x) (hc : cn T < 6000) (ht : ¬ isTd T x = 0) : ∃ p u, x = nI p ∧ 1 ≤ p ∧ p < cn T ∧ (nI p).toNatClampNeg = p ∧ T.1 69 p = nI u ∧ u < inn T ∧ 0 ≤ T.1 69 p := by
  obtain ⟨p, rfl, p1, p2⟩ := hx.pos (isPt_pos (isTd_pt ht))
  have cp : (nI p).toNatClampNeg = p := nc (by omega)
  have h9 : 0 ≤ T.1 69 p := by
    unfold isTd at ht
    rw [if_neg (isTd_pt (by unfold isTd; exact ht)), cp] at ht
    by_cases c : T.1 69 p < 0
    · rw [if_pos c] at ht
      exact absurd rfl ht
    · exact Int32.not_lt.mp c
  obtain ⟨o1, o2, o3, o4, o5⟩ := h.row p1 p2
  rw [if_pos h9] at o5
  obtain ⟨u, u1, u2⟩ := o5
  exact ⟨p, u, rfl, p1, p2, cp, u1, u2, h9⟩
theorem iv_th {nm : Int64} (h : Ck T) (hx : tR T s) (hc0 : cn T < 6000) (hc : cn (thC T r s nm x y).2.2 < 6000) : Ck (thC T r s nm x y).2.2 ∧ ((thC T r s nm x y).2.2.1 7 0 = 0 → tR (thC T r s nm x y).2.2 (thC T r s nm x y).1 ∧ (r = 14 → ∃ p, s = nI p ∧ 1 ≤ p ∧ p < cn (thC T r s nm x y).2.2 ∧ 0 ≤ (thC T r s nm x y).2.2.1 69 p ∧ tV (thC T r s nm x y).2.2 (thC T r s nm x y).1)) := by
  have hfe : FE T (thC T r s nm x y).2.2 := FE.th
  unfold thC at hc hfe ⊢
  by_cases c1 : thOk T r s = true
  · simp only [if_pos c1] at hc hfe ⊢
    by_cases c2 : isLv T (tf T 67 s) = 0
    · simp only [if_pos c2] at hc ⊢
      exact ⟨h.fl (by decide) hc0, fun e => absurd e (flT_bad (by decide))⟩
    · simp only [if_neg c2] at hc hfe ⊢
      by_cases c3 : r = 16
      · simp only [if_pos c3] at hc hfe ⊢
        unfold thOk at c1
        rw [if_pos c3] at c1
        have c1' := of_decide_eq_true c1
        obtain ⟨p, rfl, p1, p2⟩ := hx.pos (isPt_pos c1'.1)
        have cp : (nI p).toNatClampNeg = p := nc (by omega)
        have c9 := c1'.2
        unfold tf at c9 ⊢
        rw [cp] at c9 ⊢
        obtain ⟨o1, o2, o3, o4, o5⟩ := h.row p1 p2
        rw [if_neg c9] at o5
        refine ⟨h.nu hc0, fun _ => ⟨Or.inr (Or.inr ?_), fun e => absurd (e.symm.trans c3) (by decide)⟩⟩
        rcases o5 with o5 | ⟨q, e1, e2, e3⟩
        · exact Or.inl o5
        · exact Or.inr ⟨q, e1, e2, by rw [cn_nu]; omega⟩
      · simp only [if_neg c3] at hc hfe ⊢
        unfold thOk at c1
        rw [if_neg c3] at c1
        have c1' := of_decide_eq_true c1
        obtain ⟨p, u, rfl, p1, p2, cp, u1, u2, h9⟩ := td_row h hx hc0 c1'.1
        have e9 : tf T 69 (nI p) = nI u := by unfold tf; rw [cp]; exact u1
        rw [e9] at hc hfe ⊢
        by_cases c4 : 0 ≤ fnF T (nI u) nm
        · simp only [if_pos c4] at hc hfe ⊢
          by_cases c5 : r = 17
          · simp only [if_pos c5] at hc hfe ⊢
            exact ⟨h.nu hc0, fun _ => ⟨Or.inr (Or.inr (Or.inl rfl)), fun e => absurd (e.symm.trans c5) (by decide)⟩⟩
          · simp only [if_neg c5] at hc hfe ⊢
            obtain ⟨c, m, j, f1, f2, f3, f4, f5, f6, f7, f8⟩ := fld_ok h hc0 u2 c4
            have hs : Ck (tgS (nuS T (nI p)) (nI u)) := (h.nu hc0).tg2 (by rw [cn_nu]; exact hc0)
            have hF : FE T (tgS (nuS T (nI p)) (nI u)) := FE.nu.tr FE.tg2
            have hcc : cn (tgS (nuS T (nI p)) (nI u)) < 6000 := by rw [cn_tg, cn_nu]; exact hc0
            rw [f5, f6] at hc hfe ⊢
            have e70 : tf T 70 (nI p) = T.1 70 p := by unfold tf; rw [cp]
            rw [e70] at hc hfe ⊢
            have := hs.ch (h.row p1 p2).2.2.1 (f7.fe hF h.1) (f8.fe hF h.1 hcc) hc
            refine ⟨this.1, fun _ => ⟨Or.inr (Or.inr this.2), fun _ => ⟨p, rfl, p1, Nat.lt_of_lt_of_le p2 (hfe.2.2.1 h.1).2.1, ?_, this.2⟩⟩⟩
            have := (hfe.2.2.1 h.1).2.2 hc p p2
            have e : (chT 7 (tgS (nuS T (nI p)) (nI u)) (T.1 24 (c + j)) (T.1 70 p)).2.1 69 p = T.1 69 p := congrArg (fun z : T5 => z.2.2.2.1) this
            rw [e]
            exact h9
        · simp only [if_neg c4] at hc ⊢
          exact ⟨(h.nu hc0).fl (by decide) (by rw [cn_nu]; exact hc0), fun e => absurd e (flT_bad (by decide))⟩
  · simp only [if_neg c1] at hc ⊢
    exact ⟨h.fl (by decide) hc0, fun e => absurd e (flT_bad (by decide))⟩
theorem ro_row (h : Ck T) (hx : tR T x) (hc : cn T < 6000) (ht : ¬ isRo T x = 0) : ∃ p, x = nI p ∧ 1 ≤ p ∧ p < cn T ∧ (nI p).toNatClampNeg = p ∧ ¬ 0 ≤ T.1 69 p ∧ tV T (T.1 68 p) := by
  obtain ⟨p, rfl, p1, p2⟩ := hx.pos (isRo_pos ht)
  have cp : (nI p).toNatClampNeg = p := nc (by omega)
  obtain ⟨o1, o2, o3, o4, o5⟩ := h.row p1 p2
  have h3 : T.1 66 p = 3 := by
    by_cases c : T.1 66 p = 3
    · exact c
    · exfalso
      apply ht
      unfold isRo
      rw [if_neg (isRo_pos ht), cp, if_neg c]
  rw [if_neg (o4 h3)] at o5
  refine ⟨p, rfl, p1, p2, cp, o4 h3, ?_⟩
  rcases o5 with o5 | ⟨q, e1, e2, e3⟩
  · exact Or.inl o5
  · exact Or.inr ⟨q, e1, e2, by omega⟩
theorem iv_ix {t u : Int32} (h : Ck T) (hx : tR T t) (hc0 : cn T < 6000) : Ck (ixC T t u x y).2 ∧ ((ixC T t u x y).2.1 7 0 = 0 → tR (ixC T t u x y).2 (ixC T t u x y).1 ∧ tV (ixC T t u x y).2 (ixC T t u x y).1 ∧ ∃ p, t = nI p ∧ 1 ≤ p ∧ p < cn (ixC T t u x y).2) := by
  unfold ixC
  by_cases c1 : isRo T t = 0
  · simp only [if_pos c1]
    exact ⟨h.fl (by decide) hc0, fun e => absurd e (flT_bad (by decide))⟩
  simp only [if_neg c1]
  by_cases c2 : isLv T (tf T 67 t) = 0
  · simp only [if_pos c2]
    exact ⟨h.fl (by decide) hc0, fun e => absurd e (flT_bad (by decide))⟩
  simp only [if_neg c2]
  by_cases c3 : u = 0
  · simp only [if_pos c3]
    obtain ⟨p, rfl, p1, p2, cp, p3, p4⟩ := ro_row h hx hc0 c1
    have p5 : tV (sI T 89 0 (T.1 89 0 + 1)) (tf T 68 (nI p)) := by
      unfold tf
      rw [cp]
      exact p4.up (by rw [cn_w (by omega)]; exact Nat.le_refl _)
    exact ⟨h.wr (by omega) hc0, fun _ => ⟨Or.inr (Or.inr p5), p5, p, rfl, p1, by rw [cn_w (by omega)]; exact p2⟩⟩
  · simp only [if_neg c3]
    exact ⟨h.fl (by decide) hc0, fun e => absurd e (flT_bad (by decide))⟩
theorem iv_op {sg l r : Int32} (h : Ck T) (hx : tR T l) (hc0 : cn T < 6000) : Ck (opC T sg l r x y).2 ∧ tR (opC T sg l r x y).2 (opC T sg l r x y).1 := by
  have z : ∀ S, tR S 0 := fun S => Or.inr (Or.inr (Or.inl rfl))
  unfold opC
  repeat' split
  all_goals first | exact ⟨h, hx⟩ | exact ⟨h, z _⟩ | exact ⟨h.fl (by decide) hc0, z _⟩
end CI
