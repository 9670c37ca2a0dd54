/-! the class reads TYPES as the reference does -/
/-- the heads of the items go together -/
def ItH (S T : gSt) : Prop := ∃ n, inn S = n ∧ T.1 27 0 = nI n ∧ n ≤ 24 ∧ ∀ t, t < n → (T.1 28 t = 12 ↔ S.1 12 t = 2) ∧ (S.1 12 t = 0 ∨ S.1 12 t = 1 ∨ S.1 12 t = 2) ∧ T.2 30 t = S.2 13 t ∧ T.1 31 t = S.1 15 t ∧ ∃ e, S.1 15 t = nI e ∧ e ≤ 3
/-- a TYPE as it is written, its last part within the depth -/
def tyP (X : Lx) : Nat → Nat → Prop
  | 0, _ => False
  | f + 1, i => xK X i = 26 ∨ ((xK X i = 59 ∨ xK X i = 55 ∨ xK X i = 60) ∧ xK X (i + 1) = 4 ∧ (tiQ X i ∧ 1 ≤ f ∨ ¬ tiQ X i ∧ tyP X f (i + 2)))
/-- what reading a TYPE comes to -/
def TyQ (R : RgR) (S S' T T' : gSt) (f n : Nat) (x : Int32) (y : Nat) : Prop := (S'.1 7 0 = 0 ∧ T'.1 = T.1 ∧ TyR R S' T' f x y ∧ TyF S S' T T' ∧ FtC n T T') ∨ BfR S' T'
section CRU
variable {R : RgR} {S S' T T' T1 : gSt} {X : Lx} {nf d i k n m c g q e f t : Nat} {x y : Int32} {nm : Int64}
theorem TyR.gd {x : Int32} {y : Nat} (h : gdR x y) : TyR R S T f x y := by
  cases f with
  | zero => exact h
  | succ f => exact Or.inl h
theorem it_find (h : ItH S T) (hn : T.1 27 0 = nI n) (hn2 : n ≤ 24) : ff (isIt T false nm) 0 n = ff (isTi S nm) 0 (inn S) := by
  obtain ⟨n', a1, a2, a3, a4⟩ := h
  have en : n = n' := nI_inj (by omega) (by omega) (by rw [← hn, ← a2])
  subst en
  rw [a1]
  refine ff_cg n 0 (fun j _ hj => ?_)
  obtain ⟨b1, b2, b3, _⟩ := a4 j (by omega)
  unfold isIt isTi
  rw [b3]
  by_cases c : S.1 12 j = 2
  · have c' := b1.mpr c
    rw [c, c']
    have : decide ((((12 : Int32) = 12) ↔ false = true) ∧ S.2 13 j = nm) = false := decide_eq_false (fun w => absurd (w.1.mp rfl) (by decide))
    rw [this]
    rfl
  · have c' : ¬ T.1 28 j = 12 := fun w => c (b1.mp w)
    have k2 : ¬ (2 : Int32) ≤ S.1 12 j := by
      rcases b2 with e | e | e
      · rw [e]; decide
      · rw [e]; decide
      · exact absurd e c
    rw [decide_eq_true k2, Bool.true_and]
    by_cases c3 : S.2 13 j = nm
    · rw [decide_eq_true c3]
      exact decide_eq_true ⟨⟨fun w => absurd w c', fun w => absurd w (by decide)⟩, c3⟩
    · rw [decide_eq_false c3]
      exact decide_eq_false (fun w => c3 w.2)
theorem BfR.kp (h : BfR S T) (hF : FwH T T') : BfR S T' := by
  have := hF.2.2.2.2 (by rw [h.2.1]; exact h.1)
  exact ⟨h.1, this.1.trans h.2.1, this.2.trans h.2.2⟩
theorem bf_nt {a p : Int32} (hs : S.1 7 0 = 0) (ht : T.1 53 0 = 0) (ha : ¬ a = 0) : BfR (flT S a p) (ntS T a p) := by
  unfold flT failS ntS BfR
  rw [if_pos hs, if_pos ht, sI_ne (by omega), sI_v, sI_v, sI_ne (by omega), sI_v, sI_v]
  exact ⟨ha, rfl, rfl⟩
theorem ItH.wi (h : ItH S T) : WI T := by
  obtain ⟨n, _, a, b, _⟩ := h
  exact ⟨n, a, b⟩
theorem NmR.wr (h : NmR R S T) : WR T := by
  obtain ⟨n, a, b, c, _⟩ := h
  exact ⟨n, a, b, c⟩
/-- a TITLE and its REGIONS, as the reference reads them -/
theorem g_title (hX : XO X) (hnf : 16385 ≤ nf) (hz : ∀ q, xK X q = 4 → ¬ xN X q = 0) (h00 : R 0 0) (hT : TkC X T) (hN : NmR R S T) (hI : ItH S T) (hs : S.1 7 0 = 0) (ht : T.1 53 0 = 0) (hW : WT T) (hl : lvC T 16384 < 16384) (k3 : xK X (i + 2) = 3) (he : i + 3 + rgs (xK X) 3 (i + 3) ≤ xn X) (hd : 5 ≤ d) : ∃ y T', PP nf d 138 T [nI (i + 2)] [] = some (nI y, 0, T') ∧ tyY T' y ∧ FwH T T' ∧ (((waX X (rgs (xK X) 3 (i + 3)) (tiS X S i) (i + 3) 0 0).2 = S ∧ ∃ t g q, ff (isTi S (xN X (i + 2))) 0 (inn S) = nI t ∧ t < 24 ∧ g < 4096 ∧ PkR R S t (waX X (rgs (xK X) 3 (i + 3)) (tiS X S i) (i + 3) 0 0).1 g ∧ y = q + 3 ∧ KpQ T T' q (6 + 8 * t + 256 * g)) ∨ BfR (waX X (rgs (xK X) 3 (i + 3)) (tiS X S i) (i + 3) 0 0).2 T') := by
  obtain ⟨d, rfl⟩ : ∃ g, d = g + 2 := ⟨d - 2, by omega⟩
  have hxn := hX.1
  have hi := K_lt hX k3 (by omega)
  have rb := (rgs_b (xK X) 3 (i + 3)).1
  have rk := (rgs_b (xK X) 3 (i + 3)).2
  have hI' := hI
  obtain ⟨n, n0, n1, n2, n3⟩ := hI
  rw [e_Heads_readTitle _ (d + 1)]
  unfold rb_Heads_readTitle
  rw [nI_1, c_cntR hX hT (by omega) (by omega) (by omega), bis, c_name hX hT hi, bis, c_find (fn := false) (x := 0) (by omega) n1 n2 rfl (by omega), bis, it_find hI' n1 n2]
  have ns : ∀ a : Int32, bi (PP nf (d + 1) 26 T [nI (i + 2)] []) (fun r13 _ T13 => bi (PP nf (d + 1) 47 T13 [a, r13] []) fun _ _ T14 => some ((1 : Int32), 0, T14)) = some (1, 0, ntS T a (nI (xP X (i + 2)))) := fun a => by
    rw [c_start hX hT (by omega), bis, c_note (by omega), bis]
  have wf : ∀ (a : Int32) (cnt : Nat) (v : Int32), ¬ a = 0 → (waX X cnt (flT S a (nI (xP X (i + 2)))) (i + 3) 0 v).2 = flT S a (nI (xP X (i + 2))) := by
    intro a cnt v ha
    cases cnt with
    | zero => rfl
    | succ m =>
      rw [waX, if_neg]
      exact flT_bad ha
  unfold tiS
  rw [show i + 2 + 1 = i + 3 by omega]
  rcases ff_val (p := isTi S (xN X (i + 2))) (k := inn S) (i := 0) with e | ⟨t, h1, h2, _, e⟩
  · rw [e, if_pos rfl, ns 3, if_neg (by decide), wf 3 _ _ (by decide)]
    exact ⟨1, _, rfl, tyY_1, FwH.nt hW, Or.inr (bf_nt hs ht (by decide))⟩
  · have t24 : t < 24 := by omega
    have p0 : 0 ≤ nI t := (nI_leI (a := 0) (b := t) (by omega) (by omega)).mpr (by omega)
    obtain ⟨_, _, _, m4, _⟩ := n3 t (by omega)
    rw [e, if_neg (nn1 (by omega)), gd, if_pos (nin t24 (by omega)), nc (by omega), m4, if_pos p0]
    by_cases c : S.1 15 t = nI (rgs (xK X) 3 (i + 3))
    · rw [if_pos c, if_pos c]
      obtain ⟨g, W, T1, g1, g2, g3, g4, g5⟩ := b_rgs (nf := nf) (d := d + 1) (i := i + 3) hX (by omega) rb he (fun k hk => hz _ (rk k hk)) hT hN h00 hW hs ht (by omega)
      rw [g1, bis]
      obtain ⟨y', T'', z1, z2, _, z3⟩ := k_thg (d := d + 1) (t := t) (r := g) hnf g3.2.2.1 t24 (by unfold itN; rw [g3.1 27 (by omega) (by omega), n1, nc (by omega)]; omega) g2 (by omega)
      rcases g5 with ⟨a1, a2, a3, a4, a5, a6, a7⟩ | ⟨hB, _⟩
      · subst a3
        obtain ⟨q, T', y1, y2⟩ := c_thg (d := d + 1) (t := t) (r := g) hnf hW.1 hl (by omega) g2 (by omega)
        rw [y1] at z1
        simp only [Option.some.injEq, Prod.mk.injEq, true_and] at z1
        obtain ⟨z1a, rfl⟩ := z1
        have ys : q + 3 = y' := nI_inj (by have := y2.1; omega) (by have := z2.lt; omega) z1a
        rw [y1, bis]
        rw [← ys] at z2
        refine ⟨q + 3, T', rfl, z2, z3.fh, Or.inl ⟨a2, t, g, q, rfl, t24, g2, ⟨rgs (xK X) 3 (i + 3), W, c, rb, a4, a5, fun k hk => ?_⟩, rfl, y2⟩⟩
        by_cases ck : k < rgs (xK X) 3 (i + 3)
        · rw [if_pos ck]; exact a7 k ck
        · rw [if_neg ck]
          have : g < 16 ^ k := Nat.lt_of_lt_of_le a6 (Nat.pow_le_pow_right (by omega) (by omega))
          rw [Nat.div_eq_of_lt this]
      · rw [z1, bis]
        exact ⟨y', T'', rfl, z2, g3.tr z3.fh, Or.inr (hB.kp z3.fh)⟩
    · rw [if_neg c, if_neg c, ns 7, wf 7 _ _ (by decide)]
      exact ⟨1, _, rfl, tyY_1, FwH.nt hW, Or.inr (bf_nt hs ht (by decide))⟩
/-- readType, as the reference reads it -/
theorem g_type (hX : XO X) (hnf : 16385 ≤ nf) (hz : ∀ q, xK X q = 4 → ¬ xN X q = 0) (h00 : R 0 0) (hT : TkC X T) (hN : NmR R S T) (hI : ItH S T) (hg : Tg S) (hs : S.1 7 0 = 0) (ht : T.1 53 0 = 0) : ∀ (f i dp d : Nat), tyP X (f + 1) i → tyE X (f + 1) i ≤ xn X → dp + f ≤ 6 → 1 ≤ dp → WT T → lvC T 16384 + 2 * f + 4 < 16384 → cn (meX X (f + 1) S i).2 < 6000 → 4 * f + 20 ≤ d → ∃ y T', PP nf d 137 T [nI i, nI dp] [] = some (nI y, 0, T') ∧ tyY T' y ∧ FwH T T' ∧ TyQ R S (meX X (f + 1) S i).2 T T' f (f + 1) (meX X (f + 1) S i).1 y := by
  have hxn := hX.1
  have hWI := hI.wi
  have hWR := hN.wr
  intro f
  induction f with
  | zero =>
    intro i dp d hp he h1 h2 hW hl hc hd
    obtain ⟨d, rfl⟩ : ∃ g, d = g + 2 := ⟨d - 2, by omega⟩
    have k26 : xK X i = 26 := by
      rcases hp with h | ⟨_, _, h | h⟩
      · exact h
      · exact absurd h.2 (by decide)
      · exact h.2.elim
    have em : meX X (0 + 1) S i = (0, S) := by rw [meX, if_pos hs, if_pos k26]
    rw [em]
    have hi := K_lt hX k26 (by omega)
    refine ⟨1, T, ?_, tyY_1, FwH.rf hW, Or.inl ⟨hs, rfl, TyR.gd (Or.inl ⟨rfl, rfl⟩), TyF.rf, (FtC.rf hW.1).le (by omega)⟩⟩
    rw [e_Heads_readType _ (d + 1)]
    unfold rb_Heads_readType
    rw [c_kind hX hT (by omega), bis, if_pos (by rw [k26]; rfl)]
    rfl
  | succ f ih =>
    intro i dp d hp he h1 h2 hW hl hc hd
    obtain ⟨d, rfl⟩ : ∃ g, d = g + 2 := ⟨d - 2, by omega⟩
    rcases hp with k26 | ⟨kk, k4, hin⟩
    · have em : meX X (f + 1 + 1) S i = (0, S) := by rw [meX, if_pos hs, if_pos k26]
      rw [em]
      have hi := K_lt hX k26 (by omega)
      refine ⟨1, T, ?_, tyY_1, FwH.rf hW, Or.inl ⟨hs, rfl, TyR.gd (Or.inl ⟨rfl, rfl⟩), TyF.rf, (FtC.rf hW.1).le (by omega)⟩⟩
      rw [e_Heads_readType _ (d + 1)]
      unfold rb_Heads_readType
      rw [c_kind hX hT (by omega), bis, if_pos (by rw [k26]; rfl)]
      rfl
    · have hi := K_lt hX k4 (by omega)
      have kq : ∀ c : Nat, c < 63 → (nI (xK X i) = nI c) = (xK X i = c) := fun c hc => ci_eq (by have := (hX.2 i).2; omega) (by omega)
      have n26 : ¬ xK X i = 26 := by omega
      rw [e_Heads_readType _ (d + 1)]
      unfold rb_Heads_readType
      rw [c_kind hX hT (by omega), bis, if_neg (show ¬ nI (xK X i) = 26 by rw [show (26 : Int32) = nI 26 from rfl, kq 26 (by omega)]; exact n26), if_pos (show nI dp ≤ 6 from (nI_leI (a := dp) (b := 6) (by omega) (by omega)).mpr (by omega)), if_neg (show ¬ nI (xK X i) = 3 by rw [show (3 : Int32) = nI 3 from rfl, kq 3 (by omega)]; omega), nI_1, nI_1, show nI i + 2 = nI (i + 2) from (Int32.ofNat_add i 2).symm]
      -- the kind of the pointer
      obtain ⟨kd, kd1, kd3, kdS, kdC'⟩ : ∃ kd, 1 ≤ kd ∧ kd ≤ 3 ∧ kdT X i = nI kd ∧ ∀ (T7 : gSt) (r6 r7 : Int32), (if nI (xK X i) = 59 then (bi (PP nf (d + 1) 88 T7 [(3 : Int32), r6, r7] []) fun r14 l14 T14 => some (r14, 0, T14)) else (if nI (xK X i) = 55 then (bi (PP nf (d + 1) 88 T7 [(4 : Int32), r6, r7] []) fun r12 l12 T12 => some (r12, 0, T12)) else (bi (PP nf (d + 1) 88 T7 [(5 : Int32), r6, r7] []) fun r10 l10 T10 => some (r10, 0, T10)))) = (bi (PP nf (d + 1) 88 T7 [nI (kd + 2), r6, r7] []) fun r10 _ T10 => some (r10, 0, T10)) := by
        have q59 : (nI (xK X i) = 59) = (xK X i = 59) := kq 59 (by omega)
        have q55 : (nI (xK X i) = 55) = (xK X i = 55) := kq 55 (by omega)
        unfold kdT
        simp only [q59, q55]
        rcases kk with h | h | h
        · exact ⟨1, by omega, by omega, by rw [if_pos h]; rfl, fun T7 r6 r7 => by rw [if_pos h]; rfl⟩
        · exact ⟨2, by omega, by omega, by rw [if_neg (by omega), if_pos h]; rfl, fun T7 r6 r7 => by rw [if_neg (by omega), if_pos h]; rfl⟩
        · exact ⟨3, by omega, by omega, by rw [if_neg (by omega), if_neg (by omega)]; rfl, fun T7 r6 r7 => by rw [if_neg (by omega), if_neg (by omega)]; rfl⟩
      simp only [kdC']
      -- behind a fault the rest is read all the same
      have rest : ∀ (T1 : gSt) (r : Nat), FwH T T1 → r < 12 → BfR (meX X (f + 1 + 1) S i).2 T1 → ∃ y T', (bi (PP nf (d + 1) 137 T1 [nI (i + 2), nI (dp + 1)] []) fun r7 l7 T7 => bi (PP nf (d + 1) 88 T7 [nI (kd + 2), nI r, r7] []) fun r10 _ T10 => some (r10, 0, T10)) = some (nI y, 0, T') ∧ tyY T' y ∧ FwH T T' ∧ TyQ R S (meX X (f + 1 + 1) S i).2 T T' (f + 1) (f + 1 + 1) (meX X (f + 1 + 1) S i).1 y := by
        intro T1 r hF hr hB
        obtain ⟨b, T2, b1, b2, b3⟩ := a_type hX hnf (7 - (dp + 1)) (dp + 1) (i + 2) (d + 1) T1 (by omega) (by omega) (hT.fh hF) (hWI.fh hF) (hWR.fh hF) hF.2.2.1 (by omega) (by omega)
        rw [b1, bis]
        obtain ⟨y, T', y1, y2, _, y3⟩ := k_ptr (d := d + 1) (k := kd + 2) (r := r) (b := b) hnf b3.2.2.1 (by omega) (by omega) (by omega) b2 (by omega)
        rw [y1, bis]
        exact ⟨y, T', rfl, y2, (hF.tr b3).tr y3.fh, Or.inr ((hB.kp b3).kp y3.fh)⟩
      rcases b_reg (nf := nf) (d := d + 1) (i := i + 1) hX (by omega) hT hN h00 hi (hz _ k4) (by omega) with ⟨c, m, e1, e2, e3, e4, e5⟩ | ⟨e1, e2⟩
      · rw [e5, bis]
        have p0 : 0 ≤ rgQ X S (i + 1) := by rw [e1]; exact (nI_leI (a := 0) (b := c) (by omega) (by omega)).mpr (by omega)
        rcases hin with ⟨ti, f1⟩ | ⟨ti, hin⟩
        · have k3 := ti.2
          obtain ⟨f, rfl⟩ : ∃ e, f = e := ⟨f, rfl⟩
          have he' : i + 3 + rgs (xK X) 3 (i + 3) ≤ xn X := by
            rw [tyE, if_neg n26, if_pos ti] at he
            exact he
          have hi2 := K_lt hX k3 (by omega)
          -- the TITLE is read
          have rd : PP nf (d + 1) 137 T [nI (i + 2), nI (dp + 1)] [] = (bi (PP nf d 138 T [nI (i + 2)] []) fun r16 _ T16 => some (r16, 0, T16)) := by
            rw [e_Heads_readType]
            unfold rb_Heads_readType
            obtain ⟨d1, hd1⟩ : ∃ e, d = e + 1 := ⟨d - 1, by omega⟩
            rw [show PP nf d 25 T [nI (i + 2)] [] = some (nI (xK X (i + 2)), 0, T) by rw [hd1]; exact c_kind hX hT (by omega), bis, k3, if_neg (by decide), if_pos (show nI (dp + 1) ≤ 6 from (nI_leI (a := dp + 1) (b := 6) (by omega) (by omega)).mpr (by omega)), if_pos (show nI 3 = 3 from rfl)]
          rw [rd]
          obtain ⟨b, T2, b1, b2, b3, b4⟩ := g_title (R := R) (S := S) (i := i) (d := d) hX hnf hz h00 hT hN hI hs ht hW (by omega) k3 he' (by omega)
          rw [b1, bis, bis]
          have em : meX X (f + 1 + 1) S i = if (waX X (rgs (xK X) 3 (i + 3)) (tiS X S i) (i + 3) 0 0).2.1 7 0 = 0 then kn (waX X (rgs (xK X) 3 (i + 3)) (tiS X S i) (i + 3) 0 0).2 (kdT X i, rgQ X S (i + 1), -1, ff (isTi S (xN X (i + 2))) 0 (inn S), (waX X (rgs (xK X) 3 (i + 3)) (tiS X S i) (i + 3) 0 0).1) else (0, (waX X (rgs (xK X) 3 (i + 3)) (tiS X S i) (i + 3) 0 0).2) := by
            rw [meX, if_pos hs, if_neg n26, if_pos p0, if_pos ti]
          obtain ⟨y', T'', z1, z2, _, z3⟩ := k_ptr (d := d + 1) (k := kd + 2) (r := m) (b := b) hnf b3.2.2.1 (by omega) (by omega) (by omega) b2 (by omega)
          rcases b4 with ⟨a1, t, g, q, a2, a3, a4, a5, a6, a7⟩ | hB
          · rw [a1, if_pos hs] at em
            rw [em] at hc ⊢
            subst a6
            obtain ⟨s, T', y1, y2⟩ := c_ptr (d := d + 1) (k := kd + 2) (r := m) (b := q + 3) hnf a7.2.2.2.1 (by have := a7.ft.2.2.2; omega) (by omega) (by omega) (by have := a7.1; omega) (by omega)
            rw [y1] at z1
            simp only [Option.some.injEq, Prod.mk.injEq, true_and] at z1
            obtain ⟨z1a, rfl⟩ := z1
            have ys : s + 3 = y' := nI_inj (by have := y2.1; omega) (by have := z2.lt; omega) z1a
            rw [y1, bis]
            rw [← ys] at z2
            have ty := ty_thg (R := R) (r := c) (n := m) (kd := kd) (f := f) hg hc (by rw [kdS, e1, a2]) kd1 kd3 e2 e3 (by omega) a3 a4 a5 a7 y2
            refine ⟨s + 3, T', rfl, z2, b3.tr z3.fh, Or.inl ⟨?_, y2.2.2.2.2.1.trans a7.2.2.2.2.1, ty, (TyF.kp a7).tr (TyF.kn hg hc y2), (a7.ft.tr y2.ft).le (by omega)⟩⟩
            show (knS _ _).1 7 0 = 0
            rw [knS_o (by omega)]
            exact hs
          · rw [if_neg hB.1] at em
            rw [em] at hc ⊢
            rw [z1, bis]
            exact ⟨y', T'', rfl, z2, b3.tr z3.fh, Or.inr (hB.kp z3.fh)⟩
        · have em : meX X (f + 1 + 1) S i = if (meX X (f + 1) S (i + 2)).2.1 7 0 = 0 then kn (meX X (f + 1) S (i + 2)).2 (kdT X i, rgQ X S (i + 1), (meX X (f + 1) S (i + 2)).1, -1, 0) else (0, (meX X (f + 1) S (i + 2)).2) := by
            rw [meX, if_pos hs, if_neg n26, if_pos p0, if_neg ti]
          have he' : tyE X (f + 1) (i + 2) ≤ xn X := by
            rw [tyE, if_neg n26, if_neg ti] at he
            exact he
          have hg1 : Tg (meX X (f + 1) S (i + 2)).2 := (FE.me (f + 1) S (i + 2)).tg hg
          have hc1 : cn (meX X (f + 1) S (i + 2)).2 < 6000 := by
            rw [em] at hc
            split at hc
            · exact Nat.lt_of_le_of_lt ((FE.kn).2.2.1 hg1).2.1 hc
            · exact hc
          obtain ⟨b, T2, b1, b2, b3, b4⟩ := ih (i + 2) (dp + 1) (d + 1) hin he' (by omega) (by omega) hW (by omega) hc1 (by omega)
          rw [b1, bis]
          rcases b4 with ⟨a1, a2, a3, a4, a5⟩ | hB
          · rw [if_pos a1] at em
            rw [em] at hc ⊢
            obtain ⟨s, T', y1, y2⟩ := c_ptr (d := d + 1) (k := kd + 2) (r := m) (b := b) hnf a5.2.2.1 (by have := a5.2.2.2; omega) (by omega) (by omega) (by have := a3.lt7; omega) (by omega)
            rw [y1, bis]
            have ty := ty_ptr (R := R) (r := c) (n := m) (kd := kd) hg1 hc (by rw [kdS, e1]) kd1 kd3 e2 e3 (by omega) a3 y2
            have ft := a5.tr y2.ft
            obtain ⟨y', T'', z1, z2, _, z3⟩ := k_ptr (d := d + 1) (k := kd + 2) (r := m) (b := b) hnf b3.2.2.1 (by omega) (by omega) (by omega) b2 (by omega)
            rw [y1] at z1
            simp only [Option.some.injEq, Prod.mk.injEq, true_and] at z1
            obtain ⟨z1a, rfl⟩ := z1
            have ys : s + 3 = y' := nI_inj (by have := y2.1; omega) (by have := z2.lt; omega) z1a
            rw [← ys] at z2
            refine ⟨s + 3, T', rfl, z2, b3.tr z3.fh, Or.inl ⟨?_, y2.2.2.2.2.1.trans a2, ty, a4.tr (TyF.kn hg1 hc y2), ft.le (by omega)⟩⟩
            show (knS _ _).1 7 0 = 0
            rw [knS_o (by omega)]
            exact a1
          · rw [if_neg hB.1] at em
            rw [em] at hc ⊢
            obtain ⟨y, T', y1, y2, _, y3⟩ := k_ptr (d := d + 1) (k := kd + 2) (r := m) (b := b) hnf b3.2.2.1 (by omega) (by omega) (by omega) b2 (by omega)
            rw [y1, bis]
            exact ⟨y, T', rfl, y2, b3.tr y3.fh, Or.inr (hB.kp y3.fh)⟩
      · rw [e2, bis]
        have p0 : ¬ 0 ≤ rgQ X S (i + 1) := by rw [e1]; decide
        have em : meX X (f + 1 + 1) S i = (0, flT S 3 (nI (xP X (i + 1)))) := by
          rw [meX, if_pos hs, if_neg n26, if_neg p0]
        have := rest (ntS T 3 (nI (xP X (i + 1)))) 0 (FwH.nt hW) (by omega) (by rw [em]; exact bf_nt hs ht (by decide))
        exact this
end CRU
