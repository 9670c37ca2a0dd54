/-! a head on both sides: the RS, the whole of checkHead -/
section CHH
variable {S S' S1 T T' T1 : gSt} {X : Lx} {nf d i k n m t e w dt wt c a b rt it : Nat} {N : Nat → Int64} {l : List Nat} {x : It} {bd : Tr}
theorem sgL_72 : ∀ (k j : Nat) (T : gSt), (∀ q, q < j → T.2 72 q = T.2 16 (3 * it + q)) → ∀ q, q < j + k → (sgL it k j T).2 72 q = T.2 16 (3 * it + q) := by
  intro k
  induction k with
  | zero => intro j T h q hq; exact h q hq
  | succ k ih =>
    intro j T h q hq
    rw [sgL]
    have e16 : ∀ z, (sI (sI (sJ T 72 j (T.2 16 (3 * it + j))) 73 j (nI (j + 1))) 71 0 (nI (j + 1))).2 16 z = T.2 16 z := fun z => by
      show (sJ T 72 j (T.2 16 (3 * it + j))).2 16 z = _
      rw [sJ_ne (by omega)]
    rw [ih (j + 1) _ (fun z hz => ?_) q (by omega), e16]
    rw [e16]
    show (sJ T 72 j (T.2 16 (3 * it + j))).2 72 z = _
    by_cases c : z = j
    · rw [c, sJ_v]
    · rw [rdJ, if_neg (fun w => c w.2)]
      exact h z (by omega)
theorem lvC_62 (h : T'.2 62 = T.2 62) (h2 : T'.2 63 = T.2 63) : ∀ n, lvC T' n = lvC T n := by
  intro n
  induction n with
  | zero => rfl
  | succ n ih =>
    rw [lvC, lvC, ih]
    have e1 : SW T' = SW T := SW_2 h
    have e2 : EW T' = EW T := by unfold EW; rw [h2]
    rw [e1, e2]
theorem dr_bad : ∀ (m j : Nat) (S : gSt), ¬ S.1 7 0 = 0 → drL t m j S = S := by
  intro m j S h
  cases m with
  | zero => rfl
  | succ m => rw [drL, if_neg h]
theorem sg_78 : (sgS it S).1 7 = S.1 7 ∧ (sgS it S).1 8 = S.1 8 := by
  unfold sgS
  exact ⟨by rw [sgL_o 7 (by omega) (by omega), sI_ne (by omega)], by rw [sgL_o 8 (by omega) (by omega), sI_ne (by omega)]⟩
/-- behind a fault in the RS the spec's head stays there -/
theorem hd_bad (h : ¬ S.1 7 0 = 0) : (tlS X t rt n w (fdL X c l l.length 0 (sgS t S))).1 7 0 = S.1 7 0 ∧ (tlS X t rt n w (fdL X c l l.length 0 (sgS t S))).1 8 0 = S.1 8 0 := by
  have s := sg_78 (it := t) (S := S)
  have h2 : ¬ (sgS t S).1 7 0 = 0 := by rw [s.1]; exact h
  rw [fd_bad _ _ _ h2]
  have := tl_bad (X := X) (t := t) (rt := rt) (n := n) (w := w) h2
  rw [this.1, this.2, s.1, s.2]
  exact ⟨rfl, rfl⟩
theorem BfR.hk (h : BfR S T) (hF : FhK t T T') : BfR S T' := by
  have := hF.2.2.2.2 (by rw [h.2.1]; exact h.1)
  exact ⟨h.1, this.1.trans h.2.1, this.2.trans h.2.2⟩
theorem HbP.pre {S0 T0 : gSt} (hF : TyF S0 S T0 T) (hl : lvC T 16384 = lvC T0 16384) (h : HbP X S S' T t c x T') : HbP X S0 S' T0 t c x T' := by
  rcases h with ⟨a, b, c, d⟩ | h
  · exact Or.inl ⟨a, hF.tr b, c, by rw [← hl]; exact d⟩
  · exact Or.inr h
theorem b_75 (hX : XO X) (hnf : 16385 ≤ nf) (hz : ∀ q, xK X q = 4 → ¬ xN X q = 0) (ht : t < 24) (hd : 61 ≤ d) (hH : HsR X S T) (hS : HeS X S t c (i, e, l, rt, dt, n, wt, w, bd)) (hC : HeT X T t (i, e, l, rt, dt, n, wt, w, bd)) (hg : hgO X (i, e, l, rt, dt, n, wt, w, bd)) (hk : ItOk X (i, e, l, rt, dt, n, wt, w, bd) a b) (hb : b ≤ xn X) (h72 : T.1 72 0 = 4) (h73 : ∀ r, 1 ≤ r → r ≤ 3 → T.2 73 r = if r ≤ e then xN X (i + 1 + r) else 0) (hl : lvC T 16384 + 6 * (l.length + 1) + 20 < 16384) : ∀ (m k fl : Nat), m + k = e + 1 → 1 ≤ k → m < fl → (∀ p, p < k - 1 → dpR S t p p 0 (if S.2 16 (3 * t + p) = 72 then 1 else 0) = 0) → cn (tlS X t rt n w (fdL X c l l.length 0 (sgS t (drL t m (k - 1) S)))) < 6000 → wp (rl_Heads_checkHead_75 (PP nf d) nf fl T (nI t) (nI (i + 1)) (nI k)) (fun _ _ T' => HbP X S (tlS X t rt n w (fdL X c l l.length 0 (sgS t (drL t m (k - 1) S)))) T t c (i, e, l, rt, dt, n, wt, w, bd) T') := by
  have hxn := hX.1
  have ct : (nI t).toNatClampNeg = t := nc (by omega)
  have zt : inb (nI t) 24 := nin ht (by omega)
  obtain ⟨hW, rt7, dt7, wt7, ie⟩ := hC.wh hX hg hS.2.2.1 hk hb
  have he := hS.2.2.1
  have h31 : T.1 31 t = nI e := hC.2.2.2.1
  have h15 : S.1 15 t = nI e := hS.2.2.2.1
  have h16 : ∀ q, q < e → S.2 16 (3 * t + q) = xN X (i + 1 + (q + 1)) := fun q hq => by
    rw [(hS.2.2.2.2.1 q hq).1, show i + 2 + q = i + 1 + (q + 1) by omega]
  have hWR : WR T := ⟨4, h72, by omega, by omega⟩
  have hWI : WI T := by
    obtain ⟨n, x1, x2, x3, _⟩ := hH.2.1
    exact ⟨n, x2, x3⟩
  intro m
  induction m with
  | zero =>
    intro k fl e1 e2 e3 hdp hcn
    obtain ⟨fl, rfl⟩ : ∃ g, fl = g + 1 := ⟨fl - 1, by omega⟩
    rw [rl_Heads_checkHead_75]
    simp only [gd, if_pos zt, ct, h31]
    rw [if_pos (show nI e < nI k from (nI_ltI (by omega) (by omega)).mpr (by omega))]
    rw [drL] at hcn ⊢
    -- the names are unlike
    have nd : ∀ p, p < e → ¬ S.2 16 (3 * t + p) = 72 ∧ ∀ q, q < p → ¬ S.2 16 (3 * t + q) = S.2 16 (3 * t + p) := fun p hp => by
      have := (dpR_v _ _ _).mp (hdp p (by omega))
      exact ⟨fun z => by rw [if_pos z] at this; exact absurd this.1 (by decide), fun q hq => this.2 q (by omega) (by omega)⟩
    have s15 : (S.1 15 t).toNatClampNeg = e := by rw [h15, nc (by omega)]
    have r71 : rn (sgS t S) = e := by
      unfold rn sgS
      rw [s15, sgL_n e 0 _ (by rw [sI_v]; rfl), nc (by omega), Nat.zero_add]
    have n72 : ∀ k, k < e → (sgS t S).2 72 k = xN X (i + 1 + (k + 1)) ∧ (sgS t S).1 73 k = nI (k + 1) := fun k hk => by
      refine ⟨?_, ?_⟩
      · unfold sgS
        rw [s15, sgL_72 e 0 _ (fun q hq => absurd hq (Nat.not_lt_zero _)) k (by omega)]
        exact h16 k hk
      · unfold sgS
        rw [s15, sgL_73 e 0 _ (fun q hq => absurd hq (Nat.not_lt_zero _)) k (by omega)]
    have hu : ∀ a b, 1 ≤ a → a ≤ e → 1 ≤ b → b ≤ e → xN X (i + 1 + a) = xN X (i + 1 + b) → a = b := by
      intro a b a1 a2 b1 b2 hab
      have x1 := h16 (a - 1) (by omega)
      have x2 := h16 (b - 1) (by omega)
      rw [show a - 1 + 1 = a by omega] at x1
      rw [show b - 1 + 1 = b by omega] at x2
      rcases Nat.lt_trichotomy a b with q | q | q
      · exact absurd (by rw [x1, x2, hab]) ((nd (b - 1) (by omega)).2 (a - 1) (by omega))
      · exact q
      · exact absurd (by rw [x1, x2, hab]) ((nd (a - 1) (by omega)).2 (b - 1) (by omega))
    have nm : NmR R0 (sgS t S) T := nm_head (N := fun r => xN X (i + 1 + r)) he r71 n72 h72 h73 hu
    have fs : FH S (sgS t S) := FH.sg
    have H1 : HrR R0 X (sgS t S) T := ⟨hH.1, nm, hH.2.1.st (fs.1 11 (by omega) (by omega) (by omega) (by omega) (by omega) (by omega)) (fs.1 12 (by omega) (by omega) (by omega) (by omega) (by omega) (by omega)) (fs.2.1 13 (by omega)) (fs.1 15 (by omega) (by omega) (by omega) (by omega) (by omega) (by omega)) (fun _ _ _ => rfl) (fun _ => rfl), fs.tg hH.2.2.1, by rw [sg_78.1]; exact hH.2.2.2.1, hH.2.2.2.2.1, hH.2.2.2.2.2⟩
    have O1 : OwR (sgS t S) T t e (fun r => xN X (i + 1 + r)) := ⟨he, by rw [fs.1 15 (by omega) (by omega) (by omega) (by omega) (by omega) (by omega)]; exact h15, fun q hq => by rw [fs.2.1 16 (by omega)]; exact h16 q hq, h72, h73, fun a a1 a2 => by
      have x1 := h16 (a - 1) (by omega)
      rw [show a - 1 + 1 = a by omega] at x1
      show ¬ xN X (i + 1 + a) = 72
      rw [← x1]
      exact (nd (a - 1) (by omega)).1⟩
    have F0 : TyF S (sgS t S) T T := TyF.st (by unfold sgS; rw [sgL_o 65 (by omega) (by omega), sI_ne (by omega)]) (fun k _ _ => by unfold sgS; rw [sgL_o k (by omega) (by omega), sI_ne (by omega)]) (fs.1 15 (by omega) (by omega) (by omega) (by omega) (by omega) (by omega)) rfl rfl
    refine wp_mono (b_htl (nf := nf) (d := d) hX hnf hz ht hd H1 (hS.fh fs) hC hg hk hb O1 hl hcn) ?_
    intro _ _ T' h
    exact h.pre F0 rfl
  | succ m ih =>
    intro k fl e1 e2 e3 hdp hcn
    obtain ⟨fl, rfl⟩ : ∃ g, fl = g + 1 := ⟨fl - 1, by omega⟩
    obtain ⟨d1, hd1⟩ : ∃ g, d = g + 1 := ⟨d - 1, by omega⟩
    rw [rl_Heads_checkHead_75]
    simp only [gd, if_pos zt, ct, h31]
    have bd' := b_dup (S := S) (T := T) (it := t) (N := fun r => xN X (i + 1 + r)) (k := k) (e := e) e2 (by omega) he h73 h16
    rw [if_neg (fun w => by
      have := (nI_ltI (by omega) (by omega)).mp w
      omega), show nI (i + 1) + nI k = nI (i + 1 + k) from (Int32.ofNat_add _ _).symm, show PP nf d 27 T [nI (i + 1 + k)] [] = some (0, xN X (i + 1 + k), T) by rw [hd1]; exact c_name hX hH.1 (by omega), bis, c_findRegion (n := 4) (by omega) h72 (by omega) (by omega) (by omega), bis]
    rw [drL, if_pos hH.2.2.2.1] at hcn ⊢
    by_cases cq : (if xN X (i + 1 + k) = 72 then (0 : Int32) else ff (isRk T (xN X (i + 1 + k))) 1 (4 - 1)) = nI k
    · have ds : drS S t (k - 1) = S := by
        unfold drS
        rw [if_pos (bd'.mp cq)]
      rw [if_pos cq, vK, nI_1]
      rw [ds, show k - 1 + 1 = k + 1 - 1 by omega] at hcn ⊢
      refine ih (k + 1) fl (by omega) (by omega) (by omega) (fun p hp => ?_) hcn
      by_cases pk : p = k - 1
      · rw [pk]; exact bd'.mp cq
      · exact hdp p (by omega)
    · have ds : drS S t (k - 1) = flT S 2 (nI (xP X (i + 1 + k))) := by
        unfold drS
        rw [if_neg (fun z => cq (bd'.mpr z)), (hS.2.2.2.2.1 (k - 1) (by omega)).2, show i + 2 + (k - 1) = i + 1 + k by omega]
      rw [if_neg cq, show PP nf d 26 T [nI (i + 1 + k)] [] = some (nI (xP X (i + 1 + k)), 0, T) by rw [hd1]; exact c_start hX hH.1 (by omega), bis, c_note (by omega), bis, vK, nI_1]
      have f1 : FwH T (ntS T 2 (nI (xP X (i + 1 + k)))) := FwH.nt hH.2.2.2.2.2
      have bf := bf_nt (S := S) (T := T) (p := nI (xP X (i + 1 + k))) (a := 2) hH.2.2.2.1 hH.2.2.2.2.1 (by decide)
      refine wp_mono (a_75 (n := l.length) (nf := nf) (d := d) (i := i + 1) (e := e) hX hnf ht (by omega) he ie m (k + 1) fl _ (by omega) (by omega) (by omega) (hH.1.fh f1) (hWI.fh f1) (hWR.fh f1) f1.2.2.1 (hW.hk (f1.hk (t := t))) (by rw [f1.1 31 (by omega) (by omega)]; exact h31)) ?_
      intro _ _ T' h
      have b2 := bf.hk h.1
      rw [ds, dr_bad _ _ _ bf.1]
      have := hd_bad (X := X) (t := t) (rt := rt) (n := n) (w := w) (c := c) (l := l) bf.1
      exact Or.inr ⟨by rw [this.1]; exact bf.1, by rw [this.1]; exact b2.2.1, by rw [this.2]; exact b2.2.2⟩
/-- checkHead on both sides -/
theorem b_head (hX : XO X) (hnf : 16385 ≤ nf) (hz : ∀ q, xK X q = 4 → ¬ xN X q = 0) (ht : t < 24) (hd : 62 ≤ d) (hH : HsR X S T) (htn : t < inn S) (hS : HeS X S t c (i, e, l, rt, dt, n, wt, w, bd)) (hC : HeT X T t (i, e, l, rt, dt, n, wt, w, bd)) (hg : hgO X (i, e, l, rt, dt, n, wt, w, bd)) (hk : ItOk X (i, e, l, rt, dt, n, wt, w, bd) a b) (hb : b ≤ xn X) (hl : lvC T 16384 + 6 * (l.length + 1) + 20 < 16384) (hc : cn (hdS X t c l rt n w S) < 6000) : wp (PP nf d 128 T [nI t] []) (fun _ _ T' => HaQ T t l.length T' ∧ HbP X S (hdS X t c l rt n w S) T t c (i, e, l, rt, dt, n, wt, w, bd) T') := by
  have hxn := hX.1
  obtain ⟨hW, rt7, dt7, wt7, ie⟩ := hC.wh hX hg hS.2.2.1 hk hb
  have he := hS.2.2.1
  have hWI : WI T := by
    obtain ⟨n, x1, x2, x3, _⟩ := hH.2.1
    exact ⟨n, x2, x3⟩
  refine wp_and (a_head (nf := nf) (d := d) hX hnf ht (by omega) hH.1 hWI hH.2.2.2.2.2 hW) ?_
  obtain ⟨d, rfl⟩ : ∃ g, d = g + 1 := ⟨d - 1, by omega⟩
  have ct : (nI t).toNatClampNeg = t := nc (by omega)
  have zt : inb (nI t) 24 := nin ht (by omega)
  have h15 : S.1 15 t = nI e := hS.2.2.2.1
  have s15 : (S.1 15 t).toNatClampNeg = e := by rw [h15, nc (by omega)]
  rw [e_Heads_checkHead]
  unfold rb_Heads_checkHead
  simp only [gd, if_pos zt, ct, vK, show T.1 29 t = nI (i + 1) from hC.2.1]
  -- enterHead, whatever is told
  have ent : ∀ T1, FwH T T1 → T1.2 = T.2 → wp (PP nf d 101 T1 [nI t] []) (fun _ _ T2 => FhK t T1 T2 ∧ T2.1 72 0 = 4 ∧ (∀ r, 1 ≤ r → r ≤ 3 → T2.2 73 r = if r ≤ e then xN X (i + 1 + r) else 0) ∧ (∀ g, g ≠ 67 → g ≠ 68 → g ≠ 72 → g ≠ 75 → g ≠ 76 → T2.1 g = T1.1 g) ∧ T2.2 30 = T1.2 30 ∧ T2.2 62 = T1.2 62 ∧ T2.2 63 = T1.2 63) := by
    intro T1 f1 _
    refine wp_mono (c_enterHead (nf := nf) (d := d) (t := t) (e := e) (i := i + 1) hX (hH.1.fh f1) (by omega) ht he ie (by rw [f1.1 31 (by omega) (by omega)]; exact hC.2.2.2.1) (by rw [f1.1 29 (by omega) (by omega)]; exact hC.2.1) (by omega)) ?_
    intro _ _ T2 ⟨b1, b2, b3, b4, b5, b6, b7, b8, b9⟩
    have w2 := f1.2.2.1.ag2 (T' := T2) (funext fun j => b8 62 j (by omega) (by omega)) (b8 63 0 (by omega) (by omega)) (by rw [b7 27 (by omega) (by omega) (by omega) (by omega) (by omega)])
    exact ⟨⟨fun k j _ _ c d e f g _ _ _ _ => by rw [b7 k c d e f g], fun q j _ a b => b8 q j (by omega) b, w2.1, w2.2, fun _ => ⟨by rw [b7 53 (by omega) (by omega) (by omega) (by omega) (by omega)], by rw [b7 54 (by omega) (by omega) (by omega) (by omega) (by omega)]⟩⟩, b3, b9, b7, funext fun j => b8 30 j (by omega) (by omega), funext fun j => b8 62 j (by omega) (by omega), funext fun j => b8 63 j (by omega) (by omega)⟩
  have main : ∀ fn : Bool, (fn = true ↔ S.1 12 t = 2) → wp (rj_Heads_checkHead_42 (PP nf d) nf T (nI t) (nI (i + 1)) (if fn = true then 1 else 0) (T.2 30 t)) (fun _ _ T' => HbP X S (hdS X t c l rt n w S) T t c (i, e, l, rt, dt, n, wt, w, bd) T') := by
    intro fn hfn
    obtain ⟨n', n1, n2⟩ := hWI
    have hIt := hH.2.1
    have e30 : T.2 30 t = S.2 13 t := by
      obtain ⟨m, m1, m2, m3, m4⟩ := hIt
      exact (m4 t (by omega)).2.2.1
    have fnd : ff (isIt T fn (T.2 30 t)) 0 n' = nmF t S := by
      rw [e30]
      unfold nmF
      cases fn with
      | true => rw [if_pos (hfn.mp rfl)]; exact it_findF hIt n1 n2
      | false => rw [if_neg (fun z => absurd (hfn.mpr z) (by decide))]; exact it_find hIt n1 n2
    unfold rj_Heads_checkHead_42
    rw [c_find (fn := fn) (by omega) n1 n2 rfl (by omega), bis, fnd]
    obtain ⟨d1, hd1⟩ : ∃ g, d = g + 1 := ⟨d - 1, by omega⟩
    unfold hdS hdA nmS at hc ⊢
    rw [s15] at hc ⊢
    by_cases cq : nmF t S = nI t
    · rw [if_pos cq] at hc ⊢
      rw [if_pos cq]
      refine wp_bi (ent T (FwH.rf hH.2.2.2.2.2) rfl) ?_
      intro _ _ T2 ⟨k2, a1, a2, a3, a4, a5, a6⟩
      have H2 : HsR X S T2 := ⟨hH.1.hk k2, hH.2.1.st rfl rfl rfl rfl (fun k j hk => by rw [a3 k (by omega) (by omega) (by omega) (by omega) (by omega)]) (fun j => by rw [a4]), hH.2.2.1, hH.2.2.2.1, by rw [a3 53 (by omega) (by omega) (by omega) (by omega) (by omega)]; exact hH.2.2.2.2.1, k2.2.2.1⟩
      have lv : lvC T2 16384 = lvC T 16384 := lvC_62 a5 a6 _
      have F0 : TyF S S T T2 := TyF.st rfl (fun _ _ _ => rfl) rfl a5 (by rw [a6])
      refine wp_mono (b_75 (nf := nf) (d := d) hX hnf hz ht (by omega) H2 hS (hC.hk k2) hg hk hb a1 a2 (by omega) e 1 nf (by omega) (by omega) (by omega) (fun p hp => by omega) hc) ?_
      intro _ _ T' h
      exact h.pre F0 lv
    · rw [if_neg cq] at hc ⊢
      rw [if_neg cq, show PP nf d 26 T [nI (i + 1)] [] = some (nI (xP X (i + 1)), 0, T) by rw [hd1]; exact c_start hX hH.1 (by omega), bis, c_note (by omega), bis, hS.2.1]
      have f1 : FwH T (ntS T 2 (nI (xP X (i + 1)))) := FwH.nt hH.2.2.2.2.2
      have bf := bf_nt (S := S) (T := T) (p := nI (xP X (i + 1))) (a := 2) hH.2.2.2.1 hH.2.2.2.2.1 (by decide)
      refine wp_bi (ent _ f1 nt_2) ?_
      intro _ _ T2 ⟨k2, a1, a2, a3, a4, a5, a6⟩
      have k12 : FhK t T T2 := (f1.hk).tr k2
      refine wp_mono (a_75 (n := l.length) (nf := nf) (d := d) (i := i + 1) (e := e) hX hnf ht (by omega) he ie e 1 nf T2 (by omega) (by omega) (by omega) (hH.1.hk k12) (WI.hk ⟨n', n1, n2⟩ k12) ⟨4, a1, by omega, by omega⟩ k12.2.2.1 (hW.hk k12) (by rw [a3 31 (by omega) (by omega) (by omega) (by omega) (by omega), f1.1 31 (by omega) (by omega)]; exact hC.2.2.2.1)) ?_
      intro _ _ T' h
      have b2 := bf.hk (k2.tr h.1)
      rw [dr_bad _ _ _ bf.1]
      have := hd_bad (X := X) (t := t) (rt := rt) (n := n) (w := w) (c := c) (l := l) bf.1
      exact Or.inr ⟨by rw [this.1]; exact bf.1, by rw [this.1]; exact b2.2.1, by rw [this.2]; exact b2.2.2⟩
  have k12 : T.1 28 t = 12 ↔ S.1 12 t = 2 := by
    obtain ⟨m, m1, m2, m3, m4⟩ := hH.2.1
    exact (m4 t (by omega)).1
  split
  · rename_i h12
    exact main true ⟨fun _ => k12.mp h12, fun _ => rfl⟩
  · rename_i h12
    exact main false ⟨fun z => absurd z (by decide), fun z => absurd (k12.mpr z) h12⟩
end CHH
