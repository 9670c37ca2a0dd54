/-! both machines: IF with a pointer -/
/-- steps one after another -/
def MvR (nf d : Nat) : Nat → gSt → gSt → Prop
  | 0, M, M' => M' = M
  | j + 1, M, M' => ∃ M1, M.1 100 0 = 1 ∧ StR nf d M M1 ∧ MvR nf d j M1 M'
def MvC (nf d : Nat) : Nat → gSt → gSt → Prop
  | 0, T, T' => T' = T
  | j + 1, T, T' => ∃ T1, T.1 106 0 = 1 ∧ StC nf d T T1 ∧ MvC nf d j T1 T'
section STD
variable {M0 T0 Sf S Sh : gSt} {G G' : GH} {D D' : Nat → (Nat → AV) × Nat} {nf d d' nb nb' mk mk' na na' ng ng' e bs ph bt rb tb ie en hb k q u s i j c t h P W Dp n m it n1 : Nat} {rg rg' : Nat → Nat} {ρ : Nat → Nat} {va : Nat → AV} {M M' T T' : gSt} {v : AV} {x a b cc ee op y z w : Int32} {st s0 st' : List Int32} {ov o0 ov' : List AV} {hs : List HD} {F : FRM} {Fr : Nat → FRM} {f : Nat → Int32} {jj : T5} {r1 : Int32} {l1 : Int64} {tg : List Nat}
variable {n' m' nx mx p : Nat} {M1 M2 M3 T1 T2 T3 : gSt}
theorem MvR.on : ∀ (i : Nat) {j : Nat} {M M1 M' : gSt}, MvR nf d i M M1 → MvR nf d j M1 M' → MvR nf d (i + j) M M' := by
  intro i
  induction i with
  | zero =>
    intro j M M1 M' h h2
    cases h
    rw [Nat.zero_add]
    exact h2
  | succ i ih =>
    intro j M M1 M' h h2
    obtain ⟨M2, z, h3, h4⟩ := h
    rw [show i + 1 + j = (i + j) + 1 by omega]
    exact ⟨M2, z, h3, ih h4 h2⟩
theorem MvC.on : ∀ (i : Nat) {j : Nat} {M M1 M' : gSt}, MvC nf d i M M1 → MvC nf d j M1 M' → MvC nf d (i + j) M M' := by
  intro i
  induction i with
  | zero =>
    intro j M M1 M' h h2
    cases h
    rw [Nat.zero_add]
    exact h2
  | succ i ih =>
    intro j M M1 M' h h2
    obtain ⟨M2, z, h3, h4⟩ := h
    rw [show i + 1 + j = (i + j) + 1 by omega]
    exact ⟨M2, z, h3, ih h4 h2⟩
theorem MvR.one (h1 : M.1 100 0 = 1) (h : StR nf d M M') : MvR nf d 1 M M' := ⟨M', h1, h, rfl⟩
theorem MvC.one (h1 : T.1 106 0 = 1) (h : StC nf d T T') : MvC nf d 1 T T' := ⟨T', h1, h, rfl⟩
/-- what lies above the stacks doesn't matter -/
theorem ex_tmp (hR : Rws Sf) (hc : cn Sf ≤ 6000) (h : Sim M0 T0 Sf G D nb mk rg na ng P W Fr Dp M T) (oM : ∀ k, ¬ (k = 102 ∨ (109 ≤ k ∧ k ≤ 113)) → M'.1 k = M.1 k) (hM2 : M'.2 = M.2) (hMs : ∀ k q, 110 ≤ k → k ≤ 113 → q < (fph (Fr Dp) + (fst' (Fr Dp)).length) → M'.1 k q = M.1 k q) (oT : ∀ k, ¬ (k = 99 ∨ k = 100 ∨ k = 105) → T'.1 k = T.1 k) (hT2 : T'.2 = T.2) (hTs : ∀ q, q < (fbs (Fr Dp) + 80 + wsl Sf (fst' (Fr Dp))) → T'.1 99 q = T.1 99 q) (h109 : M'.1 109 0 = nI (fph (Fr Dp) + (fst' (Fr Dp)).length)) (h100 : T'.1 100 0 = nI (fbs (Fr Dp) + 80 + wsl Sf (fst' (Fr Dp)))) (h102 : M'.1 102 0 = nI n') (h105 : T'.1 105 0 = nI m') : ∃ ov', Sim M0 T0 Sf G D nb mk rg na ng P W (updF Fr Dp (mkF (fS (Fr Dp)) (fρ (Fr Dp)) (fva (Fr Dp)) (fst' (Fr Dp)) ov' (fhs (Fr Dp)) (fit (Fr Dp)) n' m' (fbs (Fr Dp)) (fph (Fr Dp)) (frb (Fr Dp)) (ftb (Fr Dp)) (fie (Fr Dp)))) Dp M' T' :=
  Sim.ex (st := []) (s0 := fst' (Fr Dp)) hR hc h (h.1.eq (fun k hk => oM k (by omega)) (fun k k1 k2 => oT k (by omega))) (fun _ _ => rfl) (Nat.le_refl _) h.2.2.2.2.2.2.2 rfl h.fr.2 (fun k hk => oM k (by omega)) hM2 hMs (fun k hk => oT k (by omega)) (oT 121 (by omega)) hT2 hTs (h.2.2.2.2.1.eq (fun k hk => oM k (by omega)) (fun k hk => oT k (by omega))) (fun o0 _ e4 => ⟨o0, e4⟩) h109 h100 h102 h105
theorem rw_eq (h : ∀ k, 96 ≤ k → k ≤ 99 → M'.1 k = M.1 k) : rwC4 M' n = rwC4 M n := by
  unfold rwC4
  rw [h 96 (by omega) (by omega), h 97 (by omega) (by omega), h 98 (by omega) (by omega), h 99 (by omega) (by omega)]
theorem cw_eq (h : ∀ k, 48 ≤ k → k ≤ 50 → T'.1 k = T.1 k) : cw3 T' m = cw3 T m := by
  unfold cw3
  rw [h 48 (by omega) (by omega), h 49 (by omega) (by omega), h 50 (by omega) (by omega)]
/-- a VAR that may be null, on both sides */
-/
theorem va_nul (cx : CxP M0 T0 Sf) (h : Sim M0 T0 Sf G D nb mk rg na ng P W Fr Dp M T) (hva : vaP (fS (Fr Dp)) u s) (hp : rowP Sf ((fS (Fr Dp)).1 80 u) p) (hk : Sf.1 66 p = 1 ∨ Sf.1 66 p = 2) : (M.1 118 (20 * Dp + s) = -1 ∧ T.1 99 (fbs (Fr Dp) + slV Sf (fS (Fr Dp)) u) = 0) ∨ (1 ≤ (fva (Fr Dp) s).2.1 ∧ ¬ M.1 118 (20 * Dp + s) = -1 ∧ ¬ T.1 99 (fbs (Fr Dp) + slV Sf (fS (Fr Dp)) u) = 0) := by
  have hc6 : cn Sf ≤ 6000 := by have := cx.2.1; omega
  obtain ⟨v1, v2, v3, v4⟩ := h.fr.1.1 u s hva
  have v1' : VTs Sf G nb rg na ng (fρ (Fr Dp)) (fva (Fr Dp) s) ((fS (Fr Dp)).1 80 u) := by
    unfold VTs
    rw [if_neg (hp.n2 hc6)]
    exact v1
  have TI := h.2.2.2.2.2.2.2
  rw [VTs_p cx.1 hc6 hp hk] at v1'
  rcases v1' with ⟨_, w⟩ | ⟨a1, a2, a3, a4, a5⟩
  · rw [w] at v2 v3
    exact Or.inl ⟨RV_nul v2, (v3 0 (by decide)).trans CW_nul⟩
  · obtain ⟨r1, r2, r3⟩ := RV_p v2 a1 a2
    have lt := gPt_lt TI a2 a3 a5
    obtain ⟨_, to, _⟩ := TI _ a2 a3
    refine Or.inr ⟨a2, by rw [r2]; exact fun w => nI_neg1 (by omega) w.symm, ?_⟩
    have := v3 0 (by rw [wv_0 a1]; omega)
    rw [Nat.add_zero] at this
    rw [this, CW_pt a1 a2]
    exact nz1 (by omega)
/-- IF: a pointer */
-/
theorem st_ifn (cx : CxP M0 T0 Sf) (h : Sim M0 T0 Sf G D nb mk rg na ng P W Fr Dp M T) (rn : RnO M T) (hn : fn (Fr Dp) = n) (hm : fm (Fr Dp) = m) (hn2 : n < 12000) (h51 : T0.1 51 0 = nI n1) (hm2 : m < n1) (h6 : n1 ≤ 6032) (rowR : rwC4 M0 n = (26, nI nx, 1, ee)) (rowC : cw3 T0 m = (51, nI mx, y)) (hst : fst' (Fr Dp) = x :: s0) (hx : rowP Sf x p ∧ (Sf.1 66 p = 1 ∨ Sf.1 66 p = 2)) (hI : IvP Sf (fit (Fr Dp)) (fS (Fr Dp)) s0 (fhs (Fr Dp))) (hd : 20 ≤ d) (hd' : 20 ≤ d') : ∃ M' T' ov' n' m', ((n' = n + 1 ∧ m' = m + 1) ∨ (n' = nx ∧ m' = mx)) ∧ StR nf d M M' ∧ StC nf d' T T' ∧ RnO M' T' ∧ Sim M0 T0 Sf G D nb mk rg na ng P W (updF Fr Dp (mkF (fS (Fr Dp)) (fρ (Fr Dp)) (fva (Fr Dp)) s0 ov' (fhs (Fr Dp)) (fit (Fr Dp)) n' m' (fbs (Fr Dp)) (fph (Fr Dp)) (frb (Fr Dp)) (ftb (Fr Dp)) (fie (Fr Dp)))) Dp M' T' := by
  obtain ⟨w1, w2, w3, w4, w5, w6, w7, w8, w9⟩ := h.rw (n := n) (m := m)
  obtain ⟨b1, b2, b3, b4, b5⟩ := h.bd
  have hc6 : cn Sf ≤ 6000 := by have := cx.2.1; omega
  obtain ⟨v, hv, hrv, hcw⟩ := h.top hst
  have ws := wS_p hc6 hx.1 hx.2
  have TI := h.2.2.2.2.2.2.2
  have l1 : (fst' (Fr Dp)).length = s0.length + 1 := by rw [hst]; rfl
  have l2 : wsl Sf (fst' (Fr Dp)) = 1 + wsl Sf s0 := by rw [hst, ← ws]; rfl
  have xr := x_r26b (M := sI M 102 0 (nI (n + 1))) (nf := nf) (d := d) (x := nI nx) (z := ee) (h := fph (Fr Dp) + s0.length) (by rw [tp_102 (by omega), w6, l1]; rfl) (by omega) (by omega)
  have xc := c_jz (T := sI T 105 0 (nI (m + 1))) (nf := nf) (d := d') (x := nI mx) (y := y) (t := fbs (Fr Dp) + 80 + wsl Sf s0) (by rw [tp_105 (by omega), w7, l2]; congr 1; omega) (by omega) (by omega)
  rw [tp_102 (by omega)] at xr
  rw [tp_105 (by omega)] at xc
  have fin : ∀ n' m', ((n' = n + 1 ∧ m' = m + 1) ∨ (n' = nx ∧ m' = mx)) → (if M.1 111 (fph (Fr Dp) + s0.length) = -1 then sI (sI (sI M 102 0 (nI (n + 1))) 109 0 (nI (fph (Fr Dp) + s0.length))) 102 0 (nI nx) else sI (sI M 102 0 (nI (n + 1))) 109 0 (nI (fph (Fr Dp) + s0.length))) = sI (sI M 109 0 (nI (fph (Fr Dp) + s0.length))) 102 0 (nI n') → (if T.1 99 (fbs (Fr Dp) + 80 + wsl Sf s0) = 0 then sI (sI (sI T 105 0 (nI (m + 1))) 100 0 (nI (fbs (Fr Dp) + 80 + wsl Sf s0))) 105 0 (nI mx) else sI (sI T 105 0 (nI (m + 1))) 100 0 (nI (fbs (Fr Dp) + 80 + wsl Sf s0))) = sI (sI T 100 0 (nI (fbs (Fr Dp) + 80 + wsl Sf s0))) 105 0 (nI m') → ∃ M' T' ov' n' m', ((n' = n + 1 ∧ m' = m + 1) ∨ (n' = nx ∧ m' = mx)) ∧ StR nf d M M' ∧ StC nf d' T T' ∧ RnO M' T' ∧ Sim M0 T0 Sf G D nb mk rg na ng P W (updF Fr Dp (mkF (fS (Fr Dp)) (fρ (Fr Dp)) (fva (Fr Dp)) s0 ov' (fhs (Fr Dp)) (fit (Fr Dp)) n' m' (fbs (Fr Dp)) (fph (Fr Dp)) (frb (Fr Dp)) (ftb (Fr Dp)) (fie (Fr Dp)))) Dp M' T' := fun n' m' hc e1 e2 => by
    rw [e1] at xr
    rw [e2] at xc
    obtain ⟨ov', hs⟩ := ex_pop (n := n') (m := m') (st := [x]) (s0 := s0) cx.1 hc6 h hst hI
    exact ⟨_, _, ov', n', m', hc, StR.of (by rw [w4, hn]) hn2 (by rw [w1]; exact rowR) (by decide) xr, StC.of (op := 51) (x := nI mx) (y := y) (r1 := 0) (l1 := 0) (by rw [w5, hm]) (by rw [w3]; exact h51) h6 hm2 (by rw [w2]; exact rowC) (by decide) (by rw [dC_214 (by decide) (by decide) (by decide) (by decide) (by decide)]; exact xc), ⟨by rw [sI_ne (by omega), sI_ne (by omega)]; exact rn.1, by rw [sI_ne (by omega), sI_ne (by omega)]; exact rn.2⟩, hs⟩
  rw [VTs_p cx.1 hc6 hx.1 hx.2] at hv
  rcases hv with ⟨_, w⟩ | ⟨a1, a2, a3, a4, a5⟩
  · rw [w] at hrv hcw
    have z1 := RV_nul hrv
    have z2 : T.1 99 (fbs (Fr Dp) + 80 + wsl Sf s0) = 0 := (hcw 0 (by decide)).trans CW_nul
    refine fin nx mx (Or.inr ⟨rfl, rfl⟩) ?_ ?_
    · rw [if_pos z1, sI_cc (g := 102) (h := 109) (by omega), sI_ow]
    · rw [if_pos z2, sI_cc (g := 105) (h := 100) (by omega), sI_ow]
  · obtain ⟨r1, r2, r3⟩ := RV_p hrv a1 a2
    have lt := gPt_lt TI a2 a3 a5
    obtain ⟨_, to, _⟩ := TI _ a2 a3
    have z1 : ¬ M.1 111 (fph (Fr Dp) + s0.length) = -1 := by rw [r2]; exact fun w => nI_neg1 (by omega) w.symm
    have z2 : ¬ T.1 99 (fbs (Fr Dp) + 80 + wsl Sf s0) = 0 := by
      have := hcw 0 (by rw [wv_0 a1]; omega)
      rw [Nat.add_zero] at this
      rw [this, CW_pt a1 a2]
      exact nz1 (by omega)
    refine fin (n + 1) (m + 1) (Or.inl ⟨rfl, rfl⟩) ?_ ?_
    · rw [if_neg z1, sI_cc (g := 102) (h := 109) (by omega)]
    · rw [if_neg z2, sI_cc (g := 105) (h := 100) (by omega)]
/-- LOAD, both sides, as it is */
-/
theorem ld_raw (cx : CxP M0 T0 Sf) (h : Sim M0 T0 Sf G D nb mk rg na ng P W Fr Dp M T) (rn : RnO M T) (hn : fn (Fr Dp) = n) (hm : fm (Fr Dp) = m) (hn2 : n < 12000) (h51 : T0.1 51 0 = nI n1) (hm2 : m < n1) (h6 : n1 ≤ 6032) (hva : vaP (fS (Fr Dp)) u s) (rowR : rwC4 M0 n = (5, nI s, cc, ee)) (rowC : cw3 T0 m = (3, nI (slV Sf (fS (Fr Dp)) u), 1)) (hb2 : wsl Sf (fst' (Fr Dp)) ≤ 440) (hb3 : (fst' (Fr Dp)).length ≤ 140) (hnf : 16385 ≤ nf) (hd : 20 ≤ d) (hd' : 20 ≤ d') : StR nf d M (rpT (sI M 102 0 (nI (n + 1))) (fph (Fr Dp) + (fst' (Fr Dp)).length) (M.1 117 (20 * Dp + s)) (M.1 118 (20 * Dp + s)) (M.1 119 (20 * Dp + s)) (M.1 120 (20 * Dp + s))) ∧ StC nf d' T (stW (sI T 105 0 (nI (m + 1))) (fbs (Fr Dp) + 80 + wsl Sf (fst' (Fr Dp))) (fun i => T.1 99 ((fbs (Fr Dp) + slV Sf (fS (Fr Dp)) u) + i)) 1) := by
  obtain ⟨w1, w2, w3, w4, w5, w6, w7, w8, w9⟩ := h.rw (n := n) (m := m)
  obtain ⟨b1, b2, b3, b4, b5⟩ := h.bd
  have hc6 : cn Sf ≤ 6000 := by have := cx.2.1; omega
  have sl := slV_le (Sf := Sf) (S := fS (Fr Dp)) u
  have u20 := hva.2.2.2.2
  have s20 := hva.2.2.1
  obtain ⟨g1, g2, g3, g4⟩ := h.2.2.1.bd Dp (Nat.le_refl _)
  refine ⟨StR.of (a := 5) (b := nI s) (cc := cc) (ee := ee) (r1 := 0) (l1 := 0) (by rw [w4, hn]) hn2 (by rw [w1]; exact rowR) (by decide) ?_, StC.of (op := 3) (x := nI (slV Sf (fS (Fr Dp)) u)) (y := 1) (r1 := 0) (l1 := 0) (by rw [w5, hm]) (by rw [w3]; exact h51) h6 hm2 (by rw [w2]; exact rowC) (by decide) ?_⟩
  · rw [x_r5 (e := Dp) (s := s) (h := (fph (Fr Dp) + (fst' (Fr Dp)).length)) (by rw [tp_102 (by omega)]; exact w6) (by omega) (by rw [tp_102 (by omega)]; exact w8) b5 (by omega) (by omega), tp_102 (by omega), tp_102 (by omega), tp_102 (by omega), tp_102 (by omega)]
  · rw [dC_203 (by decide), show (1 : Int32) = nI 1 from rfl, c_load (t := (fbs (Fr Dp) + 80 + wsl Sf (fst' (Fr Dp)))) (b := fbs (Fr Dp)) (c := Dp + 1) (n := 1) (by rw [tp_105 (by omega)]; exact w7) (by rw [tp_105 (by omega)]; exact w9) (by omega) (by rw [tp_105 (by omega)]; exact h.fr.1.2.2.2.2.2.1) (by omega) (by omega) (by omega) (by omega) (by omega), sI_ne (g' := 99) (by omega)]
/-- LOAD IF: behind it a VAR is known not to be null */
-/
theorem st_lif (cx : CxP M0 T0 Sf) (h : Sim M0 T0 Sf G D nb mk rg na ng P W Fr Dp M T) (rn : RnO M T) (hn : fn (Fr Dp) = n) (hm : fm (Fr Dp) = m) (hn2 : n < 12000) (h51 : T0.1 51 0 = nI n1) (hm2 : m < n1) (h6 : n1 ≤ 6032) (hva : vaP (fS (Fr Dp)) u s) (hp : rowP Sf ((fS (Fr Dp)).1 80 u) p) (hk : Sf.1 66 p = 1 ∨ Sf.1 66 p = 2) (rowR : rwC4 M0 n = (5, nI s, cc, ee)) (rowC : cw3 T0 m = (3, nI (slV Sf (fS (Fr Dp)) u), 1)) (hn3 : n + 1 < 12000) (hm3 : m + 1 < n1) (rowR2 : rwC4 M0 (n + 1) = (26, nI nx, 1, z)) (rowC2 : cw3 T0 (m + 1) = (51, nI mx, y)) (hb2 : wsl Sf (fst' (Fr Dp)) ≤ 440) (hb3 : (fst' (Fr Dp)).length ≤ 140) (hnf : 16385 ≤ nf) (hd : 20 ≤ d) (hd' : 20 ≤ d') : ∃ M' T' ov' n' m', ((n' = n + 2 ∧ m' = m + 2 ∧ 1 ≤ (fva (Fr Dp) s).2.1) ∨ (n' = nx ∧ m' = mx)) ∧ MvR nf d 2 M M' ∧ MvC nf d' 2 T T' ∧ RnO M' T' ∧ M'.1 104 = M.1 104 ∧ Sim M0 T0 Sf G D nb mk rg na ng P W (updF Fr Dp (mkF (fS (Fr Dp)) (fρ (Fr Dp)) (fva (Fr Dp)) (fst' (Fr Dp)) ov' (fhs (Fr Dp)) (fit (Fr Dp)) n' m' (fbs (Fr Dp)) (fph (Fr Dp)) (frb (Fr Dp)) (ftb (Fr Dp)) (fie (Fr Dp)))) Dp M' T' := by
  obtain ⟨sr, sc⟩ := ld_raw (nf := nf) (d := d) (d' := d') cx h rn hn hm hn2 h51 hm2 h6 hva rowR rowC hb2 hb3 hnf hd hd'
  obtain ⟨w1, w2, w3, w4, w5, w6, w7, w8, w9⟩ := h.rw (n := n) (m := m)
  obtain ⟨b1, b2, b3, b4, b5⟩ := h.bd
  have hc6 : cn Sf ≤ 6000 := by have := cx.2.1; omega
  obtain ⟨w1', w2', _⟩ := h.rw (n := n + 1) (m := m + 1)
  have nul := va_nul cx h hva hp hk
  obtain ⟨g1, g2, g3, g4⟩ := h.2.2.1.bd Dp (Nat.le_refl _)
  have oM : ∀ k, ¬ (k = 102 ∨ (109 ≤ k ∧ k ≤ 113)) → (rpT (sI M 102 0 (nI (n + 1))) (fph (Fr Dp) + (fst' (Fr Dp)).length) (M.1 117 (20 * Dp + s)) (M.1 118 (20 * Dp + s)) (M.1 119 (20 * Dp + s)) (M.1 120 (20 * Dp + s))).1 k = M.1 k := fun k hk => by rw [rp_o (by omega) (by omega) (by omega) (by omega) (by omega), sI_ne (by omega)]
  have oT : ∀ k, ¬ (k = 99 ∨ k = 100 ∨ k = 105) → (stW (sI T 105 0 (nI (m + 1))) (fbs (Fr Dp) + 80 + wsl Sf (fst' (Fr Dp))) (fun i => T.1 99 ((fbs (Fr Dp) + slV Sf (fS (Fr Dp)) u) + i)) 1).1 k = T.1 k := fun k hk => by rw [stW_o (by omega) (by omega), sI_ne (by omega)]
  have lM : ∀ k q, 110 ≤ k → k ≤ 113 → q < (fph (Fr Dp) + (fst' (Fr Dp)).length) → (rpT (sI M 102 0 (nI (n + 1))) (fph (Fr Dp) + (fst' (Fr Dp)).length) (M.1 117 (20 * Dp + s)) (M.1 118 (20 * Dp + s)) (M.1 119 (20 * Dp + s)) (M.1 120 (20 * Dp + s))).1 k q = M.1 k q := fun k q k1 k2 hq => by rw [rp_lo k1 hq, sI_ne (by omega)]
  have lT : ∀ q, q < (fbs (Fr Dp) + 80 + wsl Sf (fst' (Fr Dp))) → (stW (sI T 105 0 (nI (m + 1))) (fbs (Fr Dp) + 80 + wsl Sf (fst' (Fr Dp))) (fun i => T.1 99 ((fbs (Fr Dp) + slV Sf (fS (Fr Dp)) u) + i)) 1).1 99 q = T.1 99 q := fun q hq => by rw [stW_w, if_neg (by omega), sI_ne (by omega)]
  have v111 : (rpT (sI M 102 0 (nI (n + 1))) (fph (Fr Dp) + (fst' (Fr Dp)).length) (M.1 117 (20 * Dp + s)) (M.1 118 (20 * Dp + s)) (M.1 119 (20 * Dp + s)) (M.1 120 (20 * Dp + s))).1 111 (fph (Fr Dp) + (fst' (Fr Dp)).length) = M.1 118 (20 * Dp + s) := rp_v.2.1
  have v99 : (stW (sI T 105 0 (nI (m + 1))) (fbs (Fr Dp) + 80 + wsl Sf (fst' (Fr Dp))) (fun i => T.1 99 ((fbs (Fr Dp) + slV Sf (fS (Fr Dp)) u) + i)) 1).1 99 (fbs (Fr Dp) + 80 + wsl Sf (fst' (Fr Dp))) = T.1 99 (fbs (Fr Dp) + slV Sf (fS (Fr Dp)) u) := by rw [stW_w, if_pos (by omega), Nat.sub_self, Nat.add_zero]
  have h1M : (rpT (sI M 102 0 (nI (n + 1))) (fph (Fr Dp) + (fst' (Fr Dp)).length) (M.1 117 (20 * Dp + s)) (M.1 118 (20 * Dp + s)) (M.1 119 (20 * Dp + s)) (M.1 120 (20 * Dp + s))).1 102 0 = nI (n + 1) := by rw [rp_o (by omega) (by omega) (by omega) (by omega) (by omega), sI_v]
  have h1T : (stW (sI T 105 0 (nI (m + 1))) (fbs (Fr Dp) + 80 + wsl Sf (fst' (Fr Dp))) (fun i => T.1 99 ((fbs (Fr Dp) + slV Sf (fS (Fr Dp)) u) + i)) 1).1 105 0 = nI (m + 1) := by rw [stW_o (by omega) (by omega), sI_v]
  have xr := x_r26b (M := sI (rpT (sI M 102 0 (nI (n + 1))) (fph (Fr Dp) + (fst' (Fr Dp)).length) (M.1 117 (20 * Dp + s)) (M.1 118 (20 * Dp + s)) (M.1 119 (20 * Dp + s)) (M.1 120 (20 * Dp + s))) 102 0 (nI (n + 1 + 1))) (nf := nf) (d := d) (x := nI nx) (z := z) (h := (fph (Fr Dp) + (fst' (Fr Dp)).length)) (by rw [tp_102 (by omega), rp_h]) (by omega) (by omega)
  have xc := c_jz (T := sI (stW (sI T 105 0 (nI (m + 1))) (fbs (Fr Dp) + 80 + wsl Sf (fst' (Fr Dp))) (fun i => T.1 99 ((fbs (Fr Dp) + slV Sf (fS (Fr Dp)) u) + i)) 1) 105 0 (nI (m + 1 + 1))) (nf := nf) (d := d') (x := nI mx) (y := y) (t := (fbs (Fr Dp) + 80 + wsl Sf (fst' (Fr Dp)))) (by rw [tp_105 (by omega), stW_t]) (by omega) (by omega)
  rw [tp_102 (by omega), v111] at xr
  rw [tp_105 (by omega), v99] at xc
  have run1 : (rpT (sI M 102 0 (nI (n + 1))) (fph (Fr Dp) + (fst' (Fr Dp)).length) (M.1 117 (20 * Dp + s)) (M.1 118 (20 * Dp + s)) (M.1 119 (20 * Dp + s)) (M.1 120 (20 * Dp + s))).1 100 0 = 1 := by rw [oM 100 (by omega)]; exact rn.1
  have run2 : (stW (sI T 105 0 (nI (m + 1))) (fbs (Fr Dp) + 80 + wsl Sf (fst' (Fr Dp))) (fun i => T.1 99 ((fbs (Fr Dp) + slV Sf (fS (Fr Dp)) u) + i)) 1).1 106 0 = 1 := by rw [oT 106 (by omega)]; exact rn.2
  have fin : ∀ n' m' (M2 T2 : gSt), ((n' = n + 2 ∧ m' = m + 2 ∧ 1 ≤ (fva (Fr Dp) s).2.1) ∨ (n' = nx ∧ m' = mx)) → StR nf d (rpT (sI M 102 0 (nI (n + 1))) (fph (Fr Dp) + (fst' (Fr Dp)).length) (M.1 117 (20 * Dp + s)) (M.1 118 (20 * Dp + s)) (M.1 119 (20 * Dp + s)) (M.1 120 (20 * Dp + s))) M2 → StC nf d' (stW (sI T 105 0 (nI (m + 1))) (fbs (Fr Dp) + 80 + wsl Sf (fst' (Fr Dp))) (fun i => T.1 99 ((fbs (Fr Dp) + slV Sf (fS (Fr Dp)) u) + i)) 1) T2 → (∀ k, k ≠ 102 → k ≠ 109 → M2.1 k = (rpT (sI M 102 0 (nI (n + 1))) (fph (Fr Dp) + (fst' (Fr Dp)).length) (M.1 117 (20 * Dp + s)) (M.1 118 (20 * Dp + s)) (M.1 119 (20 * Dp + s)) (M.1 120 (20 * Dp + s))).1 k) → M2.2 = M.2 → M2.1 109 0 = nI (fph (Fr Dp) + (fst' (Fr Dp)).length) → M2.1 102 0 = nI n' → (∀ k, k ≠ 100 → k ≠ 105 → T2.1 k = (stW (sI T 105 0 (nI (m + 1))) (fbs (Fr Dp) + 80 + wsl Sf (fst' (Fr Dp))) (fun i => T.1 99 ((fbs (Fr Dp) + slV Sf (fS (Fr Dp)) u) + i)) 1).1 k) → T2.2 = T.2 → T2.1 100 0 = nI (fbs (Fr Dp) + 80 + wsl Sf (fst' (Fr Dp))) → T2.1 105 0 = nI m' → ∃ M' T' ov' n' m', ((n' = n + 2 ∧ m' = m + 2 ∧ 1 ≤ (fva (Fr Dp) s).2.1) ∨ (n' = nx ∧ m' = mx)) ∧ MvR nf d 2 M M' ∧ MvC nf d' 2 T T' ∧ RnO M' T' ∧ M'.1 104 = M.1 104 ∧ Sim M0 T0 Sf G D nb mk rg na ng P W (updF Fr Dp (mkF (fS (Fr Dp)) (fρ (Fr Dp)) (fva (Fr Dp)) (fst' (Fr Dp)) ov' (fhs (Fr Dp)) (fit (Fr Dp)) n' m' (fbs (Fr Dp)) (fph (Fr Dp)) (frb (Fr Dp)) (ftb (Fr Dp)) (fie (Fr Dp)))) Dp M' T' := fun n' m' M2 T2 hc s1 s2 p1 p2 p3 p4 q1 q2 q3 q4 => by
    obtain ⟨ov', hs⟩ := ex_tmp (M' := M2) (T' := T2) (n' := n') (m' := m') cx.1 hc6 h (fun k hk => by rw [p1 k (by omega) (by omega), oM k (by omega)]) p2 (fun k q k1 k2 hq => by rw [p1 k (by omega) (by omega)]; exact lM k q k1 k2 hq) (fun k hk => by rw [q1 k (by omega) (by omega), oT k (by omega)]) q2 (fun q hq => by rw [q1 99 (by omega) (by omega)]; exact lT q hq) p3 q3 p4 q4
    exact ⟨M2, T2, ov', n', m', hc, ⟨_, rn.1, sr, MvR.one run1 s1⟩, ⟨_, rn.2, sc, MvC.one run2 s2⟩, ⟨by rw [p1 100 (by omega) (by omega)]; exact run1, by rw [q1 106 (by omega) (by omega)]; exact run2⟩, by rw [p1 104 (by omega) (by omega)]; exact oM 104 (by omega), hs⟩
  have stR : ∀ M2, RR nf d 118 (sI (rpT (sI M 102 0 (nI (n + 1))) (fph (Fr Dp) + (fst' (Fr Dp)).length) (M.1 117 (20 * Dp + s)) (M.1 118 (20 * Dp + s)) (M.1 119 (20 * Dp + s)) (M.1 120 (20 * Dp + s))) 102 0 (nI (n + 1 + 1))) [26, nI nx, 1, z] [] = some (0, 0, M2) → StR nf d (rpT (sI M 102 0 (nI (n + 1))) (fph (Fr Dp) + (fst' (Fr Dp)).length) (M.1 117 (20 * Dp + s)) (M.1 118 (20 * Dp + s)) (M.1 119 (20 * Dp + s)) (M.1 120 (20 * Dp + s))) M2 := fun M2 e => StR.of h1M hn3 (by rw [rw_eq (fun k k1 k2 => oM k (by omega)), w1']; exact rowR2) (by decide) e
  have stC : ∀ T2, PP nf d' 214 (sI (stW (sI T 105 0 (nI (m + 1))) (fbs (Fr Dp) + 80 + wsl Sf (fst' (Fr Dp))) (fun i => T.1 99 ((fbs (Fr Dp) + slV Sf (fS (Fr Dp)) u) + i)) 1) 105 0 (nI (m + 1 + 1))) [51, nI mx, y] [] = some (0, 0, T2) → StC nf d' (stW (sI T 105 0 (nI (m + 1))) (fbs (Fr Dp) + 80 + wsl Sf (fst' (Fr Dp))) (fun i => T.1 99 ((fbs (Fr Dp) + slV Sf (fS (Fr Dp)) u) + i)) 1) T2 := fun T2 e => StC.of (op := 51) (x := nI mx) (y := y) h1T (by rw [oT 51 (by omega), w3]; exact h51) h6 hm3 (by rw [cw_eq (fun k k1 k2 => oT k (by omega)), w2']; exact rowC2) (by decide) (by rw [dC_214 (by decide) (by decide) (by decide) (by decide) (by decide)]; exact e)
  rcases nul with ⟨z1, z2⟩ | ⟨z0, z1, z2⟩
  · rw [if_pos z1] at xr
    rw [if_pos z2] at xc
    refine fin nx mx _ _ (Or.inr ⟨rfl, rfl⟩) (stR _ xr) (stC _ xc) (fun k k1 k2 => by rw [sI_ne k1, sI_ne k2, sI_ne k1]) rfl (by rw [sI_ne (by omega), sI_v]) (by rw [sI_v]) (fun k k1 k2 => by rw [sI_ne k2, sI_ne k1, sI_ne k2]) rfl (by rw [sI_ne (by omega), sI_v]) (by rw [sI_v])
  · rw [if_neg z1] at xr
    rw [if_neg z2] at xc
    refine fin (n + 2) (m + 2) _ _ (Or.inl ⟨rfl, rfl, z0⟩) (stR _ xr) (stC _ xc) (fun k k1 k2 => by rw [sI_ne k2, sI_ne k1]) rfl (by rw [sI_v]) (by rw [sI_ne (by omega), sI_v]) (fun k k1 k2 => by rw [sI_ne k1, sI_ne k2]) rfl (by rw [sI_v]) (by rw [sI_ne (by omega), sI_v])
/-- LOAD NULL SAME IF */
-/
theorem st_lns (cx : CxP M0 T0 Sf) (h : Sim M0 T0 Sf G D nb mk rg na ng P W Fr Dp M T) (rn : RnO M T) (hn : fn (Fr Dp) = n) (hm : fm (Fr Dp) = m) (hn2 : n < 12000) (h51 : T0.1 51 0 = nI n1) (hm2 : m < n1) (h6 : n1 ≤ 6032) (hva : vaP (fS (Fr Dp)) u s) (hp : rowP Sf ((fS (Fr Dp)).1 80 u) p) (hk : Sf.1 66 p = 1 ∨ Sf.1 66 p = 2) (rowR : rwC4 M0 n = (5, nI s, cc, ee)) (rowC : cw3 T0 m = (3, nI (slV Sf (fS (Fr Dp)) u), 1)) (hn3 : n + 3 < 12000) (hm3 : m + 3 < n1) {z1 z2 z3 z4 z5 z6 z7 z8 z9 : Int32} (rowR1 : rwC4 M0 (n + 1) = (2, z1, z2, z3)) (rowC1 : cw3 T0 (m + 1) = (2, 0, z4)) (rowR2 : rwC4 M0 (n + 2) = (21, z5, z6, z7)) (rowC2 : cw3 T0 (m + 2) = (15, z8, z9)) (rowR3 : rwC4 M0 (n + 3) = (26, nI nx, 0, z)) (rowC3 : cw3 T0 (m + 3) = (51, nI mx, y)) (hb2 : wsl Sf (fst' (Fr Dp)) ≤ 440) (hb3 : (fst' (Fr Dp)).length ≤ 140) (hnf : 16385 ≤ nf) (hd : 20 ≤ d) (hd' : 20 ≤ d') : ∃ M' T' ov' n' m', ((n' = n + 4 ∧ m' = m + 4) ∨ (n' = nx ∧ m' = mx ∧ 1 ≤ (fva (Fr Dp) s).2.1)) ∧ MvR nf d 4 M M' ∧ MvC nf d' 4 T T' ∧ RnO M' T' ∧ M'.1 104 = M.1 104 ∧ Sim M0 T0 Sf G D nb mk rg na ng P W (updF Fr Dp (mkF (fS (Fr Dp)) (fρ (Fr Dp)) (fva (Fr Dp)) (fst' (Fr Dp)) ov' (fhs (Fr Dp)) (fit (Fr Dp)) n' m' (fbs (Fr Dp)) (fph (Fr Dp)) (frb (Fr Dp)) (ftb (Fr Dp)) (fie (Fr Dp)))) Dp M' T' := by
  obtain ⟨sr, sc⟩ := ld_raw (nf := nf) (d := d) (d' := d') cx h rn hn hm hn2 h51 hm2 h6 hva rowR rowC hb2 hb3 hnf hd hd'
  obtain ⟨w1, w2, w3, w4, w5, w6, w7, w8, w9⟩ := h.rw (n := n) (m := m)
  obtain ⟨b1, b2, b3, b4, b5⟩ := h.bd
  have hc6 : cn Sf ≤ 6000 := by have := cx.2.1; omega
  obtain ⟨wa1, wa2, _⟩ := h.rw (n := n + 1) (m := m + 1)
  obtain ⟨wb1, wb2, _⟩ := h.rw (n := n + 2) (m := m + 2)
  obtain ⟨wc1, wc2, _⟩ := h.rw (n := n + 3) (m := m + 3)
  have nul := va_nul cx h hva hp hk
  obtain ⟨g1, g2, g3, g4⟩ := h.2.2.1.bd Dp (Nat.le_refl _)
  generalize eA : (rpT (sI M 102 0 (nI (n + 1))) (fph (Fr Dp) + (fst' (Fr Dp)).length) (M.1 117 (20 * Dp + s)) (M.1 118 (20 * Dp + s)) (M.1 119 (20 * Dp + s)) (M.1 120 (20 * Dp + s))) = A at sr
  generalize eB : (stW (sI T 105 0 (nI (m + 1))) (fbs (Fr Dp) + 80 + wsl Sf (fst' (Fr Dp))) (fun i => T.1 99 ((fbs (Fr Dp) + slV Sf (fS (Fr Dp)) u) + i)) 1) = B at sc
  have oM : ∀ k, ¬ (k = 102 ∨ (109 ≤ k ∧ k ≤ 113)) → A.1 k = M.1 k := fun k hk => by rw [← eA, rp_o (by omega) (by omega) (by omega) (by omega) (by omega), sI_ne (by omega)]
  have oT : ∀ k, ¬ (k = 99 ∨ k = 100 ∨ k = 105) → B.1 k = T.1 k := fun k hk => by rw [← eB, stW_o (by omega) (by omega), sI_ne (by omega)]
  have lM : ∀ k q, 110 ≤ k → k ≤ 113 → q < (fph (Fr Dp) + (fst' (Fr Dp)).length) → A.1 k q = M.1 k q := fun k q k1 k2 hq => by rw [← eA, rp_lo k1 hq, sI_ne (by omega)]
  have lT : ∀ q, q < (fbs (Fr Dp) + 80 + wsl Sf (fst' (Fr Dp))) → B.1 99 q = T.1 99 q := fun q hq => by rw [← eB, stW_w, if_neg (by omega), sI_ne (by omega)]
  have v111 : A.1 111 (fph (Fr Dp) + (fst' (Fr Dp)).length) = M.1 118 (20 * Dp + s) := by rw [← eA]; exact rp_v.2.1
  have v99 : B.1 99 (fbs (Fr Dp) + 80 + wsl Sf (fst' (Fr Dp))) = T.1 99 (fbs (Fr Dp) + slV Sf (fS (Fr Dp)) u) := by rw [← eB, stW_w, if_pos (by omega), Nat.sub_self, Nat.add_zero]
  have h1M : A.1 102 0 = nI (n + 1) := by rw [← eA, rp_o (by omega) (by omega) (by omega) (by omega) (by omega), sI_v]
  have h1T : B.1 105 0 = nI (m + 1) := by rw [← eB, stW_o (by omega) (by omega), sI_v]
  have h1H : A.1 109 0 = nI ((fph (Fr Dp) + (fst' (Fr Dp)).length) + 1) := by rw [← eA, rp_h]
  have h1P : B.1 100 0 = nI ((fbs (Fr Dp) + 80 + wsl Sf (fst' (Fr Dp))) + 1) := by rw [← eB, stW_t]
  have d1M : A.2 = M.2 := by rw [← eA]; rfl
  have d1T : B.2 = T.2 := by rw [← eB]; rfl
  clear eA eB
  have runA : A.1 100 0 = 1 := by rw [oM 100 (by omega)]; exact rn.1
  have runB : B.1 106 0 = 1 := by rw [oT 106 (by omega)]; exact rn.2
  -- NULL
  have sr1 : StR nf d A (rpT (sI A 102 0 (nI (n + 1 + 1))) ((fph (Fr Dp) + (fst' (Fr Dp)).length) + 1) 0 (-1) 0 0) := StR.of h1M (by omega) (by rw [rw_eq (fun k k1 k2 => oM k (by omega)), wa1]; exact rowR1) (by decide) (x_r2 (by rw [tp_102 (by omega)]; exact h1H) (by omega) (by omega))
  have sc1 : StC nf d' B (psT (sI B 105 0 (nI (m + 1 + 1))) ((fbs (Fr Dp) + 80 + wsl Sf (fst' (Fr Dp))) + 1) 0) := StC.of (op := 2) (x := 0) (y := z4) h1T (by rw [oT 51 (by omega), w3]; exact h51) h6 (by omega) (by rw [cw_eq (fun k k1 k2 => oT k (by omega)), wa2]; exact rowC1) (by decide) ((dC_203 (by decide)).trans (c_pushI (by rw [tp_105 (by omega)]; exact h1P) (by omega) (by omega)))
  generalize eA : rpT (sI A 102 0 (nI (n + 1 + 1))) ((fph (Fr Dp) + (fst' (Fr Dp)).length) + 1) 0 (-1) 0 0 = A2 at sr1
  generalize eB : psT (sI B 105 0 (nI (m + 1 + 1))) ((fbs (Fr Dp) + 80 + wsl Sf (fst' (Fr Dp))) + 1) 0 = B2 at sc1
  have oM2 : ∀ k, ¬ (k = 102 ∨ (109 ≤ k ∧ k ≤ 113)) → A2.1 k = M.1 k := fun k hk => by rw [← eA, rp_o (by omega) (by omega) (by omega) (by omega) (by omega), sI_ne (by omega), oM k hk]
  have oT2 : ∀ k, ¬ (k = 99 ∨ k = 100 ∨ k = 105) → B2.1 k = T.1 k := fun k hk => by
    rw [← eB]
    unfold psT
    rw [sI_ne (by omega), sI_ne (by omega), sI_ne (by omega), oT k hk]
  have lM2 : ∀ k q, 110 ≤ k → k ≤ 113 → q < (fph (Fr Dp) + (fst' (Fr Dp)).length) + 1 → A2.1 k q = A.1 k q := fun k q k1 k2 hq => by rw [← eA, rp_lo k1 hq, sI_ne (by omega)]
  have lT2 : ∀ q, q < (fbs (Fr Dp) + 80 + wsl Sf (fst' (Fr Dp))) + 1 → B2.1 99 q = B.1 99 q := fun q hq => by
    rw [← eB]
    unfold psT
    rw [sI_ne (by omega), rdI, if_neg (by omega), sI_ne (by omega)]
  have u111 : A2.1 111 ((fph (Fr Dp) + (fst' (Fr Dp)).length) + 1) = -1 := by rw [← eA]; exact rp_v.2.1
  have u99 : B2.1 99 ((fbs (Fr Dp) + 80 + wsl Sf (fst' (Fr Dp))) + 1) = 0 := by
    rw [← eB]
    unfold psT
    rw [sI_ne (by omega), sI_v]
  have h2M : A2.1 102 0 = nI (n + 2) := by rw [← eA, rp_o (by omega) (by omega) (by omega) (by omega) (by omega), sI_v]
  have h2T : B2.1 105 0 = nI (m + 2) := by
    rw [← eB]
    unfold psT
    rw [sI_ne (by omega), sI_ne (by omega), sI_v]
  have h2H : A2.1 109 0 = nI ((fph (Fr Dp) + (fst' (Fr Dp)).length) + 2) := by rw [← eA, rp_h]
  have h2P : B2.1 100 0 = nI ((fbs (Fr Dp) + 80 + wsl Sf (fst' (Fr Dp))) + 2) := by
    rw [← eB]
    unfold psT
    rw [sI_v]
  have d2M : A2.2 = M.2 := by rw [← eA]; exact d1M
  have d2T : B2.2 = T.2 := by rw [← eB]; exact d1T
  clear eA eB
  have runA2 : A2.1 100 0 = 1 := by rw [oM2 100 (by omega)]; exact rn.1
  have runB2 : B2.1 106 0 = 1 := by rw [oT2 106 (by omega)]; exact rn.2
  -- SAME
  have sm : smV (sI A2 102 0 (nI (n + 2 + 1))) (fph (Fr Dp) + (fst' (Fr Dp)).length) = if M.1 118 (20 * Dp + s) = -1 then 1 else 0 := by
    unfold smV
    rw [tp_102 (by omega), tp_102 (by omega), u111, lM2 111 _ (by omega) (by omega) (by omega), v111]
    by_cases z0 : M.1 118 (20 * Dp + s) = -1
    · rw [if_pos z0, if_pos ⟨z0, Or.inl z0⟩]
    · rw [if_neg z0, if_neg (fun w => z0 w.1)]
  have sr2 : StR nf d A2 (sI (sI (sI (sI A2 102 0 (nI (n + 2 + 1))) 109 0 (nI ((fph (Fr Dp) + (fst' (Fr Dp)).length) + 1))) 110 (fph (Fr Dp) + (fst' (Fr Dp)).length) (if M.1 118 (20 * Dp + s) = -1 then 1 else 0)) 111 (fph (Fr Dp) + (fst' (Fr Dp)).length) (-1)) := by
    rw [← sm]
    exact StR.of h2M (by omega) (by rw [rw_eq (fun k k1 k2 => oM2 k (by omega)), wb1]; exact rowR2) (by decide) (x_r21 (by rw [tp_102 (by omega)]; exact h2H) (by omega) (by omega))
  have sc2 : StC nf d' B2 (psT (sI B2 105 0 (nI (m + 2 + 1))) (fbs (Fr Dp) + 80 + wsl Sf (fst' (Fr Dp))) (if T.1 99 (fbs (Fr Dp) + slV Sf (fS (Fr Dp)) u) = 0 then 1 else 0)) := by
    refine StC.of (op := 15) (x := z8) (y := z9) (r1 := 0) (l1 := 0) h2T (by rw [oT2 51 (by omega), w3]; exact h51) h6 (by omega) (by rw [cw_eq (fun k k1 k2 => oT2 k (by omega)), wb2]; exact rowC2) (by decide) ?_
    rw [dC_206 (by decide) (by decide), c_num (t := (fbs (Fr Dp) + 80 + wsl Sf (fst' (Fr Dp)))) (by rw [tp_105 (by omega)]; exact h2P) (by omega) (by omega) (Or.inr (Or.inr (Or.inr (Or.inl rfl)))), tp_105 (by omega), tp_105 (by omega), u99, lT2 _ (by omega), v99]
    rfl
  generalize eA : sI (sI (sI (sI A2 102 0 (nI (n + 2 + 1))) 109 0 (nI ((fph (Fr Dp) + (fst' (Fr Dp)).length) + 1))) 110 (fph (Fr Dp) + (fst' (Fr Dp)).length) (if M.1 118 (20 * Dp + s) = -1 then 1 else 0)) 111 (fph (Fr Dp) + (fst' (Fr Dp)).length) (-1) = A3 at sr2
  generalize eB : psT (sI B2 105 0 (nI (m + 2 + 1))) (fbs (Fr Dp) + 80 + wsl Sf (fst' (Fr Dp))) (if T.1 99 (fbs (Fr Dp) + slV Sf (fS (Fr Dp)) u) = 0 then 1 else 0) = B3 at sc2
  have oM3 : ∀ k, ¬ (k = 102 ∨ (109 ≤ k ∧ k ≤ 113)) → A3.1 k = M.1 k := fun k hk => by rw [← eA, sI_ne (by omega), sI_ne (by omega), sI_ne (by omega), sI_ne (by omega), oM2 k hk]
  have oT3 : ∀ k, ¬ (k = 99 ∨ k = 100 ∨ k = 105) → B3.1 k = T.1 k := fun k hk => by
    rw [← eB]
    unfold psT
    rw [sI_ne (by omega), sI_ne (by omega), sI_ne (by omega), oT2 k hk]
  have lM3 : ∀ k q, 110 ≤ k → k ≤ 113 → q < (fph (Fr Dp) + (fst' (Fr Dp)).length) → A3.1 k q = M.1 k q := fun k q k1 k2 hq => by
    rw [← eA, rdI, if_neg (by omega), rdI, if_neg (by omega), sI_ne (by omega), sI_ne (by omega), lM2 k q k1 k2 (by omega), lM k q k1 k2 hq]
  have lT3 : ∀ q, q < (fbs (Fr Dp) + 80 + wsl Sf (fst' (Fr Dp))) → B3.1 99 q = T.1 99 q := fun q hq => by
    rw [← eB]
    unfold psT
    rw [sI_ne (by omega), rdI, if_neg (by omega), sI_ne (by omega), lT2 q (by omega), lT q hq]
  have u110 : A3.1 110 (fph (Fr Dp) + (fst' (Fr Dp)).length) = (if M.1 118 (20 * Dp + s) = -1 then 1 else 0) := by rw [← eA, sI_ne (by omega), sI_v]
  have x99 : B3.1 99 (fbs (Fr Dp) + 80 + wsl Sf (fst' (Fr Dp))) = (if T.1 99 (fbs (Fr Dp) + slV Sf (fS (Fr Dp)) u) = 0 then 1 else 0) := by
    rw [← eB]
    unfold psT
    rw [sI_ne (by omega), sI_v]
  have h3M : A3.1 102 0 = nI (n + 3) := by rw [← eA, sI_ne (by omega), sI_ne (by omega), sI_ne (by omega), sI_v]
  have h3T : B3.1 105 0 = nI (m + 3) := by
    rw [← eB]
    unfold psT
    rw [sI_ne (by omega), sI_ne (by omega), sI_v]
  have h3H : A3.1 109 0 = nI ((fph (Fr Dp) + (fst' (Fr Dp)).length) + 1) := by rw [← eA, sI_ne (by omega), sI_ne (by omega), sI_v]
  have h3P : B3.1 100 0 = nI ((fbs (Fr Dp) + 80 + wsl Sf (fst' (Fr Dp))) + 1) := by
    rw [← eB]
    unfold psT
    rw [sI_v]
  have d3M : A3.2 = M.2 := by rw [← eA]; exact d2M
  have d3T : B3.2 = T.2 := by rw [← eB]; exact d2T
  clear eA eB
  have runA3 : A3.1 100 0 = 1 := by rw [oM3 100 (by omega)]; exact rn.1
  have runB3 : B3.1 106 0 = 1 := by rw [oT3 106 (by omega)]; exact rn.2
  -- IF
  have xr := x_r26a (M := sI A3 102 0 (nI (n + 3 + 1))) (nf := nf) (d := d) (x := nI nx) (z := z) (h := (fph (Fr Dp) + (fst' (Fr Dp)).length)) (by rw [tp_102 (by omega)]; exact h3H) (by omega) (by omega)
  have xc := c_jz (T := sI B3 105 0 (nI (m + 3 + 1))) (nf := nf) (d := d') (x := nI mx) (y := y) (t := (fbs (Fr Dp) + 80 + wsl Sf (fst' (Fr Dp)))) (by rw [tp_105 (by omega)]; exact h3P) (by omega) (by omega)
  rw [tp_102 (by omega), u110] at xr
  rw [tp_105 (by omega), x99] at xc
  have stR : ∀ M2, RR nf d 118 (sI A3 102 0 (nI (n + 3 + 1))) [26, nI nx, 0, z] [] = some (0, 0, M2) → StR nf d A3 M2 := fun M2 e => StR.of h3M hn3 (by rw [rw_eq (fun k k1 k2 => oM3 k (by omega)), wc1]; exact rowR3) (by decide) e
  have stC : ∀ T2, PP nf d' 214 (sI B3 105 0 (nI (m + 3 + 1))) [51, nI mx, y] [] = some (0, 0, T2) → StC nf d' B3 T2 := fun T2 e => StC.of (op := 51) (x := nI mx) (y := y) h3T (by rw [oT3 51 (by omega), w3]; exact h51) h6 hm3 (by rw [cw_eq (fun k k1 k2 => oT3 k (by omega)), wc2]; exact rowC3) (by decide) (by rw [dC_214 (by decide) (by decide) (by decide) (by decide) (by decide)]; exact e)
  have fin : ∀ n' m' (M2 T2 : gSt), ((n' = n + 4 ∧ m' = m + 4) ∨ (n' = nx ∧ m' = mx ∧ 1 ≤ (fva (Fr Dp) s).2.1)) → StR nf d A3 M2 → StC nf d' B3 T2 → (∀ k, k ≠ 102 → k ≠ 109 → M2.1 k = A3.1 k) → M2.2 = M.2 → M2.1 109 0 = nI (fph (Fr Dp) + (fst' (Fr Dp)).length) → M2.1 102 0 = nI n' → (∀ k, k ≠ 100 → k ≠ 105 → T2.1 k = B3.1 k) → T2.2 = T.2 → T2.1 100 0 = nI (fbs (Fr Dp) + 80 + wsl Sf (fst' (Fr Dp))) → T2.1 105 0 = nI m' → ∃ M' T' ov' n' m', ((n' = n + 4 ∧ m' = m + 4) ∨ (n' = nx ∧ m' = mx ∧ 1 ≤ (fva (Fr Dp) s).2.1)) ∧ MvR nf d 4 M M' ∧ MvC nf d' 4 T T' ∧ RnO M' T' ∧ M'.1 104 = M.1 104 ∧ Sim M0 T0 Sf G D nb mk rg na ng P W (updF Fr Dp (mkF (fS (Fr Dp)) (fρ (Fr Dp)) (fva (Fr Dp)) (fst' (Fr Dp)) ov' (fhs (Fr Dp)) (fit (Fr Dp)) n' m' (fbs (Fr Dp)) (fph (Fr Dp)) (frb (Fr Dp)) (ftb (Fr Dp)) (fie (Fr Dp)))) Dp M' T' := fun n' m' M2 T2 hc s1 s2 p1 p2 p3 p4 q1 q2 q3 q4 => by
    obtain ⟨ov', hs⟩ := ex_tmp (M' := M2) (T' := T2) (n' := n') (m' := m') cx.1 hc6 h (fun k hk => by rw [p1 k (by omega) (by omega), oM3 k (by omega)]) p2 (fun k q k1 k2 hq => by rw [p1 k (by omega) (by omega)]; exact lM3 k q k1 k2 hq) (fun k hk => by rw [q1 k (by omega) (by omega), oT3 k (by omega)]) q2 (fun q hq => by rw [q1 99 (by omega) (by omega)]; exact lT3 q hq) p3 q3 p4 q4
    exact ⟨M2, T2, ov', n', m', hc, ⟨_, rn.1, sr, _, runA, sr1, _, runA2, sr2, MvR.one runA3 s1⟩, ⟨_, rn.2, sc, _, runB, sc1, _, runB2, sc2, MvC.one runB3 s2⟩, ⟨by rw [p1 100 (by omega) (by omega)]; exact runA3, by rw [q1 106 (by omega) (by omega)]; exact runB3⟩, by rw [p1 104 (by omega) (by omega)]; exact oM3 104 (by omega), hs⟩
  rcases nul with ⟨y1, y2⟩ | ⟨y0, y1, y2⟩
  · rw [if_pos y1, if_neg (by decide)] at xr
    rw [if_pos y2, if_neg (by decide)] at xc
    exact fin (n + 4) (m + 4) _ _ (Or.inl ⟨rfl, rfl⟩) (stR _ xr) (stC _ xc) (fun k k1 k2 => by rw [sI_ne k2, sI_ne k1]) d3M (by rw [sI_v]) (by rw [sI_ne (by omega), sI_v]) (fun k k1 k2 => by rw [sI_ne k1, sI_ne k2]) d3T (by rw [sI_v]) (by rw [sI_ne (by omega), sI_v])
  · rw [if_neg y1, if_pos rfl] at xr
    rw [if_neg y2, if_pos rfl] at xc
    exact fin nx mx _ _ (Or.inr ⟨rfl, rfl, y0⟩) (stR _ xr) (stC _ xc) (fun k k1 k2 => by rw [sI_ne k1, sI_ne k2, sI_ne k1]) d3M (by rw [sI_ne (by omega), sI_v]) (by rw [sI_v]) (fun k k1 k2 => by rw [sI_ne k2, sI_ne k1, sI_ne k2]) d3T (by rw [sI_ne (by omega), sI_v]) (by rw [sI_v])
/-- DROP of nothing, both sides */
-/
theorem st_drop2 (cx : CxP M0 T0 Sf) (h : Sim M0 T0 Sf G D nb mk rg na ng P W Fr Dp M T) (rn : RnO M T) (hn : fn (Fr Dp) = n) (hm : fm (Fr Dp) = m) (hn2 : n < 12000) (h51 : T0.1 51 0 = nI n1) (hm2 : m < n1) (h6 : n1 ≤ 6032) (rowR : rwC4 M0 n = (36, 0, cc, ee)) (rowC : cw3 T0 m = (5, 0, y)) (hd : 20 ≤ d) (hd' : 20 ≤ d') : ∃ M' T' ov', StR nf d M M' ∧ StC nf d' T T' ∧ RnO M' T' ∧ Sim M0 T0 Sf G D nb mk rg na ng P W (updF Fr Dp (mkF (fS (Fr Dp)) (fρ (Fr Dp)) (fva (Fr Dp)) (fst' (Fr Dp)) ov' (fhs (Fr Dp)) (fit (Fr Dp)) (n + 1) (m + 1) (fbs (Fr Dp)) (fph (Fr Dp)) (frb (Fr Dp)) (ftb (Fr Dp)) (fie (Fr Dp)))) Dp M' T' := by
  obtain ⟨w1, w2, w3, w4, w5, w6, w7, w8, w9⟩ := h.rw (n := n) (m := m)
  obtain ⟨b1, b2, b3, b4, b5⟩ := h.bd
  have hc6 : cn Sf ≤ 6000 := by have := cx.2.1; omega
  have xr := x_r36a (M := sI M 102 0 (nI (n + 1))) (nf := nf) (d := d) (y := cc) (z := ee) (by omega)
  have xc := c_drop (T := sI T 105 0 (nI (m + 1))) (nf := nf) (d := d') (y := y) (n := 0) (t := fbs (Fr Dp) + 80 + wsl Sf (fst' (Fr Dp))) (by rw [tp_105 (by omega), w7]; rfl) (by omega) (by omega)
  obtain ⟨ov', hs⟩ := ex_tmp (M' := sI M 102 0 (nI (n + 1))) (T' := sI (sI T 105 0 (nI (m + 1))) 100 0 (nI (fbs (Fr Dp) + 80 + wsl Sf (fst' (Fr Dp))))) (n' := n + 1) (m' := m + 1) cx.1 hc6 h (fun k hk => sI_ne (by omega)) rfl (fun k q k1 k2 hq => by rw [sI_ne (by omega)]) (fun k hk => by rw [sI_ne (by omega), sI_ne (by omega)]) rfl (fun q hq => by rw [sI_ne (by omega), sI_ne (by omega)]) (by rw [sI_ne (by omega)]; exact w6) (by rw [sI_v]) (by rw [sI_v]) (by rw [sI_ne (by omega), sI_v])
  exact ⟨_, _, ov', StR.of (by rw [w4, hn]) hn2 (by rw [w1]; exact rowR) (by decide) xr, StC.of (op := 5) (x := 0) (y := y) (r1 := 0) (l1 := 0) (by rw [w5, hm]) (by rw [w3]; exact h51) h6 hm2 (by rw [w2]; exact rowC) (by decide) (by rw [dC_203 (by decide)]; exact xc), ⟨by rw [sI_ne (by omega)]; exact rn.1, by rw [sI_ne (by omega), sI_ne (by omega)]; exact rn.2⟩, hs⟩
end STD
