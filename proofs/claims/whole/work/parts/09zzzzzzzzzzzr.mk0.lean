/-! both machines: a place for a new object -/
/-- values of the stack at g 0, g 1, .. put to the cells of l -/
def ptsT (M : gSt) (l : List Nat) (g : Nat → Nat) : Nat → gSt
  | 0 => M
  | p + 1 => rcT (ptsT M l g p) (l.getD p 0) (g p)
/-- what makes a new object live -/
def MkC (G : GH) (D : Nat → (Nat → AV) × Nat) (nb mk : Nat) (rg : Nat → Nat) (na ng P W : Nat) (M T : gSt) (r k n o nx : Nat) (l : List Nat) : Prop := ∀ (M' T' : gSt) (O : GO) (vs : Nat → AV) (tg : Nat), O.1 = o → O.2.1 = nx → O.2.2.1 = rg r → O.2.2.2.1 = k → O.2.2.2.2.1 = n → shG O vs tg k n → (∀ p, p < k → VT G nb rg na ng (vs p) (O.2.2.2.2.2.2.2.2 (if O.2.2.2.2.2.1 = 0 then p else tg))) → (∀ q, (129 ≤ q ∧ q ≤ 141) ∨ q = 143 ∨ q = 149 ∨ q = 105 → M'.1 q = (tkT o l (mkB (mkU M r (nI n)) r o (nI k))).1 q) → (∀ q, q ≠ o → M'.1 142 q = M.1 142 q) → (¬ O.2.2.2.2.2.1 = 0 → M'.1 142 o = nI tg) → (∀ q c, 144 ≤ q → q ≤ 148 → c ∉ l → M'.1 q c = M.1 q c) → (∀ p, p < k → ¬ M'.1 148 (l.reverse.getD p 0) = 0 ∧ RV G (vs p) (M'.1 144 (l.reverse.getD p 0)) (M'.1 145 (l.reverse.getD p 0)) (M'.1 146 (l.reverse.getD p 0)) (M'.1 147 (l.reverse.getD p 0))) → (∀ q, 116 ≤ q → q ≤ 127 → T'.1 q = (mkT T r (nI n)).1 q) → (∀ q a, q = 114 ∨ q = 115 → ¬ (nx ≤ a ∧ a < nx + n) → T'.1 q a = T.1 q a) → (¬ O.2.2.2.2.2.1 = 0 → T'.1 114 nx = nI (tg + 1) ∧ ¬ T'.1 115 nx = 0) → (∀ p, p < k → ∀ w, w < wv (vs p) → T'.1 114 (nx + O.2.2.2.2.2.2.2.1 p + w) = CW G (vs p) w ∧ ¬ T'.1 115 (nx + O.2.2.2.2.2.2.2.1 p + w) = 0) → HpI (upG G (nb + 1) O) (adD D (nb + 1) vs tg) (nb + 1) (mk + 1) rg na ng P W M' T'
section MK0
variable {G G' : GH} {D D' : Nat → (Nat → AV) × Nat} {M M' T T' : gSt} {nf d d' nb mk na ng P W a b c i j p q r s t k n m o u nx : Nat} {rg : Nat → Nat} {x y z w : Int32} {l fr fr' : List Nat} {g : Nat → Nat} {p2 : Int64} {ch : Nat → List Nat}
theorem lg_W (hp2 : p2.toInt = (n : Int)) (hW : W < 2 ^ 31) : lg_cmp p2 ((nI W).toInt64) ≤ 0 ↔ n ≤ W := by
  rw [lg_cmp_le, Int64.le_iff_toInt_le, hp2, Int32.toInt_toInt64, nI_toInt hW]
  omega
theorem lg_32 (hp2 : p2.toInt = (n : Int)) (hn : n < 2 ^ 31) : p2.toInt32 = nI n := by
  apply Int32.toInt_inj.mp
  rw [Int64.toInt_toInt32, hp2, nI_toInt hn]
  exact Int.bmod_eq_of_le (by omega) (by omega)
theorem ptsT_o (hk : ¬ (144 ≤ k ∧ k ≤ 148)) : ∀ p, (ptsT M l g p).1 k = M.1 k := by
  intro p
  induction p with
  | zero => rfl
  | succ p ih =>
    rw [ptsT]
    unfold rcT
    rw [sI_ne (by omega), sI_ne (by omega), sI_ne (by omega), sI_ne (by omega), sI_ne (by omega), ih]
theorem ptsT_2 : ∀ p, (ptsT M l g p).2 = M.2 := by
  intro p
  induction p with
  | zero => rfl
  | succ p ih => exact ih
theorem rcT_ne (h : q ≠ c) : (rcT M c p).1 k q = if 144 ≤ k ∧ k ≤ 148 then M.1 k q else M.1 k q := by
  unfold rcT
  rw [rdI, if_neg (fun w => h w.2), rdI, if_neg (fun w => h w.2), rdI, if_neg (fun w => h w.2), rdI, if_neg (fun w => h w.2), rdI, if_neg (fun w => h w.2)]
  split <;> rfl
theorem ptsT_c : ∀ p, (∀ i, i < p → l.getD i 0 ≠ q) → (ptsT M l g p).1 k q = M.1 k q := by
  intro p
  induction p with
  | zero => intro _; rfl
  | succ p ih =>
    intro h
    rw [ptsT, rcT_ne (fun w => h p (by omega) w.symm)]
    split <;> exact ih (fun i hi => h i (by omega))
theorem ptsT_v (hl : l.Nodup) : ∀ p, p ≤ l.length → ∀ i, i < p → (ptsT M l g p).1 144 (l.getD i 0) = M.1 110 (g i) ∧ (ptsT M l g p).1 145 (l.getD i 0) = M.1 111 (g i) ∧ (ptsT M l g p).1 146 (l.getD i 0) = M.1 112 (g i) ∧ (ptsT M l g p).1 147 (l.getD i 0) = M.1 113 (g i) ∧ (ptsT M l g p).1 148 (l.getD i 0) = 1 := by
  intro p
  induction p with
  | zero => intro _ i hi; omega
  | succ p ih =>
    intro hp i hi
    by_cases e : i = p
    · subst e
      have o : ∀ k, ¬ (144 ≤ k ∧ k ≤ 148) → (ptsT M l g i).1 k = M.1 k := fun k hk => ptsT_o hk i
      rw [ptsT]
      unfold rcT
      rw [o 110 (by omega), o 111 (by omega), o 112 (by omega), o 113 (by omega)]
      refine ⟨?_, ?_, ?_, ?_, by rw [sI_v]⟩
      · rw [sI_ne (by omega), sI_ne (by omega), sI_ne (by omega), sI_ne (by omega), sI_v]
      · rw [sI_ne (by omega), sI_ne (by omega), sI_ne (by omega), sI_v]
      · rw [sI_ne (by omega), sI_ne (by omega), sI_v]
      · rw [sI_ne (by omega), sI_v]
    · have ne : l.getD i 0 ≠ l.getD p 0 := fun w => e (gd_inj hl (by omega) (by omega) w)
      obtain ⟨h1, h2, h3, h4, h5⟩ := ih (by omega) i (by omega)
      rw [ptsT, rcT_ne ne, rcT_ne ne, rcT_ne ne, rcT_ne ne, rcT_ne ne, if_pos (by omega), if_pos (by omega), if_pos (by omega), if_pos (by omega), if_pos (by omega)]
      exact ⟨h1, h2, h3, h4, h5⟩
/-- what the reference's slot o holds behind make -/
theorem mk_slot (hc : chn (M.1 149) (M.1 143 0) (l ++ fr')) (hn : (l ++ fr').Nodup) (h137 : M.1 137 0 = nI nb) : chn ((tkT o l (mkB M r o x)).1 149) ((tkT o l (mkB M r o x)).1 139 o) l.reverse ∧ (tkT o l (mkB M r o x)).1 138 o = nI (nb + 1) ∧ (tkT o l (mkB M r o x)).1 140 o = x := by
  have e : ∀ q, q = 149 ∨ q = 143 → (mkB M r o x).1 q = M.1 q := fun q hq => by
    unfold mkB
    rw [sI_ne (by omega), sI_ne (by omega), sI_ne (by omega), sI_ne (by omega), sI_ne (by omega), sI_ne (by omega)]
  have t := (tkT_c (o := o) l fr' [] (mkB M r o x) hn (fun a _ w => absurd w List.not_mem_nil) (fun a _ w => absurd w List.not_mem_nil) (by rw [e 149 (by omega), e 143 (by omega)]; exact hc) (by
    have : (mkB M r o x).1 139 o = -1 := by unfold mkB; rw [sI_v]
    rw [this]
    rfl)).2
  rw [List.append_nil] at t
  refine ⟨t, ?_, ?_⟩
  · rw [tkT_o (by omega) (by omega) (by omega) (by omega)]
    unfold mkB
    rw [sI_ne (by omega), sI_ne (by omega), sI_ne (by omega), sI_ne (by omega), sI_v, h137, nI_1]
  · rw [tkT_o (by omega) (by omega) (by omega) (by omega)]
    unfold mkB
    rw [sI_ne (by omega), sI_ne (by omega), sI_v]
/-- both make room for an object of k places, n words: or none is left -/
theorem mk_both (h : HpI G D nb mk rg na ng P W M T) (hr : r < na) (hk1 : 1 ≤ k) (hkn : k ≤ n) (hnW : n ≤ W) (hp2 : p2.toInt = (n : Int)) (hmk : mk + 1 < 2 ^ 31) (hnf : 16385 ≤ nf) (hd : 4 ≤ d) (hd' : 4 ≤ d') : (RR nf d 110 M [nI r, nI k] [p2] = some (-1, 0, sI M 100 0 4) ∧ PP nf d' 230 T [nI r, nI n] [] = some (-1, 0, T)) ∨ ∃ (o nx : Nat) (l fr' : List Nat) (Mp Tp : gSt), RR nf d 110 M [nI r, nI k] [p2] = some (nI o, 0, tkT o l (mkB (mkU Mp r (nI n)) r o (nI k))) ∧ PP nf d' 230 T [nI r, nI n] [] = some (nI nx, 0, mkT Tp r (nI n)) ∧ HpI G D nb mk rg na ng P W Mp Tp ∧ (∀ q, q ≠ 132 → q ≠ 133 → q ≠ 134 → Mp.1 q = M.1 q) ∧ Mp.2 = M.2 ∧ (∀ q, q ≠ 115 → q ≠ 116 → q ≠ 119 → q ≠ 123 → q ≠ 126 → q ≠ 127 → Tp.1 q = T.1 q) ∧ Tp.2 = T.2 ∧ (o < 4096 ∧ chn (Mp.1 149) (Mp.1 143 0) (l ++ fr') ∧ (l ++ fr').Nodup ∧ l.length = k) ∧ (nx + n ≤ P * W ∧ ∀ j, j < n → Tp.1 116 ((nx + j) / W) = nI r) ∧ MkC G D nb mk rg na ng P W Mp Tp r k n o nx l := by
  have h0 := h
  obtain ⟨⟨h1, h1b, h1c, h1d, h1e, h1f, h1g⟩, ⟨p1, p2', p3, p4, p5, p6⟩, ⟨h3, h3b, h3c, h3d, h3e, h3f⟩, ⟨ch, fr, h4, h5, h6⟩, h7, h8⟩ := h
  have hW64 := p3.2.2.2.2
  have hP := p3.2.1
  obtain ⟨pg, u, w, m, nx, r1, r2, r3, r4, r5, r6, r7, r8, r9, r10, r11, r12, r13, r14, r15⟩ := h5 r hr
  have pgl : pgN T P r ≤ P := by
    unfold pgN
    have := sm_le (f := fun q => if T.1 116 q = nI r then 1 else 0) (h := fun _ => 1) P (fun j _ => by split <;> omega)
    rw [sm_c] at this
    exact this
  have hle : lg_cmp p2 ((M.1 131 0).toInt64) ≤ 0 := by rw [p2', lg_W hp2 (by omega)]; exact hnW
  have h32 := lg_32 hp2 (by omega)
  have lf : ∃ v, T.1 127 r = nI v ∧ v ≤ 64 ∧ (1 ≤ pg → v = W - u) ∧ (pg = 0 → v = 0) := by
    by_cases c : pg = 0
    · rw [if_pos c] at r15
      exact ⟨0, r15.2.2, by omega, fun w => by omega, fun _ => rfl⟩
    · rw [if_neg c] at r15
      exact ⟨W - u, r15.2.1, by omega, fun _ => rfl, fun w => absurd w c⟩
  obtain ⟨v, v1, v2, v3, v4⟩ := lf
  by_cases fits : 1 ≤ pg ∧ u + n ≤ W
  · obtain ⟨o, nx', l, fr', ⟨a1, a2, a3, a4, a5, a6⟩, ⟨b1, b2, b3, b4⟩, ct⟩ := h0.mkO hr hk1 hkn r1 fits.1 (by omega) r3 fits.2 hmk
    right
    refine ⟨o, nx', l, fr', M, T, ?_, ?_, h0, fun _ _ _ _ => rfl, rfl, fun _ _ _ _ _ _ _ => rfl, rfl, ⟨a1, a4, a5, a6⟩, ⟨b3, b4⟩, ct⟩
    · have := x_make1 (nf := nf) (d := d) (fr' := fr') (by omega) hle h32 (by omega) (by omega) p2' hW64 r1 fits.1 (by omega) r3 fits.2 a1 a2 a3 a4 a5 (by omega) (by omega) (by omega) (by omega)
      rw [a6] at this
      exact this
    · rw [c_make1 (m := na) h1b (by omega) hr (by rw [v1]; exact (nI_leI (by omega) (by omega)).mpr (by have := v3 fits.1; omega)) (by omega), b1]
  · have nfit : pg = 0 ∨ W < u + n := by omega
    have nle : ¬ nI n ≤ T.1 127 r := by
      rw [v1]
      intro w
      have := (nI_leI (a := n) (b := v) (by omega) (by omega)).mp w
      rcases nfit with z | z
      · have := v4 z; omega
      · by_cases z2 : pg = 0
        · have := v4 z2; omega
        · have := v3 (by omega); omega
    by_cases full : pgU T P = P
    · left
      have own : ∀ q, q < P → ¬ T.1 116 q = -1 := fun q hq e => by
        have := sm_up (f := fun p => if T.1 116 p = -1 then 0 else 1) (g := fun p => if p = q then 0 else 1) (o := 0) (n := 0)
        have lt : pgU T P < P := by
          unfold pgU
          have s1 := sm_up (f := fun p => if T.1 116 p = -1 then 0 else 1) (g := fun p => if p = q then 1 else (if T.1 116 p = -1 then 0 else 1)) (o := q) (n := P) hq (fun p _ hp => by rw [if_neg hp])
          rw [if_pos rfl, if_pos e] at s1
          have s2 := sm_le (f := fun p => if p = q then 1 else (if T.1 116 p = -1 then 0 else 1)) (h := fun _ => 1) P (fun j _ => by split; omega; split <;> omega)
          rw [sm_c] at s2
          omega
        omega
      have e0 : M.1 132 0 = 0 := by rw [p5, full, Nat.sub_self]; rfl
      exact ⟨x_make3 (by omega) hle h32 (by omega) (by omega) p2' hW64 r1 (by omega) r3 (by omega) nfit e0 (by omega), c_make3 h1b (by omega) hr nle p3 own (by omega) (by omega)⟩
    · have lt : pgU T P < P := by
        have := pgU_le (T := T) (P := P)
        omega
      obtain ⟨p, pP, pf, pb⟩ := ex_1st (P := fun p => T.1 116 p = -1) P (Decidable.byContradiction fun no => by
        refine full ?_
        unfold pgU
        rw [sm_eq (g := fun _ => 1) P (fun q hq => if_neg (fun e => no ⟨q, hq, e⟩)), sm_c])
      have hp := h0.page hr pP pf
      have mp133 : (mkP M r).1 133 r = nI (pg + 1) := by
        unfold mkP
        rw [sI_ne (by omega), sI_v, r1, nI_1]
      have mp134 : (mkP M r).1 134 r = nI 0 := by
        unfold mkP
        rw [sI_v]
        rfl
      obtain ⟨o, nx', l, fr', ⟨a1, a2, a3, a4, a5, a6⟩, ⟨b1, b2, b3, b4⟩, ct⟩ := hp.mkO hr hk1 hkn mp133 (by omega) (by omega) mp134 (by omega) hmk
      have em : ∀ q, q ≠ 132 → q ≠ 133 → q ≠ 134 → (mkP M r).1 q = M.1 q := fun q => mkP_o
      have a4' := a4
      rw [em 138 (by omega) (by omega) (by omega)] at a2 a3
      rw [em 149 (by omega) (by omega) (by omega), em 143 (by omega) (by omega) (by omega)] at a4
      have tp126 : (tpT T r p W).1 126 r = nI (p * W) := by
        unfold tpT
        rw [fgV_o (by omega), sI_ne (by omega), sI_v]
      have pw : p * W + W ≤ P * W := by
        have : (p + 1) * W ≤ P * W := Nat.mul_le_mul_right _ (by omega)
        rw [Nat.add_mul] at this
        omega
      have p64 : P * W ≤ 64 * 64 := Nat.mul_le_mul hP hW64
      right
      have en : nx' = p * W := nI_inj (by omega) (by omega) (b1.symm.trans tp126)
      subst en
      refine ⟨o, p * W, l, fr', mkP M r, tpT T r p W, ?_, ?_, hp, em, rfl, fun q => tpT_o, rfl, ⟨a1, a4', a5, a6⟩, ⟨b3, b4⟩, ct⟩
      · have := x_make2 (nf := nf) (d := d) (e := P - pgU T P - 1) (fr' := fr') (by omega) hle h32 (by omega) (by omega) p2' hW64 r1 (by omega) r3 (by omega) nfit (by rw [p5]; congr 1; omega) (by omega) a1 a2 a3 a4 a5 (by omega) (by omega) (by omega) (by omega)
        rw [a6] at this
        exact this
      · exact c_make2 h1b (by omega) hr nle p3 pP pf pb (by omega) (by omega)
end MK0
