/-! both heaps: a page is taken; an object of no words -/
section GH5
variable {G G' : GH} {D D' : Nat → (Nat → AV) × Nat} {M M' T T' : gSt} {nf d nb nb' mk na na' ng ng' P W a b c i j p q r s t k n m tg : Nat} {rg rg' : Nat → Nat} {v : AV} {g : List Nat} {x y z w : Int32} {ch : Nat → List Nat} {fr : List Nat} {f h : Nat → Nat}
theorem mkP_o (h1 : k ≠ 132) (h2 : k ≠ 133) (h3 : k ≠ 134) : (mkP M r).1 k = M.1 k := by
  unfold mkP
  rw [sI_ne h3, sI_ne h2, sI_ne h1]
theorem tpT_o (h1 : k ≠ 115) (h2 : k ≠ 116) (h3 : k ≠ 119) (h4 : k ≠ 123) (h5 : k ≠ 126) (h6 : k ≠ 127) : (tpT T r p W).1 k = T.1 k := by
  unfold tpT
  rw [fgV_o h1, sI_ne h6, sI_ne h5, sI_ne h4, sI_ne h3, sI_ne h2]
theorem tpT_116 : (tpT T r p W).1 116 q = if q = p then nI r else T.1 116 q := by
  unfold tpT
  rw [fgV_o (by omega), sI_ne (by omega), sI_ne (by omega), sI_ne (by omega), sI_ne (by omega), rdI]
  by_cases c : q = p
  · rw [if_pos ⟨rfl, c⟩, if_pos c]
  · rw [if_neg (fun w => c w.2), if_neg c]
theorem tpT_115 : (tpT T r p W).1 115 q = if p * W ≤ q ∧ q < p * W + W then 0 else T.1 115 q := by
  unfold tpT
  rw [fgV_r, if_pos rfl, sI_ne (by omega), sI_ne (by omega), sI_ne (by omega), sI_ne (by omega), sI_ne (by omega)]
theorem pg_of (hW : 1 ≤ W) : (p * W ≤ q ∧ q < p * W + W) ↔ q / W = p := by
  constructor
  · intro ⟨h1, h2⟩
    apply Nat.le_antisymm
    · have : q / W < p + 1 := (Nat.div_lt_iff_lt_mul (by omega)).mpr (by rw [Nat.add_mul]; omega)
      omega
    · exact (Nat.le_div_iff_mul_le (by omega)).mpr h1
  · intro e
    have h1 := Nat.div_mul_le_self q W
    have h2 := Nat.lt_div_mul_add (a := q) (b := W) (by omega)
    rw [e] at h1 h2
    exact ⟨h1, by omega⟩
/-- a page for region r -/
theorem HpI.page (h : HpI G D nb mk rg na ng P W M T) (hr : r < na) (hp : p < P) (hf : T.1 116 p = -1) : HpI G D nb mk rg na ng P W (mkP M r) (tpT T r p W) := by
  obtain ⟨⟨h1, h1b, h1c, h1d, h1e, h1f, h1g⟩, ⟨p1, p2, p3, p4, p5, p6⟩, h3, ⟨ch, fr, h4, h5, h6⟩, h7, h8⟩ := h
  have hW := p3.2.2.2.1
  have pw : p * W + W ≤ P * W := by
    have : (p + 1) * W ≤ P * W := Nat.mul_le_mul_right _ (by omega)
    rw [Nat.add_mul] at this
    omega
  have p64 : P * W ≤ 64 * 64 := Nat.mul_le_mul p3.2.1 p3.2.2.2.2
  have en : ∀ j, j < na → pgN (tpT T r p W) P j = pgN T P j + (if j = r then 1 else 0) := fun j hj => by
    unfold pgN
    have u := sm_up (f := fun q => if (tpT T r p W).1 116 q = nI j then 1 else 0) (g := fun q => if T.1 116 q = nI j then 1 else 0) (o := p) (n := P) hp (fun q _ hq => by
      rw [tpT_116, if_neg hq])
    rw [tpT_116, if_pos rfl, hf, if_neg (nI_neg1 (by omega))] at u
    by_cases c : j = r
    · rw [if_pos c]
      rw [if_pos (by rw [c])] at u
      omega
    · rw [if_neg c]
      rw [if_neg (fun w => c (nI_inj (by omega) (by omega) w).symm)] at u
      omega
  have eu : pgU (tpT T r p W) P = pgU T P + 1 := by
    unfold pgU
    have u := sm_up (f := fun q => if (tpT T r p W).1 116 q = -1 then 0 else 1) (g := fun q => if T.1 116 q = -1 then 0 else 1) (o := p) (n := P) hp (fun q _ hq => by
      rw [tpT_116, if_neg hq])
    rw [tpT_116, if_pos rfl, hf, if_pos rfl, if_neg (fun w => nI_neg1 (by omega) w.symm)] at u
    omega
  have pl := pgU_le (T := tpT T r p W) (P := P)
  have e119 : (tpT T r p W).1 119 0 = T.1 119 0 + 1 := by
    unfold tpT
    rw [fgV_o (by omega), sI_ne (by omega), sI_ne (by omega), sI_ne (by omega), sI_v]
  have e123 : ∀ j, (tpT T r p W).1 123 j = if j = r then T.1 123 r + 1 else T.1 123 j := fun j => by
    unfold tpT
    rw [fgV_o (by omega), sI_ne (by omega), sI_ne (by omega), rdI, sI_ne (by omega), sI_ne (by omega)]
    by_cases c : j = r
    · rw [if_pos ⟨rfl, c⟩, if_pos c]
    · rw [if_neg (fun w => c w.2), if_neg c]
  have e126 : ∀ j, (tpT T r p W).1 126 j = if j = r then nI (p * W) else T.1 126 j := fun j => by
    unfold tpT
    rw [fgV_o (by omega), sI_ne (by omega), rdI, sI_ne (by omega), sI_ne (by omega), sI_ne (by omega)]
    by_cases c : j = r
    · rw [if_pos ⟨rfl, c⟩, if_pos c]
    · rw [if_neg (fun w => c w.2), if_neg c]
  have e127 : ∀ j, (tpT T r p W).1 127 j = if j = r then nI W else T.1 127 j := fun j => by
    unfold tpT
    rw [fgV_o (by omega), rdI, sI_ne (by omega), sI_ne (by omega), sI_ne (by omega), sI_ne (by omega)]
    by_cases c : j = r
    · rw [if_pos ⟨rfl, c⟩, if_pos c]
    · rw [if_neg (fun w => c w.2), if_neg c]
  have m133 : ∀ j, (mkP M r).1 133 j = if j = r then M.1 133 r + 1 else M.1 133 j := fun j => by
    unfold mkP
    rw [sI_ne (by omega), rdI, sI_ne (by omega)]
    by_cases c : j = r
    · rw [if_pos ⟨rfl, c⟩, if_pos c]
    · rw [if_neg (fun w => c w.2), if_neg c]
  have m134 : ∀ j, (mkP M r).1 134 j = if j = r then 0 else M.1 134 j := fun j => by
    unfold mkP
    rw [rdI, sI_ne (by omega), sI_ne (by omega)]
    by_cases c : j = r
    · rw [if_pos ⟨rfl, c⟩, if_pos c]
    · rw [if_neg (fun w => c w.2), if_neg c]
  have m132 : (mkP M r).1 132 0 = M.1 132 0 - 1 := by
    unfold mkP
    rw [sI_ne (by omega), sI_ne (by omega), sI_v]
  have mo : ∀ k, k ≠ 132 → k ≠ 133 → k ≠ 134 → (mkP M r).1 k = M.1 k := fun k => mkP_o
  have to : ∀ k, k ≠ 115 → k ≠ 116 → k ≠ 119 → k ≠ 123 → k ≠ 126 → k ≠ 127 → (tpT T r p W).1 k = T.1 k := fun k => tpT_o
  -- what lives doesn't lie on the page
  have ofp : ∀ b i, 1 ≤ b → b ≤ nb → i < na → rg i = gHm G b → ∀ j, j < gSz G b → ¬ (gAd G b + j) / W = p := fun b i b1 b2 hi he j hj e => by
    have := (h7 b i b1 b2 hi he).1.2.2.1 j hj
    rw [e, hf] at this
    exact nI_neg1 (by omega) this
  refine ⟨⟨by rw [mo 129 (by omega) (by omega) (by omega)]; exact h1, by rw [to 122 (by omega) (by omega) (by omega) (by omega) (by omega) (by omega)]; exact h1b, h1c, h1d, h1e, h1f, h1g⟩, ⟨by rw [mo 130 (by omega) (by omega) (by omega)]; exact p1, by rw [mo 131 (by omega) (by omega) (by omega)]; exact p2, p3.eq (to 117 (by omega) (by omega) (by omega) (by omega) (by omega) (by omega)) (to 118 (by omega) (by omega) (by omega) (by omega) (by omega) (by omega)), by rw [e119, p4, eu, nI_1], ?_, fun q hq => ?_⟩, ?_, ⟨ch, fr, h4.eq (fun k hk => mo k (by omega) (by omega) (by omega)) (Nat.le_refl _), fun j hj => ?_, fun b i b1 b2 hi he => ?_⟩, fun b i b1 b2 hi he => ⟨?_, (h7 b i b1 b2 hi he).2⟩, h8⟩
  · rw [m132, p5, show P - pgU T P = (P - pgU (tpT T r p W) P) + 1 by omega, nI_sub]
  · rw [tpT_116]
    by_cases c : q = p
    · rw [if_pos c]
      exact Or.inr ⟨r, hr, rfl⟩
    · rw [if_neg c]
      exact p6 q hq
  · rw [mo 137 (by omega) (by omega) (by omega), mo 105 (by omega) (by omega) (by omega), to 120 (by omega) (by omega) (by omega) (by omega) (by omega) (by omega)]
    exact h3
  · obtain ⟨pg, u, w, m, nx, r1, r2, r3, r4, r5, r6, r7, r8, r9, r10, r11, r12, r13, r14, r15⟩ := h5 j hj
    have pgle : pg ≤ P := by
      have := pgU_le (T := T) (P := P)
      have : pgN T P j ≤ P := by
        unfold pgN
        have := sm_le (f := fun q => if T.1 116 q = nI j then 1 else 0) (h := fun _ => 1) P (fun j _ => by split <;> omega)
        rw [sm_c] at this
        exact this
      omega
    have ec : cR (mkP M r) j 4096 0 = cR M j 4096 0 := cR_st (mo 138 (by omega) (by omega) (by omega)) (mo 141 (by omega) (by omega) (by omega))
    have eus : usR (mkP M r) ch j = usR M ch j := by unfold usR; rw [mo 138 (by omega) (by omega) (by omega), mo 141 (by omega) (by omega) (by omega)]
    by_cases c : j = r
    · subst c
      refine ⟨pg + 1, 0, w, m, p * W, by rw [m133, if_pos rfl, r1, nI_1], by rw [e123, if_pos rfl, r2, nI_1], by rw [m134, if_pos rfl]; rfl, by rw [mo 135 (by omega) (by omega) (by omega)]; exact r4, by rw [to 124 (by omega) (by omega) (by omega) (by omega) (by omega) (by omega)]; exact r5, by rw [mo 136 (by omega) (by omega) (by omega)]; exact r6, by rw [to 125 (by omega) (by omega) (by omega) (by omega) (by omega) (by omega)]; exact r7, Nat.zero_le _, by rw [en j hj, if_pos rfl, r9], r10, by rw [ec]; exact r11, by rw [eus]; exact r12, by rw [e126, if_pos rfl], by omega, ?_⟩
      rw [if_neg (by omega)]
      refine ⟨?_, by rw [e127, if_pos rfl, Nat.sub_zero], p, hp, by rw [tpT_116, if_pos rfl], by omega⟩
      by_cases c0 : pg = 0
      · rw [if_pos c0] at r15
        rw [c0, r15.1]
        omega
      · rw [if_neg c0] at r15
        have := r15.1
        rw [Nat.add_mul]
        omega
    · refine ⟨pg, u, w, m, nx, by rw [m133, if_neg c]; exact r1, by rw [e123, if_neg c]; exact r2, by rw [m134, if_neg c]; exact r3, by rw [mo 135 (by omega) (by omega) (by omega)]; exact r4, by rw [to 124 (by omega) (by omega) (by omega) (by omega) (by omega) (by omega)]; exact r5, by rw [mo 136 (by omega) (by omega) (by omega)]; exact r6, by rw [to 125 (by omega) (by omega) (by omega) (by omega) (by omega) (by omega)]; exact r7, r8, by rw [en j hj, if_neg c, r9]; rfl, r10, by rw [ec]; exact r11, by rw [eus]; exact r12, by rw [e126, if_neg c]; exact r13, r14, ?_⟩
      rw [e127, if_neg c]
      by_cases c0 : pg = 0
      · rw [if_pos c0] at r15 ⊢
        exact r15
      · rw [if_neg c0] at r15 ⊢
        obtain ⟨t1, t2, q, t3, t4, t5⟩ := r15
        refine ⟨t1, t2, q, t3, ?_, t5⟩
        rw [tpT_116, if_neg (fun w => by
          rw [w, hf] at t4
          exact nI_neg1 (by omega) t4)]
        exact t4
  · have := h6 b i b1 b2 hi he
    unfold RhO at this ⊢
    rw [mo 138 (by omega) (by omega) (by omega), mo 141 (by omega) (by omega) (by omega), mo 142 (by omega) (by omega) (by omega), mo 144 (by omega) (by omega) (by omega), mo 145 (by omega) (by omega) (by omega), mo 146 (by omega) (by omega) (by omega), mo 147 (by omega) (by omega) (by omega), mo 148 (by omega) (by omega) (by omega)]
    exact this
  · have of1 := ofp b i b1 b2 hi he
    obtain ⟨r1, r2, r3, r4, r5, r6⟩ := (h7 b i b1 b2 hi he).1
    obtain ⟨q1, q2, q3, q4, q5, q6⟩ := (h7 b i b1 b2 hi he).2
    have g115 : ∀ j, j < gSz G b → (tpT T r p W).1 115 (gAd G b + j) = T.1 115 (gAd G b + j) := fun j hj => by
      rw [tpT_115, if_neg (fun w => of1 j hj ((pg_of hW).mp w))]
    unfold ChO
    rw [to 114 (by omega) (by omega) (by omega) (by omega) (by omega) (by omega)]
    refine ⟨r1, r2, fun j hj => by rw [tpT_116, if_neg (of1 j hj)]; exact r3 j hj, fun u => ⟨(r4 u).1, by rw [show gAd G b = gAd G b + 0 from rfl, g115 0 (by omega)]; exact (r4 u).2⟩, fun q hq w hw => ?_, fun nx lf n1 n2 n3 n4 => ?_⟩
    · have inW : gWo G b q + w < gSz G b := by
        have hvq := (q6 q hq).wi
        rw [hvq] at hw
        by_cases u : gUn G b = 0
        · rw [if_pos u] at hw
          have := (q4 u).1 q hq
          omega
        · rw [if_neg u] at hw
          obtain ⟨u1, u2, u3, u4⟩ := q5 u
          have := u4 _ u3
          have : q = 0 := by omega
          subst this
          omega
      rw [Nat.add_assoc, g115 _ inW, ← Nat.add_assoc]
      exact r5 q hq w hw
    · rw [e126] at n1
      rw [e127] at n2
      by_cases c : i = r
      · rw [if_pos c] at n1 n2
        have e1 : p * W = nx := nI_inj (by omega) (by omega) n1
        have e2 : W = lf := nI_inj (by have := p3.2.2.2.2; omega) (by omega) n2
        subst e1 e2
        by_cases lt : gAd G b < p * W
        · left
          refine Nat.le_of_not_lt (fun w => ?_)
          refine of1 (p * W - gAd G b) (by omega) ((pg_of hW).mp ?_)
          omega
        · right
          refine Nat.le_of_not_lt (fun w => ?_)
          refine of1 0 (by omega) ((pg_of hW).mp ?_)
          omega
      · rw [if_neg c] at n1 n2
        exact r6 nx lf n1 n2 n3 n4
/-- an object of no words -/
theorem HpI.zero (h : HpI G D nb mk rg na ng P W M T) (hr : r < na) (hmk : mk + 1 < 2 ^ 31) : HpI G D nb (mk + 1) rg na ng P W (mkN0 M r) (mkT T r 0) := by
  obtain ⟨h1, h2, ⟨h3, h3b, h3c, h3d, h3e, h3f⟩, ⟨ch, fr, h4, h5, h6⟩, h7, h8⟩ := h
  have mo : ∀ k, k ≠ 105 → k ≠ 136 → (mkN0 M r).1 k = M.1 k := fun k k1 k2 => by
    unfold mkN0
    rw [sI_ne k2, sI_ne k1]
  have m136 : ∀ j, (mkN0 M r).1 136 j = if j = r then M.1 136 r + 1 else M.1 136 j := fun j => by
    unfold mkN0
    rw [rdI, sI_ne (by omega)]
    by_cases c : j = r
    · rw [if_pos ⟨rfl, c⟩, if_pos c]
    · rw [if_neg (fun w => c w.2), if_neg c]
  have to : ∀ k, k ≠ 120 → k ≠ 125 → (mkT T r 0).1 k = T.1 k := fun k k1 k2 => by
    unfold mkT
    rw [sI_ne k1, sI_ne k2]
    funext j
    rw [rdI]
    by_cases c1 : k = 124 ∧ j = r
    · rw [if_pos c1, c1.1, c1.2, Int32.add_zero]
    · rw [if_neg c1, rdI]
      by_cases c2 : k = 127 ∧ j = r
      · rw [if_pos c2, c2.1, c2.2, Int32.sub_zero]
      · rw [if_neg c2, rdI]
        by_cases c3 : k = 126 ∧ j = r
        · rw [if_pos c3, c3.1, c3.2, Int32.add_zero]
        · rw [if_neg c3]
  have e125 : ∀ j, (mkT T r 0).1 125 j = if j = r then T.1 125 r + 1 else T.1 125 j := fun j => by
    unfold mkT
    rw [sI_ne (by omega), rdI, sI_ne (by omega), sI_ne (by omega), sI_ne (by omega)]
    by_cases c : j = r
    · rw [if_pos ⟨rfl, c⟩, if_pos c]
    · rw [if_neg (fun w => c w.2), if_neg c]
  have e120 : (mkT T r 0).1 120 0 = T.1 120 0 + 1 := by
    unfold mkT
    rw [sI_v]
  have e105 : (mkN0 M r).1 105 0 = M.1 105 0 + 1 := by
    unfold mkN0
    rw [sI_ne (by omega), sI_v]
  have en : ∀ j, pgN (mkT T r 0) P j = pgN T P j := fun j => by unfold pgN; rw [to 116 (by omega) (by omega)]
  have eu : pgU (mkT T r 0) P = pgU T P := by unfold pgU; rw [to 116 (by omega) (by omega)]
  refine ⟨by rw [mo 129 (by omega) (by omega), to 122 (by omega) (by omega)]; exact h1, ?_, ⟨by rw [mo 137 (by omega) (by omega)]; exact h3, by omega, hmk, by rw [e105, h3d, nI_1], by rw [e120, h3e, nI_1], h3f⟩, ⟨ch, fr, h4.eq (fun k hk => mo k (by omega) (by omega)) (Nat.le_refl _), fun j hj => ?_, fun b i b1 b2 hi he => ?_⟩, fun b i b1 b2 hi he => ⟨?_, (h7 b i b1 b2 hi he).2⟩, h8⟩
  · unfold Pgs at h2 ⊢
    rw [mo 130 (by omega) (by omega), mo 131 (by omega) (by omega), mo 132 (by omega) (by omega), to 117 (by omega) (by omega), to 118 (by omega) (by omega), to 119 (by omega) (by omega), eu, to 116 (by omega) (by omega)]
    exact h2
  · obtain ⟨pg, u, w, m, nx, r1, r2, r3, r4, r5, r6, r7, r8, r9, r10, r11, r12, r13, r14, r15⟩ := h5 j hj
    have ec : cR (mkN0 M r) j 4096 0 = cR M j 4096 0 := cR_st (mo 138 (by omega) (by omega)) (mo 141 (by omega) (by omega))
    have eus : usR (mkN0 M r) ch j = usR M ch j := by unfold usR; rw [mo 138 (by omega) (by omega), mo 141 (by omega) (by omega)]
    refine ⟨pg, u, w, (if j = r then m + 1 else m), nx, by rw [mo 133 (by omega) (by omega)]; exact r1, by rw [to 123 (by omega) (by omega)]; exact r2, by rw [mo 134 (by omega) (by omega)]; exact r3, by rw [mo 135 (by omega) (by omega)]; exact r4, by rw [to 124 (by omega) (by omega)]; exact r5, ?_, ?_, r8, by rw [en]; exact r9, by split <;> omega, by rw [ec]; split <;> omega, by rw [eus]; exact r12, by rw [to 126 (by omega) (by omega)]; exact r13, r14, by rw [to 127 (by omega) (by omega), to 116 (by omega) (by omega)]; exact r15⟩
    · rw [m136]
      by_cases c : j = r
      · rw [if_pos c, if_pos c, ← c, r6, nI_1]
      · rw [if_neg c, if_neg c]; exact r6
    · rw [e125]
      by_cases c : j = r
      · rw [if_pos c, if_pos c, ← c, r7, nI_1]
      · rw [if_neg c, if_neg c]; exact r7
  · have := h6 b i b1 b2 hi he
    unfold RhO at this ⊢
    rw [mo 138 (by omega) (by omega), mo 141 (by omega) (by omega), mo 142 (by omega) (by omega), mo 144 (by omega) (by omega), mo 145 (by omega) (by omega), mo 146 (by omega) (by omega), mo 147 (by omega) (by omega), mo 148 (by omega) (by omega)]
    exact this
  · have := (h7 b i b1 b2 hi he).1
    unfold ChO at this ⊢
    rw [to 116 (by omega) (by omega), to 115 (by omega) (by omega), to 114 (by omega) (by omega), to 126 (by omega) (by omega), to 127 (by omega) (by omega)]
    exact this
end GH5
