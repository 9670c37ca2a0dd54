/-! both heaps: a new object lives -/
section GH7
variable {G G' : GH} {D D' : Nat → (Nat → AV) × Nat} {M M' T T' : gSt} {nf d nb nb' mk na na' ng ng' P W a b c i j p q r s t k n m tg o pg u nx : Nat} {rg rg' : Nat → Nat} {v : AV} {g : List Nat} {x y z w : Int32} {ch : Nat → List Nat} {fr fr' l : List Nat} {f h : Nat → Nat} {O : GO} {vs : Nat → AV}
theorem upG_b : upG G b O b = O := if_pos rfl
theorem upG_n (h : ¬ c = b) : upG G b O c = G c := if_neg h
theorem adD_b : adD D b vs tg b = (vs, tg) := if_pos rfl
theorem adD_n (h : ¬ c = b) : adD D b vs tg c = D c := if_neg h
theorem HpI.mkO (h : HpI G D nb mk rg na ng P W M T) (hr : r < na) (hk1 : 1 ≤ k) (hkn : k ≤ n) (h133 : M.1 133 r = nI pg) (hpg : 1 ≤ pg) (hpg2 : pg < 100000) (h134 : M.1 134 r = nI u) (hu : u + n ≤ W) (hmk : mk + 1 < 2 ^ 31) : ∃ (o nx : Nat) (l fr' : List Nat), (o < 4096 ∧ M.1 138 o = 0 ∧ (∀ q, q < o → ¬ M.1 138 q = 0) ∧ chn (M.1 149) (M.1 143 0) (l ++ fr') ∧ (l ++ fr').Nodup ∧ l.length = k) ∧ (T.1 126 r = nI nx ∧ T.1 127 r = nI (W - u) ∧ nx + n ≤ P * W ∧ ∀ j, j < n → T.1 116 ((nx + j) / W) = nI r) ∧ ∀ (M' T' : gSt) (O : GO) (vs : Nat → AV) (tg : Nat), O.1 = o → O.2.1 = nx → O.2.2.1 = rg r → O.2.2.2.1 = k → O.2.2.2.2.1 = n → shG O vs tg k n → (∀ p, p < k → VT G nb rg na ng (vs p) (O.2.2.2.2.2.2.2.2 (if O.2.2.2.2.2.1 = 0 then p else tg))) → (∀ q, (129 ≤ q ∧ q ≤ 141) ∨ q = 143 ∨ q = 149 ∨ q = 105 → M'.1 q = (tkT o l (mkB (mkU M r (nI n)) r o (nI k))).1 q) → (∀ q, q ≠ o → M'.1 142 q = M.1 142 q) → (¬ O.2.2.2.2.2.1 = 0 → M'.1 142 o = nI tg) → (∀ q c, 144 ≤ q → q ≤ 148 → c ∉ l → M'.1 q c = M.1 q c) → (∀ p, p < k → ¬ M'.1 148 (l.reverse.getD p 0) = 0 ∧ RV G (vs p) (M'.1 144 (l.reverse.getD p 0)) (M'.1 145 (l.reverse.getD p 0)) (M'.1 146 (l.reverse.getD p 0)) (M'.1 147 (l.reverse.getD p 0))) → (∀ q, 116 ≤ q → q ≤ 127 → T'.1 q = (mkT T r (nI n)).1 q) → (∀ q a, q = 114 ∨ q = 115 → ¬ (nx ≤ a ∧ a < nx + n) → T'.1 q a = T.1 q a) → (¬ O.2.2.2.2.2.1 = 0 → T'.1 114 nx = nI (tg + 1) ∧ ¬ T'.1 115 nx = 0) → (∀ p, p < k → ∀ w, w < wv (vs p) → T'.1 114 (nx + O.2.2.2.2.2.2.2.1 p + w) = CW G (vs p) w ∧ ¬ T'.1 115 (nx + O.2.2.2.2.2.2.2.1 p + w) = 0) → HpI (upG G (nb + 1) O) (adD D (nb + 1) vs tg) (nb + 1) (mk + 1) rg na ng P W M' T' := by
  obtain ⟨⟨h1, h1b, h1c, h1d, h1e, h1f, h1g⟩, ⟨p1, p2, p3, p4, p5, p6⟩, ⟨h3, h3b, h3c, h3d, h3e, h3f⟩, ⟨ch, fr, h4, h5, h6⟩, h7, h8⟩ := h
  have hW64 := p3.2.2.2.2
  have hW1 := p3.2.2.2.1
  have p64 : P * W ≤ 64 * 64 := Nat.mul_le_mul p3.2.1 p3.2.2.2.2
  have room := mk_cells h4 h5 p6 (by omega) (by omega) p3.2.1 hr h133 hpg hpg2 h134 hu hW64
  obtain ⟨o, ho, ho0, hof⟩ := h4.slot (by omega)
  obtain ⟨pg', u', w, m, nx, r1, r2, r3, r4, r5, r6, r7, r8, r9, r10, r11, r12, r13, r14, r15⟩ := h5 r hr
  have pgl : pgN T P r ≤ P := by
    unfold pgN
    have := sm_le (f := fun q => if T.1 116 q = nI r then 1 else 0) (h := fun _ => 1) P (fun j _ => by split <;> omega)
    rw [sm_c] at this
    exact this
  have e1 : pg' = pg := nI_inj (by have := p3.2.1; omega) (by omega) (by rw [← r1, h133])
  have e2 : u' = u := nI_inj (by omega) (by omega) (by rw [← r3, h134])
  subst e1 e2
  rw [if_neg (by omega)] at r15
  obtain ⟨t1, t2, p, t3, t4, t5⟩ := r15
  have pw : p * W + W ≤ P * W := by
    have : (p + 1) * W ≤ P * W := Nat.mul_le_mul_right _ (by omega)
    rw [Nat.add_mul] at this
    omega
  have pgs : ∀ j, j < n → (nx + j) / W = p := fun j hj => (pg_of hW1).mp (by omega)
  have efr : fr.take k ++ fr.drop k = fr := List.take_append_drop k fr
  have lk : (fr.take k).length = k := by rw [List.length_take]; omega
  refine ⟨o, nx, fr.take k, fr.drop k, ⟨ho, ho0, hof, by rw [efr]; exact h4.2.1, by rw [efr]; exact h4.2.2.1, lk⟩, ⟨r13, t2, by omega, fun j hj => by rw [pgs j hj]; exact t4⟩, ?_⟩
  have h4' := h4
  rw [← efr] at h4
  generalize fr.take k = l at *
  generalize fr.drop k = fr' at *
  clear efr
  intro M' T' O vs tg O1 O2 O3 O4 O5 hsh hvt hM hq142 h142 hcell hcv hT hTw hTt hTv
  have nb31 : nb + 1 < 2 ^ 31 := by omega
  -- the reference's fields
  have mU : ∀ q, q ≠ 105 → q ≠ 136 → q ≠ 134 → q ≠ 135 → (mkU M r (nI n)).1 q = M.1 q := fun q q1 q2 q3 q4 => by
    unfold mkU mkN0
    rw [sI_ne q4, sI_ne q3, sI_ne q2, sI_ne q1]
  have mB : ∀ q, q ≠ 137 → q ≠ 138 → q ≠ 141 → q ≠ 140 → q ≠ 142 → q ≠ 139 → (mkB (mkU M r (nI n)) r o (nI k)).1 q = (mkU M r (nI n)).1 q := fun q q1 q2 q3 q4 q5 q6 => by
    unfold mkB
    rw [sI_ne q6, sI_ne q5, sI_ne q4, sI_ne q3, sI_ne q2, sI_ne q1]
  have mT : ∀ q, q ≠ 149 → q ≠ 143 → q ≠ 139 → q ≠ 148 → (tkT o l (mkB (mkU M r (nI n)) r o (nI k))).1 q = (mkB (mkU M r (nI n)) r o (nI k)).1 q := fun q q1 q2 q3 q4 => tkT_o q1 q2 q3 q4 l _
  have mA : ∀ q, q = 129 ∨ q = 130 ∨ q = 131 ∨ q = 132 ∨ q = 133 → M'.1 q = M.1 q := fun q hq => by
    rw [hM q (by omega), mT q (by omega) (by omega) (by omega) (by omega), mB q (by omega) (by omega) (by omega) (by omega) (by omega) (by omega), mU q (by omega) (by omega) (by omega) (by omega)]
  have b137 : (mkU M r (nI n)).1 137 0 + 1 = nI (nb + 1) := by rw [mU 137 (by omega) (by omega) (by omega) (by omega), h3, nI_1]
  have k138 : ∀ q, (mkB (mkU M r (nI n)) r o (nI k)).1 138 q = if q = o then nI (nb + 1) else M.1 138 q := fun q => by
    unfold mkB
    rw [b137, sI_ne (by omega), sI_ne (by omega), sI_ne (by omega), sI_ne (by omega), rdI, sI_ne (by omega), mU 138 (by omega) (by omega) (by omega) (by omega)]
    by_cases c : q = o
    · rw [if_pos ⟨rfl, c⟩, if_pos c]
    · rw [if_neg (fun w => c w.2), if_neg c]
  have k139 : ∀ q, (mkB (mkU M r (nI n)) r o (nI k)).1 139 q = if q = o then -1 else M.1 139 q := fun q => by
    unfold mkB
    rw [rdI, sI_ne (by omega), sI_ne (by omega), sI_ne (by omega), sI_ne (by omega), sI_ne (by omega), mU 139 (by omega) (by omega) (by omega) (by omega)]
    by_cases c : q = o
    · rw [if_pos ⟨rfl, c⟩, if_pos c]
    · rw [if_neg (fun w => c w.2), if_neg c]
  have k140 : ∀ q, (mkB (mkU M r (nI n)) r o (nI k)).1 140 q = if q = o then nI l.length else M.1 140 q := fun q => by
    unfold mkB
    rw [sI_ne (by omega), sI_ne (by omega), rdI, sI_ne (by omega), sI_ne (by omega), sI_ne (by omega), mU 140 (by omega) (by omega) (by omega) (by omega), lk]
    by_cases c : q = o
    · rw [if_pos ⟨rfl, c⟩, if_pos c]
    · rw [if_neg (fun w => c w.2), if_neg c]
  have k141 : ∀ q, (mkB (mkU M r (nI n)) r o (nI k)).1 141 q = if q = o then nI r else M.1 141 q := fun q => by
    unfold mkB
    rw [sI_ne (by omega), sI_ne (by omega), sI_ne (by omega), rdI, sI_ne (by omega), sI_ne (by omega), mU 141 (by omega) (by omega) (by omega) (by omega)]
    by_cases c : q = o
    · rw [if_pos ⟨rfl, c⟩, if_pos c]
    · rw [if_neg (fun w => c w.2), if_neg c]
  have m138 : ∀ q, M'.1 138 q = if q = o then nI (nb + 1) else M.1 138 q := fun q => by rw [hM 138 (by omega), mT 138 (by omega) (by omega) (by omega) (by omega)]; exact k138 q
  have m141 : ∀ q, M'.1 141 q = if q = o then nI r else M.1 141 q := fun q => by rw [hM 141 (by omega), mT 141 (by omega) (by omega) (by omega) (by omega)]; exact k141 q
  have m137 : M'.1 137 0 = nI (nb + 1) := by
    rw [hM 137 (by omega), mT 137 (by omega) (by omega) (by omega) (by omega)]
    unfold mkB
    rw [sI_ne (by omega), sI_ne (by omega), sI_ne (by omega), sI_ne (by omega), sI_ne (by omega), sI_v]
    exact b137
  have mW : ∀ q, q ≠ 137 → q ≠ 138 → q ≠ 139 → q ≠ 140 → q ≠ 141 → (129 ≤ q ∧ q ≤ 141) ∨ q = 105 → M'.1 q = (mkU M r (nI n)).1 q := fun q q1 q2 q3 q4 q5 hq => by
    rw [hM q (by omega), mT q (by omega) (by omega) (by omega) (by omega), mB q (by omega) (by omega) (by omega) (by omega) (by omega) (by omega)]
  have m105 : M'.1 105 0 = nI (mk + 1) := by
    rw [mW 105 (by omega) (by omega) (by omega) (by omega) (by omega) (by omega)]
    unfold mkU mkN0
    rw [sI_ne (by omega), sI_ne (by omega), sI_ne (by omega), sI_v, h3d, nI_1]
  have m134 : ∀ j, M'.1 134 j = if j = r then nI (u' + n) else M.1 134 j := fun j => by
    rw [mW 134 (by omega) (by omega) (by omega) (by omega) (by omega) (by omega)]
    unfold mkU mkN0
    rw [sI_ne (by omega), rdI, sI_ne (by omega), sI_ne (by omega), r3, show nI u' + nI n = nI (u' + n) from (Int32.ofNat_add _ _).symm]
    by_cases c : j = r
    · rw [if_pos ⟨rfl, c⟩, if_pos c]
    · rw [if_neg (fun w => c w.2), if_neg c]
  have m135 : ∀ j, M'.1 135 j = if j = r then nI (w + n) else M.1 135 j := fun j => by
    rw [mW 135 (by omega) (by omega) (by omega) (by omega) (by omega) (by omega)]
    unfold mkU mkN0
    rw [rdI, sI_ne (by omega), sI_ne (by omega), sI_ne (by omega), r4, show nI w + nI n = nI (w + n) from (Int32.ofNat_add _ _).symm]
    by_cases c : j = r
    · rw [if_pos ⟨rfl, c⟩, if_pos c]
    · rw [if_neg (fun w => c w.2), if_neg c]
  have m136 : ∀ j, M'.1 136 j = if j = r then nI (m + 1) else M.1 136 j := fun j => by
    rw [mW 136 (by omega) (by omega) (by omega) (by omega) (by omega) (by omega)]
    unfold mkU mkN0
    rw [sI_ne (by omega), sI_ne (by omega), rdI, sI_ne (by omega), r6, nI_1]
    by_cases c : j = r
    · rw [if_pos ⟨rfl, c⟩, if_pos c]
    · rw [if_neg (fun w => c w.2), if_neg c]
  -- the class's fields
  have tO : ∀ q, q ≠ 126 → q ≠ 127 → q ≠ 124 → q ≠ 125 → q ≠ 120 → 116 ≤ q → q ≤ 127 → T'.1 q = T.1 q := fun q q1 q2 q3 q4 q5 q6 q7 => by
    rw [hT q q6 q7]
    unfold mkT
    rw [sI_ne q5, sI_ne q4, sI_ne q3, sI_ne q2, sI_ne q1]
  have e116 := tO 116 (by omega) (by omega) (by omega) (by omega) (by omega) (by omega) (by omega)
  have k126 : ∀ j, T'.1 126 j = if j = r then nI (nx + n) else T.1 126 j := fun j => by
    rw [hT 126 (by omega) (by omega)]
    unfold mkT
    rw [sI_ne (by omega), sI_ne (by omega), sI_ne (by omega), sI_ne (by omega), rdI, r13, show nI nx + nI n = nI (nx + n) from (Int32.ofNat_add _ _).symm]
    by_cases c : j = r
    · rw [if_pos ⟨rfl, c⟩, if_pos c]
    · rw [if_neg (fun w => c w.2), if_neg c]
  have k127 : ∀ j, T'.1 127 j = if j = r then nI (W - (u' + n)) else T.1 127 j := fun j => by
    rw [hT 127 (by omega) (by omega)]
    unfold mkT
    rw [sI_ne (by omega), sI_ne (by omega), sI_ne (by omega), rdI, sI_ne (by omega), t2]
    have e : nI (W - u') - nI n = nI (W - (u' + n)) := by
      rw [show W - u' = W - (u' + n) + n by omega, show nI (W - (u' + n) + n) = nI (W - (u' + n)) + nI n from Int32.ofNat_add _ _]
      exact Int32.add_sub_cancel _ _
    rw [e]
    by_cases c : j = r
    · rw [if_pos ⟨rfl, c⟩, if_pos c]
    · rw [if_neg (fun w => c w.2), if_neg c]
  have k124 : ∀ j, T'.1 124 j = if j = r then nI (w + n) else T.1 124 j := fun j => by
    rw [hT 124 (by omega) (by omega)]
    unfold mkT
    rw [sI_ne (by omega), sI_ne (by omega), rdI, sI_ne (by omega), sI_ne (by omega), r5, show nI w + nI n = nI (w + n) from (Int32.ofNat_add _ _).symm]
    by_cases c : j = r
    · rw [if_pos ⟨rfl, c⟩, if_pos c]
    · rw [if_neg (fun w => c w.2), if_neg c]
  have k125 : ∀ j, T'.1 125 j = if j = r then nI (m + 1) else T.1 125 j := fun j => by
    rw [hT 125 (by omega) (by omega)]
    unfold mkT
    rw [sI_ne (by omega), rdI, sI_ne (by omega), sI_ne (by omega), sI_ne (by omega), r7, nI_1]
    by_cases c : j = r
    · rw [if_pos ⟨rfl, c⟩, if_pos c]
    · rw [if_neg (fun w => c w.2), if_neg c]
  have k120 : T'.1 120 0 = nI (mk + 1) := by
    rw [hT 120 (by omega) (by omega)]
    unfold mkT
    rw [sI_v, h3e, nI_1]
  -- the heap of the reference
  have H1 := h4.take (T1 := mkB (mkU M r (nI n)) r o (nI k)) ho ho0 (by omega) (nI_n0 (b := nb + 1) (by omega) (by omega)) hr k138 k139 k140 k141 (fun q hq => by rw [mB q (by omega) (by omega) (by omega) (by omega) (by omega) (by omega), mU q (by omega) (by omega) (by omega) (by omega)])
  have H2 : Hr M' na (updL ch o l.reverse) fr' := H1.eq (fun q hq => hM q (by omega)) (Nat.le_refl _)
  have en : ∀ j, pgN T' P j = pgN T P j := fun j => by unfold pgN; rw [e116]
  have eu : pgU T' P = pgU T P := by unfold pgU; rw [e116]
  have oldG : ∀ b, b ≤ nb → upG G (nb + 1) O b = G b := fun b hb => upG_n (by omega)
  have hG : gOb (upG G (nb + 1) O) (nb + 1) = o ∧ gAd (upG G (nb + 1) O) (nb + 1) = nx ∧ gHm (upG G (nb + 1) O) (nb + 1) = rg r ∧ gPl (upG G (nb + 1) O) (nb + 1) = k ∧ gSz (upG G (nb + 1) O) (nb + 1) = n ∧ gUn (upG G (nb + 1) O) (nb + 1) = O.2.2.2.2.2.1 ∧ gWo (upG G (nb + 1) O) (nb + 1) = O.2.2.2.2.2.2.2.1 ∧ gTy (upG G (nb + 1) O) (nb + 1) = O.2.2.2.2.2.2.2.2 := by
    unfold gOb gAd gHm gPl gSz gUn gWo gTy
    rw [upG_b]
    exact ⟨O1, O2, O3, O4, O5, rfl, rfl, rfl⟩
  obtain ⟨g1, g2, g3, g4, g5, g6, g7, g8⟩ := hG
  have inj : ∀ i, i < na → rg i = rg r → i = r := fun i hi e => by
    rcases Nat.lt_trichotomy i r with w | w | w
    · have := h1e i r w hr; omega
    · exact w
    · have := h1e r i w hi; omega
  have vtm : ∀ (v : AV) (g : List Nat), VT G nb rg na ng v g → VT (upG G (nb + 1) O) (nb + 1) rg na ng v g := fun v g hv => hv.mo oldG (by omega) (fun _ _ w => w)
  refine ⟨⟨by rw [mA 129 (by omega)]; exact h1, by rw [tO 122 (by omega) (by omega) (by omega) (by omega) (by omega) (by omega) (by omega)]; exact h1b, h1c, h1d, h1e, h1f, h1g⟩, ⟨by rw [mA 130 (by omega)]; exact p1, by rw [mA 131 (by omega)]; exact p2, p3.eq (tO 117 (by omega) (by omega) (by omega) (by omega) (by omega) (by omega) (by omega)) (tO 118 (by omega) (by omega) (by omega) (by omega) (by omega) (by omega) (by omega)), by rw [tO 119 (by omega) (by omega) (by omega) (by omega) (by omega) (by omega) (by omega), eu]; exact p4, by rw [mA 132 (by omega), eu]; exact p5, by rw [e116]; exact p6⟩, ⟨m137, by omega, hmk, m105, k120, fun b b1 b2 => ?_⟩, ⟨updL ch o l.reverse, fr', H2, fun j hj => ?_, fun b i b1 b2 hi he => ?_⟩, fun b i b1 b2 hi he => ?_, fun b c b1 b2 c1 c2 hbc hb hc => ?_⟩
  · by_cases e : b = nb + 1
    · rw [e, g3]
      exact h1f r hr
    · have : gHm (upG G (nb + 1) O) b = gHm G b := by unfold gHm; rw [oldG b (by omega)]
      rw [this]
      exact h3f b b1 (by omega)
  · by_cases c : j = r
    · subst c
      refine ⟨pg', u' + n, w + n, m + 1, nx + n, by rw [mA 133 (by omega)]; exact r1, by rw [tO 123 (by omega) (by omega) (by omega) (by omega) (by omega) (by omega) (by omega)]; exact r2, by rw [m134, if_pos rfl], by rw [m135, if_pos rfl], by rw [k124, if_pos rfl], by rw [m136, if_pos rfl], by rw [k125, if_pos rfl], by omega, by rw [en]; exact r9, by omega, ?_, ?_, by rw [k126, if_pos rfl], by omega, ?_⟩
      · have := (cR_up (M := M) (M' := M') (o := o) (r := j) (fun q hq => by rw [m138, m141, if_neg hq, if_neg hq]) 4096 0).1
        omega
      · unfold usR
        have uu := sm_up (f := fun q => if ¬ M'.1 138 q = 0 ∧ M'.1 141 q = nI j then (updL ch o l.reverse q).length else 0) (g := fun q => if ¬ M.1 138 q = 0 ∧ M.1 141 q = nI j then (ch q).length else 0) (o := o) (n := 4096) ho (fun q _ hq => by
          rw [m138, m141, if_neg hq, if_neg hq]
          unfold updL
          rw [if_neg hq])
        rw [if_neg (fun w : ¬ M.1 138 o = 0 ∧ M.1 141 o = nI j => w.1 ho0)] at uu
        have : (if ¬ M'.1 138 o = 0 ∧ M'.1 141 o = nI j then (updL ch o l.reverse o).length else 0) ≤ k := by
          split
          · unfold updL
            rw [if_pos rfl, List.length_reverse]
            omega
          · omega
        unfold usR at r12
        omega
      · rw [if_neg (by omega)]
        exact ⟨by omega, by rw [k127, if_pos rfl], p, t3, by rw [e116]; exact t4, by omega⟩
    · have q0 := h5 j hj
      have ec : cR M' j 4096 0 = cR M j 4096 0 := cR_eq 4096 0 (fun q _ _ => by
        rw [m138, m141]
        by_cases e : q = o
        · rw [if_pos e, if_pos e, e]
          constructor
          · intro z; exact absurd (nI_inj (by omega) (by omega) z.2).symm c
          · intro z; exact absurd ho0 z.1
        · rw [if_neg e, if_neg e])
      have eus : usR M' (updL ch o l.reverse) j = usR M ch j := by
        unfold usR
        refine sm_eq 4096 (fun q hq => ?_)
        rw [m138, m141]
        by_cases e : q = o
        · rw [if_pos e, if_pos e, e, if_neg (fun z => c (nI_inj (by omega) (by omega) z.2).symm), if_neg (fun z => z.1 ho0)]
        · rw [if_neg e, if_neg e]
          unfold updL
          rw [if_neg e]
      obtain ⟨a1, a2, a3, a4, a5, b1, b2, b3, b4, b5, b6, b7, b8, b9, b10, b11, b12, b13, b14, b15⟩ := q0
      exact ⟨a1, a2, a3, a4, a5, by rw [mA 133 (by omega)]; exact b1, by rw [tO 123 (by omega) (by omega) (by omega) (by omega) (by omega) (by omega) (by omega)]; exact b2, by rw [m134, if_neg c]; exact b3, by rw [m135, if_neg c]; exact b4, by rw [k124, if_neg c]; exact b5, by rw [m136, if_neg c]; exact b6, by rw [k125, if_neg c]; exact b7, b8, by rw [en]; exact b9, by omega, by rw [ec]; exact b11, by rw [eus]; exact b12, by rw [k126, if_neg c]; exact b13, b14, by rw [k127, if_neg c, e116]; exact b15⟩
  · by_cases e : b = nb + 1
    · subst e
      rw [g3] at he
      have ei := inj i hi he
      subst ei
      unfold RhO
      rw [g1, g4, g6, adD_b]
      have uo : updL ch o l.reverse o = l.reverse := if_pos rfl
      rw [uo]
      refine ⟨ho, by rw [m138, if_pos rfl], by rw [m141, if_pos rfl], by rw [List.length_reverse]; exact lk, h142, fun p hp => ⟨(hcv p hp).1, (hcv p hp).2.mo (hvt p hp).bo oldG⟩⟩
    · have hb : b ≤ nb := by omega
      have eG := G_eq (oldG b hb)
      obtain ⟨x1, x2, x3, x4, x5, x6, x7, x8, x9⟩ := eG
      rw [x3] at he
      obtain ⟨a1, a2, a3, a4, a5, a6⟩ := h6 b i b1 hb hi he
      have b0 : ¬ M.1 138 (gOb G b) = 0 := by rw [a2]; exact nI_n0 b1 (by omega)
      have no : ¬ gOb G b = o := fun w => b0 (by rw [w]; exact ho0)
      have up : updL ch o l.reverse (gOb G b) = ch (gOb G b) := if_neg no
      unfold RhO
      rw [x1, x4, x6, adD_n e, up]
      refine ⟨a1, by rw [m138, if_neg no]; exact a2, by rw [m141, if_neg no]; exact a3, a4, fun z => by rw [hq142 _ no]; exact a5 z, fun p hp => ?_⟩
      have nl : (ch (gOb G b)).getD p 0 ∉ l := fun z => h4.2.2.2.2.1 _ a1 b0 _ (gd_mem (by omega)) (List.mem_append_left _ z)
      rw [hcell 148 _ (by omega) (by omega) nl, hcell 144 _ (by omega) (by omega) nl, hcell 145 _ (by omega) (by omega) nl, hcell 146 _ (by omega) (by omega) nl, hcell 147 _ (by omega) (by omega) nl]
      exact ⟨(a6 p hp).1, (a6 p hp).2.mo ((h7 b i b1 hb hi he).2.2.2.2.2.2 p hp).bo oldG⟩
  · by_cases e : b = nb + 1
    · subst e
      rw [g3] at he
      have ei := inj i hi he
      subst ei
      refine ⟨?_, ?_⟩
      · unfold ChO
        rw [g2, g4, g5, g6, g7, adD_b]
        refine ⟨by omega, by omega, fun j hj => by rw [e116, pgs j hj]; exact t4, hTt, fun p hp w hw => ?_, fun nx' lf z1 z2 z3 z4 => ?_⟩
        · rw [CW_mo (hvt p hp).bo oldG]
          exact hTv p hp w hw
        · rw [k126, if_pos rfl] at z1
          have := nI_inj (by omega) (by omega) z1
          omega
      · unfold ShO
        rw [g4, g5, g6, g7, g8, adD_b]
        exact ⟨hkn, hk1, by omega, fun z => hsh.1 z, fun z => hsh.2 z, fun p hp => vtm _ _ (hvt p hp)⟩
    · have hb : b ≤ nb := by omega
      obtain ⟨x1, x2, x3, x4, x5, x6, x7, x8, x9⟩ := G_eq (oldG b hb)
      rw [x3] at he
      obtain ⟨⟨a1, a2, a3, a4, a5, a6⟩, q1, q2, q3, q4, q5, q6⟩ := h7 b i b1 hb hi he
      have dj : ∀ j, j < gSz G b → ¬ (nx ≤ gAd G b + j ∧ gAd G b + j < nx + n) := fun j hj z => by
        have o1 := a3 j hj
        have o2 : (gAd G b + j) / W = p := by
          have := pgs (gAd G b + j - nx) (by omega)
          rw [show nx + (gAd G b + j - nx) = gAd G b + j by omega] at this
          exact this
        rw [o2, t4] at o1
        have ei := nI_inj (by omega) (by omega) o1
        subst ei
        have := a6 nx (W - u') r13 t2 r14 (by omega)
        omega
      refine ⟨?_, ?_⟩
      · unfold ChO
        rw [x2, x4, x5, x6, x8, adD_n e]
        refine ⟨a1, a2, by rw [e116]; exact a3, fun z => ?_, fun p' hp' w hw => ?_, fun nx' lf z1 z2 z3 z4 => ?_⟩
        · have d0 := dj 0 (by omega)
          rw [hTw 114 _ (Or.inl rfl) (by omega), hTw 115 _ (Or.inr rfl) (by omega)]
          exact a4 z
        · have inW : gWo G b p' + w < gSz G b := by
            have hvq := (q6 p' hp').wi
            rw [hvq] at hw
            by_cases un : gUn G b = 0
            · rw [if_pos un] at hw
              have := (q4 un).1 p' hp'
              omega
            · rw [if_neg un] at hw
              obtain ⟨u1, u2, u3, u4⟩ := q5 un
              have := u4 _ u3
              have : p' = 0 := by omega
              subst this
              omega
          have d0 := dj (gWo G b p' + w) inW
          rw [hTw 114 _ (Or.inl rfl) (by omega), hTw 115 _ (Or.inr rfl) (by omega), CW_mo (q6 p' hp').bo oldG]
          exact a5 p' hp' w hw
        · rw [k126] at z1
          rw [k127] at z2
          by_cases c : i = r
          · rw [if_pos c] at z1 z2
            have f1 := nI_inj (by omega) (by omega) z1
            have f2 := nI_inj (by omega) (by omega) z2
            have := a6 nx (W - u') (by rw [c]; exact r13) (by rw [c]; exact t2) r14 (by omega)
            omega
          · rw [if_neg c] at z1 z2
            exact a6 nx' lf z1 z2 z3 z4
      · unfold ShO
        rw [x4, x5, x6, x8, x9, adD_n e]
        exact ⟨q1, q2, q3, q4, q5, fun p hp => vtm _ _ (q6 p hp)⟩
  · -- no two lie over each other
    have one : ∀ c, 1 ≤ c → c ≤ nb → al rg na (gHm G c) → nx + n ≤ gAd G c ∨ gAd G c + gSz G c ≤ nx := fun c c1 c2 ⟨i, hi, he⟩ => by
      obtain ⟨⟨a1, a2, a3, a4, a5, a6⟩, q⟩ := h7 c i c1 c2 hi he
      refine Decidable.byContradiction fun z => ?_
      have lo : ∃ x, nx ≤ x ∧ x < nx + n ∧ gAd G c ≤ x ∧ x < gAd G c + gSz G c := ⟨max nx (gAd G c), by omega, by omega, by omega, by omega⟩
      obtain ⟨x, x1, x2, x3, x4⟩ := lo
      have o1 := a3 (x - gAd G c) (by omega)
      rw [show gAd G c + (x - gAd G c) = x by omega] at o1
      have o2 := pgs (x - nx) (by omega)
      rw [show nx + (x - nx) = x by omega] at o2
      rw [o2, t4] at o1
      have ei := nI_inj (by omega) (by omega) o1
      subst ei
      have := a6 nx (W - u') r13 t2 r14 (by omega)
      omega
    by_cases eb : b = nb + 1
    · have ec : ¬ c = nb + 1 := fun z => hbc (by rw [eb, z])
      obtain ⟨x1, x2, x3, x4, x5, x6, x7, x8, x9⟩ := G_eq (oldG c (by omega))
      subst eb
      rw [g2, g5, x2, x5]
      rw [x3] at hc
      exact one c c1 (by omega) hc
    · obtain ⟨x1, x2, x3, x4, x5, x6, x7, x8, x9⟩ := G_eq (oldG b (by omega))
      rw [x3] at hb
      by_cases ec : c = nb + 1
      · subst ec
        rw [g2, g5, x2, x5]
        exact (one b b1 (by omega) hb).symm
      · obtain ⟨y1, y2, y3, y4, y5, y6, y7, y8, y9⟩ := G_eq (oldG c (by omega))
        rw [y3] at hc
        rw [x2, x5, y2, y5]
        exact h8 b c b1 (by omega) c1 (by omega) hbc hb hc
end GH7
