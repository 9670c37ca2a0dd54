/-! heads: the walk over the fields -/
section HG
variable {nf d : Nat} {T T' T1 S S' : gSt} {X : Lx} {it r k j c n tk w i f : Nat} {l : List Nat} {x y : Int32} {Q : Int32 → Int64 → gSt → Prop}
theorem er_fdN {v : Int64} : er (fdN c n v j x T) = fdN c n v j x (er T) := by
  unfold fdN
  have e : isFi (er T) c v = isFi T c v := rfl
  rw [e]
  split
  · rfl
  · exact er_fl
theorem fdS_ck (h : Ckm T) (hw : tyW X 6 (tk + 2)) (hc : cn (fdS X c n tk j T) < 6000) : Ckm (fdS X c n tk j T) := by
  unfold fdS at hc ⊢
  rw [cn_w (by omega)] at hc
  exact (me_ok 6 _ _ hw h.fdn hc).1.wr (by omega)
theorem l_178 (hnf : 8300 ≤ nf) (hP : ∀ q, q < xn X → xP X q < 100000) : ∀ (k j fl : Nat) (T : gSt), j + k = l.length → k < fl → HY X (er T) it c l → Ckm (er T) → cn (fdL X c l k j (er T)) < 6000 → (∀ T', er T' = fdL X c l k j (er T) → An T T' → wp (rj_Model_checkHead_257 (RR nf (d + 11)) nf T' (nI it)) Q) → wp (rl_Model_checkHead_178 (RR nf (d + 11)) nf fl T (nI it) (nI j)) Q := by
  intro k
  induction k with
  | zero =>
    intro j fl T hj hf hY hC hc hQ
    obtain ⟨fl', rfl⟩ : ∃ q, fl = q + 1 := ⟨fl - 1, by omega⟩
    obtain rfl : j = l.length := by omega
    have zi : inb (nI it) 24 := nin hY.1 (by omega)
    have ci : (nI it).toNatClampNeg = it := nc (by have := hY.1; omega)
    have h19 : T.1 19 it = nI l.length := hY.2.2.1
    rw [rl_Model_checkHead_178, gd, if_pos zi, ci, h19, if_pos (Int32.le_refl _)]
    exact hQ T rfl An.rf
  | succ k ih =>
    intro j fl T hj hf hY hC hc hQ
    obtain ⟨fl', rfl⟩ : ∃ q, fl = q + 1 := ⟨fl - 1, by omega⟩
    have zi : inb (nI it) 24 := nin hY.1 (by omega)
    have ci : (nI it).toNatClampNeg = it := nc (by have := hY.1; omega)
    have h19 : T.1 19 it = nI l.length := hY.2.2.1
    have h18 : T.1 18 it = nI c := hY.2.1
    have hl8 := hY.2.2.2.1
    have hcl := hY.2.2.2.2.1
    have hlt : ¬ nI l.length ≤ nI j := fun q => by
      have := (nI_leI (by omega) (by omega)).mp q
      omega
    have zc : inb (nI (c + j)) 220 := nin (by omega) (by omega)
    have cc : (nI (c + j)).toNatClampNeg = c + j := nc (by omega)
    have ec : nI c + nI j = nI (c + j) := (Int32.ofNat_add _ _).symm
    rw [fdL] at hc hQ
    rw [rl_Model_checkHead_178, gd, if_pos zi, ci, h19, if_neg hlt]
    by_cases c0 : ¬ T.1 7 0 = 0
    · have c0e : ¬ (er T).1 7 0 = 0 := c0
      rw [if_neg c0e] at hc hQ
      rw [x_bd1 c0, bis, if_neg (by decide)]
      exact hQ T rfl An.rf
    have c0 := Decidable.not_not.mp c0
    have c0e : (er T).1 7 0 = 0 := c0
    rw [if_pos c0e] at hc hQ
    obtain ⟨f1, f2, w, f3, f4⟩ := hY.2.2.2.2.2.1 j (by omega)
    obtain ⟨ty, te⟩ := hY.2.2.2.2.2.2.1 j (by omega)
    have g1 : T.2 21 (c + j) = xN X (l.getD j 0) := f1
    have g2 : T.1 22 (c + j) = nI (xP X (l.getD j 0)) := f2
    have g3 : T.1 23 (c + j) = nI w := f3
    have g4 : RepW X T 6 w (l.getD j 0 + 2) := RepW.av 6 w _ er_aw.av f4
    have fh0 : FH (er T) (fdS X c l.length (l.getD j 0) j (er T)) := FH.fds
    have cS : cn (fdS X c l.length (l.getD j 0) j (er T)) < 6000 := (FH.fd (X := X) (c := c) (l := l) k (j + 1) _).lt (fh0.tg hC.1) hc
    have ckS := fdS_ck hC ty cS
    rw [x_bd0 c0, bis, if_pos rfl, gd, if_pos zi, vK, h18, ec, gd, if_pos zc, cc, g1, x_fld hY.1 h18 h19 (by omega) (by omega), bis]
    -- what the name's check leaves
    have key : ∀ T1, T1 = fdN c l.length (xN X (l.getD j 0)) j (nI (xP X (l.getD j 0))) T → wp (bi (RR nf (d + 11) 57 T1 [T1.1 23 (c + j)] []) fun r41 l41 T41 => gd (inb (nI (c + j)) 220) <| stK (sI T41 24 (c + j) r41) fun T42 => vK (nI j + (1 : Int32)) fun z43 => rl_Model_checkHead_178 (RR nf (d + 11)) nf fl' T42 (nI it) z43) Q := by
      intro T1 hT1
      have eT1 : er T1 = fdN c l.length (xN X (l.getD j 0)) j (nI (xP X (l.getD j 0))) (er T) := by rw [hT1, er_fdN]
      have fh1 : FH T T1 := hT1 ▸ FH.fdn
      have an1 : An T T1 := by
        rw [hT1]
        unfold fdN
        split
        · exact An.rf
        · exact An.fl
      have ck1 : Ckm (er T1) := eT1 ▸ hC.fdn
      have e23 : T1.1 23 (c + j) = nI w := by rw [fh1.1 23 (by omega) (by omega) (by omega) (by omega) (by omega) (by omega)]; exact g3
      have cm : cn (meX X 6 (er T1) (l.getD j 0 + 2)).2 < 6000 := by
        have := cS
        unfold fdS at this
        rw [cn_w (by omega), ← eT1] at this
        exact this
      have nu1 : nU T1 ≤ 4000 := by unfold nU; rw [fh1.1 45 (by omega) (by omega) (by omega) (by omega) (by omega) (by omega)]; exact hY.2.2.2.2.2.2.2.1
      have nw1 : nW T1 ≤ 4000 := by unfold nW; rw [fh1.1 37 (by omega) (by omega) (by omega) (by omega) (by omega) (by omega)]; exact hY.2.2.2.2.2.2.2.2
      rw [e23]
      refine wp_bi (x_mean0 hnf hP 6 (d + 1) T1 w (l.getD j 0 + 2) (RepW.av 6 w _ fh1.aw.av g4) ty ck1 nu1 nw1 te cm) ?_
      intro r _ T2 h2
      obtain ⟨h21, h22, h23⟩ := h2
      rw [gd, if_pos zc, stK, vK, nI_1]
      have e2 : er (sI T2 24 (c + j) r) = fdS X c l.length (l.getD j 0) j (er T) := by
        rw [er_w rfl, h21, h23, eT1]
        rfl
      refine ih (j + 1) fl' _ (by omega) (by omega) ?_ ?_ ?_ ?_
      · rw [e2]; exact hY.fh fh0
      · rw [e2]; exact ckS
      · rw [e2]; exact hc
      · intro T' e' a'
        rw [e2] at e'
        exact hQ T' e' ((an1.tr (An.fm h22)).tr ((An.wr (by omega)).tr a'))
    by_cases c1 : ff (isFi T c (xN X (l.getD j 0))) 0 l.length = nI j
    · rw [if_pos c1, gd, if_pos zc]
      exact key T (by unfold fdN; rw [if_pos c1])
    · rw [if_neg c1, gd, if_pos zc, g2, x_fail, bis, gd, if_pos zc]
      exact key _ (by unfold fdN; rw [if_neg c1])
end HG
