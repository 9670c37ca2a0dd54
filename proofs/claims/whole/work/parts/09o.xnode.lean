/-! nodes with parts: what the reference does behind the check of a part -/
abbrev SP (T T' : gSt) : Prop := (∀ k, ¬ fE k → anF k = false → T'.1 k = T.1 k) ∧ T'.2 = T.2
/-- what is known behind the check of a part -/
abbrev Bh (T T' : gSt) : Prop := SP T T' ∧ Ck (er T') ∧ cn T' < 6000
section XN
variable {nf d : Nat} {T T' : gSt} {X : Lx} {m n p u i l : Nat} {x y t r s kd pl pr : Int32} {nm : Int64} {z : T5} {P : Int32 → gSt → Prop}
theorem SP.of (h : FE (er T) (er T')) : SP T T' := ⟨fun k h1 h2 => by
  have := h.1 k h1
  rw [er_i h2, er_i h2] at this
  exact this, h.2.1⟩
theorem tF.of (h : tR (er T) x) (hc : cn T < 6000) : tF x := by
  rcases h with h | h | h | ⟨p, e, p1, p2⟩
  · exact Or.inr (Or.inl h)
  · exact Or.inl h
  · exact Or.inr (Or.inr (Or.inl h))
  · have p2' : p < cn T := p2
    exact Or.inr (Or.inr (Or.inr (by rw [e]; exact nin (by omega) (by omega))))
/-- an index -/
theorem x_ix (hnf : 5000 ≤ nf) (hm : m < 8200) (hl : l < 8200) (hn : n < 8200) (h52 : T.1 52 m = nI l) (h53 : T.1 53 m = nI n) (h60 : T.1 60 l = s) (h51 : T.1 51 l = pl) (h51b : T.1 51 n = pr) (hs : tR (er T) s) (hB : wp (RR nf (d + 2) 86 T [nI n] []) (fun r _ T' => P r T')) (hP : ∀ r T', P r T' → Bh T T' ∧ tR (er T') s) : wp (RR nf (d + 3) 90 T [nI m] []) (fun r _ T' => ∃ r1 T1, P r1 T1 ∧ (¬ T1.1 7 0 = 0 → T' = T1) ∧ (T1.1 7 0 = 0 → r = (ixC T1 s r1 pl pr).1 ∧ T' = (ixC T1 s r1 pl pr).2)) := by
  have zm : inb (nI m) 8200 := nin (by omega) (by omega)
  have cm : (nI m).toNatClampNeg = m := nc (by omega)
  have zl : inb (nI l) 8200 := nin (by omega) (by omega)
  have cl : (nI l).toNatClampNeg = l := nc (by omega)
  have zn : inb (nI n) 8200 := nin (by omega) (by omega)
  have cn' : (nI n).toNatClampNeg = n := nc (by omega)
  rw [e_Model_checkIndex nf (d + 2)]
  unfold rb_Model_checkIndex
  refine wp_gd zm ?_
  rw [cm, h52]
  refine wp_gd zl ?_
  rw [cl, h60, h53]
  refine wp_v (wp_gd zm (wp_bi hB ?_))
  intro r1 _ T1 hp
  obtain ⟨⟨hS, hC, hc⟩, hs1⟩ := hP r1 T1 hp
  by_cases c0 : T1.1 7 0 = 0
  · refine wp_be (x_bd0 c0) (wp_t rfl ?_)
    have ht : tOk (cn T1) s := hs1.ok
    refine wp_be (x_isRo ht (by omega)) ?_
    have o52 : T1.1 52 m = nI l := by rw [hS.1 52 (by omega) rfl]; exact h52
    have o53 : T1.1 53 m = nI n := by rw [hS.1 53 (by omega) rfl]; exact h53
    have o51 : T1.1 51 l = pl := by rw [hS.1 51 (by omega) rfl]; exact h51
    have o51b : T1.1 51 n = pr := by rw [hS.1 51 (by omega) rfl]; exact h51b
    have b111 : ∀ S : gSt, ¬ S.1 7 0 = 0 → wp (rj_Model_checkIndex_111 (RR nf (d + 2)) nf S s) (fun r _ T' => r = 0 ∧ T' = S) := by
      intro S hS
      unfold rj_Model_checkIndex_111
      exact wp_be (x_bd1 hS) (wp_f (by decide) (wp_some ⟨rfl, rfl⟩))
    refine wp_mono (R := fun r _ T' => r = (ixC T1 s r1 pl pr).1 ∧ T' = (ixC T1 s r1 pl pr).2) ?_ (fun r _ T' q => ⟨r1, T1, hp, fun q2 => absurd c0 q2, fun _ => q⟩)
    unfold ixC
    by_cases c1 : isRo T1 s = 0
    · simp only [if_pos c1]
      refine wp_gd zm ?_
      rw [o52]
      refine wp_gd zl ?_
      rw [cl, o51]
      exact wp_be x_fail (b111 _ (flT_bad (by decide)))
    simp only [if_neg c1]
    have zs : inb s 6000 := ht.inr (by omega) (isRo_pos c1)
    refine wp_gd zs (wp_be x_isLv ?_)
    unfold tf
    by_cases c2 : isLv T1 (T1.1 67 s.toNatClampNeg) = 0
    · simp only [if_pos c2]
      refine wp_gd zm ?_
      rw [o52]
      refine wp_gd zl ?_
      rw [cl, o51]
      exact wp_be x_fail (b111 _ (flT_bad (by decide)))
    simp only [if_neg c2]
    by_cases c3 : r1 = 0
    · simp only [if_pos c3]
      unfold rj_Model_checkIndex_111
      refine wp_be (x_bd0 c0) (wp_t rfl (wp_st (wp_gd zs ?_)))
      exact wp_some ⟨by rw [sI_ne (by omega)], rfl⟩
    · simp only [if_neg c3]
      refine wp_gd zm ?_
      rw [o53]
      refine wp_gd zn ?_
      rw [cn', o51b]
      exact wp_be x_fail (b111 _ (flT_bad (by decide)))
  · exact wp_be (x_bd1 c0) (wp_f (by decide) (wp_some ⟨r1, T1, hp, fun _ => rfl, fun q => absurd q c0⟩))
/-- an operator -/
theorem x_op {sg : Int32} (hnf : 5000 ≤ nf) (hm : m < 8200) (hl : l < 8200) (hn : n < 8200) (h52 : T.1 52 m = nI l) (h53 : T.1 53 m = nI n) (h54 : T.1 54 m = sg) (h60 : T.1 60 l = s) (h51 : T.1 51 l = pl) (h51b : T.1 51 n = pr) (hB : wp (RR nf (d + 3) 86 T [nI n] []) (fun r _ T' => P r T')) (hP : ∀ r T', P r T' → Bh T T' ∧ tR (er T') s ∧ (T'.1 7 0 = 0 → tR (er T') r)) : wp (RR nf (d + 4) 96 T [nI m] []) (fun r _ T' => ∃ r1 T1, P r1 T1 ∧ (¬ T1.1 7 0 = 0 → T' = T1) ∧ (T1.1 7 0 = 0 → r = (opC T1 sg s r1 pl pr).1 ∧ T' = (opC T1 sg s r1 pl pr).2)) := by
  have zm : inb (nI m) 8200 := nin (by omega) (by omega)
  have cm : (nI m).toNatClampNeg = m := nc (by omega)
  have zl : inb (nI l) 8200 := nin (by omega) (by omega)
  have cl : (nI l).toNatClampNeg = l := nc (by omega)
  have zn : inb (nI n) 8200 := nin (by omega) (by omega)
  have cn' : (nI n).toNatClampNeg = n := nc (by omega)
  rw [e_Model_checkOperator nf (d + 3)]
  unfold rb_Model_checkOperator
  refine wp_gd zm ?_
  rw [cm, h52]
  refine wp_gd zl ?_
  rw [cl, h60, h53]
  refine wp_v (wp_gd zm (wp_bi hB ?_))
  intro r1 _ T1 hp
  obtain ⟨⟨hS, hC, hc⟩, hs1, hr1⟩ := hP r1 T1 hp
  by_cases c0 : ¬ T1.1 7 0 = 0
  · exact wp_be (x_bd1 c0) (wp_f (by decide) (wp_some ⟨r1, T1, hp, fun _ => rfl, fun q => absurd q c0⟩))
  have c0 := Decidable.not_not.mp c0
  refine wp_be (x_bd0 c0) (wp_t rfl (wp_gd zm ?_))
  have hr := hr1 c0
  have hts : tOk (cn T1) s := hs1.ok
  have htr : tOk (cn T1) r1 := hr.ok
  have o52 : T1.1 52 m = nI l := by rw [hS.1 52 (by omega) rfl]; exact h52
  have o53 : T1.1 53 m = nI n := by rw [hS.1 53 (by omega) rfl]; exact h53
  have o54 : T1.1 54 m = sg := by rw [hS.1 54 (by omega) rfl]; exact h54
  have o51 : T1.1 51 l = pl := by rw [hS.1 51 (by omega) rfl]; exact h51
  have o51b : T1.1 51 n = pr := by rw [hS.1 51 (by omega) rfl]; exact h51b
  have hRi : Ri T1 := hC.2.2.2.1
  have hrc : ∀ x, tR (er T1) x → inb x 6000 → ¬ x ≤ 0 → rC (T1.1 67 x.toNatClampNeg) := by
    intro x hx _ hx0
    obtain ⟨p, e, p1, p2⟩ := hx.pos hx0
    have p2' : p < cn T1 := p2
    rw [e, nc (by omega)]
    exact rC2.rc (hC.row p1 p2).2.1
  refine wp_mono (R := fun r _ T' => r = (opC T1 sg s r1 pl pr).1 ∧ T' = (opC T1 sg s r1 pl pr).2) ?_ (fun r _ T' q => ⟨r1, T1, hp, fun q2 => absurd c0 q2, fun _ => q⟩)
  have f4r : ∀ K : gR, K = (gd (inb (nI m) 8200) <| gd (inb (T1.1 53 (nI m).toNatClampNeg) 8200) <| bi (RR nf (d + 3) 13 T1 [(4 : Int32), T1.1 51 (T1.1 53 (nI m).toNatClampNeg).toNatClampNeg] []) fun _ _ T64 => some ((0 : Int32), 0, T64)) → K = some (0, 0, flT T1 4 pr) := by
    intro K hK
    rw [hK, cm, o53, cn', o51b, x_fail]
    simp only [gd, if_pos zm, if_pos zn, bi]
  have f4l : ∀ K : gR, K = (gd (inb (nI m) 8200) <| gd (inb (T1.1 52 (nI m).toNatClampNeg) 8200) <| bi (RR nf (d + 3) 13 T1 [(4 : Int32), T1.1 51 (T1.1 52 (nI m).toNatClampNeg).toNatClampNeg] []) fun _ _ T64 => some ((0 : Int32), 0, T64)) → K = some (0, 0, flT T1 4 pl) := by
    intro K hK
    rw [hK, cm, o52, cl, o51, x_fail]
    simp only [gd, if_pos zm, if_pos zl, bi]
  have f5l : ∀ K : gR, K = (gd (inb (nI m) 8200) <| gd (inb (T1.1 52 (nI m).toNatClampNeg) 8200) <| bi (RR nf (d + 3) 13 T1 [(5 : Int32), T1.1 51 (T1.1 52 (nI m).toNatClampNeg).toNatClampNeg] []) fun _ _ T64 => some ((0 : Int32), 0, T64)) → K = some (0, 0, flT T1 5 pl) := by
    intro K hK
    rw [hK, cm, o52, cl, o51, x_fail]
    simp only [gd, if_pos zm, if_pos zl, bi]
  have f5r : ∀ K : gR, K = (gd (inb (nI m) 8200) <| gd (inb (T1.1 53 (nI m).toNatClampNeg) 8200) <| bi (RR nf (d + 3) 13 T1 [(5 : Int32), T1.1 51 (T1.1 53 (nI m).toNatClampNeg).toNatClampNeg] []) fun _ _ T64 => some ((0 : Int32), 0, T64)) → K = some (0, 0, flT T1 5 pr) := by
    intro K hK
    rw [hK, cm, o53, cn', o51b, x_fail]
    simp only [gd, if_pos zm, if_pos zn, bi]
  have j276 : ¬ (sg = 43 ∧ ¬ isRo T1 s = 0 ∧ r1 = 0) → ¬ (sg = 256 ∧ (s = -2 ∨ ¬ isPt T1 s = 0) ∧ (r1 = -2 ∨ ¬ isPt T1 r1 = 0)) → wp (rj_Model_checkOperator_276 (RR nf (d + 3)) nf T1 (nI m) s r1) (fun r _ T' => r = (opC T1 sg s r1 pl pr).1 ∧ T' = (opC T1 sg s r1 pl pr).2) := by
    intro k1 k2
    unfold rj_Model_checkOperator_276 opC
    rw [if_neg k1, if_neg k2]
    by_cases a1 : s = 0
    · rw [if_pos a1, if_pos a1]
      by_cases a2 : r1 = 0
      · rw [if_pos a2, if_pos a2]
        exact wp_some ⟨rfl, rfl⟩
      · rw [if_neg a2, if_neg a2, f4r _ rfl]
        exact wp_some ⟨rfl, rfl⟩
    · rw [if_neg a1, if_neg a1, f4l _ rfl]
      exact wp_some ⟨rfl, rfl⟩
  have j97 : ¬ (sg = 43 ∧ ¬ isRo T1 s = 0 ∧ r1 = 0) → ∀ x4 y0 : Int32, (x4 = 0 ↔ ¬ (s = -2 ∨ ¬ isPt T1 s = 0)) → (y0 = 0 ↔ ¬ (r1 = -2 ∨ ¬ isPt T1 r1 = 0)) → wp (rj_Model_checkOperator_97 (RR nf (d + 3)) nf T1 (nI m) s r1 x4 y0) (fun r _ T' => r = (opC T1 sg s r1 pl pr).1 ∧ T' = (opC T1 sg s r1 pl pr).2) := by
    intro k1 x4 y0 hx4 hy0
    unfold rj_Model_checkOperator_97
    refine wp_gd zm ?_
    rw [cm, o54]
    by_cases a0 : sg = 256
    · refine wp_t a0 ?_
      by_cases a1 : x4 = 0
      · exact wp_t a1 (j276 k1 (fun q => hx4.mp a1 q.2.1))
      refine wp_f a1 ?_
      by_cases a2 : y0 = 0
      · exact wp_t a2 (j276 k1 (fun q => hy0.mp a2 q.2.2))
      refine wp_f a2 ?_
      have b1 : s = -2 ∨ ¬ isPt T1 s = 0 := Decidable.not_not.mp (fun q => a1 (hx4.mpr q))
      have b2 : r1 = -2 ∨ ¬ isPt T1 r1 = 0 := Decidable.not_not.mp (fun q => a2 (hy0.mpr q))
      unfold opC
      rw [if_neg k1, if_pos (show sg = 256 ∧ (s = -2 ∨ ¬ isPt T1 s = 0) ∧ (r1 = -2 ∨ ¬ isPt T1 r1 = 0) from ⟨a0, b1, b2⟩)]
      by_cases a3 : s = -2
      · rw [if_pos (Or.inl a3)]
        exact wp_t a3 (wp_some ⟨rfl, rfl⟩)
      refine wp_f a3 ?_
      by_cases a4 : r1 = -2
      · rw [if_pos (Or.inr a4)]
        exact wp_t a4 (wp_some ⟨rfl, rfl⟩)
      refine wp_f a4 ?_
      rw [if_neg (show ¬ (s = -2 ∨ r1 = -2) from fun q => q.elim a3 a4)]
      have p1 := isPt_pos (b1.resolve_left a3)
      have p2 := isPt_pos (b2.resolve_left a4)
      have zs : inb s 6000 := hts.inr (by omega) p1
      have zr : inb r1 6000 := htr.inr (by omega) p2
      refine wp_be (x_sameC zs zr) ?_
      unfold tf
      have d1 := x_dOv (nf := nf) (d := d + 1) (r := T1.1 67 s.toNatClampNeg) hRi (hrc r1 hr zr p2) hnf
      have d2 := x_dOv (nf := nf) (d := d + 1) (r := T1.1 67 r1.toNatClampNeg) hRi (hrc s hs1 zs p1) hnf
      have no : ∀ K, K = rj_Model_checkOperator_187 (RR nf (d + 3)) nf T1 (nI m) s r1 0 → K = some (0, 0, flT T1 4 pr) := by
        intro K hK
        rw [hK]
        unfold rj_Model_checkOperator_187
        rw [if_pos rfl]
        exact f4r _ rfl
      have yes : wp (rj_Model_checkOperator_187 (RR nf (d + 3)) nf T1 (nI m) s r1 1) (fun r _ T' => r = (if isLv T1 (T1.1 67 s.toNatClampNeg) = 0 then ((0 : Int32), flT T1 5 pl) else if isLv T1 (T1.1 67 r1.toNatClampNeg) = 0 then (0, flT T1 5 pr) else (0, T1)).1 ∧ T' = (if isLv T1 (T1.1 67 s.toNatClampNeg) = 0 then ((0 : Int32), flT T1 5 pl) else if isLv T1 (T1.1 67 r1.toNatClampNeg) = 0 then (0, flT T1 5 pr) else (0, T1)).2) := by
        unfold rj_Model_checkOperator_187
        refine wp_f (by decide) (wp_gd zs (wp_be x_isLv ?_))
        by_cases g1 : isLv T1 (T1.1 67 s.toNatClampNeg) = 0
        · simp only [if_pos g1]
          rw [f5l _ rfl]
          exact wp_some ⟨rfl, rfl⟩
        simp only [if_neg g1]
        refine wp_gd zr (wp_be x_isLv ?_)
        by_cases g2 : isLv T1 (T1.1 67 r1.toNatClampNeg) = 0
        · simp only [if_pos g2]
          rw [f5r _ rfl]
          exact wp_some ⟨rfl, rfl⟩
        simp only [if_neg g2]
        exact wp_some ⟨rfl, rfl⟩
      by_cases a5 : sameC T1 s r1 = 0
      · refine wp_t a5 ?_
        rw [if_neg (show ¬ (¬ sameC T1 s r1 = 0 ∧ (¬ dOv T1 (T1.1 67 s.toNatClampNeg) (T1.1 67 r1.toNatClampNeg) = 0 ∨ ¬ dOv T1 (T1.1 67 r1.toNatClampNeg) (T1.1 67 s.toNatClampNeg) = 0)) from fun q => q.1 a5), no _ rfl]
        exact wp_some ⟨rfl, rfl⟩
      refine wp_f a5 (wp_gd zs (wp_gd zr (wp_be d1 ?_)))
      by_cases a6 : dOv T1 (T1.1 67 s.toNatClampNeg) (T1.1 67 r1.toNatClampNeg) = 0
      · refine wp_t a6 (wp_gd zr (wp_gd zs (wp_be d2 ?_)))
        by_cases a7 : dOv T1 (T1.1 67 r1.toNatClampNeg) (T1.1 67 s.toNatClampNeg) = 0
        · refine wp_t a7 ?_
          rw [if_neg (show ¬ (¬ sameC T1 s r1 = 0 ∧ (¬ dOv T1 (T1.1 67 s.toNatClampNeg) (T1.1 67 r1.toNatClampNeg) = 0 ∨ ¬ dOv T1 (T1.1 67 r1.toNatClampNeg) (T1.1 67 s.toNatClampNeg) = 0)) from fun q => q.2.elim (fun q2 => q2 a6) (fun q2 => q2 a7)), no _ rfl]
          exact wp_some ⟨rfl, rfl⟩
        · refine wp_f a7 ?_
          rw [if_pos (show ¬ sameC T1 s r1 = 0 ∧ (¬ dOv T1 (T1.1 67 s.toNatClampNeg) (T1.1 67 r1.toNatClampNeg) = 0 ∨ ¬ dOv T1 (T1.1 67 r1.toNatClampNeg) (T1.1 67 s.toNatClampNeg) = 0) from ⟨a5, Or.inr a7⟩)]
          exact yes
      · refine wp_f a6 ?_
        rw [if_pos (show ¬ sameC T1 s r1 = 0 ∧ (¬ dOv T1 (T1.1 67 s.toNatClampNeg) (T1.1 67 r1.toNatClampNeg) = 0 ∨ ¬ dOv T1 (T1.1 67 r1.toNatClampNeg) (T1.1 67 s.toNatClampNeg) = 0) from ⟨a5, Or.inl a6⟩)]
        exact yes
    · exact wp_f a0 (j276 k1 (fun q => a0 q.1))
  have j57 : ¬ (sg = 43 ∧ ¬ isRo T1 s = 0 ∧ r1 = 0) → wp (rj_Model_checkOperator_57 (RR nf (d + 3)) nf T1 (nI m) s r1) (fun r _ T' => r = (opC T1 sg s r1 pl pr).1 ∧ T' = (opC T1 sg s r1 pl pr).2) := by
    intro k1
    have j76 : ∀ x4 : Int32, (x4 = 0 ↔ ¬ (s = -2 ∨ ¬ isPt T1 s = 0)) → wp (rj_Model_checkOperator_76 (RR nf (d + 3)) nf T1 (nI m) s r1 x4) (fun r _ T' => r = (opC T1 sg s r1 pl pr).1 ∧ T' = (opC T1 sg s r1 pl pr).2) := by
      intro x4 hx4
      unfold rj_Model_checkOperator_76
      by_cases a1 : r1 = -2
      · exact wp_t a1 (j97 k1 x4 1 hx4 ⟨fun q => absurd q (by decide), fun q => absurd (Or.inl a1) q⟩)
      refine wp_f a1 (wp_be (x_isPt htr (by omega)) ?_)
      by_cases a2 : isPt T1 r1 = 0
      · exact wp_t a2 (j97 k1 x4 0 hx4 ⟨fun _ q => q.elim a1 (fun q2 => q2 a2), fun _ => rfl⟩)
      · exact wp_f a2 (j97 k1 x4 1 hx4 ⟨fun q => absurd q (by decide), fun q => absurd (Or.inr a2) q⟩)
    unfold rj_Model_checkOperator_57
    by_cases a1 : s = -2
    · exact wp_t a1 (j76 1 ⟨fun q => absurd q (by decide), fun q => absurd (Or.inl a1) q⟩)
    refine wp_f a1 (wp_be (x_isPt hts (by omega)) ?_)
    by_cases a2 : isPt T1 s = 0
    · exact wp_t a2 (j76 0 ⟨fun _ q => q.elim a1 (fun q2 => q2 a2), fun _ => rfl⟩)
    · exact wp_f a2 (j76 1 ⟨fun q => absurd q (by decide), fun q => absurd (Or.inr a2) q⟩)
  rw [o54]
  by_cases a0 : sg = 43
  · refine wp_t a0 (wp_be (x_isRo hts (by omega)) ?_)
    by_cases a1 : isRo T1 s = 0
    · exact wp_t a1 (j57 (fun q => q.2.1 a1))
    refine wp_f a1 ?_
    by_cases a2 : r1 = 0
    · refine wp_t a2 ?_
      unfold opC
      rw [if_pos (show sg = 43 ∧ ¬ isRo T1 s = 0 ∧ r1 = 0 from ⟨a0, a1, a2⟩)]
      exact wp_some ⟨rfl, rfl⟩
    · exact wp_f a2 (j57 (fun q => a2 q.2.2))
  · exact wp_f a0 (j57 (fun q => a0 q.1))
end XN
