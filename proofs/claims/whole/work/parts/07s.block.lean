/-! BLOCKS -/
abbrev FB (n : Nat) (last : Int32) (T T' : gSt) : Prop := Fz T T' ∧ (∀ g j, 50 ≤ g → g ≤ 61 → g ≠ 60 → j < nN T → ¬ (g = 57 ∧ j = n) → ¬ (g = 52 ∧ j = n ∧ last = -1) → ¬ (g = 55 ∧ nI j = last) → T'.1 g j = T.1 g j) ∧ (∀ j, j < nN T → T'.2 56 j = T.2 56 j) ∧ nN T ≤ nN T' ∧ Aw T T'
def LQ (X : Lx) (T : gSt) (n : Nat) (last : Int32) (i m : Nat) (res : SR) (T' : gSt) : Prop := match res with
  | .ok (s, j, v, g) => i ≤ j ∧ Gs X T' (j + 1) v g ∧ v ≤ 20 ∧ g ≤ 8 ∧ FB n last T T' ∧ T'.1 57 n = nI (xP X j) ∧ xK X j = 41 ∧ nN T' + 2 * i ≤ nN T + 2 * j ∧ ∃ z, RepS X T' s (nN T) (nN T) (nN T') z ∧ (last = -1 → T.1 52 n = -1 → T'.1 52 n = z) ∧ ∀ L, last = nI L → L < nN T → T.1 55 L = -1 → T'.1 55 L = z
  | .error e => i ≤ e ∧ e ≤ xn X ∧ Zb X e T (2 * e + 4 * (m + 1) + 4) T'
section BL
variable {nf d : Nat} {T T0 T1 T2 : gSt} {X : Lx} {e B i j m n v g : Nat}
/-- the next of a node is no part of what it holds itself -/
theorem RepS.nx {k i e p lo hi q : Nat} {a b : Tr} {z : Int32} (h : RepS X T (tD k i e a b) p lo hi (nI q)) (k11 : k ≠ 11) (k12 : k ≠ 12) (hq : q < 8200) (hh : hi ≤ 8200) : RepS X (sI T 55 q z) (tD k i e a b) p lo hi (nI q) := by
  have w : ∀ g' m', g' ≠ 55 → (sI T 55 q z).1 g' m' = T.1 g' m' := fun g' m' hg => by rw [sI_ne hg]
  have nm : ∀ m' t', nmd X T m' t' → nmd X (sI T 55 q z) m' t' := fun m' t' h => ⟨h.1, by rw [w 57 m' (by omega)]; exact h.2⟩
  have ru : ∀ u i' e', RepU X T u i' e' → RepU X (sI T 55 q z) u i' e' := fun u i' e' h => RepU.aw (Aw.w (by omega)) h
  have aw : Aw T (sI T 55 q z) := Aw.w (by omega)
  rw [RepS_n] at h ⊢
  unfold RsN at h ⊢
  by_cases c : k = 20
  · simp only [if_pos c] at h ⊢
    obtain ⟨r1, r2, r3, r4, r5, r6, ⟨u, r7, r8⟩, r9⟩ := h
    have e1 : q = lo := nI_inj (by omega) (by omega) r1
    rw [w 50 lo (by omega), w 51 lo (by omega), w 61 lo (by omega), w 53 lo (by omega), w 52 lo (by omega)]
    exact ⟨r1, r2, r3, r4, nm _ _ r5, r6, ⟨u, r7, RepW.av 6 u _ aw.av r8⟩, RepM.ag (Ag.rf.w (by omega) (Or.inl (by omega))) r9⟩
  simp only [if_neg c] at h ⊢
  clear c
  by_cases c : k = 21
  · simp only [if_pos c] at h ⊢
    obtain ⟨r1, r2, r3, d, r4, r5, r6, r7⟩ := h
    have e1 : q = lo := nI_inj (by omega) (by omega) r1
    rw [w 50 lo (by omega), w 51 lo (by omega), w 52 lo (by omega)]
    exact ⟨r1, r2, r3, d, r4, r5, RepM.ag (Ag.rf.w (by omega) (Or.inl (by omega))) r6, RepS.ag ⟨Ag.rf.w (by omega) (Or.inl (by omega)), fun _ => ⟨w 53 lo (by omega), w 54 lo (by omega)⟩, aw⟩ r7⟩
  simp only [if_neg c, if_neg k12] at h ⊢
  clear c
  by_cases c : k = 22
  · simp only [if_pos c] at h ⊢
    obtain ⟨r1, r2, r3, d, r4, r5, r6, r7⟩ := h
    have e1 : q = lo := nI_inj (by omega) (by omega) r1
    rw [w 50 lo (by omega), w 51 lo (by omega), w 52 lo (by omega), w 53 lo (by omega)]
    exact ⟨r1, r2, r3, d, r4, r5, RepM.ag (Ag.rf.w (by omega) (Or.inl (by omega))) r6, RepS.own (Ag.rf.w (by omega) (Or.inl (by omega))) aw r7⟩
  simp only [if_neg c] at h ⊢
  clear c
  by_cases c : k = 23
  · simp only [if_pos c] at h ⊢
    obtain ⟨r1, r2, r3, r4, r5⟩ := h
    have e1 : q = lo := nI_inj (by omega) (by omega) r1
    rw [w 50 lo (by omega), w 51 lo (by omega), w 52 lo (by omega)]
    exact ⟨r1, r2, r3, r4, RepM.ag (Ag.rf.w (by omega) (Or.inl (by omega))) r5⟩
  simp only [if_neg c] at h ⊢
  clear c
  by_cases c : k = 24 ∨ k = 25 ∨ k = 30
  · simp only [if_pos c] at h ⊢
    obtain ⟨m', r1, r2, r3, r4, r5, r6⟩ := h
    have e1 : q = m' := nI_inj (by omega) (by omega) r1
    refine ⟨m', r1, r2, r3, ?_, by rw [w 50 m' (by omega)]; exact r5, by rw [w 51 m' (by omega)]; exact r6⟩
    rw [w 52 m' (by omega)]
    exact RepM.ag (Ag.rf.w (by omega) (Or.inr (by omega))) r4
  simp only [if_neg c] at h ⊢
  clear c
  by_cases c : k = 29
  · simp only [if_pos c] at h ⊢
    obtain ⟨m', r1, r2, r3, r4, r5, r6, r7⟩ := h
    have e1 : q = m' := nI_inj (by omega) (by omega) r1
    refine ⟨m', r1, r2, r3, ?_, ?_, by rw [w 50 m' (by omega)]; exact r6, by rw [w 51 m' (by omega)]; exact r7⟩
    · rw [w 52 m' (by omega)]; exact RepM.ag (Ag.rf.w (by omega) (Or.inr (by omega))) r4
    · rw [w 53 m' (by omega)]; exact RepM.ag (Ag.rf.w (by omega) (Or.inl (by omega))) r5
  simp only [if_neg c] at h ⊢
  clear c
  by_cases c : k = 26
  · simp only [if_pos c] at h ⊢
    obtain ⟨r1, r2, r3, r4, ⟨u, r5, r6⟩, r7⟩ := h
    have e1 : q = lo := nI_inj (by omega) (by omega) r1
    rw [w 50 lo (by omega), w 51 lo (by omega), w 52 lo (by omega), w 58 lo (by omega)]
    exact ⟨r1, r2, r3, r4, ⟨u, r5, ru _ _ _ r6⟩, RepS.own (Ag.rf.w (by omega) (Or.inl (by omega))) aw r7⟩
  simp only [if_neg c] at h ⊢
  clear c
  by_cases c : k = 27
  · simp only [if_pos c] at h ⊢
    obtain ⟨r1, r2, r3, r4, u, r5, r6⟩ := h
    rw [w 50 lo (by omega), w 51 lo (by omega), w 58 lo (by omega)]
    exact ⟨r1, r2, r3, r4, u, r5, ru _ _ _ r6⟩
  simp only [if_neg c] at h ⊢
  clear c
  by_cases c : k = 28
  · simp only [if_pos c] at h ⊢
    obtain ⟨r1, r2, r3, d, r4, r5, r6, r7⟩ := h
    have e1 : q = lo := nI_inj (by omega) (by omega) r1
    rw [w 50 lo (by omega), w 51 lo (by omega), w 52 lo (by omega), w 53 lo (by omega)]
    exact ⟨r1, r2, r3, d, r4, r5, RepS.own (Ag.rf.w (by omega) (Or.inl (by omega))) aw r6, RepS.own (Ag.rf.w (by omega) (Or.inl (by omega))) aw r7⟩
  simp only [if_neg c] at h ⊢
  clear c
  by_cases c : k = 31
  · simp only [if_pos c] at h ⊢
    obtain ⟨r1, r2, r3, r4, r5⟩ := h
    have e1 : q = lo := nI_inj (by omega) (by omega) r1
    rw [w 50 lo (by omega), w 57 lo (by omega), w 52 lo (by omega)]
    exact ⟨r1, r2, r3, r4, RepS.own (Ag.rf.w (by omega) (Or.inl (by omega))) aw r5⟩
  simp only [if_neg c, if_neg k11] at h
/-- a state is what it was with one number back -/
theorem sI_id {g' j' : Nat} : sI T g' j' (T.1 g' j') = T := by
  unfold sI upd
  refine Prod.ext ?_ rfl
  funext k l
  dsimp only
  by_cases h : k = g'
  · subst h
    rw [if_pos rfl]
    by_cases h2 : l = j'
    · subst h2; rw [if_pos rfl]
    · rw [if_neg h2]
  · rw [if_neg h]
theorem sI_sI {g' j' : Nat} {x y : Int32} : sI (sI T g' j' x) g' j' y = sI T g' j' y := by
  refine Prod.ext ?_ rfl
  funext k l
  rw [rdI, rdI, rdI]
  by_cases h : k = g' ∧ l = j'
  · rw [if_pos h, if_pos h]
  · rw [if_neg h, if_neg h, if_neg h]
set_option maxHeartbeats 4000000 in
theorem LQ_cons {T3 T5 : gSt} {q gg jj : Nat} {last : Int32} {s : Tr} {res : SR} (hF : Fs T T3) (hb : nN T3 < 8200) (hn : n < nN T) (hR : RepS X T3 s (nN T) (nN T) (nN T3) (nI q)) (hq1 : nN T ≤ q) (hq2 : q < nN T3) (h55 : T3.1 55 q = -1) (hs : ∃ k i e a b, s = tD k i e a b ∧ k ≠ 11 ∧ k ≠ 12) (hgj : gg = 52 ∧ jj = n ∧ last = -1 ∨ gg = 55 ∧ last = nI jj ∧ n < jj ∧ jj < nN T) (hij : i < j) (hbn : nN T3 + 2 * i ≤ nN T + 2 * j) (h5 : nN T5 ≤ 8200) (hq : LQ X (sI T3 gg jj (nI q)) n (nI q) j m res T5) : LQ X T n last i m (sb res fun r j3 v3 g3 => .ok (tD 11 0 0 s r, j3, v3, g3)) T5 := by
  have hjj : jj < nN T := by omega
  have hgg : gg = 52 ∨ gg = 55 := by omega
  have hN4 : nN (sI T3 gg jj (nI q)) = nN T3 := by rw [nN_w (by omega)]
  have fz4 : Fz T (sI T3 gg jj (nI q)) := hF.1.w (show pwI gg by omega)
  have aw4 : Aw T (sI T3 gg jj (nI q)) := hF.2.2.2.tr (Aw.w (by omega))
  cases res with
  | error e =>
    obtain ⟨s1, s2, s3⟩ := hq
    exact ⟨by omega, s2, s3.fz fz4⟩
  | ok tj =>
    obtain ⟨rr, j2, v2, g2⟩ := tj
    obtain ⟨s1, s2, s3, s4, s5, s6, s7, s8, z, s9, s10, s11⟩ := hq
    obtain ⟨t1, t2, t3, t4, t5⟩ := s5
    rw [hN4] at s8 s9 t2 t3 t4
    have k55 : (sI T3 gg jj (nI q)).1 55 q = -1 := by
      rw [rdI, if_neg (by omega)]
      exact h55
    have s12 := s11 q rfl (by rw [hN4]; omega) k55
    have nlh : nI q ≠ -1 := neg1_lt (by omega)
    have old : ∀ g' j', 50 ≤ g' → g' ≤ 61 → g' ≠ 60 → j' < nN T3 → ¬ (g' = 57 ∧ j' = n) → ¬ (g' = gg ∧ j' = jj) → ¬ (g' = 55 ∧ j' = q) → T5.1 g' j' = T3.1 g' j' := by
      intro g' j' c1 c2 c3 c4 c5 c6 c7
      rw [t2 g' j' c1 c2 c3 c4 c5 (fun q' => nlh q'.2.2) (fun q' => c7 ⟨q'.1, nI_inj (by omega) (by omega) q'.2⟩), rdI, if_neg c6]
    have awT : Aw T3 T5 := (Aw.w (by omega)).tr t5
    refine ⟨by omega, s2, s3, s4, ⟨fz4.tr t1, ?_, ?_, by have := hF.2.2.1; omega, aw4.tr t5⟩, s6, s7, by omega, nI q, ?_, ?_, ?_⟩
    · intro g' j' c1 c2 c3 c4 c5 c6 c7
      have c8 : ¬ (g' = gg ∧ j' = jj) := by
        intro q'
        rcases hgj with ⟨a1, a2, a3⟩ | ⟨a1, a2, a3, a4⟩
        · exact c6 ⟨q'.1.trans a1, q'.2.trans a2, a3⟩
        · exact c7 ⟨q'.1.trans a1, by rw [q'.2]; exact a2.symm⟩
      rw [old g' j' c1 c2 c3 (by omega) c5 c8 (by omega)]
      exact hF.2.1.1 g' j' c1 c2 c3 (by omega) c4
    · intro j' c4
      rw [t3 j' (by omega), rdIJ]
      exact hF.2.1.2.1 j' (by omega) c4
    · rw [RepS_n]
      unfold RsN
      rw [if_neg (by decide), if_neg (by decide), if_neg (by decide), if_neg (by decide), if_neg (by decide), if_neg (by decide), if_neg (by decide), if_neg (by decide), if_neg (by decide), if_neg (by decide), if_neg (by decide), if_pos (by decide)]
      refine ⟨q, nN T3, rfl, hq1, hq2, by omega, ?_, ?_⟩
      · have ag : Ag T3 (sI T5 55 q (-1)) (nN T) (nN T3) := by
          refine ⟨fun g' j' c1 c2 c3 c4 c5 => ?_, fun j' c4 c5 => ?_, ?_, fun j' c4 => ?_⟩
          · rw [rdI]
            by_cases c : g' = 55 ∧ j' = q
            · rw [if_pos c, c.1, c.2, h55]
            · rw [if_neg c]
              exact old g' j' c1 c2 c3 c5 (by omega) (by omega) c
          · rw [rdIJ, t3 j' (by omega), rdIJ]
          · rw [nU_w (by omega)]; exact awT.1
          · rw [rdIJ, sI_ne (by omega)]
            exact awT.2.1 j' c4
        have h6 := RepS.own ag (awT.tr (Aw.w (by omega))) hR
        obtain ⟨k, i', e', a', b', hs1, hs2, hs3⟩ := hs
        subst hs1
        have h7 := RepS.nx (z := T5.1 55 q) h6 hs2 hs3 (by omega) (by omega)
        rw [sI_sI, sI_id] at h7
        exact h7
      · rw [s12]; exact s9
    · intro hl _
      rcases hgj with ⟨a1, a2, a3⟩ | ⟨a1, a2, a3, a4⟩
      · rw [← a2, t2 52 jj (by omega) (by omega) (by omega) (by omega) (by omega) (fun q' => nlh q'.2.2) (by omega), ← a1, sI_v]
      · exact absurd (a2.symm.trans hl) (neg1_lt (by omega))
    · intro L hL hL2 _
      rcases hgj with ⟨a1, a2, a3⟩ | ⟨a1, a2, a3, a4⟩
      · exact absurd (hL.symm.trans a3) (neg1_lt (by omega))
      · have e3 : jj = L := nI_inj (by omega) (by omega) (a2.symm.trans hL)
        rw [← e3, t2 55 jj (by omega) (by omega) (by omega) (by omega) (by omega) (by omega) (fun q' => by
          have := nI_inj (a := jj) (b := q) (by omega) (by omega) q'.2
          omega), ← a1, sI_v]
end BL
