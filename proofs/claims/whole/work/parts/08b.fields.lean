/-! rows of fields -/
abbrev Fdl (t c q n : Nat) (T T' : gSt) : Prop := Fy T T' ∧ Fn T T' ∧ T'.1 63 = T.1 63 ∧ nN T' = nN T ∧ T'.1 20 0 = nI (c + n) ∧ T'.1 64 0 = nI t ∧ T'.1 19 t = nI (q + n) ∧ (∀ g j, 11 ≤ g → g ≤ 36 → ¬ (g = 20) → ¬ (g = 19 ∧ j = t) → ¬ (22 ≤ g ∧ g ≤ 23 ∧ c ≤ j) → T'.1 g j = T.1 g j) ∧ (∀ g j, 13 ≤ g → g ≤ 32 → ¬ (g = 21 ∧ c ≤ j) → T'.2 g j = T.2 g j)
abbrev RepFs (X : Lx) (T : gSt) (c : Nat) (l : List Nat) : Prop := ∀ k, k < l.length → RepF X T (c + k) (l.getD k 0)
section FL
variable {nf d : Nat} {T T0 T1 T2 : gSt} {X : Lx} {e B i j m n v g t c q : Nat}
theorem Fdd.fl (h : Fdd t c q T T1) : Fdl t c q 1 T T1 := ⟨h.1, h.2.1, h.2.2.2.1, h.2.2.2.2.1, h.2.2.2.2.2.1, h.2.2.2.2.2.2.1, h.2.2.2.2.2.2.2.1, fun g j a b c d e => h.2.2.2.2.2.2.2.2.1 g j a b c d (by omega), fun g j a b c => h.2.2.2.2.2.2.2.2.2 g j a b (by omega)⟩
theorem Fdl.tr {k : Nat} (h : Fdl t c q n T T1) (h2 : Fdl t (c + n) (q + n) k T1 T2) : Fdl t c q (n + k) T T2 := ⟨h.1.tr h2.1, h.2.1.tr h2.2.1, h2.2.2.1.trans h.2.2.1, h2.2.2.2.1.trans h.2.2.2.1, by rw [h2.2.2.2.2.1]; congr 1; omega, h2.2.2.2.2.2.1, by rw [h2.2.2.2.2.2.2.1]; congr 1; omega, fun g j a b c d e => (h2.2.2.2.2.2.2.2.1 g j a b c d (by omega)).trans (h.2.2.2.2.2.2.2.1 g j a b c d e), fun g j a b c => (h2.2.2.2.2.2.2.2.2 g j a b (by omega)).trans (h.2.2.2.2.2.2.2.2 g j a b c)⟩
theorem RepF.fl {k c' : Nat} (h : RepF X T c j) (hF : Fdl t c' q k T T1) (hc : c < c') : RepF X T1 c j := by
  obtain ⟨a1, a2, w, a3, a4⟩ := h
  refine ⟨(hF.2.2.2.2.2.2.2.2 21 c (by omega) (by omega) (by omega)).trans a1, (hF.2.2.2.2.2.2.2.1 22 c (by omega) (by omega) (by omega) (by omega) (by omega)).trans a2, w, (hF.2.2.2.2.2.2.2.1 23 c (by omega) (by omega) (by omega) (by omega) (by omega)).trans a3, RepW.av 6 w _ hF.2.1.2.2.av a4⟩
theorem b_field (h : Zi X e T0 B T) (hI : Ic T t c) : wp (RR nf (d + 30) 25 T [] []) (fun _ _ T' => Zi X e T0 B T' ∧ Ic T' t c) := by
  obtain ⟨i1, i2, i3, i4⟩ := hI
  have hcI : inb (nI c) 220 := nin (by omega) (by omega)
  rw [e_Model_readField]
  unfold rb_Model_readField
  refine wp_gd (by rw [i3]; exact hcI) ?_
  refine wp_st ?_
  refine wp_gd (by rw [rdJI, i3]; exact hcI) ?_
  refine wp_st ?_
  have h1 : Zi X e T0 B (sI (sJ T 21 (T.1 20 0).toNatClampNeg (T.2 6 0)) 22 ((sJ T 21 (T.1 20 0).toNatClampNeg (T.2 6 0)).1 20 0).toNatClampNeg ((sJ T 21 (T.1 20 0).toNatClampNeg (T.2 6 0)).1 3 0)) := (h.wj (by omega)).w (by omega)
  refine wp_be (q_nm1 h1.bd) ?_
  refine wp_be (q_nd1 h1.bd _) ?_
  refine wp_be (q_bad1 h1.bd) ?_
  refine wp_f (by decide) ?_
  exact wp_some ⟨h1, by rw [sI_ne (by omega)]; exact i1, i2, by rw [sI_ne (by omega)]; exact i3, i4⟩
/-- what a struct's fields and its end come to -/
def GQ (X : Lx) (T : gSt) (t c q j : Nat) (res : Except Nat (List Nat × Nat)) (T' : gSt) : Prop := match res with
  | .ok (l, j3) => j < j3 ∧ Gd X T' j3 ∧ Gw T' j3 ∧ Fdl t c q l.length T T' ∧ RepFs X T' c l
  | .error e => j ≤ e ∧ Zi X e T (nN T) T'
def pSt (K : Nat → Nat) (x : Except Nat (List Nat × Nat)) : Except Nat (List Nat × Nat) := match x with
  | .error e => .error e
  | .ok (l, j) => if K (j + 1) = 46 then .ok (l, j + 2) else .error (j + 1)
theorem b_312 {rec_ : gSt → gR} (h : Zi X e T0 B T) (hI : Ic T t c) : wp (rj_Model_readItem_312 (RR nf (d + 30)) nf rec_ T) (fun _ _ T' => Zi X e T0 B T') := by
  unfold rj_Model_readItem_312
  refine wp_bi (b_field h hI) ?_
  intro r l T1 h1
  refine wp_be (q_nd1 h1.1.bd _) ?_
  refine wp_be (q_bad1 h1.1.bd) ?_
  refine wp_f (by decide) ?_
  refine wp_be (q_nd1 h1.1.bd _) ?_
  refine wp_be (q_nd1 h1.1.bd _) ?_
  exact wp_some h1.1
theorem Gd.zi (h : Gd X T i) (hy : Fy T0 T) (hB : nN T ≤ B) : Zi X i T0 B (failS T 1 (T.1 3 0)) := (h.fail Fz.rf hB).zi hy h.1.1
theorem failS_f {n p : Int32} {g' : Nat} (h : g' ≠ 7) (h2 : g' ≠ 8) : (failS T n p).1 g' = T.1 g' := by unfold failS; rw [sI_ne h2, sI_ne h]
set_option maxHeartbeats 4000000 in
theorem x_fl (hX : LX X) (hnf : 5000 ≤ nf) : ∀ (f fl q : Nat) (T : gSt) (j c : Nat), Gd X T j → Gw T j → Ic T t c → T.1 19 t = nI q → q ≤ 8 → 8 < q + f → 8 < q + fl → c ≤ 200 + q → wp (rl_Model_readItem_294 (RR nf (d + 30)) nf fl T) (fun _ _ T' => GQ X T t c q j (pSt (xK X) (pFl (xK X) f q j)) T') := by
  have hx := hX.1
  intro f
  induction f with
  | zero => intro fl q T j c hG hW hI hq h1 h2 h3 h4; omega
  | succ f ih =>
    intro fl q T j c hG hW hI hq h1 h2 h3 h4
    have hj := hG.1.1
    obtain ⟨fl', rfl⟩ : ∃ g, fl = g + 1 := ⟨fl - 1, by omega⟩
    have htI : inb (nI t) 24 := nin (by have := hI.2.1; omega) (by omega)
    have ct : (nI t).toNatClampNeg = t := nc (by have := hI.2.1; omega)
    rw [rl_Model_readItem_294, pFl]
    refine wp_gd (by rw [hI.1]; exact htI) ?_
    rw [hI.1, ct, hq]
    by_cases q8 : q = 8
    · subst q8
      rw [if_pos (show 8 = 8 from rfl)]
      refine wp_t (by rfl) ?_
      refine wp_be (q_wrong0 hG.2.1) ?_
      refine wp_mono (b_312 (t := t) (c := c) (hG.zi Fy.rf (Nat.le_refl _)) ⟨by rw [failS_f (by omega) (by omega)]; exact hI.1, hI.2.1, by rw [failS_f (by omega) (by omega)]; exact hI.2.2.1, hI.2.2.2⟩) ?_
      intro r l T' h
      exact ⟨Nat.le_refl _, h⟩
    · rw [if_neg q8]
      refine wp_f (fun e8 => q8 (nI_inj (a := q) (b := 8) (by omega) (by omega) e8)) ?_
      unfold rj_Model_readItem_312
      refine wp_bi (x_field hX hnf hG hW hI (by omega) hq h1) ?_
      intro r l S1 h1'
      generalize pField (xK X) j = res at h1' ⊢
      cases res with
      | error e =>
        obtain ⟨a1, a2, -⟩ := h1'
        refine wp_be (q_nd1 a2.bd _) ?_
        refine wp_be (q_bad1 a2.bd) ?_
        refine wp_f (by decide) ?_
        refine wp_be (q_nd1 a2.bd _) ?_
        refine wp_be (q_nd1 a2.bd _) ?_
        exact wp_some ⟨a1, a2⟩
      | ok j2 =>
        obtain ⟨a1, a2, a3, a4, a5⟩ := h1'
        have hj2 := a2.1.1
        have f1 := Fdd.fl a4
        dsimp only
        refine g_need (d := d + 26) hX 46 a2 rfl (by omega) (by omega) (fun k46 hj3 => ?_) (fun k46 S hz => ?_)
        · rw [if_pos k46]
          have hG2 := a2.adv hX hj3
          have hW2 := a3.adv
          have f2 : Fdl t c q 1 T (advS S1) := ⟨f1.1.tr Fz.rf.adv.fy, f1.2.1.adv, (advS_if (by omega)).trans f1.2.2.1, by rw [nN_adv]; exact f1.2.2.2.1, by rw [advS_i (by omega)]; exact f1.2.2.2.2.1, by rw [advS_i (by omega)]; exact f1.2.2.2.2.2.1, by rw [advS_i (by omega)]; exact f1.2.2.2.2.2.2.1, fun g j a b c d e => (advS_i (by omega)).trans (f1.2.2.2.2.2.2.2.1 g j a b c d e), fun g j a b c => (advS_j (by omega)).trans (f1.2.2.2.2.2.2.2.2 g j a b c)⟩
          have r2 : RepF X (advS S1) c j := by
            obtain ⟨b1, b2, w, b3, b4⟩ := a5
            exact ⟨(advS_j (by omega)).trans b1, (advS_i (by omega)).trans b2, w, (advS_i (by omega)).trans b3, RepW.av 6 w _ Fe.rf.adv.aw.av b4⟩
          generalize advS S1 = S2 at *
          refine wp_be (q_bad0 hG2.2.1) ?_
          refine wp_t rfl ?_
          have hj4 := hG2.1.1
          by_cases k41 : xK X (j2 + 1) = 41
          · have hj5 := hG2.lt hX (by omega)
            rw [if_pos k41]
            refine wp_be (q_sgY hX hG2.1 hG2.2.1 41 rfl k41 (by omega)) ?_
            refine wp_f (by decide) ?_
            refine wp_be (q_ndY hX hG2.1 hG2.2.1 41 rfl k41 (by omega)) ?_
            have hG3 := hG2.adv hX hj5
            have hj6 := hG3.1.1
            unfold pSt
            dsimp only
            refine g_need (d := d + 26) hX 46 hG3 rfl (by omega) (by omega) (fun k hj7 => ?_) (fun k S hz => ?_)
            · rw [if_pos (show xK X (j2 + 1 + 1) = 46 from k)]
              have f3 : Fdl t c q 1 T (advS (advS S2)) := ⟨f2.1.tr Fz.rf.adv.adv.fy, f2.2.1.adv.adv, (advS_if (by omega)).trans ((advS_if (by omega)).trans f2.2.2.1), by rw [nN_adv, nN_adv]; exact f2.2.2.2.1, by rw [advS_i (by omega), advS_i (by omega)]; exact f2.2.2.2.2.1, by rw [advS_i (by omega), advS_i (by omega)]; exact f2.2.2.2.2.2.1, by rw [advS_i (by omega), advS_i (by omega)]; exact f2.2.2.2.2.2.2.1, fun g j a b c d e => (advS_i (by omega)).trans ((advS_i (by omega)).trans (f2.2.2.2.2.2.2.2.1 g j a b c d e)), fun g j a b c => (advS_j (by omega)).trans ((advS_j (by omega)).trans (f2.2.2.2.2.2.2.2.2 g j a b c))⟩
              refine wp_some ⟨by omega, hG3.adv hX hj7, hW2.adv.adv, f3, fun k' hk' => ?_⟩
              have e0 : k' = 0 := by simp only [List.length_cons, List.length_nil] at hk'; omega
              subst e0
              obtain ⟨b1, b2, w, b3, b4⟩ := r2
              exact ⟨(advS_j (by omega)).trans ((advS_j (by omega)).trans b1), (advS_i (by omega)).trans ((advS_i (by omega)).trans b2), w, (advS_i (by omega)).trans ((advS_i (by omega)).trans b3), RepW.av (T := S2) 6 w _ (Fe.rf.adv.adv.aw).av b4⟩
            · rw [if_neg (show ¬ xK X (j2 + 1 + 1) = 46 from k)]
              refine wp_some ⟨by omega, (hz.zi (f2.1.tr Fz.rf.adv.fy) hj6).le (by rw [nN_adv, f2.2.2.2.1]; exact Nat.le_refl _)⟩
          · rw [if_neg k41]
            refine wp_be (q_sgN hX hG2.1 hG2.2.1 41 rfl k41 (by omega) (by omega)) ?_
            refine wp_t rfl ?_
            have hI2 : Ic S2 t (c + 1) := ⟨f2.2.2.2.2.2.1, hI.2.1, f2.2.2.2.2.1, by omega⟩
            refine wp_mono (ih fl' (q + 1) S2 (j2 + 1) (c + 1) hG2 hW2 hI2 f2.2.2.2.2.2.2.1 (by omega) (by omega) (by omega) (by omega)) ?_
            intro r l T5 h5
            generalize pFl (xK X) f (q + 1) (j2 + 1) = res at h5 ⊢
            cases res with
            | error e =>
              exact ⟨by have := h5.1; omega, (h5.2.fy f2.1).le (by rw [f2.2.2.2.1]; exact Nat.le_refl _)⟩
            | ok lj =>
              obtain ⟨l', j3⟩ := lj
              unfold pSt at h5 ⊢
              dsimp only at h5 ⊢
              by_cases k46' : xK X (j3 + 1) = 46
              · rw [if_pos k46'] at h5 ⊢
                obtain ⟨c1, c2, c3, c4, c5⟩ := h5
                refine ⟨by omega, c2, c3, ?_, fun k hk => ?_⟩
                · have := f2.tr c4
                  rw [show 1 + l'.length = (j :: l').length by simp only [List.length_cons]; omega] at this
                  exact this
                · cases k with
                  | zero => exact r2.fl c4 (by omega)
                  | succ k =>
                    have := c5 k (by simp only [List.length_cons] at hk; omega)
                    rw [show c + 1 + k = c + (k + 1) by omega] at this
                    exact this
              · rw [if_neg k46'] at h5 ⊢
                exact ⟨by have := h5.1; omega, (h5.2.fy f2.1).le (by rw [f2.2.2.2.1]; exact Nat.le_refl _)⟩
        · rw [if_neg k46]
          have hz' := (hz.zi f1.1 hj2).le (by rw [f1.2.2.2.1]; exact Nat.le_refl _ : nN S1 ≤ nN T)
          refine wp_be (q_bad1 hz'.bd) ?_
          refine wp_f (by decide) ?_
          refine wp_be (q_nd1 hz'.bd _) ?_
          refine wp_be (q_nd1 hz'.bd _) ?_
          exact wp_some ⟨by omega, hz'⟩
end FL
