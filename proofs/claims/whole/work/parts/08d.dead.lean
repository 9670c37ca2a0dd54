/-! dead, and what may follow it -/
def pTail (K : Nat → Nat) (j : Nat) : Except Nat (Nat × Nat × Nat) := if K j = 14 then (match pWh K 4 0 (j + 1) with
  | .error e => .error e
  | .ok (w, j3) => .ok (j + 1, w, j3)) else .ok (0, 0, j)
def pDead (K : Nat → Nat) : Nat → Nat → Nat → Except Nat (Nat × Nat)
  | 0, _, j => .error j
  | f + 1, q, j => if K j ≠ 4 then .error j else if K (j + 1) = 4 ∧ q < 2 then pDead K f (q + 1) (j + 1) else .ok (q + 1, j + 1)
abbrev entD (X : Lx) (T : gSt) (t j0 k : Nat) : Prop := T.2 28 (3 * t + k) = xN X (j0 + k) ∧ T.1 29 (3 * t + k) = nI (xP X (j0 + k))
/-- what reading dead and where leaves as it was -/
abbrev Fwd (t : Nat) (T T' : gSt) : Prop := Fy T T' ∧ Fn T T' ∧ T'.1 62 = T.1 62 ∧ T'.1 63 = T.1 63 ∧ nN T' = nN T ∧ T'.1 64 = T.1 64 ∧ (∀ g j, 11 ≤ g → g ≤ 36 → ¬ ((g = 27 ∨ g = 31) ∧ j = t) → ¬ (g = 29 ∧ 3 * t ≤ j ∧ j < 3 * t + 3) → ¬ (g = 33 ∧ 6 * t ≤ j ∧ j < 6 * t + 6) → T'.1 g j = T.1 g j) ∧ (∀ g j, 13 ≤ g → g ≤ 32 → ¬ (g = 28 ∧ 3 * t ≤ j ∧ j < 3 * t + 3) → ¬ (g = 32 ∧ 6 * t ≤ j ∧ j < 6 * t + 6) → T'.2 g j = T.2 g j)
def TLQ (X : Lx) (T : gSt) (t j : Nat) (res : Except Nat (Nat × Nat × Nat)) (T' : gSt) : Prop := match res with
  | .ok (wt, w, j3) => j ≤ j3 ∧ Gd X T' j3 ∧ Gw T' j3 ∧ Fwh t T T' ∧ w ≤ 3 ∧ T'.1 31 t = nI w ∧ ∀ k, k < w → entW X T' t wt k
  | .error e => j ≤ e ∧ Zi X e T (nN T) T' ∧ T'.1 64 0 = nI t
section DD
variable {nf d : Nat} {T T0 T1 T2 : gSt} {X : Lx} {e B i j m n v g t c q : Nat}
theorem Fwh.wd (h : Fwh t T T1) : Fwd t T T1 := ⟨h.1, h.2.1, h.2.2.1, h.2.2.2.1, h.2.2.2.2.1, h.2.2.2.2.2.1, fun g j a b c d e => h.2.2.2.2.2.2.1 g j a b (by omega) (by omega), fun g j a b c d => h.2.2.2.2.2.2.2 g j a b d⟩
theorem Fwd.tr (h : Fwd t T0 T) (h2 : Fwd t T T1) : Fwd t T0 T1 := ⟨h.1.tr h2.1, h.2.1.tr h2.2.1, h2.2.2.1.trans h.2.2.1, h2.2.2.2.1.trans h.2.2.2.1, h2.2.2.2.2.1.trans h.2.2.2.2.1, h2.2.2.2.2.2.1.trans h.2.2.2.2.2.1, fun g j a b c d e => (h2.2.2.2.2.2.2.1 g j a b c d e).trans (h.2.2.2.2.2.2.1 g j a b c d e), fun g j a b c d => (h2.2.2.2.2.2.2.2 g j a b c d).trans (h.2.2.2.2.2.2.2 g j a b c d)⟩
theorem Fwd.w {j : Nat} {x : Int32} (h : Fwd t T0 T) (hg : g = 27 ∧ j = t ∨ g = 29 ∧ 3 * t ≤ j ∧ j < 3 * t + 3) : Fwd t T0 (sI T g j x) := ⟨h.1.w (by omega), h.2.1.w (by omega), (sI_ne (by omega)).trans h.2.2.1, (sI_ne (by omega)).trans h.2.2.2.1, by rw [nN_w (by omega)]; exact h.2.2.2.2.1, (sI_ne (by omega)).trans h.2.2.2.2.2.1, fun g' j' a b c d e => by rw [rdI, if_neg (by omega)]; exact h.2.2.2.2.2.2.1 g' j' a b c d e, h.2.2.2.2.2.2.2⟩
theorem Fwd.wj {j : Nat} {x : Int64} (h : Fwd t T0 T) (hg : 3 * t ≤ j ∧ j < 3 * t + 3) : Fwd t T0 (sJ T 28 j x) := ⟨h.1.wj (by omega), h.2.1.wj (by omega), h.2.2.1, h.2.2.2.1, h.2.2.2.2.1, h.2.2.2.2.2.1, h.2.2.2.2.2.2.1, fun g' j' a b c d => by rw [rdJ, if_neg (by omega)]; exact h.2.2.2.2.2.2.2 g' j' a b c d⟩
theorem Gw.fe (h : Gw T i) (hF : Fe T T1) (hij : i ≤ j) : Gw T1 j := by
  have e : nW T1 = nW T := by unfold nW; rw [hF.2.2.2.1 37 (by omega)]
  exact ⟨by rw [hF.2.2.2.1 37 (by omega), e]; exact h.1, by rw [e]; have := h.2; omega⟩
/-- where, perhaps -/
theorem x_tail (hX : LX X) (hnf : 5000 ≤ nf) (hG : Gd X T j) (hW : Gw T j) (h64 : T.1 64 0 = nI t) (ht : t < 24) (h31 : T.1 31 t = 0) : wp (bi (RR nf (d + 30) 19 T [nI 11] []) fun r25 l25 T25 => if r25 = (0 : Int32) then (some (0, 0, T25)) else (bi (RR nf (d + 30) 27 T25 [] []) fun r27 l27 T27 => some (0, 0, T27))) (fun _ _ T' => TLQ X T t j (pTail (xK X) j) T') := by
  unfold pTail
  by_cases k14 : xK X j = 14
  · have hj := hG.lt hX (by omega)
    rw [if_pos k14]
    refine wp_be (q_twY hX hG.1 hG.2.1 11 (by omega) (by omega) k14) ?_
    refine wp_f (by decide) ?_
    have hG1 := hG.adv hX hj
    have w1 : Fwh t T (advS T) := Fe.rf.adv.wh nN_adv
    have h := x_wh (t := t) (j0 := j + 1) (d := d) hX hnf 4 nf 0 (advS T) (j + 1) (by omega) hG1 hW.adv (by rw [advS_i (by omega)]; exact h64) ht (by rw [advS_i (by omega), h31, nI_0]) (by omega) (by omega) (by omega) (fun k hk => by omega)
    have h2 : wp (RR nf (d + 30) 27 (advS T) [] []) (fun _ _ T' => WQ X (advS T) t (j + 1) (j + 1) (pWh (xK X) 4 0 (j + 1)) T') := by
      rw [e_Model_readWheres]
      exact h
    refine wp_bi h2 ?_
    intro r l T' h3
    generalize pWh (xK X) 4 0 (j + 1) = res at h3 ⊢
    refine wp_some ?_
    cases res with
    | error e => exact ⟨by have := h3.1; omega, (h3.2.1.fy w1.1).le (by rw [nN_adv]; exact Nat.le_refl _), h3.2.2⟩
    | ok wj =>
      obtain ⟨w, j3⟩ := wj
      obtain ⟨b1, b2, b3, b4, b5, b6, b7⟩ := h3
      exact ⟨by omega, b2, b3, w1.tr b4, b5, b6, b7⟩
  · rw [if_neg k14]
    refine wp_be (q_twN hX hG.1 11 (by omega) (by omega) (by show xK X j ≠ 14; omega)) ?_
    refine wp_t rfl ?_
    exact wp_some ⟨Nat.le_refl _, hG, hW, Fwh.rf, by omega, h31.trans nI_0.symm, fun k hk => by omega⟩
theorem b_tail (h : ¬ T.1 7 0 = 0) : (bi (RR nf (d + 30) 19 T [nI 11] []) fun r25 l25 T25 => if r25 = (0 : Int32) then (some (0, 0, T25)) else (bi (RR nf (d + 30) 27 T25 [] []) fun r27 l27 T27 => some (0, 0, T27))) = (some (0, 0, T) : gR) := by
  rw [q_tw1 h 11]
  rfl
/-- what dead and where come to -/
def DTQ (X : Lx) (T : gSt) (t j0 j : Nat) (rd : Except Nat (Nat × Nat)) (T' : gSt) : Prop := match rd with
  | .error e => j ≤ e ∧ Zi X e T (nN T) T' ∧ T'.1 64 0 = nI t
  | .ok (n, j2) => match pTail (xK X) j2 with
    | .error e => j ≤ e ∧ Zi X e T (nN T) T' ∧ T'.1 64 0 = nI t
    | .ok (wt, w, j3) => j < j2 ∧ j2 ≤ j3 ∧ Gd X T' j3 ∧ Gw T' j3 ∧ Fwd t T T' ∧ n ≤ 3 ∧ T'.1 27 t = nI n ∧ (∀ k, k < n → entD X T' t j0 k) ∧ w ≤ 3 ∧ T'.1 31 t = nI w ∧ ∀ k, k < w → entW X T' t wt k
set_option maxHeartbeats 4000000 in
theorem x_dead (hX : LX X) (hnf : 5000 ≤ nf) {j0 : Nat} : ∀ (f fl q : Nat) (T : gSt) (j : Nat), j = j0 + q → Gd X T j → Gw T j → T.1 64 0 = nI t → t < 24 → T.1 27 t = nI q → T.1 31 t = 0 → q ≤ 2 → 2 < q + f → 2 < q + fl → (∀ k, k < q → entD X T t j0 k) → wp (rl_Model_readHead_123 (RR nf (d + 30)) nf fl T) (fun _ _ T' => DTQ X T t j0 j (pDead (xK X) f q j) T') := by
  have hx := hX.1
  intro f
  induction f with
  | zero => intro fl q T j hj0 hG hW h64 ht hq h31 h1 h2 h3 he; omega
  | succ f ih =>
    intro fl q T j hj0 hG hW h64 ht hq h31 h1 h2 h3 he
    have hj := hG.1.1
    obtain ⟨fl', rfl⟩ : ∃ g, fl = g + 1 := ⟨fl - 1, by omega⟩
    have htI : inb (nI t) 24 := nin (by omega) (by omega)
    have ct : (nI t).toNatClampNeg = t := nc (by omega)
    have z1 : inb (nI (3 * t + q)) 72 := nin (by omega) (by omega)
    have c1 : (nI (3 * t + q)).toNatClampNeg = 3 * t + q := nc (by omega)
    rw [rl_Model_readHead_123, pDead]
    refine g_region (d := d + 27) hX hG (fun k4 S1 g1 g2 g3 g4 g5 g6 g7 => ?_) (fun k4 S hz => ?_)
    · rw [if_neg (show ¬ xK X j ≠ 4 from fun h => h k4)]
      have hj1 := g1.1.1
      have hW1 : Gw S1 (j + 1) := hW.fe g2 (by omega)
      have w1 : Fwd t T S1 := (g2.wh g4).wd
      have s64 : S1.1 64 0 = nI t := by rw [w1.2.2.2.2.2.1]; exact h64
      have s27 : S1.1 27 t = nI q := by rw [congrFun (g2.1.1 27 (by omega)) t]; exact hq
      have s31 : S1.1 31 t = 0 := by rw [congrFun (g2.1.1 31 (by omega)) t]; exact h31
      have ent1 : ∀ k, k < q → entD X S1 t j0 k := by
        intro k hk
        have := he k hk
        unfold entD
        rw [g2.1.2 28 (by omega), g2.1.1 29 (by omega)]
        exact this
      have n1 := g5.2 0 (by omega)
      rw [Nat.add_zero, Nat.add_zero] at n1
      have hu1 := g1.2.2.2.2
      have y1 : inb (nI (nU T)) 4000 := nin (by omega) (by omega)
      have d1 : (nI (nU T)).toNatClampNeg = nU T := nc (by omega)
      have idx : (3 : Int32) * S1.1 64 0 + S1.1 27 (S1.1 64 0).toNatClampNeg = nI (3 * t + q) := by rw [s64, ct, s27, show (3 : Int32) * nI t = nI (3 * t) from nI_mul 3 t, nI_add]
      refine wp_gd (by rw [s64]; exact htI) ?_
      refine wp_gd y1 ?_
      refine wp_gd (by rw [idx]; exact z1) ?_
      refine wp_st ?_
      rw [idx, c1, d1, n1.1]
      have f64 : (sJ S1 28 (3 * t + q) (xN X j)).1 64 0 = nI t := s64
      have f27 : (sJ S1 28 (3 * t + q) (xN X j)).1 27 t = nI q := s27
      have idx2 : (3 : Int32) * (sJ S1 28 (3 * t + q) (xN X j)).1 64 0 + (sJ S1 28 (3 * t + q) (xN X j)).1 27 ((sJ S1 28 (3 * t + q) (xN X j)).1 64 0).toNatClampNeg = nI (3 * t + q) := idx
      refine wp_gd (by rw [f64]; exact htI) ?_
      refine wp_gd y1 ?_
      refine wp_gd (by rw [idx2]; exact z1) ?_
      refine wp_st ?_
      rw [idx2, c1, show (sJ S1 28 (3 * t + q) (xN X j)).1 47 (nU T) = S1.1 47 (nU T) from rfl, n1.2]
      have h5a : (sI (sJ S1 28 (3 * t + q) (xN X j)) 29 (3 * t + q) (nI (xP X j))).1 64 0 = nI t := by rw [sI_ne (by omega)]; exact f64
      have h5b : (sI (sJ S1 28 (3 * t + q) (xN X j)) 29 (3 * t + q) (nI (xP X j))).1 27 t = nI q := by rw [sI_ne (by omega)]; exact f27
      have h5c : (sI (sJ S1 28 (3 * t + q) (xN X j)) 29 (3 * t + q) (nI (xP X j))).1 31 t = 0 := by rw [sI_ne (by omega)]; exact s31
      have hG5 : Gd X (sI (sJ S1 28 (3 * t + q) (xN X j)) 29 (3 * t + q) (nI (xP X j))) (j + 1) := (g1.wj (by omega)).wh (by omega)
      have hW5 : Gw (sI (sJ S1 28 (3 * t + q) (xN X j)) 29 (3 * t + q) (nI (xP X j))) (j + 1) := hW1.wj.wh (by omega)
      have w5 : Fwd t T (sI (sJ S1 28 (3 * t + q) (xN X j)) 29 (3 * t + q) (nI (xP X j))) := (w1.wj (by omega)).w (by omega)
      have ent5 : ∀ k, k < q + 1 → entD X (sI (sJ S1 28 (3 * t + q) (xN X j)) 29 (3 * t + q) (nI (xP X j))) t j0 k := by
        intro k hk
        rcases Nat.lt_or_ge k q with hlt | hge
        · obtain ⟨x1, x2⟩ := ent1 k hlt
          exact ⟨by rw [rdIJ, rdJ, if_neg (by omega)]; exact x1, by rw [rdI, if_neg (by omega), rdJI]; exact x2⟩
        · have ek : k = q := by omega
          subst ek
          unfold entD
          rw [← hj0]
          exact ⟨by rw [rdIJ, sJ_v], sI_v⟩
      generalize sI (sJ S1 28 (3 * t + q) (xN X j)) 29 (3 * t + q) (nI (xP X j)) = S5 at *
      refine wp_gd (by rw [h5a]; exact htI) ?_
      refine wp_gd (by rw [h5a]; exact htI) ?_
      refine wp_st ?_
      rw [h5a, ct, h5b, nI_1]
      have hG6 : Gd X (sI S5 27 t (nI (q + 1))) (j + 1) := hG5.wh (by omega)
      have hW6 : Gw (sI S5 27 t (nI (q + 1))) (j + 1) := hW5.wh (by omega)
      have w6 : Fwd t T (sI S5 27 t (nI (q + 1))) := w5.w (by omega)
      have s6a : (sI S5 27 t (nI (q + 1))).1 64 0 = nI t := by rw [sI_ne (by omega)]; exact h5a
      have s6b : (sI S5 27 t (nI (q + 1))).1 27 t = nI (q + 1) := sI_v
      have s6c : (sI S5 27 t (nI (q + 1))).1 31 t = 0 := by rw [sI_ne (by omega)]; exact h5c
      have ent6 : ∀ k, k < q + 1 → entD X (sI S5 27 t (nI (q + 1))) t j0 k := by
        intro k hk
        have := ent5 k hk
        unfold entD
        rw [show (sI S5 27 t (nI (q + 1))).1 29 = S5.1 29 from sI_ne (by omega)]
        exact this
      generalize sI S5 27 t (nI (q + 1)) = S6 at *
      have t6 := hX.2.2.2.2.1 (j + 1) hG6.1.1
      refine wp_be (q_bad0 hG6.2.1) ?_
      refine wp_t rfl ?_
      -- where, perhaps, and the end
      have fin : wp (bi (RR nf (d + 30) 19 S6 [nI 11] []) fun r25 l25 T25 => if r25 = (0 : Int32) then (some (0, 0, T25)) else (bi (RR nf (d + 30) 27 T25 [] []) fun r27 l27 T27 => some (0, 0, T27))) (fun _ _ T' => DTQ X T t j0 j (.ok (q + 1, j + 1)) T') := by
        refine wp_mono (x_tail hX hnf hG6 hW6 s6a ht s6c) ?_
        intro r l T' h
        show (match pTail (xK X) (j + 1) with
          | .error e => j ≤ e ∧ Zi X e T (nN T) T' ∧ T'.1 64 0 = nI t
          | .ok (wt, w, j3) => j < j + 1 ∧ j + 1 ≤ j3 ∧ Gd X T' j3 ∧ Gw T' j3 ∧ Fwd t T T' ∧ q + 1 ≤ 3 ∧ T'.1 27 t = nI (q + 1) ∧ (∀ k, k < q + 1 → entD X T' t j0 k) ∧ w ≤ 3 ∧ T'.1 31 t = nI w ∧ ∀ k, k < w → entW X T' t wt k)
        generalize pTail (xK X) (j + 1) = res at h ⊢
        cases res with
        | error e => exact ⟨by have := h.1; omega, (h.2.1.fy w6.1).le (by rw [w6.2.2.2.2.1]; exact Nat.le_refl _), h.2.2⟩
        | ok wj =>
          obtain ⟨wt, w, j3⟩ := wj
          obtain ⟨b1, b2, b3, b4, b5, b6, b7⟩ := h
          refine ⟨by omega, b1, b2, b3, w6.tr b4.wd, by omega, ?_, ?_, b5, b6, b7⟩
          · rw [b4.2.2.2.2.2.2.1 27 t (by omega) (by omega) (by omega) (by omega)]; exact s6b
          · intro k hk
            obtain ⟨x1, x2⟩ := ent6 k hk
            exact ⟨(b4.2.2.2.2.2.2.2 28 _ (by omega) (by omega) (by omega)).trans x1, (b4.2.2.2.2.2.2.1 29 _ (by omega) (by omega) (by omega) (by omega)).trans x2⟩
      by_cases k4' : xK X (j + 1) = 4
      · refine wp_t (by rw [hG6.1.2.2.2.1]; exact (srtK_rg _ (okK_lt t6.1)).mpr k4') ?_
        refine wp_gd (by rw [s6a]; exact htI) ?_
        rw [s6a, ct, s6b]
        by_cases q2 : q < 2
        · rw [if_pos (show xK X (j + 1) = 4 ∧ q < 2 from ⟨k4', q2⟩)]
          refine wp_t ((nI_ltI (a := q + 1) (b := 3) (by omega) (by omega)).mpr (by omega)) ?_
          refine wp_mono (ih fl' (q + 1) S6 (j + 1) (by omega) hG6 hW6 s6a ht s6b s6c (by omega) (by omega) (by omega) ent6) ?_
          intro r l T' h
          generalize pDead (xK X) f (q + 1) (j + 1) = rd at h ⊢
          cases rd with
          | error e => exact ⟨by have := h.1; omega, (h.2.1.fy w6.1).le (by rw [w6.2.2.2.2.1]; exact Nat.le_refl _), h.2.2⟩
          | ok nj =>
            obtain ⟨n', j2⟩ := nj
            unfold DTQ at h ⊢
            dsimp only at h ⊢
            generalize pTail (xK X) j2 = res at h ⊢
            cases res with
            | error e => exact ⟨by have := h.1; omega, (h.2.1.fy w6.1).le (by rw [w6.2.2.2.2.1]; exact Nat.le_refl _), h.2.2⟩
            | ok wj =>
              obtain ⟨wt, w, j3⟩ := wj
              obtain ⟨b0, b1, b2, b3, b4, b5⟩ := h
              exact ⟨by omega, b1, b2, b3, w6.tr b4, b5⟩
        · rw [if_neg (show ¬ (xK X (j + 1) = 4 ∧ q < 2) from fun h => q2 h.2)]
          refine wp_f (fun hlt => q2 (by have := (nI_ltI (a := q + 1) (b := 3) (by omega) (by omega)).mp hlt; omega)) ?_
          exact fin
      · rw [if_neg (show ¬ (xK X (j + 1) = 4 ∧ q < 2) from fun h => k4' h.1)]
        refine wp_f (by rw [hG6.1.2.2.2.1]; exact fun h => k4' ((srtK_rg _ (okK_lt t6.1)).mp h)) ?_
        exact fin
    · rw [if_pos (show xK X j ≠ 4 from k4)]
      have hz' := hz.zi Fy.rf hj
      have s64 : S.1 64 0 = nI t := by rw [hz.2.2.1.1 64 (by omega)]; exact h64
      have s27 : S.1 27 t = nI q := by rw [congrFun (hz.2.2.1.1 27 (by omega)) t]; exact hq
      have idx : (3 : Int32) * S.1 64 0 + S.1 27 (S.1 64 0).toNatClampNeg = nI (3 * t + q) := by rw [s64, ct, s27, show (3 : Int32) * nI t = nI (3 * t) from nI_mul 3 t, nI_add]
      refine wp_gd (by rw [s64]; exact htI) ?_
      refine wp_gd (by decide) ?_
      refine wp_gd (by rw [idx]; exact z1) ?_
      refine wp_st ?_
      refine wp_gd (by rw [rdJI, s64]; exact htI) ?_
      refine wp_gd (by decide) ?_
      refine wp_gd (by rw [rdJI, rdJI, idx]; exact z1) ?_
      refine wp_st ?_
      have hy : ∀ a b x y, Zi X j T (nN T) (sI (sJ S 28 a x) 29 b y) ∧ (sI (sJ S 28 a x) 29 b y).1 64 0 = nI t := fun a b x y => ⟨(hz'.wj (by omega)).w (by omega), by rw [sI_ne (by omega)]; exact s64⟩
      obtain ⟨y1, y2⟩ := hy (((3 : Int32) * S.1 64 0 + S.1 27 (S.1 64 0).toNatClampNeg).toNatClampNeg) (((3 : Int32) * (sJ S 28 ((3 : Int32) * S.1 64 0 + S.1 27 (S.1 64 0).toNatClampNeg).toNatClampNeg (S.2 46 (0 : Int32).toNatClampNeg)).1 64 0 + (sJ S 28 ((3 : Int32) * S.1 64 0 + S.1 27 (S.1 64 0).toNatClampNeg).toNatClampNeg (S.2 46 (0 : Int32).toNatClampNeg)).1 27 ((sJ S 28 ((3 : Int32) * S.1 64 0 + S.1 27 (S.1 64 0).toNatClampNeg).toNatClampNeg (S.2 46 (0 : Int32).toNatClampNeg)).1 64 0).toNatClampNeg).toNatClampNeg) (S.2 46 (0 : Int32).toNatClampNeg) ((sJ S 28 ((3 : Int32) * S.1 64 0 + S.1 27 (S.1 64 0).toNatClampNeg).toNatClampNeg (S.2 46 (0 : Int32).toNatClampNeg)).1 47 (0 : Int32).toNatClampNeg)
      refine wp_gd (by rw [y2]; exact htI) ?_
      refine wp_gd (by rw [y2]; exact htI) ?_
      refine wp_st ?_
      have fin2 : ∀ (a : Nat) (b : Int32) (S' : gSt), Zi X j T (nN T) S' → S'.1 64 0 = nI t → wp (bi (RR nf (d + 30) 14 (sI S' 27 a b) [] []) fun r44 l44 T44 => if r44 = (0 : Int32) then (if (T44.1 2 0) = (4 : Int32) then (gd (inb (T44.1 64 0) 24) <| if (T44.1 27 (T44.1 64 0).toNatClampNeg) < (3 : Int32) then (rl_Model_readHead_123 (RR nf (d + 30)) nf fl' T44) else (bi (RR nf (d + 30) 19 T44 [nI 11] []) fun r55 l55 T55 => if r55 = (0 : Int32) then (some (0, 0, T55)) else (bi (RR nf (d + 30) 27 T55 [] []) fun r57 l57 T57 => some (0, 0, T57)))) else (bi (RR nf (d + 30) 19 T44 [nI 11] []) fun r50 l50 T50 => if r50 = (0 : Int32) then (some (0, 0, T50)) else (bi (RR nf (d + 30) 27 T50 [] []) fun r52 l52 T52 => some (0, 0, T52)))) else (bi (RR nf (d + 30) 19 T44 [nI 11] []) fun r46 l46 T46 => if r46 = (0 : Int32) then (some (0, 0, T46)) else (bi (RR nf (d + 30) 27 T46 [] []) fun r48 l48 T48 => some (0, 0, T48)))) (fun _ _ T' => DTQ X T t j0 j (.error j) T') := by
        intro a b S' h1 h2
        have h3 := h1.w (g := 27) (j := a) (x := b) (by omega)
        refine wp_be (q_bad1 h3.bd) ?_
        refine wp_f (by decide) ?_
        refine wp_be (q_tw1 h3.bd 11) ?_
        refine wp_t rfl ?_
        exact wp_some ⟨Nat.le_refl _, h3, by rw [sI_ne (by omega)]; exact h2⟩
      exact fin2 _ _ _ y1 y2
end DD
