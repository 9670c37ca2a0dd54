/-! where: pairs of REGIONS -/
abbrev entW (X : Lx) (T : gSt) (t j0 k : Nat) : Prop := T.2 32 (6 * t + 2 * k) = xN X (j0 + 4 * k) ∧ T.1 33 (6 * t + 2 * k) = nI (xP X (j0 + 4 * k)) ∧ T.2 32 (6 * t + 2 * k + 1) = xN X (j0 + 4 * k + 2) ∧ T.1 33 (6 * t + 2 * k + 1) = nI (xP X (j0 + 4 * k + 2))
/-- what reading where leaves as it was -/
abbrev Fwh (t : Nat) (T T' : gSt) : Prop := Fy T T' ∧ Fn T T' ∧ T'.1 62 = T.1 62 ∧ T'.1 63 = T.1 63 ∧ nN T' = nN T ∧ T'.1 64 = T.1 64 ∧ (∀ g j, 11 ≤ g → g ≤ 36 → ¬ (g = 31 ∧ j = t) → ¬ (g = 33 ∧ 6 * t ≤ j ∧ j < 6 * t + 6) → T'.1 g j = T.1 g j) ∧ (∀ g j, 13 ≤ g → g ≤ 32 → ¬ (g = 32 ∧ 6 * t ≤ j ∧ j < 6 * t + 6) → T'.2 g j = T.2 g j)
def WQ (X : Lx) (T : gSt) (t j0 j : Nat) (res : Except Nat (Nat × Nat)) (T' : gSt) : Prop := match res with
  | .ok (w, j3) => j < j3 ∧ Gd X T' j3 ∧ Gw T' j3 ∧ Fwh t T T' ∧ w ≤ 3 ∧ T'.1 31 t = nI w ∧ ∀ k, k < w → entW X T' t j0 k
  | .error e => j ≤ e ∧ Zi X e T (nN T) T' ∧ T'.1 64 0 = nI t
section WH
variable {nf d : Nat} {T T0 T1 T2 : gSt} {X : Lx} {e B i j m n v g t c q : Nat}
theorem Gw.wj {g j : Nat} {x : Int64} (h : Gw T i) : Gw (sJ T g j x) i := h
theorem nI_mul (a b : Nat) : nI a * nI b = nI (a * b) := (Int32.ofNat_mul a b).symm
theorem Fwh.rf : Fwh t T T := ⟨Fy.rf, Fn.rf, rfl, rfl, rfl, rfl, fun _ _ _ _ _ _ => rfl, fun _ _ _ _ _ => rfl⟩
theorem Fwh.tr (h : Fwh t T0 T) (h2 : Fwh t T T1) : Fwh t T0 T1 := ⟨h.1.tr h2.1, h.2.1.tr h2.2.1, h2.2.2.1.trans h.2.2.1, h2.2.2.2.1.trans h.2.2.2.1, h2.2.2.2.2.1.trans h.2.2.2.2.1, h2.2.2.2.2.2.1.trans h.2.2.2.2.2.1, fun g j a b c d => (h2.2.2.2.2.2.2.1 g j a b c d).trans (h.2.2.2.2.2.2.1 g j a b c d), fun g j a b c => (h2.2.2.2.2.2.2.2 g j a b c).trans (h.2.2.2.2.2.2.2 g j a b c)⟩
theorem Fe.wh (h : Fe T T1) (hN : nN T1 = nN T) : Fwh t T T1 := ⟨h.1.fy, h.fs.fn, h.2.2.2.1 62 (by omega), h.2.2.2.1 63 (by omega), hN, h.1.1 64 (by omega), fun g j a b _ _ => congrFun (h.1.1 g (by omega)) j, fun g j a b _ => congrFun (h.1.2 g (by omega)) j⟩
theorem Fwh.w {j : Nat} {x : Int32} (h : Fwh t T0 T) (hg : g = 31 ∧ j = t ∨ g = 33 ∧ 6 * t ≤ j ∧ j < 6 * t + 6) : Fwh t T0 (sI T g j x) := ⟨h.1.w (by omega), h.2.1.w (by omega), (sI_ne (by omega)).trans h.2.2.1, (sI_ne (by omega)).trans h.2.2.2.1, by rw [nN_w (by omega)]; exact h.2.2.2.2.1, (sI_ne (by omega)).trans h.2.2.2.2.2.1, fun g' j' a b c d => by rw [rdI, if_neg (by omega)]; exact h.2.2.2.2.2.2.1 g' j' a b c d, h.2.2.2.2.2.2.2⟩
theorem Fwh.wj {j : Nat} {x : Int64} (h : Fwh t T0 T) (hg : 6 * t ≤ j ∧ j < 6 * t + 6) : Fwh t T0 (sJ T 32 j x) := ⟨h.1.wj (by omega), h.2.1.wj (by omega), h.2.2.1, h.2.2.2.1, h.2.2.2.2.1, h.2.2.2.2.2.1, h.2.2.2.2.2.2.1, fun g' j' a b c => by rw [rdJ, if_neg (by omega)]; exact h.2.2.2.2.2.2.2 g' j' a b c⟩
theorem b_wh30 {rec_ : gSt → Int32 → gR} (h : Zi X e T0 B T) : wp (rj_Model_readWheres_30 (RR nf (d + 29)) nf rec_ T) (fun _ _ T' => Zi X e T0 B T' ∧ T' = T) := by
  unfold rj_Model_readWheres_30
  refine wp_be (q_rg1 h.bd) ?_
  refine wp_be (q_nd1 h.bd _) ?_
  refine wp_be (q_rg1 h.bd) ?_
  refine wp_be (q_bad1 h.bd) ?_
  refine wp_f (by decide) ?_
  exact wp_some ⟨h, rfl⟩
set_option maxHeartbeats 4000000 in
theorem x_wh (hX : LX X) (hnf : 5000 ≤ nf) {j0 : Nat} : ∀ (f fl q : Nat) (T : gSt) (j : Nat), j = j0 + 4 * q → Gd X T j → Gw T j → T.1 64 0 = nI t → t < 24 → T.1 31 t = nI q → q ≤ 3 → 3 < q + f → 4 < q + fl → (∀ k, k < q → entW X T t j0 k) → wp (rl_Model_readWheres_2 (RR nf (d + 29)) nf fl T 1) (fun _ _ T' => WQ X T t j0 j (pWh (xK X) f q j) T') := by
  have hx := hX.1
  intro f
  induction f with
  | zero => intro fl q T j hj0 hG hW h64 ht hq h1 h2 h3 he; omega
  | succ f ih =>
    intro fl q T j hj0 hG hW h64 ht hq h1 h2 h3 he
    have hj := hG.1.1
    obtain ⟨fl', rfl⟩ : ∃ g, fl = g + 1 := ⟨fl - 1, by omega⟩
    have htI : inb (nI t) 24 := nin (by omega) (by omega)
    have ct : (nI t).toNatClampNeg = t := nc (by omega)
    rw [rl_Model_readWheres_2, pWh]
    refine wp_f (by decide) ?_
    refine wp_be (q_bad0 hG.2.1) ?_
    refine wp_t rfl ?_
    refine wp_gd (by rw [h64]; exact htI) ?_
    rw [h64, ct, hq]
    by_cases q3 : q = 3
    · subst q3
      rw [if_pos (show 3 = 3 from rfl)]
      refine wp_t (by rfl) ?_
      refine wp_be (q_wrong0 hG.2.1) ?_
      refine wp_mono (b_wh30 (hG.zi Fy.rf (Nat.le_refl _))) ?_
      intro r l T' h
      exact ⟨Nat.le_refl _, h.1, by rw [h.2, failS_f (by omega) (by omega)]; exact h64⟩
    · rw [if_neg q3]
      refine wp_f (fun e3 => q3 (nI_inj (a := q) (b := 3) (by omega) (by omega) e3)) ?_
      unfold rj_Model_readWheres_30
      refine g_region (d := d + 26) hX hG (fun k4 S1 g1 g2 g3 g4 g5 g6 g7 => ?_) (fun k4 S hz => ?_)
      · rw [if_neg (show ¬ xK X j ≠ 4 from fun h => h k4)]
        have hj1 := g1.1.1
        have w1 : Fwh t T S1 := g2.wh g4
        refine g_need (d := d + 25) hX 52 g1 rfl (by omega) (by omega) (fun k52 hj2 => ?_) (fun k52 S hz => ?_)
        · rw [if_neg (show ¬ xK X (j + 1) ≠ 52 from fun h => h k52)]
          have hG2 := g1.adv hX hj2
          have hj3 := hG2.1.1
          have w2 : Fwh t T (advS S1) := w1.tr (Fe.rf.adv.wh nN_adv)
          have u2 : RepU X (advS S1) (nU T) j 1 := RepU.ag (Ag.rf.adv (lo := 0) (hi := 0)) g5
          refine g_region (d := d + 26) hX hG2 (fun k4' S3 p1 p2 p3 p4 p5 p6 p7 => ?_) (fun k4' S hz => ?_)
          · rw [if_neg (show ¬ xK X (j + 2) ≠ 4 from fun h => h k4')]
            have w3 : Fwh t T S3 := w2.tr (p2.wh p4)
            have u3 : RepU X S3 (nU T) j 1 := RepU.ag p2.2.1 u2
            have hG3 : Gd X S3 (j + 3) := p1
            have hW3 : Gw S3 (j + 3) := by
              have e37 : S3.1 37 = T.1 37 := (p2.2.2.2.1 37 (by omega)).trans ((advS_if (by omega)).trans (g2.2.2.2.1 37 (by omega)))
              have en : nW S3 = nW T := by unfold nW; rw [e37]
              exact ⟨by rw [e37, en]; exact hW.1, by rw [en]; have := hW.2; omega⟩
            have s64 : S3.1 64 0 = nI t := by rw [w3.2.2.2.2.2.1]; exact h64
            have s31 : S3.1 31 t = nI q ∨ True := Or.inr trivial
            have s31' : S3.1 31 t = nI q := by
              have e31 : S3.1 31 = T.1 31 := (p2.1.1 31 (by omega)).trans ((advS_if (by omega)).trans (g2.1.1 31 (by omega)))
              rw [e31]; exact hq
            have ent3 : ∀ k, k < q → entW X S3 t j0 k := by
              intro k hk
              have e32 : S3.2 32 = T.2 32 := (p2.1.2 32 (by omega)).trans ((advS_jf (by omega)).trans (g2.1.2 32 (by omega)))
              have e33 : S3.1 33 = T.1 33 := (p2.1.1 33 (by omega)).trans ((advS_if (by omega)).trans (g2.1.1 33 (by omega)))
              have := he k hk
              unfold entW
              rw [e32, e33]
              exact this
            have u4 : RepU X S3 (nU (advS S1)) (j + 2) 1 := p5
            have hu1 := u3.1
            have hu2 := u4.1
            have hu3 := hG3.2.2.2.2
            have hj5 := hG3.1.1
            refine wp_be (q_bad0 hG3.2.1) ?_
            refine wp_t rfl ?_
            refine wp_gd (by rw [s64]; exact htI) ?_
            refine wp_v ?_
            rw [s64, ct, s31', show (6 : Int32) * nI t = nI (6 * t) from nI_mul 6 t, show (2 : Int32) * nI q = nI (2 * q) from nI_mul 2 q, nI_add, nI_1]
            have z1 : inb (nI (6 * t + 2 * q)) 144 := nin (by omega) (by omega)
            have z2 : inb (nI (6 * t + 2 * q + 1)) 144 := nin (by omega) (by omega)
            have c1 : (nI (6 * t + 2 * q)).toNatClampNeg = 6 * t + 2 * q := nc (by omega)
            have c2 : (nI (6 * t + 2 * q + 1)).toNatClampNeg = 6 * t + 2 * q + 1 := nc (by omega)
            have y1 : inb (nI (nU T)) 4000 := nin (by omega) (by omega)
            have y2 : inb (nI (nU (advS S1))) 4000 := nin (by omega) (by omega)
            have d1 : (nI (nU T)).toNatClampNeg = nU T := nc (by omega)
            have d2 : (nI (nU (advS S1))).toNatClampNeg = nU (advS S1) := nc (by omega)
            rw [c1, c2, d1, d2]
            have n1 := u3.2 0 (by omega)
            have n2 := u4.2 0 (by omega)
            rw [Nat.add_zero, Nat.add_zero] at n1 n2
            refine wp_gd y1 ?_
            refine wp_gd z1 ?_
            refine wp_st ?_
            refine wp_gd y1 ?_
            refine wp_gd z1 ?_
            refine wp_st ?_
            refine wp_gd y2 ?_
            refine wp_gd z2 ?_
            refine wp_st ?_
            refine wp_gd y2 ?_
            refine wp_gd z2 ?_
            refine wp_st ?_
            have e1 : ∀ k, (sJ S3 32 (6 * t + 2 * q) (S3.2 46 (nU T))).1 47 k = S3.1 47 k := fun _ => rfl
            have e2 : ∀ k, (sI (sJ S3 32 (6 * t + 2 * q) (S3.2 46 (nU T))) 33 (6 * t + 2 * q) (S3.1 47 (nU T))).2 46 k = S3.2 46 k := fun k => by rw [rdIJ, sJ_ne (by omega)]
            rw [e1, e2, n1.1, n1.2, n2.1]
            have e3 : (sJ (sI (sJ S3 32 (6 * t + 2 * q) (xN X j)) 33 (6 * t + 2 * q) (nI (xP X j))) 32 (6 * t + 2 * q + 1) (xN X (j + 2))).1 47 (nU (advS S1)) = nI (xP X (j + 2)) := by
              rw [rdJI, sI_ne (by omega), rdJI]; exact n2.2
            rw [e3]
            have hG5 : Gd X (sI (sJ (sI (sJ S3 32 (6 * t + 2 * q) (xN X j)) 33 (6 * t + 2 * q) (nI (xP X j))) 32 (6 * t + 2 * q + 1) (xN X (j + 2))) 33 (6 * t + 2 * q + 1) (nI (xP X (j + 2)))) (j + 3) := (((hG3.wj (by omega)).wh (by omega)).wj (by omega)).wh (by omega)
            have hW5 : Gw (sI (sJ (sI (sJ S3 32 (6 * t + 2 * q) (xN X j)) 33 (6 * t + 2 * q) (nI (xP X j))) 32 (6 * t + 2 * q + 1) (xN X (j + 2))) 33 (6 * t + 2 * q + 1) (nI (xP X (j + 2)))) (j + 3) := ((hW3.wj.wh (by omega)).wj).wh (by omega)
            have w5 : Fwh t T (sI (sJ (sI (sJ S3 32 (6 * t + 2 * q) (xN X j)) 33 (6 * t + 2 * q) (nI (xP X j))) 32 (6 * t + 2 * q + 1) (xN X (j + 2))) 33 (6 * t + 2 * q + 1) (nI (xP X (j + 2)))) := (((w3.wj (by omega)).w (by omega)).wj (by omega)).w (by omega)
            have s5 : (sI (sJ (sI (sJ S3 32 (6 * t + 2 * q) (xN X j)) 33 (6 * t + 2 * q) (nI (xP X j))) 32 (6 * t + 2 * q + 1) (xN X (j + 2))) 33 (6 * t + 2 * q + 1) (nI (xP X (j + 2)))).1 64 0 = nI t := by rw [sI_ne (by omega), rdJI, sI_ne (by omega), rdJI]; exact s64
            have s6 : (sI (sJ (sI (sJ S3 32 (6 * t + 2 * q) (xN X j)) 33 (6 * t + 2 * q) (nI (xP X j))) 32 (6 * t + 2 * q + 1) (xN X (j + 2))) 33 (6 * t + 2 * q + 1) (nI (xP X (j + 2)))).1 31 t = nI q := by rw [sI_ne (by omega), rdJI, sI_ne (by omega), rdJI]; exact s31'
            have ent5 : ∀ k, k < q + 1 → entW X (sI (sJ (sI (sJ S3 32 (6 * t + 2 * q) (xN X j)) 33 (6 * t + 2 * q) (nI (xP X j))) 32 (6 * t + 2 * q + 1) (xN X (j + 2))) 33 (6 * t + 2 * q + 1) (nI (xP X (j + 2)))) t j0 k := by
              intro k hk
              rcases Nat.lt_or_ge k q with hlt | hge
              · have := ent3 k hlt
                obtain ⟨x1, x2, x3, x4⟩ := this
                refine ⟨?_, ?_, ?_, ?_⟩
                · rw [rdIJ, rdJ, if_neg (by omega), rdIJ, rdJ, if_neg (by omega)]; exact x1
                · rw [rdI, if_neg (by omega), rdJI, rdI, if_neg (by omega), rdJI]; exact x2
                · rw [rdIJ, rdJ, if_neg (by omega), rdIJ, rdJ, if_neg (by omega)]; exact x3
                · rw [rdI, if_neg (by omega), rdJI, rdI, if_neg (by omega), rdJI]; exact x4
              · have ek : k = q := by omega
                subst ek
                unfold entW
                rw [← hj0]
                refine ⟨?_, ?_, ?_, ?_⟩
                · rw [rdIJ, rdJ, if_neg (by omega), rdIJ, sJ_v]
                · rw [rdI, if_neg (by omega), rdJI, sI_v]
                · rw [rdIJ, sJ_v]
                · rw [sI_v]
            generalize sI (sJ (sI (sJ S3 32 (6 * t + 2 * q) (xN X j)) 33 (6 * t + 2 * q) (nI (xP X j))) 32 (6 * t + 2 * q + 1) (xN X (j + 2))) 33 (6 * t + 2 * q + 1) (nI (xP X (j + 2))) = S5 at *
            refine wp_gd (by rw [s5]; exact htI) ?_
            refine wp_gd (by rw [s5]; exact htI) ?_
            refine wp_st ?_
            rw [s5, ct, s6, nI_1]
            have hG6 : Gd X (sI S5 31 t (nI (q + 1))) (j + 3) := hG5.wh (by omega)
            have hW6 : Gw (sI S5 31 t (nI (q + 1))) (j + 3) := hW5.wh (by omega)
            have w6 : Fwh t T (sI S5 31 t (nI (q + 1))) := w5.w (by omega)
            have s7 : (sI S5 31 t (nI (q + 1))).1 64 0 = nI t := by rw [sI_ne (by omega)]; exact s5
            have ent6 : ∀ k, k < q + 1 → entW X (sI S5 31 t (nI (q + 1))) t j0 k := by
              intro k hk
              have := ent5 k hk
              unfold entW
              rw [show (sI S5 31 t (nI (q + 1))).1 33 = S5.1 33 from sI_ne (by omega)]
              exact this
            have s8 : (sI S5 31 t (nI (q + 1))).1 31 t = nI (q + 1) := sI_v
            generalize sI S5 31 t (nI (q + 1)) = S6 at *
            by_cases k47 : xK X (j + 3) = 47
            · have hj6 := hG6.lt hX (by omega)
              rw [if_pos k47]
              refine wp_be (q_tkY hX hG6.1 hG6.2.1 47 rfl k47 (by omega)) ?_
              have w7 : Fwh t T (advS S6) := w6.tr (Fe.rf.adv.wh nN_adv)
              refine wp_mono (ih fl' (q + 1) (advS S6) (j + 4) (by omega) (hG6.adv hX hj6) hW6.adv (by rw [advS_i (by omega)]; exact s7) ht (by rw [advS_i (by omega)]; exact s8) (by omega) (by omega) (by omega) ?_) ?_
              · intro k hk
                have := ent6 k hk
                unfold entW
                rw [show (advS S6).1 33 = S6.1 33 from advS_if (by omega), show (advS S6).2 32 = S6.2 32 from advS_jf (by omega)]
                exact this
              · intro r l T' h
                generalize pWh (xK X) f (q + 1) (j + 4) = res at h ⊢
                cases res with
                | error e => exact ⟨by have := h.1; omega, (h.2.1.fy w7.1).le (by rw [w7.2.2.2.2.1]; exact Nat.le_refl _), h.2.2⟩
                | ok wj =>
                  obtain ⟨w, j3⟩ := wj
                  obtain ⟨b1, b2, b3, b4, b5, b6, b7⟩ := h
                  exact ⟨by omega, b2, b3, w7.tr b4, b5, b6, b7⟩
            · rw [if_neg k47]
              refine wp_be (q_tkN hX hG6.1 hG6.2.1 47 rfl k47 (by omega) (by omega)) ?_
              obtain ⟨fl2, rfl⟩ : ∃ g, fl' = g + 1 := ⟨fl' - 1, by omega⟩
              rw [rl_Model_readWheres_2]
              refine wp_t rfl ?_
              exact wp_some ⟨by omega, hG6, hW6, w6, by omega, s8, ent6⟩
          · rw [if_pos (show xK X (j + 2) ≠ 4 from k4')]
            have hz' := (hz.zi w2.1 hj3).le (by rw [w2.2.2.2.2.1]; exact Nat.le_refl _ : nN (advS S1) ≤ nN T)
            refine wp_be (q_bad1 hz'.bd) ?_
            refine wp_f (by decide) ?_
            exact wp_some ⟨by omega, hz', by rw [hz.2.2.1.1 64 (by omega), w2.2.2.2.2.2.1]; exact h64⟩
        · rw [if_pos (show xK X (j + 1) ≠ 52 from k52)]
          have hz' := (hz.zi w1.1 hj1).le (by rw [w1.2.2.2.2.1]; exact Nat.le_refl _ : nN S1 ≤ nN T)
          refine wp_be (q_rg1 hz'.bd) ?_
          refine wp_be (q_bad1 hz'.bd) ?_
          refine wp_f (by decide) ?_
          exact wp_some ⟨by omega, hz', by rw [hz.2.2.1.1 64 (by omega), w1.2.2.2.2.2.1]; exact h64⟩
      · rw [if_pos (show xK X j ≠ 4 from k4)]
        have hz' := hz.zi Fy.rf hj
        refine wp_be (q_nd1 hz'.bd _) ?_
        refine wp_be (q_rg1 hz'.bd) ?_
        refine wp_be (q_bad1 hz'.bd) ?_
        refine wp_f (by decide) ?_
        exact wp_some ⟨Nat.le_refl _, hz', by rw [hz.2.2.1.1 64 (by omega)]; exact h64⟩
end WH
