/-! a written TYPE keeps to the REGIONS in sight */
-/
section SUH
variable {S S' Sf T T' : gSt} {X : Lx} {p q c en m n t u f i k : Nat} {x y r w : Int32} {ρ ρ' : Nat → Nat}
theorem rgQ_sm (h : Ckm T) (h0 : 0 ≤ rgQ X T q) : ∃ c, rgQ X T q = nI c ∧ sght T c := by
  have key : ∀ (w : Int64) (n : Nat), n ≤ rn T → rgV T w n = -1 ∨ ∃ c, rgV T w n = nI c ∧ c < 12 ∧ ∃ k, k < rn T ∧ T.1 73 k = nI c := by
    intro w n
    induction n with
    | zero => intro _; exact Or.inl rfl
    | succ n ih =>
      intro hn
      rw [rgV]
      by_cases c : isRg T w n = true
      · rw [if_pos c]
        obtain ⟨r, e, hr⟩ := h.2.2.1.2 n (by omega)
        exact Or.inr ⟨r, e, hr, n, by omega, e⟩
      · rw [if_neg c]
        exact ih (by omega)
  unfold rgQ at h0 ⊢
  by_cases c : xN X q = 72
  · rw [if_pos c]
    exact ⟨0, rfl, Or.inl rfl⟩
  · rw [if_neg c] at h0 ⊢
    rcases key (xN X q) (rn T) (Nat.le_refl _) with k | ⟨c, k1, k2, k3⟩
    · rw [k] at h0
      exact absurd h0 (by decide)
    · exact ⟨c, k1, Or.inr ⟨k2, k3⟩⟩
theorem wa_sm : ∀ (m k : Nat) (T : gSt) (w : Int32), Ckm T → k + m ≤ 3 → PK w k → sgW T w k → (waX X m T q k w).2.1 7 0 = 0 → sgW T (waX X m T q k w).1 (k + m) := by
  intro m
  induction m with
  | zero => intro k T w _ _ _ h _; exact h
  | succ m ih =>
    intro k T w hC hk hp hs hf
    have h0 : T.1 7 0 = 0 := (FE.wa (X := X) (q := q) (m + 1) k T w).ok hf
    rw [waX, if_pos h0] at hf ⊢
    have h1 : (srS X T (q + k)).1 7 0 = 0 := (FE.wa (X := X) (q := q) m (k + 1) _ _).ok hf
    have hr : 0 ≤ rgQ X T (q + k) := Decidable.byContradiction fun z => by
      unfold srS at h1
      rw [if_neg z] at h1
      exact absurd h1 (flT_bad (by decide))
    have e1 : srS X T (q + k) = T := by unfold srS; rw [if_pos hr]
    have e2 : srR X T (q + k) = rgQ X T (q + k) := by unfold srR; rw [if_pos hr]
    rw [e1] at hf ⊢
    obtain ⟨c, c1, c2⟩ := rgQ_sm hC hr
    obtain ⟨s1, s2, s3⟩ := hp.st (show k < 3 by omega) (show rC2 (srR X T (q + k)) by rw [e2]; exact rgQ_ok hC hr)
    rw [show k + (m + 1) = k + 1 + m by omega]
    refine ih (k + 1) T _ hC (by omega) s1 (fun j hj => ?_) hf
    by_cases e : j = k
    · subst e
      exact ⟨c, by rw [s2, e2]; exact c1, c2⟩
    · obtain ⟨c', d1, d2⟩ := hs j (by omega)
      exact ⟨c', by rw [s3 j (by omega)]; exact d1, d2⟩
theorem me_in (hRf : Rws Sf) (hcf : cn Sf < 6000) : ∀ (f : Nat) (T : gSt) (i : Nat), tyW X f i → Ckm T → (meX X f T i).2.1 7 0 = 0 → FW (meX X f T i).2 Sf → TyOf Sf (sght T) (meX X f T i).1 := by
  have hc6 : cn Sf ≤ 6000 := by omega
  have z0 : ∀ T, TyOf Sf (sght T) 0 := fun T ρ ρ' _ => by rw [gty_0 (by decide), gty_0 (by decide)]
  intro f
  induction f with
  | zero => intro T i hw; exact hw.elim
  | succ f ih =>
    intro T i hw h hf hF
    have gT := (FE.me (X := X) (f + 1) T i).tg h.1
    have hc := hF.lt gT hcf
    rw [meX] at hc hf hF ⊢
    by_cases c0 : ¬ T.1 7 0 = 0
    · simp only [if_neg c0] at hf
      exact absurd hf c0
    have c0 := Decidable.not_not.mp c0
    simp only [if_pos c0] at hc hf hF ⊢
    by_cases c1 : xK X i = 26
    · simp only [if_pos c1]
      exact z0 T
    simp only [if_neg c1] at hc hf hF ⊢
    obtain ⟨w1, w2⟩ := hw.resolve_left c1
    by_cases c2 : 0 ≤ rgQ X T (i + 1)
    · simp only [if_pos c2] at hc hf hF ⊢
      have hrg := rgQ_ok h c2
      obtain ⟨cr, er, sr⟩ := rgQ_sm h c2
      have c12 : cr < 100000 := by
        rcases sr with z | z
        · omega
        · omega
      by_cases c3 : tiQ X i
      · simp only [if_pos c3] at hc hf hF ⊢
        have r3 := rgs3 (K := xK X) (i := i + 3)
        have w := Ckm.wa (X := X) (q := i + 3) (rgs (xK X) 3 (i + 3)) 0 (tiS X T i) 0 h.ti (by omega) PK.zr
        have fW := FE.ti.tr (FE.wa (X := X) (q := i + 3) (rgs (xK X) 3 (i + 3)) 0 (tiS X T i) 0)
        have wb : ¬ (tiS X T i).1 7 0 = 0 → ¬ (waX X (rgs (xK X) 3 (i + 3)) (tiS X T i) (i + 3) 0 0).2.1 7 0 = 0 := fun h => by rw [waX_bad h]; exact h
        have sgm := wa_sm (X := X) (q := i + 3) (rgs (xK X) 3 (i + 3)) 0 (tiS X T i) 0 h.ti (by omega) PK.zr (fun k hk => absurd hk (by omega))
        generalize waX X (rgs (xK X) 3 (i + 3)) (tiS X T i) (i + 3) 0 0 = W at *
        by_cases c4 : W.2.1 7 0 = 0
        · simp only [if_pos c4] at hc hf hF ⊢
          have ht7 : (tiS X T i).1 7 0 = 0 := Decidable.byContradiction fun z => wb z c4
          have c5 : 0 ≤ ff (isTi T (xN X (i + 2))) 0 (inn T) := by
            by_cases g : 0 ≤ ff (isTi T (xN X (i + 2))) 0 (inn T)
            · exact g
            · exfalso
              unfold tiS at ht7
              rw [if_neg g] at ht7
              exact flT_bad (by decide) ht7
          have e15 : T.1 15 (ff (isTi T (xN X (i + 2))) 0 (inn T)).toNatClampNeg = nI (rgs (xK X) 3 (i + 3)) := by
            refine Decidable.byContradiction fun g => ?_
            unfold tiS at ht7
            rw [if_pos c5, if_neg g] at ht7
            exact flT_bad (by decide) ht7
          have eti : tiS X T i = T := by unfold tiS; rw [if_pos c5, if_pos e15]
          obtain ⟨u, u1, u2, cu⟩ := ti_ff h.2.2.2.2.1 c5
          have h24 := h.2.2.2.2.1
          have u2' : u < inn W.2 := by rw [fW.einn]; exact u2
          have h0u : (0 : Int32) ≤ nI u := (nI_leI (a := 0) (b := u) (by omega) (by omega)).mpr (by omega)
          rw [u1, nc (by omega)] at e15
          rw [u1] at hc hF ⊢
          obtain ⟨k1, p, k2, k3, k4, k5⟩ := w.1.kn (z := (kdT X i, rgQ X T (i + 1), -1, nI u, W.1)) ⟨kdT_ok, hrg, w.2.2, fun e => absurd (kdT_3 e w1) c3.1, by
            show (if 0 ≤ nI u then _ else _)
            rw [if_pos h0u]
            exact ⟨u, rfl, u2'⟩⟩ hc
          have gk : Tg (knS W.2 (kdT X i, rgQ X T (i + 1), -1, nI u, W.1)) := k1.1
          have hp : rowP Sf (knR W.2 (kdT X i, rgQ X T (i + 1), -1, nI u, W.1)) p := ⟨k2, k3, Nat.lt_of_lt_of_le k4 (hF.cnle gk)⟩
          obtain ⟨z1, z2, z3, z4, z5⟩ := rwT_g ((hF.row gk hcf k4).trans k5)
          have sg := sgm c4
          rw [eti, Nat.zero_add] at sg
          intro ρ ρ' he
          have e1 : (kn W.2 (kdT X i, rgQ X T (i + 1), -1, nI u, W.1)).1 = knR W.2 (kdT X i, rgQ X T (i + 1), -1, nI u, W.1) := rfl
          rw [gty_t hRf hc6 hp, gty_t hRf hc6 hp, z1, z2, tgt_t (t := u) z4 (by omega), tgt_t (t := u) z4 (by omega), z5]
          have f15 : Sf.1 15 = T.1 15 := by rw [hF.1 15 (by omega) (by omega) (by omega), (FE.kn (T := W.2)).1 15 (by unfold fE; omega), fW.1 15 (by unfold fE; omega)]
          have ee : eN Sf u = rgs (xK X) 3 (i + 3) := by unfold eN; rw [f15, e15, nc (by omega)]
          have em : (List.range (eN Sf u)).map (fun k => ρ (ptOf W.1 (nI k)).toNatClampNeg) = (List.range (eN Sf u)).map (fun k => ρ' (ptOf W.1 (nI k)).toNatClampNeg) := List.map_congr_left (fun k hk => sg_ρ sg he k (by rw [← ee]; exact List.mem_range.mp hk))
          show _ :: ρ (rgQ X T (i + 1)).toNatClampNeg :: 1 :: u :: _ = _ :: ρ' (rgQ X T (i + 1)).toNatClampNeg :: 1 :: u :: _
          rw [er, nc c12, he cr sr]
          exact congrArg (fun l => _ :: _ :: 1 :: u :: l) em
        · simp only [if_neg c4] at hf
          exact absurd hf c4
      · simp only [if_neg c3] at hc hf hF ⊢
        obtain ⟨-, w3⟩ := w2.resolve_left c3
        have fe := FE.me (X := X) f T (i + 2)
        have g1 := fe.tg h.1
        by_cases c4 : (meX X f T (i + 2)).2.1 7 0 = 0
        · simp only [if_pos c4] at hc hf hF ⊢
          have hc1 : cn (meX X f T (i + 2)).2 < 6000 := kn_lt g1 hc
          have i1 := me_ok f T (i + 2) w3 h hc1
          obtain ⟨v1, v2⟩ := i1.2 c4
          obtain ⟨k1, p, k2, k3, k4, k5⟩ := i1.1.kn (z := (kdT X i, rgQ X T (i + 1), (meX X f T (i + 2)).1, -1, 0)) ⟨kdT_ok, hrg, PK.zr.up, fun _ => (by decide : ¬ (0 : Int32) ≤ -1), by
            show (if (0 : Int32) ≤ -1 then _ else _)
            rw [if_neg (by decide)]
            exact v1⟩ hc
          have fK : FW (meX X f T (i + 2)).2 (knS (meX X f T (i + 2)).2 (kdT X i, rgQ X T (i + 1), (meX X f T (i + 2)).1, -1, 0)) := (FS.fe FE.kn).fw
          have inn := ih T (i + 2) w3 h c4 (fK.tr hF)
          have gk := k1.1
          have hp : rowP Sf (knR (meX X f T (i + 2)).2 (kdT X i, rgQ X T (i + 1), (meX X f T (i + 2)).1, -1, 0)) p := ⟨k2, k3, Nat.lt_of_lt_of_le k4 (hF.cnle gk)⟩
          obtain ⟨z1, z2, z3, z4, z5⟩ := rwT_g ((hF.row gk hcf k4).trans k5)
          intro ρ ρ' he
          have e1 : (kn (meX X f T (i + 2)).2 (kdT X i, rgQ X T (i + 1), (meX X f T (i + 2)).1, -1, 0)).1 = knR (meX X f T (i + 2)).2 (kdT X i, rgQ X T (i + 1), (meX X f T (i + 2)).1, -1, 0) := rfl
          rw [gty_t hRf hc6 hp, gty_t hRf hc6 hp, z1, z2, tgt_c (by rw [z4]; show (-1 : Int32) < 0; decide), tgt_c (by rw [z4]; show (-1 : Int32) < 0; decide), z3]
          show _ :: ρ (rgQ X T (i + 1)).toNatClampNeg :: 0 :: gty Sf ρ (meX X f T (i + 2)).1 = _ :: ρ' (rgQ X T (i + 1)).toNatClampNeg :: 0 :: gty Sf ρ' (meX X f T (i + 2)).1
          rw [er, nc c12, he cr sr, inn ρ ρ' he]
        · simp only [if_neg c4] at hf
          exact absurd hf c4
    · simp only [if_neg c2] at hf
      exact absurd hf (flT_bad (by decide))
end SUH
