/-! behind a fault: what is still called does nothing but make a node -/
section BX
variable {nf d : Nat} {T T0 : gSt} {X : Lx} {e B : Nat}
theorem nfS (hnf : 5000 ≤ nf) : ∃ n, nf = n + 1 := ⟨nf - 1, by omega⟩
theorem b_prim (h : Zb X e T0 B T) (hB : B < 8200) (p : Int32) : wp (RR nf (d + 2) 38 T [p] []) (fun r _ T' => inb r 8200 ∧ Zb X e T0 (B + 1) T') := by
  rw [e_Model_primary]
  unfold rb_Model_primary
  have hb := h.2.2.2.2
  refine wp_v ?_
  refine wp_be (q_bad1 h.bd) ?_
  refine wp_f (by decide) ?_
  refine wp_be (q_node h.2.2.2.1 (by omega) _ _) ?_
  exact wp_some ⟨nin (by omega) (by omega), h.nd hB⟩
theorem b_term (hnf : 5000 ≤ nf) (h : Zb X e T0 B T) (hB : B < 8200) (p : Int32) : wp (RR nf (d + 3) 36 T [p] []) (fun r _ T' => inb r 8200 ∧ Zb X e T0 (B + 1) T') := by
  obtain ⟨n, rfl⟩ := nfS hnf
  rw [e_Model_term]
  unfold rb_Model_term
  refine wp_bi (b_prim h hB p) ?_
  intro r l T1 h1
  rw [rl_Model_term_6]
  refine wp_be (q_bad1 h1.2.bd) ?_
  refine wp_f (by decide) ?_
  exact wp_some h1
theorem b_expr (hnf : 5000 ≤ nf) (h : Zb X e T0 B T) (hB : B < 8200) (p : Int32) : wp (RR nf (d + 4) 35 T [p] []) (fun r _ T' => inb r 8200 ∧ Zb X e T0 (B + 1) T') := by
  have hl : ∀ T1 r, inb r 8200 ∧ Zb X e T0 (B + 1) T1 → wp (rl_Model_expression_16 (RR nf (d + 3)) nf nf T1 p r) (fun r _ T' => inb r 8200 ∧ Zb X e T0 (B + 1) T') := by
    intro T1 r h1
    obtain ⟨n, rfl⟩ := nfS hnf
    rw [rl_Model_expression_16]
    refine wp_be (q_op1 h1.2.bd) ?_
    refine wp_t (by decide) ?_
    exact wp_some h1
  rw [e_Model_expression]
  unfold rb_Model_expression
  refine wp_if (fun _ => ?_) (fun _ => ?_)
  · refine wp_bi (b_term hnf h hB p) ?_
    intro r l T1 h1
    exact hl T1 r h1
  · refine wp_be (q_wrong1 h.bd) ?_
    refine wp_bi (b_term hnf h hB p) ?_
    intro r l T1 h1
    exact hl T1 r h1
theorem b_uses (hnf : 5000 ≤ nf) (h : ¬ T.1 7 0 = 0) : RR nf (d + 2) 29 T [] [] = some (0, 0, T) := by
  obtain ⟨n, rfl⟩ := nfS hnf
  rw [e_Model_readUses]
  unfold rb_Model_readUses
  rw [rl_Model_readUses_2, q_bad1 h]
  rfl
theorem b_args (hnf : 5000 ≤ nf) (h : Zb X e T0 B T) {x1 : Int32} (hx : inb x1 8200) (x2 x3 : Int32) : wp (RR nf (d + 5) 37 T [x1, x2, x3] []) (fun _ _ T' => Zb X e T0 B T') := by
  obtain ⟨n, rfl⟩ := nfS hnf
  rw [e_Model_arguments]
  unfold rb_Model_arguments
  rw [rl_Model_arguments_6]
  refine wp_be (q_bad1 h.bd) ?_
  refine wp_f (by decide) ?_
  refine wp_be (q_nd1 h.bd _) ?_
  refine wp_gd hx ?_
  refine wp_st ?_
  exact wp_some (h.w (by omega))
end BX
/-! what an EXPR, TERM or PRIMARY comes to -/
abbrev EO (X : Lx) (T : gSt) (i : Nat) (t : Tr) (j : Nat) (r : Int32) (T' : gSt) : Prop := i < j ∧ Gd X T' j ∧ Fe T T' ∧ RepM X T' t (nN T) (nN T') r ∧ nN T' + 1 + 2 * i ≤ nN T + 2 * j ∧ ∃ q, r = nI q ∧ nN T ≤ q ∧ q < nN T' ∧ T'.1 51 q = nI (xP X (bgT t))
abbrev EE (X : Lx) (T : gSt) (i m e : Nat) (r : Int32) (T' : gSt) : Prop := i ≤ e ∧ e ≤ xn X ∧ inb r 8200 ∧ Zb X e T (2 * e + 4 * m + 4) T'
def EQ (X : Lx) (T : gSt) (i m : Nat) (res : ER) (r : Int32) (T' : gSt) : Prop := match res with
  | .ok (t, j) => EO X T i t j r T'
  | .error e => EE X T i m e r T'
section XX
variable {nf d : Nat} {T T1 : gSt} {X : Lx} {i i1 m M : Nat}
theorem x_sub {res : ER} {Kc : Tr → Nat → ER} {o : gR} {kk : Int32 → Int64 → gSt → gR} (h : wp o (fun r _ T' => EQ X T1 i1 m res r T')) (hok : ∀ t j r l T', EO X T1 i1 t j r T' → wp (kk r l T') (fun r2 _ T2 => EQ X T i M (Kc t j) r2 T2)) (herr : ∀ e r l T', EE X T1 i1 m e r T' → wp (kk r l T') (fun r2 _ T2 => EE X T i M e r2 T2)) : wp (bi o kk) (fun r2 _ T2 => EQ X T i M (eb res Kc) r2 T2) := by
  refine wp_bi h ?_
  intro r l T' hq
  cases res with
  | error e => exact herr e r l T' hq
  | ok tj =>
    obtain ⟨t, j⟩ := tj
    exact hok t j r l T' hq
theorem x_need (hX : LX X) {j : Nat} {c : Int32} (k : Nat) (hG : Gd X T1 j) (hc : chK k = c) (hk0 : 40 ≤ k) (hk1 : k < 63) {x : ER} {kk : Int32 → Int64 → gSt → gR} (hY : xK X j = k → j < xn X → wp (kk 0 0 (advS T1)) (fun r2 _ T2 => EQ X T i M x r2 T2)) (hN : ∀ T2, Zb X j T1 (nN T1) T2 → wp (kk 0 0 T2) (fun r2 _ T2 => EE X T i M j r2 T2)) : wp (bi (RR nf (d + 4) 20 T1 [c] []) kk) (fun r2 _ T2 => EQ X T i M (ek (xK X) k j x) r2 T2) := by
  unfold ek
  by_cases hk : xK X j = k
  · rw [if_pos hk]
    exact wp_be (q_ndY hX hG.1 hG.2.1 k hc hk hk0) (hY hk (hG.lt hX (by omega)))
  · rw [if_neg hk]
    exact wp_be (q_ndN hX hG.1 hG.2.1 k hc hk hk0 hk1) (hN _ (hG.fail Fz.rf (Nat.le_refl _)))
theorem x_name (hX : LX X) {j : Nat} (hG : Gd X T1 j) {x : ER} {kk : Int32 → Int64 → gSt → gR} (hY : xK X j = 2 → j < xn X → wp (kk 0 (xN X j) (advS T1)) (fun r2 _ T2 => EQ X T i M x r2 T2)) (hN : ∀ w T2, Zb X j T1 (nN T1) T2 → wp (kk 0 w T2) (fun r2 _ T2 => EE X T i M j r2 T2)) : wp (bi (RR nf (d + 3) 21 T1 [] []) kk) (fun r2 _ T2 => EQ X T i M (ek (xK X) 2 j x) r2 T2) := by
  unfold ek
  by_cases hk : xK X j = 2
  · rw [if_pos hk]
    refine wp_be (q_nmY hX hG.1 hG.2.1 hk) ?_
    rw [hG.1.2.2.2.2.2.2.2.2 (Or.inl hk)]
    exact hY hk (hG.lt hX (by omega))
  · rw [if_neg hk]
    exact wp_be (q_nmN hX hG.1 hG.2.1 hk) (hN _ _ (hG.fail Fz.rf (Nat.le_refl _)))
/-- a REGION that is told: a use more -/
theorem x_region (hX : LX X) {j : Nat} (hG : Gd X T1 j) {x : ER} {kk : Int32 → Int64 → gSt → gR} (hY : xK X j = 4 → ∀ T2, Gd X T2 (j + 1) → Fe T1 T2 → nN T2 = nN T1 → RepU X T2 (nU T1) j 1 → nU T2 = nU T1 + 1 → (∀ S, Fe S T1 → Fe S T2) → (∀ q k p o1 o2 o3 nx w s us mu fd, ND T1 q k p o1 o2 o3 nx w s us mu fd → ND T2 q k p o1 o2 o3 nx w s us mu fd) → wp (kk (nI (nU T1)) 0 T2) (fun r2 _ T2 => EQ X T i M x r2 T2)) (hN : ∀ T2, Zb X j T1 (nN T1) T2 → wp (kk 0 0 T2) (fun r2 _ T2 => EE X T i M j r2 T2)) : wp (bi (RR nf (d + 3) 22 T1 [] []) kk) (fun r2 _ T2 => EQ X T i M (ek (xK X) 4 j x) r2 T2) := by
  unfold ek
  by_cases hk : xK X j = 4
  · rw [if_pos hk]
    have hj := hG.lt hX (by omega)
    have hx := hX.1
    have hu : nU T1 < 4000 := by have := hG.2.2.2.2; omega
    refine wp_be (q_rgY hX hG.1 hG.2.1 hk hG.2.2.2.1 hu) ?_
    have g1 : Gd X (rgS T1 (nU T1)) j → Gd X (advS (rgS T1 (nU T1))) (j + 1) := fun h => h.adv hX hj
    have gA : AtM X (advS (rgS T1 (nU T1))) (j + 1) := adv_at hX (rgS_at hG.1) hj
    refine hY hk _ ⟨gA, ?_, ?_, ?_, ?_⟩ ((Fe.rf.rg rfl hu).adv) ?_ ⟨?_, ?_⟩ ?_ (fun S hS => (hS.rg rfl hu).adv) (fun q k p o1 o2 o3 nx w s us mu fd h => h.rg.adv)
    · rw [advS_i (by omega), rgS_i (by omega) (by omega)]; exact hG.2.1
    · rw [advS_i (by omega), rgS_i (by omega) (by omega), nN_adv, nN_rg]; exact hG.2.2.1
    · rw [advS_i (by omega), nU_adv, nU_rg hu]; unfold rgS; simp only [rdI]; simp
    · rw [nU_adv, nU_rg hu]; have := hG.2.2.2.2; omega
    · rw [nN_adv, nN_rg]
    · rw [nU_adv, nU_rg hu]; omega
    · intro k hk'
      have e0 : k = 0 := by omega
      subst e0
      rw [advS_j (by omega), advS_i (by omega)]
      unfold rgS
      simp only [rdI, rdJ, rdIJ, rdJI]
      simp
      exact ⟨hG.1.2.2.2.2.2.2.2.2 (by omega), hG.pl⟩
    · rw [nU_adv, nU_rg hu]
  · rw [if_neg hk]
    exact wp_be (q_rgN hX hG.1 hG.2.1 hk) (hN _ (hG.fail Fz.rf (Nat.le_refl _)))
/-- REGIONS that are told, at most three -/
theorem x_uses_l (hX : LX X) (F0 : gF) (hF0 : F0 = RR nf (d + 3)) : ∀ (f q : Nat) (T : gSt) (i : Nat), Gd X T i → q ≤ 3 → 3 < q + f → wp (rl_Model_readUses_2 F0 nf f T (nI q)) (fun r _ T' => r = nI (q + rgs (xK X) (3 - q) i) ∧ Gd X T' (i + rgs (xK X) (3 - q) i) ∧ Fe T T' ∧ nN T' = nN T ∧ nU T' = nU T + rgs (xK X) (3 - q) i ∧ RepU X T' (nU T) i (rgs (xK X) (3 - q) i) ∧ ∀ q k p o1 o2 o3 nx w s us mu fd, ND T q k p o1 o2 o3 nx w s us mu fd → ND T' q k p o1 o2 o3 nx w s us mu fd) := by
  subst hF0
  intro f
  induction f with
  | zero => intro q T i hG h1 h2; omega
  | succ f ih =>
    intro q T i hG h1 h2
    have t := hX.2.2.2.2.1 i hG.1.1
    rw [rl_Model_readUses_2]
    refine wp_be (q_bad0 hG.2.1) ?_
    refine wp_t rfl ?_
    by_cases hk : xK X i = 4
    · refine wp_t (by rw [hG.1.2.2.2.1]; exact (srtK_rg _ (okK_lt t.1)).mpr hk) ?_
      by_cases h3 : q = 3
      · subst h3
        refine wp_t (by decide) ?_
        exact wp_some ⟨rfl, hG, Fe.rf, rfl, rfl, ⟨by show nU T + 0 ≤ nU T; omega, fun k hk => absurd hk (by show ¬ k < 0; omega)⟩, fun q k p o1 o2 o3 nx w s us mu fd h => h⟩
      · refine wp_f (by intro q3; exact h3 (by have := (nI_leI (a := 3) (b := q) (by omega) (by omega)).mp q3; omega)) ?_
        have hj := hG.lt hX (by omega)
        have hx := hX.1
        have hu : nU T < 4000 := by have := hG.2.2.2.2; omega
        refine wp_be (q_rgY hX hG.1 hG.2.1 hk hG.2.2.2.1 hu) ?_
        refine wp_v ?_
        rw [nI_1]
        have er : rgs (xK X) (3 - q) i = rgs (xK X) (3 - (q + 1)) (i + 1) + 1 := by
          rw [show 3 - q = (3 - (q + 1)) + 1 by omega, rgs, if_pos hk]
        have hG2 : Gd X (advS (rgS T (nU T))) (i + 1) := ⟨adv_at hX (rgS_at hG.1) hj, by rw [advS_i (by omega), rgS_i (by omega) (by omega)]; exact hG.2.1, by rw [advS_i (by omega), rgS_i (by omega) (by omega), nN_adv, nN_rg]; exact hG.2.2.1, by rw [advS_i (by omega), nU_adv, nU_rg hu]; unfold rgS; simp only [rdI]; simp, by rw [nU_adv, nU_rg hu]; have := hG.2.2.2.2; omega⟩
        refine wp_mono (ih (q + 1) (advS (rgS T (nU T))) (i + 1) hG2 (by omega) (by omega)) ?_
        intro r l T' h
        obtain ⟨a1, a2, a3, a4, a5, a6, a7⟩ := h
        rw [nU_adv, nU_rg hu] at a5 a6
        rw [nN_adv, nN_rg] at a4
        rw [er]
        refine ⟨by rw [a1]; congr 1; omega, by rw [show i + (rgs (xK X) (3 - (q + 1)) (i + 1) + 1) = i + 1 + rgs (xK X) (3 - (q + 1)) (i + 1) by omega]; exact a2, ((Fe.rf.rg rfl hu).adv).tr a3, a4, by omega, ⟨by omega, ?_⟩, fun q k p o1 o2 o3 nx w s us mu fd h => a7 q k p o1 o2 o3 nx w s us mu fd h.rg.adv⟩
        intro k hk2
        rcases Nat.eq_zero_or_pos k with hz | hz
        · subst hz
          have g := a3.2.1.2.2.2 (nU T) (by rw [nU_adv, nU_rg hu]; omega)
          rw [show nU T + 0 = nU T from rfl, show i + 0 = i from rfl, g.1, g.2, advS_j (by omega), advS_i (by omega)]
          unfold rgS
          simp only [rdI, rdJ, rdIJ, rdJI]
          simp
          exact ⟨hG.1.2.2.2.2.2.2.2.2 (by omega), hG.pl⟩
        · have g := a6.2 (k - 1) (by omega)
          rw [show nU T + 1 + (k - 1) = nU T + k by omega, show i + 1 + (k - 1) = i + k by omega] at g
          exact g
    · refine wp_f (by rw [hG.1.2.2.2.1]; exact fun q => hk ((srtK_rg _ (okK_lt t.1)).mp q)) ?_
      have er : rgs (xK X) (3 - q) i = 0 := by
        cases h : 3 - q with
        | zero => rfl
        | succ n => rw [rgs, if_neg hk]
      rw [er]
      exact wp_some ⟨rfl, hG, Fe.rf, rfl, rfl, ⟨by omega, fun k hk => by omega⟩, fun q k p o1 o2 o3 nx w s us mu fd h => h⟩
theorem x_uses (hX : LX X) (hnf : 5000 ≤ nf) (hG : Gd X T i) : wp (RR nf (d + 4) 29 T [] []) (fun r _ T' => r = nI (rgs (xK X) 3 i) ∧ Gd X T' (i + rgs (xK X) 3 i) ∧ Fe T T' ∧ nN T' = nN T ∧ nU T' = nU T + rgs (xK X) 3 i ∧ RepU X T' (nU T) i (rgs (xK X) 3 i) ∧ ∀ q k p o1 o2 o3 nx w s us mu fd, ND T q k p o1 o2 o3 nx w s us mu fd → ND T' q k p o1 o2 o3 nx w s us mu fd) := by
  rw [e_Model_readUses]
  unfold rb_Model_readUses
  have h := x_uses_l (nf := nf) (d := d) hX (RR nf (d + 3)) rfl nf 0 T i hG (by omega) (by omega)
  rw [nI_0] at h
  refine wp_mono h ?_
  intro r l T' h
  rw [Nat.zero_add] at h
  exact h
end XX
