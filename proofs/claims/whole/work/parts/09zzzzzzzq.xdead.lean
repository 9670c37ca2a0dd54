/-! the dead of a call -/
section CYQ
variable {R : RgR} {S S' S0 S1 S2 T T' T1 T2 : gSt} {X : Lx} {nf d i k n m t e w c a b q g f h r s y z lo hi dd mb y1 y2 kd kw kw1 lv lv1 st u h1 h2 zw np N : Nat} {x v x' pl pr u1 u2 u3 op x1 x2 : Int32} {sl : Int32 → Int32} {ta tb tr : Tr} {o : Bool}
theorem cdd_bad : ∀ (j k : Nat), ¬ S.1 7 0 = 0 → cddS X x v q j k S = S := by
  intro j k h
  cases j with
  | zero => rfl
  | succ j => rw [cddS, if_neg h]
theorem cwh_bad : ∀ (j k : Nat), ¬ S.1 7 0 = 0 → cwhS X x v q j k S = S := by
  intro j k h
  cases j with
  | zero => rfl
  | succ j => rw [cwhS, if_neg h]
/-- what stands behind the dead -/
def clT (nf d : Nat) (i t g : Nat) (T : gSt) : gR := bi (PP nf d 161 T [nI t, nI g, nI i] []) fun _ _ T25 => bi (PP nf d 51 T25 [(57 : Int32), nI t, nI g] []) fun _ _ T26 => gd (inb (nI t) 24) <| bi (PP nf d 98 T26 [T26.1 38 (nI t).toNatClampNeg, nI g, (1 : Int32)] []) fun r28 _ T28 => some (r28, 0, T28)
theorem y_ddl (hX : XO X) (ht : t < 24) (hg : g < 4096) (hi : i < 90000) (he : e ≤ 3) (hd : 4 ≤ d) {Q : Int32 → Int64 → gSt → Prop} : ∀ (j k fl : Nat) (T : gSt), k + j = e + 1 → 1 ≤ k → j < fl → WX X T → (∀ T', FX T T' → (∀ R sl S W, XR R sl X S T → DgR R W g → T.1 39 t = S.1 30 t → BfR (cddS X (nI t) (nI W) (i + 1) j (k - 1) S) T' ∨ (T' = T ∧ cddS X (nI t) (nI W) (i + 1) j (k - 1) S = S)) → wp (clT nf d i t g T') Q) → wp (rl_Exprs_checkCall_172 (PP nf d) nf fl T (nI i) (nI e) (nI t) (nI g) (nI k)) Q := by
  have zt : inb (nI t) 24 := nin ht (by omega)
  have ct : (nI t).toNatClampNeg = t := nc (by omega)
  intro j
  induction j with
  | zero =>
    intro k fl T hk h1 hf hW hQ
    obtain ⟨fl, rfl⟩ : ∃ g, fl = g + 1 := ⟨fl - 1, by omega⟩
    rw [rl_Exprs_checkCall_172, if_pos (show nI e < nI k from (nI_ltI (by omega) (by omega)).mpr (by omega))]
    exact hQ T (FX.rf hW.2.1) (fun R sl S W _ _ _ => Or.inr ⟨rfl, rfl⟩)
  | succ j ih =>
    intro k fl T hk h1 hf hW hQ
    obtain ⟨fl, rfl⟩ : ∃ g, fl = g + 1 := ⟨fl - 1, by omega⟩
    obtain ⟨d1, hd1⟩ : ∃ g, d = g + 1 := ⟨d - 1, by omega⟩
    have w1 := hW.1
    have w2 := hW.2.1
    have st26 : PP nf d 26 T [nI (i + k)] [] = some (nI (xP X (i + k)), 0, T) := by rw [hd1]; exact c_start hX w1 (by omega)
    have ek : nI i + nI k = nI (i + k) := (Int32.ofNat_add _ _).symm
    rw [rl_Exprs_checkCall_172, if_neg (fun v => by have := (nI_ltI (by omega) (by omega)).mp v; omega), gd, if_pos zt, ct]
    -- the loop goes on
    have go : ∀ T2, FX T T2 → (∀ R sl S W, XR R sl X S T → DgR R W g → T.1 39 t = S.1 30 t → (BfR (flT S 5 (nI (xP X (i + k)))) T2 ∧ (((S.1 30 t >>> (nI k &&& 31)) &&& 1) = 0 ∧ isLv S (ptOf (nI W) (nI (k - 1))) = 0)) ∨ (T2 = T ∧ ¬ (((S.1 30 t >>> (nI k &&& 31)) &&& 1) = 0 ∧ isLv S (ptOf (nI W) (nI (k - 1))) = 0))) → wp (rl_Exprs_checkCall_172 (PP nf d) nf fl T2 (nI i) (nI e) (nI t) (nI g) (nI (k + 1))) Q := by
      intro T2 f2 hS
      refine ih (k + 1) fl T2 (by omega) (by omega) (by omega) (hW.fx f2) (fun T' f3 hB => ?_)
      refine hQ T' (f2.tr f3) (fun R sl S W hR hD h39 => ?_)
      rw [cddS, if_pos hR.h0, ct, show nI (k - 1) + 1 = nI k by rw [nI_1, show k - 1 + 1 = k by omega], show i + 1 + (k - 1) = i + k by omega]
      rcases hS R sl S W hR hD h39 with ⟨bf, cc⟩ | ⟨eT, cc⟩
      · rw [if_pos cc, cdd_bad _ _ bf.1]
        exact Or.inl (bf.fx f3)
      · rw [if_neg cc]
        subst eT
        have := hB R sl S W hR hD h39
        rw [show k + 1 - 1 = k - 1 + 1 by omega] at this
        exact this
    by_cases c39 : ((T.1 39 t >>> (nI k &&& 31)) &&& 1) = 0
    · rw [if_pos c39]
      unfold rj_Exprs_checkCall_202
      have tl : t1C g k < 16 := t1_lt (by omega)
      rw [if_pos rfl, c_toldOne (by omega) hg (by omega), bis, c_live tl (by omega), bis]
      have e1 : t1C g k = g / 16 ^ (k - 1) % 16 := by unfold t1C; rw [if_neg (by omega)]
      by_cases cl : fb (flw T) (40 + t1C g k) = true
      · rw [if_pos cl, if_neg (show ¬ (1 : Int32) = 0 by decide), ek, st26, bis, c_dem (by omega), bis, if_neg (show ¬ (1 : Int32) = 0 by decide), vK, nI_1]
        refine go T (FX.rf w2) (fun R sl S W hR hD h39 => Or.inr ⟨rfl, fun w => ?_⟩)
        have lv := hR.2.2.2.2.2.1 _ _ (hD.2.2 (k - 1) (by omega))
        rw [pt_nI hD.1 (by omega)] at w
        rw [e1, lv.mp w.2] at cl
        exact absurd cl (by decide)
      · rw [if_neg cl, if_pos rfl, ek, st26, bis, c_dem (by omega), bis, if_pos rfl, vK, nI_1]
        refine go _ (FX.nt w2) (fun R sl S W hR hD h39 => Or.inl ⟨bf_nt (a := 5) hR.h0 hR.h53 (by decide), by rw [← h39]; exact c39, ?_⟩)
        have lv := hR.2.2.2.2.2.1 _ _ (hD.2.2 (k - 1) (by omega))
        rw [pt_nI hD.1 (by omega)]
        rw [e1] at cl
        exact lv.mpr (by simpa using cl)
    · rw [if_neg c39]
      unfold rj_Exprs_checkCall_202
      rw [if_neg (show ¬ (1 : Int32) = 0 by decide), ek, st26, bis, c_dem (by omega), bis, if_neg (show ¬ (1 : Int32) = 0 by decide), vK, nI_1]
      exact go T (FX.rf w2) (fun R sl S W hR hD h39 => Or.inr ⟨rfl, fun w => c39 (by rw [h39]; exact w.1)⟩)
end CYQ
