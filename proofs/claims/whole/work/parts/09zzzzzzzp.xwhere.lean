/-! the parts of a call: how many arguments, where, dead -/
section CYP
variable {R : RgR} {S S' S0 S1 S2 T T' T1 T2 : gSt} {X : Lx} {nf d i k n m t e w c a b q g f h r s y z lo hi dd mb y1 y2 kd kw kw1 lv lv1 st u h1 h2 zw np N : Nat} {x v x' pl pr u1 u2 u3 op x1 x2 : Int32} {sl : Int32 → Int32} {ta tb tr : Tr} {o : Bool}
theorem c_cpl (tr : Tr) : ∀ (lo hi c j fl a b : Nat), RcG X T tr 2 lo hi 0 → 1 ≤ lo → hi ≤ 4008 → Wf X tr true a b → b ≤ 4000 → lenT tr < fl → j + lenT tr ≤ 4000 → rl_Source_countPeers_7 (PP nf d) nf fl T (nI c) (if isZ tr = true then 0 else nI lo) (nI j) = some (nI (c + lenT tr), 0, T) := by
  induction tr using Tr_ind with
  | hz tr hz =>
    intro lo hi c j fl a b h hl hh hw hb hf hj
    unfold RcG at h
    split at h
    · exact absurd rfl (hz _ _ _ _ _)
    · rename_i q
      obtain ⟨fl, rfl⟩ : ∃ g, fl = g + 1 := ⟨fl - 1, by omega⟩
      rw [show (if isZ (Lean.Grind.CommRing.Expr.num q) = true then (0 : Int32) else nI lo) = 0 from rfl, rl_Source_countPeers_7, if_pos rfl]
      rfl
    · exact h.elim
  | h kk i e ta tb ihA ihB =>
    intro lo hi c j fl a b h hl hh hw hb hf hj
    rw [RcG_n] at h
    unfold RcN at h
    rw [if_pos rfl] at h
    obtain ⟨c10, _, mm, r1, r2, _, r5, r6⟩ := h
    rw [Wf_n] at hw
    unfold WfN at hw
    rw [if_pos rfl] at hw
    obtain ⟨_, b1, c1, f1, f2, f3⟩ := hw
    rw [lenT_n] at hf hj ⊢
    obtain ⟨fl, rfl⟩ : ∃ g, fl = g + 1 := ⟨fl - 1, by omega⟩
    rw [show (if isZ (tD kk i e ta tb) = true then (0 : Int32) else nI lo) = nI lo from rfl, rl_Source_countPeers_7, if_neg (fun w => by have := nI_inj (a := lo) (b := 0) (by omega) (by omega) w; omega), if_neg (fun w => by have := (nI_leI (a := 4008) (b := j) (by omega) (by omega)).mp w; omega), vK, gd, if_pos (nin (by omega) (by omega)), nc (by omega), vK, vK, nI_1, nI_1, r5, ihB mm hi (c + 1) (j + 1) fl c1 b r6 (by omega) hh f3 hb (by omega) (by omega), show c + 1 + lenT tb = c + (lenT tb + 1) by omega]
theorem c_peers (hX : XO X) (hnf : 16385 ≤ nf) (h : RcG X T tr 2 lo hi 0) (hl : 1 ≤ lo) (hh : hi ≤ 4008) (hw : Wf X tr true a b) (hb : b ≤ xn X) (hd : 1 ≤ d) : PP nf d 34 T [if isZ tr = true then 0 else nI lo] [] = some (nI (lenT tr), 0, T) := by
  obtain ⟨d, rfl⟩ : ∃ g, d = g + 1 := ⟨d - 1, by omega⟩
  have hxn := hX.1
  have le := (Wf_le _ true _ _ hw).2 rfl
  rw [e_Source_countPeers]
  unfold rb_Source_countPeers
  have := c_cpl (nf := nf) (d := d) tr lo hi 0 0 nf a b h hl hh hw (by omega) (by omega) (by omega)
  rw [Nat.zero_add] at this
  exact this
theorem pr_up : ∀ r s : Fin 4, ((nI r.1 <<< ((2 : Int32) &&& 31)) ||| nI s.1) >>> ((2 : Int32) &&& 31) = nI r.1 ∧ ((nI r.1 <<< ((2 : Int32) &&& 31)) ||| nI s.1) &&& 3 = nI s.1 := by decide
theorem c_pair (ht : t < 24) (h46 : T.1 46 t = nI w) (hw : w ≤ 3) (hk : k < w) (hr : r ≤ 3) (hs : s ≤ 3) (h47 : T.1 47 (3 * t + k) = ((nI r <<< ((2 : Int32) &&& 31)) ||| nI s)) (hd : 1 ≤ d) : PP nf d 42 T [nI t, nI k] [] = some (nI r, 0, T) ∧ PP nf d 43 T [nI t, nI k] [] = some (nI s, 0, T) := by
  obtain ⟨d, rfl⟩ : ∃ g, d = g + 1 := ⟨d - 1, by omega⟩
  have zt : inb (nI t) 24 := nin ht (by omega)
  have e3 : nI t * 3 + nI k = nI (3 * t + k) := by
    rw [show (3 : Int32) = nI 3 from rfl, nI_mul, show nI (t * 3) + nI k = nI (t * 3 + k) from (Int32.ofNat_add _ _).symm, Nat.mul_comm]
  have lk : ¬ nI w ≤ nI k := fun v => by have := (nI_leI (by omega) (by omega)).mp v; omega
  have p := pr_up ⟨r, by omega⟩ ⟨s, by omega⟩
  rw [e_Items_upperOf, e_Items_lowerOf]
  unfold rb_Items_upperOf rb_Items_lowerOf
  rw [gd, if_pos zt, nc (by omega), h46, if_neg lk, e3, gd, if_pos (nin (by omega) (by omega)), nc (by omega), h47, p.1]
  refine ⟨rfl, ?_⟩
  rw [gd, if_pos zt, if_neg lk, gd, if_pos (nin (by omega) (by omega)), p.2]
/-- checkWhere -/
theorem y_whl (hX : XO X) (ht : t < 24) (hg : g < 4096) (hi : i < 90000) (hw3 : w ≤ 3) (hd : 4 ≤ d) : ∀ (j k fl : Nat) (T : gSt), k + j = w → 3 - k < fl → WX X T → T.1 46 t = nI w → (∀ q, q < w → ∃ r s, 1 ≤ r ∧ r ≤ 3 ∧ 1 ≤ s ∧ s ≤ 3 ∧ T.1 47 (3 * t + q) = ((nI r <<< ((2 : Int32) &&& 31)) ||| nI s)) → wp (rl_Exprs_checkWhere_3 (PP nf d) nf fl T (nI t) (nI g) (nI i) (nI k)) (fun _ _ T' => FX T T' ∧ ∀ R sl S W, XR R sl X S T → DgR R W g → (∀ q, q < w → PiR S T t q) → BfR (cwhS X (nI t) (nI W) (i + 1) j k S) T' ∨ (T' = T ∧ cwhS X (nI t) (nI W) (i + 1) j k S = S)) := by
  intro j
  induction j with
  | zero =>
    intro k fl T hk hf hW h46 hp
    obtain ⟨fl, rfl⟩ : ∃ g, fl = g + 1 := ⟨fl - 1, by omega⟩
    obtain ⟨d, rfl⟩ : ∃ g, d = g + 1 := ⟨d - 1, by omega⟩
    rw [rl_Exprs_checkWhere_3]
    have done : wp (some ((0 : Int32), (0 : Int64), T)) (fun _ _ T' => FX T T' ∧ ∀ R sl S W, XR R sl X S T → DgR R W g → (∀ q, q < w → PiR S T t q) → BfR (cwhS X (nI t) (nI W) (i + 1) 0 k S) T' ∨ (T' = T ∧ cwhS X (nI t) (nI W) (i + 1) 0 k S = S)) := wp_some ⟨FX.rf hW.2.1, fun R sl S W _ _ _ => Or.inr ⟨rfl, rfl⟩⟩
    by_cases c3 : (3 : Int32) ≤ nI k
    · rw [if_pos c3]; exact done
    · have e42 : PP nf (d + 1) 42 T [nI t, nI k] [] = some (0, 0, T) := by
        rw [e_Items_upperOf]
        unfold rb_Items_upperOf
        rw [gd, if_pos (nin ht (by omega)), nc (by omega), h46, if_pos (show nI w ≤ nI k from (nI_leI (by omega) (by omega)).mpr (by omega))]
      rw [if_neg c3, e42, bis, if_pos rfl]
      exact done
  | succ j ih =>
    intro k fl T hk hf hW h46 hp
    obtain ⟨fl, rfl⟩ : ∃ g, fl = g + 1 := ⟨fl - 1, by omega⟩
    obtain ⟨r, s, r1, r2, s1, s2, h47⟩ := hp k (by omega)
    obtain ⟨u1, u2⟩ := c_pair (nf := nf) (d := d) ht h46 hw3 (by omega) r2 s2 h47 (by omega)
    obtain ⟨w1, w2, w3, w4, w5, w6, ⟨ti, w7, w7', _⟩, w8, w9⟩ := hW
    have tr1 : t1C g r < 16 := t1_lt (by omega)
    have tr2 : t1C g s < 16 := t1_lt (by omega)
    obtain ⟨o, ho, hoi⟩ := c_outl (nf := nf) (d := d) (T := T) (r := t1C g r) (s := t1C g s) tr1 tr2 w7 w7' (by omega)
    obtain ⟨d1, hd1⟩ : ∃ g, d = g + 1 := ⟨d - 1, by omega⟩
    rw [rl_Exprs_checkWhere_3, if_neg (fun v => by have := (nI_leI (a := 3) (b := k) (by omega) (by omega)).mp v; omega), u1, bis, if_neg (fun v => by have := nI_inj (a := r) (b := 0) (by omega) (by omega) v; omega), u1, bis, u2, bis, c_toldOne (by omega) hg (by omega), bis, c_toldOne (by omega) hg (by omega), bis, ho, bis, show nI i + nI r = nI (i + r) from (Int32.ofNat_add _ _).symm, show PP nf d 26 T [nI (i + r)] [] = some (nI (xP X (i + r)), 0, T) by rw [hd1]; exact c_start hX w1 (by omega), bis, c_dem (by omega), bis, vK, nI_1]
    generalize hT2 : (if (if o = true then (1 : Int32) else 0) = 0 then ntS T 5 (nI (xP X (i + r))) else T) = T2
    have f2 : FX T T2 := by rw [← hT2]; exact FX.dm w2
    have hW' : WX X T := ⟨w1, w2, w3, w4, w5, w6, ⟨ti, w7, w7', ‹_›⟩, w8, w9⟩
    refine wp_mono (ih (k + 1) fl T2 (by omega) (by omega) (hW'.fx f2) (by rw [f2.o (by omega)]; exact h46) (fun q hq => by rw [f2.o (by omega)]; exact hp q hq)) ?_
    intro _ _ T' ⟨f3, hB⟩
    refine ⟨f2.tr f3, fun R sl S W hR hD hpi => ?_⟩
    rw [cwhS, if_pos hR.h0]
    obtain ⟨r', s', q1, q2, q3, q4, q5, q6, q7⟩ := hpi k (by omega)
    have pa := pr_up ⟨r, by omega⟩ ⟨s, by omega⟩
    have pb := pr_up ⟨r', by omega⟩ ⟨s', by omega⟩
    have er : r = r' := nI_inj (by omega) (by omega) (by rw [← pa.1, ← pb.1]; simp only; rw [← h47, ← q7])
    have es : s = s' := nI_inj (by omega) (by omega) (by rw [← pa.2, ← pb.2]; simp only; rw [← h47, ← q7])
    subst er es
    have ct : (nI t).toNatClampNeg = t := nc (by omega)
    have sub : ∀ p, 1 ≤ p → p ≤ 3 → nI p - 1 = nI (p - 1) := fun p a b => by
      have := nI_sub (k := p - 1)
      rw [show p - 1 + 1 = p by omega] at this
      exact this
    have e1 : t1C g r = g / 16 ^ (r - 1) % 16 := by unfold t1C; rw [if_neg (by omega)]
    have e2 : t1C g s = g / 16 ^ (s - 1) % 16 := by unfold t1C; rw [if_neg (by omega)]
    have ov := hR.2.2.2.2.2.2.1 _ _ _ _ (hD.2.2 (r - 1) (by omega)) (hD.2.2 (s - 1) (by omega))
    rw [ct, show 6 * t + 2 * k + 1 = 6 * t + (2 * k + 1) by omega, q5, q6, sub r r1 r2, sub s s1 s2, pt_nI hD.1 (by omega), pt_nI hD.1 (by omega), nc (by omega), show i + 1 + r - 1 = i + r by omega]
    rw [e1, e2] at hoi
    by_cases co : o = true
    · have eT : T2 = T := by rw [← hT2, if_pos co, if_neg (by decide)]
      rw [if_neg (fun v => ov.mp v (hoi.mp co))]
      subst eT
      exact hB R sl S W hR hD hpi
    · have bf : BfR (flT S 5 (nI (xP X (i + r)))) T2 := by
        rw [← hT2, if_neg co, if_pos rfl]
        exact bf_nt (a := 5) hR.h0 hR.h53 (by decide)
      rw [if_pos (ov.mpr (fun v => co (hoi.mpr v)))]
      left
      have : cwhS X (nI t) (nI W) (i + 1) j (k + 1) (flT S 5 (nI (xP X (i + r)))) = flT S 5 (nI (xP X (i + r))) := by
        cases j with
        | zero => rfl
        | succ j => rw [cwhS, if_neg bf.1]
      rw [this]
      exact bf.fx f3
end CYP
