/-! between calls: what changes both */
-/
section SWO
variable {M T M' T' Sf : gSt} {i nf d d' n1 n27 u : Nat} {p q : Int32} {F F' : gF}
theorem tx_eq (h : TxE M M') : tx M M' = M' := by
  have e : (tx M M').1 = M'.1 := by
    funext k
    by_cases c : k ≤ 1
    · show (if k ≤ 1 then M'.1 k else M.1 k) = M'.1 k
      rw [if_pos c]
    · rw [tx_o (by omega), h.1 k (by omega)]
  exact Prod.ext e h.2.symm
theorem Inv.tx {z : Nat} (h : Inv i M T) (hM : TxE M M') (hT : TxE T T') (h1 : M'.1 1 0 = nI z) (h2 : T'.1 1 0 = nI z) (hz : z ≤ 4000) (h0 : T'.1 0 = M'.1 0) (hc : ∀ j, j < 4000 → 0 ≤ T'.1 0 j ∧ T'.1 0 j ≤ 255) : Inv i M' T' := by
  obtain ⟨⟨z0, z1, ⟨c1, c2, c3, c4, c5, c6, c7⟩, z3, z4⟩, ⟨r1, r2, r3⟩, fl, pr, rn, co⟩ := h
  have eE : EW T' = EW T := by unfold EW; rw [hT.2]
  have eS : ∀ s, SW T' s = SW T s := fun s => by unfold SW; rw [hT.2]
  refine ⟨⟨z, h1, ⟨h2, hz, hc, fun j hj => by rw [hT.2]; exact c4 j hj, by rw [hT.1 71 (by omega)]; exact c5, by rw [eE]; exact c6, fun s hs => by rw [eS, eE]; exact c7 s hs⟩, by rw [eE]; exact z3, h0⟩, ⟨fun c hc => by rw [hM.1 74 (by omega)]; exact r1 c hc, ?_, ?_⟩, ?_, ?_, ?_, fun q hq => by rw [hM.1 115 (by omega), hT.1 101 (by omega)]; exact co q hq⟩
  · unfold I78 at r2 ⊢
    rw [hM.1 7 (by omega), hM.1 8 (by omega)]
    exact r2
  · unfold I54 at r3 ⊢
    rw [hT.1 53 (by omega), hT.1 54 (by omega)]
    exact r3
  · unfold FlI at fl ⊢
    rw [hM.1 9 (by omega), hT.1 2 (by omega), hM.1 7 (by omega), hM.1 8 (by omega), hT.1 53 (by omega), hT.1 54 (by omega)]
    exact fl
  · unfold PrI at pr ⊢
    rw [hM.1 10 (by omega), hT.1 3 (by omega)]
    rcases pr with pr | ⟨p1, p2, ⟨n, b1, b2, b3, b4, b5, b6⟩, M0, T0, Sf, n1, n27, u, pa, po⟩
    · exact Or.inl pr
    · have eF := cF_eq (M := M) (M' := M') (hM.1 12 (by omega)) n 0
      refine Or.inr ⟨p1, p2, ⟨n, by rw [hM.1 11 (by omega)]; exact b1, b2, by rw [eF]; exact b3, by rw [eF, hT.1 52 (by omega)]; exact b4, by rw [eF, hT.1 52 (by omega)]; exact b5, ?_⟩, _, _, Sf, n1, n27, u, pa.tx (M' := M') (T' := T'), po.tx hM hT⟩
      rw [hT.1 52 (by omega), hM.1 92 (by omega), hM.1 88 (by omega), hM.1 89 (by omega), hM.1 90 (by omega), hM.1 91 (by omega)]
      exact b6
  · rcases rn with ⟨s1, s2, s3⟩ | ⟨M0, T0, Sf, n1, n27, u, P, W, B, a1, a2, a3⟩
    · exact Or.inl ⟨by rw [hM.1 100 (by omega)]; exact s1, by rw [hT.1 106 (by omega)]; exact s2, fun k hk => by rw [hM.1 k (by omega)]; exact s3 k hk⟩
    · have c6 : cn Sf ≤ 6000 := by have := a1.1.2.1; omega
      refine Or.inr ⟨_, _, Sf, n1, n27, u, P, W, B, a1.tx (M' := M') (T' := T'), a2, fun K => ?_⟩
      rcases a3 K with g | g
      · exact Or.inl (g.tx a1.1.1 c6 hM hT)
      · exact Or.inr (g.tx hM hT)
/-- end */
-/
theorem v_end (h : Inv i M T) : ∃ r M' T', rb_Model_end F nf M p = some (r, 0, M') ∧ rb_House_end F' nf T p = some (r, 0, T') ∧ Inv i M' T' := by
  have h0 := h
  obtain ⟨⟨z0, z1, ⟨c1, c2, c3, c4⟩, z3, z4⟩, _⟩ := h0
  unfold rb_Model_end rb_House_end
  rw [z1, c1]
  by_cases c : p < 0
  · rw [if_pos c, if_pos c]
    exact ⟨_, _, _, rfl, rfl, h⟩
  rw [if_neg c, if_neg c]
  by_cases e : p ≤ nI z0
  · rw [if_pos e, if_pos e]
    obtain ⟨j, rfl, hj⟩ := i32_nn c
    have jz : j ≤ z0 := by
      have := Int32.le_iff_toInt_le.mp e
      rw [show nI j = Int32.ofNat j from rfl, Int32.toInt_ofNat_of_lt (by omega), show nI z0 = Int32.ofNat z0 from rfl, Int32.toInt_ofNat_of_lt (by omega)] at this
      omega
    refine ⟨_, _, _, rfl, rfl, h.tx (z := j) ⟨fun k hk => sI_ne (by omega), rfl⟩ ⟨fun k hk => sI_ne (by omega), rfl⟩ (by rw [sI_v]) (by rw [sI_v]) (by omega) (by rw [sI_ne (by omega), sI_ne (by omega)]; exact z4) (fun k hk => by rw [sI_ne (by omega)]; exact c3 k hk)⟩
  · rw [if_neg e, if_neg e]
    exact ⟨_, _, _, rfl, rfl, h⟩
/-- input */
-/
theorem v_input (h : Inv i M T) (hd : 1 ≤ d') : ∃ r M' T', rb_Model_input_I F nf M p = some (r, 0, M') ∧ rb_House_input (PP nf d') nf T p = some (r, 0, T') ∧ Inv i M' T' := by
  obtain ⟨d1, rfl⟩ : ∃ g, d' = g + 1 := ⟨d' - 1, by omega⟩
  unfold rb_Model_input_I rb_House_input
  rw [e_Machine_takeInput]
  unfold rb_Machine_takeInput
  have h0 := h
  obtain ⟨h1, h2, h3, h4, rn, co⟩ := h0
  rcases rn with ⟨s1, s2, s3⟩ | rn
  · rw [s1, s2]
    exact ⟨-1, M, T, rfl, rfl, h⟩
  · have an := rn.an
    obtain ⟨⟨a1, a2, _⟩, _, _, _, ⟨w, w1, w2, w3, w4⟩, _⟩ := an
    rw [← a1]
    by_cases c : M.1 100 0 = 1
    · rw [if_pos c, if_pos c, w1, w2]
      by_cases e : w = 100
      · subst e
        rw [if_pos (show nI 100 = (100 : Int32) from rfl), if_neg (show ¬ nI 100 < (100 : Int32) by decide), bis]
        exact ⟨_, _, _, rfl, rfl, h⟩
      · have l : w < 100 := by omega
        rw [if_neg (show ¬ nI w = (100 : Int32) from fun z => e (nI_inj (by omega) (by omega) (show nI w = nI 100 from z))), if_pos (show nI w < (100 : Int32) from (nI_ltI (a := w) (b := 100) (by omega) (by omega)).mpr l)]
        unfold gd stK
        dsimp only
        have eM : (sI M 151 w p).1 150 0 = nI w := by rw [sI_ne (by omega)]; exact w1
        have eT : (sI T 110 w p).1 111 0 = nI w := by rw [sI_ne (by omega)]; exact w2
        rw [if_pos (nin (by omega) (by omega)), if_pos (nin (by omega) (by omega)), nc (by omega), bis, eM, eT, nI_1, sI_v, sI_v]
        have oM : ∀ k, k ≠ 150 → k ≠ 151 → (sI (sI M 151 w p) 150 0 (nI (w + 1))).1 k = M.1 k := fun k k1 k2 => by rw [sI_ne k1, sI_ne k2]
        have oT : ∀ k, k ≠ 110 → k ≠ 111 → (sI (sI T 110 w p) 111 0 (nI (w + 1))).1 k = T.1 k := fun k k1 k2 => by rw [sI_ne k2, sI_ne k1]
        have hI : InO (sI (sI M 151 w p) 150 0 (nI (w + 1))) (sI (sI T 110 w p) 111 0 (nI (w + 1))) := ⟨w + 1, by rw [sI_v], by rw [sI_v], by omega, fun j hj => by
          have q1 : (sI (sI M 151 w p) 150 0 (nI (w + 1))).1 151 j = (sI M 151 w p).1 151 j := by rw [sI_ne (by omega)]
          have q2 : (sI (sI T 110 w p) 111 0 (nI (w + 1))).1 110 j = (sI T 110 w p).1 110 j := by rw [sI_ne (by omega)]
          rw [q1, q2, rdI, rdI]
          by_cases z : j = w
          · rw [if_pos ⟨rfl, z⟩, if_pos ⟨rfl, z⟩]
          · rw [if_neg (fun y => z y.2), if_neg (fun y => z y.2)]
            exact w4 j (by omega)⟩
        refine ⟨_, _, _, rfl, rfl, ?_⟩
        obtain ⟨M0, T0, Sf, n1, n27, u, P, W, B, b1, b2, b3⟩ := rn
        have c6 : cn Sf ≤ 6000 := by have := b1.1.2.1; omega
        obtain ⟨⟨z0, z1, ⟨c1, c2, c3, c4, c5, c6', c7⟩, z3, z4⟩, ⟨r1, r2, r3⟩, fl, pr⟩ := (⟨h1, h2, h3, h4⟩ : _ ∧ _ ∧ _ ∧ _)
        refine ⟨⟨z0, by rw [oM 1 (by omega) (by omega)]; exact z1, ⟨by rw [oT 1 (by omega) (by omega)]; exact c1, c2, fun j hj => by rw [oT 0 (by omega) (by omega)]; exact c3 j hj, c4, by rw [oT 71 (by omega) (by omega)]; exact c5, c6', c7⟩, z3, by rw [oM 0 (by omega) (by omega), oT 0 (by omega) (by omega)]; exact z4⟩, ⟨fun c hc => by rw [oM 74 (by omega) (by omega)]; exact r1 c hc, ?_, ?_⟩, ?_, ?_, Or.inr ⟨M0, T0, Sf, n1, n27, u, P, W, B, b1, b2, fun K => ?_⟩, fun q hq => by rw [oM 115 (by omega) (by omega), oT 101 (by omega) (by omega)]; exact co q hq⟩
        · unfold I78 at r2 ⊢
          rw [oM 7 (by omega) (by omega), oM 8 (by omega) (by omega)]
          exact r2
        · unfold I54 at r3 ⊢
          rw [oT 53 (by omega) (by omega), oT 54 (by omega) (by omega)]
          exact r3
        · unfold FlI at fl ⊢
          rw [oM 9 (by omega) (by omega), oT 2 (by omega) (by omega), oM 7 (by omega) (by omega), oM 8 (by omega) (by omega), oT 53 (by omega) (by omega), oT 54 (by omega) (by omega)]
          exact fl
        · unfold PrI at pr ⊢
          rw [oM 10 (by omega) (by omega), oT 3 (by omega) (by omega)]
          rcases pr with pr | ⟨p1, p2, ⟨n, q1, q2, q3, q4, q5, q6⟩, M2, T2, Sf2, n2, n3, u2, pa, po⟩
          · exact Or.inl pr
          · have eF := cF_eq (M := M) (M' := sI (sI M 151 w p) 150 0 (nI (w + 1))) (oM 12 (by omega) (by omega)) n 0
            refine Or.inr ⟨p1, p2, ⟨n, by rw [oM 11 (by omega) (by omega)]; exact q1, q2, by rw [eF]; exact q3, by rw [eF, oT 52 (by omega) (by omega)]; exact q4, by rw [eF, oT 52 (by omega) (by omega)]; exact q5, ?_⟩, M2, T2, Sf2, n2, n3, u2, pa, po.eq (fun k hk => oM k (by omega) (by omega)) rfl (fun k hk => oT k (by omega) (by omega)) rfl⟩
            rw [oT 52 (by omega) (by omega), oM 92 (by omega) (by omega), oM 88 (by omega) (by omega), oM 89 (by omega) (by omega), oM 90 (by omega) (by omega), oM 91 (by omega) (by omega)]
            exact q6
        · rcases b3 K with g | g
          · exact Or.inl (g.inp b1.1.1 c6 oM rfl oT rfl hI)
          · exfalso
            exact (en_no g).1 c
    · rw [if_neg c, if_neg c, bis]
      exact ⟨_, _, _, rfl, rfl, h⟩
end SWO
