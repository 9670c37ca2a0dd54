/-! PRIMARY -/
section PX
variable {nf d : Nat} {T T0 T1 T2 : gSt} {X : Lx} {e B i m n : Nat}
theorem ND.fa {k p o2 o3 nx : Int32} {w : Int64} {q us mu fd z c : Int32} (h : ND T n k p (-1) o2 o3 nx w q us mu fd) (hF : FA n (-1) T T1) (hn : n < nN T) (hN : nN T < 8200) (h52 : T1.1 52 n = z) (h53 : T1.1 53 n = c) : ND T1 n k p z c o3 nx w q us mu fd := by
  obtain ⟨c50, c51, c52, c53, c54, c55, c56, c57, c58, c59, c61⟩ := h
  have o : ∀ g, 50 ≤ g → g ≤ 61 → g ≠ 60 → g ≠ 52 → g ≠ 53 → T1.1 g n = T.1 g n := fun g a b c d e => hF.2.1 g n a b c hn (by omega) (by omega) (fun q' => neg1_lt (j := n) (by omega) q'.2)
  exact ⟨(o 50 (by omega) (by omega) (by omega) (by omega) (by omega)).trans c50, (o 51 (by omega) (by omega) (by omega) (by omega) (by omega)).trans c51, h52, h53, (o 54 (by omega) (by omega) (by omega) (by omega) (by omega)).trans c54, (o 55 (by omega) (by omega) (by omega) (by omega) (by omega)).trans c55, (hF.2.2.1 n hn).trans c56, (o 57 (by omega) (by omega) (by omega) (by omega) (by omega)).trans c57, (o 58 (by omega) (by omega) (by omega) (by omega) (by omega)).trans c58, (o 59 (by omega) (by omega) (by omega) (by omega) (by omega)).trans c59, (o 61 (by omega) (by omega) (by omega) (by omega) (by omega)).trans c61⟩
/-- the arguments of a node that has none yet -/
theorem x_args (hX : LX X) (hnf : 5000 ≤ nf) (hm : m ≤ 20) (hE : ∀ T i, Gd X T i → nN T ≤ 2 * i → wp (RR nf (d + 5) 35 T [nI (21 - m)] []) (fun r _ T' => EQ X T i m (pEx (xK X) m 0 i) r T')) (kc : Nat) (c : Int32) (hc : chK kc = c) (hkc : kc = 43 ∨ kc = 41) (hG : Gd X T i) (hN : nN T ≤ 2 * i) (hn : n < nN T) : wp (RR nf (d + 6) 37 T [nI n, nI (20 - m), c] []) (fun _ _ T' => AQ X T n (-1) 0 i m (pArgs (xK X) (pEx (xK X) m 0) kc 4001 0 i) T') := by
  have hx := hX.1
  rw [e_Model_arguments]
  unfold rb_Model_arguments
  have h := x_args_l hX hnf hm hE kc c hc hkc 4001 nf 0 T i n 0 (-1) hG hN hn (by omega) (by omega) (by omega) (Or.inl ⟨rfl, rfl⟩)
  rw [nI_0] at h
  exact h
theorem x_asub {M0 M : Nat} {last : Int32} {q i0 i1 : Nat} {res : ER} {Kc : Tr → Nat → ER} {o : gR} {kk : Int32 → Int64 → gSt → gR} (h : wp o (fun _ _ T' => AQ X T1 n last q i1 M0 res T')) (hok : ∀ t j r l T', AQ X T1 n last q i1 M0 (.ok (t, j)) T' → wp (kk r l T') (fun r2 _ T2 => EQ X T i0 M (Kc t j) r2 T2)) (herr : ∀ e r l T', AQ X T1 n last q i1 M0 (.error e) T' → wp (kk r l T') (fun r2 _ T2 => EE X T i0 M e r2 T2)) : wp (bi o kk) (fun r2 _ T2 => EQ X T i0 M (eb res Kc) r2 T2) := by
  refine wp_bi h ?_
  intro r l T' hq
  cases res with
  | error e => exact herr e r l T' hq
  | ok tj =>
    obtain ⟨t, j⟩ := tj
    exact hok t j r l T' hq
/-- a leaf: one token, one node -/
theorem x_leaf (hX : LX X) (hG : Gd X T1 (i + 1)) (hF : Fe T T1) (hN : nN T1 = nN T + 1) (hb : nN T < 8200) (h51 : T1.1 51 (nN T) = nI (xP X i)) (h50 : if xK X i = 5 then T1.1 50 (nN T) = 0 ∧ T1.1 52 (nN T) = (xN X i).toInt32 else if xK X i = 27 then T1.1 50 (nN T) = 1 else if xK X i = 34 then T1.1 50 (nN T) = 2 else if xK X i = 35 then T1.1 50 (nN T) = 3 else T1.1 50 (nN T) = 4 ∧ nmd X T1 (nN T) i) : EQ X T i m (.ok (tD 1 i 0 tZ tZ, i + 1)) (nI (nN T)) T1 := by
  refine ⟨by omega, hG, hF, ?_, by omega, nN T, rfl, Nat.le_refl _, by omega, h51⟩
  rw [RepM_n]
  unfold RpN
  rw [if_pos rfl]
  exact ⟨rfl, hN, h51, h50⟩
set_option maxHeartbeats 4000000 in
theorem x_named (hX : LX X) (hnf : 5000 ≤ nf) (hm : m ≤ 20) (hE : ∀ T i, Gd X T i → nN T ≤ 2 * i → wp (RR nf (d + 6) 35 T [nI (21 - m)] []) (fun r _ T' => EQ X T i m (pEx (xK X) m 0 i) r T')) (hG : Gd X T i) (hN : nN T ≤ 2 * i) (hk : xK X i = 2) : wp (RR nf (d + 8) 39 T [nI (xP X i), nI (20 - m)] []) (fun r _ T' => EQ X T i (m + 1) (if xK X (i + 1) = 4 ∨ xK X (i + 1) = 42 then ek (xK X) 42 (i + 1 + rgs (xK X) 3 (i + 1)) (eb (pArgs (xK X) (pEx (xK X) m 0) 43 4001 0 (i + 1 + rgs (xK X) 3 (i + 1) + 1)) fun a j => .ok (tD 6 i (rgs (xK X) 3 (i + 1)) a tZ, j)) else .ok (tD 1 i 0 tZ tZ, i + 1)) r T') := by
  have hx := hX.1
  have hi := hG.lt hX (by omega)
  have hb : nN T < 8200 := by omega
  rw [e_Model_readNamed]
  unfold rb_Model_readNamed
  refine wp_be (q_node hG.2.2.1 hb _ _) ?_
  refine wp_gd (nin (by omega) (by omega)) ?_
  refine wp_st ?_
  refine wp_gd (nin (by omega) (by omega)) ?_
  refine wp_st ?_
  rw [nc (m := nN T) (by omega), ndS_j, hG.1.2.2.2.2.2.2.2.2 (Or.inl hk)]
  have hG1 : Gd X (sI (sJ (ndS T (nN T) 4 (nI (xP X i))) 56 (nN T) (xN X i)) 57 (nN T) (nI (xP X i))) i := ((hG.nd hb).wj (by omega)).w (by omega)
  have hF1 : Fe T (sI (sJ (ndS T (nN T) 4 (nI (xP X i))) 56 (nN T) (xN X i)) 57 (nN T) (nI (xP X i))) := ((Fe.rf.nd hb).wj (Nat.le_refl _)).w (by omega) (Nat.le_refl _)
  have hD1 : ND (sI (sJ (ndS T (nN T) 4 (nI (xP X i))) 56 (nN T) (xN X i)) 57 (nN T) (nI (xP X i))) (nN T) 4 (nI (xP X i)) (-1) (-1) (-1) (-1) (xN X i) (nI (xP X i)) (T.1 58 (nN T)) 0 (T.1 61 (nN T)) := ND.nd.w56.w57
  have hN1 : nN (sI (sJ (ndS T (nN T) 4 (nI (xP X i))) 56 (nN T) (xN X i)) 57 (nN T) (nI (xP X i))) = nN T + 1 := by rw [nN_w (by omega), nN_wj, nN_nd hb]
  generalize sI (sJ (ndS T (nN T) 4 (nI (xP X i))) 56 (nN T) (xN X i)) 57 (nN T) (nI (xP X i)) = S at *
  refine wp_be (q_adv hX hG1.1) ?_
  have hG2 := hG1.adv hX hi
  have t := hX.2.2.2.2.1 (i + 1) hG2.1.1
  -- a call
  have call : wp (rj_Model_readNamed_47 (RR nf (d + 7)) nf (advS S) (nI (20 - m)) (nI (nN T))) (fun r _ T' => EQ X T i (m + 1) (ek (xK X) 42 (i + 1 + rgs (xK X) 3 (i + 1)) (eb (pArgs (xK X) (pEx (xK X) m 0) 43 4001 0 (i + 1 + rgs (xK X) 3 (i + 1) + 1)) fun a j => .ok (tD 6 i (rgs (xK X) 3 (i + 1)) a tZ, j))) r T') := by
    unfold rj_Model_readNamed_47
    refine wp_gd (nin (by omega) (by omega)) ?_
    refine wp_st ?_
    refine wp_gd (nin (by omega) (by omega)) ?_
    refine wp_st ?_
    rw [nc (m := nN T) (by omega), sI_ne (by omega : (45 : Nat) ≠ 50), hG2.2.2.2.1]
    have hG3 : Gd X (sI (sI (advS S) 50 (nN T) 5) 58 (nN T) (nI (nU (advS S)))) (i + 1) := (hG2.w (by omega)).w (by omega)
    have hF3 : Fe T (sI (sI (advS S) 50 (nN T) 5) 58 (nN T) (nI (nU (advS S)))) := (hF1.adv.w (by omega) (Nat.le_refl _)).w (by omega) (Nat.le_refl _)
    have hD3 := (hD1.adv.w50 (v := 5)).w58 (v := nI (nU (advS S)))
    have hN3 : nN (sI (sI (advS S) 50 (nN T) 5) 58 (nN T) (nI (nU (advS S)))) = nN T + 1 := by rw [nN_w (by omega), nN_w (by omega), nN_adv, hN1]
    have hU3 : nU (sI (sI (advS S) 50 (nN T) 5) 58 (nN T) (nI (nU (advS S)))) = nU (advS S) := by rw [nU_w (by omega), nU_w (by omega)]
    generalize sI (sI (advS S) 50 (nN T) 5) 58 (nN T) (nI (nU (advS S))) = S3 at *
    refine wp_bi (x_uses (d := d + 3) hX hnf hG3) ?_
    intro r l S4 h4
    obtain ⟨a1, a2, a3, a4, a5, a6, a7⟩ := h4
    subst a1
    refine wp_gd (nin (by omega) (by omega)) ?_
    refine wp_st ?_
    have hG5 := a2.w (g := 59) (j := nN T) (v := nI (rgs (xK X) 3 (i + 1))) (by omega)
    have hF5 := (hF3.tr a3).w (g := 59) (j := nN T) (v := nI (rgs (xK X) 3 (i + 1))) (by omega) (Nat.le_refl _)
    have hD5 := (a7 _ _ _ _ _ _ _ _ _ _ _ _ hD3).w59 (v := nI (rgs (xK X) 3 (i + 1)))
    have hN5 : nN (sI S4 59 (nN T) (nI (rgs (xK X) 3 (i + 1)))) = nN T + 1 := by rw [nN_w (by omega), a4, hN3]
    have hR5 : RepU X (sI S4 59 (nN T) (nI (rgs (xK X) 3 (i + 1)))) (nU (advS S)) (i + 1) (rgs (xK X) 3 (i + 1)) := by
      rw [hU3] at a6
      exact RepU.ag (Ag.rf.w (lo := 0) (hi := 0) (by omega) (by omega)) a6
    generalize sI S4 59 (nN T) (nI (rgs (xK X) 3 (i + 1))) = S5 at *
    generalize hee : rgs (xK X) 3 (i + 1) = ee at *
    have hj5 := hG5.1.1
    refine x_need (d := d + 3) hX 42 hG5 rfl (by omega) (by omega) (fun hk2 hj => ?_) (fun S6 hz => ?_)
    · have hG6 := hG5.adv hX hj
      refine x_asub (x_args (d := d + 1) hX hnf hm hE 43 41 rfl (Or.inl rfl) hG6 (by rw [nN_adv, hN5]; omega) (n := nN T) (by rw [nN_adv, hN5]; omega)) (fun t j r l S7 h7 => ?_) (fun e r l S7 h7 => ?_)
      · obtain ⟨b1, b2, b3, b4, b5, z, b6, b7, b8⟩ := h7
        rw [nN_adv, hN5] at b5 b6
        have hD6 := hD5.adv
        have b9 := b7 rfl hD6.2.2.1
        have hj7 := b2.1.1
        have hN7 := b3.2.2.2.2.2.1
        rw [nN_adv, hN5] at hN7
        have hD7 := hD6.fa b3 (by rw [nN_adv, hN5]; omega) (by rw [nN_adv, hN5]; omega) b9 b4
        refine wp_some ?_
        refine ⟨by omega, b2, b3.fe hF5.adv (Nat.le_refl _) (Or.inl rfl) (by rw [nN_adv, hN5]; omega), ?_, by omega, nN T, rfl, Nat.le_refl _, by omega, hD7.2.1⟩
        rw [RepM_n]
        unfold RpN
        rw [if_neg (by decide), if_neg (by decide), if_neg (by decide), if_neg (by decide), if_neg (by decide), if_pos rfl]
        refine ⟨nU (advS S), z, rfl, by omega, b6, hD7.1, hD7.2.1, ⟨hD7.2.2.2.2.2.2.1, hD7.2.2.2.2.2.2.2.1⟩, hD7.2.2.2.2.2.2.2.2.1, hD7.2.2.2.2.2.2.2.2.2.1, ?_, hD7.2.2.1, ?_⟩
        · refine RepU.ag (lo := 0) (hi := 0) ⟨fun g j _ _ _ h1 h2 => by omega, fun j h1 h2 => by omega, ?_, ?_⟩ hR5
          · have := b3.2.2.2.1; rw [nU_adv] at this; exact this
          · intro j' hj'
            have v := b3.2.2.2.2.1 j' (by rw [nU_adv]; exact hj')
            rw [advS_j (by omega), advS_i (by omega)] at v
            exact v
        · rw [hD7.2.2.2.1]; congr 1; omega
      · obtain ⟨b1, b2, b3⟩ := h7
        exact wp_some ⟨by omega, b2, nin (by omega) (by omega), (b3.fz hF5.adv.1).le (by omega)⟩
    · refine wp_bi (b_args (d := d + 2) hnf hz (nin (by omega) (by omega)) _ _) ?_
      intro r l S7 h7
      exact wp_some ⟨by omega, hj5, nin (by omega) (by omega), (h7.fz hF5.1).le (by rw [hN5]; omega)⟩
  by_cases c4 : xK X (i + 1) = 4
  · refine wp_t (by rw [hG2.1.2.2.2.1]; exact (srtK_rg _ (okK_lt t.1)).mpr c4) ?_
    rw [if_pos (Or.inl c4)]
    exact call
  · refine wp_f (by rw [hG2.1.2.2.2.1]; exact fun q => c4 ((srtK_rg _ (okK_lt t.1)).mp q)) ?_
    by_cases c42 : xK X (i + 1) = 42
    · refine wp_be (q_sgY hX hG2.1 hG2.2.1 42 rfl c42 (by omega)) ?_
      refine wp_f (by decide) ?_
      rw [if_pos (Or.inr c42)]
      exact call
    · refine wp_be (q_sgN hX hG2.1 hG2.2.1 42 rfl c42 (by omega) (by omega)) ?_
      refine wp_t rfl ?_
      rw [if_neg (by omega)]
      have hD2 := hD1.adv
      refine wp_some (x_leaf hX hG2 hF1.adv (by rw [nN_adv, hN1]) hb hD2.2.1 ?_)
      rw [if_neg (by omega), if_neg (by omega), if_neg (by omega), if_neg (by omega)]
      exact ⟨hD2.1, hD2.2.2.2.2.2.2.1, hD2.2.2.2.2.2.2.2.1⟩
end PX
