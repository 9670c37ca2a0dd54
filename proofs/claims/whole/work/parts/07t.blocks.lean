section BM
variable {nf d : Nat} {T T0 T1 T2 : gSt} {X : Lx} {e B i j m n v g : Nat}
theorem FB.fs {last : Int32} {S : gSt} (hS : Fs S T) (h : FB n last T T1) (hn : nN S ≤ n) (hl : last = -1) (hb : nN T < 8200) : Fs S T1 := by
  have hle := hS.2.2.1
  refine ⟨hS.1.tr h.1, ⟨fun g' j' a b c d e => ?_, fun j' d e => ?_, (hS.2.2.2.tr h.2.2.2.2).1, (hS.2.2.2.tr h.2.2.2.2).2.1⟩, Nat.le_trans hS.2.2.1 h.2.2.2.1, hS.2.2.2.tr h.2.2.2.2⟩
  · refine (h.2.1 g' j' a b c (by omega) (by omega) (by omega) (fun q' => neg1_lt (j := j') (by omega) (q'.2.trans hl))).trans (hS.2.1.1 g' j' a b c d e)
  · exact (h.2.2.1 j' (by omega)).trans (hS.2.1.2.1 j' d e)
theorem b_blk {x1 x2 x3 : Int32} {fl : Nat} (hfl : 0 < fl) (h : Zb X e T0 B T) (hx : inb x2 8200) : wp (rl_Model_block_38 (RR nf (d + 20)) nf fl T x1 x2 x3) (fun r _ T' => r = x2 ∧ Zb X e T0 B T') := by
  obtain ⟨f, rfl⟩ : ∃ f, fl = f + 1 := ⟨fl - 1, by omega⟩
  rw [rl_Model_block_38]
  refine wp_be (q_bad1 h.bd) ?_
  refine wp_f (by decide) ?_
  refine wp_gd hx ?_
  refine wp_st ?_
  have h1 := h.w (g := 57) (j := x2.toNatClampNeg) (v := T.1 3 0) (by omega)
  refine wp_be (q_nd1 h1.bd _) ?_
  exact wp_some ⟨rfl, h1⟩
set_option maxHeartbeats 4000000 in
theorem x_blk_l (hX : LX X) (hnf : 5000 ≤ nf) (hm : m ≤ 20) (hE : ∀ D, d + 10 ≤ D → IHE X nf m D) (hB : ∀ D, d + 10 ≤ D → IHB X nf m D) : ∀ (f fl : Nat) (T : gSt) (i v g n L : Nat) (last : Int32), Gs X T i v g → v ≤ 20 → g ≤ 8 → nN T ≤ 2 * i → n < nN T → xn X < f + i → xn X + 1 < fl + i → (last = -1 ∨ last = nI L ∧ n < L ∧ L < nN T) → wp (rl_Model_block_38 (RR nf (d + 20)) nf fl T (nI (20 - m)) (nI n) last) (fun r _ T' => r = nI n ∧ LQ X T n last i m (pSteps (xK X) (pStep (xK X) (pEx (xK X) m 0) (pBl (xK X) m)) f i v g) T') := by
  have hx := hX.1
  intro f
  induction f with
  | zero => intro fl T i v g n L last hS h1 h2 h3 h4 h5 h6 h7; have := hS.1.1.1; omega
  | succ f ih =>
    intro fl T i v g n L last hS hv hg h3 h4 h5 h6 h7
    have hi := hS.1.1.1
    obtain ⟨fl', rfl⟩ : ∃ g, fl = g + 1 := ⟨fl - 1, by omega⟩
    have hn : inb (nI n) 8200 := nin (by omega) (by omega)
    have cn : (nI n).toNatClampNeg = n := nc (by omega)
    rw [rl_Model_block_38, pSteps]
    refine wp_be (q_bad0 hS.1.2.1) ?_
    refine wp_t rfl ?_
    by_cases hk : xK X i = 41
    · have hj := hS.1.lt hX (by omega)
      rw [if_pos hk]
      refine wp_be (q_sgY hX hS.1.1 hS.1.2.1 41 rfl hk (by omega)) ?_
      refine wp_f (by decide) ?_
      refine wp_gd hn ?_
      refine wp_st ?_
      rw [cn, hS.1.pl]
      have hS1 := hS.w (g' := 57) (j := n) (x := nI (xP X i)) (by omega)
      refine wp_be (q_ndY hX hS1.1.1 hS1.1.2.1 41 rfl hk (by omega)) ?_
      have e1 : nN (advS (sI T 57 n (nI (xP X i)))) = nN T := by rw [nN_adv, nN_w (by omega)]
      refine wp_some ⟨rfl, Nat.le_refl _, hS1.adv hX hj, hv, hg, ⟨(Fz.rf.w (by omega)).adv, fun g' j' c1 c2 c3 c4 c5 c6 c7 => ?_, fun j' c4 => ?_, by rw [e1]; exact Nat.le_refl _, (Aw.w (by omega)).tr Fe.rf.adv.aw⟩, ?_, hk, by rw [e1]; exact Nat.le_refl _, -1, ?_, ?_, ?_⟩
      · rw [advS_i (by omega), rdI, if_neg (by omega)]
      · rw [advS_j (by omega), rdIJ]
      · rw [advS_i (by omega), sI_v]
      · rw [e1]; exact ⟨rfl, rfl⟩
      · intro _ h; rw [advS_i (by omega), rdI, if_neg (by omega)]; exact h
      · intro L _ _ h; rw [advS_i (by omega), rdI, if_neg (by omega)]; exact h
    · rw [if_neg hk]
      refine wp_be (q_sgN hX hS.1.1 hS.1.2.1 41 rfl hk (by omega) (by omega)) ?_
      refine wp_t rfl ?_
      refine wp_bi (x_step hX hnf hm hE hB hS hv hg h3) ?_
      intro r l T3 hr
      cases hres : pStep (xK X) (pEx (xK X) m 0) (pBl (xK X) m) i v g with
      | error ej =>
        rw [hres] at hr
        obtain ⟨r1, r2, r3, r4⟩ := hr
        have fin : ∀ S r', Zb X ej T (2 * ej + 4 * (m + 1) + 4) S → wp (rl_Model_block_38 (RR nf (d + 20)) nf fl' S (nI (20 - m)) (nI n) r') (fun r _ T' => r = nI n ∧ LQ X T n last i m (.error ej) T') := by
          intro S r' hS'
          refine wp_mono (b_blk (by omega) hS' hn) ?_
          intro r l T' h
          exact ⟨h.1, r1, r2, h.2⟩
        refine wp_if (fun c => ?_) (fun c => ?_)
        · refine wp_gd ?_ ?_
          · rcases h7 with h7 | ⟨h7, h8, h9⟩
            · rw [h7] at c; exact absurd c (by decide)
            · rw [h7]; exact nin (by omega) (by omega)
          · refine wp_st ?_
            exact fin _ _ (r4.w (by omega))
        · refine wp_gd hn ?_
          refine wp_st ?_
          exact fin _ _ (r4.w (by omega))
      | ok tj =>
        obtain ⟨s, j, v2, g2⟩ := tj
        rw [hres] at hr
        obtain ⟨r1, r2, r3, r4, r5, r6, r7, q, r8, r9, r10, r11, r12⟩ := hr
        have hj := r2.1.1.1
        subst r8
        have hb3 : nN T3 < 8200 := by omega
        have link : ∀ (gg jj : Nat), (gg = 52 ∧ jj = n ∧ last = -1 ∨ gg = 55 ∧ last = nI jj ∧ n < jj ∧ jj < nN T) → wp (rl_Model_block_38 (RR nf (d + 20)) nf fl' (sI T3 gg jj (nI q)) (nI (20 - m)) (nI n) (nI q)) (fun r _ T' => r = nI n ∧ LQ X T n last i m (sb (pSteps (xK X) (pStep (xK X) (pEx (xK X) m 0) (pBl (xK X) m)) f j v2 g2) fun r j3 v3 g3 => .ok (tD 11 0 0 s r, j3, v3, g3)) T') := by
          intro gg jj hgj
          have hgg : 50 ≤ gg ∧ gg ≤ 61 := by omega
          have hN4 : nN (sI T3 gg jj (nI q)) = nN T3 := by rw [nN_w (by omega)]
          refine wp_mono (ih fl' (sI T3 gg jj (nI q)) j v2 g2 n q (nI q) (r2.w hgg) r3 r4 (by omega) (by omega) (by omega) (by omega) (Or.inr ⟨rfl, by omega, by omega⟩)) ?_
          intro r l T5 h5
          refine ⟨h5.1, ?_⟩
          have h55 : nN T5 ≤ 8200 := by
            have h6 := h5.2
            generalize pSteps (xK X) (pStep (xK X) (pEx (xK X) m 0) (pBl (xK X) m)) f j v2 g2 = res at h6
            cases res with
            | error e' =>
              have h7 := h6.2.2.2.2.2.2
              have h8 := h6.2.1
              omega
            | ok tj =>
              obtain ⟨s', j', v', g'⟩ := tj
              have h7 := h6.2.2.2.2.2.2.2.1
              have h8 := h6.2.1.1.1.1
              omega
          exact LQ_cons r5 hb3 h4 r6 r9 r10 r11 r12 hgj r1 r7 h55 h5.2
        rcases h7 with h7 | ⟨h7, h8, h9⟩
        · refine wp_f (by rw [h7]; decide) ?_
          refine wp_gd hn ?_
          refine wp_st ?_
          rw [cn]
          exact link 52 n (Or.inl ⟨rfl, rfl, h7⟩)
        · refine wp_t (by rw [h7]; exact nI0le (by omega)) ?_
          refine wp_gd (by rw [h7]; exact nin (by omega) (by omega)) ?_
          refine wp_st ?_
          rw [show last.toNatClampNeg = L by rw [h7]; exact nc (by omega)]
          exact link 55 L (Or.inr ⟨rfl, h7, h8, h9⟩)
set_option maxHeartbeats 4000000 in
theorem x_block (hX : LX X) (hnf : 5000 ≤ nf) (hm : m ≤ 20) (hE : ∀ D, d + 10 ≤ D → IHE X nf m D) (hB : ∀ D, d + 10 ≤ D → IHB X nf m D) (hS : Gs X T i v g) (hv : v ≤ 20) (hg : g ≤ 8) (hb : nN T ≤ 2 * i) : wp (RR nf (d + 21) 31 T [nI (20 - m)] []) (fun r _ T' => SQ X T i (m + 1) (pBl (xK X) (m + 1) i v g) r T') := by
  have hx := hX.1
  have hi := hS.1.1.1
  rw [e_Model_block]
  unfold rb_Model_block
  refine wp_t ((nI_leI (a := 20 - m) (b := 20) (by omega) (by omega)).mpr (by omega)) ?_
  unfold rj_Model_block_10
  rw [pBl]
  refine g_need (d := d + 16) hX 40 hS.1 rfl (by omega) (by omega) (fun hk hj => ?_) (fun hk S hz => ?_)
  · unfold sn
    rw [if_pos hk]
    have hS1 := hS.adv hX hj
    refine wp_be (q_bad0 hS1.1.2.1) ?_
    refine wp_t rfl ?_
    have hb1 : nN (advS T) < 8200 := by rw [nN_adv]; omega
    refine wp_be (q_node hS1.1.2.2.1 hb1 _ _) ?_
    have hS2 := hS1.nd (a := nN (advS T)) (k := 31) (p := (advS T).1 3 0) hb1
    have hF2 : Fs T (ndS (advS T) (nN (advS T)) 31 ((advS T).1 3 0)) := Fs.rf.adv.nd hb1
    have hD2 : ND (ndS (advS T) (nN (advS T)) 31 ((advS T).1 3 0)) (nN (advS T)) 31 ((advS T).1 3 0) (-1) (-1) (-1) (-1) ((advS T).2 56 (nN (advS T))) ((advS T).1 57 (nN (advS T))) ((advS T).1 58 (nN (advS T))) 0 ((advS T).1 61 (nN (advS T))) := ND.nd
    have hN2 : nN (ndS (advS T) (nN (advS T)) 31 ((advS T).1 3 0)) = nN T + 1 := by rw [nN_nd hb1, nN_adv]
    rw [nN_adv] at hS2 hF2 hD2 hN2 hb1 ⊢
    generalize ndS (advS T) (nN T) 31 ((advS T).1 3 0) = S2 at *
    refine wp_mono (x_blk_l hX hnf hm hE hB 4001 nf S2 (i + 1) v g (nN T) 0 (-1) hS2 hv hg (by omega) (by omega) (by omega) (by omega) (Or.inl rfl)) ?_
    intro r l T5 h5
    obtain ⟨hr, h5⟩ := h5
    subst hr
    generalize pSteps (xK X) (pStep (xK X) (pEx (xK X) m 0) (pBl (xK X) m)) 4001 (i + 1) v g = res at h5 ⊢
    cases res with
    | error ej =>
      obtain ⟨s1, s2, s3⟩ := h5
      exact ⟨by omega, s2, nin (by omega) (by omega), s3.fz hF2.1⟩
    | ok tj =>
      obtain ⟨s, j, v2, g2⟩ := tj
      obtain ⟨s1, s2, s3, s4, s5, s6, s7, s8, z, s9, s10, s11⟩ := h5
      have hF5 := s5.fs hF2 (Nat.le_refl _) rfl (by omega)
      have hle := s5.2.2.2.1
      rw [hN2] at s8 s9 hle
      show SQ X T i (m + 1) (if xK X j = 41 then .ok (tD 31 j 0 s tZ, j + 1, v2, g2) else .error j) (nI (nN T)) T5
      rw [if_pos s7]
      have fld : ∀ g', 50 ≤ g' → g' ≤ 61 → g' ≠ 60 → g' ≠ 57 → g' ≠ 52 → T5.1 g' (nN T) = S2.1 g' (nN T) := fun g' a b c d e => s5.2.1 g' (nN T) a b c (by omega) (by omega) (by omega) (fun q' => neg1_lt (j := nN T) (by omega) q'.2)
      refine ⟨by omega, s2, s3, s4, hF5, ?_, by omega, nN T, rfl, Nat.le_refl _, by omega, ?_, _, _, _, _, _, rfl, by decide, by decide⟩
      · rw [RepS_n]
        unfold RsN
        rw [if_neg (by decide), if_neg (by decide), if_neg (by decide), if_neg (by decide), if_neg (by decide), if_neg (by decide), if_neg (by decide), if_neg (by decide), if_neg (by decide), if_neg (by decide), if_pos (by decide)]
        refine ⟨rfl, by omega, by rw [fld 50 (by omega) (by omega) (by omega) (by omega) (by omega)]; exact hD2.1, s6, ?_⟩
        rw [s10 rfl hD2.2.2.1]
        exact s9
      · rw [fld 55 (by omega) (by omega) (by omega) (by omega) (by omega)]; exact hD2.2.2.2.2.2.1
  · unfold sn
    rw [if_neg hk]
    refine wp_be (q_bad1 hz.bd) ?_
    refine wp_f (by decide) ?_
    exact wp_some ⟨Nat.le_refl _, hi, by decide, hz.le (by omega)⟩
/-- the reference reads BLOCKS as the grammar says -/
theorem x_blocks (hX : LX X) (hnf : 5000 ≤ nf) : ∀ m, m ≤ 21 → ∀ D, 24 * m + 200 ≤ D → IHB X nf m D := by
  intro m
  induction m with
  | zero =>
    intro _ D hD T i v g hS hv hg hb
    have hi := hS.1.1.1
    obtain ⟨d, rfl⟩ : ∃ d, D = d + 21 := ⟨D - 21, by omega⟩
    rw [e_Model_block]
    unfold rb_Model_block
    refine wp_f (by decide) ?_
    refine wp_be (q_wrong0 hS.1.2.1) ?_
    have hz := hS.1.fail (B := nN T) Fz.rf (Nat.le_refl _)
    unfold rj_Model_block_10
    refine wp_be (q_nd1 hz.bd _) ?_
    refine wp_be (q_bad1 hz.bd) ?_
    refine wp_f (by decide) ?_
    exact wp_some ⟨Nat.le_refl _, hi, by decide, hz.le (by omega)⟩
  | succ m ih =>
    intro hm D hD T i v g hS hv hg hb
    obtain ⟨d, rfl⟩ : ∃ d, D = d + 21 := ⟨D - 21, by omega⟩
    rw [show 21 - (m + 1) = 20 - m by omega]
    exact x_block hX hnf (by omega) (fun D' h' => (x_all hX hnf m (by omega)).1 D' (by omega)) (fun D' h' => ih (by omega) D' (by omega)) hS hv hg hb
end BM
