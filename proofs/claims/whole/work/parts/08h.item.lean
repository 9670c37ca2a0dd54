/-! an item, whole -/
section IW
variable {nf d : Nat} {T T0 T1 T2 : gSt} {X : Lx} {e B i j m n v g t c q : Nat}
set_option maxHeartbeats 4000000 in
theorem x_65 (hX : LX X) (hnf : 5000 ≤ nf) (hd : 649 ≤ d) {p1 : Int32} (hp : xK X i = 10 ∧ p1 = 0 ∨ xK X i = 11 ∧ p1 = 1 ∨ xK X i = 12 ∧ p1 = 2) (hk : xK X i = 12 ∧ xK X (i + 1) = 2 ∨ xK X i ≠ 12 ∧ xK X (i + 1) = 3) (hG : Gd X T (i + 1)) (hW : Gw T (i + 1)) (hF : FI t c T0 T) (h64 : T.1 64 0 = nI t) (ht : t < 24) (h20 : T.1 20 0 = nI c) (hc : c ≤ 200) (h11 : T.1 11 0 = nI t) (h12 : T.1 12 t = p1) (h13 : T.2 13 t = xN X (i + 1)) (h14 : T.1 14 t = nI (xP X (i + 1))) (hN : nN T = nN T0) (hb : nN T0 ≤ 2 * (i + 1)) : wp (rj_Model_readItem_65 (RR nf (d + 31)) nf T p1) (fun _ _ T' => IQ X T0 t c i (pItem (xK X) i) T') := by
  have hx := hX.1
  have hj0 := hG.1.1
  have hj1 := hG.lt hX (by omega)
  have htI : inb (nI t) 24 := nin (by omega) (by omega)
  have ct : (nI t).toNatClampNeg = t := nc (by omega)
  unfold rj_Model_readItem_65
  refine wp_be (q_bad0 hG.2.1) ?_
  refine wp_t rfl ?_
  refine wp_st ?_
  rw [h11, nI_1]
  have hG1 : Gd X (sI T 11 0 (nI (t + 1))) (i + 1) := hG.wh (by omega)
  refine wp_be (q_adv hX hG1.1) ?_
  have hG2 : Gd X (advS (sI T 11 0 (nI (t + 1)))) (i + 2) := hG1.adv hX hj1
  have hW2 : Gw (advS (sI T 11 0 (nI (t + 1)))) (i + 2) := (hW.wh (by omega)).adv
  have e1 : (advS (sI T 11 0 (nI (t + 1)))).1 64 0 = nI t := by rw [advS_i (by omega), sI_ne (by omega)]; exact h64
  refine wp_gd (by rw [e1]; exact htI) ?_
  refine wp_st ?_
  rw [e1, ct]
  have hG3 : Gd X (sI (advS (sI T 11 0 (nI (t + 1)))) 15 t 0) (i + 2) := hG2.wh (by omega)
  have hW3 : Gw (sI (advS (sI T 11 0 (nI (t + 1)))) 15 t 0) (i + 2) := hW2.wh (by omega)
  have hF1 : FI t c T0 (sI T 11 0 (nI (t + 1))) := hF.w (by omega) (Or.inl (by omega))
  have hF3 : FI t c T0 (sI (advS (sI T 11 0 (nI (t + 1)))) 15 t 0) := (hF1.tr (Fz.rf.adv.fi Fn.rf.adv)).w (by omega) (Or.inl (by omega))
  have o : ∀ g', g' ≠ 15 → g' ≠ 11 → 5 < g' → (sI (advS (sI T 11 0 (nI (t + 1)))) 15 t 0).1 g' = T.1 g' := fun g' a b z => by rw [sI_ne a, advS_if (by omega), sI_ne b]
  have o15 : (sI (advS (sI T 11 0 (nI (t + 1)))) 15 t 0).1 15 t = nI 0 := sI_v
  have o11 : (sI (advS (sI T 11 0 (nI (t + 1)))) 15 t 0).1 11 0 = nI (t + 1) := by rw [sI_ne (by omega), advS_i (by omega), sI_v]
  have o13 : (sI (advS (sI T 11 0 (nI (t + 1)))) 15 t 0).2 13 t = T.2 13 t := by
    show (advS (sI T 11 0 (nI (t + 1)))).2 13 t = T.2 13 t
    rw [advS_j (by omega)]
    rfl
  have hN3 : nN (sI (advS (sI T 11 0 (nI (t + 1)))) 15 t 0) = nN T0 := by rw [nN_w (by omega), nN_adv, nN_w (by omega)]; exact hN
  generalize sI (advS (sI T 11 0 (nI (t + 1)))) 15 t 0 = S at *
  refine x_rs (t := t) (c := c) (d := d) hX (j0 := i + 2) 4 nf 0 S (i + 2) rfl hG3 hW3 (by rw [o 64 (by omega) (by omega) (by omega)]; exact h64) ht o15 (by omega) (by omega) (by omega) (fun k hk => by omega) ?_
  intro S' a1 a2 a3 a4 a5 a6 a7 a8 a9 a10 a11 a12
  rw [show 3 - 0 = 3 from rfl, Nat.zero_add] at a11
  rw [show 3 - 0 = 3 from rfl, Nat.zero_add] at a12
  refine x_188 (t := t) (c := c) hX hnf hd hp hk rfl a1 a2 (hF3.tr a3) ?_ ht ?_ hc ?_ ?_ ?_ ?_ a11 a12 (by rw [a4]; exact hN3) hb
  · rw [a5, o 64 (by omega) (by omega) (by omega)]; exact h64
  · rw [a6, o 20 (by omega) (by omega) (by omega)]; exact h20
  · rw [a7]; exact o11
  · rw [a8, o 12 (by omega) (by omega) (by omega)]; exact h12
  · rw [a10, o13]; exact h13
  · rw [a9, o 14 (by omega) (by omega) (by omega)]; exact h14
theorem b_65 {p1 : Int32} (h : ¬ T.1 7 0 = 0) {Q : Int32 → Int64 → gSt → Prop} (hQ : Q 0 0 T) : wp (rj_Model_readItem_65 (RR nf (d + 31)) nf T p1) Q := by
  unfold rj_Model_readItem_65
  refine wp_be (q_bad1 h) ?_
  refine wp_f (by decide) ?_
  exact wp_some hQ
set_option maxHeartbeats 4000000 in
/-- the reference reads an item as the grammar does -/
theorem x_item (hX : LX X) (hnf : 5000 ≤ nf) (hd : 649 ≤ d) {p1 : Int32} (hp : xK X i = 10 ∧ p1 = 0 ∨ xK X i = 11 ∧ p1 = 1 ∨ xK X i = 12 ∧ p1 = 2) (hG : Gd X T (i + 1)) (hW : Gw T (i + 1)) (h11 : T.1 11 0 = nI t) (ht : t < 24) (h20 : T.1 20 0 = nI c) (hc : c ≤ 200) (hb : nN T ≤ 2 * (i + 1)) : wp (RR nf (d + 32) 24 T [p1] []) (fun _ _ T' => IQ X T t c i (pItem (xK X) i) T') := by
  have hx := hX.1
  have hj0 := hG.1.1
  have tt := hX.2.2.2.2.1 (i + 1) hj0
  have htI : inb (nI t) 24 := nin (by omega) (by omega)
  have ct : (nI t).toNatClampNeg = t := nc (by omega)
  refine wp_cast (e_Model_readItem nf (d + 31) T p1) ?_
  unfold rb_Model_readItem
  refine wp_st ?_
  rw [h11]
  have e1 : (sI T 64 0 (nI t)).1 64 0 = nI t := sI_v
  refine wp_gd (by rw [e1]; exact htI) ?_
  refine wp_st ?_
  rw [e1, ct]
  have e2 : (sI (sI T 64 0 (nI t)) 12 t p1).1 64 0 = nI t := by rw [sI_ne (by omega)]; exact e1
  have e2p : (sI (sI T 64 0 (nI t)) 12 t p1).1 3 0 = nI (xP X (i + 1)) := by rw [sI_ne (by omega), sI_ne (by omega)]; exact hG.pl
  refine wp_gd (by rw [e2]; exact htI) ?_
  refine wp_st ?_
  rw [e2, ct, e2p]
  have e3 : (sI (sI (sI T 64 0 (nI t)) 12 t p1) 14 t (nI (xP X (i + 1)))).1 64 0 = nI t := by rw [sI_ne (by omega)]; exact e2
  refine wp_gd (by rw [e3]; exact htI) ?_
  refine wp_st ?_
  rw [e3, ct]
  have ev : (sI (sI (sI T 64 0 (nI t)) 12 t p1) 14 t (nI (xP X (i + 1)))).2 6 0 = T.2 6 0 := rfl
  rw [ev]
  have hG4 : Gd X (sJ (sI (sI (sI T 64 0 (nI t)) 12 t p1) 14 t (nI (xP X (i + 1)))) 13 t (T.2 6 0)) (i + 1) := (((hG.wh (by omega)).wh (by omega)).wh (by omega)).wj (by omega)
  have hW4 : Gw (sJ (sI (sI (sI T 64 0 (nI t)) 12 t p1) 14 t (nI (xP X (i + 1)))) 13 t (T.2 6 0)) (i + 1) := (((hW.wh (by omega)).wh (by omega)).wh (by omega)).wj
  have hF4 : FI t c T (sJ (sI (sI (sI T 64 0 (nI t)) 12 t p1) 14 t (nI (xP X (i + 1)))) 13 t (T.2 6 0)) := (((FI.rf.w (by omega) (Or.inr (by omega))).w (by omega) (Or.inl (by omega))).w (by omega) (Or.inl (by omega))).wj (by omega) (by omega)
  have o64 : (sJ (sI (sI (sI T 64 0 (nI t)) 12 t p1) 14 t (nI (xP X (i + 1)))) 13 t (T.2 6 0)).1 64 0 = nI t := e3
  have o12 : (sJ (sI (sI (sI T 64 0 (nI t)) 12 t p1) 14 t (nI (xP X (i + 1)))) 13 t (T.2 6 0)).1 12 t = p1 := by
    show (sI (sI (sI T 64 0 (nI t)) 12 t p1) 14 t (nI (xP X (i + 1)))).1 12 t = p1
    rw [sI_ne (by omega), sI_v]
  have o14 : (sJ (sI (sI (sI T 64 0 (nI t)) 12 t p1) 14 t (nI (xP X (i + 1)))) 13 t (T.2 6 0)).1 14 t = nI (xP X (i + 1)) := by
    show (sI (sI (sI T 64 0 (nI t)) 12 t p1) 14 t (nI (xP X (i + 1)))).1 14 t = _
    rw [sI_v]
  have o13 : (sJ (sI (sI (sI T 64 0 (nI t)) 12 t p1) 14 t (nI (xP X (i + 1)))) 13 t (T.2 6 0)).2 13 t = T.2 6 0 := sJ_v
  have o20 : (sJ (sI (sI (sI T 64 0 (nI t)) 12 t p1) 14 t (nI (xP X (i + 1)))) 13 t (T.2 6 0)).1 20 0 = nI c := by
    show (sI (sI (sI T 64 0 (nI t)) 12 t p1) 14 t (nI (xP X (i + 1)))).1 20 0 = nI c
    rw [sI_ne (by omega), sI_ne (by omega), sI_ne (by omega)]; exact h20
  have o11 : (sJ (sI (sI (sI T 64 0 (nI t)) 12 t p1) 14 t (nI (xP X (i + 1)))) 13 t (T.2 6 0)).1 11 0 = nI t := by
    show (sI (sI (sI T 64 0 (nI t)) 12 t p1) 14 t (nI (xP X (i + 1)))).1 11 0 = nI t
    rw [sI_ne (by omega), sI_ne (by omega), sI_ne (by omega)]; exact h11
  have hN4 : nN (sJ (sI (sI (sI T 64 0 (nI t)) 12 t p1) 14 t (nI (xP X (i + 1)))) 13 t (T.2 6 0)) = nN T := by rw [nN_wj, nN_w (by omega), nN_w (by omega), nN_w (by omega)]
  have hv : T.2 6 0 = T.2 6 0 := rfl
  have nm : hasN (xK X (i + 1)) → T.2 6 0 = xN X (i + 1) := hG.1.2.2.2.2.2.2.2.2
  generalize sJ (sI (sI (sI T 64 0 (nI t)) 12 t p1) 14 t (nI (xP X (i + 1)))) 13 t (T.2 6 0) = S at *
  have hz : Zi X (i + 1) T (2 * (i + 1) + 100) (failS S 1 (S.1 3 0)) := hG4.zi hF4.1 (by omega)
  by_cases k12 : xK X i = 12
  · have hp2 : p1 = 2 := by rcases hp with h | h | h <;> first | omega | exact h.2
    refine wp_t hp2 ?_
    by_cases k2 : xK X (i + 1) = 2
    · refine wp_t (by rw [hG4.1.2.2.2.1]; exact (srtK_nm _ (okK_lt tt.1)).mpr k2) ?_
      exact x_65 (t := t) (c := c) hX hnf hd hp (Or.inl ⟨k12, k2⟩) hG4 hW4 hF4 o64 ht o20 hc o11 o12 (by rw [o13]; exact nm (by omega)) o14 hN4 hb
    · refine wp_f (by rw [hG4.1.2.2.2.1]; exact fun h => k2 ((srtK_nm _ (okK_lt tt.1)).mp h)) ?_
      refine wp_be (q_wrong0 hG4.2.1) ?_
      refine b_65 hz.bd ?_
      unfold pItem
      rw [if_pos k12, if_neg k2]
      exact ⟨by omega, hz⟩
  · have hp2 : ¬ p1 = 2 := by
      rcases hp with h | h | h
      · rw [h.2]; decide
      · rw [h.2]; decide
      · omega
    refine wp_f hp2 ?_
    by_cases k3 : xK X (i + 1) = 3
    · refine wp_t (by rw [hG4.1.2.2.2.1]; exact (srtK_ti _ (okK_lt tt.1)).mpr k3) ?_
      exact x_65 (t := t) (c := c) hX hnf hd hp (Or.inr ⟨k12, k3⟩) hG4 hW4 hF4 o64 ht o20 hc o11 o12 (by rw [o13]; exact nm (by omega)) o14 hN4 hb
    · refine wp_f (by rw [hG4.1.2.2.2.1]; exact fun h => k3 ((srtK_ti _ (okK_lt tt.1)).mp h)) ?_
      refine wp_be (q_wrong0 hG4.2.1) ?_
      refine b_65 hz.bd ?_
      unfold pItem
      rw [if_neg k12, if_neg k3]
      exact ⟨by omega, hz⟩
end IW
