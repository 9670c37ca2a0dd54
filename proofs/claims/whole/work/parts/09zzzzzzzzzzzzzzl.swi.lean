/-! start on both sides */
-/
section SWI
variable {M0 T0 M T Sf : gSt} {n1 n27 u P W nf d d' : Nat}
theorem start_both (pa : PgA M0 T0 Sf n1 n27 u) (pg : PgO M0 T0 M T) (h10 : ¬ M.1 10 0 = 0) (co : ∀ q, q < 40 → M.1 115 q = T.1 101 (17 * (q + 1) + 2)) (hP1 : 1 ≤ P) (hP : P ≤ 64) (hW1 : 4 ≤ W) (hW : W ≤ 64) (hnf : 970000 ≤ nf) (hd : 20 ≤ d) (hd' : 20 ≤ d') : ∃ M' T', rb_Model_start (RR nf (d + 1)) nf M (nI P) (nI W) = some (1, 0, M') ∧ rb_Machine_begin (PP nf (d' + 2)) nf T (nI P) (nI W) = some (0, 0, T') ∧ ∀ K, GoO M0 T0 Sf n1 (K + 1) P W 241320 M' T' ∨ EnO M0 T0 P W M' T' := by
  obtain ⟨cx, hfw, hpg, hnU, h27, hn27, hin, h51, h6, h11, u1, u2, u3, u4, u5, u6, u7⟩ := pa
  obtain ⟨g1, g2, g3, g4⟩ := pg
  have eF : isFu M mnW = isFu M0 mnW := by
    funext q
    unfold isFu
    rw [g1 12 (by omega), g2]
  have eI : isIt T true 1835100526 = isIt T0 true 1835100526 := by
    funext q
    unfold isIt
    rw [g3 28 (by omega), g4]
  obtain ⟨M1, x1, x2, x3, x4, ⟨y1, y2, y3, y4, y5, y6, y7, y8, y9, y10, y11⟩, x6⟩ := x_start (nf := nf) (d := d) h10 (by rw [g1 11 (by omega)]; exact h11) hn27 (by rw [eF]; exact u3) u1 hP1 hP hW1 hW (by omega)
  obtain ⟨T1, t1, t2, t3, t4, ⟨z1, z2, z3, z4, z5, z6, z7, z8, z9⟩, ⟨w1, w2, w3, w4⟩, t7⟩ := c_mbeg (nf := nf) (d := d') (by rw [g3 27 (by omega)]; exact h27) hn27 (by rw [eI]; exact u4) u1 (by rw [g3 41 (by omega)]; exact u7) hP1 hP (by omega) hW (by omega)
  obtain ⟨S', n', m', fb, hg⟩ := hpg u (by omega) u2
  have fb0 := fb
  obtain ⟨c, k, iq, _, f36, f42, _, _, _, _, _, _, iv⟩ := fb0
  have gd : ∀ K, Gdk M0 T0 Sf n1 u K n' m' S' [] [] := by
    rcases hg with ⟨_, hg⟩ | ⟨b, c, e, y, r1, r2, r3, r4, r5⟩
    · exact hg
    · exact fun K => gd_ru iv r4 r5 (fun h hh => absurd hh List.not_mem_nil) (fun j hj => Or.inr (Or.inr (Or.inr (Or.inr (Or.inr (Or.inr (Or.inr (Or.inr (Or.inr (Or.inr (Or.inr (Or.inr (Or.inr (Or.inr (Or.inr (Or.inr (Or.inr (Or.inr (Or.inr (Or.inr (Or.inr (⟨b, c, e, 0, y, r1, r2, Or.inl ⟨r3, rfl, rfl⟩⟩))))))))))))))))))))))
  have nw : NwO u n' m' M1 T1 := ⟨⟨y2, z2, y3, z3, y4, z4, by rw [y5, g1 36 (by omega)]; exact f36, by rw [z5, g3 42 (by omega)]; exact f42⟩, ⟨w1, w2, w3, w4, y6⟩, ⟨y7, z6⟩, ⟨y8, z7, y9, z8, y10, z9, y11⟩, fun q hq => by rw [x6, t7 q hq]; exact co q hq⟩
  have go : ∀ K, ∃ M' T', RR nf (d + 1) 117 M1 [] [] = some (0, 0, M') ∧ PP nf (d' + 2) 196 T1 [] [] = some (0, 0, T') ∧ (GoO M0 T0 Sf n1 (K + 1) P W 241320 M' T' ∨ EnO M0 T0 P W M' T') := fun K => by
    have sim := sim_init (M0 := M0) (T0 := T0) (G := fun _ => (0, 0, 0, 0, 0, 0, [], fun _ => 0, fun _ => [])) (D := fun _ => (fun _ => ((0 : Int32), 0, 0), 0)) x2 t2 hP (by omega) hW nw ⟨fun k hk => (x3 k hk).trans (g1 k hk), x4.trans g2, fun k hk => (t3 k hk).trans (g3 k hk), t4.trans g4⟩ fb u5 u6
    have sg : SiG M0 T0 Sf n1 (K + 1 + 960082) (fun _ => (0, 0, 0, 0, 0, 0, [], fun _ => 0, fun _ => [])) (fun _ => (fun _ => ((0 : Int32), 0, 0), 0)) 0 0 (fun i => i) 1 1 P W (fun _ => mkF S' (fun _ => 0) (fun _ => ((0 : Int32), 0, 0)) [] [] [] u n' m' 0 0 1 0 1) 0 M1 T1 := ⟨⟨sim, ⟨y1, z1⟩, fun e _ => trivial, fun e he => absurd he (Nat.not_lt_zero _)⟩, gd _⟩
    have hb := (nu_b (M0 := M0) (Fr := fun _ => mkF S' (fun _ => 0) (fun _ => ((0 : Int32), 0, 0)) [] [] [] u n' m' 0 0 1 0 1) (Dp := 0) (by omega)).2
    exact go_on (cs := 960082) (B := 241320) (d := d) (d' := d' + 1) cx hfw hpg hnU h27 hn27 (by omega) h51 h6 hnf hd (by omega) (Nat.le_refl _) sg (by unfold prN; rw [y9]; show 0 + 0 + _ ≤ _; omega) (by omega)
  obtain ⟨M', T', a1, a2, _⟩ := go 0
  refine ⟨M', T', by rw [x1, a1, bis], by rw [t1, a2, bis], fun K => ?_⟩
  obtain ⟨M2, T2, b1, b2, b3⟩ := go K
  rw [a1] at b1
  rw [a2] at b2
  injection b1 with b1
  injection b1 with _ b1
  injection b1 with _ b1
  injection b2 with b2
  injection b2 with _ b2
  injection b2 with _ b2
  subst b1
  subst b2
  exact b3
end SWI
