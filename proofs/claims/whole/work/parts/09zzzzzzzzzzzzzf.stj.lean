/-! both machines: STEPS one after another */
-/
section STJ
variable {M0 T0 Sf S Sh : gSt} {G G' : GH} {D D' : Nat → (Nat → AV) × Nat} {nf d d' nb nb' mk mk' na na' ng ng' e bs ph bt rb tb ie en hb k q u s i j c t h P W Dp n m it n1 : Nat} {rg rg' : Nat → Nat} {ρ : Nat → Nat} {va : Nat → AV} {M M' T T' : gSt} {v : AV} {x a b cc ee op y z w : Int32} {st s0 st' : List Int32} {ov o0 ov' : List AV} {hs : List HD} {F : FRM} {Fr : Nat → FRM} {f : Nat → Int32} {jj : T5} {r1 : Int32} {l1 : Int64} {tg : List Nat}
variable {K jR jC E n27 p : Nat} {F2 F3 : FRM} {hh : HD} {tl : List HD} {Q : Nat → Nat → gSt → List Int32 → List HD → Prop}
theorem ru_st (h : GRu M0 T0 Sf n1 it Q n m S st hs) (h0 : (rwC4 M0 n).1 = 0) : gSTEP M0 T0 Sf n1 it Q n m S st hs := by
  have no : ∀ (op b c e : Int32), rwC4 M0 n = (op, b, c, e) → ¬ op = 0 → False := fun op b c e h1 h2 => h2 (by rw [h1] at h0; exact h0)
  rcases h with h | h | h | h | h | h | h | h | h | h | h | h | h | h | h | h | h | h | h | h | h | h
  · exact h
  · obtain ⟨jj, st', _, hR, _, hty, _⟩ := h
    exact absurd h0 (rO_op hR hty).2
  · obtain ⟨jj, st', _, hR, _, hty, _⟩ := h
    exact absurd h0 (rO_op hR hty).2
  · obtain ⟨_, _, _, e, _⟩ := h
    exact (no _ _ _ _ e (by decide)).elim
  · obtain ⟨_, _, _, _, _, e, _⟩ := h
    exact (no _ _ _ _ e (by decide)).elim
  · obtain ⟨_, _, _, _, _, e, _⟩ := h
    exact (no _ _ _ _ e (by decide)).elim
  · obtain ⟨_, _, _, _, _, _, _, e, _⟩ := h
    exact (no _ _ _ _ e (by decide)).elim
  · obtain ⟨_, _, _, _, _, _, _, _, _, _, _, _, _, e, _⟩ := h
    exact (no _ _ _ _ e (by decide)).elim
  · obtain ⟨_, _, _, _, _, _, _, _, _, _, _, _, _, _, _, _, _, _, _, _, _, _, e, _⟩ := h
    exact (no _ _ _ _ e (by decide)).elim
  · obtain ⟨_, _, _, _, _, _, _, _, e, _⟩ := h
    exact (no _ _ _ _ e (by decide)).elim
  · obtain ⟨jj, _, _, _, _, e, _⟩ := h
    exfalso
    rw [e] at h0
    unfold rP at h0
    split at h0
    · exact absurd h0 (by show ¬ (23 : Int32) = 0; decide)
    · split at h0
      · exact absurd h0 (by show ¬ (24 : Int32) = 0; decide)
      · exact absurd h0 (by show ¬ (25 : Int32) = 0; decide)
  · obtain ⟨_, _, _, _, _, e, _⟩ := h
    exact (no _ _ _ _ e (by decide)).elim
  · obtain ⟨_, _, _, _, _, _, e, _⟩ := h
    exact (no _ _ _ _ e (by decide)).elim
  · obtain ⟨_, _, _, _, e, _⟩ := h
    exact (no _ _ _ _ e (by decide)).elim
  · obtain ⟨_, _, _, e, _⟩ := h
    exact (no _ _ _ _ e (by decide)).elim
  · obtain ⟨_, _, _, _, _, _, e, _⟩ := h
    exact (no _ _ _ _ e (by decide)).elim
  · obtain ⟨_, _, _, _, _, _, _, e, _⟩ := h
    exact (no _ _ _ _ e (by decide)).elim
  · obtain ⟨_, _, _, _, _, _, _, _, e, _⟩ := h
    exact (no _ _ _ _ e (by decide)).elim
  · obtain ⟨_, _, _, _, e, _⟩ := h
    exact (no _ _ _ _ e (by decide)).elim
  · obtain ⟨_, _, _, _, _, _, e, _⟩ := h
    exact (no _ _ _ _ e (by decide)).elim
  · obtain ⟨_, _, _, _, _, _, _, _, e, _⟩ := h
    exact (no _ _ _ _ e (by decide)).elim
  · obtain ⟨_, _, _, _, _, e, _⟩ := h
    exact (no _ _ _ _ e (by decide)).elim
/-- a STEP is counted */
-/
theorem st_step (cx : CxP M0 T0 Sf) (h : Sim M0 T0 Sf G D nb mk rg na ng P W Fr Dp M T) : Sim M0 T0 Sf G D nb mk rg na ng P W (updF Fr Dp (mkF (fS (Fr Dp)) (fρ (Fr Dp)) (fva (Fr Dp)) (fst' (Fr Dp)) (fov (Fr Dp)) (fhs (Fr Dp)) (fit (Fr Dp)) (fn (Fr Dp) + 1) (fm (Fr Dp) + 1) (fbs (Fr Dp)) (fph (Fr Dp)) (frb (Fr Dp)) (ftb (Fr Dp)) (fie (Fr Dp)))) Dp (sI (sI (sI M 101 0 (M.1 101 0 + 1)) 115 Dp (nI p)) 102 0 (nI (fn (Fr Dp) + 1))) (sI (sI (sI T 101 (17 * (Dp + 1) + 2) (nI p)) 105 0 (nI (fm (Fr Dp) + 1))) 108 0 (T.1 108 0 + 1)) := by
  have hc6 : cn Sf ≤ 6000 := by have := cx.2.1; omega
  obtain ⟨fr, iv⟩ := h.fr
  have hS := h
  obtain ⟨a1, ⟨a2, a3, a4⟩, a5, a6, a7, a8, a9, a10⟩ := h
  obtain ⟨y1, y2, y3, y4, y5, y6, y7⟩ := a6
  have mO : ∀ k, k ≠ 101 → k ≠ 115 → k ≠ 102 → (sI (sI (sI M 101 0 (M.1 101 0 + 1)) 115 Dp (nI p)) 102 0 (nI (fn (Fr Dp) + 1))).1 k = M.1 k := fun k q1 q2 q3 => by rw [sI_ne q3, sI_ne q2, sI_ne q1]
  have tO : ∀ k, k ≠ 101 → k ≠ 105 → k ≠ 108 → (sI (sI (sI T 101 (17 * (Dp + 1) + 2) (nI p)) 105 0 (nI (fm (Fr Dp) + 1))) 108 0 (T.1 108 0 + 1)).1 k = T.1 k := fun k q1 q2 q3 => by rw [sI_ne q3, sI_ne q2, sI_ne q1]
  have t101 : ∀ q, ¬ q = 17 * (Dp + 1) + 2 → (sI (sI (sI T 101 (17 * (Dp + 1) + 2) (nI p)) 105 0 (nI (fm (Fr Dp) + 1))) 108 0 (T.1 108 0 + 1)).1 101 q = T.1 101 q := fun q hq => by rw [sI_ne (by omega), sI_ne (by omega), rdI, if_neg (by omega)]
  have fr0 : FrO Sf G nb rg na ng M T Dp (mkF (fS (Fr Dp)) (fρ (Fr Dp)) (fva (Fr Dp)) (fst' (Fr Dp)) (fov (Fr Dp)) (fhs (Fr Dp)) (fit (Fr Dp)) (fn (Fr Dp) + 1) (fm (Fr Dp) + 1) (fbs (Fr Dp)) (fph (Fr Dp)) (frb (Fr Dp)) (ftb (Fr Dp)) (fie (Fr Dp))) := fr
  have frN : FrO Sf G nb rg na ng (sI (sI (sI M 101 0 (M.1 101 0 + 1)) 115 Dp (nI p)) 102 0 (nI (fn (Fr Dp) + 1))) (sI (sI (sI T 101 (17 * (Dp + 1) + 2) (nI p)) 105 0 (nI (fm (Fr Dp) + 1))) 108 0 (T.1 108 0 + 1)) Dp (mkF (fS (Fr Dp)) (fρ (Fr Dp)) (fva (Fr Dp)) (fst' (Fr Dp)) (fov (Fr Dp)) (fhs (Fr Dp)) (fit (Fr Dp)) (fn (Fr Dp) + 1) (fm (Fr Dp) + 1) (fbs (Fr Dp)) (fph (Fr Dp)) (frb (Fr Dp)) (ftb (Fr Dp)) (fie (Fr Dp))) := by
    obtain ⟨f1, f2, f3, f4, f5, g1, g2, g3, g4⟩ := fr0
    have hG : ∀ b, b ≤ nb → G b = G b := fun _ _ => rfl
    have ho : ∀ r s, ot rg na ng r s → ot rg na ng r s := fun _ _ w => w
    refine ⟨f1.mo hG (Nat.le_refl _) ho (fun k s k1 k2 _ => by rw [mO k (by omega) (by omega) (by omega)]) (fun q _ => by rw [tO 99 (by omega) (by omega) (by omega)]), OpV.mo _ _ f2 hG (Nat.le_refl _) ho (fun k q k1 k2 _ => by rw [mO k (by omega) (by omega) (by omega)]) (fun q _ => by rw [tO 99 (by omega) (by omega) (by omega)]) (fun x v hx hv => ?_), ?_, f4.mo (fun k _ => by rw [mO 122 (by omega) (by omega) (by omega)]) (fun q _ => by rw [tO 99 (by omega) (by omega) (by omega)]), HsO.mo _ f5 hG (Nat.le_refl _) ho (fun k s k1 k2 _ => by rw [mO k (by omega) (by omega) (by omega)]) (fun k q k1 k2 _ => by rw [mO k (by omega) (by omega) (by omega)]) (fun q _ => by rw [tO 99 (by omega) (by omega) (by omega)]) (fun q _ => by rw [tO 103 (by omega) (by omega) (by omega)]), by rw [t101 _ (by omega)]; exact g1, by rw [t101 _ (by omega)]; exact g2, by rw [t101 _ (by omega)]; exact g3, by rw [mO 116 (by omega) (by omega) (by omega)]; exact g4⟩
    · rw [VTs.wi cx.1 hc6 ((iv.2.2.2.1 x hx).imp id (fun w => w.1)) hv]
      exact Nat.le_refl _
    · -- REGIONS: word 2 of the call isn't one of them
      obtain ⟨⟨p1, p2, p3, p4, p5, p6⟩, q1, q2, q3, q4⟩ := f3
      refine ⟨⟨p1, p2, p3, p4, p5, by rw [t101 _ (by omega)]; exact p6⟩, fun q c hq hc c4 c12 => ?_, q2, fun c c1 c3 hl => ?_, q4⟩
      · obtain ⟨z1, z2, z3⟩ := q1 q c hq hc c4 c12
        refine ⟨z1, z2, ?_⟩
        unfold RgQx at z3 ⊢
        rw [mO 121 (by omega) (by omega) (by omega)]
        by_cases z : isLv (fS (Fr Dp)) (nI c) = 0
        · rw [if_pos (show isLv (fS (mkF (fS (Fr Dp)) (fρ (Fr Dp)) (fva (Fr Dp)) (fst' (Fr Dp)) (fov (Fr Dp)) (fhs (Fr Dp)) (fit (Fr Dp)) (fn (Fr Dp) + 1) (fm (Fr Dp) + 1) (fbs (Fr Dp)) (fph (Fr Dp)) (frb (Fr Dp)) (ftb (Fr Dp)) (fie (Fr Dp)))) (nI c) = 0 from z)] at z3 ⊢
          exact z3
        · rw [if_neg (show ¬ isLv (fS (mkF (fS (Fr Dp)) (fρ (Fr Dp)) (fva (Fr Dp)) (fst' (Fr Dp)) (fov (Fr Dp)) (fhs (Fr Dp)) (fit (Fr Dp)) (fn (Fr Dp) + 1) (fm (Fr Dp) + 1) (fbs (Fr Dp)) (fph (Fr Dp)) (frb (Fr Dp)) (ftb (Fr Dp)) (fie (Fr Dp)))) (nI c) = 0 from z)] at z3 ⊢
          exact ⟨z3.1, z3.2.1, fun w hw => by rw [t101 _ (by omega)]; exact z3.2.2 w hw⟩
      · obtain ⟨i, i1, i2, i3, i4⟩ := q3 c c1 c3 hl
        exact ⟨i, i1, by rw [mO 121 (by omega) (by omega) (by omega)]; exact i2, by rw [t101 _ (by omega)]; exact i3, i4⟩
  refine Sim.set cx.1 hc6 hS (a1.eq (fun k hk => mO k (by omega) (by omega) (by omega)) (fun k k1 k2 => tO k (by omega) (by omega) (by omega))) (fun _ _ w => w) (fun _ _ => rfl) (Nat.le_refl _) frN iv rfl rfl rfl rfl ⟨?_, ?_, y3, ?_, ?_, ?_, ?_⟩ (mO 103 (by omega) (by omega) (by omega)) (tO 102 (by omega) (by omega) (by omega)) (mO 114 (by omega) (by omega) (by omega)) (fun k q hk => by rw [mO k (by omega) (by omega) (by omega)]) (fun q _ => t101 q (by omega)) (fun q _ => by rw [tO 103 (by omega) (by omega) (by omega)]) (fun q hq => by rw [tO 99 (by omega) (by omega) (by omega)]) (a7.eq (fun k hk => mO k (by omega) (by omega) (by omega)) (fun k hk => tO k (by omega) (by omega) (by omega))) ?_ (a9.eq (fun k hk => mO k (by omega) (by omega) (by omega)) rfl (fun k hk => tO k (by omega) (by omega) (by omega)) rfl)
  · rw [mO 109 (by omega) (by omega) (by omega)]; exact y1
  · rw [tO 100 (by omega) (by omega) (by omega)]; exact y2
  · rw [mO 123 (by omega) (by omega) (by omega)]; exact y4
  · rw [tO 104 (by omega) (by omega) (by omega)]; exact y5
  · rw [sI_v]; rfl
  · rw [sI_ne (by omega), sI_v]; rfl
  · obtain ⟨k1, ⟨p', k2, k3, k4, k5⟩, k6, k7, k8, k9⟩ := a8
    refine ⟨?_, ⟨p', by rw [mO 104 (by omega) (by omega) (by omega)]; exact k2, by rw [tO 113 (by omega) (by omega) (by omega)]; exact k3, k4, by rw [mO 152 (by omega) (by omega) (by omega), tO 112 (by omega) (by omega) (by omega)]; exact k5⟩, by rw [mO 106 (by omega) (by omega) (by omega), tO 109 (by omega) (by omega) (by omega)]; exact k6, by rw [mO 107 (by omega) (by omega) (by omega)]; exact k7, by rw [tO 121 (by omega) (by omega) (by omega)]; exact k8, fun q hq => ?_⟩
    · rw [sI_ne (by omega), sI_ne (by omega), sI_v, sI_v, k1]
    · rw [sI_ne (by omega), rdI]
      by_cases e : q = Dp
      · rw [if_pos ⟨rfl, e⟩, e, sI_ne (by omega), sI_ne (by omega), sI_v]
      · rw [if_neg (fun w => e w.2), sI_ne (by omega), t101 _ (by omega)]
        exact k9 q hq
end STJ
