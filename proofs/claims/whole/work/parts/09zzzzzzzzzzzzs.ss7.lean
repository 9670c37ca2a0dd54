/-! both machines: a try ends -/
/-- what is known behind a try's end -/
def TrdS (Sf S S' : gSt) : Prop := PfR S' S ∧ arn S = arn S' + 1 ∧ S.1 85 (arn S') = -1 ∧ (∃ a b, S'.1 87 0 = nI a ∧ S.1 87 0 = nI b ∧ a ≤ b ∧ b ≤ 20) ∧ ∀ u s, vaP S' u s → vaP S u s ∧ S.1 80 u = S'.1 80 u ∧ slV Sf S u = slV Sf S' u ∧ (fi (S'.1 82 0) s = true → fi (S.1 82 0) s = true)
section SS7
variable {M0 T0 Sf S Sh : gSt} {G G' : GH} {D D' : Nat → (Nat → AV) × Nat} {nf d d' nb nb' mk mk' na na' ng ng' e bs ph bt rb tb ie en hb k q u s i j c t h P W Dp n m it n1 : Nat} {rg rg' : Nat → Nat} {ρ : Nat → Nat} {va : Nat → AV} {M M' T T' : gSt} {v : AV} {x a b cc ee op y z w : Int32} {st s0 st' : List Int32} {ov o0 ov' : List AV} {hs : List HD} {F : FRM} {Fr : Nat → FRM} {f : Nat → Int32} {jj : T5} {r1 : Int32} {l1 : Int64} {tg : List Nat}
variable {S' : gSt} {hh : HD} {tl : List HD}
theorem st_tried (cx : CxP M0 T0 Sf) (h : Sim M0 T0 Sf G D nb mk rg na ng P W Fr Dp M T) (rn : RnO M T) (hn : fn (Fr Dp) = n) (hm : fm (Fr Dp) = m) (hn2 : n < 12000) (h51 : T0.1 51 0 = nI n1) (hm2 : m < n1) (h6 : n1 ≤ 6032) (rowR : rwC4 M0 n = (35, b, cc, ee)) (rowC : cw3 T0 m = (55, x, y)) (hhs : fhs (Fr Dp) = hh :: tl) (ht : TrdS Sf (fS (Fr Dp)) S') (hI : IvP Sf (fit (Fr Dp)) S' (fst' (Fr Dp)) tl) (hd : 20 ≤ d) (hd' : 20 ≤ d') : ∃ M' T', StR nf d M M' ∧ StC nf d' T T' ∧ RnO M' T' ∧ Sim M0 T0 Sf G D nb mk rg na ng P W (updF Fr Dp (mkF S' (fρ (Fr Dp)) (fva (Fr Dp)) (fst' (Fr Dp)) (fov (Fr Dp)) tl (fit (Fr Dp)) (n + 1) (m + 1) (fbs (Fr Dp)) (fph (Fr Dp)) (frb (Fr Dp)) (ftb (Fr Dp)) (fie (Fr Dp)))) Dp M' T' := by
  obtain ⟨w1, w2, w3, w4, w5, w6, w7, w8, w9⟩ := h.rw (n := n) (m := m)
  obtain ⟨b1, b2, b3, b4, b5⟩ := h.bd
  have hc6 : cn Sf ≤ 6000 := by have := cx.2.1; omega
  obtain ⟨fr, iv⟩ := h.fr
  obtain ⟨pf, t1, t2, ⟨ca, cb, t3, t4, t5, t6⟩, t7⟩ := ht
  have hS := h
  obtain ⟨a1, ⟨a2, a3, a4⟩, a5, a6, a7, a8, a9, a10⟩ := h
  obtain ⟨y1, y2, y3, y4, y5, y6, y7⟩ := a6
  obtain ⟨f1, f2, f3, f4, f5, f6⟩ := fr
  rw [hhs] at f5 y4 y5
  rw [List.length_cons] at y4 y5
  have b3' : ftb (Fr Dp) + tl.length < 800 := by rw [hhs, List.length_cons] at b3; omega
  have lve : lvc (fS (Fr Dp)) (arn (fS (Fr Dp))) = lvc S' (arn S') := by
    rw [t1, lvc, if_neg (fun w => w.1 (by rw [t2]; decide)), Nat.add_zero, lvc_pf pf _ (Nat.le_refl _)]
  have xr := x_r35 (M := sI M 102 0 (nI (n + 1))) (nf := nf) (d := d) (x := b) (y := cc) (z := ee) (k := ftb (Fr Dp) + tl.length) (by rw [tp_102 (by omega)]; exact y4) (by omega)
  have xc := c_endtry (T := sI T 105 0 (nI (m + 1))) (nf := nf) (d := d') (x := x) (y := y) (k := ftb (Fr Dp) + tl.length) (by rw [tp_105 (by omega)]; exact y5) (by omega) (by omega)
  have mO : ∀ k, k ≠ 102 → k ≠ 123 → (sI (sI M 102 0 (nI (n + 1))) 123 0 (nI (ftb (Fr Dp) + tl.length))).1 k = M.1 k := fun k k1 k2 => by rw [sI_ne k2, sI_ne k1]
  have tO : ∀ k, k ≠ 104 → k ≠ 105 → (sI (sI T 105 0 (nI (m + 1))) 104 0 (nI (ftb (Fr Dp) + tl.length))).1 k = T.1 k := fun k k1 k2 => by rw [sI_ne k1, sI_ne k2]
  refine ⟨(sI (sI M 102 0 (nI (n + 1))) 123 0 (nI (ftb (Fr Dp) + tl.length))), (sI (sI T 105 0 (nI (m + 1))) 104 0 (nI (ftb (Fr Dp) + tl.length))), StR.of (by rw [w4, hn]) hn2 (by rw [w1]; exact rowR) (by decide) xr, StC.of (op := 55) (x := x) (y := y) (r1 := 0) (l1 := 0) (by rw [w5, hm]) (by rw [w3]; exact h51) h6 hm2 (by rw [w2]; exact rowC) (by decide) (by rw [dC_214 (by decide) (by decide) (by decide) (by decide) (by decide)]; exact xc), ⟨by rw [mO 100 (by omega) (by omega)]; exact rn.1, by rw [tO 106 (by omega) (by omega)]; exact rn.2⟩, ?_⟩
  have hG : ∀ b, b ≤ nb → G b = G b := fun _ _ => rfl
  have frN : FrO Sf G nb rg na ng M T Dp (mkF S' (fρ (Fr Dp)) (fva (Fr Dp)) (fst' (Fr Dp)) (fov (Fr Dp)) tl (fit (Fr Dp)) (n + 1) (m + 1) (fbs (Fr Dp)) (fph (Fr Dp)) (frb (Fr Dp)) (ftb (Fr Dp)) (fie (Fr Dp))) := by
    refine ⟨fun u j hu => ?_, f2, RgO.pf f3 pf (fun _ _ w => w) (fun _ _ => rfl) (fun _ _ => rfl), ?_, f5.2.2, f6⟩
    · obtain ⟨v1, v2, v3, v4⟩ := t7 u j hu
      obtain ⟨z1, z2, z3, z4⟩ := f1 u j v1
      show VT G nb rg na ng (fva (Fr Dp) j) (gty Sf (fρ (Fr Dp)) (S'.1 80 u)) ∧ _ ∧ (∀ i, i < wv (fva (Fr Dp) j) → T.1 99 (fbs (Fr Dp) + slV Sf S' u + i) = CW G (fva (Fr Dp) j) i) ∧ (fi (S'.1 82 0) j = true → (∃ p, rowP Sf (S'.1 80 u) p ∧ Sf.1 66 p = 2) → 1 ≤ (fva (Fr Dp) j).2.1)
      rw [← v2, ← v3]
      exact ⟨z1, z2, z3, fun hf hp => z4 (v4 hf) hp⟩
    · obtain ⟨c, k1, k2, k3⟩ := f4
      have : cb = c := nI_inj (by omega) (by omega) (by rw [← t4, k1])
      exact ⟨ca, t3, by omega, fun k hk1 hk2 => k3 k hk1 (by omega)⟩
  refine Sim.set cx.1 hc6 hS (a1.eq (fun k hk => mO k (by omega) (by omega)) (fun k k1 k2 => tO k (by omega) (by omega))) (fun _ _ w => w) (fun _ _ => rfl) (Nat.le_refl _) (frN.mp cx.1 hc6 (fun x hx => (hI.2.2.2.1 x hx).imp id (fun w => w.1)) (by rw [mO 116 (by omega) (by omega)]) (fun k s q1 q2 _ => by rw [mO k (by omega) (by omega)]) (fun c _ => by rw [mO 121 (by omega) (by omega)]) (fun k _ => by rw [mO 122 (by omega) (by omega)]) (fun k q q1 q2 _ => by rw [mO k (by omega) (by omega)]) (fun k q q1 q2 _ => by rw [mO k (by omega) (by omega)]) (fun w _ => by rw [tO 101 (by omega) (by omega)]) (fun q _ => by rw [tO 103 (by omega) (by omega)]) (fun q _ => by rw [tO 99 (by omega) (by omega)])) hI rfl rfl rfl rfl ⟨?_, ?_, ?_, ?_, ?_, ?_, ?_⟩ (mO 103 (by omega) (by omega)) (tO 102 (by omega) (by omega)) (mO 114 (by omega) (by omega)) (fun k q hk => by rw [mO k (by omega) (by omega)]) (fun q _ => by rw [tO 101 (by omega) (by omega)]) (fun q _ => by rw [tO 103 (by omega) (by omega)]) (fun q hq => by rw [tO 99 (by omega) (by omega)]) ?_ ?_ ?_
  · rw [mO 109 (by omega) (by omega)]; exact y1
  · rw [tO 100 (by omega) (by omega)]; exact y2
  · show na = frb (Fr Dp) + lvc S' (arn S')
    rw [← lve]
    exact y3
  · rw [sI_v]; rfl
  · rw [sI_v]; rfl
  · rw [sI_ne (by omega), sI_v]; rfl
  · rw [sI_ne (by omega), sI_v]; rfl
  · obtain ⟨w, i1, i2, i3, i4⟩ := a7
    exact ⟨w, by rw [mO 150 (by omega) (by omega)]; exact i1, by rw [tO 111 (by omega) (by omega)]; exact i2, i3, by rw [mO 151 (by omega) (by omega), tO 110 (by omega) (by omega)]; exact i4⟩
  · obtain ⟨k1, ⟨p, k2, k3, k4, k5⟩, k6, k7, k8, k9⟩ := a8
    exact ⟨by rw [mO 101 (by omega) (by omega), tO 108 (by omega) (by omega)]; exact k1, ⟨p, by rw [mO 104 (by omega) (by omega)]; exact k2, by rw [tO 113 (by omega) (by omega)]; exact k3, k4, by rw [mO 152 (by omega) (by omega), tO 112 (by omega) (by omega)]; exact k5⟩, by rw [mO 106 (by omega) (by omega), tO 109 (by omega) (by omega)]; exact k6, by rw [mO 107 (by omega) (by omega)]; exact k7, by rw [tO 121 (by omega) (by omega)]; exact k8, fun q hq => by rw [mO 115 (by omega) (by omega), tO 101 (by omega) (by omega)]; exact k9 q hq⟩
  · obtain ⟨k1, k2, k3, k4⟩ := a9
    exact ⟨fun k hk => by rw [mO k (by omega) (by omega)]; exact k1 k hk, k2, fun k hk => by rw [tO k (by omega) (by omega)]; exact k3 k hk, k4⟩
end SS7
