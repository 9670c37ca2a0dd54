/-! both machines: REGIONS that outlive, values that fit -/
section MK3
variable {M0 T0 Sf S Sh : gSt} {G G' : GH} {D D' : Nat → (Nat → AV) × Nat} {nf d d' nb nb' mk mk' na na' ng ng' e bs ph bt rb tb ie en hb k q u s i j c t h P W Dp n m it n1 r : Nat} {rg rg' : Nat → Nat} {ρ : Nat → Nat} {va : Nat → AV} {M M' T T' : gSt} {v : AV} {x a b cc ee op y z w : Int32} {st s0 st' : List Int32} {ov o0 ov' : List AV} {hs : List HD} {F : FRM} {Fr : Nat → FRM} {f : Nat → Int32} {jj : T5}
theorem nI_ltM {a b : Nat} (ha : a < 2 ^ 31) (hb : b < 2 ^ 31) : nI a < nI b ↔ a < b := by
  rw [Int32.lt_iff_toInt_lt, nI_toInt ha, nI_toInt hb]
  omega
/-- a REGION in sight: of RS, or of a region STEP around -/
theorem sght_c (h : RwS en S) (hs : sght S s) : s ≤ en ∨ ∃ (j : Nat) (cd po : Nat → Nat), s = cd j ∧ 4 ≤ s ∧ s < 12 ∧ po j < arn S ∧ S.1 85 (po j) = nI s ∧ S.1 74 s = (if j = 0 then 0 else nI (cd (j - 1))) ∧ (∀ i, i < j → 4 ≤ cd i ∧ cd i < 12 ∧ S.1 74 (cd i) = (if i = 0 then 0 else nI (cd (i - 1))) ∧ po i < po j ∧ S.1 85 (po i) = nI (cd i)) := by
  obtain ⟨m, g, n, cd, po, ⟨a1, a2, a3, a4, a5, a6, a7, a8⟩, b1, b2, b3, b4, b5, b6, b7, b8⟩ := h
  have en' : arn S = n := by unfold arn; rw [a7, nc (by omega)]
  rcases hs with e | ⟨h12, k, hk, ek⟩
  · exact Or.inl (by omega)
  · by_cases c : k < en
    · left
      have := nI_inj (by omega) (by omega) ((b1 k c).symm.trans ek)
      omega
    · right
      obtain ⟨c1, c2, c3, c4⟩ := b2 (k - en) (by omega)
      rw [show en + (k - en) = k by omega] at c1
      have es : s = cd (k - en) := nI_inj (by omega) (by omega) (ek.symm.trans c1)
      obtain ⟨p1, p2⟩ := b4 (k - en) (by omega)
      refine ⟨k - en, cd, po, es, by omega, h12, by omega, by rw [es]; exact p2, by rw [es]; exact c4, fun i hi => ?_⟩
      obtain ⟨_, d2, d3, d4⟩ := b2 i (by omega)
      exact ⟨d2, by omega, d4, b5 i _ hi (by omega), (b4 i (by omega)).2⟩
theorem Sim.sg (h : Sim M0 T0 Sf G D nb mk rg na ng P W Fr Dp M T) (hs : sght (fS (Fr Dp)) s) : s < 12 ∧ fρ (Fr Dp) s < ng := by
  obtain ⟨fr, iv⟩ := h.fr
  obtain ⟨⟨r1, r2, r3, r4, r5, r6⟩, q1, q2, q3, q4⟩ := fr.2.2.1
  have en3 : eN Sf (fit (Fr Dp)) ≤ 3 := by
    obtain ⟨m, g, n, cd, po, ⟨a1, _⟩, _⟩ := iv.2.1
    exact a1
  rcases sght_c iv.2.1 hs with w | ⟨j, cd, po, e1, e2, e3, e4, e5, _⟩
  · have := r4 s (by omega)
    exact ⟨by omega, by omega⟩
  · have := (q1 (po j) s e4 e5 e2 e3).2.1
    exact ⟨e3, this⟩
theorem inC_c {cd : Nat → Nat} (hr : ¬ r = 0) (hr2 : r < 12) : ∀ (f i : Nat), (∀ k, k ≤ i → 4 ≤ cd k ∧ cd k < 12 ∧ S.1 74 (cd k) = (if k = 0 then 0 else nI (cd (k - 1)))) → ¬ inC S (nI r) f (nI (cd i)) = 0 → ∃ k, k ≤ i ∧ r = cd k := by
  intro f
  induction f with
  | zero => intro i _ h; exact absurd rfl h
  | succ f ih =>
    intro i hk h
    obtain ⟨k1, k2, k3⟩ := hk i (Nat.le_refl _)
    rw [inC, if_neg (nI_np (by omega) (by omega))] at h
    by_cases e : nI (cd i) = nI r
    · exact ⟨i, Nat.le_refl _, (nI_inj (by omega) (by omega) e).symm⟩
    · rw [if_neg e, nc (by omega), k3] at h
      by_cases i0 : i = 0
      · rw [if_pos i0] at h
        cases f with
        | zero => exact absurd rfl h
        | succ f =>
          rw [inC, if_pos (by decide), if_neg (show ¬ (0 : Int32) = nI r from fun w => hr (nI_inj (a := 0) (b := r) (by omega) (by omega) w).symm)] at h
          exact absurd rfl h
      · rw [if_neg i0] at h
        obtain ⟨k, q1, q2⟩ := ih (i - 1) (fun k hk' => hk k (by omega)) h
        exact ⟨k, by omega, q2⟩
/-- R OUTLIVES S -/
theorem Sim.outl (h : Sim M0 T0 Sf G D nb mk rg na ng P W Fr Dp M T) (hr : r < 12) (hs : sght (fS (Fr Dp)) s) (ho : ¬ dOv (fS (Fr Dp)) (nI r) (nI s) = 0) : ot rg na ng (fρ (Fr Dp) r) (fρ (Fr Dp) s) := by
  obtain ⟨s12, sng⟩ := h.sg hs
  obtain ⟨fr, iv⟩ := h.fr
  obtain ⟨⟨r1, r2, r3, r4, r5, r6⟩, q1, q2, q3, q4⟩ := fr.2.2.1
  unfold dOv at ho
  by_cases c1 : nI r = nI s
  · have := nI_inj (by omega) (by omega) c1
    subst this
    exact ot.rf sng
  rw [if_neg c1] at ho
  by_cases c2 : nI r = 0
  · have : r = 0 := nI_inj (a := r) (b := 0) (by omega) (by omega) c2
    subst this
    rw [r1]
    exact ⟨Nat.zero_le _, sng, fun _ => ⟨0, by have := h.1.1.2.2.1; omega, h.1.1.2.2.2.2.2.2⟩⟩
  rw [if_neg c2] at ho
  have r0 : ¬ r = 0 := fun e => c2 (by rw [e]; rfl)
  have lt4 : ∀ c, c < 12 → (nI c < 4 ↔ c < 4) := fun c hc => nI_ltM (a := c) (b := 4) (by omega) (by omega)
  have gt0 : ∀ c, c < 12 → ((0 : Int32) < nI c ↔ 0 < c) := fun c hc => nI_ltM (a := 0) (b := c) (by omega) (by omega)
  by_cases c3 : nI r < 4 ∧ 0 < nI s ∧ nI s < 4
  · rw [if_pos c3, show (4 : Int32) * nI r + nI s = nI (4 * r + s) by rw [show (4 : Int32) * nI r = nI (4 * r) from (Int32.ofNat_mul 4 r).symm]; exact (Int32.ofNat_add _ _).symm] at ho
    have x1 := (lt4 r hr).mp c3.1
    have x2 := (gt0 s s12).mp c3.2.1
    have x3 := (lt4 s s12).mp c3.2.2
    refine q4 r s (by omega) (by omega) (by omega) (by omega) ?_
    rw [← fi_sr (by omega)]
    exact Decidable.byContradiction fun w => ho (if_neg w)
  rw [if_neg c3] at ho
  by_cases c4 : nI s < 4
  · rw [if_pos c4] at ho
    exact absurd rfl ho
  rw [if_neg c4] at ho
  by_cases c5 : isLv (fS (Fr Dp)) (nI r) = 0
  · rw [if_pos c5] at ho
    exact absurd rfl ho
  rw [if_neg c5] at ho
  have s4 : ¬ s < 4 := fun w => c4 ((lt4 s s12).mpr w)
  have av := h.alv hr c5
  have en3 : eN Sf (fit (Fr Dp)) ≤ 3 := by
    obtain ⟨m, g, n, cd, po, ⟨a1, _⟩, _⟩ := iv.2.1
    exact a1
  rcases sght_c iv.2.1 hs with w | ⟨j, cd, po, e1, e2, e3, e4, e5, e6, e7⟩
  · omega
  have sq := q1 (po j) s e4 e5 e2 e3
  by_cases c6 : (4 : Int32) ≤ nI r
  · rw [if_pos c6, nc (by omega), e6] at ho
    by_cases j0 : j = 0
    · rw [if_pos j0, inC, if_pos (by decide), if_neg (fun w => c2 w.symm)] at ho
      exact absurd rfl ho
    · rw [if_neg j0] at ho
      obtain ⟨k, k1, k2⟩ := inC_c (cd := cd) r0 hr 13 (j - 1) (fun k hk => by
        obtain ⟨z1, z2, z3, _⟩ := e7 k (by omega)
        exact ⟨z1, z2, z3⟩) ho
      obtain ⟨z1, z2, z3, z4, z5⟩ := e7 k (by omega)
      rw [← k2] at z1 z5
      have := q2 (po k) (po j) r s z4 e4 z5 e5 z1 hr e2 e3
      exact ⟨by omega, sng, fun _ => av⟩
  · have : r < 4 := Decidable.byContradiction fun w => c6 ((nI_leI (a := 4) (b := r) (by omega) (by omega)).mpr (by omega))
    have := r4 r (by omega)
    exact ⟨by omega, sng, fun _ => av⟩
theorem ty_sg (hR : Rws Sf) (hc : cn Sf ≤ 6000) (hy : TyIn Sf S y) (hq : rowP Sf y q) : sght S (Sf.1 67 q).toNatClampNeg := by
  refine Classical.byContradiction fun no => ?_
  have := hy (fun _ => 0) (fun c => if c = (Sf.1 67 q).toNatClampNeg then 1 else 0) (fun c hc' => by
    show 0 = if c = (Sf.1 67 q).toNatClampNeg then 1 else 0
    rw [if_neg (fun w : c = (Sf.1 67 q).toNatClampNeg => no (w ▸ hc'))])
  rw [gty_t hR hc hq, gty_t hR hc hq] at this
  injection this with _ t2
  injection t2 with t3 _
  rw [if_pos rfl] at t3
  exact absurd t3 (by decide)
/-- a value fits -/
theorem VTs.fit (cx : CxP M0 T0 Sf) (h : Sim M0 T0 Sf G D nb mk rg na ng P W Fr Dp M T) (hx : VTs Sf G nb rg na ng (fρ (Fr Dp)) v x) (hf : fitT Sf (fS (Fr Dp)) x y) (hy : TyIn Sf (fS (Fr Dp)) y) : VT G nb rg na ng v (gty Sf (fρ (Fr Dp)) y) := by
  have hc6 : cn Sf ≤ 6000 := by have := cx.2.1; omega
  rcases hf with ⟨e1, e2⟩ | ⟨e1, q, hq, e2⟩ | ⟨p, q, hp, hq, k1, k2, k3, k4, k5⟩
  · subst e1 e2
    unfold VTs at hx
    rw [if_neg (by decide)] at hx
    exact hx
  · subst e1
    unfold VTs at hx
    rw [if_pos rfl] at hx
    rw [gty_t cx.1 hc6 hq, e2]
    exact (VT_k (k := 2) (Or.inr rfl)).mpr (Or.inl ⟨rfl, hx⟩)
  · have sg := ty_sg cx.1 hc6 hy hq
    have x2 : ¬ x = -2 := fun e => hp.np hc6 (by rw [e]; decide)
    unfold VTs at hx
    rw [if_neg x2] at hx
    obtain ⟨cr, ecr, hcr⟩ := (cx.1 p hp.2.1 hp.2.2).2.1
    change Sf.1 67 p = nI cr at ecr
    obtain ⟨cs, ecs, hcs⟩ := (cx.1 q hq.2.1 hq.2.2).2.1
    change Sf.1 67 q = nI cs at ecs
    rw [ecr, ecs] at k5
    rw [ecs, nc (by omega)] at sg
    have ot1 := h.outl hcr sg k5
    rw [gty_t cx.1 hc6 hp, ecr, nc (by omega)] at hx
    rw [gty_t cx.1 hc6 hq, ecs, nc (by omega)]
    refine hx.ou ?_ ?_ ot1
    · show (Sf.1 66 q).toNatClampNeg = (Sf.1 66 p).toNatClampNeg ∨ ((Sf.1 66 p).toNatClampNeg = 1 ∧ (Sf.1 66 q).toNatClampNeg = 2)
      rcases k1 with w | ⟨w1, w2⟩
      · exact Or.inl (by rw [w])
      · exact Or.inr ⟨by rw [w1]; rfl, by rw [w2]; rfl⟩
    · show tgt Sf (fρ (Fr Dp)) q = tgt Sf (fρ (Fr Dp)) p
      unfold tgt
      rw [k2, k3, k4]
/-- a LIVE REGION: its index on both sides -/
theorem Sim.rgn (h : Sim M0 T0 Sf G D nb mk rg na ng P W Fr Dp M T) (hl : lvR (fS (Fr Dp)) (nI s)) (hs : s < 12) : ∃ r, r < na ∧ (if s = 0 then 0 else M.1 121 (12 * Dp + s)) = nI r ∧ rg r = fρ (Fr Dp) s ∧ ∀ b, RgE (eN Sf (fit (Fr Dp))) (fS (Fr Dp)) s b → T.1 101 (17 * (Dp + 1) + (5 + b)) = nI r := by
  have hl := hl.2
  obtain ⟨fr, iv⟩ := h.fr
  obtain ⟨⟨r1, r2, r3, r4, r5, r6⟩, q1, q2, q3, q4⟩ := fr.2.2.1
  obtain ⟨mm, g, nn, cd, po, ⟨a1, a2, a3, a4, a5, a6, a7, a8⟩, b1, b2, b3, b4, b5, b6, b7, b8⟩ := iv.2.1
  have en' : arn (fS (Fr Dp)) = nn := by unfold arn; rw [a7, nc (by omega)]
  have hna := h.2.2.2.1.2.2.1
  have hl' : fi ((fS (Fr Dp)).1 75 0) s = true := by
    cases e : fi ((fS (Fr Dp)).1 75 0) s with
    | true => rfl
    | false => exact absurd ((isLv_fi (by omega)).mpr e) hl
  rcases b7 s (by omega) hl' with w | ⟨j, j1, j2⟩
  · have low : ∀ b, RgE (eN Sf (fit (Fr Dp))) (fS (Fr Dp)) s b → b = s := fun b hb => by
      rcases hb with z | ⟨_, _, _, _, z, _⟩
      · exact z.1.symm
      · omega
    by_cases c0 : s = 0
    · subst c0
      rw [r1]
      exact ⟨0, by omega, rfl, h.1.1.2.2.2.2.2.2, fun b hb => by rw [low b hb]; exact r6⟩
    · obtain ⟨i, i1, i2, i3, i4⟩ := q3 s (by omega) (by omega) hl
      exact ⟨i, by omega, by rw [if_neg c0]; exact i2, i4, fun b hb => by rw [low b hb]; exact i3⟩
  · obtain ⟨p1, p2⟩ := b4 j j1
    obtain ⟨_, d1, d2, _⟩ := b2 j j1
    rw [← j2] at p2 d1
    obtain ⟨u1, u2, u3⟩ := q1 (po j) s (by omega) p2 d1 hs
    unfold RgQx at u3
    rw [if_neg hl] at u3
    have lt := lvc_lt (t := arn (fS (Fr Dp))) (by omega) p2 hs hl
    exact ⟨_, by omega, by rw [if_neg (by omega)]; exact u3.1, u3.2.1, u3.2.2⟩
end MK3
