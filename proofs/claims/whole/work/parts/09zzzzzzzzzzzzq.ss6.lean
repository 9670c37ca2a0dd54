/-! both machines: less is told, or that a VAR isn't null -/
section SS6
variable {M0 T0 Sf S Sh : gSt} {G G' : GH} {D D' : Nat → (Nat → AV) × Nat} {nf d d' nb nb' mk mk' na na' ng ng' e bs ph bt rb tb ie en hb k q u s i j c t h P W Dp n m it n1 : Nat} {rg rg' : Nat → Nat} {ρ : Nat → Nat} {va : Nat → AV} {M M' T T' : gSt} {v : AV} {x a b cc ee op y z w : Int32} {st s0 st' : List Int32} {ov o0 ov' : List AV} {hs : List HD} {F : FRM} {Fr : Nat → FRM} {f : Nat → Int32} {jj : T5} {r1 : Int32} {l1 : Int64} {tg : List Nat}
variable {S' : gSt}
theorem Sim.kn (hR : Rws Sf) (hc : cn Sf ≤ 6000) (h : Sim M0 T0 Sf G D nb mk rg na ng P W Fr Dp M T) (hw : KnS Sf (fS (Fr Dp)) S' s) (hk : 1 ≤ (fva (Fr Dp) s).2.1) (hI : IvP Sf (fit (Fr Dp)) S' (fst' (Fr Dp)) (fhs (Fr Dp))) : Sim M0 T0 Sf G D nb mk rg na ng P W (updF Fr Dp (mkF S' (fρ (Fr Dp)) (fva (Fr Dp)) (fst' (Fr Dp)) (fov (Fr Dp)) (fhs (Fr Dp)) (fit (Fr Dp)) (fn (Fr Dp)) (fm (Fr Dp)) (fbs (Fr Dp)) (fph (Fr Dp)) (frb (Fr Dp)) (ftb (Fr Dp)) (fie (Fr Dp)))) Dp M T := by
  obtain ⟨fr, iv⟩ := h.fr
  obtain ⟨sm, hv⟩ := hw
  have ar : arn S' = arn (fS (Fr Dp)) := by unfold arn; rw [sm.2.2.1]
  have lve : lvc S' (arn S') = lvc (fS (Fr Dp)) (arn (fS (Fr Dp))) := by rw [lvc_pf sm.rr _ (Nat.le_refl _), ar]
  have hS := h
  obtain ⟨a1, ⟨a2, a3, a4⟩, a5, a6, a7, a8, a9, a10⟩ := h
  obtain ⟨y1, y2, y3, y4, y5, y6, y7⟩ := a6
  obtain ⟨f1, f2, f3, f4, f5, f6⟩ := fr
  refine Sim.set hR hc hS a1 (fun _ _ w => w) (fun _ _ => rfl) (Nat.le_refl _) ⟨fun u j hu => ?_, f2, RgO.pf f3 sm.rr (fun _ _ w => w) (fun _ _ => rfl) (fun _ _ => rfl), ?_, f5, f6⟩ hI rfl rfl rfl rfl ⟨y1, y2, ?_, y4, y5, y6, y7⟩ rfl rfl rfl (fun _ _ _ => rfl) (fun _ _ => rfl) (fun _ _ => rfl) (fun _ _ => rfl) a7 a8 a9
  · obtain ⟨v1, v2, v3, v4⟩ := hv u j hu
    obtain ⟨z1, z2, z3, z4⟩ := f1 u j v1
    show VT G nb rg na ng (fva (Fr Dp) j) (gty Sf (fρ (Fr Dp)) (S'.1 80 u)) ∧ _ ∧ (∀ i, i < wv (fva (Fr Dp) j) → T.1 99 (fbs (Fr Dp) + slV Sf S' u + i) = CW G (fva (Fr Dp) j) i) ∧ (fi (S'.1 82 0) j = true → (∃ p, rowP Sf (S'.1 80 u) p ∧ Sf.1 66 p = 2) → 1 ≤ (fva (Fr Dp) j).2.1)
    rw [← v2, ← v3]
    refine ⟨z1, z2, z3, fun hf hp => ?_⟩
    rcases v4 hf with w | w
    · exact z4 w hp
    · rw [w]; exact hk
  · obtain ⟨c, k1, k2, k3⟩ := f4
    exact ⟨c, sm.2.2.2.2.2.2.trans k1, k2, k3⟩
  · show na = frb (Fr Dp) + lvc S' (arn S')
    rw [lve]
    exact y3
theorem Sim.wk (hR : Rws Sf) (hc : cn Sf ≤ 6000) (h : Sim M0 T0 Sf G D nb mk rg na ng P W Fr Dp M T) (hw : WkS Sf (fS (Fr Dp)) S') (hI : IvP Sf (fit (Fr Dp)) S' (fst' (Fr Dp)) (fhs (Fr Dp))) : Sim M0 T0 Sf G D nb mk rg na ng P W (updF Fr Dp (mkF S' (fρ (Fr Dp)) (fva (Fr Dp)) (fst' (Fr Dp)) (fov (Fr Dp)) (fhs (Fr Dp)) (fit (Fr Dp)) (fn (Fr Dp)) (fm (Fr Dp)) (fbs (Fr Dp)) (fph (Fr Dp)) (frb (Fr Dp)) (ftb (Fr Dp)) (fie (Fr Dp)))) Dp M T := by
  obtain ⟨fr, iv⟩ := h.fr
  obtain ⟨sm, hv⟩ := hw
  have ar : arn S' = arn (fS (Fr Dp)) := by unfold arn; rw [sm.2.2.1]
  have lve : lvc S' (arn S') = lvc (fS (Fr Dp)) (arn (fS (Fr Dp))) := by rw [lvc_pf sm.rr _ (Nat.le_refl _), ar]
  have hS := h
  obtain ⟨a1, ⟨a2, a3, a4⟩, a5, a6, a7, a8, a9, a10⟩ := h
  obtain ⟨y1, y2, y3, y4, y5, y6, y7⟩ := a6
  obtain ⟨f1, f2, f3, f4, f5, f6⟩ := fr
  refine Sim.set hR hc hS a1 (fun _ _ w => w) (fun _ _ => rfl) (Nat.le_refl _) ⟨fun u j hu => ?_, f2, RgO.pf f3 sm.rr (fun _ _ w => w) (fun _ _ => rfl) (fun _ _ => rfl), ?_, f5, f6⟩ hI rfl rfl rfl rfl ⟨y1, y2, ?_, y4, y5, y6, y7⟩ rfl rfl rfl (fun _ _ _ => rfl) (fun _ _ => rfl) (fun _ _ => rfl) (fun _ _ => rfl) a7 a8 a9
  · obtain ⟨v1, v2, v3, v4⟩ := hv u j hu
    obtain ⟨z1, z2, z3, z4⟩ := f1 u j v1
    show VT G nb rg na ng (fva (Fr Dp) j) (gty Sf (fρ (Fr Dp)) (S'.1 80 u)) ∧ _ ∧ (∀ i, i < wv (fva (Fr Dp) j) → T.1 99 (fbs (Fr Dp) + slV Sf S' u + i) = CW G (fva (Fr Dp) j) i) ∧ (fi (S'.1 82 0) j = true → (∃ p, rowP Sf (S'.1 80 u) p ∧ Sf.1 66 p = 2) → 1 ≤ (fva (Fr Dp) j).2.1)
    rw [← v2, ← v3]
    exact ⟨z1, z2, z3, fun hf hp => z4 (v4 hf) hp⟩
  · obtain ⟨c, k1, k2, k3⟩ := f4
    exact ⟨c, sm.2.2.2.2.2.2.trans k1, k2, k3⟩
  · show na = frb (Fr Dp) + lvc S' (arn S')
    rw [lve]
    exact y3
end SS6
