/-! both machines: STEPS: the last call changes -/
section SS0
variable {M0 T0 Sf S Sh : gSt} {G G' : GH} {D D' : Nat → (Nat → AV) × Nat} {nf d d' nb nb' mk mk' na na' ng ng' e bs ph bt rb tb ie en hb k q u s i j c t h P W Dp n m it n1 : Nat} {rg rg' : Nat → Nat} {ρ : Nat → Nat} {va : Nat → AV} {M M' T T' : gSt} {v : AV} {x a b cc ee op y z w : Int32} {st s0 st' : List Int32} {ov o0 ov' : List AV} {hs : List HD} {F : FRM} {Fr : Nat → FRM} {f : Nat → Int32} {jj : T5} {r1 : Int32} {l1 : Int64} {tg : List Nat}
/-- the last call changes, those below stay -/
theorem Sim.set (hR : Rws Sf) (hc : cn Sf ≤ 6000) (h : Sim M0 T0 Sf G D nb mk rg na ng P W Fr Dp M T) (hH : HpI G D' nb mk rg' na' ng' P W M' T') (ho : ∀ r s, ot rg na ng r s → ot rg' na' ng' r s) (hr : ∀ i, i < frb (Fr Dp) → rg' i = rg i) (hng : ng ≤ ng') (hF : FrO Sf G nb rg' na' ng' M' T' Dp F) (hI : IvP Sf (fit F) (fS F) (fst' F) (fhs F)) (e1 : fbs F = fbs (Fr Dp)) (e2 : fph F = fph (Fr Dp)) (e3 : frb F = frb (Fr Dp)) (e4 : ftb F = ftb (Fr Dp)) (hT : TpO Sf na' M' T' F) (h103 : M'.1 103 = M.1 103) (h102 : T'.1 102 = T.1 102) (h114 : M'.1 114 = M.1 114) (hM1 : ∀ k q, (k = 116 ∧ q < Dp) ∨ (117 ≤ k ∧ k ≤ 120 ∧ q < 20 * Dp) ∨ (k = 121 ∧ q < 12 * Dp) ∨ (k = 122 ∧ q < 40 * Dp) ∨ (124 ≤ k ∧ k ≤ 128 ∧ q < ftb (Fr Dp)) ∨ (110 ≤ k ∧ k ≤ 113 ∧ q < fph (Fr Dp)) → M'.1 k q = M.1 k q) (hT1 : ∀ q, q ≤ 17 * (Dp + 1) → T'.1 101 q = T.1 101 q) (hT3 : ∀ q, q < 4 * ftb (Fr Dp) → T'.1 103 q = T.1 103 q) (hT9 : ∀ q, q < fbs (Fr Dp) → T'.1 99 q = T.1 99 q) (hIn : InO M' T') (hCo : CoO M' T') (hPg : PgO M0 T0 M' T') : Sim M0 T0 Sf G D' nb mk rg' na' ng' P W (updF Fr Dp F) Dp M' T' := by
  obtain ⟨a1, ⟨a2, a3, a4⟩, a5, a6, a7, a8, a9, a10⟩ := h
  have F5 := a5
  obtain ⟨q1, q2, q3⟩ := a5
  have uN : updF Fr Dp F Dp = F := if_pos rfl
  have uE : ∀ e, ¬ e = Dp → updF Fr Dp F e = Fr e := fun e he => if_neg he
  refine ⟨hH, ⟨a2, by rw [h103]; exact a3, by rw [h102]; exact a4⟩, ⟨fun e he => ?_, fun e he => ?_, ?_⟩, by rw [uN]; exact hT, hIn, hCo, hPg, a10⟩
  · by_cases z : e = Dp
    · rw [z, uN]
      exact ⟨hF, hI⟩
    · rw [uE e z]
      obtain ⟨z1, z2⟩ := q1 e he
      obtain ⟨_, _, _, _, l5⟩ := F5.le (Dp - e) e (by omega)
      obtain ⟨l6, l7, l8, l9⟩ := l5 (by omega)
      refine ⟨?_, z2⟩
      obtain ⟨a, b, c, d, f, g1, g2, g3, g4⟩ := z1
      have hG : ∀ b, b ≤ nb → G b = G b := fun _ _ => rfl
      refine ⟨a.mo hG (Nat.le_refl _) ho (fun k s k1 k2 hs => hM1 k _ (by omega)) (fun q hq => hT9 q (by omega)), OpV.mo _ _ b hG (Nat.le_refl _) ho (fun k q k1 k2 hq => hM1 k _ (by omega)) (fun q hq => hT9 q (by omega)) (fun x v hx hv => ?_), c.mo (fun i hi => hr i (by omega)) hng ho (fun c hc => hM1 121 _ (by omega)) (fun w hw => hT1 _ (by omega)) (fun c w hw => RgE_12 hw), d.mo (fun k hk => hM1 122 _ (by omega)) (fun q hq => hT9 q (by omega)), HsO.mo _ f hG (Nat.le_refl _) ho (fun k s k1 k2 hs => hM1 k _ (by omega)) (fun k q k1 k2 hq => hM1 k _ (by omega)) (fun q hq => hT9 q (by omega)) (fun q hq => hT3 q (by omega)), by rw [hT1 _ (by omega)]; exact g1, by rw [hT1 _ (by omega)]; exact g2, by rw [hT1 _ (by omega)]; exact g3, by rw [hM1 116 _ (by omega)]; exact g4⟩
      rw [VTs.wi hR hc ((z2.2.2.2.1 x hx).imp id (fun w => w.1)) hv]
      exact Nat.le_refl _
  · obtain ⟨l1', l2', l3', l4', l5', l6'⟩ := q2 e (by omega)
    rw [uE e (by omega)]
    unfold LnO
    rw [h114, hT1 _ (by omega)]
    by_cases c3 : e + 1 = Dp
    · rw [c3, uN, e1, e2, e3, e4]
      rw [c3] at l1' l2' l3' l4' l5'
      exact ⟨l1', l2', l3', l4', l5', l6'⟩
    · rw [uE (e + 1) c3]
      exact ⟨l1', l2', l3', l4', l5', l6'⟩
  · by_cases c2 : 0 = Dp
    · rw [show updF Fr Dp F 0 = updF Fr Dp F Dp from congrArg _ c2, uN, e1, e2, e3, e4]
      rw [show Fr 0 = Fr Dp from congrArg Fr c2] at q3
      exact q3
    · rw [uE 0 c2]
      exact q3
end SS0
