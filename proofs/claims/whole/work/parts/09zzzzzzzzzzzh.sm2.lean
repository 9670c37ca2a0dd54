/-! both machines in step: the whole of it -/
def updF (Fr : Nat → FRM) (Dp : Nat) (F : FRM) : Nat → FRM := fun e => if e = Dp then F else Fr e
/-- one call and the one that it made -/
def LnO (Sf : gSt) (M T : gSt) (e : Nat) (F F' : FRM) : Prop := fbs F' = fbs F + 80 + wsl Sf (fst' F) ∧ fph F' = fph F + (fst' F).length ∧ frb F' = frb F + lvc (fS F) (arn (fS F)) ∧ ftb F' = ftb F + (fhs F).length ∧ M.1 114 (e + 1) = nI (fn F) ∧ T.1 101 (17 * (e + 2)) = nI (fm F)
/-- the last call: where the stacks end, what is next -/
def TpO (Sf : gSt) (na : Nat) (M T : gSt) (F : FRM) : Prop := M.1 109 0 = nI (fph F + (fst' F).length) ∧ T.1 100 0 = nI (fbs F + 80 + wsl Sf (fst' F)) ∧ na = frb F + lvc (fS F) (arn (fS F)) ∧ M.1 123 0 = nI (ftb F + (fhs F).length) ∧ T.1 104 0 = nI (ftb F + (fhs F).length) ∧ M.1 102 0 = nI (fn F) ∧ T.1 105 0 = nI (fm F)
/-- INPUTS -/
def InO (M T : gSt) : Prop := ∃ w, M.1 150 0 = nI w ∧ T.1 111 0 = nI w ∧ w ≤ 100 ∧ ∀ j, j < w → M.1 151 j = T.1 110 j
/-- what was counted and printed -/
def CoO (M T : gSt) : Prop := M.1 101 0 = T.1 108 0 ∧ (∃ p, M.1 104 0 = nI p ∧ T.1 113 0 = nI p ∧ p < 2 ^ 31 ∧ ∀ j, j < p → j < 300 → M.1 152 j = T.1 112 j) ∧ M.1 106 0 = T.1 109 0 ∧ M.1 107 0 = 0 ∧ T.1 121 0 = 0 ∧ (∀ q, q < 40 → M.1 115 q = T.1 101 (17 * (q + 1) + 2))
/-- the program stays -/
def PgO (M0 T0 M T : gSt) : Prop := (∀ k, k ≤ 99 → M.1 k = M0.1 k) ∧ M.2 = M0.2 ∧ (∀ k, k ≤ 98 → T.1 k = T0.1 k) ∧ T.2 = T0.2
def FsO (Sf : gSt) (G : GH) (nb : Nat) (rg : Nat → Nat) (na ng : Nat) (Fr : Nat → FRM) (Dp : Nat) (M T : gSt) : Prop := (∀ e, e ≤ Dp → FrO Sf G nb rg na ng M T e (Fr e) ∧ IvP Sf (fit (Fr e)) (fS (Fr e)) (fst' (Fr e)) (fhs (Fr e))) ∧ (∀ e, e < Dp → LnO Sf M T e (Fr e) (Fr (e + 1))) ∧ fbs (Fr 0) = 0 ∧ fph (Fr 0) = 0 ∧ frb (Fr 0) = 1 ∧ ftb (Fr 0) = 0
/-- both machines in step -/
def Sim (M0 T0 Sf : gSt) (G : GH) (D : Nat → (Nat → AV) × Nat) (nb mk : Nat) (rg : Nat → Nat) (na ng P W : Nat) (Fr : Nat → FRM) (Dp : Nat) (M T : gSt) : Prop := HpI G D nb mk rg na ng P W M T ∧ (Dp < 40 ∧ M.1 103 0 = nI (Dp + 1) ∧ T.1 102 0 = nI (Dp + 1)) ∧ FsO Sf G nb rg na ng Fr Dp M T ∧ TpO Sf na M T (Fr Dp) ∧ InO M T ∧ CoO M T ∧ PgO M0 T0 M T ∧ TiO Sf T0 G nb
section SM2
variable {M0 T0 Sf S Sh : gSt} {G G' : GH} {D D' : Nat → (Nat → AV) × Nat} {nb nb' mk mk' na na' ng ng' e bs ph bt rb tb ie en hb k q u s i j c t P W Dp n m it : Nat} {rg rg' : Nat → Nat} {ρ : Nat → Nat} {va : Nat → AV} {M M' T T' : gSt} {v : AV} {x : Int32} {st s0 st' : List Int32} {ov o0 ov' : List AV} {hs : List HD} {F : FRM} {Fr : Nat → FRM}
theorem wg_gty (hR : Rws Sf) (hc : cn Sf ≤ 6000) (hx : tV Sf x) : wg (gty Sf ρ x) = wS Sf x := by
  rcases hx.row with e | ⟨p, hp⟩
  · rw [e, gty_0 (by decide)]
    rfl
  · have e66 := row66 hR hp
    unfold wS isRo
    rw [if_neg (hp.np hc), hp.cl hc, hp.1, gty_p hR hp.2.1 hp.2.2 hc]
    unfold wg
    show (if (Sf.1 66 p).toNatClampNeg = 3 then 3 else 1) = _
    rcases e66 with w | w | w <;> rw [w] <;> decide
theorem VTs.wi (hR : Rws Sf) (hc : cn Sf ≤ 6000) (hx : x = -2 ∨ tV Sf x) (h : VTs Sf G nb rg na ng ρ v x) : wv v = wS Sf x := by
  unfold VTs at h
  by_cases c : x = -2
  · rw [if_pos c] at h
    rw [h, c]
    rfl
  · rw [if_neg c] at h
    rw [h.wi]
    exact wg_gty hR hc (hx.resolve_left c)
theorem RgE_12 {en c w : Nat} (h : RgE en S c w) : w < 12 := by
  rcases h with h | ⟨j, h1, h2, h3, h4, h5, h6⟩
  · omega
  · omega
/-- where the calls' stacks lie -/
theorem FsO.le (h : FsO Sf G nb rg na ng Fr Dp M T) : ∀ d e, e + d = Dp → fbs (Fr e) ≤ fbs (Fr Dp) ∧ fph (Fr e) ≤ fph (Fr Dp) ∧ frb (Fr e) ≤ frb (Fr Dp) ∧ ftb (Fr e) ≤ ftb (Fr Dp) ∧ (e < Dp → fbs (Fr e) + 80 + wsl Sf (fst' (Fr e)) ≤ fbs (Fr Dp) ∧ fph (Fr e) + (fst' (Fr e)).length ≤ fph (Fr Dp) ∧ frb (Fr e) + lvc (fS (Fr e)) (arn (fS (Fr e))) ≤ frb (Fr Dp) ∧ ftb (Fr e) + (fhs (Fr e)).length ≤ ftb (Fr Dp)) := by
  intro d
  induction d with
  | zero =>
    intro e he
    have : e = Dp := by omega
    subst this
    exact ⟨Nat.le_refl _, Nat.le_refl _, Nat.le_refl _, Nat.le_refl _, fun w => absurd w (by omega)⟩
  | succ d ih =>
    intro e he
    obtain ⟨i1, i2, i3, i4, _⟩ := ih (e + 1) (by omega)
    obtain ⟨l1, l2, l3, l4, _⟩ := h.2.1 e (by omega)
    refine ⟨by omega, by omega, by omega, by omega, fun _ => ⟨by omega, by omega, by omega, by omega⟩⟩
theorem lvc_8 (h : RwS en S) : lvc S (arn S) ≤ 8 ∧ arn S ≤ 40 := by
  obtain ⟨m, g, n, cd, po, ⟨a1, a2, a3, a4, a5, a6, a7, a8⟩, b1, b2, b3, b4, b5, b6, b7⟩ := h
  have en' : arn S = n := by unfold arn; rw [a7, nc (by omega)]
  rw [en']
  have key : ∀ q, q ≤ n → ∃ j, j ≤ m ∧ lvc S q ≤ j ∧ ∀ i, i < m → (po i < q ↔ i < j) := by
    intro q
    induction q with
    | zero => intro _; exact ⟨0, Nat.zero_le _, Nat.le_refl _, fun i _ => by omega⟩
    | succ q ih =>
      intro hq
      obtain ⟨j, j1, j2, j3⟩ := ih (by omega)
      rw [lvc]
      rcases b6 q (by omega) with e | ⟨j0, h1, h2⟩
      · refine ⟨j, j1, ?_, fun i hi => ?_⟩
        · rw [if_neg (fun w => w.1 (by rw [e]; decide))]
          omega
        · have : po i ≠ q := fun w => by
            have h1 := (b4 i hi).2
            rw [w, e] at h1
            exact nI_neg1 (by have := (b2 i hi).2.2.1; omega) h1
          have := j3 i hi
          omega
      · have e1 : j = j0 := by
          have n1 := j3 j0 h1
          by_cases c : j0 < j
          · have := n1.mpr c; omega
          · by_cases c2 : j < j0
            · have := b5 j j0 c2 h1
              have := (j3 j (by omega)).mp (by omega)
              omega
            · omega
        refine ⟨j0 + 1, by omega, by split <;> omega, fun i hi => ?_⟩
        constructor
        · intro w
          by_cases c : i ≤ j0
          · omega
          · have := b5 j0 i (by omega) hi
            omega
        · intro w
          by_cases c : i = j0
          · rw [c]; omega
          · have := b5 i j0 (by omega) h1
            omega
  obtain ⟨j, j1, j2, _⟩ := key n (Nat.le_refl _)
  omega
theorem FsO.bd (h : FsO Sf G nb rg na ng Fr Dp M T) : ∀ e, e ≤ Dp → fbs (Fr e) ≤ 530 * e ∧ fph (Fr e) ≤ 150 * e ∧ frb (Fr e) ≤ 1 + 8 * e ∧ ftb (Fr e) ≤ 20 * e := by
  intro e
  induction e with
  | zero =>
    intro _
    obtain ⟨_, _, z1, z2, z3, z4⟩ := h
    omega
  | succ e ih =>
    intro he
    obtain ⟨i1, i2, i3, i4⟩ := ih (by omega)
    obtain ⟨l1, l2, l3, l4, _⟩ := h.2.1 e (by omega)
    obtain ⟨_, r1, r2, r3, r4, r5, r6, r7, r8, r9⟩ := h.1 e (by omega)
    have lv := (lvc_8 r2).1
    omega
/-- a call goes on being as it was -/
theorem FrO.mo (hR : Rws Sf) (hc : cn Sf ≤ 6000) (h : FrO Sf G nb rg na ng M T e F) (hI : IvP Sf (fit F) (fS F) (fst' F) (fhs F)) (hG : ∀ b, b ≤ nb → G' b = G b) (hb : nb ≤ nb') (ho : ∀ r s, ot rg na ng r s → ot rg' na' ng' r s) (hr : ∀ i, i < frb F + lvc (fS F) (arn (fS F)) → rg' i = rg i) (hn : ng ≤ ng') (hM : ∀ k, 116 ≤ k → k ≤ 122 → M'.1 k = M.1 k) (hM2 : ∀ k q, 124 ≤ k → k ≤ 128 → q < ftb F + (fhs F).length → M'.1 k q = M.1 k q) (hMs : ∀ k q, 110 ≤ k → k ≤ 113 → q < fph F + (fst' F).length → M'.1 k q = M.1 k q) (hT1 : ∀ w, w < 17 → T'.1 101 (17 * (e + 1) + w) = T.1 101 (17 * (e + 1) + w)) (hT2 : ∀ q, q < 4 * (ftb F + (fhs F).length) → T'.1 103 q = T.1 103 q) (hTs : ∀ q, q < fbs F + 80 + wsl Sf (fst' F) → T'.1 99 q = T.1 99 q) : FrO Sf G' nb' rg' na' ng' M' T' e F := by
  obtain ⟨a, b, c, d, f, g1, g2, g3, g4⟩ := h
  refine ⟨a.mo hG hb ho (fun k s k1 k2 _ => by rw [hM k (by omega) (by omega)]) (fun q hq => hTs q (by omega)), OpV.mo _ _ b hG hb ho hMs hTs (fun x v hx hv => ?_), c.mo hr hn ho (fun c _ => by rw [hM 121 (by omega) (by omega)]) hT1 (fun c w hw => RgE_12 hw), d.mo (fun k _ => by rw [hM 122 (by omega) (by omega)]) (fun q hq => hTs q (by omega)), HsO.mo _ f hG hb ho (fun k s k1 k2 _ => by rw [hM k (by omega) (by omega)]) hM2 (fun q hq => hTs q (by omega)) hT2, by rw [hT1 1 (by omega)]; exact g1, by rw [hT1 3 (by omega)]; exact g2, by rw [hT1 4 (by omega)]; exact g3, by rw [hM 116 (by omega) (by omega)]; exact g4⟩
  have hx2 := hI.2.2.2.1 x hx
  rw [VTs.wi hR hc (hx2.imp id (fun w => w.1)) hv]
  exact Nat.le_refl _
theorem OpV.len : ∀ (st : List Int32) (ov : List AV), OpV Sf G nb rg na ng ρ M T ph bt st ov → ov.length = st.length := by
  intro st
  induction st with
  | nil =>
    intro ov h
    cases ov with
    | nil => rfl
    | cons v ov => exact absurd h (fun w => w)
  | cons x st ih =>
    intro ov h
    cases ov with
    | nil => exact absurd h (fun w => w)
    | cons v ov => rw [List.length_cons, List.length_cons, ih ov h.2.2.2]
/-- the values below -/
theorem OpV.drop : ∀ (st s0 : List Int32) (ov : List AV), OpV Sf G nb rg na ng ρ M T ph bt (st ++ s0) ov → ∃ o1 o0, ov = o1 ++ o0 ∧ o1.length = st.length ∧ OpV Sf G nb rg na ng ρ M T ph bt s0 o0 := by
  intro st
  induction st with
  | nil => intro s0 ov h; exact ⟨[], ov, rfl, rfl, h⟩
  | cons x st ih =>
    intro s0 ov h
    cases ov with
    | nil => exact absurd h (fun w => w)
    | cons v ov =>
      obtain ⟨o1, o0, e1, e2, e3⟩ := ih s0 ov h.2.2.2
      exact ⟨v :: o1, o0, by rw [e1]; rfl, by rw [List.length_cons, List.length_cons, e2], e3⟩
/-- an instruction of an EXPR: some values less on the stack, others in their place -/
theorem Sim.ex (hR : Rws Sf) (hc : cn Sf ≤ 6000) (h : Sim M0 T0 Sf G D nb mk rg na ng P W Fr Dp M T) (hH : HpI G' D' nb' mk' rg na ng P W M' T') (hG : ∀ b, b ≤ nb → G' b = G b) (hb : nb ≤ nb') (hTi : TiO Sf T0 G' nb') (hst : fst' (Fr Dp) = st ++ s0) (hI : IvP Sf (fit (Fr Dp)) (fS (Fr Dp)) st' (fhs (Fr Dp))) (hMo : ∀ k, ¬ (k = 102 ∨ k = 105 ∨ (109 ≤ k ∧ k ≤ 113) ∨ (130 ≤ k ∧ k ≤ 149) ∨ k = 150 ∨ k = 151) → M'.1 k = M.1 k) (hM2 : M'.2 = M.2) (hMs : ∀ k q, 110 ≤ k → k ≤ 113 → q < fph (Fr Dp) + s0.length → M'.1 k q = M.1 k q) (hTo : ∀ k, ¬ (k = 99 ∨ k = 100 ∨ k = 105 ∨ k = 110 ∨ k = 111 ∨ (114 ≤ k ∧ k ≤ 127)) → T'.1 k = T.1 k) (hT21 : T'.1 121 = T.1 121) (hT2 : T'.2 = T.2) (hTs : ∀ q, q < fbs (Fr Dp) + 80 + wsl Sf s0 → T'.1 99 q = T.1 99 q) (hIn : InO M' T') (hOp : ∀ o0, OpV Sf G nb rg na ng (fρ (Fr Dp)) M T (fph (Fr Dp)) (fbs (Fr Dp) + 80) s0 o0 → OpV Sf G' nb' rg na ng (fρ (Fr Dp)) M' T' (fph (Fr Dp)) (fbs (Fr Dp) + 80) s0 o0 → ∃ ov', OpV Sf G' nb' rg na ng (fρ (Fr Dp)) M' T' (fph (Fr Dp)) (fbs (Fr Dp) + 80) st' ov') (h109 : M'.1 109 0 = nI (fph (Fr Dp) + st'.length)) (h100 : T'.1 100 0 = nI (fbs (Fr Dp) + 80 + wsl Sf st')) (h102 : M'.1 102 0 = nI n) (h105 : T'.1 105 0 = nI m) : ∃ ov', Sim M0 T0 Sf G' D' nb' mk' rg na ng P W (updF Fr Dp (mkF (fS (Fr Dp)) (fρ (Fr Dp)) (fva (Fr Dp)) st' ov' (fhs (Fr Dp)) (fit (Fr Dp)) n m (fbs (Fr Dp)) (fph (Fr Dp)) (frb (Fr Dp)) (ftb (Fr Dp)) (fie (Fr Dp)))) Dp M' T' := by
  obtain ⟨a1, ⟨a2, a3, a4⟩, a5, a6, a7, a8, a9, a10⟩ := h
  obtain ⟨f1, f2, f3⟩ := a5
  obtain ⟨t1, t2, t3, t4, t5, t6, t7⟩ := a6
  have F5 : FsO Sf G nb rg na ng Fr Dp M T := ⟨f1, f2, f3⟩
  obtain ⟨fr, iv⟩ := f1 Dp (Nat.le_refl _)
  have fr0 := fr
  obtain ⟨v1, v2, v3, v4, v5, v6⟩ := fr
  rw [hst] at v2
  obtain ⟨o1, o0, e1, e2, e3⟩ := OpV.drop st s0 _ v2
  have tvs : ∀ x, x ∈ s0 → x = -2 ∨ tV Sf x := fun x hx => (iv.2.2.2.1 x (by rw [hst]; exact List.mem_append_right _ hx)).imp id (fun w => w.1)
  have ww : ∀ x v, x ∈ s0 → VTs Sf G nb rg na ng (fρ (Fr Dp)) v x → wv v ≤ wS Sf x := fun x v hx hv => by rw [VTs.wi hR hc (tvs x hx) hv]; exact Nat.le_refl _
  have e4 : OpV Sf G' nb' rg na ng (fρ (Fr Dp)) M' T' (fph (Fr Dp)) (fbs (Fr Dp) + 80) s0 o0 := OpV.mo s0 o0 e3 hG hb (fun _ _ w => w) hMs hTs ww
  obtain ⟨ov', op'⟩ := hOp o0 e3 e4
  refine ⟨ov', hH, ⟨a2, by rw [hMo 103 (by omega)]; exact a3, by rw [hTo 102 (by omega)]; exact a4⟩, ?_, ?_, hIn, ?_, ?_, hTi⟩
  · have ud : ∀ e, e ≠ Dp → updF Fr Dp (mkF (fS (Fr Dp)) (fρ (Fr Dp)) (fva (Fr Dp)) st' ov' (fhs (Fr Dp)) (fit (Fr Dp)) n m (fbs (Fr Dp)) (fph (Fr Dp)) (frb (Fr Dp)) (ftb (Fr Dp)) (fie (Fr Dp))) e = Fr e := fun e he => if_neg he
    have uD : updF Fr Dp (mkF (fS (Fr Dp)) (fρ (Fr Dp)) (fva (Fr Dp)) st' ov' (fhs (Fr Dp)) (fit (Fr Dp)) n m (fbs (Fr Dp)) (fph (Fr Dp)) (frb (Fr Dp)) (ftb (Fr Dp)) (fie (Fr Dp))) Dp = mkF (fS (Fr Dp)) (fρ (Fr Dp)) (fva (Fr Dp)) st' ov' (fhs (Fr Dp)) (fit (Fr Dp)) n m (fbs (Fr Dp)) (fph (Fr Dp)) (frb (Fr Dp)) (ftb (Fr Dp)) (fie (Fr Dp)) := if_pos rfl
    refine ⟨fun e he => ?_, fun e he => ?_, ?_⟩
    · by_cases c : e = Dp
      · subst c
        rw [uD]
        refine ⟨⟨?_, op', ?_, ?_, ?_, ?_⟩, hI⟩
        · exact v1.mo hG hb (fun _ _ w => w) (fun k s k1 k2 _ => by rw [hMo k (by omega)]) (fun q (hq : q < fbs (Fr e) + 60) => hTs q (by omega))
        · exact v3.mo (fun _ _ => rfl) (Nat.le_refl _) (fun _ _ w => w) (fun c _ => by rw [hMo 121 (by omega)]) (fun w _ => by rw [hTo 101 (by omega)]) (fun c w hw => RgE_12 hw)
        · exact v4.mo (fun k _ => by rw [hMo 122 (by omega)]) (fun q (hq : q < fbs (Fr e) + 80) => hTs q (by omega))
        · exact HsO.mo _ v5 hG hb (fun _ _ w => w) (fun k s k1 k2 _ => by rw [hMo k (by omega)]) (fun k q k1 k2 _ => by rw [hMo k (by omega)]) (fun q (hq : q < fbs (Fr e) + 60) => hTs q (by omega)) (fun q _ => by rw [hTo 103 (by omega)])
        · rw [hTo 101 (by omega), hMo 116 (by omega)]
          exact v6
      · rw [ud e c]
        obtain ⟨g1, g2⟩ := f1 e he
        obtain ⟨_, _, _, _, l5⟩ := F5.le (Dp - e) e (by omega)
        obtain ⟨l6, l7, l8, l9⟩ := l5 (by omega)
        exact ⟨g1.mo hR hc g2 hG hb (fun _ _ w => w) (fun _ _ => rfl) (Nat.le_refl _) (fun k k1 k2 => hMo k (by omega)) (fun k q k1 k2 _ => by rw [hMo k (by omega)]) (fun k q k1 k2 hq => hMs k q k1 k2 (by omega)) (fun w _ => by rw [hTo 101 (by omega)]) (fun q _ => by rw [hTo 103 (by omega)]) (fun q hq => hTs q (by omega)), g2⟩
    · rw [ud e (by omega)]
      obtain ⟨l1, l2, l3, l4, l5, l6⟩ := f2 e he
      unfold LnO
      rw [hMo 114 (by omega), hTo 101 (by omega)]
      by_cases c : e + 1 = Dp
      · rw [c, uD]
        rw [c] at l1 l2 l3 l4 l5
        exact ⟨l1, l2, l3, l4, l5, l6⟩
      · rw [ud _ c]
        exact ⟨l1, l2, l3, l4, l5, l6⟩
    · by_cases c : 0 = Dp
      · rw [← c] at uD ⊢
        rw [uD]
        exact f3
      · rw [ud 0 c]
        exact f3
  · unfold updF
    rw [if_pos rfl]
    exact ⟨h109, h100, t3, by rw [hMo 123 (by omega)]; exact t4, by rw [hTo 104 (by omega)]; exact t5, h102, h105⟩
  · obtain ⟨c1, ⟨p, c2, c3, c4, c5⟩, c6, c7, c8, c9⟩ := a8
    exact ⟨by rw [hMo 101 (by omega), hTo 108 (by omega)]; exact c1, ⟨p, by rw [hMo 104 (by omega)]; exact c2, by rw [hTo 113 (by omega)]; exact c3, c4, by rw [hMo 152 (by omega), hTo 112 (by omega)]; exact c5⟩, by rw [hMo 106 (by omega), hTo 109 (by omega)]; exact c6, by rw [hMo 107 (by omega)]; exact c7, by rw [hT21]; exact c8, fun q hq => by rw [hMo 115 (by omega), hTo 101 (by omega)]; exact c9 q hq⟩
  · obtain ⟨p1, p2, p3, p4⟩ := a9
    exact ⟨fun k hk => by rw [hMo k (by omega)]; exact p1 k hk, by rw [hM2]; exact p2, fun k hk => by rw [hTo k (by omega)]; exact p3 k hk, by rw [hT2]; exact p4⟩
end SM2
