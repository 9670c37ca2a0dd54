/-! both heaps: a place read, a place written -/
/-- a place has another value -/
def upD (D : Nat → (Nat → AV) × Nat) (b p : Nat) (v : AV) (tg : Nat) : Nat → (Nat → AV) × Nat := fun c => if c = b then ((fun q => if q = p then v else (D b).1 q), tg) else D c
section GH2
variable {G G' : GH} {D D' : Nat → (Nat → AV) × Nat} {M M' T T' : gSt} {nb nb' mk na na' ng ng' P W b c i j p q r s t k n m tg : Nat} {rg rg' : Nat → Nat} {v : AV} {g : List Nat} {x y z w : Int32} {ch : Nat → List Nat}
theorem upD_n (h : ¬ c = b) : upD D b p v tg c = D c := if_neg h
theorem upD_b : upD D b p v tg b = ((fun q => if q = p then v else (D b).1 q), tg) := if_pos rfl
theorem upD_v : (upD D b p v tg b).1 p = v := by rw [upD_b]; exact if_pos rfl
theorem upD_o (h : ¬ q = p) : (upD D b p v tg b).1 q = (D b).1 q := by rw [upD_b]; exact if_neg h
theorem gd_mem {l : List Nat} (h : p < l.length) : l.getD p 0 ∈ l := by
  rw [List.getD_eq_getElem?_getD, List.getElem?_eq_getElem h]
  exact List.getElem_mem h
theorem gd_inj {l : List Nat} (hn : l.Nodup) (hp : p < l.length) (hq : q < l.length) (h : l.getD p 0 = l.getD q 0) : p = q := by
  rw [List.getD_eq_getElem?_getD, List.getElem?_eq_getElem hp, List.getD_eq_getElem?_getD, List.getElem?_eq_getElem hq] at h
  have h' : l[p] = l[q] := h
  have pw := List.pairwise_iff_getElem.mp hn
  rcases Nat.lt_trichotomy p q with w | w | w
  · exact absurd h' (pw p q hp hq w)
  · exact w
  · exact absurd h'.symm (pw q p hq hp w)
theorem nI_inj31 {a b : Nat} (ha : a < 2 ^ 31) (hb : b < 2 ^ 31) (h : nI a = nI b) : a = b := by
  have := congrArg Int32.toInt h
  rw [nI_toInt ha, nI_toInt hb] at this
  omega
theorem nI_n0 (ha : 1 ≤ b) (hb : b < 2 ^ 31) : ¬ nI b = 0 := fun w => by
  have := nI_inj31 (a := b) (b := 0) hb (by omega) w
  omega
theorem nI_neg1 (hb : b < 2 ^ 31) : ¬ (-1 : Int32) = nI b := fun w => by
  have := congrArg Int32.toInt w
  rw [nI_toInt hb] at this
  have e : (-1 : Int32).toInt = -1 := by decide
  rw [e] at this
  omega
/-- the object b lives: its index; a place of it, on both sides -/
theorem HpI.at (h : HpI G D nb mk rg na ng P W M T) (b1 : 1 ≤ b) (b2 : b ≤ nb) (hi : i < na) (he : rg i = gHm G b) (hp : p < gPl G b) : ∃ l : List Nat, (gOb G b < 4096 ∧ M.1 138 (gOb G b) = nI b ∧ M.1 140 (gOb G b) = nI l.length ∧ l.length = gPl G b ∧ chn (M.1 149) (M.1 139 (gOb G b)) l ∧ ¬ M.1 148 (l.getD p 0) = 0 ∧ RV G ((D b).1 p) (M.1 144 (l.getD p 0)) (M.1 145 (l.getD p 0)) (M.1 146 (l.getD p 0)) (M.1 147 (l.getD p 0)) ∧ (¬ gUn G b = 0 → M.1 142 (gOb G b) = nI (D b).2)) ∧ ∀ (M' T' : gSt) (v : AV) (tg : Nat), VT G nb rg na ng v (gTy G b (if gUn G b = 0 then p else tg)) → (¬ gUn G b = 0 → tg < 8) → (∀ k, (129 ≤ k ∧ k ≤ 143 ∧ k ≠ 142) ∨ k = 149 ∨ k = 105 → M'.1 k = M.1 k) → (∀ q, q ≠ gOb G b → M'.1 142 q = M.1 142 q) → (¬ gUn G b = 0 → M'.1 142 (gOb G b) = nI tg) → (∀ k c, 144 ≤ k → k ≤ 148 → c ≠ l.getD p 0 → M'.1 k c = M.1 k c) → ¬ M'.1 148 (l.getD p 0) = 0 → RV G v (M'.1 144 (l.getD p 0)) (M'.1 145 (l.getD p 0)) (M'.1 146 (l.getD p 0)) (M'.1 147 (l.getD p 0)) → (∀ k, 116 ≤ k → k ≤ 127 → T'.1 k = T.1 k) → (∀ k a, k = 114 ∨ k = 115 → ¬ (gAd G b + gWo G b p ≤ a ∧ a < gAd G b + gWo G b p + wv v) → (gUn G b = 0 ∨ ¬ a = gAd G b) → T'.1 k a = T.1 k a) → (¬ gUn G b = 0 → T'.1 114 (gAd G b) = nI (tg + 1) ∧ ¬ T'.1 115 (gAd G b) = 0) → (∀ w, w < wv v → T'.1 114 (gAd G b + gWo G b p + w) = CW G v w ∧ ¬ T'.1 115 (gAd G b + gWo G b p + w) = 0) → HpI G (upD D b p v tg) nb mk rg na ng P W M' T' := by
  obtain ⟨h1, h2, h3, ⟨ch, fr, h4, h5, h6⟩, h7, h8⟩ := h
  obtain ⟨a1, a2, a3, a4, a5, a6⟩ := h6 b i b1 b2 hi he
  have nbl : nb < 2 ^ 31 := by omega
  have b0 : ¬ M.1 138 (gOb G b) = 0 := by rw [a2]; exact nI_n0 b1 (by omega)
  obtain ⟨s1, s2, s3, s4, _⟩ := h4.1 (gOb G b) a1 b0
  refine ⟨ch (gOb G b), ⟨a1, a2, s2, a4, s1, (a6 p hp).1, (a6 p hp).2, a5⟩, ?_⟩
  intro M' T' v tg hv htg hM hq142 h142 hcell hgiv hRV hT hTw hTt hTv
  obtain ⟨o1, o2⟩ := h7 b i b1 b2 hi he
  obtain ⟨o1a, o1b, o1c, o1d, o1e, o1f⟩ := o1
  obtain ⟨o2a, o2b, o2c, o2d, o2e, o2f⟩ := o2
  have e116 := hT 116 (by omega) (by omega)
  have en : ∀ j, pgN T' P j = pgN T P j := fun j => by unfold pgN; rw [e116]
  have eu : pgU T' P = pgU T P := by unfold pgU; rw [e116]
  -- the place and its words lie in the object
  have inO : gAd G b + gWo G b p + wv v ≤ gAd G b + gSz G b := by
    rw [hv.wi]
    by_cases c : gUn G b = 0
    · rw [if_pos c]
      have := (o2d c).1 p hp
      omega
    · rw [if_neg c]
      obtain ⟨u1, u2, u3, u4⟩ := o2e c
      have := u4 tg (htg c)
      have : p = 0 := by omega
      subst this
      omega
  have tgO : ¬ gUn G b = 0 → gAd G b < gAd G b + gSz G b := fun _ => by omega
  refine ⟨?_, ?_, ?_, ⟨ch, fr, Hr_st (fun k hk => hM k (by omega)) h4, fun j hj => ?_, fun b' i' c1 c2 c3 c4 => ?_⟩, fun b' i' c1 c2 c3 c4 => ⟨?_, ?_⟩, h8⟩
  · rw [hM 129 (by omega), hT 122 (by omega) (by omega)]
    exact h1
  · unfold Pgs at h2 ⊢
    rw [hM 130 (by omega), hM 131 (by omega), hM 132 (by omega), hT 117 (by omega) (by omega), hT 118 (by omega) (by omega), hT 119 (by omega) (by omega), eu, e116]
    exact h2
  · rw [hM 137 (by omega), hM 105 (by omega), hT 120 (by omega) (by omega)]
    exact h3
  · have := h5 j hj
    unfold RwJ usR at this ⊢
    rw [hM 133 (by omega), hM 134 (by omega), hM 135 (by omega), hM 136 (by omega), hM 138 (by omega), hM 141 (by omega), hT 123 (by omega) (by omega), hT 124 (by omega) (by omega), hT 125 (by omega) (by omega), hT 126 (by omega) (by omega), hT 127 (by omega) (by omega), en, e116, cR_st (hM 138 (by omega)) (hM 141 (by omega))]
    exact this
  · obtain ⟨r1, r2, r3, r4, r5, r6⟩ := h6 b' i' c1 c2 c3 c4
    have b0' : ¬ M.1 138 (gOb G b') = 0 := by rw [r2]; exact nI_n0 c1 (by omega)
    by_cases e : b' = b
    · subst e
      refine ⟨r1, by rw [hM 138 (by omega)]; exact r2, by rw [hM 141 (by omega)]; exact r3, r4, fun u => by rw [h142 u, upD_b], fun q hq => ?_⟩
      by_cases eq : q = p
      · subst eq
        rw [upD_v]
        exact ⟨hgiv, hRV⟩
      · have nc : (ch (gOb G b')).getD q 0 ≠ (ch (gOb G b')).getD p 0 := fun w => eq (gd_inj s4 (by omega) (by omega) w)
        rw [upD_o eq, hcell 148 _ (by omega) (by omega) nc, hcell 144 _ (by omega) (by omega) nc, hcell 145 _ (by omega) (by omega) nc, hcell 146 _ (by omega) (by omega) nc, hcell 147 _ (by omega) (by omega) nc]
        exact r6 q hq
    · have no : gOb G b' ≠ gOb G b := fun w => e (by
        rw [w, a2] at r2
        exact (nI_inj31 (by omega) (by omega) r2).symm)
      rw [show RhO G (upD D b p v tg) M' ch b' i' = (gOb G b' < 4096 ∧ M'.1 138 (gOb G b') = nI b' ∧ M'.1 141 (gOb G b') = nI i' ∧ (ch (gOb G b')).length = gPl G b' ∧ (¬ gUn G b' = 0 → M'.1 142 (gOb G b') = nI (upD D b p v tg b').2) ∧ ∀ p', p' < gPl G b' → ¬ M'.1 148 ((ch (gOb G b')).getD p' 0) = 0 ∧ RV G ((upD D b p v tg b').1 p') (M'.1 144 ((ch (gOb G b')).getD p' 0)) (M'.1 145 ((ch (gOb G b')).getD p' 0)) (M'.1 146 ((ch (gOb G b')).getD p' 0)) (M'.1 147 ((ch (gOb G b')).getD p' 0))) from rfl]
      rw [upD_n e]
      refine ⟨r1, by rw [hM 138 (by omega)]; exact r2, by rw [hM 141 (by omega)]; exact r3, r4, fun u => by rw [hq142 _ no]; exact r5 u, fun q hq => ?_⟩
      have nc : (ch (gOb G b')).getD q 0 ≠ (ch (gOb G b)).getD p 0 := fun w => by
        have m1 := gd_mem (l := ch (gOb G b')) (p := q) (by omega)
        have m2 := gd_mem (l := ch (gOb G b)) (p := p) (by omega)
        rw [w] at m1
        exact h4.2.2.2.1 _ _ r1 a1 b0' b0 no _ m1 m2
      rw [hcell 148 _ (by omega) (by omega) nc, hcell 144 _ (by omega) (by omega) nc, hcell 145 _ (by omega) (by omega) nc, hcell 146 _ (by omega) (by omega) nc, hcell 147 _ (by omega) (by omega) nc]
      exact r6 q hq
  · obtain ⟨r1, r2, r3, r4, r5, r6⟩ := (h7 b' i' c1 c2 c3 c4).1
    obtain ⟨q1, q2, q3, q4, q5, q6⟩ := (h7 b' i' c1 c2 c3 c4).2
    by_cases e : b' = b
    · subst e
      refine ⟨r1, r2, by rw [e116]; exact r3, fun u => by rw [upD_b]; exact hTt u, fun q hq w hw => ?_, by rw [hT 126 (by omega) (by omega), hT 127 (by omega) (by omega)]; exact r6⟩
      by_cases eq : q = p
      · subst eq
        rw [upD_v] at hw ⊢
        exact hTv w hw
      · rw [upD_o eq] at hw ⊢
        have un : gUn G b' = 0 := Decidable.byContradiction fun u => by
          have := (o2e u).1
          omega
        have hvq := o2f q hq
        rw [if_pos un] at hvq
        have wq := hvq.wi
        have wp := hv.wi
        rw [if_pos un] at wp
        have dis : gWo G b' q + w < gWo G b' p ∨ gWo G b' p + wv v ≤ gWo G b' q + w := by
          rw [wq] at hw
          rcases Nat.lt_or_ge q p with lt | ge
          · have := (o2d un).2 q p lt hp
            omega
          · have := (o2d un).2 p q (by omega) hq
            omega
        rw [hTw 114 _ (Or.inl rfl) (by omega) (Or.inl un), hTw 115 _ (Or.inr rfl) (by omega) (Or.inl un)]
        exact r5 q hq w hw
    · have dj := h8 b' b c1 c2 b1 b2 e ⟨i', c3, c4⟩ ⟨i, hi, he⟩
      have inB : ∀ a, gAd G b' ≤ a → a < gAd G b' + gSz G b' → ∀ k, k = 114 ∨ k = 115 → T'.1 k a = T.1 k a := fun a a1' a2' k hk => hTw k a hk (by omega) (by
        by_cases u : gUn G b = 0
        · exact Or.inl u
        · exact Or.inr (by omega))
      unfold ChO
      rw [upD_n e]
      refine ⟨r1, r2, by rw [e116]; exact r3, fun u => ?_, fun q hq w hw => ?_, by rw [hT 126 (by omega) (by omega), hT 127 (by omega) (by omega)]; exact r6⟩
      · rw [inB _ (by omega) (by omega) 114 (Or.inl rfl), inB _ (by omega) (by omega) 115 (Or.inr rfl)]
        exact r4 u
      · have inW : gWo G b' q + w < gSz G b' := by
          have hvq := (q6 q hq).wi
          rw [hvq] at hw
          by_cases u : gUn G b' = 0
          · rw [if_pos u] at hw
            have := (q4 u).1 q hq
            omega
          · rw [if_neg u] at hw
            obtain ⟨u1, u2, u3, u4⟩ := q5 u
            have := u4 _ u3
            have : q = 0 := by omega
            subst this
            omega
        rw [inB _ (by omega) (by omega) 114 (Or.inl rfl), inB _ (by omega) (by omega) 115 (Or.inr rfl)]
        exact r5 q hq w hw
  · obtain ⟨q1, q2, q3, q4, q5, q6⟩ := (h7 b' i' c1 c2 c3 c4).2
    by_cases e : b' = b
    · subst e
      refine ⟨q1, q2, q3, q4, fun u => ?_, fun q hq => ?_⟩
      · obtain ⟨u1, u2, u3, u4⟩ := q5 u
        rw [upD_b]
        exact ⟨u1, u2, htg u, u4⟩
      · by_cases eq : q = p
        · subst eq
          rw [upD_v, upD_b]
          exact hv
        · have un : gUn G b' = 0 := Decidable.byContradiction fun u => by
            have := (o2e u).1
            omega
          rw [upD_o eq, if_pos un]
          have := q6 q hq
          rw [if_pos un] at this
          exact this
    · unfold ShO
      rw [upD_n e]
      exact ⟨q1, q2, q3, q4, q5, q6⟩
end GH2
