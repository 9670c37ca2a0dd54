/-! values and objects between the two machines -/
/-- a value: number or place, birth, 0 or the size of a ROW and one more -/
abbrev AV : Type := Int32 × Nat × Nat
/-- an object by its birth: slot, address, home, places, words, union?, title, word of a place, type of a place -/
abbrev GO : Type := Nat × Nat × Nat × Nat × Nat × Nat × List Nat × (Nat → Nat) × (Nat → List Nat)
abbrev GH : Type := Nat → GO
def gOb (G : GH) (b : Nat) : Nat := (G b).1
def gAd (G : GH) (b : Nat) : Nat := (G b).2.1
def gHm (G : GH) (b : Nat) : Nat := (G b).2.2.1
def gPl (G : GH) (b : Nat) : Nat := (G b).2.2.2.1
def gSz (G : GH) (b : Nat) : Nat := (G b).2.2.2.2.1
def gUn (G : GH) (b : Nat) : Nat := (G b).2.2.2.2.2.1
def gTi (G : GH) (b : Nat) : List Nat := (G b).2.2.2.2.2.2.1
def gWo (G : GH) (b : Nat) : Nat → Nat := (G b).2.2.2.2.2.2.2.1
def gTy (G : GH) (b : Nat) : Nat → List Nat := (G b).2.2.2.2.2.2.2.2
/-- the ids of regions: by index, how many there are, the next one -/
def al (rg : Nat → Nat) (na s : Nat) : Prop := ∃ i, i < na ∧ rg i = s
def ot (rg : Nat → Nat) (na ng r s : Nat) : Prop := r ≤ s ∧ s < ng ∧ (al rg na s → al rg na r)
/-- what a pointer points to -/
def tgO (G : GH) (b : Nat) (x : Int32) (tg : List Nat) : Prop := if tg.headD 0 = 1 then x = 0 ∧ tg = gTi G b else ∃ p, x = nI p ∧ p < gPl G b ∧ gUn G b = 0 ∧ tg = 0 :: gTy G b p
/-- a value has a type -/
def VT (G : GH) (nb : Nat) (rg : Nat → Nat) (na ng : Nat) (v : AV) (g : List Nat) : Prop :=
  if g.headD 0 = 0 then v.2.1 = 0 ∧ v.2.2 = 0
  else if g.headD 0 = 3 then v.2.2 = 1 ∨ (1 < v.2.2 ∧ 1 ≤ v.2.1 ∧ v.2.1 ≤ nb ∧ gPl G v.2.1 + 1 = v.2.2 ∧ gUn G v.2.1 = 0 ∧ gTi G v.2.1 = [] ∧ ot rg na ng (gHm G v.2.1) (g.getD 1 0) ∧ ∀ p, p < gPl G v.2.1 → g.drop 2 = 0 :: gTy G v.2.1 p)
  else (g.headD 0 = 2 ∧ v = (0, 0, 0)) ∨ (v.2.2 = 0 ∧ 1 ≤ v.2.1 ∧ v.2.1 ≤ nb ∧ ot rg na ng (gHm G v.2.1) (g.getD 1 0) ∧ tgO G v.2.1 v.1 (g.drop 2))
/-- the reference's picture of a value -/
def RV (G : GH) (v : AV) (x y z w : Int32) : Prop := x = v.1 ∧ (if v.2.2 = 0 then (if v.2.1 = 0 then y = -1 else y = nI (gOb G v.2.1) ∧ z = nI v.2.1) else w = nI (v.2.2 - 1) ∧ (1 < v.2.2 → y = nI (gOb G v.2.1) ∧ z = nI v.2.1))
/-- the class's words of a value -/
def CW (G : GH) (v : AV) (i : Nat) : Int32 := if v.2.2 = 0 then (if v.2.1 = 0 then v.1 else nI (gAd G v.2.1 + (if gUn G v.2.1 = 0 then gWo G v.2.1 v.1.toNatClampNeg else 0) + 1)) else if i = 0 then (if v.2.2 = 1 then nI v.2.1 else nI (gAd G v.2.1 + 1)) else if i = 1 then v.1 else nI (v.2.2 - 1)
def wv (v : AV) : Nat := if v.2.2 = 0 then 1 else 3
def wg (g : List Nat) : Nat := if g.headD 0 = 3 then 3 else 1
/-- a type with its REGIONS -/
def gTr (S : gSt) (ρ : Nat → Nat) : Nat → Int32 → List Nat
  | 0, _ => [0]
  | f + 1, x => if x ≤ 0 then [0] else (tf S 66 x).toNatClampNeg :: ρ (tf S 67 x).toNatClampNeg :: (if tf S 69 x < 0 then 0 :: gTr S ρ f (tf S 68 x) else 1 :: (tf S 69 x).toNatClampNeg :: (List.range (S.1 15 (tf S 69 x).toNatClampNeg).toNatClampNeg).map (fun k => ρ (ptOf (tf S 70 x) (nI k)).toNatClampNeg))
/-- the birth of a value is one that there was -/
def bOk (nb : Nat) (v : AV) : Prop := v.2.2 = 1 ∨ v.2.1 ≤ nb
section GH0
variable {G G' : GH} {nb nb' na na' ng ng' b c i j p q r s t k n m : Nat} {rg rg' : Nat → Nat} {v : AV} {g : List Nat} {x y z w : Int32}
theorem ot.rf (h : r < ng) : ot rg na ng r r := ⟨Nat.le_refl _, h, fun w => w⟩
theorem ot.tr (h : ot rg na ng r s) (h2 : ot rg na ng s t) : ot rg na ng r t := ⟨Nat.le_trans h.1 h2.1, h2.2.1, fun w => h.2.2 (h2.2.2 w)⟩
/-- regions end -/
theorem ot.cl (h : ot rg na ng r s) (hA : ∀ i j, i < j → j < na → rg i < rg j) (hn : na' ≤ na) : ot rg na' ng r s := by
  refine ⟨h.1, h.2.1, fun ⟨i, hi, e⟩ => ?_⟩
  obtain ⟨j, hj, e2⟩ := h.2.2 ⟨i, by omega, e⟩
  refine ⟨j, ?_, e2⟩
  by_cases c : j < na'
  · exact c
  · exfalso
    have h1 := hA i j (by omega) hj
    have h2 := h.1
    omega
/-- a region begins -/
theorem ot.op (h : ot rg na ng r s) (hr : ∀ i, i < na → rg' i = rg i) (hn : rg' na = ng) (hg : ng < ng') : ot rg' (na + 1) ng' r s := by
  refine ⟨h.1, by have := h.2.1; omega, fun ⟨i, hi, e⟩ => ?_⟩
  have e0 : i < na := by
    by_cases c : i = na
    · exfalso
      have := h.2.1
      rw [c, hn] at e
      omega
    · omega
  rw [hr i e0] at e
  obtain ⟨j, hj, e2⟩ := h.2.2 ⟨i, e0, e⟩
  exact ⟨j, by omega, by rw [hr j hj]; exact e2⟩
theorem G_eq (h : G' b = G b) : gOb G' b = gOb G b ∧ gAd G' b = gAd G b ∧ gHm G' b = gHm G b ∧ gPl G' b = gPl G b ∧ gSz G' b = gSz G b ∧ gUn G' b = gUn G b ∧ gTi G' b = gTi G b ∧ gWo G' b = gWo G b ∧ gTy G' b = gTy G b := by
  unfold gOb gAd gHm gPl gSz gUn gTi gWo gTy
  rw [h]
  exact ⟨rfl, rfl, rfl, rfl, rfl, rfl, rfl, rfl, rfl⟩
theorem VT.mo (h : VT G nb rg na ng v g) (hG : ∀ b, b ≤ nb → G' b = G b) (hb : nb ≤ nb') (ho : ∀ r s, ot rg na ng r s → ot rg' na' ng' r s) : VT G' nb' rg' na' ng' v g := by
  unfold VT at h ⊢
  by_cases c0 : g.headD 0 = 0
  · rw [if_pos c0] at h ⊢
    exact h
  rw [if_neg c0] at h ⊢
  by_cases c3 : g.headD 0 = 3
  · rw [if_pos c3] at h ⊢
    rcases h with h | ⟨h1, h2, h3, h4, h5, h6, h7, h8⟩
    · exact Or.inl h
    · have e := hG v.2.1 h3
      obtain ⟨e1, e2, e3, e4, e5, e6, e7, e8, e9⟩ := G_eq e
      rw [e4, e6, e7, e3, e9]
      exact Or.inr ⟨h1, h2, by omega, h4, h5, h6, ho _ _ h7, h8⟩
  rw [if_neg c3] at h ⊢
  rcases h with h | ⟨h1, h2, h3, h4, h5⟩
  · exact Or.inl h
  · have e := hG v.2.1 h3
    obtain ⟨e1, e2, e3, e4, e5, e6, e7, e8, e9⟩ := G_eq e
    unfold tgO at h5 ⊢
    rw [e4, e6, e7, e3, e9]
    exact Or.inr ⟨h1, h2, by omega, ho _ _ h4, h5⟩
theorem VT.bo (h : VT G nb rg na ng v g) : bOk nb v := by
  unfold VT at h
  unfold bOk
  split at h
  · exact Or.inr (by omega)
  split at h
  · rcases h with h | h
    · exact Or.inl h
    · exact Or.inr h.2.2.1
  · rcases h with h | h
    · rw [h.2]
      exact Or.inr (Nat.zero_le _)
    · exact Or.inr h.2.2.1
theorem VT.wi (h : VT G nb rg na ng v g) : wv v = wg g := by
  unfold VT at h
  unfold wv wg
  split at h
  · next c => rw [if_pos h.2, if_neg (by omega)]
  split at h
  · next c => rw [if_neg (by omega), if_pos c]
  · next c =>
    rw [if_neg c]
    rcases h with h | h
    · rw [h.2]
      rfl
    · rw [if_pos h.1]
theorem RV.mo (h : RV G v x y z w) (hv : bOk nb v) (hG : ∀ b, b ≤ nb → G' b = G b) : RV G' v x y z w := by
  unfold RV at h ⊢
  rcases hv with hv | hv
  · rw [hv] at h ⊢
    exact ⟨h.1, h.2.1, fun a => absurd a (by omega)⟩
  · unfold gOb at h ⊢
    rw [hG _ hv]
    exact h
theorem CW_mo (hv : bOk nb v) (hG : ∀ b, b ≤ nb → G' b = G b) : CW G' v i = CW G v i := by
  unfold CW
  rcases hv with hv | hv
  · rw [hv]
    rfl
  · unfold gAd gUn gWo
    rw [hG _ hv]
theorem wv_1 : 1 ≤ wv v := by unfold wv; split <;> omega
theorem wv_3 : wv v ≤ 3 := by unfold wv; split <;> omega
/-- a pointer type that is wanted to be longer alive -/
theorem VT.ou (h : VT G nb rg na ng v g) {g2 : List Nat} (hk : g2.headD 0 = g.headD 0 ∨ (g.headD 0 = 1 ∧ g2.headD 0 = 2)) (hd : g2.drop 2 = g.drop 2) (ho : ot rg na ng (g.getD 1 0) (g2.getD 1 0)) : VT G nb rg na ng v g2 := by
  unfold VT at h ⊢
  rw [hd]
  by_cases c0 : g.headD 0 = 0
  · rw [if_pos c0] at h
    rw [if_pos (by omega)]
    exact h
  rw [if_neg c0] at h
  rw [if_neg (by omega)]
  by_cases c3 : g.headD 0 = 3
  · rw [if_pos c3] at h
    rw [if_pos (by omega)]
    rcases h with h | ⟨h1, h2, h3, h4, h5, h6, h7, h8⟩
    · exact Or.inl h
    · exact Or.inr ⟨h1, h2, h3, h4, h5, h6, h7.tr ho, h8⟩
  · rw [if_neg c3] at h
    rw [if_neg (by omega)]
    rcases h with h | ⟨h1, h2, h3, h4, h5⟩
    · exact Or.inl ⟨by omega, h.2⟩
    · exact Or.inr ⟨h1, h2, h3, h4.tr ho, h5⟩
end GH0
