/-! both heaps: what holds of them -/
/-- cells of the slots whose home is region j -/
def usR (M : gSt) (ch : Nat → List Nat) (j : Nat) : Nat := sm (fun o => if ¬ M.1 138 o = 0 ∧ M.1 141 o = nI j then (ch o).length else 0) 4096
/-- pages of region j; pages in use -/
def pgN (T : gSt) (P j : Nat) : Nat := sm (fun p => if T.1 116 p = nI j then 1 else 0) P
def pgU (T : gSt) (P : Nat) : Nat := sm (fun p => if T.1 116 p = -1 then 0 else 1) P
/-- region j on both sides -/
def RwJ (M T : gSt) (P W mk : Nat) (ch : Nat → List Nat) (j : Nat) : Prop := ∃ pg u w m nx, M.1 133 j = nI pg ∧ T.1 123 j = nI pg ∧ M.1 134 j = nI u ∧ M.1 135 j = nI w ∧ T.1 124 j = nI w ∧ M.1 136 j = nI m ∧ T.1 125 j = nI m ∧ u ≤ W ∧ pgN T P j = pg ∧ m ≤ mk ∧ cR M j 4096 0 ≤ m ∧ usR M ch j ≤ w ∧ T.1 126 j = nI nx ∧ nx < 5000 ∧ (if pg = 0 then w = 0 ∧ u = 0 ∧ T.1 127 j = 0 else w + W ≤ pg * W + u ∧ T.1 127 j = nI (W - u) ∧ ∃ p, p < P ∧ T.1 116 p = nI j ∧ nx = p * W + u)
/-- an object, reference -/
def RhO (G : GH) (D : Nat → (Nat → AV) × Nat) (M : gSt) (ch : Nat → List Nat) (b i : Nat) : Prop := gOb G b < 4096 ∧ M.1 138 (gOb G b) = nI b ∧ M.1 141 (gOb G b) = nI i ∧ (ch (gOb G b)).length = gPl G b ∧ (¬ gUn G b = 0 → M.1 142 (gOb G b) = nI (D b).2) ∧ ∀ p, p < gPl G b → ¬ M.1 148 ((ch (gOb G b)).getD p 0) = 0 ∧ RV G ((D b).1 p) (M.1 144 ((ch (gOb G b)).getD p 0)) (M.1 145 ((ch (gOb G b)).getD p 0)) (M.1 146 ((ch (gOb G b)).getD p 0)) (M.1 147 ((ch (gOb G b)).getD p 0))
/-- an object, class -/
def ChO (G : GH) (D : Nat → (Nat → AV) × Nat) (T : gSt) (P W b i : Nat) : Prop := 1 ≤ gSz G b ∧ gAd G b + gSz G b ≤ P * W ∧ (∀ j, j < gSz G b → T.1 116 ((gAd G b + j) / W) = nI i) ∧ (¬ gUn G b = 0 → T.1 114 (gAd G b) = nI ((D b).2 + 1) ∧ ¬ T.1 115 (gAd G b) = 0) ∧ (∀ p, p < gPl G b → ∀ w, w < wv ((D b).1 p) → T.1 114 (gAd G b + gWo G b p + w) = CW G ((D b).1 p) w ∧ ¬ T.1 115 (gAd G b + gWo G b p + w) = 0) ∧ ∀ nx lf, T.1 126 i = nI nx → T.1 127 i = nI lf → nx < 5000 → lf ≤ 64 → gAd G b + gSz G b ≤ nx ∨ nx + lf ≤ gAd G b
/-- an object's shape, its values' types -/
def ShO (G : GH) (D : Nat → (Nat → AV) × Nat) (nb : Nat) (rg : Nat → Nat) (na ng b : Nat) : Prop := gPl G b ≤ gSz G b ∧ 1 ≤ gPl G b ∧ gSz G b ≤ 64 ∧ (gUn G b = 0 → (∀ p, p < gPl G b → gWo G b p + wg (gTy G b p) ≤ gSz G b) ∧ ∀ p q, p < q → q < gPl G b → gWo G b p + wg (gTy G b p) ≤ gWo G b q) ∧ (¬ gUn G b = 0 → gPl G b = 1 ∧ gWo G b 0 = 1 ∧ (D b).2 < 8 ∧ ∀ f, f < 8 → 1 + wg (gTy G b f) ≤ gSz G b) ∧ ∀ p, p < gPl G b → VT G nb rg na ng ((D b).1 p) (gTy G b (if gUn G b = 0 then p else (D b).2))
/-- both heaps -/
def HpI (G : GH) (D : Nat → (Nat → AV) × Nat) (nb mk : Nat) (rg : Nat → Nat) (na ng P W : Nat) (M T : gSt) : Prop :=
  (M.1 129 0 = nI na ∧ T.1 122 0 = nI na ∧ 1 ≤ na ∧ na ≤ 321 ∧ (∀ i j, i < j → j < na → rg i < rg j) ∧ (∀ i, i < na → rg i < ng) ∧ rg 0 = 0) ∧
  (M.1 130 0 = nI P ∧ M.1 131 0 = nI W ∧ Pgs T P W ∧ T.1 119 0 = nI (pgU T P) ∧ M.1 132 0 = nI (P - pgU T P) ∧ ∀ p, p < P → T.1 116 p = -1 ∨ ∃ j, j < na ∧ T.1 116 p = nI j) ∧
  (M.1 137 0 = nI nb ∧ nb ≤ mk ∧ mk < 2 ^ 31 ∧ M.1 105 0 = nI mk ∧ T.1 120 0 = nI mk ∧ ∀ b, 1 ≤ b → b ≤ nb → gHm G b < ng) ∧
  (∃ ch fr, Hr M na ch fr ∧ (∀ j, j < na → RwJ M T P W mk ch j) ∧ ∀ b i, 1 ≤ b → b ≤ nb → i < na → rg i = gHm G b → RhO G D M ch b i) ∧
  (∀ b i, 1 ≤ b → b ≤ nb → i < na → rg i = gHm G b → ChO G D T P W b i ∧ ShO G D nb rg na ng b) ∧
  (∀ b c, 1 ≤ b → b ≤ nb → 1 ≤ c → c ≤ nb → b ≠ c → al rg na (gHm G b) → al rg na (gHm G c) → gAd G b + gSz G b ≤ gAd G c ∨ gAd G c + gSz G c ≤ gAd G b)
section GH1
variable {G G' : GH} {D D' : Nat → (Nat → AV) × Nat} {M M' T T' : gSt} {nb nb' mk na na' ng ng' P W b c i j p q r s t k n m : Nat} {rg rg' : Nat → Nat} {v : AV} {g : List Nat} {x y z w : Int32} {ch : Nat → List Nat}
theorem cR_st (h1 : M'.1 138 = M.1 138) (h2 : M'.1 141 = M.1 141) : cR M' r n i = cR M r n i := cR_eq n i (fun q _ _ => by rw [h1, h2])
theorem Hr_st {fr : List Nat} (h1 : ∀ k, (138 ≤ k ∧ k ≤ 141) ∨ k = 143 ∨ k = 149 → M'.1 k = M.1 k) (h : Hr M na ch fr) : Hr M' na ch fr := h.eq h1 (Nat.le_refl _)
/-- what isn't touched -/
theorem HpI.eq (h : HpI G D nb mk rg na ng P W M T) (hM : ∀ k, (129 ≤ k ∧ k ≤ 149) ∨ k = 105 → M'.1 k = M.1 k) (hT : ∀ k, 114 ≤ k → k ≤ 127 → T'.1 k = T.1 k) : HpI G D nb mk rg na ng P W M' T' := by
  obtain ⟨h1, h2, h3, ⟨ch, fr, h4, h5, h6⟩, h7, h8⟩ := h
  have e116 := hT 116 (by omega) (by omega)
  have en : ∀ j, pgN T' P j = pgN T P j := fun j => by unfold pgN; rw [e116]
  have eu : pgU T' P = pgU T P := by unfold pgU; rw [e116]
  refine ⟨?_, ?_, ?_, ⟨ch, fr, Hr_st (fun k hk => hM k (by omega)) h4, fun j hj => ?_, fun b i b1 b2 b3 b4 => ?_⟩, fun b i b1 b2 b3 b4 => ⟨?_, (h7 b i b1 b2 b3 b4).2⟩, h8⟩
  · rw [hM 129 (by omega), hT 122 (by omega) (by omega)]
    exact h1
  · unfold Pgs at h2 ⊢
    rw [hM 130 (by omega), hM 131 (by omega), hM 132 (by omega), hT 117 (by omega) (by omega), hT 118 (by omega) (by omega), hT 119 (by omega) (by omega), eu, e116]
    exact h2
  · rw [hM 137 (by omega), hM 105 (by omega), hT 120 (by omega) (by omega)]
    exact h3
  · have := h5 j hj
    unfold RwJ usR at this ⊢
    rw [hM 133 (by omega), hM 134 (by omega), hM 135 (by omega), hM 136 (by omega), hM 138 (by omega), hM 141 (by omega), hT 123 (by omega) (by omega), hT 124 (by omega) (by omega), hT 125 (by omega) (by omega), hT 126 (by omega) (by omega), hT 127 (by omega) (by omega), en, e116, cR_st (hM 138 (by omega)) (hM 141 (by omega))]
    exact this
  · have := h6 b i b1 b2 b3 b4
    unfold RhO at this ⊢
    rw [hM 138 (by omega), hM 141 (by omega), hM 142 (by omega), hM 144 (by omega), hM 145 (by omega), hM 146 (by omega), hM 147 (by omega), hM 148 (by omega)]
    exact this
  · have := (h7 b i b1 b2 b3 b4).1
    unfold ChO at this ⊢
    rw [e116, hT 115 (by omega) (by omega), hT 114 (by omega) (by omega), hT 126 (by omega) (by omega), hT 127 (by omega) (by omega)]
    exact this
end GH1
