/-! both machines in step: what goes on being so -/
section SM1
variable {Sf S Sh : gSt} {G G' : GH} {nb nb' na na' ng ng' e bs ph bt rb tb ie en hb k q u s i j c t : Nat} {rg rg' : Nat → Nat} {ρ : Nat → Nat} {va : Nat → AV} {M M' T T' : gSt} {v : AV} {x : Int32} {st : List Int32} {ov : List AV} {hs : List HD} {F : FRM}
theorem slV_le : ∀ u, slV Sf S u ≤ 3 * u := by
  intro u
  induction u with
  | zero => exact Nat.le_refl _
  | succ u ih => have := wS_3 (S := Sf) (x := S.1 80 u); rw [slV]; omega
theorem VaO.mo (h : VaO Sf G nb rg na ng ρ va M T e bs S) (hG : ∀ b, b ≤ nb → G' b = G b) (hb : nb ≤ nb') (ho : ∀ r s, ot rg na ng r s → ot rg' na' ng' r s) (hM : ∀ k s, 117 ≤ k → k ≤ 120 → s < 20 → M'.1 k (20 * e + s) = M.1 k (20 * e + s)) (hT : ∀ q, q < bs + 60 → T'.1 99 q = T.1 99 q) : VaO Sf G' nb' rg' na' ng' ρ va M' T' e bs S := by
  intro u s hu
  obtain ⟨h1, h2, h3, h4⟩ := h u s hu
  have s20 := hu.2.2.1
  refine ⟨h1.mo hG hb ho, ?_, fun i hi => ?_, h4⟩
  · rw [hM 117 s (by omega) (by omega) s20, hM 118 s (by omega) (by omega) s20, hM 119 s (by omega) (by omega) s20, hM 120 s (by omega) (by omega) s20]
    exact h2.mo h1.bo hG
  · have := slV_le (Sf := Sf) (S := S) u
    have := wv_3 (v := va s)
    have := hu.2.2.2.2
    rw [hT _ (by omega), CW_mo h1.bo hG]
    exact h3 i hi
theorem VTs.mo (h : VTs Sf G nb rg na ng ρ v x) (hG : ∀ b, b ≤ nb → G' b = G b) (hb : nb ≤ nb') (ho : ∀ r s, ot rg na ng r s → ot rg' na' ng' r s) : VTs Sf G' nb' rg' na' ng' ρ v x := by
  unfold VTs at h ⊢
  by_cases c : x = -2
  · rw [if_pos c] at h ⊢
    exact h
  · rw [if_neg c] at h ⊢
    exact h.mo hG hb ho
theorem VTs.bo (h : VTs Sf G nb rg na ng ρ v x) : bOk nb v := by
  unfold VTs at h
  by_cases c : x = -2
  · rw [if_pos c] at h
    rw [h]
    exact Or.inr (Nat.zero_le _)
  · rw [if_neg c] at h
    exact h.bo
theorem OpV.mo : ∀ (st : List Int32) (ov : List AV), OpV Sf G nb rg na ng ρ M T ph bt st ov → (∀ b, b ≤ nb → G' b = G b) → nb ≤ nb' → (∀ r s, ot rg na ng r s → ot rg' na' ng' r s) → (∀ k q, 110 ≤ k → k ≤ 113 → q < ph + st.length → M'.1 k q = M.1 k q) → (∀ q, q < bt + wsl Sf st → T'.1 99 q = T.1 99 q) → (∀ x v, x ∈ st → VTs Sf G nb rg na ng ρ v x → wv v ≤ wS Sf x) → OpV Sf G' nb' rg' na' ng' ρ M' T' ph bt st ov := by
  intro st
  induction st with
  | nil =>
    intro ov h _ _ _ _ _ _
    cases ov with
    | nil => trivial
    | cons v ov => exact h
  | cons x st ih =>
    intro ov h hG hb ho hM hT hw
    cases ov with
    | nil => exact h
    | cons v ov =>
      obtain ⟨h1, h2, h3, h4⟩ := h
      rw [List.length_cons] at hM
      have wl : wsl Sf (x :: st) = wS Sf x + wsl Sf st := rfl
      rw [wl] at hT
      have ww := hw x v List.mem_cons_self h1
      refine ⟨h1.mo hG hb ho, ?_, fun i hi => ?_, ih ov h4 hG hb ho (fun k q a b c => hM k q a b (by omega)) (fun q a => hT q (by omega)) (fun x v a => hw x v (List.mem_cons_of_mem _ a))⟩
      · rw [hM 110 _ (by omega) (by omega) (by omega), hM 111 _ (by omega) (by omega) (by omega), hM 112 _ (by omega) (by omega) (by omega), hM 113 _ (by omega) (by omega) (by omega)]
        exact h2.mo h1.bo hG
      · rw [hT _ (by omega), CW_mo h1.bo hG]
        exact h3 i hi
theorem lvc_le : ∀ q, lvc S q ≤ q := by
  intro q
  induction q with
  | zero => exact Nat.le_refl _
  | succ q ih => rw [lvc]; split <;> omega
theorem lvc_mono : ∀ {q t : Nat}, q ≤ t → lvc S q ≤ lvc S t := by
  intro q t h
  induction t with
  | zero => rw [show q = 0 by omega]; exact Nat.le_refl _
  | succ t ih =>
    by_cases c : q = t + 1
    · rw [c]; exact Nat.le_refl _
    · have := ih (by omega)
      rw [lvc]
      omega
theorem lvc_lt (h : q < t) (hc : S.1 85 q = nI c) (c12 : c < 12) (hl : ¬ isLv S (nI c) = 0) : lvc S q < lvc S t := by
  have h1 : lvc S (q + 1) ≤ lvc S t := lvc_mono (by omega)
  rw [lvc, if_pos ⟨by rw [hc]; exact nI_ge0 (by omega), by rw [hc]; exact hl⟩] at h1
  omega
theorem RgO.mo (h : RgO rg na ng en ρ M T e S rb ie) (hr : ∀ i, i < rb + lvc S (arn S) → rg' i = rg i) (hn : ng ≤ ng') (ho : ∀ r s, ot rg na ng r s → ot rg' na' ng' r s) (hM : ∀ c, c < 12 → M'.1 121 (12 * e + c) = M.1 121 (12 * e + c)) (hT : ∀ w, w < 17 → T'.1 101 (17 * (e + 1) + w) = T.1 101 (17 * (e + 1) + w)) (hw : ∀ c w, RgE en S c w → w < 12) : RgO rg' na' ng' en ρ M' T' e S rb ie := by
  obtain ⟨⟨a1, a2, a3, a4, a5, a6⟩, b, c, d, f⟩ := h
  refine ⟨⟨a1, a2, by omega, a4, a5, by rw [hT 5 (by omega)]; exact a6⟩, fun q cc h1 h2 h3 h4 => ?_, c, fun cc h1 h2 h3 => ?_, fun r s h1 h2 h3 h4 h5 => ho _ _ (f r s h1 h2 h3 h4 h5)⟩
  · obtain ⟨b1, b2, b3⟩ := b q cc h1 h2 h3 h4
    refine ⟨b1, by omega, ?_⟩
    unfold RgQx at b3 ⊢
    rw [hM cc h4]
    by_cases l : isLv S (nI cc) = 0
    · rw [if_pos l] at b3 ⊢
      exact b3
    · rw [if_neg l] at b3 ⊢
      have lt := lvc_lt (t := arn S) h1 h2 h4 l
      refine ⟨b3.1, by rw [hr _ (by omega)]; exact b3.2.1, fun w hw' => ?_⟩
      have := hw cc w hw'
      rw [hT (5 + w) (by omega)]
      exact b3.2.2 w hw'
  · obtain ⟨i, i1, i2, i3, i4⟩ := d cc h1 h2 h3
    exact ⟨i, i1, by rw [hM cc (by omega)]; exact i2, by rw [hT (5 + cc) (by omega)]; exact i3, by rw [hr i (by omega)]; exact i4⟩
theorem CaO.mo (h : CaO M T e bs S) (hM : ∀ k, k ≤ 20 → M'.1 122 (40 * e + k) = M.1 122 (40 * e + k)) (hT : ∀ q, q < bs + 80 → T'.1 99 q = T.1 99 q) : CaO M' T' e bs S := by
  obtain ⟨c, h1, h2, h3⟩ := h
  refine ⟨c, h1, h2, fun k k1 k2 => ?_⟩
  rw [hT _ (by omega), hM k (by omega)]
  exact h3 k k1 k2
theorem HsO.mo : ∀ (hs : List HD), HsO Sf G nb rg na ng ρ va M T e bs ph rb tb hs → (∀ b, b ≤ nb → G' b = G b) → nb ≤ nb' → (∀ r s, ot rg na ng r s → ot rg' na' ng' r s) → (∀ k s, 117 ≤ k → k ≤ 120 → s < 20 → M'.1 k (20 * e + s) = M.1 k (20 * e + s)) → (∀ k q, 124 ≤ k → k ≤ 128 → q < tb + hs.length → M'.1 k q = M.1 k q) → (∀ q, q < bs + 60 → T'.1 99 q = T.1 99 q) → (∀ q, q < 4 * (tb + hs.length) → T'.1 103 q = T.1 103 q) → HsO Sf G' nb' rg' na' ng' ρ va M' T' e bs ph rb tb hs := by
  intro hs
  induction hs with
  | nil => intro _ _ _ _ _ _ _ _; trivial
  | cons h hs ih =>
    intro hh hG hb ho hM hM2 hT hT2
    rw [List.length_cons] at hM2 hT2
    obtain ⟨⟨a1, a2, a3, a4, a5, a6, a7, a8, a9⟩, b, c⟩ := hh
    refine ⟨⟨by rw [hM2 124 _ (by omega) (by omega) (by omega)]; exact a1, by rw [hM2 125 _ (by omega) (by omega) (by omega)]; exact a2, by rw [hM2 126 _ (by omega) (by omega) (by omega)]; exact a3, by rw [hM2 127 _ (by omega) (by omega) (by omega)]; exact a4, by rw [hM2 128 _ (by omega) (by omega) (by omega)]; exact a5, by rw [hT2 _ (by omega)]; exact a6, by rw [hT2 _ (by omega)]; exact a7, by rw [hT2 _ (by omega)]; exact a8, by rw [hT2 _ (by omega)]; exact a9⟩, b.mo hG hb ho hM hT, ih c hG hb ho hM (fun k q x y z => hM2 k q x y (by omega)) hT (fun q x => hT2 q (by omega))⟩
end SM1
