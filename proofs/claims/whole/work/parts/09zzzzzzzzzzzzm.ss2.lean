/-! both machines: a value stored to a VAR -/
section SS2
variable {M0 T0 Sf S Sh : gSt} {G G' : GH} {D D' : Nat → (Nat → AV) × Nat} {nf d d' nb nb' mk mk' na na' ng ng' e bs ph bt rb tb ie en hb k q u s i j c t h P W Dp n m it n1 : Nat} {rg rg' : Nat → Nat} {ρ : Nat → Nat} {va : Nat → AV} {M M' T T' : gSt} {v : AV} {x a b cc ee op y z w : Int32} {st s0 st' : List Int32} {ov o0 ov' : List AV} {hs : List HD} {F : FRM} {Fr : Nat → FRM} {f : Nat → Int32} {jj : T5} {r1 : Int32} {l1 : Int64} {tg : List Nat}
variable {a0 : Nat} {S' : gSt} {t1 : Int32}
/-- VARS behind a STORE, where they are known as S' tells -/
theorem VaO.as (h : VaO Sf G nb rg na ng ρ va M T e bs S) (hv : VT G nb rg na ng v (gty Sf ρ x)) (hrv : RV G v (M'.1 117 (20 * e + s)) (M'.1 118 (20 * e + s)) (M'.1 119 (20 * e + s)) (M'.1 120 (20 * e + s))) (hcw : ∀ i, i < wv v → T'.1 99 (bs + u + i) = CW G v i) (hM : ∀ k j, 117 ≤ k → k ≤ 120 → ¬ j = s → j < 20 → M'.1 k (20 * e + j) = M.1 k (20 * e + j)) (hT : ∀ q, q < bs + 60 → ¬ (bs + u ≤ q ∧ q < bs + u + wS Sf x) → T'.1 99 q = T.1 99 q) (hR : Rws Sf) (hc : cn Sf ≤ 6000) (htv : ∀ w j, vaP S w j → tV Sf (S.1 80 w)) (hS : ∀ w j, vaP S' w j → (j = s ∧ S'.1 80 w = x ∧ slV Sf S' w = u ∧ (fi (S'.1 82 0) s = true → (∃ p, rowP Sf x p ∧ Sf.1 66 p = 2) → 1 ≤ v.2.1)) ∨ (¬ j = s ∧ vaP S w j ∧ S.1 80 w = S'.1 80 w ∧ slV Sf S w = slV Sf S' w ∧ apW Sf S' w u (wS Sf x) ∧ (fi (S'.1 82 0) j = true → fi (S.1 82 0) j = true))) : VaO Sf G nb rg na ng ρ (fun j => if j = s then v else va j) M' T' e bs S' := by
  intro w j hw
  rcases hS w j hw with ⟨e1, e2, e3, e4⟩ | ⟨e1, e2, e3, e4, e5, e6⟩
  · subst e1
    rw [show (fun i => if i = j then v else va i) j = v from if_pos rfl, e2, e3]
    exact ⟨hv, hrv, hcw, e4⟩
  · rw [show (fun i => if i = s then v else va i) j = va j from if_neg e1]
    obtain ⟨z1, z2, z3, z4⟩ := h w j e2
    have j20 : j < 20 := e2.2.2.1
    have wi : wv (va j) = wS Sf (S.1 80 w) := by rw [z1.wi]; exact wg_gty hR hc (htv w j e2)
    have sl := slV_le (Sf := Sf) (S := S) w
    have w20 : w < 20 := e2.2.2.2.2
    have w3 := wv_3 (v := va j)
    rw [hM 117 j (by omega) (by omega) e1 j20, hM 118 j (by omega) (by omega) e1 j20, hM 119 j (by omega) (by omega) e1 j20, hM 120 j (by omega) (by omega) e1 j20, ← e3, ← e4]
    refine ⟨z1, z2, fun i hi => ?_, fun hf hp => z4 (e6 hf) hp⟩
    rw [hT _ (by omega) (by
      unfold apW at e5
      rw [← e3, ← e4] at e5
      omega)]
    exact z3 i hi
end SS2
