/-! both machines: something is raised -/
section RZ1
variable {M0 T0 Sf S Sh : gSt} {G G' : GH} {D D' : Nat → (Nat → AV) × Nat} {nf d d' nb nb' mk mk' na na' ng ng' e bs ph bt rb tb ie en hb k q u s i j c t h P W Dp n m it n1 : Nat} {rg rg' : Nat → Nat} {ρ : Nat → Nat} {va : Nat → AV} {M M' T T' : gSt} {v : AV} {x a b cc ee op y z w : Int32} {st s0 st' : List Int32} {ov o0 ov' : List AV} {hs : List HD} {F : FRM} {Fr : Nat → FRM} {f : Nat → Int32} {jj : T5} {r1 : Int32} {l1 : Int64} {tg : List Nat}
variable {R K E r : Nat}
/-- both close regions from R on -/
theorem cl_both (h : HpI G D nb mk rg na ng P W M T) (h1 : 1 ≤ R) (h2 : R ≤ na) (hnf : 16385 ≤ nf) (hd : 1 ≤ d) (hd' : 1 ≤ d') : ∃ (r1 : Int32) (l1 : Int64) (M' T' : gSt), RR nf d 109 M [nI R] [] = some (r1, l1, M') ∧ PP nf d' 229 T [nI R] [] = some (0, 0, T') ∧ HpI G D nb mk rg R ng P W M' T' ∧ (∀ k, k ≠ 129 → k ≠ 132 → k ≠ 136 → k ≠ 138 → k ≠ 143 → k ≠ 149 → M'.1 k = M.1 k) ∧ M'.2 = M.2 ∧ M'.1 129 0 = nI R ∧ (∀ k, k ≠ 116 → k ≠ 119 → k ≠ 122 → T'.1 k = T.1 k) ∧ T'.2 = T.2 ∧ T'.1 122 0 = nI R := by
  obtain ⟨⟨g1, g2, g3, g4, g5, g6, g7⟩, ⟨p1, p2, p3, p4, p5, p6⟩, _⟩ := h.1, h.2.1, h.2.2
  by_cases e : R = na
  · subst e
    have cn : clN T R P = 0 := by
      rw [clN_sm, sm_eq (g := fun _ => 0) P (fun p hp => if_neg (fun w => by
        rcases p6 p hp with z | ⟨j, j1, j2⟩
        · rw [z] at w
          exact absurd w (by
            rw [Int32.le_iff_toInt_le, nI_toInt (by omega)]
            show ¬ (R : Int) ≤ -1
            omega)
        · rw [j2] at w
          have := (nI_leI (a := R) (b := j) (by omega) (by omega)).mp w
          omega))]
      exact sm_0 P (fun _ _ => rfl)
    have cl := h.close (nf := nf) (d := d) (T' := T) h1 (Nat.le_refl _) (by omega) hd (fun _ _ _ _ _ _ => rfl) (fun p hp => by
      rw [if_neg (fun w => by
        rcases p6 p hp with z | ⟨j, j1, j2⟩
        · rw [z] at w
          exact absurd w (by
            rw [Int32.le_iff_toInt_le, nI_toInt (by omega)]
            show ¬ (R : Int) ≤ -1
            omega)
        · rw [j2] at w
          have := (nI_leI (a := R) (b := j) (by omega) (by omega)).mp w
          omega)]) (by rw [cn]; exact (Int32.sub_zero _).symm) g2
    obtain ⟨r1, l1, M', e1, e2, e3⟩ := cl
    exact ⟨r1, l1, M', T, e1, c_closeNo g2 g4 (Or.inr (Nat.le_refl _)) (by omega) hd', e2, e3.1, e3.2.2.2.2.2.2, e3.2.1, fun _ _ _ _ => rfl, rfl, g2⟩
  · have cl := h.close (nf := nf) (d := d) (T' := sI (clM T P R P) 122 0 (nI R)) h1 h2 (by omega) hd (fun k k1 k2 k3 k4 k5 => by rw [sI_ne k5, clM_o k3 k4]) (fun p hp => by
      rw [sI_ne (by omega), clM_r, if_pos rfl]
      by_cases z : nI R ≤ T.1 116 p
      · rw [if_pos ⟨hp, z⟩, if_pos z]
      · rw [if_neg (fun w => z w.2), if_neg z]) (by rw [sI_ne (by omega), clM_r, if_neg (by decide), if_pos ⟨rfl, rfl⟩]) (by rw [sI_v])
    obtain ⟨r1, l1, M', e1, e2, e3⟩ := cl
    exact ⟨r1, l1, M', _, e1, c_closeFrom g2 g4 h1 (by omega) p3.1 p3.2.1 (by omega) hd', e2, e3.1, e3.2.2.2.2.2.2, e3.2.1, fun k k1 k2 k3 => by rw [sI_ne k3, clM_o k1 k2], rfl, by rw [sI_v]⟩
/-- a handler's REGIONS, no more -/
def PfR (Sh S : gSt) : Prop := rn Sh ≤ rn S ∧ (∀ k, k < rn Sh → Sh.1 73 k = S.1 73 k) ∧ arn Sh ≤ arn S ∧ (∀ q, q < arn Sh → Sh.1 85 q = S.1 85 q ∧ (isLv Sh (S.1 85 q) = 0 ↔ isLv S (S.1 85 q) = 0)) ∧ (∀ c, c ≤ 3 → isLv Sh (nI c) = isLv S (nI c)) ∧ Sh.1 76 0 = S.1 76 0
theorem PfS.rr (h : PfS Sh S) : PfR Sh S := by
  obtain ⟨a, b, c, d, e, f, _⟩ := h
  exact ⟨a, b, c, d, e, f⟩
theorem SmR.rr (h : SmR S Sh) : PfR Sh S := by
  obtain ⟨a, b, c, d, e, f, _⟩ := h
  have ea : arn Sh = arn S := by unfold arn; rw [c]
  have el : ∀ x, isLv Sh x = isLv S x := fun x => by unfold isLv; rw [e]
  refine ⟨by omega, fun k hk => b k (by omega), by omega, fun q hq => ⟨d q (by omega), by rw [el]⟩, fun c _ => el _, f⟩
theorem lvc_pf (h : PfR Sh S) : ∀ q, q ≤ arn Sh → lvc Sh q = lvc S q := by
  obtain ⟨_, _, p3, p4, _⟩ := h
  intro q
  induction q with
  | zero => intro _; rfl
  | succ q ih =>
    intro hq
    obtain ⟨e1, e2⟩ := p4 q (by omega)
    rw [lvc, lvc, ih (by omega), e1]
    by_cases z : ¬ S.1 85 q < 0 ∧ ¬ isLv S (S.1 85 q) = 0
    · rw [if_pos z, if_pos ⟨z.1, fun w => z.2 (e2.mp w)⟩]
    · rw [if_neg z, if_neg (fun w => z ⟨w.1, fun w2 => w.2 (e2.mpr w2)⟩)]
theorem RgE_pf (h : PfR Sh S) {a b : Nat} (hR : RgE en Sh a b) : RgE en S a b := by
  obtain ⟨p1, p2, _⟩ := h
  rcases hR with z | ⟨j, j1, j2, j3, j4⟩
  · exact Or.inl z
  · exact Or.inr ⟨j, by omega, j2, by rw [← p2 _ j1]; exact j3, j4⟩
/-- the REGIONS that a handler knows -/
theorem RgO.pf (h : RgO rg na ng en ρ M T e S rb ie) (hp : PfR Sh S) (ho : ∀ r s, ot rg na ng r s → ot rg na' ng r s) (hM : ∀ c, c < 12 → M'.1 121 (12 * e + c) = M.1 121 (12 * e + c)) (hT : ∀ w, w < 17 → T'.1 101 (17 * (e + 1) + w) = T.1 101 (17 * (e + 1) + w)) : RgO rg na' ng en ρ M' T' e Sh rb ie := by
  have hp0 := hp
  obtain ⟨p1, p2, p3, p4, p5, p6⟩ := hp
  obtain ⟨⟨r1, r2, r3, r4, r5, r6⟩, q1, q2, q3, q4⟩ := h
  refine ⟨⟨r1, r2, r3, r4, r5, by rw [hT 5 (by omega)]; exact r6⟩, fun q c hq hc c4 c12 => ?_, fun q q' c c' hqq hq' hc hc' => q2 q q' c c' hqq (by omega) (by rw [← (p4 q (by omega)).1]; exact hc) (by rw [← (p4 q' hq').1]; exact hc'), fun c c1 c3 hl => ?_, fun r s r1 r3 s1 s3 hf => ho _ _ (q4 r s r1 r3 s1 s3 (by rw [← p6]; exact hf))⟩
  · obtain ⟨e1, e2⟩ := p4 q hq
    rw [e1] at hc
    obtain ⟨z1, z2, z3⟩ := q1 q c (by omega) hc c4 c12
    refine ⟨z1, z2, ?_⟩
    unfold RgQx at z3 ⊢
    rw [hc] at e2
    by_cases z : isLv S (nI c) = 0
    · rw [if_pos z] at z3
      rw [if_pos (e2.mpr z), hM c c12]
      exact z3
    · rw [if_neg z] at z3
      rw [if_neg (fun w => z (e2.mp w)), hM c c12, lvc_pf hp0 q (by omega)]
      exact ⟨z3.1, z3.2.1, fun w hw => by
        have := RgE_12 hw
        rw [hT (5 + w) (by omega)]
        exact z3.2.2 w (RgE_pf hp0 hw)⟩
  · rw [p5 c c3] at hl
    obtain ⟨i, i1, i2, i3, i4⟩ := q3 c c1 c3 hl
    exact ⟨i, i1, by rw [hM c (by omega)]; exact i2, by rw [hT (5 + c) (by omega)]; exact i3, i4⟩
/-- where the last try is -/
theorem FsO.tr (h : FsO Sf G nb rg na ng Fr Dp M T) : ∀ j e, e + j = Dp → ∀ e0, e0 ≤ Dp → ftb (Fr e0) + (fhs (Fr e0)).length = K + 1 → e0 = j → ∃ E hh tl, E ≤ e0 ∧ fhs (Fr E) = hh :: tl ∧ ftb (Fr E) + tl.length = K := by
  intro j
  induction j with
  | zero =>
    intro e he e0 h0 hk ej
    subst ej
    cases e : fhs (Fr 0) with
    | nil =>
      rw [e, h.2.2.2.2.2] at hk
      exact absurd hk (by show ¬ 0 + 0 = K + 1; omega)
    | cons hh tl =>
      rw [e, List.length_cons] at hk
      exact ⟨0, hh, tl, Nat.le_refl _, e, by omega⟩
  | succ j ih =>
    intro e he e0 h0 hk ej
    subst ej
    cases e1 : fhs (Fr (j + 1)) with
    | nil =>
      rw [e1] at hk
      obtain ⟨_, _, _, l4, _⟩ := h.2.1 j (by omega)
      obtain ⟨E, hh, tl, z1, z2, z3⟩ := ih (e + 1) (by omega) j (by omega) (by rw [← l4]; exact hk) rfl
      exact ⟨E, hh, tl, by omega, z2, z3⟩
    | cons hh tl =>
      rw [e1, List.length_cons] at hk
      exact ⟨j + 1, hh, tl, Nat.le_refl _, e1, by omega⟩
end RZ1
