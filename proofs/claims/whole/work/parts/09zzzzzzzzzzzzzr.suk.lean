/-! places of the code: values given, REGIONS closed */
-/
section SUK
variable {v0 n0 : Nat} {M0 T0 S S' S1 S2 Sf : gSt} {X : Lx} {it e v g n n' n2 m m' m2 k i q c en j a b v' g' dd dd' u s n1 B L p : Nat} {t ta tb : Tr} {x y r w ys no b0 t1 : Int32} {st st' s0 : List Int32} {hs : List HD} {jj : T5} {ks js : List T5}
theorem slV_mo : ∀ d u, slV Sf S u ≤ slV Sf S (u + d) := by
  intro d
  induction d with
  | zero => intro u; exact Nat.le_refl _
  | succ d ih => intro u; rw [show u + (d + 1) = u + d + 1 by omega, slV]; have := ih u; omega
theorem slV_ap (h : ¬ a = b) : slV Sf S a + wS Sf (S.1 80 a) ≤ slV Sf S b ∨ slV Sf S b + wS Sf (S.1 80 b) ≤ slV Sf S a := by
  rcases Nat.lt_or_gt_of_ne h with w | w
  · left
    have := slV_mo (Sf := Sf) (S := S) (b - (a + 1)) (a + 1)
    rw [show a + 1 + (b - (a + 1)) = b by omega, slV] at this
    exact this
  · right
    have := slV_mo (Sf := Sf) (S := S) (a - (b + 1)) (b + 1)
    rw [show b + 1 + (a - (b + 1)) = a by omega, slV] at this
    exact this
theorem as_mk (fv : FV S S') (hu : u < vn S') (hl : SlB S' v') (e75 : S'.1 75 0 = S.1 75 0) (e76 : S'.1 76 0 = S.1 76 0) (e87 : S'.1 87 0 = S.1 87 0) (hx : S'.1 80 u = x) (h79 : S'.1 79 u = nI s) (s20 : s < 20) (htv : tV Sf x) (hfit : fitT Sf S t1 x) (ho : ∀ w s', w < vn S' → ¬ w = u → S'.1 79 w = nI s' → s' < 20 → w < vn S ∧ (fi (S'.1 81 0) s' = true → fi (S.1 81 0) s' = true) ∧ (fi (S'.1 82 0) s' = true → fi (S.1 82 0) s' = true)) (hkn : fi (S'.1 82 0) s = true → (∃ p, rowP Sf x p ∧ Sf.1 66 p = 2) → ∃ q, rowP Sf t1 q ∧ Sf.1 66 q = 1) (hh : ∀ h : HD, h ∈ hs → vn h.2.2 ≤ vn S' ∧ (∀ w, w < vn h.2.2 → h.2.2.1 79 w = S'.1 79 w ∧ h.2.2.1 80 w = S'.1 80 w) ∧ (u < vn h.2.2 → fi (h.2.2.1 82 0) s = false)) : AsS Sf S S' hs u s (slV Sf S' u) x t1 := by
  have er : rn S' = rn S := by unfold rn; rw [fv.1]
  obtain ⟨l1, l2, l3, l4⟩ := hl
  have slh : ∀ (h : gSt), (∀ w, w < vn h → h.1 80 w = S'.1 80 w) → ∀ w, w ≤ vn h → slV Sf h w = slV Sf S' w := by
    intro h h80 w
    induction w with
    | zero => intro _; rfl
    | succ w ih => intro hw; rw [slV, slV, ih (by omega), h80 w (by omega)]
  refine ⟨⟨er, fv.2.1, fv.2.2.1, fv.2.2.2.1, e75, e76, e87⟩, htv, hfit, s20, ?_, fun w s' ⟨a1, a2, a3, a4, a5⟩ => ?_, fun h hm w s' ⟨a1, a2, a3, a4, a5⟩ => ?_⟩
  · have := slV_le (Sf := Sf) (S := S') (u + 1)
    rw [slV, hx] at this
    omega
  · by_cases c : w = u
    · subst c
      have es : s' = s := nI_inj (by omega) (by omega) (by rw [← a2, h79])
      exact Or.inl ⟨es, hx, rfl, hkn⟩
    · have ne : ¬ s' = s := fun z => c (l4 w u a1 hu (by rw [a2, h79, z]))
      obtain ⟨o1, o2, o3⟩ := ho w s' a1 c a2 a3
      obtain ⟨b1, b2, b3⟩ := fv.2.2.2.2.2.1 w o1
      refine Or.inr ⟨ne, ⟨o1, by rw [← b1]; exact a2, a3, o2 a4, a5⟩, b2.symm, (slV_fv fv w (by omega)).symm, ?_, o3⟩
      have := slV_ap (Sf := Sf) (S := S') (a := w) (b := u) c
      rw [hx] at this
      exact this
  · obtain ⟨p1, p2, p3⟩ := hh h hm
    obtain ⟨q1, q2⟩ := p2 w a1
    have e1 := slh h.2.2 (fun w hw => (p2 w hw).2) w (by omega)
    by_cases c : w = u
    · subst c
      have es : s' = s := nI_inj (by omega) (by omega) (by rw [← a2, q1, h79])
      exact Or.inl ⟨es, by rw [q2]; exact hx, e1, p3 a1⟩
    · have ne : ¬ s' = s := fun z => c (l4 w u (by omega) hu (by rw [← q1, a2, h79, z]))
      refine Or.inr ⟨ne, ?_⟩
      unfold apW
      rw [e1, q2]
      have := slV_ap (Sf := Sf) (S := S') (a := w) (b := u) c
      rw [hx] at this
      exact this
/-- close */
-/
theorem gd_27 (cx : CxP M0 T0 Sf) (pl : PlH T0 Sf it n1 dd v S hs n' m') (hC : Ck S) (hF : FW S Sf) (hC' : Ck (csC X i S)) (hF' : FW (csC X i S) Sf) (hS : SI S v0 g n0) (h0 : S.1 7 0 = 0) (hR : rwC4 M0 n = (0, nI p, 0, 0) ∧ rwC4 M0 (n + 1) = (33, srR X S (i + 1), 0, 0) ∧ n' = n + 2) (hT : cw3 T0 m = (1, nI p, 0) ∧ (∃ c w, srR X S (i + 1) = nI c ∧ RgE (eN Sf it) S c w ∧ cw3 T0 (m + 1) = (53, nI w, 0)) ∧ m' = m + 2) (hk : (stS X it (tD 27 i e ta tb) ys no j S).1 7 0 = 0) (cont : (stS X it (tD 27 i e ta tb) ys no j S).1 83 0 = 1 → Gdk M0 T0 Sf n1 it k n' m' (stS X it (tD 27 i e ta tb) ys no j S) [] hs) : Gdk M0 T0 Sf n1 it k n m S [] hs := by
  have iv := pl.iv hC hF cx.2.1
  obtain ⟨js, sl, hdd, r83, hj, ln, lm, ps⟩ := pl
  obtain ⟨r1, r2, rfl⟩ := hR
  obtain ⟨t1, ⟨c', w, t2, t3, t4⟩, rfl⟩ := hT
  have e0 : stS X it (tD 27 i e ta tb) ys no j S = csC X i S := rfl
  rw [e0] at hk cont
  obtain ⟨c, q0, e1, c4, c12, hq, hq2, lv, ab, uq, e2, sg⟩ := cs_ok js.1 hC.2.2 h0 hk
  have fr := FR.cs js.1 hC.2.2 hS h0 hk
  have c12' : c' < 100000 := by
    have := t3
    rcases t3 with ⟨_, z⟩ | ⟨_, _, _, _, _, z, _⟩ <;> omega
  have ec : c' = c := nI_inj c12' (by omega) (by rw [← t2, e1])
  subst ec
  have o : ∀ k, k ≠ 75 → (csC X i S).1 k = S.1 k := fun k hk => by rw [e2]; unfold dlS; rw [sI_ne hk]
  have h77 : (csC X i S).1 77 0 = S.1 77 0 := by rw [o 77 (by omega)]
  have iv' := (js.fr fr h77).iv (sl.fv fr.1 h77 (Nat.le_refl _) sl.1) hC' hF' cx.2.1
  refine gd_stp iv (by omega) (by omega) (ps.le (by omega) (by omega)) r1 t1 ?_
  rw [e1] at r2
  have o75 : ∀ b, b < 32 → fi ((csC X i S).1 75 0) b = if b = c' then false else fi (S.1 75 0) b := fun b hb => by
    rw [e2]
    unfold dlS
    rw [sI_v, fi_of (by omega) hb]
  obtain ⟨_, g', n', _, _, e86, e84, _, g8, _, _, _, b6, _⟩ := js.1.mg
  have en' : arn S = n' := by unfold arn; rw [e84, nc (by omega)]
  have sh : ShtS Sf S (csC X i S) c' q0 := by
    refine ⟨⟨by unfold rn; rw [o 71 (by omega)], fun k _ => by rw [o 73 (by omega)], by unfold arn; rw [o 84 (by omega)], fun q _ => by rw [o 85 (by omega)], by rw [o 76 (by omega)], by rw [o 87 (by omega)]⟩, ⟨c4, c12, hq, hq2, lv, (isLv_fi (by omega)).mpr (by rw [o75 c' (by omega), if_pos rfl])⟩, fun x hx hc => ?_, fun q hq => ?_, uq, fun q b h1 h2 h3 h4 => ?_, fun u s ⟨a1, a2, a3, a4, a5⟩ => ?_⟩
    · rcases hc with hc | ⟨b, hc, b12⟩
      · rw [hc, isLv_m1, isLv_m1]
        exact isLv_ex (by omega) (by rw [o75 31 (by omega), if_neg (by omega)])
      · rw [hc]
        exact isLv_ex (by omega) (by rw [o75 b (by omega), if_neg (fun z => hx (by rw [hc, z]))])
    · rcases b6 q (by omega) with z | ⟨b, z, _, z2⟩
      · exact Or.inl z
      · exact Or.inr ⟨b, z, by omega⟩
    · have := (ab q h1 h2).2
      rw [h3] at this
      exact this
    · have ev : vn (csC X i S) = vn S := by unfold vn; rw [o 77 (by omega)]
      rw [o 79 (by omega)] at a2
      rw [o 81 (by omega)] at a4
      exact ⟨⟨by omega, a2, a3, a4, a5⟩, by rw [o 80 (by omega)], (slV_fv fr.1 u (by omega)).symm, fun w => by rw [o 82 (by omega)] at w; exact w⟩
  exact gd_ru iv (by omega) (by omega) (ps.le (by omega) (by omega)) (fun j hj => Or.inr (Or.inr (Or.inr (Or.inr (Or.inr (Or.inr (Or.inr (Or.inr (Or.inr (Or.inr (Or.inr (Or.inr (Or.inr (Or.inr (Or.inr (Or.inr (Or.inl ⟨c', w, q0, 0, 0, 0, csC X i S, r2, t4, rfl, sh, t3, iv', (cont (by rw [o 83 (by omega)]; exact r83)).le (by omega)⟩)))))))))))))))))
end SUK
