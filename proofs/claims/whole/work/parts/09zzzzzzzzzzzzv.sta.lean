/-! both machines: a region STEP begins -/
/-- what is known behind it -/
def EntS (Sf S S' : gSt) (en c w : Nat) : Prop := (4 ≤ c ∧ c < 12 ∧ rn S' = rn S + 1 ∧ (∀ k, k < rn S → S'.1 73 k = S.1 73 k) ∧ S'.1 73 (rn S) = nI c ∧ w + en = 4 + rn S ∧ en ≤ rn S ∧ w < 12) ∧ (arn S' = arn S + 1 ∧ S'.1 85 (arn S) = nI c ∧ ∀ q, q < arn S → S'.1 85 q = S.1 85 q ∧ ¬ S.1 85 q = nI c) ∧ ¬ isLv S' (nI c) = 0 ∧ (∀ x, ¬ x = nI c → (x = -1 ∨ ∃ b, x = nI b ∧ b < 12) → isLv S' x = isLv S x) ∧ S'.1 76 0 = S.1 76 0 ∧ S'.1 87 0 = S.1 87 0 ∧ ¬ sght S c ∧ (∀ q, q < arn S → S.1 85 q = -1 ∨ ∃ b, S.1 85 q = nI b ∧ b < 12) ∧ ∀ u s, vaP S' u s → vaP S u s ∧ S.1 80 u = S'.1 80 u ∧ slV Sf S u = slV Sf S' u ∧ (fi (S'.1 82 0) s = true → fi (S.1 82 0) s = true)
section STA
variable {M0 T0 Sf S Sh : gSt} {G G' : GH} {D D' : Nat → (Nat → AV) × Nat} {nf d d' nb nb' mk mk' na na' ng ng' e bs ph bt rb tb ie en hb k q u s i j c t h P W Dp n m it n1 : Nat} {rg rg' : Nat → Nat} {ρ : Nat → Nat} {va : Nat → AV} {M M' T T' : gSt} {v : AV} {x a b cc ee op y z w : Int32} {st s0 st' : List Int32} {ov o0 ov' : List AV} {hs : List HD} {F : FRM} {Fr : Nat → FRM} {f : Nat → Int32} {jj : T5} {r1 : Int32} {l1 : Int64} {tg : List Nat}
variable {S' : gSt} {ρ' : Nat → Nat}
theorem InO.eq (h : InO M T) (hM : ∀ k, k = 150 ∨ k = 151 → M'.1 k = M.1 k) (hT : ∀ k, k = 110 ∨ k = 111 → T'.1 k = T.1 k) : InO M' T' := by
  obtain ⟨w, i1, i2, i3, i4⟩ := h
  exact ⟨w, by rw [hM 150 (by omega)]; exact i1, by rw [hT 111 (by omega)]; exact i2, i3, by rw [hM 151 (by omega), hT 110 (by omega)]; exact i4⟩
theorem CoO.eq (h : CoO M T) (hM : ∀ k, k = 101 ∨ k = 104 ∨ k = 106 ∨ k = 107 ∨ k = 115 ∨ k = 152 → M'.1 k = M.1 k) (hT : ∀ k, k = 108 ∨ k = 109 ∨ k = 112 ∨ k = 113 ∨ k = 121 → T'.1 k = T.1 k) (h2 : ∀ q, q < 40 → T'.1 101 (17 * (q + 1) + 2) = T.1 101 (17 * (q + 1) + 2)) : CoO M' T' := by
  obtain ⟨k1, ⟨p, k2, k3, k4, k5⟩, k6, k7, k8, k9⟩ := h
  exact ⟨by rw [hM 101 (by omega), hT 108 (by omega)]; exact k1, ⟨p, by rw [hM 104 (by omega)]; exact k2, by rw [hT 113 (by omega)]; exact k3, k4, by rw [hM 152 (by omega), hT 112 (by omega)]; exact k5⟩, by rw [hM 106 (by omega), hT 109 (by omega)]; exact k6, by rw [hM 107 (by omega)]; exact k7, by rw [hT 121 (by omega)]; exact k8, fun q hq => by rw [hM 115 (by omega), h2 q hq]; exact k9 q hq⟩
theorem PgO.eq (h : PgO M0 T0 M T) (hM : ∀ k, k ≤ 99 → M'.1 k = M.1 k) (hM2 : M'.2 = M.2) (hT : ∀ k, k ≤ 98 → T'.1 k = T.1 k) (hT2 : T'.2 = T.2) : PgO M0 T0 M' T' := by
  obtain ⟨k1, k2, k3, k4⟩ := h
  exact ⟨fun k hk => by rw [hM k hk]; exact k1 k hk, hM2.trans k2, fun k hk => by rw [hT k hk]; exact k3 k hk, hT2.trans k4⟩
theorem VaO.rh (h : VaO Sf G nb rg na ng ρ va M T e bs S) (hg : ∀ u s, vaP S u s → gty Sf ρ (S.1 80 u) = gty Sf ρ' (S.1 80 u)) : VaO Sf G nb rg na ng ρ' va M T e bs S := fun u s hu => by
  rw [← hg u s hu]
  exact h u s hu
theorem HsO.rh : ∀ (hs : List HD), HsO Sf G nb rg na ng ρ va M T e bs ph rb tb hs → (∀ hd, hd ∈ hs → ∀ u s, vaP hd.2.2 u s → gty Sf ρ (hd.2.2.1 80 u) = gty Sf ρ' (hd.2.2.1 80 u)) → HsO Sf G nb rg na ng ρ' va M T e bs ph rb tb hs := by
  intro hs
  induction hs with
  | nil => intro _ _; trivial
  | cons hd hs ih =>
    intro h hg
    exact ⟨h.1, h.2.1.rh (hg hd List.mem_cons_self), ih h.2.2 (fun x hx => hg x (List.mem_cons_of_mem _ hx))⟩
theorem lvc_en (h : EntS Sf S S' en c i) : ∀ q, q ≤ arn S → lvc S' q = lvc S q := by
  obtain ⟨_, ⟨_, _, h2⟩, _, h4, _, _, _, h8, _⟩ := h
  intro q
  induction q with
  | zero => intro _; rfl
  | succ q ih =>
    intro hq
    rw [lvc, lvc, ih (by omega), (h2 q (by omega)).1, h4 _ (h2 q (by omega)).2 (h8 q (by omega))]
/-- REGIONS of the call -/
theorem RgO.ent (h : RgO rg na ng en ρ M T e S rb ie) (hs : EntS Sf S S' en c i) (hna : na = rb + lvc S (arn S)) (ho : ∀ r s, ot rg na ng r s → ot rg' (na + 1) (ng + 1) r s) (hr : ∀ i, i < na → rg' i = rg i) (hn : rg' na = ng) (hρ : ∀ b, ¬ b = c → ρ' b = ρ b) (hρc : ρ' c = ng) (hM : ∀ b, b < 12 → ¬ b = c → M'.1 121 (12 * e + b) = M.1 121 (12 * e + b)) (hMc : M'.1 121 (12 * e + c) = nI na) (hT : ∀ w, w < 17 → ¬ w = 5 + i → T'.1 101 (17 * (e + 1) + w) = T.1 101 (17 * (e + 1) + w)) (hTc : T'.1 101 (17 * (e + 1) + (5 + i)) = nI na) : RgO rg' (na + 1) (ng + 1) en ρ' M' T' e S' rb ie := by
  have lv := lvc_en hs
  obtain ⟨⟨z1, z2, z3, z4, z5, z6, z7, z8⟩, ⟨y1, y2, y3⟩, h3, h4, h5, h6, h7, h8, _⟩ := hs
  obtain ⟨⟨p1, p2, p3, p4, p5, p6⟩, q1, q2, q3, q4⟩ := h
  have lI : ∀ b, b < 12 → ¬ b = c → isLv S' (nI b) = isLv S (nI b) := fun b b12 hb => h4 _ (fun w => hb (nI_inj (by omega) (by omega) w)) (Or.inr ⟨b, rfl, b12⟩)
  have nc' : ∀ q b, q < arn S → S.1 85 q = nI b → b < 12 → ¬ b = c := fun q b hq hb _ w => (y3 q hq).2 (by rw [hb, w])
  refine ⟨⟨by rw [hρ 0 (by omega)]; exact p1, p2, by omega, fun b hb => by rw [hρ b (by omega)]; exact p4 b hb, p5, by rw [hT 5 (by omega) (by omega)]; exact p6⟩, fun q b hq hb b4 b12 => ?_, fun q q' b b' hqq hq' hb hb' b4 b12 b4' b12' => ?_, fun b b1 b3 hl => ?_, fun r s r1 r3 s1 s3 hf => ?_⟩
  · by_cases hqa : q < arn S
    · rw [(y3 q hqa).1] at hb
      have hbc := nc' q b hqa hb b12
      obtain ⟨k1, k2, k3⟩ := q1 q b hqa hb b4 b12
      rw [hρ b hbc]
      refine ⟨k1, by omega, ?_⟩
      unfold RgQx at k3 ⊢
      rw [lI b b12 hbc, hM b b12 hbc, lv q (by omega), hρ b hbc]
      by_cases z : isLv S (nI b) = 0
      · rw [if_pos z] at k3 ⊢
        exact k3
      · rw [if_neg z] at k3 ⊢
        have := lvc_lt hqa hb b12 z
        refine ⟨k3.1, by rw [hr _ (by omega)]; exact k3.2.1, fun w hw => ?_⟩
        have hw12 := RgE_12 hw
        rcases hw with ⟨w1, w2⟩ | ⟨j, j1, j2, j3, j4, j5, j6⟩
        · omega
        · have hj : en + j < rn S := by
            refine Decidable.byContradiction fun w0 => ?_
            have : en + j = rn S := by omega
            rw [this, z5] at j3
            exact hbc (nI_inj (by omega) (by omega) j3).symm
          rw [hT (5 + w) (by omega) (by omega)]
          exact k3.2.2 w (Or.inr ⟨j, hj, j2, by rw [← z4 _ hj]; exact j3, j4, j5, j6⟩)
    · have hq0 : q = arn S := by omega
      subst hq0
      rw [y2] at hb
      have hbc : c = b := nI_inj (by omega) (by omega) hb
      subst hbc
      rw [hρc]
      refine ⟨p3, by omega, ?_⟩
      unfold RgQx
      rw [if_neg h3, lv _ (Nat.le_refl _), ← hna, hρc]
      refine ⟨hMc, hn, fun w hw => ?_⟩
      rcases hw with ⟨w1, w2⟩ | ⟨j, j1, j2, j3, j4, j5, j6⟩
      · omega
      · have hj : en + j = rn S := by
          refine Decidable.byContradiction fun w0 => ?_
          have hl : en + j < rn S := by omega
          rw [z4 _ hl] at j3
          exact h7 (Or.inr ⟨z2, en + j, hl, j3⟩)
        rw [show w = i by omega]
        exact hTc
  · have hqa : q < arn S := by omega
    rw [(y3 q hqa).1] at hb
    have hbc := nc' q b hqa hb b12
    obtain ⟨k1, k2, k3⟩ := q1 q b hqa hb b4 b12
    rw [hρ b hbc]
    by_cases hqa' : q' < arn S
    · rw [(y3 q' hqa').1] at hb'
      have hbc' := nc' q' b' hqa' hb' b12'
      rw [hρ b' hbc']
      exact q2 q q' b b' hqq hqa' hb hb' b4 b12 b4' b12'
    · have hq0 : q' = arn S := by omega
      subst hq0
      rw [y2] at hb'
      have hbc' : c = b' := nI_inj (by omega) (by omega) hb'
      subst hbc'
      rw [hρc]
      exact k2
  · rw [lI b (by omega) (by omega)] at hl
    obtain ⟨i0, i1, i2, i3, i4⟩ := q3 b b1 b3 hl
    exact ⟨i0, i1, by rw [hM b (by omega) (by omega)]; exact i2, by rw [hT (5 + b) (by omega) (by omega)]; exact i3, by rw [hr _ (by omega), hρ b (by omega)]; exact i4⟩
  · rw [hρ r (by omega), hρ s (by omega)]
    exact ho _ _ (q4 r s r1 r3 s1 s3 (by rw [← h5]; exact hf))
theorem st_enter (cx : CxP M0 T0 Sf) (h : Sim M0 T0 Sf G D nb mk rg na ng P W Fr Dp M T) (rn : RnO M T) (hn : fn (Fr Dp) = n) (hm : fm (Fr Dp) = m) (hn2 : n < 12000) (h51 : T0.1 51 0 = nI n1) (hm2 : m < n1) (h6 : n1 ≤ 6032) (rowR : rwC4 M0 n = (31, nI c, cc, ee)) (rowC : cw3 T0 m = (52, nI i, y)) (hst : fst' (Fr Dp) = []) (ht : EntS Sf (fS (Fr Dp)) S' (eN Sf (fit (Fr Dp))) c i) (hH : ∀ hd, hd ∈ fhs (Fr Dp) → VwS Sf hd.2.2) (hI : IvP Sf (fit (Fr Dp)) S' [] (fhs (Fr Dp))) (hd : 20 ≤ d) (hd' : 20 ≤ d') : ∃ M' T' rg' ρ', StR nf d M M' ∧ StC nf d' T T' ∧ RnO M' T' ∧ (∀ b, ¬ b = c → ρ' b = fρ (Fr Dp) b) ∧ Sim M0 T0 Sf G D nb mk rg' (na + 1) (ng + 1) P W (updF Fr Dp (mkF S' ρ' (fva (Fr Dp)) [] [] (fhs (Fr Dp)) (fit (Fr Dp)) (n + 1) (m + 1) (fbs (Fr Dp)) (fph (Fr Dp)) (frb (Fr Dp)) (ftb (Fr Dp)) (fie (Fr Dp)))) Dp M' T' := by
  obtain ⟨w1, w2, w3, w4, w5, w6, w7, w8, w9⟩ := h.rw (n := n) (m := m)
  obtain ⟨b1, b2, b3, b4, b5⟩ := h.bd
  have hc6 : cn Sf ≤ 6000 := by have := cx.2.1; omega
  obtain ⟨fr, iv⟩ := h.fr
  have lv := lvc_en ht
  have hT0 := ht
  obtain ⟨⟨z1, z2, z3, z4, z5, z6, z7, z8⟩, ⟨y1', y2', y3'⟩, h3, h4, h5, h6', h7, h8, h9⟩ := ht
  have hS := h
  obtain ⟨a1, ⟨a2, a3, a4⟩, a5, a6, a7, a8, a9, a10⟩ := h
  obtain ⟨y1, y2, y3, y4, y5, y6, y7⟩ := a6
  rw [hst] at y1 y2
  obtain ⟨f1, f2, f3, f4, f5, f6⟩ := fr
  obtain ⟨g1, g2, g3, g4, g5, g6, g7⟩ := a1.1
  have l8 := (lvc_8 hI.2.1).1
  have lvE : lvc S' (arn S') = lvc (fS (Fr Dp)) (arn (fS (Fr Dp))) + 1 := by
    rw [y1', lvc, lv _ (Nat.le_refl _), y2', if_pos ⟨nI_ge0 (by omega), h3⟩]
  have na' : na < 321 := by omega
  have xr := x_r31 (M := sI M 102 0 (nI (n + 1))) (nf := nf) (d := d) (y := cc) (z := ee) (e := Dp) (c := c) (r := na) (by rw [tp_102 (by omega)]; exact w8) a2 z2 (by rw [tp_102 (by omega)]; exact g1) (by omega) (by omega)
  have xc := c_openI (T := sI T 105 0 (nI (m + 1))) (nf := nf) (d := d') (y := y) (k := i) (r := na) (c := Dp + 1) (by rw [tp_105 (by omega)]; exact g2) na' (by rw [tp_105 (by omega)]; exact w9) (by omega) z8 (by omega)
  have mO : ∀ k, k ≠ 102 → k ≠ 121 → k ≠ 129 → ¬ (133 ≤ k ∧ k ≤ 136) → (enM (sI M 102 0 (nI (n + 1))) (12 * Dp + c) na).1 k = M.1 k := fun k k1 k2 k3 k4 => by
    unfold enM
    rw [sI_ne k3, sI_ne (by omega), sI_ne (by omega), sI_ne (by omega), sI_ne (by omega), sI_ne k2, sI_ne k1]
  have m121 : ∀ j, ¬ j = 12 * Dp + c → (enM (sI M 102 0 (nI (n + 1))) (12 * Dp + c) na).1 121 j = M.1 121 j := fun j hj => by
    unfold enM
    rw [sI_ne (by omega), sI_ne (by omega), sI_ne (by omega), sI_ne (by omega), sI_ne (by omega), rdI, if_neg (by omega), sI_ne (by omega)]
  have m121c : (enM (sI M 102 0 (nI (n + 1))) (12 * Dp + c) na).1 121 (12 * Dp + c) = nI na := by
    unfold enM
    rw [sI_ne (by omega), sI_ne (by omega), sI_ne (by omega), sI_ne (by omega), sI_ne (by omega), sI_v]
  have tO : ∀ k, k ≠ 101 → k ≠ 105 → ¬ (122 ≤ k ∧ k ≤ 127) → (sI (opM (sI T 105 0 (nI (m + 1))) na) 101 (17 * (Dp + 1) + (5 + i)) (nI na)).1 k = T.1 k := fun k k1 k2 k3 => by
    unfold opM
    rw [sI_ne k1, sI_ne (by omega), sI_ne (by omega), sI_ne (by omega), sI_ne (by omega), sI_ne (by omega), sI_ne (by omega), sI_ne k2]
  have t101 : ∀ j, ¬ j = 17 * (Dp + 1) + (5 + i) → (sI (opM (sI T 105 0 (nI (m + 1))) na) 101 (17 * (Dp + 1) + (5 + i)) (nI na)).1 101 j = T.1 101 j := fun j hj => by
    unfold opM
    rw [rdI, if_neg (by omega), sI_ne (by omega), sI_ne (by omega), sI_ne (by omega), sI_ne (by omega), sI_ne (by omega), sI_ne (by omega), sI_ne (by omega)]
  have rgE : ∀ j, j < na → (fun j => if j = na then ng else rg j) j = rg j := fun j hj => if_neg (by omega)
  have rgN : (fun j => if j = na then ng else rg j) na = ng := if_pos rfl
  have hρ : ∀ b, ¬ b = c → (fun b => if b = c then ng else fρ (Fr Dp) b) b = fρ (Fr Dp) b := fun b hb => if_neg hb
  have hG : ∀ b, b ≤ nb → G b = G b := fun _ _ => rfl
  have ho : ∀ r s, ot rg na ng r s → ot (fun j => if j = na then ng else rg j) (na + 1) (ng + 1) r s := fun r s w => w.op rgE rgN (by omega)
  have hH1 : HpI G D nb mk (fun j => if j = na then ng else rg j) (na + 1) (ng + 1) P W (enM (sI M 102 0 (nI (n + 1))) (12 * Dp + c) na) (sI (opM (sI T 105 0 (nI (m + 1))) na) 101 (17 * (Dp + 1) + (5 + i)) (nI na)) := by
    refine a1.opn na' (fun k hk => mO k (by omega) (by omega) (by omega) (by omega)) ?_ (fun k k1 k2 => ?_) (fun k k1 k2 => tO k (by omega) (by omega) (by omega)) ?_ (fun k k1 k2 => ?_) rgE rgN
    · unfold enM
      rw [sI_v]
    · have : k = 133 ∨ k = 134 ∨ k = 135 ∨ k = 136 := by omega
      unfold enM
      rcases this with e | e | e | e <;> subst e <;> exact ⟨by simp [rdI], fun j hj => by simp [rdI, hj]⟩
    · unfold opM
      rw [sI_ne (by omega), sI_v]
    · have : k = 123 ∨ k = 124 ∨ k = 125 ∨ k = 126 ∨ k = 127 := by omega
      unfold opM
      rcases this with e | e | e | e | e <;> subst e <;> exact ⟨by simp [rdI], fun j hj => by simp [rdI, hj]⟩
  have tyE : ∀ x, TyIn Sf (fS (Fr Dp)) x → gty Sf (fρ (Fr Dp)) x = gty Sf (fun b => if b = c then ng else fρ (Fr Dp) b) x := fun x hx => hx _ _ (fun b hb => (hρ b (fun w => h7 (by rw [← w]; exact hb))).symm)
  have frN : FrO Sf G nb (fun j => if j = na then ng else rg j) (na + 1) (ng + 1) (enM (sI M 102 0 (nI (n + 1))) (12 * Dp + c) na) (sI (opM (sI T 105 0 (nI (m + 1))) na) 101 (17 * (Dp + 1) + (5 + i)) (nI na)) Dp (mkF S' (fun b => if b = c then ng else fρ (Fr Dp) b) (fva (Fr Dp)) [] [] (fhs (Fr Dp)) (fit (Fr Dp)) (n + 1) (m + 1) (fbs (Fr Dp)) (fph (Fr Dp)) (frb (Fr Dp)) (ftb (Fr Dp)) (fie (Fr Dp))) := by
    refine ⟨((f1.le h9).rh (fun u s hu => ?_)).mo hG (Nat.le_refl _) ho (fun k s k1 k2 _ => by rw [mO k (by omega) (by omega) (by omega) (by omega)]) (fun q _ => by rw [tO 99 (by omega) (by omega) (by omega)]), True.intro, f3.ent hT0 y3 ho rgE rgN hρ (if_pos rfl) (fun b _ hb => m121 _ (by omega)) m121c (fun w _ hw => t101 _ (by omega)) (by rw [sI_v]), ?_, HsO.mo _ (HsO.rh _ f5 (fun hd hhd u s hu => ?_)) hG (Nat.le_refl _) ho (fun k s k1 k2 _ => by rw [mO k (by omega) (by omega) (by omega) (by omega)]) (fun k q k1 k2 _ => by rw [mO k (by omega) (by omega) (by omega) (by omega)]) (fun q _ => by rw [tO 99 (by omega) (by omega) (by omega)]) (fun q _ => by rw [tO 103 (by omega) (by omega) (by omega)]), ?_⟩
    · obtain ⟨v1, v2, _⟩ := h9 u s hu
      rw [← v2]
      exact tyE _ (iv.1.2.2.2.1 u v1.1).2
    · obtain ⟨k, k1, k2, k3⟩ := f4
      refine ⟨k, h6'.trans k1, k2, fun j hj1 hj2 => ?_⟩
      rw [tO 99 (by omega) (by omega) (by omega), mO 122 (by omega) (by omega) (by omega) (by omega)]
      exact k3 j hj1 hj2
    · have pf := iv.2.2.2.2.2.2.2.2 hd hhd
      have ty := ((hH hd hhd).2.2.2.1 u hu.1).2
      refine ty _ _ (fun b hb => (hρ b (fun w => h7 ?_)).symm)
      rw [w] at hb
      rcases hb with hb | ⟨b12, k, k1, k2⟩
      · exact Or.inl hb
      · exact Or.inr ⟨b12, k, Nat.lt_of_lt_of_le k1 pf.1, by rw [← pf.2.1 k k1]; exact k2⟩
    · show (sI (opM (sI T 105 0 (nI (m + 1))) na) 101 (17 * (Dp + 1) + (5 + i)) (nI na)).1 101 (17 * (Dp + 1) + 1) = nI (fbs (Fr Dp)) ∧ (sI (opM (sI T 105 0 (nI (m + 1))) na) 101 (17 * (Dp + 1) + (5 + i)) (nI na)).1 101 (17 * (Dp + 1) + 3) = nI (frb (Fr Dp)) ∧ (sI (opM (sI T 105 0 (nI (m + 1))) na) 101 (17 * (Dp + 1) + (5 + i)) (nI na)).1 101 (17 * (Dp + 1) + 4) = nI (ftb (Fr Dp)) ∧ (enM (sI M 102 0 (nI (n + 1))) (12 * Dp + c) na).1 116 Dp = nI (frb (Fr Dp))
      rw [t101 _ (by omega), t101 _ (by omega), t101 _ (by omega), mO 116 (by omega) (by omega) (by omega) (by omega)]
      exact f6
  refine ⟨(enM (sI M 102 0 (nI (n + 1))) (12 * Dp + c) na), (sI (opM (sI T 105 0 (nI (m + 1))) na) 101 (17 * (Dp + 1) + (5 + i)) (nI na)), (fun j => if j = na then ng else rg j), (fun b => if b = c then ng else fρ (Fr Dp) b), StR.of (by rw [w4, hn]) hn2 (by rw [w1]; exact rowR) (by decide) xr, StC.of (op := 52) (x := nI i) (y := y) (r1 := 0) (l1 := 0) (by rw [w5, hm]) (by rw [w3]; exact h51) h6 hm2 (by rw [w2]; exact rowC) (by decide) (by rw [dC_214 (by decide) (by decide) (by decide) (by decide) (by decide)]; exact xc), ⟨by rw [mO 100 (by omega) (by omega) (by omega) (by omega)]; exact rn.1, by rw [tO 106 (by omega) (by omega) (by omega)]; exact rn.2⟩, hρ, ?_⟩
  refine Sim.set cx.1 hc6 hS hH1 ho (fun j hj => rgE j (by omega)) (by omega) frN hI rfl rfl rfl rfl ⟨?_, ?_, ?_, ?_, ?_, ?_, ?_⟩ (mO 103 (by omega) (by omega) (by omega) (by omega)) (tO 102 (by omega) (by omega) (by omega)) (mO 114 (by omega) (by omega) (by omega) (by omega)) (fun k q hk => ?_) (fun q _ => t101 q (by omega)) (fun q hq => by rw [tO 103 (by omega) (by omega) (by omega)]) (fun q hq => by rw [tO 99 (by omega) (by omega) (by omega)]) (a7.eq (fun k hk => mO k (by omega) (by omega) (by omega) (by omega)) (fun k hk => tO k (by omega) (by omega) (by omega))) (a8.eq (fun k hk => mO k (by omega) (by omega) (by omega) (by omega)) (fun k hk => tO k (by omega) (by omega) (by omega)) (fun q hq => t101 _ (by omega))) (a9.eq (fun k hk => mO k (by omega) (by omega) (by omega) (by omega)) rfl (fun k hk => tO k (by omega) (by omega) (by omega)) rfl)
  · rw [mO 109 (by omega) (by omega) (by omega) (by omega)]; exact y1
  · rw [tO 100 (by omega) (by omega) (by omega)]; exact y2
  · show na + 1 = frb (Fr Dp) + lvc S' (arn S')
    rw [lvE]
    omega
  · rw [mO 123 (by omega) (by omega) (by omega) (by omega)]; exact y4
  · rw [tO 104 (by omega) (by omega) (by omega)]; exact y5
  · unfold enM
    rw [sI_ne (by omega), sI_ne (by omega), sI_ne (by omega), sI_ne (by omega), sI_ne (by omega), sI_ne (by omega), sI_v]
    rfl
  · unfold opM
    rw [sI_ne (by omega), sI_ne (by omega), sI_ne (by omega), sI_ne (by omega), sI_ne (by omega), sI_ne (by omega), sI_ne (by omega), sI_v]
    rfl
  · by_cases k121 : k = 121
    · rw [k121]
      exact m121 q (by omega)
    · rw [mO k (by omega) (by omega) (by omega) (by omega)]
end STA
