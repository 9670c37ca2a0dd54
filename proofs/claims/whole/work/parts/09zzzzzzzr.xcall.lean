/-! a call behind its arguments -/
section CYR
variable {R : RgR} {S S' S0 S1 S2 T T' T1 T2 : gSt} {X : Lx} {nf d i k n m t e w c a b q g f h r s y z lo hi dd mb y1 y2 kd kw kw1 lv lv1 st u h1 h2 zw np N : Nat} {x v x' pl pr u1 u2 u3 op x1 x2 : Int32} {sl : Int32 → Int32} {ta tb tr : Tr} {o : Bool}
theorem ch_m1 {f : Nat} {w : Int32} : chT f S (-1) w = (-1, S) := by
  cases f with
  | zero => rfl
  | succ f => rw [chT, if_neg (by decide)]
/-- what heads tell of a fun -/
theorem AiO.fn (hh : AiO X S T t) (h2 : S.1 12 t = 2) : ∃ w y, S.1 31 t = nI w ∧ w ≤ 3 ∧ T.1 46 t = nI w ∧ (∀ q, q < w → PiR S T t q) ∧ T.1 39 t = S.1 30 t ∧ T.1 38 t = nI y ∧ y < 16387 ∧ TyR R0 S T 5 (S.1 26 t) y ∧ (S.1 25 t < 0 → S.1 26 t = -1) := by
  obtain ⟨c, x, b1, b2, b3, b4, b5, b6, b7, b8, b9, b10, b11⟩ := hh
  obtain ⟨ii, e, l, rt, dt, n, wt, w, bd⟩ := x
  have k12 : xK X ii = 12 := by
    have b4' : S.1 12 t = (if xK X ii = 10 then 0 else if xK X ii = 11 then 1 else 2) := b4
    have b5' : xK X ii = 10 ∨ xK X ii = 11 ∨ xK X ii = 12 := b5
    rw [h2] at b4'
    rcases b5' with q | q | q
    · rw [if_pos q] at b4'; exact absurd b4' (by decide)
    · rw [if_neg (by omega), if_pos q] at b4'; exact absurd b4' (by decide)
    · exact q
  obtain ⟨⟨y, y1, y2, y3⟩, d1, d2, d3, d4⟩ := b3.2.2.1 k12
  exact ⟨w, y, b9, b10, d2, d4, d1, y1, y2, y3, fun q => b11 q h2⟩
theorem y_clt (hX : XO X) (hnf : 16385 ≤ nf) (ht : t < 24) (hit : t < itN T) (hg : g < 4096) (hi : i < 90000) (hW : WX X T) (hd : 90 ≤ d) : wp (clT nf d i t g T) (fun rr _ T' => ∃ y, rr = nI y ∧ tyY T' y ∧ FX T T' ∧ ∀ R sl S n W, XR R sl X S T → DgR R W g → t < inn S → S.1 12 t = 2 → T.1 51 0 = nI n → n < 6032 → lvC T 16384 + 30 < 16384 → BfR (cwhS X (nI t) (nI W) (i + 1) (S.1 31 t).toNatClampNeg 0 S) T' ∨ (cwhS X (nI t) (nI W) (i + 1) (S.1 31 t).toNatClampNeg 0 S = S ∧ (cn (chT 7 S (S.1 26 t) (nI W)).2 < 6000 → Ck (chT 7 S (S.1 26 t) (nI W)).2 → XR R sl X (chT 7 S (S.1 26 t) (nI W)).2 T' ∧ TyF S (chT 7 S (S.1 26 t) (nI W)).2 T T' ∧ TyR R (chT 7 S (S.1 26 t) (nI W)).2 T' 5 (chT 7 S (S.1 26 t) (nI W)).1 y ∧ T'.1 51 0 = nI (n + 1) ∧ cw3 T' n = (57, nI t, nI g) ∧ lvC T' 16384 ≤ lvC T 16384 + 6))) := by
  obtain ⟨d, rfl⟩ : ∃ g, d = g + 1 := ⟨d - 1, by omega⟩
  have zt : inb (nI t) 24 := nin ht (by omega)
  have ct : (nI t).toNatClampNeg = t := nc (by omega)
  obtain ⟨np, j1', j2, ⟨y38, j3, j3'⟩, j4, w, j5, j6, j7⟩ := hW.2.2.2.2.2.2.2.2 t hit
  unfold clT
  rw [e_Exprs_checkWhere]
  unfold rb_Exprs_checkWhere
  refine wp_bi (y_whl (nf := nf) (d := d) hX ht hg hi j6 (by omega) w 0 nf T (by omega) (by omega) hW j5 j7) ?_
  intro _ _ T1 ⟨f1, hB⟩
  have x1 := hW.fx f1
  obtain ⟨r6, T2, m1, m2, m3⟩ := a_emit (nf := nf) (d := d + 1) (T := T1) (x := 57) (y := nI t) (z := nI g) f1.2.2.1 x1.2.2.2.2.2.1 (by omega)
  have f12 := f1.tr m2
  obtain ⟨y, T3, k1, k2, k3⟩ := k_told (nf := nf) (g := g) hnf hg 6 1 y38 (d + 1) T2 f12.2.2.1 (by omega) (by omega) (f12.2.2.2.1 _ j3') (by omega)
  rw [m1, bis, gd, if_pos zt, ct, f12.o (k := 38) (by omega), j3, show PP nf (d + 1) 98 T2 [nI y38, nI g, (1 : Int32)] [] = _ from k1, bis]
  refine wp_some ⟨y, rfl, k2, f12.tr k3.fx, fun R sl S n W hR hD htn h12 h51 hn hl => ?_⟩
  obtain ⟨w', y', q1, q2, q3, q4, q5, q6, q7, q8, q9⟩ := (hR.2.2.2.2.2.2.2.2.1 t htn).fn h12
  have ew : w' = w := nI_inj (by omega) (by omega) (by rw [← q3, ← j5])
  subst ew
  have ey : y' = y38 := nI_inj (by omega) (by have := j3'.lt; omega) (by rw [← q6, ← j3])
  subst ey
  rw [q1, nc (by omega)]
  rcases hB R sl S W hR hD q4 with bf | ⟨eT, ec⟩
  · exact Or.inl (bf.fx (m2.tr k3.fx))
  · refine Or.inr ⟨ec, fun hcn hck => ?_⟩
    subst eT
    have e2 := m3 n h51 hn
    obtain ⟨a1, a2, a3, a4, a5⟩ := hR.em (S2 := S) (T5 := T1) (u1 := 57) (u2 := nI t) (u3 := nI g) h51 hn (fun _ _ => rfl) rfl rfl (fun _ _ _ => rfl) hR.2.1 hR.2.2.2.2.2.2.2.2.2.2
    rw [← e2] at a1 a2 a3 a5
    obtain ⟨y2, T3', t1, t2, t3, t4⟩ := told_ok (nf := nf) (W := W) (g := g) hnf hR.2.2.2.1 hD 5 S T2 (S.1 26 t) y' 1 7 (d + 1) (TyR.mo a2 (fun _ _ z => z) _ _ _ q8) (by omega) (by omega) (by omega) hR.2.1.1 f12.2.2.1.1 (by omega) hcn (by omega)
    rw [show PP nf (d + 1) 98 T2 [nI y', nI g, nI 1] [] = _ from k1] at t1
    simp only [Option.some.injEq, Prod.mk.injEq, true_and] at t1
    obtain ⟨t1a, rfl⟩ := t1
    have eyy : y = y2 := nI_inj (by have := k2.lt; omega) (by have := t2.lt; omega) t1a
    subst eyy
    refine ⟨a1.fx t3 (FE.ch _ _ _) k3.fx (by rw [chT_o (by omega)]; exact a1.h0) (by rw [k3.1]; exact a1.h53) hck (a1.2.2.2.2.2.2.2.2.2.2.st (by rw [k3.1]) (fun k _ _ => by rw [chT_o (by omega)])), a2.tr t3, t2, by rw [k3.1, e2]; exact em_51, ?_, by have := t4.2.2.2; omega⟩
    unfold cw3
    rw [k3.1]
    show cw3 T2 n = _
    rw [e2]
    exact em_row
end CYR
