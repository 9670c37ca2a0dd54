/-! new, on both sides -/
section CYW
variable {R : RgR} {S S' S0 S1 S2 SR T T' T1 T2 T3 T4 T5 : gSt} {X : Lx} {nf d i k n m t e w c a b q g f h r s y z lo hi dd mb y1 y2 y4 y5 kd kw kw1 lv lv1 st u h1 h2 zw np N W cnt tk : Nat} {x v x' pl pr u1 u2 u3 op x1 x2 : Int32} {sl : Int32 → Int32} {ta tb tr : Tr} {o : Bool} {A : ChF}
theorem XG_z (hh : XG X ta m 1) : isZ ta = false := by
  unfold isZ
  split
  · unfold XG at hh
    exact absurd hh (by decide)
  · rfl
theorem TyR.k5 (hh : TyR R S T f x y) : kdC T y ≤ 5 := by
  rcases hh.rd with ⟨_, _, e3⟩ | ⟨_, _, e3⟩ | ⟨_, _, e3⟩ | ⟨p, kd, r, n, b, g, e0, e1, e2, e3, e4, ec, e5, e6, e7, e8, e9, e9', e9'', e10, e11, e12, _⟩ <;> omega
/-- REGION, TITLE and the pointer, on both sides -/
theorem nw_pre (hX : XO X) (hnf : 16385 ≤ nf) (hz : ∀ q, xK X q = 4 → ¬ xN X q = 0) (hR : XR R sl X S T) (hw : WX X T) (g3 : e = rgs (xK X) 3 (i + 3)) (g5 : xK X (i + 2) = 3) (hb : i + 3 + e ≤ xn X) (hlv : lvC T 16384 + 30 < 16384) (hd : 6 ≤ d) (hr : r < 12) (hB : BfR (slS X S (i + 1)) T3 ∨ (slS X S (i + 1) = S ∧ T3 = T ∧ ∃ c, srR X S (i + 1) = nI c ∧ R c r)) (b1 : PP nf d 138 T3 [nI (i + 2)] [] = some (nI y4, 0, T4)) (b2 : y4 < 16387) (b3 : FwH T3 T4) (c1 : PP nf d 88 T4 [nI 3, nI r, nI y4] [] = some (nI y5, 0, T5)) (c2 : y5 < 16387) (c4 : FtW T4 T5) : (∃ S0, nwC X A ta i e S = erR S0 ∧ BfR S0 T5) ∨ ∃ c t W g q s, T3 = T ∧ R c r ∧ t < 24 ∧ t < inn S ∧ ¬ (2 : Int32) ≤ S.1 12 t ∧ g < 4096 ∧ PkR R S t (nI W) g ∧ DgR R W g ∧ nwC X A ta i e S = nwD X A ta i e (nI c) (nI t) (nI W) S ∧ KpQ T T4 q (6 + 8 * t + 256 * g) ∧ y4 = q + 3 ∧ KpQ T4 T5 s (3 + 8 * r + 128 * (q + 3)) ∧ y5 = s + 3 ∧ tbC T5 y5 = nI t ∧ rbC T5 y5 = g ∧ rkC T5 y5 = r := by
  rcases hB with bf | ⟨e1, e2, c, e3, e4⟩
  · left
    refine ⟨slS X S (i + 1), ?_, (bf.kp b3).kp c4.fh⟩
    unfold nwC
    dsimp only
    rw [if_neg bf.1]
  · subst e2
    obtain ⟨y', T', q1, q2, q3, q4⟩ := g_title (nf := nf) (i := i) (d := d) hX hnf hz hR.2.2.2.1 hw.1 hR.1.2.1 hR.1.2.2.1 hR.h0 hR.h53 hw.2.1 (by omega) g5 (by rw [← g3]; exact hb) (by omega)
    rw [b1] at q1
    simp only [Option.some.injEq, Prod.mk.injEq, true_and] at q1
    obtain ⟨q1a, rfl⟩ := q1
    have ey : y4 = y' := nI_inj (by omega) (by have := q2.lt; omega) q1a
    subst ey
    have et : (if 0 ≤ ff (isTi S (xN X (i + 2))) 0 (inn S) then (if S.1 15 (ff (isTi S (xN X (i + 2))) 0 (inn S)).toNatClampNeg = nI e then S else flT S 7 (nI (xP X (i + 2)))) else flT S 3 (nI (xP X (i + 2)))) = tiS X S i := by
      unfold tiS
      rw [g3]
    have sp : nwC X A ta i e S = if (waX X e (tiS X S i) (i + 3) 0 0).2.1 7 0 = 0 then nwD X A ta i e (nI c) (ff (isTi S (xN X (i + 2))) 0 (inn S)) (waX X e (tiS X S i) (i + 3) 0 0).1 (waX X e (tiS X S i) (i + 3) 0 0).2 else erR (waX X e (tiS X S i) (i + 3) 0 0).2 := by
      unfold nwC
      dsimp only
      rw [e1, if_pos hR.h0, et, e3]
    rw [← g3] at q4
    rcases q4 with ⟨a1, t, g, q, a2, a3, a4, a5, a6, a7⟩ | bf
    · right
      subst a6
      obtain ⟨W, w1, w2⟩ := a5.dg hR.2.2.2.1 a4
      obtain ⟨s, T'', p1, p2⟩ := c_ptr (nf := nf) (d := d) (T := T4) (k := 3) (r := r) (b := q + 3) hnf a7.2.2.2.1 (by have := a7.2.2.2.2.2.2.2.1; omega) (by omega) (by omega) (by omega) (by omega)
      rw [c1] at p1
      simp only [Option.some.injEq, Prod.mk.injEq, true_and] at p1
      obtain ⟨p1a, rfl⟩ := p1
      have sl' := p2.1
      have ys : y5 = s + 3 := nI_inj (by omega) (by omega) p1a
      subst ys
      have ekm : KM = 16777216 := rfl
      have ky := p2.key (by omega)
      have ky1 := a7.key (by omega)
      have old := p2.old (q := q) (by omega) ky1.2
      have k5 : kdC T5 (s + 3) = 3 := by unfold kdC; rw [if_neg (by omega), ky.1]; omega
      have b5 : bhC T5 (s + 3) = q + 3 := by unfold bhC; rw [ky.1]; omega
      have ko : kO T5 (q + 3) = 6 + 8 * t + 256 * g := by rw [old.2.2]; exact ky1.1
      have ti : t < inn S ∧ ¬ (2 : Int32) ≤ S.1 12 t := by
        rcases ff_val (p := isTi S (xN X (i + 2))) (k := inn S) (i := 0) with e | ⟨t', _, h2, h3, e⟩
        · rw [a2] at e; exact absurd e (nI_m1 (by omega))
        · have i24 : inn S ≤ 24 := by
            obtain ⟨n', n1, n2, n3, _⟩ := hR.1.2.2.1
            omega
          rw [a2] at e
          have : t = t' := nI_inj (by omega) (by omega) e
          subst this
          unfold isTi at h3
          simp only [Bool.and_eq_true, decide_eq_true_eq] at h3
          exact ⟨by omega, h3.1⟩
      refine ⟨c, t, W, g, q, s, rfl, e4, a3, ti.1, ti.2, a4, by rw [← w1]; exact a5, w2, ?_, a7, rfl, p2, rfl, ?_, ?_, ?_⟩
      · rw [sp, a1, if_pos hR.h0, w1, a2]
      · unfold tbC
        rw [k5, b5, ko, if_pos ⟨Or.inl rfl, by omega⟩, show (6 + 8 * t + 256 * g) / 8 % 32 = t by omega]
      · unfold rbC
        rw [b5, ko]
        omega
      · unfold rkC
        rw [ky.1]
        omega
    · left
      exact ⟨_, by rw [sp, if_neg bf.1], bf.kp c4.fh⟩
/-- the pointer that is made, at its end -/
theorem nw_ptr (hR : XR R sl X SR T') (hW : WT T') (hq1 : q < 16384) (hl1 : lvK T' q) (hk1 : kO T' (q + 3) = 6 + 8 * t + 256 * g) (hq2 : s < 16384) (hl2 : lvK T' s) (hk2 : kO T' (s + 3) = 3 + 8 * r + 128 * (q + 3)) (hc : R c r) (ht : t < 24) (hg : g < 4096) (hp : PkR R SR t (nI W) g) (hcn : cn (knS SR (1, nI c, -1, nI t, nI W)) < 6000) (ck : Ck (knS SR (1, nI c, -1, nI t, nI W))) : XR R sl X (knS SR (1, nI c, -1, nI t, nI W)) T' ∧ TyF SR (knS SR (1, nI c, -1, nI t, nI W)) T' T' ∧ TyR R (knS SR (1, nI c, -1, nI t, nI W)) T' 1 (knR SR (1, nI c, -1, nI t, nI W)) (s + 3) ∧ itR R (knS SR (1, nI c, -1, nI t, nI W)) T' (knR SR (1, nI c, -1, nI t, nI W)) t := by
  have hI := hW.1
  have hrr := hR.2.2.2.2.1 _ _ hc
  have K1 : KpQ T' T' q (6 + 8 * t + 256 * g) := by
    have := KpQ.rf (b := q + 3) (k := 6 + 8 * t + 256 * g) hI (by omega) (by omega) (by rw [show q + 3 - 3 = q by omega]; exact hl1) hk1
    rw [show q + 3 - 3 = q by omega] at this
    exact this
  have K2 : KpQ T' T' s (1 + 2 + 8 * r + 128 * (q + 3)) := by
    have := KpQ.rf (b := s + 3) (k := 1 + 2 + 8 * r + 128 * (q + 3)) hI (by omega) (by omega) (by rw [show s + 3 - 3 = s by omega]; exact hl2) hk2
    rw [show s + 3 - 3 = s by omega] at this
    exact this
  have hgT := hR.2.1.1
  have ty := ty_thg (R := R) (S := SR) (kd := 1) (r := c) (n := r) (f := 0) (zz := (1, nI c, -1, nI t, nI W)) hgT hcn rfl (by omega) (by omega) hc (by omega) (by omega) ht hg hp K1 K2
  have F : TyF SR (knS SR (1, nI c, -1, nI t, nI W)) T' T' := TyF.kn hgT hcn K2
  refine ⟨hR.kn (FtW.rf hW) F ck, F, ty, 1, s + 3, ty, ?_, ?_, ht⟩
  · obtain ⟨p, p1, p2, p3, p4, p5⟩ := kn_row hgT hcn
    rw [p1]
    exact nIpos p2 (by omega)
  · obtain ⟨p, p1, p2, p3, p4, p5⟩ := kn_row hgT hcn
    rw [p1, nc (by omega)]
    unfold rwT at p4
    simp only [Prod.mk.injEq] at p4
    exact p4.2.2.2.1
/-- struct: arguments, and the make -/
theorem nw_st (hR : XR R sl X S T) (hw : WX X T) (hq1 : KpQ T T4 q (6 + 8 * t + 256 * g)) (hq2 : KpQ T4 T5 s (3 + 8 * r + 128 * (q + 3))) (f5 : FX T T5) (hc0 : cn S < 6000) : XR R sl X (mkS S) (sI T5 52 6 (T5.1 52 6 + 1)) ∧ TyF S (mkS S) T (sI T5 52 6 (T5.1 52 6 + 1)) ∧ lvC (sI T5 52 6 (T5.1 52 6 + 1)) 16384 ≤ lvC T 16384 + 2 := by
  have e51 : T5.1 = T.1 := hq2.2.2.2.2.1.trans hq1.2.2.2.2.1
  have F5 : TyF S S T T5 := hq1.tf.tr hq2.tf
  have R5 : XR R sl X S T5 := hR.fx F5 FE.rf f5 hR.h0 (by rw [e51]; exact hR.h53) hR.2.1 (hR.2.2.2.2.2.2.2.2.2.2.st (by rw [e51]) (fun _ _ _ => rfl))
  have F6 : TyF S (mkS S) T5 (sI T5 52 6 (T5.1 52 6 + 1)) := TyF.st (by unfold mkS; rw [sI_ne (by omega)]) (fun k _ _ => by unfold mkS; rw [sI_ne (by omega)]) (by unfold mkS; rw [sI_ne (by omega)]) rfl rfl
  refine ⟨R5.fx F6 FE.mk (FX.ta f5.2.2.1 (by omega)) (by rw [mI_7]; exact hR.h0) (by rw [sI_ne (by omega), e51]; exact hR.h53) (hR.2.1.wr (by omega) hc0) R5.2.2.2.2.2.2.2.2.2.2.mk, F5.tr F6, ?_⟩
  have l1 := hq1.2.2.2.2.2.2.2.1
  have l2 := hq2.2.2.2.2.2.2.2.1
  have : lvC (sI T5 52 6 (T5.1 52 6 + 1)) 16384 = lvC T5 16384 := lvC_62 (T := T5) (T' := sI T5 52 6 (T5.1 52 6 + 1)) rfl rfl 16384
  omega
end CYW
