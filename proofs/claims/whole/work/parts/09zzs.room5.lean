/-! room for types: cells, rows, what & gives; arguments -/
section RM5
variable {T T' T1 S S' Sa : gSt} {X : Lx} {p q k m n f v i e lo hi lo' hi' : Nat} {x y w r s a b : Int32} {z : T5} {nm : Int64} {ta tb t : Tr} {R R' : ChR}
theorem pot_sr : pot (srS X T q) = pot T := by
  unfold srS
  split
  · rfl
  · exact pot_fl
theorem pot_sl : pot (slS X T q) = pot T := by
  unfold slS
  split
  · rw [pot_fl, pot_sr]
  · exact pot_sr
theorem pot_wa : ∀ (m k : Nat) (T : gSt) (w : Int32), pot (waX X m T q k w).2 = pot T := by
  intro m
  induction m with
  | zero => intro k T w; rfl
  | succ m ih =>
    intro k T w
    rw [waX]
    split
    · rw [ih, pot_sr]
    · rfl
theorem md_bad {js : List T5} {sk : Int32} (h : ¬ T.1 7 0 = 0) : (mdC X (chk X ta) ta sk r js T).2.2.2 = T := by
  unfold mdC
  rw [chk_bad h]
  have e : (erR T).2.2.2 = T := rfl
  dsimp only
  have e2 : (if T.1 7 0 = 0 ∧ ¬ 0 ≤ (erR T).1 then flT T 4 (plT X ta) else T) = T := by rw [if_neg (fun z => h z.1)]
  rw [e, e2, if_neg h]
  rfl
theorem rm_cell (hk : xK X i = 29) (hA : RF X ta) (hw : Wb X ta false lo hi) (h : Ck T) (hq : Hq T) (hc : cn T < 6000) : RBq X (tD 8 i e ta tb) T (clLv X (chk X ta) ta i T) := by
  have c1 : cw X (tD 8 i e ta tb) = cw X ta + 4 := by
    show (if xK X i = 29 then _ else _) = _
    rw [if_pos hk]
  have tk : tkd X (tD 8 i e ta tb) = 8 := by
    show (if xK X i = 29 then 8 else _) = 8
    rw [if_pos hk]
  unfold clLv
  dsimp only
  have fe : FE T (slS X T (i + 1)) := FE.sl
  refine rb_bd (Sa := slS X T (i + 1)) (by rw [pot_sl]; omega) (fun q => md_bad q) (fe_md (chk_fe ta)) (fe.tg h.1) (fun c7 c6 => ?_)
  exact rm_md (n := 0) (rg_ok h.2.2) (Or.inl rfl) hA hw (h.sl hc) (hq.fe h fe c6) c7 c6 (by rw [pot_sl, c1]; omega) (by rw [tk]; omega)
theorem rm_rw (hk : xK X i = 30) (hA : RF X ta) (hB : RF X tb) (hw : Wb X ta false lo hi) (hw2 : Wb X tb false lo' hi') (h : Ck T) (hq : Hq T) (hc : cn T < 6000) : RBq X (tD 8 i e ta tb) T (rwC X (chk X ta) (chk X tb) ta tb i T) := by
  have c1 : cw X (tD 8 i e ta tb) = cw X ta + cw X tb + 5 := by
    show (if xK X i = 29 then _ else if xK X i = 30 then _ else _) = _
    rw [if_neg (by omega), if_pos hk]
  have tk : tkd X (tD 8 i e ta tb) = 9 := by
    show (if xK X i = 29 then 8 else if xK X i = 30 then 9 else _) = 9
    rw [if_neg (by omega), if_pos hk]
  unfold rwC
  dsimp only
  have fe : FE T (slS X T (i + 1)) := FE.sl
  have fall : FE (slS X T (i + 1)) (if (slS X T (i + 1)).1 7 0 = 0 then mdC X (chk X tb) tb 3 (srR X T (i + 1)) (chk X ta 0 0 (slS X T (i + 1))).2.2.1 (if (chk X ta 0 0 (slS X T (i + 1))).2.2.2.1 7 0 = 0 ∧ ¬ (chk X ta 0 0 (slS X T (i + 1))).1 = 0 then flT (chk X ta 0 0 (slS X T (i + 1))).2.2.2 4 (plT X ta) else (chk X ta 0 0 (slS X T (i + 1))).2.2.2) else erR (slS X T (i + 1))).2.2.2 := by
    split
    · refine FE.tr ((chk_fe (X := X) ta 0 0 _).tr ?_) (fe_md (chk_fe tb))
      split
      · exact FE.fl (by decide)
      · exact FE.rf
    · exact FE.rf
  refine rb_bd (Sa := slS X T (i + 1)) (by rw [pot_sl]; omega) (fun q => by rw [if_neg q]; rfl) fall (fe.tg h.1) (fun c7 c6 => ?_)
  rw [if_pos c7]
  have h1 := h.sl (X := X) (q := i + 1) hc
  have hq1 := hq.fe h fe c6
  have hs := (hA false lo hi 0 0 _ hw h1 hq1 c7 c6 (fun e => absurd e (by decide))).1 rfl
  have hfe := chk_fe (X := X) ta 0 0 (slS X T (i + 1))
  have e0 : pot (slS X T (i + 1)) = pot T := pot_sl
  generalize hR : chk X ta 0 0 (slS X T (i + 1)) = R at *
  have f2 : FE R.2.2.2 (if R.2.2.2.1 7 0 = 0 ∧ ¬ R.1 = 0 then flT R.2.2.2 4 (plT X ta) else R.2.2.2) := by
    split
    · exact FE.fl (by decide)
    · exact FE.rf
  refine rb_bd (Sa := R.2.2.2) (by have := hs.2; omega) (fun q => by rw [if_neg (fun z => q z.1), md_bad q]) (f2.tr (fe_md (chk_fe tb))) (hfe.tg h1.1) (fun d7 d6 => ?_)
  have s1 := (hs.1 d7 d6).1
  have hv := iv_ex0 (chk_inv ta) hw h1 (by rw [hR]; exact d6)
  rw [hR] at hv
  by_cases c2 : R.1 = 0
  · rw [if_neg (fun z => z.2 c2)]
    exact rm_md (n := 0) (rg_ok h.2.2) (Or.inr rfl) hB hw2 hv.1 (hq1.fe h1 hfe d6) d7 d6 (by omega) (by rw [tk]; omega)
  · rw [if_pos ⟨d7, c2⟩]
    have fb := flT_bad (T := R.2.2.2) (a := 4) (b := plT X ta) (by decide)
    refine ⟨fun g => ?_, ?_⟩
    · rw [md_bad fb] at g; exact absurd g fb
    · rw [md_bad fb, pot_fl]; omega
theorem dpt_s : ∀ (f : Nat) (x : Int32), dpt T (f + 1) x ≤ dpt T f x + 1 := by
  intro f
  induction f with
  | zero =>
    intro x
    rw [dpt, dpt]
    split
    · split
      · omega
      · rw [dpt]; omega
    · omega
  | succ f ih =>
    intro x
    have e1 : dpt T (f + 1 + 1) x = (if 0 < x then (if 0 ≤ T.1 69 x.toNatClampNeg then 1 else 1 + dpt T (f + 1) (T.1 68 x.toNatClampNeg)) else 0) := rfl
    have e2 : dpt T (f + 1) x = (if 0 < x then (if 0 ≤ T.1 69 x.toNatClampNeg then 1 else 1 + dpt T f (T.1 68 x.toNatClampNeg)) else 0) := rfl
    rw [e1, e2]
    split
    · split
      · omega
      · have := ih (T.1 68 x.toNatClampNeg); omega
    · omega
theorem rm_an (hA : RF X ta) (hw : Wb X ta false lo hi) (h : Ck T) (hq : Hq T) (h0 : T.1 7 0 = 0) (hc : cn T < 6000) : RBq X (tD 9 i e ta tb) T (anC X (chk X ta) ta T) := by
  have hs := (hA false lo hi 0 0 T hw h hq h0 hc (fun e => absurd e (by decide))).1 rfl
  have hfe := chk_fe (X := X) ta 0 0 T
  have c1 : cw X (tD 9 i e ta tb) = cw X ta + 1 := rfl
  have tk : tkd X (tD 9 i e ta tb) = 10 := rfl
  unfold anC
  by_cases ct : tkd X ta = 14 ∨ tkd X ta = 15
  · rw [if_pos ct]
    generalize hR : chk X ta 0 0 T = R at *
    dsimp only
    refine rb_bd (Sa := R.2.2.2) (by have := hs.2; omega) (fun q => by rw [if_neg q]; rfl) ?_ (hfe.tg h.1) (fun c7 c6 => ?_)
    · split
      · split
        · exact FE.fl (by decide)
        · exact FE.kn
      · exact FE.rf
    rw [if_pos c7]
    have hv := iv_ex0 (chk_inv ta) hw h (by rw [hR]; exact c6)
    rw [hR] at hv
    have s1 := hs.1 c7 c6
    by_cases c2 : tkd X ta = 14 ∧ R.2.2.2.1 12 (tf R.2.2.2 69 R.2.1).toNatClampNeg = 1
    · rw [if_pos c2]
      exact rb_f (by rw [pot_fl]; omega) (flT_bad (by decide))
    rw [if_neg c2]
    obtain ⟨p, e1, p1, p2, p3, p4⟩ := (hv.2 c7).2 ct
    have t1 := tf_row hv.1.1 p2
    rw [e1, t1.2.1]
    have k1 := cn_kn1 (z := (1, R.2.2.2.1 67 p, R.1, -1, 0)) hv.1.1
    have pa := pot_add (k := 1) (FE.kn (z := (1, R.2.2.2.1 67 p, R.1, -1, 0))) hv.1.1 (show Vv _ from hv.1.2.2.2.2.2.2.2) c6 k1
    refine ⟨fun g7 g6 => ⟨?_, fun q => by rw [tk] at q; omega, fun q => by rw [tk] at q; omega⟩, by show pot (knS R.2.2.2 (1, R.2.2.2.1 67 p, R.1, -1, 0)) ≤ _; omega⟩
    show pot (knS R.2.2.2 (1, R.2.2.2.1 67 p, R.1, -1, 0)) + off (knS R.2.2.2 (1, R.2.2.2.1 67 p, R.1, -1, 0)) (knR R.2.2.2 (1, R.2.2.2.1 67 p, R.1, -1, 0)) ≤ _
    have row : rwOk R.2.2.2 (cn R.2.2.2) (1, R.2.2.2.1 67 p, R.1, -1, 0) := ⟨Or.inl rfl, (hv.1.row p1 p2).2.1, PK.zr.up, fun _ => (by decide : ¬ (0 : Int32) ≤ -1), by
      show (if (0 : Int32) ≤ -1 then _ else _)
      rw [if_neg (by decide)]
      exact p4⟩
    have kk := hv.1.kn (z := (1, R.2.2.2.1 67 p, R.1, -1, 0)) row g6
    obtain ⟨q, q1, q2, q3, q4⟩ := kk.2
    have o4 := off_le (T := knS R.2.2.2 (1, R.2.2.2.1 67 p, R.1, -1, 0)) (tR_m2 kk.1.1 (Or.inr ⟨q, q1, q2, q3⟩))
    rcases ct with ct | ct
    · have s14 := s1.2.1 ct
      have rw4 := rwT_g q4
      have hq0 := nI_gt q2 (by omega : q < 100000)
      have d7 : dpt (knS R.2.2.2 (1, R.2.2.2.1 67 p, R.1, -1, 0)) 7 (nI q) = 1 + dpt R.2.2.2 6 R.1 := by
        rw [dpt, if_pos hq0, nc (by omega), rw4.2.2.2.1, if_neg (show ¬ (0 : Int32) ≤ -1 from by decide), rw4.2.2.1]
        show 1 + dpt _ 6 R.1 = _
        rw [dpt_fe FE.kn hv.1.1 hv.1.2.1 g6 p4]
      have ds : dpt R.2.2.2 7 R.1 ≤ dpt R.2.2.2 6 R.1 + 1 := dpt_s 6 R.1
      rw [q1] at o4 ⊢
      rw [off_p hq0, d7] at o4 ⊢
      by_cases a5 : 5 ≤ 1 + dpt R.2.2.2 6 R.1
      · rw [if_pos a5] at o4 ⊢; omega
      · rw [if_neg a5] at o4 ⊢
        by_cases a4 : 4 ≤ 1 + dpt R.2.2.2 6 R.1
        · rw [if_pos a4] at o4 ⊢; omega
        · rw [if_neg a4] at o4 ⊢; omega
    · have s15 := s1.2.2 ct
      omega
  · rw [if_neg ct]
    exact rb_f (by rw [pot_fl]; omega) (flT_bad (by decide))
/-- told with other regions, what holds a type that was there makes one row at most -/
theorem ch_one (hw : PK w 3) (hg : Tg T) (hr : Rws T) (hv : tV T x) (hd : dOk T (f + 1) x) (hc : cn (chT (f + 1) T x w).2 < 6000) (h68 : ¬ 0 ≤ (chT (f + 1) T x w).2.1 69 (chT (f + 1) T x w).1.toNatClampNeg → tV T ((chT (f + 1) T x w).2.1 68 (chT (f + 1) T x w).1.toNatClampNeg)) : cn (chT (f + 1) T x w).2 ≤ cn T + 1 := by
  rw [chT] at hc h68 ⊢
  by_cases hx : 0 < x
  · simp only [if_pos hx] at hc h68 ⊢
    obtain ⟨p, rfl, d1, d2, d3⟩ := hd hx
    have cp : (nI p).toNatClampNeg = p := nc (by omega)
    have hp1 : 1 ≤ p := by
      refine Nat.pos_of_ne_zero (fun e => ?_)
      subst e
      exact absurd hx (by decide)
    simp only [cp] at hc h68 ⊢
    by_cases h9 : 0 ≤ T.1 69 p
    · simp only [if_pos h9] at hc h68 ⊢
      exact cn_kn1 hg
    · simp only [if_neg h9] at hc h68 d3 ⊢
      obtain ⟨o1, o2, o3, o4, o5⟩ := hr p hp1 d2
      change T.1 66 p = 1 ∨ T.1 66 p = 2 ∨ T.1 66 p = 3 at o1
      change rC2 (T.1 67 p) at o2
      change (if 0 ≤ T.1 69 p then ∃ t, T.1 69 p = nI t ∧ t < inn T else T.1 68 p = 0 ∨ ∃ q, T.1 68 p = nI q ∧ 1 ≤ q ∧ q < p) at o5
      rw [if_neg h9] at o5
      have v1 : tV T (T.1 68 p) := o5.elim Or.inl (fun ⟨q, a, b, c⟩ => Or.inr ⟨q, a, b, by omega⟩)
      have fe := FE.ch (w := w) f T (T.1 68 p)
      have g1 := fe.tg hg
      have c1 := kn_lt g1 hc
      have i1 := ch_ok hw f T (T.1 68 p) hg hr v1 d3 c1
      have k1 := Rws.kn g1 i1.1 (z := (T.1 66 p, chP w (T.1 67 p), (chT f T (T.1 68 p) w).1, -1, 0)) ⟨o1, chP_ok o2 hw, PK.zr.up, fun _ => (by decide : ¬ (0 : Int32) ≤ -1), by
        show (if (0 : Int32) ≤ -1 then _ else _)
        rw [if_neg (by decide)]
        exact i1.2⟩ hc
      obtain ⟨k2, q, k3, k4, k5, k6⟩ := k1
      have r := rwT_g k6
      have cq : (nI q).toNatClampNeg = q := nc (by omega)
      rw [k3, cq, r.2.2.2.1, r.2.2.1] at h68
      have v2 : tV T (chT f T (T.1 68 p) w).1 := h68 (show ¬ (0 : Int32) ≤ -1 from by decide)
      have st : (chT f T (T.1 68 p) w).2 = T := by
        rcases v2 with z | ⟨q', z1, z2, z3⟩
        · exact ch_low hw f T (T.1 68 p) 0 hg hr v1 d3 c1 z (by have := hg.2.1; omega)
        · exact ch_low hw f T (T.1 68 p) q' hg hr v1 d3 c1 z1 z3
      have := cn_kn1 (z := (T.1 66 p, chP w (T.1 67 p), (chT f T (T.1 68 p) w).1, -1, 0)) g1
      rw [st] at this ⊢
      exact this
  · simp only [if_neg hx]
    omega
end RM5
