/-! structs, unions, funs: the grammar -/
def pField (K : Nat → Nat) (j : Nat) : Except Nat Nat := if K j = 2 then (if K (j + 1) = 48 then pTy K 6 false (j + 2) else .error (j + 1)) else .error j
def pFl (K : Nat → Nat) : Nat → Nat → Nat → Except Nat (List Nat × Nat)
  | 0, _, j => .error j
  | f + 1, q, j => if q = 8 then .error j else match pField K j with
    | .error e => .error e
    | .ok j2 => if K j2 = 46 then (if K (j2 + 1) = 41 then .ok ([j], j2 + 1) else match pFl K f (q + 1) (j2 + 1) with
      | .error e => .error e
      | .ok (l, j3) => .ok (j :: l, j3)) else .error j2
def pPa (K : Nat → Nat) : Nat → Nat → Nat → Except Nat (List Nat × Nat)
  | 0, _, j => .error j
  | f + 1, q, j => if K j = 43 then .ok ([], j) else if q ≠ 0 ∧ K j ≠ 47 then .error j else if q = 6 then .error (j + 1) else match pField K (if q = 0 then j else j + 1) with
    | .error e => .error e
    | .ok j2 => match pPa K f (q + 1) j2 with
      | .error e => .error e
      | .ok (l, j3) => .ok ((if q = 0 then j else j + 1) :: l, j3)
def pWh (K : Nat → Nat) : Nat → Nat → Nat → Except Nat (Nat × Nat)
  | 0, _, j => .error j
  | f + 1, q, j => if q = 3 then .error j else if K j ≠ 4 then .error j else if K (j + 1) ≠ 52 then .error (j + 1) else if K (j + 2) ≠ 4 then .error (j + 2) else if K (j + 3) = 47 then pWh K f (q + 1) (j + 4) else .ok (q + 1, j + 3)
/-! what the reading of heads leaves as it was; the numbers at work -/
abbrev pyI (g : Nat) : Prop := (2 ≤ g ∧ g ≤ 5) ∨ g = 7 ∨ g = 8 ∨ (11 ≤ g ∧ g ≤ 64)
abbrev pyJ (g : Nat) : Prop := g = 6 ∨ (13 ≤ g ∧ g ≤ 56)
abbrev Fy (T T' : gSt) : Prop := (∀ g, ¬ pyI g → T'.1 g = T.1 g) ∧ (∀ g, ¬ pyJ g → T'.2 g = T.2 g)
/-- the item at work, and how many fields there are -/
abbrev Ic (T : gSt) (t c : Nat) : Prop := T.1 64 0 = nI t ∧ t < 24 ∧ T.1 20 0 = nI c ∧ c < 220
/-- behind a fault -/
abbrev Zi (X : Lx) (e : Nat) (T0 : gSt) (B : Nat) (T : gSt) : Prop := T.1 7 0 = 1 ∧ T.1 8 0 = nI (xP X e) ∧ Fy T0 T ∧ T.1 49 0 = nI (nN T) ∧ nN T ≤ B ∧ e ≤ xn X
/-- the fields of heads from 11 to 36 and 64 stay but those told -/
abbrev Fh (T T' : gSt) : Prop := (∀ g, (11 ≤ g ∧ g ≤ 36) ∨ g = 64 → T'.1 g = T.1 g) ∧ (∀ g, (13 ≤ g ∧ g ≤ 32) → T'.2 g = T.2 g)
section IH
variable {nf d : Nat} {T T0 T1 T2 : gSt} {X : Lx} {e B i j m n v g t c : Nat}
theorem Fz.fy (h : Fz T T1) : Fy T T1 := ⟨fun g q => h.1 g (by omega), fun g q => h.2 g (by omega)⟩
theorem Fz.fh (h : Fz T T1) : Fh T T1 := ⟨fun g q => h.1 g (by omega), fun g q => h.2 g (by omega)⟩
theorem Fy.rf : Fy T T := ⟨fun _ _ => rfl, fun _ _ => rfl⟩
theorem Fy.tr (h : Fy T0 T) (h2 : Fy T T1) : Fy T0 T1 := ⟨fun g q => (h2.1 g q).trans (h.1 g q), fun g q => (h2.2 g q).trans (h.2 g q)⟩
theorem Fy.w {g j : Nat} {x : Int32} (h : Fy T0 T) (hg : pyI g) : Fy T0 (sI T g j x) := ⟨fun g' q => (sI_ne (fun e => q (by rw [e]; exact hg))).trans (h.1 g' q), h.2⟩
theorem Fy.wj {g j : Nat} {x : Int64} (h : Fy T0 T) (hg : pyJ g) : Fy T0 (sJ T g j x) := ⟨h.1, fun g' q => (sJ_ne (fun e => q (by rw [e]; exact hg))).trans (h.2 g' q)⟩
theorem Zb.zi (h : Zb X e T B T1) (hy : Fy T0 T) (he : e ≤ xn X) : Zi X e T0 B T1 := ⟨h.1, h.2.1, hy.tr h.2.2.1.fy, h.2.2.2.1, h.2.2.2.2, he⟩
theorem Zi.bd (h : Zi X e T0 B T) : ¬ T.1 7 0 = 0 := by rw [h.1]; decide
theorem Zi.w {g j : Nat} {x : Int32} (h : Zi X e T0 B T) (hg : (11 ≤ g ∧ g ≤ 36) ∨ g = 62 ∨ g = 63 ∨ g = 64) : Zi X e T0 B (sI T g j x) := ⟨by rw [sI_ne (by omega)]; exact h.1, by rw [sI_ne (by omega)]; exact h.2.1, h.2.2.1.w (by omega), by rw [sI_ne (by omega), nN_w (by omega)]; exact h.2.2.2.1, by rw [nN_w (by omega)]; exact h.2.2.2.2.1, h.2.2.2.2.2⟩
theorem Zi.wj {g j : Nat} {x : Int64} (h : Zi X e T0 B T) (hg : 13 ≤ g ∧ g ≤ 32) : Zi X e T0 B (sJ T g j x) := ⟨h.1, h.2.1, h.2.2.1.wj (by omega), h.2.2.2⟩
theorem Zi.le {C : Nat} (h : Zi X e T0 B T) (hB : B ≤ C) : Zi X e T0 C T := ⟨h.1, h.2.1, h.2.2.1, h.2.2.2.1, Nat.le_trans h.2.2.2.2.1 hB, h.2.2.2.2.2⟩
theorem Zi.fy (hS : Fy T0 T1) (h : Zi X e T1 B T) : Zi X e T0 B T := ⟨h.1, h.2.1, hS.tr h.2.2.1, h.2.2.2⟩
/-- a write to a field of heads -/
theorem Gd.wh {g j : Nat} {x : Int32} (h : Gd X T i) (hg : (11 ≤ g ∧ g ≤ 36) ∨ g = 62 ∨ g = 63 ∨ g = 64) : Gd X (sI T g j x) i := ⟨h.1.w (by omega), by rw [sI_ne (by omega)]; exact h.2.1, by rw [sI_ne (by omega), nN_w (by omega)]; exact h.2.2.1, by rw [sI_ne (by omega), nU_w (by omega)]; exact h.2.2.2.1, by rw [nU_w (by omega)]; exact h.2.2.2.2⟩
theorem Gw.wh {g j : Nat} {x : Int32} (h : Gw T i) (hg : g ≠ 37) : Gw (sI T g j x) i := ⟨by rw [sI_ne (fun e => hg e.symm), nW_w hg]; exact h.1, by rw [nW_w hg]; exact h.2⟩
theorem Gw.adv (h : Gw T i) : Gw (advS T) (i + 1) := ⟨by rw [advS_i (by omega), nW_adv]; exact h.1, by rw [nW_adv]; have := h.2; omega⟩
/-- nodes, uses and written TYPES are as they were -/
abbrev Fn (T T' : gSt) : Prop := Ag T T' 0 (nN T) ∧ nN T ≤ nN T' ∧ Aw T T'
theorem Fn.rf : Fn T T := ⟨Ag.rf, Nat.le_refl _, Aw.rf⟩
theorem Fn.tr (h : Fn T0 T) (h2 : Fn T T1) : Fn T0 T1 := ⟨h.1.tr h2.1 (Nat.le_refl _) h.2.1, Nat.le_trans h.2.1 h2.2.1, h.2.2.tr h2.2.2⟩
theorem Fs.fn (h : Fs T T1) : Fn T T1 := ⟨h.2.1, h.2.2.1, h.2.2.2⟩
theorem Fn.w {g j : Nat} {x : Int32} (h : Fn T0 T) (hg : (11 ≤ g ∧ g ≤ 36) ∨ g = 62 ∨ g = 63 ∨ g = 64) : Fn T0 (sI T g j x) := ⟨⟨fun g' j' a b c d e => by rw [sI_ne (by omega)]; exact h.1.1 g' j' a b c d e, h.1.2.1, by rw [nU_w (by omega)]; exact h.1.2.2.1, fun j' hj' => ⟨(h.1.2.2.2 j' hj').1, by rw [sI_ne (by omega)]; exact (h.1.2.2.2 j' hj').2⟩⟩, by rw [nN_w (by omega)]; exact h.2.1, h.2.2.tr ⟨by rw [nU_w (by omega)]; exact Nat.le_refl _, fun j' _ => ⟨rfl, by rw [sI_ne (by omega)]⟩, by rw [nW_w (by omega)]; exact Nat.le_refl _, fun g' j' a b _ => by rw [sI_ne (by omega)], fun _ _ => rfl⟩⟩
theorem Fn.wj {g j : Nat} {x : Int64} (h : Fn T0 T) (hg : 13 ≤ g ∧ g ≤ 32) : Fn T0 (sJ T g j x) := ⟨⟨h.1.1, fun j' d e => by rw [sJ_ne (by omega)]; exact h.1.2.1 j' d e, h.1.2.2.1, fun j' hj' => ⟨by rw [sJ_ne (by omega)]; exact (h.1.2.2.2 j' hj').1, (h.1.2.2.2 j' hj').2⟩⟩, h.2.1, h.2.2.tr ⟨Nat.le_refl _, fun j' _ => ⟨by rw [sJ_ne (by omega)], rfl⟩, Nat.le_refl _, fun _ _ _ _ _ => rfl, fun j' _ => by rw [sJ_ne (by omega)]⟩⟩
theorem Fn.adv (h : Fn T0 T) : Fn T0 (advS T) := h.tr Fe.rf.adv.fs.fn
/-- a field or parameter in its row: NAME token j -/
abbrev RepF (X : Lx) (T : gSt) (c j : Nat) : Prop := T.2 21 c = xN X j ∧ T.1 22 c = nI (xP X j) ∧ ∃ w, T.1 23 c = nI w ∧ RepW X T 6 w (j + 2)
/-- what reading a field comes to: all heads' numbers stay but a field more -/
abbrev Fdd (t c q : Nat) (T T' : gSt) : Prop := Fy T T' ∧ Fn T T' ∧ T'.1 62 = T.1 62 ∧ T'.1 63 = T.1 63 ∧ nN T' = nN T ∧ T'.1 20 0 = nI (c + 1) ∧ T'.1 64 0 = nI t ∧ T'.1 19 t = nI (q + 1) ∧ (∀ g j, 11 ≤ g → g ≤ 36 → ¬ (g = 20) → ¬ (g = 19 ∧ j = t) → ¬ (22 ≤ g ∧ g ≤ 23 ∧ j = c) → T'.1 g j = T.1 g j) ∧ (∀ g j, 13 ≤ g → g ≤ 32 → ¬ (g = 21 ∧ j = c) → T'.2 g j = T.2 g j)
def DQ (X : Lx) (T : gSt) (t c q j : Nat) (res : Except Nat Nat) (T' : gSt) : Prop := match res with
  | .ok j2 => j < j2 ∧ Gd X T' j2 ∧ Gw T' j2 ∧ Fdd t c q T T' ∧ RepF X T' c j
  | .error e => j ≤ e ∧ Zi X e T (nN T) T' ∧ ∃ c', Ic T' t c' ∧ c' ≤ c + 1
set_option maxHeartbeats 4000000 in
theorem x_field (hX : LX X) (hnf : 5000 ≤ nf) {q : Nat} (hG : Gd X T j) (hW : Gw T j) (hI : Ic T t c) (hc : c < 219) (hq : T.1 19 t = nI q) (hq2 : q ≤ 8) : wp (RR nf (d + 30) 25 T [] []) (fun _ _ T' => DQ X T t c q j (pField (xK X) j) T') := by
  have hx := hX.1
  have hj0 := hG.1.1
  obtain ⟨i1, i2, i3, i4⟩ := hI
  have hcI : inb (nI c) 220 := nin (by omega) (by omega)
  have cc : (nI c).toNatClampNeg = c := nc (by omega)
  have htI : inb (nI t) 24 := nin (by omega) (by omega)
  have ct : (nI t).toNatClampNeg = t := nc (by omega)
  rw [e_Model_readField]
  unfold rb_Model_readField pField
  refine wp_gd (by rw [i3]; exact hcI) ?_
  refine wp_st ?_
  refine wp_gd (by rw [rdJI, i3]; exact hcI) ?_
  refine wp_st ?_
  rw [show (sJ T 21 (T.1 20 0).toNatClampNeg (T.2 6 0)).1 20 0 = T.1 20 0 from rfl, show (sJ T 21 (T.1 20 0).toNatClampNeg (T.2 6 0)).1 3 0 = T.1 3 0 from rfl, i3, cc, hG.pl]
  have hG1 : Gd X (sI (sJ T 21 c (T.2 6 0)) 22 c (nI (xP X j))) j := (hG.wj (by omega)).wh (by omega)
  have hW1 : Gw (sI (sJ T 21 c (T.2 6 0)) 22 c (nI (xP X j))) j := Gw.wh (T := sJ T 21 c (T.2 6 0)) hW (by omega)
  have hy1 : Fy T (sI (sJ T 21 c (T.2 6 0)) 22 c (nI (xP X j))) := (Fy.rf.wj (by omega)).w (by omega)
  have hn1 : Fn T (sI (sJ T 21 c (T.2 6 0)) 22 c (nI (xP X j))) := (Fn.rf.wj (by omega)).w (by omega)
  have hN1 : nN (sI (sJ T 21 c (T.2 6 0)) 22 c (nI (xP X j))) = nN T := by rw [nN_w (by omega), nN_wj]
  have f1 : ∀ g j', g ≠ 22 → (sI (sJ T 21 c (T.2 6 0)) 22 c (nI (xP X j))).1 g j' = T.1 g j' := fun g j' h => by rw [sI_ne h, rdJI]
  have f2 : ∀ j', j' ≠ c → (sI (sJ T 21 c (T.2 6 0)) 22 c (nI (xP X j))).1 22 j' = T.1 22 j' := fun j' h => by rw [rdI, if_neg (by omega), rdJI]
  have f3 : (sI (sJ T 21 c (T.2 6 0)) 22 c (nI (xP X j))).1 22 c = nI (xP X j) := sI_v
  have l1 : ∀ g j', ¬ (g = 21 ∧ j' = c) → (sI (sJ T 21 c (T.2 6 0)) 22 c (nI (xP X j))).2 g j' = T.2 g j' := fun g j' h => by rw [rdIJ, rdJ, if_neg h]
  have l2 : (sI (sJ T 21 c (T.2 6 0)) 22 c (nI (xP X j))).2 21 c = T.2 6 0 := by rw [rdIJ, sJ_v]
  generalize sI (sJ T 21 c (T.2 6 0)) 22 c (nI (xP X j)) = S1 at *
  -- behind a fault
  have bd : ∀ S e, Zb X e S1 (nN T) S → j ≤ e → e ≤ xn X → wp (bi (RR nf (d + 29) 14 S [] []) fun r5 l5 T5 => if r5 = (0 : Int32) then (vK (T5.1 20 0) fun z7 => stK (sI T5 20 0 ((T5.1 20 0) + (1 : Int32))) fun T8 => gd (inb (T8.1 64 0) 24) <| gd (inb (T8.1 64 0) 24) <| stK (sI T8 19 (T8.1 64 0).toNatClampNeg ((T8.1 19 (T8.1 64 0).toNatClampNeg) + (1 : Int32))) fun T10 => bi (RR nf (d + 29) 28 T10 [(1 : Int32)] []) fun r11 l11 T11 => gd (inb z7 220) <| stK (sI T11 23 z7.toNatClampNeg r11) fun T12 => some (0, 0, T12)) else (some (0, 0, T5))) (fun _ _ T' => DQ X T t c q j (.error e) T') := by
    intro S e hz h1 h2
    refine wp_be (q_bad1 hz.bd) ?_
    refine wp_f (by decide) ?_
    refine wp_some ⟨h1, hz.zi hy1 h2, c, ⟨?_, i2, ?_, i4⟩, by omega⟩
    · rw [hz.2.2.1.1 64 (by omega), f1 64 0 (by omega)]; exact i1
    · rw [hz.2.2.1.1 20 (by omega), f1 20 0 (by omega)]; exact i3
  refine g_name (d := d + 26) hX hG1 (fun k2 hj => ?_) (fun k2 w S hz => ?_)
  · rw [if_pos k2]
    have hG2 := hG1.adv hX hj
    have hj2 := hG2.1.1
    refine g_need (d := d + 25) hX 48 hG2 rfl (by omega) (by omega) (fun k48 hj3 => ?_) (fun k48 S hz => ?_)
    · rw [if_pos k48]
      have hG3 := hG2.adv hX hj3
      have hW3 : Gw (advS (advS S1)) (j + 2) := hW1.adv.adv
      have hn3 : Fn T (advS (advS S1)) := hn1.adv.adv
      have g1 : ∀ g' j', 5 < g' → (advS (advS S1)).1 g' j' = S1.1 g' j' := fun g' j' h => by rw [advS_i (by omega), advS_i (by omega)]
      have g2 : ∀ g' j', g' ≠ 6 → (advS (advS S1)).2 g' j' = S1.2 g' j' := fun g' j' h => by rw [advS_j h, advS_j h]
      have hN3 : nN (advS (advS S1)) = nN T := by rw [nN_adv, nN_adv, hN1]
      have hy3 : Fy T (advS (advS S1)) := hy1.tr (Fz.rf.adv.adv).fy
      generalize advS (advS S1) = S3 at *
      refine wp_be (q_bad0 hG3.2.1) ?_
      refine wp_t rfl ?_
      refine wp_v ?_
      refine wp_st ?_
      rw [show S3.1 20 0 = nI c from (g1 20 0 (by omega)).trans ((f1 20 0 (by omega)).trans i3), nI_1]
      have e64 : (sI S3 20 0 (nI (c + 1))).1 64 0 = nI t := by rw [sI_ne (by omega), g1 64 0 (by omega), f1 64 0 (by omega)]; exact i1
      refine wp_gd (by rw [e64]; exact htI) ?_
      refine wp_gd (by rw [e64]; exact htI) ?_
      refine wp_st ?_
      rw [e64, ct, show (sI S3 20 0 (nI (c + 1))).1 19 t = nI q by rw [sI_ne (by omega), g1 19 t (by omega), f1 19 t (by omega)]; exact hq, nI_1]
      have hG4 : Gd X (sI (sI S3 20 0 (nI (c + 1))) 19 t (nI (q + 1))) (j + 2) := (hG3.wh (by omega)).wh (by omega)
      have hW4 : Gw (sI (sI S3 20 0 (nI (c + 1))) 19 t (nI (q + 1))) (j + 2) := (hW3.wh (by omega)).wh (by omega)
      have hn4 : Fn T (sI (sI S3 20 0 (nI (c + 1))) 19 t (nI (q + 1))) := (hn3.w (by omega)).w (by omega)
      have hy4 : Fy T (sI (sI S3 20 0 (nI (c + 1))) 19 t (nI (q + 1))) := (hy3.w (by omega)).w (by omega)
      have hN4 : nN (sI (sI S3 20 0 (nI (c + 1))) 19 t (nI (q + 1))) = nN T := by rw [nN_w (by omega), nN_w (by omega), hN3]
      have h20 : (sI (sI S3 20 0 (nI (c + 1))) 19 t (nI (q + 1))).1 20 0 = nI (c + 1) := by rw [sI_ne (by omega), sI_v]
      have h64 : (sI (sI S3 20 0 (nI (c + 1))) 19 t (nI (q + 1))).1 64 0 = nI t := by rw [sI_ne (by omega)]; exact e64
      have h19 : (sI (sI S3 20 0 (nI (c + 1))) 19 t (nI (q + 1))).1 19 t = nI (q + 1) := sI_v
      have m1 : ∀ g' j', 5 < g' → ¬ (g' = 20) → ¬ (g' = 19 ∧ j' = t) → ¬ (g' = 22 ∧ j' = c) → (sI (sI S3 20 0 (nI (c + 1))) 19 t (nI (q + 1))).1 g' j' = T.1 g' j' := by
        intro g' j' a b c' d'
        rw [rdI, if_neg c', sI_ne b, g1 g' j' a]
        by_cases e22 : g' = 22
        · rw [e22]; exact f2 j' (fun e => d' ⟨e22, e⟩)
        · exact f1 g' j' e22
      have m2 : ∀ g' j', g' ≠ 6 → ¬ (g' = 21 ∧ j' = c) → (sI (sI S3 20 0 (nI (c + 1))) 19 t (nI (q + 1))).2 g' j' = T.2 g' j' := fun g' j' a b => by rw [rdIJ, rdIJ, g2 g' j' a]; exact l1 g' j' b
      have m3 : (sI (sI S3 20 0 (nI (c + 1))) 19 t (nI (q + 1))).2 21 c = xN X j := by rw [rdIJ, rdIJ, g2 21 c (by omega), l2]; exact hG.1.2.2.2.2.2.2.2.2 (Or.inl k2)
      have m4 : (sI (sI S3 20 0 (nI (c + 1))) 19 t (nI (q + 1))).1 22 c = nI (xP X j) := by rw [sI_ne (by omega), sI_ne (by omega), g1 22 c (by omega)]; exact f3
      generalize sI (sI S3 20 0 (nI (c + 1))) 19 t (nI (q + 1)) = S4 at *
      have ht := x_type hX hnf 6 (d + 29) (by omega) (by omega) S4 (j + 2) hG4 hW4
      rw [show nI (7 - 6) = (1 : Int32) from rfl] at ht
      refine wp_bi ht ?_
      intro r l S5 h5
      generalize pTy (xK X) 6 false (j + 2) = res at h5 ⊢
      cases res with
      | error ej =>
        obtain ⟨a1, a2, a3, a4⟩ := h5
        refine wp_gd hcI ?_
        refine wp_st ?_
        refine wp_some ⟨by omega, ((a4.zi hy4 a2).w (by omega)).le (by omega), c + 1, ⟨?_, i2, ?_, by omega⟩, Nat.le_refl _⟩
        · rw [sI_ne (by omega), a4.2.2.1.1 64 (by omega)]; exact h64
        · rw [sI_ne (by omega), a4.2.2.1.1 20 (by omega)]; exact h20
      | ok j2 =>
        obtain ⟨a1, a2, a3, a4, a5, a6⟩ := h5
        subst a5
        refine wp_gd hcI ?_
        refine wp_st ?_
        rw [cc]
        have z1 : ∀ g' j', (11 ≤ g' ∧ g' ≤ 36) ∨ g' = 64 → S5.1 g' j' = S4.1 g' j' := fun g' j' h => congrFun (a4.1.1 g' (by omega)) j'
        have z2 : ∀ g' j', 13 ≤ g' → g' ≤ 32 → S5.2 g' j' = S4.2 g' j' := fun g' j' h h' => congrFun (a4.1.2 g' (by omega)) j'
        have hN5 : nN (sI S5 23 c (nI (nW S4))) = nN T := by rw [nN_w (by omega), nN_ft a4, hN4]
        refine wp_some ⟨by omega, a2.wh (by omega), a3.wh (by omega), ⟨(hy4.tr a4.1.fy).w (by omega), (hn4.tr a4.fs.fn).w (by omega), ?_, ?_, hN5, ?_, ?_, ?_, ?_, ?_⟩, ?_, ?_, nW S4, sI_v, ?_⟩
        · rw [sI_ne (by omega), a4.2.1 62 (by omega) (by omega)]; exact funext fun j' => m1 62 j' (by omega) (by omega) (by omega) (by omega)
        · rw [sI_ne (by omega), a4.2.1 63 (by omega) (by omega)]; exact funext fun j' => m1 63 j' (by omega) (by omega) (by omega) (by omega)
        · rw [sI_ne (by omega), z1 20 0 (by omega)]; exact h20
        · rw [sI_ne (by omega), z1 64 0 (by omega)]; exact h64
        · rw [sI_ne (by omega), z1 19 t (by omega)]; exact h19
        · intro g' j' b1 b2 b3 b4 b5
          rw [rdI, if_neg (by omega), z1 g' j' (by omega)]
          exact m1 g' j' (by omega) b3 b4 (by omega)
        · intro g' j' b1 b2 b3
          rw [rdIJ, z2 g' j' b1 b2]
          exact m2 g' j' (by omega) b3
        · rw [rdIJ, z2 21 c (by omega) (by omega)]; exact m3
        · rw [sI_ne (by omega), z1 22 c (by omega)]; exact m4
        · exact RepW.av (T := S5) 6 _ _ ⟨by rw [nU_w (by omega)]; exact Nat.le_refl _, fun j' _ => ⟨rfl, by rw [sI_ne (by omega)]⟩, by rw [nW_w (by omega)]; exact Nat.le_refl _, fun g' j' a b _ _ => by rw [sI_ne (by omega)], fun _ _ _ => rfl⟩ a6
    · rw [if_neg k48]
      exact bd S (j + 1) ((hz.fz Fz.rf.adv).le (by rw [nN_adv, hN1]; exact Nat.le_refl _)) (by omega) hj2
  · rw [if_neg k2]
    refine wp_be (q_nd1 hz.bd _) ?_
    exact bd S j (hz.le (by rw [hN1]; exact Nat.le_refl _)) (Nat.le_refl _) hj0
end IH
