/-! what the class reads of a type, and what the reference does; what FITS -/
/-- what lackOf finds -/
def lkV (k1 k2 : Nat) (sm o : Bool) : Int32 := if k1 = 2 then (if k2 = 4 then 0 else 4) else if k1 < 3 then (if k1 = 1 ∧ k2 = 1 then 0 else 4) else if k2 < 3 then 4 else if k1 = k2 ∨ k1 = 3 ∧ k2 = 4 then (if sm = true then (if o = true then 0 else 5) else 4) else 4
section CXO
variable {R : RgR} {S S' S1 T T' T1 : gSt} {X : Lx} {nf d i k n m t e w c a b q g f h r s y z : Nat} {x v x' u : Int32} {sl : Int32 → Int32}
theorem c_live (hr : r < 16) (hd : 1 ≤ d) : PP nf d 107 T [nI r] [] = some ((if fb (flw T) (40 + r) = true then 1 else 0), 0, T) := by
  obtain ⟨d, rfl⟩ : ∃ g, d = g + 1 := ⟨d - 1, by omega⟩
  rw [e_Scope_isLive]
  unfold rb_Scope_isLive
  simp only [lg_cmp_eq]
  have e40 : (40 : Int32) + nI r = nI (40 + r) := (Int32.ofNat_add 40 r).symm
  rw [e40]
  have := fb_sr (w := flw T) (n := 40 + r) (by omega)
  by_cases c : fb (flw T) (40 + r) = true
  · rw [if_neg (by rw [this, c]; decide), if_pos c]
  · rw [if_pos (by rw [this]; simpa using c), if_neg c]
theorem c_outl (hr : r < 16) (hs : s < 16) (ht : T.1 67 0 = nI t) (ht2 : t < 24) (hd : 2 ≤ d) : ∃ o : Bool, PP nf d 109 T [nI r, nI s] [] = some ((if o = true then 1 else 0), 0, T) ∧ (o = true ↔ ouC T r s) := by
  obtain ⟨d, rfl⟩ : ∃ g, d = g + 1 := ⟨d - 1, by omega⟩
  rw [e_Scope_outlives]
  unfold rb_Scope_outlives ouC
  have q1 : (nI r = nI s) = (r = s) := ci_eq (by omega) (by omega)
  have q2 : (nI r = 0) = (r = 0) := ci_eq (j := 0) (by omega) (by omega)
  have q3 : (nI s = 0) = (s = 0) := ci_eq (j := 0) (by omega) (by omega)
  have l1 : (nI s < 4) = (s < 4) := propext (nI_ltI (a := s) (b := 4) (by omega) (by omega))
  have l2 : ((4 : Int32) ≤ nI r) = (4 ≤ r) := propext (nI_leI (a := 4) (b := r) (by omega) (by omega))
  have l3 : (nI r < 4) = (r < 4) := propext (nI_ltI (a := r) (b := 4) (by omega) (by omega))
  have l4 : (nI s ≤ nI r) = (s ≤ r) := propext (nI_leI (by omega) (by omega))
  simp only [q1, q2, q3, l1, l2, l3, l4]
  by_cases c1 : r = s
  · rw [if_pos c1]
    exact ⟨true, rfl, fun _ => Or.inl c1, fun _ => rfl⟩
  rw [if_neg c1]
  by_cases c2 : r = 0
  · rw [if_pos c2]
    exact ⟨true, rfl, fun _ => Or.inr (Or.inl c2), fun _ => rfl⟩
  rw [if_neg c2]
  by_cases c3 : s < 4
  · rw [if_pos c3, if_neg (show ¬ 4 ≤ s by omega)]
    by_cases c4 : 4 ≤ r
    · rw [if_pos c4]
      exact ⟨false, rfl, fun w => absurd w (by decide), fun w => by omega⟩
    rw [if_neg c4]
    by_cases c5 : s = 0
    · rw [if_pos c5]
      exact ⟨false, rfl, fun w => absurd w (by decide), fun w => by
        rcases w with w | w | w
        · exact absurd w c1
        · exact absurd w c2
        · exact absurd c5 w.2.1⟩
    rw [if_neg c5, gd, if_pos (by rw [ht]; exact nin ht2 (by omega))]
    obtain ⟨d1, hd1⟩ : ∃ g, d = g + 1 := ⟨d - 1, by omega⟩
    have ab : PP nf d 110 T [nI r, nI s] [] = some (nI ((r - 1) * 3 + s - 1), 0, T) := by
      rw [hd1, e_Scope_aboveBit]
      unfold rb_Scope_aboveBit
      have e1 : nI r - 1 = nI (r - 1) := by
        have := nI_sub (k := r - 1)
        rw [show r - 1 + 1 = r by omega] at this
        exact this
      have e2 : nI (r - 1) * 3 + nI s - 1 = nI ((r - 1) * 3 + s - 1) := by
        rw [show (3 : Int32) = nI 3 from rfl, nI_mul, show nI ((r - 1) * 3) + nI s = nI ((r - 1) * 3 + s) from (Int32.ofNat_add _ _).symm]
        have := nI_sub (k := (r - 1) * 3 + s - 1)
        rw [show (r - 1) * 3 + s - 1 + 1 = (r - 1) * 3 + s by omega] at this
        exact this
      rw [e1, e2]
    rw [ab, bis]
    by_cases c6 : ((T.1 40 (T.1 67 0).toNatClampNeg >>> (nI ((r - 1) * 3 + s - 1) &&& 31)) &&& 1) = 0
    · rw [if_pos c6]
      exact ⟨false, rfl, fun w => absurd w (by decide), fun w => by
        rcases w with w | w | w
        · exact absurd w c1
        · exact absurd w c2
        · exact absurd c6 w.2.2⟩
    · rw [if_neg c6]
      exact ⟨true, rfl, fun _ => Or.inr (Or.inr ⟨by omega, c5, c6⟩), fun _ => rfl⟩
  · rw [if_neg c3, if_pos (show 4 ≤ s by omega), c_live hr (by omega), bis]
    by_cases c4 : fb (flw T) (40 + r) = true
    · rw [if_pos c4, if_neg (by decide)]
      by_cases c5 : r < 4
      · rw [if_pos c5]
        exact ⟨true, rfl, fun _ => Or.inr (Or.inr ⟨c4, Or.inl c5⟩), fun _ => rfl⟩
      rw [if_neg c5]
      by_cases c6 : r < s
      · rw [if_neg (show ¬ s ≤ r by omega)]
        exact ⟨true, rfl, fun _ => Or.inr (Or.inr ⟨c4, Or.inr c6⟩), fun _ => rfl⟩
      · rw [if_pos (show s ≤ r by omega)]
        exact ⟨false, rfl, fun w => absurd w (by decide), fun w => by
          rcases w with w | w | w
          · exact absurd w c1
          · exact absurd w c2
          · omega⟩
    · rw [if_neg c4, if_pos rfl]
      exact ⟨false, rfl, fun w => absurd w (by decide), fun w => by
        rcases w with w | w | w
        · exact absurd w c1
        · exact absurd w c2
        · exact absurd w.1 c4⟩
/-- what stands in a type that goes with one of the reference's -/
theorem TyR.rd (hh : TyR R S T f x y) : (x = 0 ∧ y = 1 ∧ kdC T y = 1) ∨ (x = -1 ∧ y = 0 ∧ kdC T y = 0) ∨ (x = -2 ∧ y = 2 ∧ kdC T y = 2) ∨ ∃ p kd r n b g, f = g + 1 ∧ x = nI p ∧ 1 ≤ p ∧ p < cn S ∧ p < 6000 ∧ cnR S p ∧ 3 ≤ y ∧ y < 16387 ∧ S.1 66 p = nI kd ∧ 1 ≤ kd ∧ kd ≤ 3 ∧ S.1 67 p = nI r ∧ r < 1024 ∧ R r n ∧ n < 16 ∧ kdC T y = kd + 2 ∧ rkC T y = n ∧ bhC T y = b ∧ (if 0 ≤ S.1 69 p then ThR R S T (S.1 69 p) (S.1 70 p) b else TyR R S T g (S.1 68 p) b) := by
  have lo : gdR x y → (x = 0 ∧ y = 1 ∧ kdC T y = 1) ∨ (x = -1 ∧ y = 0 ∧ kdC T y = 0) ∨ (x = -2 ∧ y = 2 ∧ kdC T y = 2) := fun hq => by
    rcases hq with ⟨e1, e2⟩ | ⟨e1, e2⟩ | ⟨e1, e2⟩ <;> subst e2
    · exact Or.inl ⟨e1, rfl, by unfold kdC; rw [if_pos (by omega)]⟩
    · exact Or.inr (Or.inl ⟨e1, rfl, by unfold kdC; rw [if_pos (by omega)]⟩)
    · exact Or.inr (Or.inr ⟨e1, rfl, by unfold kdC; rw [if_pos (by omega)]⟩)
  cases f with
  | zero => exact (lo hh).elim Or.inl (fun o => o.elim (fun p => Or.inr (Or.inl p)) (fun p => Or.inr (Or.inr (Or.inl p))))
  | succ f =>
    rcases hh with hh | ⟨p, kd, r, n, b, h1, h2, h3, h4, hc, h5, h6, h7, h8, h9, h10, h11, h12, h13, h14, h15, h16⟩
    · exact (lo hh).elim Or.inl (fun o => o.elim (fun p => Or.inr (Or.inl p)) (fun p => Or.inr (Or.inr (Or.inl p))))
    · have k8 := kd8 h10 h14 h15
      exact Or.inr (Or.inr (Or.inr ⟨p, kd, r, n, b, f, rfl, h1, h2, h3, h4, hc, h5, h6, h8, h9, h10, h11, h12, h13, h14, by unfold kdC; rw [if_neg (by omega)]; exact k8.1, k8.2.1, k8.2.2, h16⟩))
theorem nIpos {p : Nat} (h1 : 1 ≤ p) (h2 : p < 100000) : (0 : Int32) < nI p := (nI_ltI (a := 0) (b := p) (by omega) (by omega)).mpr h1
theorem nIle0 {p : Nat} (h1 : 1 ≤ p) (h2 : p < 100000) : ¬ nI p ≤ 0 := fun w => by
  have := (nI_leI (a := p) (b := 0) (by omega) (by omega)).mp w
  omega
theorem TyR.le : ∀ (k : Nat), TyR R S T f x y → TyR R S T (f + k) x y := by
  intro k
  induction k with
  | zero => intro hh; exact hh
  | succ k ih => intro hh; exact TyR.up _ _ _ (ih hh)
theorem TyR.y1 (hh : TyR R S T f x y) : x = 0 ↔ y = 1 := by
  rcases hh.rd with ⟨e1, e2, _⟩ | ⟨e1, e2, _⟩ | ⟨e1, e2, _⟩ | ⟨p, kd, r, n, b, g, _, e1, e2, e3, e4, _, e5, _⟩
  · exact ⟨fun _ => e2, fun _ => e1⟩
  · subst e1 e2; exact ⟨fun w => absurd w (by decide), fun w => absurd w (by decide)⟩
  · subst e1 e2; exact ⟨fun w => absurd w (by decide), fun w => absurd w (by decide)⟩
  · refine ⟨fun w => ?_, fun w => by omega⟩
    have := nIpos e2 (by omega)
    rw [← e1, w] at this
    exact absurd this (by decide)
theorem TyR.y2 (hh : TyR R S T f x y) : x = -2 ↔ y = 2 := by
  rcases hh.rd with ⟨e1, e2, _⟩ | ⟨e1, e2, _⟩ | ⟨e1, e2, _⟩ | ⟨p, kd, r, n, b, g, _, e1, e2, e3, e4, _, e5, _⟩
  · subst e1 e2; exact ⟨fun w => absurd w (by decide), fun w => absurd w (by decide)⟩
  · subst e1 e2; exact ⟨fun w => absurd w (by decide), fun w => absurd w (by decide)⟩
  · exact ⟨fun _ => e2, fun _ => e1⟩
  · refine ⟨fun w => ?_, fun w => by omega⟩
    have := nIpos e2 (by omega)
    rw [← e1, w] at this
    exact absurd this (by decide)
theorem TyR.y0 (hh : TyR R S T f x y) : x = -1 ↔ y = 0 := by
  rcases hh.rd with ⟨e1, e2, _⟩ | ⟨e1, e2, _⟩ | ⟨e1, e2, _⟩ | ⟨p, kd, r, n, b, g, _, e1, e2, e3, e4, _, e5, _⟩
  · subst e1 e2; exact ⟨fun w => absurd w (by decide), fun w => absurd w (by decide)⟩
  · exact ⟨fun _ => e2, fun _ => e1⟩
  · subst e1 e2; exact ⟨fun w => absurd w (by decide), fun w => absurd w (by decide)⟩
  · refine ⟨fun w => ?_, fun w => by omega⟩
    have := nIpos e2 (by omega)
    rw [← e1, w] at this
    exact absurd this (by decide)
theorem TyR.lt (hh : TyR R S T f x y) : y < 16387 := by
  rcases hh.rd with ⟨e1, e2, _⟩ | ⟨e1, e2, _⟩ | ⟨e1, e2, _⟩ | ⟨p, kd, r, n, b, g, _, e1, e2, e3, e4, _, e5, e6, _⟩ <;> omega
/-- a pointer that isn't a row -/
theorem TyR.pt (hh : TyR R S T f x y) : isPt S x = 0 ↔ ¬ (kdC T y = 3 ∨ kdC T y = 4) := by
  unfold isPt
  rcases hh.rd with ⟨e1, e2, e3⟩ | ⟨e1, e2, e3⟩ | ⟨e1, e2, e3⟩ | ⟨p, kd, r, n, b, g, _, e1, e2, e3, e4, _, e5, e6, e7, e8, e9, _, _, _, _, e10, _⟩
  · rw [e1, if_pos (by decide)]; exact ⟨fun _ => by omega, fun _ => rfl⟩
  · rw [e1, if_pos (by decide)]; exact ⟨fun _ => by omega, fun _ => rfl⟩
  · rw [e1, if_pos (by decide)]; exact ⟨fun _ => by omega, fun _ => rfl⟩
  · rw [e1, if_neg (nIle0 e2 (by omega)), nc (by omega), e7]
    have q3 : (3 : Int32) ≤ nI kd ↔ 3 ≤ kd := nI_leI (a := 3) (b := kd) (by omega) (by omega)
    by_cases c : 3 ≤ kd
    · rw [if_pos (q3.mpr c)]; exact ⟨fun _ => by omega, fun _ => rfl⟩
    · rw [if_neg (fun w => c (q3.mp w))]; exact ⟨fun w => absurd w (by decide), fun w => by omega⟩
theorem TyR.ro (hh : TyR R S T f x y) : isRo S x = 0 ↔ ¬ kdC T y = 5 := by
  unfold isRo
  rcases hh.rd with ⟨e1, e2, e3⟩ | ⟨e1, e2, e3⟩ | ⟨e1, e2, e3⟩ | ⟨p, kd, r, n, b, g, _, e1, e2, e3, e4, _, e5, e6, e7, e8, e9, _, _, _, _, e10, _⟩
  · rw [e1, if_pos (by decide)]; exact ⟨fun _ => by omega, fun _ => rfl⟩
  · rw [e1, if_pos (by decide)]; exact ⟨fun _ => by omega, fun _ => rfl⟩
  · rw [e1, if_pos (by decide)]; exact ⟨fun _ => by omega, fun _ => rfl⟩
  · rw [e1, if_neg (nIle0 e2 (by omega)), nc (by omega), e7]
    have q3 : (nI kd = (3 : Int32)) = (kd = 3) := ci_eq (j := 3) (by omega) (by omega)
    by_cases c : kd = 3
    · rw [if_pos (q3.mpr c)]; exact ⟨fun w => absurd w (by decide), fun w => by omega⟩
    · rw [if_neg (fun w => c (q3.mp w))]; exact ⟨fun _ => by omega, fun _ => rfl⟩
/-- what lies behind two types is the same on both sides -/
theorem same_bh {p p' b' : Nat} (hR : R11 R) (hI : TyI T) (c1 : cnR S p) (c2 : cnR S p') (h1 : if 0 ≤ S.1 69 p then ThR R S T (S.1 69 p) (S.1 70 p) b else TyR R S T g (S.1 68 p) b) (h2 : if 0 ≤ S.1 69 p' then ThR R S T (S.1 69 p') (S.1 70 p') b' else TyR R S T h (S.1 68 p') b') : (S.1 68 p = S.1 68 p' ∧ S.1 69 p = S.1 69 p' ∧ S.1 70 p = S.1 70 p') ↔ b = b' := by
  by_cases q1 : 0 ≤ S.1 69 p
  · rw [if_pos q1] at h1
    by_cases q2 : 0 ≤ S.1 69 p'
    · rw [if_pos q2] at h2
      refine ⟨fun w => ?_, fun w => ?_⟩
      · rw [← w.2.1, ← w.2.2] at h2
        exact h1.cl hR hI h2
      · subst w
        obtain ⟨a1, a2, a3, t, g, a4, a5, a6, a7, a8⟩ := h1
        obtain ⟨b1, b2, b3, t', g', b4, b5, b6, b7, b8⟩ := h2
        have et : t = t' := by omega
        have eg : g = g' := by omega
        subst et eg
        exact ⟨by rw [c1.1 q1, c2.1 q2], by rw [a4, b4], a8.sp hR b8⟩
    · rw [if_neg q2] at h2
      refine ⟨fun w => absurd (by rw [← w.2.1]; exact q1) q2, fun w => ?_⟩
      subst w
      exact (TyR.th _ _ _ h2 h1).elim
  · rw [if_neg q1] at h1
    by_cases q2 : 0 ≤ S.1 69 p'
    · rw [if_pos q2] at h2
      refine ⟨fun w => absurd (by rw [w.2.1]; exact q2) q1, fun w => ?_⟩
      subst w
      exact (TyR.th _ _ _ h1 h2).elim
    · rw [if_neg q2] at h2
      have l1 := TyR.le (f := g) h h1
      have l2 := TyR.le (f := h) g h2
      rw [Nat.add_comm] at l2
      refine ⟨fun w => ?_, fun w => ?_⟩
      · rw [← w.1] at l2
        exact TyR.cl hR hI _ _ _ _ l1 l2
      · subst w
        exact ⟨TyR.sp hR _ _ _ _ l1 l2, by rw [(c1.2.1 q1).1, (c2.2.1 q2).1], by rw [(c1.2.1 q1).2, (c2.2.1 q2).2]⟩
theorem c_lack (hy : y < 16387) (hz : z < 16387) (ht : T.1 67 0 = nI t) (ht2 : t < 24) (hd : 4 ≤ d) : ∃ o : Bool, PP nf d 143 T [nI y, nI z] [] = some (lkV (kdC T y) (kdC T z) (decide (bhC T y = bhC T z)) o, 0, T) ∧ (o = true ↔ ouC T (rkC T y) (rkC T z)) := by
  obtain ⟨d, rfl⟩ : ∃ g, d = g + 1 := ⟨d - 1, by omega⟩
  have kl := kdC_lt (T := T) (y := y)
  have kz := kdC_lt (T := T) (y := z)
  have b1 : bhC T y < 131072 := by unfold bhC; have : kO T y < 16777216 := kO_lt; omega
  have b2 : bhC T z < 131072 := by unfold bhC; have : kO T z < 16777216 := kO_lt; omega
  obtain ⟨o, ho, hoi⟩ := c_outl (nf := nf) (d := d) (T := T) (r := rkC T y) (s := rkC T z) (Nat.mod_lt _ (by omega)) (Nat.mod_lt _ (by omega)) ht ht2 (by omega)
  refine ⟨o, ?_, hoi⟩
  have beq : (nI (bhC T y) = nI (bhC T z)) = (bhC T y = bhC T z) := propext ⟨fun w => nI_inj3 (by omega) (by omega) w, fun w => by rw [w]⟩
  have e86 : ∀ y0 : Int32, rj_Exprs_lackOf_86 (PP nf d) nf T (nI y) (nI z) y0 = some ((if y0 = 0 then 4 else if bhC T y = bhC T z then (if o = true then 0 else 5) else 4), 0, T) := by
    intro y0
    unfold rj_Exprs_lackOf_86
    by_cases c0 : y0 = 0
    · rw [if_pos c0, if_pos c0]
    · rw [if_neg c0, if_neg c0, c_behind (by omega) (by omega), bis, c_behind (by omega) (by omega), bis]
      simp only [beq]
      by_cases c1 : bhC T y = bhC T z
      · rw [if_pos c1, if_pos c1, c_regionOf (by omega) (by omega), bis, c_regionOf (by omega) (by omega), bis, ho, bis]
        cases o with
        | true => rfl
        | false => rfl
      · rw [if_neg c1, if_neg c1]
  rw [e_Exprs_lackOf]
  unfold rb_Exprs_lackOf
  rw [c_kindOf (by omega) (by omega), bis, c_kindOf (by omega) (by omega), bis]
  have q : ∀ (a j : Nat), a < 100000 → j < 100000 → (nI a = nI j) = (a = j) := fun a j h1 h2 => ci_eq h1 h2
  have q12 : (nI (kdC T y) = (2 : Int32)) = (kdC T y = 2) := q _ 2 (by omega) (by omega)
  have q11 : (nI (kdC T y) = (1 : Int32)) = (kdC T y = 1) := q _ 1 (by omega) (by omega)
  have q13 : (nI (kdC T y) = (3 : Int32)) = (kdC T y = 3) := q _ 3 (by omega) (by omega)
  have q24 : (nI (kdC T z) = (4 : Int32)) = (kdC T z = 4) := q _ 4 (by omega) (by omega)
  have q21 : (nI (kdC T z) = (1 : Int32)) = (kdC T z = 1) := q _ 1 (by omega) (by omega)
  have qq : (nI (kdC T y) = nI (kdC T z)) = (kdC T y = kdC T z) := q _ _ (by omega) (by omega)
  have l3 : (nI (kdC T y) < (3 : Int32)) = (kdC T y < 3) := propext (nI_ltI (b := 3) (by omega) (by omega))
  have l4 : ((3 : Int32) ≤ nI (kdC T z)) = (3 ≤ kdC T z) := propext (nI_leI (a := 3) (by omega) (by omega))
  simp only [q12, q11, q13, q24, q21, qq, l3, l4, e86]
  unfold lkV
  simp only [decide_eq_true_eq]
  generalize kdC T y = k1 at *
  generalize kdC T z = k2 at *
  by_cases c2 : k1 = 2
  · rw [if_pos c2, if_pos c2]
    split <;> rfl
  rw [if_neg c2, if_neg c2]
  by_cases c3 : k1 < 3
  · rw [if_pos c3, if_pos c3]
    by_cases c1 : k1 = 1
    · rw [if_pos c1]
      by_cases c4 : k2 = 1
      · rw [if_pos c4, if_pos ⟨c1, c4⟩]
      · rw [if_neg c4, if_neg (fun w => c4 w.2)]
    · rw [if_neg c1, if_neg (fun w => c1 w.1)]
  rw [if_neg c3, if_neg c3]
  by_cases c4 : k2 < 3
  · rw [if_neg (by omega), if_pos c4, if_neg (show ¬ k1 = 1 by omega)]
  rw [if_pos (by omega), if_neg c4]
  by_cases c5 : k1 = k2
  · rw [if_pos c5, if_pos (Or.inl c5), if_neg (by decide)]
  rw [if_neg c5]
  by_cases c6 : k1 = 3
  · rw [if_pos c6]
    by_cases c7 : k2 = 4
    · rw [if_pos c7, if_pos (Or.inr ⟨c6, c7⟩), if_neg (by decide)]
    · rw [if_neg c7, if_pos trivial, if_neg (fun w => by omega)]
  · rw [if_neg c6, if_pos trivial, if_neg (fun w => by omega)]
/-- what FITS on one side does on the other -/
theorem fit_ok {o : Bool} (hR : R11 R) (hI : TyI T) (hO : OvR R S T) (h1 : TyR R S T f x y) (h2 : TyR R S T h x' z) (n1 : ¬ x' = -1) (n2 : ¬ x' = -2) (ho : o = true ↔ ouC T (rkC T y) (rkC T z)) : lkV (kdC T y) (kdC T z) (decide (bhC T y = bhC T z)) o = mfI S x x' := by
  unfold lkV mfI
  have np : ∀ p, 1 ≤ p → p < 6000 → ¬ nI p = 0 ∧ ¬ nI p = -1 ∧ ¬ nI p = -2 := fun p a b => by
    have := nIpos a (show p < 100000 by omega)
    exact ⟨fun w => by rw [w] at this; exact absurd this (by decide), fun w => by rw [w] at this; exact absurd this (by decide), fun w => by rw [w] at this; exact absurd this (by decide)⟩
  rcases h2.rd with ⟨e1, e2, e3⟩ | ⟨e1, e2, e3⟩ | ⟨e1, e2, e3⟩ | ⟨p', kd', r', n', b', g', _, e1, e2, e3, e4, ec, e5, e6, e7, e8, e9, e9', e9'', e10, e11, e12, e13, e14, e15⟩
  · rw [e3, e1]
    rcases h1.rd with ⟨i1, i2, i3⟩ | ⟨i1, i2, i3⟩ | ⟨i1, i2, i3⟩ | ⟨p, kd, r, n, b, g, _, i1, i2, i3, i4, ic, i5, i6, i7, i8, i9, i9', i9'', i10, i11, i12, i13, i14, i15⟩
    · rw [i3, i1]; rfl
    · rw [i3, i1]; rfl
    · rw [i3, i1]; rfl
    · rw [i12, i1, if_neg (by omega), if_neg (by omega), if_pos (by omega), if_pos (Or.inr rfl), if_neg (np p i2 i4).1]
  · exact absurd e1 n1
  · exact absurd e1 n2
  · have m' := np p' e2 e4
    rcases h1.rd with ⟨i1, i2, i3⟩ | ⟨i1, i2, i3⟩ | ⟨i1, i2, i3⟩ | ⟨p, kd, r, n, b, g, _, i1, i2, i3, i4, ic, i5, i6, i7, i8, i9, i9', i9'', i10, i11, i12, i13, i14, i15⟩
    · rw [i3, i1, e12, e1, if_neg (by omega), if_pos (by omega), if_neg (fun w => by omega), if_pos (Or.inl rfl), if_neg (fun w => m'.1 w.symm)]
    · have no : ¬ ((-1 : Int32) = 0 ∨ nI p' = 0) := fun w => w.elim (fun w => absurd w (by decide)) m'.1
      rw [i3, i1, e12, e1, if_neg (by omega), if_pos (by omega), if_neg (fun w => by omega), if_neg no, if_neg (by decide), if_pos rfl]
    · have no : ¬ ((-2 : Int32) = 0 ∨ nI p' = 0) := fun w => w.elim (fun w => absurd w (by decide)) m'.1
      have q2 : (nI kd' = (2 : Int32)) = (kd' = 2) := ci_eq (j := 2) (by omega) (by omega)
      rw [i3, i1, e12, e1, if_pos rfl, if_neg no, if_pos rfl, nc (by omega), e7]
      by_cases c : kd' = 2
      · rw [if_pos (q2.mpr c), if_pos (by omega)]
      · rw [if_neg (fun w => c (q2.mp w)), if_neg (by omega)]
    · have mm := np p i2 i4
      have no : ¬ (nI p = 0 ∨ nI p' = 0) := fun w => w.elim mm.1 m'.1
      have z1 : (nI kd = nI kd') = (kd = kd') := ci_eq (by omega) (by omega)
      have z2 : (nI kd = (1 : Int32)) = (kd = 1) := ci_eq (j := 1) (by omega) (by omega)
      have z3 : (nI kd' = (2 : Int32)) = (kd' = 2) := ci_eq (j := 2) (by omega) (by omega)
      rw [i12, i1, e12, e1, if_neg (by omega), if_neg (by omega), if_neg (by omega), if_neg no, if_neg mm.2.2, if_neg mm.2.1, nc (by omega), nc (by omega), i7, e7, i14, e14]
      simp only [z1, z2, z3]
      have sb := same_bh hR hI ic ec i15 e15
      have sm : (¬ sameC S (nI p) (nI p') = 0) ↔ b = b' := by
        unfold sameC
        rw [nc (by omega), nc (by omega)]
        rw [← sb]
        by_cases c : S.1 68 p = S.1 68 p' ∧ S.1 69 p = S.1 69 p' ∧ S.1 70 p = S.1 70 p'
        · rw [if_pos c]; exact ⟨fun _ => c, fun _ => by decide⟩
        · rw [if_neg c]; exact ⟨fun w => absurd rfl w, fun w => absurd w c⟩
      by_cases ck : kd = kd' ∨ kd = 1 ∧ kd' = 2
      · rw [if_pos (by omega)]
        by_cases cb : b = b'
        · rw [if_pos (show decide (b = b') = true by simpa using cb), if_pos (show (kd = kd' ∨ kd = 1 ∧ kd' = 2) ∧ ¬ sameC S (nI p) (nI p') = 0 from ⟨ck, sm.mpr cb⟩), i9', e9']
          have := hO r n r' n' i10 e10
          rw [i13, e13] at ho
          by_cases co : o = true
          · rw [if_pos co, if_neg (fun w => this.mp w (ho.mp co))]
          · rw [if_neg co, if_pos (this.mpr (fun w => co (ho.mpr w)))]
        · rw [if_neg (show ¬ decide (b = b') = true by simpa using cb), if_neg (fun w => cb (sm.mp w.2))]
      · rw [if_neg (by omega), if_neg (fun w => ck w.1)]
end CXO
