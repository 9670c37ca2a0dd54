/-! a new VAR comes in sight: both sides -/
def vaN (S : gSt) (nm : Int64) (v : Nat) (t x : Int32) : gSt := if (seS S nm (nI v) t).1 83 0 = 0 then seS S nm (nI v) t else gvS (seS S nm (nI v) t) (nI v) t x 0
section ZS5
variable {S S' T T' T1 T2 T3 : gSt} {X : Lx} {nf d it e v g n dd v' g' k i e' u c m lo hi a b n0 y z p q r j s f yv : Nat} {ta tb tr : Tr} {pl x op w cc t : Int32} {R : RgR} {nm : Int64} {bo : Bool}
theorem see_o (h1 : k ≠ 77) (h2 : k ≠ 79) (h3 : k ≠ 80) : (seS S nm w t).1 k = S.1 k := by
  unfold seS
  rw [sI_ne (by omega), sI_ne (by omega), sI_ne (by omega)]
  rfl
theorem vaN_o (h1 : k ≠ 77) (h2 : k ≠ 79) (h3 : k ≠ 80) (h4 : k ≠ 81) (h5 : k ≠ 82) : (vaN S nm v t x).1 k = S.1 k := by
  unfold vaN
  split
  · exact see_o h1 h2 h3
  · unfold gvS
    rw [sI_ne (by omega), sI_ne (by omega)]
    exact see_o h1 h2 h3
theorem vaN_m (h4 : k ≠ 81) (h5 : k ≠ 82) : (vaN S nm v t x).1 k = (seS S nm (nI v) t).1 k := by
  unfold vaN
  split
  · rfl
  · unfold gvS
    rw [sI_ne (by omega), sI_ne (by omega)]
theorem vaN_2 : (vaN S nm v t x).2 = (seS S nm (nI v) t).2 := by
  unfold vaN
  split
  · rfl
  · rfl
theorem see_77 : (seS S nm w t).1 77 0 = nI (vn S + 1) := by unfold seS; rw [sI_v]
theorem see_79 : (seS S nm w t).1 79 j = if j = vn S then w else S.1 79 j := by
  unfold seS
  rw [sI_ne (by omega), sI_ne (by omega), rdI]
  by_cases c : j = vn S
  · rw [if_pos ⟨rfl, c⟩, if_pos c]
  · rw [if_neg (fun q => c q.2), if_neg c]; rfl
theorem see_80 : (seS S nm w t).1 80 j = if j = vn S then t else S.1 80 j := by
  unfold seS
  rw [sI_ne (by omega), rdI]
  by_cases c : j = vn S
  · rw [if_pos ⟨rfl, c⟩, if_pos c]
  · rw [if_neg (fun q => c q.2), if_neg c, sI_ne (by omega)]; rfl
theorem see_78 : (seS S nm w t).2 78 j = if j = vn S then nm else S.2 78 j := by
  unfold seS
  show (sJ S 78 (vn S) nm).2 78 j = _
  rw [rdJ]
  by_cases c : j = vn S
  · rw [if_pos ⟨rfl, c⟩, if_pos c]
  · rw [if_neg (fun q => c q.2), if_neg c]
theorem see_2 (h : k ≠ 78) : (seS S nm w t).2 k = S.2 k := by
  unfold seS
  show (sJ S 78 (vn S) nm).2 k = _
  exact sJ_ne h
theorem TyR.ws (h : TyR R S T f x y) (hv : tV S x) (hc : cn S < 6000) : wS S x = wdC T y := by
  have := h.ro
  have k0 : ¬ kdC T y = 0 := fun w => by
    rcases h.rd with ⟨e1, e2, e3⟩ | ⟨e1, e2, e3⟩ | ⟨e1, e2, e3⟩ | ⟨p, kd, r, n, b, g, _, e1, e2, e3, e4, _, e5, e6, e7, e8, e9, _, _, _, _, e10, _⟩
    · rw [e3] at w; exact absurd w (by decide)
    · rcases hv with q | ⟨p, q, q1, q2⟩
      · rw [q] at e1; exact absurd e1 (by decide)
      · rw [q] at e1
        exact nI_m1 (by omega) e1
    · rw [e3] at w; exact absurd w (by decide)
    · omega
  unfold wS
  rw [wd_nz k0]
  by_cases c : kdC T y = 5
  · rw [if_neg (fun q => this.mp q c), if_pos c]
  · rw [if_pos (this.mpr c), if_neg c]
/-- a VAR given a value, first none -/
theorem gv_gv : gvS (gvS S w t cc 0) w t x 1 = gvS S w t x 1 := by
  have a81 : ∀ z : Int32, (z &&& (((1 : Int32) <<< (w &&& 31)) ^^^ (-1))) ||| ((1 : Int32) <<< (w &&& 31)) = z ||| ((1 : Int32) <<< (w &&& 31)) := fun z => fi_ext (fun m hm => by
    rw [fi_or, fi_or, fi_an, fi_xr, fi_m1 hm]
    cases fi z m <;> cases fi ((1 : Int32) <<< (w &&& 31)) m <;> rfl)
  have b81 : ∀ z : Int32, (z &&& (((1 : Int32) <<< (w &&& 31)) ^^^ (-1))) &&& (((1 : Int32) <<< (w &&& 31)) ^^^ (-1)) = z &&& (((1 : Int32) <<< (w &&& 31)) ^^^ (-1)) := fun z => fi_ext (fun m hm => by
    rw [fi_an, fi_an, fi_xr, fi_m1 hm]
    cases fi z m <;> cases fi ((1 : Int32) <<< (w &&& 31)) m <;> rfl)
  have e66 : ∀ q, tf (gvS S w t cc 0) 66 q = tf S 66 q := fun q => by unfold tf gvS; rw [sI_ne (by omega), sI_ne (by omega)]
  have e81 : (gvS S w t cc 0).1 81 0 = S.1 81 0 &&& (((1 : Int32) <<< (w &&& 31)) ^^^ (-1)) := by unfold gvS; rw [sI_ne (by omega), sI_v, if_pos rfl]
  have e82 : (gvS S w t cc 0).1 82 0 = S.1 82 0 &&& (((1 : Int32) <<< (w &&& 31)) ^^^ (-1)) := by unfold gvS; rw [sI_v, if_neg (fun q => q.1 rfl)]
  have key : ∀ (A : gSt) (a0 b0 a1 b1 : Int32), sI (sI (sI (sI A 81 0 a0) 82 0 b0) 81 0 a1) 82 0 b1 = sI (sI A 81 0 a1) 82 0 b1 := fun A a0 b0 a1 b1 => by
    refine Prod.ext ?_ rfl
    funext k j
    simp only [rdI]
    by_cases c : k = 82 ∧ j = 0
    · rw [if_pos c, if_pos c]
    · by_cases c2 : k = 81 ∧ j = 0
      · simp only [if_neg c, if_pos c2]
      · simp only [if_neg c, if_neg c2]
  rw [gvS.eq_def (T := gvS S w t cc 0), gvS.eq_def S w t x 1]
  rw [e81, e82, e66, e66, a81]
  have z1 : ¬ (1 : Int32) = 0 := by decide
  simp only [if_neg z1, a81, b81]
  exact key S _ _ _ _
theorem SrR.add (h : SrR X it e v g n S T) (hv : v < 20) (hf : ∀ a, a < vn S → ¬ S.2 78 a = nm) (ht : TyR (RgE e S) S T 5 t y) (hy : tyY T y) (htv : tV S t) (hc : cn S < 6000) : SrR X it e (v + 1) g n (vaN S nm v t x) (adV T (vn S) y nm) ∧ TyF S (vaN S nm v t x) T (adV T (vn S) y nm) ∧ RgE e (vaN S nm v t x) = RgE e S ∧ FZ T (adV T (vn S) y nm) ∧ lvC (adV T (vn S) y nm) 16384 = lvC T 16384 := by
  have yl := hy.lt
  have hV := h.1.2.2.2.2.2.2.2.2.1
  obtain ⟨v20, s77, t68⟩ := hV.vs
  have vnv := h.1.2.2.1.2.1
  have tA : ∀ k, ¬ (68 ≤ k ∧ k ≤ 71) → (adV T (vn S) y nm).1 k = T.1 k := fun k hk => by
    unfold adV
    rw [sI_ne (by omega)]
    show (sI (sI (sJ T 69 (vn S) nm) 70 (vn S) (nI y)) 71 (vn S + 1) (T.1 71 (vn S) + nI (wdC T y))).1 k = _
    rw [sI_ne (by omega), sI_ne (by omega)]
    rfl
  have tJ : ∀ q j, q ≠ 69 → q ≠ 77 → (adV T (vn S) y nm).2 q j = T.2 q j := fun q j h1 h2 => by
    show (sJ (sJ T 69 (vn S) nm) 77 0 (sbW (sbW (flw T) (20 + vn S) false) (vn S) false)).2 q j = _
    rw [rdJ, if_neg (fun z => h2 z.1), rdJ, if_neg (fun z => h1 z.1)]
  have t69 : ∀ j, (adV T (vn S) y nm).2 69 j = if j = vn S then nm else T.2 69 j := fun j => by
    show (sJ (sJ T 69 (vn S) nm) 77 0 (sbW (sbW (flw T) (20 + vn S) false) (vn S) false)).2 69 j = _
    rw [rdJ, if_neg (fun z => by have := z.1; omega), rdJ]
    by_cases c : j = vn S
    · rw [if_pos ⟨rfl, c⟩, if_pos c]
    · rw [if_neg (fun q => c q.2), if_neg c]
  have t70 : ∀ j, (adV T (vn S) y nm).1 70 j = if j = vn S then nI y else T.1 70 j := fun j => by
    unfold adV
    rw [sI_ne (by omega)]
    show (sI (sI (sJ T 69 (vn S) nm) 70 (vn S) (nI y)) 71 (vn S + 1) (T.1 71 (vn S) + nI (wdC T y))).1 70 j = _
    rw [sI_ne (by omega), rdI]
    by_cases c : j = vn S
    · rw [if_pos ⟨rfl, c⟩, if_pos c]
    · rw [if_neg (fun q => c q.2), if_neg c]; rfl
  have t71 : ∀ j, (adV T (vn S) y nm).1 71 j = if j = vn S + 1 then T.1 71 (vn S) + nI (wdC T y) else T.1 71 j := fun j => by
    unfold adV
    rw [sI_ne (by omega)]
    show (sI (sI (sJ T 69 (vn S) nm) 70 (vn S) (nI y)) 71 (vn S + 1) (T.1 71 (vn S) + nI (wdC T y))).1 71 j = _
    rw [rdI]
    by_cases c : j = vn S + 1
    · rw [if_pos ⟨rfl, c⟩, if_pos c]
    · rw [if_neg (fun q => c q.2), if_neg c, sI_ne (by omega)]; rfl
  have t68' : (adV T (vn S) y nm).1 68 0 = nI (vn S + 1) := by unfold adV; rw [sI_v]
  have tfl : flw (adV T (vn S) y nm) = sbW (sbW (flw T) (20 + vn S) false) (vn S) false := by
    show (sJ (sJ T 69 (vn S) nm) 77 0 (sbW (sbW (flw T) (20 + vn S) false) (vn S) false)).2 77 0 = _
    rw [rdJ, if_pos ⟨rfl, rfl⟩]
  have o := fun k a b c d f => vaN_o (S := S) (nm := nm) (v := v) (t := t) (x := x) (k := k) a b c d f
  have hF : TyF S (vaN S nm v t x) T (adV T (vn S) y nm) := TyF.st (by rw [o 65 (by omega) (by omega) (by omega) (by omega) (by omega)]) (fun k a b => o k (by omega) (by omega) (by omega) (by omega) (by omega)) (o 15 (by omega) (by omega) (by omega) (by omega) (by omega)) (by funext j; exact tJ 62 j (by omega) (by omega)) (tJ 63 0 (by omega) (by omega))
  have hR : RgE e (vaN S nm v t x) = RgE e S := RgE_eq (by rw [o 71 (by omega) (by omega) (by omega) (by omega) (by omega)]) (o 73 (by omega) (by omega) (by omega) (by omega) (by omega))
  have fz : FZ T (adV T (vn S) y nm) := FZ.sc h.1.2.2.2.2.2.1 (fun k hk => tA k (by omega)) (fun q j a _ c => tJ q j a c) adV_z
  have e77 : (vaN S nm v t x).1 77 0 = nI (vn S + 1) := by rw [vaN_m (by omega) (by omega)]; exact see_77
  have evn : vn (vaN S nm v t x) = vn S + 1 := by unfold vn at e77 ⊢; rw [e77]; exact nc (by unfold vn at v20; omega)
  have e79 : ∀ j, (vaN S nm v t x).1 79 j = if j = vn S then nI v else S.1 79 j := fun j => by rw [vaN_m (by omega) (by omega)]; exact see_79
  have e80 : ∀ j, (vaN S nm v t x).1 80 j = if j = vn S then t else S.1 80 j := fun j => by rw [vaN_m (by omega) (by omega)]; exact see_80
  have e78 : ∀ j, (vaN S nm v t x).2 78 j = if j = vn S then nm else S.2 78 j := fun j => by rw [vaN_2]; exact see_78
  have e2 : ∀ k, k ≠ 78 → (vaN S nm v t x).2 k = S.2 k := fun k hk => by rw [vaN_2]; exact see_2 hk
  have lv : lvC (adV T (vn S) y nm) 16384 = lvC T 16384 := lvC_62 (by funext j; exact tJ 62 j (by omega) (by omega)) (by funext j; exact tJ 63 j (by omega) (by omega)) 16384
  have sw : ∀ u, u ≤ vn S → slW (vaN S nm v t x) u = slW S u := slW_eq (fun u hu => by rw [e80, if_neg (by omega)]) (fun u hu => isRo_tf hF (h.1.tv u hu) h.1.2.2.1.1.1)
  have swn : slW (vaN S nm v t x) (vn S + 1) = slW S (vn S) + wdC T y := by
    show slW (vaN S nm v t x) (vn S) + wS (vaN S nm v t x) ((vaN S nm v t x).1 80 (vn S)) = _
    rw [sw _ (Nat.le_refl _), e80, if_pos rfl, ← ht.ws htv hc]
    unfold wS
    rw [isRo_tf hF htv h.1.2.2.1.1.1]
  have fs : FS S (vaN S nm v t x) := by
    have ec : cn (vaN S nm v t x) = cn S := by unfold cn; rw [o 65 (by omega) (by omega) (by omega) (by omega) (by omega)]
    exact ⟨fun k k1 k2 k3 => o k (by omega) (by omega) (by omega) (by omega) (by omega), fun k k1 => e2 k (by omega), fun hg => ⟨by unfold Tg; rw [ec, o 65 (by omega) (by omega) (by omega) (by omega) (by omega)]; exact hg, by omega, fun _ p _ => by unfold rwT; rw [o 66 (by omega) (by omega) (by omega) (by omega) (by omega), o 67 (by omega) (by omega) (by omega) (by omega) (by omega), o 68 (by omega) (by omega) (by omega) (by omega) (by omega), o 69 (by omega) (by omega) (by omega) (by omega) (by omega), o 70 (by omega) (by omega) (by omega) (by omega) (by omega)]⟩, fun q => by rw [o 7 (by omega) (by omega) (by omega) (by omega) (by omega)]; exact q⟩
  obtain ⟨⟨a1, a2, a3, a4, a5, a6, a7, a9, a11, a12, a13, a14, a15, a16⟩, hfw⟩ := h
  refine ⟨⟨⟨a1.fz fz, a2.fz fs fz, ?_, by rw [o 7 (by omega) (by omega) (by omega) (by omega) (by omega)]; exact a4, by rw [tA 53 (by omega)]; exact a5, fz.2.2.1, a7.st (by rw [o 71 (by omega) (by omega) (by omega) (by omega) (by omega)]) (o 73 (by omega) (by omega) (by omega) (by omega) (by omega)) (o 74 (by omega) (by omega) (by omega) (by omega) (by omega)) (by rw [o 84 (by omega) (by omega) (by omega) (by omega) (by omega)]) (o 85 (by omega) (by omega) (by omega) (by omega) (by omega)) (by rw [o 86 (by omega) (by omega) (by omega) (by omega) (by omega)]) (fun k => by rw [e2 72 (by omega)]) (by rw [tA 72 (by omega)]) (fun j => by rw [tA 74 (by omega)]) (by rw [tA 75 (by omega)]) (fun k => tJ 73 k (by omega) (by omega)), a9.st (by rw [o 76 (by omega) (by omega) (by omega) (by omega) (by omega)]) (by rw [tA 40 (by omega)]), ?_, a12.fz hF fs fz, by rw [o 87 (by omega) (by omega) (by omega) (by omega) (by omega), tA 76 (by omega)]; exact a13, a14.st (tA 52 (by omega)) (fun k k1 k2 => by rw [o k (by omega) (by omega) (by omega) (by omega) (by omega)]), by rw [tA 67 (by omega)]; exact a15, a16.1, by rw [o 12 (by omega) (by omega) (by omega) (by omega) (by omega)]; exact a16.2⟩, ?_⟩, hF, hR, fz, lv⟩
  · have s1 := (si_see (nm := nm) (sl := nI v) (t := t) a3 hv htv).1
    unfold vaN
    split
    · exact s1
    · have s2 := s1.fo (T' := gvS (seS S nm (nI v) t) (nI v) t x 0) ⟨fun k hk => by unfold gvS; unfold fO at hk; rw [sI_ne (by omega), sI_ne (by omega)], rfl⟩ (by
        have : (gvS (seS S nm (nI v) t) (nI v) t x 0).1 83 0 = (seS S nm (nI v) t).1 83 0 := by unfold gvS; rw [sI_ne (by omega), sI_ne (by omega)]
        rw [this]
        exact s1.2.2.1)
      exact s2.1
  · refine ⟨vn S + 1, e77, t68', by omega, fun u hu => ?_, fun a b ha hb => ?_, fun u hu => ?_, fun a b ha hb => ?_, by omega⟩
    · rw [e78, t69, e79, t70, e80, hR]
      by_cases c : u = vn S
      · rw [if_pos c, if_pos c, if_pos c, if_pos c, if_pos c]
        exact ⟨rfl, ⟨v, rfl, by omega⟩, y, rfl, yl, TyR.mo hF (fun _ _ z => z) _ _ _ ht⟩
      · rw [if_neg c, if_neg c, if_neg c, if_neg c, if_neg c]
        obtain ⟨b1, ⟨s, b2, b3⟩, _, y', b5, b6, b7⟩ := hV.at (show u < vn S by omega)
        exact ⟨b1, ⟨s, b2, by omega⟩, y', b5, b6, TyR.mo hF (fun _ _ z => z) _ _ _ b7⟩
    · rw [e78, e78]
      by_cases c : a = vn S <;> by_cases c' : b = vn S
      · intro _; omega
      · rw [if_pos c, if_neg c']
        exact fun q => absurd q.symm (hf b (by omega))
      · rw [if_neg c, if_pos c']
        exact fun q => absurd q (hf a (by omega))
      · rw [if_neg c, if_neg c']
        obtain ⟨n', h1, h2, h3, h4, h5, _⟩ := hV
        have : n' = vn S := by unfold vn; rw [h1, nc (by omega)]
        exact h5 a b (by omega) (by omega)
    · obtain ⟨n', h1, h2, h3, h4, h5, h6, _⟩ := hV
      have en : n' = vn S := by unfold vn; rw [h1, nc (by omega)]
      rw [t71]
      by_cases c : u = vn S + 1
      · rw [if_pos c, c, swn, h6 _ (by omega)]
        exact (Int32.ofNat_add _ _).symm
      · rw [if_neg c, sw u (by omega)]
        exact h6 u (by omega)
    · rw [e79, e79]
      by_cases c : a = vn S <;> by_cases c' : b = vn S
      · intro _; omega
      · rw [if_pos c, if_neg c']
        obtain ⟨b1, ⟨s, b2, b3⟩, _⟩ := hV.at (show b < vn S by omega)
        rw [b2]
        intro q
        have := nI_inj (by omega) (by omega) q
        omega
      · rw [if_neg c, if_pos c']
        obtain ⟨b1, ⟨s, b2, b3⟩, _⟩ := hV.at (show a < vn S by omega)
        rw [b2]
        intro q
        have := nI_inj (by omega) (by omega) q
        omega
      · rw [if_neg c, if_neg c']
        exact hV.ds a b (by omega) (by omega)
  · rw [tfl]
    have fb' : ∀ m, m < 64 → fb (sbW (sbW (flw T) (20 + vn S) false) (vn S) false) m = if m = vn S ∨ m = 20 + vn S then false else fb (flw T) m := fun m hm => by
      rw [fb_sb (by omega) hm]
      by_cases c : m = vn S
      · rw [if_pos c, if_pos (Or.inl c)]
      · rw [if_neg c, fb_sb (by omega) hm]
        by_cases c2 : m = 20 + vn S
        · rw [if_pos c2, if_pos (Or.inr c2)]
        · rw [if_neg c2, if_neg (by omega)]
    have k4 : ∀ u z, u < vn S → T.1 70 u = nI z → z < 16387 → kdC (adV T (vn S) y nm) z = kdC T z := fun u z _ _ _ => by
      unfold kdC kO SW
      rw [show (adV T (vn S) y nm).2 62 = T.2 62 by funext j; exact tJ 62 j (by omega) (by omega)]
    obtain ⟨f1, f2, f3, f4, f5⟩ := hfw
    have h83 : (seS S nm (nI v) t).1 83 0 = S.1 83 0 := by rw [see_o (by omega) (by omega) (by omega)]
    -- what is SET, KNOWN
    have e81 : (S.1 83 0 = 0 → (vaN S nm v t x).1 81 0 = S.1 81 0 ∧ (vaN S nm v t x).1 82 0 = S.1 82 0) ∧ (¬ S.1 83 0 = 0 → (vaN S nm v t x).1 81 0 = S.1 81 0 &&& (((1 : Int32) <<< (nI v &&& 31)) ^^^ (-1)) ∧ (vaN S nm v t x).1 82 0 = S.1 82 0 &&& (((1 : Int32) <<< (nI v &&& 31)) ^^^ (-1))) := by
      unfold vaN
      rw [h83]
      constructor
      · intro w
        rw [if_pos w, see_o (by omega) (by omega) (by omega), see_o (by omega) (by omega) (by omega)]
        exact ⟨rfl, rfl⟩
      · intro w
        rw [if_neg w]
        unfold gvS
        rw [sI_ne (by omega), sI_v, sI_v, if_pos rfl, if_neg (fun q => q.1 rfl), see_o (by omega) (by omega) (by omega), see_o (by omega) (by omega) (by omega)]
        exact ⟨rfl, rfl⟩
    rw [o 75 (by omega) (by omega) (by omega) (by omega) (by omega), o 83 (by omega) (by omega) (by omega) (by omega) (by omega)]
    unfold FwR
    rw [hR, evn]
    refine ⟨f1, fun m hm => by rw [fb' _ (by omega), if_neg (by omega)]; exact f2 m hm, fun c m r => by have := RgE.lt r; rw [fb' _ (by omega), if_neg (by omega)]; exact f3 c m r, ⟨by rw [fb' _ (by omega), if_neg (by omega)]; exact f4.1, fun q => by rw [(e81.1 q).1, (e81.1 q).2]; exact f4.2 q⟩, fun u s hu hs h20 => ?_⟩
    rw [e79] at hs
    rw [fb' 52 (by omega), if_neg (by omega), fb' u (by omega), fb' (20 + u) (by omega)]
    by_cases c : u = vn S
    · rw [if_pos c] at hs
      have es : s = v := (nI_inj (by omega) (by omega) hs).symm
      subst es
      rw [if_pos (Or.inl c), if_pos (Or.inr (by omega))]
      by_cases r0 : S.1 83 0 = 0
      · rw [(e81.1 r0).1, (e81.1 r0).2, (f4.2 r0).1, (f4.2 r0).2, fi_m1 (by omega), f4.1.mp r0]
        exact ⟨⟨(fun q => by cases q), fun q => absurd q.1 (by decide)⟩, fun _ _ _ _ => ⟨fun _ q => absurd q.1 (by decide), fun _ => rfl⟩⟩
      · rw [(e81.2 r0).1, (e81.2 r0).2, fi_of (by omega) (by omega), fi_of (by omega) (by omega), if_pos rfl, if_pos rfl]
        have r1 : fb (flw T) 52 = true := by
          cases hq : fb (flw T) 52 with
          | true => rfl
          | false => exact absurd (f4.1.mpr hq) r0
        rw [r1]
        exact ⟨⟨fun _ => ⟨rfl, rfl⟩, fun _ => rfl⟩, fun _ _ _ _ => ⟨(fun q => by cases q), fun q => absurd ⟨rfl, rfl⟩ q⟩⟩
    · rw [if_neg c] at hs
      obtain ⟨_, ⟨s', b2, b3⟩, _⟩ := hV.at (show u < vn S by omega)
      have es : s = s' := nI_inj (by omega) (by omega) (by rw [← hs, b2])
      obtain ⟨g1, g2⟩ := f5 u s (by omega) hs h20
      rw [if_neg (by omega), if_neg (by omega)]
      have es1 : fi ((vaN S nm v t x).1 81 0) s = fi (S.1 81 0) s ∧ fi ((vaN S nm v t x).1 82 0) s = fi (S.1 82 0) s := by
        by_cases r0 : S.1 83 0 = 0
        · rw [(e81.1 r0).1, (e81.1 r0).2]
          exact ⟨rfl, rfl⟩
        · rw [(e81.2 r0).1, (e81.2 r0).2, fi_of (by omega) (by omega), fi_of (by omega) (by omega), if_neg (by omega), if_neg (by omega)]
          exact ⟨rfl, rfl⟩
      rw [es1.1, es1.2]
      refine ⟨g1, fun z z1 z2 z3 => ?_⟩
      rw [t70, if_neg c] at z1
      rw [k4 u z (by omega) z1 z2] at z3
      exact g2 z z1 z2 z3
end ZS5
