/-! VARS that are given something, VARS that are asked for: both sides -/
def knT (T : gSt) (r : Int32) : gSt := if r = -1 then T else sJ T 77 0 (sbW (flw T) (20 + r.toNatClampNeg) true)
section SKN
variable {S S' T T' : gSt} {X : Lx} {nf d it e v g n u s c m k i dd mo : Nat} {x y r acc acc' : Int32} {w w2 : Int64} {t ta tb tr : Tr} {nm : Int64}
theorem VaS.fd (hV : VaS e v S T) (nm : Int64) : ff (isVr T nm) 0 (vn S) = fd (isVa S nm) (vn S) := by
  obtain ⟨n', h1, h2, h3, h4, h5, h6, h7, h8⟩ := hV
  have ev : vn S = n' := by unfold vn; rw [h1, nc (by omega)]
  rw [ev]
  have sm : ∀ v, v < n' → isVr T nm v = isVa S nm v := fun v hv => by
    unfold isVr isVa
    rw [(h4 v hv).1]
  rcases fd_v (p := isVa S nm) n' with ⟨e, al⟩ | ⟨v, v1, v2, e⟩
  · rw [e]
    exact (ff_all (by omega)).mpr (fun j _ hj => by rw [sm j (by omega)]; exact al j (by omega))
  · rw [e]
    rcases ff_val (p := isVr T nm) (i := 0) (k := n') with w | ⟨j, _, j1, j2, w⟩
    · exact absurd (by rw [sm v v1]; exact v2) ((ff_all (by omega)).mp w v (by omega) (by omega))
    · rw [w]
      rw [sm j (by omega)] at j2
      unfold isVa at j2 v2
      have := h5 j v (by omega) v1 (by rw [of_decide_eq_true j2, of_decide_eq_true v2])
      rw [this]
theorem VaS.at (hV : VaS e v S T) (hu : u < vn S) : S.2 78 u = T.2 69 u ∧ (∃ s, S.1 79 u = nI s ∧ s < v) ∧ v ≤ 20 ∧ ∃ y, T.1 70 u = nI y ∧ y < 16387 ∧ TyR (RgE e S) S T 5 (S.1 80 u) y := by
  obtain ⟨n', h1, h2, h3, h4, h5, h6, h7, h8⟩ := hV
  have ev : vn S = n' := by unfold vn; rw [h1, nc (by omega)]
  obtain ⟨a1, a2, a3⟩ := h4 u (by omega)
  exact ⟨a1, a2, h8, a3⟩
theorem agB.or {x' y' : Int32} (h : agB S x y) (h' : agB S x' y') : agB S (x ||| x') (y ||| y') := fun u s a b c => by rw [fi_or, fi_or, h u s a b c, h' u s a b c]
theorem agB.z : agB S 0 0 := fun u s _ _ _ => by rw [fi_0, fi_0]
theorem gv_bits (hV : VaS e v S T) (t : Tr) : ∀ (dd mo : Nat) (acc acc' : Int32), SG X t dd mo → agB S acc acc' → (mo ≠ 3 → agB S (gvA X t S acc) (gvK X T (vn S) t acc')) ∧ (mo = 3 → agB S (gvA X t S acc) (acc' ||| gvK X T (vn S) t 0)) := by
  have v20 := hV.vs.1
  induction t using Tr_ind with
  | hz t hz =>
    intro dd mo acc acc' hs ha
    unfold SG at hs
    split at hs
    · exact absurd rfl (hz _ _ _ _ _)
    · exact ⟨fun _ => ha, fun q => absurd (hs.symm.trans q) (by decide)⟩
    · exact hs.elim
  | h k i e' ta tb ihA ihB =>
    intro dd mo acc acc' hs ha
    rw [gvA_n, gvK_n, gvK_n]
    rw [SG_n] at hs
    unfold sgN at hs
    unfold gvN gkN
    by_cases m3 : mo = 3
    · rw [if_pos m3] at hs
      refine ⟨fun q => absurd m3 q, fun _ => ?_⟩
      obtain ⟨k12, s1, s2⟩ := hs
      subst k12
      show agB S (if isZ tb = true then acc ||| gvA X ta S 0 else acc ||| gvA X ta S 0 ||| gvA X tb S 0) (acc' ||| (gvK X T (vn S) ta 0 ||| gvK X T (vn S) tb 0))
      have a1 := (ihA dd 2 0 0 s1 agB.z).1 (by decide)
      by_cases z : isZ tb = true
      · rw [if_pos z]
        have gz : gvK X T (vn S) tb 0 = 0 := by
          unfold isZ at z
          split at z
          · rfl
          · cases z
        rw [gz]
        intro u s p1 p2 p3
        rw [fi_or, fi_or, fi_or, ha u s p1 p2 p3, a1 u s p1 p2 p3, fi_0]
        cases fi acc' u <;> cases fi (gvK X T (vn S) ta 0) u <;> rfl
      · rw [if_neg z]
        have a2 := (ihB dd 2 0 0 (s2.resolve_left z) agB.z).1 (by decide)
        intro u s p1 p2 p3
        rw [fi_or, fi_or, fi_or, fi_or, ha u s p1 p2 p3, a1 u s p1 p2 p3, a2 u s p1 p2 p3]
        cases fi acc' u <;> cases fi (gvK X T (vn S) ta 0) u <;> cases fi (gvK X T (vn S) tb 0) u <;> rfl
    rw [if_neg m3] at hs
    refine ⟨fun _ => ?_, fun q => absurd q m3⟩
    by_cases m2 : mo = 2
    · rw [if_pos m2] at hs
      obtain ⟨k31, s1, _⟩ := hs
      rw [if_pos k31, if_pos k31]
      exact (ihA dd 1 acc acc' s1 ha).1 (by decide)
    rw [if_neg m2] at hs
    by_cases m1 : mo = 1
    · rw [if_pos m1] at hs
      obtain ⟨k11, s1, s2⟩ := hs
      subst k11
      rw [if_neg (by omega), if_pos rfl, if_neg (by omega), if_pos rfl]
      exact (ihB dd 1 _ _ s2 ((ihA dd 0 acc acc' s1 ha).1 (by decide))).1 (by decide)
    rw [if_neg m1] at hs
    have n31 : ¬ k = 31 := fun q => by subst q; rw [if_neg (by omega), if_neg (by omega), if_neg (by omega), if_neg (by omega), if_neg (by omega), if_neg (by omega), if_neg (by omega), if_neg (by omega), if_neg (by omega)] at hs; exact hs
    have n11 : ¬ k = 11 := fun q => by subst q; rw [if_neg (by omega), if_neg (by omega), if_neg (by omega), if_neg (by omega), if_neg (by omega), if_neg (by omega), if_neg (by omega), if_neg (by omega), if_neg (by omega)] at hs; exact hs
    have n12 : ¬ k = 12 := fun q => by subst q; rw [if_neg (by omega), if_neg (by omega), if_neg (by omega), if_neg (by omega), if_neg (by omega), if_neg (by omega), if_neg (by omega), if_neg (by omega), if_neg (by omega)] at hs; exact hs
    rw [if_neg n31, if_neg n11, if_neg n31, if_neg n11]
    by_cases c29 : k = 29
    · rw [if_pos c29, if_pos c29]
      unfold vaI
      by_cases c4 : tkd X ta = 4
      · rw [if_pos c4, hV.fd]
        rcases fd_v (p := isVa S (xN X (lfI ta))) (vn S) with ⟨e1, al⟩ | ⟨q, q1, q2, e1⟩
        · rw [e1, if_neg (fun z => z.2 (by decide)), if_pos rfl]
          intro u s p1 p2 p3
          rw [fi_or, fi_0, ha u s p1 p2 p3, Bool.or_false]
        · obtain ⟨_, ⟨sq, b2, b3⟩, b4, _⟩ := hV.at q1
          have cq : (nI q).toNatClampNeg = q := nc (by omega)
          have n0 : ¬ nI q < 0 := fun z => by
            have := (nI_ltI (a := q) (b := 0) (by omega) (by omega)).mp z
            omega
          rw [e1, if_pos ⟨c4, n0⟩, if_neg (nI_m1 (by omega))]
          unfold tf
          rw [cq, b2]
          intro u s p1 p2 p3
          rw [fi_on (by omega) (by omega), fi_on (by omega) (by omega)]
          by_cases cu : u = q
          · subst cu
            have : s = sq := nI_inj (by omega) (by omega) (by rw [← p2, ← b2])
            rw [if_pos this, if_pos rfl]
          · have : ¬ s = sq := fun z => cu (hV.ds u q p1 q1 (by rw [p2, b2, z]))
            rw [if_neg this, if_neg cu]
            exact ha u s p1 p2 p3
      · rw [if_neg (fun z => c4 z.1), if_neg c4, if_pos rfl]
        intro u s p1 p2 p3
        rw [fi_or, fi_0, ha u s p1 p2 p3, Bool.or_false]
    rw [if_neg c29, if_neg c29]
    by_cases c21 : k = 21
    · rw [if_pos c21, if_pos c21]
      rw [if_neg (by omega), if_pos c21] at hs
      exact (ihB (dd + 1) 3 acc acc' hs.2 ha).2 rfl
    rw [if_neg c21, if_neg c21, if_neg n12, if_neg n12]
    by_cases c22 : k = 22
    · rw [if_pos c22, if_pos c22]
      rw [if_neg (by omega), if_neg c21, if_pos c22] at hs
      have a2 := (ihB (dd + 1) 2 0 0 hs.2 agB.z).1 (by decide)
      intro u s p1 p2 p3
      rw [fi_or, fi_or, fi_or, fi_0, ha u s p1 p2 p3, a2 u s p1 p2 p3, Bool.or_false]
    rw [if_neg c22, if_neg c22]
    by_cases c26 : k = 26
    · rw [if_pos c26, if_pos c26]
      rw [if_neg (by omega), if_neg c21, if_neg c22, if_neg (by omega), if_neg (by omega), if_neg (by omega), if_pos c26] at hs
      have a2 := (ihA (dd + 1) 2 0 0 hs.2 agB.z).1 (by decide)
      intro u s p1 p2 p3
      rw [fi_or, fi_or, fi_or, fi_0, ha u s p1 p2 p3, a2 u s p1 p2 p3, Bool.or_false]
    rw [if_neg c26, if_neg c26]
    by_cases c28 : k = 28
    · rw [if_pos c28, if_pos c28]
      rw [if_neg (by omega), if_neg c21, if_neg c22, if_neg (by omega), if_neg (by omega), if_neg (by omega), if_neg c26, if_neg (by omega), if_pos c28] at hs
      have a1 := (ihA (dd + 1) 2 0 0 hs.1 agB.z).1 (by decide)
      have a2 := (ihB (dd + 1) 2 0 0 hs.2 agB.z).1 (by decide)
      intro u s p1 p2 p3
      rw [fi_or, fi_or, fi_or, fi_or, ha u s p1 p2 p3, a1 u s p1 p2 p3, a2 u s p1 p2 p3]
    rw [if_neg c28, if_neg c28]
    exact ha
/-- bits of VARS alone -/
theorem gvK_hi (hn : n ≤ 20) (t : Tr) : ∀ acc : Int32, (∀ j, 20 ≤ j → j < 32 → fi acc j = false) → ∀ j, 20 ≤ j → j < 32 → fi (gvK X T n t acc) j = false := by
  induction t using Tr_ind with
  | hz t hz =>
    intro acc ha
    unfold gvK
    split
    · exact absurd rfl (hz _ _ _ _ _)
    · exact ha
  | h k i e ta tb ihA ihB =>
    intro acc ha j h1 h2
    have z0 : ∀ j, 20 ≤ j → j < 32 → fi (0 : Int32) j = false := fun j _ _ => fi_0
    rw [gvK_n]
    unfold gkN
    repeat' split
    · exact ihA acc ha j h1 h2
    · exact ihB _ (ihA acc ha) j h1 h2
    · rw [fi_or, fi_0, ha j h1 h2]; rfl
    · rename_i q
      unfold vaI at q ⊢
      by_cases c4 : tkd X ta = 4
      · rw [if_pos c4] at q ⊢
        rcases ff_val (p := isVr T (xN X (lfI ta))) (i := 0) (k := n) with w | ⟨j', _, j1, _, w⟩
        · exact absurd w q
        · rw [w, fi_on (by omega) (by omega), if_neg (by omega)]
          exact ha j h1 h2
      · rw [if_neg c4] at q
        exact absurd rfl q
    · rw [fi_or, ha j h1 h2, ihB 0 z0 j h1 h2]; rfl
    · rw [fi_or, ihA 0 z0 j h1 h2, ihB 0 z0 j h1 h2]; rfl
    · rw [fi_or, fi_or, ha j h1 h2, ihB 0 z0 j h1 h2, fi_0]; rfl
    · rw [fi_or, fi_or, ha j h1 h2, ihA 0 z0 j h1 h2, fi_0]; rfl
    · rw [fi_or, fi_or, ha j h1 h2, ihA 0 z0 j h1 h2, ihB 0 z0 j h1 h2]; rfl
    · exact ha j h1 h2
/-- know, forgetKnown -/
theorem c_knw (h : r = -1 ∨ ∃ q, r = nI q ∧ q < 20) (hd : 1 ≤ d) : PP nf d 122 T [r] [] = some (0, 0, knT T r) := by
  unfold knT
  rcases h with h | ⟨q, h, hq⟩
  · obtain ⟨d, rfl⟩ : ∃ g, d = g + 1 := ⟨d - 1, by omega⟩
    rw [if_pos h, h, e_Scope_know]
    unfold rb_Scope_know
    rw [if_pos (by decide)]
  · rw [h, if_neg (nI_m1 (by omega)), c_know hq hd, nc (by omega)]
theorem c_fgt (hd : 1 ≤ d) : PP nf d 123 T [x] [] = some (0, 0, sJ T 77 0 (fgW (flw T) x)) := by
  obtain ⟨d, rfl⟩ : ∃ g, d = g + 1 := ⟨d - 1, by omega⟩
  rw [e_Scope_forgetKnown]
  rfl
theorem knT_o : (knT T r).1 = T.1 ∧ ∀ q j, q ≠ 77 → (knT T r).2 q j = T.2 q j := by
  unfold knT
  split
  · exact ⟨rfl, fun _ _ _ => rfl⟩
  · exact ⟨rfl, fun q j hq => by rw [rdJ, if_neg (fun z => hq z.1)]⟩
theorem vaI_v (hn : n ≤ 20) : vaI X T n t = -1 ∨ ∃ q, vaI X T n t = nI q ∧ q < 20 := by
  unfold vaI
  split
  · rcases ff_val (p := isVr T (xN X (lfI t))) (i := 0) (k := n) with w | ⟨j', _, j1, _, w⟩
    · exact Or.inl w
    · exact Or.inr ⟨j', w, by omega⟩
  · exact Or.inl rfl
theorem vnI_v (hn : n ≤ 20) (t : Tr) : vnI X T n t = -1 ∨ ∃ q, vnI X T n t = nI q ∧ q < 20 := by
  induction t using Tr_ind with
  | hz t hz =>
    unfold vnI
    split
    · exact absurd rfl (hz _ _ _ _ _)
    · exact Or.inl rfl
  | h k i e ta tb ihA ihB =>
    rw [vnI_n]
    split
    · exact ihA
    · split
      · rcases ff_val (p := isVr T (xN X (lfI ta))) (i := 0) (k := n) with w | ⟨j', _, j1, _, w⟩
        · exact Or.inl w
        · exact Or.inr ⟨j', w, by omega⟩
      · exact Or.inl rfl
/-- a VAR is known to be solid -/
theorem SrR.kn (h : SrR X it e v g n S T) (nm : Int64) : SrR X it e v g n (kwS S (akV S nm)) (knT T (ff (isVr T nm) 0 (vn S))) := by
  have hV := h.1.2.2.2.2.2.2.2.2.1
  have v20 := hV.vs.1
  have h83 := h.1.2.2.1.2.2.1
  rw [hV.fd]
  unfold akV
  rcases fd_v (p := isVa S nm) (vn S) with ⟨e1, al⟩ | ⟨q, q1, q2, e1⟩
  · rw [e1, if_pos (by decide)]
    unfold kwS knT
    rw [if_pos (by decide), if_pos rfl]
    exact h
  · obtain ⟨_, ⟨sq, b2, b3⟩, b4, y, b5, b6, b7⟩ := hV.at q1
    have cq : (nI q).toNatClampNeg = q := nc (by omega)
    have n0 : ∀ z : Nat, z < 100 → ¬ nI z < 0 := fun z hz w => by
      have := (nI_ltI (a := z) (b := 0) (by omega) (by omega)).mp w
      omega
    have lo := b7.lo
    rw [e1, if_neg (n0 q (by omega))]
    unfold tf
    rw [cq, b2]
    have un : knT T (nI q) = sJ T 77 0 (sbW (flw T) (20 + q) true) := by unfold knT; rw [if_neg (nI_m1 (by omega)), cq]
    rw [un]
    have t2 : ∀ p j, p ≠ 77 → (sJ T 77 0 (sbW (flw T) (20 + q) true)).2 p j = T.2 p j := fun p j hp => by rw [rdJ, if_neg (fun z => hp z.1)]
    have yu : ∀ z, T.1 70 q = nI z → z < 16387 → z = y := fun z z1 z2 => nI_inj (by omega) (by omega) (by rw [← z1, ← b5])
    have no : ¬ kdC T y = 4 → SrR X it e v g n S (sJ T 77 0 (sbW (flw T) (20 + q) true)) := fun k4 => by
      obtain ⟨a1, a2, a3, a4, a5⟩ := h.1.fo (S' := S) (T' := sJ T 77 0 (sbW (flw T) (20 + q) true)) (fun _ _ => rfl) rfl h83 rfl t2
      refine ⟨a1, ?_⟩
      have := (h.2.know0 (u := q) v20 (by omega) (fun z z1 z2 => by rw [yu z z1 z2]; exact k4)).mo hV a4 rfl rfl rfl (fun _ => rfl)
      rw [flw_w]
      exact this
    by_cases c0 : S.1 80 q ≤ 0
    · rw [if_pos c0]
      unfold kwS
      rw [if_pos (by decide)]
      exact no (fun k4 => by
        have := (lo.mpr k4).1
        rw [Int32.lt_iff_toInt_lt] at this
        rw [Int32.le_iff_toInt_le] at c0
        omega)
    · rw [if_neg c0]
      by_cases c2 : S.1 66 (S.1 80 q).toNatClampNeg = 2
      · rw [if_pos c2]
        have c0' : 0 < S.1 80 q := by
          rw [Int32.lt_iff_toInt_lt]
          rw [Int32.le_iff_toInt_le] at c0
          omega
        unfold kwS
        rw [if_neg (n0 sq (by omega))]
        obtain ⟨a1, a2, a3, a4, a5⟩ := h.1.fo (S' := sI S 82 0 (S.1 82 0 ||| (1 <<< (nI sq &&& 31)))) (T' := sJ T 77 0 (sbW (flw T) (20 + q) true)) (fun k hk => by rw [sI_ne (by omega)]) rfl (by rw [sI_ne (by omega)]; exact h83) rfl t2
        refine ⟨a1, ?_⟩
        have := (h.2.know hV.ds v20 q1 b2 (by omega)).mo hV a4 a2 (by rw [sI_ne (by omega)]) (by rw [sI_ne (by omega)]) (fun _ => rfl)
        rw [flw_w, sI_v, sI_ne (g' := 81) (by omega), sI_ne (g' := 75) (by omega), sI_ne (g' := 83) (by omega)]
        exact this
      · rw [if_neg c2]
        unfold kwS
        rw [if_pos (by decide)]
        exact no (fun k4 => c2 (lo.mpr k4).2)
theorem SrR.kY (h : SrR X it e v g n S T) (t : Tr) : SrR X it e v g n (kwS S (akY X t S)) (knT T (vaI X T (vn S) t)) := by
  unfold akY vaI
  by_cases c : tkd X t = 4
  · rw [if_pos c, if_pos c]
    exact h.kn _
  · rw [if_neg c, if_neg c]
    unfold kwS knT
    rw [if_pos (by decide), if_pos rfl]
    exact h
theorem chK_62 (h : i = 51 ∨ (53 ≤ i ∧ i ≤ 57) ∨ i = 62) : chK i = 256 ↔ i = 62 := by
  rcases (by omega : i = 51 ∨ i = 53 ∨ i = 54 ∨ i = 55 ∨ i = 56 ∨ i = 57 ∨ i = 62) with w | w | w | w | w | w | w <;> subst w <;> decide
theorem SrR.kN (h : SrR X it e v g n S T) (t : Tr) : ∀ (m : Nat), XG X t m 1 → SrR X it e v g n (kwS S (akN X t S)) (knT T (vnI X T (vn S) t)) := by
  have z : SrR X it e v g n (kwS S (-1)) (knT T (-1)) := by
    unfold kwS knT
    rw [if_pos (by decide), if_pos rfl]
    exact h
  induction t using Tr_ind with
  | hz t hz =>
    intro m hg
    unfold akN vnI
    split
    · exact absurd rfl (hz _ _ _ _ _)
    · split
      · exact absurd rfl (hz _ _ _ _ _)
      · exact z
  | h k i e' ta tb ihA ihB =>
    intro m hg
    rw [XG_n] at hg
    unfold xgN at hg
    rw [if_neg (by omega)] at hg
    rw [vnI_n]
    show SrR X it e v g n (kwS S (if k = 2 then akN X ta S else if k = 5 ∧ chK e' = 256 ∧ tkd X ta = 4 ∧ tkd X tb = 1 then akV S (xN X (lfI ta)) else -1)) _
    by_cases c2 : k = 2
    · rw [if_pos c2, if_pos c2]
      rw [if_neg (by omega), if_pos c2] at hg
      exact ihA (m - 1) hg.2.2
    · rw [if_neg c2, if_neg c2]
      by_cases c5 : k = 5
      · rw [if_neg (by omega), if_neg c2, if_neg (by omega), if_neg (by omega), if_pos c5] at hg
        have q := chK_62 hg.2.2.2
        by_cases c : k = 5 ∧ e' = 62 ∧ tkd X ta = 4 ∧ tkd X tb = 1
        · rw [if_pos ⟨c.1, q.mpr c.2.1, c.2.2⟩, if_pos c]
          exact h.kn _
        · rw [if_neg (fun w => c ⟨w.1, q.mp w.2.1, w.2.2⟩), if_neg c]
          exact z
      · rw [if_neg (fun w => c5 w.1), if_neg (fun w => c5 w.1)]
        exact z
end SKN
