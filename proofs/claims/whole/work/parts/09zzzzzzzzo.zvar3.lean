/-! a var STEP on both sides -/
section ZS6
variable {S S' T T' T1 T2 T3 : gSt} {X : Lx} {nf d it e v g n dd v' g' k i e' u c m lo hi a b n0 y z p q r j s f yv yx : Nat} {ta tb tr : Tr} {pl x op w cc t x4 : Int32} {R : RgR} {nm : Int64} {bo : Bool}
theorem adV_o (hk : ¬ (68 ≤ k ∧ k ≤ 71)) : (adV T n y nm).1 k = T.1 k := by
  unfold adV
  rw [sI_ne (by omega)]
  show (sI (sI (sJ T 69 n nm) 70 n (nI y)) 71 (n + 1) (T.1 71 n + nI (wdC T y))).1 k = _
  rw [sI_ne (by omega), sI_ne (by omega)]
  rfl
theorem adV_70 : (adV T n y nm).1 70 j = if j = n then nI y else T.1 70 j := by
  unfold adV
  rw [sI_ne (by omega)]
  show (sI (sI (sJ T 69 n nm) 70 n (nI y)) 71 (n + 1) (T.1 71 n + nI (wdC T y))).1 70 j = _
  rw [sI_ne (by omega), rdI]
  by_cases c : j = n
  · rw [if_pos ⟨rfl, c⟩, if_pos c]
  · rw [if_neg (fun q => c q.2), if_neg c]; rfl
theorem adV_71 : (adV T n y nm).1 71 n = T.1 71 n := by
  unfold adV
  rw [sI_ne (by omega)]
  show (sI (sI (sJ T 69 n nm) 70 n (nI y)) 71 (n + 1) (T.1 71 n + nI (wdC T y))).1 71 n = _
  rw [rdI, if_neg (fun q => by omega), sI_ne (by omega)]
  rfl
theorem adV_2 (h1 : q ≠ 69) (h2 : q ≠ 77) : (adV T n y nm).2 q j = T.2 q j := by
  show (sJ (sJ T 69 n nm) 77 0 (sbW (sbW (flw T) (20 + n) false) n false)).2 q j = _
  rw [rdJ, if_neg (fun z => h2 z.1), rdJ, if_neg (fun z => h1 z.1)]
theorem adV_kd : kdC (adV T n y nm) z = kdC T z ∧ wdC (adV T n y nm) z = wdC T z := by
  have e : (adV T n y nm).2 62 = T.2 62 := by funext j; exact adV_2 (by omega) (by omega)
  have k : kdC (adV T n y nm) z = kdC T z := by unfold kdC kO SW; rw [e]
  exact ⟨k, by unfold wdC; rw [k]⟩
/-- a VAR comes in sight: the class's side -/
theorem WZ.ad (hw : WZ X T v g dd) (hv : v < 20) (h68 : T.1 68 0 = nI n) (hn2 : n ≤ 20) (hy : tyY T y) : WZ X (adV T n y nm) (v + 1) g dd ∧ FZ T (adV T n y nm) ∧ FqZ T (adV T n y nm) (v + 1) := by
  have fz : FZ T (adV T n y nm) := FZ.sc hw.1.2.1 (fun k hk => adV_o (by omega)) (fun q j a _ c => adV_2 a c) adV_z
  obtain ⟨nv, v1, v2, v3⟩ := hw.1.2.2.2.2.1
  obtain ⟨u, u1, u2⟩ := hw.2.1
  have v20 := hw.2.2.1
  have e1 : u = nv := nI_inj (by omega) (by omega) (by rw [← u1, ← v1])
  have e2 : n = nv := nI_inj (by omega) (by omega) (by rw [← h68, ← v1])
  subst e1 e2
  have fq : FqZ T (adV T n y nm) (v + 1) := by
    refine ⟨by rw [adV_o (by omega)], by rw [adV_o (by omega)], by rw [adV_o (by omega)], n, n + 1, h68, by unfold adV; rw [sI_v], by omega, by omega, by omega, fun j hj => ?_⟩
    rw [adV_70]
    by_cases c : j = n
    · rw [if_pos c]
      exact ⟨y, rfl, fz.2.2.2.1 y hy⟩
    · rw [if_neg c]
      obtain ⟨z, z1, z2⟩ := v3 j (by omega)
      exact ⟨z, z1, fz.2.2.2.1 z z2⟩
  exact ⟨hw.fzq fz fq (by omega) (Nat.le_refl _) hw.2.2.2.2.1, fz, fq⟩
/-- the spec's side of a VAR that comes in sight with a value -/
theorem vaE_v {pn : Int32} (h0 : S.1 7 0 = 0) (hf : ¬ 0 ≤ fd (isVa S nm) (vn S)) : vaE S nm pn (nI v) t x 0 = vaN S nm v t x ∧ vaE S nm pn (nI v) t x 1 = (if (vaN S nm v t x).1 83 0 = 0 then vaN S nm v t x else gvS (vaN S nm v t x) ((vaN S nm v t x).1 79 (vn S)) ((vaN S nm v t x).1 80 (vn S)) x 1) := by
  have e83 : (vaN S nm v t x).1 83 0 = (seS S nm (nI v) t).1 83 0 := by rw [vaN_m (by omega) (by omega)]
  have e79 : (vaN S nm v t x).1 79 (vn S) = nI v := by rw [vaN_m (by omega) (by omega), see_79, if_pos rfl]
  have e80 : (vaN S nm v t x).1 80 (vn S) = t := by rw [vaN_m (by omega) (by omega), see_80, if_pos rfl]
  unfold vaE
  rw [if_pos h0, if_neg hf, if_pos h0, if_neg hf, e83, e79, e80]
  unfold vaN
  constructor
  · rfl
  · by_cases c : (seS S nm (nI v) t).1 83 0 = 0
    · rw [if_pos c, if_pos c, if_pos c]
    · rw [if_neg c, if_neg c, if_neg c, gv_gv]
/-- the name of a new VAR, its place, its value -/
theorem y_v76 (hX : XO X) (hnf : 16385 ≤ nf) (hw : WZ X T v g dd) (hv : v < 20) (hi : i < xn X) (hy : tyY T y) (hx : tyY T yx) (hd : 8 ≤ d) : wp (rj_Steps_checkVar_76 (PP nf d) nf T (nI i) x4 (nI y) (nI yx)) (fun _ _ T' => FZ T T' ∧ FqZ T T' (v + 1) ∧ ∀ it e n S t x f m, SrR X it e v g n S T → TyR (RgE e S) S T 5 t y → tV S t → cn S < 6000 → (¬ x4 = 0 → TyR (RgE e S) S T f x yx) → T.1 51 0 = nI m → m < 6032 → BfR (vaE S (xN X i) (nI (xP X i)) (nI v) t x (if x4 = 0 then 0 else 1)) T' ∨ (SrR X it e (v + 1) g n (vaE S (xN X i) (nI (xP X i)) (nI v) t x (if x4 = 0 then 0 else 1)) T' ∧ TyF S (vaE S (xN X i) (nI (xP X i)) (nI v) t x (if x4 = 0 then 0 else 1)) T T' ∧ AgK S (vaE S (xN X i) (nI (xP X i)) (nI v) t x (if x4 = 0 then 0 else 1)) T T' 0 m ∧ lvC T' 16384 = lvC T 16384 ∧ (if x4 = 0 then T'.1 51 0 = nI m else T'.1 51 0 = nI (m + 1) ∧ cw3 T' m = (4, nI (slW S (vn S)), nI (wdC T y))))) := by
  have hxn := hX.1
  obtain ⟨d, rfl⟩ : ∃ g, d = g + 1 := ⟨d - 1, by omega⟩
  obtain ⟨u, u1, u2⟩ := hw.2.1
  have yl := hy.lt
  have yxl := hx.lt
  unfold rj_Steps_checkVar_76
  rw [c_name hX hw.1.1 hi, bis, c_findVar (nf := nf) (d := d + 1) (nm := xN X i) (by omega) u1 (by omega) (by omega), bis]
  -- the place of the VAR, its value
  have go : ∀ y0 : Int32, wp (rj_Steps_checkVar_104 (PP nf (d + 1)) nf T (nI i) x4 (nI y) (nI yx) y0) (fun _ _ T' => ∃ T1, T1 = (if y0 = 0 then ntS T 2 (nI (xP X i)) else T) ∧ FX T T1 ∧ FZ T1 T' ∧ FqZ T T' (v + 1) ∧ (if x4 = 0 then T' = adV T1 u y (xN X i) else FX (sJ (adV T1 u y (xN X i)) 77 0 (gvW (flw (adV T1 u y (xN X i))) u (decide (kdC (adV T1 u y (xN X i)) y = 4 ∧ kdC (adV T1 u y (xN X i)) yx = 3)))) T' ∧ ∀ m, T1.1 51 0 = nI m → m < 6032 → T' = emS (sJ (adV T1 u y (xN X i)) 77 0 (gvW (flw (adV T1 u y (xN X i))) u (decide (kdC (adV T1 u y (xN X i)) y = 4 ∧ kdC (adV T1 u y (xN X i)) yx = 3)))) m 4 (T1.1 71 u) (nI (wdC T1 y)))) := by
    intro y0
    unfold rj_Steps_checkVar_104
    rw [c_start hX hw.1.1 (by omega), bis, c_dem (by omega), bis]
    have f1 : FX T (if y0 = 0 then ntS T 2 (nI (xP X i)) else T) := FX.dm hw.1.2.1
    generalize e1 : (if y0 = 0 then ntS T 2 (nI (xP X i)) else T) = T1 at f1 ⊢
    obtain ⟨W1, q1⟩ := hw.fx f1
    have hy1 := f1.2.2.2.1 y hy
    have h68 : T1.1 68 0 = nI u := by rw [f1.o (by omega)]; exact u1
    obtain ⟨W2, z2, q2⟩ := W1.ad (nm := xN X i) hv h68 (by omega) hy1
    have hx2 := z2.2.2.2.1 yx (f1.2.2.2.1 yx hx)
    rw [c_name hX W1.1.1 hi, bis, c_addVar (nf := nf) (d := d + 1) (nm := xN X i) (c := y) h68 (by omega) (by omega) (by omega), bis]
    show wp (if x4 = 0 then some (0, 0, adV T1 u y (xN X i)) else bi (PP nf (d + 1) 174 (adV T1 u y (xN X i)) [nI u, nI yx] []) fun _ _ T18 => some (0, 0, T18)) _
    by_cases c : x4 = 0
    · rw [if_pos c]
      refine wp_some ⟨T1, rfl, f1, z2, q1.tr q2, ?_⟩
      rw [if_pos c]
    · rw [if_neg c]
      have h68' : (adV T1 u y (xN X i)).1 68 0 = nI (u + 1) := by unfold adV; rw [sI_v]
      refine wp_bi (y_give (nf := nf) (d := d + 1) (u := u) (y := yx) W2 h68' (by omega) (by omega) hx2 (by omega)) ?_
      intro _ _ T3 ⟨g1, g2, yv, g3, g4, g5, g6⟩
      have eyv : yv = y := nI_inj (by omega) (by omega) (by rw [← g3, adV_70, if_pos rfl])
      subst eyv
      refine wp_some ⟨T1, rfl, f1, z2.tr g1, (q1.tr q2).tr g2, ?_⟩
      rw [if_neg c]
      refine ⟨g5, fun m h51 hm => ?_⟩
      have := g6 m (by rw [adV_o (by omega)]; exact h51) hm
      rw [adV_71, adV_kd.2] at this
      exact this
  -- the name is in sight
  have known : ¬ ff (isVr T (xN X i)) 0 u = -1 → wp (rj_Steps_checkVar_104 (PP nf (d + 1)) nf T (nI i) x4 (nI y) (nI yx) 0) (fun _ _ T' => FZ T T' ∧ FqZ T T' (v + 1) ∧ ∀ it e n S t x f m, SrR X it e v g n S T → TyR (RgE e S) S T 5 t y → tV S t → cn S < 6000 → (¬ x4 = 0 → TyR (RgE e S) S T f x yx) → T.1 51 0 = nI m → m < 6032 → BfR (vaE S (xN X i) (nI (xP X i)) (nI v) t x (if x4 = 0 then 0 else 1)) T' ∨ (SrR X it e (v + 1) g n (vaE S (xN X i) (nI (xP X i)) (nI v) t x (if x4 = 0 then 0 else 1)) T' ∧ TyF S (vaE S (xN X i) (nI (xP X i)) (nI v) t x (if x4 = 0 then 0 else 1)) T T' ∧ AgK S (vaE S (xN X i) (nI (xP X i)) (nI v) t x (if x4 = 0 then 0 else 1)) T T' 0 m ∧ lvC T' 16384 = lvC T 16384 ∧ (if x4 = 0 then T'.1 51 0 = nI m else T'.1 51 0 = nI (m + 1) ∧ cw3 T' m = (4, nI (slW S (vn S)), nI (wdC T y))))) := fun hk => by
    refine wp_mono (go 0) ?_
    intro _ _ T' ⟨T1, e1, f1, z1, q1, _⟩
    rw [if_pos rfl] at e1
    refine ⟨f1.fz.tr z1, q1, fun it e n S t x f m hR ht htv hc hxx h51 hm => Or.inl ?_⟩
    have hV := hR.1.2.2.2.2.2.2.2.2.1
    obtain ⟨v20, s77, t68⟩ := hV.vs
    have eu : vn S = u := nI_inj (by omega) (by omega) (by rw [← t68, ← u1])
    have fdv := hV.fd (xN X i)
    rw [eu] at fdv
    have p0 : 0 ≤ fd (isVa S (xN X i)) (vn S) := by
      rw [eu]
      rcases fd_v (p := isVa S (xN X i)) u with ⟨w1, _⟩ | ⟨q, w1, _, w2⟩
      · rw [fdv, w1] at hk; exact absurd rfl hk
      · rw [w2]; exact nI0le (by omega)
    have bf := bf_nt (S := S) (T := T) (p := nI (xP X i)) (a := 2) hR.1.2.2.2.1 hR.1.2.2.2.2.1 (by decide)
    rw [← e1] at bf
    unfold vaE
    rw [if_pos hR.1.2.2.2.1, if_pos p0]
    exact bf.fz z1
  by_cases ck : ¬ ff (isVr T (xN X i)) 0 u = -1
  · rw [if_neg ck]
    exact known ck
  have ck := Decidable.of_not_not ck
  rw [if_pos ck]
  refine wp_mono (go 1) ?_
  intro _ _ T' ⟨T1, e1, f1, z1, q1, hB⟩
  rw [if_neg (by decide)] at e1
  subst e1
  refine ⟨f1.fz.tr z1, q1, fun it e n S t x f m hR ht htv hc hxx h51 hm => Or.inr ?_⟩
  have hV := hR.1.2.2.2.2.2.2.2.2.1
  obtain ⟨v20, s77, t68⟩ := hV.vs
  have eu : vn S = u := nI_inj (by omega) (by omega) (by rw [← t68, ← u1])
  have fdv := hV.fd (xN X i)
  rw [eu, ck] at fdv
  have p0 : ¬ 0 ≤ fd (isVa S (xN X i)) (vn S) := by rw [eu, ← fdv]; decide
  have fresh : ∀ a, a < vn S → ¬ S.2 78 a = xN X i := fun a ha w => by
    rcases fd_v (p := isVa S (xN X i)) (vn S) with ⟨_, w2⟩ | ⟨q, w1, _, w2⟩
    · exact w2 a ha (decide_eq_true w)
    · rw [w2] at p0; exact p0 (nI0le (by omega))
  obtain ⟨s1, s2, s3, s4, s5⟩ := hR.add (nm := xN X i) (x := x) hv fresh ht hy htv hc
  rw [eu] at s1 s2 s4 s5
  obtain ⟨E0, E1⟩ := vaE_v (pn := nI (xP X i)) (v := v) (t := t) (x := x) hR.1.2.2.2.1 p0
  have e12 : (vaN S (xN X i) v t x).1 12 = S.1 12 := vaN_o (by omega) (by omega) (by omega) (by omega) (by omega)
  have A1 : AgK S (vaN S (xN X i) v t x) T1 (adV T1 u y (xN X i)) 0 m := ⟨s2, e12, fun k _ _ => adV_o (by omega), fun g q _ _ _ _ => by rw [adV_o (by omega)]⟩
  by_cases c : x4 = 0
  · rw [if_pos c] at hB ⊢
    rw [hB, E0]
    refine ⟨s1, s2, A1, s5, ?_⟩
    rw [if_pos c, adV_o (by omega)]
    exact h51
  · rw [if_neg c] at hB ⊢
    rw [E1, eu]
    have evn : vn (vaN S (xN X i) v t x) = u + 1 := by
      have : (vaN S (xN X i) v t x).1 77 0 = nI (vn S + 1) := by rw [vaN_m (by omega) (by omega)]; exact see_77
      unfold vn at this ⊢
      rw [this]
      unfold vn at eu
      rw [eu]
      exact nc (by omega)
    have e79 : (vaN S (xN X i) v t x).1 79 u = nI v := by rw [vaN_m (by omega) (by omega), see_79, if_pos eu.symm]
    have e70 : (adV T1 u y (xN X i)).1 70 u = nI y := by rw [adV_70, if_pos rfl]
    have ht' : TyR (RgE e (vaN S (xN X i) v t x)) (vaN S (xN X i) v t x) (adV T1 u y (xN X i)) f x yx := by
      rw [s3]
      exact TyR.mo s2 (fun _ _ z => z) _ _ _ (hxx c)
    obtain ⟨g1, g2⟩ := s1.gv (u := u) (by omega) e79 hv e70 yl ht' rfl
    have eT := hB.2 m h51 hm
    have h51' : (sJ (adV T1 u y (xN X i)) 77 0 (gvW (flw (adV T1 u y (xN X i))) u (decide (kdC (adV T1 u y (xN X i)) y = 4 ∧ kdC (adV T1 u y (xN X i)) yx = 3)))).1 51 0 = nI m := by
      show (adV T1 u y (xN X i)).1 51 0 = _
      rw [adV_o (by omega)]
      exact h51
    obtain ⟨c1, c2, c3⟩ := g1.em (a := 4) (b := T1.1 71 u) (z := nI (wdC T1 y)) h51' hm
    rw [← eT] at c1 c2 c3
    have F := (s2.tr g2).tr c2
    have f51 := hB.1
    refine ⟨c1, F, ⟨F, ?_, fun k k1 k2 => ?_, fun g q g1 g2 _ q2 => ?_⟩, ?_, ?_⟩
    · have : (if (vaN S (xN X i) v t x).1 83 0 = 0 then vaN S (xN X i) v t x else gvS (vaN S (xN X i) v t x) ((vaN S (xN X i) v t x).1 79 u) ((vaN S (xN X i) v t x).1 80 u) x 1).1 12 = (vaN S (xN X i) v t x).1 12 := by
        split
        · rfl
        · unfold gvS
          rw [sI_ne (by omega), sI_ne (by omega)]
      rw [this, e12]
    · rw [f51.o (by omega)]
      exact adV_o (by omega)
    · obtain ⟨c', _, _, _, h4⟩ := f51.2.2.2.2.2.1 m h51' (by omega)
      rw [h4 g q g1 g2 q2]
      show (adV T1 u y (xN X i)).1 g q = _
      rw [adV_o (by omega)]
    · rw [c3, lvC_62 (T := adV T1 u y (xN X i)) (T' := sJ (adV T1 u y (xN X i)) 77 0 (gvW (flw (adV T1 u y (xN X i))) u (decide (kdC (adV T1 u y (xN X i)) y = 4 ∧ kdC (adV T1 u y (xN X i)) yx = 3)))) rfl rfl 16384]
      exact s5
    · rw [if_neg c]
      obtain ⟨n', h1, h2, h3, h4, h5, h6, _⟩ := hV
      have en : n' = vn S := by unfold vn; rw [h1, nc (by omega)]
      refine ⟨by rw [eT]; exact em_51, ?_⟩
      rw [eT, em_row, h6 u (by omega)]
end ZS6
