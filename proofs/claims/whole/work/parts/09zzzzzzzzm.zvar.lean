/-! VARS: a new one comes in sight, one takes a value: both sides -/
def gvW (w : Int64) (u : Nat) (bo : Bool) : Int64 := if bo = true then sbW (sbW (sbW w (20 + u) false) u true) (20 + u) true else sbW (sbW w (20 + u) false) u true
def adV (T : gSt) (n c : Nat) (nm : Int64) : gSt := sI (sJ (sI (sI (sJ T 69 n nm) 70 n (nI c)) 71 (n + 1) (T.1 71 n + nI (wdC T c))) 77 0 (sbW (sbW (flw T) (20 + n) false) n false)) 68 0 (nI (n + 1))
theorem adV_z {T : gSt} {n c : Nat} {nm : Int64} : (adV T n c nm).1 71 0 = T.1 71 0 := by
  unfold adV
  rw [sI_ne (by omega)]
  show (sI (sI (sJ T 69 n nm) 70 n (nI c)) 71 (n + 1) (T.1 71 n + nI (wdC T c))).1 71 0 = _
  rw [rdI, if_neg (fun w => by have := w.2; omega), sI_ne (by omega)]
  rfl
section ZS4
variable {S S' T T' T1 T2 T3 : gSt} {X : Lx} {nf d it e v g n dd v' g' k i e' u c m lo hi a b n0 y z p q r j s f yv : Nat} {ta tb tr : Tr} {pl x op w cc : Int32} {R : RgR} {nm : Int64} {bo : Bool}
theorem TyR.so (hh : TyR R S T f x y) : (0 < x ∧ S.1 66 x.toNatClampNeg = 1) ↔ kdC T y = 3 := by
  rcases hh.rd with ⟨e1, e2, e3⟩ | ⟨e1, e2, e3⟩ | ⟨e1, e2, e3⟩ | ⟨p, kd, r, n, b, g, _, e1, e2, e3, e4, _, e5, e6, e7, e8, e9, _, _, _, _, e10, _⟩
  · rw [e1, e3]; exact ⟨fun w => absurd w.1 (by decide), fun w => absurd w (by decide)⟩
  · rw [e1, e3]; exact ⟨fun w => absurd w.1 (by decide), fun w => absurd w (by decide)⟩
  · rw [e1, e3]; exact ⟨fun w => absurd w.1 (by decide), fun w => absurd w (by decide)⟩
  · rw [e1, nc (by omega), e7, e10]
    refine ⟨fun w => ?_, fun w => ⟨nIpos e2 (by omega), ?_⟩⟩
    · have := nI_inj (a := kd) (b := 1) (by omega) (by omega) w.2
      omega
    · rw [show kd = 1 by omega]; rfl
theorem le0 (x : Int32) : ¬ x ≤ 0 ↔ 0 < x := by
  rw [Int32.lt_iff_toInt_lt, Int32.le_iff_toInt_le]
  omega
/-- a VAR takes a value: both sides -/
theorem SrR.gv (h : SrR X it e v g n S T) (hu : u < vn S) (hs : S.1 79 u = nI s) (h20 : s < 20) (hyv : T.1 70 u = nI yv) (hyl : yv < 16387) (hx : TyR (RgE e S) S T f x y) (hb : bo = decide (kdC T yv = 4 ∧ kdC T y = 3)) : SrR X it e v g n (if S.1 83 0 = 0 then S else gvS S (S.1 79 u) (S.1 80 u) x 1) (sJ T 77 0 (gvW (flw T) u bo)) ∧ TyF S (if S.1 83 0 = 0 then S else gvS S (S.1 79 u) (S.1 80 u) x 1) T (sJ T 77 0 (gvW (flw T) u bo)) := by
  have hV := h.1.2.2.2.2.2.2.2.2.1
  have v20 := hV.vs.1
  have h83 := h.1.2.2.1.2.2.1
  have t2 : ∀ p j, p ≠ 77 → (sJ T 77 0 (gvW (flw T) u bo)).2 p j = T.2 p j := fun p j hp => by rw [rdJ, if_neg (fun z => hp z.1)]
  obtain ⟨_, _, _, y', b5, b6, b7⟩ := hV.at hu
  have ey : y' = yv := nI_inj (by omega) (by omega) (by rw [← b5, ← hyv])
  subst ey
  by_cases c83 : S.1 83 0 = 0
  · rw [if_pos c83]
    obtain ⟨a1, a2, a3, a4, a5⟩ := h.1.fo (S' := S) (T' := sJ T 77 0 (gvW (flw T) u bo)) (fun _ _ => rfl) rfl h83 rfl t2
    refine ⟨⟨a1, ?_⟩, a4⟩
    rw [flw_w]
    refine (h.2.un c83 (fun m m1 m2 => ?_)).mo hV a4 rfl rfl rfl (fun _ => rfl)
    unfold gvW
    split
    · rw [fb_sb (by omega) (by omega), if_neg (by omega), fb_sb (by omega) (by omega), if_neg (by omega), fb_sb (by omega) (by omega), if_neg (by omega)]
    · rw [fb_sb (by omega) (by omega), if_neg (by omega), fb_sb (by omega) (by omega), if_neg (by omega)]
  · rw [if_neg c83]
    have o : ∀ k, k ≠ 81 → k ≠ 82 → (gvS S (S.1 79 u) (S.1 80 u) x 1).1 k = S.1 k := fun k k1 k2 => by unfold gvS; rw [sI_ne (by omega), sI_ne (by omega)]
    obtain ⟨a1, a2, a3, a4, a5⟩ := h.1.fo (S' := gvS S (S.1 79 u) (S.1 80 u) x 1) (T' := sJ T 77 0 (gvW (flw T) u bo)) (fun k hk => o k (by omega) (by omega)) rfl (by rw [o 83 (by omega) (by omega)]; exact h83) rfl t2
    refine ⟨⟨a1, ?_⟩, a4⟩
    have e81 : (gvS S (S.1 79 u) (S.1 80 u) x 1).1 81 0 = S.1 81 0 ||| ((1 : Int32) <<< (nI s &&& 31)) := by
      unfold gvS
      rw [sI_ne (by omega), sI_v, if_neg (by decide), hs]
    have e82 : (gvS S (S.1 79 u) (S.1 80 u) x 1).1 82 0 = (if kdC T y' = 4 ∧ kdC T y = 3 then S.1 82 0 ||| ((1 : Int32) <<< (nI s &&& 31)) else S.1 82 0 &&& (((1 : Int32) <<< (nI s &&& 31)) ^^^ (-1))) := by
      unfold gvS tf
      rw [sI_v, hs]
      have l1 := b7.lo
      have l2 := hx.so
      by_cases c : kdC T y' = 4 ∧ kdC T y = 3
      · rw [if_pos c, if_pos ⟨by decide, (le0 _).mpr (l1.mpr c.1).1, (l1.mpr c.1).2, (le0 _).mpr (l2.mpr c.2).1, (l2.mpr c.2).2⟩]
      · rw [if_neg c, if_neg (fun w => c ⟨l1.mp ⟨(le0 _).mp w.2.1, w.2.2.1⟩, l2.mp ⟨(le0 _).mp w.2.2.2.1, w.2.2.2.2⟩⟩)]
    rw [flw_w, e81, o 75 (by omega) (by omega), o 83 (by omega) (by omega)]
    refine (FwR.give h.2 c83 hV.ds v20 hu hs h20 (fun z z1 z2 z3 => ?_) (fun z z1 z2 => ?_)).mo hV a4 a2 (by rw [o 77 (by omega) (by omega)]) (o 79 (by omega) (by omega)) (fun _ => rfl)
    · have : z = y' := nI_inj (by omega) (by omega) (by rw [← z1, ← b5])
      subst this
      rw [e82, hb]
      by_cases c : kdC T z = 4 ∧ kdC T y = 3
      · rw [if_pos c, fi_on (by omega) (by omega), if_pos rfl, decide_eq_true c]
      · rw [if_neg c, fi_of (by omega) (by omega), if_pos rfl, decide_eq_false c]
    · rw [e82]
      split
      · rw [fi_on (by omega) (by omega), if_neg z2]
      · rw [fi_of (by omega) (by omega), if_neg z2]
/-- giveVar -/
theorem y_give (hw : WZ X T v g dd) (hn : T.1 68 0 = nI n) (hn2 : n ≤ 20) (hu : u < n) (hy : tyY T y) (hd : 5 ≤ d) : wp (PP nf d 174 T [nI u, nI y] []) (fun _ _ T' => FZ T T' ∧ FqZ T T' v ∧ ∃ yv, T.1 70 u = nI yv ∧ yv < 16387 ∧ FX (sJ T 77 0 (gvW (flw T) u (decide (kdC T yv = 4 ∧ kdC T y = 3)))) T' ∧ ∀ m, T.1 51 0 = nI m → m < 6032 → T' = emS (sJ T 77 0 (gvW (flw T) u (decide (kdC T yv = 4 ∧ kdC T y = 3)))) m 4 (T.1 71 u) (nI (wdC T yv))) := by
  obtain ⟨d, rfl⟩ : ∃ g, d = g + 2 := ⟨d - 2, by omega⟩
  have yl := hy.lt
  obtain ⟨nv, v1, v2, v3⟩ := hw.1.2.2.2.2.1
  have en : nv = n := nI_inj (by omega) (by omega) (by rw [← v1, ← hn])
  subst en
  obtain ⟨yv, y1, y2⟩ := v3 u hu
  have yvl := y2.lt
  rw [e_Exprs_giveVar _ (d + 1)]
  unfold rb_Exprs_giveVar
  rw [c_vType (nf := nf) (d := d + 1) v1 v2 hu (by omega), bis, y1, c_kindOf (by omega) (by omega), bis]
  have k1 := kdC_lt (T := T) (y := yv)
  have k2 := kdC_lt (T := T) (y := y)
  have q4 : (nI (kdC T yv) = (4 : Int32)) = (kdC T yv = 4) := ci_eq (j := 4) (by omega) (by omega)
  have q3 : (nI (kdC T y) = (3 : Int32)) = (kdC T y = 3) := ci_eq (j := 3) (by omega) (by omega)
  have go : ∀ (bo : Bool) (x : Int32), x = (if bo = true then 1 else 0) → wp (rj_Exprs_giveVar_38 (PP nf (d + 1)) nf T (nI u) (nI yv) x) (fun _ _ T' => FZ T T' ∧ FqZ T T' v ∧ FX (sJ T 77 0 (gvW (flw T) u bo)) T' ∧ ∀ m, T.1 51 0 = nI m → m < 6032 → T' = emS (sJ T 77 0 (gvW (flw T) u bo)) m 4 (T.1 71 u) (nI (wdC T yv))) := by
    intro bo x hx
    unfold rj_Exprs_giveVar_38
    obtain ⟨W2, z2, f2⟩ := hw.fl (T' := sJ T 77 0 (gvW (flw T) u bo)) rfl (fun p j hp => by rw [rdJ, if_neg (fun q => hp q.1)])
    rw [c_give (nf := nf) (d := d + 1) (bo := bo) (by omega) hx (by omega), bis]
    show wp (bi (PP nf (d + 1) 116 (sJ T 77 0 (gvW (flw T) u bo)) [nI u] []) _) _
    rw [c_vSlot (nf := nf) (d := d + 1) (T := sJ T 77 0 (gvW (flw T) u bo)) v1 v2 hu (by omega), bis, c_wordsOf (by omega) (by omega), bis]
    have ew : wdC (sJ T 77 0 (gvW (flw T) u bo)) yv = wdC T yv := rfl
    obtain ⟨r4, T4, m1, m2, m3⟩ := a_emit (nf := nf) (d := d + 1) (T := sJ T 77 0 (gvW (flw T) u bo)) (x := 4) (y := T.1 71 u) (z := nI (wdC T yv)) W2.1.2.1 W2.1.2.2.2.2.2.1 (by omega)
    rw [ew]
    show wp (bi (PP nf (d + 1) 51 (sJ T 77 0 (gvW (flw T) u bo)) [(4 : Int32), T.1 71 u, nI (wdC T yv)] []) _) _
    rw [m1, bis]
    exact wp_some ⟨z2.tr m2.fz, f2.tr (W2.fx m2).2, m2, m3⟩
  simp only [q4]
  by_cases c4 : kdC T yv = 4
  · rw [if_pos c4, c_kindOf (by omega) (by omega), bis]
    simp only [q3]
    by_cases c3 : kdC T y = 3
    · rw [if_pos c3]
      refine wp_mono (go true 1 rfl) ?_
      intro _ _ T' ⟨a1, a2, a3, a4⟩
      have : decide (kdC T yv = 4 ∧ kdC T y = 3) = true := decide_eq_true ⟨c4, c3⟩
      exact ⟨a1, a2, yv, rfl, yvl, by rw [this]; exact a3, by rw [this]; exact a4⟩
    · rw [if_neg c3]
      refine wp_mono (go false 0 rfl) ?_
      intro _ _ T' ⟨a1, a2, a3, a4⟩
      have : decide (kdC T yv = 4 ∧ kdC T y = 3) = false := decide_eq_false (fun w => c3 w.2)
      exact ⟨a1, a2, yv, rfl, yvl, by rw [this]; exact a3, by rw [this]; exact a4⟩
  · rw [if_neg c4]
    refine wp_mono (go false 0 rfl) ?_
    intro _ _ T' ⟨a1, a2, a3, a4⟩
    have : decide (kdC T yv = 4 ∧ kdC T y = 3) = false := decide_eq_false (fun w => c4 w.1)
    exact ⟨a1, a2, yv, rfl, yvl, by rw [this]; exact a3, by rw [this]; exact a4⟩
end ZS4
