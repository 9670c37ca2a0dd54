/-! a fun begins: the class's side -/
/-- no type is kept -/
def tcT (T : gSt) : gSt := sJ T 63 0 (T.2 63 0 + 1)
/-- LIVE REGIONS of a head, from the r-th on -/
def livW (x : Int32) : Nat → Nat → Int64 → Int64
  | 0, _, w => w
  | m + 1, r, w => livW x m (r + 1) (sbW w (40 + r) (decide (((x >>> (nI r &&& 31)) &&& 1) = 0)))
/-- one more param -/
def epS (X : Lx) (t j : Nat) (T : gSt) : gSt := sJ (adV T j (T.1 44 (8 * t + j)).toNatClampNeg (xN X (T.1 43 (8 * t + j)).toNatClampNeg)) 77 0 (gvW (flw (adV T j (T.1 44 (8 * t + j)).toNatClampNeg (xN X (T.1 43 (8 * t + j)).toNatClampNeg))) j false)
def epT (X : Lx) (t : Nat) : Nat → Nat → gSt → gSt
  | 0, _, T => T
  | m + 1, j, T => epT X t m (j + 1) (epS X t j T)
section FEN
variable {S S' T T' T1 T2 : gSt} {X : Lx} {nf d it e v g n k i u c m lo hi a b n0 y z p q r j s f t fl : Nat} {x op : Int32} {nm w : Int64}
theorem c_tclear (hd : 1 ≤ d) : PP nf d 86 T [] [] = some (0, 0, tcT T) := by
  obtain ⟨d, rfl⟩ : ∃ g, d = g + 1 := ⟨d - 1, by omega⟩
  rw [e_Types_clear]
  rfl
theorem tc_ew (h : EW T < 2 ^ 40) : EW (tcT T) = EW T + 1 := by
  unfold EW tcT
  rw [rdJ, if_pos ⟨rfl, rfl⟩]
  unfold EW at h
  unfold wN at h ⊢
  show (T.2 63 0 + 1).toBitVec.toNat = _
  rw [Int64.toBitVec_add, BitVec.toNat_add]
  show ((T.2 63 0).toBitVec.toNat + (1 : Nat)) % 2 ^ 64 = _
  exact Nat.mod_eq_of_lt (by omega)
theorem tc_sw : SW (tcT T) s = SW T s := by
  unfold SW tcT
  rw [rdJ, if_neg (fun q => by have := q.1; omega)]
theorem tc_dead (h : EW T < 2 ^ 40) (h3 : ∀ s, s < 16384 → SW T s / KM ≤ EW T) (hs : s < 16384) : ¬ lvK (tcT T) s := fun w => by
  have a : SW (tcT T) s / KM = EW (tcT T) := w
  rw [tc_sw, tc_ew h] at a
  have := h3 s hs
  omega
theorem tc_ty (h : EW T + 1 < 2 ^ 40) (h3 : ∀ s, s < 16384 → SW T s / KM ≤ EW T) : WT (tcT T) ∧ lvC (tcT T) 16384 = 0 := by
  have dead := fun s => tc_dead (s := s) (by omega) h3
  have ew := tc_ew (T := T) (by omega)
  refine ⟨⟨⟨by rw [ew]; exact h, fun s hs w => absurd w (dead s hs), fun s hs => by rw [tc_sw, ew]; have := h3 s hs; omega⟩, fun s hs w => absurd w (dead s hs)⟩, ?_⟩
  have : ∀ n, n ≤ 16384 → lvC (tcT T) n = 0 := fun n => by
    induction n with
    | zero => intro _; rfl
    | succ n ih =>
      intro hn
      rw [lvC, ih (by omega), if_neg (dead n (by omega))]
  exact this 16384 (Nat.le_refl _)
/-- the loop over a fun's REGIONS -/
theorem c_ef14 (h67 : T.1 67 0 = nI t) (ht : t < 24) (h31 : T.1 31 t = nI e) (he : e ≤ 3) (hd : 1 ≤ d) : ∀ (m r fl : Nat) (w : Int64), m + r = e + 1 → 1 ≤ r → m < fl → rl_Scope_enterFun_14 (PP nf d) nf fl (sJ T 77 0 w) (nI r) = rl_Scope_enterFun_67 (PP nf d) nf nf (sJ T 77 0 (livW (T.1 39 t) m r w)) 0 := by
  have zt : inb (nI t) 24 := nin ht (by omega)
  intro m
  induction m with
  | zero =>
    intro r fl w h1 h2 h3
    obtain ⟨fl, rfl⟩ : ∃ g, fl = g + 1 := ⟨fl - 1, by omega⟩
    rw [rl_Scope_enterFun_14]
    show gd (inb (T.1 67 0) 24) (if T.1 31 (T.1 67 0).toNatClampNeg < nI r then _ else _) = _
    rw [h67, gd, if_pos zt, nc (by omega), h31, if_pos (show nI e < nI r from (nI_ltI (by omega) (by omega)).mpr (by omega))]
    rfl
  | succ m ih =>
    intro r fl w h1 h2 h3
    obtain ⟨fl, rfl⟩ : ∃ g, fl = g + 1 := ⟨fl - 1, by omega⟩
    rw [rl_Scope_enterFun_14]
    show gd (inb (T.1 67 0) 24) (if T.1 31 (T.1 67 0).toNatClampNeg < nI r then _ else gd (inb (T.1 67 0) 24) (if (((T.1 39 (T.1 67 0).toNatClampNeg) >>> (nI r &&& 31)) &&& (1 : Int32)) = 0 then _ else _)) = _
    rw [h67, gd, if_pos zt, nc (by omega), h31, if_neg (fun w => by
      have := (nI_ltI (a := e) (b := r) (by omega) (by omega)).mp w
      omega), gd, if_pos zt]
    by_cases c : ((T.1 39 t >>> (nI r &&& 31)) &&& (1 : Int32)) = 0
    · rw [if_pos c, c_setLive (nf := nf) (d := d) (T := sJ T 77 0 w) (r := r) (x := 1) (bo := true) (by omega) rfl (by omega), bis, flw_w, vK, nI_1, sJ_77, ih (r + 1) fl _ (by omega) (by omega) (by omega), livW, decide_eq_true c]
    · rw [if_neg c, c_setLive (nf := nf) (d := d) (T := sJ T 77 0 w) (r := r) (x := 0) (bo := false) (by omega) rfl (by omega), bis, flw_w, vK, nI_1, sJ_77, ih (r + 1) fl _ (by omega) (by omega) (by omega), livW, decide_eq_false c]
/-- the loop over a fun's params -/
theorem c_ef67 (hX : XO X) (ht : t < 24) (hd : 6 ≤ d) : ∀ (m j fl : Nat) (T : gSt), TkC X T → T.1 67 0 = nI t → T.1 32 t = nI (m + j) → m + j ≤ 8 → T.1 68 0 = nI j → (∀ q, q < m + j → ∃ tk y, T.1 43 (8 * t + q) = nI tk ∧ tk < xn X ∧ T.1 44 (8 * t + q) = nI y ∧ y < 16387) → m < fl → rl_Scope_enterFun_67 (PP nf d) nf fl T (nI j) = some (0, 0, epT X t m j T) := by
  have zt : inb (nI t) 24 := nin ht (by omega)
  have hxn := hX.1
  intro m
  induction m with
  | zero =>
    intro j fl T hT h67 h32 h8 h68 hp h3
    obtain ⟨fl, rfl⟩ : ∃ g, fl = g + 1 := ⟨fl - 1, by omega⟩
    rw [rl_Scope_enterFun_67, h67, gd, if_pos zt, nc (by omega), h32, if_pos (show nI (0 + j) ≤ nI j from (nI_leI (by omega) (by omega)).mpr (by omega))]
    rfl
  | succ m ih =>
    intro j fl T hT h67 h32 h8 h68 hp h3
    obtain ⟨fl, rfl⟩ : ∃ g, fl = g + 1 := ⟨fl - 1, by omega⟩
    obtain ⟨d, rfl⟩ : ∃ g, d = g + 1 := ⟨d - 1, by omega⟩
    obtain ⟨tk, y, e1, e2, e3, e4⟩ := hp j (by omega)
    have n43 : (T.1 43 (8 * t + j)).toNatClampNeg = tk := by rw [e1]; exact nc (by omega)
    have n44 : (T.1 44 (8 * t + j)).toNatClampNeg = y := by rw [e3]; exact nc (by omega)
    rw [rl_Scope_enterFun_67, h67, gd, if_pos zt, nc (by omega), h32, if_neg (fun w => by
      have := (nI_leI (a := m + 1 + j) (b := j) (by omega) (by omega)).mp w
      omega), c_tokOf (nf := nf) (d := d + 1) ht (by omega) (by omega), bis, e1, c_name hX hT e2, bis, h67, c_typeOf (nf := nf) (d := d + 1) ht (by omega) (by omega), bis, e3, c_addVar (nf := nf) (d := d + 1) (nm := xN X tk) (c := y) h68 (by omega) (by omega) (by omega), bis]
    show bi (PP nf (d + 1) 121 (adV T j y (xN X tk)) [nI j, (0 : Int32)] []) _ = _
    rw [c_give (nf := nf) (d := d + 1) (T := adV T j y (xN X tk)) (v := j) (x := 0) (bo := false) (by omega) rfl (by omega), bis, vK, nI_1]
    have es : sJ (adV T j y (xN X tk)) 77 0 (if false = true then sbW (sbW (sbW (flw (adV T j y (xN X tk))) (20 + j) false) j true) (20 + j) true else sbW (sbW (flw (adV T j y (xN X tk))) (20 + j) false) j true) = epS X t j T := by
      unfold epS gvW
      rw [n43, n44]
    rw [es]
    have o : ∀ k, ¬ (68 ≤ k ∧ k ≤ 71) → (epS X t j T).1 k = T.1 k := fun k hk => by
      unfold epS
      show (adV T j _ _).1 k = _
      exact adV_o hk
    rw [epT]
    refine ih (j + 1) fl (epS X t j T) ?_ (by rw [o 67 (by omega)]; exact h67) (by rw [o 32 (by omega), h32]; congr 1; omega) (by omega) ?_ (fun q hq => ?_) (by omega)
    · unfold TkC at hT ⊢
      rw [o 25 (by omega), o 21 (by omega), o 22 (by omega), o 23 (by omega)]
      refine ⟨hT.1, hT.2.1, fun j' hj' => ?_⟩
      have : (epS X t j T).2 24 j' = T.2 24 j' := by
        unfold epS
        rw [rdJ, if_neg (fun q => by have := q.1; omega)]
        exact adV_2 (by omega) (by omega)
      rw [this]
      exact hT.2.2 j' hj'
    · have : ∀ (y' : Nat) (nm' : Int64), (adV T j y' nm').1 68 0 = nI (j + 1) := fun y' nm' => by unfold adV; rw [sI_v]
      exact this (T.1 44 (8 * t + j)).toNatClampNeg (xN X (T.1 43 (8 * t + j)).toNatClampNeg)
    · rw [o 43 (by omega), o 44 (by omega)]
      exact hp q (by omega)
/-- enterFun -/
theorem c_enterFun (hX : XO X) (hT : TkC X T) (hnf : 100 ≤ nf) (ht : t < 24) (he : e ≤ 3) (hi : i + e < xn X) (h31 : T.1 31 t = nI e) (h29 : T.1 29 t = nI i) (h32 : T.1 32 t = nI m) (hm : m ≤ 8) (hp : ∀ q, q < m → ∃ tk y, T.1 43 (8 * t + q) = nI tk ∧ tk < xn X ∧ T.1 44 (8 * t + q) = nI y ∧ y < 16387) (hd : 8 ≤ d) : wp (PP nf d 102 T [nI t] []) (fun _ _ T' => ∃ T1, T' = epT X t m 0 T1 ∧ T1.1 67 0 = nI t ∧ T1.1 68 0 = 0 ∧ T1.1 72 0 = 4 ∧ T1.1 75 0 = 0 ∧ T1.1 76 0 = 0 ∧ flw T1 = livW (T.1 39 t) e 1 4504699138998272 ∧ (∀ g, g ≠ 67 → g ≠ 68 → g ≠ 72 → g ≠ 75 → g ≠ 76 → T1.1 g = T.1 g) ∧ (∀ g j, ¬ (g = 73 ∧ 1 ≤ j ∧ j ≤ 3) → g ≠ 77 → T1.2 g j = T.2 g j) ∧ ∀ j, 1 ≤ j → j ≤ 3 → T1.2 73 j = ehN X e i j) := by
  obtain ⟨d, rfl⟩ : ∃ g, d = g + 1 := ⟨d - 1, by omega⟩
  have hxn := hX.1
  rw [e_Scope_enterFun]
  unfold rb_Scope_enterFun
  refine wp_bi (c_enterHead (nf := nf) (d := d) hX hT (by omega) ht he hi h31 h29 (by omega)) ?_
  intro _ _ T1 ⟨a1, a2, a3, a4, a5, a6, a7, a8, a9⟩
  have o := fun k h1 h2 h3 h4 h5 => a7 k h1 h2 h3 h4 h5
  rw [stK, show (1 : Int32) = nI 1 from rfl, c_ef14 (nf := nf) (d := d) (T := T1) (t := t) (e := e) a1 ht (by rw [o 31 (by omega) (by omega) (by omega) (by omega) (by omega)]; exact h31) he (by omega) e 1 nf _ (by omega) (by omega) (by omega), show (0 : Int32) = nI 0 from rfl]
  have hT1 : TkC X (sJ T1 77 0 (livW (T1.1 39 t) e 1 4504699138998272)) := by
    unfold TkC at hT ⊢
    show T1.1 25 0 = _ ∧ T1.1 21 0 = _ ∧ ∀ j, j < xn X → T1.1 22 j = _ ∧ T1.1 23 j = _ ∧ _
    rw [o 25 (by omega) (by omega) (by omega) (by omega) (by omega), o 21 (by omega) (by omega) (by omega) (by omega) (by omega), o 22 (by omega) (by omega) (by omega) (by omega) (by omega), o 23 (by omega) (by omega) (by omega) (by omega) (by omega)]
    refine ⟨hT.1, hT.2.1, fun j hj => ?_⟩
    rw [rdJ, if_neg (fun q => by have := q.1; omega), a8 24 j (by omega) (by omega)]
    exact hT.2.2 j hj
  rw [c_ef67 (nf := nf) (d := d) (t := t) hX ht (by omega) m 0 nf _ hT1 a1 (by show T1.1 32 t = _; rw [o 32 (by omega) (by omega) (by omega) (by omega) (by omega)]; exact h32) (by omega) a2 (fun q hq => by
    show ∃ tk y, T1.1 43 (8 * t + q) = _ ∧ _ ∧ T1.1 44 (8 * t + q) = _ ∧ _
    rw [o 43 (by omega) (by omega) (by omega) (by omega) (by omega), o 44 (by omega) (by omega) (by omega) (by omega) (by omega)]
    exact hp q (by omega)) (by omega)]
  refine wp_some ⟨_, rfl, a1, a2, a3, a4, a5, ?_, fun g h1 h2 h3 h4 h5 => o g h1 h2 h3 h4 h5, fun g j h1 h2 => ?_, fun j h1 h2 => ?_⟩
  · rw [flw_w, o 39 (by omega) (by omega) (by omega) (by omega) (by omega)]
  · rw [rdJ, if_neg (fun q => h2 q.1)]
    exact a8 g j h1 h2
  · rw [rdJ, if_neg (fun q => by have := q.1; omega)]
    exact a9 j h1 h2
/-- a param comes in sight, with a value: both sides -/
theorem SrR.par (h : SrR X it e v g n S T) (hv : v < 20) (hvn : vn S = v) (hf : ∀ a, a < vn S → ¬ S.2 78 a = S.2 21 (c + v)) (ht : TyR (RgE e S) S T 5 (S.1 24 (c + v)) y) (hy : tyY T y) (htv : tV S (S.1 24 (c + v))) (hc : cn S < 6000) (h82 : S.1 82 0 = 0) (h83 : ¬ S.1 83 0 = 0) : SrR X it e (v + 1) g n (paS c v S) (sJ (adV T v y (S.2 21 (c + v))) 77 0 (gvW (flw (adV T v y (S.2 21 (c + v)))) v false)) ∧ TyF S (paS c v S) T (sJ (adV T v y (S.2 21 (c + v))) 77 0 (gvW (flw (adV T v y (S.2 21 (c + v)))) v false)) ∧ (paS c v S).1 82 0 = 0 := by
  obtain ⟨s1, s2, s3, s4, s5⟩ := h.add (nm := S.2 21 (c + v)) (x := 0) hv hf ht hy htv hc
  rw [hvn] at s1 s2 s4 s5
  have yl := hy.lt
  have e79 : (vaN S (S.2 21 (c + v)) v (S.1 24 (c + v)) 0).1 79 v = nI v := by rw [vaN_m (by omega) (by omega), see_79, if_pos hvn.symm]
  have e80 : (vaN S (S.2 21 (c + v)) v (S.1 24 (c + v)) 0).1 80 v = S.1 24 (c + v) := by rw [vaN_m (by omega) (by omega), see_80, if_pos hvn.symm]
  have e70 : (adV T v y (S.2 21 (c + v))).1 70 v = nI y := by rw [adV_70, if_pos rfl]
  have evn : vn (vaN S (S.2 21 (c + v)) v (S.1 24 (c + v)) 0) = v + 1 := by
    have : (vaN S (S.2 21 (c + v)) v (S.1 24 (c + v)) 0).1 77 0 = nI (vn S + 1) := by rw [vaN_m (by omega) (by omega)]; exact see_77
    unfold vn at this hvn ⊢
    rw [this, hvn]
    exact nc (by omega)
  have ht0 : TyR (RgE e (vaN S (S.2 21 (c + v)) v (S.1 24 (c + v)) 0)) (vaN S (S.2 21 (c + v)) v (S.1 24 (c + v)) 0) (adV T v y (S.2 21 (c + v))) 0 0 1 := Or.inl ⟨rfl, rfl⟩
  have k1 : decide (kdC (adV T v y (S.2 21 (c + v))) y = 4 ∧ kdC (adV T v y (S.2 21 (c + v))) 1 = 3) = false := decide_eq_false (fun w => by
    have : kdC (adV T v y (S.2 21 (c + v))) 1 = 1 := rfl
    omega)
  obtain ⟨g1, g2⟩ := s1.gv (u := v) (bo := false) (by omega) e79 hv e70 yl ht0 k1.symm
  have o83 : (vaN S (S.2 21 (c + v)) v (S.1 24 (c + v)) 0).1 83 0 = S.1 83 0 := by rw [vaN_o (by omega) (by omega) (by omega) (by omega) (by omega)]
  rw [o83, if_neg h83, e79, e80] at g1 g2
  have see83 : (seS S (S.2 21 (c + v)) (nI v) (S.1 24 (c + v))).1 83 0 = S.1 83 0 := by rw [see_o (by omega) (by omega) (by omega)]
  have eP : gvS (vaN S (S.2 21 (c + v)) v (S.1 24 (c + v)) 0) (nI v) (S.1 24 (c + v)) 0 1 = paS c v S := by
    unfold vaN
    rw [see83, if_neg h83, gv_gv]
    unfold gvS paS
    rw [if_neg (show ¬ (1 : Int32) = 0 by decide), if_neg (fun w => w.2.2.2.1 (by decide))]
    have z : (seS S (S.2 21 (c + v)) (nI v) (S.1 24 (c + v))).1 82 0 = 0 := by rw [see_o (by omega) (by omega) (by omega)]; exact h82
    rw [z]
    refine Prod.ext ?_ rfl
    funext k j
    rw [rdI]
    by_cases c82 : k = 82 ∧ j = 0
    · rw [if_pos c82, c82.1, c82.2, sI_ne (by omega), z]
      exact fi_ext (fun m _ => by rw [fi_an, fi_0]; rfl)
    · rw [if_neg c82]
  rw [eP] at g1 g2
  refine ⟨g1, s2.tr g2, ?_⟩
  unfold paS
  rw [sI_ne (by omega), see_o (by omega) (by omega) (by omega)]
  exact h82
end FEN
