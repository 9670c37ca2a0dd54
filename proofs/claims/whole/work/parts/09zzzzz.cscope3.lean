/-! the class's scope: ways that meet, what may close, heads -/
section CSW
variable {nf d : Nat} {T T' T3 : gSt} {X : Lx} {i j k p q m n e c z lo hi t r s v b : Nat} {x y : Int32} {w u nm : Int64} {bo : Bool}
theorem lvB : ∀ m, m < 64 → fb 4502500115742720 m = decide (40 ≤ m ∧ m < 52) := by decide +kernel
theorem fb_0 : fb 0 m = false := by
  unfold fb
  show (0#64).getLsbD m = false
  simp
theorem same_b : (((w ^^^ u) &&& (4502500115742720 : Int64)) = 0) ↔ samB w u 40 52 := by
  constructor
  · intro h n h1 h2
    have e : fb ((w ^^^ u) &&& (4502500115742720 : Int64)) n = fb 0 n := by rw [h]
    rw [fb_an, fb_xr, lvB n (by omega), fb_0, decide_eq_true (show 40 ≤ n ∧ n < 52 from ⟨h1, h2⟩), Bool.and_true] at e
    cases hw : fb w n <;> cases hu : fb u n <;> rw [hw, hu] at e <;> first | rfl | exact absurd e (by decide)
  · intro h
    refine fb_ext (fun m hm => ?_)
    rw [fb_an, fb_xr, lvB m hm, fb_0]
    by_cases c : 40 ≤ m ∧ m < 52
    · rw [h m c.1 c.2]
      cases fb u m <;> rfl
    · rw [decide_eq_false c, Bool.and_false]
theorem c_same (hd : 1 ≤ d) : ∃ o : Bool, PP nf d 124 T [] [w, u] = some ((if o = true then 1 else 0), 0, T) ∧ (o = true ↔ samB w u 40 52) := by
  obtain ⟨d, rfl⟩ : ∃ g, d = g + 1 := ⟨d - 1, by omega⟩
  rw [e_Scope_sameLive]
  unfold rb_Scope_sameLive
  simp only [lg_cmp_eq]
  by_cases c : ((w ^^^ u) &&& (4502500115742720 : Int64)) = 0
  · rw [if_pos c]
    exact ⟨true, rfl, fun _ => same_b.mp c, fun _ => rfl⟩
  · rw [if_neg c]
    exact ⟨false, rfl, fun h => absurd h (by decide), fun h => absurd (same_b.mpr h) c⟩
/-- where two ways meet -/
def meW (w u : Int64) : Int64 := if fb w 52 = true ∧ fb u 52 = true then w &&& u else if fb w 52 = false ∧ fb u 52 = true then u else w
theorem c_meet (hd : 2 ≤ d) : ∃ o : Bool, PP nf d 125 T [] [w, u] = some ((if o = true then 1 else 0), 0, sJ T 77 0 (meW w u)) ∧ (o = true ↔ (fb w 52 = true ∧ fb u 52 = true → samB w u 40 52)) := by
  obtain ⟨d, rfl⟩ : ∃ g, d = g + 1 := ⟨d - 1, by omega⟩
  have q : ∀ z : Int64, (z &&& (4503599627370496 : Int64) = 0) = (fb z 52 = false) := fun z => fb_ct (by omega) (by decide)
  rw [e_Scope_meet]
  unfold rb_Scope_meet rj_Scope_meet_17 meW
  simp only [lg_cmp_eq, q, fb_an]
  cases hw : fb w 52 with
  | true =>
    cases hu : fb u 52 with
    | true =>
      rw [if_neg (by decide), if_neg (by decide), if_pos ⟨rfl, rfl⟩, stK]
      obtain ⟨o, h1, h2⟩ := c_same (nf := nf) (d := d) (T := sJ T 77 0 (w &&& u)) (w := w) (u := u) (by omega)
      rw [h1, bis, gd, if_pos (by cases o <;> decide)]
      exact ⟨o, rfl, fun h _ => h2.mp h, fun h => h2.mpr (h ⟨rfl, rfl⟩)⟩
    | false =>
      rw [if_pos (by decide), if_pos trivial, if_neg (by decide), if_neg (by decide), if_neg (by decide), stK]
      exact ⟨true, rfl, fun _ h => absurd h.2 (by decide), fun _ => rfl⟩
  | false =>
    cases hu : fb u 52 with
    | true =>
      rw [if_pos (by decide), if_pos trivial, if_pos (show false = false from rfl), if_neg (show ¬ (true = false) by decide), if_neg (by decide), if_pos (show false = false ∧ true = true from ⟨rfl, rfl⟩), stK]
      exact ⟨true, rfl, fun _ h => absurd h.1 (by decide), fun _ => rfl⟩
    | false =>
      rw [if_pos (by decide), if_pos trivial, if_pos (show false = false from rfl), if_pos (show false = false from rfl), if_neg (by decide), if_neg (by decide), stK]
      exact ⟨true, rfl, fun _ h => absurd h.1 (by decide), fun _ => rfl⟩
/-- whether a REGION from i on (below n) is live -/
def anL (w : Int64) : Nat → Nat → Bool
  | 0, _ => false
  | m + 1, i => fb w (40 + i) || anL w m (i + 1)
theorem c_mcl (hn : T.1 72 0 = nI n) (hn2 : n ≤ 12) (hr : r < 12) (hd : 1 ≤ d) : ∀ (m i fl : Nat) (o : Bool), m + i = n → m < fl → rl_Scope_mayClose_29 (PP nf d) nf fl T (nI r) (if o = true then 1 else 0) (nI i) = some ((if (o || anL (flw T) m i) = false ∧ T.1 74 r = T.1 75 0 then 1 else 0), 0, T) := by
  intro m
  induction m with
  | zero =>
    intro i fl o h1 h2
    obtain ⟨fl, rfl⟩ : ∃ g, fl = g + 1 := ⟨fl - 1, by omega⟩
    rw [rl_Scope_mayClose_29, hn, if_pos (show nI n ≤ nI i from (nI_leI (by omega) (by omega)).mpr (by omega)), anL, Bool.or_false]
    cases o with
    | true =>
      rw [if_neg (by decide), if_neg (fun h => absurd h.1 (by decide))]
    | false =>
      rw [if_pos (by decide), gd, if_pos (nin hr (by omega)), nc (by omega)]
      by_cases c : T.1 74 r = T.1 75 0
      · rw [if_pos c, if_pos ⟨rfl, c⟩]
      · rw [if_neg c, if_neg (fun h => c h.2)]
  | succ m ih =>
    intro i fl o h1 h2
    obtain ⟨fl, rfl⟩ : ∃ g, fl = g + 1 := ⟨fl - 1, by omega⟩
    have li : ¬ nI n ≤ nI i := fun w => by
      have := (nI_leI (by omega) (by omega)).mp w
      omega
    rw [rl_Scope_mayClose_29, hn, if_neg li, c_isLive (by omega) hd, bis, vK, vK, nI_1]
    have e : (if o = true then (1 : Int32) else 0) ||| (if fb (flw T) (40 + i) = true then 1 else 0) = if (o || fb (flw T) (40 + i)) = true then 1 else 0 := by
      cases o <;> cases fb (flw T) (40 + i) <;> decide
    rw [e, ih (i + 1) fl _ (by omega) (by omega), anL, Bool.or_assoc]
theorem c_mayClose (hnf : 20 ≤ nf) (hn : T.1 72 0 = nI n) (hn2 : n ≤ 12) (hr : 4 ≤ r) (hr2 : r < n) (hd : 2 ≤ d) : PP nf d 106 T [nI r] [] = some ((if fb (flw T) (40 + r) = true ∧ anL (flw T) (n - (r + 1)) (r + 1) = false ∧ T.1 74 r = T.1 75 0 then 1 else 0), 0, T) := by
  obtain ⟨d, rfl⟩ : ∃ g, d = g + 1 := ⟨d - 1, by omega⟩
  rw [e_Scope_mayClose]
  unfold rb_Scope_mayClose
  rw [if_neg (fun w => by
    have := (nI_ltI (a := r) (b := 4) (by omega) (by omega)).mp w
    omega), hn, if_neg (fun w => by
    have := (nI_leI (by omega) (by omega)).mp w
    omega), c_isLive (by omega) (by omega), bis]
  by_cases c : fb (flw T) (40 + r) = true
  · rw [if_pos c, if_neg (by decide), vK, nI_1]
    have := c_mcl (nf := nf) (d := d) (r := r) hn hn2 (by omega) (by omega) (n - (r + 1)) (r + 1) nf false (by omega) (by omega)
    rw [if_neg (by decide), Bool.false_or] at this
    rw [this]
    by_cases c2 : anL (flw T) (n - (r + 1)) (r + 1) = false ∧ T.1 74 r = T.1 75 0
    · rw [if_pos c2, if_pos ⟨c, c2⟩]
    · rw [if_neg c2, if_neg (fun h => c2 h.2)]
  · rw [if_neg c, if_pos rfl, if_neg (fun h => c h.1)]
/-- the REGIONS of a head come into sight -/
def ehN (X : Lx) (e i : Nat) (k : Nat) : Int64 := if k ≤ e then xN X (i + k) else 0
theorem c_ehl (hX : XO X) (hT : TkC X T) (ht : t < 24) (he : e ≤ 3) (hi : i + e < xn X) : ∀ (m k fl : Nat) (T : gSt), TkC X T → T.1 67 0 = nI t → T.1 31 t = nI e → T.1 29 t = nI i → m + k = 4 → 1 ≤ k → m < fl → wp (rl_Scope_enterHead_32 (PP nf (d + 1)) nf fl T (nI k)) (fun _ _ T' => T'.1 = T.1 ∧ (∀ g j, ¬ (g = 73 ∧ k ≤ j ∧ j ≤ 3) → T'.2 g j = T.2 g j) ∧ ∀ j, k ≤ j → j ≤ 3 → T'.2 73 j = ehN X e i j) := by
  intro m
  induction m with
  | zero =>
    intro k fl T hT h67 h31 h29 h1 hk h2
    obtain ⟨fl, rfl⟩ : ∃ g, fl = g + 1 := ⟨fl - 1, by omega⟩
    rw [rl_Scope_enterHead_32, if_pos (show (3 : Int32) < nI k by rw [show k = 4 by omega]; decide)]
    exact wp_some ⟨rfl, fun _ _ _ => rfl, fun j a b => by omega⟩
  | succ m ih =>
    intro k fl T hT h67 h31 h29 h1 hk h2
    obtain ⟨fl, rfl⟩ : ∃ g, fl = g + 1 := ⟨fl - 1, by omega⟩
    have hxn := hX.1
    have ct : (nI t).toNatClampNeg = t := nc (by omega)
    have ck : (nI k).toNatClampNeg = k := nc (by omega)
    have zt : inb (nI t) 24 := nin ht (by omega)
    have zk : inb (nI k) 12 := nin (by omega) (by omega)
    have go : ∀ u : Int64, u = ehN X e i k → wp (rl_Scope_enterHead_32 (PP nf (d + 1)) nf fl (sJ T 73 k u) (nI (k + 1))) (fun _ _ T' => T'.1 = T.1 ∧ (∀ g j, ¬ (g = 73 ∧ k ≤ j ∧ j ≤ 3) → T'.2 g j = T.2 g j) ∧ ∀ j, k ≤ j → j ≤ 3 → T'.2 73 j = ehN X e i j) := by
      intro u hu
      refine wp_mono (ih (k + 1) fl (sJ T 73 k u) (hT.wj (by omega)) h67 h31 h29 (by omega) (by omega) (by omega)) ?_
      intro _ _ T' ⟨a1, a2, a3⟩
      refine ⟨a1, fun g j hg => ?_, fun j h3 h4 => ?_⟩
      · rw [a2 g j (by omega), rdJ, if_neg (by omega)]
      · by_cases c : j = k
        · rw [c, a2 73 k (by omega), rdJ, if_pos ⟨rfl, rfl⟩, hu]
        · exact a3 j (by omega) h4
    rw [rl_Scope_enterHead_32, if_neg (fun w => by
      have := (nI_ltI (a := 3) (b := k) (by omega) (by omega)).mp w
      omega)]
    simp only [gd, h67, ct, if_pos zt, h31, ck, if_pos zk, h29, stK, vK, nI_1]
    by_cases c : e < k
    · rw [if_pos (show nI e < nI k from (nI_ltI (by omega) (by omega)).mpr c)]
      exact go 0 (by unfold ehN; rw [if_neg (by omega)])
    · rw [if_neg (fun w => c ((nI_ltI (by omega) (by omega)).mp w)), show nI i + nI k = nI (i + k) from (Int32.ofNat_add _ _).symm, c_name hX hT (by omega), bis]
      exact go _ (by unfold ehN; rw [if_pos (by omega)])
theorem c_enterHead (hX : XO X) (hT : TkC X T) (hnf : 10 ≤ nf) (ht : t < 24) (he : e ≤ 3) (hi : i + e < xn X) (h31 : T.1 31 t = nI e) (h29 : T.1 29 t = nI i) (hd : 2 ≤ d) : wp (PP nf d 101 T [nI t] []) (fun _ _ T' => T'.1 67 0 = nI t ∧ T'.1 68 0 = 0 ∧ T'.1 72 0 = 4 ∧ T'.1 75 0 = 0 ∧ T'.1 76 0 = 0 ∧ T'.2 77 0 = 0 ∧ (∀ g, g ≠ 67 → g ≠ 68 → g ≠ 72 → g ≠ 75 → g ≠ 76 → T'.1 g = T.1 g) ∧ (∀ g j, ¬ (g = 73 ∧ 1 ≤ j ∧ j ≤ 3) → g ≠ 77 → T'.2 g j = T.2 g j) ∧ ∀ j, 1 ≤ j → j ≤ 3 → T'.2 73 j = ehN X e i j) := by
  obtain ⟨d, rfl⟩ : ∃ g, d = g + 2 := ⟨d - 2, by omega⟩
  rw [e_Scope_enterHead _ (d + 1)]
  unfold rb_Scope_enterHead
  simp only [stK]
  have o1 : ∀ g, g ≠ 67 → g ≠ 68 → g ≠ 72 → g ≠ 75 → g ≠ 76 → (sJ (sI (sI (sI (sI (sI T 67 0 (nI t)) 68 0 0) 72 0 4) 75 0 0) 76 0 0) 77 0 0).1 g = T.1 g := fun g a b c e f => by
    show (sI (sI (sI (sI (sI T 67 0 (nI t)) 68 0 0) 72 0 4) 75 0 0) 76 0 0).1 g = T.1 g
    rw [sI_ne f, sI_ne e, sI_ne c, sI_ne b, sI_ne a]
  have o2 : ∀ g j, g ≠ 77 → (sJ (sI (sI (sI (sI (sI T 67 0 (nI t)) 68 0 0) 72 0 4) 75 0 0) 76 0 0) 77 0 0).2 g j = T.2 g j := fun g j a => by rw [rdJ, if_neg (by omega)]; rfl
  have v67 : (sJ (sI (sI (sI (sI (sI T 67 0 (nI t)) 68 0 0) 72 0 4) 75 0 0) 76 0 0) 77 0 0).1 67 0 = nI t := by
    show (sI (sI (sI (sI (sI T 67 0 (nI t)) 68 0 0) 72 0 4) 75 0 0) 76 0 0).1 67 0 = _
    rw [sI_ne (by omega), sI_ne (by omega), sI_ne (by omega), sI_ne (by omega), sI_v]
  have v68 : (sJ (sI (sI (sI (sI (sI T 67 0 (nI t)) 68 0 0) 72 0 4) 75 0 0) 76 0 0) 77 0 0).1 68 0 = 0 := by
    show (sI (sI (sI (sI (sI T 67 0 (nI t)) 68 0 0) 72 0 4) 75 0 0) 76 0 0).1 68 0 = _
    rw [sI_ne (by omega), sI_ne (by omega), sI_ne (by omega), sI_v]
  have v72 : (sJ (sI (sI (sI (sI (sI T 67 0 (nI t)) 68 0 0) 72 0 4) 75 0 0) 76 0 0) 77 0 0).1 72 0 = 4 := by
    show (sI (sI (sI (sI (sI T 67 0 (nI t)) 68 0 0) 72 0 4) 75 0 0) 76 0 0).1 72 0 = _
    rw [sI_ne (by omega), sI_ne (by omega), sI_v]
  have v75 : (sJ (sI (sI (sI (sI (sI T 67 0 (nI t)) 68 0 0) 72 0 4) 75 0 0) 76 0 0) 77 0 0).1 75 0 = 0 := by
    show (sI (sI (sI (sI (sI T 67 0 (nI t)) 68 0 0) 72 0 4) 75 0 0) 76 0 0).1 75 0 = _
    rw [sI_ne (by omega), sI_v]
  have v76 : (sJ (sI (sI (sI (sI (sI T 67 0 (nI t)) 68 0 0) 72 0 4) 75 0 0) 76 0 0) 77 0 0).1 76 0 = 0 := by
    show (sI (sI (sI (sI (sI T 67 0 (nI t)) 68 0 0) 72 0 4) 75 0 0) 76 0 0).1 76 0 = _
    rw [sI_v]
  have v77 : (sJ (sI (sI (sI (sI (sI T 67 0 (nI t)) 68 0 0) 72 0 4) 75 0 0) 76 0 0) 77 0 0).2 77 0 = 0 := by rw [rdJ, if_pos ⟨rfl, rfl⟩]
  have hT1 : TkC X (sJ (sI (sI (sI (sI (sI T 67 0 (nI t)) 68 0 0) 72 0 4) 75 0 0) 76 0 0) 77 0 0) := (((((hT.w (by omega)).w (by omega)).w (by omega)).w (by omega)).w (by omega)).wj (by omega)
  generalize sJ (sI (sI (sI (sI (sI T 67 0 (nI t)) 68 0 0) 72 0 4) 75 0 0) 76 0 0) 77 0 0 = T1 at *
  refine wp_mono (c_ehl (nf := nf) (d := d) (t := t) (e := e) (i := i) hX hT ht he hi 3 1 nf T1 hT1 v67 (by rw [o1 31 (by omega) (by omega) (by omega) (by omega) (by omega)]; exact h31) (by rw [o1 29 (by omega) (by omega) (by omega) (by omega) (by omega)]; exact h29) (by omega) (by omega) (by omega)) ?_
  intro _ _ T' ⟨a1, a2, a3⟩
  rw [a1]
  exact ⟨v67, v68, v72, v75, v76, by rw [a2 77 0 (by omega)]; exact v77, o1, fun g j h1 h2 => by rw [a2 g j h1, o2 g j h2], a3⟩
end CSW
