/-! the class's parser: TYPES; what STEPS do behind a fault -/
def tyR (X : Lx) (T : gSt) (x : Except Nat Nat) : gSt := match x with
  | .ok j => cMv T j
  | .error e => cBd X e (cMv T e)
def CsE (X : Lx) (T : gSt) (e : Nat) (r : Int32) (T' : gSt) : Prop := Bd X T' e ∧ FD T T' ∧ ∃ x, r = nI x ∧ x < 4008
def CsQ (X : Lx) (T : gSt) (i p : Nat) (res : SR) (r : Int32) (T' : gSt) : Prop := match res with
  | .ok (t, j, v, g) => ∃ p', GC X T' j p' ∧ i < j ∧ p < p' ∧ p' + i ≤ p + j ∧ r = nI p ∧ FD T T' ∧ Nf T T' p ∧ T'.1 60 0 = nI v ∧ T'.1 61 0 = nI g ∧ v ≤ 20 ∧ g ≤ 8 ∧ T'.1 13 p = 0 ∧ RcS X T' t 0 0 p p'
  | .error e => CsE X T e r T'
def CbQ (X : Lx) (T : gSt) (i p : Nat) (res : SR) (r : Int32) (T' : gSt) : Prop := match res with
  | .ok (t, j, v, g) => ∃ p', GC X T' j p' ∧ i < j ∧ p ≤ p' ∧ p' + i + 2 ≤ p + j ∧ r = (if emB t = true then 0 else nI p) ∧ FD T T' ∧ Nf T T' p ∧ T'.1 60 0 = nI v ∧ T'.1 61 0 = nI g ∧ v ≤ 20 ∧ g ≤ 8 ∧ RcS X T' t 2 0 p p'
  | .error e => CsE X T e r T'
def CPb (nf : Nat) (X : Lx) (m : Nat) : Prop := ∀ (T : gSt) (i p v g d : Nat), GC X T i p → T.1 60 0 = nI v → T.1 61 0 = nI g → v ≤ 20 → g ≤ 8 → p ≤ i + 1 → 1 ≤ p → 12 * m + 40 ≤ d → wp (PP nf d 70 T [nI (21 - m)] []) (fun r _ T' => CbQ X T i p (pBl (xK X) m i v g) r T')
section CTY
variable {nf d : Nat} {T T' T1 T2 T3 : gSt} {X : Lx} {i j k p p' q m n e c z lo hi v g : Nat} {x y r : Int32} {l : Int64} {t ta tb : Tr} {K : Int32 → Int64 → gSt → gR} {Q : Int32 → Int64 → gSt → Prop}
theorem FD.rf : FD T T := ⟨fun _ _ _ _ _ _ _ _ => rfl, rfl⟩
theorem zb_type (hX : XO X) (h : Bd X T e) (hd : 4 ≤ d) : PP nf d 69 T [x, y] [] = some (0, 0, T) := by
  obtain ⟨d, rfl⟩ : ∃ g, d = g + 4 := ⟨d - 4, by omega⟩
  rw [e_Parser_parseType _ (d + 3)]
  unfold rb_Parser_parseType
  have go : rj_Parser_parseType_34 (PP nf (d + 3)) nf T x = some (0, 0, T) := by
    unfold rj_Parser_parseType_34
    rw [b_acc h, bis, if_pos rfl, b_acc h, bis, if_pos rfl, b_acc h, bis, if_pos rfl, b_need hX h, bis]
  split
  · split
    · exact go
    · rw [b_acc h, bis, if_pos rfl]
      exact go
  · rw [b_stop hX h, bis]
theorem zb_block (hX : XO X) (hnf : 1 ≤ nf) (h : Bd X T e) (hd : 4 ≤ d) : PP nf d 70 T [x] [] = some (0, 0, T) := by
  obtain ⟨d, rfl⟩ : ∃ g, d = g + 4 := ⟨d - 4, by omega⟩
  obtain ⟨nf, rfl⟩ : ∃ g, nf = g + 1 := ⟨nf - 1, by omega⟩
  rw [e_Parser_parseBlock _ (d + 3)]
  unfold rb_Parser_parseBlock
  split
  · rw [b_need hX h, bis, rl_Parser_parseBlock_25, if_neg (by decide), if_neg (by rw [h.1]; decide), b_need hX h, bis]
  · rw [b_stop hX h, bis]
theorem pTy_n (hX : XO X) : ∀ (f : Nat) (b : Bool) (i : Nat), i ≤ xn X → (∀ j, pTy (xK X) f b i = .ok j → i < j ∧ j ≤ xn X) ∧ (∀ e, pTy (xK X) f b i = .error e → i ≤ e ∧ e ≤ xn X) := by
  intro f
  induction f with
  | zero =>
    intro b i hi
    rw [pTy]
    exact ⟨fun j w => by simp at w, fun e w => by simp at w; omega⟩
  | succ f ih =>
    intro b i hi
    rw [pTy]
    by_cases c1 : b = true ∧ xK X i = 3
    · rw [if_pos c1]
      have h1 := K_lt hX c1.2 (by omega)
      have h2 := rgs_n (m := 3) hX (show i + 1 ≤ xn X by omega)
      exact ⟨fun j w => by simp at w; omega, fun e w => by simp at w⟩
    rw [if_neg c1]
    have sub : ∀ b', 0 < xK X i → (∀ j, (if xK X (i + 1) = 4 then pTy (xK X) f b' (i + 2) else .error (i + 1)) = .ok j → i < j ∧ j ≤ xn X) ∧ (∀ e, (if xK X (i + 1) = 4 then pTy (xK X) f b' (i + 2) else .error (i + 1)) = .error e → i ≤ e ∧ e ≤ xn X) := by
      intro b' h0
      have h1 := K_lt hX rfl h0
      by_cases c4 : xK X (i + 1) = 4
      · have h2 := K_lt hX c4 (by omega)
        simp only [if_pos c4]
        have := ih b' (i + 2) (by omega)
        exact ⟨fun j w => by have := this.1 j w; omega, fun e w => by have := this.2 e w; omega⟩
      · simp only [if_neg c4]
        exact ⟨fun j w => by simp at w, fun e w => by simp at w; omega⟩
    by_cases c2 : xK X i = 59 ∨ xK X i = 55
    · rw [if_pos c2]
      exact sub true (by omega)
    rw [if_neg c2]
    by_cases c3 : xK X i = 60
    · rw [if_pos c3]
      exact sub false (by omega)
    rw [if_neg c3]
    by_cases c4 : xK X i = 26
    · rw [if_pos c4]
      have h1 := K_lt hX c4 (by omega)
      exact ⟨fun j w => by simp at w; omega, fun e w => by simp at w⟩
    · rw [if_neg c4]
      exact ⟨fun j w => by simp at w, fun e w => by simp at w; omega⟩
theorem c_type (hX : XO X) (hnf : 100 ≤ nf) : ∀ (f : Nat) (b : Bool) (i : Nat) (T : gSt) (d : Nat) (x y : Int32), f ≤ 6 → x = nI (7 - f) → y = (if b = true then 1 else 0) → GC X T i p → p ≤ i + 3 → f + 8 ≤ d → PP nf d 69 T [x, y] [] = some (0, 0, tyR X T (pTy (xK X) f b i)) := by
  intro f
  induction f with
  | zero =>
    intro b i T d x y hf hx hy hg hp hd
    obtain ⟨d, rfl⟩ : ∃ g, d = g + 4 := ⟨d - 4, by omega⟩
    rw [hx, e_Parser_parseType _ (d + 3)]
    unfold rb_Parser_parseType
    rw [if_neg (by decide), c_stop (d := d + 1) hX hg, bis, pTy]
    show some (0, 0, cBd X i T) = some (0, 0, cBd X i (cMv T i))
    rw [cMv_s hg]
  | succ f ih =>
    intro b i T d x y hf hx hy hg hp hd
    obtain ⟨d, rfl⟩ : ∃ g, d = g + 5 := ⟨d - 5, by omega⟩
    have hxn := hX.1
    have hi0 := hg.2.1
    have x6 : x ≤ 6 := by rw [hx]; exact (nI_leI (a := 7 - (f + 1)) (b := 6) (by omega) (by omega)).mpr (by omega)
    have x1 : x + 1 = nI (7 - f) := by rw [hx, nI_1, show 7 - (f + 1) + 1 = 7 - f by omega]
    rw [e_Parser_parseType _ (d + 4)]
    unfold rb_Parser_parseType
    rw [if_pos x6, pTy]
    -- behind a sign: the REGION and what it holds
    have sub : ∀ (b' : Bool) (y' : Int32), y' = (if b' = true then 1 else 0) → i < xn X → (bi (PP nf (d + 4) 60 (cMv T (i + 1)) [4] []) fun _ _ T9 => bi (PP nf (d + 4) 69 T9 [x + 1, y'] []) fun _ _ T10 => some (0, 0, T10)) = some (0, 0, tyR X T (if xK X (i + 1) = 4 then pTy (xK X) f b' (i + 2) else .error (i + 1))) := by
      intro b' y' hy' hi
      have g1 := hg.mv (j := i + 1) (by omega)
      rw [show PP nf (d + 4) 60 (cMv T (i + 1)) [4] [] = some (0, 0, if xK X (i + 1) = 4 then cMv (cMv T (i + 1)) (i + 1 + 1) else cBd X (i + 1) (cMv T (i + 1))) from c_need (d := d) (k := 4) hX g1 (by omega), bis]
      by_cases c4 : xK X (i + 1) = 4
      · have h2 := K_lt hX c4 (by omega)
        rw [if_pos c4, if_pos c4, cMv_2, ih b' (i + 2) (cMv T (i + 2)) (d + 4) (x + 1) y' (by omega) x1 hy' (hg.mv (by omega)) (by omega) (by omega), bis]
        cases pTy (xK X) f b' (i + 2) with
        | ok j =>
          show some (0, 0, cMv (cMv T (i + 2)) j) = some (0, 0, cMv T j)
          rw [cMv_2]
        | error e =>
          show some (0, 0, cBd X e (cMv (cMv T (i + 2)) e)) = some (0, 0, cBd X e (cMv T e))
          rw [cMv_2]
      · rw [if_neg c4, if_neg c4, zb_type hX (g1.bd hX (by omega)) (by omega), bis]
        rfl
    have go : ¬ (b = true ∧ xK X i = 3) → rj_Parser_parseType_34 (PP nf (d + 4)) nf T x = some (0, 0, tyR X T (if xK X i = 59 ∨ xK X i = 55 then (if xK X (i + 1) = 4 then pTy (xK X) f true (i + 2) else .error (i + 1)) else if xK X i = 60 then (if xK X (i + 1) = 4 then pTy (xK X) f false (i + 2) else .error (i + 1)) else if xK X i = 26 then .ok (i + 1) else .error i)) := by
      intro _
      unfold rj_Parser_parseType_34
      rw [show PP nf (d + 4) 59 T [59] [] = (if xK X i = 59 then some (1, 0, cMv T (i + 1)) else some (0, 0, T)) from c_acc (d := d + 1) (k := 59) hX hg (by omega)]
      by_cases c1 : xK X i = 59
      · rw [if_pos c1, if_pos (Or.inl c1), bis, if_neg (by decide)]
        exact sub true 1 rfl (K_lt hX c1 (by omega))
      rw [if_neg c1, bis, if_pos rfl, show PP nf (d + 4) 59 T [55] [] = (if xK X i = 55 then some (1, 0, cMv T (i + 1)) else some (0, 0, T)) from c_acc (d := d + 1) (k := 55) hX hg (by omega)]
      by_cases c2 : xK X i = 55
      · rw [if_pos c2, if_pos (Or.inr c2), bis, if_neg (by decide)]
        exact sub true 1 rfl (K_lt hX c2 (by omega))
      rw [if_neg c2, bis, if_pos rfl, if_neg (show ¬ (xK X i = 59 ∨ xK X i = 55) by omega), show PP nf (d + 4) 59 T [60] [] = (if xK X i = 60 then some (1, 0, cMv T (i + 1)) else some (0, 0, T)) from c_acc (d := d + 1) (k := 60) hX hg (by omega)]
      by_cases c3 : xK X i = 60
      · rw [if_pos c3, if_pos c3, bis, if_neg (by decide)]
        exact sub false 0 rfl (K_lt hX c3 (by omega))
      rw [if_neg c3, if_neg c3, bis, if_pos rfl, show PP nf (d + 4) 60 T [26] [] = some (0, 0, if xK X i = 26 then cMv T (i + 1) else cBd X i T) from c_need (d := d) (k := 26) hX hg (by omega), bis]
      by_cases c4 : xK X i = 26
      · rw [if_pos c4, if_pos c4]
        rfl
      · rw [if_neg c4, if_neg c4]
        show some (0, 0, cBd X i T) = some (0, 0, cBd X i (cMv T i))
        rw [cMv_s hg]
    cases b with
    | false =>
      rw [if_pos (show y = 0 by rw [hy]; rfl), go (fun w => absurd w.1 (by decide)), if_neg (show ¬ (false = true ∧ xK X i = 3) from fun w => absurd w.1 (by decide))]
    | true =>
      rw [if_neg (show ¬ y = 0 by rw [hy]; decide), show PP nf (d + 4) 59 T [3] [] = (if xK X i = 3 then some (1, 0, cMv T (i + 1)) else some (0, 0, T)) from c_acc (d := d + 1) (k := 3) hX hg (by omega)]
      by_cases c3 : xK X i = 3
      · have hi := K_lt hX c3 (by omega)
        rw [if_pos c3, bis, if_neg (by decide), c_regs (m := 3) (x := 3) hX hnf (hg.mv (j := i + 1) (by omega)) (by omega) rfl (by omega), bis, cMv_2, if_pos ⟨rfl, c3⟩]
        rfl
      · rw [if_neg c3, bis, if_pos rfl, go (fun w => c3 w.2), if_neg (show ¬ (true = true ∧ xK X i = 3) from fun w => c3 w.2)]
/-- a TYPE ahead of what goes on -/
theorem w_type (hX : XO X) (hnf : 100 ≤ nf) (hg : GC X T i p) (hp : p ≤ i + 3) (hd : 14 ≤ d) (h1 : ∀ j, pTy (xK X) 6 false i = .ok j → i < j → j ≤ xn X → wp (K 0 0 (cMv T j)) Q) (h2 : ∀ e Tb, pTy (xK X) 6 false i = .error e → Bd X Tb e → FC T Tb → wp (K 0 0 Tb) Q) : wp (bi (PP nf d 69 T [1, 0] []) K) Q := by
  have hi0 := hg.2.1
  have hn := pTy_n hX 6 false i hi0
  rw [c_type hX hnf 6 false i T d 1 0 (by omega) rfl rfl hg hp (by omega), bis]
  have hxn := hX.1
  generalize hr : pTy (xK X) 6 false i = res at *
  cases res with
  | ok j =>
    have := hn.1 j rfl
    exact h1 j rfl this.1 this.2
  | error e =>
    have := hn.2 e rfl
    exact h2 e _ rfl ((hg.mv this.2).bd hX (by omega)) (FC.mv.tr FC.bd)
theorem w_expr (hG : CPx nf X m) (hg : GC X T i p) (hp : p ≤ i + 2) (hd : 8 * m + 12 ≤ d) (hx : x = nI (21 - m)) (h1 : ∀ a j p' T' l, pEx (xK X) m 0 i = .ok (a, j) → GC X T' j p' → i < j → p < p' → p' + i ≤ p + j → FC T T' → Nf T T' p → T'.1 14 p = 0 → T'.1 15 p = 0 → cRX T' (RcG X T' a) p p' → wp (K (nI p) l T') Q) (h2 : ∀ e xr T' l, pEx (xK X) m 0 i = .error e → Bd X T' e → FC T T' → xr < 4008 → wp (K (nI xr) l T') Q) : wp (bi (PP nf d 78 T [x] []) K) Q := by
  have go := hG 0 T i p d (by omega) hg hp hd
  rw [if_pos rfl, ← hx] at go
  refine wp_bi go ?_
  intro r l T' h
  generalize hr : pEx (xK X) m 0 i = res at *
  cases res with
  | error e =>
    obtain ⟨b5, f5, xr, er, hxr⟩ := h
    rw [er]
    exact h2 e xr T' l rfl b5 f5 hxr
  | ok y =>
    obtain ⟨a, j⟩ := y
    obtain ⟨p2, g2, a1, a2, a3, rfl, f2, n2, v14, v15, rx⟩ := h
    rw [if_pos rfl] at rx
    exact h1 a j p2 T' l rfl g2 a1 a2 a3 f2 n2 v14 v15 rx
theorem w_block (hB : CPb nf X m) (hg : GC X T i p) (h60 : T.1 60 0 = nI v) (h61 : T.1 61 0 = nI g) (hv : v ≤ 20) (hg8 : g ≤ 8) (hp : p ≤ i + 1) (hp1 : 1 ≤ p) (hd : 12 * m + 40 ≤ d) (hx : x = nI (21 - m)) (h1 : ∀ t j v' g' p' T' l, pBl (xK X) m i v g = .ok (t, j, v', g') → GC X T' j p' → i < j → p ≤ p' → p' + i + 2 ≤ p + j → FD T T' → Nf T T' p → T'.1 60 0 = nI v' → T'.1 61 0 = nI g' → v' ≤ 20 → g' ≤ 8 → RcS X T' t 2 0 p p' → wp (K (if emB t = true then 0 else nI p) l T') Q) (h2 : ∀ e xr T' l, pBl (xK X) m i v g = .error e → Bd X T' e → FD T T' → xr < 4008 → wp (K (nI xr) l T') Q) : wp (bi (PP nf d 70 T [x] []) K) Q := by
  have go := hB T i p v g d hg h60 h61 hv hg8 hp hp1 hd
  rw [← hx] at go
  refine wp_bi go ?_
  intro r l T' h
  generalize hr : pBl (xK X) m i v g = res at *
  cases res with
  | error e =>
    obtain ⟨b5, f5, xr, er, hxr⟩ := h
    rw [er]
    exact h2 e xr T' l rfl b5 f5 hxr
  | ok y =>
    obtain ⟨t, j, v', g'⟩ := y
    obtain ⟨p2, g2, a1, a2, a3, rfl, f2, n2, b1, b2, b3, b4, rs⟩ := h
    exact h1 t j v' g' p2 T' l rfl g2 a1 a2 a3 f2 n2 b1 b2 b3 b4 rs
theorem cRX_nz (h : cRX T (RcG X T t) lo hi) : isZ t = false := by
  obtain ⟨y, h1, _⟩ := h
  unfold RcG at h1
  split at h1
  · rfl
  · exact absurd h1.1 (by omega)
  · exact h1.elim
end CTY
