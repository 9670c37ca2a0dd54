/-! close, and the ways into a region -/
def arn (T : gSt) : Nat := (T.1 84 0).toNatClampNeg
def arL (p c : Int32) : Nat → gSt → gSt
  | 0, T => T
  | k + 1, T => if T.1 85 k = c then T else arL p c k (if T.1 85 k < 0 ∨ ¬ isLv T (T.1 85 k) = 0 then flT T 8 p else T)
def dlS (T : gSt) (c : Int32) : gSt := sI T 75 0 (T.1 75 0 &&& ((1 <<< (c &&& 31)) ^^^ (-1)))
def csC (X : Lx) (i : Nat) (T : gSt) : gSt := if (srS X T (i + 1)).1 7 0 = 0 then (if srR X T (i + 1) < 4 ∨ isLv (srS X T (i + 1)) (srR X T (i + 1)) = 0 then flT (srS X T (i + 1)) 8 (nI (xP X i)) else dlS (arL (nI (xP X i)) (srR X T (i + 1)) (arn (srS X T (i + 1))) (srS X T (i + 1))) (srR X T (i + 1))) else srS X T (i + 1)
/-- the region around, of those that lie around: the last that is one -/
def inL (T : gSt) : Nat → Nat → Int32 → Int32
  | 0, _, z => z
  | k + 1, j, z => inL T k (j + 1) (if T.1 85 j ≤ 0 then z else T.1 85 j)
section SC
variable {nf d : Nat} {T T' T1 S : gSt} {X : Lx} {m n p u i k e l lo hi a b s v it c : Nat} {x y r t pl : Int32} {ta tb : Tr}
theorem arL_o (g : Nat) (h : g ≠ 7) (h2 : g ≠ 8) : ∀ (k : Nat) (T : gSt), (arL pl r k T).1 g = T.1 g := by
  intro k
  induction k with
  | zero => intro T; rfl
  | succ k ih =>
    intro T
    rw [arL]
    split
    · rfl
    · rw [ih]
      split
      · exact flT_o h h2
      · rfl
theorem er_arL : ∀ (k : Nat) (T : gSt), er (arL pl r k T) = arL pl r k (er T) := by
  intro k
  induction k with
  | zero => intro T; rfl
  | succ k ih =>
    intro T
    rw [arL, arL]
    have e85 : (er T).1 85 k = T.1 85 k := rfl
    rw [e85, er_isLv]
    by_cases c : T.1 85 k = r
    · rw [if_pos c, if_pos c]
    · rw [if_neg c, if_neg c, ih]
      by_cases c2 : T.1 85 k < 0 ∨ ¬ isLv T (T.1 85 k) = 0
      · rw [if_pos c2, if_pos c2, er_fl]
      · rw [if_neg c2, if_neg c2]
theorem cls_l (hm : m < 8200) (h51 : T.1 51 m = pl) : ∀ (k fl : Nat) (T : gSt), k ≤ 40 → k < fl → T.1 51 m = pl → rl_Model_checkClose_52 (RR nf (d + 1)) nf fl T (nI m) r (nI k + (-1)) = some (0, 0, dlS (arL pl r k T) r) := by
  have zm : inb (nI m) 8200 := nin (by omega) (by omega)
  have cm : (nI m).toNatClampNeg = m := nc (by omega)
  intro k
  induction k with
  | zero =>
    intro fl T hk hf h5
    obtain ⟨fl', rfl⟩ : ∃ g, fl = g + 1 := ⟨fl - 1, by omega⟩
    rw [rl_Model_checkClose_52, if_pos (by decide)]
    rfl
  | succ k ih =>
    intro fl T hk hf h5
    obtain ⟨fl', rfl⟩ : ∃ g, fl = g + 1 := ⟨fl - 1, by omega⟩
    have zk : inb (nI k) 40 := nin (by omega) (by omega)
    have ck : (nI k).toNatClampNeg = k := nc (by omega)
    rw [nI_sub1, rl_Model_checkClose_52, if_neg (nI_pos (by omega))]
    simp only [gd, if_pos zk, ck, if_pos zm, cm, vK]
    rw [arL]
    by_cases c1 : T.1 85 k = r
    · rw [if_pos c1, if_pos c1]
      rfl
    rw [if_neg c1, if_neg c1, h5]
    have i2 := ih fl' (flT T 8 pl) (by omega) (by omega) (by rw [flT_o (by omega) (by omega)]; exact h5)
    have i1 := ih fl' T (by omega) (by omega) h5
    by_cases c2 : T.1 85 k < 0
    · rw [if_pos c2, if_pos (Or.inl c2), x_fail, bis]
      exact i2
    rw [if_neg c2, x_isLv, bis]
    by_cases c3 : isLv T (T.1 85 k) = 0
    · rw [if_pos c3, if_neg (fun q => q.elim c2 (fun z => z c3))]
      exact i1
    · rw [if_neg c3, if_pos (Or.inr c3), h5, x_fail, bis]
      exact i2
theorem x_cs (hnf : 8300 ≤ nf) (hlo : lo < hi) (hhi : hi ≤ 8200) (h51 : T.1 51 lo = nI (xP X i)) (h58 : T.1 58 lo = nI u) (hU : RepU X T u (i + 1) 1) (hUU : nU T ≤ 4000) (hC : Ck (er T)) (h84 : T.1 84 0 = nI (arn T)) (har : arn T ≤ 40) (hai : a = i) (hb : i + 1 < b) : wp (RR nf (d + 4) 83 T [nI lo] []) (fun _ _ T' => er T' = csC X i (er T) ∧ Fm X T T' lo hi a b ∧ (T'.1 7 0 = 0 → T'.1 48 u = srR X (er T) (i + 1))) := by
  have zm : inb (nI lo) 8200 := nin (by omega) (by omega)
  have cm : (nI lo).toNatClampNeg = lo := nc (by omega)
  have hus : usN X T u (i + 1) := hU.us (n := 0) (by omega)
  have hu4 : u < 4000 := by have := hU.1; omega
  have hRg : Rg T := hC.2.2.1.1
  rw [e_Model_checkClose nf (d + 3)]
  unfold rb_Model_checkClose
  refine wp_gd zm ?_
  rw [cm, h58]
  refine wp_be (x_rgAt (n := rn T) hRg.1 hRg.2 (by omega) hu4) ?_
  have eS := us_S hus
  have eR := us_R hus
  have fm0 : Fm X T (rgAtS T (rn T) u) lo hi a b := by
    refine ⟨fun j _ => ?_, fun j => ?_, fun j _ => ?_, ?_⟩
    · rw [rgAtS_o (by omega) (by omega) (by omega), rgAtS_o (by omega) (by omega) (by omega)]; exact ⟨rfl, rfl⟩
    · by_cases c : j = u
      · right; exact ⟨i + 1, by omega, hb, by rw [c]; exact hus.2⟩
      · left; exact rgAt_48 c
    · rw [rgAtS_o (by omega) (by omega) (by omega)]
    · rw [rgAtS_o (by omega) (by omega) (by omega)]
  have o : ∀ g, g ≠ 7 → g ≠ 8 → g ≠ 48 → (rgAtS T (rn T) u).1 g = T.1 g := fun g a b c => rgAtS_o a b c
  have v48 : (rgAtS T (rn T) u).1 7 0 = 0 → (rgAtS T (rn T) u).1 48 u = rgAtR T (rn T) u := by
    intro h
    unfold rgAtS rgAtR at *
    by_cases g : 0 ≤ rgN T (rn T) u
    · rw [if_pos g, if_pos g, sI_v]
    · rw [if_neg g, sI_ne (by omega)] at h
      exact absurd h (flT_bad (by decide))
  have sp0 : SP T (rgAtS T (rn T) u) := SP.of (by rw [eS]; exact FE.sr)
  rw [eR] at v48 ⊢
  unfold csC
  rw [← eS]
  generalize rgAtS T (rn T) u = T1 at *
  generalize srR X (er T) (i + 1) = c at *
  by_cases c0 : ¬ T1.1 7 0 = 0
  · have c0' : ¬ (er T1).1 7 0 = 0 := c0
    rw [if_neg c0']
    exact wp_be (x_bd1 c0) (wp_f (by decide) (wp_some ⟨rfl, fm0, fun q => absurd q c0⟩))
  have c0 := Decidable.not_not.mp c0
  have c0' : (er T1).1 7 0 = 0 := c0
  rw [if_pos c0']
  refine wp_be (x_bd0 c0) (wp_t rfl ?_)
  have p51 : T1.1 51 lo = nI (xP X i) := by rw [o 51 (by omega) (by omega) (by omega)]; exact h51
  have hb8 : ¬ (flT T1 8 (nI (xP X i))).1 7 0 = 0 := flT_bad (by decide)
  rw [er_isLv]
  by_cases c1 : c < 4
  · rw [if_pos (Or.inl c1)]
    refine wp_t c1 (wp_gd zm ?_)
    rw [p51]
    exact wp_be x_fail (wp_some ⟨er_fl, fm0.tr (Fm.nt nt_fl) sp0, fun q => absurd q hb8⟩)
  refine wp_f c1 (wp_be x_isLv ?_)
  by_cases c2 : isLv T1 c = 0
  · rw [if_pos (show c < 4 ∨ isLv T1 c = 0 from Or.inr c2)]
    refine wp_t c2 (wp_gd zm ?_)
    rw [p51]
    exact wp_be x_fail (wp_some ⟨er_fl, fm0.tr (Fm.nt nt_fl) sp0, fun q => absurd q hb8⟩)
  rw [if_neg (show ¬ (c < 4 ∨ isLv T1 c = 0) from fun q => q.elim c1 c2)]
  refine wp_f c2 ?_
  have e84 : T1.1 84 0 = nI (arn T) := by rw [o 84 (by omega) (by omega) (by omega)]; exact h84
  have earn : arn (er T1) = arn T := by
    show arn T1 = arn T
    unfold arn
    rw [o 84 (by omega) (by omega) (by omega)]
  rw [e84, Int32.sub_eq_add_neg, earn]
  refine wp_v ?_
  rw [cls_l (d := d + 2) (by omega) p51 (arn T) nf T1 har (by omega) p51]
  have ntA : ∀ k, anF k = true → (dlS (arL (nI (xP X i)) c (arn T) T1) c).1 k = T1.1 k := fun k hk => by
    have h : k ≠ 75 ∧ k ≠ 7 ∧ k ≠ 8 := by
      unfold anF at hk
      simp only [Bool.or_eq_true, beq_iff_eq] at hk
      omega
    unfold dlS
    rw [sI_ne h.1, arL_o k h.2.1 h.2.2]
  refine wp_some ⟨?_, fm0.tr (Fm.nt ntA) sp0, fun _ => ?_⟩
  · unfold dlS
    rw [er_w rfl, er_arL]
    have e75 : (arL (nI (xP X i)) c (arn T) (er T1)).1 75 0 = (arL (nI (xP X i)) c (arn T) T1).1 75 0 := by
      rw [arL_o 75 (by omega) (by omega), arL_o 75 (by omega) (by omega)]
      rfl
    rw [e75]
  · rw [ntA 48 rfl]
    exact v48 c0
end SC
