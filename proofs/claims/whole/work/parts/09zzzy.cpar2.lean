/-! the class's parser: needs, regions; what it does behind a fault -/
section CPB
variable {nf d : Nat} {T T' T1 : gSt} {X : Lx} {i j k p q m n e : Nat} {x y a b : Int32} {K : Int32 → Int64 → gSt → gR} {Q : Int32 → Int64 → gSt → Prop}
theorem w_need (hX : XO X) (hg : GC X T i p) (hx : x = nI k) (hk : k < 100000) (hd : 4 ≤ d) (h1 : xK X i = k → wp (K 0 0 (cMv T (i + 1))) Q) (h2 : ¬ xK X i = k → wp (K 0 0 (cBd X i T)) Q) (hk0 : 0 < k := by omega) : wp (bi (PP nf d 60 T [x] []) K) Q := by
  obtain ⟨d, rfl⟩ : ∃ g, d = g + 4 := ⟨d - 4, by omega⟩
  rw [hx, c_need hX hg hk hk0, bis]
  by_cases c : xK X i = k
  · rw [if_pos c]; exact h1 c
  · rw [if_neg c]; exact h2 c
theorem w_acc (hX : XO X) (hg : GC X T i p) (hx : x = nI k) (hk : k < 100000) (hd : 3 ≤ d) (h1 : xK X i = k → wp (K 1 0 (cMv T (i + 1))) Q) (h2 : ¬ xK X i = k → wp (K 0 0 T) Q) (hk0 : 0 < k := by omega) : wp (bi (PP nf d 59 T [x] []) K) Q := by
  obtain ⟨d, rfl⟩ : ∃ g, d = g + 3 := ⟨d - 3, by omega⟩
  rw [hx, c_acc hX hg hk hk0]
  by_cases c : xK X i = k
  · rw [if_pos c, bis]; exact h1 c
  · rw [if_neg c, bis]; exact h2 c
theorem w_sees {A B : gR} (hX : XO X) (hg : GC X T i p) (hx : x = nI k) (hk : k < 100000) (h1 : xK X i = k → wp A Q) (h2 : ¬ xK X i = k → wp B Q) : wp (if T.1 128 0 = x then A else B) Q := by
  rw [hx]
  by_cases c : xK X i = k
  · rw [if_pos (by rw [hg.is hX hk]; exact c)]; exact h1 c
  · rw [if_neg (by rw [hg.is hX hk]; exact c)]; exact h2 c
theorem w_adv (hX : XO X) (hg : GC X T i p) (hi : i < xn X) (hd : 2 ≤ d) (h : wp (K 0 0 (cMv T (i + 1))) Q) : wp (bi (PP nf d 58 T [] []) K) Q := by
  obtain ⟨d, rfl⟩ : ∃ g, d = g + 2 := ⟨d - 2, by omega⟩
  rw [c_adv hX hg hi, bis]
  exact h
theorem w_stop (hX : XO X) (hg : GC X T i p) (hd : 2 ≤ d) (h : wp (K 0 0 (cBd X i T)) Q) : wp (bi (PP nf d 61 T [] []) K) Q := by
  obtain ⟨d, rfl⟩ : ∃ g, d = g + 2 := ⟨d - 2, by omega⟩
  rw [c_stop hX hg, bis]
  exact h
theorem w_node (hg : GC X T i p) (hp : p < 4008) (hd : 1 ≤ d) (h : wp (K (nI p) 0 (cNd T p a (nI i))) Q) : wp (bi (PP nf d 28 T [a, T.1 58 0] []) K) Q := by
  obtain ⟨d, rfl⟩ : ∃ g, d = g + 1 := ⟨d - 1, by omega⟩
  rw [hg.1, c_node hg hp, bis]
  exact h
theorem wb_need (hX : XO X) (h : Bd X T e) (hd : 3 ≤ d) (h1 : wp (K 0 0 T) Q) (hx : x ≠ 0 := by first | decide | assumption) : wp (bi (PP nf d 60 T [x] []) K) Q := by
  obtain ⟨d, rfl⟩ : ∃ g, d = g + 3 := ⟨d - 3, by omega⟩
  rw [b_need hX h hx, bis]
  exact h1
theorem wb_acc (h : Bd X T e) (hd : 2 ≤ d) (h1 : wp (K 0 0 T) Q) (hx : x ≠ 0 := by first | decide | assumption) : wp (bi (PP nf d 59 T [x] []) K) Q := by
  obtain ⟨d, rfl⟩ : ∃ g, d = g + 2 := ⟨d - 2, by omega⟩
  rw [b_acc h hx, bis]
  exact h1
theorem wb_sees {A B : gR} (h : Bd X T e) (h1 : wp B Q) (hx : x ≠ 0 := by first | decide | assumption) : wp (if T.1 128 0 = x then A else B) Q := by
  rw [if_neg (by rw [h.lk]; exact fun w => hx w.symm)]
  exact h1
theorem wb_stop (hX : XO X) (h : Bd X T e) (hd : 2 ≤ d) (h1 : wp (K 0 0 T) Q) : wp (bi (PP nf d 61 T [] []) K) Q := by
  obtain ⟨d, rfl⟩ : ∃ g, d = g + 2 := ⟨d - 2, by omega⟩
  rw [b_stop hX h, bis]
  exact h1
theorem zb_regs (hnf : 1 ≤ nf) (h : Bd X T e) (hd : 3 ≤ d) : PP nf d 63 T [x] [] = some (0, 0, T) := by
  obtain ⟨d, rfl⟩ : ∃ g, d = g + 3 := ⟨d - 3, by omega⟩
  obtain ⟨nf, rfl⟩ : ∃ g, nf = g + 1 := ⟨nf - 1, by omega⟩
  rw [e_Parser_parseRegions _ (d + 2)]
  unfold rb_Parser_parseRegions
  rw [rl_Parser_parseRegions_2, h.lk, if_neg (show ¬ (0 : Int32) = 4 by decide)]
  split <;> rfl
theorem zb_prim (h : Bd X T e) (hd : 1 ≤ d) : PP nf d 82 T [x] [] = some (0, 0, T) := by
  obtain ⟨d, rfl⟩ : ∃ g, d = g + 1 := ⟨d - 1, by omega⟩
  rw [e_Parser_parsePrimary]
  unfold rb_Parser_parsePrimary
  rw [if_neg (by rw [h.1]; decide)]
theorem zb_term (hX : XO X) (hnf : 1 ≤ nf) (h : Bd X T e) (hd : 3 ≤ d) : PP nf d 80 T [x] [] = some (0, 0, T) := by
  obtain ⟨d, rfl⟩ : ∃ g, d = g + 3 := ⟨d - 3, by omega⟩
  obtain ⟨nf, rfl⟩ : ∃ g, nf = g + 1 := ⟨nf - 1, by omega⟩
  rw [e_Parser_parseTerm _ (d + 2)]
  unfold rb_Parser_parseTerm
  split
  · rw [zb_prim h (by omega), bis, rl_Parser_parseTerm_23, if_neg (by decide), h.lk, if_neg (by decide), if_neg (by decide), if_neg (by decide), if_neg (by decide)]
  · rw [b_stop hX h, bis]
theorem zb_sop (h : Bd X T e) (hd : 1 ≤ d) : PP nf d 79 T [] [] = some (0, 0, T) := by
  obtain ⟨d, rfl⟩ : ∃ g, d = g + 1 := ⟨d - 1, by omega⟩
  rw [e_Parser_seesOperator]
  unfold rb_Parser_seesOperator rj_Parser_seesOperator_18
  rw [h.lk, if_pos (by decide), if_neg (by decide), if_neg (by decide)]
theorem zb_expr (hX : XO X) (hnf : 1 ≤ nf) (h : Bd X T e) (hd : 4 ≤ d) : PP nf d 78 T [x] [] = some (0, 0, T) := by
  obtain ⟨d, rfl⟩ : ∃ g, d = g + 4 := ⟨d - 4, by omega⟩
  rw [e_Parser_parseExpr _ (d + 3)]
  unfold rb_Parser_parseExpr
  rw [zb_term hX hnf h (by omega), bis]
  obtain ⟨nf, rfl⟩ : ∃ g, nf = g + 1 := ⟨nf - 1, by omega⟩
  rw [rl_Parser_parseExpr_11, if_neg (by decide), zb_sop h (by omega), bis, if_pos rfl]
theorem zb_args (hX : XO X) (hnf : 1 ≤ nf) (h : Bd X T e) (hd : 5 ≤ d) (hy : y ≠ 0 := by first | decide | assumption) : PP nf d 85 T [x, y] [] = some (0, 0, T) := by
  obtain ⟨d, rfl⟩ : ∃ g, d = g + 5 := ⟨d - 5, by omega⟩
  rw [e_Parser_parseArguments _ (d + 4)]
  unfold rb_Parser_parseArguments
  rw [b_acc h hy, bis, if_pos rfl, zb_expr hX hnf h (by omega), bis]
  obtain ⟨nf, rfl⟩ : ∃ g, nf = g + 1 := ⟨nf - 1, by omega⟩
  rw [rl_Parser_parseArguments_22, if_neg (by decide), b_acc h, bis, if_pos rfl, b_need hX h hy, bis]
theorem zb_mk (hX : XO X) (hnf : 1 ≤ nf) (h : Bd X T e) (hq : q < 4008) (hd : 5 ≤ d) : wp (PP nf d 84 T [nI q, x, y] []) (fun _ _ T' => Bd X T' e ∧ FC T T') := by
  obtain ⟨d, rfl⟩ : ∃ g, d = g + 5 := ⟨d - 5, by omega⟩
  rw [e_Parser_parseMaking _ (d + 4)]
  unfold rb_Parser_parseMaking
  rw [b_need hX h, bis, zb_expr hX hnf h (by omega), bis, gd, if_pos (nin hq (by omega)), stK]
  have h1 : Bd X (sI T 17 (nI q).toNatClampNeg 0) e := h.wr (by omega)
  have f1 : FC T (sI T 17 (nI q).toNatClampNeg 0) := FC.wr (by omega)
  generalize sI T 17 (nI q).toNatClampNeg 0 = T1 at *
  split
  · rw [b_need hX h1, bis, zb_expr hX hnf h1 (by omega), bis, gd, if_pos (by decide), stK]
    have h2 : Bd X (sI T1 14 (0 : Int32).toNatClampNeg 0) e := h1.wr (by omega)
    have f2 : FC T1 (sI T1 14 (0 : Int32).toNatClampNeg 0) := FC.wr (by omega)
    generalize sI T1 14 (0 : Int32).toNatClampNeg 0 = T2 at *
    rw [b_need hX h2, bis]
    exact wp_some ⟨h2, f1.tr f2⟩
  · rw [b_need hX h1, bis]
    exact wp_some ⟨h1, f1⟩
/-- REGIONS that stand one behind another -/
theorem lkK_o {v : Int32} {g : Nat} (h : g ≠ 25 ∧ g ≠ 22) : lkK (sI T g i v) j = lkK T j := by
  unfold lkK
  rw [sI_ne (fun w => h.1 w.symm), sI_ne (fun w => h.2 w.symm)]
theorem cMv_2 : cMv (cMv T i) j = cMv T j := by
  have e : lkK (cMv T i) j = lkK T j := by
    unfold cMv
    rw [lkK_o (by omega), lkK_o (by omega)]
  unfold cMv at e ⊢
  rw [e]
  refine Prod.ext (funext fun k => funext fun q => ?_) rfl
  simp only [rdI]
  repeat' split
  all_goals first | rfl | omega
theorem cMv_s (hg : GC X T i p) : cMv T i = T := by
  unfold cMv
  rw [sI_same hg.1]
  refine sI_same ?_
  rw [lkK_k hg.2.2.2.2.2.1 hg.2.2.2.2.2.2.2.1 hg.2.2.2.2.2.2.2.2 hg.2.1]
  exact hg.lk
theorem c_rgl (hX : XO X) : ∀ (r c i fl : Nat) (T : gSt), GC X T i p → r + c < 100 → r < fl → rl_Parser_parseRegions_2 (PP nf (d + 3)) nf fl T (nI (c + r)) (nI c) = some (nI (c + rgs (xK X) r i), 0, cMv T (i + rgs (xK X) r i)) := by
  intro r
  induction r with
  | zero =>
    intro c i fl T hg hc hf
    obtain ⟨fl, rfl⟩ : ∃ g, fl = g + 1 := ⟨fl - 1, by omega⟩
    rw [rl_Parser_parseRegions_2, Nat.add_zero, if_pos (Int32.le_refl _), rgs, Nat.add_zero, Nat.add_zero, cMv_s hg]
  | succ r ih =>
    intro c i fl T hg hc hf
    obtain ⟨fl, rfl⟩ : ∃ g, fl = g + 1 := ⟨fl - 1, by omega⟩
    have nl : ¬ nI (c + (r + 1)) ≤ nI c := fun w => by
      have := (nI_leI (by omega) (by omega)).mp w
      omega
    rw [rl_Parser_parseRegions_2, if_neg nl, rgs]
    by_cases c4 : xK X i = 4
    · have hi := K_lt hX c4 (by omega)
      rw [if_pos (show T.1 128 0 = 4 from (hg.is (k := 4) hX (by omega)).mpr c4), if_pos c4, c_adv (d := d + 1) hX hg hi, bis, vK, nI_1, show c + (r + 1) = c + 1 + r by omega, ih (c + 1) (i + 1) fl _ (hg.mv (by omega)) (by omega) (by omega), cMv_2]
      rw [show c + 1 + rgs (xK X) r (i + 1) = c + (rgs (xK X) r (i + 1) + 1) by omega, show i + 1 + rgs (xK X) r (i + 1) = i + (rgs (xK X) r (i + 1) + 1) by omega]
    · rw [if_neg (show ¬ T.1 128 0 = 4 from fun w => c4 ((hg.is (k := 4) hX (by omega)).mp w)), if_neg c4, Nat.add_zero, Nat.add_zero, cMv_s hg]
theorem c_regs (hX : XO X) (hnf : 100 ≤ nf) (hg : GC X T i p) (hm : m < 100) (hx : x = nI m) (hd : 4 ≤ d) : PP nf d 63 T [x] [] = some (nI (rgs (xK X) m i), 0, cMv T (i + rgs (xK X) m i)) := by
  obtain ⟨d, rfl⟩ : ∃ g, d = g + 4 := ⟨d - 4, by omega⟩
  rw [hx, e_Parser_parseRegions _ (d + 3)]
  unfold rb_Parser_parseRegions
  have := c_rgl (nf := nf) (d := d) hX m 0 i nf T hg (by omega) (by omega)
  rw [Nat.zero_add, Nat.zero_add] at this
  exact this
theorem rgs_b (K : Nat → Nat) : ∀ (m i : Nat), rgs K m i ≤ m ∧ ∀ q, q < rgs K m i → K (i + q) = 4 := by
  intro m
  induction m with
  | zero => intro i; rw [rgs]; exact ⟨Nat.le_refl _, fun q h => by omega⟩
  | succ m ih =>
    intro i
    rw [rgs]
    split
    · rename_i h
      refine ⟨by have := (ih (i + 1)).1; omega, fun q hq => ?_⟩
      cases q with
      | zero => exact h
      | succ q =>
        have := (ih (i + 1)).2 q (by omega)
        rw [show i + (q + 1) = i + 1 + q by omega]
        exact this
    · exact ⟨by omega, fun q h => by omega⟩
theorem rgs_n (hX : XO X) (hi : i ≤ xn X) : i + rgs (xK X) m i ≤ xn X := by
  have h := (rgs_b (xK X) m i).2
  by_cases c : rgs (xK X) m i = 0
  · omega
  · have := K_lt hX (h (rgs (xK X) m i - 1) (by omega)) (by omega)
    omega
end CPB
