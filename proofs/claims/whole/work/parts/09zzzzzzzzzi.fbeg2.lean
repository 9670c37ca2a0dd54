/-! as a fun begins: REGIONS in sight, what is known, both sides -/
section FBH
variable {S S' T T' U : gSt} {X : Lx} {it e n m k a b c j w r s t i v g : Nat} {x y z : Int32} {nm : Int64}
/-- what fnB settles -/
theorem fnB_v (he : e ≤ 3) (h15 : S.1 15 it = nI e) : (fnB it w S).1 71 0 = nI e ∧ rn (fnB it w S) = e ∧ (∀ k, k < e → (fnB it w S).2 72 k = S.2 16 (3 * it + k) ∧ (fnB it w S).1 73 k = nI (k + 1)) ∧ (fnB it w S).1 77 0 = 0 ∧ (fnB it w S).1 81 0 = 0 ∧ (fnB it w S).1 82 0 = 0 ∧ (fnB it w S).1 83 0 = 1 ∧ (fnB it w S).1 84 0 = 0 ∧ (fnB it w S).1 86 0 = 0 ∧ (fnB it w S).1 87 0 = 0 := by
  have fl : ∀ (k j : Nat) (V : gSt) (g : Nat), g ≠ 76 → (fwL it k j V).1 g = V.1 g := by
    intro k
    induction k with
    | zero => intro j V g _; rfl
    | succ k ih => intro j V g hg; rw [fwL, ih _ _ g hg]; unfold fwS; rw [sI_ne (by omega)]
  have fl2 : ∀ (k j : Nat) (V : gSt), (fwL it k j V).2 = V.2 := by
    intro k
    induction k with
    | zero => intro j V; rfl
    | succ k ih => intro j V; rw [fwL, ih]; rfl
  have f1 : ∀ a b c (V : gSt) (g : Nat), g ≠ 76 → (cl1 a b c V).1 g = V.1 g := fun a b c V g hg => by
    unfold cl1
    split
    · exact sI_ne hg
    · rfl
  have f1' : ∀ a b c (V : gSt), (cl1 a b c V).2 = V.2 := fun a b c V => by unfold cl1; split <;> rfl
  have f3 : ∀ a (V : gSt) (g : Nat), g ≠ 76 → (cl3 a V).1 g = V.1 g := fun a V g hg => by
    unfold cl3 cl2
    rw [f1 _ _ _ _ g hg, f1 _ _ _ _ g hg, f1 _ _ _ _ g hg, f1 _ _ _ _ g hg, f1 _ _ _ _ g hg, f1 _ _ _ _ g hg, f1 _ _ _ _ g hg, f1 _ _ _ _ g hg, f1 _ _ _ _ g hg]
  have f3' : ∀ a (V : gSt), (cl3 a V).2 = V.2 := fun a V => by
    unfold cl3 cl2
    rw [f1', f1', f1', f1', f1', f1', f1', f1', f1']
  have c4 : ∀ g, g ≠ 76 → (clS (fwL it w 0 (fnA it S))).1 g = (fnA it S).1 g := fun g hg => by
    unfold clS
    rw [f3 _ _ g hg, f3 _ _ g hg, f3 _ _ g hg, fl _ _ _ g hg]
  have c42 : (clS (fwL it w 0 (fnA it S))).2 = (fnA it S).2 := by
    unfold clS
    rw [f3', f3', f3', fl2]
  have zo : ∀ (V : gSt) g, ¬ (g = 77 ∨ g = 81 ∨ g = 82 ∨ g = 83 ∨ g = 84 ∨ g = 86 ∨ g = 87) → (zrS V).1 g = V.1 g := fun V g hg => by
    unfold zrS
    rw [sI_ne (by omega), sI_ne (by omega), sI_ne (by omega), sI_ne (by omega), sI_ne (by omega), sI_ne (by omega), sI_ne (by omega)]
  have aO : ∀ g, g ≠ 75 → g ≠ 76 → (fnA it S).1 g = (fn0 it S).1 g := fun g a b => by unfold fnA; rw [sI_ne b, sI_ne a]
  have s15 : ((sI S 64 0 (nI it)).1 15 it).toNatClampNeg = e := by rw [sI_ne (by omega), h15]; exact nc (by omega)
  have e71 : (fnB it w S).1 71 0 = nI e := by
    unfold fnB
    rw [zo _ 71 (by omega), c4 71 (by omega), aO 71 (by omega) (by omega)]
    unfold fn0 sgS
    rw [s15, sgL_n e 0 _ (by rw [sI_v]; rfl), Nat.zero_add]
  refine ⟨e71, by unfold rn; rw [e71]; exact nc (by omega), fun k hk => ⟨?_, ?_⟩, ?_, ?_, ?_, ?_, ?_, ?_, ?_⟩
  · show (clS (fwL it w 0 (fnA it S))).2 72 k = _
    rw [c42]
    show (fn0 it S).2 72 k = _
    unfold fn0 sgS
    rw [s15, sgL_72 e 0 _ (fun q hq => absurd hq (Nat.not_lt_zero _)) k (by omega)]
    rfl
  · unfold fnB
    rw [zo _ 73 (by omega), c4 73 (by omega), aO 73 (by omega) (by omega)]
    unfold fn0 sgS
    rw [s15]
    exact sgL_73 e 0 _ (fun q hq => absurd hq (Nat.not_lt_zero _)) k (by omega)
  all_goals unfold fnB zrS
  · rw [sI_ne (by omega), sI_ne (by omega), sI_ne (by omega), sI_ne (by omega), sI_ne (by omega), sI_ne (by omega), sI_v]
  · rw [sI_ne (by omega), sI_ne (by omega), sI_ne (by omega), sI_ne (by omega), sI_ne (by omega), sI_v]
  · rw [sI_ne (by omega), sI_ne (by omega), sI_ne (by omega), sI_ne (by omega), sI_v]
  · rw [sI_ne (by omega), sI_ne (by omega), sI_ne (by omega), sI_v]
  · rw [sI_ne (by omega), sI_ne (by omega), sI_v]
  · rw [sI_ne (by omega), sI_v]
  · rw [sI_v]
/-- REGIONS in sight -/
theorem rw_fn (he : e ≤ 3) (h15 : S.1 15 it = nI e) (hn : ∀ k, k < e → S.2 16 (3 * it + k) = xN X (i + (k + 1)) ∧ ¬ xN X (i + (k + 1)) = 0) (hu : ∀ a, a < e → ¬ S.2 16 (3 * it + a) = 72 ∧ ∀ p, p < a → ¬ S.2 16 (3 * it + p) = S.2 16 (3 * it + a)) (h72 : T.1 72 0 = 4) (h75 : T.1 75 0 = 0) (h73 : ∀ j, 1 ≤ j → j ≤ 3 → T.2 73 j = ehN X e i j) : RwR e (fnB it w S) T := by
  obtain ⟨v1, v2, v3, _, _, _, _, v8, v9, _⟩ := fnB_v (w := w) he h15
  have nT : ∀ k, k < e → T.2 73 (k + 1) = S.2 16 (3 * it + k) := fun k hk => by
    rw [h73 (k + 1) (by omega) (by omega)]
    unfold ehN
    rw [if_pos (by omega), (hn k hk).1]
  have inE : ∀ a, rIn e 0 a → 1 ≤ a ∧ a ≤ e := fun a ha => by rcases ha with q | q <;> omega
  refine ⟨0, 0, 0, fun _ => 0, fun _ => 0, ⟨he, by omega, by omega, by rw [v1]; rfl, by rw [h72]; rfl, fun k hk => ⟨by rw [(v3 k hk).1, nT k hk], (v3 k hk).2⟩, fun k k1 k2 => ?_, fun j hj => absurd hj (Nat.not_lt_zero _), fun i j _ hj => absurd hj (Nat.not_lt_zero _), fun a b ha hb hab => ?_, fun a ha => ?_, by rw [v9]; rfl, by omega⟩, ⟨by rw [v8]; rfl, by omega, fun j hj => absurd hj (Nat.not_lt_zero _), fun i j _ hj => absurd hj (Nat.not_lt_zero _), fun q hq => absurd hq (Nat.not_lt_zero _), by rw [h75]; rfl, fun j hj => absurd hj (Nat.not_lt_zero _)⟩⟩
  · rw [h73 (k + 1) (by omega) (by omega)]
    unfold ehN
    rw [if_neg (by omega)]
  · have a1 := inE a ha
    have b1 := inE b hb
    obtain ⟨a, rfl⟩ : ∃ g, a = g + 1 := ⟨a - 1, by omega⟩
    obtain ⟨b, rfl⟩ : ∃ g, b = g + 1 := ⟨b - 1, by omega⟩
    rw [nT a (by omega), nT b (by omega)] at hab
    rcases Nat.lt_trichotomy a b with q | q | q
    · exact absurd hab ((hu b (by omega)).2 a q)
    · omega
    · exact absurd hab.symm ((hu a (by omega)).2 b q)
  · have a1 := inE a ha
    obtain ⟨a, rfl⟩ : ∃ g, a = g + 1 := ⟨a - 1, by omega⟩
    rw [nT a (by omega)]
    exact ⟨(hu a (by omega)).1, by rw [(hn a (by omega)).1]; exact (hn a (by omega)).2⟩
/-- what is known -/
theorem fw_fn (he : e ≤ 3) (h15 : S.1 15 it = nI e) (h30 : fi (S.1 30 it) 0 = false) (hf : flw T = livW (S.1 30 it) e 1 4504699138998272) : FwR e (fnB it w S) T ((fnB it w S).1 81 0) ((fnB it w S).1 82 0) ((fnB it w S).1 75 0) ((fnB it w S).1 83 0) (flw T) := by
  obtain ⟨v1, v2, v3, v4, v5, v6, v7, v8, v9, _⟩ := fnB_v (w := w) he h15
  have evn : vn (fnB it w S) = 0 := by unfold vn; rw [v4]; rfl
  have rg : ∀ c m, RgE e (fnB it w S) c m ↔ c = m ∧ c ≤ 3 := fun c m => by
    unfold RgE
    rw [v2]
    constructor
    · rintro (q | ⟨j, q, _⟩)
      · exact q
      · omega
    · exact Or.inl
  have f52 : fb (flw T) 52 = true := by rw [hf, fb_ef he (by omega), if_neg (by omega)]; decide
  refine ⟨fun c hc hq => ?_, fun k hk hq => ?_, fun c k hr => ?_, ?_, fun u s hu _ _ => by omega⟩
  · rw [fi_beg he h15 hc] at hq
    refine ⟨c, (rg c c).mpr ⟨rfl, ?_⟩⟩
    by_cases q : c ≤ e
    · omega
    · rw [decide_eq_false q] at hq
      cases hq
  · refine ⟨k, (rg k k).mpr ⟨rfl, ?_⟩⟩
    rw [hf, fb_ef he (by omega)] at hq
    by_cases q : 41 ≤ 40 + k ∧ 40 + k ≤ 40 + e
    · omega
    · rw [if_neg q] at hq
      have := of_decide_eq_true hq
      omega
  · obtain ⟨e1, e2⟩ := (rg c k).mp hr
    subst e1
    rw [fi_beg he h15 (by omega), hf, fb_ef he (by omega), show 40 + c - 40 = c by omega]
    by_cases q : 41 ≤ 40 + c ∧ 40 + c ≤ 40 + e
    · rw [if_pos q, decide_eq_true (show c ≤ e by omega), Bool.true_and]
    · rw [if_neg q]
      by_cases c0 : c = 0
      · subst c0
        rw [h30, decide_eq_true (show 0 ≤ e by omega), decide_eq_true (show 40 + 0 = 40 ∨ 40 + 0 = 52 from Or.inl rfl)]
        rfl
      · rw [decide_eq_false (show ¬ c ≤ e by omega), decide_eq_false (show ¬ (40 + c = 40 ∨ 40 + c = 52) by omega), Bool.false_and]
  · rw [v7, f52]
    exact ⟨⟨fun w => absurd w (by decide), fun w => by cases w⟩, fun w => absurd w (by decide)⟩
end FBH
