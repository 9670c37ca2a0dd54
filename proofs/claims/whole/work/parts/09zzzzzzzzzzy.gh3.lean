/-! both heaps: a region begins -/
section GH3
variable {G G' : GH} {D D' : Nat → (Nat → AV) × Nat} {M M' T T' : gSt} {nb nb' mk na na' ng ng' P W b c i j p q r s t k n m tg : Nat} {rg rg' : Nat → Nat} {v : AV} {g : List Nat} {x y z w : Int32} {ch : Nat → List Nat} {fr : List Nat} {f : Nat → Nat}
theorem sm_0 : ∀ n, (∀ o, o < n → f o = 0) → sm f n = 0 := by
  intro n
  induction n with
  | zero => intro _; rfl
  | succ n ih => intro h; rw [sm, ih (fun o ho => h o (by omega)), h n (by omega)]
theorem cR_z : ∀ (n i : Nat), (∀ q, i ≤ q → q < i + n → ¬ (¬ M.1 138 q = 0 ∧ M.1 141 q = nI r)) → cR M r n i = 0 := by
  intro n
  induction n with
  | zero => intro i _; rfl
  | succ n ih =>
    intro i h
    rw [cR, if_neg (h i (by omega) (by omega)), ih (i + 1) (fun q h1 h2 => h q (by omega) (by omega))]
theorem HpI.opn (h : HpI G D nb mk rg na ng P W M T) (hna : na < 321) (hM : ∀ k, (129 < k ∧ k ≤ 149 ∧ ¬ (133 ≤ k ∧ k ≤ 136)) ∨ k = 105 → M'.1 k = M.1 k) (h129 : M'.1 129 0 = nI (na + 1)) (hz : ∀ k, 133 ≤ k → k ≤ 136 → M'.1 k na = 0 ∧ ∀ j, j ≠ na → M'.1 k j = M.1 k j) (hT : ∀ k, 114 ≤ k → k ≤ 121 → T'.1 k = T.1 k) (h122 : T'.1 122 0 = nI (na + 1)) (hzT : ∀ k, 123 ≤ k → k ≤ 127 → T'.1 k na = 0 ∧ ∀ j, j ≠ na → T'.1 k j = T.1 k j) (hr : ∀ i, i < na → rg' i = rg i) (hn : rg' na = ng) : HpI G D nb mk rg' (na + 1) (ng + 1) P W M' T' := by
  obtain ⟨⟨h1, h1b, h1c, h1d, h1e, h1f, h1g⟩, h2, ⟨h3, h3b, h3c, h3d, h3e, h3f⟩, ⟨ch, fr, h4, h5, h6⟩, h7, h8⟩ := h
  have e116 := hT 116 (by omega) (by omega)
  have en : ∀ j, pgN T' P j = pgN T P j := fun j => by unfold pgN; rw [e116]
  have eu : pgU T' P = pgU T P := by unfold pgU; rw [e116]
  have old : ∀ b i, 1 ≤ b → b ≤ nb → i < na + 1 → rg' i = gHm G b → i < na ∧ rg i = gHm G b := fun b i b1 b2 hi he => by
    by_cases e : i = na
    · have := h3f b b1 b2
      rw [e, hn] at he
      omega
    · rw [hr i (by omega)] at he
      exact ⟨by omega, he⟩
  have noS : ∀ q, q < 4096 → ¬ (¬ M.1 138 q = 0 ∧ M.1 141 q = nI na) := fun q hq w => by
    obtain ⟨_, _, _, _, r, e1, e2⟩ := h4.1 q hq w.1
    rw [w.2] at e1
    have := nI_inj (by omega) (by omega) e1
    omega
  have alo : ∀ s, s < ng → (al rg' (na + 1) s ↔ al rg na s) := fun s hs => by
    constructor
    · rintro ⟨i, hi, e⟩
      by_cases c : i = na
      · rw [c, hn] at e; omega
      · rw [hr i (by omega)] at e; exact ⟨i, by omega, e⟩
    · rintro ⟨i, hi, e⟩
      exact ⟨i, by omega, by rw [hr i hi]; exact e⟩
  have oto : ∀ r s, ot rg na ng r s → ot rg' (na + 1) (ng + 1) r s := fun r s w => w.op hr hn (by omega)
  refine ⟨⟨h129, h122, by omega, by omega, fun i j hij hj => ?_, fun i hi => ?_, by rw [hr 0 (by omega)]; exact h1g⟩, ?_, ⟨by rw [hM 137 (by omega)]; exact h3, h3b, h3c, by rw [hM 105 (by omega)]; exact h3d, by rw [hT 120 (by omega) (by omega)]; exact h3e, fun b b1 b2 => by have := h3f b b1 b2; omega⟩, ⟨ch, fr, h4.eq (fun k hk => hM k (by omega)) (by omega), fun j hj => ?_, fun b i b1 b2 hi he => ?_⟩, fun b i b1 b2 hi he => ?_, fun b c b1 b2 c1 c2 hbc hb hc => h8 b c b1 b2 c1 c2 hbc ((alo _ (h3f b b1 b2)).mp hb) ((alo _ (h3f c c1 c2)).mp hc)⟩
  · by_cases e : j = na
    · rw [e, hn, hr i (by omega)]
      exact h1f i (by omega)
    · rw [hr i (by omega), hr j (by omega)]
      exact h1e i j hij (by omega)
  · by_cases e : i = na
    · rw [e, hn]; omega
    · rw [hr i (by omega)]
      have := h1f i (by omega)
      omega
  · obtain ⟨p1, p2, p3, p4, p5, p6⟩ := h2
    refine ⟨by rw [hM 130 (by omega)]; exact p1, by rw [hM 131 (by omega)]; exact p2, p3.eq (hT 117 (by omega) (by omega)) (hT 118 (by omega) (by omega)), by rw [hT 119 (by omega) (by omega), eu]; exact p4, by rw [hM 132 (by omega), eu]; exact p5, fun p hp => ?_⟩
    rw [e116]
    rcases p6 p hp with w | ⟨j, w1, w2⟩
    · exact Or.inl w
    · exact Or.inr ⟨j, by omega, w2⟩
  · by_cases e : j = na
    · subst e
      refine ⟨0, 0, 0, 0, 0, (hz 133 (by omega) (by omega)).1, (hzT 123 (by omega) (by omega)).1, (hz 134 (by omega) (by omega)).1, (hz 135 (by omega) (by omega)).1, (hzT 124 (by omega) (by omega)).1, (hz 136 (by omega) (by omega)).1, (hzT 125 (by omega) (by omega)).1, Nat.zero_le _, ?_, Nat.zero_le _, ?_, ?_, (hzT 126 (by omega) (by omega)).1, by omega, ?_⟩
      · rw [en]
        refine sm_0 P (fun p hp => if_neg (fun w => ?_))
        rcases h2.2.2.2.2.2 p hp with q | ⟨i, q1, q2⟩
        · rw [q] at w
          exact absurd w (nI_neg1 (by omega))
        · rw [q2] at w
          have := nI_inj (by omega) (by omega) w
          omega
      · rw [cR_st (hM 138 (by omega)) (hM 141 (by omega)), cR_z 4096 0 (fun q _ q2 => noS q (by omega))]
        exact Nat.le_refl _
      · unfold usR
        rw [hM 138 (by omega), hM 141 (by omega), sm_0 4096 (fun q hq => if_neg (noS q hq))]
        exact Nat.le_refl _
      · rw [if_pos rfl]
        exact ⟨rfl, rfl, (hzT 127 (by omega) (by omega)).1⟩
    · have := h5 j (by omega)
      unfold RwJ usR at this ⊢
      rw [(hz 133 (by omega) (by omega)).2 j e, (hz 134 (by omega) (by omega)).2 j e, (hz 135 (by omega) (by omega)).2 j e, (hz 136 (by omega) (by omega)).2 j e, hM 138 (by omega), hM 141 (by omega), (hzT 123 (by omega) (by omega)).2 j e, (hzT 124 (by omega) (by omega)).2 j e, (hzT 125 (by omega) (by omega)).2 j e, (hzT 126 (by omega) (by omega)).2 j e, (hzT 127 (by omega) (by omega)).2 j e, en, e116, cR_st (hM 138 (by omega)) (hM 141 (by omega))]
      exact this
  · obtain ⟨o1, o2⟩ := old b i b1 b2 hi he
    have := h6 b i b1 b2 o1 o2
    unfold RhO at this ⊢
    rw [hM 138 (by omega), hM 141 (by omega), hM 142 (by omega), hM 144 (by omega), hM 145 (by omega), hM 146 (by omega), hM 147 (by omega), hM 148 (by omega)]
    exact this
  · obtain ⟨o1, o2⟩ := old b i b1 b2 hi he
    obtain ⟨q1, q2⟩ := h7 b i b1 b2 o1 o2
    refine ⟨?_, ?_⟩
    · unfold ChO at q1 ⊢
      rw [e116, hT 115 (by omega) (by omega), hT 114 (by omega) (by omega), (hzT 126 (by omega) (by omega)).2 i (by omega), (hzT 127 (by omega) (by omega)).2 i (by omega)]
      exact q1
    · obtain ⟨s1, s2, s3, s4, s5, s6⟩ := q2
      exact ⟨s1, s2, s3, s4, s5, fun p hp => (s6 p hp).mo (fun _ _ => rfl) (Nat.le_refl _) oto⟩
end GH3
