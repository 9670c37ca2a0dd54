/-! EXPRS on both sides: what goes together goes on -/
section CXM
variable {R : RgR} {S S' S1 T T' T1 : gSt} {X : Lx} {nf d i k n m t e w c a b q g f : Nat} {x y z v : Int32} {sl : Int32 → Int32} {j : T5} {ks l2 : List T5}
theorem TyR.kd {y : Nat} (h : TyR R S T f x y) (hF : TyF S S' T T') : kdC T' y = kdC T y := by
  unfold kdC
  by_cases c3 : y < 3
  · rw [if_pos c3, if_pos c3]
  · rw [if_neg c3, if_neg c3]
    cases f with
    | zero => exact absurd (gdR_l h) c3
    | succ f =>
      rcases h with h | ⟨p, kd, r, n, b, h1, h2, h3, h4, hc, h5, h6, h7, _⟩
      · exact absurd (gdR_l h) c3
      · have := (hF.lv (q := y - 3) (by omega) h7).2
        rw [show y - 3 + 3 = y by omega] at this
        rw [this]
theorem wdR.mo (h : wdR R S T x y) (hF : TyF S S' T T') : wdR R S' T' x y := by
  obtain ⟨f, u, h1, h2⟩ := h
  exact ⟨f, u, TyR.mo hF (fun _ _ z => z) _ _ _ h1, by rw [h1.wd hF]; exact h2⟩
/-- a pointer's row is one that is kept -/
theorem TyR.row {y : Nat} (h : TyR R S T f x y) (h0 : 0 < x) : ∃ p, x = nI p ∧ 1 ≤ p ∧ p < cn S ∧ p < 6000 := by
  have no : ∀ u, gdR x u → False := fun u hu => by
    rcases hu with ⟨e, _⟩ | ⟨e, _⟩ | ⟨e, _⟩ <;> rw [e] at h0 <;> exact absurd h0 (by decide)
  cases f with
  | zero => exact (no _ h).elim
  | succ f =>
    rcases h with h | ⟨p, kd, r, n, b, h1, h2, h3, h4, _⟩
    · exact (no _ h).elim
    · exact ⟨p, h1, h2, h3, h4⟩
theorem itR.mo (h : itR R S T x t) (hF : TyF S S' T T') : itR R S' T' x t := by
  obtain ⟨f, u, h1, h2, h3, h4⟩ := h
  obtain ⟨p, p1, p2, p3, p4⟩ := h1.row h2
  refine ⟨f, u, TyR.mo hF (fun _ _ z => z) _ _ _ h1, h2, ?_, h4⟩
  rw [p1, nc (by omega)] at h3 ⊢
  rw [hF.2.1 p 69 p2 p3 (by omega) (by omega)]
  exact h3
theorem KrO.mo (h : KrO R sl S T j n) (hF : TyF S S' T T') (h12 : S'.1 12 = S.1 12) (h4 : ∀ k, (41 ≤ k ∧ k ≠ 42) → k ≤ 45 → T'.1 k = T.1 k) (hr : cw3 T' n = cw3 T n) : KrO R sl S' T' j n := by
  have e41 := h4 41 (by omega) (by omega)
  have e44 := h4 44 (by omega) (by omega)
  have e45 := h4 45 (by omega) (by omega)
  unfold KrO at h ⊢
  rw [hr]
  simp only [h12, e41, e44, e45]
  by_cases c0 : j.1 = 1
  · rw [if_pos c0] at h ⊢
    exact h
  rw [if_neg c0] at h ⊢
  by_cases c1 : j.1 = 2
  · rw [if_pos c1] at h ⊢
    exact h
  rw [if_neg c1] at h ⊢
  by_cases c2 : j.1 = 3
  · rw [if_pos c2] at h ⊢
    exact h
  rw [if_neg c2] at h ⊢
  by_cases c3 : j.1 = 4
  · rw [if_pos c3] at h ⊢
    exact h
  rw [if_neg c3] at h ⊢
  by_cases c4 : j.1 = 5
  · rw [if_pos c4] at h ⊢
    obtain ⟨c, h1, h2⟩ := h; exact ⟨c, h1.mo hF, h2⟩
  rw [if_neg c4] at h ⊢
  by_cases c5 : j.1 = 6
  · rw [if_pos c5] at h ⊢
    obtain ⟨t, c, h0, h1, h2⟩ := h; exact ⟨t, c, h0.mo hF, h1.mo hF, h2⟩
  rw [if_neg c5] at h ⊢
  by_cases c6 : j.1 = 7
  · rw [if_pos c6] at h ⊢
    obtain ⟨t, c, h0, h1, h2⟩ := h; exact ⟨t, c, h0.mo hF, h1.mo hF, h2⟩
  rw [if_neg c6] at h ⊢
  by_cases c7 : j.1 = 8
  · rw [if_pos c7] at h ⊢
    obtain ⟨c, h1, h2⟩ := h; exact ⟨c, h1.mo hF, h2⟩
  rw [if_neg c7] at h ⊢
  by_cases c8 : j.1 = 9
  · rw [if_pos c8] at h ⊢
    obtain ⟨c, h1, h2⟩ := h; exact ⟨c, h1.mo hF, h2⟩
  rw [if_neg c8] at h ⊢
  by_cases c9 : j.1 = 10
  · rw [if_pos c9] at h ⊢
    obtain ⟨c, h1, h2⟩ := h; exact ⟨c, h1.mo hF, h2⟩
  rw [if_neg c9] at h ⊢
  by_cases c10 : j.1 = 11
  · rw [if_pos c10] at h ⊢
    exact h
  rw [if_neg c10] at h ⊢
  by_cases c11 : j.1 = 12
  · rw [if_pos c11] at h ⊢
    exact h
  rw [if_neg c11] at h ⊢
  by_cases c12 : j.1 = 13
  · rw [if_pos c12] at h ⊢
    exact h
  rw [if_neg c12] at h ⊢
  by_cases c13 : j.1 = 14 ∨ j.1 = 15
  · rw [if_pos c13] at h ⊢
    obtain ⟨b, c, h0, h1, h2⟩ := h; exact ⟨b, c, h0, h1.mo hF, h2⟩
  rw [if_neg c13] at h ⊢
  by_cases c14 : j.1 = 16
  · rw [if_pos c14] at h ⊢
    obtain ⟨b, t, h0, h1, h2⟩ := h; exact ⟨b, t, h0, h1.mo hF, h2⟩
  rw [if_neg c14] at h ⊢
  by_cases c15 : j.1 = 17
  · rw [if_pos c15] at h ⊢
    obtain ⟨b, t, y, h0, h1, h2, h3, ⟨f, x, h5⟩, h6⟩ := h; exact ⟨b, t, y, h0, h1.mo hF, h2, h3, ⟨f, x, TyR.mo hF (fun _ _ z => z) _ _ _ h5⟩, by rw [h5.wd hF]; exact h6⟩
  rw [if_neg c15] at h ⊢
  by_cases c16 : j.1 = 18
  · rw [if_pos c16] at h ⊢
    exact h
  rw [if_neg c16] at h ⊢
  obtain ⟨h1, f, y, h2, h3⟩ := h
  exact ⟨h1, f, y, TyR.mo hF (fun _ _ z => z) _ _ _ h2, by rw [h2.kd hF]; exact h3⟩
theorem KrL.mo (hF : TyF S S' T T') (h12 : S'.1 12 = S.1 12) (h4 : ∀ k, (41 ≤ k ∧ k ≠ 42) → k ≤ 45 → T'.1 k = T.1 k) : ∀ (ks : List T5) (n : Nat), (∀ g q, 48 ≤ g → g ≤ 50 → q < n + ks.length → T'.1 g q = T.1 g q) → KrL R sl S T ks n → KrL R sl S' T' ks n := by
  intro ks
  induction ks with
  | nil => intro n _ _; trivial
  | cons j ks ih =>
    intro n hr h
    rw [List.length_cons] at hr
    refine ⟨h.1.mo hF h12 h4 ?_, ih (n + 1) (fun g q a b c => hr g q a b (by omega)) h.2⟩
    unfold cw3
    rw [hr 48 n (by omega) (by omega) (by omega), hr 49 n (by omega) (by omega) (by omega), hr 50 n (by omega) (by omega) (by omega)]
theorem KrL.ap : ∀ (ks l2 : List T5) (n : Nat), KrL R sl S T ks n → KrL R sl S T l2 (n + ks.length) → KrL R sl S T (ks ++ l2) n := by
  intro ks
  induction ks with
  | nil => intro l2 n _ h; exact h
  | cons j ks ih =>
    intro l2 n h h2
    refine ⟨h.1, ih l2 (n + 1) h.2 ?_⟩
    rw [List.length_cons] at h2
    rw [show n + 1 + ks.length = n + (ks.length + 1) by omega]
    exact h2
/-- code that stands stays, as FX tells -/
theorem KrL.fx (h : KrL R sl S T ks n) (hF : TyF S S' T T') (fe : FE S S') (fx : FX T T') (h51 : T.1 51 0 = nI (n + ks.length)) (hn : n + ks.length ≤ 6032) : KrL R sl S' T' ks n := by
  obtain ⟨c', _, _, _, h4⟩ := fx.2.2.2.2.2.1 _ h51 hn
  exact KrL.mo hF (fe.1 12 (by omega)) (fun k a b => fx.o (by omega)) ks n h4 h
theorem FX.fw (fx : FX T T') : flw T' = flw T := fx.2.1 77 0 (by omega)
theorem LvR.fx (h : LvR R S T) (fe : FE S S') (fx : FX T T') : LvR R S' T' := fun c m hr => by
  have := h c m hr
  unfold isLv at this ⊢
  rw [fe.1 75 (by omega), fx.fw]
  exact this
theorem inC_eq (h : S'.1 74 = S.1 74) : ∀ (f : Nat) (c : Int32), inC S' x f c = inC S x f c := by
  intro f
  induction f with
  | zero => intro c; rfl
  | succ f ih => intro c; rw [inC, inC, ih, h]
theorem OvR.fx (h : OvR R S T) (fe : FE S S') (fx : FX T T') : OvR R S' T' := fun c m e n h1 h2 => by
  have := h c m e n h1 h2
  unfold dOv isLv ouC at this ⊢
  rw [fe.1 75 (by omega), fe.1 76 (by omega), inC_eq (fe.1 74 (by omega)), fe.1 74 (by omega), fx.fw, fx.o (k := 40) (by omega), fx.o (k := 67) (by omega)]
  exact this
theorem VaR.fx (h : VaR R sl S T) (hF : TyF S S' T T') (fe : FE S S') (fx : FX T T') : VaR R sl S' T' := by
  obtain ⟨n, h1, h2, h3, h4, h5⟩ := h
  refine ⟨n, by rw [fe.1 77 (by omega)]; exact h1, by rw [fx.o (by omega)]; exact h2, h3, fun v hv => ?_, by rw [fe.2.1]; exact h5⟩
  obtain ⟨b1, b2, b3, ⟨y, b4, b5, b6, b8⟩, b7⟩ := h4 v hv
  rw [fe.2.1, fe.1 79 (by omega), fe.1 80 (by omega), fe.1 81 (by omega), fe.1 82 (by omega), fx.2.1 69 v (by omega), fx.fw, fx.o (k := 70) (by omega), fx.o (k := 71) (by omega)]
  exact ⟨b1, b2, b3, ⟨y, b4, b5, TyR.mo hF (fun _ _ z => z) _ _ _ b6, fun w => b8 (by rw [b6.kd hF] at w; exact w)⟩, b7⟩
theorem HeT.fx {x : It} (h : HeT X T t x) (fx : FX T T') : HeT X T' t x := by
  obtain ⟨i, e, l, rt, dt, n, wt, w, bd⟩ := x
  obtain ⟨a1, a2, a3, a4, a5, a6, a7, a8, a9, a10⟩ := h
  exact ⟨by rw [fx.o (by omega)]; exact a1, by rw [fx.o (by omega)]; exact a2, by rw [fx.2.1 30 t (by omega)]; exact a3, by rw [fx.o (by omega)]; exact a4, by rw [fx.o (by omega)]; exact a5, a6, fun k hk => by rw [fx.o (by omega)]; exact a7 k hk, by rw [fx.o (by omega)]; exact a8, by rw [fx.o (by omega)]; exact a9, by rw [fx.o (by omega)]; exact a10⟩
theorem AiR.fx (h : AiR X S T) (hF : TyF S S' T T') (fe : FE S S') (fx : FX T T') : AiR X S' T' := fun t ht => by
  rw [fe.einn] at ht
  obtain ⟨c, x, b1, b2, b3, b4, b5, b6, b7, b8, b9, b10, b11⟩ := h t ht
  refine ⟨c, x, b1.fx fx, b2.st (by rw [fe.2.1]) (fun k j hk => by rw [fx.o (by omega)]), b3.st hF (fe.1 15 (by omega)) (by rw [fe.2.1]) (by rw [fe.2.1]) (fun q _ => by rw [fe.1 24 (by omega)]) (by rw [fe.1 26 (by omega)]) (by rw [fe.1 30 (by omega)]) b2.2.1 b10 (fun k j hk => by rw [fx.o (by omega)]), by rw [fe.1 12 (by omega)]; exact b4, b5, by rw [fe.1 18 (by omega)]; exact b6, b7, by rw [fe.1 19 (by omega)]; exact b8, by rw [fe.1 31 (by omega)]; exact b9, b10, by rw [fe.1 25 (by omega), fe.1 12 (by omega), fe.1 26 (by omega)]; exact b11⟩
theorem XR.fx (h : XR R sl X S T) (hF : TyF S S' T T') (fe : FE S S') (fx : FX T T') (h0 : S'.1 7 0 = 0) (h53 : T'.1 53 0 = 0) (ck : Ck S') (ct : CtR S' T') : XR R sl X S' T' := by
  obtain ⟨⟨a1, a2, a3, a4, a5, a6, a7⟩, b1, b2, b3, b4, b5, b6, b7, b8, b9, b10⟩ := h
  refine ⟨⟨a1.fx fx, a2.st (fe.1 71 (by omega)) (by rw [fe.2.1]) (fe.1 73 (by omega)) (by rw [fx.o (by omega)]) (fun j => fx.2.1 73 j (by omega)), a3.st (fe.1 11 (by omega)) (fe.1 12 (by omega)) (by rw [fe.2.1]) (fe.1 15 (by omega)) (fun k j hk => by rw [fx.o (by omega)]) (fun j => fx.2.1 30 j (by omega)), fe.tg a4, h0, h53, fx.2.2.1⟩, ck, b2, b3, b4, b5.fx fe fx, b6.fx fe fx, b7.fx hF fe fx, b8.fx hF fe fx, ?_, ct⟩
  rw [fe.1 87 (by omega), fx.o (k := 76) (by omega)]
  exact b9
end CXM
