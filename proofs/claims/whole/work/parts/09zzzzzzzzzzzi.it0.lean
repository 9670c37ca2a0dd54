/-! items: words and places on both sides -/
section IT0
variable {Sf S T T0 : gSt} {X : Lx} {R : RgR} {t c m f y p k : Nat} {x w : Int32} {ρ : Nat → Nat} {cc : Int32}
theorem wd_ty {g : Nat} (h : TyR R S T g x y) : wdC T y = if x = -1 then 0 else wS S x := by
  have ro := h.ro
  unfold wdC wS
  rcases h.rd with ⟨e1, e2, e3⟩ | ⟨e1, e2, e3⟩ | ⟨e1, e2, e3⟩ | ⟨p, kd, r, n, b, g', _, e1, e2, e3, e4, _, e5, e6, e7, e8, e9, _, _, _, _, e10, _⟩
  · rw [if_neg (by omega), if_neg (by omega), e1, if_neg (by decide), if_pos (by rw [e1] at ro; exact ro.mpr (by omega))]
  · rw [if_pos e2, if_pos e1]
  · rw [if_neg (by omega), if_neg (by omega), e1, if_neg (by decide), if_pos (by rw [e1] at ro; exact ro.mpr (by omega))]
  · rw [if_neg (by omega), if_neg (show ¬ x = -1 from fun w => by rw [e1] at w; exact nI_neg1 (by omega) w.symm)]
    by_cases c : kdC T y = 5
    · rw [if_pos c, if_neg (fun w => ro.mp w c)]
    · rw [if_neg c, if_pos (ro.mpr c)]
theorem wd_w (h : wdR R S T x cc) : cc = nI (if x = -1 then 0 else wS S x) := by
  obtain ⟨g, y, h1, h2⟩ := h
  rw [h2, wd_ty h1]
theorem tV_n1 (h : tV S x) (hc : cn S ≤ 6000) : ¬ x = -1 := by
  rcases h.row with e | ⟨p, hp⟩
  · rw [e]; decide
  · exact hp.n1 hc
theorem plW_1 : ∀ (m k : Nat), plW T t (m + 1) k = plW T t m k + wdC T (T.1 44 (8 * t + (k + m))).toNatClampNeg := by
  intro m
  induction m with
  | zero => intro k; rw [plW, plW, plW, Nat.add_zero k]; omega
  | succ m ih =>
    intro k
    rw [plW, ih (k + 1), plW, show k + 1 + m = k + (m + 1) by omega]
    omega
theorem mxW_1 : ∀ (m k w : Nat), mxW T t (m + 1) k w = max (mxW T t m k w) (wdC T (T.1 44 (8 * t + (k + m))).toNatClampNeg) := by
  intro m
  induction m with
  | zero => intro k w; rw [mxW, mxW, mxW]; rfl
  | succ m ih =>
    intro k w
    rw [mxW, ih (k + 1), mxW, show k + 1 + m = k + (m + 1) by omega]
theorem wS_fld (hc : cn Sf ≤ 6000) (hv : tV Sf x) {g : Nat} (h : TyR R0 Sf T g x y) : wdC T y = wS Sf x := by
  rw [wd_ty h, if_neg (tV_n1 hv hc)]
/-- an item, from what both checks leave -/
theorem it_q (hc : cn Sf ≤ 6000) (hi : itOk Sf t) (h : AiO X Sf T t) (hq : ∀ c m, Sf.1 18 t = nI c → Sf.1 19 t = nI m → c + m ≤ 220 → ∀ f, f < m → TyOf Sf (fun c => c ≤ eN Sf t) (Sf.1 24 (c + f))) (hq2 : 0 ≤ Sf.1 25 t → Sf.1 12 t = 2 → TyOf Sf (fun c => c ≤ eN Sf t) (Sf.1 26 t)) (h1 : Sf.1 12 t < 2 → ∃ m, Sf.1 19 t = nI m ∧ 1 ≤ m ∧ m < 100) : ∃ c m, ItQ Sf T t c m := by
  obtain ⟨c', x, a1, a2, a3, a4, a5, a6, a7, a8, a9, a10, a11⟩ := h
  obtain ⟨c, m, r, w, b1, b2, b3, b4, b5, b6, b7, b8, b9, b10, b11⟩ := hi
  obtain ⟨i, e, l, rt, dt, n, wt, w', body⟩ := x
  have ec : c' = c := nI_inj (by omega) (by omega) (by rw [← a6, b1])
  have l8 : l.length ≤ 8 := a1.2.2.2.2.2.1
  have em : l.length = m := nI_inj (by omega) (by omega) (by rw [← b2]; exact a8.symm)
  subst ec
  obtain ⟨h1', h2', h3', h4'⟩ := a3
  change (∀ q, q < l.length → _) at h1'
  rw [em] at h1'
  have key : ∀ f, f ≤ m → plW T t f 0 = ofs Sf c' f ∧ mxW T t f 0 0 = mxs Sf c' f := by
    intro f
    induction f with
    | zero => intro _; exact ⟨rfl, rfl⟩
    | succ f ih =>
      intro hf
      obtain ⟨i1, i2⟩ := ih (by omega)
      obtain ⟨y, y1, y2, y3, y4⟩ := h1' f (by omega)
      have := wS_fld hc (b9 f (by omega)).1 y3
      rw [plW_1, mxW_1, Nat.zero_add, y1, nc (by omega), this, i1, i2]
      exact ⟨rfl, rfl⟩
  change Sf.1 12 t = (if xK X i = 10 then 0 else if xK X i = 11 then 1 else 2) at a4
  change xK X i = 10 ∨ xK X i = 11 ∨ xK X i = 12 at a5
  have k12 : (Sf.1 12 t = 0 ↔ xK X i = 10) ∧ (Sf.1 12 t = 1 ↔ xK X i = 11) ∧ (Sf.1 12 t = 2 ↔ xK X i = 12) := by
    rw [a4]
    rcases a5 with k | k | k
    · rw [if_pos k, k]; decide
    · rw [if_neg (by omega), if_pos k, k]; decide
    · rw [if_neg (by omega), if_neg (by omega), k]; decide
  refine ⟨c', m, b1, b2, b3, b4, ?_, fun z f hf => ?_, ?_, fun f hf => ⟨(b9 f hf).1, ?_⟩, fun z1 z2 => ⟨(b10 z1).1, ?_⟩, fun z => ?_, by unfold eN; rw [b5, nc (by omega)]; exact b6⟩
  · rcases a5 with k | k | k
    · exact Or.inl (k12.1.mpr k)
    · exact Or.inr (Or.inl (k12.2.1.mpr k))
    · exact Or.inr (Or.inr (k12.2.2.mpr k))
  · obtain ⟨y, y1, y2, y3, y4⟩ := h1' f hf
    rw [y4, if_neg (by have := k12.1.mp z; omega), (key f (by omega)).1]
  · change T.1 41 t = (if xK X i = 11 then 1 + nI (mxW T t l.length 0 0) else nI (plW T t l.length 0)) at h2'
    rw [em, (key m (Nat.le_refl _)).1, (key m (Nat.le_refl _)).2] at h2'
    rw [h2']
    by_cases c : xK X i = 11
    · rw [if_pos c, if_pos (k12.2.1.mpr c)]
      exact (Int32.ofNat_add 1 _).symm
    · rw [if_neg c, if_neg (fun w => c (k12.2.1.mp w))]
  · exact hq c' m b1 b2 b4 f hf
  · exact hq2 z1 z2
  · obtain ⟨m', z1, z2, z3⟩ := h1 z
    have : m = m' := nI_inj (by omega) (by omega) (by rw [← b2, z1])
    omega
end IT0
