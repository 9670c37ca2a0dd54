/-! both machines: CELL, struct, union: what is wanted -/
/-- the class's words of a part are the spec's -/
def FwQ (Sf T0 : gSt) : Prop := ∀ t f c, t < inn Sf → fldP Sf t f c → ∃ y, T0.1 44 (8 * t + f) = nI y ∧ y < 16387 ∧ wdC T0 y = wS Sf (Sf.1 24 (c + f))
section XE7
variable {M0 T0 Sf S Sh : gSt} {G G' : GH} {D D' : Nat → (Nat → AV) × Nat} {nf d d' nb nb' mk mk' na na' ng ng' e bs ph bt rb tb ie en hb k q u s i j c t h P W Dp n m it n1 r o b f : Nat} {rg rg' : Nat → Nat} {ρ ρ' : Nat → Nat} {va : Nat → AV} {M M' Mo T T' T2 : gSt} {v : AV} {x a cc ee op y z w x1 : Int32} {st s0 st' : List Int32} {ov o0 ov' : List AV} {hs : List HD} {F : FRM} {Fr : Nat → FRM} {jj : T5} {l : List Nat} {O : GO} {X : Lx}
theorem fw_q (hc : cn Sf ≤ 6000) (hi : itOk Sf t) (h : AiO X Sf T0 t) (hf : fldP Sf t f c) : ∃ y, T0.1 44 (8 * t + f) = nI y ∧ y < 16387 ∧ wdC T0 y = wS Sf (Sf.1 24 (c + f)) := by
  obtain ⟨c', x, a1, a2, a3, a4, a5, a6, a7, a8, a9, a10, a11⟩ := h
  obtain ⟨c2, m, r, w, b1, b2, b3, b4, b5, b6, b7, b8, b9, b10, b11⟩ := hi
  obtain ⟨i, e, l, rt, dt, n, wt, w', body⟩ := x
  obtain ⟨m2, f1, f2, f3, f4, f5⟩ := hf
  have ec : c' = c2 := nI_inj (by omega) (by omega) (by rw [← a6, b1])
  have ec2 : c = c2 := nI_inj (by omega) (by omega) (by rw [← f1, b1])
  have l8 : l.length ≤ 8 := a1.2.2.2.2.2.1
  have em : l.length = m := nI_inj (by omega) (by omega) (by rw [← b2]; exact a8.symm)
  have em2 : m2 = m := nI_inj (by omega) (by omega) (by rw [← f2, b2])
  subst ec ec2 em2
  obtain ⟨h1', _⟩ := a3
  obtain ⟨y, y1, y2, y3, y4⟩ := h1' f (by show f < l.length; omega)
  exact ⟨y, y1, y2, wS_fld hc (b9 f (by omega)).1 y3⟩
theorem wS_m (h66 : M.1 66 = Sf.1 66) : wS M x = wS Sf x := by
  unfold wS isRo
  rw [h66]
theorem ofs_m (h24 : M.1 24 = Sf.1 24) (h66 : M.1 66 = Sf.1 66) : ∀ f, ofs M c f = ofs Sf c f ∧ mxs M c f = mxs Sf c f := by
  intro f
  induction f with
  | zero => exact ⟨rfl, rfl⟩
  | succ f ih =>
    rw [ofs, ofs, mxs, mxs, ih.1, ih.2, h24, wS_m h66]
    exact ⟨rfl, rfl⟩
theorem ofs_b : ∀ f, f ≤ ofs Sf c f ∧ ofs Sf c f ≤ 3 * f := by
  intro f
  induction f with
  | zero => exact ⟨Nat.le_refl _, Nat.le_refl _⟩
  | succ f ih =>
    have := wS_1 (S := Sf) (x := Sf.1 24 (c + f))
    have := wS_3 (S := Sf) (x := Sf.1 24 (c + f))
    rw [ofs]
    omega
theorem ofs_mo : ∀ d f, ofs Sf c f ≤ ofs Sf c (f + d) := by
  intro d
  induction d with
  | zero => intro f; exact Nat.le_refl _
  | succ d ih => intro f; have := ih f; rw [show f + (d + 1) = f + d + 1 by omega, ofs]; omega
theorem mxs_b : ∀ f, mxs Sf c f ≤ 3 ∧ ∀ i, i < f → wS Sf (Sf.1 24 (c + i)) ≤ mxs Sf c f := by
  intro f
  induction f with
  | zero => exact ⟨Nat.zero_le _, fun i hi => absurd hi (by omega)⟩
  | succ f ih =>
    have := wS_3 (S := Sf) (x := Sf.1 24 (c + f))
    rw [mxs]
    refine ⟨by omega, fun i hi => ?_⟩
    by_cases e : i = f
    · subst e; omega
    · have := ih.2 i (by omega); omega
theorem chρ_z : chρ ρ w 0 = ρ 0 := by
  unfold chρ chP
  rfl
theorem id_ch (hx : TyOf Sf (fun c => c ≤ eN Sf t) x) (h3 : eN Sf t ≤ 3) (h0 : ρ 0 = 0) : gty Sf (idρ (fun k => ρ (ptOf w (nI k)).toNatClampNeg)) x = gty Sf (chρ ρ w) x := hx _ _ (fun c hc => by
  cases c with
  | zero => rw [chρ_0 h0]; rfl
  | succ k => rw [chρ_s (by omega)]; rfl)
theorem ft_in (hx : TyOf Sf (fun c => c ≤ eN Sf t) x) (h3 : eN Sf t ≤ 3) (hsg : sgW S w (eN Sf t)) (hy : ∀ ρ, gty Sf ρ y = gty Sf (chρ ρ w) x) : TyIn Sf S y := fun ρ ρ' hρ => by
  rw [hy, hy]
  refine hx _ _ (fun c hc => ?_)
  cases c with
  | zero => rw [chρ_z, chρ_z]; exact hρ 0 (Or.inl rfl)
  | succ k =>
    rw [chρ_s (by omega), chρ_s (by omega)]
    obtain ⟨c', e1, e2⟩ := hsg k (by omega)
    rw [e1]
    have c12 : c' < 12 := by
      rcases e2 with z | z
      · omega
      · exact z.1
    rw [nc (by omega)]
    exact hρ c' e2
/-- values of the stack, from the first one on -/
theorem OpV.seg : ∀ (a s0 : List Int32) (ov : List AV), OpV Sf G nb rg na ng ρ M T ph bt (a ++ s0) ov → ∃ vs : Nat → AV, ∀ p, p < a.length → VTs Sf G nb rg na ng ρ (vs p) (a.getD (a.length - 1 - p) 0) ∧ RV G (vs p) (M.1 110 (ph + s0.length + p)) (M.1 111 (ph + s0.length + p)) (M.1 112 (ph + s0.length + p)) (M.1 113 (ph + s0.length + p)) ∧ ∀ w, w < wv (vs p) → T.1 99 (bt + wsl Sf s0 + wsl Sf (a.drop (a.length - p)) + w) = CW G (vs p) w := by
  intro a
  induction a with
  | nil => intro s0 ov _; exact ⟨fun _ => (0, 0, 0), fun p hp => absurd hp (Nat.not_lt_zero _)⟩
  | cons x a ih =>
    intro s0 ov h
    rw [List.cons_append] at h
    cases ov with
    | nil => exact absurd h (fun w => w)
    | cons v ov =>
      obtain ⟨vs, hv⟩ := ih s0 ov h.2.2.2
      refine ⟨fun p => if p = a.length then v else vs p, fun p hp => ?_⟩
      rw [List.length_cons] at hp
      by_cases e : p = a.length
      · subst e
        rw [show (fun p => if p = a.length then v else vs p) a.length = v from if_pos rfl, List.length_cons, show a.length + 1 - 1 - a.length = 0 by omega, show a.length + 1 - a.length = 1 by omega]
        refine ⟨h.1, ?_, fun w hw => ?_⟩
        · have := h.2.1
          rw [List.length_append, show ph + (a.length + s0.length) = ph + s0.length + a.length by omega] at this
          exact this
        · have := h.2.2.1 w hw
          rw [wsl_ap, show bt + (wsl Sf a + wsl Sf s0) + w = bt + wsl Sf s0 + wsl Sf a + w by omega] at this
          exact this
      · rw [show (fun p => if p = a.length then v else vs p) p = vs p from if_neg e, List.length_cons]
        obtain ⟨i1, i2, i3⟩ := hv p (by omega)
        refine ⟨?_, i2, ?_⟩
        · rw [show a.length + 1 - 1 - p = (a.length - 1 - p) + 1 by omega]
          exact i1
        · rw [show a.length + 1 - p = (a.length - p) + 1 by omega]
          exact i3
/-- .. where they begin -/
theorem seg_o (a : List Int32) (hw : ∀ p, p < a.length → wS Sf (a.getD (a.length - 1 - p) 0) = wS Sf (Sf.1 24 (c + p))) : ∀ p, p ≤ a.length → wsl Sf (a.drop (a.length - p)) = ofs Sf c p := by
  intro p
  induction p with
  | zero =>
    intro _
    rw [Nat.sub_zero, List.drop_length]
    rfl
  | succ p ih =>
    intro hp
    have e : a.drop (a.length - (p + 1)) = a.getD (a.length - 1 - p) 0 :: a.drop (a.length - p) := by
      rw [show a.length - p = a.length - (p + 1) + 1 by omega, List.drop_eq_getElem_cons (by omega : a.length - (p + 1) < a.length), List.getD_eq_getElem?_getD, show a.length - 1 - p = a.length - (p + 1) by omega, List.getElem?_eq_getElem (by omega), Option.getD_some]
    rw [e, show wsl Sf (a.getD (a.length - 1 - p) 0 :: a.drop (a.length - p)) = wS Sf (a.getD (a.length - 1 - p) 0) + wsl Sf (a.drop (a.length - p)) from rfl, ih (by omega), hw p (by omega), ofs]
    omega
theorem rev_gd (ts : List Int32) (hp : i < ts.length) : ts.reverse.getD (ts.reverse.length - 1 - i) 0 = ts.getD i 0 := by
  rw [List.getD_eq_getElem?_getD, List.getD_eq_getElem?_getD, List.length_reverse, List.getElem?_reverse (by omega), show ts.length - 1 - (ts.length - 1 - i) = i by omega]
end XE7
