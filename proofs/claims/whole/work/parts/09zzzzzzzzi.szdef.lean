/-! STEPS on the class's side: what holds whatever there is; rows, types they may ask for -/
def WZ (X : Lx) (T : gSt) (v g dd : Nat) : Prop := WX X T ∧ (∃ u, T.1 68 0 = nI u ∧ u ≤ v) ∧ v ≤ 20 ∧ (∃ m, T.1 72 0 = nI (4 + m) ∧ m ≤ g) ∧ g ≤ 8 ∧ (∃ c, T.1 76 0 = nI c ∧ c + 1 ≤ dd) ∧ ∃ ti, T.1 67 0 = nI ti ∧ ti < itN T
/-- the scope behind STEPS -/
def FqZ (T T' : gSt) (v' : Nat) : Prop := T'.1 72 0 = T.1 72 0 ∧ T'.1 75 0 = T.1 75 0 ∧ T'.1 76 0 = T.1 76 0 ∧ ∃ u u', T.1 68 0 = nI u ∧ T'.1 68 0 = nI u' ∧ u ≤ u' ∧ u' ≤ v' ∧ u' ≤ 20 ∧ ∀ j, j < u' → ∃ y, T'.1 70 j = nI y ∧ tyY T' y
/-- how many rows, how many types STEPS may ask for -/
def kwS2 : Tr → Nat
  | .add (.add (.var k) (.add (.var _) (.var _))) (.add a b) => if k = 31 then kwS2 a else if k = 11 then kwS2 a + kwS2 b else if k = 12 then kwS2 a + kwS2 b + 1 else if k = 21 then kwT a + kwS2 b + 2 else if k = 22 then kwT a + kwS2 b + 3 else if k = 26 then kwS2 a + 3 else if k = 27 then 2 else if k = 28 then kwS2 a + kwS2 b + 5 else if k = 29 then kwT a + kwT b + 1 else kwT a + 2
  | _ => 0
def lvS2 (X : Lx) : Tr → Nat
  | .add (.add (.var k) (.add (.var _) (.var _))) (.add a b) => if k = 31 ∨ k = 26 then lvS2 X a else if k = 11 ∨ k = 12 ∨ k = 28 then lvS2 X a + lvS2 X b else if k = 21 ∨ k = 22 then lvT X a + lvS2 X b else if k = 29 then lvT X a + lvT X b else if k = 20 then lvT X a + 6 else lvT X a
  | _ => 0
section SZD
variable {S S' T T' T1 : gSt} {X : Lx} {it e v g n dd v' g' v1 k i e' u c m : Nat} {ta tb : Tr} {a b z pl r x : Int32}
theorem kwS2_n : kwS2 (tD k i e' ta tb) = if k = 31 then kwS2 ta else if k = 11 then kwS2 ta + kwS2 tb else if k = 12 then kwS2 ta + kwS2 tb + 1 else if k = 21 then kwT ta + kwS2 tb + 2 else if k = 22 then kwT ta + kwS2 tb + 3 else if k = 26 then kwS2 ta + 3 else if k = 27 then 2 else if k = 28 then kwS2 ta + kwS2 tb + 5 else if k = 29 then kwT ta + kwT tb + 1 else kwT ta + 2 := rfl
theorem lvS2_n : lvS2 X (tD k i e' ta tb) = if k = 31 ∨ k = 26 then lvS2 X ta else if k = 11 ∨ k = 12 ∨ k = 28 then lvS2 X ta + lvS2 X tb else if k = 21 ∨ k = 22 then lvT X ta + lvS2 X tb else if k = 29 then lvT X ta + lvT X tb else if k = 20 then lvT X ta + 6 else lvT X ta := rfl
theorem FqZ.tr (h : FqZ T T1 v1) (h2 : FqZ T1 T' v') : FqZ T T' v' := by
  obtain ⟨a1, a2, a3, u, u', a4, a5, a6, a7, a8, a9⟩ := h
  obtain ⟨b1, b2, b3, w, w', b4, b5, b6, b7, b8, b9⟩ := h2
  have : u' = w := nI_inj (by omega) (by omega) (by rw [← a5, ← b4])
  exact ⟨b1.trans a1, b2.trans a2, b3.trans a3, u, w', a4, b5, by omega, b7, b8, b9⟩
theorem FqZ.le (h : FqZ T T' v1) (hv : v1 ≤ v') : FqZ T T' v' := by
  obtain ⟨a1, a2, a3, u, u', a4, a5, a6, a7, a8, a9⟩ := h
  exact ⟨a1, a2, a3, u, u', a4, a5, a6, by omega, a8, a9⟩
/-- the scope is as it was -/
theorem FqZ.st (hw : WX X T) (hz : FZ T T') (hu : T.1 68 0 = nI u) (hv : u ≤ v') (hv2 : v' ≤ 20) (h68 : T'.1 68 0 = T.1 68 0) (h70 : ∀ j, T'.1 70 j = T.1 70 j) (h72 : T'.1 72 0 = T.1 72 0) (h75 : T'.1 75 0 = T.1 75 0) (h76 : T'.1 76 0 = T.1 76 0) : FqZ T T' v' := by
  obtain ⟨w, b1, b2, b3⟩ := hw.2.2.2.2.1
  have : w = u := nI_inj (by omega) (by omega) (by rw [← b1, ← hu])
  subst this
  refine ⟨h72, h75, h76, w, w, b1, by rw [h68]; exact b1, Nat.le_refl _, hv, b2, fun j hj => ?_⟩
  obtain ⟨y, y1, y2⟩ := b3 j hj
  exact ⟨y, by rw [h70]; exact y1, hz.2.2.2.1 y y2⟩
theorem FqZ.fx (hw : WX X T) (hx : FX T T') (hu : T.1 68 0 = nI u) (hv : u ≤ v') (hv2 : v' ≤ 20) : FqZ T T' v' := FqZ.st hw hx.fz hu hv hv2 (by rw [hx.o (by omega)]) (fun j => by rw [hx.o (by omega)]) (by rw [hx.o (by omega)]) (by rw [hx.o (by omega)]) (by rw [hx.o (by omega)])
theorem WX.fzq (h : WX X T) (hz : FZ T T') (hq : FqZ T T' v') : WX X T' := by
  obtain ⟨a1, a2, ⟨n, a3, a3'⟩, ⟨r, a4, a4', a4''⟩, _, ⟨c, a6, a6'⟩, a7, a8, a9⟩ := h
  obtain ⟨q1, q2, q3, u, u', q4, q5, q6, q7, q8, q9⟩ := hq
  have o := fun k a b => hz.o (k := k) a b
  refine ⟨a1.fz hz, hz.2.2.1, ⟨n, by rw [o 27 (by omega) (by omega)]; exact a3, a3'⟩, ⟨r, by rw [q1]; exact a4, a4', a4''⟩, ⟨u', q5, q8, q9⟩, ?_, by rw [o 67 (by omega) (by omega), o 11 (by omega) (by omega), o 12 (by omega) (by omega), o 13 (by omega) (by omega)]; exact a7, by rw [q3]; exact a8, fun t ht => ?_⟩
  · obtain ⟨c', b1, b2, b3, _⟩ := hz.2.2.2.2.2.1 c a6 a6'
    exact ⟨c', b1, b3⟩
  · obtain ⟨n, ⟨b1, b2, b3⟩, c1, ⟨y, c2, c3⟩, d1, w, e1, e2, e3⟩ := a9 t (by unfold itN at ht ⊢; rw [o 27 (by omega) (by omega)] at ht; exact ht)
    refine ⟨n, ⟨by rw [o 32 (by omega) (by omega)]; exact b1, b2, fun k hk => by rw [o 43 (by omega) (by omega)]; exact b3 k hk⟩, fun q hq => ?_, ⟨y, by rw [o 38 (by omega) (by omega)]; exact c2, hz.2.2.2.1 y c3⟩, by rw [o 31 (by omega) (by omega)]; exact d1, w, by rw [o 46 (by omega) (by omega)]; exact e1, e2, fun q hq => by rw [o 47 (by omega) (by omega)]; exact e3 q hq⟩
    obtain ⟨u, u1, u2⟩ := c1 q hq
    exact ⟨u, by rw [o 44 (by omega) (by omega)]; exact u1, hz.2.2.2.1 u u2⟩
theorem WZ.fzq (h : WZ X T v g dd) (hz : FZ T T') (hq : FqZ T T' v') (hv : v' ≤ 20) (hg : g ≤ g') (hg8 : g' ≤ 8) : WZ X T' v' g' dd := by
  obtain ⟨a1, a2, a3, ⟨m, a4, a4'⟩, a5, ⟨c, a6, a6'⟩, ti, a7, a7'⟩ := h
  have hq' := hq
  obtain ⟨q1, q2, q3, u, u', q4, q5, q6, q7, q8, q9⟩ := hq
  exact ⟨a1.fzq hz hq', ⟨u', q5, q7⟩, hv, ⟨m, by rw [q1]; exact a4, by omega⟩, hg8, ⟨c, by rw [q3]; exact a6, a6'⟩, ti, by rw [hz.o (by omega) (by omega)]; exact a7, by unfold itN at a7' ⊢; rw [hz.o (by omega) (by omega)]; exact a7'⟩
theorem WZ.fx (h : WZ X T v g dd) (hx : FX T T') : WZ X T' v g dd ∧ FqZ T T' v := by
  obtain ⟨u, hu, huv⟩ := h.2.1
  have q := FqZ.fx h.1 hx hu huv h.2.2.1
  exact ⟨h.fzq hx.fz q h.2.2.1 (Nat.le_refl _) h.2.2.2.2.1, q⟩
/-- flow is written -/
theorem WZ.fl (h : WZ X T v g dd) (t1 : T'.1 = T.1) (t2 : ∀ q j, q ≠ 77 → T'.2 q j = T.2 q j) : WZ X T' v g dd ∧ FZ T T' ∧ FqZ T T' v := by
  obtain ⟨u, hu, huv⟩ := h.2.1
  have z : FZ T T' := FZ.sc h.1.2.1 (fun k _ => by rw [t1]) (fun q j _ _ c => t2 q j c) (by rw [t1])
  have q := FqZ.st h.1 z hu huv h.2.2.1 (by rw [t1]) (fun j => by rw [t1]) (by rw [t1]) (by rw [t1]) (by rw [t1])
  exact ⟨h.fzq z q h.2.2.1 (Nat.le_refl _) h.2.2.2.2.1, z, q⟩
/-- a row is laid -/
theorem SrR.em (h : SrR X it e v g n S T) (h51 : T.1 51 0 = nI m) (hm : m < 6032) : SrR X it e v g n S (emS T m a b z) ∧ TyF S S T (emS T m a b z) ∧ lvC (emS T m a b z) 16384 = lvC T 16384 := by
  have hx := h.xr
  obtain ⟨b1, b2, b3, b4, b5⟩ := hx.em (S2 := S) (T5 := T) (u1 := a) (u2 := b) (u3 := z) h51 hm (fun _ _ => rfl) rfl rfl (fun _ _ _ => rfl) hx.2.1 hx.2.2.2.2.2.2.2.2.2.2
  exact ⟨h.ex b1 b2 FE.rf b3, b2, b5⟩
theorem SrR.sp (h : SrR X it e v g n S T) : SrR X it e v g n (spS S) (sJ T 77 0 (sbW (flw T) 52 false)) ∧ TyF S (spS S) T (sJ T 77 0 (sbW (flw T) 52 false)) := by
  have hV := h.1.2.2.2.2.2.2.2.2.1
  obtain ⟨a1, a2, a3, a4, a5⟩ := h.1.fo (S' := spS S) (T' := sJ T 77 0 (sbW (flw T) 52 false)) (fun k hk => by unfold spS; rw [sI_ne (by omega), sI_ne (by omega), sI_ne (by omega)]) rfl (Or.inl sp_83) rfl (fun p j hp => by rw [rdJ, if_neg (fun q => hp q.1)])
  refine ⟨⟨a1, ?_⟩, a4⟩
  have e81 : (spS S).1 81 0 = -1 := by unfold spS; rw [sI_ne (by omega), sI_v]
  have e82 : (spS S).1 82 0 = -1 := by unfold spS; rw [sI_v]
  have e75 : (spS S).1 75 0 = S.1 75 0 := by unfold spS; rw [sI_ne (by omega), sI_ne (by omega), sI_ne (by omega)]
  have o : ∀ k, k ≠ 81 → k ≠ 82 → k ≠ 83 → (spS S).1 k = S.1 k := fun k a b c => by unfold spS; rw [sI_ne (by omega), sI_ne (by omega), sI_ne (by omega)]
  rw [flw_w, e81, e82, e75, sp_83]
  exact (h.2.stop hV.vs.1).mo hV a4 a2 (by rw [o 77 (by omega) (by omega) (by omega)]) (o 79 (by omega) (by omega) (by omega)) (fun _ => rfl)
/-- an int must be there -/
theorem ft_ni : ftS S x 0 pl = niT S x pl := by
  unfold ftS niT mfI flT failS
  rw [if_pos (Or.inr rfl)]
  by_cases c0 : S.1 7 0 = 0
  · by_cases c : x = 0
    · rw [if_pos c, if_neg (fun q => q.2 (by decide)), if_neg (fun q => q.2 c)]
    · rw [if_neg c, if_pos ⟨c0, by decide⟩, if_pos ⟨c0, c⟩, if_pos c0]
  · rw [if_neg (fun q => c0 q.1), if_neg (fun q => c0 q.1)]
end SZD
