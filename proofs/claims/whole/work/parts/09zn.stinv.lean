/-! what holds at every place of STEPS that no fault was told at -/
def SI (T : gSt) (v g n : Nat) : Prop := Ck T ∧ vn T ≤ v ∧ (T.1 83 0 = 0 ∨ T.1 83 0 = 1) ∧ T.1 86 0 = nI g ∧ g ≤ 8 ∧ rn T ≤ 3 + g ∧ T.1 84 0 = nI n ∧ ∀ j, j < n → T.1 85 j ≤ 0 ∨ ∃ e, T.1 85 j = nI e ∧ e < 4 + g
def SK (T T' : gSt) (v g n : Nat) : Prop := SI T' v g n ∧ vn T ≤ vn T' ∧ rn T' = rn T
abbrev fO (k : Nat) : Prop := k = 7 ∨ k = 8 ∨ k = 75 ∨ k = 81 ∨ k = 82 ∨ k = 83 ∨ k = 87
def FO (T T' : gSt) : Prop := (∀ k, ¬ fO k → T'.1 k = T.1 k) ∧ T'.2 = T.2
section SIV
variable {T T' T'' T1 T2 : gSt} {X : Lx} {k i j e it v g n v' g' : Nat} {p q c s : Int32} {nm : Int64} {A B : StF} {ta tb : Tr}
theorem FS.tg (h : FS T T') (g : Tg T) : Tg T' := (h.2.2.1 g).1
theorem FS.lt (h : FS T T') (g : Tg T) (c : cn T' < 6000) : cn T < 6000 := Nat.lt_of_le_of_lt (h.2.2.1 g).2.1 c
theorem FS.ok (h : FS T T') (c : T'.1 7 0 = 0) : T.1 7 0 = 0 := Decidable.byContradiction fun q => h.2.2.2 q c
theorem FS.einn (h : FS T T') : inn T' = inn T := by
  unfold inn
  rw [h.1 11 (by omega) (by omega) (by omega)]
theorem FO.rf : FO T T := ⟨fun _ _ => rfl, rfl⟩
theorem FO.tr (h : FO T T') (h2 : FO T' T'') : FO T T'' := ⟨fun k a => (h2.1 k a).trans (h.1 k a), h2.2.trans h.2⟩
theorem FO.wr (h : fO k) : FO T (sI T k i p) := ⟨fun g a => sI_ne (fun e => a (by rw [e]; exact h)), rfl⟩
theorem FO.fl : FO T (flT T p q) := ⟨fun k a => flT_o (fun e => a (Or.inl e)) (fun e => a (Or.inr (Or.inl e))), by unfold flT; split <;> rfl⟩
theorem FO.if2 {c : Prop} [Decidable c] (h1 : FO T T1) (h2 : FO T T2) : FO T (if c then T1 else T2) := by
  split
  · exact h1
  · exact h2
theorem FO.gv {sl t y has : Int32} : FO T (gvS T sl t y has) := (FO.wr (by omega)).tr (FO.wr (by omega))
theorem FO.sp : FO T (spS T) := ((FO.wr (by omega)).tr (FO.wr (by omega))).tr (FO.wr (by omega))
theorem FO.kw : FO T (kwS T p) := by
  unfold kwS
  exact FO.if2 FO.rf (FO.wr (by omega))
theorem FO.rs {st kw lv rc : Int32} : FO T (rsS T st kw lv rc) := (((FO.wr (by omega)).tr (FO.wr (by omega))).tr (FO.wr (by omega))).tr (FO.wr (by omega))
theorem FO.mt {st kw lv rc p : Int32} : FO T (mtS T st kw lv rc p) := by
  unfold mtS
  refine FO.if2 (FO.if2 ((FO.wr (by omega)).tr (FO.wr (by omega))) ((FO.fl.tr (FO.wr (by omega))).tr (FO.wr (by omega)))) (FO.if2 FO.rs FO.rf)
theorem FO.dl : FO T (dlS T c) := FO.wr (by omega)
theorem FO.ar : ∀ (n : Nat) (T : gSt), FO T (arL p c n T) := by
  intro n
  induction n with
  | zero => intro T; exact FO.rf
  | succ n ih =>
    intro T
    rw [arL]
    exact FO.if2 FO.rf (FO.tr (FO.if2 FO.fl FO.rf) (ih _))
theorem kw_83 : (kwS T p).1 83 = T.1 83 := by
  unfold kwS
  split
  · rfl
  · exact sI_ne (by omega)
theorem gv_83 {sl t y has : Int32} : (gvS T sl t y has).1 83 = T.1 83 := by
  unfold gvS
  rw [sI_ne (by omega), sI_ne (by omega)]
theorem rs_83 {st kw lv rc : Int32} : (rsS T st kw lv rc).1 83 0 = rc := by
  unfold rsS
  rw [sI_v]
theorem sp_83 : (spS T).1 83 0 = 0 := by
  unfold spS
  rw [sI_ne (by omega), sI_ne (by omega), sI_v]
theorem mt_83 {st kw lv rc p : Int32} : (mtS T st kw lv rc p).1 83 0 = T.1 83 0 ∨ (mtS T st kw lv rc p).1 83 0 = rc := by
  unfold mtS
  split
  · left
    split
    · rw [sI_ne (by omega), sI_ne (by omega)]
    · rw [sI_ne (by omega), sI_ne (by omega), flT_o (by omega) (by omega)]
  · split
    · right; exact rs_83
    · left; rfl
theorem Ck.mv (h : Ck T) (f : ∀ k, k ≤ 70 → ¬ (k = 7 ∨ k = 8) → T'.1 k = T.1 k) (f2 : ∀ k, k < 72 → T'.2 k = T.2 k) (hR : Rg T' ∧ ∀ k, k < rn T' → rC2 (T'.1 73 k)) (hRi : Ri T') (hv : T'.1 77 0 = nI (vn T') ∧ vn T' ≤ 20 ∧ ∀ v, v < vn T' → tV T (T'.1 80 v)) : Ck T' := by
  have ecn : cn T' = cn T := by unfold cn; rw [f 65 (by omega) (by omega)]
  have ein : inn T' = inn T := by unfold inn; rw [f 11 (by omega) (by omega)]
  have erw : ∀ p, rwT T' p = rwT T p := by
    intro p
    unfold rwT
    rw [f 66 (by omega) (by omega), f 67 (by omega) (by omega), f 68 (by omega) (by omega), f 69 (by omega) (by omega), f 70 (by omega) (by omega)]
  have etv : ∀ x, tV T x → tV T' x := fun x hx => hx.up (by rw [ecn]; exact Nat.le_refl _)
  have edo := dOk.up (T := T) (T' := T') (by rw [ecn]; exact Nat.le_refl _) (f 15 (by omega) (by omega)) (fun p _ => erw p)
  obtain ⟨⟨g1, g2, g3⟩, r, ⟨_, _⟩, _, ⟨a4, a5, a6⟩, _⟩ := h
  refine ⟨⟨?_, ?_, ?_⟩, ?_, hR, hRi, ⟨?_, ?_, ?_⟩, hv.1, hv.2.1, fun v q => etv _ (hv.2.2 v q)⟩
  · rw [ecn, f 65 (by omega) (by omega)]; exact g1
  · rw [ecn]; exact g2
  · rw [ecn]; exact g3
  · intro p h1 h2
    rw [ecn] at h2
    rw [erw]
    exact (r p h1 h2).fe ein
  · rw [ein, f 11 (by omega) (by omega)]; exact a4
  · rw [ein]; exact a5
  · intro t ht
    rw [ein] at ht
    obtain ⟨c, m, r, w, b1, b2, b3, b4, b5, b6, b7, b8, b9, b10, b11⟩ := a6 t ht
    refine ⟨c, m, r, w, ?_, ?_, b3, b4, ?_, b6, ?_, b8, fun z hz => ?_, fun q => ?_, fun k hk => ?_⟩
    · rw [f 18 (by omega) (by omega)]; exact b1
    · rw [f 19 (by omega) (by omega)]; exact b2
    · rw [f 15 (by omega) (by omega)]; exact b5
    · rw [f 31 (by omega) (by omega)]; exact b7
    · rw [f 24 (by omega) (by omega)]
      exact ⟨etv _ (b9 z hz).1, edo 7 _ (b9 z hz).2⟩
    · rw [f 25 (by omega) (by omega)] at q
      rw [f 26 (by omega) (by omega)]
      exact ⟨etv _ (b10 q).1, edo 7 _ (b10 q).2⟩
    · have e1 : roI T' t (T'.2 32 (6 * t + k)) = roI T t (T.2 32 (6 * t + k)) := by
        rw [f2 32 (by omega)]
        have e2 : isRi T' t = isRi T t := by
          funext w z
          unfold isRi
          rw [f2 16 (by omega)]
        unfold roI
        rw [e2, f 15 (by omega) (by omega)]
      rw [e1]
      exact b11 k hk
theorem SI.fe (h : SI T v g n) (hF : FE T T') (hC : Ck T') : SK T T' v g n := by
  obtain ⟨_, h2, h3, h4, h5, h6, h7, h8⟩ := h
  refine ⟨⟨hC, ?_, ?_, ?_, h5, ?_, ?_, by rw [hF.1 85 (by omega)]; exact h8⟩, ?_, hF.ern⟩
  · rw [hF.evn]; exact h2
  · rw [hF.1 83 (by omega)]; exact h3
  · rw [hF.1 86 (by omega)]; exact h4
  · rw [hF.ern]; exact h6
  · rw [hF.1 84 (by omega)]; exact h7
  · rw [hF.evn]; exact Nat.le_refl _
theorem SI.fo (h : SI T v g n) (f : FO T T') (hb : T'.1 83 0 = 0 ∨ T'.1 83 0 = 1) : SK T T' v g n := by
  obtain ⟨h1, h2, h3, h4, h5, h6, h7, h8⟩ := h
  have evn : vn T' = vn T := by unfold vn; rw [f.1 77 (by omega)]
  have ern : rn T' = rn T := by unfold rn; rw [f.1 71 (by omega)]
  have hC : Ck T' := by
    have c := h1.2.2
    refine h1.mv (fun k a b => f.1 k (by omega)) (fun k _ => by rw [f.2]) ?_ ?_ ?_
    · unfold Rg
      rw [f.1 71 (by omega), ern, f.1 73 (by omega)]; exact c.1
    · intro z hz
      rw [f.1 74 (by omega)]
      exact c.2.1 z hz
    · rw [f.1 77 (by omega), evn, f.1 80 (by omega)]; exact c.2.2.2
  refine ⟨⟨hC, ?_, hb, ?_, h5, ?_, ?_, by rw [f.1 85 (by omega)]; exact h8⟩, ?_, ern⟩
  · rw [evn]; exact h2
  · rw [f.1 86 (by omega)]; exact h4
  · rw [ern]; exact h6
  · rw [f.1 84 (by omega)]; exact h7
  · rw [evn]; exact Nat.le_refl _
theorem SK.tr (h : SK T T' v g n) (h2 : SK T' T'' v' g' k) : SK T T'' v' g' k := ⟨h2.1, Nat.le_trans h.2.1 h2.2.1, h2.2.2.trans h.2.2⟩
theorem SK.rf (h : SI T v g n) : SK T T v g n := ⟨h, Nat.le_refl _, rfl⟩
end SIV
