/-! what STEPS leave as it was, on the class's side, whatever there is -/
def FZ (T T' : gSt) : Prop := (∀ k, ¬ (48 ≤ k ∧ k ≤ 54) → ¬ (68 ≤ k ∧ k ≤ 76) → T'.1 k = T.1 k) ∧ (∀ q j, q ≠ 62 → q ≠ 69 → q ≠ 73 → q ≠ 77 → T'.2 q j = T.2 q j) ∧ WT T' ∧ (∀ y, tyY T y → tyY T' y) ∧ (¬ T.1 53 0 = 0 → T'.1 53 0 = T.1 53 0 ∧ T'.1 54 0 = T.1 54 0) ∧ (∀ c, T.1 51 0 = nI c → c ≤ 6032 → ∃ c', T'.1 51 0 = nI c' ∧ c ≤ c' ∧ c' ≤ 6032 ∧ ∀ g j, 48 ≤ g → g ≤ 50 → j < c → T'.1 g j = T.1 g j) ∧ T'.1 71 0 = T.1 71 0 ∧ ∀ v, v < 2 → T'.1 52 v = T.1 52 v
section SFR
variable {S S' T T' T1 : gSt} {X : Lx} {k n t c : Nat} {x : It}
theorem FX.fz (h : FX T T') : FZ T T' := ⟨fun k a _ => h.1 k a, fun q j a _ _ _ => h.2.1 q j a, h.2.2.1, h.2.2.2.1, h.2.2.2.2.1, h.2.2.2.2.2.1, by rw [h.1 71 (by omega)], h.2.2.2.2.2.2⟩
theorem FZ.rf (hW : WT T) : FZ T T := (FX.rf hW).fz
theorem FZ.tr (h : FZ T T1) (h2 : FZ T1 T') : FZ T T' := ⟨fun k a b => (h2.1 k a b).trans (h.1 k a b), fun q j a b c d => (h2.2.1 q j a b c d).trans (h.2.1 q j a b c d), h2.2.2.1, fun y a => h2.2.2.2.1 y (h.2.2.2.1 y a), fun w => by
  have a := h.2.2.2.2.1 w
  have b := h2.2.2.2.2.1 (by rw [a.1]; exact w)
  exact ⟨b.1.trans a.1, b.2.trans a.2⟩, fun c hc hc2 => by
  obtain ⟨c1, a1, a2, a3, a4⟩ := h.2.2.2.2.2.1 c hc hc2
  obtain ⟨c2, b1, b2, b3, b4⟩ := h2.2.2.2.2.2.1 c1 a1 a3
  exact ⟨c2, b1, by omega, b3, fun g j h1 h2 h3 => (b4 g j h1 h2 (by omega)).trans (a4 g j h1 h2 h3)⟩, h2.2.2.2.2.2.2.1.trans h.2.2.2.2.2.2.1, fun v hv => (h2.2.2.2.2.2.2.2 v hv).trans (h.2.2.2.2.2.2.2 v hv)⟩
/-- what lies in the scope is written -/
theorem FZ.sc (hW : WT T) (h1 : ∀ k, ¬ (68 ≤ k ∧ k ≤ 76) → T'.1 k = T.1 k) (h2 : ∀ q j, q ≠ 69 → q ≠ 73 → q ≠ 77 → T'.2 q j = T.2 q j) (h71 : T'.1 71 0 = T.1 71 0) : FZ T T' := by
  have w := hW.ag2 (T' := T') (by funext j; exact h2 62 j (by omega) (by omega) (by omega)) (h2 63 0 (by omega) (by omega) (by omega)) (by rw [h1 27 (by omega)])
  exact ⟨fun k _ b => h1 k b, fun q j _ a b c => h2 q j a b c, w.1, w.2, fun _ => ⟨by rw [h1 53 (by omega)], by rw [h1 54 (by omega)]⟩, fun c hc hc2 => ⟨c, by rw [h1 51 (by omega)]; exact hc, Nat.le_refl _, hc2, fun g j a b _ => by rw [h1 g (by omega)]⟩, h71, fun v _ => by rw [h1 52 (by omega)]⟩
theorem FZ.o (h : FZ T T') (a : ¬ (48 ≤ k ∧ k ≤ 54)) (b : ¬ (68 ≤ k ∧ k ≤ 76)) : T'.1 k = T.1 k := h.1 k a b
theorem TkC.fz (h : TkC X T) (hF : FZ T T') : TkC X T' := by
  unfold TkC at h ⊢
  rw [hF.o (k := 25) (by omega) (by omega), hF.o (k := 21) (by omega) (by omega), hF.o (k := 22) (by omega) (by omega), hF.o (k := 23) (by omega) (by omega)]
  refine ⟨h.1, h.2.1, fun j hj => ?_⟩
  rw [hF.2.1 24 j (by omega) (by omega) (by omega) (by omega)]
  exact h.2.2 j hj
theorem ItH.fz (h : ItH S T) (fs : FS S S') (hF : FZ T T') : ItH S' T' := h.st (fs.1 11 (by omega) (by omega) (by omega)) (fs.1 12 (by omega) (by omega) (by omega)) (fs.2.1 13 (by omega)) (fs.1 15 (by omega) (by omega) (by omega)) (fun k j hk => by rw [hF.o (by omega) (by omega)]) (fun j => hF.2.1 30 j (by omega) (by omega) (by omega) (by omega))
theorem HeT.fz (h : HeT X T t x) (fx : FZ T T') : HeT X T' t x := by
  obtain ⟨i, e, l, rt, dt, n, wt, w, bd⟩ := x
  obtain ⟨a1, a2, a3, a4, a5, a6, a7, a8, a9, a10⟩ := h
  exact ⟨by rw [fx.o (by omega) (by omega)]; exact a1, by rw [fx.o (by omega) (by omega)]; exact a2, by rw [fx.2.1 30 t (by omega) (by omega) (by omega) (by omega)]; exact a3, by rw [fx.o (by omega) (by omega)]; exact a4, by rw [fx.o (by omega) (by omega)]; exact a5, a6, fun k hk => by rw [fx.o (by omega) (by omega)]; exact a7 k hk, by rw [fx.o (by omega) (by omega)]; exact a8, by rw [fx.o (by omega) (by omega)]; exact a9, by rw [fx.o (by omega) (by omega)]; exact a10⟩
theorem AiR.fz (h : AiR X S T) (hF : TyF S S' T T') (fs : FS S S') (fx : FZ T T') : AiR X S' T' := fun t ht => by
  rw [fs.einn] at ht
  have o : ∀ k, k < 65 → k ≠ 7 → k ≠ 8 → S'.1 k = S.1 k := fs.1
  obtain ⟨c, x, b1, b2, b3, b4, b5, b6, b7, b8, b9, b10, b11⟩ := h t ht
  refine ⟨c, x, b1.fz fx, b2.st (fs.2.1 21 (by omega)) (fun k j hk => by rw [fx.o (by omega) (by omega)]), b3.st hF (o 15 (by omega) (by omega) (by omega)) (fs.2.1 16 (by omega)) (fs.2.1 32 (by omega)) (fun q _ => by rw [o 24 (by omega) (by omega) (by omega)]) (by rw [o 26 (by omega) (by omega) (by omega)]) (by rw [o 30 (by omega) (by omega) (by omega)]) b2.2.1 b10 (fun k j hk => by rw [fx.o (by omega) (by omega)]), by rw [o 12 (by omega) (by omega) (by omega)]; exact b4, b5, by rw [o 18 (by omega) (by omega) (by omega)]; exact b6, b7, by rw [o 19 (by omega) (by omega) (by omega)]; exact b8, by rw [o 31 (by omega) (by omega) (by omega)]; exact b9, b10, by rw [o 25 (by omega) (by omega) (by omega), o 12 (by omega) (by omega) (by omega), o 26 (by omega) (by omega) (by omega)]; exact b11⟩
theorem BfR.fz (h : BfR S T) (hF : FZ T T') : BfR S T' := by
  have := hF.2.2.2.2.1 (by rw [h.2.1]; exact h.1)
  exact ⟨h.1, this.1.trans h.2.1, this.2.trans h.2.2⟩
theorem RcG.fz {tr : Tr} {mo lo hi z : Nat} (h : RcG X T tr mo lo hi z) (hF : FZ T T') : RcG X T' tr mo lo hi z := by
  rw [RcG_eq (fun g a b => hF.o (by omega) (by omega))]
  exact h
theorem cRX.fz {tr : Tr} {lo hi : Nat} (h : cRX T (RcG X T tr) lo hi) (hF : FZ T T') : cRX T' (RcG X T' tr) lo hi := by
  obtain ⟨y, y1, y2⟩ := h
  exact ⟨y, y1.fz hF, by rw [hF.o (by omega) (by omega)]; exact y2⟩
end SFR
