/-! the class's parser: fields, parameters, where -/
/-- what the parse of items from t on leaves as it was -/
def FcI (t : Nat) (T T' : gSt) : Prop := (∀ k j, k ≠ 58 → k ≠ 59 → k ≠ 53 → k ≠ 54 → k ≠ 60 → k ≠ 61 → k ≠ 27 → ¬ (11 ≤ k ∧ k ≤ 19 ∨ k = 128) → ¬ (28 ≤ k ∧ k ≤ 37 ∧ t ≤ j) → ¬ (k = 43 ∧ 8 * t ≤ j) → T'.1 k j = T.1 k j) ∧ (∀ k j, ¬ (k = 30 ∧ t ≤ j) → T'.2 k j = T.2 k j)
/-- a field or parameter more: token i, the q-th of item t -/
def cPt (T : gSt) (t q i : Nat) : gSt := sI (sI T 43 (8 * t + q) (nI i)) 32 t (nI (q + 1))
section CIT
variable {nf d : Nat} {T T' T1 T2 T3 T7 : gSt} {X : Lx} {i j k p p' q m n e c z lo hi v g j0 t : Nat} {x y r a0 a b : Int32} {u : Int64} {l : Int64} {K : Int32 → Int64 → gSt → gR} {K2 : Int32 → gSt → gR} {Q : Int32 → Int64 → gSt → Prop}
theorem sI_2s : (sI T k j x).2 = T.2 := rfl
theorem cMv_2s : (cMv T i).2 = T.2 := by unfold cMv; rw [sI_2s, sI_2s]
theorem FcI.rf : FcI t T T := ⟨fun _ _ _ _ _ _ _ _ _ _ _ _ => rfl, fun _ _ _ => rfl⟩
theorem FcI.tr (h : FcI t T T1) (h2 : FcI t T1 T') : FcI t T T' := ⟨fun k j a b c d e f g l m n => (h2.1 k j a b c d e f g l m n).trans (h.1 k j a b c d e f g l m n), fun k j a => (h2.2 k j a).trans (h.2 k j a)⟩
theorem FD.ci (h : FD T T') : FcI t T T' := ⟨fun k j a b c d e f g l m n => by rw [h.1 k a b c d e f l], fun k j a => by rw [h.2]⟩
theorem FC.ci (h : FC T T') : FcI t T T' := h.fd.ci
theorem FcI.wr (h : k = 27 ∨ (28 ≤ k ∧ k ≤ 37 ∧ t ≤ j) ∨ (k = 43 ∧ 8 * t ≤ j) ∨ k = 60 ∨ k = 61) : FcI t T (sI T k j x) := ⟨fun g j' a b c d e f g' l m n => by rw [rdI, if_neg (fun w => by omega)], fun k j a => rfl⟩
theorem FcI.wj (h : t ≤ j) : FcI t T (sJ T 30 j u) := ⟨fun g j' a b c d e f g' l m n => rfl, fun k j' a => by rw [rdJ, if_neg (fun w => a (by omega))]⟩
theorem FcI.mono {t' : Nat} (h : FcI t' T T') (ht : t ≤ t') : FcI t T T' := ⟨fun k j a b c d e f g l m n => h.1 k j a b c d e f g l (by omega) (by omega), fun k j a => h.2 k j (by omega)⟩
theorem TkC.w (h : TkC X T) (hk : k ≠ 25 ∧ k ≠ 21 ∧ k ≠ 22 ∧ k ≠ 23) : TkC X (sI T k j x) := by
  unfold TkC at h ⊢
  rw [sI_ne (by omega), sI_ne (by omega), sI_ne (by omega), sI_ne (by omega)]
  exact h
theorem TkC.wj (h : TkC X T) (hk : k ≠ 24) : TkC X (sJ T k j u) := by
  unfold TkC at h ⊢
  rw [show (sJ T k j u).2 24 = T.2 24 from sJ_ne (by omega)]
  exact h
abbrev itF (k : Nat) : Prop := (26 ≤ k ∧ k ≤ 37) ∨ k = 43 ∨ k = 60 ∨ k = 61
theorem GC.wi (h : GC X T i p) (hk : itF k) : GC X (sI T k j x) i p := ⟨by rw [sI_ne (by omega)]; exact h.1, h.2.1, by rw [sI_ne (by omega)]; exact h.2.2.1, by rw [sI_ne (by omega)]; exact h.2.2.2.1, by rw [sI_ne (by omega)]; exact h.2.2.2.2.1, h.2.2.2.2.2.1.w (by omega), by rw [sI_ne (by omega)]; exact h.2.2.2.2.2.2.1, h.2.2.2.2.2.2.2⟩
theorem GC.wj (h : GC X T i p) (hk : k ≠ 24) : GC X (sJ T k j u) i p := ⟨h.1, h.2.1, h.2.2.1, h.2.2.2.1, h.2.2.2.2.1, h.2.2.2.2.2.1.wj hk, h.2.2.2.2.2.2⟩
theorem Bd.wi (h : Bd X T e) (hk : itF k) : Bd X (sI T k j x) e := by
  obtain ⟨h1, h2, h3, ⟨p, h4, h5⟩, h6, i, h7, h8⟩ := h
  exact ⟨by rw [sI_ne (by omega)]; exact h1, by rw [sI_ne (by omega)]; exact h2, by rw [sI_ne (by omega)]; exact h3, ⟨p, by rw [sI_ne (by omega)]; exact h4, h5⟩, h6.w (by omega), i, by rw [sI_ne (by omega)]; exact h7, h8.1, by rw [sI_ne (by omega)]; exact h8.2⟩
theorem Bd.wj (h : Bd X T e) (hk : k ≠ 24) : Bd X (sJ T k j u) e := by
  obtain ⟨h1, h2, h3, h4, h6, h7⟩ := h
  exact ⟨h1, h2, h3, h4, h6.wj hk, h7⟩
theorem mul8 (ht : t < 24) (hq : q < 8) : nI t * 8 + nI q = nI (8 * t + q) := by
  rw [show (8 : Int32) = nI 8 from rfl, nI_mul, show nI (t * 8) + nI q = nI (t * 8 + q) from (Int32.ofNat_add _ _).symm, show t * 8 + q = 8 * t + q by omega]
theorem c_addp (hq : T.1 32 t = nI q) (ht : t < 24) (hq8 : q < 8) : PP nf (d + 1) 39 T [nI t, x] [] = some (0, 0, sI (sI T 43 (8 * t + q) x) 32 t (nI (q + 1))) := by
  have ct : (nI t).toNatClampNeg = t := nc (by omega)
  have zt : inb (nI t) 24 := nin ht (by omega)
  rw [e_Items_addPart]
  unfold rb_Items_addPart
  simp only [gd, if_pos zt, ct, hq]
  have n8 : ¬ (8 : Int32) ≤ nI q := fun w => by
    have := (nI_leI (a := 8) (b := q) (by omega) (by omega)).mp w
    omega
  rw [if_neg n8, mul8 ht hq8, if_pos (nin (by omega) (by omega)), nc (by omega), stK, stK, sI_ne (by omega), hq, nI_1]
theorem c_addp8 (hq : T.1 32 t = nI q) (ht : t < 24) (hq8 : 8 ≤ q) (hq9 : q < 100) : PP nf (d + 1) 39 T [nI t, x] [] = some (0, 0, T) := by
  have ct : (nI t).toNatClampNeg = t := nc (by omega)
  have zt : inb (nI t) 24 := nin ht (by omega)
  rw [e_Items_addPart]
  unfold rb_Items_addPart
  simp only [gd, if_pos zt, ct, hq]
  rw [if_pos (show (8 : Int32) ≤ nI q from (nI_leI (a := 8) (b := q) (by omega) (by omega)).mpr hq8)]
/-- a part behind a fault -/
theorem zb_part (hX : XO X) (h : Bd X T e) (hq : T.1 32 t = nI q) (ht : t < 24) (hq8 : q ≤ 8) (hd : 6 ≤ d) : wp (PP nf d 65 T [nI t] []) (fun _ _ T' => Bd X T' e ∧ FcI t T T') := by
  obtain ⟨d, rfl⟩ : ∃ g, d = g + 2 := ⟨d - 2, by omega⟩
  rw [e_Parser_parsePart _ (d + 1)]
  unfold rb_Parser_parsePart
  have key : ∀ T1, Bd X T1 e → FcI t T T1 → wp (bi (PP nf (d + 1) 60 T1 [(2 : Int32)] []) fun r2 l2 T2 => bi (PP nf (d + 1) 60 T2 [(48 : Int32)] []) fun r3 l3 T3 => bi (PP nf (d + 1) 69 T3 [(1 : Int32), (0 : Int32)] []) fun r4 l4 T4 => some (0, 0, T4)) (fun _ _ T' => Bd X T' e ∧ FcI t T T') := by
    intro T1 b1 f1
    refine wb_need hX b1 (by omega) (wb_need hX b1 (by omega) ?_)
    rw [zb_type hX b1 (by omega), bis]
    exact wp_some ⟨b1, f1⟩
  by_cases c8 : q = 8
  · rw [c_addp8 hq ht (by omega) (by omega), bis]
    exact key T h FcI.rf
  · rw [c_addp hq ht (by omega), bis]
    exact key _ ((h.wi (by omega)).wi (by omega)) ((FcI.wr (by omega)).tr (FcI.wr (by omega)))
/-- a part: NAME : TYPE -/
theorem w_part (hX : XO X) (hnf : 100 ≤ nf) (hg : GC X T i p) (hp : p ≤ i + 1) (hq : T.1 32 t = nI q) (ht : t < 24) (hq8 : q < 8) (hd : 16 ≤ d) (h1 : ∀ j, pField (xK X) i = .ok j → i < j → j ≤ xn X → wp (K 0 0 (cMv (cPt T t q i) j)) Q) (h2 : ∀ e Tb, pField (xK X) i = .error e → Bd X Tb e → FcI t T Tb → wp (K 0 0 Tb) Q) : wp (bi (PP nf d 65 T [nI t] []) K) Q := by
  obtain ⟨d, rfl⟩ : ∃ g, d = g + 2 := ⟨d - 2, by omega⟩
  have hxn := hX.1
  have hi0 := hg.2.1
  have go : ∀ (R : Int32 → Int64 → gSt → Prop), (∀ j, pField (xK X) i = .ok j → i < j → j ≤ xn X → R 0 0 (cMv (cPt T t q i) j)) → (∀ e Tb, pField (xK X) i = .error e → Bd X Tb e → FcI t T Tb → R 0 0 Tb) → wp (PP nf (d + 2) 65 T [nI t] []) R := by
    intro R r1 r2
    rw [e_Parser_parsePart _ (d + 1)]
    unfold rb_Parser_parsePart
    rw [c_addp hq ht hq8, hg.1, bis]
    have g1 : GC X (cPt T t q i) i p := (hg.wi (by omega)).wi (by omega)
    have f1 : FcI t T (cPt T t q i) := (FcI.wr (by omega)).tr (FcI.wr (by omega))
    show wp (bi (PP nf (d + 1) 60 (cPt T t q i) [2] []) _) R
    unfold pField at r1 r2
    generalize cPt T t q i = T1 at *
    refine w_need (k := 2) hX g1 rfl (by omega) (by omega) (fun k2 => ?_) (fun k2 => ?_)
    · rw [if_pos k2] at r1 r2
      have h2 := K_lt hX k2 (by omega)
      have g2 := g1.mv (j := i + 1) (by omega)
      refine w_need (k := 48) hX g2 rfl (by omega) (by omega) (fun k48 => ?_) (fun k48 => ?_)
      · rw [if_pos k48] at r1 r2
        have h3 := K_lt hX k48 (by omega)
        have g3 := g2.mv (j := i + 1 + 1) (by omega)
        refine w_type hX hnf g3 (by omega) (by omega) (fun j ej hij hjn => ?_) (fun e Tb ee bb fb => ?_)
        · rw [cMv_2, cMv_2]
          exact wp_some (r1 j ej (by omega) hjn)
        · exact wp_some (r2 e Tb ee bb (f1.tr ((FC.mv.tr FC.mv).tr fb).ci))
      · rw [if_neg k48] at r1 r2
        have b3 := g2.bd hX (by omega)
        rw [zb_type hX b3 (by omega), bis]
        exact wp_some (r2 _ _ rfl b3 (f1.tr (FC.mv.tr FC.bd).ci))
    · rw [if_neg k2] at r1 r2
      have b3 := g1.bd hX (by omega)
      refine wb_need hX b3 (by omega) ?_
      rw [zb_type hX b3 (by omega), bis]
      exact wp_some (r2 _ _ rfl b3 (f1.tr FC.bd.ci))
  refine wp_bi (go (fun r l T' => wp (K r l T') Q) h1 h2) ?_
  intro r l T' h
  exact h
end CIT
