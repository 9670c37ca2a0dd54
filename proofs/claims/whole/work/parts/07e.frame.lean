/-! what stays as it was while the reference reads -/
abbrev pwI (g : Nat) : Prop := (2 ≤ g ∧ g ≤ 5) ∨ g = 7 ∨ g = 8 ∨ (37 ≤ g ∧ g ≤ 63)
abbrev pwJ (g : Nat) : Prop := g = 6 ∨ g = 41 ∨ g = 46 ∨ g = 56
abbrev Fz (T T' : gSt) : Prop := (∀ g, ¬ pwI g → T'.1 g = T.1 g) ∧ (∀ g, ¬ pwJ g → T'.2 g = T.2 g)
theorem sI_if {T : gSt} {g j g' : Nat} {v : Int32} (h : g' ≠ g) : (sI T g j v).1 g' = T.1 g' := sI_ne h
section FZ
variable {T0 T T' : gSt}
theorem Fz.rf : Fz T T := ⟨fun _ _ => rfl, fun _ _ => rfl⟩
theorem Fz.tr (h : Fz T0 T) (h2 : Fz T T') : Fz T0 T' := ⟨fun g q => (h2.1 g q).trans (h.1 g q), fun g q => (h2.2 g q).trans (h.2 g q)⟩
theorem Fz.w {g j : Nat} {v : Int32} (h : Fz T0 T) (hg : pwI g) : Fz T0 (sI T g j v) := ⟨fun g' q => (sI_ne (fun e => q (by rw [e]; exact hg))).trans (h.1 g' q), h.2⟩
theorem Fz.wj {g j : Nat} {v : Int64} (h : Fz T0 T) (hg : pwJ g) : Fz T0 (sJ T g j v) := ⟨h.1, fun g' q => (sJ_ne (fun e => q (by rw [e]; exact hg))).trans (h.2 g' q)⟩
theorem Fz.adv (h : Fz T0 T) : Fz T0 (advS T) := ⟨fun g q => (advS_if (by omega)).trans (h.1 g q), fun g q => (advS_jf (by omega)).trans (h.2 g q)⟩
theorem Fz.nd {a : Nat} {k p : Int32} (h : Fz T0 T) : Fz T0 (ndS T a k p) := by
  unfold ndS
  exact (((((((h.w (by decide)).w (by decide)).w (by decide)).w (by decide)).w (by decide)).w (by decide)).w (by decide)).w (by decide)
theorem Fz.rg {u : Nat} (h : Fz T0 T) : Fz T0 (rgS T u) := by
  unfold rgS
  exact ((h.wj (by decide)).w (by decide)).w (by decide)
theorem Fz.fail {n p : Int32} (h : Fz T0 T) : Fz T0 (failS T n p) := by
  unfold failS
  exact (h.w (by decide)).w (by decide)
end FZ
abbrev Fe (T T' : gSt) : Prop := Fz T T' ∧ Ag T T' 0 (nN T) ∧ nN T ≤ nN T' ∧ (∀ g, (37 ≤ g ∧ g ≤ 44) ∨ g = 62 ∨ g = 63 → T'.1 g = T.1 g) ∧ T'.2 41 = T.2 41
abbrev Gd (X : Lx) (T : gSt) (i : Nat) : Prop := AtM X T i ∧ T.1 7 0 = 0 ∧ T.1 49 0 = nI (nN T) ∧ T.1 45 0 = nI (nU T) ∧ nU T ≤ i
abbrev Zb (X : Lx) (e : Nat) (T0 : gSt) (B : Nat) (T : gSt) : Prop := T.1 7 0 = 1 ∧ T.1 8 0 = nI (xP X e) ∧ Fz T0 T ∧ T.1 49 0 = nI (nN T) ∧ nN T ≤ B
section FE
variable {T0 T T' : gSt} {X : Lx} {i : Nat}
theorem ndS_i {a g j : Nat} {k p : Int32} (h : g < 49 ∨ 59 < g ∨ (56 ≤ g ∧ g ≤ 58)) : (ndS T a k p).1 g j = T.1 g j := by
  unfold ndS
  simp only [rdI]
  rw [if_neg (by omega), if_neg (by omega), if_neg (by omega), if_neg (by omega), if_neg (by omega), if_neg (by omega), if_neg (by omega), if_neg (by omega)]
theorem ndS_o {a g j : Nat} {k p : Int32} (h : j ≠ a) (hg : g ≠ 49) : (ndS T a k p).1 g j = T.1 g j := by
  unfold ndS
  simp only [rdI]
  rw [if_neg (by omega), if_neg (by omega), if_neg (by omega), if_neg (by omega), if_neg (by omega), if_neg (by omega), if_neg (by omega), if_neg (by omega)]
theorem ndS_49 {a : Nat} {k p : Int32} : (ndS T a k p).1 49 0 = nI (a + 1) := by
  unfold ndS
  simp only [rdI]
  simp
theorem ndS_j {a : Nat} {k p : Int32} : (ndS T a k p).2 = T.2 := rfl
theorem nN_nd {a : Nat} {k p : Int32} (ha : a < 8200) : nN (ndS T a k p) = a + 1 := by
  unfold nN
  rw [ndS_49, nc (by omega)]
theorem nN_w {g j : Nat} {v : Int32} (h : g ≠ 49) : nN (sI T g j v) = nN T := by
  unfold nN
  rw [sI_ne (fun e => h e.symm)]
theorem nU_w {g j : Nat} {v : Int32} (h : g ≠ 45) : nU (sI T g j v) = nU T := by
  unfold nU
  rw [sI_ne (fun e => h e.symm)]
theorem nN_wj {g j : Nat} {v : Int64} : nN (sJ T g j v) = nN T := rfl
theorem nU_wj {g j : Nat} {v : Int64} : nU (sJ T g j v) = nU T := rfl
theorem nN_adv : nN (advS T) = nN T := by
  unfold nN
  rw [advS_i (by omega)]
theorem nU_adv : nU (advS T) = nU T := by
  unfold nU
  rw [advS_i (by omega)]
theorem nU_nd {a : Nat} {k p : Int32} : nU (ndS T a k p) = nU T := by
  unfold nU
  rw [ndS_i (by omega)]
theorem nN_rg {u : Nat} : nN (rgS T u) = nN T := by
  unfold nN
  rw [rgS_i (by omega) (by omega)]
theorem nU_rg {u : Nat} (h : u < 4000) : nU (rgS T u) = u + 1 := by
  unfold nU rgS
  simp only [rdI]
  simp
  exact nc (by omega)
theorem AtM.w {g j : Nat} {v : Int32} (h : AtM X T i) (hg : 5 < g) : AtM X (sI T g j v) i := by
  have e : ∀ g', g' < 6 → (sI T g j v).1 g' = T.1 g' := fun g' h' => sI_ne (by omega)
  obtain ⟨h0, h1, h2, h3, h4, h5, h6, h7, h8⟩ := h
  exact ⟨h0, (e 0 (by omega)).trans h1, by rw [e 1 (by omega)]; exact h2, by rw [e 2 (by omega)]; exact h3, by rw [e 3 (by omega)]; exact h4, by rw [e 4 (by omega)]; exact h5, And.intro (by rw [e 5 (by omega)]; exact h6) (And.intro (by rw [e 5 (by omega)]; exact h7) h8)⟩
theorem AtM.wj {g j : Nat} {v : Int64} (h : AtM X T i) (hg : g ≠ 6) : AtM X (sJ T g j v) i := by
  obtain ⟨h0, h1, h2, h3, h4, h5, h6, h7, h8⟩ := h
  exact ⟨h0, h1, h2, h3, h4, h5, And.intro h6 (And.intro h7 (by rw [sJ_ne (fun e => hg e.symm)]; exact h8))⟩
theorem AtM.nd {a : Nat} {k p : Int32} (h : AtM X T i) : AtM X (ndS T a k p) i := by
  unfold ndS
  exact (((((((h.w (by omega)).w (by omega)).w (by omega)).w (by omega)).w (by omega)).w (by omega)).w (by omega)).w (by omega)
theorem Gd.w {g j : Nat} {v : Int32} (h : Gd X T i) (hg : 49 < g) : Gd X (sI T g j v) i := ⟨h.1.w (by omega), by rw [sI_ne (by omega)]; exact h.2.1, by rw [sI_ne (by omega), nN_w (by omega)]; exact h.2.2.1, by rw [sI_ne (by omega), nU_w (by omega)]; exact h.2.2.2.1, by rw [nU_w (by omega)]; exact h.2.2.2.2⟩
theorem Gd.wj {g j : Nat} {v : Int64} (h : Gd X T i) (hg : g ≠ 6) : Gd X (sJ T g j v) i := ⟨h.1.wj hg, h.2⟩
theorem Gd.adv (hX : LX X) (h : Gd X T i) (hi : i < xn X) : Gd X (advS T) (i + 1) := ⟨adv_at hX h.1 hi, by rw [advS_i (by omega)]; exact h.2.1, by rw [advS_i (by omega), nN_adv]; exact h.2.2.1, by rw [advS_i (by omega), nU_adv]; exact h.2.2.2.1, by rw [nU_adv]; have := h.2.2.2.2; omega⟩
theorem Gd.nd {a : Nat} {k p : Int32} (h : Gd X T i) (ha : a < 8200) : Gd X (ndS T a k p) i := ⟨h.1.nd, by rw [ndS_i (by omega)]; exact h.2.1, by rw [ndS_49, nN_nd ha], by rw [ndS_i (by omega), nU_nd]; exact h.2.2.2.1, by rw [nU_nd]; exact h.2.2.2.2⟩
theorem Gd.lt (hX : LX X) (h : Gd X T i) (hk : xK X i ≠ 0) : i < xn X := by
  rcases Nat.lt_or_ge i (xn X) with q | q
  · exact q
  · exact absurd (hX.2.2.1 i q) hk
theorem Gd.pl (h : Gd X T i) : T.1 3 0 = nI (xP X i) := h.1.2.2.2.2.1
theorem Gd.fail {B : Nat} (h : Gd X T i) (hF : Fz T0 T) (hB : nN T ≤ B) : Zb X i T0 B (failS T 1 (T.1 3 0)) := by
  have e7 : (failS T 1 (T.1 3 0)).1 7 0 = 1 := by unfold failS; simp only [rdI]; simp
  have e8 : (failS T 1 (T.1 3 0)).1 8 0 = T.1 3 0 := by unfold failS; simp only [rdI]; simp
  have e49 : (failS T 1 (T.1 3 0)).1 49 = T.1 49 := by unfold failS; rw [sI_ne (by omega), sI_ne (by omega)]
  have eN : nN (failS T 1 (T.1 3 0)) = nN T := by unfold nN; rw [e49]
  exact ⟨e7, e8.trans h.pl, hF.fail, by rw [eN, e49]; exact h.2.2.1, by rw [eN]; exact hB⟩
theorem Zb.bd {e B : Nat} (h : Zb X e T0 B T) : ¬ T.1 7 0 = 0 := by rw [h.1]; decide
theorem Zb.w {e B g j : Nat} {v : Int32} (h : Zb X e T0 B T) (hg : 50 ≤ g ∧ g ≤ 63 ∨ (37 ≤ g ∧ g ≤ 44)) : Zb X e T0 B (sI T g j v) := ⟨by rw [sI_ne (by omega)]; exact h.1, by rw [sI_ne (by omega)]; exact h.2.1, h.2.2.1.w (by omega), by rw [sI_ne (by omega), nN_w (by omega)]; exact h.2.2.2.1, by rw [nN_w (by omega)]; exact h.2.2.2.2⟩
theorem Zb.wj {e B g j : Nat} {v : Int64} (h : Zb X e T0 B T) (hg : pwJ g) : Zb X e T0 B (sJ T g j v) := ⟨h.1, h.2.1, h.2.2.1.wj hg, h.2.2.2⟩
theorem Zb.nd {e B : Nat} {k p : Int32} (h : Zb X e T0 B T) (hB : B < 8200) : Zb X e T0 (B + 1) (ndS T (nN T) k p) := by
  have hb := h.2.2.2.2
  exact ⟨by rw [ndS_i (by omega)]; exact h.1, by rw [ndS_i (by omega)]; exact h.2.1, h.2.2.1.nd, by rw [ndS_49, nN_nd (by omega)], by rw [nN_nd (by omega)]; omega⟩
theorem Zb.le {e B C : Nat} (h : Zb X e T0 B T) (hB : B ≤ C) : Zb X e T0 C T := ⟨h.1, h.2.1, h.2.2.1, h.2.2.2.1, Nat.le_trans h.2.2.2.2 hB⟩
theorem Zb.fz {e B : Nat} {S : gSt} (hS : Fz S T0) (h : Zb X e T0 B T) : Zb X e S B T := ⟨h.1, h.2.1, hS.tr h.2.2.1, h.2.2.2⟩
theorem Ag.rf {lo hi : Nat} : Ag T T lo hi := ⟨fun _ _ _ _ _ _ _ => rfl, fun _ _ _ => rfl, Nat.le_refl _, fun _ _ => ⟨rfl, rfl⟩⟩
theorem Ag.tr {lo hi lo2 hi2 : Nat} (h : Ag T0 T lo hi) (h2 : Ag T T' lo2 hi2) (q1 : lo2 ≤ lo) (q2 : hi ≤ hi2) : Ag T0 T' lo hi := ⟨fun g j a b c d e => (h2.1 g j a b c (by omega) (by omega)).trans (h.1 g j a b c d e), fun j d e => (h2.2.1 j (by omega) (by omega)).trans (h.2.1 j d e), Nat.le_trans h.2.2.1 h2.2.2.1, fun j hj => ⟨(h2.2.2.2 j (Nat.lt_of_lt_of_le hj h.2.2.1)).1.trans (h.2.2.2 j hj).1, (h2.2.2.2 j (Nat.lt_of_lt_of_le hj h.2.2.1)).2.trans (h.2.2.2 j hj).2⟩⟩
theorem Ag.w {lo hi g j : Nat} {v : Int32} (h : Ag T0 T lo hi) (hg : 50 ≤ g) (hj : j < lo ∨ hi ≤ j) : Ag T0 (sI T g j v) lo hi := ⟨fun g' j' a b c d e => by rw [rdI, if_neg (by omega)]; exact h.1 g' j' a b c d e, h.2.1, by rw [nU_w (by omega)]; exact h.2.2.1, fun j' hj' => ⟨(h.2.2.2 j' hj').1, by rw [sI_ne (by omega)]; exact (h.2.2.2 j' hj').2⟩⟩
theorem Ag.wj {lo hi j : Nat} {v : Int64} (h : Ag T0 T lo hi) (hj : j < lo ∨ hi ≤ j) : Ag T0 (sJ T 56 j v) lo hi := ⟨h.1, fun j' d e => by rw [rdJ, if_neg (by omega)]; exact h.2.1 j' d e, h.2.2.1, fun j' hj' => ⟨by rw [sJ_ne (by omega)]; exact (h.2.2.2 j' hj').1, (h.2.2.2 j' hj').2⟩⟩
theorem Ag.adv {lo hi : Nat} (h : Ag T0 T lo hi) : Ag T0 (advS T) lo hi := ⟨fun g j a b c d e => (advS_i (by omega)).trans (h.1 g j a b c d e), fun j d e => (advS_j (by omega)).trans (h.2.1 j d e), by rw [nU_adv]; exact h.2.2.1, fun j hj => ⟨(advS_j (by omega)).trans (h.2.2.2 j hj).1, (advS_i (by omega)).trans (h.2.2.2 j hj).2⟩⟩
theorem Ag.nd {lo hi a : Nat} {k p : Int32} (h : Ag T0 T lo hi) (ha : a < lo ∨ hi ≤ a) : Ag T0 (ndS T a k p) lo hi := ⟨fun g j b c d e f => (ndS_o (by omega) (by omega)).trans (h.1 g j b c d e f), h.2.1, by rw [nU_nd]; exact h.2.2.1, fun j hj => ⟨(h.2.2.2 j hj).1, (ndS_i (by omega)).trans (h.2.2.2 j hj).2⟩⟩
theorem Ag.rg {lo hi u : Nat} (h : Ag T0 T lo hi) (hu : nU T = u) (hu2 : u < 4000) : Ag T0 (rgS T u) lo hi := ⟨fun g j b c d e f => (rgS_i (by omega) (by omega)).trans (h.1 g j b c d e f), fun j d e => (rgS_j (by omega)).trans (h.2.1 j d e), by rw [nU_rg hu2]; have := h.2.2.1; omega, fun j hj => by
  have := h.2.2.1
  have hne : j ≠ u := by omega
  unfold rgS
  simp only [rdI, rdJ, rdIJ, rdJI]
  rw [if_neg (by omega), if_neg (by omega), if_neg (by omega)]
  exact h.2.2.2 j hj⟩
theorem Fe.rf : Fe T T := ⟨Fz.rf, Ag.rf, Nat.le_refl _, fun _ _ => rfl, rfl⟩
theorem Fe.tr (h : Fe T0 T) (h2 : Fe T T') : Fe T0 T' := ⟨h.1.tr h2.1, h.2.1.tr h2.2.1 (Nat.le_refl _) h.2.2.1, Nat.le_trans h.2.2.1 h2.2.2.1, fun g q => (h2.2.2.2.1 g q).trans (h.2.2.2.1 g q), h2.2.2.2.2.trans h.2.2.2.2⟩
theorem Fe.w {g j : Nat} {v : Int32} (h : Fe T0 T) (hg : 50 ≤ g ∧ g ≤ 61) (hj : nN T0 ≤ j) : Fe T0 (sI T g j v) := ⟨h.1.w (by omega), h.2.1.w (by omega) (by omega), by rw [nN_w (by omega)]; exact h.2.2.1, fun g' q => (sI_ne (by omega)).trans (h.2.2.2.1 g' q), h.2.2.2.2⟩
theorem Fe.wj {j : Nat} {v : Int64} (h : Fe T0 T) (hj : nN T0 ≤ j) : Fe T0 (sJ T 56 j v) := ⟨h.1.wj (by omega), h.2.1.wj (by omega), h.2.2.1, h.2.2.2.1, (sJ_ne (by omega)).trans h.2.2.2.2⟩
theorem Fe.adv (h : Fe T0 T) : Fe T0 (advS T) := ⟨h.1.adv, h.2.1.adv, by rw [nN_adv]; exact h.2.2.1, fun g' q => (advS_if (by omega)).trans (h.2.2.2.1 g' q), (advS_jf (by omega)).trans h.2.2.2.2⟩
theorem Fe.nd {k p : Int32} (h : Fe T0 T) (ha : nN T < 8200) : Fe T0 (ndS T (nN T) k p) := ⟨h.1.nd, h.2.1.nd (Or.inr h.2.2.1), by rw [nN_nd ha]; have := h.2.2.1; omega, fun g' q => (funext fun j => ndS_i (by omega)).trans (h.2.2.2.1 g' q), h.2.2.2.2⟩
theorem Fe.rg {u : Nat} (h : Fe T0 T) (hu : nU T = u) (hu2 : u < 4000) : Fe T0 (rgS T u) := ⟨h.1.rg, h.2.1.rg hu hu2, by rw [nN_rg]; exact h.2.2.1, fun g' q => (funext fun j => rgS_i (by omega) (by omega)).trans (h.2.2.2.1 g' q), (funext fun j => rgS_j (by omega)).trans h.2.2.2.2⟩
/-- the fields of a node -/
def ND (T : gSt) (m : Nat) (k : Int32) (p : Int32) (o1 : Int32) (o2 : Int32) (o3 : Int32) (nx : Int32) (w : Int64) (q : Int32) (us : Int32) (mu : Int32) (fd : Int32) : Prop := T.1 50 m = k ∧ T.1 51 m = p ∧ T.1 52 m = o1 ∧ T.1 53 m = o2 ∧ T.1 54 m = o3 ∧ T.1 55 m = nx ∧ T.2 56 m = w ∧ T.1 57 m = q ∧ T.1 58 m = us ∧ T.1 59 m = mu ∧ T.1 61 m = fd
section NDS
variable {m : Nat} {k : Int32} {p : Int32} {o1 : Int32} {o2 : Int32} {o3 : Int32} {nx : Int32} {w : Int64} {q : Int32} {us : Int32} {mu : Int32} {fd : Int32}
theorem ND.nd {a : Nat} {k p : Int32} : ND (ndS T a k p) a k p (-1) (-1) (-1) (-1) (T.2 56 a) (T.1 57 a) (T.1 58 a) 0 (T.1 61 a) := by
  have e : ∀ g, (g < 49 ∨ 59 < g ∨ (56 ≤ g ∧ g ≤ 58)) → (ndS T a k p).1 g a = T.1 g a := fun g h => ndS_i h
  refine ⟨?_, ?_, ?_, ?_, ?_, ?_, rfl, e 57 (by omega), e 58 (by omega), ?_, e 61 (by omega)⟩ <;> (unfold ndS; simp only [rdI]; simp)
theorem ND.fe (h : ND T m k p o1 o2 o3 nx w q us mu fd) (hF : Fe T T') (hm : m < nN T) : ND T' m k p o1 o2 o3 nx w q us mu fd := by
  obtain ⟨c50, c51, c52, c53, c54, c55, c56, c57, c58, c59, c61⟩ := h
  exact ⟨(hF.2.1.1 50 m (by omega) (by omega) (by omega) (by omega) hm).trans c50, (hF.2.1.1 51 m (by omega) (by omega) (by omega) (by omega) hm).trans c51, (hF.2.1.1 52 m (by omega) (by omega) (by omega) (by omega) hm).trans c52, (hF.2.1.1 53 m (by omega) (by omega) (by omega) (by omega) hm).trans c53, (hF.2.1.1 54 m (by omega) (by omega) (by omega) (by omega) hm).trans c54, (hF.2.1.1 55 m (by omega) (by omega) (by omega) (by omega) hm).trans c55, (hF.2.1.2.1 m (by omega) hm).trans c56, (hF.2.1.1 57 m (by omega) (by omega) (by omega) (by omega) hm).trans c57, (hF.2.1.1 58 m (by omega) (by omega) (by omega) (by omega) hm).trans c58, (hF.2.1.1 59 m (by omega) (by omega) (by omega) (by omega) hm).trans c59, (hF.2.1.1 61 m (by omega) (by omega) (by omega) (by omega) hm).trans c61⟩
theorem ND.adv (h : ND T m k p o1 o2 o3 nx w q us mu fd) : ND (advS T) m k p o1 o2 o3 nx w q us mu fd := by
  obtain ⟨c50, c51, c52, c53, c54, c55, c56, c57, c58, c59, c61⟩ := h
  exact ⟨(advS_i (by omega)).trans c50, (advS_i (by omega)).trans c51, (advS_i (by omega)).trans c52, (advS_i (by omega)).trans c53, (advS_i (by omega)).trans c54, (advS_i (by omega)).trans c55, (advS_j (by omega)).trans c56, (advS_i (by omega)).trans c57, (advS_i (by omega)).trans c58, (advS_i (by omega)).trans c59, (advS_i (by omega)).trans c61⟩
theorem ND.rg {u : Nat} (h : ND T m k p o1 o2 o3 nx w q us mu fd) : ND (rgS T u) m k p o1 o2 o3 nx w q us mu fd := by
  obtain ⟨c50, c51, c52, c53, c54, c55, c56, c57, c58, c59, c61⟩ := h
  exact ⟨(rgS_i (by omega) (by omega)).trans c50, (rgS_i (by omega) (by omega)).trans c51, (rgS_i (by omega) (by omega)).trans c52, (rgS_i (by omega) (by omega)).trans c53, (rgS_i (by omega) (by omega)).trans c54, (rgS_i (by omega) (by omega)).trans c55, (rgS_j (by omega)).trans c56, (rgS_i (by omega) (by omega)).trans c57, (rgS_i (by omega) (by omega)).trans c58, (rgS_i (by omega) (by omega)).trans c59, (rgS_i (by omega) (by omega)).trans c61⟩
theorem ND.ndo {a : Nat} {k2 p2 : Int32} (h : ND T m k p o1 o2 o3 nx w q us mu fd) (hm : m ≠ a) : ND (ndS T a k2 p2) m k p o1 o2 o3 nx w q us mu fd := by
  obtain ⟨c50, c51, c52, c53, c54, c55, c56, c57, c58, c59, c61⟩ := h
  exact ⟨(ndS_o hm (by omega)).trans c50, (ndS_o hm (by omega)).trans c51, (ndS_o hm (by omega)).trans c52, (ndS_o hm (by omega)).trans c53, (ndS_o hm (by omega)).trans c54, (ndS_o hm (by omega)).trans c55, c56, (ndS_o hm (by omega)).trans c57, (ndS_o hm (by omega)).trans c58, (ndS_o hm (by omega)).trans c59, (ndS_o hm (by omega)).trans c61⟩
theorem ND.wo {g j : Nat} {v : Int32} (h : ND T m k p o1 o2 o3 nx w q us mu fd) (hm : m ≠ j) : ND (sI T g j v) m k p o1 o2 o3 nx w q us mu fd := by
  obtain ⟨c50, c51, c52, c53, c54, c55, c56, c57, c58, c59, c61⟩ := h
  exact ⟨(by rw [rdI, if_neg (by omega)]; exact c50), (by rw [rdI, if_neg (by omega)]; exact c51), (by rw [rdI, if_neg (by omega)]; exact c52), (by rw [rdI, if_neg (by omega)]; exact c53), (by rw [rdI, if_neg (by omega)]; exact c54), (by rw [rdI, if_neg (by omega)]; exact c55), c56, (by rw [rdI, if_neg (by omega)]; exact c57), (by rw [rdI, if_neg (by omega)]; exact c58), (by rw [rdI, if_neg (by omega)]; exact c59), (by rw [rdI, if_neg (by omega)]; exact c61)⟩
theorem ND.wjo {g j : Nat} {v : Int64} (h : ND T m k p o1 o2 o3 nx w q us mu fd) (hm : m ≠ j) : ND (sJ T g j v) m k p o1 o2 o3 nx w q us mu fd := by
  obtain ⟨c50, c51, c52, c53, c54, c55, c56, c57, c58, c59, c61⟩ := h
  exact ⟨c50, c51, c52, c53, c54, c55, (by rw [rdJ, if_neg (by omega)]; exact c56), c57, c58, c59, c61⟩
theorem ND.w50 {v : Int32} (h : ND T m k p o1 o2 o3 nx w q us mu fd) : ND (sI T 50 m v) m v p o1 o2 o3 nx w q us mu fd := by
  obtain ⟨c50, c51, c52, c53, c54, c55, c56, c57, c58, c59, c61⟩ := h
  exact ⟨sI_v, (by rw [sI_ne (by omega)]; exact c51), (by rw [sI_ne (by omega)]; exact c52), (by rw [sI_ne (by omega)]; exact c53), (by rw [sI_ne (by omega)]; exact c54), (by rw [sI_ne (by omega)]; exact c55), c56, (by rw [sI_ne (by omega)]; exact c57), (by rw [sI_ne (by omega)]; exact c58), (by rw [sI_ne (by omega)]; exact c59), (by rw [sI_ne (by omega)]; exact c61)⟩
theorem ND.w51 {v : Int32} (h : ND T m k p o1 o2 o3 nx w q us mu fd) : ND (sI T 51 m v) m k v o1 o2 o3 nx w q us mu fd := by
  obtain ⟨c50, c51, c52, c53, c54, c55, c56, c57, c58, c59, c61⟩ := h
  exact ⟨(by rw [sI_ne (by omega)]; exact c50), sI_v, (by rw [sI_ne (by omega)]; exact c52), (by rw [sI_ne (by omega)]; exact c53), (by rw [sI_ne (by omega)]; exact c54), (by rw [sI_ne (by omega)]; exact c55), c56, (by rw [sI_ne (by omega)]; exact c57), (by rw [sI_ne (by omega)]; exact c58), (by rw [sI_ne (by omega)]; exact c59), (by rw [sI_ne (by omega)]; exact c61)⟩
theorem ND.w52 {v : Int32} (h : ND T m k p o1 o2 o3 nx w q us mu fd) : ND (sI T 52 m v) m k p v o2 o3 nx w q us mu fd := by
  obtain ⟨c50, c51, c52, c53, c54, c55, c56, c57, c58, c59, c61⟩ := h
  exact ⟨(by rw [sI_ne (by omega)]; exact c50), (by rw [sI_ne (by omega)]; exact c51), sI_v, (by rw [sI_ne (by omega)]; exact c53), (by rw [sI_ne (by omega)]; exact c54), (by rw [sI_ne (by omega)]; exact c55), c56, (by rw [sI_ne (by omega)]; exact c57), (by rw [sI_ne (by omega)]; exact c58), (by rw [sI_ne (by omega)]; exact c59), (by rw [sI_ne (by omega)]; exact c61)⟩
theorem ND.w53 {v : Int32} (h : ND T m k p o1 o2 o3 nx w q us mu fd) : ND (sI T 53 m v) m k p o1 v o3 nx w q us mu fd := by
  obtain ⟨c50, c51, c52, c53, c54, c55, c56, c57, c58, c59, c61⟩ := h
  exact ⟨(by rw [sI_ne (by omega)]; exact c50), (by rw [sI_ne (by omega)]; exact c51), (by rw [sI_ne (by omega)]; exact c52), sI_v, (by rw [sI_ne (by omega)]; exact c54), (by rw [sI_ne (by omega)]; exact c55), c56, (by rw [sI_ne (by omega)]; exact c57), (by rw [sI_ne (by omega)]; exact c58), (by rw [sI_ne (by omega)]; exact c59), (by rw [sI_ne (by omega)]; exact c61)⟩
theorem ND.w54 {v : Int32} (h : ND T m k p o1 o2 o3 nx w q us mu fd) : ND (sI T 54 m v) m k p o1 o2 v nx w q us mu fd := by
  obtain ⟨c50, c51, c52, c53, c54, c55, c56, c57, c58, c59, c61⟩ := h
  exact ⟨(by rw [sI_ne (by omega)]; exact c50), (by rw [sI_ne (by omega)]; exact c51), (by rw [sI_ne (by omega)]; exact c52), (by rw [sI_ne (by omega)]; exact c53), sI_v, (by rw [sI_ne (by omega)]; exact c55), c56, (by rw [sI_ne (by omega)]; exact c57), (by rw [sI_ne (by omega)]; exact c58), (by rw [sI_ne (by omega)]; exact c59), (by rw [sI_ne (by omega)]; exact c61)⟩
theorem ND.w55 {v : Int32} (h : ND T m k p o1 o2 o3 nx w q us mu fd) : ND (sI T 55 m v) m k p o1 o2 o3 v w q us mu fd := by
  obtain ⟨c50, c51, c52, c53, c54, c55, c56, c57, c58, c59, c61⟩ := h
  exact ⟨(by rw [sI_ne (by omega)]; exact c50), (by rw [sI_ne (by omega)]; exact c51), (by rw [sI_ne (by omega)]; exact c52), (by rw [sI_ne (by omega)]; exact c53), (by rw [sI_ne (by omega)]; exact c54), sI_v, c56, (by rw [sI_ne (by omega)]; exact c57), (by rw [sI_ne (by omega)]; exact c58), (by rw [sI_ne (by omega)]; exact c59), (by rw [sI_ne (by omega)]; exact c61)⟩
theorem ND.w56 {v : Int64} (h : ND T m k p o1 o2 o3 nx w q us mu fd) : ND (sJ T 56 m v) m k p o1 o2 o3 nx v q us mu fd := by
  obtain ⟨c50, c51, c52, c53, c54, c55, c56, c57, c58, c59, c61⟩ := h
  exact ⟨c50, c51, c52, c53, c54, c55, sJ_v, c57, c58, c59, c61⟩
theorem ND.w57 {v : Int32} (h : ND T m k p o1 o2 o3 nx w q us mu fd) : ND (sI T 57 m v) m k p o1 o2 o3 nx w v us mu fd := by
  obtain ⟨c50, c51, c52, c53, c54, c55, c56, c57, c58, c59, c61⟩ := h
  exact ⟨(by rw [sI_ne (by omega)]; exact c50), (by rw [sI_ne (by omega)]; exact c51), (by rw [sI_ne (by omega)]; exact c52), (by rw [sI_ne (by omega)]; exact c53), (by rw [sI_ne (by omega)]; exact c54), (by rw [sI_ne (by omega)]; exact c55), c56, sI_v, (by rw [sI_ne (by omega)]; exact c58), (by rw [sI_ne (by omega)]; exact c59), (by rw [sI_ne (by omega)]; exact c61)⟩
theorem ND.w58 {v : Int32} (h : ND T m k p o1 o2 o3 nx w q us mu fd) : ND (sI T 58 m v) m k p o1 o2 o3 nx w q v mu fd := by
  obtain ⟨c50, c51, c52, c53, c54, c55, c56, c57, c58, c59, c61⟩ := h
  exact ⟨(by rw [sI_ne (by omega)]; exact c50), (by rw [sI_ne (by omega)]; exact c51), (by rw [sI_ne (by omega)]; exact c52), (by rw [sI_ne (by omega)]; exact c53), (by rw [sI_ne (by omega)]; exact c54), (by rw [sI_ne (by omega)]; exact c55), c56, (by rw [sI_ne (by omega)]; exact c57), sI_v, (by rw [sI_ne (by omega)]; exact c59), (by rw [sI_ne (by omega)]; exact c61)⟩
theorem ND.w59 {v : Int32} (h : ND T m k p o1 o2 o3 nx w q us mu fd) : ND (sI T 59 m v) m k p o1 o2 o3 nx w q us v fd := by
  obtain ⟨c50, c51, c52, c53, c54, c55, c56, c57, c58, c59, c61⟩ := h
  exact ⟨(by rw [sI_ne (by omega)]; exact c50), (by rw [sI_ne (by omega)]; exact c51), (by rw [sI_ne (by omega)]; exact c52), (by rw [sI_ne (by omega)]; exact c53), (by rw [sI_ne (by omega)]; exact c54), (by rw [sI_ne (by omega)]; exact c55), c56, (by rw [sI_ne (by omega)]; exact c57), (by rw [sI_ne (by omega)]; exact c58), sI_v, (by rw [sI_ne (by omega)]; exact c61)⟩
theorem ND.w61 {v : Int32} (h : ND T m k p o1 o2 o3 nx w q us mu fd) : ND (sI T 61 m v) m k p o1 o2 o3 nx w q us mu v := by
  obtain ⟨c50, c51, c52, c53, c54, c55, c56, c57, c58, c59, c61⟩ := h
  exact ⟨(by rw [sI_ne (by omega)]; exact c50), (by rw [sI_ne (by omega)]; exact c51), (by rw [sI_ne (by omega)]; exact c52), (by rw [sI_ne (by omega)]; exact c53), (by rw [sI_ne (by omega)]; exact c54), (by rw [sI_ne (by omega)]; exact c55), c56, (by rw [sI_ne (by omega)]; exact c57), (by rw [sI_ne (by omega)]; exact c58), (by rw [sI_ne (by omega)]; exact c59), sI_v⟩
end NDS
end FE
