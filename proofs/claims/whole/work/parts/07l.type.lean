/-! TYPES as they are written -/
def pTy (K : Nat → Nat) : Nat → Bool → Nat → Except Nat Nat
  | 0, _, i => .error i
  | f + 1, c, i => if c = true ∧ K i = 3 then .ok (i + 1 + rgs K 3 (i + 1)) else if K i = 59 ∨ K i = 55 then (if K (i + 1) = 4 then pTy K f true (i + 2) else .error (i + 1)) else if K i = 60 then (if K (i + 1) = 4 then pTy K f false (i + 2) else .error (i + 1)) else if K i = 26 then .ok (i + 1) else .error i
theorem pTy_cell {K : Nat → Nat} {f i : Nat} (h : K i ≠ 3) : pTy K f true i = pTy K f false i := by
  cases f with
  | zero => rfl
  | succ f => rw [pTy, pTy, if_neg (show ¬ (true = true ∧ K i = 3) from fun q => h q.2), if_neg (show ¬ (false = true ∧ K i = 3) from fun q => h q.2)]
/-- how the reference holds a written TYPE: its nodes follow each other -/
def RepW (X : Lx) (T : gSt) : Nat → Nat → Nat → Prop
  | 0, _, _ => False
  | f + 1, w, i => w < nW T ∧ (if xK X i = 26 then T.1 38 w = 0 else T.1 38 w = (if xK X i = 59 then 1 else if xK X i = 55 then 2 else 3) ∧ (∃ u, T.1 39 w = nI u ∧ RepU X T u (i + 1) 1) ∧ (if xK X i ≠ 60 ∧ xK X (i + 2) = 3 then T.1 42 w = nI (xP X (i + 2)) ∧ T.2 41 w = xN X (i + 2) ∧ ∃ u, T.1 43 w = nI u ∧ T.1 44 w = nI (rgs (xK X) 3 (i + 3)) ∧ RepU X T u (i + 3) (rgs (xK X) 3 (i + 3)) else T.1 42 w = -1 ∧ T.1 40 w = nI (w + 1) ∧ RepW X T f (w + 1) (i + 2)))
abbrev Gw (T : gSt) (i : Nat) : Prop := T.1 37 0 = nI (nW T) ∧ nW T ≤ i
/-- T' has all uses and written TYPES that T had -/
abbrev Aw (T T' : gSt) : Prop := nU T ≤ nU T' ∧ (∀ j, j < nU T → T'.2 46 j = T.2 46 j ∧ T'.1 47 j = T.1 47 j) ∧ nW T ≤ nW T' ∧ (∀ g j, 38 ≤ g → g ≤ 44 → j < nW T → T'.1 g j = T.1 g j) ∧ ∀ j, j < nW T → T'.2 41 j = T.2 41 j
theorem RepU.aw {X : Lx} {T T' : gSt} {u i e : Nat} (h : Aw T T') (hu : RepU X T u i e) : RepU X T' u i e := ⟨by have := h.1; omega, fun k hk => by rw [(h.2.1 (u + k) (by omega)).1, (h.2.1 (u + k) (by omega)).2]; exact hu.2 k hk⟩
/-- the same from a node on -/
abbrev Av (T T' : gSt) (w : Nat) : Prop := nU T ≤ nU T' ∧ (∀ j, j < nU T → T'.2 46 j = T.2 46 j ∧ T'.1 47 j = T.1 47 j) ∧ nW T ≤ nW T' ∧ (∀ g j, 38 ≤ g → g ≤ 44 → w ≤ j → j < nW T → T'.1 g j = T.1 g j) ∧ ∀ j, w ≤ j → j < nW T → T'.2 41 j = T.2 41 j
theorem Aw.av {T T' : gSt} {w : Nat} (h : Aw T T') : Av T T' w := ⟨h.1, h.2.1, h.2.2.1, fun g j a b _ c => h.2.2.2.1 g j a b c, fun j _ c => h.2.2.2.2 j c⟩
theorem RepU.av {X : Lx} {T T' : gSt} {u i e w : Nat} (h : Av T T' w) (hu : RepU X T u i e) : RepU X T' u i e := ⟨by have := h.1; omega, fun k hk => by rw [(h.2.1 (u + k) (by omega)).1, (h.2.1 (u + k) (by omega)).2]; exact hu.2 k hk⟩
theorem RepW.av {X : Lx} {T T' : gSt} : ∀ (f w i : Nat), Av T T' w → RepW X T f w i → RepW X T' f w i := by
  intro f
  induction f with
  | zero => intro w i _ hr; exact hr
  | succ f ih =>
    intro w i h hr
    rw [RepW] at hr ⊢
    obtain ⟨h1, h2⟩ := hr
    have o : ∀ g, 38 ≤ g → g ≤ 44 → T'.1 g w = T.1 g w := fun g a b => h.2.2.2.1 g w a b (Nat.le_refl _) h1
    refine ⟨Nat.lt_of_lt_of_le h1 h.2.2.1, ?_⟩
    split at h2
    · rename_i c; rw [if_pos c, o 38 (by omega) (by omega)]; exact h2
    · rename_i c
      rw [if_neg c, o 38 (by omega) (by omega), o 39 (by omega) (by omega)]
      obtain ⟨a1, ⟨u, a2, a3⟩, a4⟩ := h2
      refine ⟨a1, ⟨u, a2, RepU.av h a3⟩, ?_⟩
      split at a4
      · rename_i c
        rw [if_pos c, o 42 (by omega) (by omega), o 43 (by omega) (by omega), o 44 (by omega) (by omega), h.2.2.2.2 w (Nat.le_refl _) h1]
        obtain ⟨b1, b2, u', b3, b4, b5⟩ := a4
        exact ⟨b1, b2, u', b3, b4, RepU.av h b5⟩
      · rename_i c
        rw [if_neg c, o 42 (by omega) (by omega), o 40 (by omega) (by omega)]
        obtain ⟨b1, b2, b3⟩ := a4
        exact ⟨b1, b2, ih (w + 1) (i + 2) ⟨h.1, h.2.1, h.2.2.1, fun g j a b c d => h.2.2.2.1 g j a b (by omega) d, fun j c d => h.2.2.2.2 j (by omega) d⟩ b3⟩
/-- what reading a TYPE leaves as it was -/
abbrev Ft (T T' : gSt) : Prop := Fz T T' ∧ (∀ g, 49 ≤ g → g ≤ 63 → T'.1 g = T.1 g) ∧ T'.2 56 = T.2 56 ∧ Aw T T'
section WX
variable {nf d : Nat} {T T0 T1 T2 : gSt} {X : Lx} {e B i m n : Nat}
theorem Aw.rf : Aw T T := ⟨Nat.le_refl _, fun _ _ => ⟨rfl, rfl⟩, Nat.le_refl _, fun _ _ _ _ _ => rfl, fun _ _ => rfl⟩
theorem Aw.tr (h : Aw T0 T) (h2 : Aw T T1) : Aw T0 T1 := ⟨Nat.le_trans h.1 h2.1, fun j hj => ⟨(h2.2.1 j (Nat.lt_of_lt_of_le hj h.1)).1.trans (h.2.1 j hj).1, (h2.2.1 j (Nat.lt_of_lt_of_le hj h.1)).2.trans (h.2.1 j hj).2⟩, Nat.le_trans h.2.2.1 h2.2.2.1, fun g j a b c => (h2.2.2.2.1 g j a b (Nat.lt_of_lt_of_le c h.2.2.1)).trans (h.2.2.2.1 g j a b c), fun j c => (h2.2.2.2.2 j (Nat.lt_of_lt_of_le c h.2.2.1)).trans (h.2.2.2.2 j c)⟩
theorem Ft.rf : Ft T T := ⟨Fz.rf, fun _ _ _ => rfl, rfl, Aw.rf⟩
theorem Ft.tr (h : Ft T0 T) (h2 : Ft T T1) : Ft T0 T1 := ⟨h.1.tr h2.1, fun g a b => (h2.2.1 g a b).trans (h.2.1 g a b), h2.2.2.1.trans h.2.2.1, h.2.2.2.tr h2.2.2.2⟩
theorem nW_w {g j : Nat} {v : Int32} (h : g ≠ 37) : nW (sI T g j v) = nW T := by
  unfold nW
  rw [sI_ne (fun e => h e.symm)]
theorem nW_adv : nW (advS T) = nW T := by
  unfold nW
  rw [advS_i (by omega)]
theorem Ft.adv (h : Ft T0 T) : Ft T0 (advS T) := ⟨h.1.adv, fun g a b => (advS_if (by omega)).trans (h.2.1 g a b), (advS_jf (by omega)).trans h.2.2.1, ⟨by rw [nU_adv]; exact h.2.2.2.1, fun j hj => ⟨(advS_j (by omega)).trans (h.2.2.2.2.1 j hj).1, (advS_i (by omega)).trans (h.2.2.2.2.1 j hj).2⟩, by rw [nW_adv]; exact h.2.2.2.2.2.1, fun g j a b c => (advS_i (by omega)).trans (h.2.2.2.2.2.2.1 g j a b c), fun j c => (advS_j (by omega)).trans (h.2.2.2.2.2.2.2 j c)⟩⟩
theorem Ft.w {g j : Nat} {v : Int32} (h : Ft T0 T) (hg : 38 ≤ g ∧ g ≤ 44) (hj : nW T0 ≤ j) : Ft T0 (sI T g j v) := ⟨h.1.w (by omega), fun g' a b => (sI_ne (by omega)).trans (h.2.1 g' a b), h.2.2.1, ⟨by rw [nU_w (by omega)]; exact h.2.2.2.1, fun j' hj' => ⟨(h.2.2.2.2.1 j' hj').1, (by rw [sI_ne (by omega)]; exact (h.2.2.2.2.1 j' hj').2)⟩, by rw [nW_w (by omega)]; exact h.2.2.2.2.2.1, fun g' j' a b c => by rw [rdI, if_neg (by omega)]; exact h.2.2.2.2.2.2.1 g' j' a b c, h.2.2.2.2.2.2.2⟩⟩
theorem Ft.wj {j : Nat} {v : Int64} (h : Ft T0 T) (hj : nW T0 ≤ j) : Ft T0 (sJ T 41 j v) := ⟨h.1.wj (by omega), h.2.1, (sJ_ne (by omega)).trans h.2.2.1, ⟨h.2.2.2.1, fun j' hj' => ⟨by rw [sJ_ne (by omega)]; exact (h.2.2.2.2.1 j' hj').1, (h.2.2.2.2.1 j' hj').2⟩, h.2.2.2.2.2.1, h.2.2.2.2.2.2.1, fun j' c => by rw [rdJ, if_neg (by omega)]; exact h.2.2.2.2.2.2.2 j' c⟩⟩
theorem Gd.wt {g j : Nat} {v : Int32} (h : Gd X T i) (hg : 37 ≤ g ∧ g ≤ 44) : Gd X (sI T g j v) i := ⟨h.1.w (by omega), by rw [sI_ne (by omega)]; exact h.2.1, by rw [sI_ne (by omega), nN_w (by omega)]; exact h.2.2.1, by rw [sI_ne (by omega), nU_w (by omega)]; exact h.2.2.2.1, by rw [nU_w (by omega)]; exact h.2.2.2.2⟩
/-- the same small steps, whatever comes behind -/
theorem g_need (hX : LX X) {j : Nat} {c : Int32} (k : Nat) (hG : Gd X T1 j) (hc : chK k = c) (hk0 : 40 ≤ k) (hk1 : k < 63) {kk : Int32 → Int64 → gSt → gR} {Q : Int32 → Int64 → gSt → Prop} (hY : xK X j = k → j < xn X → wp (kk 0 0 (advS T1)) Q) (hN : xK X j ≠ k → ∀ T2, Zb X j T1 (nN T1) T2 → wp (kk 0 0 T2) Q) : wp (bi (RR nf (d + 4) 20 T1 [c] []) kk) Q := by
  by_cases hk : xK X j = k
  · exact wp_be (q_ndY hX hG.1 hG.2.1 k hc hk hk0) (hY hk (hG.lt hX (by omega)))
  · exact wp_be (q_ndN hX hG.1 hG.2.1 k hc hk hk0 hk1) (hN hk _ (hG.fail Fz.rf (Nat.le_refl _)))
theorem g_name (hX : LX X) {j : Nat} (hG : Gd X T1 j) {kk : Int32 → Int64 → gSt → gR} {Q : Int32 → Int64 → gSt → Prop} (hY : xK X j = 2 → j < xn X → wp (kk 0 (xN X j) (advS T1)) Q) (hN : xK X j ≠ 2 → ∀ w T2, Zb X j T1 (nN T1) T2 → wp (kk 0 w T2) Q) : wp (bi (RR nf (d + 3) 21 T1 [] []) kk) Q := by
  by_cases hk : xK X j = 2
  · refine wp_be (q_nmY hX hG.1 hG.2.1 hk) ?_
    rw [hG.1.2.2.2.2.2.2.2.2 (Or.inl hk)]
    exact hY hk (hG.lt hX (by omega))
  · exact wp_be (q_nmN hX hG.1 hG.2.1 hk) (hN hk _ _ (hG.fail Fz.rf (Nat.le_refl _)))
theorem Ft.rg {u : Nat} (h : Ft T0 T) (hu : nU T = u) (hu2 : u < 4000) : Ft T0 (rgS T u) := by
  have hle := h.2.2.2.1
  refine ⟨h.1.rg, fun g a b => (funext fun j => rgS_i (by omega) (by omega)).trans (h.2.1 g a b), (funext fun j => rgS_j (by omega)).trans h.2.2.1, by rw [nU_rg hu2]; omega, fun j hj => ?_, ?_, fun g j a b c => (rgS_i (by omega) (by omega)).trans (h.2.2.2.2.2.2.1 g j a b c), fun j c => (rgS_j (by omega)).trans (h.2.2.2.2.2.2.2 j c)⟩
  · have hne : j ≠ u := by omega
    unfold rgS
    simp only [rdI, rdJ, rdIJ, rdJI]
    rw [if_neg (by omega), if_neg (by omega), if_neg (by omega)]
    exact h.2.2.2.2.1 j hj
  · have : nW (rgS T u) = nW T := by unfold nW; rw [rgS_i (by omega) (by omega)]
    rw [this]
    exact h.2.2.2.2.2.1
theorem g_region (hX : LX X) {j : Nat} (hG : Gd X T1 j) {kk : Int32 → Int64 → gSt → gR} {Q : Int32 → Int64 → gSt → Prop} (hY : xK X j = 4 → ∀ T2, Gd X T2 (j + 1) → Fe T1 T2 → Ft T1 T2 → nN T2 = nN T1 → RepU X T2 (nU T1) j 1 → nU T2 = nU T1 + 1 → (∀ q k p o1 o2 o3 nx w s us mu fd, ND T1 q k p o1 o2 o3 nx w s us mu fd → ND T2 q k p o1 o2 o3 nx w s us mu fd) → wp (kk (nI (nU T1)) 0 T2) Q) (hN : xK X j ≠ 4 → ∀ T2, Zb X j T1 (nN T1) T2 → wp (kk 0 0 T2) Q) : wp (bi (RR nf (d + 3) 22 T1 [] []) kk) Q := by
  by_cases hk : xK X j = 4
  · have hj := hG.lt hX (by omega)
    have hx := hX.1
    have hu : nU T1 < 4000 := by have := hG.2.2.2.2; omega
    refine wp_be (q_rgY hX hG.1 hG.2.1 hk hG.2.2.2.1 hu) ?_
    have gA : AtM X (advS (rgS T1 (nU T1))) (j + 1) := adv_at hX (rgS_at hG.1) hj
    refine hY hk _ ⟨gA, ?_, ?_, ?_, ?_⟩ ((Fe.rf.rg rfl hu).adv) ((Ft.rf.rg rfl hu).adv) ?_ ⟨?_, ?_⟩ ?_ (fun q k p o1 o2 o3 nx w s us mu fd h => h.rg.adv)
    · rw [advS_i (by omega), rgS_i (by omega) (by omega)]; exact hG.2.1
    · rw [advS_i (by omega), rgS_i (by omega) (by omega), nN_adv, nN_rg]; exact hG.2.2.1
    · rw [advS_i (by omega), nU_adv, nU_rg hu]; unfold rgS; simp only [rdI]; simp
    · rw [nU_adv, nU_rg hu]; have := hG.2.2.2.2; omega
    · rw [nN_adv, nN_rg]
    · rw [nU_adv, nU_rg hu]; omega
    · intro k hk'
      have e0 : k = 0 := by omega
      subst e0
      rw [advS_j (by omega), advS_i (by omega)]
      unfold rgS
      simp only [rdI, rdJ, rdIJ, rdJI]
      simp
      exact ⟨hG.1.2.2.2.2.2.2.2.2 (by omega), hG.pl⟩
    · rw [nU_adv, nU_rg hu]
  · exact wp_be (q_rgN hX hG.1 hG.2.1 hk) (hN hk _ (hG.fail Fz.rf (Nat.le_refl _)))
end WX
/-- the fields of a written TYPE -/
def WD (T : gSt) (m : Nat) (kd : Int32) (us : Int32) (inn : Int32) (ti : Int64) (tp : Int32) (fi : Int32) (mn : Int32) : Prop := T.1 38 m = kd ∧ T.1 39 m = us ∧ T.1 40 m = inn ∧ T.2 41 m = ti ∧ T.1 42 m = tp ∧ T.1 43 m = fi ∧ T.1 44 m = mn
section WDS
variable {T T' : gSt} {m : Nat} {kd : Int32} {us : Int32} {inn : Int32} {ti : Int64} {tp : Int32} {fi : Int32} {mn : Int32}
theorem WD.ft (h : WD T m kd us inn ti tp fi mn) (hF : Ft T T') (hm : m < nW T) : WD T' m kd us inn ti tp fi mn := by
  obtain ⟨c38, c39, c40, c41, c42, c43, c44⟩ := h
  exact ⟨(hF.2.2.2.2.2.2.1 38 m (by omega) (by omega) hm).trans c38, (hF.2.2.2.2.2.2.1 39 m (by omega) (by omega) hm).trans c39, (hF.2.2.2.2.2.2.1 40 m (by omega) (by omega) hm).trans c40, (hF.2.2.2.2.2.2.2 m hm).trans c41, (hF.2.2.2.2.2.2.1 42 m (by omega) (by omega) hm).trans c42, (hF.2.2.2.2.2.2.1 43 m (by omega) (by omega) hm).trans c43, (hF.2.2.2.2.2.2.1 44 m (by omega) (by omega) hm).trans c44⟩
theorem WD.adv (h : WD T m kd us inn ti tp fi mn) : WD (advS T) m kd us inn ti tp fi mn := by
  obtain ⟨c38, c39, c40, c41, c42, c43, c44⟩ := h
  exact ⟨(advS_i (by omega)).trans c38, (advS_i (by omega)).trans c39, (advS_i (by omega)).trans c40, (advS_j (by omega)).trans c41, (advS_i (by omega)).trans c42, (advS_i (by omega)).trans c43, (advS_i (by omega)).trans c44⟩
theorem WD.w38 {v : Int32} (h : WD T m kd us inn ti tp fi mn) : WD (sI T 38 m v) m v us inn ti tp fi mn := by
  obtain ⟨c38, c39, c40, c41, c42, c43, c44⟩ := h
  exact ⟨sI_v, (by rw [sI_ne (by omega)]; exact c39), (by rw [sI_ne (by omega)]; exact c40), c41, (by rw [sI_ne (by omega)]; exact c42), (by rw [sI_ne (by omega)]; exact c43), (by rw [sI_ne (by omega)]; exact c44)⟩
theorem WD.w39 {v : Int32} (h : WD T m kd us inn ti tp fi mn) : WD (sI T 39 m v) m kd v inn ti tp fi mn := by
  obtain ⟨c38, c39, c40, c41, c42, c43, c44⟩ := h
  exact ⟨(by rw [sI_ne (by omega)]; exact c38), sI_v, (by rw [sI_ne (by omega)]; exact c40), c41, (by rw [sI_ne (by omega)]; exact c42), (by rw [sI_ne (by omega)]; exact c43), (by rw [sI_ne (by omega)]; exact c44)⟩
theorem WD.w40 {v : Int32} (h : WD T m kd us inn ti tp fi mn) : WD (sI T 40 m v) m kd us v ti tp fi mn := by
  obtain ⟨c38, c39, c40, c41, c42, c43, c44⟩ := h
  exact ⟨(by rw [sI_ne (by omega)]; exact c38), (by rw [sI_ne (by omega)]; exact c39), sI_v, c41, (by rw [sI_ne (by omega)]; exact c42), (by rw [sI_ne (by omega)]; exact c43), (by rw [sI_ne (by omega)]; exact c44)⟩
theorem WD.w41 {v : Int64} (h : WD T m kd us inn ti tp fi mn) : WD (sJ T 41 m v) m kd us inn v tp fi mn := by
  obtain ⟨c38, c39, c40, c41, c42, c43, c44⟩ := h
  exact ⟨c38, c39, c40, sJ_v, c42, c43, c44⟩
theorem WD.w42 {v : Int32} (h : WD T m kd us inn ti tp fi mn) : WD (sI T 42 m v) m kd us inn ti v fi mn := by
  obtain ⟨c38, c39, c40, c41, c42, c43, c44⟩ := h
  exact ⟨(by rw [sI_ne (by omega)]; exact c38), (by rw [sI_ne (by omega)]; exact c39), (by rw [sI_ne (by omega)]; exact c40), c41, sI_v, (by rw [sI_ne (by omega)]; exact c43), (by rw [sI_ne (by omega)]; exact c44)⟩
theorem WD.w43 {v : Int32} (h : WD T m kd us inn ti tp fi mn) : WD (sI T 43 m v) m kd us inn ti tp v mn := by
  obtain ⟨c38, c39, c40, c41, c42, c43, c44⟩ := h
  exact ⟨(by rw [sI_ne (by omega)]; exact c38), (by rw [sI_ne (by omega)]; exact c39), (by rw [sI_ne (by omega)]; exact c40), c41, (by rw [sI_ne (by omega)]; exact c42), sI_v, (by rw [sI_ne (by omega)]; exact c44)⟩
theorem WD.w44 {v : Int32} (h : WD T m kd us inn ti tp fi mn) : WD (sI T 44 m v) m kd us inn ti tp fi v := by
  obtain ⟨c38, c39, c40, c41, c42, c43, c44⟩ := h
  exact ⟨(by rw [sI_ne (by omega)]; exact c38), (by rw [sI_ne (by omega)]; exact c39), (by rw [sI_ne (by omega)]; exact c40), c41, (by rw [sI_ne (by omega)]; exact c42), (by rw [sI_ne (by omega)]; exact c43), sI_v⟩
end WDS
