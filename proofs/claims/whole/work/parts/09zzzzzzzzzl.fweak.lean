/-! funs on the class's side: what holds whatever there is -/
/-- between funs -/
def WF (X : Lx) (T : gSt) : Prop := TkC X T ∧ WT T ∧ WI T ∧ (∃ c, T.1 51 0 = nI c ∧ c ≤ 6032) ∧ (T.1 11 0 = 0 ∧ T.1 12 0 = 0 ∧ T.1 13 0 = 0) ∧ ∀ t, t < itN T → WJ X T t
/-- what the check of fun it and of those behind it leaves as it was -/
def FF (it : Nat) (T T' : gSt) : Prop := (∀ k, ¬ (48 ≤ k ∧ k ≤ 54) → ¬ (67 ≤ k ∧ k ≤ 76) → k ≠ 42 → T'.1 k = T.1 k) ∧ (∀ j, j < it → T'.1 42 j = T.1 42 j) ∧ (∀ q j, q ≠ 62 → q ≠ 69 → q ≠ 73 → q ≠ 77 → T'.2 q j = T.2 q j) ∧ WT T' ∧ (∀ y, tyY T y → tyY T' y) ∧ (¬ T.1 53 0 = 0 → T'.1 53 0 = T.1 53 0 ∧ T'.1 54 0 = T.1 54 0) ∧ (∀ c, T.1 51 0 = nI c → c ≤ 6032 → ∃ c', T'.1 51 0 = nI c' ∧ c ≤ c' ∧ c' ≤ 6032 ∧ ∀ g j, 48 ≤ g → g ≤ 50 → j < c → T'.1 g j = T.1 g j) ∧ T'.1 71 0 = T.1 71 0 ∧ ∀ v, v < 2 → T'.1 52 v = T.1 52 v
section FWK
variable {S S' T T' T1 T2 : gSt} {X : Lx} {nf d it e v g n k i u c m lo hi a b n0 y z p q r j s f t fl v' g' : Nat} {x op : Int32} {nm w : Int64} {xi : It}
theorem FF.rf (hW : WT T) : FF it T T := ⟨fun _ _ _ _ => rfl, fun _ _ => rfl, fun _ _ _ _ _ _ => rfl, hW, fun _ h => h, fun _ => ⟨rfl, rfl⟩, fun c h h2 => ⟨c, h, Nat.le_refl _, h2, fun _ _ _ _ _ => rfl⟩, rfl, fun _ _ => rfl⟩
theorem FF.tr (h : FF it T T1) (h2 : FF it T1 T') : FF it T T' := ⟨fun k a b c => (h2.1 k a b c).trans (h.1 k a b c), fun j a => (h2.2.1 j a).trans (h.2.1 j a), fun q j a b c d => (h2.2.2.1 q j a b c d).trans (h.2.2.1 q j a b c d), h2.2.2.2.1, fun y a => h2.2.2.2.2.1 y (h.2.2.2.2.1 y a), fun w => by
  have e1 := h.2.2.2.2.2.1 w
  have e2 := h2.2.2.2.2.2.1 (by rw [e1.1]; exact w)
  exact ⟨e2.1.trans e1.1, e2.2.trans e1.2⟩, fun c h3 h4 => by
  obtain ⟨c1, a1, a2, a3, a4⟩ := h.2.2.2.2.2.2.1 c h3 h4
  obtain ⟨c2, b1, b2, b3, b4⟩ := h2.2.2.2.2.2.2.1 c1 a1 a3
  exact ⟨c2, b1, by omega, b3, fun g j g1 g2 hj => (b4 g j g1 g2 (by omega)).trans (a4 g j g1 g2 hj)⟩, h2.2.2.2.2.2.2.2.1.trans h.2.2.2.2.2.2.2.1, fun v hv => (h2.2.2.2.2.2.2.2.2 v hv).trans (h.2.2.2.2.2.2.2.2 v hv)⟩
theorem FF.dn (h : FF s T T') (ht : t ≤ s) : FF t T T' := ⟨h.1, fun j hj => h.2.1 j (by omega), h.2.2⟩
theorem FZ.ff (h : FZ T T') : FF it T T' := ⟨fun k a b _ => h.1 k a (by omega), fun j _ => by rw [h.1 42 (by omega) (by omega)], h.2.1, h.2.2.1, h.2.2.2.1, h.2.2.2.2.1, h.2.2.2.2.2⟩
theorem FF.o (h : FF it T T') (a : ¬ (48 ≤ k ∧ k ≤ 54)) (b : ¬ (67 ≤ k ∧ k ≤ 76)) (c : k ≠ 42) : T'.1 k = T.1 k := h.1 k a b c
/-- the scope, flow and where a fun's code begins are written -/
theorem FF.sc (hW : WT T) (h1 : ∀ k, ¬ (67 ≤ k ∧ k ≤ 76) → k ≠ 42 → T'.1 k = T.1 k) (h42 : ∀ j, j < it → T'.1 42 j = T.1 42 j) (h2 : ∀ q j, q ≠ 69 → q ≠ 73 → q ≠ 77 → T'.2 q j = T.2 q j) (h71 : T'.1 71 0 = T.1 71 0) : FF it T T' := by
  have w := hW.ag2 (T' := T') (by funext j; exact h2 62 j (by omega) (by omega) (by omega)) (h2 63 0 (by omega) (by omega) (by omega)) (by rw [h1 27 (by omega) (by omega)])
  exact ⟨fun k _ b c => h1 k b c, h42, fun q j _ b c d => h2 q j b c d, w.1, w.2, fun _ => ⟨by rw [h1 53 (by omega) (by omega)], by rw [h1 54 (by omega) (by omega)]⟩, fun c h3 h4 => ⟨c, by rw [h1 51 (by omega) (by omega)]; exact h3, Nat.le_refl _, h4, fun g j g1 g2 _ => by rw [h1 g (by omega) (by omega)]⟩, h71, fun v _ => by rw [h1 52 (by omega) (by omega)]⟩
theorem TkC.ff (h : TkC X T) (hF : FF it T T') : TkC X T' := by
  unfold TkC at h ⊢
  rw [hF.o (k := 25) (by omega) (by omega) (by omega), hF.o (k := 21) (by omega) (by omega) (by omega), hF.o (k := 22) (by omega) (by omega) (by omega), hF.o (k := 23) (by omega) (by omega) (by omega)]
  refine ⟨h.1, h.2.1, fun j hj => ?_⟩
  rw [hF.2.2.1 24 j (by omega) (by omega) (by omega) (by omega)]
  exact h.2.2 j hj
theorem WJ.ff (h : WJ X T t) (hF : FF it T T') : WJ X T' t := by
  have o := fun k a b c => hF.o (k := k) a b c
  obtain ⟨n, ⟨b1, b2, b3⟩, c1, ⟨y, c2, c3⟩, d1, w, e1, e2, e3⟩ := h
  refine ⟨n, ⟨by rw [o 32 (by omega) (by omega) (by omega)]; exact b1, b2, fun k hk => by rw [o 43 (by omega) (by omega) (by omega)]; exact b3 k hk⟩, fun q hq => ?_, ⟨y, by rw [o 38 (by omega) (by omega) (by omega)]; exact c2, hF.2.2.2.2.1 y c3⟩, by rw [o 31 (by omega) (by omega) (by omega)]; exact d1, w, by rw [o 46 (by omega) (by omega) (by omega)]; exact e1, e2, fun q hq => by rw [o 47 (by omega) (by omega) (by omega)]; exact e3 q hq⟩
  obtain ⟨u, u1, u2⟩ := c1 q hq
  exact ⟨u, by rw [o 44 (by omega) (by omega) (by omega)]; exact u1, hF.2.2.2.2.1 u u2⟩
theorem WF.ff (h : WF X T) (hF : FF it T T') : WF X T' := by
  have o := fun k a b c => hF.o (k := k) a b c
  obtain ⟨a1, a2, ⟨n, a3, a3'⟩, ⟨c, a4, a4'⟩, a5, a6⟩ := h
  refine ⟨a1.ff hF, hF.2.2.2.1, ⟨n, by rw [o 27 (by omega) (by omega) (by omega)]; exact a3, a3'⟩, ?_, by rw [o 11 (by omega) (by omega) (by omega), o 12 (by omega) (by omega) (by omega), o 13 (by omega) (by omega) (by omega)]; exact a5, fun t ht => (a6 t (by unfold itN at ht ⊢; rw [o 27 (by omega) (by omega) (by omega)] at ht; exact ht)).ff hF⟩
  obtain ⟨c', b1, _, b3, _⟩ := hF.2.2.2.2.2.2.1 c a4 a4'
  exact ⟨c', b1, b3⟩
theorem HeT.ff (h : HeT X T p xi) (hF : FF it T T') : HeT X T' p xi := h.eq (fun k _ hk h42 => hF.o (by omega) (by omega) h42) (fun j => hF.2.2.1 30 j (by omega) (by omega) (by omega) (by omega))
theorem BfR.ff (h : BfR S T) (hF : FF it T T') : BfR S T' := by
  have := hF.2.2.2.2.2.1 (by rw [h.2.1]; exact h.1)
  exact ⟨h.1, this.1.trans h.2.1, this.2.trans h.2.2⟩
-- params
theorem ep_o (hk : ¬ (68 ≤ k ∧ k ≤ 71)) : ∀ (m j : Nat) (T : gSt), (epT X t m j T).1 k = T.1 k := by
  intro m
  induction m with
  | zero => intro j T; rfl
  | succ m ih =>
    intro j T
    rw [epT, ih]
    unfold epS
    show (adV T j (T.1 44 (8 * t + j)).toNatClampNeg (xN X (T.1 43 (8 * t + j)).toNatClampNeg)).1 k = _
    exact adV_o hk
theorem ep_2 (h1 : q ≠ 69) (h2 : q ≠ 77) : ∀ (m j : Nat) (T : gSt), (epT X t m j T).2 q i = T.2 q i := by
  intro m
  induction m with
  | zero => intro j T; rfl
  | succ m ih =>
    intro j T
    rw [epT, ih]
    unfold epS
    rw [rdJ, if_neg (fun z => h2 z.1)]
    exact adV_2 h1 h2
theorem ep_z : ∀ (m j : Nat) (T : gSt), (epT X t m j T).1 71 0 = T.1 71 0 := by
  intro m
  induction m with
  | zero => intro j T; rfl
  | succ m ih =>
    intro j T
    rw [epT, ih]
    unfold epS
    show (adV T j (T.1 44 (8 * t + j)).toNatClampNeg (xN X (T.1 43 (8 * t + j)).toNatClampNeg)).1 71 0 = _
    exact adV_z
theorem ep_68 : ∀ (m j : Nat) (T : gSt), T.1 68 0 = nI j → (epT X t m j T).1 68 0 = nI (j + m) := by
  intro m
  induction m with
  | zero => intro j T h; exact h
  | succ m ih =>
    intro j T h
    rw [epT, ih (j + 1) _ (by
      unfold epS
      show (adV T j (T.1 44 (8 * t + j)).toNatClampNeg (xN X (T.1 43 (8 * t + j)).toNatClampNeg)).1 68 0 = _
      unfold adV
      rw [sI_v]), show j + 1 + m = j + (m + 1) by omega]
theorem ep_70 : ∀ (m j : Nat) (T : gSt) (q : Nat), q < j + m → (epT X t m j T).1 70 q = if q < j then T.1 70 q else nI (T.1 44 (8 * t + q)).toNatClampNeg := by
  intro m
  induction m with
  | zero => intro j T q hq; rw [if_pos (by omega)]; rfl
  | succ m ih =>
    intro j T q hq
    have e70 : (epS X t j T).1 70 q = if q = j then nI (T.1 44 (8 * t + j)).toNatClampNeg else T.1 70 q := by
      unfold epS
      show (adV T j (T.1 44 (8 * t + j)).toNatClampNeg (xN X (T.1 43 (8 * t + j)).toNatClampNeg)).1 70 q = _
      exact adV_70
    have e44 : (epS X t j T).1 44 = T.1 44 := by
      unfold epS
      show (adV T j (T.1 44 (8 * t + j)).toNatClampNeg (xN X (T.1 43 (8 * t + j)).toNatClampNeg)).1 44 = _
      exact adV_o (by omega)
    rw [epT, ih (j + 1) _ q (by omega), e44, e70]
    by_cases c1 : q < j
    · rw [if_pos (by omega), if_neg (by omega), if_pos c1]
    · rw [if_neg c1]
      by_cases c2 : q = j
      · rw [if_pos (by omega), if_pos c2, c2]
      · rw [if_neg (by omega)]
/-- how many VARS and REGIONS a BLOCK may come to -/
theorem Ws_le (t : Tr) : ∀ (m a b v g v' g' : Nat), Ws X t m a b v g v' g' → v ≤ 20 → g ≤ 8 → v' ≤ 20 ∧ g' ≤ 8 := by
  induction t using Tr_ind with
  | hz t hz =>
    intro m a b v g v' g' h hv hg
    unfold Ws at h
    split at h
    · exact absurd rfl (hz _ _ _ _ _)
    · exact ⟨by omega, by omega⟩
    · exact h.elim
  | h k i e ta tb ia ib =>
    intro m a b v g v' g' h hv hg
    rw [Ws_n] at h
    unfold WsN at h
    by_cases c : m = 2
    · rw [if_pos c] at h; exact ia _ _ _ _ _ _ _ h.2.1 hv hg
    rw [if_neg c] at h; clear c
    by_cases c : m = 1
    · rw [if_pos c] at h
      obtain ⟨_, c, v1, g1, h1, h2⟩ := h
      have := ia _ _ _ _ _ _ _ h1 hv hg
      exact ib _ _ _ _ _ _ _ h2 this.1 this.2
    rw [if_neg c] at h; clear c
    by_cases c : m = 3
    · rw [if_pos c] at h
      obtain ⟨_, c, v1, g1, h1, h2⟩ := h
      have := ia _ _ _ _ _ _ _ h1 hv hg
      split at h2
      · exact ⟨by omega, by omega⟩
      · exact ib _ _ _ _ _ _ _ h2 this.1 this.2
    rw [if_neg c] at h; clear c
    by_cases c : k = 20
    · rw [if_pos c] at h; exact ⟨by omega, by omega⟩
    rw [if_neg c] at h; clear c
    by_cases c : k = 21
    · rw [if_pos c] at h
      obtain ⟨_, c, _, h2⟩ := h
      exact ib _ _ _ _ _ _ _ h2 hv hg
    rw [if_neg c] at h; clear c
    by_cases c : k = 22
    · rw [if_pos c] at h
      obtain ⟨_, c, _, h2⟩ := h
      exact ib _ _ _ _ _ _ _ h2 hv hg
    rw [if_neg c] at h; clear c
    by_cases c : k = 23
    · rw [if_pos c] at h; exact ⟨by omega, by omega⟩
    rw [if_neg c] at h; clear c
    by_cases c : k = 24 ∨ k = 25
    · rw [if_pos c] at h; exact ⟨by omega, by omega⟩
    rw [if_neg c] at h; clear c
    by_cases c : k = 30
    · rw [if_pos c] at h; exact ⟨by omega, by omega⟩
    rw [if_neg c] at h; clear c
    by_cases c : k = 29
    · rw [if_pos c] at h; exact ⟨by omega, by omega⟩
    rw [if_neg c] at h; clear c
    by_cases c : k = 26
    · rw [if_pos c] at h
      exact ia _ _ _ _ _ _ _ h.2.2 hv (by omega)
    rw [if_neg c] at h; clear c
    by_cases c : k = 27
    · rw [if_pos c] at h; exact ⟨by omega, by omega⟩
    rw [if_neg c] at h; clear c
    by_cases c : k = 28
    · rw [if_pos c] at h
      obtain ⟨_, c, v1, g1, h1, h2⟩ := h
      have := ia _ _ _ _ _ _ _ h1 hv hg
      exact ib _ _ _ _ _ _ _ h2 this.1 this.2
    rw [if_neg c] at h
    exact h.elim
/-- as the BLOCK of a fun begins, whatever there is -/
theorem WF.beg (hw : WF X T) (hit : it < itN T) (h24 : it < 24) (hm : m ≤ 8) (h32 : T.1 32 it = nI m) (h67 : T1.1 67 0 = nI it) (h68 : T1.1 68 0 = 0) (h72 : T1.1 72 0 = 4) (h76 : T1.1 76 0 = 0) (ho : ∀ g, g ≠ 67 → g ≠ 68 → g ≠ 72 → g ≠ 75 → g ≠ 76 → T1.1 g = T.1 g) (h2 : ∀ g j, ¬ (g = 73 ∧ 1 ≤ j ∧ j ≤ 3) → g ≠ 77 → T1.2 g j = T.2 g j) : WZ X (sI (epT X it m 0 T1) 42 it x) m 0 1 ∧ FF it T (sI (epT X it m 0 T1) 42 it x) := by
  have o : ∀ k, ¬ (67 ≤ k ∧ k ≤ 76) → k ≠ 42 → (sI (epT X it m 0 T1) 42 it x).1 k = T.1 k := fun k a b => by
    rw [sI_ne b, ep_o (by omega), ho k (by omega) (by omega) (by omega) (by omega) (by omega)]
  have fF : FF it T (sI (epT X it m 0 T1) 42 it x) := FF.sc hw.2.1 o (fun j hj => by
    rw [rdI, if_neg (fun w => by have := w.2; omega), ep_o (by omega), ho 42 (by omega) (by omega) (by omega) (by omega) (by omega)]) (fun q j a b c => by
    show (epT X it m 0 T1).2 q j = _
    rw [ep_2 a c, h2 q j (fun w => b w.1) c]) (by
    rw [sI_ne (by omega), ep_z, ho 71 (by omega) (by omega) (by omega) (by omega) (by omega)])
  have w2 := hw.ff fF
  obtain ⟨n, ⟨b1, b2, b3⟩, c1, _⟩ := hw.2.2.2.2.2 it hit
  have : n = m := nI_inj (by omega) (by omega) (by rw [← b1, ← h32])
  subst this
  have e68 : (sI (epT X it n 0 T1) 42 it x).1 68 0 = nI n := by
    rw [sI_ne (by omega), ep_68 n 0 T1 h68, Nat.zero_add]
  have e72 : (sI (epT X it n 0 T1) 42 it x).1 72 0 = 4 := by
    rw [sI_ne (by omega), ep_o (by omega)]; exact h72
  have e76 : (sI (epT X it n 0 T1) 42 it x).1 76 0 = 0 := by
    rw [sI_ne (by omega), ep_o (by omega)]; exact h76
  have e67 : (sI (epT X it n 0 T1) 42 it x).1 67 0 = nI it := by
    rw [sI_ne (by omega), ep_o (by omega)]; exact h67
  have e70 : ∀ j, j < n → ∃ y, (sI (epT X it n 0 T1) 42 it x).1 70 j = nI y ∧ tyY (sI (epT X it n 0 T1) 42 it x) y := fun j hj => by
    obtain ⟨y, y1, y2⟩ := c1 j hj
    have yl := y2.lt
    refine ⟨y, ?_, fF.2.2.2.2.1 y y2⟩
    rw [sI_ne (by omega), ep_70 n 0 T1 j (by omega), if_neg (by omega), ho 44 (by omega) (by omega) (by omega) (by omega) (by omega), y1, nc (by omega)]
  have ei : itN (sI (epT X it n 0 T1) 42 it x) = itN T := by unfold itN; rw [o 27 (by omega) (by omega)]
  refine ⟨⟨⟨w2.1, w2.2.1, w2.2.2.1, ⟨4, e72, by omega, by omega⟩, ⟨n, e68, by omega, e70⟩, w2.2.2.2.1, ⟨it, e67, h24, w2.2.2.2.2.1⟩, ⟨0, e76, by omega⟩, w2.2.2.2.2.2⟩, ⟨n, e68, Nat.le_refl _⟩, by omega, ⟨0, e72, Nat.le_refl _⟩, by omega, ⟨0, e76, by omega⟩, it, e67, by rw [ei]; exact hit⟩, fF⟩
end FWK
