/-! the list of types as a function; a type told with other regions -/
def cn (T : gSt) : Nat := (T.1 65 0).toNatClampNeg
def eqT (T : gSt) (x : T5) (p : Nat) : Bool := decide (rwT T p = x)
def knF (T : gSt) (x : T5) : Int32 := ff (eqT T x) 1 (cn T - 1)
def knR (T : gSt) (x : T5) : Int32 := if knF T x = -1 then T.1 65 0 else knF T x
def knS (T : gSt) (x : T5) : gSt := if knF T x = -1 then (if cn T < 6000 then adT T (cn T) x else sI T 65 0 6001) else T
abbrev kn (T : gSt) (x : T5) : Int32 × gSt := (knR T x, knS T x)
/-- how many types there are is told as it should be -/
abbrev Tg (T : gSt) : Prop := T.1 65 0 = nI (cn T) ∧ 1 ≤ cn T ∧ cn T ≤ 6001
def bdI (T : gSt) : Int32 := if T.1 7 0 = 0 then 0 else 1
section KF
variable {nf d : Nat} {T : gSt} {n p t rr : Nat} {a b c e g w x y : Int32}
theorem x_bad : RR nf (d + 1) 14 T [] [] = some (bdI T, 0, T) := by
  unfold bdI
  by_cases h : T.1 7 0 = 0
  · rw [if_pos h, q_bad0 h]
  · rw [if_neg h, q_bad1 h]
theorem bdI_0 : (bdI T = 0) = (T.1 7 0 = 0) := by
  unfold bdI
  by_cases h : T.1 7 0 = 0
  · simp [h]
  · simp [h]
theorem kf_l (hn : T.1 65 0 = nI n) (h2 : n < 6000) : ∀ (k fl i : Nat), i + k = n → k < fl → rl_Model_known_3 (RR nf d) nf fl T a b c e g (nI i) = if ff (eqT T (a, b, c, e, g)) i k = -1 then some (nI n, 0, adT T n (a, b, c, e, g)) else some (ff (eqT T (a, b, c, e, g)) i k, 0, T) := by
  intro k
  induction k with
  | zero =>
    intro fl i hi hf
    obtain ⟨fl', rfl⟩ : ∃ g, fl = g + 1 := ⟨fl - 1, by omega⟩
    have e0 : i = n := by omega
    subst e0
    rw [if_pos (show ff (eqT T (a, b, c, e, g)) i 0 = -1 from rfl)]
    have z1 : inb (nI i) 6000 := nin (by omega) (by omega)
    have c1 : (nI i).toNatClampNeg = i := nc (by omega)
    rw [rl_Model_known_3, if_pos (by rw [hn]; exact (nI_leI (by omega) (by omega)).mpr (Nat.le_refl _))]
    have o : ∀ S : gSt, S.1 65 0 = nI i → ∀ (k : Nat) (v : Int32), k ≠ 65 → (sI S k i v).1 65 0 = nI i := fun S h k v hk => by rw [sI_ne (fun e => hk e.symm)]; exact h
    have s1 := o T hn 66 a (by omega)
    have s2 := o _ s1 67 b (by omega)
    have s3 := o _ s2 68 c (by omega)
    have s4 := o _ s3 69 e (by omega)
    have s5 := o _ s4 70 g (by omega)
    simp only [gd, stK, hn, c1, s1, s2, s3, s4, s5, if_pos z1, nI_1]
    unfold adT
    rw [sI_v]
    have : nI (i + 1) - 1 = nI i := by rw [← nI_1]; exact Int32.add_sub_cancel _ _
    rw [this]
  | succ k ih =>
    intro fl i hi hf
    obtain ⟨fl', rfl⟩ : ∃ g, fl = g + 1 := ⟨fl - 1, by omega⟩
    have z1 : inb (nI i) 6000 := nin (by omega) (by omega)
    have c1 : (nI i).toNatClampNeg = i := nc (by omega)
    rw [rl_Model_known_3, if_neg (by rw [hn]; exact fun h => by have := (nI_leI (a := n) (b := i) (by omega) (by omega)).mp h; omega)]
    simp only [gd, vK, c1, if_pos z1, nI_1]
    by_cases hr : rwT T i = (a, b, c, e, g)
    · have hff : ff (eqT T (a, b, c, e, g)) i (k + 1) = nI i := ff_yes (by unfold eqT; simp [hr]) (by omega)
      rw [hff, if_neg (nI_m1 (by omega))]
      unfold rwT at hr
      simp only [Prod.mk.injEq] at hr
      rw [if_pos hr.1, if_pos hr.2.1, if_pos hr.2.2.1, if_pos hr.2.2.2.1, if_pos hr.2.2.2.2]
    · have hff : ff (eqT T (a, b, c, e, g)) i (k + 1) = ff (eqT T (a, b, c, e, g)) (i + 1) k := ff_no (by unfold eqT; simp [hr]) (by omega)
      rw [hff]
      have hs := ih fl' (i + 1) (by omega) (by omega)
      generalize rl_Model_known_3 (RR nf d) nf fl' T a b c e g (nI (i + 1)) = R at *
      have key : ∀ (o : Option (Int32 × Int64 × gSt)), (if T.1 66 i = a then if T.1 67 i = b then if T.1 68 i = c then if T.1 69 i = e then if T.1 70 i = g then o else R else R else R else R else R) = R := by
        intro o
        by_cases x1 : T.1 66 i = a
        · by_cases x2 : T.1 67 i = b
          · by_cases x3 : T.1 68 i = c
            · by_cases x4 : T.1 69 i = e
              · by_cases x5 : T.1 70 i = g
                · exact absurd (by unfold rwT; rw [x1, x2, x3, x4, x5]) hr
                · rw [if_pos x1, if_pos x2, if_pos x3, if_pos x4, if_neg x5]
              · rw [if_pos x1, if_pos x2, if_pos x3, if_neg x4]
            · rw [if_pos x1, if_pos x2, if_neg x3]
          · rw [if_pos x1, if_neg x2]
        · rw [if_neg x1]
      rw [key]
      exact hs
theorem x_kn (hg : Tg T) (h2 : cn T < 6000) (hnf : 6000 ≤ nf) : RR nf (d + 1) 41 T [a, b, c, e, g] [] = some (knR T (a, b, c, e, g), 0, knS T (a, b, c, e, g)) := by
  rw [e_Model_known]
  unfold rb_Model_known knR knS knF
  have hh := kf_l (nf := nf) (d := d) (a := a) (b := b) (c := c) (e := e) (g := g) hg.1 h2 (cn T - 1) nf 1 (by have := hg.2.1; omega) (by omega)
  refine Eq.trans hh ?_
  by_cases h : ff (eqT T (a, b, c, e, g)) 1 (cn T - 1) = -1
  · simp only [if_pos h, if_pos h2]
    rw [← hg.1]
  · simp only [if_neg h]
theorem cn_ad {x : T5} (h : n < 6000) : cn (adT T n x) = n + 1 := by
  unfold cn
  rw [adT_n, nc (by omega)]
theorem kn_tg {x : T5} (hg : Tg T) : Tg (knS T x) ∧ cn T ≤ cn (knS T x) := by
  have e1 : cn (sI T 65 0 6001) = 6001 := by
    unfold cn
    rw [sI_v]
    exact nc (m := 6001) (by omega)
  unfold knS
  by_cases h : knF T x = -1
  · rw [if_pos h]
    by_cases h2 : cn T < 6000
    · rw [if_pos h2]
      exact ⟨⟨by rw [adT_n, cn_ad h2], by rw [cn_ad h2]; omega, by rw [cn_ad h2]; omega⟩, by rw [cn_ad h2]; omega⟩
    · rw [if_neg h2]
      exact ⟨⟨by rw [e1, sI_v]; rfl, by omega, by omega⟩, by have := hg.2.2; omega⟩
  · rw [if_neg h]
    exact ⟨hg, Nat.le_refl _⟩
theorem kn_lt {x : T5} (hg : Tg T) (h : cn (knS T x) < 6000) : cn T < 6000 := Nat.lt_of_le_of_lt (kn_tg hg).2 h
theorem knS_o {x : T5} {k : Nat} (h : k < 65 ∨ 70 < k) : (knS T x).1 k = T.1 k := by
  unfold knS
  split
  · split
    · exact adT_o h
    · exact sI_ne (by omega)
  · rfl
theorem knS_j {x : T5} : (knS T x).2 = T.2 := by
  unfold knS
  split
  · split
    · rfl
    · rfl
  · rfl
/-! a type told with other regions -/
def chP (w c : Int32) : Int32 := if c < 1 then c else if 3 < c then c else ptOf w (c - 1)
def chW (w o : Int32) : Nat → Nat → Int32 → Int32
  | 0, _, all => all
  | m + 1, k, all => chW w o m (k + 1) (all ||| (chP w (ptOf o (nI k)) <<< (((10 : Int32) * nI k) &&& 31)))
theorem chg_l (hp : p < 6000) (ht : T.1 69 p = nI t) (ht2 : t < 24) (hr : T.1 15 t = nI rr) (hrr : rr ≤ 3) (hg : Tg T) (h2 : cn T < 6000) (hnf : 6000 ≤ nf) : ∀ (k fl i : Nat) (all : Int32), i + k = rr → k < fl → rl_Model_changed_88 (RR nf (d + 1)) nf fl T (nI p) w y all (nI i) = some (knR T (T.1 66 p, y, -1, nI t, chW w (T.1 70 p) k i all), 0, knS T (T.1 66 p, y, -1, nI t, chW w (T.1 70 p) k i all)) := by
  have zp : inb (nI p) 6000 := nin (by omega) (by omega)
  have cp : (nI p).toNatClampNeg = p := nc (by omega)
  have zt : inb (nI t) 24 := nin (by omega) (by omega)
  have ct : (nI t).toNatClampNeg = t := nc (by omega)
  intro k
  induction k with
  | zero =>
    intro fl i all hi hf
    obtain ⟨fl', rfl⟩ : ∃ g, fl = g + 1 := ⟨fl - 1, by omega⟩
    rw [rl_Model_changed_88]
    simp only [gd, if_pos zp, cp, ht, if_pos zt, ct, hr]
    rw [if_pos ((nI_leI (by omega) (by omega)).mpr (by omega)), x_kn hg h2 hnf]
    rfl
  | succ k ih =>
    intro fl i all hi hf
    obtain ⟨fl', rfl⟩ : ∃ g, fl = g + 1 := ⟨fl - 1, by omega⟩
    rw [rl_Model_changed_88]
    simp only [gd, if_pos zp, cp, ht, if_pos zt, ct, hr]
    rw [if_neg (fun h => by have := (nI_leI (a := rr) (b := i) (by omega) (by omega)).mp h; omega)]
    simp only [x_part, bi, vK, nI_1]
    rw [chW]
    have hh := ih fl' (i + 1) (all ||| (chP w (ptOf (T.1 70 p) (nI i)) <<< (((10 : Int32) * nI i) &&& 31))) (by omega) (by omega)
    unfold chP at hh ⊢
    by_cases k1 : ptOf (T.1 70 p) (nI i) < 1
    · rw [if_pos k1] at hh ⊢
      rw [if_pos k1]
      exact hh
    · rw [if_neg k1] at hh ⊢
      rw [if_neg k1]
      by_cases k3 : 3 < ptOf (T.1 70 p) (nI i)
      · rw [if_pos k3] at hh ⊢
        rw [if_pos k3]
        exact hh
      · rw [if_neg k3] at hh ⊢
        rw [if_neg k3]
        exact hh
def chT : Nat → gSt → Int32 → Int32 → Int32 × gSt
  | 0, T, x, _ => (x, T)
  | f + 1, T, x, w => if 0 < x then (if 0 ≤ T.1 69 x.toNatClampNeg then kn T (T.1 66 x.toNatClampNeg, chP w (T.1 67 x.toNatClampNeg), -1, T.1 69 x.toNatClampNeg, chW w (T.1 70 x.toNatClampNeg) (T.1 15 (T.1 69 x.toNatClampNeg).toNatClampNeg).toNatClampNeg 0 0) else kn (chT f T (T.1 68 x.toNatClampNeg) w).2 (T.1 66 x.toNatClampNeg, chP w (T.1 67 x.toNatClampNeg), (chT f T (T.1 68 x.toNatClampNeg) w).1, -1, 0)) else (x, T)
/-- a type of at most so many pointers, one in another -/
def dOk (T : gSt) : Nat → Int32 → Prop
  | 0, x => ¬ 0 < x
  | f + 1, x => 0 < x → ∃ p, x = nI p ∧ p < 6000 ∧ p < cn T ∧ (if 0 ≤ T.1 69 p then ∃ t rr, T.1 69 p = nI t ∧ t < 24 ∧ T.1 15 t = nI rr ∧ rr ≤ 3 else dOk T f (T.1 68 p))
theorem chT_tg : ∀ (f : Nat) (T : gSt) (x : Int32), Tg T → Tg (chT f T x w).2 ∧ cn T ≤ cn (chT f T x w).2 := by
  intro f
  induction f with
  | zero => intro T x h; exact ⟨h, Nat.le_refl _⟩
  | succ f ih =>
    intro T x h
    rw [chT]
    split
    · split
      · exact kn_tg h
      · have h1 := ih T (T.1 68 x.toNatClampNeg) h
        have h2 := kn_tg (x := (T.1 66 x.toNatClampNeg, chP w (T.1 67 x.toNatClampNeg), (chT f T (T.1 68 x.toNatClampNeg) w).1, -1, 0)) h1.1
        exact ⟨h2.1, Nat.le_trans h1.2 h2.2⟩
    · exact ⟨h, Nat.le_refl _⟩
theorem chT_o {k : Nat} (h : k < 65 ∨ 70 < k) : ∀ (f : Nat) (T : gSt) (x : Int32), (chT f T x w).2.1 k = T.1 k := by
  intro f
  induction f with
  | zero => intro T x; rfl
  | succ f ih =>
    intro T x
    rw [chT]
    split
    · split
      · exact knS_o h
      · exact (knS_o h).trans (ih T _)
    · rfl
theorem chT_j : ∀ (f : Nat) (T : gSt) (x : Int32), (chT f T x w).2.2 = T.2 := by
  intro f
  induction f with
  | zero => intro T x; rfl
  | succ f ih =>
    intro T x
    rw [chT]
    split
    · split
      · exact knS_j
      · exact knS_j.trans (ih T _)
    · rfl
theorem x_chg (hnf : 6000 ≤ nf) : ∀ (f d : Nat) (T : gSt) (x : Int32), dOk T f x → Tg T → cn (chT f T x w).2 < 6000 → RR nf (d + f + 2) 43 T [x, w] [] = some ((chT f T x w).1, 0, (chT f T x w).2) := by
  intro f
  induction f with
  | zero =>
    intro d T x hd hg hc
    rw [e_Model_changed nf (d + 0 + 1)]
    unfold rb_Model_changed
    rw [if_neg hd]
    rfl
  | succ f ih =>
    intro d T x hd hg hc
    rw [e_Model_changed nf (d + (f + 1) + 1)]
    unfold rb_Model_changed
    rcases Decidable.em (0 < x) with hx | hx
    rotate_left
    · rw [if_neg hx, chT, if_neg hx]
    obtain ⟨p, rfl, hp, -, hq⟩ := hd hx
    have zp : inb (nI p) 6000 := nin (by omega) (by omega)
    have cp : (nI p).toNatClampNeg = p := nc (by omega)
    rw [chT, if_pos hx] at hc ⊢
    rw [if_pos hx]
    simp only [cp] at hc ⊢
    simp only [gd, if_pos zp, x_part, bi]
    have hj : rj_Model_changed_47 (RR nf (d + (f + 1) + 1)) nf T (nI p) w (chP w (T.1 67 p)) = some ((if 0 ≤ T.1 69 p then kn T (T.1 66 p, chP w (T.1 67 p), -1, T.1 69 p, chW w (T.1 70 p) (T.1 15 (T.1 69 p).toNatClampNeg).toNatClampNeg 0 0) else kn (chT f T (T.1 68 p) w).2 (T.1 66 p, chP w (T.1 67 p), (chT f T (T.1 68 p) w).1, -1, 0)).1, 0, (if 0 ≤ T.1 69 p then kn T (T.1 66 p, chP w (T.1 67 p), -1, T.1 69 p, chW w (T.1 70 p) (T.1 15 (T.1 69 p).toNatClampNeg).toNatClampNeg 0 0) else kn (chT f T (T.1 68 p) w).2 (T.1 66 p, chP w (T.1 67 p), (chT f T (T.1 68 p) w).1, -1, 0)).2) := by
      unfold rj_Model_changed_47
      simp only [gd, if_pos zp, cp]
      by_cases h9 : 0 ≤ T.1 69 p
      · simp only [if_pos h9] at hc hq ⊢
        obtain ⟨t, rr, q1, q2, q3, q4⟩ := hq
        have e1 : (T.1 15 (T.1 69 p).toNatClampNeg).toNatClampNeg = rr := by rw [q1, nc (by omega), q3, nc (by omega)]
        have hh := chg_l (d := d + f + 1) (w := w) (y := chP w (T.1 67 p)) hp q1 q2 q3 q4 hg (kn_lt hg hc) hnf rr nf 0 0 (by omega) (by omega)
        simp only [e1]
        rw [q1]
        exact hh
      · simp only [if_neg h9] at hc hq ⊢
        have h1 := chT_tg (w := w) f T (T.1 68 p) hg
        have hc1 := kn_lt h1.1 hc
        rw [show d + (f + 1) + 1 = d + f + 2 from by omega, ih d T (T.1 68 p) hq hg hc1]
        simp only [bi]
        rw [x_kn (d := d + f + 1) h1.1 hc1 hnf]
    refine Eq.trans ?_ hj
    unfold chP
    by_cases k1 : T.1 67 p < 1
    · rw [if_pos k1, if_pos k1]
    · rw [if_neg k1, if_neg k1]
      by_cases k3 : 3 < T.1 67 p
      · rw [if_pos k3, if_pos k3]
      · rw [if_neg k3, if_neg k3]
end KF
