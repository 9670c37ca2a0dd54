/-! what STEPS keep of what is known of VARS */
-/
/-- names that STEPS give something to */
-/
def asM (X : Lx) (A B : Int64 → Prop) (ta : Tr) (k : Nat) (nm : Int64) : Prop :=
  if k = 31 ∨ k = 26 then A nm else if k = 11 ∨ k = 12 ∨ k = 28 then A nm ∨ B nm else if k = 21 ∨ k = 22 then B nm else if k = 29 then tkd X ta = 4 ∧ nm = xN X (lfI ta) else False
def asN (X : Lx) : Tr → Int64 → Prop
  | .add (.add (.var k) (.add (.var _) (.var _))) (.add a b), nm => asM X (asN X a) (asN X b) a k nm
  | _, _ => False
/-- row u of the VARS in sight is given something */
-/
def AsR (X : Lx) (t : Tr) (S : gSt) (u : Nat) : Prop := ∃ nm, asN X t nm ∧ fd (isVa S nm) (vn S) = nI u
/-- slots of VARS in sight: below v, each its own */
-/
def SlB (S : gSt) (v : Nat) : Prop := v ≤ 20 ∧ vn S ≤ 20 ∧ (∀ u, u < vn S → ∃ s, S.1 79 u = nI s ∧ s < v) ∧ (∀ a b, a < vn S → b < vn S → S.1 79 a = S.1 79 b → a = b)
/-- SET and KNOWN stay, but for P */
-/
def KnQ (S S' : gSt) (P : Nat → Prop) : Prop := ∀ u s, u < vn S → S.1 79 u = nI s → s < 20 → (fi (S.1 81 0) s = true → fi (S'.1 81 0) s = true) ∧ (fi (S.1 82 0) s = true → ¬ P u → fi (S'.1 82 0) s = true)
/-- rows of VARS stay */
-/
def FN (S S' : gSt) : Prop := vn S ≤ vn S' ∧ ∀ u, u < vn S → S'.1 79 u = S.1 79 u ∧ S'.2 78 u = S.2 78 u
section SUE
variable {S S' S1 S2 S3 S4 Sf : gSt} {X : Lx} {it e e' v g n k i q c en m j a b v' g' N u s : Nat} {ta tb t : Tr} {x oq pl st kq lq rc ys no acc : Int32} {nm : Int64} {P Q : Nat → Prop}
theorem asN_n : asN X (tD k i e ta tb) nm = asM X (asN X ta) (asN X tb) ta k nm := rfl
theorem FV.fn (h : FV S S') : FN S S' := ⟨h.2.2.2.2.1, fun u hu => ⟨(h.2.2.2.2.2.1 u hu).1, (h.2.2.2.2.2.1 u hu).2.2⟩⟩
theorem FN.on (h : FN S S1) (h2 : FN S1 S2) : FN S S2 := ⟨Nat.le_trans h.1 h2.1, fun u hu => ⟨(h2.2 u (Nat.lt_of_lt_of_le hu h.1)).1.trans (h.2 u hu).1, (h2.2 u (Nat.lt_of_lt_of_le hu h.1)).2.trans (h.2 u hu).2⟩⟩
theorem FN.eq (h1 : S'.1 77 0 = S.1 77 0) (h2 : S'.1 79 = S.1 79) (h3 : S'.2 78 = S.2 78) : FN S S' := ⟨by unfold vn; rw [h1]; exact Nat.le_refl _, fun u _ => ⟨by rw [h2], by rw [h3]⟩⟩
theorem fd_eq (fv : FN S S') : ∀ k, k ≤ vn S → fd (isVa S' nm) k = fd (isVa S nm) k := by
  intro k
  induction k with
  | zero => intro _; rfl
  | succ k ih =>
    intro hk
    have e : isVa S' nm k = isVa S nm k := by unfold isVa; rw [(fv.2 k (by omega)).2]
    rw [fd, fd, e, ih (by omega)]
theorem fd_lo {p : Nat → Bool} (hk : k < 100000) : ∀ m, m ≤ k → u < m → fd p k = nI u → fd p m = nI u := by
  intro m hm hu h
  induction k with
  | zero => omega
  | succ k ih =>
    by_cases c : m = k + 1
    · rw [c]; exact h
    · rw [fd] at h
      by_cases c2 : p k = true
      · rw [if_pos c2] at h
        have := nI_inj (by omega) (by omega) h
        omega
      · rw [if_neg c2] at h
        exact ih (by omega) (by omega) h
theorem AsR.fv (h : AsR X t S' u) (fv : FN S S') (hu : u < vn S) (h20 : vn S' < 1000) : AsR X t S u := by
  obtain ⟨nm, h1, h2⟩ := h
  refine ⟨nm, h1, ?_⟩
  rw [← fd_eq fv (vn S) (Nat.le_refl _)]
  exact fd_lo (by omega) (vn S) fv.1 hu h2
theorem KnQ.rf : KnQ S S P := fun _ _ _ _ _ => ⟨fun w => w, fun w _ => w⟩
theorem KnQ.on (h : KnQ S S1 P) (h2 : KnQ S1 S2 Q) (fv : FN S S1) (hq : ∀ u, u < vn S → Q u → P u) : KnQ S S2 P := fun u s hu hs hs2 => by
  obtain ⟨a1, a2⟩ := h u s hu hs hs2
  obtain ⟨b1, b2⟩ := h2 u s (Nat.lt_of_lt_of_le hu fv.1) (by rw [(fv.2 u hu).1]; exact hs) hs2
  exact ⟨fun w => b1 (a1 w), fun w hp => b2 (a2 w hp) (fun hx => hp (hq u hu hx))⟩
theorem KnQ.wk (h : KnQ S S1 P) (hq : ∀ u, u < vn S → P u → Q u) : KnQ S S1 Q := fun u s hu hs hs2 => by
  obtain ⟨a1, a2⟩ := h u s hu hs hs2
  exact ⟨a1, fun w hp => a2 w (fun hx => hp (hq u hu hx))⟩
theorem KnQ.eq (h1 : S'.1 81 0 = S.1 81 0) (h2 : S'.1 82 0 = S.1 82 0) : KnQ S S' P := fun u s _ _ _ => ⟨fun w => by rw [h1]; exact w, fun w _ => by rw [h2]; exact w⟩
theorem KnQ.kw (h : KnQ S S1 P) : KnQ S (kwS S1 x) P := by
  unfold kwS
  split
  · exact h
  · intro u s hu hs hs2
    obtain ⟨a1, a2⟩ := h u s hu hs hs2
    exact ⟨fun w => by rw [sI_ne (by omega)]; exact a1 w, fun w hp => by rw [sI_v, fi_or, a2 w hp]; rfl⟩
theorem KnQ.sp : KnQ S (spS S1) P := fun u s _ _ hs2 => by
  unfold spS
  exact ⟨fun _ => by rw [sI_ne (by omega), sI_v, fi_m1 (by omega)], fun _ _ => by rw [sI_v, fi_m1 (by omega)]⟩
theorem KnQ.mt (h : KnQ S S1 P) (h2 : KnQ S S2 P) (e1 : S2.1 81 0 = st) (e2 : S2.1 82 0 = kq) : KnQ S (mtS S1 st kq lq rc pl) P := fun u s hu hs hs2 => by
  obtain ⟨a1, a2⟩ := h u s hu hs hs2
  obtain ⟨b1, b2⟩ := h2 u s hu hs hs2
  rw [e1] at b1
  rw [e2] at b2
  unfold mtS rsS
  repeat' split
  · refine ⟨fun w => ?_, fun w hp => ?_⟩
    · rw [sI_ne (by omega), sI_v, fi_an, a1 w, b1 w]; rfl
    · rw [sI_v, fi_an, a2 w hp, b2 w hp]; rfl
  · refine ⟨fun w => ?_, fun w hp => ?_⟩
    · rw [sI_ne (by omega), sI_v, fi_an, a1 w, b1 w]; rfl
    · rw [sI_v, fi_an, a2 w hp, b2 w hp]; rfl
  · refine ⟨fun w => ?_, fun w hp => ?_⟩
    · rw [sI_ne (by omega), sI_ne (by omega), sI_ne (by omega), sI_v]; exact b1 w
    · rw [sI_ne (by omega), sI_ne (by omega), sI_v]; exact b2 w hp
  · exact ⟨a1, a2⟩
theorem SlB.fv (h : SlB S v) (fv : FV S S') (h7 : S'.1 77 0 = S.1 77 0) (hv : v ≤ v') (hv2 : v' ≤ 20) : SlB S' v' := by
  obtain ⟨a1, a2, a3, a4⟩ := h
  have ev : vn S' = vn S := by unfold vn; rw [h7]
  refine ⟨hv2, by omega, fun u hu => ?_, fun a b ha hb he => ?_⟩
  · obtain ⟨s, s1, s2⟩ := a3 u (by omega)
    exact ⟨s, by rw [(fv.2.2.2.2.2.1 u (by omega)).1]; exact s1, by omega⟩
  · rw [(fv.2.2.2.2.2.1 a (by omega)).1, (fv.2.2.2.2.2.1 b (by omega)).1] at he
    exact a4 a b (by omega) (by omega) he
/-- a bit of what is given */
-/
theorem gv_iff (hs : s < 32) (hS : ∀ u, u < vn S → ∃ s, S.1 79 u = nI s ∧ s < 20) (hv : vn S ≤ 20) (t : Tr) : ∀ acc : Int32, fi (gvA X t S acc) s = true ↔ (fi acc s = true ∨ ∃ u, u < vn S ∧ AsR X t S u ∧ S.1 79 u = nI s) := by
  induction t using Tr_ind with
  | hz t hz =>
    intro acc
    have e1 : gvA X t S acc = acc := by
      unfold gvA
      split
      · exact absurd rfl (hz _ _ _ _ _)
      · rfl
    rw [e1]
    refine ⟨Or.inl, fun w => w.elim id ?_⟩
    rintro ⟨u, _, ⟨nm, h1, _⟩, _⟩
    unfold asN at h1
    split at h1
    · exact absurd rfl (hz _ _ _ _ _)
    · exact h1.elim
  | h k i e ta tb ihA ihB =>
    intro acc
    have one : ∀ (t' : Tr), (∀ nm, asN X (tD k i e ta tb) nm ↔ asN X t' nm) → ∀ u, AsR X (tD k i e ta tb) S u ↔ AsR X t' S u := fun t' h u => ⟨fun ⟨nm, h1, h2⟩ => ⟨nm, (h nm).mp h1, h2⟩, fun ⟨nm, h1, h2⟩ => ⟨nm, (h nm).mpr h1, h2⟩⟩
    have two : (∀ nm, asN X (tD k i e ta tb) nm ↔ (asN X ta nm ∨ asN X tb nm)) → ∀ u, AsR X (tD k i e ta tb) S u ↔ (AsR X ta S u ∨ AsR X tb S u) := fun h u => ⟨fun ⟨nm, h1, h2⟩ => ((h nm).mp h1).imp (fun w => ⟨nm, w, h2⟩) (fun w => ⟨nm, w, h2⟩), fun w => by
      rcases w with ⟨nm, h1, h2⟩ | ⟨nm, h1, h2⟩
      · exact ⟨nm, (h nm).mpr (Or.inl h1), h2⟩
      · exact ⟨nm, (h nm).mpr (Or.inr h1), h2⟩⟩
    have f0 : fi 0 s = true ↔ False := by rw [fi_0]; exact ⟨fun w => (by cases w), False.elim⟩
    have bor : ∀ a b : Bool, (a || b) = true ↔ (a = true ∨ b = true) := by decide
    have key1 : ∀ (t' : Tr) (acc : Int32), (∀ u, AsR X (tD k i e ta tb) S u ↔ AsR X t' S u) → (∀ acc : Int32, fi (gvA X t' S acc) s = true ↔ (fi acc s = true ∨ ∃ u, u < vn S ∧ AsR X t' S u ∧ S.1 79 u = nI s)) → ((fi (acc ||| gvA X t' S 0) s = true ↔ (fi acc s = true ∨ ∃ u, u < vn S ∧ AsR X (tD k i e ta tb) S u ∧ S.1 79 u = nI s)) ∧ (fi (gvA X t' S acc) s = true ↔ (fi acc s = true ∨ ∃ u, u < vn S ∧ AsR X (tD k i e ta tb) S u ∧ S.1 79 u = nI s))) := fun t' acc h1 h2 => by
      simp only [h1]
      refine ⟨?_, h2 acc⟩
      rw [fi_or, bor, h2 0, f0, false_or]
    show fi (gvN X (gvA X ta) (gvA X tb) ta tb k S acc) s = true ↔ _
    unfold gvN
    by_cases k31 : k = 31
    · subst k31
      rw [if_pos rfl]
      exact (key1 ta acc (one ta (fun nm => by rw [asN_n]; unfold asM; rw [if_pos (Or.inl rfl)])) ihA).2
    rw [if_neg k31]
    by_cases k11 : k = 11
    · subst k11
      have t2 := two (fun nm => by rw [asN_n]; unfold asM; rw [if_neg (by omega), if_pos (Or.inl rfl)])
      rw [if_pos rfl, ihB, ihA]
      simp only [t2]
      constructor
      · rintro ((w | ⟨u, w1, w2, w3⟩) | ⟨u, w1, w2, w3⟩)
        · exact Or.inl w
        · exact Or.inr ⟨u, w1, Or.inl w2, w3⟩
        · exact Or.inr ⟨u, w1, Or.inr w2, w3⟩
      · rintro (w | ⟨u, w1, w2 | w2, w3⟩)
        · exact Or.inl (Or.inl w)
        · exact Or.inl (Or.inr ⟨u, w1, w2, w3⟩)
        · exact Or.inr ⟨u, w1, w2, w3⟩
    rw [if_neg k11]
    by_cases k29 : k = 29
    · subst k29
      rw [if_pos rfl]
      have e29 : ∀ nm, asN X (tD 29 i e ta tb) nm ↔ (tkd X ta = 4 ∧ nm = xN X (lfI ta)) := fun nm => by rw [asN_n]; unfold asM; rw [if_neg (by omega), if_neg (by omega), if_neg (by omega), if_pos rfl]
      by_cases c : tkd X ta = 4 ∧ ¬ fd (isVa S (xN X (lfI ta))) (vn S) < 0
      · rw [if_pos c]
        rcases fd_v (p := isVa S (xN X (lfI ta))) (vn S) with ⟨e1, _⟩ | ⟨q, q1, q2, e1⟩
        · rw [e1] at c; exact absurd (by decide) c.2
        · obtain ⟨sq, s1, s2⟩ := hS q q1
          have t79 : tf S 79 (fd (isVa S (xN X (lfI ta))) (vn S)) = nI sq := by unfold tf; rw [e1, nc (by omega)]; exact s1
          rw [t79, fi_on (by omega) hs]
          constructor
          · intro w
            by_cases z : s = sq
            · exact Or.inr ⟨q, q1, ⟨_, (e29 _).mpr ⟨c.1, rfl⟩, e1⟩, by rw [s1, z]⟩
            · rw [if_neg z] at w; exact Or.inl w
          · rintro (w | ⟨u, w1, ⟨nm, w2, w3⟩, w4⟩)
            · split
              · rfl
              · exact w
            · obtain ⟨_, rfl⟩ := (e29 nm).mp w2
              rw [e1] at w3
              have : q = u := nI_inj (by omega) (by omega) w3
              subst this
              rw [s1] at w4
              rw [if_pos (nI_inj (by omega) (by omega) w4).symm]
      · rw [if_neg c]
        refine ⟨Or.inl, fun w => w.elim id ?_⟩
        rintro ⟨u, w1, ⟨nm, w2, w3⟩, w4⟩
        obtain ⟨w5, rfl⟩ := (e29 nm).mp w2
        exact absurd ⟨w5, by rw [w3]; exact nI_ge0 (by omega)⟩ c
    rw [if_neg k29]
    by_cases k21 : k = 21
    · subst k21
      rw [if_pos rfl]
      exact (key1 tb acc (one tb (fun nm => by rw [asN_n]; unfold asM; rw [if_neg (by omega), if_neg (by omega), if_pos (Or.inl rfl)])) ihB).2
    rw [if_neg k21]
    by_cases k12 : k = 12
    · subst k12
      have t2 := two (fun nm => by rw [asN_n]; unfold asM; rw [if_neg (by omega), if_pos (Or.inr (Or.inl rfl))])
      rw [if_pos rfl]
      by_cases z : isZ tb = true
      · rw [if_pos z, fi_or, bor, ihA, f0, false_or]
        simp only [t2]
        have nz : ∀ u, ¬ AsR X tb S u := fun u ⟨nm, h1, _⟩ => by
          obtain ⟨n0, rfl⟩ := isZ_num z
          exact h1
        constructor
        · rintro (w | ⟨u, w1, w2, w3⟩)
          · exact Or.inl w
          · exact Or.inr ⟨u, w1, Or.inl w2, w3⟩
        · rintro (w | ⟨u, w1, w2 | w2, w3⟩)
          · exact Or.inl w
          · exact Or.inr ⟨u, w1, w2, w3⟩
          · exact absurd w2 (nz u)
      · rw [if_neg z, fi_or, fi_or, bor, bor, ihA, ihB, f0, false_or, false_or]
        simp only [t2]
        constructor
        · rintro ((w | ⟨u, w1, w2, w3⟩) | ⟨u, w1, w2, w3⟩)
          · exact Or.inl w
          · exact Or.inr ⟨u, w1, Or.inl w2, w3⟩
          · exact Or.inr ⟨u, w1, Or.inr w2, w3⟩
        · rintro (w | ⟨u, w1, w2 | w2, w3⟩)
          · exact Or.inl (Or.inl w)
          · exact Or.inl (Or.inr ⟨u, w1, w2, w3⟩)
          · exact Or.inr ⟨u, w1, w2, w3⟩
    rw [if_neg k12]
    by_cases k22 : k = 22
    · subst k22
      rw [if_pos rfl]
      exact (key1 tb acc (one tb (fun nm => by rw [asN_n]; unfold asM; rw [if_neg (by omega), if_neg (by omega), if_pos (Or.inr rfl)])) ihB).1
    rw [if_neg k22]
    by_cases k26 : k = 26
    · subst k26
      rw [if_pos rfl]
      exact (key1 ta acc (one ta (fun nm => by rw [asN_n]; unfold asM; rw [if_pos (Or.inr rfl)])) ihA).1
    rw [if_neg k26]
    by_cases k28 : k = 28
    · subst k28
      have t2 := two (fun nm => by rw [asN_n]; unfold asM; rw [if_neg (by omega), if_pos (Or.inr (Or.inr rfl))])
      rw [if_pos rfl, fi_or, fi_or, bor, bor, ihA, ihB, f0, false_or, false_or]
      simp only [t2]
      constructor
      · rintro (w | ⟨u, w1, w2, w3⟩ | ⟨u, w1, w2, w3⟩)
        · exact Or.inl w
        · exact Or.inr ⟨u, w1, Or.inl w2, w3⟩
        · exact Or.inr ⟨u, w1, Or.inr w2, w3⟩
      · rintro (w | ⟨u, w1, w2 | w2, w3⟩)
        · exact Or.inl w
        · exact Or.inr (Or.inl ⟨u, w1, w2, w3⟩)
        · exact Or.inr (Or.inr ⟨u, w1, w2, w3⟩)
    rw [if_neg k28]
    refine ⟨Or.inl, fun w => w.elim id ?_⟩
    rintro ⟨u, w1, ⟨nm, w2, w3⟩, w4⟩
    rw [asN_n] at w2
    unfold asM at w2
    rw [if_neg (by omega), if_neg (by omega), if_neg (by omega), if_neg k29] at w2
    exact w2.elim
end SUE
