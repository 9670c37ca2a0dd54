theorem i_le {x y : Int32} : x ≤ y ↔ x.toInt ≤ y.toInt := Int32.le_iff_toInt_le
theorem ni_le {a b : Nat} (ha : a < 2 ^ 31) (hb : b < 2 ^ 31) : (nI a ≤ nI b → a ≤ b) ∧ (¬ nI a ≤ nI b → b < a) := ⟨fun h => (nI_leI ha hb).mp h, fun h => Nat.lt_of_not_le (fun q => h ((nI_leI ha hb).mpr q))⟩
theorem ni_lt {a b : Nat} (ha : a < 2 ^ 31) (hb : b < 2 ^ 31) : (nI a < nI b → a < b) ∧ (¬ nI a < nI b → b ≤ a) := ⟨fun h => (nI_ltI ha hb).mp h, fun h => Nat.le_of_not_lt (fun q => h ((nI_ltI ha hb).mpr q))⟩
/-- the words of the language: how many lie ahead of a place, where the last begins, and their numbers -/
def wc : Nat → Nat
  | 0 => 0
  | i + 1 => if s_ch 0 i = 32 then wc i + 1 else wc i
def wf : Nat → Nat
  | 0 => 0
  | i + 1 => if s_ch 0 i = 32 then i + 1 else wf i
def wl (i : Nat) : Nat := wf i + (i - wf i) - wf i
def wpk (i : Nat) : Int64 := pkd (infF (va_cpy (fun j => (s_byt.getD 0 []).getD j 0) (fun _ => 0) (wf i) 0 (wl i)) (fun _ => 0) (wl i)) 0 (i - wf i - 0)
def wt : Nat → Nat → Int64
  | 0 => fun _ => 0
  | i + 1 => if s_ch 0 i = 32 then vp_updL (wt i) (wc i) (wpk i) else wt i
theorem wc_s {i : Nat} (h : s_ch 0 i = 32) : wc (i + 1) = wc i + 1 := if_pos h
theorem wc_n {i : Nat} (h : ¬ s_ch 0 i = 32) : wc (i + 1) = wc i := if_neg h
theorem wt_s {i : Nat} (h : s_ch 0 i = 32) : wt (i + 1) = vp_updL (wt i) (wc i) (wpk i) := if_pos h
theorem wt_n {i : Nat} (h : ¬ s_ch 0 i = 32) : wt (i + 1) = wt i := if_neg h
theorem w_fact : ∀ i, i < 133 → wc i < 26 ∧ wf i ≤ i ∧ (s_ch 0 i = 32 → wf i < i ∧ i - wf i ≤ 8) := by decide +kernel

theorem ff_yes {p : Nat → Bool} {i k : Nat} (h : p i = true) (hk : 0 < k) : ff p i k = nI i := by
  cases k with
  | zero => omega
  | succ k => exact if_pos h
theorem ff_no {p : Nat → Bool} {i k : Nat} (h : ¬ p i = true) (hk : 0 < k) : ff p i k = ff p (i + 1) (k - 1) := by
  cases k with
  | zero => omega
  | succ k => exact if_neg h
theorem nI_m1 {j : Nat} (hj : j < 2 ^ 31) : ¬ nI j = -1 := fun q => absurd (q ▸ nI_pos hj : ¬ (-1 : Int32) < 0) (by decide)
theorem rl_y {f : Nat → Int32} {a m : Nat} (h : cL (f a)) (hm : 0 < m) : rl f a m = rl f (a + 1) (m - 1) + 1 := by
  cases m with
  | zero => omega
  | succ m => exact if_pos h
theorem rl_n {f : Nat → Int32} {a m : Nat} (h : ¬ cL (f a)) : rl f a m = 0 := by
  cases m with
  | zero => rfl
  | succ m => exact if_neg h
theorem bs_y {f : Nat → Int32} {a m : Nat} (h : f a = 32) (hm : 0 < m) : bs f a m = bs f (a + 1) (m - 1) + 1 := by
  cases m with
  | zero => omega
  | succ m => exact if_pos h
theorem bs_n {f : Nat → Int32} {a m : Nat} (h : m = 0 ∨ ¬ f a = 32) : bs f a m = 0 := by
  cases m with
  | zero => rfl
  | succ m => exact if_neg (h.resolve_left (by omega))
theorem nI_e {n m : Nat} (hn : n < 2 ^ 31) (hm : m < 2 ^ 31) (h : nI n = nI m) : n = m := by
  have := congrArg Int32.toInt h
  rw [nI_toInt hn, nI_toInt hm] at this
  omega
theorem rl_le {f : Nat → Int32} {m : Nat} : ∀ {a : Nat}, rl f a m ≤ m := by
  induction m with
  | zero => intro a; exact Nat.le_refl 0
  | succ m ih =>
    intro a
    by_cases h : cL (f a)
    · rw [rl_y h (by omega)]
      have := ih (a := a + 1)
      simp only [Nat.add_sub_cancel]
      omega
    · rw [rl_n h]
      omega
theorem sNext_gt {f : Nat → Int32} {tz a : Nat} : a + 1 ≤ sNext f tz a := by
  unfold sNext
  (repeat' split) <;> omega
theorem sNext_le {f : Nat → Int32} {tz a : Nat} (h : a < tz) : sNext f tz a ≤ tz := by
  have := rl_le (f := f) (m := tz - (a + 1)) (a := a + 1)
  unfold sNext sN
  (repeat' split) <;> omega
theorem scn_end {f : Nat → Int32} {fw : Nat → Int64} {tz m a tn : Nat} {gk gs : Nat → Int32} {gn : Nat → Int64} (h : tz ≤ a) : scn f fw tz m a tn gk gs gn = (tn, gk, gs, gn) := by
  cases m with
  | zero => rfl
  | succ m => exact if_pos h

theorem see_eq {f : Nat → Int32} {tz q : Nat} (hz : tz ≤ 4000) (hq : q < tz) : ((if nI (q + 1) < nI tz then f (q + 1) else -1) = 61) ↔ (q + 1 < tz ∧ f (q + 1) = 61) := by
  by_cases h : q + 1 < tz
  · rw [if_pos (nI_lt h (by omega))]
    exact ⟨fun z => ⟨h, z⟩, fun z => z.2⟩
  · rw [if_neg (nI_nlt (by omega) (by omega))]
    exact ⟨fun z => absurd z (by decide), fun z => absurd z.1 h⟩
theorem cL_32 {x : Int32} (h : x = 32) : ¬ cL x := by
  subst h
  decide
/-- both look for the next token at the same place -/
theorem aft_next {f : Nat → Int32} {tz q : Nat} (hz : tz ≤ 4000) (hq : q < tz) (hb : ¬ f q = 32) : tAft f tz q = sNext f tz q := by
  unfold tAft sNext
  rw [if_neg (by omega), if_neg hb]
  by_cases c : cL (f q) ∨ f q = 39
  · rw [if_pos c, if_pos c.symm]
    unfold tN tFR sN
    by_cases c3 : f q = 39
    · rw [if_pos c3]
    · rw [if_neg c3, rl_y (c.resolve_right c3) (by omega), show tz - q - 1 = tz - (q + 1) by omega]
      omega
  · have c' : ¬ (f q = 39 ∨ cL (f q)) := fun z => c z.symm
    rw [if_neg c, if_neg c']
    by_cases c4 : f q = 61 ∧ q + 1 < tz ∧ f (q + 1) = 61
    · have c5 : f q = 61 ∧ (if nI (q + 1) < nI tz then f (q + 1) else -1) = 61 := ⟨c4.1, (see_eq hz hq).mpr c4.2⟩
      rw [if_pos c5, if_pos c4]
    · have c5 : ¬ (f q = 61 ∧ (if nI (q + 1) < nI tz then f (q + 1) else -1) = 61) := fun z => c4 ⟨z.1, (see_eq hz hq).mp z.2⟩
      rw [if_neg c5, if_neg c4]
/-- in a row of letters and digits all are such -/
theorem rl_all {f : Nat → Int32} {m : Nat} : ∀ {a j : Nat}, j < rl f a m → cL (f (a + j)) := by
  induction m with
  | zero => intro a j h; exact absurd h (by simp [rl])
  | succ m ih =>
    intro a j h
    by_cases c : cL (f a)
    · rw [rl_y c (by omega)] at h
      simp only [Nat.add_sub_cancel] at h
      cases j with
      | zero => exact c
      | succ j =>
        have := ih (a := a + 1) (j := j) (by omega)
        rw [show a + (j + 1) = a + 1 + j by omega]
        exact this
    · rw [rl_n c] at h
      omega
theorem ff_all {p : Nat → Bool} {k : Nat} : ∀ {i : Nat}, i + k < 2 ^ 31 → (ff p i k = -1 ↔ ∀ j, i ≤ j → j < i + k → ¬ p j = true) := by
  induction k with
  | zero => intro i _; exact ⟨fun _ j h1 h2 => by omega, fun _ => rfl⟩
  | succ k ih =>
    intro i hi
    by_cases c : p i = true
    · rw [ff_yes c (by omega)]
      exact ⟨fun z => absurd z (nI_m1 (by omega)), fun z => absurd c (z i (Nat.le_refl i) (by omega))⟩
    · rw [ff_no c (by omega), Nat.add_sub_cancel, ih (by omega)]
      refine ⟨fun z j h1 h2 => ?_, fun z j h1 h2 => z j (by omega) (by omega)⟩
      by_cases e : j = i
      · subst e; exact c
      · exact z j (by omega) (by omega)
theorem sml_all {f : Nat → Int32} {a n : Nat} : sml f a n = 0 ∨ sml f a n = 1 := by
  cases n with
  | zero => exact Or.inr rfl
  | succ n =>
    show (if sml f a n = 0 then (0 : Int32) else if cG (f (a + n)) then 0 else 1) = 0 ∨ (if sml f a n = 0 then (0 : Int32) else if cG (f (a + n)) then 0 else 1) = 1
    (repeat' split) <;> simp
theorem sml_iff {f : Nat → Int32} {a n : Nat} : (¬ sml f a n = 0) ↔ ∀ j, j < n → ¬ cG (f (a + j)) := by
  induction n with
  | zero => exact ⟨fun _ j h => by omega, fun _ => by show ¬ (1 : Int32) = 0; decide⟩
  | succ n ih =>
    show (¬ (if sml f a n = 0 then (0 : Int32) else if cG (f (a + n)) then 0 else 1) = 0) ↔ _
    by_cases c : sml f a n = 0
    · rw [if_pos c]
      exact ⟨fun z => absurd rfl z, fun z => absurd c (ih.mpr (fun j h => z j (by omega)))⟩
    · rw [if_neg c]
      by_cases c2 : cG (f (a + n))
      · rw [if_pos c2]
        exact ⟨fun z => absurd rfl z, fun z => absurd c2 (z n (by omega))⟩
      · rw [if_neg c2]
        refine ⟨fun _ j h => ?_, fun _ => by decide⟩
        by_cases e : j = n
        · subst e; exact c2
        · exact ih.mp c j (by omega)
theorem dgs_iff {f : Nat → Int32} {a n : Nat} : (¬ dgs f a n = 0) ↔ ∀ j, j < n → cD (f (a + j)) := by
  induction n with
  | zero => exact ⟨fun _ j h => by omega, fun _ => by show ¬ (1 : Int32) = 0; decide⟩
  | succ n ih =>
    show (¬ (if dgs f a n = 0 then (0 : Int32) else if cD (f (a + n)) then 1 else 0) = 0) ↔ _
    by_cases c : dgs f a n = 0
    · rw [if_pos c]
      exact ⟨fun z => absurd rfl z, fun z => absurd c (ih.mpr (fun j h => z j (by omega)))⟩
    · rw [if_neg c]
      by_cases c2 : cD (f (a + n))
      · rw [if_pos c2]
        refine ⟨fun _ j h => ?_, fun _ => by decide⟩
        by_cases e : j = n
        · subst e; exact c2
        · exact ih.mp c j (by omega)
      · rw [if_neg c2]
        exact ⟨fun z => absurd rfl z, fun z => absurd (z n (by omega)) c2⟩

theorem cL_g {x : Int32} (h : cL x) : ¬ cG x ↔ ¬ (¬ cD x ∧ ((1 : Int32) = 0 ∨ ¬ cS x)) := by
  have e : ¬ (1 : Int32) = 0 := by decide
  simp only [cL, cG, cD, cS, i_le, Int32.reduceToInt, e, false_or] at h ⊢
  omega
theorem bad_sml {f : Nat → Int32} {a n : Nat} (h : ∀ j, j < n → cL (f (a + j))) (hn : n < 2 ^ 31) : ff (bad1 f a 1) 0 n = -1 ↔ ¬ sml f a n = 0 := by
  rw [ff_all (by omega), sml_iff]
  refine ⟨fun z j hj => (cL_g (h j hj)).mpr (fun y => z j (Nat.zero_le j) (by omega) (decide_eq_true y)), fun z j _ hj y => (cL_g (h j (by omega))).mp (z j (by omega)) (of_decide_eq_true y)⟩
theorem nI_is1 {n : Nat} (h : n < 2 ^ 31) : nI n = 1 ↔ n = 1 := ⟨fun z => nI_e h (by decide) z, fun z => congrArg nI z⟩
theorem nI_is0 {n : Nat} (h : n < 2 ^ 31) : nI n ≤ 0 ↔ n = 0 := ⟨fun z => by have := (ni_le (a := n) (b := 0) h (by decide)).1 z; omega, fun z => by subst z; decide⟩
theorem nI_is9 {n : Nat} (h : n < 2 ^ 31) : 9 ≤ nI n ↔ 9 ≤ n := ⟨fun z => (ni_le (a := 9) (b := n) (by decide) h).1 z, fun z => nI_le (a := 9) z h⟩
/-- a REGION is one on both sides -/
theorem sort_reg {f : Nat → Int32} {tz q : Nat} (hz : tz ≤ 4000) (hq : q < tz) (h39 : f q = 39) : tSort f tz q = if kReg f (q + 1) (sN f tz q) = 4 then 4 else 0 := by
  have hF : tFR f q = q + 1 := if_pos h39
  have hN : tN f tz q = sN f tz q := by unfold tN sN; rw [hF]
  have hle : sN f tz q ≤ tz - (q + 1) := rl_le
  have hbs := bad_sml (f := f) (a := q + 1) (n := sN f tz q) (fun j h => rl_all h) (by omega)
  unfold tSort
  rw [if_neg (by omega), if_pos (Or.inr h39), if_pos h39, hN, hF]
  generalize sN f tz q = n at *
  have e1 := nI_is1 (n := n) (by omega)
  have e2 := nI_is0 (n := n) (by omega)
  have e3 := nI_is9 (n := n) (by omega)
  have k1 : ¬ (1 : Int32) = 0 := by decide
  have k4 : ¬ (1 : Int32) = 4 := by decide
  rcases Nat.eq_zero_or_pos n with h0 | h0
  · subst h0
    simp [srt, kReg, e1, e2, k1, k4]
  · rw [if_pos (nI_lt (show q + 1 < tz by omega) (by omega))]
    simp only [srt, kReg, e1, e2, e3, hbs, if_neg k1, if_neg (show ¬ n = 0 by omega)]
    rcases (show (n ≤ 8 ∧ ¬ 9 ≤ n) ∨ (9 ≤ n ∧ ¬ n ≤ 8) by omega) with ⟨c3, c6⟩ | ⟨c3, c6⟩ <;> by_cases c1 : n = 1 <;> by_cases c2 : f (q + 1) = 72 <;> by_cases c4 : sml f (q + 1) n = 0 <;> by_cases c5 : cS (f (q + 1)) <;> simp only [c1, c2, c3, c4, c5, c6, h0, if_true, if_false, and_true, true_and, and_false, false_and, not_true_eq_false, not_false_eq_true, and_self] <;> first | rfl | decide | (subst_vars; omega) | simp_all

theorem bad_dgs {f : Nat → Int32} {a n : Nat} (hn : n < 2 ^ 31) : ff (bad1 f a 0) 0 n = -1 ↔ ¬ dgs f a n = 0 := by
  rw [ff_all (by omega), dgs_iff]
  refine ⟨fun z j hj => Decidable.byContradiction (fun y => z j (Nat.zero_le j) (by omega) (decide_eq_true ⟨y, Or.inl rfl⟩)), fun z j _ hj y => (of_decide_eq_true y).1 (z j (by omega))⟩
theorem nI_is10 {n : Nat} (h : n < 2 ^ 31) : 10 ≤ nI n ↔ 10 ≤ n := ⟨fun z => (ni_le (a := 10) (b := n) (by decide) h).1 z, fun z => nI_le (a := 10) z h⟩
theorem nI_is8 {n : Nat} (h : n < 2 ^ 31) : 8 < nI n ↔ 8 < n := ⟨fun z => (ni_lt (a := 8) (b := n) (by decide) h).1 z, fun z => nI_lt (a := 8) z h⟩
theorem cD_39 {x : Int32} (h : cD x) : ¬ x = 39 := by
  intro e
  subst e
  exact absurd h (by decide)
/-- a row that begins with a digit is a NUMBER on both sides, or on neither -/
theorem sort_num {f : Nat → Int32} {tz q : Nat} (hz : tz ≤ 4000) (hq : q < tz) (hd : cD (f q)) : tSort f tz q = if m9 f q (sN f tz q) = 0 then 0 else 5 := by
  have h39 : ¬ f q = 39 := cD_39 hd
  have hc : cL (f q) := Or.inr (Or.inr hd)
  have hF : tFR f q = q := if_neg h39
  have hN : tN f tz q = sN f tz q + 1 := by
    unfold tN sN
    rw [hF, rl_y hc (by omega), show tz - q - 1 = tz - (q + 1) by omega]
  have hle : sN f tz q ≤ tz - (q + 1) := rl_le
  have hb := bad_dgs (f := f) (a := q) (n := sN f tz q + 1) (by omega)
  unfold tSort
  rw [if_neg (by omega), if_pos (Or.inl hc), if_neg h39, hN, hF, if_pos (nI_lt hq (by omega))]
  generalize sN f tz q = n at *
  have e1 := nI_is10 (n := n + 1) (by omega)
  unfold srt m9
  rw [if_pos rfl]
  by_cases c1 : dgs f q (n + 1) = 0
  · rw [if_pos c1]
    have c2 : ¬ ff (bad1 f q 0) 0 (n + 1) = -1 := fun z => hb.mp z c1
    have c3 : (if 9 < n + 1 then (0 : Int32) else if ff (bad1 f q 0) 0 (n + 1) = -1 then 1 else 0) = 0 := by
      by_cases c : 9 < n + 1
      · rw [if_pos c]
      · rw [if_neg c, if_neg c2]
    rw [if_pos c3]
    by_cases c : 8 < nI (n + 1)
    · rw [if_pos c]
    · rw [if_neg c, if_pos hd]
  · rw [if_neg c1]
    have c2 := hb.mpr c1
    by_cases c : 9 < n + 1
    · rw [if_pos (e1.mpr (by omega)), if_pos (if_pos c)]
    · rw [if_neg (fun z => c (by have := e1.mp z; omega)), if_neg (by rw [if_neg c, if_pos c2]; decide)]

theorem sg_all : ∀ n, n < 256 → sgs (nI n) 22 = if 0 ≤ ff (isC 3 (nI n)) 0 22 then 6 else 0 := by decide +kernel
theorem sg_char : ∀ n, n < 256 → 0 ≤ ff (isC 3 (nI n)) 0 22 → s_ch 5 (ff (isC 3 (nI n)) 0 22).toNatClampNeg = nI n := by decide +kernel
theorem ch_nI {c : Int32} (h : 0 ≤ c ∧ c ≤ 255) : ∃ n, n < 256 ∧ c = nI n := by
  rcases pk_ix c (n := 256) (by decide) with z | z | z
  · exact absurd z (Int32.not_lt.mpr h.1)
  · exfalso
    have z2 := h.2
    simp only [i_le] at z z2
    have e : (nI 256).toInt = 256 := by decide
    have e2 : (255 : Int32).toInt = 255 := by decide
    omega
  · exact z
/-- a sign is one on both sides -/
theorem sort_sign {f : Nat → Int32} {tz q : Nat} (hq : q < tz) (hn : ¬ (cL (f q) ∨ f q = 39)) (hc : 0 ≤ f q ∧ f q ≤ 255) : tSort f tz q = if 0 ≤ ff (isC 3 (f q)) 0 22 then 6 else 0 := by
  unfold tSort
  rw [if_neg (by omega), if_neg hn]
  obtain ⟨n, h1, h2⟩ := ch_nI hc
  rw [h2]
  exact sg_all n h1

theorem hp_at : ∀ n, n < 133 → s_ch 0 n = 32 → hpos.getD (wc n) 0 = n := by decide +kernel
theorem hp_val : ∀ j, j < 26 → wpk (hpos.getD j 0) = WL.getD j 0 := by decide +kernel
theorem hp_cur : ∀ j, j < 26 → kcur (hpos.getD j 0) = WL.getD j 0 := by decide +kernel
theorem hp_in : ∀ j, j < 26 → hpos.getD j 0 < 133 ∧ s_ch 4 (hpos.getD j 0) = 32 := by decide +kernel
theorem same_txt : ∀ k, k < 133 → s_ch 4 k = s_ch 0 k := by decide +kernel
theorem wc_133 : wc 133 = 26 := by decide +kernel
theorem wt_hp {n : Nat} : n ≤ 133 → ∀ j, j < wc n → wt n j = wpk (hpos.getD j 0) := by
  induction n with
  | zero => intro _ j h; exact absurd h (by show ¬ j < 0; omega)
  | succ n ih =>
    intro hn j h
    by_cases c : s_ch 0 n = 32
    · rw [wt_s c]
      rw [wc_s c] at h
      by_cases e : j = wc n
      · rw [e, pk_uLs, hp_at n (by omega) c]
      · rw [pk_uLn e]
        exact ih (by omega) j (by omega)
    · rw [wt_n c]
      rw [wc_n c] at h
      exact ih (by omega) j h
theorem wt_val {j : Nat} (h : j < 26) : wt 133 j = WL.getD j 0 := (wt_hp (Nat.le_refl 133) j (by rw [wc_133]; exact h)).trans (hp_val j h)
/-- both sides keep the same words -/
theorem kept_same (w : Int64) : ff (khit w) 0 133 = -1 ↔ ff (isW (wt 133) w) 0 26 = -1 := by
  rw [ff_all (by decide), ff_all (by decide)]
  constructor
  · intro z j _ hj y
    have hj : j < 26 := by omega
    have e := of_decide_eq_true y
    refine z (hpos.getD j 0) (Nat.zero_le _) (by have := (hp_in j hj).1; omega) ?_
    simp only [khit, Bool.and_eq_true, decide_eq_true_eq]
    exact ⟨(hp_in j hj).2, (hp_cur j hj).trans ((wt_val hj).symm.trans e)⟩
  · intro z k _ hk y
    have hk : k < 133 := by omega
    simp only [khit, Bool.and_eq_true, decide_eq_true_eq] at y
    have y0 : s_ch 0 k = 32 := (same_txt k hk).symm.trans y.1
    have hj : wc k < 26 := (w_fact k hk).1
    have e := hp_at k hk y0
    refine z (wc k) (Nat.zero_le _) (by omega) (decide_eq_true ?_)
    rw [wt_val hj, ← hp_cur _ hj, e]
    exact y.2

theorem sh8 : ((8 : Int32).toInt64 &&& 63) = (8 : Int64) := by decide
theorem or_byte {a c : Nat} (h : c < 256) : a * 256 ||| c = a * 256 + c := by
  have := Nat.shiftLeft_add_eq_or_of_lt (i := 8) (b := c) (by omega) a
  rw [Nat.shiftLeft_eq] at this
  exact this.symm
theorem sx_byte {c : Int32} (h : c.toBitVec.toNat < 256) : c.toInt64.toBitVec.toNat = c.toBitVec.toNat := by
  have e : c.toInt64.toBitVec = c.toBitVec.signExtend 64 := rfl
  have m : c.toBitVec.msb = false := by
    rw [BitVec.msb_eq_decide]
    exact decide_eq_false (by omega)
  rw [e, BitVec.signExtend_eq_setWidth_of_msb_false m, BitVec.toNat_setWidth]
  exact Nat.mod_eq_of_lt (by omega)
theorem sl_byte {x : Int64} (h : x.toBitVec.toNat < 2 ^ 56) : (x <<< (8 : Int64)).toBitVec.toNat = x.toBitVec.toNat * 256 := by
  have e : (x <<< (8 : Int64)).toBitVec = x.toBitVec <<< 8 := rfl
  rw [e, BitVec.toNat_shiftLeft, Nat.shiftLeft_eq]
  exact Nat.mod_eq_of_lt (by omega)
theorem pk_step {x : Int64} {c : Int32} (hx : x.toBitVec.toNat < 2 ^ 56) (hc : c.toBitVec.toNat < 256) : ((x <<< ((8 : Int32).toInt64 &&& 63)) ||| c.toInt64).toBitVec.toNat = x.toBitVec.toNat * 256 + c.toBitVec.toNat := by
  rw [sh8]
  have e : ((x <<< (8 : Int64)) ||| c.toInt64).toBitVec = (x <<< (8 : Int64)).toBitVec ||| c.toInt64.toBitVec := rfl
  rw [e, BitVec.toNat_or, sl_byte hx, sx_byte hc, or_byte hc]

theorem pn_lt {f : Nat → Int32} {a n : Nat} (h : ∀ j, j < n → (f (a + j)).toBitVec.toNat < 256) : pn f a n < 256 ^ n := by
  induction n with
  | zero => exact Nat.one_pos
  | succ n ih =>
    have h1 := ih (fun j hj => h j (by omega))
    have h2 := h n (by omega)
    show pn f a n * 256 + (f (a + n)).toBitVec.toNat < 256 ^ (n + 1)
    rw [Nat.pow_succ]
    omega
theorem pkd_pn {f : Nat → Int32} {a n : Nat} (hn : n ≤ 8) (h : ∀ j, j < n → (f (a + j)).toBitVec.toNat < 256) : (pkd f a n).toBitVec.toNat = pn f a n := by
  induction n with
  | zero => rfl
  | succ n ih =>
    have h1 := ih (by omega) (fun j hj => h j (by omega))
    have h2 := pn_lt (f := f) (a := a) (n := n) (fun j hj => h j (by omega))
    have h3 : 256 ^ n ≤ 256 ^ 7 := Nat.pow_le_pow_right (by decide) (by omega)
    have h4 : (256 : Nat) ^ 7 = 2 ^ 56 := by decide
    show ((pkd f a n <<< ((8 : Int32).toInt64 &&& 63)) ||| (f (a + n)).toInt64).toBitVec.toNat = pn f a n * 256 + (f (a + n)).toBitVec.toNat
    rw [pk_step (by rw [h1]; omega) (h n (by omega)), h1]
theorem small_all {f : Nat → Int32} {a n : Nat} : ∀ {k : Nat}, n ≤ k → (∀ j, j < n → 0 < (f (a + j)).toBitVec.toNat ∧ (f (a + j)).toBitVec.toNat < 256) → smallB k (pn f a n) = true → ∀ j, j < n → 97 ≤ (f (a + j)).toBitVec.toNat := by
  induction n with
  | zero => intro k _ _ _ j hj; omega
  | succ n ih =>
    intro k hk h hs j hj
    cases k with
    | zero => omega
    | succ k =>
      have hc := h n (by omega)
      have m1 : (pn f a n * 256 + (f (a + n)).toBitVec.toNat) % 256 = (f (a + n)).toBitVec.toNat := by omega
      have m2 : (pn f a n * 256 + (f (a + n)).toBitVec.toNat) / 256 = pn f a n := by omega
      have m3 : ¬ pn f a n * 256 + (f (a + n)).toBitVec.toNat = 0 := by omega
      have hs2 : (decide (pn f a n * 256 + (f (a + n)).toBitVec.toNat = 0) || (decide (97 ≤ (pn f a n * 256 + (f (a + n)).toBitVec.toNat) % 256) && decide ((pn f a n * 256 + (f (a + n)).toBitVec.toNat) % 256 ≤ 122) && smallB k ((pn f a n * 256 + (f (a + n)).toBitVec.toNat) / 256))) = true := hs
      rw [m1, m2] at hs2
      simp only [Bool.or_eq_true, Bool.and_eq_true, decide_eq_true_eq] at hs2
      have hs3 := hs2.resolve_left m3
      by_cases e : j = n
      · rw [e]; exact hs3.1.1
      · exact ih (k := k) (by omega) (fun i hi => h i (by omega)) hs3.2 j (by omega)
theorem byt_nI {m : Nat} (h : m < 256) : (nI m).toBitVec.toNat = m := by
  show (BitVec.ofNat 32 m).toNat = m
  rw [BitVec.toNat_ofNat]
  exact Nat.mod_eq_of_lt (by omega)
theorem cL_pos : ∀ m, m < 256 → cL (nI m) → 0 < m ∧ (97 ≤ m → ¬ cG (nI m)) := by decide +kernel
theorem cL_byte {x : Int32} (h : cL x) : ∃ m, m < 256 ∧ x = nI m := by
  refine ch_nI ?_
  simp only [cL, i_le, Int32.reduceToInt] at h ⊢
  omega
theorem WL_small : ∀ j, j < 26 → smallB 8 (WL.getD j 0).toBitVec.toNat = true := by decide +kernel
/-- a kept word has no great letter -/
theorem kept_small {f : Nat → Int32} {a n : Nat} (hn : n ≤ 8) (hc : ∀ j, j < n → cL (f (a + j))) (hk : ¬ ff (isW (wt 133) (pkd f a n)) 0 26 = -1) : ¬ sml f a n = 0 := by
  have hb : ∀ j, j < n → 0 < (f (a + j)).toBitVec.toNat ∧ (f (a + j)).toBitVec.toNat < 256 := fun j hj => by
    obtain ⟨m, h1, h2⟩ := cL_byte (hc j hj)
    have h3 := hc j hj
    rw [h2] at h3 ⊢
    rw [byt_nI h1]
    exact ⟨(cL_pos m h1 h3).1, h1⟩
  rw [sml_iff]
  intro j hj
  have key : smallB 8 (pn f a n) = true := by
    refine Decidable.byContradiction (fun z => hk ((ff_all (by decide)).mpr (fun i _ hi y => z ?_)))
    have e := of_decide_eq_true y
    have hi : i < 26 := by omega
    rw [← pkd_pn hn (fun j hj => (hb j hj).2), ← e, wt_val hi]
    exact WL_small i hi
  have h97 := small_all hn hb key j hj
  obtain ⟨m, h1, h2⟩ := cL_byte (hc j hj)
  have h3 := hc j hj
  rw [h2] at h3 h97 ⊢
  rw [byt_nI h1] at h97
  exact (cL_pos m h1 h3).2 h97

theorem ff_val {p : Nat → Bool} {k : Nat} : ∀ {i : Nat}, ff p i k = -1 ∨ ∃ j, i ≤ j ∧ j < i + k ∧ p j = true ∧ ff p i k = nI j := by
  induction k with
  | zero => intro i; exact Or.inl rfl
  | succ k ih =>
    intro i
    by_cases c : p i = true
    · exact Or.inr ⟨i, Nat.le_refl i, by omega, c, ff_yes c (by omega)⟩
    · rw [ff_no c (by omega), Nat.add_sub_cancel]
      rcases ih (i := i + 1) with z | ⟨j, h1, h2, h3, h4⟩
      · exact Or.inl z
      · exact Or.inr ⟨j, by omega, by omega, h3, h4⟩
theorem nmK_w {j : Nat} (h : j < 26) : nmK (10 + nI j) = 2 := by
  have e : (10 : Int32) + nI j = nI (10 + j) := nI_add 10 j
  rw [e]
  unfold nmK
  rw [if_neg (fun z => by have := nI_e (m := 1) (by omega) (by decide) z; omega), if_neg (fun z => by have := nI_e (m := 3) (by omega) (by decide) z; omega), if_neg (fun z => by have := nI_e (m := 2) (by omega) (by decide) z; omega)]
theorem cL_39 {x : Int32} (h : cL x) : ¬ x = 39 := by
  intro e
  subst e
  exact absurd h (by decide)
theorem cG_cS {x : Int32} (h : cG x) : ¬ cS x := by
  simp only [cG, cS, i_le, Int32.reduceToInt] at h ⊢
  omega
theorem cL_cS {x : Int32} (h : cL x) (h1 : ¬ cD x) (h2 : ¬ cG x) : cS x := by
  simp only [cL, cG, cD, cS, i_le, Int32.reduceToInt] at h h1 h2 ⊢
  omega
/-- a NAME, a TITLE, a word of the language: the same on both sides -/
theorem sort_name {f : Nat → Int32} {tz q : Nat} (hz : tz ≤ 4000) (hq : q < tz) (hc : cL (f q)) (hd : ¬ cD (f q)) : tSort f tz q = nmK (kName f (wt 133) q (sN f tz q + 1) (pkd f q (sN f tz q + 1))) := by
  have h39 : ¬ f q = 39 := cL_39 hc
  have hF : tFR f q = q := if_neg h39
  have hN : tN f tz q = sN f tz q + 1 := by
    unfold tN sN
    rw [hF, rl_y hc (by omega), show tz - q - 1 = tz - (q + 1) by omega]
  have hle : sN f tz q ≤ tz - (q + 1) := rl_le
  have hall : ∀ j, j < sN f tz q + 1 → cL (f (q + j)) := fun j hj => by
    cases j with
    | zero => exact hc
    | succ j =>
      rw [show q + (j + 1) = q + 1 + j by omega]
      exact rl_all (show j < rl f (q + 1) (tz - (q + 1)) by unfold sN at hj; omega)
  unfold tSort
  rw [if_neg (by omega), if_pos (Or.inl hc), if_neg h39, hN, hF, if_pos (nI_lt hq (by omega))]
  have hn0 : 0 < sN f tz q + 1 := by omega
  have hn4 : sN f tz q + 1 ≤ 4000 := by omega
  generalize sN f tz q + 1 = n at *
  have hdg : dgs f q n = 0 := Decidable.byContradiction (fun z => hd (dgs_iff.mp z 0 hn0))
  have hb := bad_sml (f := f) (a := q) (n := n) hall (by omega)
  have hk := kept_same (pkd f q n)
  unfold srt kName
  rw [if_pos rfl, if_pos hdg]
  by_cases c8 : 8 < n
  · rw [if_pos ((nI_is8 (by omega)).mpr c8), if_pos c8]
    rfl
  · rw [if_neg (fun z => c8 ((nI_is8 (by omega)).mp z)), if_neg c8, if_neg hd]
    by_cases cg : cG (f q)
    · rw [if_pos cg, if_pos (cG_cS cg)]
      rfl
    · have hcs : ¬ ¬ cS (f q) := fun z => z (cL_cS hc hd cg)
      rw [if_neg cg, if_neg hcs]
      by_cases cs : sml f q n = 0
      · have c1 : ff (isW (wt 133) (pkd f q n)) 0 26 = -1 := Decidable.byContradiction (fun z => kept_small (by omega) hall z cs)
        have c2 : ¬ ff (bad1 f q 1) 0 n = -1 := fun z => hb.mp z cs
        rw [if_pos cs, if_pos c1, if_neg c2]
        rfl
      · rw [if_neg cs]
        have c2 : ff (bad1 f q 1) 0 n = -1 := hb.mpr cs
        by_cases c1 : ff (isW (wt 133) (pkd f q n)) 0 26 = -1
        · rw [if_pos c1, if_pos c2, if_pos (if_pos (hk.mpr c1))]
          rfl
        · rw [if_neg c1, if_neg (show ¬ (if ff (khit (pkd f q n)) 0 133 = -1 then (0 : Int32) else 1) = 0 by rw [if_neg (fun z => c1 (hk.mp z))]; decide)]
          rcases ff_val (p := isW (wt 133) (pkd f q n)) (k := 26) (i := 0) with z | ⟨j, _, h2, _, h4⟩
          · exact absurd z c1
          · rw [h4, nmK_w (by omega)]

/-- what the class's rows of tokens hold: the tokens that the reference comes to, one after the other -/
theorem scn_tk {f : Nat → Int32} {fw : Nat → Int64} {tz : Nat} (hz : tz ≤ 4000) {m : Nat} : ∀ {a tn : Nat} {gk gs : Nat → Int32} {gn : Nat → Int64} {R : Nat × (Nat → Int32) × (Nat → Int32) × (Nat → Int64)}, a ≤ tz → tz - a < m → scn f fw tz m a tn gk gs gn = R →
    tn ≤ R.1 ∧ (∀ j, j < tn → R.2.1 j = gk j ∧ R.2.2.1 j = gs j ∧ R.2.2.2 j = gn j) ∧ (∀ i, tn + i < R.1 → tkAt f tz (sk f tz a) i < tz ∧ R.2.1 (tn + i) = tokK f fw tz (tkAt f tz (sk f tz a) i) ∧ R.2.2.1 (tn + i) = nI (tkAt f tz (sk f tz a) i) ∧ R.2.2.2 (tn + i) = tokV f tz (tkAt f tz (sk f tz a) i)) ∧ tkAt f tz (sk f tz a) (R.1 - tn) = tz := by
  induction m with
  | zero => intro a tn gk gs gn R _ h; omega
  | succ m ih =>
    intro a tn gk gs gn R ha hm hR
    by_cases c : tz ≤ a
    · rw [scn_end c] at hR
      subst hR
      have e : sk f tz a = tz := by
        unfold sk
        rw [show tz - a = 0 by omega]
        show a + 0 = tz
        omega
      refine ⟨Nat.le_refl _, fun j _ => ⟨rfl, rfl, rfl⟩, fun i hi => absurd hi (by show ¬ tn + i < tn; omega), ?_⟩
      rw [e]
      show tkAt f tz tz (tn - tn) = tz
      rw [Nat.sub_self]
      rfl
    · have hs : scn f fw tz (m + 1) a tn gk gs gn = scn f fw tz m (sNext f tz a) (if f a = 32 then tn else tn + 1) (if f a = 32 then gk else upd gk tn (tokK f fw tz a)) (if f a = 32 then gs else upd gs tn (nI a)) (if f a = 32 then gn else vp_updL gn tn (tokV f tz a)) := if_neg c
      rw [hs] at hR
      have hgt := sNext_gt (f := f) (tz := tz) (a := a)
      have hle := sNext_le (f := f) (tz := tz) (a := a) (by omega)
      by_cases c32 : f a = 32
      · rw [if_pos c32, if_pos c32, if_pos c32, if_pos c32] at hR
        have e1 : sNext f tz a = a + 1 := if_pos c32
        rw [e1] at hR
        have e2 : sk f tz (a + 1) = sk f tz a := by
          unfold sk
          rw [bs_y (a := a) c32 (show 0 < tz - a by omega), show tz - a - 1 = tz - (a + 1) by omega]
          omega
        have := ih (by omega) (by omega) hR
        rw [e2] at this
        exact this
      · rw [if_neg c32, if_neg c32, if_neg c32, if_neg c32] at hR
        obtain ⟨h1, h2, h3, h4⟩ := ih hle (by omega) hR
        have e0 : sk f tz a = a := by
          unfold sk
          rw [bs_n (Or.inr c32)]
          rfl
        have e1 : nq f tz a = sk f tz (sNext f tz a) := by
          unfold nq sk
          rw [aft_next hz (by omega) c32]
        have e2 : ∀ i, tkAt f tz a (i + 1) = tkAt f tz (sk f tz (sNext f tz a)) i := fun i => by
          show tkAt f tz (nq f tz a) i = _
          rw [e1]
        rw [e0]
        refine ⟨by omega, fun j hj => ?_, fun i hi => ?_, ?_⟩
        · obtain ⟨a1, a2, a3⟩ := h2 j (by omega)
          exact ⟨a1.trans (pk_un (by omega)), a2.trans (pk_un (by omega)), a3.trans (pk_uLn (by omega))⟩
        · cases i with
          | zero =>
            obtain ⟨a1, a2, a3⟩ := h2 tn (by omega)
            exact ⟨by show a < tz; omega, a1.trans pk_us, a2.trans pk_us, a3.trans pk_uLs⟩
          | succ i =>
            have := h3 i (by omega)
            rw [e2, show tn + (i + 1) = tn + 1 + i by omega]
            exact this
        · rw [show R.1 - tn = (R.1 - (tn + 1)) + 1 by omega, e2]
          exact h4

