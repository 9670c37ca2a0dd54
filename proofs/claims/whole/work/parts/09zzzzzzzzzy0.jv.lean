/-! the same for the reference -/
def I78 (T : gSt) : Prop := T.1 7 0 = 0 → T.1 8 0 = -1
def jv (o : gR) : Prop := ∀ r l T', o = some (r, l, T') → I78 T'
def jvA (t : Nat) (a : List Int32) : Prop := (t = 13 → ¬ a.getD 0 0 = 0) ∧ True
abbrev jvF (F : gF) : Prop := ∀ t T a b, I78 T → jvA t a → jv (F t T a b)
theorem jv_none : jv none := fun _ _ _ h => by cases h
theorem jv_some {r : Int32} {l : Int64} {T : gSt} (h : I78 T) : jv (some (r, l, T)) := fun _ _ _ e => by
  injection e with e
  injection e with e1 e
  injection e with e2 e3
  rw [← e3]
  exact h
theorem jv_ite {c : Prop} [Decidable c] {a b : gR} (h1 : c → jv a) (h2 : ¬ c → jv b) : jv (if c then a else b) := by
  split
  · exact h1 ‹_›
  · exact h2 ‹_›
theorem jv_gd {c : Prop} [Decidable c] {a : gR} (h1 : jv a) : jv (gd c a) := by
  unfold gd
  split
  · exact h1
  · exact jv_none
theorem jv_stK {T : gSt} {K : gSt → gR} (h : I78 T) (hk : ∀ T, I78 T → jv (K T)) : jv (stK T K) := hk T h
theorem jv_vK {v : Int32} {K : Int32 → gR} (hk : ∀ v, jv (K v)) : jv (vK v K) := hk v
theorem jv_lK {v : Int64} {K : Int64 → gR} (hk : ∀ v, jv (K v)) : jv (lK v K) := hk v
theorem jv_bi {o : gR} {K : Int32 → Int64 → gSt → gR} (h : jv o) (hk : ∀ r l T, I78 T → jv (K r l T)) : jv (bi o K) := by
  cases o with
  | none => exact jv_none
  | some x =>
    obtain ⟨r, l, T⟩ := x
    exact hk r l T (h r l T rfl)
theorem i78_sI {T : gSt} {k j : Nat} {v : Int32} (h : I78 T) (h1 : k ≠ 7) (h2 : k ≠ 8) : I78 (sI T k j v) := fun w => by
  rw [sI_ne (fun e => h1 e.symm)] at w
  rw [sI_ne (fun e => h2 e.symm)]
  exact h w
theorem i78_sJ {T : gSt} {k j : Nat} {v : Int64} (h : I78 T) : I78 (sJ T k j v) := h
theorem i78_sA {T : gSt} {k : Nat} {f : Nat → Int32} (h : I78 T) (h1 : 7 ≠ k) (h2 : 8 ≠ k) : I78 (sA T k f) := fun w => by
  have e1 : (sA T k f).1 7 = T.1 7 := if_neg h1
  have e2 : (sA T k f).1 8 = T.1 8 := if_neg h2
  rw [e1] at w
  rw [e2]
  exact h w
theorem i78_adv {T : gSt} (h : I78 T) : I78 (advS T) := by
  unfold advS
  repeat' first
    | with_reducible refine i78_sI ?_ (by decide) (by decide)
    | with_reducible refine i78_sJ ?_
    | exact h
theorem nz_nle {x : Int32} (h : ¬ x ≤ 0) : ¬ x = 0 := fun e => h (by rw [e]; exact Int32.le_refl _)
theorem jvA_o {t : Nat} {a : List Int32} (h1 : t ≠ 13) : jvA t a := ⟨fun e => absurd e h1, trivial⟩
theorem jvA_13 {x : Int32} {a : List Int32} (h : ¬ x = 0) : jvA 13 (x :: a) := ⟨fun _ => h, trivial⟩
section IVT
variable {F : gF} {nf : Nat}
theorem jv_rl_Model_four_3 (hF : jvF F) : ∀ (n : Nat) (T : gSt) (x0 : Int32) (x1 : Int32), I78 T → jv (rl_Model_four_3 F nf n T x0 x1) := by
  intro n
  induction n with
  | zero =>
    intro T x0 x1 h
    rw [rl_Model_four_3]
    exact jv_none
  | succ n ih =>
    intro T x0 x1 h
    rw [rl_Model_four_3]
    repeat' first
      | with_reducible exact jv_none
      | with_reducible refine jv_some ?_
      | with_reducible refine jv_ite (fun _ => ?_) (fun _ => ?_)
      | with_reducible refine jv_gd ?_
      | with_reducible refine jv_stK ?_ (fun _ _ => ?_)
      | with_reducible refine jv_vK (fun _ => ?_)
      | with_reducible refine jv_lK (fun _ => ?_)
      | with_reducible refine jv_bi ?_ (fun _ _ _ _ => ?_)
      | with_reducible refine hF _ _ _ _ ?_ ?_
      | with_reducible refine ih _ _ _ ?_
      | assumption
      | with_reducible refine i78_sI ?_ (by decide) (by decide)
      | with_reducible refine i78_sJ ?_
      | with_reducible refine i78_sA ?_ (by decide) (by decide)
      | with_reducible exact jvA_o (by decide)
      | with_reducible refine jvA_13 ?_
      | decide
      | with_reducible exact nz_nle (by assumption)
theorem jv_rb_Model_four (hF : jvF F) (T : gSt) (p1 : Int32) (h : I78 T) : jv (rb_Model_four F nf T p1) := by
    unfold rb_Model_four
    repeat' first
      | with_reducible exact jv_none
      | with_reducible refine jv_some ?_
      | with_reducible refine jv_ite (fun _ => ?_) (fun _ => ?_)
      | with_reducible refine jv_gd ?_
      | with_reducible refine jv_stK ?_ (fun _ _ => ?_)
      | with_reducible refine jv_vK (fun _ => ?_)
      | with_reducible refine jv_lK (fun _ => ?_)
      | with_reducible refine jv_bi ?_ (fun _ _ _ _ => ?_)
      | with_reducible refine hF _ _ _ _ ?_ ?_
      | with_reducible refine jv_rl_Model_four_3 hF  _ _ _ _ ?_
      | assumption
      | with_reducible refine i78_sI ?_ (by decide) (by decide)
      | with_reducible refine i78_sJ ?_
      | with_reducible refine i78_sA ?_ (by decide) (by decide)
      | with_reducible exact jvA_o (by decide)
      | with_reducible refine jvA_13 ?_
      | decide
      | with_reducible exact nz_nle (by assumption)
theorem jv_rb_Model_feed (hF : jvF F) (T : gSt) (p1 : Int32) (p2 : Int32) (p3 : Int32) (p4 : Int32) (p5 : Int32) (h : I78 T) : jv (rb_Model_feed F nf T p1 p2 p3 p4 p5) := by
    unfold rb_Model_feed
    repeat' first
      | with_reducible exact jv_none
      | with_reducible refine jv_some ?_
      | with_reducible refine jv_ite (fun _ => ?_) (fun _ => ?_)
      | with_reducible refine jv_gd ?_
      | with_reducible refine jv_stK ?_ (fun _ _ => ?_)
      | with_reducible refine jv_vK (fun _ => ?_)
      | with_reducible refine jv_lK (fun _ => ?_)
      | with_reducible refine jv_bi ?_ (fun _ _ _ _ => ?_)
      | with_reducible refine hF _ _ _ _ ?_ ?_
      | assumption
      | with_reducible refine i78_sI ?_ (by decide) (by decide)
      | with_reducible refine i78_sJ ?_
      | with_reducible refine i78_sA ?_ (by decide) (by decide)
      | with_reducible exact jvA_o (by decide)
      | with_reducible refine jvA_13 ?_
      | decide
      | with_reducible exact nz_nle (by assumption)
theorem jv_rb_Model_end (hF : jvF F) (T : gSt) (p1 : Int32) (h : I78 T) : jv (rb_Model_end F nf T p1) := by
    unfold rb_Model_end
    repeat' first
      | with_reducible exact jv_none
      | with_reducible refine jv_some ?_
      | with_reducible refine jv_ite (fun _ => ?_) (fun _ => ?_)
      | with_reducible refine jv_gd ?_
      | with_reducible refine jv_stK ?_ (fun _ _ => ?_)
      | with_reducible refine jv_vK (fun _ => ?_)
      | with_reducible refine jv_lK (fun _ => ?_)
      | with_reducible refine jv_bi ?_ (fun _ _ _ _ => ?_)
      | with_reducible refine hF _ _ _ _ ?_ ?_
      | assumption
      | with_reducible refine i78_sI ?_ (by decide) (by decide)
      | with_reducible refine i78_sJ ?_
      | with_reducible refine i78_sA ?_ (by decide) (by decide)
      | with_reducible exact jvA_o (by decide)
      | with_reducible refine jvA_13 ?_
      | decide
      | with_reducible exact nz_nle (by assumption)
theorem jv_rb_Model_see_I (hF : jvF F) (T : gSt) (p1 : Int32) (h : I78 T) : jv (rb_Model_see_I F nf T p1) := by
    unfold rb_Model_see_I
    repeat' first
      | with_reducible exact jv_none
      | with_reducible refine jv_some ?_
      | with_reducible refine jv_ite (fun _ => ?_) (fun _ => ?_)
      | with_reducible refine jv_gd ?_
      | with_reducible refine jv_stK ?_ (fun _ _ => ?_)
      | with_reducible refine jv_vK (fun _ => ?_)
      | with_reducible refine jv_lK (fun _ => ?_)
      | with_reducible refine jv_bi ?_ (fun _ _ _ _ => ?_)
      | with_reducible refine hF _ _ _ _ ?_ ?_
      | assumption
      | with_reducible refine i78_sI ?_ (by decide) (by decide)
      | with_reducible refine i78_sJ ?_
      | with_reducible refine i78_sA ?_ (by decide) (by decide)
      | with_reducible exact jvA_o (by decide)
      | with_reducible refine jvA_13 ?_
      | decide
      | with_reducible exact nz_nle (by assumption)
theorem jv_rb_Model_fail (T : gSt) (p1 p2 : Int32) (h : I78 T) (hp : ¬ p1 = 0) : jv (rb_Model_fail F nf T p1 p2) := by
  unfold rb_Model_fail
  refine jv_ite (fun _ => ?_) (fun _ => jv_some h)
  refine jv_some (fun w => ?_)
  rw [sI_ne (by omega), sI_v] at w
  exact absurd w hp
theorem jv_rb_Model_bad (hF : jvF F) (T : gSt) (h : I78 T) : jv (rb_Model_bad F nf T) := by
    unfold rb_Model_bad
    repeat' first
      | with_reducible exact jv_none
      | with_reducible refine jv_some ?_
      | with_reducible refine jv_ite (fun _ => ?_) (fun _ => ?_)
      | with_reducible refine jv_gd ?_
      | with_reducible refine jv_stK ?_ (fun _ _ => ?_)
      | with_reducible refine jv_vK (fun _ => ?_)
      | with_reducible refine jv_lK (fun _ => ?_)
      | with_reducible refine jv_bi ?_ (fun _ _ _ _ => ?_)
      | with_reducible refine hF _ _ _ _ ?_ ?_
      | assumption
      | with_reducible refine i78_sI ?_ (by decide) (by decide)
      | with_reducible refine i78_sJ ?_
      | with_reducible refine i78_sA ?_ (by decide) (by decide)
      | with_reducible exact jvA_o (by decide)
      | with_reducible refine jvA_13 ?_
      | decide
      | with_reducible exact nz_nle (by assumption)
theorem jv_rb_Model_wrong (hF : jvF F) (T : gSt) (h : I78 T) : jv (rb_Model_wrong F nf T) := by
    unfold rb_Model_wrong
    repeat' first
      | with_reducible exact jv_none
      | with_reducible refine jv_some ?_
      | with_reducible refine jv_ite (fun _ => ?_) (fun _ => ?_)
      | with_reducible refine jv_gd ?_
      | with_reducible refine jv_stK ?_ (fun _ _ => ?_)
      | with_reducible refine jv_vK (fun _ => ?_)
      | with_reducible refine jv_lK (fun _ => ?_)
      | with_reducible refine jv_bi ?_ (fun _ _ _ _ => ?_)
      | with_reducible refine hF _ _ _ _ ?_ ?_
      | assumption
      | with_reducible refine i78_sI ?_ (by decide) (by decide)
      | with_reducible refine i78_sJ ?_
      | with_reducible refine i78_sA ?_ (by decide) (by decide)
      | with_reducible exact jvA_o (by decide)
      | with_reducible refine jvA_13 ?_
      | decide
      | with_reducible exact nz_nle (by assumption)
theorem jv_rb_Model_isSign (hF : jvF F) (T : gSt) (p1 : Int32) (h : I78 T) : jv (rb_Model_isSign F nf T p1) := by
    unfold rb_Model_isSign
    repeat' first
      | with_reducible exact jv_none
      | with_reducible refine jv_some ?_
      | with_reducible refine jv_ite (fun _ => ?_) (fun _ => ?_)
      | with_reducible refine jv_gd ?_
      | with_reducible refine jv_stK ?_ (fun _ _ => ?_)
      | with_reducible refine jv_vK (fun _ => ?_)
      | with_reducible refine jv_lK (fun _ => ?_)
      | with_reducible refine jv_bi ?_ (fun _ _ _ _ => ?_)
      | with_reducible refine hF _ _ _ _ ?_ ?_
      | assumption
      | with_reducible refine i78_sI ?_ (by decide) (by decide)
      | with_reducible refine i78_sJ ?_
      | with_reducible refine i78_sA ?_ (by decide) (by decide)
      | with_reducible exact jvA_o (by decide)
      | with_reducible refine jvA_13 ?_
      | decide
      | with_reducible exact nz_nle (by assumption)
theorem jv_rb_Model_takes (hF : jvF F) (T : gSt) (p1 : Int32) (h : I78 T) : jv (rb_Model_takes F nf T p1) := by
    unfold rb_Model_takes
    repeat' first
      | with_reducible exact jv_none
      | with_reducible refine jv_some ?_
      | with_reducible refine jv_ite (fun _ => ?_) (fun _ => ?_)
      | with_reducible refine jv_gd ?_
      | with_reducible refine jv_stK ?_ (fun _ _ => ?_)
      | with_reducible refine jv_vK (fun _ => ?_)
      | with_reducible refine jv_lK (fun _ => ?_)
      | with_reducible refine jv_bi ?_ (fun _ _ _ _ => ?_)
      | with_reducible refine hF _ _ _ _ ?_ ?_
      | assumption
      | with_reducible refine i78_sI ?_ (by decide) (by decide)
      | with_reducible refine i78_sJ ?_
      | with_reducible refine i78_sA ?_ (by decide) (by decide)
      | with_reducible exact jvA_o (by decide)
      | with_reducible refine jvA_13 ?_
      | decide
      | with_reducible exact nz_nle (by assumption)
theorem jv_rb_Model_takesWord (hF : jvF F) (T : gSt) (p1 : Nat) (h : I78 T) : jv (rb_Model_takesWord F nf T p1) := by
    unfold rb_Model_takesWord
    repeat' first
      | with_reducible exact jv_none
      | with_reducible refine jv_some ?_
      | with_reducible refine jv_ite (fun _ => ?_) (fun _ => ?_)
      | with_reducible refine jv_gd ?_
      | with_reducible refine jv_stK ?_ (fun _ _ => ?_)
      | with_reducible refine jv_vK (fun _ => ?_)
      | with_reducible refine jv_lK (fun _ => ?_)
      | with_reducible refine jv_bi ?_ (fun _ _ _ _ => ?_)
      | with_reducible refine hF _ _ _ _ ?_ ?_
      | assumption
      | with_reducible refine i78_sI ?_ (by decide) (by decide)
      | with_reducible refine i78_sJ ?_
      | with_reducible refine i78_sA ?_ (by decide) (by decide)
      | with_reducible exact jvA_o (by decide)
      | with_reducible refine jvA_13 ?_
      | decide
      | with_reducible exact nz_nle (by assumption)
theorem jv_rb_Model_need (hF : jvF F) (T : gSt) (p1 : Int32) (h : I78 T) : jv (rb_Model_need F nf T p1) := by
    unfold rb_Model_need
    repeat' first
      | with_reducible exact jv_none
      | with_reducible refine jv_some ?_
      | with_reducible refine jv_ite (fun _ => ?_) (fun _ => ?_)
      | with_reducible refine jv_gd ?_
      | with_reducible refine jv_stK ?_ (fun _ _ => ?_)
      | with_reducible refine jv_vK (fun _ => ?_)
      | with_reducible refine jv_lK (fun _ => ?_)
      | with_reducible refine jv_bi ?_ (fun _ _ _ _ => ?_)
      | with_reducible refine hF _ _ _ _ ?_ ?_
      | assumption
      | with_reducible refine i78_sI ?_ (by decide) (by decide)
      | with_reducible refine i78_sJ ?_
      | with_reducible refine i78_sA ?_ (by decide) (by decide)
      | with_reducible exact jvA_o (by decide)
      | with_reducible refine jvA_13 ?_
      | decide
      | with_reducible exact nz_nle (by assumption)
theorem jv_rb_Model_needName (hF : jvF F) (T : gSt) (h : I78 T) : jv (rb_Model_needName F nf T) := by
    unfold rb_Model_needName
    repeat' first
      | with_reducible exact jv_none
      | with_reducible refine jv_some ?_
      | with_reducible refine jv_ite (fun _ => ?_) (fun _ => ?_)
      | with_reducible refine jv_gd ?_
      | with_reducible refine jv_stK ?_ (fun _ _ => ?_)
      | with_reducible refine jv_vK (fun _ => ?_)
      | with_reducible refine jv_lK (fun _ => ?_)
      | with_reducible refine jv_bi ?_ (fun _ _ _ _ => ?_)
      | with_reducible refine hF _ _ _ _ ?_ ?_
      | assumption
      | with_reducible refine i78_sI ?_ (by decide) (by decide)
      | with_reducible refine i78_sJ ?_
      | with_reducible refine i78_sA ?_ (by decide) (by decide)
      | with_reducible exact jvA_o (by decide)
      | with_reducible refine jvA_13 ?_
      | decide
      | with_reducible exact nz_nle (by assumption)
theorem jv_rj_Model_needRegion_12 (hF : jvF F) (T : gSt) (h : I78 T) : jv (rj_Model_needRegion_12 F nf T) := by
    unfold rj_Model_needRegion_12
    repeat' first
      | with_reducible exact jv_none
      | with_reducible refine jv_some ?_
      | with_reducible refine jv_ite (fun _ => ?_) (fun _ => ?_)
      | with_reducible refine jv_gd ?_
      | with_reducible refine jv_stK ?_ (fun _ _ => ?_)
      | with_reducible refine jv_vK (fun _ => ?_)
      | with_reducible refine jv_lK (fun _ => ?_)
      | with_reducible refine jv_bi ?_ (fun _ _ _ _ => ?_)
      | with_reducible refine hF _ _ _ _ ?_ ?_
      | assumption
      | with_reducible refine i78_sI ?_ (by decide) (by decide)
      | with_reducible refine i78_sJ ?_
      | with_reducible refine i78_sA ?_ (by decide) (by decide)
      | with_reducible exact jvA_o (by decide)
      | with_reducible refine jvA_13 ?_
      | decide
      | with_reducible exact nz_nle (by assumption)
theorem jv_rb_Model_needRegion (hF : jvF F) (T : gSt) (h : I78 T) : jv (rb_Model_needRegion F nf T) := by
    unfold rb_Model_needRegion
    repeat' first
      | with_reducible exact jv_none
      | with_reducible refine jv_some ?_
      | with_reducible refine jv_ite (fun _ => ?_) (fun _ => ?_)
      | with_reducible refine jv_gd ?_
      | with_reducible refine jv_stK ?_ (fun _ _ => ?_)
      | with_reducible refine jv_vK (fun _ => ?_)
      | with_reducible refine jv_lK (fun _ => ?_)
      | with_reducible refine jv_bi ?_ (fun _ _ _ _ => ?_)
      | with_reducible refine hF _ _ _ _ ?_ ?_
      | with_reducible refine jv_rj_Model_needRegion_12 hF  _  ?_
      | assumption
      | with_reducible refine i78_sI ?_ (by decide) (by decide)
      | with_reducible refine i78_sJ ?_
      | with_reducible refine i78_sA ?_ (by decide) (by decide)
      | with_reducible exact jvA_o (by decide)
      | with_reducible refine jvA_13 ?_
      | decide
      | with_reducible exact nz_nle (by assumption)
theorem jv_rj_Model_program__90 (hF : jvF F) {rec_36 : gSt → Int32 → gR} (hrec_36 : ∀ T a0, I78 T → jv (rec_36 T a0)) (T : gSt) (y0 : Int32) (h : I78 T) : jv (rj_Model_program__90 F nf rec_36 T y0) := by
    unfold rj_Model_program__90
    repeat' first
      | with_reducible exact jv_none
      | with_reducible refine jv_some ?_
      | with_reducible refine jv_ite (fun _ => ?_) (fun _ => ?_)
      | with_reducible refine jv_gd ?_
      | with_reducible refine jv_stK ?_ (fun _ _ => ?_)
      | with_reducible refine jv_vK (fun _ => ?_)
      | with_reducible refine jv_lK (fun _ => ?_)
      | with_reducible refine jv_bi ?_ (fun _ _ _ _ => ?_)
      | with_reducible refine hF _ _ _ _ ?_ ?_
      | with_reducible refine hrec_36 _ _ ?_
      | assumption
      | with_reducible refine i78_sI ?_ (by decide) (by decide)
      | with_reducible refine i78_sJ ?_
      | with_reducible refine i78_sA ?_ (by decide) (by decide)
      | with_reducible exact jvA_o (by decide)
      | with_reducible refine jvA_13 ?_
      | decide
      | with_reducible exact nz_nle (by assumption)
theorem jv_rl_Model_program__36 (hF : jvF F) : ∀ (n : Nat) (T : gSt) (x0 : Int32), I78 T → jv (rl_Model_program__36 F nf n T x0) := by
  intro n
  induction n with
  | zero =>
    intro T x0 h
    rw [rl_Model_program__36]
    exact jv_none
  | succ n ih =>
    intro T x0 h
    rw [rl_Model_program__36]
    repeat' first
      | with_reducible exact jv_none
      | with_reducible refine jv_some ?_
      | with_reducible refine jv_ite (fun _ => ?_) (fun _ => ?_)
      | with_reducible refine jv_gd ?_
      | with_reducible refine jv_stK ?_ (fun _ _ => ?_)
      | with_reducible refine jv_vK (fun _ => ?_)
      | with_reducible refine jv_lK (fun _ => ?_)
      | with_reducible refine jv_bi ?_ (fun _ _ _ _ => ?_)
      | with_reducible refine hF _ _ _ _ ?_ ?_
      | with_reducible refine jv_rj_Model_program__90 hF ?_ _ _ ?_
      | with_reducible refine ih _ _ ?_
      | assumption
      | with_reducible refine i78_sI ?_ (by decide) (by decide)
      | with_reducible refine i78_sJ ?_
      | with_reducible refine i78_sA ?_ (by decide) (by decide)
      | with_reducible exact jvA_o (by decide)
      | with_reducible refine jvA_13 ?_
      | decide
      | with_reducible exact nz_nle (by assumption)
theorem jv_rb_Model_program_ (hF : jvF F) (T : gSt) (h : I78 T) : jv (rb_Model_program_ F nf T) := by
    unfold rb_Model_program_
    repeat' first
      | with_reducible exact jv_none
      | with_reducible refine jv_some ?_
      | with_reducible refine jv_ite (fun _ => ?_) (fun _ => ?_)
      | with_reducible refine jv_gd ?_
      | with_reducible refine jv_stK ?_ (fun _ _ => ?_)
      | with_reducible refine jv_vK (fun _ => ?_)
      | with_reducible refine jv_lK (fun _ => ?_)
      | with_reducible refine jv_bi ?_ (fun _ _ _ _ => ?_)
      | with_reducible refine hF _ _ _ _ ?_ ?_
      | with_reducible refine jv_rl_Model_program__36 hF  _ _ _ ?_
      | assumption
      | with_reducible refine i78_sI ?_ (by decide) (by decide)
      | with_reducible refine i78_sJ ?_
      | with_reducible refine i78_sA ?_ (by decide) (by decide)
      | with_reducible exact jvA_o (by decide)
      | with_reducible refine jvA_13 ?_
      | decide
      | with_reducible exact nz_nle (by assumption)
theorem jv_rj_Model_readItem_312 (hF : jvF F) {rec_294 : gSt → gR} (hrec_294 : ∀ T , I78 T → jv (rec_294 T )) (T : gSt) (h : I78 T) : jv (rj_Model_readItem_312 F nf rec_294 T) := by
    unfold rj_Model_readItem_312
    repeat' first
      | with_reducible exact jv_none
      | with_reducible refine jv_some ?_
      | with_reducible refine jv_ite (fun _ => ?_) (fun _ => ?_)
      | with_reducible refine jv_gd ?_
      | with_reducible refine jv_stK ?_ (fun _ _ => ?_)
      | with_reducible refine jv_vK (fun _ => ?_)
      | with_reducible refine jv_lK (fun _ => ?_)
      | with_reducible refine jv_bi ?_ (fun _ _ _ _ => ?_)
      | with_reducible refine hF _ _ _ _ ?_ ?_
      | with_reducible refine hrec_294 _  ?_
      | assumption
      | with_reducible refine i78_sI ?_ (by decide) (by decide)
      | with_reducible refine i78_sJ ?_
      | with_reducible refine i78_sA ?_ (by decide) (by decide)
      | with_reducible exact jvA_o (by decide)
      | with_reducible refine jvA_13 ?_
      | decide
      | with_reducible exact nz_nle (by assumption)
theorem jv_rl_Model_readItem_294 (hF : jvF F) : ∀ (n : Nat) (T : gSt), I78 T → jv (rl_Model_readItem_294 F nf n T ) := by
  intro n
  induction n with
  | zero =>
    intro T  h
    rw [rl_Model_readItem_294]
    exact jv_none
  | succ n ih =>
    intro T  h
    rw [rl_Model_readItem_294]
    repeat' first
      | with_reducible exact jv_none
      | with_reducible refine jv_some ?_
      | with_reducible refine jv_ite (fun _ => ?_) (fun _ => ?_)
      | with_reducible refine jv_gd ?_
      | with_reducible refine jv_stK ?_ (fun _ _ => ?_)
      | with_reducible refine jv_vK (fun _ => ?_)
      | with_reducible refine jv_lK (fun _ => ?_)
      | with_reducible refine jv_bi ?_ (fun _ _ _ _ => ?_)
      | with_reducible refine hF _ _ _ _ ?_ ?_
      | with_reducible refine jv_rj_Model_readItem_312 hF ?_ _  ?_
      | with_reducible refine ih _  ?_
      | assumption
      | with_reducible refine i78_sI ?_ (by decide) (by decide)
      | with_reducible refine i78_sJ ?_
      | with_reducible refine i78_sA ?_ (by decide) (by decide)
      | with_reducible exact jvA_o (by decide)
      | with_reducible refine jvA_13 ?_
      | decide
      | with_reducible exact nz_nle (by assumption)
theorem jv_rj_Model_readItem_188 (hF : jvF F) (T : gSt) (x1 : Int32) (h : I78 T) : jv (rj_Model_readItem_188 F nf T x1) := by
    unfold rj_Model_readItem_188
    repeat' first
      | with_reducible exact jv_none
      | with_reducible refine jv_some ?_
      | with_reducible refine jv_ite (fun _ => ?_) (fun _ => ?_)
      | with_reducible refine jv_gd ?_
      | with_reducible refine jv_stK ?_ (fun _ _ => ?_)
      | with_reducible refine jv_vK (fun _ => ?_)
      | with_reducible refine jv_lK (fun _ => ?_)
      | with_reducible refine jv_bi ?_ (fun _ _ _ _ => ?_)
      | with_reducible refine hF _ _ _ _ ?_ ?_
      | with_reducible refine jv_rl_Model_readItem_294 hF  _ _  ?_
      | assumption
      | with_reducible refine i78_sI ?_ (by decide) (by decide)
      | with_reducible refine i78_sJ ?_
      | with_reducible refine i78_sA ?_ (by decide) (by decide)
      | with_reducible exact jvA_o (by decide)
      | with_reducible refine jvA_13 ?_
      | decide
      | with_reducible exact nz_nle (by assumption)
theorem jv_rl_Model_readItem_97 (hF : jvF F) : ∀ (n : Nat) (T : gSt) (x0 : Int32), I78 T → jv (rl_Model_readItem_97 F nf n T x0) := by
  intro n
  induction n with
  | zero =>
    intro T x0 h
    rw [rl_Model_readItem_97]
    exact jv_none
  | succ n ih =>
    intro T x0 h
    rw [rl_Model_readItem_97]
    repeat' first
      | with_reducible exact jv_none
      | with_reducible refine jv_some ?_
      | with_reducible refine jv_ite (fun _ => ?_) (fun _ => ?_)
      | with_reducible refine jv_gd ?_
      | with_reducible refine jv_stK ?_ (fun _ _ => ?_)
      | with_reducible refine jv_vK (fun _ => ?_)
      | with_reducible refine jv_lK (fun _ => ?_)
      | with_reducible refine jv_bi ?_ (fun _ _ _ _ => ?_)
      | with_reducible refine hF _ _ _ _ ?_ ?_
      | with_reducible refine jv_rj_Model_readItem_188 hF  _ _ ?_
      | with_reducible refine ih _ _ ?_
      | assumption
      | with_reducible refine i78_sI ?_ (by decide) (by decide)
      | with_reducible refine i78_sJ ?_
      | with_reducible refine i78_sA ?_ (by decide) (by decide)
      | with_reducible exact jvA_o (by decide)
      | with_reducible refine jvA_13 ?_
      | decide
      | with_reducible exact nz_nle (by assumption)
theorem jv_rj_Model_readItem_65 (hF : jvF F) (T : gSt) (x1 : Int32) (h : I78 T) : jv (rj_Model_readItem_65 F nf T x1) := by
    unfold rj_Model_readItem_65
    repeat' first
      | with_reducible exact jv_none
      | with_reducible refine jv_some ?_
      | with_reducible refine jv_ite (fun _ => ?_) (fun _ => ?_)
      | with_reducible refine jv_gd ?_
      | with_reducible refine jv_stK ?_ (fun _ _ => ?_)
      | with_reducible refine jv_vK (fun _ => ?_)
      | with_reducible refine jv_lK (fun _ => ?_)
      | with_reducible refine jv_bi ?_ (fun _ _ _ _ => ?_)
      | with_reducible refine hF _ _ _ _ ?_ ?_
      | with_reducible refine jv_rl_Model_readItem_97 hF  _ _ _ ?_
      | assumption
      | with_reducible refine i78_sI ?_ (by decide) (by decide)
      | with_reducible refine i78_sJ ?_
      | with_reducible refine i78_sA ?_ (by decide) (by decide)
      | with_reducible exact jvA_o (by decide)
      | with_reducible refine jvA_13 ?_
      | decide
      | with_reducible exact nz_nle (by assumption)
theorem jv_rb_Model_readItem (hF : jvF F) (T : gSt) (p1 : Int32) (h : I78 T) : jv (rb_Model_readItem F nf T p1) := by
    unfold rb_Model_readItem
    repeat' first
      | with_reducible exact jv_none
      | with_reducible refine jv_some ?_
      | with_reducible refine jv_ite (fun _ => ?_) (fun _ => ?_)
      | with_reducible refine jv_gd ?_
      | with_reducible refine jv_stK ?_ (fun _ _ => ?_)
      | with_reducible refine jv_vK (fun _ => ?_)
      | with_reducible refine jv_lK (fun _ => ?_)
      | with_reducible refine jv_bi ?_ (fun _ _ _ _ => ?_)
      | with_reducible refine hF _ _ _ _ ?_ ?_
      | with_reducible refine jv_rj_Model_readItem_65 hF  _ _ ?_
      | assumption
      | with_reducible refine i78_sI ?_ (by decide) (by decide)
      | with_reducible refine i78_sJ ?_
      | with_reducible refine i78_sA ?_ (by decide) (by decide)
      | with_reducible exact jvA_o (by decide)
      | with_reducible refine jvA_13 ?_
      | decide
      | with_reducible exact nz_nle (by assumption)
theorem jv_rb_Model_readField (hF : jvF F) (T : gSt) (h : I78 T) : jv (rb_Model_readField F nf T) := by
    unfold rb_Model_readField
    repeat' first
      | with_reducible exact jv_none
      | with_reducible refine jv_some ?_
      | with_reducible refine jv_ite (fun _ => ?_) (fun _ => ?_)
      | with_reducible refine jv_gd ?_
      | with_reducible refine jv_stK ?_ (fun _ _ => ?_)
      | with_reducible refine jv_vK (fun _ => ?_)
      | with_reducible refine jv_lK (fun _ => ?_)
      | with_reducible refine jv_bi ?_ (fun _ _ _ _ => ?_)
      | with_reducible refine hF _ _ _ _ ?_ ?_
      | assumption
      | with_reducible refine i78_sI ?_ (by decide) (by decide)
      | with_reducible refine i78_sJ ?_
      | with_reducible refine i78_sA ?_ (by decide) (by decide)
      | with_reducible exact jvA_o (by decide)
      | with_reducible refine jvA_13 ?_
      | decide
      | with_reducible exact nz_nle (by assumption)
theorem jv_rl_Model_readHead_123 (hF : jvF F) : ∀ (n : Nat) (T : gSt), I78 T → jv (rl_Model_readHead_123 F nf n T ) := by
  intro n
  induction n with
  | zero =>
    intro T  h
    rw [rl_Model_readHead_123]
    exact jv_none
  | succ n ih =>
    intro T  h
    rw [rl_Model_readHead_123]
    repeat' first
      | with_reducible exact jv_none
      | with_reducible refine jv_some ?_
      | with_reducible refine jv_ite (fun _ => ?_) (fun _ => ?_)
      | with_reducible refine jv_gd ?_
      | with_reducible refine jv_stK ?_ (fun _ _ => ?_)
      | with_reducible refine jv_vK (fun _ => ?_)
      | with_reducible refine jv_lK (fun _ => ?_)
      | with_reducible refine jv_bi ?_ (fun _ _ _ _ => ?_)
      | with_reducible refine hF _ _ _ _ ?_ ?_
      | with_reducible refine ih _  ?_
      | assumption
      | with_reducible refine i78_sI ?_ (by decide) (by decide)
      | with_reducible refine i78_sJ ?_
      | with_reducible refine i78_sA ?_ (by decide) (by decide)
      | with_reducible exact jvA_o (by decide)
      | with_reducible refine jvA_13 ?_
      | decide
      | with_reducible exact nz_nle (by assumption)
theorem jv_rj_Model_readHead_84 (hF : jvF F) (T : gSt) (h : I78 T) : jv (rj_Model_readHead_84 F nf T) := by
    unfold rj_Model_readHead_84
    repeat' first
      | with_reducible exact jv_none
      | with_reducible refine jv_some ?_
      | with_reducible refine jv_ite (fun _ => ?_) (fun _ => ?_)
      | with_reducible refine jv_gd ?_
      | with_reducible refine jv_stK ?_ (fun _ _ => ?_)
      | with_reducible refine jv_vK (fun _ => ?_)
      | with_reducible refine jv_lK (fun _ => ?_)
      | with_reducible refine jv_bi ?_ (fun _ _ _ _ => ?_)
      | with_reducible refine hF _ _ _ _ ?_ ?_
      | with_reducible refine jv_rl_Model_readHead_123 hF  _ _  ?_
      | assumption
      | with_reducible refine i78_sI ?_ (by decide) (by decide)
      | with_reducible refine i78_sJ ?_
      | with_reducible refine i78_sA ?_ (by decide) (by decide)
      | with_reducible exact jvA_o (by decide)
      | with_reducible refine jvA_13 ?_
      | decide
      | with_reducible exact nz_nle (by assumption)
theorem jv_rj_Model_readHead_40 (hF : jvF F) {rec_6 : gSt → gR} (hrec_6 : ∀ T , I78 T → jv (rec_6 T )) (T : gSt) (h : I78 T) : jv (rj_Model_readHead_40 F nf rec_6 T) := by
    unfold rj_Model_readHead_40
    repeat' first
      | with_reducible exact jv_none
      | with_reducible refine jv_some ?_
      | with_reducible refine jv_ite (fun _ => ?_) (fun _ => ?_)
      | with_reducible refine jv_gd ?_
      | with_reducible refine jv_stK ?_ (fun _ _ => ?_)
      | with_reducible refine jv_vK (fun _ => ?_)
      | with_reducible refine jv_lK (fun _ => ?_)
      | with_reducible refine jv_bi ?_ (fun _ _ _ _ => ?_)
      | with_reducible refine hF _ _ _ _ ?_ ?_
      | with_reducible refine hrec_6 _  ?_
      | assumption
      | with_reducible refine i78_sI ?_ (by decide) (by decide)
      | with_reducible refine i78_sJ ?_
      | with_reducible refine i78_sA ?_ (by decide) (by decide)
      | with_reducible exact jvA_o (by decide)
      | with_reducible refine jvA_13 ?_
      | decide
      | with_reducible exact nz_nle (by assumption)
theorem jv_rl_Model_readHead_6 (hF : jvF F) : ∀ (n : Nat) (T : gSt), I78 T → jv (rl_Model_readHead_6 F nf n T ) := by
  intro n
  induction n with
  | zero =>
    intro T  h
    rw [rl_Model_readHead_6]
    exact jv_none
  | succ n ih =>
    intro T  h
    rw [rl_Model_readHead_6]
    repeat' first
      | with_reducible exact jv_none
      | with_reducible refine jv_some ?_
      | with_reducible refine jv_ite (fun _ => ?_) (fun _ => ?_)
      | with_reducible refine jv_gd ?_
      | with_reducible refine jv_stK ?_ (fun _ _ => ?_)
      | with_reducible refine jv_vK (fun _ => ?_)
      | with_reducible refine jv_lK (fun _ => ?_)
      | with_reducible refine jv_bi ?_ (fun _ _ _ _ => ?_)
      | with_reducible refine hF _ _ _ _ ?_ ?_
      | with_reducible refine jv_rj_Model_readHead_40 hF ?_ _  ?_
      | with_reducible refine jv_rj_Model_readHead_84 hF  _  ?_
      | with_reducible refine ih _  ?_
      | assumption
      | with_reducible refine i78_sI ?_ (by decide) (by decide)
      | with_reducible refine i78_sJ ?_
      | with_reducible refine i78_sA ?_ (by decide) (by decide)
      | with_reducible exact jvA_o (by decide)
      | with_reducible refine jvA_13 ?_
      | decide
      | with_reducible exact nz_nle (by assumption)
theorem jv_rb_Model_readHead (hF : jvF F) (T : gSt) (h : I78 T) : jv (rb_Model_readHead F nf T) := by
    unfold rb_Model_readHead
    repeat' first
      | with_reducible exact jv_none
      | with_reducible refine jv_some ?_
      | with_reducible refine jv_ite (fun _ => ?_) (fun _ => ?_)
      | with_reducible refine jv_gd ?_
      | with_reducible refine jv_stK ?_ (fun _ _ => ?_)
      | with_reducible refine jv_vK (fun _ => ?_)
      | with_reducible refine jv_lK (fun _ => ?_)
      | with_reducible refine jv_bi ?_ (fun _ _ _ _ => ?_)
      | with_reducible refine hF _ _ _ _ ?_ ?_
      | with_reducible refine jv_rl_Model_readHead_6 hF  _ _  ?_
      | assumption
      | with_reducible refine i78_sI ?_ (by decide) (by decide)
      | with_reducible refine i78_sJ ?_
      | with_reducible refine i78_sA ?_ (by decide) (by decide)
      | with_reducible exact jvA_o (by decide)
      | with_reducible refine jvA_13 ?_
      | decide
      | with_reducible exact nz_nle (by assumption)
theorem jv_rj_Model_readWheres_30 (hF : jvF F) {rec_2 : gSt → Int32 → gR} (hrec_2 : ∀ T a0, I78 T → jv (rec_2 T a0)) (T : gSt) (h : I78 T) : jv (rj_Model_readWheres_30 F nf rec_2 T) := by
    unfold rj_Model_readWheres_30
    repeat' first
      | with_reducible exact jv_none
      | with_reducible refine jv_some ?_
      | with_reducible refine jv_ite (fun _ => ?_) (fun _ => ?_)
      | with_reducible refine jv_gd ?_
      | with_reducible refine jv_stK ?_ (fun _ _ => ?_)
      | with_reducible refine jv_vK (fun _ => ?_)
      | with_reducible refine jv_lK (fun _ => ?_)
      | with_reducible refine jv_bi ?_ (fun _ _ _ _ => ?_)
      | with_reducible refine hF _ _ _ _ ?_ ?_
      | with_reducible refine hrec_2 _ _ ?_
      | assumption
      | with_reducible refine i78_sI ?_ (by decide) (by decide)
      | with_reducible refine i78_sJ ?_
      | with_reducible refine i78_sA ?_ (by decide) (by decide)
      | with_reducible exact jvA_o (by decide)
      | with_reducible refine jvA_13 ?_
      | decide
      | with_reducible exact nz_nle (by assumption)
theorem jv_rl_Model_readWheres_2 (hF : jvF F) : ∀ (n : Nat) (T : gSt) (x0 : Int32), I78 T → jv (rl_Model_readWheres_2 F nf n T x0) := by
  intro n
  induction n with
  | zero =>
    intro T x0 h
    rw [rl_Model_readWheres_2]
    exact jv_none
  | succ n ih =>
    intro T x0 h
    rw [rl_Model_readWheres_2]
    repeat' first
      | with_reducible exact jv_none
      | with_reducible refine jv_some ?_
      | with_reducible refine jv_ite (fun _ => ?_) (fun _ => ?_)
      | with_reducible refine jv_gd ?_
      | with_reducible refine jv_stK ?_ (fun _ _ => ?_)
      | with_reducible refine jv_vK (fun _ => ?_)
      | with_reducible refine jv_lK (fun _ => ?_)
      | with_reducible refine jv_bi ?_ (fun _ _ _ _ => ?_)
      | with_reducible refine hF _ _ _ _ ?_ ?_
      | with_reducible refine jv_rj_Model_readWheres_30 hF ?_ _  ?_
      | with_reducible refine ih _ _ ?_
      | assumption
      | with_reducible refine i78_sI ?_ (by decide) (by decide)
      | with_reducible refine i78_sJ ?_
      | with_reducible refine i78_sA ?_ (by decide) (by decide)
      | with_reducible exact jvA_o (by decide)
      | with_reducible refine jvA_13 ?_
      | decide
      | with_reducible exact nz_nle (by assumption)
theorem jv_rb_Model_readWheres (hF : jvF F) (T : gSt) (h : I78 T) : jv (rb_Model_readWheres F nf T) := by
    unfold rb_Model_readWheres
    repeat' first
      | with_reducible exact jv_none
      | with_reducible refine jv_some ?_
      | with_reducible refine jv_ite (fun _ => ?_) (fun _ => ?_)
      | with_reducible refine jv_gd ?_
      | with_reducible refine jv_stK ?_ (fun _ _ => ?_)
      | with_reducible refine jv_vK (fun _ => ?_)
      | with_reducible refine jv_lK (fun _ => ?_)
      | with_reducible refine jv_bi ?_ (fun _ _ _ _ => ?_)
      | with_reducible refine hF _ _ _ _ ?_ ?_
      | with_reducible refine jv_rl_Model_readWheres_2 hF  _ _ _ ?_
      | assumption
      | with_reducible refine i78_sI ?_ (by decide) (by decide)
      | with_reducible refine i78_sJ ?_
      | with_reducible refine i78_sA ?_ (by decide) (by decide)
      | with_reducible exact jvA_o (by decide)
      | with_reducible refine jvA_13 ?_
      | decide
      | with_reducible exact nz_nle (by assumption)
theorem jv_rj_Model_type_231 (hF : jvF F) (T : gSt) (x1 : Int32) (x3 : Int32) (h : I78 T) : jv (rj_Model_type_231 F nf T x1 x3) := by
    unfold rj_Model_type_231
    repeat' first
      | with_reducible exact jv_none
      | with_reducible refine jv_some ?_
      | with_reducible refine jv_ite (fun _ => ?_) (fun _ => ?_)
      | with_reducible refine jv_gd ?_
      | with_reducible refine jv_stK ?_ (fun _ _ => ?_)
      | with_reducible refine jv_vK (fun _ => ?_)
      | with_reducible refine jv_lK (fun _ => ?_)
      | with_reducible refine jv_bi ?_ (fun _ _ _ _ => ?_)
      | with_reducible refine hF _ _ _ _ ?_ ?_
      | assumption
      | with_reducible refine i78_sI ?_ (by decide) (by decide)
      | with_reducible refine i78_sJ ?_
      | with_reducible refine i78_sA ?_ (by decide) (by decide)
      | with_reducible exact jvA_o (by decide)
      | with_reducible refine jvA_13 ?_
      | decide
      | with_reducible exact nz_nle (by assumption)
theorem jv_rj_Model_type_208 (hF : jvF F) (T : gSt) (x3 : Int32) (h : I78 T) : jv (rj_Model_type_208 F nf T x3) := by
    unfold rj_Model_type_208
    repeat' first
      | with_reducible exact jv_none
      | with_reducible refine jv_some ?_
      | with_reducible refine jv_ite (fun _ => ?_) (fun _ => ?_)
      | with_reducible refine jv_gd ?_
      | with_reducible refine jv_stK ?_ (fun _ _ => ?_)
      | with_reducible refine jv_vK (fun _ => ?_)
      | with_reducible refine jv_lK (fun _ => ?_)
      | with_reducible refine jv_bi ?_ (fun _ _ _ _ => ?_)
      | with_reducible refine hF _ _ _ _ ?_ ?_
      | assumption
      | with_reducible refine i78_sI ?_ (by decide) (by decide)
      | with_reducible refine i78_sJ ?_
      | with_reducible refine i78_sA ?_ (by decide) (by decide)
      | with_reducible exact jvA_o (by decide)
      | with_reducible refine jvA_13 ?_
      | decide
      | with_reducible exact nz_nle (by assumption)
theorem jv_rj_Model_type_177 (hF : jvF F) (T : gSt) (x3 : Int32) (h : I78 T) : jv (rj_Model_type_177 F nf T x3) := by
    unfold rj_Model_type_177
    repeat' first
      | with_reducible exact jv_none
      | with_reducible refine jv_some ?_
      | with_reducible refine jv_ite (fun _ => ?_) (fun _ => ?_)
      | with_reducible refine jv_gd ?_
      | with_reducible refine jv_stK ?_ (fun _ _ => ?_)
      | with_reducible refine jv_vK (fun _ => ?_)
      | with_reducible refine jv_lK (fun _ => ?_)
      | with_reducible refine jv_bi ?_ (fun _ _ _ _ => ?_)
      | with_reducible refine hF _ _ _ _ ?_ ?_
      | with_reducible refine jv_rj_Model_type_208 hF  _ _ ?_
      | assumption
      | with_reducible refine i78_sI ?_ (by decide) (by decide)
      | with_reducible refine i78_sJ ?_
      | with_reducible refine i78_sA ?_ (by decide) (by decide)
      | with_reducible exact jvA_o (by decide)
      | with_reducible refine jvA_13 ?_
      | decide
      | with_reducible exact nz_nle (by assumption)
theorem jv_rj_Model_type_73 (hF : jvF F) (T : gSt) (x1 : Int32) (x2 : Int32) (h : I78 T) : jv (rj_Model_type_73 F nf T x1 x2) := by
    unfold rj_Model_type_73
    repeat' first
      | with_reducible exact jv_none
      | with_reducible refine jv_some ?_
      | with_reducible refine jv_ite (fun _ => ?_) (fun _ => ?_)
      | with_reducible refine jv_gd ?_
      | with_reducible refine jv_stK ?_ (fun _ _ => ?_)
      | with_reducible refine jv_vK (fun _ => ?_)
      | with_reducible refine jv_lK (fun _ => ?_)
      | with_reducible refine jv_bi ?_ (fun _ _ _ _ => ?_)
      | with_reducible refine hF _ _ _ _ ?_ ?_
      | with_reducible refine jv_rj_Model_type_177 hF  _ _ ?_
      | with_reducible refine jv_rj_Model_type_231 hF  _ _ _ ?_
      | assumption
      | with_reducible refine i78_sI ?_ (by decide) (by decide)
      | with_reducible refine i78_sJ ?_
      | with_reducible refine i78_sA ?_ (by decide) (by decide)
      | with_reducible exact jvA_o (by decide)
      | with_reducible refine jvA_13 ?_
      | decide
      | with_reducible exact nz_nle (by assumption)
theorem jv_rj_Model_type_10 (hF : jvF F) (T : gSt) (x1 : Int32) (h : I78 T) : jv (rj_Model_type_10 F nf T x1) := by
    unfold rj_Model_type_10
    repeat' first
      | with_reducible exact jv_none
      | with_reducible refine jv_some ?_
      | with_reducible refine jv_ite (fun _ => ?_) (fun _ => ?_)
      | with_reducible refine jv_gd ?_
      | with_reducible refine jv_stK ?_ (fun _ _ => ?_)
      | with_reducible refine jv_vK (fun _ => ?_)
      | with_reducible refine jv_lK (fun _ => ?_)
      | with_reducible refine jv_bi ?_ (fun _ _ _ _ => ?_)
      | with_reducible refine hF _ _ _ _ ?_ ?_
      | with_reducible refine jv_rj_Model_type_73 hF  _ _ _ ?_
      | assumption
      | with_reducible refine i78_sI ?_ (by decide) (by decide)
      | with_reducible refine i78_sJ ?_
      | with_reducible refine i78_sA ?_ (by decide) (by decide)
      | with_reducible exact jvA_o (by decide)
      | with_reducible refine jvA_13 ?_
      | decide
      | with_reducible exact nz_nle (by assumption)
theorem jv_rb_Model_type (hF : jvF F) (T : gSt) (p1 : Int32) (h : I78 T) : jv (rb_Model_type F nf T p1) := by
    unfold rb_Model_type
    repeat' first
      | with_reducible exact jv_none
      | with_reducible refine jv_some ?_
      | with_reducible refine jv_ite (fun _ => ?_) (fun _ => ?_)
      | with_reducible refine jv_gd ?_
      | with_reducible refine jv_stK ?_ (fun _ _ => ?_)
      | with_reducible refine jv_vK (fun _ => ?_)
      | with_reducible refine jv_lK (fun _ => ?_)
      | with_reducible refine jv_bi ?_ (fun _ _ _ _ => ?_)
      | with_reducible refine hF _ _ _ _ ?_ ?_
      | with_reducible refine jv_rj_Model_type_10 hF  _ _ ?_
      | assumption
      | with_reducible refine i78_sI ?_ (by decide) (by decide)
      | with_reducible refine i78_sJ ?_
      | with_reducible refine i78_sA ?_ (by decide) (by decide)
      | with_reducible exact jvA_o (by decide)
      | with_reducible refine jvA_13 ?_
      | decide
      | with_reducible exact nz_nle (by assumption)
theorem jv_rl_Model_readUses_2 (hF : jvF F) : ∀ (n : Nat) (T : gSt) (x0 : Int32), I78 T → jv (rl_Model_readUses_2 F nf n T x0) := by
  intro n
  induction n with
  | zero =>
    intro T x0 h
    rw [rl_Model_readUses_2]
    exact jv_none
  | succ n ih =>
    intro T x0 h
    rw [rl_Model_readUses_2]
    repeat' first
      | with_reducible exact jv_none
      | with_reducible refine jv_some ?_
      | with_reducible refine jv_ite (fun _ => ?_) (fun _ => ?_)
      | with_reducible refine jv_gd ?_
      | with_reducible refine jv_stK ?_ (fun _ _ => ?_)
      | with_reducible refine jv_vK (fun _ => ?_)
      | with_reducible refine jv_lK (fun _ => ?_)
      | with_reducible refine jv_bi ?_ (fun _ _ _ _ => ?_)
      | with_reducible refine hF _ _ _ _ ?_ ?_
      | with_reducible refine ih _ _ ?_
      | assumption
      | with_reducible refine i78_sI ?_ (by decide) (by decide)
      | with_reducible refine i78_sJ ?_
      | with_reducible refine i78_sA ?_ (by decide) (by decide)
      | with_reducible exact jvA_o (by decide)
      | with_reducible refine jvA_13 ?_
      | decide
      | with_reducible exact nz_nle (by assumption)
theorem jv_rb_Model_readUses (hF : jvF F) (T : gSt) (h : I78 T) : jv (rb_Model_readUses F nf T) := by
    unfold rb_Model_readUses
    repeat' first
      | with_reducible exact jv_none
      | with_reducible refine jv_some ?_
      | with_reducible refine jv_ite (fun _ => ?_) (fun _ => ?_)
      | with_reducible refine jv_gd ?_
      | with_reducible refine jv_stK ?_ (fun _ _ => ?_)
      | with_reducible refine jv_vK (fun _ => ?_)
      | with_reducible refine jv_lK (fun _ => ?_)
      | with_reducible refine jv_bi ?_ (fun _ _ _ _ => ?_)
      | with_reducible refine hF _ _ _ _ ?_ ?_
      | with_reducible refine jv_rl_Model_readUses_2 hF  _ _ _ ?_
      | assumption
      | with_reducible refine i78_sI ?_ (by decide) (by decide)
      | with_reducible refine i78_sJ ?_
      | with_reducible refine i78_sA ?_ (by decide) (by decide)
      | with_reducible exact jvA_o (by decide)
      | with_reducible refine jvA_13 ?_
      | decide
      | with_reducible exact nz_nle (by assumption)
theorem jv_rb_Model_node (hF : jvF F) (T : gSt) (p1 : Int32) (p2 : Int32) (h : I78 T) : jv (rb_Model_node F nf T p1 p2) := by
    unfold rb_Model_node
    repeat' first
      | with_reducible exact jv_none
      | with_reducible refine jv_some ?_
      | with_reducible refine jv_ite (fun _ => ?_) (fun _ => ?_)
      | with_reducible refine jv_gd ?_
      | with_reducible refine jv_stK ?_ (fun _ _ => ?_)
      | with_reducible refine jv_vK (fun _ => ?_)
      | with_reducible refine jv_lK (fun _ => ?_)
      | with_reducible refine jv_bi ?_ (fun _ _ _ _ => ?_)
      | with_reducible refine hF _ _ _ _ ?_ ?_
      | assumption
      | with_reducible refine i78_sI ?_ (by decide) (by decide)
      | with_reducible refine i78_sJ ?_
      | with_reducible refine i78_sA ?_ (by decide) (by decide)
      | with_reducible exact jvA_o (by decide)
      | with_reducible refine jvA_13 ?_
      | decide
      | with_reducible exact nz_nle (by assumption)
theorem jv_rl_Model_block_38 (hF : jvF F) : ∀ (n : Nat) (T : gSt) (x0 : Int32) (x1 : Int32) (x2 : Int32), I78 T → jv (rl_Model_block_38 F nf n T x0 x1 x2) := by
  intro n
  induction n with
  | zero =>
    intro T x0 x1 x2 h
    rw [rl_Model_block_38]
    exact jv_none
  | succ n ih =>
    intro T x0 x1 x2 h
    rw [rl_Model_block_38]
    repeat' first
      | with_reducible exact jv_none
      | with_reducible refine jv_some ?_
      | with_reducible refine jv_ite (fun _ => ?_) (fun _ => ?_)
      | with_reducible refine jv_gd ?_
      | with_reducible refine jv_stK ?_ (fun _ _ => ?_)
      | with_reducible refine jv_vK (fun _ => ?_)
      | with_reducible refine jv_lK (fun _ => ?_)
      | with_reducible refine jv_bi ?_ (fun _ _ _ _ => ?_)
      | with_reducible refine hF _ _ _ _ ?_ ?_
      | with_reducible refine ih _ _ _ _ ?_
      | assumption
      | with_reducible refine i78_sI ?_ (by decide) (by decide)
      | with_reducible refine i78_sJ ?_
      | with_reducible refine i78_sA ?_ (by decide) (by decide)
      | with_reducible exact jvA_o (by decide)
      | with_reducible refine jvA_13 ?_
      | decide
      | with_reducible exact nz_nle (by assumption)
theorem jv_rj_Model_block_10 (hF : jvF F) (T : gSt) (x1 : Int32) (h : I78 T) : jv (rj_Model_block_10 F nf T x1) := by
    unfold rj_Model_block_10
    repeat' first
      | with_reducible exact jv_none
      | with_reducible refine jv_some ?_
      | with_reducible refine jv_ite (fun _ => ?_) (fun _ => ?_)
      | with_reducible refine jv_gd ?_
      | with_reducible refine jv_stK ?_ (fun _ _ => ?_)
      | with_reducible refine jv_vK (fun _ => ?_)
      | with_reducible refine jv_lK (fun _ => ?_)
      | with_reducible refine jv_bi ?_ (fun _ _ _ _ => ?_)
      | with_reducible refine hF _ _ _ _ ?_ ?_
      | with_reducible refine jv_rl_Model_block_38 hF  _ _ _ _ _ ?_
      | assumption
      | with_reducible refine i78_sI ?_ (by decide) (by decide)
      | with_reducible refine i78_sJ ?_
      | with_reducible refine i78_sA ?_ (by decide) (by decide)
      | with_reducible exact jvA_o (by decide)
      | with_reducible refine jvA_13 ?_
      | decide
      | with_reducible exact nz_nle (by assumption)
theorem jv_rb_Model_block (hF : jvF F) (T : gSt) (p1 : Int32) (h : I78 T) : jv (rb_Model_block F nf T p1) := by
    unfold rb_Model_block
    repeat' first
      | with_reducible exact jv_none
      | with_reducible refine jv_some ?_
      | with_reducible refine jv_ite (fun _ => ?_) (fun _ => ?_)
      | with_reducible refine jv_gd ?_
      | with_reducible refine jv_stK ?_ (fun _ _ => ?_)
      | with_reducible refine jv_vK (fun _ => ?_)
      | with_reducible refine jv_lK (fun _ => ?_)
      | with_reducible refine jv_bi ?_ (fun _ _ _ _ => ?_)
      | with_reducible refine hF _ _ _ _ ?_ ?_
      | with_reducible refine jv_rj_Model_block_10 hF  _ _ ?_
      | assumption
      | with_reducible refine i78_sI ?_ (by decide) (by decide)
      | with_reducible refine i78_sJ ?_
      | with_reducible refine i78_sA ?_ (by decide) (by decide)
      | with_reducible exact jvA_o (by decide)
      | with_reducible refine jvA_13 ?_
      | decide
      | with_reducible exact nz_nle (by assumption)
theorem jv_rj_Model_step_415 (hF : jvF F) (T : gSt) (x1 : Int32) (x2 : Int32) (x4 : Int32) (x5 : Int32) (x6 : Int32) (y0 : Int32) (h : I78 T) : jv (rj_Model_step_415 F nf T x1 x2 x4 x5 x6 y0) := by
    unfold rj_Model_step_415
    repeat' first
      | with_reducible exact jv_none
      | with_reducible refine jv_some ?_
      | with_reducible refine jv_ite (fun _ => ?_) (fun _ => ?_)
      | with_reducible refine jv_gd ?_
      | with_reducible refine jv_stK ?_ (fun _ _ => ?_)
      | with_reducible refine jv_vK (fun _ => ?_)
      | with_reducible refine jv_lK (fun _ => ?_)
      | with_reducible refine jv_bi ?_ (fun _ _ _ _ => ?_)
      | with_reducible refine hF _ _ _ _ ?_ ?_
      | assumption
      | with_reducible refine i78_sI ?_ (by decide) (by decide)
      | with_reducible refine i78_sJ ?_
      | with_reducible refine i78_sA ?_ (by decide) (by decide)
      | with_reducible exact jvA_o (by decide)
      | with_reducible refine jvA_13 ?_
      | decide
      | with_reducible exact nz_nle (by assumption)
theorem jv_rj_Model_step_383 (hF : jvF F) (T : gSt) (x1 : Int32) (x2 : Int32) (x4 : Int32) (x5 : Int32) (h : I78 T) : jv (rj_Model_step_383 F nf T x1 x2 x4 x5) := by
    unfold rj_Model_step_383
    repeat' first
      | with_reducible exact jv_none
      | with_reducible refine jv_some ?_
      | with_reducible refine jv_ite (fun _ => ?_) (fun _ => ?_)
      | with_reducible refine jv_gd ?_
      | with_reducible refine jv_stK ?_ (fun _ _ => ?_)
      | with_reducible refine jv_vK (fun _ => ?_)
      | with_reducible refine jv_lK (fun _ => ?_)
      | with_reducible refine jv_bi ?_ (fun _ _ _ _ => ?_)
      | with_reducible refine hF _ _ _ _ ?_ ?_
      | with_reducible refine jv_rj_Model_step_415 hF  _ _ _ _ _ _ _ ?_
      | assumption
      | with_reducible refine i78_sI ?_ (by decide) (by decide)
      | with_reducible refine i78_sJ ?_
      | with_reducible refine i78_sA ?_ (by decide) (by decide)
      | with_reducible exact jvA_o (by decide)
      | with_reducible refine jvA_13 ?_
      | decide
      | with_reducible exact nz_nle (by assumption)
theorem jv_rj_Model_step_201 (hF : jvF F) (T : gSt) (x1 : Int32) (x2 : Int32) (h : I78 T) : jv (rj_Model_step_201 F nf T x1 x2) := by
    unfold rj_Model_step_201
    repeat' first
      | with_reducible exact jv_none
      | with_reducible refine jv_some ?_
      | with_reducible refine jv_ite (fun _ => ?_) (fun _ => ?_)
      | with_reducible refine jv_gd ?_
      | with_reducible refine jv_stK ?_ (fun _ _ => ?_)
      | with_reducible refine jv_vK (fun _ => ?_)
      | with_reducible refine jv_lK (fun _ => ?_)
      | with_reducible refine jv_bi ?_ (fun _ _ _ _ => ?_)
      | with_reducible refine hF _ _ _ _ ?_ ?_
      | assumption
      | with_reducible refine i78_sI ?_ (by decide) (by decide)
      | with_reducible refine i78_sJ ?_
      | with_reducible refine i78_sA ?_ (by decide) (by decide)
      | with_reducible exact jvA_o (by decide)
      | with_reducible refine jvA_13 ?_
      | decide
      | with_reducible exact nz_nle (by assumption)
theorem jv_rj_Model_step_60 (hF : jvF F) (T : gSt) (x1 : Int32) (x2 : Int32) (x3 : Int32) (y0 : Int32) (h : I78 T) : jv (rj_Model_step_60 F nf T x1 x2 x3 y0) := by
    unfold rj_Model_step_60
    repeat' first
      | with_reducible exact jv_none
      | with_reducible refine jv_some ?_
      | with_reducible refine jv_ite (fun _ => ?_) (fun _ => ?_)
      | with_reducible refine jv_gd ?_
      | with_reducible refine jv_stK ?_ (fun _ _ => ?_)
      | with_reducible refine jv_vK (fun _ => ?_)
      | with_reducible refine jv_lK (fun _ => ?_)
      | with_reducible refine jv_bi ?_ (fun _ _ _ _ => ?_)
      | with_reducible refine hF _ _ _ _ ?_ ?_
      | assumption
      | with_reducible refine i78_sI ?_ (by decide) (by decide)
      | with_reducible refine i78_sJ ?_
      | with_reducible refine i78_sA ?_ (by decide) (by decide)
      | with_reducible exact jvA_o (by decide)
      | with_reducible refine jvA_13 ?_
      | decide
      | with_reducible exact nz_nle (by assumption)
theorem jv_rb_Model_step (hF : jvF F) (T : gSt) (p1 : Int32) (h : I78 T) : jv (rb_Model_step F nf T p1) := by
    unfold rb_Model_step
    repeat' first
      | with_reducible exact jv_none
      | with_reducible refine jv_some ?_
      | with_reducible refine jv_ite (fun _ => ?_) (fun _ => ?_)
      | with_reducible refine jv_gd ?_
      | with_reducible refine jv_stK ?_ (fun _ _ => ?_)
      | with_reducible refine jv_vK (fun _ => ?_)
      | with_reducible refine jv_lK (fun _ => ?_)
      | with_reducible refine jv_bi ?_ (fun _ _ _ _ => ?_)
      | with_reducible refine hF _ _ _ _ ?_ ?_
      | with_reducible refine jv_rj_Model_step_201 hF  _ _ _ ?_
      | with_reducible refine jv_rj_Model_step_383 hF  _ _ _ _ _ ?_
      | with_reducible refine jv_rj_Model_step_60 hF  _ _ _ _ _ ?_
      | assumption
      | with_reducible refine i78_sI ?_ (by decide) (by decide)
      | with_reducible refine i78_sJ ?_
      | with_reducible refine i78_sA ?_ (by decide) (by decide)
      | with_reducible exact jvA_o (by decide)
      | with_reducible refine jvA_13 ?_
      | decide
      | with_reducible exact nz_nle (by assumption)
theorem jv_rj_Model_readVar_49 (hF : jvF F) (T : gSt) (x2 : Int32) (x3 : Int32) (h : I78 T) : jv (rj_Model_readVar_49 F nf T x2 x3) := by
    unfold rj_Model_readVar_49
    repeat' first
      | with_reducible exact jv_none
      | with_reducible refine jv_some ?_
      | with_reducible refine jv_ite (fun _ => ?_) (fun _ => ?_)
      | with_reducible refine jv_gd ?_
      | with_reducible refine jv_stK ?_ (fun _ _ => ?_)
      | with_reducible refine jv_vK (fun _ => ?_)
      | with_reducible refine jv_lK (fun _ => ?_)
      | with_reducible refine jv_bi ?_ (fun _ _ _ _ => ?_)
      | with_reducible refine hF _ _ _ _ ?_ ?_
      | assumption
      | with_reducible refine i78_sI ?_ (by decide) (by decide)
      | with_reducible refine i78_sJ ?_
      | with_reducible refine i78_sA ?_ (by decide) (by decide)
      | with_reducible exact jvA_o (by decide)
      | with_reducible refine jvA_13 ?_
      | decide
      | with_reducible exact nz_nle (by assumption)
theorem jv_rb_Model_readVar (hF : jvF F) (T : gSt) (p1 : Int32) (p2 : Int32) (h : I78 T) : jv (rb_Model_readVar F nf T p1 p2) := by
    unfold rb_Model_readVar
    repeat' first
      | with_reducible exact jv_none
      | with_reducible refine jv_some ?_
      | with_reducible refine jv_ite (fun _ => ?_) (fun _ => ?_)
      | with_reducible refine jv_gd ?_
      | with_reducible refine jv_stK ?_ (fun _ _ => ?_)
      | with_reducible refine jv_vK (fun _ => ?_)
      | with_reducible refine jv_lK (fun _ => ?_)
      | with_reducible refine jv_bi ?_ (fun _ _ _ _ => ?_)
      | with_reducible refine hF _ _ _ _ ?_ ?_
      | with_reducible refine jv_rj_Model_readVar_49 hF  _ _ _ ?_
      | assumption
      | with_reducible refine i78_sI ?_ (by decide) (by decide)
      | with_reducible refine i78_sJ ?_
      | with_reducible refine i78_sA ?_ (by decide) (by decide)
      | with_reducible exact jvA_o (by decide)
      | with_reducible refine jvA_13 ?_
      | decide
      | with_reducible exact nz_nle (by assumption)
theorem jv_rb_Model_operator (hF : jvF F) (T : gSt) (h : I78 T) : jv (rb_Model_operator F nf T) := by
    unfold rb_Model_operator
    repeat' first
      | with_reducible exact jv_none
      | with_reducible refine jv_some ?_
      | with_reducible refine jv_ite (fun _ => ?_) (fun _ => ?_)
      | with_reducible refine jv_gd ?_
      | with_reducible refine jv_stK ?_ (fun _ _ => ?_)
      | with_reducible refine jv_vK (fun _ => ?_)
      | with_reducible refine jv_lK (fun _ => ?_)
      | with_reducible refine jv_bi ?_ (fun _ _ _ _ => ?_)
      | with_reducible refine hF _ _ _ _ ?_ ?_
      | assumption
      | with_reducible refine i78_sI ?_ (by decide) (by decide)
      | with_reducible refine i78_sJ ?_
      | with_reducible refine i78_sA ?_ (by decide) (by decide)
      | with_reducible exact jvA_o (by decide)
      | with_reducible refine jvA_13 ?_
      | decide
      | with_reducible exact nz_nle (by assumption)
theorem jv_rl_Model_expression_16 (hF : jvF F) : ∀ (n : Nat) (T : gSt) (x0 : Int32) (x1 : Int32), I78 T → jv (rl_Model_expression_16 F nf n T x0 x1) := by
  intro n
  induction n with
  | zero =>
    intro T x0 x1 h
    rw [rl_Model_expression_16]
    exact jv_none
  | succ n ih =>
    intro T x0 x1 h
    rw [rl_Model_expression_16]
    repeat' first
      | with_reducible exact jv_none
      | with_reducible refine jv_some ?_
      | with_reducible refine jv_ite (fun _ => ?_) (fun _ => ?_)
      | with_reducible refine jv_gd ?_
      | with_reducible refine jv_stK ?_ (fun _ _ => ?_)
      | with_reducible refine jv_vK (fun _ => ?_)
      | with_reducible refine jv_lK (fun _ => ?_)
      | with_reducible refine jv_bi ?_ (fun _ _ _ _ => ?_)
      | with_reducible refine hF _ _ _ _ ?_ ?_
      | with_reducible refine ih _ _ _ ?_
      | assumption
      | with_reducible refine i78_sI ?_ (by decide) (by decide)
      | with_reducible refine i78_sJ ?_
      | with_reducible refine i78_sA ?_ (by decide) (by decide)
      | with_reducible exact jvA_o (by decide)
      | with_reducible refine jvA_13 ?_
      | decide
      | with_reducible exact nz_nle (by assumption)
theorem jv_rb_Model_expression (hF : jvF F) (T : gSt) (p1 : Int32) (h : I78 T) : jv (rb_Model_expression F nf T p1) := by
    unfold rb_Model_expression
    repeat' first
      | with_reducible exact jv_none
      | with_reducible refine jv_some ?_
      | with_reducible refine jv_ite (fun _ => ?_) (fun _ => ?_)
      | with_reducible refine jv_gd ?_
      | with_reducible refine jv_stK ?_ (fun _ _ => ?_)
      | with_reducible refine jv_vK (fun _ => ?_)
      | with_reducible refine jv_lK (fun _ => ?_)
      | with_reducible refine jv_bi ?_ (fun _ _ _ _ => ?_)
      | with_reducible refine hF _ _ _ _ ?_ ?_
      | with_reducible refine jv_rl_Model_expression_16 hF  _ _ _ _ ?_
      | assumption
      | with_reducible refine i78_sI ?_ (by decide) (by decide)
      | with_reducible refine i78_sJ ?_
      | with_reducible refine i78_sA ?_ (by decide) (by decide)
      | with_reducible exact jvA_o (by decide)
      | with_reducible refine jvA_13 ?_
      | decide
      | with_reducible exact nz_nle (by assumption)
theorem jv_rl_Model_term_6 (hF : jvF F) : ∀ (n : Nat) (T : gSt) (x0 : Int32) (x1 : Int32), I78 T → jv (rl_Model_term_6 F nf n T x0 x1) := by
  intro n
  induction n with
  | zero =>
    intro T x0 x1 h
    rw [rl_Model_term_6]
    exact jv_none
  | succ n ih =>
    intro T x0 x1 h
    rw [rl_Model_term_6]
    repeat' first
      | with_reducible exact jv_none
      | with_reducible refine jv_some ?_
      | with_reducible refine jv_ite (fun _ => ?_) (fun _ => ?_)
      | with_reducible refine jv_gd ?_
      | with_reducible refine jv_stK ?_ (fun _ _ => ?_)
      | with_reducible refine jv_vK (fun _ => ?_)
      | with_reducible refine jv_lK (fun _ => ?_)
      | with_reducible refine jv_bi ?_ (fun _ _ _ _ => ?_)
      | with_reducible refine hF _ _ _ _ ?_ ?_
      | with_reducible refine ih _ _ _ ?_
      | assumption
      | with_reducible refine i78_sI ?_ (by decide) (by decide)
      | with_reducible refine i78_sJ ?_
      | with_reducible refine i78_sA ?_ (by decide) (by decide)
      | with_reducible exact jvA_o (by decide)
      | with_reducible refine jvA_13 ?_
      | decide
      | with_reducible exact nz_nle (by assumption)
theorem jv_rb_Model_term (hF : jvF F) (T : gSt) (p1 : Int32) (h : I78 T) : jv (rb_Model_term F nf T p1) := by
    unfold rb_Model_term
    repeat' first
      | with_reducible exact jv_none
      | with_reducible refine jv_some ?_
      | with_reducible refine jv_ite (fun _ => ?_) (fun _ => ?_)
      | with_reducible refine jv_gd ?_
      | with_reducible refine jv_stK ?_ (fun _ _ => ?_)
      | with_reducible refine jv_vK (fun _ => ?_)
      | with_reducible refine jv_lK (fun _ => ?_)
      | with_reducible refine jv_bi ?_ (fun _ _ _ _ => ?_)
      | with_reducible refine hF _ _ _ _ ?_ ?_
      | with_reducible refine jv_rl_Model_term_6 hF  _ _ _ _ ?_
      | assumption
      | with_reducible refine i78_sI ?_ (by decide) (by decide)
      | with_reducible refine i78_sJ ?_
      | with_reducible refine i78_sA ?_ (by decide) (by decide)
      | with_reducible exact jvA_o (by decide)
      | with_reducible refine jvA_13 ?_
      | decide
      | with_reducible exact nz_nle (by assumption)
theorem jv_rj_Model_arguments_43 (hF : jvF F) {rec_6 : gSt → Int32 → Int32 → Int32 → Int32 → Int32 → gR} (hrec_6 : ∀ T a0 a1 a2 a3 a4, I78 T → jv (rec_6 T a0 a1 a2 a3 a4)) (T : gSt) (x1 : Int32) (x2 : Int32) (x3 : Int32) (x4 : Int32) (x5 : Int32) (h : I78 T) : jv (rj_Model_arguments_43 F nf rec_6 T x1 x2 x3 x4 x5) := by
    unfold rj_Model_arguments_43
    repeat' first
      | with_reducible exact jv_none
      | with_reducible refine jv_some ?_
      | with_reducible refine jv_ite (fun _ => ?_) (fun _ => ?_)
      | with_reducible refine jv_gd ?_
      | with_reducible refine jv_stK ?_ (fun _ _ => ?_)
      | with_reducible refine jv_vK (fun _ => ?_)
      | with_reducible refine jv_lK (fun _ => ?_)
      | with_reducible refine jv_bi ?_ (fun _ _ _ _ => ?_)
      | with_reducible refine hF _ _ _ _ ?_ ?_
      | with_reducible refine hrec_6 _ _ _ _ _ _ ?_
      | assumption
      | with_reducible refine i78_sI ?_ (by decide) (by decide)
      | with_reducible refine i78_sJ ?_
      | with_reducible refine i78_sA ?_ (by decide) (by decide)
      | with_reducible exact jvA_o (by decide)
      | with_reducible refine jvA_13 ?_
      | decide
      | with_reducible exact nz_nle (by assumption)
theorem jv_rl_Model_arguments_6 (hF : jvF F) : ∀ (n : Nat) (T : gSt) (x0 : Int32) (x1 : Int32) (x2 : Int32) (x3 : Int32) (x4 : Int32), I78 T → jv (rl_Model_arguments_6 F nf n T x0 x1 x2 x3 x4) := by
  intro n
  induction n with
  | zero =>
    intro T x0 x1 x2 x3 x4 h
    rw [rl_Model_arguments_6]
    exact jv_none
  | succ n ih =>
    intro T x0 x1 x2 x3 x4 h
    rw [rl_Model_arguments_6]
    repeat' first
      | with_reducible exact jv_none
      | with_reducible refine jv_some ?_
      | with_reducible refine jv_ite (fun _ => ?_) (fun _ => ?_)
      | with_reducible refine jv_gd ?_
      | with_reducible refine jv_stK ?_ (fun _ _ => ?_)
      | with_reducible refine jv_vK (fun _ => ?_)
      | with_reducible refine jv_lK (fun _ => ?_)
      | with_reducible refine jv_bi ?_ (fun _ _ _ _ => ?_)
      | with_reducible refine hF _ _ _ _ ?_ ?_
      | with_reducible refine jv_rj_Model_arguments_43 hF ?_ _ _ _ _ _ _ ?_
      | with_reducible refine ih _ _ _ _ _ _ ?_
      | assumption
      | with_reducible refine i78_sI ?_ (by decide) (by decide)
      | with_reducible refine i78_sJ ?_
      | with_reducible refine i78_sA ?_ (by decide) (by decide)
      | with_reducible exact jvA_o (by decide)
      | with_reducible refine jvA_13 ?_
      | decide
      | with_reducible exact nz_nle (by assumption)
theorem jv_rb_Model_arguments (hF : jvF F) (T : gSt) (p1 : Int32) (p2 : Int32) (p3 : Int32) (h : I78 T) : jv (rb_Model_arguments F nf T p1 p2 p3) := by
    unfold rb_Model_arguments
    repeat' first
      | with_reducible exact jv_none
      | with_reducible refine jv_some ?_
      | with_reducible refine jv_ite (fun _ => ?_) (fun _ => ?_)
      | with_reducible refine jv_gd ?_
      | with_reducible refine jv_stK ?_ (fun _ _ => ?_)
      | with_reducible refine jv_vK (fun _ => ?_)
      | with_reducible refine jv_lK (fun _ => ?_)
      | with_reducible refine jv_bi ?_ (fun _ _ _ _ => ?_)
      | with_reducible refine hF _ _ _ _ ?_ ?_
      | with_reducible refine jv_rl_Model_arguments_6 hF  _ _ _ _ _ _ _ ?_
      | assumption
      | with_reducible refine i78_sI ?_ (by decide) (by decide)
      | with_reducible refine i78_sJ ?_
      | with_reducible refine i78_sA ?_ (by decide) (by decide)
      | with_reducible exact jvA_o (by decide)
      | with_reducible refine jvA_13 ?_
      | decide
      | with_reducible exact nz_nle (by assumption)
theorem jv_rj_Model_primary_365 (hF : jvF F) (T : gSt) (x1 : Int32) (x2 : Int32) (y0 : Int32) (h : I78 T) : jv (rj_Model_primary_365 F nf T x1 x2 y0) := by
    unfold rj_Model_primary_365
    repeat' first
      | with_reducible exact jv_none
      | with_reducible refine jv_some ?_
      | with_reducible refine jv_ite (fun _ => ?_) (fun _ => ?_)
      | with_reducible refine jv_gd ?_
      | with_reducible refine jv_stK ?_ (fun _ _ => ?_)
      | with_reducible refine jv_vK (fun _ => ?_)
      | with_reducible refine jv_lK (fun _ => ?_)
      | with_reducible refine jv_bi ?_ (fun _ _ _ _ => ?_)
      | with_reducible refine hF _ _ _ _ ?_ ?_
      | assumption
      | with_reducible refine i78_sI ?_ (by decide) (by decide)
      | with_reducible refine i78_sJ ?_
      | with_reducible refine i78_sA ?_ (by decide) (by decide)
      | with_reducible exact jvA_o (by decide)
      | with_reducible refine jvA_13 ?_
      | decide
      | with_reducible exact nz_nle (by assumption)
theorem jv_rj_Model_primary_341 (hF : jvF F) (T : gSt) (x1 : Int32) (x2 : Int32) (x4 : Int32) (h : I78 T) : jv (rj_Model_primary_341 F nf T x1 x2 x4) := by
    unfold rj_Model_primary_341
    repeat' first
      | with_reducible exact jv_none
      | with_reducible refine jv_some ?_
      | with_reducible refine jv_ite (fun _ => ?_) (fun _ => ?_)
      | with_reducible refine jv_gd ?_
      | with_reducible refine jv_stK ?_ (fun _ _ => ?_)
      | with_reducible refine jv_vK (fun _ => ?_)
      | with_reducible refine jv_lK (fun _ => ?_)
      | with_reducible refine jv_bi ?_ (fun _ _ _ _ => ?_)
      | with_reducible refine hF _ _ _ _ ?_ ?_
      | with_reducible refine jv_rj_Model_primary_365 hF  _ _ _ _ ?_
      | assumption
      | with_reducible refine i78_sI ?_ (by decide) (by decide)
      | with_reducible refine i78_sJ ?_
      | with_reducible refine i78_sA ?_ (by decide) (by decide)
      | with_reducible exact jvA_o (by decide)
      | with_reducible refine jvA_13 ?_
      | decide
      | with_reducible exact nz_nle (by assumption)
theorem jv_rj_Model_primary_196 (hF : jvF F) (T : gSt) (x1 : Int32) (x2 : Int32) (x3 : Int32) (y0 : Int32) (h : I78 T) : jv (rj_Model_primary_196 F nf T x1 x2 x3 y0) := by
    unfold rj_Model_primary_196
    repeat' first
      | with_reducible exact jv_none
      | with_reducible refine jv_some ?_
      | with_reducible refine jv_ite (fun _ => ?_) (fun _ => ?_)
      | with_reducible refine jv_gd ?_
      | with_reducible refine jv_stK ?_ (fun _ _ => ?_)
      | with_reducible refine jv_vK (fun _ => ?_)
      | with_reducible refine jv_lK (fun _ => ?_)
      | with_reducible refine jv_bi ?_ (fun _ _ _ _ => ?_)
      | with_reducible refine hF _ _ _ _ ?_ ?_
      | assumption
      | with_reducible refine i78_sI ?_ (by decide) (by decide)
      | with_reducible refine i78_sJ ?_
      | with_reducible refine i78_sA ?_ (by decide) (by decide)
      | with_reducible exact jvA_o (by decide)
      | with_reducible refine jvA_13 ?_
      | decide
      | with_reducible exact nz_nle (by assumption)
theorem jv_rb_Model_primary (hF : jvF F) (T : gSt) (p1 : Int32) (h : I78 T) : jv (rb_Model_primary F nf T p1) := by
    unfold rb_Model_primary
    repeat' first
      | with_reducible exact jv_none
      | with_reducible refine jv_some ?_
      | with_reducible refine jv_ite (fun _ => ?_) (fun _ => ?_)
      | with_reducible refine jv_gd ?_
      | with_reducible refine jv_stK ?_ (fun _ _ => ?_)
      | with_reducible refine jv_vK (fun _ => ?_)
      | with_reducible refine jv_lK (fun _ => ?_)
      | with_reducible refine jv_bi ?_ (fun _ _ _ _ => ?_)
      | with_reducible refine hF _ _ _ _ ?_ ?_
      | with_reducible refine jv_rj_Model_primary_196 hF  _ _ _ _ _ ?_
      | with_reducible refine jv_rj_Model_primary_341 hF  _ _ _ _ ?_
      | assumption
      | with_reducible refine i78_sI ?_ (by decide) (by decide)
      | with_reducible refine i78_sJ ?_
      | with_reducible refine i78_sA ?_ (by decide) (by decide)
      | with_reducible exact jvA_o (by decide)
      | with_reducible refine jvA_13 ?_
      | decide
      | with_reducible exact nz_nle (by assumption)
theorem jv_rj_Model_readNamed_47 (hF : jvF F) (T : gSt) (x2 : Int32) (x3 : Int32) (h : I78 T) : jv (rj_Model_readNamed_47 F nf T x2 x3) := by
    unfold rj_Model_readNamed_47
    repeat' first
      | with_reducible exact jv_none
      | with_reducible refine jv_some ?_
      | with_reducible refine jv_ite (fun _ => ?_) (fun _ => ?_)
      | with_reducible refine jv_gd ?_
      | with_reducible refine jv_stK ?_ (fun _ _ => ?_)
      | with_reducible refine jv_vK (fun _ => ?_)
      | with_reducible refine jv_lK (fun _ => ?_)
      | with_reducible refine jv_bi ?_ (fun _ _ _ _ => ?_)
      | with_reducible refine hF _ _ _ _ ?_ ?_
      | assumption
      | with_reducible refine i78_sI ?_ (by decide) (by decide)
      | with_reducible refine i78_sJ ?_
      | with_reducible refine i78_sA ?_ (by decide) (by decide)
      | with_reducible exact jvA_o (by decide)
      | with_reducible refine jvA_13 ?_
      | decide
      | with_reducible exact nz_nle (by assumption)
theorem jv_rb_Model_readNamed (hF : jvF F) (T : gSt) (p1 : Int32) (p2 : Int32) (h : I78 T) : jv (rb_Model_readNamed F nf T p1 p2) := by
    unfold rb_Model_readNamed
    repeat' first
      | with_reducible exact jv_none
      | with_reducible refine jv_some ?_
      | with_reducible refine jv_ite (fun _ => ?_) (fun _ => ?_)
      | with_reducible refine jv_gd ?_
      | with_reducible refine jv_stK ?_ (fun _ _ => ?_)
      | with_reducible refine jv_vK (fun _ => ?_)
      | with_reducible refine jv_lK (fun _ => ?_)
      | with_reducible refine jv_bi ?_ (fun _ _ _ _ => ?_)
      | with_reducible refine hF _ _ _ _ ?_ ?_
      | with_reducible refine jv_rj_Model_readNamed_47 hF  _ _ _ ?_
      | assumption
      | with_reducible refine i78_sI ?_ (by decide) (by decide)
      | with_reducible refine i78_sJ ?_
      | with_reducible refine i78_sA ?_ (by decide) (by decide)
      | with_reducible exact jvA_o (by decide)
      | with_reducible refine jvA_13 ?_
      | decide
      | with_reducible exact nz_nle (by assumption)
theorem jv_rj_Model_readNew_61 (hF : jvF F) (T : gSt) (x2 : Int32) (x3 : Int32) (h : I78 T) : jv (rj_Model_readNew_61 F nf T x2 x3) := by
    unfold rj_Model_readNew_61
    repeat' first
      | with_reducible exact jv_none
      | with_reducible refine jv_some ?_
      | with_reducible refine jv_ite (fun _ => ?_) (fun _ => ?_)
      | with_reducible refine jv_gd ?_
      | with_reducible refine jv_stK ?_ (fun _ _ => ?_)
      | with_reducible refine jv_vK (fun _ => ?_)
      | with_reducible refine jv_lK (fun _ => ?_)
      | with_reducible refine jv_bi ?_ (fun _ _ _ _ => ?_)
      | with_reducible refine hF _ _ _ _ ?_ ?_
      | assumption
      | with_reducible refine i78_sI ?_ (by decide) (by decide)
      | with_reducible refine i78_sJ ?_
      | with_reducible refine i78_sA ?_ (by decide) (by decide)
      | with_reducible exact jvA_o (by decide)
      | with_reducible refine jvA_13 ?_
      | decide
      | with_reducible exact nz_nle (by assumption)
theorem jv_rj_Model_readNew_30 (hF : jvF F) (T : gSt) (x2 : Int32) (x3 : Int32) (h : I78 T) : jv (rj_Model_readNew_30 F nf T x2 x3) := by
    unfold rj_Model_readNew_30
    repeat' first
      | with_reducible exact jv_none
      | with_reducible refine jv_some ?_
      | with_reducible refine jv_ite (fun _ => ?_) (fun _ => ?_)
      | with_reducible refine jv_gd ?_
      | with_reducible refine jv_stK ?_ (fun _ _ => ?_)
      | with_reducible refine jv_vK (fun _ => ?_)
      | with_reducible refine jv_lK (fun _ => ?_)
      | with_reducible refine jv_bi ?_ (fun _ _ _ _ => ?_)
      | with_reducible refine hF _ _ _ _ ?_ ?_
      | with_reducible refine jv_rj_Model_readNew_61 hF  _ _ _ ?_
      | assumption
      | with_reducible refine i78_sI ?_ (by decide) (by decide)
      | with_reducible refine i78_sJ ?_
      | with_reducible refine i78_sA ?_ (by decide) (by decide)
      | with_reducible exact jvA_o (by decide)
      | with_reducible refine jvA_13 ?_
      | decide
      | with_reducible exact nz_nle (by assumption)
theorem jv_rb_Model_readNew (hF : jvF F) (T : gSt) (p1 : Int32) (p2 : Int32) (h : I78 T) : jv (rb_Model_readNew F nf T p1 p2) := by
    unfold rb_Model_readNew
    repeat' first
      | with_reducible exact jv_none
      | with_reducible refine jv_some ?_
      | with_reducible refine jv_ite (fun _ => ?_) (fun _ => ?_)
      | with_reducible refine jv_gd ?_
      | with_reducible refine jv_stK ?_ (fun _ _ => ?_)
      | with_reducible refine jv_vK (fun _ => ?_)
      | with_reducible refine jv_lK (fun _ => ?_)
      | with_reducible refine jv_bi ?_ (fun _ _ _ _ => ?_)
      | with_reducible refine hF _ _ _ _ ?_ ?_
      | with_reducible refine jv_rj_Model_readNew_30 hF  _ _ _ ?_
      | assumption
      | with_reducible refine i78_sI ?_ (by decide) (by decide)
      | with_reducible refine i78_sJ ?_
      | with_reducible refine i78_sA ?_ (by decide) (by decide)
      | with_reducible exact jvA_o (by decide)
      | with_reducible refine jvA_13 ?_
      | decide
      | with_reducible exact nz_nle (by assumption)
theorem jv_rl_Model_known_3 (hF : jvF F) : ∀ (n : Nat) (T : gSt) (x0 : Int32) (x1 : Int32) (x2 : Int32) (x3 : Int32) (x4 : Int32) (x5 : Int32), I78 T → jv (rl_Model_known_3 F nf n T x0 x1 x2 x3 x4 x5) := by
  intro n
  induction n with
  | zero =>
    intro T x0 x1 x2 x3 x4 x5 h
    rw [rl_Model_known_3]
    exact jv_none
  | succ n ih =>
    intro T x0 x1 x2 x3 x4 x5 h
    rw [rl_Model_known_3]
    repeat' first
      | with_reducible exact jv_none
      | with_reducible refine jv_some ?_
      | with_reducible refine jv_ite (fun _ => ?_) (fun _ => ?_)
      | with_reducible refine jv_gd ?_
      | with_reducible refine jv_stK ?_ (fun _ _ => ?_)
      | with_reducible refine jv_vK (fun _ => ?_)
      | with_reducible refine jv_lK (fun _ => ?_)
      | with_reducible refine jv_bi ?_ (fun _ _ _ _ => ?_)
      | with_reducible refine hF _ _ _ _ ?_ ?_
      | with_reducible refine ih _ _ _ _ _ _ _ ?_
      | assumption
      | with_reducible refine i78_sI ?_ (by decide) (by decide)
      | with_reducible refine i78_sJ ?_
      | with_reducible refine i78_sA ?_ (by decide) (by decide)
      | with_reducible exact jvA_o (by decide)
      | with_reducible refine jvA_13 ?_
      | decide
      | with_reducible exact nz_nle (by assumption)
theorem jv_rb_Model_known (hF : jvF F) (T : gSt) (p1 : Int32) (p2 : Int32) (p3 : Int32) (p4 : Int32) (p5 : Int32) (h : I78 T) : jv (rb_Model_known F nf T p1 p2 p3 p4 p5) := by
    unfold rb_Model_known
    repeat' first
      | with_reducible exact jv_none
      | with_reducible refine jv_some ?_
      | with_reducible refine jv_ite (fun _ => ?_) (fun _ => ?_)
      | with_reducible refine jv_gd ?_
      | with_reducible refine jv_stK ?_ (fun _ _ => ?_)
      | with_reducible refine jv_vK (fun _ => ?_)
      | with_reducible refine jv_lK (fun _ => ?_)
      | with_reducible refine jv_bi ?_ (fun _ _ _ _ => ?_)
      | with_reducible refine hF _ _ _ _ ?_ ?_
      | with_reducible refine jv_rl_Model_known_3 hF  _ _ _ _ _ _ _ _ ?_
      | assumption
      | with_reducible refine i78_sI ?_ (by decide) (by decide)
      | with_reducible refine i78_sJ ?_
      | with_reducible refine i78_sA ?_ (by decide) (by decide)
      | with_reducible exact jvA_o (by decide)
      | with_reducible refine jvA_13 ?_
      | decide
      | with_reducible exact nz_nle (by assumption)
theorem jv_rb_Model_part (hF : jvF F) (T : gSt) (p1 : Int32) (p2 : Int32) (h : I78 T) : jv (rb_Model_part F nf T p1 p2) := by
    unfold rb_Model_part
    repeat' first
      | with_reducible exact jv_none
      | with_reducible refine jv_some ?_
      | with_reducible refine jv_ite (fun _ => ?_) (fun _ => ?_)
      | with_reducible refine jv_gd ?_
      | with_reducible refine jv_stK ?_ (fun _ _ => ?_)
      | with_reducible refine jv_vK (fun _ => ?_)
      | with_reducible refine jv_lK (fun _ => ?_)
      | with_reducible refine jv_bi ?_ (fun _ _ _ _ => ?_)
      | with_reducible refine hF _ _ _ _ ?_ ?_
      | assumption
      | with_reducible refine i78_sI ?_ (by decide) (by decide)
      | with_reducible refine i78_sJ ?_
      | with_reducible refine i78_sA ?_ (by decide) (by decide)
      | with_reducible exact jvA_o (by decide)
      | with_reducible refine jvA_13 ?_
      | decide
      | with_reducible exact nz_nle (by assumption)
theorem jv_rl_Model_changed_88 (hF : jvF F) : ∀ (n : Nat) (T : gSt) (x0 : Int32) (x1 : Int32) (x2 : Int32) (x3 : Int32) (x4 : Int32), I78 T → jv (rl_Model_changed_88 F nf n T x0 x1 x2 x3 x4) := by
  intro n
  induction n with
  | zero =>
    intro T x0 x1 x2 x3 x4 h
    rw [rl_Model_changed_88]
    exact jv_none
  | succ n ih =>
    intro T x0 x1 x2 x3 x4 h
    rw [rl_Model_changed_88]
    repeat' first
      | with_reducible exact jv_none
      | with_reducible refine jv_some ?_
      | with_reducible refine jv_ite (fun _ => ?_) (fun _ => ?_)
      | with_reducible refine jv_gd ?_
      | with_reducible refine jv_stK ?_ (fun _ _ => ?_)
      | with_reducible refine jv_vK (fun _ => ?_)
      | with_reducible refine jv_lK (fun _ => ?_)
      | with_reducible refine jv_bi ?_ (fun _ _ _ _ => ?_)
      | with_reducible refine hF _ _ _ _ ?_ ?_
      | with_reducible refine ih _ _ _ _ _ _ ?_
      | assumption
      | with_reducible refine i78_sI ?_ (by decide) (by decide)
      | with_reducible refine i78_sJ ?_
      | with_reducible refine i78_sA ?_ (by decide) (by decide)
      | with_reducible exact jvA_o (by decide)
      | with_reducible refine jvA_13 ?_
      | decide
      | with_reducible exact nz_nle (by assumption)
theorem jv_rj_Model_changed_47 (hF : jvF F) (T : gSt) (x1 : Int32) (x2 : Int32) (y0 : Int32) (h : I78 T) : jv (rj_Model_changed_47 F nf T x1 x2 y0) := by
    unfold rj_Model_changed_47
    repeat' first
      | with_reducible exact jv_none
      | with_reducible refine jv_some ?_
      | with_reducible refine jv_ite (fun _ => ?_) (fun _ => ?_)
      | with_reducible refine jv_gd ?_
      | with_reducible refine jv_stK ?_ (fun _ _ => ?_)
      | with_reducible refine jv_vK (fun _ => ?_)
      | with_reducible refine jv_lK (fun _ => ?_)
      | with_reducible refine jv_bi ?_ (fun _ _ _ _ => ?_)
      | with_reducible refine hF _ _ _ _ ?_ ?_
      | with_reducible refine jv_rl_Model_changed_88 hF  _ _ _ _ _ _ _ ?_
      | assumption
      | with_reducible refine i78_sI ?_ (by decide) (by decide)
      | with_reducible refine i78_sJ ?_
      | with_reducible refine i78_sA ?_ (by decide) (by decide)
      | with_reducible exact jvA_o (by decide)
      | with_reducible refine jvA_13 ?_
      | decide
      | with_reducible exact nz_nle (by assumption)
theorem jv_rb_Model_changed (hF : jvF F) (T : gSt) (p1 : Int32) (p2 : Int32) (h : I78 T) : jv (rb_Model_changed F nf T p1 p2) := by
    unfold rb_Model_changed
    repeat' first
      | with_reducible exact jv_none
      | with_reducible refine jv_some ?_
      | with_reducible refine jv_ite (fun _ => ?_) (fun _ => ?_)
      | with_reducible refine jv_gd ?_
      | with_reducible refine jv_stK ?_ (fun _ _ => ?_)
      | with_reducible refine jv_vK (fun _ => ?_)
      | with_reducible refine jv_lK (fun _ => ?_)
      | with_reducible refine jv_bi ?_ (fun _ _ _ _ => ?_)
      | with_reducible refine hF _ _ _ _ ?_ ?_
      | with_reducible refine jv_rj_Model_changed_47 hF  _ _ _ _ ?_
      | assumption
      | with_reducible refine i78_sI ?_ (by decide) (by decide)
      | with_reducible refine i78_sJ ?_
      | with_reducible refine i78_sA ?_ (by decide) (by decide)
      | with_reducible exact jvA_o (by decide)
      | with_reducible refine jvA_13 ?_
      | decide
      | with_reducible exact nz_nle (by assumption)
theorem jv_rb_Model_isPointer (hF : jvF F) (T : gSt) (p1 : Int32) (h : I78 T) : jv (rb_Model_isPointer F nf T p1) := by
    unfold rb_Model_isPointer
    repeat' first
      | with_reducible exact jv_none
      | with_reducible refine jv_some ?_
      | with_reducible refine jv_ite (fun _ => ?_) (fun _ => ?_)
      | with_reducible refine jv_gd ?_
      | with_reducible refine jv_stK ?_ (fun _ _ => ?_)
      | with_reducible refine jv_vK (fun _ => ?_)
      | with_reducible refine jv_lK (fun _ => ?_)
      | with_reducible refine jv_bi ?_ (fun _ _ _ _ => ?_)
      | with_reducible refine hF _ _ _ _ ?_ ?_
      | assumption
      | with_reducible refine i78_sI ?_ (by decide) (by decide)
      | with_reducible refine i78_sJ ?_
      | with_reducible refine i78_sA ?_ (by decide) (by decide)
      | with_reducible exact jvA_o (by decide)
      | with_reducible refine jvA_13 ?_
      | decide
      | with_reducible exact nz_nle (by assumption)
theorem jv_rb_Model_isRow (hF : jvF F) (T : gSt) (p1 : Int32) (h : I78 T) : jv (rb_Model_isRow F nf T p1) := by
    unfold rb_Model_isRow
    repeat' first
      | with_reducible exact jv_none
      | with_reducible refine jv_some ?_
      | with_reducible refine jv_ite (fun _ => ?_) (fun _ => ?_)
      | with_reducible refine jv_gd ?_
      | with_reducible refine jv_stK ?_ (fun _ _ => ?_)
      | with_reducible refine jv_vK (fun _ => ?_)
      | with_reducible refine jv_lK (fun _ => ?_)
      | with_reducible refine jv_bi ?_ (fun _ _ _ _ => ?_)
      | with_reducible refine hF _ _ _ _ ?_ ?_
      | assumption
      | with_reducible refine i78_sI ?_ (by decide) (by decide)
      | with_reducible refine i78_sJ ?_
      | with_reducible refine i78_sA ?_ (by decide) (by decide)
      | with_reducible exact jvA_o (by decide)
      | with_reducible refine jvA_13 ?_
      | decide
      | with_reducible exact nz_nle (by assumption)
theorem jv_rb_Model_isTitled (hF : jvF F) (T : gSt) (p1 : Int32) (h : I78 T) : jv (rb_Model_isTitled F nf T p1) := by
    unfold rb_Model_isTitled
    repeat' first
      | with_reducible exact jv_none
      | with_reducible refine jv_some ?_
      | with_reducible refine jv_ite (fun _ => ?_) (fun _ => ?_)
      | with_reducible refine jv_gd ?_
      | with_reducible refine jv_stK ?_ (fun _ _ => ?_)
      | with_reducible refine jv_vK (fun _ => ?_)
      | with_reducible refine jv_lK (fun _ => ?_)
      | with_reducible refine jv_bi ?_ (fun _ _ _ _ => ?_)
      | with_reducible refine hF _ _ _ _ ?_ ?_
      | assumption
      | with_reducible refine i78_sI ?_ (by decide) (by decide)
      | with_reducible refine i78_sJ ?_
      | with_reducible refine i78_sA ?_ (by decide) (by decide)
      | with_reducible exact jvA_o (by decide)
      | with_reducible refine jvA_13 ?_
      | decide
      | with_reducible exact nz_nle (by assumption)
theorem jv_rb_Model_sameCell (hF : jvF F) (T : gSt) (p1 : Int32) (p2 : Int32) (h : I78 T) : jv (rb_Model_sameCell F nf T p1 p2) := by
    unfold rb_Model_sameCell
    repeat' first
      | with_reducible exact jv_none
      | with_reducible refine jv_some ?_
      | with_reducible refine jv_ite (fun _ => ?_) (fun _ => ?_)
      | with_reducible refine jv_gd ?_
      | with_reducible refine jv_stK ?_ (fun _ _ => ?_)
      | with_reducible refine jv_vK (fun _ => ?_)
      | with_reducible refine jv_lK (fun _ => ?_)
      | with_reducible refine jv_bi ?_ (fun _ _ _ _ => ?_)
      | with_reducible refine hF _ _ _ _ ?_ ?_
      | assumption
      | with_reducible refine i78_sI ?_ (by decide) (by decide)
      | with_reducible refine i78_sJ ?_
      | with_reducible refine i78_sA ?_ (by decide) (by decide)
      | with_reducible exact jvA_o (by decide)
      | with_reducible refine jvA_13 ?_
      | decide
      | with_reducible exact nz_nle (by assumption)
theorem jv_rl_Model_findTitle_2 (hF : jvF F) : ∀ (n : Nat) (T : gSt) (x0 : Int64) (x1 : Int32), I78 T → jv (rl_Model_findTitle_2 F nf n T x0 x1) := by
  intro n
  induction n with
  | zero =>
    intro T x0 x1 h
    rw [rl_Model_findTitle_2]
    exact jv_none
  | succ n ih =>
    intro T x0 x1 h
    rw [rl_Model_findTitle_2]
    repeat' first
      | with_reducible exact jv_none
      | with_reducible refine jv_some ?_
      | with_reducible refine jv_ite (fun _ => ?_) (fun _ => ?_)
      | with_reducible refine jv_gd ?_
      | with_reducible refine jv_stK ?_ (fun _ _ => ?_)
      | with_reducible refine jv_vK (fun _ => ?_)
      | with_reducible refine jv_lK (fun _ => ?_)
      | with_reducible refine jv_bi ?_ (fun _ _ _ _ => ?_)
      | with_reducible refine hF _ _ _ _ ?_ ?_
      | with_reducible refine ih _ _ _ ?_
      | assumption
      | with_reducible refine i78_sI ?_ (by decide) (by decide)
      | with_reducible refine i78_sJ ?_
      | with_reducible refine i78_sA ?_ (by decide) (by decide)
      | with_reducible exact jvA_o (by decide)
      | with_reducible refine jvA_13 ?_
      | decide
      | with_reducible exact nz_nle (by assumption)
theorem jv_rb_Model_findTitle (hF : jvF F) (T : gSt) (p1 : Int64) (h : I78 T) : jv (rb_Model_findTitle F nf T p1) := by
    unfold rb_Model_findTitle
    repeat' first
      | with_reducible exact jv_none
      | with_reducible refine jv_some ?_
      | with_reducible refine jv_ite (fun _ => ?_) (fun _ => ?_)
      | with_reducible refine jv_gd ?_
      | with_reducible refine jv_stK ?_ (fun _ _ => ?_)
      | with_reducible refine jv_vK (fun _ => ?_)
      | with_reducible refine jv_lK (fun _ => ?_)
      | with_reducible refine jv_bi ?_ (fun _ _ _ _ => ?_)
      | with_reducible refine hF _ _ _ _ ?_ ?_
      | with_reducible refine jv_rl_Model_findTitle_2 hF  _ _ _ _ ?_
      | assumption
      | with_reducible refine i78_sI ?_ (by decide) (by decide)
      | with_reducible refine i78_sJ ?_
      | with_reducible refine i78_sA ?_ (by decide) (by decide)
      | with_reducible exact jvA_o (by decide)
      | with_reducible refine jvA_13 ?_
      | decide
      | with_reducible exact nz_nle (by assumption)
theorem jv_rl_Model_findFun_2 (hF : jvF F) : ∀ (n : Nat) (T : gSt) (x0 : Int64) (x1 : Int32), I78 T → jv (rl_Model_findFun_2 F nf n T x0 x1) := by
  intro n
  induction n with
  | zero =>
    intro T x0 x1 h
    rw [rl_Model_findFun_2]
    exact jv_none
  | succ n ih =>
    intro T x0 x1 h
    rw [rl_Model_findFun_2]
    repeat' first
      | with_reducible exact jv_none
      | with_reducible refine jv_some ?_
      | with_reducible refine jv_ite (fun _ => ?_) (fun _ => ?_)
      | with_reducible refine jv_gd ?_
      | with_reducible refine jv_stK ?_ (fun _ _ => ?_)
      | with_reducible refine jv_vK (fun _ => ?_)
      | with_reducible refine jv_lK (fun _ => ?_)
      | with_reducible refine jv_bi ?_ (fun _ _ _ _ => ?_)
      | with_reducible refine hF _ _ _ _ ?_ ?_
      | with_reducible refine ih _ _ _ ?_
      | assumption
      | with_reducible refine i78_sI ?_ (by decide) (by decide)
      | with_reducible refine i78_sJ ?_
      | with_reducible refine i78_sA ?_ (by decide) (by decide)
      | with_reducible exact jvA_o (by decide)
      | with_reducible refine jvA_13 ?_
      | decide
      | with_reducible exact nz_nle (by assumption)
theorem jv_rb_Model_findFun (hF : jvF F) (T : gSt) (p1 : Int64) (h : I78 T) : jv (rb_Model_findFun F nf T p1) := by
    unfold rb_Model_findFun
    repeat' first
      | with_reducible exact jv_none
      | with_reducible refine jv_some ?_
      | with_reducible refine jv_ite (fun _ => ?_) (fun _ => ?_)
      | with_reducible refine jv_gd ?_
      | with_reducible refine jv_stK ?_ (fun _ _ => ?_)
      | with_reducible refine jv_vK (fun _ => ?_)
      | with_reducible refine jv_lK (fun _ => ?_)
      | with_reducible refine jv_bi ?_ (fun _ _ _ _ => ?_)
      | with_reducible refine hF _ _ _ _ ?_ ?_
      | with_reducible refine jv_rl_Model_findFun_2 hF  _ _ _ _ ?_
      | assumption
      | with_reducible refine i78_sI ?_ (by decide) (by decide)
      | with_reducible refine i78_sJ ?_
      | with_reducible refine i78_sA ?_ (by decide) (by decide)
      | with_reducible exact jvA_o (by decide)
      | with_reducible refine jvA_13 ?_
      | decide
      | with_reducible exact nz_nle (by assumption)
theorem jv_rl_Model_findField_3 (hF : jvF F) : ∀ (n : Nat) (T : gSt) (x0 : Int32) (x1 : Int64) (x2 : Int32), I78 T → jv (rl_Model_findField_3 F nf n T x0 x1 x2) := by
  intro n
  induction n with
  | zero =>
    intro T x0 x1 x2 h
    rw [rl_Model_findField_3]
    exact jv_none
  | succ n ih =>
    intro T x0 x1 x2 h
    rw [rl_Model_findField_3]
    repeat' first
      | with_reducible exact jv_none
      | with_reducible refine jv_some ?_
      | with_reducible refine jv_ite (fun _ => ?_) (fun _ => ?_)
      | with_reducible refine jv_gd ?_
      | with_reducible refine jv_stK ?_ (fun _ _ => ?_)
      | with_reducible refine jv_vK (fun _ => ?_)
      | with_reducible refine jv_lK (fun _ => ?_)
      | with_reducible refine jv_bi ?_ (fun _ _ _ _ => ?_)
      | with_reducible refine hF _ _ _ _ ?_ ?_
      | with_reducible refine ih _ _ _ _ ?_
      | assumption
      | with_reducible refine i78_sI ?_ (by decide) (by decide)
      | with_reducible refine i78_sJ ?_
      | with_reducible refine i78_sA ?_ (by decide) (by decide)
      | with_reducible exact jvA_o (by decide)
      | with_reducible refine jvA_13 ?_
      | decide
      | with_reducible exact nz_nle (by assumption)
theorem jv_rb_Model_findField (hF : jvF F) (T : gSt) (p1 : Int32) (p2 : Int64) (h : I78 T) : jv (rb_Model_findField F nf T p1 p2) := by
    unfold rb_Model_findField
    repeat' first
      | with_reducible exact jv_none
      | with_reducible refine jv_some ?_
      | with_reducible refine jv_ite (fun _ => ?_) (fun _ => ?_)
      | with_reducible refine jv_gd ?_
      | with_reducible refine jv_stK ?_ (fun _ _ => ?_)
      | with_reducible refine jv_vK (fun _ => ?_)
      | with_reducible refine jv_lK (fun _ => ?_)
      | with_reducible refine jv_bi ?_ (fun _ _ _ _ => ?_)
      | with_reducible refine hF _ _ _ _ ?_ ?_
      | with_reducible refine jv_rl_Model_findField_3 hF  _ _ _ _ _ ?_
      | assumption
      | with_reducible refine i78_sI ?_ (by decide) (by decide)
      | with_reducible refine i78_sJ ?_
      | with_reducible refine i78_sA ?_ (by decide) (by decide)
      | with_reducible exact jvA_o (by decide)
      | with_reducible refine jvA_13 ?_
      | decide
      | with_reducible exact nz_nle (by assumption)
theorem jv_rl_Model_findVar_7 (hF : jvF F) : ∀ (n : Nat) (T : gSt) (x0 : Int64) (x1 : Int32), I78 T → jv (rl_Model_findVar_7 F nf n T x0 x1) := by
  intro n
  induction n with
  | zero =>
    intro T x0 x1 h
    rw [rl_Model_findVar_7]
    exact jv_none
  | succ n ih =>
    intro T x0 x1 h
    rw [rl_Model_findVar_7]
    repeat' first
      | with_reducible exact jv_none
      | with_reducible refine jv_some ?_
      | with_reducible refine jv_ite (fun _ => ?_) (fun _ => ?_)
      | with_reducible refine jv_gd ?_
      | with_reducible refine jv_stK ?_ (fun _ _ => ?_)
      | with_reducible refine jv_vK (fun _ => ?_)
      | with_reducible refine jv_lK (fun _ => ?_)
      | with_reducible refine jv_bi ?_ (fun _ _ _ _ => ?_)
      | with_reducible refine hF _ _ _ _ ?_ ?_
      | with_reducible refine ih _ _ _ ?_
      | assumption
      | with_reducible refine i78_sI ?_ (by decide) (by decide)
      | with_reducible refine i78_sJ ?_
      | with_reducible refine i78_sA ?_ (by decide) (by decide)
      | with_reducible exact jvA_o (by decide)
      | with_reducible refine jvA_13 ?_
      | decide
      | with_reducible exact nz_nle (by assumption)
theorem jv_rb_Model_findVar (hF : jvF F) (T : gSt) (p1 : Int64) (h : I78 T) : jv (rb_Model_findVar F nf T p1) := by
    unfold rb_Model_findVar
    repeat' first
      | with_reducible exact jv_none
      | with_reducible refine jv_some ?_
      | with_reducible refine jv_ite (fun _ => ?_) (fun _ => ?_)
      | with_reducible refine jv_gd ?_
      | with_reducible refine jv_stK ?_ (fun _ _ => ?_)
      | with_reducible refine jv_vK (fun _ => ?_)
      | with_reducible refine jv_lK (fun _ => ?_)
      | with_reducible refine jv_bi ?_ (fun _ _ _ _ => ?_)
      | with_reducible refine hF _ _ _ _ ?_ ?_
      | with_reducible refine jv_rl_Model_findVar_7 hF  _ _ _ _ ?_
      | assumption
      | with_reducible refine i78_sI ?_ (by decide) (by decide)
      | with_reducible refine i78_sJ ?_
      | with_reducible refine i78_sA ?_ (by decide) (by decide)
      | with_reducible exact jvA_o (by decide)
      | with_reducible refine jvA_13 ?_
      | decide
      | with_reducible exact nz_nle (by assumption)
theorem jv_rl_Model_findRegion_17 (hF : jvF F) : ∀ (n : Nat) (T : gSt) (x0 : Int64) (x1 : Int32), I78 T → jv (rl_Model_findRegion_17 F nf n T x0 x1) := by
  intro n
  induction n with
  | zero =>
    intro T x0 x1 h
    rw [rl_Model_findRegion_17]
    exact jv_none
  | succ n ih =>
    intro T x0 x1 h
    rw [rl_Model_findRegion_17]
    repeat' first
      | with_reducible exact jv_none
      | with_reducible refine jv_some ?_
      | with_reducible refine jv_ite (fun _ => ?_) (fun _ => ?_)
      | with_reducible refine jv_gd ?_
      | with_reducible refine jv_stK ?_ (fun _ _ => ?_)
      | with_reducible refine jv_vK (fun _ => ?_)
      | with_reducible refine jv_lK (fun _ => ?_)
      | with_reducible refine jv_bi ?_ (fun _ _ _ _ => ?_)
      | with_reducible refine hF _ _ _ _ ?_ ?_
      | with_reducible refine ih _ _ _ ?_
      | assumption
      | with_reducible refine i78_sI ?_ (by decide) (by decide)
      | with_reducible refine i78_sJ ?_
      | with_reducible refine i78_sA ?_ (by decide) (by decide)
      | with_reducible exact jvA_o (by decide)
      | with_reducible refine jvA_13 ?_
      | decide
      | with_reducible exact nz_nle (by assumption)
theorem jv_rb_Model_findRegion (hF : jvF F) (T : gSt) (p1 : Int64) (h : I78 T) : jv (rb_Model_findRegion F nf T p1) := by
    unfold rb_Model_findRegion
    repeat' first
      | with_reducible exact jv_none
      | with_reducible refine jv_some ?_
      | with_reducible refine jv_ite (fun _ => ?_) (fun _ => ?_)
      | with_reducible refine jv_gd ?_
      | with_reducible refine jv_stK ?_ (fun _ _ => ?_)
      | with_reducible refine jv_vK (fun _ => ?_)
      | with_reducible refine jv_lK (fun _ => ?_)
      | with_reducible refine jv_bi ?_ (fun _ _ _ _ => ?_)
      | with_reducible refine hF _ _ _ _ ?_ ?_
      | with_reducible refine jv_rl_Model_findRegion_17 hF  _ _ _ _ ?_
      | assumption
      | with_reducible refine i78_sI ?_ (by decide) (by decide)
      | with_reducible refine i78_sJ ?_
      | with_reducible refine i78_sA ?_ (by decide) (by decide)
      | with_reducible exact jvA_o (by decide)
      | with_reducible refine jvA_13 ?_
      | decide
      | with_reducible exact nz_nle (by assumption)
theorem jv_rj_Model_regionAt_26 (hF : jvF F) (T : gSt) (x1 : Int32) (x2 : Int32) (h : I78 T) : jv (rj_Model_regionAt_26 F nf T x1 x2) := by
    unfold rj_Model_regionAt_26
    repeat' first
      | with_reducible exact jv_none
      | with_reducible refine jv_some ?_
      | with_reducible refine jv_ite (fun _ => ?_) (fun _ => ?_)
      | with_reducible refine jv_gd ?_
      | with_reducible refine jv_stK ?_ (fun _ _ => ?_)
      | with_reducible refine jv_vK (fun _ => ?_)
      | with_reducible refine jv_lK (fun _ => ?_)
      | with_reducible refine jv_bi ?_ (fun _ _ _ _ => ?_)
      | with_reducible refine hF _ _ _ _ ?_ ?_
      | assumption
      | with_reducible refine i78_sI ?_ (by decide) (by decide)
      | with_reducible refine i78_sJ ?_
      | with_reducible refine i78_sA ?_ (by decide) (by decide)
      | with_reducible exact jvA_o (by decide)
      | with_reducible refine jvA_13 ?_
      | decide
      | with_reducible exact nz_nle (by assumption)
end IVT
