/-! what was printed is counted by OUT alone: reference -/
def I104 (v : Int32) (T : gSt) : Prop := T.1 104 0 = v
def kv (v : Int32) (o : gR) : Prop := ∀ r l T', o = some (r, l, T') → I104 v T'
def kvA (t : Nat) (a : List Int32) : Prop := t ∈ [45, 102, 106, 108, 109, 110, 111, 112, 113, 114, 115, 116, 118, 119, 120, 121, 122, 123, 124, 125] ∧ (t = 118 → ¬ a.getD 0 0 = 29)
abbrev kvF (v : Int32) (F : gF) : Prop := ∀ t T a b, I104 v T → kvA t a → kv v (F t T a b)
section KV0
variable {v : Int32}
theorem kv_none : kv v none := fun _ _ _ h => by cases h
theorem kv_some {r : Int32} {l : Int64} {T : gSt} (h : I104 v T) : kv v (some (r, l, T)) := fun _ _ _ e => by
  injection e with e
  injection e with e1 e
  injection e with e2 e3
  rw [← e3]
  exact h
theorem kv_ite {c : Prop} [Decidable c] {a b : gR} (h1 : c → kv v a) (h2 : ¬ c → kv v b) : kv v (if c then a else b) := by
  split
  · exact h1 ‹_›
  · exact h2 ‹_›
theorem kv_gd {c : Prop} [Decidable c] {a : gR} (h1 : kv v a) : kv v (gd c a) := by
  unfold gd
  split
  · exact h1
  · exact kv_none
theorem kv_stK {T : gSt} {K : gSt → gR} (h : I104 v T) (hk : ∀ T, I104 v T → kv v (K T)) : kv v (stK T K) := hk T h
theorem kv_vK {x : Int32} {K : Int32 → gR} (hk : ∀ x, kv v (K x)) : kv v (vK x K) := hk x
theorem kv_lK {x : Int64} {K : Int64 → gR} (hk : ∀ x, kv v (K x)) : kv v (lK x K) := hk x
theorem kv_bi {o : gR} {K : Int32 → Int64 → gSt → gR} (h : kv v o) (hk : ∀ r l T, I104 v T → kv v (K r l T)) : kv v (bi o K) := by
  cases o with
  | none => exact kv_none
  | some x =>
    obtain ⟨r, l, T⟩ := x
    exact hk r l T (h r l T rfl)
theorem i104_sI {T : gSt} {k j : Nat} {x : Int32} (h : I104 v T) (h1 : k ≠ 104) : I104 v (sI T k j x) := by
  unfold I104
  rw [sI_ne (fun e => h1 e.symm)]
  exact h
theorem i104_sJ {T : gSt} {k j : Nat} {x : Int64} (h : I104 v T) : I104 v (sJ T k j x) := h
theorem i104_sA {T : gSt} {k : Nat} {f : Nat → Int32} (h : I104 v T) (h1 : 104 ≠ k) : I104 v (sA T k f) := by
  unfold I104
  rw [show (sA T k f).1 104 = T.1 104 from if_neg h1]
  exact h
theorem kvA_o {t : Nat} {a : List Int32} (h0 : t ∈ [45, 102, 106, 108, 109, 110, 111, 112, 113, 114, 115, 116, 118, 119, 120, 121, 122, 123, 124, 125]) (h1 : t ≠ 118) : kvA t a := ⟨h0, fun e => absurd e h1⟩
end KV0
section IVT
variable {F : gF} {nf : Nat} {v : Int32}
theorem kv_rb_Model_isRow (hF : kvF v F) (T : gSt) (p1 : Int32) (h : I104 v T) : kv v (rb_Model_isRow F nf T p1) := by
    unfold rb_Model_isRow
    repeat' first
      | with_reducible exact kv_none
      | with_reducible refine kv_some ?_
      | with_reducible refine kv_ite (fun _ => ?_) (fun _ => ?_)
      | with_reducible refine kv_gd ?_
      | with_reducible refine kv_stK ?_ (fun _ _ => ?_)
      | with_reducible refine kv_vK (fun _ => ?_)
      | with_reducible refine kv_lK (fun _ => ?_)
      | with_reducible refine kv_bi ?_ (fun _ _ _ _ => ?_)
      | with_reducible refine hF _ _ _ _ ?_ ?_
      | assumption
      | with_reducible refine i104_sI ?_ (by decide)
      | with_reducible refine i104_sJ ?_
      | with_reducible refine i104_sA ?_ (by decide)
      | with_reducible exact kvA_o (by decide) (by decide)
      | decide
theorem kv_rb_Model_wordsOf (hF : kvF v F) (T : gSt) (p1 : Int32) (h : I104 v T) : kv v (rb_Model_wordsOf F nf T p1) := by
    unfold rb_Model_wordsOf
    repeat' first
      | with_reducible exact kv_none
      | with_reducible refine kv_some ?_
      | with_reducible refine kv_ite (fun _ => ?_) (fun _ => ?_)
      | with_reducible refine kv_gd ?_
      | with_reducible refine kv_stK ?_ (fun _ _ => ?_)
      | with_reducible refine kv_vK (fun _ => ?_)
      | with_reducible refine kv_lK (fun _ => ?_)
      | with_reducible refine kv_bi ?_ (fun _ _ _ _ => ?_)
      | with_reducible refine hF _ _ _ _ ?_ ?_
      | assumption
      | with_reducible refine i104_sI ?_ (by decide)
      | with_reducible refine i104_sJ ?_
      | with_reducible refine i104_sA ?_ (by decide)
      | with_reducible exact kvA_o (by decide) (by decide)
      | decide
theorem kv_rb_Model_push (hF : kvF v F) (T : gSt) (p1 : Int32) (p2 : Int32) (p3 : Int32) (h : I104 v T) : kv v (rb_Model_push F nf T p1 p2 p3) := by
    unfold rb_Model_push
    repeat' first
      | with_reducible exact kv_none
      | with_reducible refine kv_some ?_
      | with_reducible refine kv_ite (fun _ => ?_) (fun _ => ?_)
      | with_reducible refine kv_gd ?_
      | with_reducible refine kv_stK ?_ (fun _ _ => ?_)
      | with_reducible refine kv_vK (fun _ => ?_)
      | with_reducible refine kv_lK (fun _ => ?_)
      | with_reducible refine kv_bi ?_ (fun _ _ _ _ => ?_)
      | with_reducible refine hF _ _ _ _ ?_ ?_
      | assumption
      | with_reducible refine i104_sI ?_ (by decide)
      | with_reducible refine i104_sJ ?_
      | with_reducible refine i104_sA ?_ (by decide)
      | with_reducible exact kvA_o (by decide) (by decide)
      | decide
theorem kv_rb_Model_begin (hF : kvF v F) (T : gSt) (p1 : Int32) (h : I104 v T) : kv v (rb_Model_begin F nf T p1) := by
    unfold rb_Model_begin
    repeat' first
      | with_reducible exact kv_none
      | with_reducible refine kv_some ?_
      | with_reducible refine kv_ite (fun _ => ?_) (fun _ => ?_)
      | with_reducible refine kv_gd ?_
      | with_reducible refine kv_stK ?_ (fun _ _ => ?_)
      | with_reducible refine kv_vK (fun _ => ?_)
      | with_reducible refine kv_lK (fun _ => ?_)
      | with_reducible refine kv_bi ?_ (fun _ _ _ _ => ?_)
      | with_reducible refine hF _ _ _ _ ?_ ?_
      | assumption
      | with_reducible refine i104_sI ?_ (by decide)
      | with_reducible refine i104_sJ ?_
      | with_reducible refine i104_sA ?_ (by decide)
      | with_reducible exact kvA_o (by decide) (by decide)
      | decide
theorem kv_rl_Model_shrink_109 (hF : kvF v F) {rec_0 : gSt → Int32 → gR} {rec_38 : gSt → Int32 → Int32 → gR} (hrec_0 : ∀ T a0, I104 v T → kv v (rec_0 T a0)) (hrec_38 : ∀ T a0 a1, I104 v T → kv v (rec_38 T a0 a1)) : ∀ (n : Nat) (T : gSt) (x0 : Int32) (x1 : Int32) (x2 : Int32), I104 v T → kv v (rl_Model_shrink_109 F nf rec_0 rec_38 n T x0 x1 x2) := by
  intro n
  induction n with
  | zero =>
    intro T x0 x1 x2 h
    rw [rl_Model_shrink_109]
    exact kv_none
  | succ n ih =>
    intro T x0 x1 x2 h
    rw [rl_Model_shrink_109]
    repeat' first
      | with_reducible exact kv_none
      | with_reducible refine kv_some ?_
      | with_reducible refine kv_ite (fun _ => ?_) (fun _ => ?_)
      | with_reducible refine kv_gd ?_
      | with_reducible refine kv_stK ?_ (fun _ _ => ?_)
      | with_reducible refine kv_vK (fun _ => ?_)
      | with_reducible refine kv_lK (fun _ => ?_)
      | with_reducible refine kv_bi ?_ (fun _ _ _ _ => ?_)
      | with_reducible refine hF _ _ _ _ ?_ ?_
      | with_reducible refine ih _ _ _ _ ?_
      | with_reducible refine hrec_0 _ _ ?_
      | with_reducible refine hrec_38 _ _ _ ?_
      | assumption
      | with_reducible refine i104_sI ?_ (by decide)
      | with_reducible refine i104_sJ ?_
      | with_reducible refine i104_sA ?_ (by decide)
      | with_reducible exact kvA_o (by decide) (by decide)
      | decide
theorem kv_rl_Model_shrink_38 (hF : kvF v F) {rec_0 : gSt → Int32 → gR} (hrec_0 : ∀ T a0, I104 v T → kv v (rec_0 T a0)) : ∀ (n : Nat) (T : gSt) (x0 : Int32) (x1 : Int32), I104 v T → kv v (rl_Model_shrink_38 F nf rec_0 n T x0 x1) := by
  intro n
  induction n with
  | zero =>
    intro T x0 x1 h
    rw [rl_Model_shrink_38]
    exact kv_none
  | succ n ih =>
    intro T x0 x1 h
    rw [rl_Model_shrink_38]
    repeat' first
      | with_reducible exact kv_none
      | with_reducible refine kv_some ?_
      | with_reducible refine kv_ite (fun _ => ?_) (fun _ => ?_)
      | with_reducible refine kv_gd ?_
      | with_reducible refine kv_stK ?_ (fun _ _ => ?_)
      | with_reducible refine kv_vK (fun _ => ?_)
      | with_reducible refine kv_lK (fun _ => ?_)
      | with_reducible refine kv_bi ?_ (fun _ _ _ _ => ?_)
      | with_reducible refine hF _ _ _ _ ?_ ?_
      | with_reducible refine kv_rl_Model_shrink_109 hF ?_ ?_ _ _ _ _ _ ?_
      | with_reducible refine ih _ _ _ ?_
      | with_reducible refine hrec_0 _ _ ?_
      | assumption
      | with_reducible refine i104_sI ?_ (by decide)
      | with_reducible refine i104_sJ ?_
      | with_reducible refine i104_sA ?_ (by decide)
      | with_reducible exact kvA_o (by decide) (by decide)
      | decide
theorem kv_rl_Model_shrink_0 (hF : kvF v F) : ∀ (n : Nat) (T : gSt) (x0 : Int32), I104 v T → kv v (rl_Model_shrink_0 F nf n T x0) := by
  intro n
  induction n with
  | zero =>
    intro T x0 h
    rw [rl_Model_shrink_0]
    exact kv_none
  | succ n ih =>
    intro T x0 h
    rw [rl_Model_shrink_0]
    repeat' first
      | with_reducible exact kv_none
      | with_reducible refine kv_some ?_
      | with_reducible refine kv_ite (fun _ => ?_) (fun _ => ?_)
      | with_reducible refine kv_gd ?_
      | with_reducible refine kv_stK ?_ (fun _ _ => ?_)
      | with_reducible refine kv_vK (fun _ => ?_)
      | with_reducible refine kv_lK (fun _ => ?_)
      | with_reducible refine kv_bi ?_ (fun _ _ _ _ => ?_)
      | with_reducible refine hF _ _ _ _ ?_ ?_
      | with_reducible refine kv_rl_Model_shrink_38 hF ?_ _ _ _ _ ?_
      | with_reducible refine ih _ _ ?_
      | assumption
      | with_reducible refine i104_sI ?_ (by decide)
      | with_reducible refine i104_sJ ?_
      | with_reducible refine i104_sA ?_ (by decide)
      | with_reducible exact kvA_o (by decide) (by decide)
      | decide
theorem kv_rb_Model_shrink (hF : kvF v F) (T : gSt) (p1 : Int32) (h : I104 v T) : kv v (rb_Model_shrink F nf T p1) := by
    unfold rb_Model_shrink
    repeat' first
      | with_reducible exact kv_none
      | with_reducible refine kv_some ?_
      | with_reducible refine kv_ite (fun _ => ?_) (fun _ => ?_)
      | with_reducible refine kv_gd ?_
      | with_reducible refine kv_stK ?_ (fun _ _ => ?_)
      | with_reducible refine kv_vK (fun _ => ?_)
      | with_reducible refine kv_lK (fun _ => ?_)
      | with_reducible refine kv_bi ?_ (fun _ _ _ _ => ?_)
      | with_reducible refine hF _ _ _ _ ?_ ?_
      | with_reducible refine kv_rl_Model_shrink_0 hF  _ _ _ ?_
      | assumption
      | with_reducible refine i104_sI ?_ (by decide)
      | with_reducible refine i104_sJ ?_
      | with_reducible refine i104_sA ?_ (by decide)
      | with_reducible exact kvA_o (by decide) (by decide)
      | decide
theorem kv_rl_Model_make_235 (hF : kvF v F) : ∀ (n : Nat) (T : gSt) (x0 : Int32) (x1 : Int32) (x2 : Int32), I104 v T → kv v (rl_Model_make_235 F nf n T x0 x1 x2) := by
  intro n
  induction n with
  | zero =>
    intro T x0 x1 x2 h
    rw [rl_Model_make_235]
    exact kv_none
  | succ n ih =>
    intro T x0 x1 x2 h
    rw [rl_Model_make_235]
    repeat' first
      | with_reducible exact kv_none
      | with_reducible refine kv_some ?_
      | with_reducible refine kv_ite (fun _ => ?_) (fun _ => ?_)
      | with_reducible refine kv_gd ?_
      | with_reducible refine kv_stK ?_ (fun _ _ => ?_)
      | with_reducible refine kv_vK (fun _ => ?_)
      | with_reducible refine kv_lK (fun _ => ?_)
      | with_reducible refine kv_bi ?_ (fun _ _ _ _ => ?_)
      | with_reducible refine hF _ _ _ _ ?_ ?_
      | with_reducible refine ih _ _ _ _ ?_
      | assumption
      | with_reducible refine i104_sI ?_ (by decide)
      | with_reducible refine i104_sJ ?_
      | with_reducible refine i104_sA ?_ (by decide)
      | with_reducible exact kvA_o (by decide) (by decide)
      | decide
theorem kv_rl_Model_make_162 (hF : kvF v F) : ∀ (n : Nat) (T : gSt) (x0 : Int32) (x1 : Int32) (x2 : Int32), I104 v T → kv v (rl_Model_make_162 F nf n T x0 x1 x2) := by
  intro n
  induction n with
  | zero =>
    intro T x0 x1 x2 h
    rw [rl_Model_make_162]
    exact kv_none
  | succ n ih =>
    intro T x0 x1 x2 h
    rw [rl_Model_make_162]
    repeat' first
      | with_reducible exact kv_none
      | with_reducible refine kv_some ?_
      | with_reducible refine kv_ite (fun _ => ?_) (fun _ => ?_)
      | with_reducible refine kv_gd ?_
      | with_reducible refine kv_stK ?_ (fun _ _ => ?_)
      | with_reducible refine kv_vK (fun _ => ?_)
      | with_reducible refine kv_lK (fun _ => ?_)
      | with_reducible refine kv_bi ?_ (fun _ _ _ _ => ?_)
      | with_reducible refine hF _ _ _ _ ?_ ?_
      | with_reducible refine kv_rl_Model_make_235 hF  _ _ _ _ _ ?_
      | with_reducible refine ih _ _ _ _ ?_
      | assumption
      | with_reducible refine i104_sI ?_ (by decide)
      | with_reducible refine i104_sJ ?_
      | with_reducible refine i104_sA ?_ (by decide)
      | with_reducible exact kvA_o (by decide) (by decide)
      | decide
theorem kv_rj_Model_make_109 (hF : kvF v F) (T : gSt) (x1 : Int32) (x4 : Int32) (x5 : Int32) (h : I104 v T) : kv v (rj_Model_make_109 F nf T x1 x4 x5) := by
    unfold rj_Model_make_109
    repeat' first
      | with_reducible exact kv_none
      | with_reducible refine kv_some ?_
      | with_reducible refine kv_ite (fun _ => ?_) (fun _ => ?_)
      | with_reducible refine kv_gd ?_
      | with_reducible refine kv_stK ?_ (fun _ _ => ?_)
      | with_reducible refine kv_vK (fun _ => ?_)
      | with_reducible refine kv_lK (fun _ => ?_)
      | with_reducible refine kv_bi ?_ (fun _ _ _ _ => ?_)
      | with_reducible refine hF _ _ _ _ ?_ ?_
      | with_reducible refine kv_rl_Model_make_162 hF  _ _ _ _ _ ?_
      | assumption
      | with_reducible refine i104_sI ?_ (by decide)
      | with_reducible refine i104_sJ ?_
      | with_reducible refine i104_sA ?_ (by decide)
      | with_reducible exact kvA_o (by decide) (by decide)
      | decide
theorem kv_rj_Model_make_77 (hF : kvF v F) (T : gSt) (x1 : Int32) (x4 : Int32) (x5 : Int32) (x6 : Int32) (h : I104 v T) : kv v (rj_Model_make_77 F nf T x1 x4 x5 x6) := by
    unfold rj_Model_make_77
    repeat' first
      | with_reducible exact kv_none
      | with_reducible refine kv_some ?_
      | with_reducible refine kv_ite (fun _ => ?_) (fun _ => ?_)
      | with_reducible refine kv_gd ?_
      | with_reducible refine kv_stK ?_ (fun _ _ => ?_)
      | with_reducible refine kv_vK (fun _ => ?_)
      | with_reducible refine kv_lK (fun _ => ?_)
      | with_reducible refine kv_bi ?_ (fun _ _ _ _ => ?_)
      | with_reducible refine hF _ _ _ _ ?_ ?_
      | with_reducible refine kv_rj_Model_make_109 hF  _ _ _ _ ?_
      | assumption
      | with_reducible refine i104_sI ?_ (by decide)
      | with_reducible refine i104_sJ ?_
      | with_reducible refine i104_sA ?_ (by decide)
      | with_reducible exact kvA_o (by decide) (by decide)
      | decide
theorem kv_rj_Model_make_51 (hF : kvF v F) (T : gSt) (x1 : Int32) (x4 : Int32) (x5 : Int32) (h : I104 v T) : kv v (rj_Model_make_51 F nf T x1 x4 x5) := by
    unfold rj_Model_make_51
    repeat' first
      | with_reducible exact kv_none
      | with_reducible refine kv_some ?_
      | with_reducible refine kv_ite (fun _ => ?_) (fun _ => ?_)
      | with_reducible refine kv_gd ?_
      | with_reducible refine kv_stK ?_ (fun _ _ => ?_)
      | with_reducible refine kv_vK (fun _ => ?_)
      | with_reducible refine kv_lK (fun _ => ?_)
      | with_reducible refine kv_bi ?_ (fun _ _ _ _ => ?_)
      | with_reducible refine hF _ _ _ _ ?_ ?_
      | with_reducible refine kv_rj_Model_make_77 hF  _ _ _ _ _ ?_
      | assumption
      | with_reducible refine i104_sI ?_ (by decide)
      | with_reducible refine i104_sJ ?_
      | with_reducible refine i104_sA ?_ (by decide)
      | with_reducible exact kvA_o (by decide) (by decide)
      | decide
theorem kv_rb_Model_make (hF : kvF v F) (T : gSt) (p1 : Int32) (p2 : Int64) (p3 : Int32) (h : I104 v T) : kv v (rb_Model_make F nf T p1 p2 p3) := by
    unfold rb_Model_make
    repeat' first
      | with_reducible exact kv_none
      | with_reducible refine kv_some ?_
      | with_reducible refine kv_ite (fun _ => ?_) (fun _ => ?_)
      | with_reducible refine kv_gd ?_
      | with_reducible refine kv_stK ?_ (fun _ _ => ?_)
      | with_reducible refine kv_vK (fun _ => ?_)
      | with_reducible refine kv_lK (fun _ => ?_)
      | with_reducible refine kv_bi ?_ (fun _ _ _ _ => ?_)
      | with_reducible refine hF _ _ _ _ ?_ ?_
      | with_reducible refine kv_rj_Model_make_51 hF  _ _ _ _ ?_
      | with_reducible refine kv_rj_Model_make_77 hF  _ _ _ _ _ ?_
      | assumption
      | with_reducible refine i104_sI ?_ (by decide)
      | with_reducible refine i104_sJ ?_
      | with_reducible refine i104_sA ?_ (by decide)
      | with_reducible exact kvA_o (by decide) (by decide)
      | decide
theorem kv_rl_Model_placeOf_51 (hF : kvF v F) : ∀ (n : Nat) (T : gSt) (x0 : Int32) (x1 : Int32) (x2 : Int32), I104 v T → kv v (rl_Model_placeOf_51 F nf n T x0 x1 x2) := by
  intro n
  induction n with
  | zero =>
    intro T x0 x1 x2 h
    rw [rl_Model_placeOf_51]
    exact kv_none
  | succ n ih =>
    intro T x0 x1 x2 h
    rw [rl_Model_placeOf_51]
    repeat' first
      | with_reducible exact kv_none
      | with_reducible refine kv_some ?_
      | with_reducible refine kv_ite (fun _ => ?_) (fun _ => ?_)
      | with_reducible refine kv_gd ?_
      | with_reducible refine kv_stK ?_ (fun _ _ => ?_)
      | with_reducible refine kv_vK (fun _ => ?_)
      | with_reducible refine kv_lK (fun _ => ?_)
      | with_reducible refine kv_bi ?_ (fun _ _ _ _ => ?_)
      | with_reducible refine hF _ _ _ _ ?_ ?_
      | with_reducible refine ih _ _ _ _ ?_
      | assumption
      | with_reducible refine i104_sI ?_ (by decide)
      | with_reducible refine i104_sJ ?_
      | with_reducible refine i104_sA ?_ (by decide)
      | with_reducible exact kvA_o (by decide) (by decide)
      | decide
theorem kv_rb_Model_placeOf (hF : kvF v F) (T : gSt) (p1 : Int32) (p2 : Int32) (p3 : Int32) (h : I104 v T) : kv v (rb_Model_placeOf F nf T p1 p2 p3) := by
    unfold rb_Model_placeOf
    repeat' first
      | with_reducible exact kv_none
      | with_reducible refine kv_some ?_
      | with_reducible refine kv_ite (fun _ => ?_) (fun _ => ?_)
      | with_reducible refine kv_gd ?_
      | with_reducible refine kv_stK ?_ (fun _ _ => ?_)
      | with_reducible refine kv_vK (fun _ => ?_)
      | with_reducible refine kv_lK (fun _ => ?_)
      | with_reducible refine kv_bi ?_ (fun _ _ _ _ => ?_)
      | with_reducible refine hF _ _ _ _ ?_ ?_
      | with_reducible refine kv_rl_Model_placeOf_51 hF  _ _ _ _ _ ?_
      | assumption
      | with_reducible refine i104_sI ?_ (by decide)
      | with_reducible refine i104_sJ ?_
      | with_reducible refine i104_sA ?_ (by decide)
      | with_reducible exact kvA_o (by decide) (by decide)
      | decide
theorem kv_rj_Model_pushPlace_83 (hF : kvF v F) (T : gSt) (x4 : Int32) (y0 : Int32) (y1 : Int32) (y2 : Int32) (h : I104 v T) : kv v (rj_Model_pushPlace_83 F nf T x4 y0 y1 y2) := by
    unfold rj_Model_pushPlace_83
    repeat' first
      | with_reducible exact kv_none
      | with_reducible refine kv_some ?_
      | with_reducible refine kv_ite (fun _ => ?_) (fun _ => ?_)
      | with_reducible refine kv_gd ?_
      | with_reducible refine kv_stK ?_ (fun _ _ => ?_)
      | with_reducible refine kv_vK (fun _ => ?_)
      | with_reducible refine kv_lK (fun _ => ?_)
      | with_reducible refine kv_bi ?_ (fun _ _ _ _ => ?_)
      | with_reducible refine hF _ _ _ _ ?_ ?_
      | assumption
      | with_reducible refine i104_sI ?_ (by decide)
      | with_reducible refine i104_sJ ?_
      | with_reducible refine i104_sA ?_ (by decide)
      | with_reducible exact kvA_o (by decide) (by decide)
      | decide
theorem kv_rj_Model_pushPlace_51 (hF : kvF v F) (T : gSt) (x4 : Int32) (y0 : Int32) (h : I104 v T) : kv v (rj_Model_pushPlace_51 F nf T x4 y0) := by
    unfold rj_Model_pushPlace_51
    repeat' first
      | with_reducible exact kv_none
      | with_reducible refine kv_some ?_
      | with_reducible refine kv_ite (fun _ => ?_) (fun _ => ?_)
      | with_reducible refine kv_gd ?_
      | with_reducible refine kv_stK ?_ (fun _ _ => ?_)
      | with_reducible refine kv_vK (fun _ => ?_)
      | with_reducible refine kv_lK (fun _ => ?_)
      | with_reducible refine kv_bi ?_ (fun _ _ _ _ => ?_)
      | with_reducible refine hF _ _ _ _ ?_ ?_
      | with_reducible refine kv_rj_Model_pushPlace_83 hF  _ _ _ _ _ ?_
      | assumption
      | with_reducible refine i104_sI ?_ (by decide)
      | with_reducible refine i104_sJ ?_
      | with_reducible refine i104_sA ?_ (by decide)
      | with_reducible exact kvA_o (by decide) (by decide)
      | decide
theorem kv_rj_Model_pushPlace_34 (hF : kvF v F) (T : gSt) (x4 : Int32) (h : I104 v T) : kv v (rj_Model_pushPlace_34 F nf T x4) := by
    unfold rj_Model_pushPlace_34
    repeat' first
      | with_reducible exact kv_none
      | with_reducible refine kv_some ?_
      | with_reducible refine kv_ite (fun _ => ?_) (fun _ => ?_)
      | with_reducible refine kv_gd ?_
      | with_reducible refine kv_stK ?_ (fun _ _ => ?_)
      | with_reducible refine kv_vK (fun _ => ?_)
      | with_reducible refine kv_lK (fun _ => ?_)
      | with_reducible refine kv_bi ?_ (fun _ _ _ _ => ?_)
      | with_reducible refine hF _ _ _ _ ?_ ?_
      | with_reducible refine kv_rj_Model_pushPlace_51 hF  _ _ _ ?_
      | assumption
      | with_reducible refine i104_sI ?_ (by decide)
      | with_reducible refine i104_sJ ?_
      | with_reducible refine i104_sA ?_ (by decide)
      | with_reducible exact kvA_o (by decide) (by decide)
      | decide
theorem kv_rb_Model_pushPlace (hF : kvF v F) (T : gSt) (p1 : Int32) (p2 : Int32) (p3 : Int32) (h : I104 v T) : kv v (rb_Model_pushPlace F nf T p1 p2 p3) := by
    unfold rb_Model_pushPlace
    repeat' first
      | with_reducible exact kv_none
      | with_reducible refine kv_some ?_
      | with_reducible refine kv_ite (fun _ => ?_) (fun _ => ?_)
      | with_reducible refine kv_gd ?_
      | with_reducible refine kv_stK ?_ (fun _ _ => ?_)
      | with_reducible refine kv_vK (fun _ => ?_)
      | with_reducible refine kv_lK (fun _ => ?_)
      | with_reducible refine kv_bi ?_ (fun _ _ _ _ => ?_)
      | with_reducible refine hF _ _ _ _ ?_ ?_
      | with_reducible refine kv_rj_Model_pushPlace_34 hF  _ _ ?_
      | assumption
      | with_reducible refine i104_sI ?_ (by decide)
      | with_reducible refine i104_sJ ?_
      | with_reducible refine i104_sA ?_ (by decide)
      | with_reducible exact kvA_o (by decide) (by decide)
      | decide
theorem kv_rb_Model_put (hF : kvF v F) (T : gSt) (p1 : Int32) (p2 : Int32) (p3 : Int32) (p4 : Int32) (h : I104 v T) : kv v (rb_Model_put F nf T p1 p2 p3 p4) := by
    unfold rb_Model_put
    repeat' first
      | with_reducible exact kv_none
      | with_reducible refine kv_some ?_
      | with_reducible refine kv_ite (fun _ => ?_) (fun _ => ?_)
      | with_reducible refine kv_gd ?_
      | with_reducible refine kv_stK ?_ (fun _ _ => ?_)
      | with_reducible refine kv_vK (fun _ => ?_)
      | with_reducible refine kv_lK (fun _ => ?_)
      | with_reducible refine kv_bi ?_ (fun _ _ _ _ => ?_)
      | with_reducible refine hF _ _ _ _ ?_ ?_
      | assumption
      | with_reducible refine i104_sI ?_ (by decide)
      | with_reducible refine i104_sJ ?_
      | with_reducible refine i104_sA ?_ (by decide)
      | with_reducible exact kvA_o (by decide) (by decide)
      | decide
theorem kv_rb_Model_raise (hF : kvF v F) (T : gSt) (p1 : Int32) (h : I104 v T) : kv v (rb_Model_raise F nf T p1) := by
    unfold rb_Model_raise
    repeat' first
      | with_reducible exact kv_none
      | with_reducible refine kv_some ?_
      | with_reducible refine kv_ite (fun _ => ?_) (fun _ => ?_)
      | with_reducible refine kv_gd ?_
      | with_reducible refine kv_stK ?_ (fun _ _ => ?_)
      | with_reducible refine kv_vK (fun _ => ?_)
      | with_reducible refine kv_lK (fun _ => ?_)
      | with_reducible refine kv_bi ?_ (fun _ _ _ _ => ?_)
      | with_reducible refine hF _ _ _ _ ?_ ?_
      | assumption
      | with_reducible refine i104_sI ?_ (by decide)
      | with_reducible refine i104_sJ ?_
      | with_reducible refine i104_sA ?_ (by decide)
      | with_reducible exact kvA_o (by decide) (by decide)
      | decide
theorem kv_rb_Model_var (hF : kvF v F) (T : gSt) (p1 : Int32) (h : I104 v T) : kv v (rb_Model_var F nf T p1) := by
    unfold rb_Model_var
    repeat' first
      | with_reducible exact kv_none
      | with_reducible refine kv_some ?_
      | with_reducible refine kv_ite (fun _ => ?_) (fun _ => ?_)
      | with_reducible refine kv_gd ?_
      | with_reducible refine kv_stK ?_ (fun _ _ => ?_)
      | with_reducible refine kv_vK (fun _ => ?_)
      | with_reducible refine kv_lK (fun _ => ?_)
      | with_reducible refine kv_bi ?_ (fun _ _ _ _ => ?_)
      | with_reducible refine hF _ _ _ _ ?_ ?_
      | assumption
      | with_reducible refine i104_sI ?_ (by decide)
      | with_reducible refine i104_sJ ?_
      | with_reducible refine i104_sA ?_ (by decide)
      | with_reducible exact kvA_o (by decide) (by decide)
      | decide
theorem kv_rb_Model_regionIndex (hF : kvF v F) (T : gSt) (p1 : Int32) (h : I104 v T) : kv v (rb_Model_regionIndex F nf T p1) := by
    unfold rb_Model_regionIndex
    repeat' first
      | with_reducible exact kv_none
      | with_reducible refine kv_some ?_
      | with_reducible refine kv_ite (fun _ => ?_) (fun _ => ?_)
      | with_reducible refine kv_gd ?_
      | with_reducible refine kv_stK ?_ (fun _ _ => ?_)
      | with_reducible refine kv_vK (fun _ => ?_)
      | with_reducible refine kv_lK (fun _ => ?_)
      | with_reducible refine kv_bi ?_ (fun _ _ _ _ => ?_)
      | with_reducible refine hF _ _ _ _ ?_ ?_
      | assumption
      | with_reducible refine i104_sI ?_ (by decide)
      | with_reducible refine i104_sJ ?_
      | with_reducible refine i104_sA ?_ (by decide)
      | with_reducible exact kvA_o (by decide) (by decide)
      | decide
theorem kv_rj_Model_run_IIII_537 (hF : kvF v F) (T : gSt) (x2 : Int32) (h : I104 v T) : kv v (rj_Model_run_IIII_537 F nf T x2) := by
    unfold rj_Model_run_IIII_537
    repeat' first
      | with_reducible exact kv_none
      | with_reducible refine kv_some ?_
      | with_reducible refine kv_ite (fun _ => ?_) (fun _ => ?_)
      | with_reducible refine kv_gd ?_
      | with_reducible refine kv_stK ?_ (fun _ _ => ?_)
      | with_reducible refine kv_vK (fun _ => ?_)
      | with_reducible refine kv_lK (fun _ => ?_)
      | with_reducible refine kv_bi ?_ (fun _ _ _ _ => ?_)
      | with_reducible refine hF _ _ _ _ ?_ ?_
      | assumption
      | with_reducible refine i104_sI ?_ (by decide)
      | with_reducible refine i104_sJ ?_
      | with_reducible refine i104_sA ?_ (by decide)
      | with_reducible exact kvA_o (by decide) (by decide)
      | decide
theorem kv_rb_Model_run_IIII (hF : kvF v F) (T : gSt) (p1 p2 p3 p4 : Int32) (h : I104 v T) (hp : ¬ p1 = 29) : kv v (rb_Model_run_IIII F nf T p1 p2 p3 p4) := by
    unfold rb_Model_run_IIII
    repeat' first
      | exact absurd ‹p1 = (29 : Int32)› hp
      | with_reducible exact kv_none
      | with_reducible refine kv_some ?_
      | with_reducible refine kv_ite (fun _ => ?_) (fun _ => ?_)
      | with_reducible refine kv_gd ?_
      | with_reducible refine kv_stK ?_ (fun _ _ => ?_)
      | with_reducible refine kv_vK (fun _ => ?_)
      | with_reducible refine kv_lK (fun _ => ?_)
      | with_reducible refine kv_bi ?_ (fun _ _ _ _ => ?_)
      | with_reducible refine hF _ _ _ _ ?_ ?_
      | with_reducible refine kv_rj_Model_run_IIII_537 hF  _ _ ?_
      | assumption
      | with_reducible refine i104_sI ?_ (by decide)
      | with_reducible refine i104_sJ ?_
      | with_reducible refine i104_sA ?_ (by decide)
      | with_reducible exact kvA_o (by decide) (by decide)
      | decide
theorem kv_rl_Model_input__28 (hF : kvF v F) : ∀ (n : Nat) (T : gSt) (x0 : Int32) (x1 : Int32), I104 v T → kv v (rl_Model_input__28 F nf n T x0 x1) := by
  intro n
  induction n with
  | zero =>
    intro T x0 x1 h
    rw [rl_Model_input__28]
    exact kv_none
  | succ n ih =>
    intro T x0 x1 h
    rw [rl_Model_input__28]
    repeat' first
      | with_reducible exact kv_none
      | with_reducible refine kv_some ?_
      | with_reducible refine kv_ite (fun _ => ?_) (fun _ => ?_)
      | with_reducible refine kv_gd ?_
      | with_reducible refine kv_stK ?_ (fun _ _ => ?_)
      | with_reducible refine kv_vK (fun _ => ?_)
      | with_reducible refine kv_lK (fun _ => ?_)
      | with_reducible refine kv_bi ?_ (fun _ _ _ _ => ?_)
      | with_reducible refine hF _ _ _ _ ?_ ?_
      | with_reducible refine ih _ _ _ ?_
      | assumption
      | with_reducible refine i104_sI ?_ (by decide)
      | with_reducible refine i104_sJ ?_
      | with_reducible refine i104_sA ?_ (by decide)
      | with_reducible exact kvA_o (by decide) (by decide)
      | decide
theorem kv_rb_Model_input_ (hF : kvF v F) (T : gSt) (h : I104 v T) : kv v (rb_Model_input_ F nf T) := by
    unfold rb_Model_input_
    repeat' first
      | with_reducible exact kv_none
      | with_reducible refine kv_some ?_
      | with_reducible refine kv_ite (fun _ => ?_) (fun _ => ?_)
      | with_reducible refine kv_gd ?_
      | with_reducible refine kv_stK ?_ (fun _ _ => ?_)
      | with_reducible refine kv_vK (fun _ => ?_)
      | with_reducible refine kv_lK (fun _ => ?_)
      | with_reducible refine kv_bi ?_ (fun _ _ _ _ => ?_)
      | with_reducible refine hF _ _ _ _ ?_ ?_
      | with_reducible refine kv_rl_Model_input__28 hF  _ _ _ _ ?_
      | assumption
      | with_reducible refine i104_sI ?_ (by decide)
      | with_reducible refine i104_sJ ?_
      | with_reducible refine i104_sA ?_ (by decide)
      | with_reducible exact kvA_o (by decide) (by decide)
      | decide
theorem kv_rl_Model_invoke_89 (hF : kvF v F) : ∀ (n : Nat) (T : gSt) (x0 : Int32) (x1 : Int32) (x2 : Int32), I104 v T → kv v (rl_Model_invoke_89 F nf n T x0 x1 x2) := by
  intro n
  induction n with
  | zero =>
    intro T x0 x1 x2 h
    rw [rl_Model_invoke_89]
    exact kv_none
  | succ n ih =>
    intro T x0 x1 x2 h
    rw [rl_Model_invoke_89]
    repeat' first
      | with_reducible exact kv_none
      | with_reducible refine kv_some ?_
      | with_reducible refine kv_ite (fun _ => ?_) (fun _ => ?_)
      | with_reducible refine kv_gd ?_
      | with_reducible refine kv_stK ?_ (fun _ _ => ?_)
      | with_reducible refine kv_vK (fun _ => ?_)
      | with_reducible refine kv_lK (fun _ => ?_)
      | with_reducible refine kv_bi ?_ (fun _ _ _ _ => ?_)
      | with_reducible refine hF _ _ _ _ ?_ ?_
      | with_reducible refine ih _ _ _ _ ?_
      | assumption
      | with_reducible refine i104_sI ?_ (by decide)
      | with_reducible refine i104_sJ ?_
      | with_reducible refine i104_sA ?_ (by decide)
      | with_reducible exact kvA_o (by decide) (by decide)
      | decide
theorem kv_rl_Model_invoke_34 (hF : kvF v F) : ∀ (n : Nat) (T : gSt) (x0 : Int32) (x1 : Int32) (x2 : Int32) (x3 : Int32) (x4 : Int32), I104 v T → kv v (rl_Model_invoke_34 F nf n T x0 x1 x2 x3 x4) := by
  intro n
  induction n with
  | zero =>
    intro T x0 x1 x2 x3 x4 h
    rw [rl_Model_invoke_34]
    exact kv_none
  | succ n ih =>
    intro T x0 x1 x2 x3 x4 h
    rw [rl_Model_invoke_34]
    repeat' first
      | with_reducible exact kv_none
      | with_reducible refine kv_some ?_
      | with_reducible refine kv_ite (fun _ => ?_) (fun _ => ?_)
      | with_reducible refine kv_gd ?_
      | with_reducible refine kv_stK ?_ (fun _ _ => ?_)
      | with_reducible refine kv_vK (fun _ => ?_)
      | with_reducible refine kv_lK (fun _ => ?_)
      | with_reducible refine kv_bi ?_ (fun _ _ _ _ => ?_)
      | with_reducible refine hF _ _ _ _ ?_ ?_
      | with_reducible refine kv_rl_Model_invoke_89 hF  _ _ _ _ _ ?_
      | with_reducible refine ih _ _ _ _ _ _ ?_
      | assumption
      | with_reducible refine i104_sI ?_ (by decide)
      | with_reducible refine i104_sJ ?_
      | with_reducible refine i104_sA ?_ (by decide)
      | with_reducible exact kvA_o (by decide) (by decide)
      | decide
theorem kv_rb_Model_invoke (hF : kvF v F) (T : gSt) (p1 : Int32) (p2 : Int32) (h : I104 v T) : kv v (rb_Model_invoke F nf T p1 p2) := by
    unfold rb_Model_invoke
    repeat' first
      | with_reducible exact kv_none
      | with_reducible refine kv_some ?_
      | with_reducible refine kv_ite (fun _ => ?_) (fun _ => ?_)
      | with_reducible refine kv_gd ?_
      | with_reducible refine kv_stK ?_ (fun _ _ => ?_)
      | with_reducible refine kv_vK (fun _ => ?_)
      | with_reducible refine kv_lK (fun _ => ?_)
      | with_reducible refine kv_bi ?_ (fun _ _ _ _ => ?_)
      | with_reducible refine hF _ _ _ _ ?_ ?_
      | with_reducible refine kv_rl_Model_invoke_34 hF  _ _ _ _ _ _ _ ?_
      | assumption
      | with_reducible refine i104_sI ?_ (by decide)
      | with_reducible refine i104_sJ ?_
      | with_reducible refine i104_sA ?_ (by decide)
      | with_reducible exact kvA_o (by decide) (by decide)
      | decide
theorem kv_rj_Model_back_48 (hF : kvF v F) (T : gSt) (h : I104 v T) : kv v (rj_Model_back_48 F nf T) := by
    unfold rj_Model_back_48
    repeat' first
      | with_reducible exact kv_none
      | with_reducible refine kv_some ?_
      | with_reducible refine kv_ite (fun _ => ?_) (fun _ => ?_)
      | with_reducible refine kv_gd ?_
      | with_reducible refine kv_stK ?_ (fun _ _ => ?_)
      | with_reducible refine kv_vK (fun _ => ?_)
      | with_reducible refine kv_lK (fun _ => ?_)
      | with_reducible refine kv_bi ?_ (fun _ _ _ _ => ?_)
      | with_reducible refine hF _ _ _ _ ?_ ?_
      | assumption
      | with_reducible refine i104_sI ?_ (by decide)
      | with_reducible refine i104_sJ ?_
      | with_reducible refine i104_sA ?_ (by decide)
      | with_reducible exact kvA_o (by decide) (by decide)
      | decide
theorem kv_rl_Model_back_10 (hF : kvF v F) : ∀ (n : Nat) (T : gSt), I104 v T → kv v (rl_Model_back_10 F nf n T ) := by
  intro n
  induction n with
  | zero =>
    intro T  h
    rw [rl_Model_back_10]
    exact kv_none
  | succ n ih =>
    intro T  h
    rw [rl_Model_back_10]
    repeat' first
      | with_reducible exact kv_none
      | with_reducible refine kv_some ?_
      | with_reducible refine kv_ite (fun _ => ?_) (fun _ => ?_)
      | with_reducible refine kv_gd ?_
      | with_reducible refine kv_stK ?_ (fun _ _ => ?_)
      | with_reducible refine kv_vK (fun _ => ?_)
      | with_reducible refine kv_lK (fun _ => ?_)
      | with_reducible refine kv_bi ?_ (fun _ _ _ _ => ?_)
      | with_reducible refine hF _ _ _ _ ?_ ?_
      | with_reducible refine kv_rj_Model_back_48 hF  _  ?_
      | with_reducible refine ih _  ?_
      | assumption
      | with_reducible refine i104_sI ?_ (by decide)
      | with_reducible refine i104_sJ ?_
      | with_reducible refine i104_sA ?_ (by decide)
      | with_reducible exact kvA_o (by decide) (by decide)
      | decide
theorem kv_rb_Model_back (hF : kvF v F) (T : gSt) (h : I104 v T) : kv v (rb_Model_back F nf T) := by
    unfold rb_Model_back
    repeat' first
      | with_reducible exact kv_none
      | with_reducible refine kv_some ?_
      | with_reducible refine kv_ite (fun _ => ?_) (fun _ => ?_)
      | with_reducible refine kv_gd ?_
      | with_reducible refine kv_stK ?_ (fun _ _ => ?_)
      | with_reducible refine kv_vK (fun _ => ?_)
      | with_reducible refine kv_lK (fun _ => ?_)
      | with_reducible refine kv_bi ?_ (fun _ _ _ _ => ?_)
      | with_reducible refine hF _ _ _ _ ?_ ?_
      | with_reducible refine kv_rl_Model_back_10 hF  _ _  ?_
      | assumption
      | with_reducible refine i104_sI ?_ (by decide)
      | with_reducible refine i104_sJ ?_
      | with_reducible refine i104_sA ?_ (by decide)
      | with_reducible exact kvA_o (by decide) (by decide)
      | decide
theorem kv_rl_Model_makeBy_207 (hF : kvF v F) : ∀ (n : Nat) (T : gSt) (x0 : Int32) (x1 : Int32) (x2 : Int32) (x3 : Int32) (x4 : Int32), I104 v T → kv v (rl_Model_makeBy_207 F nf n T x0 x1 x2 x3 x4) := by
  intro n
  induction n with
  | zero =>
    intro T x0 x1 x2 x3 x4 h
    rw [rl_Model_makeBy_207]
    exact kv_none
  | succ n ih =>
    intro T x0 x1 x2 x3 x4 h
    rw [rl_Model_makeBy_207]
    repeat' first
      | with_reducible exact kv_none
      | with_reducible refine kv_some ?_
      | with_reducible refine kv_ite (fun _ => ?_) (fun _ => ?_)
      | with_reducible refine kv_gd ?_
      | with_reducible refine kv_stK ?_ (fun _ _ => ?_)
      | with_reducible refine kv_vK (fun _ => ?_)
      | with_reducible refine kv_lK (fun _ => ?_)
      | with_reducible refine kv_bi ?_ (fun _ _ _ _ => ?_)
      | with_reducible refine hF _ _ _ _ ?_ ?_
      | with_reducible refine ih _ _ _ _ _ _ ?_
      | assumption
      | with_reducible refine i104_sI ?_ (by decide)
      | with_reducible refine i104_sJ ?_
      | with_reducible refine i104_sA ?_ (by decide)
      | with_reducible exact kvA_o (by decide) (by decide)
      | decide
theorem kv_rj_Model_makeBy_171 (hF : kvF v F) (T : gSt) (x1 : Int32) (x4 : Int32) (x5 : Int32) (x6 : Int32) (y0 : Int64) (y1 : Int64) (h : I104 v T) : kv v (rj_Model_makeBy_171 F nf T x1 x4 x5 x6 y0 y1) := by
    unfold rj_Model_makeBy_171
    repeat' first
      | with_reducible exact kv_none
      | with_reducible refine kv_some ?_
      | with_reducible refine kv_ite (fun _ => ?_) (fun _ => ?_)
      | with_reducible refine kv_gd ?_
      | with_reducible refine kv_stK ?_ (fun _ _ => ?_)
      | with_reducible refine kv_vK (fun _ => ?_)
      | with_reducible refine kv_lK (fun _ => ?_)
      | with_reducible refine kv_bi ?_ (fun _ _ _ _ => ?_)
      | with_reducible refine hF _ _ _ _ ?_ ?_
      | with_reducible refine kv_rl_Model_makeBy_207 hF  _ _ _ _ _ _ _ ?_
      | assumption
      | with_reducible refine i104_sI ?_ (by decide)
      | with_reducible refine i104_sJ ?_
      | with_reducible refine i104_sA ?_ (by decide)
      | with_reducible exact kvA_o (by decide) (by decide)
      | decide
theorem kv_rj_Model_makeBy_131 (hF : kvF v F) {rec_69 : gSt → Int32 → Int32 → Int32 → Int32 → Int32 → Int64 → Int32 → Int32 → gR} (hrec_69 : ∀ T a0 a1 a2 a3 a4 a5 a6 a7, I104 v T → kv v (rec_69 T a0 a1 a2 a3 a4 a5 a6 a7)) (T : gSt) (x1 : Int32) (x3 : Int32) (x4 : Int32) (x5 : Int32) (x6 : Int32) (x9 : Int32) (x10 : Int32) (x11 : Int32) (y0 : Int64) (y1 : Int64) (h : I104 v T) : kv v (rj_Model_makeBy_131 F nf rec_69 T x1 x3 x4 x5 x6 x9 x10 x11 y0 y1) := by
    unfold rj_Model_makeBy_131
    repeat' first
      | with_reducible exact kv_none
      | with_reducible refine kv_some ?_
      | with_reducible refine kv_ite (fun _ => ?_) (fun _ => ?_)
      | with_reducible refine kv_gd ?_
      | with_reducible refine kv_stK ?_ (fun _ _ => ?_)
      | with_reducible refine kv_vK (fun _ => ?_)
      | with_reducible refine kv_lK (fun _ => ?_)
      | with_reducible refine kv_bi ?_ (fun _ _ _ _ => ?_)
      | with_reducible refine hF _ _ _ _ ?_ ?_
      | with_reducible refine hrec_69 _ _ _ _ _ _ _ _ _ ?_
      | assumption
      | with_reducible refine i104_sI ?_ (by decide)
      | with_reducible refine i104_sJ ?_
      | with_reducible refine i104_sA ?_ (by decide)
      | with_reducible exact kvA_o (by decide) (by decide)
      | decide
theorem kv_rj_Model_makeBy_86 (hF : kvF v F) {rec_69 : gSt → Int32 → Int32 → Int32 → Int32 → Int32 → Int64 → Int32 → Int32 → gR} (hrec_69 : ∀ T a0 a1 a2 a3 a4 a5 a6 a7, I104 v T → kv v (rec_69 T a0 a1 a2 a3 a4 a5 a6 a7)) (T : gSt) (x1 : Int32) (x3 : Int32) (x4 : Int32) (x5 : Int32) (x6 : Int32) (x7 : Int64) (x9 : Int32) (x10 : Int32) (y0 : Int32) (y2 : Int32) (h : I104 v T) : kv v (rj_Model_makeBy_86 F nf rec_69 T x1 x3 x4 x5 x6 x7 x9 x10 y0 y2) := by
    unfold rj_Model_makeBy_86
    repeat' first
      | with_reducible exact kv_none
      | with_reducible refine kv_some ?_
      | with_reducible refine kv_ite (fun _ => ?_) (fun _ => ?_)
      | with_reducible refine kv_gd ?_
      | with_reducible refine kv_stK ?_ (fun _ _ => ?_)
      | with_reducible refine kv_vK (fun _ => ?_)
      | with_reducible refine kv_lK (fun _ => ?_)
      | with_reducible refine kv_bi ?_ (fun _ _ _ _ => ?_)
      | with_reducible refine hF _ _ _ _ ?_ ?_
      | with_reducible refine kv_rj_Model_makeBy_131 hF ?_ _ _ _ _ _ _ _ _ _ _ _ ?_
      | with_reducible refine kv_rj_Model_makeBy_171 hF  _ _ _ _ _ _ _ ?_
      | with_reducible refine hrec_69 _ _ _ _ _ _ _ _ _ ?_
      | assumption
      | with_reducible refine i104_sI ?_ (by decide)
      | with_reducible refine i104_sJ ?_
      | with_reducible refine i104_sA ?_ (by decide)
      | with_reducible exact kvA_o (by decide) (by decide)
      | decide
theorem kv_rl_Model_makeBy_69 (hF : kvF v F) : ∀ (n : Nat) (T : gSt) (x0 : Int32) (x1 : Int32) (x2 : Int32) (x3 : Int32) (x4 : Int32) (x5 : Int64) (x6 : Int32) (x7 : Int32), I104 v T → kv v (rl_Model_makeBy_69 F nf n T x0 x1 x2 x3 x4 x5 x6 x7) := by
  intro n
  induction n with
  | zero =>
    intro T x0 x1 x2 x3 x4 x5 x6 x7 h
    rw [rl_Model_makeBy_69]
    exact kv_none
  | succ n ih =>
    intro T x0 x1 x2 x3 x4 x5 x6 x7 h
    rw [rl_Model_makeBy_69]
    repeat' first
      | with_reducible exact kv_none
      | with_reducible refine kv_some ?_
      | with_reducible refine kv_ite (fun _ => ?_) (fun _ => ?_)
      | with_reducible refine kv_gd ?_
      | with_reducible refine kv_stK ?_ (fun _ _ => ?_)
      | with_reducible refine kv_vK (fun _ => ?_)
      | with_reducible refine kv_lK (fun _ => ?_)
      | with_reducible refine kv_bi ?_ (fun _ _ _ _ => ?_)
      | with_reducible refine hF _ _ _ _ ?_ ?_
      | with_reducible refine kv_rj_Model_makeBy_86 hF ?_ _ _ _ _ _ _ _ _ _ _ _ ?_
      | with_reducible refine ih _ _ _ _ _ _ _ _ _ ?_
      | assumption
      | with_reducible refine i104_sI ?_ (by decide)
      | with_reducible refine i104_sJ ?_
      | with_reducible refine i104_sA ?_ (by decide)
      | with_reducible exact kvA_o (by decide) (by decide)
      | decide
theorem kv_rj_Model_makeBy_37 (hF : kvF v F) (T : gSt) (x1 : Int32) (x3 : Int32) (x4 : Int32) (x5 : Int32) (y0 : Int32) (h : I104 v T) : kv v (rj_Model_makeBy_37 F nf T x1 x3 x4 x5 y0) := by
    unfold rj_Model_makeBy_37
    repeat' first
      | with_reducible exact kv_none
      | with_reducible refine kv_some ?_
      | with_reducible refine kv_ite (fun _ => ?_) (fun _ => ?_)
      | with_reducible refine kv_gd ?_
      | with_reducible refine kv_stK ?_ (fun _ _ => ?_)
      | with_reducible refine kv_vK (fun _ => ?_)
      | with_reducible refine kv_lK (fun _ => ?_)
      | with_reducible refine kv_bi ?_ (fun _ _ _ _ => ?_)
      | with_reducible refine hF _ _ _ _ ?_ ?_
      | with_reducible refine kv_rl_Model_makeBy_69 hF  _ _ _ _ _ _ _ _ _ _ ?_
      | assumption
      | with_reducible refine i104_sI ?_ (by decide)
      | with_reducible refine i104_sJ ?_
      | with_reducible refine i104_sA ?_ (by decide)
      | with_reducible exact kvA_o (by decide) (by decide)
      | decide
theorem kv_rb_Model_makeBy (hF : kvF v F) (T : gSt) (p1 : Int32) (p2 : Int32) (p3 : Int32) (p4 : Int32) (h : I104 v T) : kv v (rb_Model_makeBy F nf T p1 p2 p3 p4) := by
    unfold rb_Model_makeBy
    repeat' first
      | with_reducible exact kv_none
      | with_reducible refine kv_some ?_
      | with_reducible refine kv_ite (fun _ => ?_) (fun _ => ?_)
      | with_reducible refine kv_gd ?_
      | with_reducible refine kv_stK ?_ (fun _ _ => ?_)
      | with_reducible refine kv_vK (fun _ => ?_)
      | with_reducible refine kv_lK (fun _ => ?_)
      | with_reducible refine kv_bi ?_ (fun _ _ _ _ => ?_)
      | with_reducible refine hF _ _ _ _ ?_ ?_
      | with_reducible refine kv_rj_Model_makeBy_37 hF  _ _ _ _ _ _ ?_
      | assumption
      | with_reducible refine i104_sI ?_ (by decide)
      | with_reducible refine i104_sJ ?_
      | with_reducible refine i104_sA ?_ (by decide)
      | with_reducible exact kvA_o (by decide) (by decide)
      | decide
theorem kv_rl_Model_makeRow_45 (hF : kvF v F) : ∀ (n : Nat) (T : gSt) (x0 : Int32) (x1 : Int32) (x2 : Int32), I104 v T → kv v (rl_Model_makeRow_45 F nf n T x0 x1 x2) := by
  intro n
  induction n with
  | zero =>
    intro T x0 x1 x2 h
    rw [rl_Model_makeRow_45]
    exact kv_none
  | succ n ih =>
    intro T x0 x1 x2 h
    rw [rl_Model_makeRow_45]
    repeat' first
      | with_reducible exact kv_none
      | with_reducible refine kv_some ?_
      | with_reducible refine kv_ite (fun _ => ?_) (fun _ => ?_)
      | with_reducible refine kv_gd ?_
      | with_reducible refine kv_stK ?_ (fun _ _ => ?_)
      | with_reducible refine kv_vK (fun _ => ?_)
      | with_reducible refine kv_lK (fun _ => ?_)
      | with_reducible refine kv_bi ?_ (fun _ _ _ _ => ?_)
      | with_reducible refine hF _ _ _ _ ?_ ?_
      | with_reducible refine ih _ _ _ _ ?_
      | assumption
      | with_reducible refine i104_sI ?_ (by decide)
      | with_reducible refine i104_sJ ?_
      | with_reducible refine i104_sA ?_ (by decide)
      | with_reducible exact kvA_o (by decide) (by decide)
      | decide
theorem kv_rb_Model_makeRow (hF : kvF v F) (T : gSt) (p1 : Int32) (p2 : Int32) (h : I104 v T) : kv v (rb_Model_makeRow F nf T p1 p2) := by
    unfold rb_Model_makeRow
    repeat' first
      | with_reducible exact kv_none
      | with_reducible refine kv_some ?_
      | with_reducible refine kv_ite (fun _ => ?_) (fun _ => ?_)
      | with_reducible refine kv_gd ?_
      | with_reducible refine kv_stK ?_ (fun _ _ => ?_)
      | with_reducible refine kv_vK (fun _ => ?_)
      | with_reducible refine kv_lK (fun _ => ?_)
      | with_reducible refine kv_bi ?_ (fun _ _ _ _ => ?_)
      | with_reducible refine hF _ _ _ _ ?_ ?_
      | with_reducible refine kv_rl_Model_makeRow_45 hF  _ _ _ _ _ ?_
      | assumption
      | with_reducible refine i104_sI ?_ (by decide)
      | with_reducible refine i104_sJ ?_
      | with_reducible refine i104_sA ?_ (by decide)
      | with_reducible exact kvA_o (by decide) (by decide)
      | decide
theorem kv_rj_Model_reckon_170 (hF : kvF v F) (T : gSt) (x2 : Int32) (x3 : Int32) (x4 : Int32) (h : I104 v T) : kv v (rj_Model_reckon_170 F nf T x2 x3 x4) := by
    unfold rj_Model_reckon_170
    repeat' first
      | with_reducible exact kv_none
      | with_reducible refine kv_some ?_
      | with_reducible refine kv_ite (fun _ => ?_) (fun _ => ?_)
      | with_reducible refine kv_gd ?_
      | with_reducible refine kv_stK ?_ (fun _ _ => ?_)
      | with_reducible refine kv_vK (fun _ => ?_)
      | with_reducible refine kv_lK (fun _ => ?_)
      | with_reducible refine kv_bi ?_ (fun _ _ _ _ => ?_)
      | with_reducible refine hF _ _ _ _ ?_ ?_
      | assumption
      | with_reducible refine i104_sI ?_ (by decide)
      | with_reducible refine i104_sJ ?_
      | with_reducible refine i104_sA ?_ (by decide)
      | with_reducible exact kvA_o (by decide) (by decide)
      | decide
theorem kv_rj_Model_reckon_121 (hF : kvF v F) (T : gSt) (x3 : Int32) (y0 : Int32) (h : I104 v T) : kv v (rj_Model_reckon_121 F nf T x3 y0) := by
    unfold rj_Model_reckon_121
    repeat' first
      | with_reducible exact kv_none
      | with_reducible refine kv_some ?_
      | with_reducible refine kv_ite (fun _ => ?_) (fun _ => ?_)
      | with_reducible refine kv_gd ?_
      | with_reducible refine kv_stK ?_ (fun _ _ => ?_)
      | with_reducible refine kv_vK (fun _ => ?_)
      | with_reducible refine kv_lK (fun _ => ?_)
      | with_reducible refine kv_bi ?_ (fun _ _ _ _ => ?_)
      | with_reducible refine hF _ _ _ _ ?_ ?_
      | assumption
      | with_reducible refine i104_sI ?_ (by decide)
      | with_reducible refine i104_sJ ?_
      | with_reducible refine i104_sA ?_ (by decide)
      | with_reducible exact kvA_o (by decide) (by decide)
      | decide
theorem kv_rb_Model_reckon (hF : kvF v F) (T : gSt) (p1 : Int32) (p2 : Int32) (h : I104 v T) : kv v (rb_Model_reckon F nf T p1 p2) := by
    unfold rb_Model_reckon
    repeat' first
      | with_reducible exact kv_none
      | with_reducible refine kv_some ?_
      | with_reducible refine kv_ite (fun _ => ?_) (fun _ => ?_)
      | with_reducible refine kv_gd ?_
      | with_reducible refine kv_stK ?_ (fun _ _ => ?_)
      | with_reducible refine kv_vK (fun _ => ?_)
      | with_reducible refine kv_lK (fun _ => ?_)
      | with_reducible refine kv_bi ?_ (fun _ _ _ _ => ?_)
      | with_reducible refine hF _ _ _ _ ?_ ?_
      | with_reducible refine kv_rj_Model_reckon_121 hF  _ _ _ ?_
      | with_reducible refine kv_rj_Model_reckon_170 hF  _ _ _ _ ?_
      | assumption
      | with_reducible refine i104_sI ?_ (by decide)
      | with_reducible refine i104_sJ ?_
      | with_reducible refine i104_sA ?_ (by decide)
      | with_reducible exact kvA_o (by decide) (by decide)
      | decide
theorem kv_rj_Model_touch_502 (hF : kvF v F) (T : gSt) (x4 : Int32) (x5 : Int32) (x6 : Int32) (h : I104 v T) : kv v (rj_Model_touch_502 F nf T x4 x5 x6) := by
    unfold rj_Model_touch_502
    repeat' first
      | with_reducible exact kv_none
      | with_reducible refine kv_some ?_
      | with_reducible refine kv_ite (fun _ => ?_) (fun _ => ?_)
      | with_reducible refine kv_gd ?_
      | with_reducible refine kv_stK ?_ (fun _ _ => ?_)
      | with_reducible refine kv_vK (fun _ => ?_)
      | with_reducible refine kv_lK (fun _ => ?_)
      | with_reducible refine kv_bi ?_ (fun _ _ _ _ => ?_)
      | with_reducible refine hF _ _ _ _ ?_ ?_
      | assumption
      | with_reducible refine i104_sI ?_ (by decide)
      | with_reducible refine i104_sJ ?_
      | with_reducible refine i104_sA ?_ (by decide)
      | with_reducible exact kvA_o (by decide) (by decide)
      | decide
theorem kv_rj_Model_touch_390 (hF : kvF v F) (T : gSt) (x2 : Int32) (x5 : Int32) (h : I104 v T) : kv v (rj_Model_touch_390 F nf T x2 x5) := by
    unfold rj_Model_touch_390
    repeat' first
      | with_reducible exact kv_none
      | with_reducible refine kv_some ?_
      | with_reducible refine kv_ite (fun _ => ?_) (fun _ => ?_)
      | with_reducible refine kv_gd ?_
      | with_reducible refine kv_stK ?_ (fun _ _ => ?_)
      | with_reducible refine kv_vK (fun _ => ?_)
      | with_reducible refine kv_lK (fun _ => ?_)
      | with_reducible refine kv_bi ?_ (fun _ _ _ _ => ?_)
      | with_reducible refine hF _ _ _ _ ?_ ?_
      | assumption
      | with_reducible refine i104_sI ?_ (by decide)
      | with_reducible refine i104_sJ ?_
      | with_reducible refine i104_sA ?_ (by decide)
      | with_reducible exact kvA_o (by decide) (by decide)
      | decide
theorem kv_rj_Model_touch_207 (hF : kvF v F) (T : gSt) (x1 : Int32) (x7 : Int32) (x8 : Int32) (x9 : Int32) (h : I104 v T) : kv v (rj_Model_touch_207 F nf T x1 x7 x8 x9) := by
    unfold rj_Model_touch_207
    repeat' first
      | with_reducible exact kv_none
      | with_reducible refine kv_some ?_
      | with_reducible refine kv_ite (fun _ => ?_) (fun _ => ?_)
      | with_reducible refine kv_gd ?_
      | with_reducible refine kv_stK ?_ (fun _ _ => ?_)
      | with_reducible refine kv_vK (fun _ => ?_)
      | with_reducible refine kv_lK (fun _ => ?_)
      | with_reducible refine kv_bi ?_ (fun _ _ _ _ => ?_)
      | with_reducible refine hF _ _ _ _ ?_ ?_
      | assumption
      | with_reducible refine i104_sI ?_ (by decide)
      | with_reducible refine i104_sJ ?_
      | with_reducible refine i104_sA ?_ (by decide)
      | with_reducible exact kvA_o (by decide) (by decide)
      | decide
theorem kv_rj_Model_touch_104 (hF : kvF v F) (T : gSt) (x1 : Int32) (x4 : Int32) (h : I104 v T) : kv v (rj_Model_touch_104 F nf T x1 x4) := by
    unfold rj_Model_touch_104
    repeat' first
      | with_reducible exact kv_none
      | with_reducible refine kv_some ?_
      | with_reducible refine kv_ite (fun _ => ?_) (fun _ => ?_)
      | with_reducible refine kv_gd ?_
      | with_reducible refine kv_stK ?_ (fun _ _ => ?_)
      | with_reducible refine kv_vK (fun _ => ?_)
      | with_reducible refine kv_lK (fun _ => ?_)
      | with_reducible refine kv_bi ?_ (fun _ _ _ _ => ?_)
      | with_reducible refine hF _ _ _ _ ?_ ?_
      | with_reducible refine kv_rj_Model_touch_207 hF  _ _ _ _ _ ?_
      | assumption
      | with_reducible refine i104_sI ?_ (by decide)
      | with_reducible refine i104_sJ ?_
      | with_reducible refine i104_sA ?_ (by decide)
      | with_reducible exact kvA_o (by decide) (by decide)
      | decide
theorem kv_rb_Model_touch (hF : kvF v F) (T : gSt) (p1 : Int32) (p2 : Int32) (p3 : Int32) (h : I104 v T) : kv v (rb_Model_touch F nf T p1 p2 p3) := by
    unfold rb_Model_touch
    repeat' first
      | with_reducible exact kv_none
      | with_reducible refine kv_some ?_
      | with_reducible refine kv_ite (fun _ => ?_) (fun _ => ?_)
      | with_reducible refine kv_gd ?_
      | with_reducible refine kv_stK ?_ (fun _ _ => ?_)
      | with_reducible refine kv_vK (fun _ => ?_)
      | with_reducible refine kv_lK (fun _ => ?_)
      | with_reducible refine kv_bi ?_ (fun _ _ _ _ => ?_)
      | with_reducible refine hF _ _ _ _ ?_ ?_
      | with_reducible refine kv_rj_Model_touch_104 hF  _ _ _ ?_
      | with_reducible refine kv_rj_Model_touch_390 hF  _ _ _ ?_
      | with_reducible refine kv_rj_Model_touch_502 hF  _ _ _ _ ?_
      | assumption
      | with_reducible refine i104_sI ?_ (by decide)
      | with_reducible refine i104_sJ ?_
      | with_reducible refine i104_sA ?_ (by decide)
      | with_reducible exact kvA_o (by decide) (by decide)
      | decide
end IVT
def kvL (v : Int32) : List (gSt → List Int32 → List Int64 → gR) → Nat → Prop
  | [], _ => True
  | f :: fs, n => (∀ T a b, I104 v T → kvA n a → kv v (f T a b)) ∧ kvL v fs (n + 1)
section KV1
variable {v : Int32}
theorem kvL_get : ∀ (L : List (gSt → List Int32 → List Int64 → gR)) (n : Nat), kvL v L n → ∀ t T a b, I104 v T → kvA (n + t) a → kv v (L.getD t (fun _ _ _ => none) T a b) := by
  intro L
  induction L with
  | nil => intro n _ t T a b _ _; exact kv_none
  | cons f fs ih =>
    intro n h t T a b hI hA
    cases t with
    | zero => exact h.1 T a b hI hA
    | succ t => exact ih (n + 1) h.2 t T a b hI (by rw [show n + 1 + t = n + (t + 1) by omega]; exact hA)
theorem kv_all {F : gF} {nf : Nat} (hF : kvF v F) : kvL v (rbsM F nf) 0 := by
  unfold rbsM
  refine ⟨fun _ _ _ _ hA => absurd hA.1 (by decide), ?_⟩
  refine ⟨fun _ _ _ _ hA => absurd hA.1 (by decide), ?_⟩
  refine ⟨fun _ _ _ _ hA => absurd hA.1 (by decide), ?_⟩
  refine ⟨fun _ _ _ _ hA => absurd hA.1 (by decide), ?_⟩
  refine ⟨fun _ _ _ _ hA => absurd hA.1 (by decide), ?_⟩
  refine ⟨fun _ _ _ _ hA => absurd hA.1 (by decide), ?_⟩
  refine ⟨fun _ _ _ _ hA => absurd hA.1 (by decide), ?_⟩
  refine ⟨fun _ _ _ _ hA => absurd hA.1 (by decide), ?_⟩
  refine ⟨fun _ _ _ _ hA => absurd hA.1 (by decide), ?_⟩
  refine ⟨fun _ _ _ _ hA => absurd hA.1 (by decide), ?_⟩
  refine ⟨fun _ _ _ _ hA => absurd hA.1 (by decide), ?_⟩
  refine ⟨fun _ _ _ _ hA => absurd hA.1 (by decide), ?_⟩
  refine ⟨fun _ _ _ _ hA => absurd hA.1 (by decide), ?_⟩
  refine ⟨fun _ _ _ _ hA => absurd hA.1 (by decide), ?_⟩
  refine ⟨fun _ _ _ _ hA => absurd hA.1 (by decide), ?_⟩
  refine ⟨fun _ _ _ _ hA => absurd hA.1 (by decide), ?_⟩
  refine ⟨fun _ _ _ _ hA => absurd hA.1 (by decide), ?_⟩
  refine ⟨fun _ _ _ _ hA => absurd hA.1 (by decide), ?_⟩
  refine ⟨fun _ _ _ _ hA => absurd hA.1 (by decide), ?_⟩
  refine ⟨fun _ _ _ _ hA => absurd hA.1 (by decide), ?_⟩
  refine ⟨fun _ _ _ _ hA => absurd hA.1 (by decide), ?_⟩
  refine ⟨fun _ _ _ _ hA => absurd hA.1 (by decide), ?_⟩
  refine ⟨fun _ _ _ _ hA => absurd hA.1 (by decide), ?_⟩
  refine ⟨fun _ _ _ _ hA => absurd hA.1 (by decide), ?_⟩
  refine ⟨fun _ _ _ _ hA => absurd hA.1 (by decide), ?_⟩
  refine ⟨fun _ _ _ _ hA => absurd hA.1 (by decide), ?_⟩
  refine ⟨fun _ _ _ _ hA => absurd hA.1 (by decide), ?_⟩
  refine ⟨fun _ _ _ _ hA => absurd hA.1 (by decide), ?_⟩
  refine ⟨fun _ _ _ _ hA => absurd hA.1 (by decide), ?_⟩
  refine ⟨fun _ _ _ _ hA => absurd hA.1 (by decide), ?_⟩
  refine ⟨fun _ _ _ _ hA => absurd hA.1 (by decide), ?_⟩
  refine ⟨fun _ _ _ _ hA => absurd hA.1 (by decide), ?_⟩
  refine ⟨fun _ _ _ _ hA => absurd hA.1 (by decide), ?_⟩
  refine ⟨fun _ _ _ _ hA => absurd hA.1 (by decide), ?_⟩
  refine ⟨fun _ _ _ _ hA => absurd hA.1 (by decide), ?_⟩
  refine ⟨fun _ _ _ _ hA => absurd hA.1 (by decide), ?_⟩
  refine ⟨fun _ _ _ _ hA => absurd hA.1 (by decide), ?_⟩
  refine ⟨fun _ _ _ _ hA => absurd hA.1 (by decide), ?_⟩
  refine ⟨fun _ _ _ _ hA => absurd hA.1 (by decide), ?_⟩
  refine ⟨fun _ _ _ _ hA => absurd hA.1 (by decide), ?_⟩
  refine ⟨fun _ _ _ _ hA => absurd hA.1 (by decide), ?_⟩
  refine ⟨fun _ _ _ _ hA => absurd hA.1 (by decide), ?_⟩
  refine ⟨fun _ _ _ _ hA => absurd hA.1 (by decide), ?_⟩
  refine ⟨fun _ _ _ _ hA => absurd hA.1 (by decide), ?_⟩
  refine ⟨fun _ _ _ _ hA => absurd hA.1 (by decide), ?_⟩
  refine ⟨fun T a b h _ => kv_rb_Model_isRow hF T _ h, ?_⟩
  refine ⟨fun _ _ _ _ hA => absurd hA.1 (by decide), ?_⟩
  refine ⟨fun _ _ _ _ hA => absurd hA.1 (by decide), ?_⟩
  refine ⟨fun _ _ _ _ hA => absurd hA.1 (by decide), ?_⟩
  refine ⟨fun _ _ _ _ hA => absurd hA.1 (by decide), ?_⟩
  refine ⟨fun _ _ _ _ hA => absurd hA.1 (by decide), ?_⟩
  refine ⟨fun _ _ _ _ hA => absurd hA.1 (by decide), ?_⟩
  refine ⟨fun _ _ _ _ hA => absurd hA.1 (by decide), ?_⟩
  refine ⟨fun _ _ _ _ hA => absurd hA.1 (by decide), ?_⟩
  refine ⟨fun _ _ _ _ hA => absurd hA.1 (by decide), ?_⟩
  refine ⟨fun _ _ _ _ hA => absurd hA.1 (by decide), ?_⟩
  refine ⟨fun _ _ _ _ hA => absurd hA.1 (by decide), ?_⟩
  refine ⟨fun _ _ _ _ hA => absurd hA.1 (by decide), ?_⟩
  refine ⟨fun _ _ _ _ hA => absurd hA.1 (by decide), ?_⟩
  refine ⟨fun _ _ _ _ hA => absurd hA.1 (by decide), ?_⟩
  refine ⟨fun _ _ _ _ hA => absurd hA.1 (by decide), ?_⟩
  refine ⟨fun _ _ _ _ hA => absurd hA.1 (by decide), ?_⟩
  refine ⟨fun _ _ _ _ hA => absurd hA.1 (by decide), ?_⟩
  refine ⟨fun _ _ _ _ hA => absurd hA.1 (by decide), ?_⟩
  refine ⟨fun _ _ _ _ hA => absurd hA.1 (by decide), ?_⟩
  refine ⟨fun _ _ _ _ hA => absurd hA.1 (by decide), ?_⟩
  refine ⟨fun _ _ _ _ hA => absurd hA.1 (by decide), ?_⟩
  refine ⟨fun _ _ _ _ hA => absurd hA.1 (by decide), ?_⟩
  refine ⟨fun _ _ _ _ hA => absurd hA.1 (by decide), ?_⟩
  refine ⟨fun _ _ _ _ hA => absurd hA.1 (by decide), ?_⟩
  refine ⟨fun _ _ _ _ hA => absurd hA.1 (by decide), ?_⟩
  refine ⟨fun _ _ _ _ hA => absurd hA.1 (by decide), ?_⟩
  refine ⟨fun _ _ _ _ hA => absurd hA.1 (by decide), ?_⟩
  refine ⟨fun _ _ _ _ hA => absurd hA.1 (by decide), ?_⟩
  refine ⟨fun _ _ _ _ hA => absurd hA.1 (by decide), ?_⟩
  refine ⟨fun _ _ _ _ hA => absurd hA.1 (by decide), ?_⟩
  refine ⟨fun _ _ _ _ hA => absurd hA.1 (by decide), ?_⟩
  refine ⟨fun _ _ _ _ hA => absurd hA.1 (by decide), ?_⟩
  refine ⟨fun _ _ _ _ hA => absurd hA.1 (by decide), ?_⟩
  refine ⟨fun _ _ _ _ hA => absurd hA.1 (by decide), ?_⟩
  refine ⟨fun _ _ _ _ hA => absurd hA.1 (by decide), ?_⟩
  refine ⟨fun _ _ _ _ hA => absurd hA.1 (by decide), ?_⟩
  refine ⟨fun _ _ _ _ hA => absurd hA.1 (by decide), ?_⟩
  refine ⟨fun _ _ _ _ hA => absurd hA.1 (by decide), ?_⟩
  refine ⟨fun _ _ _ _ hA => absurd hA.1 (by decide), ?_⟩
  refine ⟨fun _ _ _ _ hA => absurd hA.1 (by decide), ?_⟩
  refine ⟨fun _ _ _ _ hA => absurd hA.1 (by decide), ?_⟩
  refine ⟨fun _ _ _ _ hA => absurd hA.1 (by decide), ?_⟩
  refine ⟨fun _ _ _ _ hA => absurd hA.1 (by decide), ?_⟩
  refine ⟨fun _ _ _ _ hA => absurd hA.1 (by decide), ?_⟩
  refine ⟨fun _ _ _ _ hA => absurd hA.1 (by decide), ?_⟩
  refine ⟨fun _ _ _ _ hA => absurd hA.1 (by decide), ?_⟩
  refine ⟨fun _ _ _ _ hA => absurd hA.1 (by decide), ?_⟩
  refine ⟨fun _ _ _ _ hA => absurd hA.1 (by decide), ?_⟩
  refine ⟨fun _ _ _ _ hA => absurd hA.1 (by decide), ?_⟩
  refine ⟨fun _ _ _ _ hA => absurd hA.1 (by decide), ?_⟩
  refine ⟨fun _ _ _ _ hA => absurd hA.1 (by decide), ?_⟩
  refine ⟨fun _ _ _ _ hA => absurd hA.1 (by decide), ?_⟩
  refine ⟨fun _ _ _ _ hA => absurd hA.1 (by decide), ?_⟩
  refine ⟨fun _ _ _ _ hA => absurd hA.1 (by decide), ?_⟩
  refine ⟨fun _ _ _ _ hA => absurd hA.1 (by decide), ?_⟩
  refine ⟨fun _ _ _ _ hA => absurd hA.1 (by decide), ?_⟩
  refine ⟨fun T a b h _ => kv_rb_Model_wordsOf hF T _ h, ?_⟩
  refine ⟨fun _ _ _ _ hA => absurd hA.1 (by decide), ?_⟩
  refine ⟨fun _ _ _ _ hA => absurd hA.1 (by decide), ?_⟩
  refine ⟨fun _ _ _ _ hA => absurd hA.1 (by decide), ?_⟩
  refine ⟨fun T a b h _ => kv_rb_Model_push hF T _ _ _ h, ?_⟩
  refine ⟨fun _ _ _ _ hA => absurd hA.1 (by decide), ?_⟩
  refine ⟨fun T a b h _ => kv_rb_Model_begin hF T _ h, ?_⟩
  refine ⟨fun T a b h _ => kv_rb_Model_shrink hF T _ h, ?_⟩
  refine ⟨fun T a b h _ => kv_rb_Model_make hF T _ _ _ h, ?_⟩
  refine ⟨fun T a b h _ => kv_rb_Model_placeOf hF T _ _ _ h, ?_⟩
  refine ⟨fun T a b h _ => kv_rb_Model_pushPlace hF T _ _ _ h, ?_⟩
  refine ⟨fun T a b h _ => kv_rb_Model_put hF T _ _ _ _ h, ?_⟩
  refine ⟨fun T a b h _ => kv_rb_Model_raise hF T _ h, ?_⟩
  refine ⟨fun T a b h _ => kv_rb_Model_var hF T _ h, ?_⟩
  refine ⟨fun T a b h _ => kv_rb_Model_regionIndex hF T _ h, ?_⟩
  refine ⟨fun _ _ _ _ hA => absurd hA.1 (by decide), ?_⟩
  refine ⟨fun T a b h hA => kv_rb_Model_run_IIII hF T _ _ _ _ h (hA.2 rfl), ?_⟩
  refine ⟨fun T a b h _ => kv_rb_Model_input_ hF T h, ?_⟩
  refine ⟨fun T a b h _ => kv_rb_Model_invoke hF T _ _ h, ?_⟩
  refine ⟨fun T a b h _ => kv_rb_Model_back hF T h, ?_⟩
  refine ⟨fun T a b h _ => kv_rb_Model_makeBy hF T _ _ _ _ h, ?_⟩
  refine ⟨fun T a b h _ => kv_rb_Model_makeRow hF T _ _ h, ?_⟩
  refine ⟨fun T a b h _ => kv_rb_Model_reckon hF T _ _ h, ?_⟩
  refine ⟨fun T a b h _ => kv_rb_Model_touch hF T _ _ _ h, ?_⟩
  refine ⟨fun _ _ _ _ hA => absurd hA.1 (by decide), ?_⟩
  refine ⟨fun _ _ _ _ hA => absurd hA.1 (by decide), ?_⟩
  refine ⟨fun _ _ _ _ hA => absurd hA.1 (by decide), ?_⟩
  refine ⟨fun _ _ _ _ hA => absurd hA.1 (by decide), ?_⟩
  refine ⟨fun _ _ _ _ hA => absurd hA.1 (by decide), ?_⟩
  refine ⟨fun _ _ _ _ hA => absurd hA.1 (by decide), ?_⟩
  refine ⟨fun _ _ _ _ hA => absurd hA.1 (by decide), ?_⟩
  refine ⟨fun _ _ _ _ hA => absurd hA.1 (by decide), ?_⟩
  refine ⟨fun _ _ _ _ hA => absurd hA.1 (by decide), ?_⟩
  refine ⟨fun _ _ _ _ hA => absurd hA.1 (by decide), ?_⟩
  trivial
theorem kv_RR {nf : Nat} : ∀ d, kvF v (RR nf d) := by
  intro d
  induction d with
  | zero => intro t T a b _ _; exact kv_none
  | succ d ih =>
    intro t T a b hI hA
    exact kvL_get _ 0 (kv_all ih) t T a b hI (by rw [Nat.zero_add]; exact hA)
end KV1
/-- steps that print nothing -/
theorem StR.pr {nf d n : Nat} {M M' : gSt} {a : Int32} (h : StR nf d M M') (h102 : M.1 102 0 = nI n) (hn : n < 12000) (hr : (rwC4 M n).1 = a) (ha : ¬ a = 29) : M'.1 104 0 = M.1 104 0 := by
  obtain ⟨n', r, l, e1, e2, e3, e4⟩ := h
  have e0 : n' = n := nI_inj (by omega) (by omega) (by rw [← e1, h102])
  subst e0
  have hr' : M.1 96 n' = a := hr
  refine kv_RR (v := M.1 104 0) (nf := nf) d 118 _ _ _ ?_ ⟨by decide, fun _ => ?_⟩ _ _ _ e4
  · unfold I104
    rw [sI_ne (by omega)]
  · show ¬ M.1 96 n' = 29
    rw [hr']
    exact ha
