/-! a fault's place is none as long as there is no fault: every method of the class keeps it -/
def I54 (T : gSt) : Prop := T.1 53 0 = 0 → T.1 54 0 = -1
def iv (o : gR) : Prop := ∀ r l T', o = some (r, l, T') → I54 T'
def ivA (t : Nat) (a : List Int32) : Prop := (t = 47 → ¬ a.getD 0 0 = 0) ∧ (t = 142 → ¬ a.getD 1 0 = 0)
abbrev ivF (F : gF) : Prop := ∀ t T a b, I54 T → ivA t a → iv (F t T a b)
theorem iv_none : iv none := fun _ _ _ h => by cases h
theorem iv_some {r : Int32} {l : Int64} {T : gSt} (h : I54 T) : iv (some (r, l, T)) := fun _ _ _ e => by
  injection e with e
  injection e with e1 e
  injection e with e2 e3
  rw [← e3]
  exact h
theorem iv_ite {c : Prop} [Decidable c] {a b : gR} (h1 : c → iv a) (h2 : ¬ c → iv b) : iv (if c then a else b) := by
  split
  · exact h1 ‹_›
  · exact h2 ‹_›
theorem iv_gd {c : Prop} [Decidable c] {a : gR} (h1 : iv a) : iv (gd c a) := by
  unfold gd
  split
  · exact h1
  · exact iv_none
theorem iv_stK {T : gSt} {K : gSt → gR} (h : I54 T) (hk : ∀ T, I54 T → iv (K T)) : iv (stK T K) := hk T h
theorem iv_vK {v : Int32} {K : Int32 → gR} (hk : ∀ v, iv (K v)) : iv (vK v K) := hk v
theorem iv_lK {v : Int64} {K : Int64 → gR} (hk : ∀ v, iv (K v)) : iv (lK v K) := hk v
theorem iv_bi {o : gR} {K : Int32 → Int64 → gSt → gR} (h : iv o) (hk : ∀ r l T, I54 T → iv (K r l T)) : iv (bi o K) := by
  cases o with
  | none => exact iv_none
  | some x =>
    obtain ⟨r, l, T⟩ := x
    exact hk r l T (h r l T rfl)
theorem i54_sI {T : gSt} {k j : Nat} {v : Int32} (h : I54 T) (h1 : k ≠ 53) (h2 : k ≠ 54) : I54 (sI T k j v) := fun w => by
  rw [sI_ne (fun e => h1 e.symm)] at w
  rw [sI_ne (fun e => h2 e.symm)]
  exact h w
theorem i54_sJ {T : gSt} {k j : Nat} {v : Int64} (h : I54 T) : I54 (sJ T k j v) := h
theorem i54_sA {T : gSt} {k : Nat} {f : Nat → Int32} (h : I54 T) (h1 : 53 ≠ k) (h2 : 54 ≠ k) : I54 (sA T k f) := fun w => by
  have e1 : (sA T k f).1 53 = T.1 53 := if_neg h1
  have e2 : (sA T k f).1 54 = T.1 54 := if_neg h2
  rw [e1] at w
  rw [e2]
  exact h w
theorem i54_scan {T : gSt} {z : Nat} (h : I54 T) : I54 (scanS T z) := h
theorem ivA_o {t : Nat} {a : List Int32} (h1 : t ≠ 47) (h2 : t ≠ 142) : ivA t a := ⟨fun e => absurd e h1, fun e => absurd e h2⟩
theorem ivA_47 {x : Int32} {a : List Int32} (h : ¬ x = 0) : ivA 47 (x :: a) := ⟨fun _ => h, fun e => absurd e (by decide)⟩
theorem ivA_142 {x y : Int32} {a : List Int32} (h : ¬ y = 0) : ivA 142 (x :: y :: a) := ⟨fun e => absurd e (by decide), fun _ => h⟩
section IVS
variable {F : gF} {nf : Nat}
theorem iv_rb_House_end (hF : ivF F) (T : gSt) (p1 : Int32) (h : I54 T) : iv (rb_House_end F nf T p1) := by
    unfold rb_House_end
    repeat' first
      | with_reducible exact iv_none
      | with_reducible refine iv_some ?_
      | with_reducible refine iv_ite (fun _ => ?_) (fun _ => ?_)
      | with_reducible refine iv_gd ?_
      | with_reducible refine iv_stK ?_ (fun _ _ => ?_)
      | with_reducible refine iv_vK (fun _ => ?_)
      | with_reducible refine iv_lK (fun _ => ?_)
      | with_reducible refine iv_bi ?_ (fun _ _ _ _ => ?_)
      | with_reducible refine hF _ _ _ _ ?_ ?_
      | assumption
      | with_reducible refine i54_sI ?_ (by decide) (by decide)
      | with_reducible refine i54_sJ ?_
      | with_reducible refine i54_sA ?_ (by decide) (by decide)
      | with_reducible exact ivA_o (by decide) (by decide)
      | with_reducible refine ivA_47 ?_
      | with_reducible refine ivA_142 ?_
      | decide
theorem iv_rj_House_build_75 (hF : ivF F) (T : gSt) (h : I54 T) : iv (rj_House_build_75 F nf T) := by
    unfold rj_House_build_75
    repeat' first
      | with_reducible exact iv_none
      | with_reducible refine iv_some ?_
      | with_reducible refine iv_ite (fun _ => ?_) (fun _ => ?_)
      | with_reducible refine iv_gd ?_
      | with_reducible refine iv_stK ?_ (fun _ _ => ?_)
      | with_reducible refine iv_vK (fun _ => ?_)
      | with_reducible refine iv_lK (fun _ => ?_)
      | with_reducible refine iv_bi ?_ (fun _ _ _ _ => ?_)
      | with_reducible refine hF _ _ _ _ ?_ ?_
      | assumption
      | with_reducible refine i54_sI ?_ (by decide) (by decide)
      | with_reducible refine i54_sJ ?_
      | with_reducible refine i54_sA ?_ (by decide) (by decide)
      | with_reducible exact ivA_o (by decide) (by decide)
      | with_reducible refine ivA_47 ?_
      | with_reducible refine ivA_142 ?_
      | decide
theorem iv_rb_House_build (hF : ivF F) (T : gSt) (h : I54 T) : iv (rb_House_build F nf T) := by
    unfold rb_House_build
    repeat' first
      | with_reducible exact iv_none
      | with_reducible refine iv_some ?_
      | with_reducible refine iv_ite (fun _ => ?_) (fun _ => ?_)
      | with_reducible refine iv_gd ?_
      | with_reducible refine iv_stK ?_ (fun _ _ => ?_)
      | with_reducible refine iv_vK (fun _ => ?_)
      | with_reducible refine iv_lK (fun _ => ?_)
      | with_reducible refine iv_bi ?_ (fun _ _ _ _ => ?_)
      | with_reducible refine hF _ _ _ _ ?_ ?_
      | with_reducible refine iv_rj_House_build_75 hF  _  ?_
      | assumption
      | with_reducible refine i54_sI ?_ (by decide) (by decide)
      | with_reducible refine i54_sJ ?_
      | with_reducible refine i54_sA ?_ (by decide) (by decide)
      | with_reducible exact ivA_o (by decide) (by decide)
      | with_reducible refine ivA_47 ?_
      | with_reducible refine ivA_142 ?_
      | decide
theorem iv_rb_House_fault (hF : ivF F) (T : gSt) (p1 : Int32) (h : I54 T) : iv (rb_House_fault F nf T p1) := by
    unfold rb_House_fault
    repeat' first
      | with_reducible exact iv_none
      | with_reducible refine iv_some ?_
      | with_reducible refine iv_ite (fun _ => ?_) (fun _ => ?_)
      | with_reducible refine iv_gd ?_
      | with_reducible refine iv_stK ?_ (fun _ _ => ?_)
      | with_reducible refine iv_vK (fun _ => ?_)
      | with_reducible refine iv_lK (fun _ => ?_)
      | with_reducible refine iv_bi ?_ (fun _ _ _ _ => ?_)
      | with_reducible refine hF _ _ _ _ ?_ ?_
      | assumption
      | with_reducible refine i54_sI ?_ (by decide) (by decide)
      | with_reducible refine i54_sJ ?_
      | with_reducible refine i54_sA ?_ (by decide) (by decide)
      | with_reducible exact ivA_o (by decide) (by decide)
      | with_reducible refine ivA_47 ?_
      | with_reducible refine ivA_142 ?_
      | decide
theorem iv_rb_House_program (hF : ivF F) (T : gSt) (p1 : Int32) (h : I54 T) : iv (rb_House_program F nf T p1) := by
    unfold rb_House_program
    repeat' first
      | with_reducible exact iv_none
      | with_reducible refine iv_some ?_
      | with_reducible refine iv_ite (fun _ => ?_) (fun _ => ?_)
      | with_reducible refine iv_gd ?_
      | with_reducible refine iv_stK ?_ (fun _ _ => ?_)
      | with_reducible refine iv_vK (fun _ => ?_)
      | with_reducible refine iv_lK (fun _ => ?_)
      | with_reducible refine iv_bi ?_ (fun _ _ _ _ => ?_)
      | with_reducible refine hF _ _ _ _ ?_ ?_
      | assumption
      | with_reducible refine i54_sI ?_ (by decide) (by decide)
      | with_reducible refine i54_sJ ?_
      | with_reducible refine i54_sA ?_ (by decide) (by decide)
      | with_reducible exact ivA_o (by decide) (by decide)
      | with_reducible refine ivA_47 ?_
      | with_reducible refine ivA_142 ?_
      | decide
theorem iv_rb_House_start (hF : ivF F) (T : gSt) (p1 : Int32) (p2 : Int32) (h : I54 T) : iv (rb_House_start F nf T p1 p2) := by
    unfold rb_House_start
    repeat' first
      | with_reducible exact iv_none
      | with_reducible refine iv_some ?_
      | with_reducible refine iv_ite (fun _ => ?_) (fun _ => ?_)
      | with_reducible refine iv_gd ?_
      | with_reducible refine iv_stK ?_ (fun _ _ => ?_)
      | with_reducible refine iv_vK (fun _ => ?_)
      | with_reducible refine iv_lK (fun _ => ?_)
      | with_reducible refine iv_bi ?_ (fun _ _ _ _ => ?_)
      | with_reducible refine hF _ _ _ _ ?_ ?_
      | assumption
      | with_reducible refine i54_sI ?_ (by decide) (by decide)
      | with_reducible refine i54_sJ ?_
      | with_reducible refine i54_sA ?_ (by decide) (by decide)
      | with_reducible exact ivA_o (by decide) (by decide)
      | with_reducible refine ivA_47 ?_
      | with_reducible refine ivA_142 ?_
      | decide
theorem iv_rb_House_input (hF : ivF F) (T : gSt) (p1 : Int32) (h : I54 T) : iv (rb_House_input F nf T p1) := by
    unfold rb_House_input
    repeat' first
      | with_reducible exact iv_none
      | with_reducible refine iv_some ?_
      | with_reducible refine iv_ite (fun _ => ?_) (fun _ => ?_)
      | with_reducible refine iv_gd ?_
      | with_reducible refine iv_stK ?_ (fun _ _ => ?_)
      | with_reducible refine iv_vK (fun _ => ?_)
      | with_reducible refine iv_lK (fun _ => ?_)
      | with_reducible refine iv_bi ?_ (fun _ _ _ _ => ?_)
      | with_reducible refine hF _ _ _ _ ?_ ?_
      | assumption
      | with_reducible refine i54_sI ?_ (by decide) (by decide)
      | with_reducible refine i54_sJ ?_
      | with_reducible refine i54_sA ?_ (by decide) (by decide)
      | with_reducible exact ivA_o (by decide) (by decide)
      | with_reducible refine ivA_47 ?_
      | with_reducible refine ivA_142 ?_
      | decide
theorem iv_rb_House_run (hF : ivF F) (T : gSt) (p1 : Int32) (h : I54 T) : iv (rb_House_run F nf T p1) := by
    unfold rb_House_run
    repeat' first
      | with_reducible exact iv_none
      | with_reducible refine iv_some ?_
      | with_reducible refine iv_ite (fun _ => ?_) (fun _ => ?_)
      | with_reducible refine iv_gd ?_
      | with_reducible refine iv_stK ?_ (fun _ _ => ?_)
      | with_reducible refine iv_vK (fun _ => ?_)
      | with_reducible refine iv_lK (fun _ => ?_)
      | with_reducible refine iv_bi ?_ (fun _ _ _ _ => ?_)
      | with_reducible refine hF _ _ _ _ ?_ ?_
      | assumption
      | with_reducible refine i54_sI ?_ (by decide) (by decide)
      | with_reducible refine i54_sJ ?_
      | with_reducible refine i54_sA ?_ (by decide) (by decide)
      | with_reducible exact ivA_o (by decide) (by decide)
      | with_reducible refine ivA_47 ?_
      | with_reducible refine ivA_142 ?_
      | decide
theorem iv_rb_House_state (hF : ivF F) (T : gSt) (p1 : Int32) (h : I54 T) : iv (rb_House_state F nf T p1) := by
    unfold rb_House_state
    repeat' first
      | with_reducible exact iv_none
      | with_reducible refine iv_some ?_
      | with_reducible refine iv_ite (fun _ => ?_) (fun _ => ?_)
      | with_reducible refine iv_gd ?_
      | with_reducible refine iv_stK ?_ (fun _ _ => ?_)
      | with_reducible refine iv_vK (fun _ => ?_)
      | with_reducible refine iv_lK (fun _ => ?_)
      | with_reducible refine iv_bi ?_ (fun _ _ _ _ => ?_)
      | with_reducible refine hF _ _ _ _ ?_ ?_
      | assumption
      | with_reducible refine i54_sI ?_ (by decide) (by decide)
      | with_reducible refine i54_sJ ?_
      | with_reducible refine i54_sA ?_ (by decide) (by decide)
      | with_reducible exact ivA_o (by decide) (by decide)
      | with_reducible refine ivA_47 ?_
      | with_reducible refine ivA_142 ?_
      | decide
theorem iv_rb_House_world (hF : ivF F) (T : gSt) (p1 : Int32) (h : I54 T) : iv (rb_House_world F nf T p1) := by
    unfold rb_House_world
    repeat' first
      | with_reducible exact iv_none
      | with_reducible refine iv_some ?_
      | with_reducible refine iv_ite (fun _ => ?_) (fun _ => ?_)
      | with_reducible refine iv_gd ?_
      | with_reducible refine iv_stK ?_ (fun _ _ => ?_)
      | with_reducible refine iv_vK (fun _ => ?_)
      | with_reducible refine iv_lK (fun _ => ?_)
      | with_reducible refine iv_bi ?_ (fun _ _ _ _ => ?_)
      | with_reducible refine hF _ _ _ _ ?_ ?_
      | assumption
      | with_reducible refine i54_sI ?_ (by decide) (by decide)
      | with_reducible refine i54_sJ ?_
      | with_reducible refine i54_sA ?_ (by decide) (by decide)
      | with_reducible exact ivA_o (by decide) (by decide)
      | with_reducible refine ivA_47 ?_
      | with_reducible refine ivA_142 ?_
      | decide
theorem iv_rb_House_region (hF : ivF F) (T : gSt) (p1 : Int32) (p2 : Int32) (h : I54 T) : iv (rb_House_region F nf T p1 p2) := by
    unfold rb_House_region
    repeat' first
      | with_reducible exact iv_none
      | with_reducible refine iv_some ?_
      | with_reducible refine iv_ite (fun _ => ?_) (fun _ => ?_)
      | with_reducible refine iv_gd ?_
      | with_reducible refine iv_stK ?_ (fun _ _ => ?_)
      | with_reducible refine iv_vK (fun _ => ?_)
      | with_reducible refine iv_lK (fun _ => ?_)
      | with_reducible refine iv_bi ?_ (fun _ _ _ _ => ?_)
      | with_reducible refine hF _ _ _ _ ?_ ?_
      | assumption
      | with_reducible refine i54_sI ?_ (by decide) (by decide)
      | with_reducible refine i54_sJ ?_
      | with_reducible refine i54_sA ?_ (by decide) (by decide)
      | with_reducible exact ivA_o (by decide) (by decide)
      | with_reducible refine ivA_47 ?_
      | with_reducible refine ivA_142 ?_
      | decide
theorem iv_rb_House_printed (hF : ivF F) (T : gSt) (p1 : Int32) (h : I54 T) : iv (rb_House_printed F nf T p1) := by
    unfold rb_House_printed
    repeat' first
      | with_reducible exact iv_none
      | with_reducible refine iv_some ?_
      | with_reducible refine iv_ite (fun _ => ?_) (fun _ => ?_)
      | with_reducible refine iv_gd ?_
      | with_reducible refine iv_stK ?_ (fun _ _ => ?_)
      | with_reducible refine iv_vK (fun _ => ?_)
      | with_reducible refine iv_lK (fun _ => ?_)
      | with_reducible refine iv_bi ?_ (fun _ _ _ _ => ?_)
      | with_reducible refine hF _ _ _ _ ?_ ?_
      | assumption
      | with_reducible refine i54_sI ?_ (by decide) (by decide)
      | with_reducible refine i54_sJ ?_
      | with_reducible refine i54_sA ?_ (by decide) (by decide)
      | with_reducible exact ivA_o (by decide) (by decide)
      | with_reducible refine ivA_47 ?_
      | with_reducible refine ivA_142 ?_
      | decide
theorem iv_rb_Source_kindAt (hF : ivF F) (T : gSt) (p1 : Int32) (h : I54 T) : iv (rb_Source_kindAt F nf T p1) := by
    unfold rb_Source_kindAt
    repeat' first
      | with_reducible exact iv_none
      | with_reducible refine iv_some ?_
      | with_reducible refine iv_ite (fun _ => ?_) (fun _ => ?_)
      | with_reducible refine iv_gd ?_
      | with_reducible refine iv_stK ?_ (fun _ _ => ?_)
      | with_reducible refine iv_vK (fun _ => ?_)
      | with_reducible refine iv_lK (fun _ => ?_)
      | with_reducible refine iv_bi ?_ (fun _ _ _ _ => ?_)
      | with_reducible refine hF _ _ _ _ ?_ ?_
      | assumption
      | with_reducible refine i54_sI ?_ (by decide) (by decide)
      | with_reducible refine i54_sJ ?_
      | with_reducible refine i54_sA ?_ (by decide) (by decide)
      | with_reducible exact ivA_o (by decide) (by decide)
      | with_reducible refine ivA_47 ?_
      | with_reducible refine ivA_142 ?_
      | decide
theorem iv_rb_Source_startOf (hF : ivF F) (T : gSt) (p1 : Int32) (h : I54 T) : iv (rb_Source_startOf F nf T p1) := by
    unfold rb_Source_startOf
    repeat' first
      | with_reducible exact iv_none
      | with_reducible refine iv_some ?_
      | with_reducible refine iv_ite (fun _ => ?_) (fun _ => ?_)
      | with_reducible refine iv_gd ?_
      | with_reducible refine iv_stK ?_ (fun _ _ => ?_)
      | with_reducible refine iv_vK (fun _ => ?_)
      | with_reducible refine iv_lK (fun _ => ?_)
      | with_reducible refine iv_bi ?_ (fun _ _ _ _ => ?_)
      | with_reducible refine hF _ _ _ _ ?_ ?_
      | assumption
      | with_reducible refine i54_sI ?_ (by decide) (by decide)
      | with_reducible refine i54_sJ ?_
      | with_reducible refine i54_sA ?_ (by decide) (by decide)
      | with_reducible exact ivA_o (by decide) (by decide)
      | with_reducible refine ivA_47 ?_
      | with_reducible refine ivA_142 ?_
      | decide
theorem iv_rb_Source_nameAt (hF : ivF F) (T : gSt) (p1 : Int32) (h : I54 T) : iv (rb_Source_nameAt F nf T p1) := by
    unfold rb_Source_nameAt
    repeat' first
      | with_reducible exact iv_none
      | with_reducible refine iv_some ?_
      | with_reducible refine iv_ite (fun _ => ?_) (fun _ => ?_)
      | with_reducible refine iv_gd ?_
      | with_reducible refine iv_stK ?_ (fun _ _ => ?_)
      | with_reducible refine iv_vK (fun _ => ?_)
      | with_reducible refine iv_lK (fun _ => ?_)
      | with_reducible refine iv_bi ?_ (fun _ _ _ _ => ?_)
      | with_reducible refine hF _ _ _ _ ?_ ?_
      | assumption
      | with_reducible refine i54_sI ?_ (by decide) (by decide)
      | with_reducible refine i54_sJ ?_
      | with_reducible refine i54_sA ?_ (by decide) (by decide)
      | with_reducible exact ivA_o (by decide) (by decide)
      | with_reducible refine ivA_47 ?_
      | with_reducible refine ivA_142 ?_
      | decide
theorem iv_rb_Source_addNode (hF : ivF F) (T : gSt) (p1 : Int32) (p2 : Int32) (h : I54 T) : iv (rb_Source_addNode F nf T p1 p2) := by
    unfold rb_Source_addNode
    repeat' first
      | with_reducible exact iv_none
      | with_reducible refine iv_some ?_
      | with_reducible refine iv_ite (fun _ => ?_) (fun _ => ?_)
      | with_reducible refine iv_gd ?_
      | with_reducible refine iv_stK ?_ (fun _ _ => ?_)
      | with_reducible refine iv_vK (fun _ => ?_)
      | with_reducible refine iv_lK (fun _ => ?_)
      | with_reducible refine iv_bi ?_ (fun _ _ _ _ => ?_)
      | with_reducible refine hF _ _ _ _ ?_ ?_
      | assumption
      | with_reducible refine i54_sI ?_ (by decide) (by decide)
      | with_reducible refine i54_sJ ?_
      | with_reducible refine i54_sA ?_ (by decide) (by decide)
      | with_reducible exact ivA_o (by decide) (by decide)
      | with_reducible refine ivA_47 ?_
      | with_reducible refine ivA_142 ?_
      | decide
theorem iv_rl_Source_bare_4 (hF : ivF F) : ∀ (n : Nat) (T : gSt) (x0 : Int32) (x1 : Int32), I54 T → iv (rl_Source_bare_4 F nf n T x0 x1) := by
  intro n
  induction n with
  | zero =>
    intro T x0 x1 h
    rw [rl_Source_bare_4]
    exact iv_none
  | succ n ih =>
    intro T x0 x1 h
    rw [rl_Source_bare_4]
    repeat' first
      | with_reducible exact iv_none
      | with_reducible refine iv_some ?_
      | with_reducible refine iv_ite (fun _ => ?_) (fun _ => ?_)
      | with_reducible refine iv_gd ?_
      | with_reducible refine iv_stK ?_ (fun _ _ => ?_)
      | with_reducible refine iv_vK (fun _ => ?_)
      | with_reducible refine iv_lK (fun _ => ?_)
      | with_reducible refine iv_bi ?_ (fun _ _ _ _ => ?_)
      | with_reducible refine hF _ _ _ _ ?_ ?_
      | with_reducible refine ih _ _ _ ?_
      | assumption
      | with_reducible refine i54_sI ?_ (by decide) (by decide)
      | with_reducible refine i54_sJ ?_
      | with_reducible refine i54_sA ?_ (by decide) (by decide)
      | with_reducible exact ivA_o (by decide) (by decide)
      | with_reducible refine ivA_47 ?_
      | with_reducible refine ivA_142 ?_
      | decide
theorem iv_rb_Source_bare (hF : ivF F) (T : gSt) (p1 : Int32) (h : I54 T) : iv (rb_Source_bare F nf T p1) := by
    unfold rb_Source_bare
    repeat' first
      | with_reducible exact iv_none
      | with_reducible refine iv_some ?_
      | with_reducible refine iv_ite (fun _ => ?_) (fun _ => ?_)
      | with_reducible refine iv_gd ?_
      | with_reducible refine iv_stK ?_ (fun _ _ => ?_)
      | with_reducible refine iv_vK (fun _ => ?_)
      | with_reducible refine iv_lK (fun _ => ?_)
      | with_reducible refine iv_bi ?_ (fun _ _ _ _ => ?_)
      | with_reducible refine hF _ _ _ _ ?_ ?_
      | with_reducible refine iv_rl_Source_bare_4 hF  _ _ _ _ ?_
      | assumption
      | with_reducible refine i54_sI ?_ (by decide) (by decide)
      | with_reducible refine i54_sJ ?_
      | with_reducible refine i54_sA ?_ (by decide) (by decide)
      | with_reducible exact ivA_o (by decide) (by decide)
      | with_reducible refine ivA_47 ?_
      | with_reducible refine ivA_142 ?_
      | decide
theorem iv_rb_Source_bareTerm (hF : ivF F) (T : gSt) (p1 : Int32) (h : I54 T) : iv (rb_Source_bareTerm F nf T p1) := by
    unfold rb_Source_bareTerm
    repeat' first
      | with_reducible exact iv_none
      | with_reducible refine iv_some ?_
      | with_reducible refine iv_ite (fun _ => ?_) (fun _ => ?_)
      | with_reducible refine iv_gd ?_
      | with_reducible refine iv_stK ?_ (fun _ _ => ?_)
      | with_reducible refine iv_vK (fun _ => ?_)
      | with_reducible refine iv_lK (fun _ => ?_)
      | with_reducible refine iv_bi ?_ (fun _ _ _ _ => ?_)
      | with_reducible refine hF _ _ _ _ ?_ ?_
      | assumption
      | with_reducible refine i54_sI ?_ (by decide) (by decide)
      | with_reducible refine i54_sJ ?_
      | with_reducible refine i54_sA ?_ (by decide) (by decide)
      | with_reducible exact ivA_o (by decide) (by decide)
      | with_reducible refine ivA_47 ?_
      | with_reducible refine ivA_142 ?_
      | decide
theorem iv_rb_Source_isBareParen (hF : ivF F) (T : gSt) (p1 : Int32) (h : I54 T) : iv (rb_Source_isBareParen F nf T p1) := by
    unfold rb_Source_isBareParen
    repeat' first
      | with_reducible exact iv_none
      | with_reducible refine iv_some ?_
      | with_reducible refine iv_ite (fun _ => ?_) (fun _ => ?_)
      | with_reducible refine iv_gd ?_
      | with_reducible refine iv_stK ?_ (fun _ _ => ?_)
      | with_reducible refine iv_vK (fun _ => ?_)
      | with_reducible refine iv_lK (fun _ => ?_)
      | with_reducible refine iv_bi ?_ (fun _ _ _ _ => ?_)
      | with_reducible refine hF _ _ _ _ ?_ ?_
      | assumption
      | with_reducible refine i54_sI ?_ (by decide) (by decide)
      | with_reducible refine i54_sJ ?_
      | with_reducible refine i54_sA ?_ (by decide) (by decide)
      | with_reducible exact ivA_o (by decide) (by decide)
      | with_reducible refine ivA_47 ?_
      | with_reducible refine ivA_142 ?_
      | decide
theorem iv_rl_Source_lastTail_12 (hF : ivF F) : ∀ (n : Nat) (T : gSt) (x0 : Int32) (x1 : Int32) (x2 : Int32), I54 T → iv (rl_Source_lastTail_12 F nf n T x0 x1 x2) := by
  intro n
  induction n with
  | zero =>
    intro T x0 x1 x2 h
    rw [rl_Source_lastTail_12]
    exact iv_none
  | succ n ih =>
    intro T x0 x1 x2 h
    rw [rl_Source_lastTail_12]
    repeat' first
      | with_reducible exact iv_none
      | with_reducible refine iv_some ?_
      | with_reducible refine iv_ite (fun _ => ?_) (fun _ => ?_)
      | with_reducible refine iv_gd ?_
      | with_reducible refine iv_stK ?_ (fun _ _ => ?_)
      | with_reducible refine iv_vK (fun _ => ?_)
      | with_reducible refine iv_lK (fun _ => ?_)
      | with_reducible refine iv_bi ?_ (fun _ _ _ _ => ?_)
      | with_reducible refine hF _ _ _ _ ?_ ?_
      | with_reducible refine ih _ _ _ _ ?_
      | assumption
      | with_reducible refine i54_sI ?_ (by decide) (by decide)
      | with_reducible refine i54_sJ ?_
      | with_reducible refine i54_sA ?_ (by decide) (by decide)
      | with_reducible exact ivA_o (by decide) (by decide)
      | with_reducible refine ivA_47 ?_
      | with_reducible refine ivA_142 ?_
      | decide
theorem iv_rb_Source_lastTail (hF : ivF F) (T : gSt) (p1 : Int32) (h : I54 T) : iv (rb_Source_lastTail F nf T p1) := by
    unfold rb_Source_lastTail
    repeat' first
      | with_reducible exact iv_none
      | with_reducible refine iv_some ?_
      | with_reducible refine iv_ite (fun _ => ?_) (fun _ => ?_)
      | with_reducible refine iv_gd ?_
      | with_reducible refine iv_stK ?_ (fun _ _ => ?_)
      | with_reducible refine iv_vK (fun _ => ?_)
      | with_reducible refine iv_lK (fun _ => ?_)
      | with_reducible refine iv_bi ?_ (fun _ _ _ _ => ?_)
      | with_reducible refine hF _ _ _ _ ?_ ?_
      | with_reducible refine iv_rl_Source_lastTail_12 hF  _ _ _ _ _ ?_
      | assumption
      | with_reducible refine i54_sI ?_ (by decide) (by decide)
      | with_reducible refine i54_sJ ?_
      | with_reducible refine i54_sA ?_ (by decide) (by decide)
      | with_reducible exact ivA_o (by decide) (by decide)
      | with_reducible refine ivA_47 ?_
      | with_reducible refine ivA_142 ?_
      | decide
theorem iv_rl_Source_beginOf_4 (hF : ivF F) : ∀ (n : Nat) (T : gSt) (x0 : Int32) (x1 : Int32), I54 T → iv (rl_Source_beginOf_4 F nf n T x0 x1) := by
  intro n
  induction n with
  | zero =>
    intro T x0 x1 h
    rw [rl_Source_beginOf_4]
    exact iv_none
  | succ n ih =>
    intro T x0 x1 h
    rw [rl_Source_beginOf_4]
    repeat' first
      | with_reducible exact iv_none
      | with_reducible refine iv_some ?_
      | with_reducible refine iv_ite (fun _ => ?_) (fun _ => ?_)
      | with_reducible refine iv_gd ?_
      | with_reducible refine iv_stK ?_ (fun _ _ => ?_)
      | with_reducible refine iv_vK (fun _ => ?_)
      | with_reducible refine iv_lK (fun _ => ?_)
      | with_reducible refine iv_bi ?_ (fun _ _ _ _ => ?_)
      | with_reducible refine hF _ _ _ _ ?_ ?_
      | with_reducible refine ih _ _ _ ?_
      | assumption
      | with_reducible refine i54_sI ?_ (by decide) (by decide)
      | with_reducible refine i54_sJ ?_
      | with_reducible refine i54_sA ?_ (by decide) (by decide)
      | with_reducible exact ivA_o (by decide) (by decide)
      | with_reducible refine ivA_47 ?_
      | with_reducible refine ivA_142 ?_
      | decide
theorem iv_rb_Source_beginOf (hF : ivF F) (T : gSt) (p1 : Int32) (h : I54 T) : iv (rb_Source_beginOf F nf T p1) := by
    unfold rb_Source_beginOf
    repeat' first
      | with_reducible exact iv_none
      | with_reducible refine iv_some ?_
      | with_reducible refine iv_ite (fun _ => ?_) (fun _ => ?_)
      | with_reducible refine iv_gd ?_
      | with_reducible refine iv_stK ?_ (fun _ _ => ?_)
      | with_reducible refine iv_vK (fun _ => ?_)
      | with_reducible refine iv_lK (fun _ => ?_)
      | with_reducible refine iv_bi ?_ (fun _ _ _ _ => ?_)
      | with_reducible refine hF _ _ _ _ ?_ ?_
      | with_reducible refine iv_rl_Source_beginOf_4 hF  _ _ _ _ ?_
      | assumption
      | with_reducible refine i54_sI ?_ (by decide) (by decide)
      | with_reducible refine i54_sJ ?_
      | with_reducible refine i54_sA ?_ (by decide) (by decide)
      | with_reducible exact ivA_o (by decide) (by decide)
      | with_reducible refine ivA_47 ?_
      | with_reducible refine ivA_142 ?_
      | decide
theorem iv_rl_Source_countPeers_7 (hF : ivF F) : ∀ (n : Nat) (T : gSt) (x0 : Int32) (x1 : Int32) (x2 : Int32), I54 T → iv (rl_Source_countPeers_7 F nf n T x0 x1 x2) := by
  intro n
  induction n with
  | zero =>
    intro T x0 x1 x2 h
    rw [rl_Source_countPeers_7]
    exact iv_none
  | succ n ih =>
    intro T x0 x1 x2 h
    rw [rl_Source_countPeers_7]
    repeat' first
      | with_reducible exact iv_none
      | with_reducible refine iv_some ?_
      | with_reducible refine iv_ite (fun _ => ?_) (fun _ => ?_)
      | with_reducible refine iv_gd ?_
      | with_reducible refine iv_stK ?_ (fun _ _ => ?_)
      | with_reducible refine iv_vK (fun _ => ?_)
      | with_reducible refine iv_lK (fun _ => ?_)
      | with_reducible refine iv_bi ?_ (fun _ _ _ _ => ?_)
      | with_reducible refine hF _ _ _ _ ?_ ?_
      | with_reducible refine ih _ _ _ _ ?_
      | assumption
      | with_reducible refine i54_sI ?_ (by decide) (by decide)
      | with_reducible refine i54_sJ ?_
      | with_reducible refine i54_sA ?_ (by decide) (by decide)
      | with_reducible exact ivA_o (by decide) (by decide)
      | with_reducible refine ivA_47 ?_
      | with_reducible refine ivA_142 ?_
      | decide
theorem iv_rb_Source_countPeers (hF : ivF F) (T : gSt) (p1 : Int32) (h : I54 T) : iv (rb_Source_countPeers F nf T p1) := by
    unfold rb_Source_countPeers
    repeat' first
      | with_reducible exact iv_none
      | with_reducible refine iv_some ?_
      | with_reducible refine iv_ite (fun _ => ?_) (fun _ => ?_)
      | with_reducible refine iv_gd ?_
      | with_reducible refine iv_stK ?_ (fun _ _ => ?_)
      | with_reducible refine iv_vK (fun _ => ?_)
      | with_reducible refine iv_lK (fun _ => ?_)
      | with_reducible refine iv_bi ?_ (fun _ _ _ _ => ?_)
      | with_reducible refine hF _ _ _ _ ?_ ?_
      | with_reducible refine iv_rl_Source_countPeers_7 hF  _ _ _ _ _ ?_
      | assumption
      | with_reducible refine i54_sI ?_ (by decide) (by decide)
      | with_reducible refine i54_sJ ?_
      | with_reducible refine i54_sA ?_ (by decide) (by decide)
      | with_reducible exact ivA_o (by decide) (by decide)
      | with_reducible refine ivA_47 ?_
      | with_reducible refine ivA_142 ?_
      | decide
theorem iv_rl_Source_countRegions_2 (hF : ivF F) : ∀ (n : Nat) (T : gSt) (x0 : Int32) (x1 : Int32), I54 T → iv (rl_Source_countRegions_2 F nf n T x0 x1) := by
  intro n
  induction n with
  | zero =>
    intro T x0 x1 h
    rw [rl_Source_countRegions_2]
    exact iv_none
  | succ n ih =>
    intro T x0 x1 h
    rw [rl_Source_countRegions_2]
    repeat' first
      | with_reducible exact iv_none
      | with_reducible refine iv_some ?_
      | with_reducible refine iv_ite (fun _ => ?_) (fun _ => ?_)
      | with_reducible refine iv_gd ?_
      | with_reducible refine iv_stK ?_ (fun _ _ => ?_)
      | with_reducible refine iv_vK (fun _ => ?_)
      | with_reducible refine iv_lK (fun _ => ?_)
      | with_reducible refine iv_bi ?_ (fun _ _ _ _ => ?_)
      | with_reducible refine hF _ _ _ _ ?_ ?_
      | with_reducible refine ih _ _ _ ?_
      | assumption
      | with_reducible refine i54_sI ?_ (by decide) (by decide)
      | with_reducible refine i54_sJ ?_
      | with_reducible refine i54_sA ?_ (by decide) (by decide)
      | with_reducible exact ivA_o (by decide) (by decide)
      | with_reducible refine ivA_47 ?_
      | with_reducible refine ivA_142 ?_
      | decide
theorem iv_rb_Source_countRegions (hF : ivF F) (T : gSt) (p1 : Int32) (h : I54 T) : iv (rb_Source_countRegions F nf T p1) := by
    unfold rb_Source_countRegions
    repeat' first
      | with_reducible exact iv_none
      | with_reducible refine iv_some ?_
      | with_reducible refine iv_ite (fun _ => ?_) (fun _ => ?_)
      | with_reducible refine iv_gd ?_
      | with_reducible refine iv_stK ?_ (fun _ _ => ?_)
      | with_reducible refine iv_vK (fun _ => ?_)
      | with_reducible refine iv_lK (fun _ => ?_)
      | with_reducible refine iv_bi ?_ (fun _ _ _ _ => ?_)
      | with_reducible refine hF _ _ _ _ ?_ ?_
      | with_reducible refine iv_rl_Source_countRegions_2 hF  _ _ _ _ ?_
      | assumption
      | with_reducible refine i54_sI ?_ (by decide) (by decide)
      | with_reducible refine i54_sJ ?_
      | with_reducible refine i54_sA ?_ (by decide) (by decide)
      | with_reducible exact ivA_o (by decide) (by decide)
      | with_reducible refine ivA_47 ?_
      | with_reducible refine ivA_142 ?_
      | decide
theorem iv_rb_Items_tokOfPart (hF : ivF F) (T : gSt) (p1 : Int32) (p2 : Int32) (h : I54 T) : iv (rb_Items_tokOfPart F nf T p1 p2) := by
    unfold rb_Items_tokOfPart
    repeat' first
      | with_reducible exact iv_none
      | with_reducible refine iv_some ?_
      | with_reducible refine iv_ite (fun _ => ?_) (fun _ => ?_)
      | with_reducible refine iv_gd ?_
      | with_reducible refine iv_stK ?_ (fun _ _ => ?_)
      | with_reducible refine iv_vK (fun _ => ?_)
      | with_reducible refine iv_lK (fun _ => ?_)
      | with_reducible refine iv_bi ?_ (fun _ _ _ _ => ?_)
      | with_reducible refine hF _ _ _ _ ?_ ?_
      | assumption
      | with_reducible refine i54_sI ?_ (by decide) (by decide)
      | with_reducible refine i54_sJ ?_
      | with_reducible refine i54_sA ?_ (by decide) (by decide)
      | with_reducible exact ivA_o (by decide) (by decide)
      | with_reducible refine ivA_47 ?_
      | with_reducible refine ivA_142 ?_
      | decide
theorem iv_rb_Items_typeOfPart (hF : ivF F) (T : gSt) (p1 : Int32) (p2 : Int32) (h : I54 T) : iv (rb_Items_typeOfPart F nf T p1 p2) := by
    unfold rb_Items_typeOfPart
    repeat' first
      | with_reducible exact iv_none
      | with_reducible refine iv_some ?_
      | with_reducible refine iv_ite (fun _ => ?_) (fun _ => ?_)
      | with_reducible refine iv_gd ?_
      | with_reducible refine iv_stK ?_ (fun _ _ => ?_)
      | with_reducible refine iv_vK (fun _ => ?_)
      | with_reducible refine iv_lK (fun _ => ?_)
      | with_reducible refine iv_bi ?_ (fun _ _ _ _ => ?_)
      | with_reducible refine hF _ _ _ _ ?_ ?_
      | assumption
      | with_reducible refine i54_sI ?_ (by decide) (by decide)
      | with_reducible refine i54_sJ ?_
      | with_reducible refine i54_sA ?_ (by decide) (by decide)
      | with_reducible exact ivA_o (by decide) (by decide)
      | with_reducible refine ivA_47 ?_
      | with_reducible refine ivA_142 ?_
      | decide
theorem iv_rb_Items_placeOfPart (hF : ivF F) (T : gSt) (p1 : Int32) (p2 : Int32) (h : I54 T) : iv (rb_Items_placeOfPart F nf T p1 p2) := by
    unfold rb_Items_placeOfPart
    repeat' first
      | with_reducible exact iv_none
      | with_reducible refine iv_some ?_
      | with_reducible refine iv_ite (fun _ => ?_) (fun _ => ?_)
      | with_reducible refine iv_gd ?_
      | with_reducible refine iv_stK ?_ (fun _ _ => ?_)
      | with_reducible refine iv_vK (fun _ => ?_)
      | with_reducible refine iv_lK (fun _ => ?_)
      | with_reducible refine iv_bi ?_ (fun _ _ _ _ => ?_)
      | with_reducible refine hF _ _ _ _ ?_ ?_
      | assumption
      | with_reducible refine i54_sI ?_ (by decide) (by decide)
      | with_reducible refine i54_sJ ?_
      | with_reducible refine i54_sA ?_ (by decide) (by decide)
      | with_reducible exact ivA_o (by decide) (by decide)
      | with_reducible refine ivA_47 ?_
      | with_reducible refine ivA_142 ?_
      | decide
theorem iv_rb_Items_addPart (hF : ivF F) (T : gSt) (p1 : Int32) (p2 : Int32) (h : I54 T) : iv (rb_Items_addPart F nf T p1 p2) := by
    unfold rb_Items_addPart
    repeat' first
      | with_reducible exact iv_none
      | with_reducible refine iv_some ?_
      | with_reducible refine iv_ite (fun _ => ?_) (fun _ => ?_)
      | with_reducible refine iv_gd ?_
      | with_reducible refine iv_stK ?_ (fun _ _ => ?_)
      | with_reducible refine iv_vK (fun _ => ?_)
      | with_reducible refine iv_lK (fun _ => ?_)
      | with_reducible refine iv_bi ?_ (fun _ _ _ _ => ?_)
      | with_reducible refine hF _ _ _ _ ?_ ?_
      | assumption
      | with_reducible refine i54_sI ?_ (by decide) (by decide)
      | with_reducible refine i54_sJ ?_
      | with_reducible refine i54_sA ?_ (by decide) (by decide)
      | with_reducible exact ivA_o (by decide) (by decide)
      | with_reducible refine ivA_47 ?_
      | with_reducible refine ivA_142 ?_
      | decide
theorem iv_rb_Items_setPart (hF : ivF F) (T : gSt) (p1 : Int32) (p2 : Int32) (p3 : Int32) (p4 : Int32) (h : I54 T) : iv (rb_Items_setPart F nf T p1 p2 p3 p4) := by
    unfold rb_Items_setPart
    repeat' first
      | with_reducible exact iv_none
      | with_reducible refine iv_some ?_
      | with_reducible refine iv_ite (fun _ => ?_) (fun _ => ?_)
      | with_reducible refine iv_gd ?_
      | with_reducible refine iv_stK ?_ (fun _ _ => ?_)
      | with_reducible refine iv_vK (fun _ => ?_)
      | with_reducible refine iv_lK (fun _ => ?_)
      | with_reducible refine iv_bi ?_ (fun _ _ _ _ => ?_)
      | with_reducible refine hF _ _ _ _ ?_ ?_
      | assumption
      | with_reducible refine i54_sI ?_ (by decide) (by decide)
      | with_reducible refine i54_sJ ?_
      | with_reducible refine i54_sA ?_ (by decide) (by decide)
      | with_reducible exact ivA_o (by decide) (by decide)
      | with_reducible refine ivA_47 ?_
      | with_reducible refine ivA_142 ?_
      | decide
theorem iv_rb_Items_addPair (hF : ivF F) (T : gSt) (p1 : Int32) (p2 : Int32) (p3 : Int32) (h : I54 T) : iv (rb_Items_addPair F nf T p1 p2 p3) := by
    unfold rb_Items_addPair
    repeat' first
      | with_reducible exact iv_none
      | with_reducible refine iv_some ?_
      | with_reducible refine iv_ite (fun _ => ?_) (fun _ => ?_)
      | with_reducible refine iv_gd ?_
      | with_reducible refine iv_stK ?_ (fun _ _ => ?_)
      | with_reducible refine iv_vK (fun _ => ?_)
      | with_reducible refine iv_lK (fun _ => ?_)
      | with_reducible refine iv_bi ?_ (fun _ _ _ _ => ?_)
      | with_reducible refine hF _ _ _ _ ?_ ?_
      | assumption
      | with_reducible refine i54_sI ?_ (by decide) (by decide)
      | with_reducible refine i54_sJ ?_
      | with_reducible refine i54_sA ?_ (by decide) (by decide)
      | with_reducible exact ivA_o (by decide) (by decide)
      | with_reducible refine ivA_47 ?_
      | with_reducible refine ivA_142 ?_
      | decide
theorem iv_rb_Items_upperOf (hF : ivF F) (T : gSt) (p1 : Int32) (p2 : Int32) (h : I54 T) : iv (rb_Items_upperOf F nf T p1 p2) := by
    unfold rb_Items_upperOf
    repeat' first
      | with_reducible exact iv_none
      | with_reducible refine iv_some ?_
      | with_reducible refine iv_ite (fun _ => ?_) (fun _ => ?_)
      | with_reducible refine iv_gd ?_
      | with_reducible refine iv_stK ?_ (fun _ _ => ?_)
      | with_reducible refine iv_vK (fun _ => ?_)
      | with_reducible refine iv_lK (fun _ => ?_)
      | with_reducible refine iv_bi ?_ (fun _ _ _ _ => ?_)
      | with_reducible refine hF _ _ _ _ ?_ ?_
      | assumption
      | with_reducible refine i54_sI ?_ (by decide) (by decide)
      | with_reducible refine i54_sJ ?_
      | with_reducible refine i54_sA ?_ (by decide) (by decide)
      | with_reducible exact ivA_o (by decide) (by decide)
      | with_reducible refine ivA_47 ?_
      | with_reducible refine ivA_142 ?_
      | decide
theorem iv_rb_Items_lowerOf (hF : ivF F) (T : gSt) (p1 : Int32) (p2 : Int32) (h : I54 T) : iv (rb_Items_lowerOf F nf T p1 p2) := by
    unfold rb_Items_lowerOf
    repeat' first
      | with_reducible exact iv_none
      | with_reducible refine iv_some ?_
      | with_reducible refine iv_ite (fun _ => ?_) (fun _ => ?_)
      | with_reducible refine iv_gd ?_
      | with_reducible refine iv_stK ?_ (fun _ _ => ?_)
      | with_reducible refine iv_vK (fun _ => ?_)
      | with_reducible refine iv_lK (fun _ => ?_)
      | with_reducible refine iv_bi ?_ (fun _ _ _ _ => ?_)
      | with_reducible refine hF _ _ _ _ ?_ ?_
      | assumption
      | with_reducible refine i54_sI ?_ (by decide) (by decide)
      | with_reducible refine i54_sJ ?_
      | with_reducible refine i54_sA ?_ (by decide) (by decide)
      | with_reducible exact ivA_o (by decide) (by decide)
      | with_reducible refine ivA_47 ?_
      | with_reducible refine ivA_142 ?_
      | decide
theorem iv_rb_Items_isPart (hF : ivF F) (T : gSt) (p1 : Int32) (p2 : Int32) (h : I54 T) : iv (rb_Items_isPart F nf T p1 p2) := by
    unfold rb_Items_isPart
    repeat' first
      | with_reducible exact iv_none
      | with_reducible refine iv_some ?_
      | with_reducible refine iv_ite (fun _ => ?_) (fun _ => ?_)
      | with_reducible refine iv_gd ?_
      | with_reducible refine iv_stK ?_ (fun _ _ => ?_)
      | with_reducible refine iv_vK (fun _ => ?_)
      | with_reducible refine iv_lK (fun _ => ?_)
      | with_reducible refine iv_bi ?_ (fun _ _ _ _ => ?_)
      | with_reducible refine hF _ _ _ _ ?_ ?_
      | assumption
      | with_reducible refine i54_sI ?_ (by decide) (by decide)
      | with_reducible refine i54_sJ ?_
      | with_reducible refine i54_sA ?_ (by decide) (by decide)
      | with_reducible exact ivA_o (by decide) (by decide)
      | with_reducible refine ivA_47 ?_
      | with_reducible refine ivA_142 ?_
      | decide
theorem iv_rj_Items_find_53 (hF : ivF F) {rec_3 : gSt → Int64 → Int32 → Int32 → gR} (hrec_3 : ∀ T a0 a1 a2, I54 T → iv (rec_3 T a0 a1 a2)) (T : gSt) (x1 : Int64) (x3 : Int32) (x4 : Int32) (y0 : Int32) (h : I54 T) : iv (rj_Items_find_53 F nf rec_3 T x1 x3 x4 y0) := by
    unfold rj_Items_find_53
    repeat' first
      | with_reducible exact iv_none
      | with_reducible refine iv_some ?_
      | with_reducible refine iv_ite (fun _ => ?_) (fun _ => ?_)
      | with_reducible refine iv_gd ?_
      | with_reducible refine iv_stK ?_ (fun _ _ => ?_)
      | with_reducible refine iv_vK (fun _ => ?_)
      | with_reducible refine iv_lK (fun _ => ?_)
      | with_reducible refine iv_bi ?_ (fun _ _ _ _ => ?_)
      | with_reducible refine hF _ _ _ _ ?_ ?_
      | with_reducible refine hrec_3 _ _ _ _ ?_
      | assumption
      | with_reducible refine i54_sI ?_ (by decide) (by decide)
      | with_reducible refine i54_sJ ?_
      | with_reducible refine i54_sA ?_ (by decide) (by decide)
      | with_reducible exact ivA_o (by decide) (by decide)
      | with_reducible refine ivA_47 ?_
      | with_reducible refine ivA_142 ?_
      | decide
theorem iv_rl_Items_find_3 (hF : ivF F) : ∀ (n : Nat) (T : gSt) (x0 : Int64) (x1 : Int32) (x2 : Int32), I54 T → iv (rl_Items_find_3 F nf n T x0 x1 x2) := by
  intro n
  induction n with
  | zero =>
    intro T x0 x1 x2 h
    rw [rl_Items_find_3]
    exact iv_none
  | succ n ih =>
    intro T x0 x1 x2 h
    rw [rl_Items_find_3]
    repeat' first
      | with_reducible exact iv_none
      | with_reducible refine iv_some ?_
      | with_reducible refine iv_ite (fun _ => ?_) (fun _ => ?_)
      | with_reducible refine iv_gd ?_
      | with_reducible refine iv_stK ?_ (fun _ _ => ?_)
      | with_reducible refine iv_vK (fun _ => ?_)
      | with_reducible refine iv_lK (fun _ => ?_)
      | with_reducible refine iv_bi ?_ (fun _ _ _ _ => ?_)
      | with_reducible refine hF _ _ _ _ ?_ ?_
      | with_reducible refine iv_rj_Items_find_53 hF ?_ _ _ _ _ _ ?_
      | with_reducible refine ih _ _ _ _ ?_
      | assumption
      | with_reducible refine i54_sI ?_ (by decide) (by decide)
      | with_reducible refine i54_sJ ?_
      | with_reducible refine i54_sA ?_ (by decide) (by decide)
      | with_reducible exact ivA_o (by decide) (by decide)
      | with_reducible refine ivA_47 ?_
      | with_reducible refine ivA_142 ?_
      | decide
theorem iv_rb_Items_find (hF : ivF F) (T : gSt) (p1 : Int64) (p2 : Int32) (h : I54 T) : iv (rb_Items_find F nf T p1 p2) := by
    unfold rb_Items_find
    repeat' first
      | with_reducible exact iv_none
      | with_reducible refine iv_some ?_
      | with_reducible refine iv_ite (fun _ => ?_) (fun _ => ?_)
      | with_reducible refine iv_gd ?_
      | with_reducible refine iv_stK ?_ (fun _ _ => ?_)
      | with_reducible refine iv_vK (fun _ => ?_)
      | with_reducible refine iv_lK (fun _ => ?_)
      | with_reducible refine iv_bi ?_ (fun _ _ _ _ => ?_)
      | with_reducible refine hF _ _ _ _ ?_ ?_
      | with_reducible refine iv_rl_Items_find_3 hF  _ _ _ _ _ ?_
      | assumption
      | with_reducible refine i54_sI ?_ (by decide) (by decide)
      | with_reducible refine i54_sJ ?_
      | with_reducible refine i54_sA ?_ (by decide) (by decide)
      | with_reducible exact ivA_o (by decide) (by decide)
      | with_reducible refine ivA_47 ?_
      | with_reducible refine ivA_142 ?_
      | decide
theorem iv_rb_Code_note (T : gSt) (p1 p2 : Int32) (h : I54 T) (hp : ¬ p1 = 0) : iv (rb_Code_note F nf T p1 p2) := by
  unfold rb_Code_note
  refine iv_ite (fun _ => ?_) (fun _ => iv_some h)
  refine iv_some (fun w => ?_)
  rw [sI_ne (by omega), sI_v] at w
  exact absurd w hp
theorem iv_rb_Code_isSound (hF : ivF F) (T : gSt) (h : I54 T) : iv (rb_Code_isSound F nf T) := by
    unfold rb_Code_isSound
    repeat' first
      | with_reducible exact iv_none
      | with_reducible refine iv_some ?_
      | with_reducible refine iv_ite (fun _ => ?_) (fun _ => ?_)
      | with_reducible refine iv_gd ?_
      | with_reducible refine iv_stK ?_ (fun _ _ => ?_)
      | with_reducible refine iv_vK (fun _ => ?_)
      | with_reducible refine iv_lK (fun _ => ?_)
      | with_reducible refine iv_bi ?_ (fun _ _ _ _ => ?_)
      | with_reducible refine hF _ _ _ _ ?_ ?_
      | assumption
      | with_reducible refine i54_sI ?_ (by decide) (by decide)
      | with_reducible refine i54_sJ ?_
      | with_reducible refine i54_sA ?_ (by decide) (by decide)
      | with_reducible exact ivA_o (by decide) (by decide)
      | with_reducible refine ivA_47 ?_
      | with_reducible refine ivA_142 ?_
      | decide
theorem iv_rb_Code_tally (hF : ivF F) (T : gSt) (p1 : Int32) (h : I54 T) : iv (rb_Code_tally F nf T p1) := by
    unfold rb_Code_tally
    repeat' first
      | with_reducible exact iv_none
      | with_reducible refine iv_some ?_
      | with_reducible refine iv_ite (fun _ => ?_) (fun _ => ?_)
      | with_reducible refine iv_gd ?_
      | with_reducible refine iv_stK ?_ (fun _ _ => ?_)
      | with_reducible refine iv_vK (fun _ => ?_)
      | with_reducible refine iv_lK (fun _ => ?_)
      | with_reducible refine iv_bi ?_ (fun _ _ _ _ => ?_)
      | with_reducible refine hF _ _ _ _ ?_ ?_
      | assumption
      | with_reducible refine i54_sI ?_ (by decide) (by decide)
      | with_reducible refine i54_sJ ?_
      | with_reducible refine i54_sA ?_ (by decide) (by decide)
      | with_reducible exact ivA_o (by decide) (by decide)
      | with_reducible refine ivA_47 ?_
      | with_reducible refine ivA_142 ?_
      | decide
theorem iv_rb_Code_count (hF : ivF F) (T : gSt) (h : I54 T) : iv (rb_Code_count F nf T) := by
    unfold rb_Code_count
    repeat' first
      | with_reducible exact iv_none
      | with_reducible refine iv_some ?_
      | with_reducible refine iv_ite (fun _ => ?_) (fun _ => ?_)
      | with_reducible refine iv_gd ?_
      | with_reducible refine iv_stK ?_ (fun _ _ => ?_)
      | with_reducible refine iv_vK (fun _ => ?_)
      | with_reducible refine iv_lK (fun _ => ?_)
      | with_reducible refine iv_bi ?_ (fun _ _ _ _ => ?_)
      | with_reducible refine hF _ _ _ _ ?_ ?_
      | assumption
      | with_reducible refine i54_sI ?_ (by decide) (by decide)
      | with_reducible refine i54_sJ ?_
      | with_reducible refine i54_sA ?_ (by decide) (by decide)
      | with_reducible exact ivA_o (by decide) (by decide)
      | with_reducible refine ivA_47 ?_
      | with_reducible refine ivA_142 ?_
      | decide
theorem iv_rb_Code_emit (hF : ivF F) (T : gSt) (p1 : Int32) (p2 : Int32) (p3 : Int32) (h : I54 T) : iv (rb_Code_emit F nf T p1 p2 p3) := by
    unfold rb_Code_emit
    repeat' first
      | with_reducible exact iv_none
      | with_reducible refine iv_some ?_
      | with_reducible refine iv_ite (fun _ => ?_) (fun _ => ?_)
      | with_reducible refine iv_gd ?_
      | with_reducible refine iv_stK ?_ (fun _ _ => ?_)
      | with_reducible refine iv_vK (fun _ => ?_)
      | with_reducible refine iv_lK (fun _ => ?_)
      | with_reducible refine iv_bi ?_ (fun _ _ _ _ => ?_)
      | with_reducible refine hF _ _ _ _ ?_ ?_
      | assumption
      | with_reducible refine i54_sI ?_ (by decide) (by decide)
      | with_reducible refine i54_sJ ?_
      | with_reducible refine i54_sA ?_ (by decide) (by decide)
      | with_reducible exact ivA_o (by decide) (by decide)
      | with_reducible refine ivA_47 ?_
      | with_reducible refine ivA_142 ?_
      | decide
theorem iv_rb_Code_aim (hF : ivF F) (T : gSt) (p1 : Int32) (h : I54 T) : iv (rb_Code_aim F nf T p1) := by
    unfold rb_Code_aim
    repeat' first
      | with_reducible exact iv_none
      | with_reducible refine iv_some ?_
      | with_reducible refine iv_ite (fun _ => ?_) (fun _ => ?_)
      | with_reducible refine iv_gd ?_
      | with_reducible refine iv_stK ?_ (fun _ _ => ?_)
      | with_reducible refine iv_vK (fun _ => ?_)
      | with_reducible refine iv_lK (fun _ => ?_)
      | with_reducible refine iv_bi ?_ (fun _ _ _ _ => ?_)
      | with_reducible refine hF _ _ _ _ ?_ ?_
      | assumption
      | with_reducible refine i54_sI ?_ (by decide) (by decide)
      | with_reducible refine i54_sJ ?_
      | with_reducible refine i54_sA ?_ (by decide) (by decide)
      | with_reducible exact ivA_o (by decide) (by decide)
      | with_reducible refine ivA_47 ?_
      | with_reducible refine ivA_142 ?_
      | decide
theorem iv_rb_Code_has (hF : ivF F) (T : gSt) (p1 : Int32) (h : I54 T) : iv (rb_Code_has F nf T p1) := by
    unfold rb_Code_has
    repeat' first
      | with_reducible exact iv_none
      | with_reducible refine iv_some ?_
      | with_reducible refine iv_ite (fun _ => ?_) (fun _ => ?_)
      | with_reducible refine iv_gd ?_
      | with_reducible refine iv_stK ?_ (fun _ _ => ?_)
      | with_reducible refine iv_vK (fun _ => ?_)
      | with_reducible refine iv_lK (fun _ => ?_)
      | with_reducible refine iv_bi ?_ (fun _ _ _ _ => ?_)
      | with_reducible refine hF _ _ _ _ ?_ ?_
      | assumption
      | with_reducible refine i54_sI ?_ (by decide) (by decide)
      | with_reducible refine i54_sJ ?_
      | with_reducible refine i54_sA ?_ (by decide) (by decide)
      | with_reducible exact ivA_o (by decide) (by decide)
      | with_reducible refine ivA_47 ?_
      | with_reducible refine ivA_142 ?_
      | decide
theorem iv_rb_Code_opAt (hF : ivF F) (T : gSt) (p1 : Int32) (h : I54 T) : iv (rb_Code_opAt F nf T p1) := by
    unfold rb_Code_opAt
    repeat' first
      | with_reducible exact iv_none
      | with_reducible refine iv_some ?_
      | with_reducible refine iv_ite (fun _ => ?_) (fun _ => ?_)
      | with_reducible refine iv_gd ?_
      | with_reducible refine iv_stK ?_ (fun _ _ => ?_)
      | with_reducible refine iv_vK (fun _ => ?_)
      | with_reducible refine iv_lK (fun _ => ?_)
      | with_reducible refine iv_bi ?_ (fun _ _ _ _ => ?_)
      | with_reducible refine hF _ _ _ _ ?_ ?_
      | assumption
      | with_reducible refine i54_sI ?_ (by decide) (by decide)
      | with_reducible refine i54_sJ ?_
      | with_reducible refine i54_sA ?_ (by decide) (by decide)
      | with_reducible exact ivA_o (by decide) (by decide)
      | with_reducible refine ivA_47 ?_
      | with_reducible refine ivA_142 ?_
      | decide
theorem iv_rb_Code_firstAt (hF : ivF F) (T : gSt) (p1 : Int32) (h : I54 T) : iv (rb_Code_firstAt F nf T p1) := by
    unfold rb_Code_firstAt
    repeat' first
      | with_reducible exact iv_none
      | with_reducible refine iv_some ?_
      | with_reducible refine iv_ite (fun _ => ?_) (fun _ => ?_)
      | with_reducible refine iv_gd ?_
      | with_reducible refine iv_stK ?_ (fun _ _ => ?_)
      | with_reducible refine iv_vK (fun _ => ?_)
      | with_reducible refine iv_lK (fun _ => ?_)
      | with_reducible refine iv_bi ?_ (fun _ _ _ _ => ?_)
      | with_reducible refine hF _ _ _ _ ?_ ?_
      | assumption
      | with_reducible refine i54_sI ?_ (by decide) (by decide)
      | with_reducible refine i54_sJ ?_
      | with_reducible refine i54_sA ?_ (by decide) (by decide)
      | with_reducible exact ivA_o (by decide) (by decide)
      | with_reducible refine ivA_47 ?_
      | with_reducible refine ivA_142 ?_
      | decide
theorem iv_rb_Code_secondAt (hF : ivF F) (T : gSt) (p1 : Int32) (h : I54 T) : iv (rb_Code_secondAt F nf T p1) := by
    unfold rb_Code_secondAt
    repeat' first
      | with_reducible exact iv_none
      | with_reducible refine iv_some ?_
      | with_reducible refine iv_ite (fun _ => ?_) (fun _ => ?_)
      | with_reducible refine iv_gd ?_
      | with_reducible refine iv_stK ?_ (fun _ _ => ?_)
      | with_reducible refine iv_vK (fun _ => ?_)
      | with_reducible refine iv_lK (fun _ => ?_)
      | with_reducible refine iv_bi ?_ (fun _ _ _ _ => ?_)
      | with_reducible refine hF _ _ _ _ ?_ ?_
      | assumption
      | with_reducible refine i54_sI ?_ (by decide) (by decide)
      | with_reducible refine i54_sJ ?_
      | with_reducible refine i54_sA ?_ (by decide) (by decide)
      | with_reducible exact ivA_o (by decide) (by decide)
      | with_reducible refine ivA_47 ?_
      | with_reducible refine ivA_142 ?_
      | decide
theorem iv_rj_Parser_parse_59 (hF : ivF F) {rec_35 : gSt → Int32 → gR} (hrec_35 : ∀ T a0, I54 T → iv (rec_35 T a0)) (T : gSt) (x1 : Int32) (h : I54 T) : iv (rj_Parser_parse_59 F nf rec_35 T x1) := by
    unfold rj_Parser_parse_59
    repeat' first
      | with_reducible exact iv_none
      | with_reducible refine iv_some ?_
      | with_reducible refine iv_ite (fun _ => ?_) (fun _ => ?_)
      | with_reducible refine iv_gd ?_
      | with_reducible refine iv_stK ?_ (fun _ _ => ?_)
      | with_reducible refine iv_vK (fun _ => ?_)
      | with_reducible refine iv_lK (fun _ => ?_)
      | with_reducible refine iv_bi ?_ (fun _ _ _ _ => ?_)
      | with_reducible refine hF _ _ _ _ ?_ ?_
      | with_reducible refine hrec_35 _ _ ?_
      | assumption
      | with_reducible refine i54_sI ?_ (by decide) (by decide)
      | with_reducible refine i54_sJ ?_
      | with_reducible refine i54_sA ?_ (by decide) (by decide)
      | with_reducible exact ivA_o (by decide) (by decide)
      | with_reducible refine ivA_47 ?_
      | with_reducible refine ivA_142 ?_
      | decide
theorem iv_rl_Parser_parse_35 (hF : ivF F) : ∀ (n : Nat) (T : gSt) (x0 : Int32), I54 T → iv (rl_Parser_parse_35 F nf n T x0) := by
  intro n
  induction n with
  | zero =>
    intro T x0 h
    rw [rl_Parser_parse_35]
    exact iv_none
  | succ n ih =>
    intro T x0 h
    rw [rl_Parser_parse_35]
    repeat' first
      | with_reducible exact iv_none
      | with_reducible refine iv_some ?_
      | with_reducible refine iv_ite (fun _ => ?_) (fun _ => ?_)
      | with_reducible refine iv_gd ?_
      | with_reducible refine iv_stK ?_ (fun _ _ => ?_)
      | with_reducible refine iv_vK (fun _ => ?_)
      | with_reducible refine iv_lK (fun _ => ?_)
      | with_reducible refine iv_bi ?_ (fun _ _ _ _ => ?_)
      | with_reducible refine hF _ _ _ _ ?_ ?_
      | with_reducible refine iv_rj_Parser_parse_59 hF ?_ _ _ ?_
      | with_reducible refine ih _ _ ?_
      | assumption
      | with_reducible refine i54_sI ?_ (by decide) (by decide)
      | with_reducible refine i54_sJ ?_
      | with_reducible refine i54_sA ?_ (by decide) (by decide)
      | with_reducible exact ivA_o (by decide) (by decide)
      | with_reducible refine ivA_47 ?_
      | with_reducible refine ivA_142 ?_
      | decide
theorem iv_rb_Parser_parse (hF : ivF F) (T : gSt) (h : I54 T) : iv (rb_Parser_parse F nf T) := by
    unfold rb_Parser_parse
    repeat' first
      | with_reducible exact iv_none
      | with_reducible refine iv_some ?_
      | with_reducible refine iv_ite (fun _ => ?_) (fun _ => ?_)
      | with_reducible refine iv_gd ?_
      | with_reducible refine iv_stK ?_ (fun _ _ => ?_)
      | with_reducible refine iv_vK (fun _ => ?_)
      | with_reducible refine iv_lK (fun _ => ?_)
      | with_reducible refine iv_bi ?_ (fun _ _ _ _ => ?_)
      | with_reducible refine hF _ _ _ _ ?_ ?_
      | with_reducible refine iv_rl_Parser_parse_35 hF  _ _ _ ?_
      | assumption
      | with_reducible refine i54_sI ?_ (by decide) (by decide)
      | with_reducible refine i54_sJ ?_
      | with_reducible refine i54_sA ?_ (by decide) (by decide)
      | with_reducible exact ivA_o (by decide) (by decide)
      | with_reducible refine ivA_47 ?_
      | with_reducible refine ivA_142 ?_
      | decide
theorem iv_rb_Parser_advance (hF : ivF F) (T : gSt) (h : I54 T) : iv (rb_Parser_advance F nf T) := by
    unfold rb_Parser_advance
    repeat' first
      | with_reducible exact iv_none
      | with_reducible refine iv_some ?_
      | with_reducible refine iv_ite (fun _ => ?_) (fun _ => ?_)
      | with_reducible refine iv_gd ?_
      | with_reducible refine iv_stK ?_ (fun _ _ => ?_)
      | with_reducible refine iv_vK (fun _ => ?_)
      | with_reducible refine iv_lK (fun _ => ?_)
      | with_reducible refine iv_bi ?_ (fun _ _ _ _ => ?_)
      | with_reducible refine hF _ _ _ _ ?_ ?_
      | assumption
      | with_reducible refine i54_sI ?_ (by decide) (by decide)
      | with_reducible refine i54_sJ ?_
      | with_reducible refine i54_sA ?_ (by decide) (by decide)
      | with_reducible exact ivA_o (by decide) (by decide)
      | with_reducible refine ivA_47 ?_
      | with_reducible refine ivA_142 ?_
      | decide
theorem iv_rb_Parser_accept (hF : ivF F) (T : gSt) (p1 : Int32) (h : I54 T) : iv (rb_Parser_accept F nf T p1) := by
    unfold rb_Parser_accept
    repeat' first
      | with_reducible exact iv_none
      | with_reducible refine iv_some ?_
      | with_reducible refine iv_ite (fun _ => ?_) (fun _ => ?_)
      | with_reducible refine iv_gd ?_
      | with_reducible refine iv_stK ?_ (fun _ _ => ?_)
      | with_reducible refine iv_vK (fun _ => ?_)
      | with_reducible refine iv_lK (fun _ => ?_)
      | with_reducible refine iv_bi ?_ (fun _ _ _ _ => ?_)
      | with_reducible refine hF _ _ _ _ ?_ ?_
      | assumption
      | with_reducible refine i54_sI ?_ (by decide) (by decide)
      | with_reducible refine i54_sJ ?_
      | with_reducible refine i54_sA ?_ (by decide) (by decide)
      | with_reducible exact ivA_o (by decide) (by decide)
      | with_reducible refine ivA_47 ?_
      | with_reducible refine ivA_142 ?_
      | decide
theorem iv_rb_Parser_need (hF : ivF F) (T : gSt) (p1 : Int32) (h : I54 T) : iv (rb_Parser_need F nf T p1) := by
    unfold rb_Parser_need
    repeat' first
      | with_reducible exact iv_none
      | with_reducible refine iv_some ?_
      | with_reducible refine iv_ite (fun _ => ?_) (fun _ => ?_)
      | with_reducible refine iv_gd ?_
      | with_reducible refine iv_stK ?_ (fun _ _ => ?_)
      | with_reducible refine iv_vK (fun _ => ?_)
      | with_reducible refine iv_lK (fun _ => ?_)
      | with_reducible refine iv_bi ?_ (fun _ _ _ _ => ?_)
      | with_reducible refine hF _ _ _ _ ?_ ?_
      | assumption
      | with_reducible refine i54_sI ?_ (by decide) (by decide)
      | with_reducible refine i54_sJ ?_
      | with_reducible refine i54_sA ?_ (by decide) (by decide)
      | with_reducible exact ivA_o (by decide) (by decide)
      | with_reducible refine ivA_47 ?_
      | with_reducible refine ivA_142 ?_
      | decide
theorem iv_rb_Parser_stop (hF : ivF F) (T : gSt) (h : I54 T) : iv (rb_Parser_stop F nf T) := by
    unfold rb_Parser_stop
    repeat' first
      | with_reducible exact iv_none
      | with_reducible refine iv_some ?_
      | with_reducible refine iv_ite (fun _ => ?_) (fun _ => ?_)
      | with_reducible refine iv_gd ?_
      | with_reducible refine iv_stK ?_ (fun _ _ => ?_)
      | with_reducible refine iv_vK (fun _ => ?_)
      | with_reducible refine iv_lK (fun _ => ?_)
      | with_reducible refine iv_bi ?_ (fun _ _ _ _ => ?_)
      | with_reducible refine hF _ _ _ _ ?_ ?_
      | assumption
      | with_reducible refine i54_sI ?_ (by decide) (by decide)
      | with_reducible refine i54_sJ ?_
      | with_reducible refine i54_sA ?_ (by decide) (by decide)
      | with_reducible exact ivA_o (by decide) (by decide)
      | with_reducible refine ivA_47 ?_
      | with_reducible refine ivA_142 ?_
      | decide
theorem iv_rj_Parser_parseHead_108 (hF : ivF F) (T : gSt) (x1 : Int32) (y0 : Int32) (h : I54 T) : iv (rj_Parser_parseHead_108 F nf T x1 y0) := by
    unfold rj_Parser_parseHead_108
    repeat' first
      | with_reducible exact iv_none
      | with_reducible refine iv_some ?_
      | with_reducible refine iv_ite (fun _ => ?_) (fun _ => ?_)
      | with_reducible refine iv_gd ?_
      | with_reducible refine iv_stK ?_ (fun _ _ => ?_)
      | with_reducible refine iv_vK (fun _ => ?_)
      | with_reducible refine iv_lK (fun _ => ?_)
      | with_reducible refine iv_bi ?_ (fun _ _ _ _ => ?_)
      | with_reducible refine hF _ _ _ _ ?_ ?_
      | assumption
      | with_reducible refine i54_sI ?_ (by decide) (by decide)
      | with_reducible refine i54_sJ ?_
      | with_reducible refine i54_sA ?_ (by decide) (by decide)
      | with_reducible exact ivA_o (by decide) (by decide)
      | with_reducible refine ivA_47 ?_
      | with_reducible refine ivA_142 ?_
      | decide
theorem iv_rj_Parser_parseHead_48 (hF : ivF F) (T : gSt) (x1 : Int32) (x2 : Int32) (h : I54 T) : iv (rj_Parser_parseHead_48 F nf T x1 x2) := by
    unfold rj_Parser_parseHead_48
    repeat' first
      | with_reducible exact iv_none
      | with_reducible refine iv_some ?_
      | with_reducible refine iv_ite (fun _ => ?_) (fun _ => ?_)
      | with_reducible refine iv_gd ?_
      | with_reducible refine iv_stK ?_ (fun _ _ => ?_)
      | with_reducible refine iv_vK (fun _ => ?_)
      | with_reducible refine iv_lK (fun _ => ?_)
      | with_reducible refine iv_bi ?_ (fun _ _ _ _ => ?_)
      | with_reducible refine hF _ _ _ _ ?_ ?_
      | with_reducible refine iv_rj_Parser_parseHead_108 hF  _ _ _ ?_
      | assumption
      | with_reducible refine i54_sI ?_ (by decide) (by decide)
      | with_reducible refine i54_sJ ?_
      | with_reducible refine i54_sA ?_ (by decide) (by decide)
      | with_reducible exact ivA_o (by decide) (by decide)
      | with_reducible refine ivA_47 ?_
      | with_reducible refine ivA_142 ?_
      | decide
theorem iv_rj_Parser_parseHead_14 (hF : ivF F) (T : gSt) (x1 : Int32) (y0 : Int32) (h : I54 T) : iv (rj_Parser_parseHead_14 F nf T x1 y0) := by
    unfold rj_Parser_parseHead_14
    repeat' first
      | with_reducible exact iv_none
      | with_reducible refine iv_some ?_
      | with_reducible refine iv_ite (fun _ => ?_) (fun _ => ?_)
      | with_reducible refine iv_gd ?_
      | with_reducible refine iv_stK ?_ (fun _ _ => ?_)
      | with_reducible refine iv_vK (fun _ => ?_)
      | with_reducible refine iv_lK (fun _ => ?_)
      | with_reducible refine iv_bi ?_ (fun _ _ _ _ => ?_)
      | with_reducible refine hF _ _ _ _ ?_ ?_
      | with_reducible refine iv_rj_Parser_parseHead_48 hF  _ _ _ ?_
      | assumption
      | with_reducible refine i54_sI ?_ (by decide) (by decide)
      | with_reducible refine i54_sJ ?_
      | with_reducible refine i54_sA ?_ (by decide) (by decide)
      | with_reducible exact ivA_o (by decide) (by decide)
      | with_reducible refine ivA_47 ?_
      | with_reducible refine ivA_142 ?_
      | decide
theorem iv_rb_Parser_parseHead (hF : ivF F) (T : gSt) (p1 : Int32) (h : I54 T) : iv (rb_Parser_parseHead F nf T p1) := by
    unfold rb_Parser_parseHead
    repeat' first
      | with_reducible exact iv_none
      | with_reducible refine iv_some ?_
      | with_reducible refine iv_ite (fun _ => ?_) (fun _ => ?_)
      | with_reducible refine iv_gd ?_
      | with_reducible refine iv_stK ?_ (fun _ _ => ?_)
      | with_reducible refine iv_vK (fun _ => ?_)
      | with_reducible refine iv_lK (fun _ => ?_)
      | with_reducible refine iv_bi ?_ (fun _ _ _ _ => ?_)
      | with_reducible refine hF _ _ _ _ ?_ ?_
      | with_reducible refine iv_rj_Parser_parseHead_14 hF  _ _ _ ?_
      | assumption
      | with_reducible refine i54_sI ?_ (by decide) (by decide)
      | with_reducible refine i54_sJ ?_
      | with_reducible refine i54_sA ?_ (by decide) (by decide)
      | with_reducible exact ivA_o (by decide) (by decide)
      | with_reducible refine ivA_47 ?_
      | with_reducible refine ivA_142 ?_
      | decide
theorem iv_rl_Parser_parseRegions_2 (hF : ivF F) : ∀ (n : Nat) (T : gSt) (x0 : Int32) (x1 : Int32), I54 T → iv (rl_Parser_parseRegions_2 F nf n T x0 x1) := by
  intro n
  induction n with
  | zero =>
    intro T x0 x1 h
    rw [rl_Parser_parseRegions_2]
    exact iv_none
  | succ n ih =>
    intro T x0 x1 h
    rw [rl_Parser_parseRegions_2]
    repeat' first
      | with_reducible exact iv_none
      | with_reducible refine iv_some ?_
      | with_reducible refine iv_ite (fun _ => ?_) (fun _ => ?_)
      | with_reducible refine iv_gd ?_
      | with_reducible refine iv_stK ?_ (fun _ _ => ?_)
      | with_reducible refine iv_vK (fun _ => ?_)
      | with_reducible refine iv_lK (fun _ => ?_)
      | with_reducible refine iv_bi ?_ (fun _ _ _ _ => ?_)
      | with_reducible refine hF _ _ _ _ ?_ ?_
      | with_reducible refine ih _ _ _ ?_
      | assumption
      | with_reducible refine i54_sI ?_ (by decide) (by decide)
      | with_reducible refine i54_sJ ?_
      | with_reducible refine i54_sA ?_ (by decide) (by decide)
      | with_reducible exact ivA_o (by decide) (by decide)
      | with_reducible refine ivA_47 ?_
      | with_reducible refine ivA_142 ?_
      | decide
theorem iv_rb_Parser_parseRegions (hF : ivF F) (T : gSt) (p1 : Int32) (h : I54 T) : iv (rb_Parser_parseRegions F nf T p1) := by
    unfold rb_Parser_parseRegions
    repeat' first
      | with_reducible exact iv_none
      | with_reducible refine iv_some ?_
      | with_reducible refine iv_ite (fun _ => ?_) (fun _ => ?_)
      | with_reducible refine iv_gd ?_
      | with_reducible refine iv_stK ?_ (fun _ _ => ?_)
      | with_reducible refine iv_vK (fun _ => ?_)
      | with_reducible refine iv_lK (fun _ => ?_)
      | with_reducible refine iv_bi ?_ (fun _ _ _ _ => ?_)
      | with_reducible refine hF _ _ _ _ ?_ ?_
      | with_reducible refine iv_rl_Parser_parseRegions_2 hF  _ _ _ _ ?_
      | assumption
      | with_reducible refine i54_sI ?_ (by decide) (by decide)
      | with_reducible refine i54_sJ ?_
      | with_reducible refine i54_sA ?_ (by decide) (by decide)
      | with_reducible exact ivA_o (by decide) (by decide)
      | with_reducible refine ivA_47 ?_
      | with_reducible refine ivA_142 ?_
      | decide
theorem iv_rj_Parser_parseFields_34 (hF : ivF F) {rec_8 : gSt → Int32 → Int32 → gR} (hrec_8 : ∀ T a0 a1, I54 T → iv (rec_8 T a0 a1)) (T : gSt) (x1 : Int32) (x2 : Int32) (h : I54 T) : iv (rj_Parser_parseFields_34 F nf rec_8 T x1 x2) := by
    unfold rj_Parser_parseFields_34
    repeat' first
      | with_reducible exact iv_none
      | with_reducible refine iv_some ?_
      | with_reducible refine iv_ite (fun _ => ?_) (fun _ => ?_)
      | with_reducible refine iv_gd ?_
      | with_reducible refine iv_stK ?_ (fun _ _ => ?_)
      | with_reducible refine iv_vK (fun _ => ?_)
      | with_reducible refine iv_lK (fun _ => ?_)
      | with_reducible refine iv_bi ?_ (fun _ _ _ _ => ?_)
      | with_reducible refine hF _ _ _ _ ?_ ?_
      | with_reducible refine hrec_8 _ _ _ ?_
      | assumption
      | with_reducible refine i54_sI ?_ (by decide) (by decide)
      | with_reducible refine i54_sJ ?_
      | with_reducible refine i54_sA ?_ (by decide) (by decide)
      | with_reducible exact ivA_o (by decide) (by decide)
      | with_reducible refine ivA_47 ?_
      | with_reducible refine ivA_142 ?_
      | decide
theorem iv_rl_Parser_parseFields_8 (hF : ivF F) : ∀ (n : Nat) (T : gSt) (x0 : Int32) (x1 : Int32), I54 T → iv (rl_Parser_parseFields_8 F nf n T x0 x1) := by
  intro n
  induction n with
  | zero =>
    intro T x0 x1 h
    rw [rl_Parser_parseFields_8]
    exact iv_none
  | succ n ih =>
    intro T x0 x1 h
    rw [rl_Parser_parseFields_8]
    repeat' first
      | with_reducible exact iv_none
      | with_reducible refine iv_some ?_
      | with_reducible refine iv_ite (fun _ => ?_) (fun _ => ?_)
      | with_reducible refine iv_gd ?_
      | with_reducible refine iv_stK ?_ (fun _ _ => ?_)
      | with_reducible refine iv_vK (fun _ => ?_)
      | with_reducible refine iv_lK (fun _ => ?_)
      | with_reducible refine iv_bi ?_ (fun _ _ _ _ => ?_)
      | with_reducible refine hF _ _ _ _ ?_ ?_
      | with_reducible refine iv_rj_Parser_parseFields_34 hF ?_ _ _ _ ?_
      | with_reducible refine ih _ _ _ ?_
      | assumption
      | with_reducible refine i54_sI ?_ (by decide) (by decide)
      | with_reducible refine i54_sJ ?_
      | with_reducible refine i54_sA ?_ (by decide) (by decide)
      | with_reducible exact ivA_o (by decide) (by decide)
      | with_reducible refine ivA_47 ?_
      | with_reducible refine ivA_142 ?_
      | decide
theorem iv_rb_Parser_parseFields (hF : ivF F) (T : gSt) (p1 : Int32) (h : I54 T) : iv (rb_Parser_parseFields F nf T p1) := by
    unfold rb_Parser_parseFields
    repeat' first
      | with_reducible exact iv_none
      | with_reducible refine iv_some ?_
      | with_reducible refine iv_ite (fun _ => ?_) (fun _ => ?_)
      | with_reducible refine iv_gd ?_
      | with_reducible refine iv_stK ?_ (fun _ _ => ?_)
      | with_reducible refine iv_vK (fun _ => ?_)
      | with_reducible refine iv_lK (fun _ => ?_)
      | with_reducible refine iv_bi ?_ (fun _ _ _ _ => ?_)
      | with_reducible refine hF _ _ _ _ ?_ ?_
      | with_reducible refine iv_rl_Parser_parseFields_8 hF  _ _ _ _ ?_
      | assumption
      | with_reducible refine i54_sI ?_ (by decide) (by decide)
      | with_reducible refine i54_sJ ?_
      | with_reducible refine i54_sA ?_ (by decide) (by decide)
      | with_reducible exact ivA_o (by decide) (by decide)
      | with_reducible refine ivA_47 ?_
      | with_reducible refine ivA_142 ?_
      | decide
theorem iv_rb_Parser_parsePart (hF : ivF F) (T : gSt) (p1 : Int32) (h : I54 T) : iv (rb_Parser_parsePart F nf T p1) := by
    unfold rb_Parser_parsePart
    repeat' first
      | with_reducible exact iv_none
      | with_reducible refine iv_some ?_
      | with_reducible refine iv_ite (fun _ => ?_) (fun _ => ?_)
      | with_reducible refine iv_gd ?_
      | with_reducible refine iv_stK ?_ (fun _ _ => ?_)
      | with_reducible refine iv_vK (fun _ => ?_)
      | with_reducible refine iv_lK (fun _ => ?_)
      | with_reducible refine iv_bi ?_ (fun _ _ _ _ => ?_)
      | with_reducible refine hF _ _ _ _ ?_ ?_
      | assumption
      | with_reducible refine i54_sI ?_ (by decide) (by decide)
      | with_reducible refine i54_sJ ?_
      | with_reducible refine i54_sA ?_ (by decide) (by decide)
      | with_reducible exact ivA_o (by decide) (by decide)
      | with_reducible refine ivA_47 ?_
      | with_reducible refine ivA_142 ?_
      | decide
theorem iv_rj_Parser_parseFun_112 (hF : ivF F) (T : gSt) (x1 : Int32) (h : I54 T) : iv (rj_Parser_parseFun_112 F nf T x1) := by
    unfold rj_Parser_parseFun_112
    repeat' first
      | with_reducible exact iv_none
      | with_reducible refine iv_some ?_
      | with_reducible refine iv_ite (fun _ => ?_) (fun _ => ?_)
      | with_reducible refine iv_gd ?_
      | with_reducible refine iv_stK ?_ (fun _ _ => ?_)
      | with_reducible refine iv_vK (fun _ => ?_)
      | with_reducible refine iv_lK (fun _ => ?_)
      | with_reducible refine iv_bi ?_ (fun _ _ _ _ => ?_)
      | with_reducible refine hF _ _ _ _ ?_ ?_
      | assumption
      | with_reducible refine i54_sI ?_ (by decide) (by decide)
      | with_reducible refine i54_sJ ?_
      | with_reducible refine i54_sA ?_ (by decide) (by decide)
      | with_reducible exact ivA_o (by decide) (by decide)
      | with_reducible refine ivA_47 ?_
      | with_reducible refine ivA_142 ?_
      | decide
theorem iv_rj_Parser_parseFun_84 (hF : ivF F) (T : gSt) (x1 : Int32) (h : I54 T) : iv (rj_Parser_parseFun_84 F nf T x1) := by
    unfold rj_Parser_parseFun_84
    repeat' first
      | with_reducible exact iv_none
      | with_reducible refine iv_some ?_
      | with_reducible refine iv_ite (fun _ => ?_) (fun _ => ?_)
      | with_reducible refine iv_gd ?_
      | with_reducible refine iv_stK ?_ (fun _ _ => ?_)
      | with_reducible refine iv_vK (fun _ => ?_)
      | with_reducible refine iv_lK (fun _ => ?_)
      | with_reducible refine iv_bi ?_ (fun _ _ _ _ => ?_)
      | with_reducible refine hF _ _ _ _ ?_ ?_
      | with_reducible refine iv_rj_Parser_parseFun_112 hF  _ _ ?_
      | assumption
      | with_reducible refine i54_sI ?_ (by decide) (by decide)
      | with_reducible refine i54_sJ ?_
      | with_reducible refine i54_sA ?_ (by decide) (by decide)
      | with_reducible exact ivA_o (by decide) (by decide)
      | with_reducible refine ivA_47 ?_
      | with_reducible refine ivA_142 ?_
      | decide
theorem iv_rj_Parser_parseFun_49 (hF : ivF F) (T : gSt) (x1 : Int32) (h : I54 T) : iv (rj_Parser_parseFun_49 F nf T x1) := by
    unfold rj_Parser_parseFun_49
    repeat' first
      | with_reducible exact iv_none
      | with_reducible refine iv_some ?_
      | with_reducible refine iv_ite (fun _ => ?_) (fun _ => ?_)
      | with_reducible refine iv_gd ?_
      | with_reducible refine iv_stK ?_ (fun _ _ => ?_)
      | with_reducible refine iv_vK (fun _ => ?_)
      | with_reducible refine iv_lK (fun _ => ?_)
      | with_reducible refine iv_bi ?_ (fun _ _ _ _ => ?_)
      | with_reducible refine hF _ _ _ _ ?_ ?_
      | with_reducible refine iv_rj_Parser_parseFun_84 hF  _ _ ?_
      | assumption
      | with_reducible refine i54_sI ?_ (by decide) (by decide)
      | with_reducible refine i54_sJ ?_
      | with_reducible refine i54_sA ?_ (by decide) (by decide)
      | with_reducible exact ivA_o (by decide) (by decide)
      | with_reducible refine ivA_47 ?_
      | with_reducible refine ivA_142 ?_
      | decide
theorem iv_rb_Parser_parseFun (hF : ivF F) (T : gSt) (p1 : Int32) (h : I54 T) : iv (rb_Parser_parseFun F nf T p1) := by
    unfold rb_Parser_parseFun
    repeat' first
      | with_reducible exact iv_none
      | with_reducible refine iv_some ?_
      | with_reducible refine iv_ite (fun _ => ?_) (fun _ => ?_)
      | with_reducible refine iv_gd ?_
      | with_reducible refine iv_stK ?_ (fun _ _ => ?_)
      | with_reducible refine iv_vK (fun _ => ?_)
      | with_reducible refine iv_lK (fun _ => ?_)
      | with_reducible refine iv_bi ?_ (fun _ _ _ _ => ?_)
      | with_reducible refine hF _ _ _ _ ?_ ?_
      | with_reducible refine iv_rj_Parser_parseFun_49 hF  _ _ ?_
      | assumption
      | with_reducible refine i54_sI ?_ (by decide) (by decide)
      | with_reducible refine i54_sJ ?_
      | with_reducible refine i54_sA ?_ (by decide) (by decide)
      | with_reducible exact ivA_o (by decide) (by decide)
      | with_reducible refine ivA_47 ?_
      | with_reducible refine ivA_142 ?_
      | decide
theorem iv_rj_Parser_parseParameters_37 (hF : ivF F) {rec_17 : gSt → Int32 → Int32 → Int32 → gR} (hrec_17 : ∀ T a0 a1 a2, I54 T → iv (rec_17 T a0 a1 a2)) (T : gSt) (x1 : Int32) (x3 : Int32) (h : I54 T) : iv (rj_Parser_parseParameters_37 F nf rec_17 T x1 x3) := by
    unfold rj_Parser_parseParameters_37
    repeat' first
      | with_reducible exact iv_none
      | with_reducible refine iv_some ?_
      | with_reducible refine iv_ite (fun _ => ?_) (fun _ => ?_)
      | with_reducible refine iv_gd ?_
      | with_reducible refine iv_stK ?_ (fun _ _ => ?_)
      | with_reducible refine iv_vK (fun _ => ?_)
      | with_reducible refine iv_lK (fun _ => ?_)
      | with_reducible refine iv_bi ?_ (fun _ _ _ _ => ?_)
      | with_reducible refine hF _ _ _ _ ?_ ?_
      | with_reducible refine hrec_17 _ _ _ _ ?_
      | assumption
      | with_reducible refine i54_sI ?_ (by decide) (by decide)
      | with_reducible refine i54_sJ ?_
      | with_reducible refine i54_sA ?_ (by decide) (by decide)
      | with_reducible exact ivA_o (by decide) (by decide)
      | with_reducible refine ivA_47 ?_
      | with_reducible refine ivA_142 ?_
      | decide
theorem iv_rl_Parser_parseParameters_17 (hF : ivF F) : ∀ (n : Nat) (T : gSt) (x0 : Int32) (x1 : Int32) (x2 : Int32), I54 T → iv (rl_Parser_parseParameters_17 F nf n T x0 x1 x2) := by
  intro n
  induction n with
  | zero =>
    intro T x0 x1 x2 h
    rw [rl_Parser_parseParameters_17]
    exact iv_none
  | succ n ih =>
    intro T x0 x1 x2 h
    rw [rl_Parser_parseParameters_17]
    repeat' first
      | with_reducible exact iv_none
      | with_reducible refine iv_some ?_
      | with_reducible refine iv_ite (fun _ => ?_) (fun _ => ?_)
      | with_reducible refine iv_gd ?_
      | with_reducible refine iv_stK ?_ (fun _ _ => ?_)
      | with_reducible refine iv_vK (fun _ => ?_)
      | with_reducible refine iv_lK (fun _ => ?_)
      | with_reducible refine iv_bi ?_ (fun _ _ _ _ => ?_)
      | with_reducible refine hF _ _ _ _ ?_ ?_
      | with_reducible refine iv_rj_Parser_parseParameters_37 hF ?_ _ _ _ ?_
      | with_reducible refine ih _ _ _ _ ?_
      | assumption
      | with_reducible refine i54_sI ?_ (by decide) (by decide)
      | with_reducible refine i54_sJ ?_
      | with_reducible refine i54_sA ?_ (by decide) (by decide)
      | with_reducible exact ivA_o (by decide) (by decide)
      | with_reducible refine ivA_47 ?_
      | with_reducible refine ivA_142 ?_
      | decide
theorem iv_rb_Parser_parseParameters (hF : ivF F) (T : gSt) (p1 : Int32) (h : I54 T) : iv (rb_Parser_parseParameters F nf T p1) := by
    unfold rb_Parser_parseParameters
    repeat' first
      | with_reducible exact iv_none
      | with_reducible refine iv_some ?_
      | with_reducible refine iv_ite (fun _ => ?_) (fun _ => ?_)
      | with_reducible refine iv_gd ?_
      | with_reducible refine iv_stK ?_ (fun _ _ => ?_)
      | with_reducible refine iv_vK (fun _ => ?_)
      | with_reducible refine iv_lK (fun _ => ?_)
      | with_reducible refine iv_bi ?_ (fun _ _ _ _ => ?_)
      | with_reducible refine hF _ _ _ _ ?_ ?_
      | with_reducible refine iv_rl_Parser_parseParameters_17 hF  _ _ _ _ _ ?_
      | assumption
      | with_reducible refine i54_sI ?_ (by decide) (by decide)
      | with_reducible refine i54_sJ ?_
      | with_reducible refine i54_sA ?_ (by decide) (by decide)
      | with_reducible exact ivA_o (by decide) (by decide)
      | with_reducible refine ivA_47 ?_
      | with_reducible refine ivA_142 ?_
      | decide
theorem iv_rj_Parser_parseWhere_22 (hF : ivF F) {rec_4 : gSt → Int32 → Int32 → gR} (hrec_4 : ∀ T a0 a1, I54 T → iv (rec_4 T a0 a1)) (T : gSt) (x2 : Int32) (h : I54 T) : iv (rj_Parser_parseWhere_22 F nf rec_4 T x2) := by
    unfold rj_Parser_parseWhere_22
    repeat' first
      | with_reducible exact iv_none
      | with_reducible refine iv_some ?_
      | with_reducible refine iv_ite (fun _ => ?_) (fun _ => ?_)
      | with_reducible refine iv_gd ?_
      | with_reducible refine iv_stK ?_ (fun _ _ => ?_)
      | with_reducible refine iv_vK (fun _ => ?_)
      | with_reducible refine iv_lK (fun _ => ?_)
      | with_reducible refine iv_bi ?_ (fun _ _ _ _ => ?_)
      | with_reducible refine hF _ _ _ _ ?_ ?_
      | with_reducible refine hrec_4 _ _ _ ?_
      | assumption
      | with_reducible refine i54_sI ?_ (by decide) (by decide)
      | with_reducible refine i54_sJ ?_
      | with_reducible refine i54_sA ?_ (by decide) (by decide)
      | with_reducible exact ivA_o (by decide) (by decide)
      | with_reducible refine ivA_47 ?_
      | with_reducible refine ivA_142 ?_
      | decide
theorem iv_rl_Parser_parseWhere_4 (hF : ivF F) : ∀ (n : Nat) (T : gSt) (x0 : Int32) (x1 : Int32), I54 T → iv (rl_Parser_parseWhere_4 F nf n T x0 x1) := by
  intro n
  induction n with
  | zero =>
    intro T x0 x1 h
    rw [rl_Parser_parseWhere_4]
    exact iv_none
  | succ n ih =>
    intro T x0 x1 h
    rw [rl_Parser_parseWhere_4]
    repeat' first
      | with_reducible exact iv_none
      | with_reducible refine iv_some ?_
      | with_reducible refine iv_ite (fun _ => ?_) (fun _ => ?_)
      | with_reducible refine iv_gd ?_
      | with_reducible refine iv_stK ?_ (fun _ _ => ?_)
      | with_reducible refine iv_vK (fun _ => ?_)
      | with_reducible refine iv_lK (fun _ => ?_)
      | with_reducible refine iv_bi ?_ (fun _ _ _ _ => ?_)
      | with_reducible refine hF _ _ _ _ ?_ ?_
      | with_reducible refine iv_rj_Parser_parseWhere_22 hF ?_ _ _ ?_
      | with_reducible refine ih _ _ _ ?_
      | assumption
      | with_reducible refine i54_sI ?_ (by decide) (by decide)
      | with_reducible refine i54_sJ ?_
      | with_reducible refine i54_sA ?_ (by decide) (by decide)
      | with_reducible exact ivA_o (by decide) (by decide)
      | with_reducible refine ivA_47 ?_
      | with_reducible refine ivA_142 ?_
      | decide
theorem iv_rb_Parser_parseWhere (hF : ivF F) (T : gSt) (h : I54 T) : iv (rb_Parser_parseWhere F nf T) := by
    unfold rb_Parser_parseWhere
    repeat' first
      | with_reducible exact iv_none
      | with_reducible refine iv_some ?_
      | with_reducible refine iv_ite (fun _ => ?_) (fun _ => ?_)
      | with_reducible refine iv_gd ?_
      | with_reducible refine iv_stK ?_ (fun _ _ => ?_)
      | with_reducible refine iv_vK (fun _ => ?_)
      | with_reducible refine iv_lK (fun _ => ?_)
      | with_reducible refine iv_bi ?_ (fun _ _ _ _ => ?_)
      | with_reducible refine hF _ _ _ _ ?_ ?_
      | with_reducible refine iv_rl_Parser_parseWhere_4 hF  _ _ _ _ ?_
      | assumption
      | with_reducible refine i54_sI ?_ (by decide) (by decide)
      | with_reducible refine i54_sJ ?_
      | with_reducible refine i54_sA ?_ (by decide) (by decide)
      | with_reducible exact ivA_o (by decide) (by decide)
      | with_reducible refine ivA_47 ?_
      | with_reducible refine ivA_142 ?_
      | decide
theorem iv_rj_Parser_parseType_34 (hF : ivF F) (T : gSt) (x1 : Int32) (h : I54 T) : iv (rj_Parser_parseType_34 F nf T x1) := by
    unfold rj_Parser_parseType_34
    repeat' first
      | with_reducible exact iv_none
      | with_reducible refine iv_some ?_
      | with_reducible refine iv_ite (fun _ => ?_) (fun _ => ?_)
      | with_reducible refine iv_gd ?_
      | with_reducible refine iv_stK ?_ (fun _ _ => ?_)
      | with_reducible refine iv_vK (fun _ => ?_)
      | with_reducible refine iv_lK (fun _ => ?_)
      | with_reducible refine iv_bi ?_ (fun _ _ _ _ => ?_)
      | with_reducible refine hF _ _ _ _ ?_ ?_
      | assumption
      | with_reducible refine i54_sI ?_ (by decide) (by decide)
      | with_reducible refine i54_sJ ?_
      | with_reducible refine i54_sA ?_ (by decide) (by decide)
      | with_reducible exact ivA_o (by decide) (by decide)
      | with_reducible refine ivA_47 ?_
      | with_reducible refine ivA_142 ?_
      | decide
theorem iv_rb_Parser_parseType (hF : ivF F) (T : gSt) (p1 : Int32) (p2 : Int32) (h : I54 T) : iv (rb_Parser_parseType F nf T p1 p2) := by
    unfold rb_Parser_parseType
    repeat' first
      | with_reducible exact iv_none
      | with_reducible refine iv_some ?_
      | with_reducible refine iv_ite (fun _ => ?_) (fun _ => ?_)
      | with_reducible refine iv_gd ?_
      | with_reducible refine iv_stK ?_ (fun _ _ => ?_)
      | with_reducible refine iv_vK (fun _ => ?_)
      | with_reducible refine iv_lK (fun _ => ?_)
      | with_reducible refine iv_bi ?_ (fun _ _ _ _ => ?_)
      | with_reducible refine hF _ _ _ _ ?_ ?_
      | with_reducible refine iv_rj_Parser_parseType_34 hF  _ _ ?_
      | assumption
      | with_reducible refine i54_sI ?_ (by decide) (by decide)
      | with_reducible refine i54_sJ ?_
      | with_reducible refine i54_sA ?_ (by decide) (by decide)
      | with_reducible exact ivA_o (by decide) (by decide)
      | with_reducible refine ivA_47 ?_
      | with_reducible refine ivA_142 ?_
      | decide
theorem iv_rl_Parser_parseBlock_25 (hF : ivF F) : ∀ (n : Nat) (T : gSt) (x0 : Int32) (x1 : Int32) (x2 : Int32) (x3 : Int32), I54 T → iv (rl_Parser_parseBlock_25 F nf n T x0 x1 x2 x3) := by
  intro n
  induction n with
  | zero =>
    intro T x0 x1 x2 x3 h
    rw [rl_Parser_parseBlock_25]
    exact iv_none
  | succ n ih =>
    intro T x0 x1 x2 x3 h
    rw [rl_Parser_parseBlock_25]
    repeat' first
      | with_reducible exact iv_none
      | with_reducible refine iv_some ?_
      | with_reducible refine iv_ite (fun _ => ?_) (fun _ => ?_)
      | with_reducible refine iv_gd ?_
      | with_reducible refine iv_stK ?_ (fun _ _ => ?_)
      | with_reducible refine iv_vK (fun _ => ?_)
      | with_reducible refine iv_lK (fun _ => ?_)
      | with_reducible refine iv_bi ?_ (fun _ _ _ _ => ?_)
      | with_reducible refine hF _ _ _ _ ?_ ?_
      | with_reducible refine ih _ _ _ _ _ ?_
      | assumption
      | with_reducible refine i54_sI ?_ (by decide) (by decide)
      | with_reducible refine i54_sJ ?_
      | with_reducible refine i54_sA ?_ (by decide) (by decide)
      | with_reducible exact ivA_o (by decide) (by decide)
      | with_reducible refine ivA_47 ?_
      | with_reducible refine ivA_142 ?_
      | decide
theorem iv_rb_Parser_parseBlock (hF : ivF F) (T : gSt) (p1 : Int32) (h : I54 T) : iv (rb_Parser_parseBlock F nf T p1) := by
    unfold rb_Parser_parseBlock
    repeat' first
      | with_reducible exact iv_none
      | with_reducible refine iv_some ?_
      | with_reducible refine iv_ite (fun _ => ?_) (fun _ => ?_)
      | with_reducible refine iv_gd ?_
      | with_reducible refine iv_stK ?_ (fun _ _ => ?_)
      | with_reducible refine iv_vK (fun _ => ?_)
      | with_reducible refine iv_lK (fun _ => ?_)
      | with_reducible refine iv_bi ?_ (fun _ _ _ _ => ?_)
      | with_reducible refine hF _ _ _ _ ?_ ?_
      | with_reducible refine iv_rl_Parser_parseBlock_25 hF  _ _ _ _ _ _ ?_
      | assumption
      | with_reducible refine i54_sI ?_ (by decide) (by decide)
      | with_reducible refine i54_sJ ?_
      | with_reducible refine i54_sA ?_ (by decide) (by decide)
      | with_reducible exact ivA_o (by decide) (by decide)
      | with_reducible refine ivA_47 ?_
      | with_reducible refine ivA_142 ?_
      | decide
theorem iv_rb_Parser_parseStep (hF : ivF F) (T : gSt) (p1 : Int32) (h : I54 T) : iv (rb_Parser_parseStep F nf T p1) := by
    unfold rb_Parser_parseStep
    repeat' first
      | with_reducible exact iv_none
      | with_reducible refine iv_some ?_
      | with_reducible refine iv_ite (fun _ => ?_) (fun _ => ?_)
      | with_reducible refine iv_gd ?_
      | with_reducible refine iv_stK ?_ (fun _ _ => ?_)
      | with_reducible refine iv_vK (fun _ => ?_)
      | with_reducible refine iv_lK (fun _ => ?_)
      | with_reducible refine iv_bi ?_ (fun _ _ _ _ => ?_)
      | with_reducible refine hF _ _ _ _ ?_ ?_
      | assumption
      | with_reducible refine i54_sI ?_ (by decide) (by decide)
      | with_reducible refine i54_sJ ?_
      | with_reducible refine i54_sA ?_ (by decide) (by decide)
      | with_reducible exact ivA_o (by decide) (by decide)
      | with_reducible refine ivA_47 ?_
      | with_reducible refine ivA_142 ?_
      | decide
theorem iv_rj_Parser_parseVar_31 (hF : ivF F) (T : gSt) (x1 : Int32) (x2 : Int32) (h : I54 T) : iv (rj_Parser_parseVar_31 F nf T x1 x2) := by
    unfold rj_Parser_parseVar_31
    repeat' first
      | with_reducible exact iv_none
      | with_reducible refine iv_some ?_
      | with_reducible refine iv_ite (fun _ => ?_) (fun _ => ?_)
      | with_reducible refine iv_gd ?_
      | with_reducible refine iv_stK ?_ (fun _ _ => ?_)
      | with_reducible refine iv_vK (fun _ => ?_)
      | with_reducible refine iv_lK (fun _ => ?_)
      | with_reducible refine iv_bi ?_ (fun _ _ _ _ => ?_)
      | with_reducible refine hF _ _ _ _ ?_ ?_
      | assumption
      | with_reducible refine i54_sI ?_ (by decide) (by decide)
      | with_reducible refine i54_sJ ?_
      | with_reducible refine i54_sA ?_ (by decide) (by decide)
      | with_reducible exact ivA_o (by decide) (by decide)
      | with_reducible refine ivA_47 ?_
      | with_reducible refine ivA_142 ?_
      | decide
theorem iv_rb_Parser_parseVar (hF : ivF F) (T : gSt) (p1 : Int32) (h : I54 T) : iv (rb_Parser_parseVar F nf T p1) := by
    unfold rb_Parser_parseVar
    repeat' first
      | with_reducible exact iv_none
      | with_reducible refine iv_some ?_
      | with_reducible refine iv_ite (fun _ => ?_) (fun _ => ?_)
      | with_reducible refine iv_gd ?_
      | with_reducible refine iv_stK ?_ (fun _ _ => ?_)
      | with_reducible refine iv_vK (fun _ => ?_)
      | with_reducible refine iv_lK (fun _ => ?_)
      | with_reducible refine iv_bi ?_ (fun _ _ _ _ => ?_)
      | with_reducible refine hF _ _ _ _ ?_ ?_
      | with_reducible refine iv_rj_Parser_parseVar_31 hF  _ _ _ ?_
      | assumption
      | with_reducible refine i54_sI ?_ (by decide) (by decide)
      | with_reducible refine i54_sJ ?_
      | with_reducible refine i54_sA ?_ (by decide) (by decide)
      | with_reducible exact ivA_o (by decide) (by decide)
      | with_reducible refine ivA_47 ?_
      | with_reducible refine ivA_142 ?_
      | decide
theorem iv_rb_Parser_parseChoice (hF : ivF F) (T : gSt) (p1 : Int32) (p2 : Int32) (h : I54 T) : iv (rb_Parser_parseChoice F nf T p1 p2) := by
    unfold rb_Parser_parseChoice
    repeat' first
      | with_reducible exact iv_none
      | with_reducible refine iv_some ?_
      | with_reducible refine iv_ite (fun _ => ?_) (fun _ => ?_)
      | with_reducible refine iv_gd ?_
      | with_reducible refine iv_stK ?_ (fun _ _ => ?_)
      | with_reducible refine iv_vK (fun _ => ?_)
      | with_reducible refine iv_lK (fun _ => ?_)
      | with_reducible refine iv_bi ?_ (fun _ _ _ _ => ?_)
      | with_reducible refine hF _ _ _ _ ?_ ?_
      | assumption
      | with_reducible refine i54_sI ?_ (by decide) (by decide)
      | with_reducible refine i54_sJ ?_
      | with_reducible refine i54_sA ?_ (by decide) (by decide)
      | with_reducible exact ivA_o (by decide) (by decide)
      | with_reducible refine ivA_47 ?_
      | with_reducible refine ivA_142 ?_
      | decide
theorem iv_rj_Parser_parseRegionStep_19 (hF : ivF F) (T : gSt) (x1 : Int32) (x2 : Int32) (h : I54 T) : iv (rj_Parser_parseRegionStep_19 F nf T x1 x2) := by
    unfold rj_Parser_parseRegionStep_19
    repeat' first
      | with_reducible exact iv_none
      | with_reducible refine iv_some ?_
      | with_reducible refine iv_ite (fun _ => ?_) (fun _ => ?_)
      | with_reducible refine iv_gd ?_
      | with_reducible refine iv_stK ?_ (fun _ _ => ?_)
      | with_reducible refine iv_vK (fun _ => ?_)
      | with_reducible refine iv_lK (fun _ => ?_)
      | with_reducible refine iv_bi ?_ (fun _ _ _ _ => ?_)
      | with_reducible refine hF _ _ _ _ ?_ ?_
      | assumption
      | with_reducible refine i54_sI ?_ (by decide) (by decide)
      | with_reducible refine i54_sJ ?_
      | with_reducible refine i54_sA ?_ (by decide) (by decide)
      | with_reducible exact ivA_o (by decide) (by decide)
      | with_reducible refine ivA_47 ?_
      | with_reducible refine ivA_142 ?_
      | decide
theorem iv_rb_Parser_parseRegionStep (hF : ivF F) (T : gSt) (p1 : Int32) (p2 : Int32) (h : I54 T) : iv (rb_Parser_parseRegionStep F nf T p1 p2) := by
    unfold rb_Parser_parseRegionStep
    repeat' first
      | with_reducible exact iv_none
      | with_reducible refine iv_some ?_
      | with_reducible refine iv_ite (fun _ => ?_) (fun _ => ?_)
      | with_reducible refine iv_gd ?_
      | with_reducible refine iv_stK ?_ (fun _ _ => ?_)
      | with_reducible refine iv_vK (fun _ => ?_)
      | with_reducible refine iv_lK (fun _ => ?_)
      | with_reducible refine iv_bi ?_ (fun _ _ _ _ => ?_)
      | with_reducible refine hF _ _ _ _ ?_ ?_
      | with_reducible refine iv_rj_Parser_parseRegionStep_19 hF  _ _ _ ?_
      | assumption
      | with_reducible refine i54_sI ?_ (by decide) (by decide)
      | with_reducible refine i54_sJ ?_
      | with_reducible refine i54_sA ?_ (by decide) (by decide)
      | with_reducible exact ivA_o (by decide) (by decide)
      | with_reducible refine ivA_47 ?_
      | with_reducible refine ivA_142 ?_
      | decide
theorem iv_rb_Parser_parseTry (hF : ivF F) (T : gSt) (p1 : Int32) (h : I54 T) : iv (rb_Parser_parseTry F nf T p1) := by
    unfold rb_Parser_parseTry
    repeat' first
      | with_reducible exact iv_none
      | with_reducible refine iv_some ?_
      | with_reducible refine iv_ite (fun _ => ?_) (fun _ => ?_)
      | with_reducible refine iv_gd ?_
      | with_reducible refine iv_stK ?_ (fun _ _ => ?_)
      | with_reducible refine iv_vK (fun _ => ?_)
      | with_reducible refine iv_lK (fun _ => ?_)
      | with_reducible refine iv_bi ?_ (fun _ _ _ _ => ?_)
      | with_reducible refine hF _ _ _ _ ?_ ?_
      | assumption
      | with_reducible refine i54_sI ?_ (by decide) (by decide)
      | with_reducible refine i54_sJ ?_
      | with_reducible refine i54_sA ?_ (by decide) (by decide)
      | with_reducible exact ivA_o (by decide) (by decide)
      | with_reducible refine ivA_47 ?_
      | with_reducible refine ivA_142 ?_
      | decide
theorem iv_rj_Parser_parseWordStep_32 (hF : ivF F) (T : gSt) (x2 : Int32) (x3 : Int32) (h : I54 T) : iv (rj_Parser_parseWordStep_32 F nf T x2 x3) := by
    unfold rj_Parser_parseWordStep_32
    repeat' first
      | with_reducible exact iv_none
      | with_reducible refine iv_some ?_
      | with_reducible refine iv_ite (fun _ => ?_) (fun _ => ?_)
      | with_reducible refine iv_gd ?_
      | with_reducible refine iv_stK ?_ (fun _ _ => ?_)
      | with_reducible refine iv_vK (fun _ => ?_)
      | with_reducible refine iv_lK (fun _ => ?_)
      | with_reducible refine iv_bi ?_ (fun _ _ _ _ => ?_)
      | with_reducible refine hF _ _ _ _ ?_ ?_
      | assumption
      | with_reducible refine i54_sI ?_ (by decide) (by decide)
      | with_reducible refine i54_sJ ?_
      | with_reducible refine i54_sA ?_ (by decide) (by decide)
      | with_reducible exact ivA_o (by decide) (by decide)
      | with_reducible refine ivA_47 ?_
      | with_reducible refine ivA_142 ?_
      | decide
theorem iv_rb_Parser_parseWordStep (hF : ivF F) (T : gSt) (p1 : Int32) (p2 : Int32) (h : I54 T) : iv (rb_Parser_parseWordStep F nf T p1 p2) := by
    unfold rb_Parser_parseWordStep
    repeat' first
      | with_reducible exact iv_none
      | with_reducible refine iv_some ?_
      | with_reducible refine iv_ite (fun _ => ?_) (fun _ => ?_)
      | with_reducible refine iv_gd ?_
      | with_reducible refine iv_stK ?_ (fun _ _ => ?_)
      | with_reducible refine iv_vK (fun _ => ?_)
      | with_reducible refine iv_lK (fun _ => ?_)
      | with_reducible refine iv_bi ?_ (fun _ _ _ _ => ?_)
      | with_reducible refine hF _ _ _ _ ?_ ?_
      | with_reducible refine iv_rj_Parser_parseWordStep_32 hF  _ _ _ ?_
      | assumption
      | with_reducible refine i54_sI ?_ (by decide) (by decide)
      | with_reducible refine i54_sJ ?_
      | with_reducible refine i54_sA ?_ (by decide) (by decide)
      | with_reducible exact ivA_o (by decide) (by decide)
      | with_reducible refine ivA_47 ?_
      | with_reducible refine ivA_142 ?_
      | decide
end IVS
