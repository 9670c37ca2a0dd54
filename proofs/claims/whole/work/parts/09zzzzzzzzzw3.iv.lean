section IVS
variable {F : gF} {nf : Nat}
theorem iv_rl_Steps_varsGiven_16 (hF : ivF F) : ∀ (n : Nat) (T : gSt) (x0 : Int32) (x1 : Int32) (x2 : Int32) (x3 : Int32), I54 T → iv (rl_Steps_varsGiven_16 F nf n T x0 x1 x2 x3) := by
  intro n
  induction n with
  | zero =>
    intro T x0 x1 x2 x3 h
    rw [rl_Steps_varsGiven_16]
    exact iv_none
  | succ n ih =>
    intro T x0 x1 x2 x3 h
    rw [rl_Steps_varsGiven_16]
    repeat' first
      | with_reducible exact iv_none
      | with_reducible refine iv_some ?_
      | with_reducible refine iv_ite (fun _ => ?_) (fun _ => ?_)
      | with_reducible refine iv_gd ?_
      | with_reducible refine iv_stK ?_ (fun _ _ => ?_)
      | with_reducible refine iv_vK (fun _ => ?_)
      | with_reducible refine iv_lK (fun _ => ?_)
      | with_reducible refine iv_bi ?_ (fun _ _ _ _ => ?_)
      | with_reducible refine hF _ _ _ _ ?_ ?_
      | with_reducible refine iv_rj_Steps_varsGiven_115 hF ?_ _ _ _ _ _ ?_
      | with_reducible refine ih _ _ _ _ _ ?_
      | assumption
      | with_reducible refine i54_sI ?_ (by decide) (by decide)
      | with_reducible refine i54_sJ ?_
      | with_reducible refine i54_sA ?_ (by decide) (by decide)
      | with_reducible exact ivA_o (by decide) (by decide)
      | with_reducible refine ivA_47 ?_
      | with_reducible refine ivA_142 ?_
      | decide
theorem iv_rb_Steps_varsGiven (hF : ivF F) (T : gSt) (p1 : Int32) (p2 : Int32) (h : I54 T) : iv (rb_Steps_varsGiven F nf T p1 p2) := by
    unfold rb_Steps_varsGiven
    repeat' first
      | with_reducible exact iv_none
      | with_reducible refine iv_some ?_
      | with_reducible refine iv_ite (fun _ => ?_) (fun _ => ?_)
      | with_reducible refine iv_gd ?_
      | with_reducible refine iv_stK ?_ (fun _ _ => ?_)
      | with_reducible refine iv_vK (fun _ => ?_)
      | with_reducible refine iv_lK (fun _ => ?_)
      | with_reducible refine iv_bi ?_ (fun _ _ _ _ => ?_)
      | with_reducible refine hF _ _ _ _ ?_ ?_
      | with_reducible refine iv_rl_Steps_varsGiven_16 hF  _ _ _ _ _ _ ?_
      | assumption
      | with_reducible refine i54_sI ?_ (by decide) (by decide)
      | with_reducible refine i54_sJ ?_
      | with_reducible refine i54_sA ?_ (by decide) (by decide)
      | with_reducible exact ivA_o (by decide) (by decide)
      | with_reducible refine ivA_47 ?_
      | with_reducible refine ivA_142 ?_
      | decide
theorem iv_rb_Machine_halt (hF : ivF F) (T : gSt) (h : I54 T) : iv (rb_Machine_halt F nf T) := by
    unfold rb_Machine_halt
    repeat' first
      | with_reducible exact iv_none
      | with_reducible refine iv_some ?_
      | with_reducible refine iv_ite (fun _ => ?_) (fun _ => ?_)
      | with_reducible refine iv_gd ?_
      | with_reducible refine iv_stK ?_ (fun _ _ => ?_)
      | with_reducible refine iv_vK (fun _ => ?_)
      | with_reducible refine iv_lK (fun _ => ?_)
      | with_reducible refine iv_bi ?_ (fun _ _ _ _ => ?_)
      | with_reducible refine hF _ _ _ _ ?_ ?_
      | assumption
      | with_reducible refine i54_sI ?_ (by decide) (by decide)
      | with_reducible refine i54_sJ ?_
      | with_reducible refine i54_sA ?_ (by decide) (by decide)
      | with_reducible exact ivA_o (by decide) (by decide)
      | with_reducible refine ivA_47 ?_
      | with_reducible refine ivA_142 ?_
      | decide
theorem iv_rb_Machine_begin (hF : ivF F) (T : gSt) (p1 : Int32) (p2 : Int32) (h : I54 T) : iv (rb_Machine_begin F nf T p1 p2) := by
    unfold rb_Machine_begin
    repeat' first
      | with_reducible exact iv_none
      | with_reducible refine iv_some ?_
      | with_reducible refine iv_ite (fun _ => ?_) (fun _ => ?_)
      | with_reducible refine iv_gd ?_
      | with_reducible refine iv_stK ?_ (fun _ _ => ?_)
      | with_reducible refine iv_vK (fun _ => ?_)
      | with_reducible refine iv_lK (fun _ => ?_)
      | with_reducible refine iv_bi ?_ (fun _ _ _ _ => ?_)
      | with_reducible refine hF _ _ _ _ ?_ ?_
      | assumption
      | with_reducible refine i54_sI ?_ (by decide) (by decide)
      | with_reducible refine i54_sJ ?_
      | with_reducible refine i54_sA ?_ (by decide) (by decide)
      | with_reducible exact ivA_o (by decide) (by decide)
      | with_reducible refine ivA_47 ?_
      | with_reducible refine ivA_142 ?_
      | decide
theorem iv_rb_Machine_takeInput (hF : ivF F) (T : gSt) (p1 : Int32) (h : I54 T) : iv (rb_Machine_takeInput F nf T p1) := by
    unfold rb_Machine_takeInput
    repeat' first
      | with_reducible exact iv_none
      | with_reducible refine iv_some ?_
      | with_reducible refine iv_ite (fun _ => ?_) (fun _ => ?_)
      | with_reducible refine iv_gd ?_
      | with_reducible refine iv_stK ?_ (fun _ _ => ?_)
      | with_reducible refine iv_vK (fun _ => ?_)
      | with_reducible refine iv_lK (fun _ => ?_)
      | with_reducible refine iv_bi ?_ (fun _ _ _ _ => ?_)
      | with_reducible refine hF _ _ _ _ ?_ ?_
      | assumption
      | with_reducible refine i54_sI ?_ (by decide) (by decide)
      | with_reducible refine i54_sJ ?_
      | with_reducible refine i54_sA ?_ (by decide) (by decide)
      | with_reducible exact ivA_o (by decide) (by decide)
      | with_reducible refine ivA_47 ?_
      | with_reducible refine ivA_142 ?_
      | decide
theorem iv_rl_Machine_doSteps_2 (hF : ivF F) : ∀ (n : Nat) (T : gSt) (x0 : Int32) (x1 : Int32), I54 T → iv (rl_Machine_doSteps_2 F nf n T x0 x1) := by
  intro n
  induction n with
  | zero =>
    intro T x0 x1 h
    rw [rl_Machine_doSteps_2]
    exact iv_none
  | succ n ih =>
    intro T x0 x1 h
    rw [rl_Machine_doSteps_2]
    repeat' first
      | with_reducible exact iv_none
      | with_reducible refine iv_some ?_
      | with_reducible refine iv_ite (fun _ => ?_) (fun _ => ?_)
      | with_reducible refine iv_gd ?_
      | with_reducible refine iv_stK ?_ (fun _ _ => ?_)
      | with_reducible refine iv_vK (fun _ => ?_)
      | with_reducible refine iv_lK (fun _ => ?_)
      | with_reducible refine iv_bi ?_ (fun _ _ _ _ => ?_)
      | with_reducible refine hF _ _ _ _ ?_ ?_
      | with_reducible refine ih _ _ _ ?_
      | assumption
      | with_reducible refine i54_sI ?_ (by decide) (by decide)
      | with_reducible refine i54_sJ ?_
      | with_reducible refine i54_sA ?_ (by decide) (by decide)
      | with_reducible exact ivA_o (by decide) (by decide)
      | with_reducible refine ivA_47 ?_
      | with_reducible refine ivA_142 ?_
      | decide
theorem iv_rb_Machine_doSteps (hF : ivF F) (T : gSt) (p1 : Int32) (h : I54 T) : iv (rb_Machine_doSteps F nf T p1) := by
    unfold rb_Machine_doSteps
    repeat' first
      | with_reducible exact iv_none
      | with_reducible refine iv_some ?_
      | with_reducible refine iv_ite (fun _ => ?_) (fun _ => ?_)
      | with_reducible refine iv_gd ?_
      | with_reducible refine iv_stK ?_ (fun _ _ => ?_)
      | with_reducible refine iv_vK (fun _ => ?_)
      | with_reducible refine iv_lK (fun _ => ?_)
      | with_reducible refine iv_bi ?_ (fun _ _ _ _ => ?_)
      | with_reducible refine hF _ _ _ _ ?_ ?_
      | with_reducible refine iv_rl_Machine_doSteps_2 hF  _ _ _ _ ?_
      | assumption
      | with_reducible refine i54_sI ?_ (by decide) (by decide)
      | with_reducible refine i54_sJ ?_
      | with_reducible refine i54_sA ?_ (by decide) (by decide)
      | with_reducible exact ivA_o (by decide) (by decide)
      | with_reducible refine ivA_47 ?_
      | with_reducible refine ivA_142 ?_
      | decide
theorem iv_rl_Machine_goOn_2 (hF : ivF F) : ∀ (n : Nat) (T : gSt) (x0 : Int32), I54 T → iv (rl_Machine_goOn_2 F nf n T x0) := by
  intro n
  induction n with
  | zero =>
    intro T x0 h
    rw [rl_Machine_goOn_2]
    exact iv_none
  | succ n ih =>
    intro T x0 h
    rw [rl_Machine_goOn_2]
    repeat' first
      | with_reducible exact iv_none
      | with_reducible refine iv_some ?_
      | with_reducible refine iv_ite (fun _ => ?_) (fun _ => ?_)
      | with_reducible refine iv_gd ?_
      | with_reducible refine iv_stK ?_ (fun _ _ => ?_)
      | with_reducible refine iv_vK (fun _ => ?_)
      | with_reducible refine iv_lK (fun _ => ?_)
      | with_reducible refine iv_bi ?_ (fun _ _ _ _ => ?_)
      | with_reducible refine hF _ _ _ _ ?_ ?_
      | with_reducible refine ih _ _ ?_
      | assumption
      | with_reducible refine i54_sI ?_ (by decide) (by decide)
      | with_reducible refine i54_sJ ?_
      | with_reducible refine i54_sA ?_ (by decide) (by decide)
      | with_reducible exact ivA_o (by decide) (by decide)
      | with_reducible refine ivA_47 ?_
      | with_reducible refine ivA_142 ?_
      | decide
theorem iv_rb_Machine_goOn (hF : ivF F) (T : gSt) (h : I54 T) : iv (rb_Machine_goOn F nf T) := by
    unfold rb_Machine_goOn
    repeat' first
      | with_reducible exact iv_none
      | with_reducible refine iv_some ?_
      | with_reducible refine iv_ite (fun _ => ?_) (fun _ => ?_)
      | with_reducible refine iv_gd ?_
      | with_reducible refine iv_stK ?_ (fun _ _ => ?_)
      | with_reducible refine iv_vK (fun _ => ?_)
      | with_reducible refine iv_lK (fun _ => ?_)
      | with_reducible refine iv_bi ?_ (fun _ _ _ _ => ?_)
      | with_reducible refine hF _ _ _ _ ?_ ?_
      | with_reducible refine iv_rl_Machine_goOn_2 hF  _ _ _ ?_
      | assumption
      | with_reducible refine i54_sI ?_ (by decide) (by decide)
      | with_reducible refine i54_sJ ?_
      | with_reducible refine i54_sA ?_ (by decide) (by decide)
      | with_reducible exact ivA_o (by decide) (by decide)
      | with_reducible refine ivA_47 ?_
      | with_reducible refine ivA_142 ?_
      | decide
theorem iv_rb_Machine_push (hF : ivF F) (T : gSt) (p1 : Int32) (h : I54 T) : iv (rb_Machine_push F nf T p1) := by
    unfold rb_Machine_push
    repeat' first
      | with_reducible exact iv_none
      | with_reducible refine iv_some ?_
      | with_reducible refine iv_ite (fun _ => ?_) (fun _ => ?_)
      | with_reducible refine iv_gd ?_
      | with_reducible refine iv_stK ?_ (fun _ _ => ?_)
      | with_reducible refine iv_vK (fun _ => ?_)
      | with_reducible refine iv_lK (fun _ => ?_)
      | with_reducible refine iv_bi ?_ (fun _ _ _ _ => ?_)
      | with_reducible refine hF _ _ _ _ ?_ ?_
      | assumption
      | with_reducible refine i54_sI ?_ (by decide) (by decide)
      | with_reducible refine i54_sJ ?_
      | with_reducible refine i54_sA ?_ (by decide) (by decide)
      | with_reducible exact ivA_o (by decide) (by decide)
      | with_reducible refine ivA_47 ?_
      | with_reducible refine ivA_142 ?_
      | decide
theorem iv_rb_Machine_pop (hF : ivF F) (T : gSt) (h : I54 T) : iv (rb_Machine_pop F nf T) := by
    unfold rb_Machine_pop
    repeat' first
      | with_reducible exact iv_none
      | with_reducible refine iv_some ?_
      | with_reducible refine iv_ite (fun _ => ?_) (fun _ => ?_)
      | with_reducible refine iv_gd ?_
      | with_reducible refine iv_stK ?_ (fun _ _ => ?_)
      | with_reducible refine iv_vK (fun _ => ?_)
      | with_reducible refine iv_lK (fun _ => ?_)
      | with_reducible refine iv_bi ?_ (fun _ _ _ _ => ?_)
      | with_reducible refine hF _ _ _ _ ?_ ?_
      | assumption
      | with_reducible refine i54_sI ?_ (by decide) (by decide)
      | with_reducible refine i54_sJ ?_
      | with_reducible refine i54_sA ?_ (by decide) (by decide)
      | with_reducible exact ivA_o (by decide) (by decide)
      | with_reducible refine ivA_47 ?_
      | with_reducible refine ivA_142 ?_
      | decide
theorem iv_rb_Machine_wordAt (hF : ivF F) (T : gSt) (p1 : Int32) (h : I54 T) : iv (rb_Machine_wordAt F nf T p1) := by
    unfold rb_Machine_wordAt
    repeat' first
      | with_reducible exact iv_none
      | with_reducible refine iv_some ?_
      | with_reducible refine iv_ite (fun _ => ?_) (fun _ => ?_)
      | with_reducible refine iv_gd ?_
      | with_reducible refine iv_stK ?_ (fun _ _ => ?_)
      | with_reducible refine iv_vK (fun _ => ?_)
      | with_reducible refine iv_lK (fun _ => ?_)
      | with_reducible refine iv_bi ?_ (fun _ _ _ _ => ?_)
      | with_reducible refine hF _ _ _ _ ?_ ?_
      | assumption
      | with_reducible refine i54_sI ?_ (by decide) (by decide)
      | with_reducible refine i54_sJ ?_
      | with_reducible refine i54_sA ?_ (by decide) (by decide)
      | with_reducible exact ivA_o (by decide) (by decide)
      | with_reducible refine ivA_47 ?_
      | with_reducible refine ivA_142 ?_
      | decide
theorem iv_rb_Machine_setWord (hF : ivF F) (T : gSt) (p1 : Int32) (p2 : Int32) (h : I54 T) : iv (rb_Machine_setWord F nf T p1 p2) := by
    unfold rb_Machine_setWord
    repeat' first
      | with_reducible exact iv_none
      | with_reducible refine iv_some ?_
      | with_reducible refine iv_ite (fun _ => ?_) (fun _ => ?_)
      | with_reducible refine iv_gd ?_
      | with_reducible refine iv_stK ?_ (fun _ _ => ?_)
      | with_reducible refine iv_vK (fun _ => ?_)
      | with_reducible refine iv_lK (fun _ => ?_)
      | with_reducible refine iv_bi ?_ (fun _ _ _ _ => ?_)
      | with_reducible refine hF _ _ _ _ ?_ ?_
      | assumption
      | with_reducible refine i54_sI ?_ (by decide) (by decide)
      | with_reducible refine i54_sJ ?_
      | with_reducible refine i54_sA ?_ (by decide) (by decide)
      | with_reducible exact ivA_o (by decide) (by decide)
      | with_reducible refine ivA_47 ?_
      | with_reducible refine ivA_142 ?_
      | decide
theorem iv_rb_Machine_frame (hF : ivF F) (T : gSt) (p1 : Int32) (h : I54 T) : iv (rb_Machine_frame F nf T p1) := by
    unfold rb_Machine_frame
    repeat' first
      | with_reducible exact iv_none
      | with_reducible refine iv_some ?_
      | with_reducible refine iv_ite (fun _ => ?_) (fun _ => ?_)
      | with_reducible refine iv_gd ?_
      | with_reducible refine iv_stK ?_ (fun _ _ => ?_)
      | with_reducible refine iv_vK (fun _ => ?_)
      | with_reducible refine iv_lK (fun _ => ?_)
      | with_reducible refine iv_bi ?_ (fun _ _ _ _ => ?_)
      | with_reducible refine hF _ _ _ _ ?_ ?_
      | assumption
      | with_reducible refine i54_sI ?_ (by decide) (by decide)
      | with_reducible refine i54_sJ ?_
      | with_reducible refine i54_sA ?_ (by decide) (by decide)
      | with_reducible exact ivA_o (by decide) (by decide)
      | with_reducible refine ivA_47 ?_
      | with_reducible refine ivA_142 ?_
      | decide
theorem iv_rb_Machine_setFrame (hF : ivF F) (T : gSt) (p1 : Int32) (p2 : Int32) (h : I54 T) : iv (rb_Machine_setFrame F nf T p1 p2) := by
    unfold rb_Machine_setFrame
    repeat' first
      | with_reducible exact iv_none
      | with_reducible refine iv_some ?_
      | with_reducible refine iv_ite (fun _ => ?_) (fun _ => ?_)
      | with_reducible refine iv_gd ?_
      | with_reducible refine iv_stK ?_ (fun _ _ => ?_)
      | with_reducible refine iv_vK (fun _ => ?_)
      | with_reducible refine iv_lK (fun _ => ?_)
      | with_reducible refine iv_bi ?_ (fun _ _ _ _ => ?_)
      | with_reducible refine hF _ _ _ _ ?_ ?_
      | assumption
      | with_reducible refine i54_sI ?_ (by decide) (by decide)
      | with_reducible refine i54_sJ ?_
      | with_reducible refine i54_sA ?_ (by decide) (by decide)
      | with_reducible exact ivA_o (by decide) (by decide)
      | with_reducible refine ivA_47 ?_
      | with_reducible refine ivA_142 ?_
      | decide
theorem iv_rl_Machine_doSimple_93 (hF : ivF F) : ∀ (n : Nat) (T : gSt) (x0 : Int32) (x1 : Int32), I54 T → iv (rl_Machine_doSimple_93 F nf n T x0 x1) := by
  intro n
  induction n with
  | zero =>
    intro T x0 x1 h
    rw [rl_Machine_doSimple_93]
    exact iv_none
  | succ n ih =>
    intro T x0 x1 h
    rw [rl_Machine_doSimple_93]
    repeat' first
      | with_reducible exact iv_none
      | with_reducible refine iv_some ?_
      | with_reducible refine iv_ite (fun _ => ?_) (fun _ => ?_)
      | with_reducible refine iv_gd ?_
      | with_reducible refine iv_stK ?_ (fun _ _ => ?_)
      | with_reducible refine iv_vK (fun _ => ?_)
      | with_reducible refine iv_lK (fun _ => ?_)
      | with_reducible refine iv_bi ?_ (fun _ _ _ _ => ?_)
      | with_reducible refine hF _ _ _ _ ?_ ?_
      | with_reducible refine ih _ _ _ ?_
      | assumption
      | with_reducible refine i54_sI ?_ (by decide) (by decide)
      | with_reducible refine i54_sJ ?_
      | with_reducible refine i54_sA ?_ (by decide) (by decide)
      | with_reducible exact ivA_o (by decide) (by decide)
      | with_reducible refine ivA_47 ?_
      | with_reducible refine ivA_142 ?_
      | decide
theorem iv_rl_Machine_doSimple_55 (hF : ivF F) : ∀ (n : Nat) (T : gSt) (x0 : Int32) (x1 : Int32) (x2 : Int32), I54 T → iv (rl_Machine_doSimple_55 F nf n T x0 x1 x2) := by
  intro n
  induction n with
  | zero =>
    intro T x0 x1 x2 h
    rw [rl_Machine_doSimple_55]
    exact iv_none
  | succ n ih =>
    intro T x0 x1 x2 h
    rw [rl_Machine_doSimple_55]
    repeat' first
      | with_reducible exact iv_none
      | with_reducible refine iv_some ?_
      | with_reducible refine iv_ite (fun _ => ?_) (fun _ => ?_)
      | with_reducible refine iv_gd ?_
      | with_reducible refine iv_stK ?_ (fun _ _ => ?_)
      | with_reducible refine iv_vK (fun _ => ?_)
      | with_reducible refine iv_lK (fun _ => ?_)
      | with_reducible refine iv_bi ?_ (fun _ _ _ _ => ?_)
      | with_reducible refine hF _ _ _ _ ?_ ?_
      | with_reducible refine ih _ _ _ _ ?_
      | assumption
      | with_reducible refine i54_sI ?_ (by decide) (by decide)
      | with_reducible refine i54_sJ ?_
      | with_reducible refine i54_sA ?_ (by decide) (by decide)
      | with_reducible exact ivA_o (by decide) (by decide)
      | with_reducible refine ivA_47 ?_
      | with_reducible refine ivA_142 ?_
      | decide
theorem iv_rb_Machine_doSimple (hF : ivF F) (T : gSt) (p1 : Int32) (p2 : Int32) (p3 : Int32) (h : I54 T) : iv (rb_Machine_doSimple F nf T p1 p2 p3) := by
    unfold rb_Machine_doSimple
    repeat' first
      | with_reducible exact iv_none
      | with_reducible refine iv_some ?_
      | with_reducible refine iv_ite (fun _ => ?_) (fun _ => ?_)
      | with_reducible refine iv_gd ?_
      | with_reducible refine iv_stK ?_ (fun _ _ => ?_)
      | with_reducible refine iv_vK (fun _ => ?_)
      | with_reducible refine iv_lK (fun _ => ?_)
      | with_reducible refine iv_bi ?_ (fun _ _ _ _ => ?_)
      | with_reducible refine hF _ _ _ _ ?_ ?_
      | with_reducible refine iv_rl_Machine_doSimple_55 hF  _ _ _ _ _ ?_
      | with_reducible refine iv_rl_Machine_doSimple_93 hF  _ _ _ _ ?_
      | assumption
      | with_reducible refine i54_sI ?_ (by decide) (by decide)
      | with_reducible refine i54_sJ ?_
      | with_reducible refine i54_sA ?_ (by decide) (by decide)
      | with_reducible exact ivA_o (by decide) (by decide)
      | with_reducible refine ivA_47 ?_
      | with_reducible refine ivA_142 ?_
      | decide
theorem iv_rb_Machine_keepPrinted (hF : ivF F) (T : gSt) (p1 : Int32) (h : I54 T) : iv (rb_Machine_keepPrinted F nf T p1) := by
    unfold rb_Machine_keepPrinted
    repeat' first
      | with_reducible exact iv_none
      | with_reducible refine iv_some ?_
      | with_reducible refine iv_ite (fun _ => ?_) (fun _ => ?_)
      | with_reducible refine iv_gd ?_
      | with_reducible refine iv_stK ?_ (fun _ _ => ?_)
      | with_reducible refine iv_vK (fun _ => ?_)
      | with_reducible refine iv_lK (fun _ => ?_)
      | with_reducible refine iv_bi ?_ (fun _ _ _ _ => ?_)
      | with_reducible refine hF _ _ _ _ ?_ ?_
      | assumption
      | with_reducible refine i54_sI ?_ (by decide) (by decide)
      | with_reducible refine i54_sJ ?_
      | with_reducible refine i54_sA ?_ (by decide) (by decide)
      | with_reducible exact ivA_o (by decide) (by decide)
      | with_reducible refine ivA_47 ?_
      | with_reducible refine ivA_142 ?_
      | decide
theorem iv_rj_Machine_doNumeric_116 (hF : ivF F) (T : gSt) (x1 : Int32) (x2 : Int32) (x3 : Int32) (h : I54 T) : iv (rj_Machine_doNumeric_116 F nf T x1 x2 x3) := by
    unfold rj_Machine_doNumeric_116
    repeat' first
      | with_reducible exact iv_none
      | with_reducible refine iv_some ?_
      | with_reducible refine iv_ite (fun _ => ?_) (fun _ => ?_)
      | with_reducible refine iv_gd ?_
      | with_reducible refine iv_stK ?_ (fun _ _ => ?_)
      | with_reducible refine iv_vK (fun _ => ?_)
      | with_reducible refine iv_lK (fun _ => ?_)
      | with_reducible refine iv_bi ?_ (fun _ _ _ _ => ?_)
      | with_reducible refine hF _ _ _ _ ?_ ?_
      | assumption
      | with_reducible refine i54_sI ?_ (by decide) (by decide)
      | with_reducible refine i54_sJ ?_
      | with_reducible refine i54_sA ?_ (by decide) (by decide)
      | with_reducible exact ivA_o (by decide) (by decide)
      | with_reducible refine ivA_47 ?_
      | with_reducible refine ivA_142 ?_
      | decide
theorem iv_rb_Machine_doNumeric (hF : ivF F) (T : gSt) (p1 : Int32) (h : I54 T) : iv (rb_Machine_doNumeric F nf T p1) := by
    unfold rb_Machine_doNumeric
    repeat' first
      | with_reducible exact iv_none
      | with_reducible refine iv_some ?_
      | with_reducible refine iv_ite (fun _ => ?_) (fun _ => ?_)
      | with_reducible refine iv_gd ?_
      | with_reducible refine iv_stK ?_ (fun _ _ => ?_)
      | with_reducible refine iv_vK (fun _ => ?_)
      | with_reducible refine iv_lK (fun _ => ?_)
      | with_reducible refine iv_bi ?_ (fun _ _ _ _ => ?_)
      | with_reducible refine hF _ _ _ _ ?_ ?_
      | with_reducible refine iv_rj_Machine_doNumeric_116 hF  _ _ _ _ ?_
      | assumption
      | with_reducible refine i54_sI ?_ (by decide) (by decide)
      | with_reducible refine i54_sJ ?_
      | with_reducible refine i54_sA ?_ (by decide) (by decide)
      | with_reducible exact ivA_o (by decide) (by decide)
      | with_reducible refine ivA_47 ?_
      | with_reducible refine ivA_142 ?_
      | decide
theorem iv_rb_Machine_doPointed (hF : ivF F) (T : gSt) (p1 : Int32) (p2 : Int32) (p3 : Int32) (h : I54 T) : iv (rb_Machine_doPointed F nf T p1 p2 p3) := by
    unfold rb_Machine_doPointed
    repeat' first
      | with_reducible exact iv_none
      | with_reducible refine iv_some ?_
      | with_reducible refine iv_ite (fun _ => ?_) (fun _ => ?_)
      | with_reducible refine iv_gd ?_
      | with_reducible refine iv_stK ?_ (fun _ _ => ?_)
      | with_reducible refine iv_vK (fun _ => ?_)
      | with_reducible refine iv_lK (fun _ => ?_)
      | with_reducible refine iv_bi ?_ (fun _ _ _ _ => ?_)
      | with_reducible refine hF _ _ _ _ ?_ ?_
      | assumption
      | with_reducible refine i54_sI ?_ (by decide) (by decide)
      | with_reducible refine i54_sJ ?_
      | with_reducible refine i54_sA ?_ (by decide) (by decide)
      | with_reducible exact ivA_o (by decide) (by decide)
      | with_reducible refine ivA_47 ?_
      | with_reducible refine ivA_142 ?_
      | decide
theorem iv_rl_Machine_fetch_2 (hF : ivF F) : ∀ (n : Nat) (T : gSt) (x0 : Int32) (x1 : Int32) (x2 : Int32), I54 T → iv (rl_Machine_fetch_2 F nf n T x0 x1 x2) := by
  intro n
  induction n with
  | zero =>
    intro T x0 x1 x2 h
    rw [rl_Machine_fetch_2]
    exact iv_none
  | succ n ih =>
    intro T x0 x1 x2 h
    rw [rl_Machine_fetch_2]
    repeat' first
      | with_reducible exact iv_none
      | with_reducible refine iv_some ?_
      | with_reducible refine iv_ite (fun _ => ?_) (fun _ => ?_)
      | with_reducible refine iv_gd ?_
      | with_reducible refine iv_stK ?_ (fun _ _ => ?_)
      | with_reducible refine iv_vK (fun _ => ?_)
      | with_reducible refine iv_lK (fun _ => ?_)
      | with_reducible refine iv_bi ?_ (fun _ _ _ _ => ?_)
      | with_reducible refine hF _ _ _ _ ?_ ?_
      | with_reducible refine ih _ _ _ _ ?_
      | assumption
      | with_reducible refine i54_sI ?_ (by decide) (by decide)
      | with_reducible refine i54_sJ ?_
      | with_reducible refine i54_sA ?_ (by decide) (by decide)
      | with_reducible exact ivA_o (by decide) (by decide)
      | with_reducible refine ivA_47 ?_
      | with_reducible refine ivA_142 ?_
      | decide
theorem iv_rb_Machine_fetch (hF : ivF F) (T : gSt) (p1 : Int32) (p2 : Int32) (h : I54 T) : iv (rb_Machine_fetch F nf T p1 p2) := by
    unfold rb_Machine_fetch
    repeat' first
      | with_reducible exact iv_none
      | with_reducible refine iv_some ?_
      | with_reducible refine iv_ite (fun _ => ?_) (fun _ => ?_)
      | with_reducible refine iv_gd ?_
      | with_reducible refine iv_stK ?_ (fun _ _ => ?_)
      | with_reducible refine iv_vK (fun _ => ?_)
      | with_reducible refine iv_lK (fun _ => ?_)
      | with_reducible refine iv_bi ?_ (fun _ _ _ _ => ?_)
      | with_reducible refine hF _ _ _ _ ?_ ?_
      | with_reducible refine iv_rl_Machine_fetch_2 hF  _ _ _ _ _ ?_
      | assumption
      | with_reducible refine i54_sI ?_ (by decide) (by decide)
      | with_reducible refine i54_sJ ?_
      | with_reducible refine i54_sA ?_ (by decide) (by decide)
      | with_reducible exact ivA_o (by decide) (by decide)
      | with_reducible refine ivA_47 ?_
      | with_reducible refine ivA_142 ?_
      | decide
theorem iv_rl_Machine_store_4 (hF : ivF F) : ∀ (n : Nat) (T : gSt) (x0 : Int32) (x1 : Int32), I54 T → iv (rl_Machine_store_4 F nf n T x0 x1) := by
  intro n
  induction n with
  | zero =>
    intro T x0 x1 h
    rw [rl_Machine_store_4]
    exact iv_none
  | succ n ih =>
    intro T x0 x1 h
    rw [rl_Machine_store_4]
    repeat' first
      | with_reducible exact iv_none
      | with_reducible refine iv_some ?_
      | with_reducible refine iv_ite (fun _ => ?_) (fun _ => ?_)
      | with_reducible refine iv_gd ?_
      | with_reducible refine iv_stK ?_ (fun _ _ => ?_)
      | with_reducible refine iv_vK (fun _ => ?_)
      | with_reducible refine iv_lK (fun _ => ?_)
      | with_reducible refine iv_bi ?_ (fun _ _ _ _ => ?_)
      | with_reducible refine hF _ _ _ _ ?_ ?_
      | with_reducible refine ih _ _ _ ?_
      | assumption
      | with_reducible refine i54_sI ?_ (by decide) (by decide)
      | with_reducible refine i54_sJ ?_
      | with_reducible refine i54_sA ?_ (by decide) (by decide)
      | with_reducible exact ivA_o (by decide) (by decide)
      | with_reducible refine ivA_47 ?_
      | with_reducible refine ivA_142 ?_
      | decide
theorem iv_rb_Machine_store (hF : ivF F) (T : gSt) (p1 : Int32) (p2 : Int32) (h : I54 T) : iv (rb_Machine_store F nf T p1 p2) := by
    unfold rb_Machine_store
    repeat' first
      | with_reducible exact iv_none
      | with_reducible refine iv_some ?_
      | with_reducible refine iv_ite (fun _ => ?_) (fun _ => ?_)
      | with_reducible refine iv_gd ?_
      | with_reducible refine iv_stK ?_ (fun _ _ => ?_)
      | with_reducible refine iv_vK (fun _ => ?_)
      | with_reducible refine iv_lK (fun _ => ?_)
      | with_reducible refine iv_bi ?_ (fun _ _ _ _ => ?_)
      | with_reducible refine hF _ _ _ _ ?_ ?_
      | with_reducible refine iv_rl_Machine_store_4 hF  _ _ _ _ ?_
      | assumption
      | with_reducible refine i54_sI ?_ (by decide) (by decide)
      | with_reducible refine i54_sJ ?_
      | with_reducible refine i54_sA ?_ (by decide) (by decide)
      | with_reducible exact ivA_o (by decide) (by decide)
      | with_reducible refine ivA_47 ?_
      | with_reducible refine ivA_142 ?_
      | decide
theorem iv_rb_Machine_doIndexed (hF : ivF F) (T : gSt) (p1 : Int32) (p2 : Int32) (h : I54 T) : iv (rb_Machine_doIndexed F nf T p1 p2) := by
    unfold rb_Machine_doIndexed
    repeat' first
      | with_reducible exact iv_none
      | with_reducible refine iv_some ?_
      | with_reducible refine iv_ite (fun _ => ?_) (fun _ => ?_)
      | with_reducible refine iv_gd ?_
      | with_reducible refine iv_stK ?_ (fun _ _ => ?_)
      | with_reducible refine iv_vK (fun _ => ?_)
      | with_reducible refine iv_lK (fun _ => ?_)
      | with_reducible refine iv_bi ?_ (fun _ _ _ _ => ?_)
      | with_reducible refine hF _ _ _ _ ?_ ?_
      | assumption
      | with_reducible refine i54_sI ?_ (by decide) (by decide)
      | with_reducible refine i54_sJ ?_
      | with_reducible refine i54_sA ?_ (by decide) (by decide)
      | with_reducible exact ivA_o (by decide) (by decide)
      | with_reducible refine ivA_47 ?_
      | with_reducible refine ivA_142 ?_
      | decide
theorem iv_rb_Machine_doMaking (hF : ivF F) (T : gSt) (p1 : Int32) (p2 : Int32) (p3 : Int32) (h : I54 T) : iv (rb_Machine_doMaking F nf T p1 p2 p3) := by
    unfold rb_Machine_doMaking
    repeat' first
      | with_reducible exact iv_none
      | with_reducible refine iv_some ?_
      | with_reducible refine iv_ite (fun _ => ?_) (fun _ => ?_)
      | with_reducible refine iv_gd ?_
      | with_reducible refine iv_stK ?_ (fun _ _ => ?_)
      | with_reducible refine iv_vK (fun _ => ?_)
      | with_reducible refine iv_lK (fun _ => ?_)
      | with_reducible refine iv_bi ?_ (fun _ _ _ _ => ?_)
      | with_reducible refine hF _ _ _ _ ?_ ?_
      | assumption
      | with_reducible refine i54_sI ?_ (by decide) (by decide)
      | with_reducible refine i54_sJ ?_
      | with_reducible refine i54_sA ?_ (by decide) (by decide)
      | with_reducible exact ivA_o (by decide) (by decide)
      | with_reducible refine ivA_47 ?_
      | with_reducible refine ivA_142 ?_
      | decide
theorem iv_rl_Machine_makeRow_36 (hF : ivF F) : ∀ (n : Nat) (T : gSt) (x0 : Int32) (x1 : Int32) (x2 : Int32) (x3 : Int32) (x4 : Int32), I54 T → iv (rl_Machine_makeRow_36 F nf n T x0 x1 x2 x3 x4) := by
  intro n
  induction n with
  | zero =>
    intro T x0 x1 x2 x3 x4 h
    rw [rl_Machine_makeRow_36]
    exact iv_none
  | succ n ih =>
    intro T x0 x1 x2 x3 x4 h
    rw [rl_Machine_makeRow_36]
    repeat' first
      | with_reducible exact iv_none
      | with_reducible refine iv_some ?_
      | with_reducible refine iv_ite (fun _ => ?_) (fun _ => ?_)
      | with_reducible refine iv_gd ?_
      | with_reducible refine iv_stK ?_ (fun _ _ => ?_)
      | with_reducible refine iv_vK (fun _ => ?_)
      | with_reducible refine iv_lK (fun _ => ?_)
      | with_reducible refine iv_bi ?_ (fun _ _ _ _ => ?_)
      | with_reducible refine hF _ _ _ _ ?_ ?_
      | with_reducible refine ih _ _ _ _ _ _ ?_
      | assumption
      | with_reducible refine i54_sI ?_ (by decide) (by decide)
      | with_reducible refine i54_sJ ?_
      | with_reducible refine i54_sA ?_ (by decide) (by decide)
      | with_reducible exact ivA_o (by decide) (by decide)
      | with_reducible refine ivA_47 ?_
      | with_reducible refine ivA_142 ?_
      | decide
theorem iv_rb_Machine_makeRow (hF : ivF F) (T : gSt) (p1 : Int32) (p2 : Int32) (h : I54 T) : iv (rb_Machine_makeRow F nf T p1 p2) := by
    unfold rb_Machine_makeRow
    repeat' first
      | with_reducible exact iv_none
      | with_reducible refine iv_some ?_
      | with_reducible refine iv_ite (fun _ => ?_) (fun _ => ?_)
      | with_reducible refine iv_gd ?_
      | with_reducible refine iv_stK ?_ (fun _ _ => ?_)
      | with_reducible refine iv_vK (fun _ => ?_)
      | with_reducible refine iv_lK (fun _ => ?_)
      | with_reducible refine iv_bi ?_ (fun _ _ _ _ => ?_)
      | with_reducible refine hF _ _ _ _ ?_ ?_
      | with_reducible refine iv_rl_Machine_makeRow_36 hF  _ _ _ _ _ _ _ ?_
      | assumption
      | with_reducible refine i54_sI ?_ (by decide) (by decide)
      | with_reducible refine i54_sJ ?_
      | with_reducible refine i54_sA ?_ (by decide) (by decide)
      | with_reducible exact ivA_o (by decide) (by decide)
      | with_reducible refine ivA_47 ?_
      | with_reducible refine ivA_142 ?_
      | decide
theorem iv_rb_Machine_placeFor (hF : ivF F) (T : gSt) (p1 : Int32) (p2 : Int32) (p3 : Int32) (h : I54 T) : iv (rb_Machine_placeFor F nf T p1 p2 p3) := by
    unfold rb_Machine_placeFor
    repeat' first
      | with_reducible exact iv_none
      | with_reducible refine iv_some ?_
      | with_reducible refine iv_ite (fun _ => ?_) (fun _ => ?_)
      | with_reducible refine iv_gd ?_
      | with_reducible refine iv_stK ?_ (fun _ _ => ?_)
      | with_reducible refine iv_vK (fun _ => ?_)
      | with_reducible refine iv_lK (fun _ => ?_)
      | with_reducible refine iv_bi ?_ (fun _ _ _ _ => ?_)
      | with_reducible refine hF _ _ _ _ ?_ ?_
      | assumption
      | with_reducible refine i54_sI ?_ (by decide) (by decide)
      | with_reducible refine i54_sJ ?_
      | with_reducible refine i54_sA ?_ (by decide) (by decide)
      | with_reducible exact ivA_o (by decide) (by decide)
      | with_reducible refine ivA_47 ?_
      | with_reducible refine ivA_142 ?_
      | decide
theorem iv_rb_Machine_doControl (hF : ivF F) (T : gSt) (p1 : Int32) (p2 : Int32) (p3 : Int32) (h : I54 T) : iv (rb_Machine_doControl F nf T p1 p2 p3) := by
    unfold rb_Machine_doControl
    repeat' first
      | with_reducible exact iv_none
      | with_reducible refine iv_some ?_
      | with_reducible refine iv_ite (fun _ => ?_) (fun _ => ?_)
      | with_reducible refine iv_gd ?_
      | with_reducible refine iv_stK ?_ (fun _ _ => ?_)
      | with_reducible refine iv_vK (fun _ => ?_)
      | with_reducible refine iv_lK (fun _ => ?_)
      | with_reducible refine iv_bi ?_ (fun _ _ _ _ => ?_)
      | with_reducible refine hF _ _ _ _ ?_ ?_
      | assumption
      | with_reducible refine i54_sI ?_ (by decide) (by decide)
      | with_reducible refine i54_sJ ?_
      | with_reducible refine i54_sA ?_ (by decide) (by decide)
      | with_reducible exact ivA_o (by decide) (by decide)
      | with_reducible refine ivA_47 ?_
      | with_reducible refine ivA_142 ?_
      | decide
theorem iv_rb_Machine_pushTry (hF : ivF F) (T : gSt) (p1 : Int32) (h : I54 T) : iv (rb_Machine_pushTry F nf T p1) := by
    unfold rb_Machine_pushTry
    repeat' first
      | with_reducible exact iv_none
      | with_reducible refine iv_some ?_
      | with_reducible refine iv_ite (fun _ => ?_) (fun _ => ?_)
      | with_reducible refine iv_gd ?_
      | with_reducible refine iv_stK ?_ (fun _ _ => ?_)
      | with_reducible refine iv_vK (fun _ => ?_)
      | with_reducible refine iv_lK (fun _ => ?_)
      | with_reducible refine iv_bi ?_ (fun _ _ _ _ => ?_)
      | with_reducible refine hF _ _ _ _ ?_ ?_
      | assumption
      | with_reducible refine i54_sI ?_ (by decide) (by decide)
      | with_reducible refine i54_sJ ?_
      | with_reducible refine i54_sA ?_ (by decide) (by decide)
      | with_reducible exact ivA_o (by decide) (by decide)
      | with_reducible refine ivA_47 ?_
      | with_reducible refine ivA_142 ?_
      | decide
theorem iv_rb_Machine_raise (hF : ivF F) (T : gSt) (p1 : Int32) (h : I54 T) : iv (rb_Machine_raise F nf T p1) := by
    unfold rb_Machine_raise
    repeat' first
      | with_reducible exact iv_none
      | with_reducible refine iv_some ?_
      | with_reducible refine iv_ite (fun _ => ?_) (fun _ => ?_)
      | with_reducible refine iv_gd ?_
      | with_reducible refine iv_stK ?_ (fun _ _ => ?_)
      | with_reducible refine iv_vK (fun _ => ?_)
      | with_reducible refine iv_lK (fun _ => ?_)
      | with_reducible refine iv_bi ?_ (fun _ _ _ _ => ?_)
      | with_reducible refine hF _ _ _ _ ?_ ?_
      | assumption
      | with_reducible refine i54_sI ?_ (by decide) (by decide)
      | with_reducible refine i54_sJ ?_
      | with_reducible refine i54_sA ?_ (by decide) (by decide)
      | with_reducible exact ivA_o (by decide) (by decide)
      | with_reducible refine ivA_47 ?_
      | with_reducible refine ivA_142 ?_
      | decide
theorem iv_rl_Machine_enter_116 (hF : ivF F) : ∀ (n : Nat) (T : gSt) (x0 : Int32) (x1 : Int32) (x2 : Int32) (x3 : Int32) (x4 : Int32), I54 T → iv (rl_Machine_enter_116 F nf n T x0 x1 x2 x3 x4) := by
  intro n
  induction n with
  | zero =>
    intro T x0 x1 x2 x3 x4 h
    rw [rl_Machine_enter_116]
    exact iv_none
  | succ n ih =>
    intro T x0 x1 x2 x3 x4 h
    rw [rl_Machine_enter_116]
    repeat' first
      | with_reducible exact iv_none
      | with_reducible refine iv_some ?_
      | with_reducible refine iv_ite (fun _ => ?_) (fun _ => ?_)
      | with_reducible refine iv_gd ?_
      | with_reducible refine iv_stK ?_ (fun _ _ => ?_)
      | with_reducible refine iv_vK (fun _ => ?_)
      | with_reducible refine iv_lK (fun _ => ?_)
      | with_reducible refine iv_bi ?_ (fun _ _ _ _ => ?_)
      | with_reducible refine hF _ _ _ _ ?_ ?_
      | with_reducible refine ih _ _ _ _ _ _ ?_
      | assumption
      | with_reducible refine i54_sI ?_ (by decide) (by decide)
      | with_reducible refine i54_sJ ?_
      | with_reducible refine i54_sA ?_ (by decide) (by decide)
      | with_reducible exact ivA_o (by decide) (by decide)
      | with_reducible refine ivA_47 ?_
      | with_reducible refine ivA_142 ?_
      | decide
theorem iv_rb_Machine_enter (hF : ivF F) (T : gSt) (p1 : Int32) (p2 : Int32) (h : I54 T) : iv (rb_Machine_enter F nf T p1 p2) := by
    unfold rb_Machine_enter
    repeat' first
      | with_reducible exact iv_none
      | with_reducible refine iv_some ?_
      | with_reducible refine iv_ite (fun _ => ?_) (fun _ => ?_)
      | with_reducible refine iv_gd ?_
      | with_reducible refine iv_stK ?_ (fun _ _ => ?_)
      | with_reducible refine iv_vK (fun _ => ?_)
      | with_reducible refine iv_lK (fun _ => ?_)
      | with_reducible refine iv_bi ?_ (fun _ _ _ _ => ?_)
      | with_reducible refine hF _ _ _ _ ?_ ?_
      | with_reducible refine iv_rl_Machine_enter_116 hF  _ _ _ _ _ _ _ ?_
      | assumption
      | with_reducible refine i54_sI ?_ (by decide) (by decide)
      | with_reducible refine i54_sJ ?_
      | with_reducible refine i54_sA ?_ (by decide) (by decide)
      | with_reducible exact ivA_o (by decide) (by decide)
      | with_reducible refine ivA_47 ?_
      | with_reducible refine ivA_142 ?_
      | decide
theorem iv_rl_Machine_leave_16 (hF : ivF F) : ∀ (n : Nat) (T : gSt) (x0 : Int32) (x1 : Int32) (x2 : Int32) (x3 : Int32), I54 T → iv (rl_Machine_leave_16 F nf n T x0 x1 x2 x3) := by
  intro n
  induction n with
  | zero =>
    intro T x0 x1 x2 x3 h
    rw [rl_Machine_leave_16]
    exact iv_none
  | succ n ih =>
    intro T x0 x1 x2 x3 h
    rw [rl_Machine_leave_16]
    repeat' first
      | with_reducible exact iv_none
      | with_reducible refine iv_some ?_
      | with_reducible refine iv_ite (fun _ => ?_) (fun _ => ?_)
      | with_reducible refine iv_gd ?_
      | with_reducible refine iv_stK ?_ (fun _ _ => ?_)
      | with_reducible refine iv_vK (fun _ => ?_)
      | with_reducible refine iv_lK (fun _ => ?_)
      | with_reducible refine iv_bi ?_ (fun _ _ _ _ => ?_)
      | with_reducible refine hF _ _ _ _ ?_ ?_
      | with_reducible refine ih _ _ _ _ _ ?_
      | assumption
      | with_reducible refine i54_sI ?_ (by decide) (by decide)
      | with_reducible refine i54_sJ ?_
      | with_reducible refine i54_sA ?_ (by decide) (by decide)
      | with_reducible exact ivA_o (by decide) (by decide)
      | with_reducible refine ivA_47 ?_
      | with_reducible refine ivA_142 ?_
      | decide
theorem iv_rb_Machine_leave (hF : ivF F) (T : gSt) (p1 : Int32) (h : I54 T) : iv (rb_Machine_leave F nf T p1) := by
    unfold rb_Machine_leave
    repeat' first
      | with_reducible exact iv_none
      | with_reducible refine iv_some ?_
      | with_reducible refine iv_ite (fun _ => ?_) (fun _ => ?_)
      | with_reducible refine iv_gd ?_
      | with_reducible refine iv_stK ?_ (fun _ _ => ?_)
      | with_reducible refine iv_vK (fun _ => ?_)
      | with_reducible refine iv_lK (fun _ => ?_)
      | with_reducible refine iv_bi ?_ (fun _ _ _ _ => ?_)
      | with_reducible refine hF _ _ _ _ ?_ ?_
      | with_reducible refine iv_rl_Machine_leave_16 hF  _ _ _ _ _ _ ?_
      | assumption
      | with_reducible refine i54_sI ?_ (by decide) (by decide)
      | with_reducible refine i54_sJ ?_
      | with_reducible refine i54_sA ?_ (by decide) (by decide)
      | with_reducible exact ivA_o (by decide) (by decide)
      | with_reducible refine ivA_47 ?_
      | with_reducible refine ivA_142 ?_
      | decide
theorem iv_rb_Machine_placeOfStep (hF : ivF F) (T : gSt) (h : I54 T) : iv (rb_Machine_placeOfStep F nf T) := by
    unfold rb_Machine_placeOfStep
    repeat' first
      | with_reducible exact iv_none
      | with_reducible refine iv_some ?_
      | with_reducible refine iv_ite (fun _ => ?_) (fun _ => ?_)
      | with_reducible refine iv_gd ?_
      | with_reducible refine iv_stK ?_ (fun _ _ => ?_)
      | with_reducible refine iv_vK (fun _ => ?_)
      | with_reducible refine iv_lK (fun _ => ?_)
      | with_reducible refine iv_bi ?_ (fun _ _ _ _ => ?_)
      | with_reducible refine hF _ _ _ _ ?_ ?_
      | assumption
      | with_reducible refine i54_sI ?_ (by decide) (by decide)
      | with_reducible refine i54_sJ ?_
      | with_reducible refine i54_sA ?_ (by decide) (by decide)
      | with_reducible exact ivA_o (by decide) (by decide)
      | with_reducible refine ivA_47 ?_
      | with_reducible refine ivA_142 ?_
      | decide
theorem iv_rb_Machine_tell (hF : ivF F) (T : gSt) (p1 : Int32) (h : I54 T) : iv (rb_Machine_tell F nf T p1) := by
    unfold rb_Machine_tell
    repeat' first
      | with_reducible exact iv_none
      | with_reducible refine iv_some ?_
      | with_reducible refine iv_ite (fun _ => ?_) (fun _ => ?_)
      | with_reducible refine iv_gd ?_
      | with_reducible refine iv_stK ?_ (fun _ _ => ?_)
      | with_reducible refine iv_vK (fun _ => ?_)
      | with_reducible refine iv_lK (fun _ => ?_)
      | with_reducible refine iv_bi ?_ (fun _ _ _ _ => ?_)
      | with_reducible refine hF _ _ _ _ ?_ ?_
      | assumption
      | with_reducible refine i54_sI ?_ (by decide) (by decide)
      | with_reducible refine i54_sJ ?_
      | with_reducible refine i54_sA ?_ (by decide) (by decide)
      | with_reducible exact ivA_o (by decide) (by decide)
      | with_reducible refine ivA_47 ?_
      | with_reducible refine ivA_142 ?_
      | decide
theorem iv_rb_Machine_printedAt (hF : ivF F) (T : gSt) (p1 : Int32) (h : I54 T) : iv (rb_Machine_printedAt F nf T p1) := by
    unfold rb_Machine_printedAt
    repeat' first
      | with_reducible exact iv_none
      | with_reducible refine iv_some ?_
      | with_reducible refine iv_ite (fun _ => ?_) (fun _ => ?_)
      | with_reducible refine iv_gd ?_
      | with_reducible refine iv_stK ?_ (fun _ _ => ?_)
      | with_reducible refine iv_vK (fun _ => ?_)
      | with_reducible refine iv_lK (fun _ => ?_)
      | with_reducible refine iv_bi ?_ (fun _ _ _ _ => ?_)
      | with_reducible refine hF _ _ _ _ ?_ ?_
      | assumption
      | with_reducible refine i54_sI ?_ (by decide) (by decide)
      | with_reducible refine i54_sJ ?_
      | with_reducible refine i54_sA ?_ (by decide) (by decide)
      | with_reducible exact ivA_o (by decide) (by decide)
      | with_reducible refine ivA_47 ?_
      | with_reducible refine ivA_142 ?_
      | decide
theorem iv_rb_Memory_pageWords (hF : ivF F) (T : gSt) (h : I54 T) : iv (rb_Memory_pageWords F nf T) := by
    unfold rb_Memory_pageWords
    repeat' first
      | with_reducible exact iv_none
      | with_reducible refine iv_some ?_
      | with_reducible refine iv_ite (fun _ => ?_) (fun _ => ?_)
      | with_reducible refine iv_gd ?_
      | with_reducible refine iv_stK ?_ (fun _ _ => ?_)
      | with_reducible refine iv_vK (fun _ => ?_)
      | with_reducible refine iv_lK (fun _ => ?_)
      | with_reducible refine iv_bi ?_ (fun _ _ _ _ => ?_)
      | with_reducible refine hF _ _ _ _ ?_ ?_
      | assumption
      | with_reducible refine i54_sI ?_ (by decide) (by decide)
      | with_reducible refine i54_sJ ?_
      | with_reducible refine i54_sA ?_ (by decide) (by decide)
      | with_reducible exact ivA_o (by decide) (by decide)
      | with_reducible refine ivA_47 ?_
      | with_reducible refine ivA_142 ?_
      | decide
theorem iv_rb_Memory_pagesInUse (hF : ivF F) (T : gSt) (h : I54 T) : iv (rb_Memory_pagesInUse F nf T) := by
    unfold rb_Memory_pagesInUse
    repeat' first
      | with_reducible exact iv_none
      | with_reducible refine iv_some ?_
      | with_reducible refine iv_ite (fun _ => ?_) (fun _ => ?_)
      | with_reducible refine iv_gd ?_
      | with_reducible refine iv_stK ?_ (fun _ _ => ?_)
      | with_reducible refine iv_vK (fun _ => ?_)
      | with_reducible refine iv_lK (fun _ => ?_)
      | with_reducible refine iv_bi ?_ (fun _ _ _ _ => ?_)
      | with_reducible refine hF _ _ _ _ ?_ ?_
      | assumption
      | with_reducible refine i54_sI ?_ (by decide) (by decide)
      | with_reducible refine i54_sJ ?_
      | with_reducible refine i54_sA ?_ (by decide) (by decide)
      | with_reducible exact ivA_o (by decide) (by decide)
      | with_reducible refine ivA_47 ?_
      | with_reducible refine ivA_142 ?_
      | decide
theorem iv_rb_Memory_regionCount (hF : ivF F) (T : gSt) (h : I54 T) : iv (rb_Memory_regionCount F nf T) := by
    unfold rb_Memory_regionCount
    repeat' first
      | with_reducible exact iv_none
      | with_reducible refine iv_some ?_
      | with_reducible refine iv_ite (fun _ => ?_) (fun _ => ?_)
      | with_reducible refine iv_gd ?_
      | with_reducible refine iv_stK ?_ (fun _ _ => ?_)
      | with_reducible refine iv_vK (fun _ => ?_)
      | with_reducible refine iv_lK (fun _ => ?_)
      | with_reducible refine iv_bi ?_ (fun _ _ _ _ => ?_)
      | with_reducible refine hF _ _ _ _ ?_ ?_
      | assumption
      | with_reducible refine i54_sI ?_ (by decide) (by decide)
      | with_reducible refine i54_sJ ?_
      | with_reducible refine i54_sA ?_ (by decide) (by decide)
      | with_reducible exact ivA_o (by decide) (by decide)
      | with_reducible refine ivA_47 ?_
      | with_reducible refine ivA_142 ?_
      | decide
theorem iv_rb_Memory_objectsMade (hF : ivF F) (T : gSt) (h : I54 T) : iv (rb_Memory_objectsMade F nf T) := by
    unfold rb_Memory_objectsMade
    repeat' first
      | with_reducible exact iv_none
      | with_reducible refine iv_some ?_
      | with_reducible refine iv_ite (fun _ => ?_) (fun _ => ?_)
      | with_reducible refine iv_gd ?_
      | with_reducible refine iv_stK ?_ (fun _ _ => ?_)
      | with_reducible refine iv_vK (fun _ => ?_)
      | with_reducible refine iv_lK (fun _ => ?_)
      | with_reducible refine iv_bi ?_ (fun _ _ _ _ => ?_)
      | with_reducible refine hF _ _ _ _ ?_ ?_
      | assumption
      | with_reducible refine i54_sI ?_ (by decide) (by decide)
      | with_reducible refine i54_sJ ?_
      | with_reducible refine i54_sA ?_ (by decide) (by decide)
      | with_reducible exact ivA_o (by decide) (by decide)
      | with_reducible refine ivA_47 ?_
      | with_reducible refine ivA_142 ?_
      | decide
theorem iv_rb_Memory_strayTouches (hF : ivF F) (T : gSt) (h : I54 T) : iv (rb_Memory_strayTouches F nf T) := by
    unfold rb_Memory_strayTouches
    repeat' first
      | with_reducible exact iv_none
      | with_reducible refine iv_some ?_
      | with_reducible refine iv_ite (fun _ => ?_) (fun _ => ?_)
      | with_reducible refine iv_gd ?_
      | with_reducible refine iv_stK ?_ (fun _ _ => ?_)
      | with_reducible refine iv_vK (fun _ => ?_)
      | with_reducible refine iv_lK (fun _ => ?_)
      | with_reducible refine iv_bi ?_ (fun _ _ _ _ => ?_)
      | with_reducible refine hF _ _ _ _ ?_ ?_
      | assumption
      | with_reducible refine i54_sI ?_ (by decide) (by decide)
      | with_reducible refine i54_sJ ?_
      | with_reducible refine i54_sA ?_ (by decide) (by decide)
      | with_reducible exact ivA_o (by decide) (by decide)
      | with_reducible refine ivA_47 ?_
      | with_reducible refine ivA_142 ?_
      | decide
theorem iv_rb_Memory_open (hF : ivF F) (T : gSt) (h : I54 T) : iv (rb_Memory_open F nf T) := by
    unfold rb_Memory_open
    repeat' first
      | with_reducible exact iv_none
      | with_reducible refine iv_some ?_
      | with_reducible refine iv_ite (fun _ => ?_) (fun _ => ?_)
      | with_reducible refine iv_gd ?_
      | with_reducible refine iv_stK ?_ (fun _ _ => ?_)
      | with_reducible refine iv_vK (fun _ => ?_)
      | with_reducible refine iv_lK (fun _ => ?_)
      | with_reducible refine iv_bi ?_ (fun _ _ _ _ => ?_)
      | with_reducible refine hF _ _ _ _ ?_ ?_
      | assumption
      | with_reducible refine i54_sI ?_ (by decide) (by decide)
      | with_reducible refine i54_sJ ?_
      | with_reducible refine i54_sA ?_ (by decide) (by decide)
      | with_reducible exact ivA_o (by decide) (by decide)
      | with_reducible refine ivA_47 ?_
      | with_reducible refine ivA_142 ?_
      | decide
theorem iv_rl_Memory_closeFrom_16 (hF : ivF F) : ∀ (n : Nat) (T : gSt) (x0 : Int32) (x1 : Int32), I54 T → iv (rl_Memory_closeFrom_16 F nf n T x0 x1) := by
  intro n
  induction n with
  | zero =>
    intro T x0 x1 h
    rw [rl_Memory_closeFrom_16]
    exact iv_none
  | succ n ih =>
    intro T x0 x1 h
    rw [rl_Memory_closeFrom_16]
    repeat' first
      | with_reducible exact iv_none
      | with_reducible refine iv_some ?_
      | with_reducible refine iv_ite (fun _ => ?_) (fun _ => ?_)
      | with_reducible refine iv_gd ?_
      | with_reducible refine iv_stK ?_ (fun _ _ => ?_)
      | with_reducible refine iv_vK (fun _ => ?_)
      | with_reducible refine iv_lK (fun _ => ?_)
      | with_reducible refine iv_bi ?_ (fun _ _ _ _ => ?_)
      | with_reducible refine hF _ _ _ _ ?_ ?_
      | with_reducible refine ih _ _ _ ?_
      | assumption
      | with_reducible refine i54_sI ?_ (by decide) (by decide)
      | with_reducible refine i54_sJ ?_
      | with_reducible refine i54_sA ?_ (by decide) (by decide)
      | with_reducible exact ivA_o (by decide) (by decide)
      | with_reducible refine ivA_47 ?_
      | with_reducible refine ivA_142 ?_
      | decide
theorem iv_rb_Memory_closeFrom (hF : ivF F) (T : gSt) (p1 : Int32) (h : I54 T) : iv (rb_Memory_closeFrom F nf T p1) := by
    unfold rb_Memory_closeFrom
    repeat' first
      | with_reducible exact iv_none
      | with_reducible refine iv_some ?_
      | with_reducible refine iv_ite (fun _ => ?_) (fun _ => ?_)
      | with_reducible refine iv_gd ?_
      | with_reducible refine iv_stK ?_ (fun _ _ => ?_)
      | with_reducible refine iv_vK (fun _ => ?_)
      | with_reducible refine iv_lK (fun _ => ?_)
      | with_reducible refine iv_bi ?_ (fun _ _ _ _ => ?_)
      | with_reducible refine hF _ _ _ _ ?_ ?_
      | with_reducible refine iv_rl_Memory_closeFrom_16 hF  _ _ _ _ ?_
      | assumption
      | with_reducible refine i54_sI ?_ (by decide) (by decide)
      | with_reducible refine i54_sJ ?_
      | with_reducible refine i54_sA ?_ (by decide) (by decide)
      | with_reducible exact ivA_o (by decide) (by decide)
      | with_reducible refine ivA_47 ?_
      | with_reducible refine ivA_142 ?_
      | decide
theorem iv_rj_Memory_make_42 (hF : ivF F) (T : gSt) (x1 : Int32) (x2 : Int32) (h : I54 T) : iv (rj_Memory_make_42 F nf T x1 x2) := by
    unfold rj_Memory_make_42
    repeat' first
      | with_reducible exact iv_none
      | with_reducible refine iv_some ?_
      | with_reducible refine iv_ite (fun _ => ?_) (fun _ => ?_)
      | with_reducible refine iv_gd ?_
      | with_reducible refine iv_stK ?_ (fun _ _ => ?_)
      | with_reducible refine iv_vK (fun _ => ?_)
      | with_reducible refine iv_lK (fun _ => ?_)
      | with_reducible refine iv_bi ?_ (fun _ _ _ _ => ?_)
      | with_reducible refine hF _ _ _ _ ?_ ?_
      | assumption
      | with_reducible refine i54_sI ?_ (by decide) (by decide)
      | with_reducible refine i54_sJ ?_
      | with_reducible refine i54_sA ?_ (by decide) (by decide)
      | with_reducible exact ivA_o (by decide) (by decide)
      | with_reducible refine ivA_47 ?_
      | with_reducible refine ivA_142 ?_
      | decide
theorem iv_rb_Memory_make (hF : ivF F) (T : gSt) (p1 : Int32) (p2 : Int32) (h : I54 T) : iv (rb_Memory_make F nf T p1 p2) := by
    unfold rb_Memory_make
    repeat' first
      | with_reducible exact iv_none
      | with_reducible refine iv_some ?_
      | with_reducible refine iv_ite (fun _ => ?_) (fun _ => ?_)
      | with_reducible refine iv_gd ?_
      | with_reducible refine iv_stK ?_ (fun _ _ => ?_)
      | with_reducible refine iv_vK (fun _ => ?_)
      | with_reducible refine iv_lK (fun _ => ?_)
      | with_reducible refine iv_bi ?_ (fun _ _ _ _ => ?_)
      | with_reducible refine hF _ _ _ _ ?_ ?_
      | with_reducible refine iv_rj_Memory_make_42 hF  _ _ _ ?_
      | assumption
      | with_reducible refine i54_sI ?_ (by decide) (by decide)
      | with_reducible refine i54_sJ ?_
      | with_reducible refine i54_sA ?_ (by decide) (by decide)
      | with_reducible exact ivA_o (by decide) (by decide)
      | with_reducible refine ivA_47 ?_
      | with_reducible refine ivA_142 ?_
      | decide
theorem iv_rl_Memory_freePage_2 (hF : ivF F) : ∀ (n : Nat) (T : gSt) (x0 : Int32), I54 T → iv (rl_Memory_freePage_2 F nf n T x0) := by
  intro n
  induction n with
  | zero =>
    intro T x0 h
    rw [rl_Memory_freePage_2]
    exact iv_none
  | succ n ih =>
    intro T x0 h
    rw [rl_Memory_freePage_2]
    repeat' first
      | with_reducible exact iv_none
      | with_reducible refine iv_some ?_
      | with_reducible refine iv_ite (fun _ => ?_) (fun _ => ?_)
      | with_reducible refine iv_gd ?_
      | with_reducible refine iv_stK ?_ (fun _ _ => ?_)
      | with_reducible refine iv_vK (fun _ => ?_)
      | with_reducible refine iv_lK (fun _ => ?_)
      | with_reducible refine iv_bi ?_ (fun _ _ _ _ => ?_)
      | with_reducible refine hF _ _ _ _ ?_ ?_
      | with_reducible refine ih _ _ ?_
      | assumption
      | with_reducible refine i54_sI ?_ (by decide) (by decide)
      | with_reducible refine i54_sJ ?_
      | with_reducible refine i54_sA ?_ (by decide) (by decide)
      | with_reducible exact ivA_o (by decide) (by decide)
      | with_reducible refine ivA_47 ?_
      | with_reducible refine ivA_142 ?_
      | decide
theorem iv_rb_Memory_freePage (hF : ivF F) (T : gSt) (h : I54 T) : iv (rb_Memory_freePage F nf T) := by
    unfold rb_Memory_freePage
    repeat' first
      | with_reducible exact iv_none
      | with_reducible refine iv_some ?_
      | with_reducible refine iv_ite (fun _ => ?_) (fun _ => ?_)
      | with_reducible refine iv_gd ?_
      | with_reducible refine iv_stK ?_ (fun _ _ => ?_)
      | with_reducible refine iv_vK (fun _ => ?_)
      | with_reducible refine iv_lK (fun _ => ?_)
      | with_reducible refine iv_bi ?_ (fun _ _ _ _ => ?_)
      | with_reducible refine hF _ _ _ _ ?_ ?_
      | with_reducible refine iv_rl_Memory_freePage_2 hF  _ _ _ ?_
      | assumption
      | with_reducible refine i54_sI ?_ (by decide) (by decide)
      | with_reducible refine i54_sJ ?_
      | with_reducible refine i54_sA ?_ (by decide) (by decide)
      | with_reducible exact ivA_o (by decide) (by decide)
      | with_reducible refine ivA_47 ?_
      | with_reducible refine ivA_142 ?_
      | decide
theorem iv_rl_Memory_takePage_54 (hF : ivF F) : ∀ (n : Nat) (T : gSt) (x0 : Int32) (x1 : Int32), I54 T → iv (rl_Memory_takePage_54 F nf n T x0 x1) := by
  intro n
  induction n with
  | zero =>
    intro T x0 x1 h
    rw [rl_Memory_takePage_54]
    exact iv_none
  | succ n ih =>
    intro T x0 x1 h
    rw [rl_Memory_takePage_54]
    repeat' first
      | with_reducible exact iv_none
      | with_reducible refine iv_some ?_
      | with_reducible refine iv_ite (fun _ => ?_) (fun _ => ?_)
      | with_reducible refine iv_gd ?_
      | with_reducible refine iv_stK ?_ (fun _ _ => ?_)
      | with_reducible refine iv_vK (fun _ => ?_)
      | with_reducible refine iv_lK (fun _ => ?_)
      | with_reducible refine iv_bi ?_ (fun _ _ _ _ => ?_)
      | with_reducible refine hF _ _ _ _ ?_ ?_
      | with_reducible refine ih _ _ _ ?_
      | assumption
      | with_reducible refine i54_sI ?_ (by decide) (by decide)
      | with_reducible refine i54_sJ ?_
      | with_reducible refine i54_sA ?_ (by decide) (by decide)
      | with_reducible exact ivA_o (by decide) (by decide)
      | with_reducible refine ivA_47 ?_
      | with_reducible refine ivA_142 ?_
      | decide
theorem iv_rb_Memory_takePage (hF : ivF F) (T : gSt) (p1 : Int32) (p2 : Int32) (h : I54 T) : iv (rb_Memory_takePage F nf T p1 p2) := by
    unfold rb_Memory_takePage
    repeat' first
      | with_reducible exact iv_none
      | with_reducible refine iv_some ?_
      | with_reducible refine iv_ite (fun _ => ?_) (fun _ => ?_)
      | with_reducible refine iv_gd ?_
      | with_reducible refine iv_stK ?_ (fun _ _ => ?_)
      | with_reducible refine iv_vK (fun _ => ?_)
      | with_reducible refine iv_lK (fun _ => ?_)
      | with_reducible refine iv_bi ?_ (fun _ _ _ _ => ?_)
      | with_reducible refine hF _ _ _ _ ?_ ?_
      | with_reducible refine iv_rl_Memory_takePage_54 hF  _ _ _ _ ?_
      | assumption
      | with_reducible refine i54_sI ?_ (by decide) (by decide)
      | with_reducible refine i54_sJ ?_
      | with_reducible refine i54_sA ?_ (by decide) (by decide)
      | with_reducible exact ivA_o (by decide) (by decide)
      | with_reducible refine ivA_47 ?_
      | with_reducible refine ivA_142 ?_
      | decide
theorem iv_rb_Memory_get (hF : ivF F) (T : gSt) (p1 : Int32) (h : I54 T) : iv (rb_Memory_get F nf T p1) := by
    unfold rb_Memory_get
    repeat' first
      | with_reducible exact iv_none
      | with_reducible refine iv_some ?_
      | with_reducible refine iv_ite (fun _ => ?_) (fun _ => ?_)
      | with_reducible refine iv_gd ?_
      | with_reducible refine iv_stK ?_ (fun _ _ => ?_)
      | with_reducible refine iv_vK (fun _ => ?_)
      | with_reducible refine iv_lK (fun _ => ?_)
      | with_reducible refine iv_bi ?_ (fun _ _ _ _ => ?_)
      | with_reducible refine hF _ _ _ _ ?_ ?_
      | assumption
      | with_reducible refine i54_sI ?_ (by decide) (by decide)
      | with_reducible refine i54_sJ ?_
      | with_reducible refine i54_sA ?_ (by decide) (by decide)
      | with_reducible exact ivA_o (by decide) (by decide)
      | with_reducible refine ivA_47 ?_
      | with_reducible refine ivA_142 ?_
      | decide
theorem iv_rb_Memory_put (hF : ivF F) (T : gSt) (p1 : Int32) (p2 : Int32) (h : I54 T) : iv (rb_Memory_put F nf T p1 p2) := by
    unfold rb_Memory_put
    repeat' first
      | with_reducible exact iv_none
      | with_reducible refine iv_some ?_
      | with_reducible refine iv_ite (fun _ => ?_) (fun _ => ?_)
      | with_reducible refine iv_gd ?_
      | with_reducible refine iv_stK ?_ (fun _ _ => ?_)
      | with_reducible refine iv_vK (fun _ => ?_)
      | with_reducible refine iv_lK (fun _ => ?_)
      | with_reducible refine iv_bi ?_ (fun _ _ _ _ => ?_)
      | with_reducible refine hF _ _ _ _ ?_ ?_
      | assumption
      | with_reducible refine i54_sI ?_ (by decide) (by decide)
      | with_reducible refine i54_sJ ?_
      | with_reducible refine i54_sA ?_ (by decide) (by decide)
      | with_reducible exact ivA_o (by decide) (by decide)
      | with_reducible refine ivA_47 ?_
      | with_reducible refine ivA_142 ?_
      | decide
theorem iv_rb_Memory_isOwned (hF : ivF F) (T : gSt) (p1 : Int32) (h : I54 T) : iv (rb_Memory_isOwned F nf T p1) := by
    unfold rb_Memory_isOwned
    repeat' first
      | with_reducible exact iv_none
      | with_reducible refine iv_some ?_
      | with_reducible refine iv_ite (fun _ => ?_) (fun _ => ?_)
      | with_reducible refine iv_gd ?_
      | with_reducible refine iv_stK ?_ (fun _ _ => ?_)
      | with_reducible refine iv_vK (fun _ => ?_)
      | with_reducible refine iv_lK (fun _ => ?_)
      | with_reducible refine iv_bi ?_ (fun _ _ _ _ => ?_)
      | with_reducible refine hF _ _ _ _ ?_ ?_
      | assumption
      | with_reducible refine i54_sI ?_ (by decide) (by decide)
      | with_reducible refine i54_sJ ?_
      | with_reducible refine i54_sA ?_ (by decide) (by decide)
      | with_reducible exact ivA_o (by decide) (by decide)
      | with_reducible refine ivA_47 ?_
      | with_reducible refine ivA_142 ?_
      | decide
theorem iv_rb_Memory_tellRegion (hF : ivF F) (T : gSt) (p1 : Int32) (p2 : Int32) (h : I54 T) : iv (rb_Memory_tellRegion F nf T p1 p2) := by
    unfold rb_Memory_tellRegion
    repeat' first
      | with_reducible exact iv_none
      | with_reducible refine iv_some ?_
      | with_reducible refine iv_ite (fun _ => ?_) (fun _ => ?_)
      | with_reducible refine iv_gd ?_
      | with_reducible refine iv_stK ?_ (fun _ _ => ?_)
      | with_reducible refine iv_vK (fun _ => ?_)
      | with_reducible refine iv_lK (fun _ => ?_)
      | with_reducible refine iv_bi ?_ (fun _ _ _ _ => ?_)
      | with_reducible refine hF _ _ _ _ ?_ ?_
      | assumption
      | with_reducible refine i54_sI ?_ (by decide) (by decide)
      | with_reducible refine i54_sJ ?_
      | with_reducible refine i54_sA ?_ (by decide) (by decide)
      | with_reducible exact ivA_o (by decide) (by decide)
      | with_reducible refine ivA_47 ?_
      | with_reducible refine ivA_142 ?_
      | decide
theorem iv_rj_Exprs_nameAlone_50 (hF : ivF F) (T : gSt) (x2 : Int32) (h : I54 T) : iv (rj_Exprs_nameAlone_50 F nf T x2) := by
    unfold rj_Exprs_nameAlone_50
    repeat' first
      | with_reducible exact iv_none
      | with_reducible refine iv_some ?_
      | with_reducible refine iv_ite (fun _ => ?_) (fun _ => ?_)
      | with_reducible refine iv_gd ?_
      | with_reducible refine iv_stK ?_ (fun _ _ => ?_)
      | with_reducible refine iv_vK (fun _ => ?_)
      | with_reducible refine iv_lK (fun _ => ?_)
      | with_reducible refine iv_bi ?_ (fun _ _ _ _ => ?_)
      | with_reducible refine hF _ _ _ _ ?_ ?_
      | assumption
      | with_reducible refine i54_sI ?_ (by decide) (by decide)
      | with_reducible refine i54_sJ ?_
      | with_reducible refine i54_sA ?_ (by decide) (by decide)
      | with_reducible exact ivA_o (by decide) (by decide)
      | with_reducible refine ivA_47 ?_
      | with_reducible refine ivA_142 ?_
      | decide
theorem iv_rb_Exprs_nameAlone (hF : ivF F) (T : gSt) (p1 : Int32) (h : I54 T) : iv (rb_Exprs_nameAlone F nf T p1) := by
    unfold rb_Exprs_nameAlone
    repeat' first
      | with_reducible exact iv_none
      | with_reducible refine iv_some ?_
      | with_reducible refine iv_ite (fun _ => ?_) (fun _ => ?_)
      | with_reducible refine iv_gd ?_
      | with_reducible refine iv_stK ?_ (fun _ _ => ?_)
      | with_reducible refine iv_vK (fun _ => ?_)
      | with_reducible refine iv_lK (fun _ => ?_)
      | with_reducible refine iv_bi ?_ (fun _ _ _ _ => ?_)
      | with_reducible refine hF _ _ _ _ ?_ ?_
      | with_reducible refine iv_rj_Exprs_nameAlone_50 hF  _ _ ?_
      | assumption
      | with_reducible refine i54_sI ?_ (by decide) (by decide)
      | with_reducible refine i54_sJ ?_
      | with_reducible refine i54_sA ?_ (by decide) (by decide)
      | with_reducible exact ivA_o (by decide) (by decide)
      | with_reducible refine ivA_47 ?_
      | with_reducible refine ivA_142 ?_
      | decide
theorem iv_rb_House_feed (hF : ivF F) (T : gSt) (p1 : Int32) (p2 : Int32) (p3 : Int32) (p4 : Int32) (p5 : Int32) (h : I54 T) : iv (rb_House_feed F nf T p1 p2 p3 p4 p5) := by
    unfold rb_House_feed
    repeat' first
      | with_reducible exact iv_none
      | with_reducible refine iv_some ?_
      | with_reducible refine iv_ite (fun _ => ?_) (fun _ => ?_)
      | with_reducible refine iv_gd ?_
      | with_reducible refine iv_stK ?_ (fun _ _ => ?_)
      | with_reducible refine iv_vK (fun _ => ?_)
      | with_reducible refine iv_lK (fun _ => ?_)
      | with_reducible refine iv_bi ?_ (fun _ _ _ _ => ?_)
      | with_reducible refine hF _ _ _ _ ?_ ?_
      | assumption
      | with_reducible refine i54_sI ?_ (by decide) (by decide)
      | with_reducible refine i54_sJ ?_
      | with_reducible refine i54_sA ?_ (by decide) (by decide)
      | with_reducible exact ivA_o (by decide) (by decide)
      | with_reducible refine ivA_47 ?_
      | with_reducible refine ivA_142 ?_
      | decide
theorem iv_rl_House_addFour_3 (hF : ivF F) : ∀ (n : Nat) (T : gSt) (x0 : Int32) (x1 : Int32), I54 T → iv (rl_House_addFour_3 F nf n T x0 x1) := by
  intro n
  induction n with
  | zero =>
    intro T x0 x1 h
    rw [rl_House_addFour_3]
    exact iv_none
  | succ n ih =>
    intro T x0 x1 h
    rw [rl_House_addFour_3]
    repeat' first
      | with_reducible exact iv_none
      | with_reducible refine iv_some ?_
      | with_reducible refine iv_ite (fun _ => ?_) (fun _ => ?_)
      | with_reducible refine iv_gd ?_
      | with_reducible refine iv_stK ?_ (fun _ _ => ?_)
      | with_reducible refine iv_vK (fun _ => ?_)
      | with_reducible refine iv_lK (fun _ => ?_)
      | with_reducible refine iv_bi ?_ (fun _ _ _ _ => ?_)
      | with_reducible refine hF _ _ _ _ ?_ ?_
      | with_reducible refine ih _ _ _ ?_
      | assumption
      | with_reducible refine i54_sI ?_ (by decide) (by decide)
      | with_reducible refine i54_sJ ?_
      | with_reducible refine i54_sA ?_ (by decide) (by decide)
      | with_reducible exact ivA_o (by decide) (by decide)
      | with_reducible refine ivA_47 ?_
      | with_reducible refine ivA_142 ?_
      | decide
theorem iv_rb_House_addFour (hF : ivF F) (T : gSt) (p1 : Int32) (h : I54 T) : iv (rb_House_addFour F nf T p1) := by
    unfold rb_House_addFour
    repeat' first
      | with_reducible exact iv_none
      | with_reducible refine iv_some ?_
      | with_reducible refine iv_ite (fun _ => ?_) (fun _ => ?_)
      | with_reducible refine iv_gd ?_
      | with_reducible refine iv_stK ?_ (fun _ _ => ?_)
      | with_reducible refine iv_vK (fun _ => ?_)
      | with_reducible refine iv_lK (fun _ => ?_)
      | with_reducible refine iv_bi ?_ (fun _ _ _ _ => ?_)
      | with_reducible refine hF _ _ _ _ ?_ ?_
      | with_reducible refine iv_rl_House_addFour_3 hF  _ _ _ _ ?_
      | assumption
      | with_reducible refine i54_sI ?_ (by decide) (by decide)
      | with_reducible refine i54_sJ ?_
      | with_reducible refine i54_sA ?_ (by decide) (by decide)
      | with_reducible exact ivA_o (by decide) (by decide)
      | with_reducible refine ivA_47 ?_
      | with_reducible refine ivA_142 ?_
      | decide
theorem iv_rb_Code_clear (T : gSt) : iv (rb_Code_clear F nf T) := by
  unfold rb_Code_clear
  exact iv_some (fun _ => sI_v)
theorem iv_rb_Machine_nextInput (hF : ivF F) (T : gSt) (h : I54 T) : iv (rb_Machine_nextInput F nf T) := by
    unfold rb_Machine_nextInput
    repeat' first
      | with_reducible exact iv_none
      | with_reducible refine iv_some ?_
      | with_reducible refine iv_ite (fun _ => ?_) (fun _ => ?_)
      | with_reducible refine iv_gd ?_
      | with_reducible refine iv_stK ?_ (fun _ _ => ?_)
      | with_reducible refine iv_vK (fun _ => ?_)
      | with_reducible refine iv_lK (fun _ => ?_)
      | with_reducible refine iv_bi ?_ (fun _ _ _ _ => ?_)
      | with_reducible refine hF _ _ _ _ ?_ ?_
      | assumption
      | with_reducible refine i54_sI ?_ (by decide) (by decide)
      | with_reducible refine i54_sJ ?_
      | with_reducible refine i54_sA ?_ (by decide) (by decide)
      | with_reducible exact ivA_o (by decide) (by decide)
      | with_reducible refine ivA_47 ?_
      | with_reducible refine ivA_142 ?_
      | decide
theorem iv_rb_Memory_begin (hF : ivF F) (T : gSt) (p1 : Int32) (p2 : Int32) (h : I54 T) : iv (rb_Memory_begin F nf T p1 p2) := by
    unfold rb_Memory_begin
    repeat' first
      | with_reducible exact iv_none
      | with_reducible refine iv_some ?_
      | with_reducible refine iv_ite (fun _ => ?_) (fun _ => ?_)
      | with_reducible refine iv_gd ?_
      | with_reducible refine iv_stK ?_ (fun _ _ => ?_)
      | with_reducible refine iv_vK (fun _ => ?_)
      | with_reducible refine iv_lK (fun _ => ?_)
      | with_reducible refine iv_bi ?_ (fun _ _ _ _ => ?_)
      | with_reducible refine hF _ _ _ _ ?_ ?_
      | assumption
      | with_reducible refine i54_sI ?_ (by decide) (by decide)
      | with_reducible refine i54_sJ ?_
      | with_reducible refine i54_sA ?_ (by decide) (by decide)
      | with_reducible exact ivA_o (by decide) (by decide)
      | with_reducible refine ivA_47 ?_
      | with_reducible refine ivA_142 ?_
      | decide
theorem iv_rb_Source_scan (T : gSt) (p1 : Int32) (h : I54 T) : iv (rb_Source_scan F nf T p1) := by
  unfold rb_Source_scan
  exact iv_gd (iv_some (i54_scan h))
end IVS
