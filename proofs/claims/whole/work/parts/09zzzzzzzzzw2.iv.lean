section IVS
variable {F : gF} {nf : Nat}
theorem iv_rl_Heads_readRegions_5 (hF : ivF F) : ∀ (n : Nat) (T : gSt) (x0 : Int32) (x1 : Int32) (x2 : Int32) (x3 : Int32), I54 T → iv (rl_Heads_readRegions_5 F nf n T x0 x1 x2 x3) := by
  intro n
  induction n with
  | zero =>
    intro T x0 x1 x2 x3 h
    rw [rl_Heads_readRegions_5]
    exact iv_none
  | succ n ih =>
    intro T x0 x1 x2 x3 h
    rw [rl_Heads_readRegions_5]
    repeat' first
      | with_reducible exact iv_none
      | with_reducible refine iv_some ?_
      | with_reducible refine iv_ite (fun _ => ?_) (fun _ => ?_)
      | with_reducible refine iv_gd ?_
      | with_reducible refine iv_stK ?_ (fun _ _ => ?_)
      | with_reducible refine iv_vK (fun _ => ?_)
      | with_reducible refine iv_lK (fun _ => ?_)
      | with_reducible refine iv_bi ?_ (fun _ _ _ _ => ?_)
      | with_reducible refine hF _ _ _ _ ?_ ?_
      | with_reducible refine ih _ _ _ _ _ ?_
      | assumption
      | with_reducible refine i54_sI ?_ (by decide) (by decide)
      | with_reducible refine i54_sJ ?_
      | with_reducible refine i54_sA ?_ (by decide) (by decide)
      | with_reducible exact ivA_o (by decide) (by decide)
      | with_reducible refine ivA_47 ?_
      | with_reducible refine ivA_142 ?_
      | decide
theorem iv_rb_Heads_readRegions (hF : ivF F) (T : gSt) (p1 : Int32) (p2 : Int32) (h : I54 T) : iv (rb_Heads_readRegions F nf T p1 p2) := by
    unfold rb_Heads_readRegions
    repeat' first
      | with_reducible exact iv_none
      | with_reducible refine iv_some ?_
      | with_reducible refine iv_ite (fun _ => ?_) (fun _ => ?_)
      | with_reducible refine iv_gd ?_
      | with_reducible refine iv_stK ?_ (fun _ _ => ?_)
      | with_reducible refine iv_vK (fun _ => ?_)
      | with_reducible refine iv_lK (fun _ => ?_)
      | with_reducible refine iv_bi ?_ (fun _ _ _ _ => ?_)
      | with_reducible refine hF _ _ _ _ ?_ ?_
      | with_reducible refine iv_rl_Heads_readRegions_5 hF  _ _ _ _ _ _ ?_
      | assumption
      | with_reducible refine i54_sI ?_ (by decide) (by decide)
      | with_reducible refine i54_sJ ?_
      | with_reducible refine i54_sA ?_ (by decide) (by decide)
      | with_reducible exact ivA_o (by decide) (by decide)
      | with_reducible refine ivA_47 ?_
      | with_reducible refine ivA_142 ?_
      | decide
theorem iv_rb_Heads_readType (hF : ivF F) (T : gSt) (p1 : Int32) (p2 : Int32) (h : I54 T) : iv (rb_Heads_readType F nf T p1 p2) := by
    unfold rb_Heads_readType
    repeat' first
      | with_reducible exact iv_none
      | with_reducible refine iv_some ?_
      | with_reducible refine iv_ite (fun _ => ?_) (fun _ => ?_)
      | with_reducible refine iv_gd ?_
      | with_reducible refine iv_stK ?_ (fun _ _ => ?_)
      | with_reducible refine iv_vK (fun _ => ?_)
      | with_reducible refine iv_lK (fun _ => ?_)
      | with_reducible refine iv_bi ?_ (fun _ _ _ _ => ?_)
      | with_reducible refine hF _ _ _ _ ?_ ?_
      | assumption
      | with_reducible refine i54_sI ?_ (by decide) (by decide)
      | with_reducible refine i54_sJ ?_
      | with_reducible refine i54_sA ?_ (by decide) (by decide)
      | with_reducible exact ivA_o (by decide) (by decide)
      | with_reducible refine ivA_47 ?_
      | with_reducible refine ivA_142 ?_
      | decide
theorem iv_rb_Heads_readTitle (hF : ivF F) (T : gSt) (p1 : Int32) (h : I54 T) : iv (rb_Heads_readTitle F nf T p1) := by
    unfold rb_Heads_readTitle
    repeat' first
      | with_reducible exact iv_none
      | with_reducible refine iv_some ?_
      | with_reducible refine iv_ite (fun _ => ?_) (fun _ => ?_)
      | with_reducible refine iv_gd ?_
      | with_reducible refine iv_stK ?_ (fun _ _ => ?_)
      | with_reducible refine iv_vK (fun _ => ?_)
      | with_reducible refine iv_lK (fun _ => ?_)
      | with_reducible refine iv_bi ?_ (fun _ _ _ _ => ?_)
      | with_reducible refine hF _ _ _ _ ?_ ?_
      | assumption
      | with_reducible refine i54_sI ?_ (by decide) (by decide)
      | with_reducible refine i54_sJ ?_
      | with_reducible refine i54_sA ?_ (by decide) (by decide)
      | with_reducible exact ivA_o (by decide) (by decide)
      | with_reducible refine ivA_47 ?_
      | with_reducible refine ivA_142 ?_
      | decide
theorem iv_rl_Exprs_check_22 (hF : ivF F) : ∀ (n : Nat) (T : gSt) (x0 : Int32) (x1 : Int32) (x2 : Int32) (x3 : Int32) (x4 : Int32), I54 T → iv (rl_Exprs_check_22 F nf n T x0 x1 x2 x3 x4) := by
  intro n
  induction n with
  | zero =>
    intro T x0 x1 x2 x3 x4 h
    rw [rl_Exprs_check_22]
    exact iv_none
  | succ n ih =>
    intro T x0 x1 x2 x3 x4 h
    rw [rl_Exprs_check_22]
    repeat' first
      | with_reducible exact iv_none
      | with_reducible refine iv_some ?_
      | with_reducible refine iv_ite (fun _ => ?_) (fun _ => ?_)
      | with_reducible refine iv_gd ?_
      | with_reducible refine iv_stK ?_ (fun _ _ => ?_)
      | with_reducible refine iv_vK (fun _ => ?_)
      | with_reducible refine iv_lK (fun _ => ?_)
      | with_reducible refine iv_bi ?_ (fun _ _ _ _ => ?_)
      | with_reducible refine hF _ _ _ _ ?_ ?_
      | with_reducible refine ih _ _ _ _ _ _ ?_
      | assumption
      | with_reducible refine i54_sI ?_ (by decide) (by decide)
      | with_reducible refine i54_sJ ?_
      | with_reducible refine i54_sA ?_ (by decide) (by decide)
      | with_reducible exact ivA_o (by decide) (by decide)
      | with_reducible refine ivA_47 ?_
      | with_reducible refine ivA_142 ?_
      | decide
theorem iv_rb_Exprs_check (hF : ivF F) (T : gSt) (p1 : Int32) (p2 : Int32) (h : I54 T) : iv (rb_Exprs_check F nf T p1 p2) := by
    unfold rb_Exprs_check
    repeat' first
      | with_reducible exact iv_none
      | with_reducible refine iv_some ?_
      | with_reducible refine iv_ite (fun _ => ?_) (fun _ => ?_)
      | with_reducible refine iv_gd ?_
      | with_reducible refine iv_stK ?_ (fun _ _ => ?_)
      | with_reducible refine iv_vK (fun _ => ?_)
      | with_reducible refine iv_lK (fun _ => ?_)
      | with_reducible refine iv_bi ?_ (fun _ _ _ _ => ?_)
      | with_reducible refine hF _ _ _ _ ?_ ?_
      | with_reducible refine iv_rl_Exprs_check_22 hF  _ _ _ _ _ _ _ ?_
      | assumption
      | with_reducible refine i54_sI ?_ (by decide) (by decide)
      | with_reducible refine i54_sJ ?_
      | with_reducible refine i54_sA ?_ (by decide) (by decide)
      | with_reducible exact ivA_o (by decide) (by decide)
      | with_reducible refine ivA_47 ?_
      | with_reducible refine ivA_142 ?_
      | decide
theorem iv_rb_Exprs_checkFits (hF : ivF F) (T : gSt) (p1 : Int32) (p2 : Int32) (p3 : Int32) (h : I54 T) : iv (rb_Exprs_checkFits F nf T p1 p2 p3) := by
    unfold rb_Exprs_checkFits
    repeat' first
      | with_reducible exact iv_none
      | with_reducible refine iv_some ?_
      | with_reducible refine iv_ite (fun _ => ?_) (fun _ => ?_)
      | with_reducible refine iv_gd ?_
      | with_reducible refine iv_stK ?_ (fun _ _ => ?_)
      | with_reducible refine iv_vK (fun _ => ?_)
      | with_reducible refine iv_lK (fun _ => ?_)
      | with_reducible refine iv_bi ?_ (fun _ _ _ _ => ?_)
      | with_reducible refine hF _ _ _ _ ?_ ?_
      | assumption
      | with_reducible refine i54_sI ?_ (by decide) (by decide)
      | with_reducible refine i54_sJ ?_
      | with_reducible refine i54_sA ?_ (by decide) (by decide)
      | with_reducible exact ivA_o (by decide) (by decide)
      | with_reducible refine ivA_47 ?_
      | with_reducible refine ivA_142 ?_
      | decide
theorem iv_rb_Exprs_demandFit (hF : ivF F) (T : gSt) (p1 : Int32) (p2 : Int32) (p3 : Int32) (h : I54 T) : iv (rb_Exprs_demandFit F nf T p1 p2 p3) := by
    unfold rb_Exprs_demandFit
    repeat' first
      | with_reducible exact iv_none
      | with_reducible refine iv_some ?_
      | with_reducible refine iv_ite (fun _ => ?_) (fun _ => ?_)
      | with_reducible refine iv_gd ?_
      | with_reducible refine iv_stK ?_ (fun _ _ => ?_)
      | with_reducible refine iv_vK (fun _ => ?_)
      | with_reducible refine iv_lK (fun _ => ?_)
      | with_reducible refine iv_bi ?_ (fun _ _ _ _ => ?_)
      | with_reducible refine hF _ _ _ _ ?_ ?_
      | assumption
      | with_reducible refine i54_sI ?_ (by decide) (by decide)
      | with_reducible refine i54_sJ ?_
      | with_reducible refine i54_sA ?_ (by decide) (by decide)
      | with_reducible exact ivA_o (by decide) (by decide)
      | with_reducible refine ivA_47 ?_
      | with_reducible refine ivA_142 ?_
      | decide
theorem iv_rb_Exprs_demand (hF : ivF F) (T : gSt) (p1 p2 p3 : Int32) (h : I54 T) (hp : ¬ p2 = 0) : iv (rb_Exprs_demand F nf T p1 p2 p3) := by
  unfold rb_Exprs_demand
  refine iv_ite (fun _ => ?_) (fun _ => iv_some h)
  exact iv_bi (hF _ _ _ _ h (ivA_47 hp)) (fun _ _ _ h => iv_some h)
theorem iv_rj_Exprs_lackOf_86 (hF : ivF F) (T : gSt) (x1 : Int32) (x2 : Int32) (y0 : Int32) (h : I54 T) : iv (rj_Exprs_lackOf_86 F nf T x1 x2 y0) := by
    unfold rj_Exprs_lackOf_86
    repeat' first
      | with_reducible exact iv_none
      | with_reducible refine iv_some ?_
      | with_reducible refine iv_ite (fun _ => ?_) (fun _ => ?_)
      | with_reducible refine iv_gd ?_
      | with_reducible refine iv_stK ?_ (fun _ _ => ?_)
      | with_reducible refine iv_vK (fun _ => ?_)
      | with_reducible refine iv_lK (fun _ => ?_)
      | with_reducible refine iv_bi ?_ (fun _ _ _ _ => ?_)
      | with_reducible refine hF _ _ _ _ ?_ ?_
      | assumption
      | with_reducible refine i54_sI ?_ (by decide) (by decide)
      | with_reducible refine i54_sJ ?_
      | with_reducible refine i54_sA ?_ (by decide) (by decide)
      | with_reducible exact ivA_o (by decide) (by decide)
      | with_reducible refine ivA_47 ?_
      | with_reducible refine ivA_142 ?_
      | decide
theorem iv_rb_Exprs_lackOf (hF : ivF F) (T : gSt) (p1 : Int32) (p2 : Int32) (h : I54 T) : iv (rb_Exprs_lackOf F nf T p1 p2) := by
    unfold rb_Exprs_lackOf
    repeat' first
      | with_reducible exact iv_none
      | with_reducible refine iv_some ?_
      | with_reducible refine iv_ite (fun _ => ?_) (fun _ => ?_)
      | with_reducible refine iv_gd ?_
      | with_reducible refine iv_stK ?_ (fun _ _ => ?_)
      | with_reducible refine iv_vK (fun _ => ?_)
      | with_reducible refine iv_lK (fun _ => ?_)
      | with_reducible refine iv_bi ?_ (fun _ _ _ _ => ?_)
      | with_reducible refine hF _ _ _ _ ?_ ?_
      | with_reducible refine iv_rj_Exprs_lackOf_86 hF  _ _ _ _ ?_
      | assumption
      | with_reducible refine i54_sI ?_ (by decide) (by decide)
      | with_reducible refine i54_sJ ?_
      | with_reducible refine i54_sA ?_ (by decide) (by decide)
      | with_reducible exact ivA_o (by decide) (by decide)
      | with_reducible refine ivA_47 ?_
      | with_reducible refine ivA_142 ?_
      | decide
theorem iv_rj_Exprs_checkOperator_104 (hF : ivF F) (T : gSt) (x2 : Int32) (x3 : Int32) (x4 : Int32) (x5 : Int32) (x6 : Int32) (h : I54 T) : iv (rj_Exprs_checkOperator_104 F nf T x2 x3 x4 x5 x6) := by
    unfold rj_Exprs_checkOperator_104
    repeat' first
      | with_reducible exact iv_none
      | with_reducible refine iv_some ?_
      | with_reducible refine iv_ite (fun _ => ?_) (fun _ => ?_)
      | with_reducible refine iv_gd ?_
      | with_reducible refine iv_stK ?_ (fun _ _ => ?_)
      | with_reducible refine iv_vK (fun _ => ?_)
      | with_reducible refine iv_lK (fun _ => ?_)
      | with_reducible refine iv_bi ?_ (fun _ _ _ _ => ?_)
      | with_reducible refine hF _ _ _ _ ?_ ?_
      | assumption
      | with_reducible refine i54_sI ?_ (by decide) (by decide)
      | with_reducible refine i54_sJ ?_
      | with_reducible refine i54_sA ?_ (by decide) (by decide)
      | with_reducible exact ivA_o (by decide) (by decide)
      | with_reducible refine ivA_47 ?_
      | with_reducible refine ivA_142 ?_
      | decide
theorem iv_rj_Exprs_checkOperator_60 (hF : ivF F) (T : gSt) (x2 : Int32) (x3 : Int32) (x4 : Int32) (x5 : Int32) (x6 : Int32) (h : I54 T) : iv (rj_Exprs_checkOperator_60 F nf T x2 x3 x4 x5 x6) := by
    unfold rj_Exprs_checkOperator_60
    repeat' first
      | with_reducible exact iv_none
      | with_reducible refine iv_some ?_
      | with_reducible refine iv_ite (fun _ => ?_) (fun _ => ?_)
      | with_reducible refine iv_gd ?_
      | with_reducible refine iv_stK ?_ (fun _ _ => ?_)
      | with_reducible refine iv_vK (fun _ => ?_)
      | with_reducible refine iv_lK (fun _ => ?_)
      | with_reducible refine iv_bi ?_ (fun _ _ _ _ => ?_)
      | with_reducible refine hF _ _ _ _ ?_ ?_
      | with_reducible refine iv_rj_Exprs_checkOperator_104 hF  _ _ _ _ _ _ ?_
      | assumption
      | with_reducible refine i54_sI ?_ (by decide) (by decide)
      | with_reducible refine i54_sJ ?_
      | with_reducible refine i54_sA ?_ (by decide) (by decide)
      | with_reducible exact ivA_o (by decide) (by decide)
      | with_reducible refine ivA_47 ?_
      | with_reducible refine ivA_142 ?_
      | decide
theorem iv_rb_Exprs_checkOperator (hF : ivF F) (T : gSt) (p1 : Int32) (p2 : Int32) (p3 : Int32) (p4 : Int32) (h : I54 T) : iv (rb_Exprs_checkOperator F nf T p1 p2 p3 p4) := by
    unfold rb_Exprs_checkOperator
    repeat' first
      | with_reducible exact iv_none
      | with_reducible refine iv_some ?_
      | with_reducible refine iv_ite (fun _ => ?_) (fun _ => ?_)
      | with_reducible refine iv_gd ?_
      | with_reducible refine iv_stK ?_ (fun _ _ => ?_)
      | with_reducible refine iv_vK (fun _ => ?_)
      | with_reducible refine iv_lK (fun _ => ?_)
      | with_reducible refine iv_bi ?_ (fun _ _ _ _ => ?_)
      | with_reducible refine hF _ _ _ _ ?_ ?_
      | with_reducible refine iv_rj_Exprs_checkOperator_60 hF  _ _ _ _ _ _ ?_
      | assumption
      | with_reducible refine i54_sI ?_ (by decide) (by decide)
      | with_reducible refine i54_sJ ?_
      | with_reducible refine i54_sA ?_ (by decide) (by decide)
      | with_reducible exact ivA_o (by decide) (by decide)
      | with_reducible refine ivA_47 ?_
      | with_reducible refine ivA_142 ?_
      | decide
theorem iv_rb_Exprs_mayCompare (hF : ivF F) (T : gSt) (p1 : Int32) (h : I54 T) : iv (rb_Exprs_mayCompare F nf T p1) := by
    unfold rb_Exprs_mayCompare
    repeat' first
      | with_reducible exact iv_none
      | with_reducible refine iv_some ?_
      | with_reducible refine iv_ite (fun _ => ?_) (fun _ => ?_)
      | with_reducible refine iv_gd ?_
      | with_reducible refine iv_stK ?_ (fun _ _ => ?_)
      | with_reducible refine iv_vK (fun _ => ?_)
      | with_reducible refine iv_lK (fun _ => ?_)
      | with_reducible refine iv_bi ?_ (fun _ _ _ _ => ?_)
      | with_reducible refine hF _ _ _ _ ?_ ?_
      | assumption
      | with_reducible refine i54_sI ?_ (by decide) (by decide)
      | with_reducible refine i54_sJ ?_
      | with_reducible refine i54_sA ?_ (by decide) (by decide)
      | with_reducible exact ivA_o (by decide) (by decide)
      | with_reducible refine ivA_47 ?_
      | with_reducible refine ivA_142 ?_
      | decide
theorem iv_rj_Exprs_checkComparison_83 (hF : ivF F) (T : gSt) (x3 : Int32) (x4 : Int32) (x5 : Int32) (x6 : Int32) (y0 : Int32) (h : I54 T) : iv (rj_Exprs_checkComparison_83 F nf T x3 x4 x5 x6 y0) := by
    unfold rj_Exprs_checkComparison_83
    repeat' first
      | with_reducible exact iv_none
      | with_reducible refine iv_some ?_
      | with_reducible refine iv_ite (fun _ => ?_) (fun _ => ?_)
      | with_reducible refine iv_gd ?_
      | with_reducible refine iv_stK ?_ (fun _ _ => ?_)
      | with_reducible refine iv_vK (fun _ => ?_)
      | with_reducible refine iv_lK (fun _ => ?_)
      | with_reducible refine iv_bi ?_ (fun _ _ _ _ => ?_)
      | with_reducible refine hF _ _ _ _ ?_ ?_
      | assumption
      | with_reducible refine i54_sI ?_ (by decide) (by decide)
      | with_reducible refine i54_sJ ?_
      | with_reducible refine i54_sA ?_ (by decide) (by decide)
      | with_reducible exact ivA_o (by decide) (by decide)
      | with_reducible refine ivA_47 ?_
      | with_reducible refine ivA_142 ?_
      | decide
theorem iv_rb_Exprs_checkComparison (hF : ivF F) (T : gSt) (p1 : Int32) (p2 : Int32) (p3 : Int32) (p4 : Int32) (h : I54 T) : iv (rb_Exprs_checkComparison F nf T p1 p2 p3 p4) := by
    unfold rb_Exprs_checkComparison
    repeat' first
      | with_reducible exact iv_none
      | with_reducible refine iv_some ?_
      | with_reducible refine iv_ite (fun _ => ?_) (fun _ => ?_)
      | with_reducible refine iv_gd ?_
      | with_reducible refine iv_stK ?_ (fun _ _ => ?_)
      | with_reducible refine iv_vK (fun _ => ?_)
      | with_reducible refine iv_lK (fun _ => ?_)
      | with_reducible refine iv_bi ?_ (fun _ _ _ _ => ?_)
      | with_reducible refine hF _ _ _ _ ?_ ?_
      | with_reducible refine iv_rj_Exprs_checkComparison_83 hF  _ _ _ _ _ _ ?_
      | assumption
      | with_reducible refine i54_sI ?_ (by decide) (by decide)
      | with_reducible refine i54_sJ ?_
      | with_reducible refine i54_sA ?_ (by decide) (by decide)
      | with_reducible exact ivA_o (by decide) (by decide)
      | with_reducible refine ivA_47 ?_
      | with_reducible refine ivA_142 ?_
      | decide
theorem iv_rb_Exprs_instructionOf (hF : ivF F) (T : gSt) (p1 : Int32) (h : I54 T) : iv (rb_Exprs_instructionOf F nf T p1) := by
    unfold rb_Exprs_instructionOf
    repeat' first
      | with_reducible exact iv_none
      | with_reducible refine iv_some ?_
      | with_reducible refine iv_ite (fun _ => ?_) (fun _ => ?_)
      | with_reducible refine iv_gd ?_
      | with_reducible refine iv_stK ?_ (fun _ _ => ?_)
      | with_reducible refine iv_vK (fun _ => ?_)
      | with_reducible refine iv_lK (fun _ => ?_)
      | with_reducible refine iv_bi ?_ (fun _ _ _ _ => ?_)
      | with_reducible refine hF _ _ _ _ ?_ ?_
      | assumption
      | with_reducible refine i54_sI ?_ (by decide) (by decide)
      | with_reducible refine i54_sJ ?_
      | with_reducible refine i54_sA ?_ (by decide) (by decide)
      | with_reducible exact ivA_o (by decide) (by decide)
      | with_reducible refine ivA_47 ?_
      | with_reducible refine ivA_142 ?_
      | decide
theorem iv_rl_Exprs_checkTerm_44 (hF : ivF F) : ∀ (n : Nat) (T : gSt) (x0 : Int32) (x1 : Int32) (x2 : Int32) (x3 : Int32) (x4 : Int32) (x5 : Int32), I54 T → iv (rl_Exprs_checkTerm_44 F nf n T x0 x1 x2 x3 x4 x5) := by
  intro n
  induction n with
  | zero =>
    intro T x0 x1 x2 x3 x4 x5 h
    rw [rl_Exprs_checkTerm_44]
    exact iv_none
  | succ n ih =>
    intro T x0 x1 x2 x3 x4 x5 h
    rw [rl_Exprs_checkTerm_44]
    repeat' first
      | with_reducible exact iv_none
      | with_reducible refine iv_some ?_
      | with_reducible refine iv_ite (fun _ => ?_) (fun _ => ?_)
      | with_reducible refine iv_gd ?_
      | with_reducible refine iv_stK ?_ (fun _ _ => ?_)
      | with_reducible refine iv_vK (fun _ => ?_)
      | with_reducible refine iv_lK (fun _ => ?_)
      | with_reducible refine iv_bi ?_ (fun _ _ _ _ => ?_)
      | with_reducible refine hF _ _ _ _ ?_ ?_
      | with_reducible refine ih _ _ _ _ _ _ _ ?_
      | assumption
      | with_reducible refine i54_sI ?_ (by decide) (by decide)
      | with_reducible refine i54_sJ ?_
      | with_reducible refine i54_sA ?_ (by decide) (by decide)
      | with_reducible exact ivA_o (by decide) (by decide)
      | with_reducible refine ivA_47 ?_
      | with_reducible refine ivA_142 ?_
      | decide
theorem iv_rb_Exprs_checkTerm (hF : ivF F) (T : gSt) (p1 : Int32) (p2 : Int32) (p3 : Int32) (h : I54 T) : iv (rb_Exprs_checkTerm F nf T p1 p2 p3) := by
    unfold rb_Exprs_checkTerm
    repeat' first
      | with_reducible exact iv_none
      | with_reducible refine iv_some ?_
      | with_reducible refine iv_ite (fun _ => ?_) (fun _ => ?_)
      | with_reducible refine iv_gd ?_
      | with_reducible refine iv_stK ?_ (fun _ _ => ?_)
      | with_reducible refine iv_vK (fun _ => ?_)
      | with_reducible refine iv_lK (fun _ => ?_)
      | with_reducible refine iv_bi ?_ (fun _ _ _ _ => ?_)
      | with_reducible refine hF _ _ _ _ ?_ ?_
      | with_reducible refine iv_rl_Exprs_checkTerm_44 hF  _ _ _ _ _ _ _ _ ?_
      | assumption
      | with_reducible refine i54_sI ?_ (by decide) (by decide)
      | with_reducible refine i54_sJ ?_
      | with_reducible refine i54_sA ?_ (by decide) (by decide)
      | with_reducible exact ivA_o (by decide) (by decide)
      | with_reducible refine ivA_47 ?_
      | with_reducible refine ivA_142 ?_
      | decide
theorem iv_rb_Exprs_checkPlace (hF : ivF F) (T : gSt) (p1 : Int32) (p2 : Int32) (p3 : Int32) (p4 : Int32) (p5 : Int32) (h : I54 T) : iv (rb_Exprs_checkPlace F nf T p1 p2 p3 p4 p5) := by
    unfold rb_Exprs_checkPlace
    repeat' first
      | with_reducible exact iv_none
      | with_reducible refine iv_some ?_
      | with_reducible refine iv_ite (fun _ => ?_) (fun _ => ?_)
      | with_reducible refine iv_gd ?_
      | with_reducible refine iv_stK ?_ (fun _ _ => ?_)
      | with_reducible refine iv_vK (fun _ => ?_)
      | with_reducible refine iv_lK (fun _ => ?_)
      | with_reducible refine iv_bi ?_ (fun _ _ _ _ => ?_)
      | with_reducible refine hF _ _ _ _ ?_ ?_
      | assumption
      | with_reducible refine i54_sI ?_ (by decide) (by decide)
      | with_reducible refine i54_sJ ?_
      | with_reducible refine i54_sA ?_ (by decide) (by decide)
      | with_reducible exact ivA_o (by decide) (by decide)
      | with_reducible refine ivA_47 ?_
      | with_reducible refine ivA_142 ?_
      | decide
theorem iv_rj_Exprs_checkField_190 (hF : ivF F) (T : gSt) (x4 : Int32) (x6 : Int32) (x7 : Int32) (h : I54 T) : iv (rj_Exprs_checkField_190 F nf T x4 x6 x7) := by
    unfold rj_Exprs_checkField_190
    repeat' first
      | with_reducible exact iv_none
      | with_reducible refine iv_some ?_
      | with_reducible refine iv_ite (fun _ => ?_) (fun _ => ?_)
      | with_reducible refine iv_gd ?_
      | with_reducible refine iv_stK ?_ (fun _ _ => ?_)
      | with_reducible refine iv_vK (fun _ => ?_)
      | with_reducible refine iv_lK (fun _ => ?_)
      | with_reducible refine iv_bi ?_ (fun _ _ _ _ => ?_)
      | with_reducible refine hF _ _ _ _ ?_ ?_
      | assumption
      | with_reducible refine i54_sI ?_ (by decide) (by decide)
      | with_reducible refine i54_sJ ?_
      | with_reducible refine i54_sA ?_ (by decide) (by decide)
      | with_reducible exact ivA_o (by decide) (by decide)
      | with_reducible refine ivA_47 ?_
      | with_reducible refine ivA_142 ?_
      | decide
theorem iv_rb_Exprs_checkField (hF : ivF F) (T : gSt) (p1 : Int32) (p2 : Int32) (p3 : Int32) (p4 : Int32) (h : I54 T) : iv (rb_Exprs_checkField F nf T p1 p2 p3 p4) := by
    unfold rb_Exprs_checkField
    repeat' first
      | with_reducible exact iv_none
      | with_reducible refine iv_some ?_
      | with_reducible refine iv_ite (fun _ => ?_) (fun _ => ?_)
      | with_reducible refine iv_gd ?_
      | with_reducible refine iv_stK ?_ (fun _ _ => ?_)
      | with_reducible refine iv_vK (fun _ => ?_)
      | with_reducible refine iv_lK (fun _ => ?_)
      | with_reducible refine iv_bi ?_ (fun _ _ _ _ => ?_)
      | with_reducible refine hF _ _ _ _ ?_ ?_
      | with_reducible refine iv_rj_Exprs_checkField_190 hF  _ _ _ _ ?_
      | assumption
      | with_reducible refine i54_sI ?_ (by decide) (by decide)
      | with_reducible refine i54_sJ ?_
      | with_reducible refine i54_sA ?_ (by decide) (by decide)
      | with_reducible exact ivA_o (by decide) (by decide)
      | with_reducible refine ivA_47 ?_
      | with_reducible refine ivA_142 ?_
      | decide
theorem iv_rb_Exprs_emitPointed (hF : ivF F) (T : gSt) (p1 : Int32) (p2 : Int32) (p3 : Int32) (h : I54 T) : iv (rb_Exprs_emitPointed F nf T p1 p2 p3) := by
    unfold rb_Exprs_emitPointed
    repeat' first
      | with_reducible exact iv_none
      | with_reducible refine iv_some ?_
      | with_reducible refine iv_ite (fun _ => ?_) (fun _ => ?_)
      | with_reducible refine iv_gd ?_
      | with_reducible refine iv_stK ?_ (fun _ _ => ?_)
      | with_reducible refine iv_vK (fun _ => ?_)
      | with_reducible refine iv_lK (fun _ => ?_)
      | with_reducible refine iv_bi ?_ (fun _ _ _ _ => ?_)
      | with_reducible refine hF _ _ _ _ ?_ ?_
      | assumption
      | with_reducible refine i54_sI ?_ (by decide) (by decide)
      | with_reducible refine i54_sJ ?_
      | with_reducible refine i54_sA ?_ (by decide) (by decide)
      | with_reducible exact ivA_o (by decide) (by decide)
      | with_reducible refine ivA_47 ?_
      | with_reducible refine ivA_142 ?_
      | decide
theorem iv_rb_Exprs_countNull (hF : ivF F) (T : gSt) (p1 : Int32) (h : I54 T) : iv (rb_Exprs_countNull F nf T p1) := by
    unfold rb_Exprs_countNull
    repeat' first
      | with_reducible exact iv_none
      | with_reducible refine iv_some ?_
      | with_reducible refine iv_ite (fun _ => ?_) (fun _ => ?_)
      | with_reducible refine iv_gd ?_
      | with_reducible refine iv_stK ?_ (fun _ _ => ?_)
      | with_reducible refine iv_vK (fun _ => ?_)
      | with_reducible refine iv_lK (fun _ => ?_)
      | with_reducible refine iv_bi ?_ (fun _ _ _ _ => ?_)
      | with_reducible refine hF _ _ _ _ ?_ ?_
      | assumption
      | with_reducible refine i54_sI ?_ (by decide) (by decide)
      | with_reducible refine i54_sJ ?_
      | with_reducible refine i54_sA ?_ (by decide) (by decide)
      | with_reducible exact ivA_o (by decide) (by decide)
      | with_reducible refine ivA_47 ?_
      | with_reducible refine ivA_142 ?_
      | decide
theorem iv_rj_Exprs_checkIndex_133 (hF : ivF F) (T : gSt) (x8 : Int32) (y0 : Int32) (h : I54 T) : iv (rj_Exprs_checkIndex_133 F nf T x8 y0) := by
    unfold rj_Exprs_checkIndex_133
    repeat' first
      | with_reducible exact iv_none
      | with_reducible refine iv_some ?_
      | with_reducible refine iv_ite (fun _ => ?_) (fun _ => ?_)
      | with_reducible refine iv_gd ?_
      | with_reducible refine iv_stK ?_ (fun _ _ => ?_)
      | with_reducible refine iv_vK (fun _ => ?_)
      | with_reducible refine iv_lK (fun _ => ?_)
      | with_reducible refine iv_bi ?_ (fun _ _ _ _ => ?_)
      | with_reducible refine hF _ _ _ _ ?_ ?_
      | assumption
      | with_reducible refine i54_sI ?_ (by decide) (by decide)
      | with_reducible refine i54_sJ ?_
      | with_reducible refine i54_sA ?_ (by decide) (by decide)
      | with_reducible exact ivA_o (by decide) (by decide)
      | with_reducible refine ivA_47 ?_
      | with_reducible refine ivA_142 ?_
      | decide
theorem iv_rj_Exprs_checkIndex_79 (hF : ivF F) (T : gSt) (x2 : Int32) (x4 : Int32) (x6 : Int32) (y0 : Int32) (h : I54 T) : iv (rj_Exprs_checkIndex_79 F nf T x2 x4 x6 y0) := by
    unfold rj_Exprs_checkIndex_79
    repeat' first
      | with_reducible exact iv_none
      | with_reducible refine iv_some ?_
      | with_reducible refine iv_ite (fun _ => ?_) (fun _ => ?_)
      | with_reducible refine iv_gd ?_
      | with_reducible refine iv_stK ?_ (fun _ _ => ?_)
      | with_reducible refine iv_vK (fun _ => ?_)
      | with_reducible refine iv_lK (fun _ => ?_)
      | with_reducible refine iv_bi ?_ (fun _ _ _ _ => ?_)
      | with_reducible refine hF _ _ _ _ ?_ ?_
      | with_reducible refine iv_rj_Exprs_checkIndex_133 hF  _ _ _ ?_
      | assumption
      | with_reducible refine i54_sI ?_ (by decide) (by decide)
      | with_reducible refine i54_sJ ?_
      | with_reducible refine i54_sA ?_ (by decide) (by decide)
      | with_reducible exact ivA_o (by decide) (by decide)
      | with_reducible refine ivA_47 ?_
      | with_reducible refine ivA_142 ?_
      | decide
theorem iv_rb_Exprs_checkIndex (hF : ivF F) (T : gSt) (p1 : Int32) (p2 : Int32) (p3 : Int32) (p4 : Int32) (p5 : Int32) (h : I54 T) : iv (rb_Exprs_checkIndex F nf T p1 p2 p3 p4 p5) := by
    unfold rb_Exprs_checkIndex
    repeat' first
      | with_reducible exact iv_none
      | with_reducible refine iv_some ?_
      | with_reducible refine iv_ite (fun _ => ?_) (fun _ => ?_)
      | with_reducible refine iv_gd ?_
      | with_reducible refine iv_stK ?_ (fun _ _ => ?_)
      | with_reducible refine iv_vK (fun _ => ?_)
      | with_reducible refine iv_lK (fun _ => ?_)
      | with_reducible refine iv_bi ?_ (fun _ _ _ _ => ?_)
      | with_reducible refine hF _ _ _ _ ?_ ?_
      | with_reducible refine iv_rj_Exprs_checkIndex_79 hF  _ _ _ _ _ ?_
      | assumption
      | with_reducible refine i54_sI ?_ (by decide) (by decide)
      | with_reducible refine i54_sJ ?_
      | with_reducible refine i54_sA ?_ (by decide) (by decide)
      | with_reducible exact ivA_o (by decide) (by decide)
      | with_reducible refine ivA_47 ?_
      | with_reducible refine ivA_142 ?_
      | decide
theorem iv_rb_Exprs_checkCell (hF : ivF F) (T : gSt) (p1 : Int32) (p2 : Int32) (p3 : Int32) (h : I54 T) : iv (rb_Exprs_checkCell F nf T p1 p2 p3) := by
    unfold rb_Exprs_checkCell
    repeat' first
      | with_reducible exact iv_none
      | with_reducible refine iv_some ?_
      | with_reducible refine iv_ite (fun _ => ?_) (fun _ => ?_)
      | with_reducible refine iv_gd ?_
      | with_reducible refine iv_stK ?_ (fun _ _ => ?_)
      | with_reducible refine iv_vK (fun _ => ?_)
      | with_reducible refine iv_lK (fun _ => ?_)
      | with_reducible refine iv_bi ?_ (fun _ _ _ _ => ?_)
      | with_reducible refine hF _ _ _ _ ?_ ?_
      | assumption
      | with_reducible refine i54_sI ?_ (by decide) (by decide)
      | with_reducible refine i54_sJ ?_
      | with_reducible refine i54_sA ?_ (by decide) (by decide)
      | with_reducible exact ivA_o (by decide) (by decide)
      | with_reducible refine ivA_47 ?_
      | with_reducible refine ivA_142 ?_
      | decide
theorem iv_rj_Exprs_checkIs_104 (hF : ivF F) (T : gSt) (x1 : Int32) (x2 : Int32) (x5 : Int32) (y0 : Int32) (h : I54 T) : iv (rj_Exprs_checkIs_104 F nf T x1 x2 x5 y0) := by
    unfold rj_Exprs_checkIs_104
    repeat' first
      | with_reducible exact iv_none
      | with_reducible refine iv_some ?_
      | with_reducible refine iv_ite (fun _ => ?_) (fun _ => ?_)
      | with_reducible refine iv_gd ?_
      | with_reducible refine iv_stK ?_ (fun _ _ => ?_)
      | with_reducible refine iv_vK (fun _ => ?_)
      | with_reducible refine iv_lK (fun _ => ?_)
      | with_reducible refine iv_bi ?_ (fun _ _ _ _ => ?_)
      | with_reducible refine hF _ _ _ _ ?_ ?_
      | assumption
      | with_reducible refine i54_sI ?_ (by decide) (by decide)
      | with_reducible refine i54_sJ ?_
      | with_reducible refine i54_sA ?_ (by decide) (by decide)
      | with_reducible exact ivA_o (by decide) (by decide)
      | with_reducible refine ivA_47 ?_
      | with_reducible refine ivA_142 ?_
      | decide
theorem iv_rb_Exprs_checkIs (hF : ivF F) (T : gSt) (p1 : Int32) (p2 : Int32) (p3 : Int32) (h : I54 T) : iv (rb_Exprs_checkIs F nf T p1 p2 p3) := by
    unfold rb_Exprs_checkIs
    repeat' first
      | with_reducible exact iv_none
      | with_reducible refine iv_some ?_
      | with_reducible refine iv_ite (fun _ => ?_) (fun _ => ?_)
      | with_reducible refine iv_gd ?_
      | with_reducible refine iv_stK ?_ (fun _ _ => ?_)
      | with_reducible refine iv_vK (fun _ => ?_)
      | with_reducible refine iv_lK (fun _ => ?_)
      | with_reducible refine iv_bi ?_ (fun _ _ _ _ => ?_)
      | with_reducible refine hF _ _ _ _ ?_ ?_
      | with_reducible refine iv_rj_Exprs_checkIs_104 hF  _ _ _ _ _ ?_
      | assumption
      | with_reducible refine i54_sI ?_ (by decide) (by decide)
      | with_reducible refine i54_sJ ?_
      | with_reducible refine i54_sA ?_ (by decide) (by decide)
      | with_reducible exact ivA_o (by decide) (by decide)
      | with_reducible refine ivA_47 ?_
      | with_reducible refine ivA_142 ?_
      | decide
theorem iv_rj_Exprs_checkPrimary_188 (hF : ivF F) (T : gSt) (x3 : Int32) (y0 : Int32) (h : I54 T) : iv (rj_Exprs_checkPrimary_188 F nf T x3 y0) := by
    unfold rj_Exprs_checkPrimary_188
    repeat' first
      | with_reducible exact iv_none
      | with_reducible refine iv_some ?_
      | with_reducible refine iv_ite (fun _ => ?_) (fun _ => ?_)
      | with_reducible refine iv_gd ?_
      | with_reducible refine iv_stK ?_ (fun _ _ => ?_)
      | with_reducible refine iv_vK (fun _ => ?_)
      | with_reducible refine iv_lK (fun _ => ?_)
      | with_reducible refine iv_bi ?_ (fun _ _ _ _ => ?_)
      | with_reducible refine hF _ _ _ _ ?_ ?_
      | assumption
      | with_reducible refine i54_sI ?_ (by decide) (by decide)
      | with_reducible refine i54_sJ ?_
      | with_reducible refine i54_sA ?_ (by decide) (by decide)
      | with_reducible exact ivA_o (by decide) (by decide)
      | with_reducible refine ivA_47 ?_
      | with_reducible refine ivA_142 ?_
      | decide
theorem iv_rb_Exprs_checkPrimary (hF : ivF F) (T : gSt) (p1 : Int32) (p2 : Int32) (h : I54 T) : iv (rb_Exprs_checkPrimary F nf T p1 p2) := by
    unfold rb_Exprs_checkPrimary
    repeat' first
      | with_reducible exact iv_none
      | with_reducible refine iv_some ?_
      | with_reducible refine iv_ite (fun _ => ?_) (fun _ => ?_)
      | with_reducible refine iv_gd ?_
      | with_reducible refine iv_stK ?_ (fun _ _ => ?_)
      | with_reducible refine iv_vK (fun _ => ?_)
      | with_reducible refine iv_lK (fun _ => ?_)
      | with_reducible refine iv_bi ?_ (fun _ _ _ _ => ?_)
      | with_reducible refine hF _ _ _ _ ?_ ?_
      | with_reducible refine iv_rj_Exprs_checkPrimary_188 hF  _ _ _ ?_
      | assumption
      | with_reducible refine i54_sI ?_ (by decide) (by decide)
      | with_reducible refine i54_sJ ?_
      | with_reducible refine i54_sA ?_ (by decide) (by decide)
      | with_reducible exact ivA_o (by decide) (by decide)
      | with_reducible refine ivA_47 ?_
      | with_reducible refine ivA_142 ?_
      | decide
theorem iv_rb_Exprs_checkName (hF : ivF F) (T : gSt) (p1 : Int32) (h : I54 T) : iv (rb_Exprs_checkName F nf T p1) := by
    unfold rb_Exprs_checkName
    repeat' first
      | with_reducible exact iv_none
      | with_reducible refine iv_some ?_
      | with_reducible refine iv_ite (fun _ => ?_) (fun _ => ?_)
      | with_reducible refine iv_gd ?_
      | with_reducible refine iv_stK ?_ (fun _ _ => ?_)
      | with_reducible refine iv_vK (fun _ => ?_)
      | with_reducible refine iv_lK (fun _ => ?_)
      | with_reducible refine iv_bi ?_ (fun _ _ _ _ => ?_)
      | with_reducible refine hF _ _ _ _ ?_ ?_
      | assumption
      | with_reducible refine i54_sI ?_ (by decide) (by decide)
      | with_reducible refine i54_sJ ?_
      | with_reducible refine i54_sA ?_ (by decide) (by decide)
      | with_reducible exact ivA_o (by decide) (by decide)
      | with_reducible refine ivA_47 ?_
      | with_reducible refine ivA_142 ?_
      | decide
theorem iv_rb_Exprs_solidOf (hF : ivF F) (T : gSt) (p1 : Int32) (h : I54 T) : iv (rb_Exprs_solidOf F nf T p1) := by
    unfold rb_Exprs_solidOf
    repeat' first
      | with_reducible exact iv_none
      | with_reducible refine iv_some ?_
      | with_reducible refine iv_ite (fun _ => ?_) (fun _ => ?_)
      | with_reducible refine iv_gd ?_
      | with_reducible refine iv_stK ?_ (fun _ _ => ?_)
      | with_reducible refine iv_vK (fun _ => ?_)
      | with_reducible refine iv_lK (fun _ => ?_)
      | with_reducible refine iv_bi ?_ (fun _ _ _ _ => ?_)
      | with_reducible refine hF _ _ _ _ ?_ ?_
      | assumption
      | with_reducible refine i54_sI ?_ (by decide) (by decide)
      | with_reducible refine i54_sJ ?_
      | with_reducible refine i54_sA ?_ (by decide) (by decide)
      | with_reducible exact ivA_o (by decide) (by decide)
      | with_reducible refine ivA_47 ?_
      | with_reducible refine ivA_142 ?_
      | decide
theorem iv_rj_Exprs_checkCall_202 (hF : ivF F) {rec_172 : gSt → Int32 → Int32 → Int32 → Int32 → Int32 → gR} (hrec_172 : ∀ T a0 a1 a2 a3 a4, I54 T → iv (rec_172 T a0 a1 a2 a3 a4)) (T : gSt) (x3 : Int32) (x5 : Int32) (x6 : Int32) (x7 : Int32) (x8 : Int32) (y0 : Int32) (h : I54 T) : iv (rj_Exprs_checkCall_202 F nf rec_172 T x3 x5 x6 x7 x8 y0) := by
    unfold rj_Exprs_checkCall_202
    repeat' first
      | with_reducible exact iv_none
      | with_reducible refine iv_some ?_
      | with_reducible refine iv_ite (fun _ => ?_) (fun _ => ?_)
      | with_reducible refine iv_gd ?_
      | with_reducible refine iv_stK ?_ (fun _ _ => ?_)
      | with_reducible refine iv_vK (fun _ => ?_)
      | with_reducible refine iv_lK (fun _ => ?_)
      | with_reducible refine iv_bi ?_ (fun _ _ _ _ => ?_)
      | with_reducible refine hF _ _ _ _ ?_ ?_
      | with_reducible refine hrec_172 _ _ _ _ _ _ ?_
      | assumption
      | with_reducible refine i54_sI ?_ (by decide) (by decide)
      | with_reducible refine i54_sJ ?_
      | with_reducible refine i54_sA ?_ (by decide) (by decide)
      | with_reducible exact ivA_o (by decide) (by decide)
      | with_reducible refine ivA_47 ?_
      | with_reducible refine ivA_142 ?_
      | decide
theorem iv_rl_Exprs_checkCall_172 (hF : ivF F) : ∀ (n : Nat) (T : gSt) (x0 : Int32) (x1 : Int32) (x2 : Int32) (x3 : Int32) (x4 : Int32), I54 T → iv (rl_Exprs_checkCall_172 F nf n T x0 x1 x2 x3 x4) := by
  intro n
  induction n with
  | zero =>
    intro T x0 x1 x2 x3 x4 h
    rw [rl_Exprs_checkCall_172]
    exact iv_none
  | succ n ih =>
    intro T x0 x1 x2 x3 x4 h
    rw [rl_Exprs_checkCall_172]
    repeat' first
      | with_reducible exact iv_none
      | with_reducible refine iv_some ?_
      | with_reducible refine iv_ite (fun _ => ?_) (fun _ => ?_)
      | with_reducible refine iv_gd ?_
      | with_reducible refine iv_stK ?_ (fun _ _ => ?_)
      | with_reducible refine iv_vK (fun _ => ?_)
      | with_reducible refine iv_lK (fun _ => ?_)
      | with_reducible refine iv_bi ?_ (fun _ _ _ _ => ?_)
      | with_reducible refine hF _ _ _ _ ?_ ?_
      | with_reducible refine iv_rj_Exprs_checkCall_202 hF ?_ _ _ _ _ _ _ _ ?_
      | with_reducible refine ih _ _ _ _ _ _ ?_
      | assumption
      | with_reducible refine i54_sI ?_ (by decide) (by decide)
      | with_reducible refine i54_sJ ?_
      | with_reducible refine i54_sA ?_ (by decide) (by decide)
      | with_reducible exact ivA_o (by decide) (by decide)
      | with_reducible refine ivA_47 ?_
      | with_reducible refine ivA_142 ?_
      | decide
theorem iv_rb_Exprs_checkCall (hF : ivF F) (T : gSt) (p1 : Int32) (p2 : Int32) (h : I54 T) : iv (rb_Exprs_checkCall F nf T p1 p2) := by
    unfold rb_Exprs_checkCall
    repeat' first
      | with_reducible exact iv_none
      | with_reducible refine iv_some ?_
      | with_reducible refine iv_ite (fun _ => ?_) (fun _ => ?_)
      | with_reducible refine iv_gd ?_
      | with_reducible refine iv_stK ?_ (fun _ _ => ?_)
      | with_reducible refine iv_vK (fun _ => ?_)
      | with_reducible refine iv_lK (fun _ => ?_)
      | with_reducible refine iv_bi ?_ (fun _ _ _ _ => ?_)
      | with_reducible refine hF _ _ _ _ ?_ ?_
      | with_reducible refine iv_rl_Exprs_checkCall_172 hF  _ _ _ _ _ _ _ ?_
      | assumption
      | with_reducible refine i54_sI ?_ (by decide) (by decide)
      | with_reducible refine i54_sJ ?_
      | with_reducible refine i54_sA ?_ (by decide) (by decide)
      | with_reducible exact ivA_o (by decide) (by decide)
      | with_reducible refine ivA_47 ?_
      | with_reducible refine ivA_142 ?_
      | decide
theorem iv_rl_Exprs_checkParts_6 (hF : ivF F) : ∀ (n : Nat) (T : gSt) (x0 : Int32) (x1 : Int32) (x2 : Int32) (x3 : Int32) (x4 : Int32), I54 T → iv (rl_Exprs_checkParts_6 F nf n T x0 x1 x2 x3 x4) := by
  intro n
  induction n with
  | zero =>
    intro T x0 x1 x2 x3 x4 h
    rw [rl_Exprs_checkParts_6]
    exact iv_none
  | succ n ih =>
    intro T x0 x1 x2 x3 x4 h
    rw [rl_Exprs_checkParts_6]
    repeat' first
      | with_reducible exact iv_none
      | with_reducible refine iv_some ?_
      | with_reducible refine iv_ite (fun _ => ?_) (fun _ => ?_)
      | with_reducible refine iv_gd ?_
      | with_reducible refine iv_stK ?_ (fun _ _ => ?_)
      | with_reducible refine iv_vK (fun _ => ?_)
      | with_reducible refine iv_lK (fun _ => ?_)
      | with_reducible refine iv_bi ?_ (fun _ _ _ _ => ?_)
      | with_reducible refine hF _ _ _ _ ?_ ?_
      | with_reducible refine ih _ _ _ _ _ _ ?_
      | assumption
      | with_reducible refine i54_sI ?_ (by decide) (by decide)
      | with_reducible refine i54_sJ ?_
      | with_reducible refine i54_sA ?_ (by decide) (by decide)
      | with_reducible exact ivA_o (by decide) (by decide)
      | with_reducible refine ivA_47 ?_
      | with_reducible refine ivA_142 ?_
      | decide
theorem iv_rb_Exprs_checkParts (hF : ivF F) (T : gSt) (p1 : Int32) (p2 : Int32) (p3 : Int32) (p4 : Int32) (h : I54 T) : iv (rb_Exprs_checkParts F nf T p1 p2 p3 p4) := by
    unfold rb_Exprs_checkParts
    repeat' first
      | with_reducible exact iv_none
      | with_reducible refine iv_some ?_
      | with_reducible refine iv_ite (fun _ => ?_) (fun _ => ?_)
      | with_reducible refine iv_gd ?_
      | with_reducible refine iv_stK ?_ (fun _ _ => ?_)
      | with_reducible refine iv_vK (fun _ => ?_)
      | with_reducible refine iv_lK (fun _ => ?_)
      | with_reducible refine iv_bi ?_ (fun _ _ _ _ => ?_)
      | with_reducible refine hF _ _ _ _ ?_ ?_
      | with_reducible refine iv_rl_Exprs_checkParts_6 hF  _ _ _ _ _ _ _ ?_
      | assumption
      | with_reducible refine i54_sI ?_ (by decide) (by decide)
      | with_reducible refine i54_sJ ?_
      | with_reducible refine i54_sA ?_ (by decide) (by decide)
      | with_reducible exact ivA_o (by decide) (by decide)
      | with_reducible refine ivA_47 ?_
      | with_reducible refine ivA_142 ?_
      | decide
theorem iv_rl_Exprs_checkWhere_3 (hF : ivF F) : ∀ (n : Nat) (T : gSt) (x0 : Int32) (x1 : Int32) (x2 : Int32) (x3 : Int32), I54 T → iv (rl_Exprs_checkWhere_3 F nf n T x0 x1 x2 x3) := by
  intro n
  induction n with
  | zero =>
    intro T x0 x1 x2 x3 h
    rw [rl_Exprs_checkWhere_3]
    exact iv_none
  | succ n ih =>
    intro T x0 x1 x2 x3 h
    rw [rl_Exprs_checkWhere_3]
    repeat' first
      | with_reducible exact iv_none
      | with_reducible refine iv_some ?_
      | with_reducible refine iv_ite (fun _ => ?_) (fun _ => ?_)
      | with_reducible refine iv_gd ?_
      | with_reducible refine iv_stK ?_ (fun _ _ => ?_)
      | with_reducible refine iv_vK (fun _ => ?_)
      | with_reducible refine iv_lK (fun _ => ?_)
      | with_reducible refine iv_bi ?_ (fun _ _ _ _ => ?_)
      | with_reducible refine hF _ _ _ _ ?_ ?_
      | with_reducible refine ih _ _ _ _ _ ?_
      | assumption
      | with_reducible refine i54_sI ?_ (by decide) (by decide)
      | with_reducible refine i54_sJ ?_
      | with_reducible refine i54_sA ?_ (by decide) (by decide)
      | with_reducible exact ivA_o (by decide) (by decide)
      | with_reducible refine ivA_47 ?_
      | with_reducible refine ivA_142 ?_
      | decide
theorem iv_rb_Exprs_checkWhere (hF : ivF F) (T : gSt) (p1 : Int32) (p2 : Int32) (p3 : Int32) (h : I54 T) : iv (rb_Exprs_checkWhere F nf T p1 p2 p3) := by
    unfold rb_Exprs_checkWhere
    repeat' first
      | with_reducible exact iv_none
      | with_reducible refine iv_some ?_
      | with_reducible refine iv_ite (fun _ => ?_) (fun _ => ?_)
      | with_reducible refine iv_gd ?_
      | with_reducible refine iv_stK ?_ (fun _ _ => ?_)
      | with_reducible refine iv_vK (fun _ => ?_)
      | with_reducible refine iv_lK (fun _ => ?_)
      | with_reducible refine iv_bi ?_ (fun _ _ _ _ => ?_)
      | with_reducible refine hF _ _ _ _ ?_ ?_
      | with_reducible refine iv_rl_Exprs_checkWhere_3 hF  _ _ _ _ _ _ ?_
      | assumption
      | with_reducible refine i54_sI ?_ (by decide) (by decide)
      | with_reducible refine i54_sJ ?_
      | with_reducible refine i54_sA ?_ (by decide) (by decide)
      | with_reducible exact ivA_o (by decide) (by decide)
      | with_reducible refine ivA_47 ?_
      | with_reducible refine ivA_142 ?_
      | decide
theorem iv_rb_Exprs_readLiveRegion (hF : ivF F) (T : gSt) (p1 : Int32) (h : I54 T) : iv (rb_Exprs_readLiveRegion F nf T p1) := by
    unfold rb_Exprs_readLiveRegion
    repeat' first
      | with_reducible exact iv_none
      | with_reducible refine iv_some ?_
      | with_reducible refine iv_ite (fun _ => ?_) (fun _ => ?_)
      | with_reducible refine iv_gd ?_
      | with_reducible refine iv_stK ?_ (fun _ _ => ?_)
      | with_reducible refine iv_vK (fun _ => ?_)
      | with_reducible refine iv_lK (fun _ => ?_)
      | with_reducible refine iv_bi ?_ (fun _ _ _ _ => ?_)
      | with_reducible refine hF _ _ _ _ ?_ ?_
      | assumption
      | with_reducible refine i54_sI ?_ (by decide) (by decide)
      | with_reducible refine i54_sJ ?_
      | with_reducible refine i54_sA ?_ (by decide) (by decide)
      | with_reducible exact ivA_o (by decide) (by decide)
      | with_reducible refine ivA_47 ?_
      | with_reducible refine ivA_142 ?_
      | decide
theorem iv_rj_Exprs_checkNew_131 (hF : ivF F) (T : gSt) (x1 : Int32) (x2 : Int32) (x3 : Int32) (x6 : Int32) (x8 : Int32) (x9 : Int32) (y0 : Int32) (h : I54 T) : iv (rj_Exprs_checkNew_131 F nf T x1 x2 x3 x6 x8 x9 y0) := by
    unfold rj_Exprs_checkNew_131
    repeat' first
      | with_reducible exact iv_none
      | with_reducible refine iv_some ?_
      | with_reducible refine iv_ite (fun _ => ?_) (fun _ => ?_)
      | with_reducible refine iv_gd ?_
      | with_reducible refine iv_stK ?_ (fun _ _ => ?_)
      | with_reducible refine iv_vK (fun _ => ?_)
      | with_reducible refine iv_lK (fun _ => ?_)
      | with_reducible refine iv_bi ?_ (fun _ _ _ _ => ?_)
      | with_reducible refine hF _ _ _ _ ?_ ?_
      | assumption
      | with_reducible refine i54_sI ?_ (by decide) (by decide)
      | with_reducible refine i54_sJ ?_
      | with_reducible refine i54_sA ?_ (by decide) (by decide)
      | with_reducible exact ivA_o (by decide) (by decide)
      | with_reducible refine ivA_47 ?_
      | with_reducible refine ivA_142 ?_
      | decide
theorem iv_rj_Exprs_checkNew_99 (hF : ivF F) (T : gSt) (x1 : Int32) (x2 : Int32) (x3 : Int32) (x6 : Int32) (x8 : Int32) (y0 : Int32) (h : I54 T) : iv (rj_Exprs_checkNew_99 F nf T x1 x2 x3 x6 x8 y0) := by
    unfold rj_Exprs_checkNew_99
    repeat' first
      | with_reducible exact iv_none
      | with_reducible refine iv_some ?_
      | with_reducible refine iv_ite (fun _ => ?_) (fun _ => ?_)
      | with_reducible refine iv_gd ?_
      | with_reducible refine iv_stK ?_ (fun _ _ => ?_)
      | with_reducible refine iv_vK (fun _ => ?_)
      | with_reducible refine iv_lK (fun _ => ?_)
      | with_reducible refine iv_bi ?_ (fun _ _ _ _ => ?_)
      | with_reducible refine hF _ _ _ _ ?_ ?_
      | with_reducible refine iv_rj_Exprs_checkNew_131 hF  _ _ _ _ _ _ _ _ ?_
      | assumption
      | with_reducible refine i54_sI ?_ (by decide) (by decide)
      | with_reducible refine i54_sJ ?_
      | with_reducible refine i54_sA ?_ (by decide) (by decide)
      | with_reducible exact ivA_o (by decide) (by decide)
      | with_reducible refine ivA_47 ?_
      | with_reducible refine ivA_142 ?_
      | decide
theorem iv_rb_Exprs_checkNew (hF : ivF F) (T : gSt) (p1 : Int32) (p2 : Int32) (h : I54 T) : iv (rb_Exprs_checkNew F nf T p1 p2) := by
    unfold rb_Exprs_checkNew
    repeat' first
      | with_reducible exact iv_none
      | with_reducible refine iv_some ?_
      | with_reducible refine iv_ite (fun _ => ?_) (fun _ => ?_)
      | with_reducible refine iv_gd ?_
      | with_reducible refine iv_stK ?_ (fun _ _ => ?_)
      | with_reducible refine iv_vK (fun _ => ?_)
      | with_reducible refine iv_lK (fun _ => ?_)
      | with_reducible refine iv_bi ?_ (fun _ _ _ _ => ?_)
      | with_reducible refine hF _ _ _ _ ?_ ?_
      | with_reducible refine iv_rj_Exprs_checkNew_99 hF  _ _ _ _ _ _ _ ?_
      | assumption
      | with_reducible refine i54_sI ?_ (by decide) (by decide)
      | with_reducible refine i54_sJ ?_
      | with_reducible refine i54_sA ?_ (by decide) (by decide)
      | with_reducible exact ivA_o (by decide) (by decide)
      | with_reducible refine ivA_47 ?_
      | with_reducible refine ivA_142 ?_
      | decide
theorem iv_rb_Exprs_makeUnion (hF : ivF F) (T : gSt) (p1 : Int32) (p2 : Int32) (p3 : Int32) (p4 : Int32) (h : I54 T) : iv (rb_Exprs_makeUnion F nf T p1 p2 p3 p4) := by
    unfold rb_Exprs_makeUnion
    repeat' first
      | with_reducible exact iv_none
      | with_reducible refine iv_some ?_
      | with_reducible refine iv_ite (fun _ => ?_) (fun _ => ?_)
      | with_reducible refine iv_gd ?_
      | with_reducible refine iv_stK ?_ (fun _ _ => ?_)
      | with_reducible refine iv_vK (fun _ => ?_)
      | with_reducible refine iv_lK (fun _ => ?_)
      | with_reducible refine iv_bi ?_ (fun _ _ _ _ => ?_)
      | with_reducible refine hF _ _ _ _ ?_ ?_
      | assumption
      | with_reducible refine i54_sI ?_ (by decide) (by decide)
      | with_reducible refine i54_sJ ?_
      | with_reducible refine i54_sA ?_ (by decide) (by decide)
      | with_reducible exact ivA_o (by decide) (by decide)
      | with_reducible refine ivA_47 ?_
      | with_reducible refine ivA_142 ?_
      | decide
theorem iv_rb_Exprs_makeStruct (hF : ivF F) (T : gSt) (p1 : Int32) (p2 : Int32) (p3 : Int32) (p4 : Int32) (h : I54 T) : iv (rb_Exprs_makeStruct F nf T p1 p2 p3 p4) := by
    unfold rb_Exprs_makeStruct
    repeat' first
      | with_reducible exact iv_none
      | with_reducible refine iv_some ?_
      | with_reducible refine iv_ite (fun _ => ?_) (fun _ => ?_)
      | with_reducible refine iv_gd ?_
      | with_reducible refine iv_stK ?_ (fun _ _ => ?_)
      | with_reducible refine iv_vK (fun _ => ?_)
      | with_reducible refine iv_lK (fun _ => ?_)
      | with_reducible refine iv_bi ?_ (fun _ _ _ _ => ?_)
      | with_reducible refine hF _ _ _ _ ?_ ?_
      | assumption
      | with_reducible refine i54_sI ?_ (by decide) (by decide)
      | with_reducible refine i54_sJ ?_
      | with_reducible refine i54_sA ?_ (by decide) (by decide)
      | with_reducible exact ivA_o (by decide) (by decide)
      | with_reducible refine ivA_47 ?_
      | with_reducible refine ivA_142 ?_
      | decide
theorem iv_rb_Exprs_checkNewCell (hF : ivF F) (T : gSt) (p1 : Int32) (p2 : Int32) (h : I54 T) : iv (rb_Exprs_checkNewCell F nf T p1 p2) := by
    unfold rb_Exprs_checkNewCell
    repeat' first
      | with_reducible exact iv_none
      | with_reducible refine iv_some ?_
      | with_reducible refine iv_ite (fun _ => ?_) (fun _ => ?_)
      | with_reducible refine iv_gd ?_
      | with_reducible refine iv_stK ?_ (fun _ _ => ?_)
      | with_reducible refine iv_vK (fun _ => ?_)
      | with_reducible refine iv_lK (fun _ => ?_)
      | with_reducible refine iv_bi ?_ (fun _ _ _ _ => ?_)
      | with_reducible refine hF _ _ _ _ ?_ ?_
      | assumption
      | with_reducible refine i54_sI ?_ (by decide) (by decide)
      | with_reducible refine i54_sJ ?_
      | with_reducible refine i54_sA ?_ (by decide) (by decide)
      | with_reducible exact ivA_o (by decide) (by decide)
      | with_reducible refine ivA_47 ?_
      | with_reducible refine ivA_142 ?_
      | decide
theorem iv_rj_Exprs_checkNewRow_46 (hF : ivF F) (T : gSt) (x2 : Int32) (x3 : Int32) (x4 : Int32) (y0 : Int32) (h : I54 T) : iv (rj_Exprs_checkNewRow_46 F nf T x2 x3 x4 y0) := by
    unfold rj_Exprs_checkNewRow_46
    repeat' first
      | with_reducible exact iv_none
      | with_reducible refine iv_some ?_
      | with_reducible refine iv_ite (fun _ => ?_) (fun _ => ?_)
      | with_reducible refine iv_gd ?_
      | with_reducible refine iv_stK ?_ (fun _ _ => ?_)
      | with_reducible refine iv_vK (fun _ => ?_)
      | with_reducible refine iv_lK (fun _ => ?_)
      | with_reducible refine iv_bi ?_ (fun _ _ _ _ => ?_)
      | with_reducible refine hF _ _ _ _ ?_ ?_
      | assumption
      | with_reducible refine i54_sI ?_ (by decide) (by decide)
      | with_reducible refine i54_sJ ?_
      | with_reducible refine i54_sA ?_ (by decide) (by decide)
      | with_reducible exact ivA_o (by decide) (by decide)
      | with_reducible refine ivA_47 ?_
      | with_reducible refine ivA_142 ?_
      | decide
theorem iv_rb_Exprs_checkNewRow (hF : ivF F) (T : gSt) (p1 : Int32) (p2 : Int32) (h : I54 T) : iv (rb_Exprs_checkNewRow F nf T p1 p2) := by
    unfold rb_Exprs_checkNewRow
    repeat' first
      | with_reducible exact iv_none
      | with_reducible refine iv_some ?_
      | with_reducible refine iv_ite (fun _ => ?_) (fun _ => ?_)
      | with_reducible refine iv_gd ?_
      | with_reducible refine iv_stK ?_ (fun _ _ => ?_)
      | with_reducible refine iv_vK (fun _ => ?_)
      | with_reducible refine iv_lK (fun _ => ?_)
      | with_reducible refine iv_bi ?_ (fun _ _ _ _ => ?_)
      | with_reducible refine hF _ _ _ _ ?_ ?_
      | with_reducible refine iv_rj_Exprs_checkNewRow_46 hF  _ _ _ _ _ ?_
      | assumption
      | with_reducible refine i54_sI ?_ (by decide) (by decide)
      | with_reducible refine i54_sJ ?_
      | with_reducible refine i54_sA ?_ (by decide) (by decide)
      | with_reducible exact ivA_o (by decide) (by decide)
      | with_reducible refine ivA_47 ?_
      | with_reducible refine ivA_142 ?_
      | decide
theorem iv_rb_Exprs_checkValue (hF : ivF F) (T : gSt) (p1 : Int32) (p2 : Int32) (h : I54 T) : iv (rb_Exprs_checkValue F nf T p1 p2) := by
    unfold rb_Exprs_checkValue
    repeat' first
      | with_reducible exact iv_none
      | with_reducible refine iv_some ?_
      | with_reducible refine iv_ite (fun _ => ?_) (fun _ => ?_)
      | with_reducible refine iv_gd ?_
      | with_reducible refine iv_stK ?_ (fun _ _ => ?_)
      | with_reducible refine iv_vK (fun _ => ?_)
      | with_reducible refine iv_lK (fun _ => ?_)
      | with_reducible refine iv_bi ?_ (fun _ _ _ _ => ?_)
      | with_reducible refine hF _ _ _ _ ?_ ?_
      | assumption
      | with_reducible refine i54_sI ?_ (by decide) (by decide)
      | with_reducible refine i54_sJ ?_
      | with_reducible refine i54_sA ?_ (by decide) (by decide)
      | with_reducible exact ivA_o (by decide) (by decide)
      | with_reducible refine ivA_47 ?_
      | with_reducible refine ivA_142 ?_
      | decide
theorem iv_rj_Exprs_checkAddress_91 (hF : ivF F) (T : gSt) (x2 : Int32) (x3 : Int32) (x4 : Int32) (x5 : Int32) (h : I54 T) : iv (rj_Exprs_checkAddress_91 F nf T x2 x3 x4 x5) := by
    unfold rj_Exprs_checkAddress_91
    repeat' first
      | with_reducible exact iv_none
      | with_reducible refine iv_some ?_
      | with_reducible refine iv_ite (fun _ => ?_) (fun _ => ?_)
      | with_reducible refine iv_gd ?_
      | with_reducible refine iv_stK ?_ (fun _ _ => ?_)
      | with_reducible refine iv_vK (fun _ => ?_)
      | with_reducible refine iv_lK (fun _ => ?_)
      | with_reducible refine iv_bi ?_ (fun _ _ _ _ => ?_)
      | with_reducible refine hF _ _ _ _ ?_ ?_
      | assumption
      | with_reducible refine i54_sI ?_ (by decide) (by decide)
      | with_reducible refine i54_sJ ?_
      | with_reducible refine i54_sA ?_ (by decide) (by decide)
      | with_reducible exact ivA_o (by decide) (by decide)
      | with_reducible refine ivA_47 ?_
      | with_reducible refine ivA_142 ?_
      | decide
theorem iv_rb_Exprs_checkAddress (hF : ivF F) (T : gSt) (p1 : Int32) (p2 : Int32) (h : I54 T) : iv (rb_Exprs_checkAddress F nf T p1 p2) := by
    unfold rb_Exprs_checkAddress
    repeat' first
      | with_reducible exact iv_none
      | with_reducible refine iv_some ?_
      | with_reducible refine iv_ite (fun _ => ?_) (fun _ => ?_)
      | with_reducible refine iv_gd ?_
      | with_reducible refine iv_stK ?_ (fun _ _ => ?_)
      | with_reducible refine iv_vK (fun _ => ?_)
      | with_reducible refine iv_lK (fun _ => ?_)
      | with_reducible refine iv_bi ?_ (fun _ _ _ _ => ?_)
      | with_reducible refine hF _ _ _ _ ?_ ?_
      | with_reducible refine iv_rj_Exprs_checkAddress_91 hF  _ _ _ _ _ ?_
      | assumption
      | with_reducible refine i54_sI ?_ (by decide) (by decide)
      | with_reducible refine i54_sJ ?_
      | with_reducible refine i54_sA ?_ (by decide) (by decide)
      | with_reducible exact ivA_o (by decide) (by decide)
      | with_reducible refine ivA_47 ?_
      | with_reducible refine ivA_142 ?_
      | decide
theorem iv_rb_Exprs_checkSolid (hF : ivF F) (T : gSt) (p1 : Int32) (p2 : Int32) (h : I54 T) : iv (rb_Exprs_checkSolid F nf T p1 p2) := by
    unfold rb_Exprs_checkSolid
    repeat' first
      | with_reducible exact iv_none
      | with_reducible refine iv_some ?_
      | with_reducible refine iv_ite (fun _ => ?_) (fun _ => ?_)
      | with_reducible refine iv_gd ?_
      | with_reducible refine iv_stK ?_ (fun _ _ => ?_)
      | with_reducible refine iv_vK (fun _ => ?_)
      | with_reducible refine iv_lK (fun _ => ?_)
      | with_reducible refine iv_bi ?_ (fun _ _ _ _ => ?_)
      | with_reducible refine hF _ _ _ _ ?_ ?_
      | assumption
      | with_reducible refine i54_sI ?_ (by decide) (by decide)
      | with_reducible refine i54_sJ ?_
      | with_reducible refine i54_sA ?_ (by decide) (by decide)
      | with_reducible exact ivA_o (by decide) (by decide)
      | with_reducible refine ivA_47 ?_
      | with_reducible refine ivA_142 ?_
      | decide
theorem iv_rj_Exprs_checkSize_39 (hF : ivF F) (T : gSt) (x3 : Int32) (y0 : Int32) (h : I54 T) : iv (rj_Exprs_checkSize_39 F nf T x3 y0) := by
    unfold rj_Exprs_checkSize_39
    repeat' first
      | with_reducible exact iv_none
      | with_reducible refine iv_some ?_
      | with_reducible refine iv_ite (fun _ => ?_) (fun _ => ?_)
      | with_reducible refine iv_gd ?_
      | with_reducible refine iv_stK ?_ (fun _ _ => ?_)
      | with_reducible refine iv_vK (fun _ => ?_)
      | with_reducible refine iv_lK (fun _ => ?_)
      | with_reducible refine iv_bi ?_ (fun _ _ _ _ => ?_)
      | with_reducible refine hF _ _ _ _ ?_ ?_
      | assumption
      | with_reducible refine i54_sI ?_ (by decide) (by decide)
      | with_reducible refine i54_sJ ?_
      | with_reducible refine i54_sA ?_ (by decide) (by decide)
      | with_reducible exact ivA_o (by decide) (by decide)
      | with_reducible refine ivA_47 ?_
      | with_reducible refine ivA_142 ?_
      | decide
theorem iv_rb_Exprs_checkSize (hF : ivF F) (T : gSt) (p1 : Int32) (p2 : Int32) (h : I54 T) : iv (rb_Exprs_checkSize F nf T p1 p2) := by
    unfold rb_Exprs_checkSize
    repeat' first
      | with_reducible exact iv_none
      | with_reducible refine iv_some ?_
      | with_reducible refine iv_ite (fun _ => ?_) (fun _ => ?_)
      | with_reducible refine iv_gd ?_
      | with_reducible refine iv_stK ?_ (fun _ _ => ?_)
      | with_reducible refine iv_vK (fun _ => ?_)
      | with_reducible refine iv_lK (fun _ => ?_)
      | with_reducible refine iv_bi ?_ (fun _ _ _ _ => ?_)
      | with_reducible refine hF _ _ _ _ ?_ ?_
      | with_reducible refine iv_rj_Exprs_checkSize_39 hF  _ _ _ ?_
      | assumption
      | with_reducible refine i54_sI ?_ (by decide) (by decide)
      | with_reducible refine i54_sJ ?_
      | with_reducible refine i54_sA ?_ (by decide) (by decide)
      | with_reducible exact ivA_o (by decide) (by decide)
      | with_reducible refine ivA_47 ?_
      | with_reducible refine ivA_142 ?_
      | decide
theorem iv_rb_Exprs_storePlace (hF : ivF F) (T : gSt) (p1 : Int32) (p2 : Int32) (p3 : Int32) (p4 : Int32) (h : I54 T) : iv (rb_Exprs_storePlace F nf T p1 p2 p3 p4) := by
    unfold rb_Exprs_storePlace
    repeat' first
      | with_reducible exact iv_none
      | with_reducible refine iv_some ?_
      | with_reducible refine iv_ite (fun _ => ?_) (fun _ => ?_)
      | with_reducible refine iv_gd ?_
      | with_reducible refine iv_stK ?_ (fun _ _ => ?_)
      | with_reducible refine iv_vK (fun _ => ?_)
      | with_reducible refine iv_lK (fun _ => ?_)
      | with_reducible refine iv_bi ?_ (fun _ _ _ _ => ?_)
      | with_reducible refine hF _ _ _ _ ?_ ?_
      | assumption
      | with_reducible refine i54_sI ?_ (by decide) (by decide)
      | with_reducible refine i54_sJ ?_
      | with_reducible refine i54_sA ?_ (by decide) (by decide)
      | with_reducible exact ivA_o (by decide) (by decide)
      | with_reducible refine ivA_47 ?_
      | with_reducible refine ivA_142 ?_
      | decide
theorem iv_rb_Exprs_storeVar (hF : ivF F) (T : gSt) (p1 : Int32) (p2 : Int32) (p3 : Int32) (h : I54 T) : iv (rb_Exprs_storeVar F nf T p1 p2 p3) := by
    unfold rb_Exprs_storeVar
    repeat' first
      | with_reducible exact iv_none
      | with_reducible refine iv_some ?_
      | with_reducible refine iv_ite (fun _ => ?_) (fun _ => ?_)
      | with_reducible refine iv_gd ?_
      | with_reducible refine iv_stK ?_ (fun _ _ => ?_)
      | with_reducible refine iv_vK (fun _ => ?_)
      | with_reducible refine iv_lK (fun _ => ?_)
      | with_reducible refine iv_bi ?_ (fun _ _ _ _ => ?_)
      | with_reducible refine hF _ _ _ _ ?_ ?_
      | assumption
      | with_reducible refine i54_sI ?_ (by decide) (by decide)
      | with_reducible refine i54_sJ ?_
      | with_reducible refine i54_sA ?_ (by decide) (by decide)
      | with_reducible exact ivA_o (by decide) (by decide)
      | with_reducible refine ivA_47 ?_
      | with_reducible refine ivA_142 ?_
      | decide
theorem iv_rj_Exprs_giveVar_38 (hF : ivF F) (T : gSt) (x1 : Int32) (x3 : Int32) (y0 : Int32) (h : I54 T) : iv (rj_Exprs_giveVar_38 F nf T x1 x3 y0) := by
    unfold rj_Exprs_giveVar_38
    repeat' first
      | with_reducible exact iv_none
      | with_reducible refine iv_some ?_
      | with_reducible refine iv_ite (fun _ => ?_) (fun _ => ?_)
      | with_reducible refine iv_gd ?_
      | with_reducible refine iv_stK ?_ (fun _ _ => ?_)
      | with_reducible refine iv_vK (fun _ => ?_)
      | with_reducible refine iv_lK (fun _ => ?_)
      | with_reducible refine iv_bi ?_ (fun _ _ _ _ => ?_)
      | with_reducible refine hF _ _ _ _ ?_ ?_
      | assumption
      | with_reducible refine i54_sI ?_ (by decide) (by decide)
      | with_reducible refine i54_sJ ?_
      | with_reducible refine i54_sA ?_ (by decide) (by decide)
      | with_reducible exact ivA_o (by decide) (by decide)
      | with_reducible refine ivA_47 ?_
      | with_reducible refine ivA_142 ?_
      | decide
theorem iv_rb_Exprs_giveVar (hF : ivF F) (T : gSt) (p1 : Int32) (p2 : Int32) (h : I54 T) : iv (rb_Exprs_giveVar F nf T p1 p2) := by
    unfold rb_Exprs_giveVar
    repeat' first
      | with_reducible exact iv_none
      | with_reducible refine iv_some ?_
      | with_reducible refine iv_ite (fun _ => ?_) (fun _ => ?_)
      | with_reducible refine iv_gd ?_
      | with_reducible refine iv_stK ?_ (fun _ _ => ?_)
      | with_reducible refine iv_vK (fun _ => ?_)
      | with_reducible refine iv_lK (fun _ => ?_)
      | with_reducible refine iv_bi ?_ (fun _ _ _ _ => ?_)
      | with_reducible refine hF _ _ _ _ ?_ ?_
      | with_reducible refine iv_rj_Exprs_giveVar_38 hF  _ _ _ _ ?_
      | assumption
      | with_reducible refine i54_sI ?_ (by decide) (by decide)
      | with_reducible refine i54_sJ ?_
      | with_reducible refine i54_sA ?_ (by decide) (by decide)
      | with_reducible exact ivA_o (by decide) (by decide)
      | with_reducible refine ivA_47 ?_
      | with_reducible refine ivA_142 ?_
      | decide
theorem iv_rb_Exprs_varAlone (hF : ivF F) (T : gSt) (p1 : Int32) (h : I54 T) : iv (rb_Exprs_varAlone F nf T p1) := by
    unfold rb_Exprs_varAlone
    repeat' first
      | with_reducible exact iv_none
      | with_reducible refine iv_some ?_
      | with_reducible refine iv_ite (fun _ => ?_) (fun _ => ?_)
      | with_reducible refine iv_gd ?_
      | with_reducible refine iv_stK ?_ (fun _ _ => ?_)
      | with_reducible refine iv_vK (fun _ => ?_)
      | with_reducible refine iv_lK (fun _ => ?_)
      | with_reducible refine iv_bi ?_ (fun _ _ _ _ => ?_)
      | with_reducible refine hF _ _ _ _ ?_ ?_
      | assumption
      | with_reducible refine i54_sI ?_ (by decide) (by decide)
      | with_reducible refine i54_sJ ?_
      | with_reducible refine i54_sA ?_ (by decide) (by decide)
      | with_reducible exact ivA_o (by decide) (by decide)
      | with_reducible refine ivA_47 ?_
      | with_reducible refine ivA_142 ?_
      | decide
theorem iv_rb_Exprs_varAgainstNull (hF : ivF F) (T : gSt) (p1 : Int32) (h : I54 T) : iv (rb_Exprs_varAgainstNull F nf T p1) := by
    unfold rb_Exprs_varAgainstNull
    repeat' first
      | with_reducible exact iv_none
      | with_reducible refine iv_some ?_
      | with_reducible refine iv_ite (fun _ => ?_) (fun _ => ?_)
      | with_reducible refine iv_gd ?_
      | with_reducible refine iv_stK ?_ (fun _ _ => ?_)
      | with_reducible refine iv_vK (fun _ => ?_)
      | with_reducible refine iv_lK (fun _ => ?_)
      | with_reducible refine iv_bi ?_ (fun _ _ _ _ => ?_)
      | with_reducible refine hF _ _ _ _ ?_ ?_
      | assumption
      | with_reducible refine i54_sI ?_ (by decide) (by decide)
      | with_reducible refine i54_sJ ?_
      | with_reducible refine i54_sA ?_ (by decide) (by decide)
      | with_reducible exact ivA_o (by decide) (by decide)
      | with_reducible refine ivA_47 ?_
      | with_reducible refine ivA_142 ?_
      | decide
theorem iv_rj_Exprs_varOfTerm_39 (hF : ivF F) (T : gSt) (x2 : Int32) (y0 : Int32) (h : I54 T) : iv (rj_Exprs_varOfTerm_39 F nf T x2 y0) := by
    unfold rj_Exprs_varOfTerm_39
    repeat' first
      | with_reducible exact iv_none
      | with_reducible refine iv_some ?_
      | with_reducible refine iv_ite (fun _ => ?_) (fun _ => ?_)
      | with_reducible refine iv_gd ?_
      | with_reducible refine iv_stK ?_ (fun _ _ => ?_)
      | with_reducible refine iv_vK (fun _ => ?_)
      | with_reducible refine iv_lK (fun _ => ?_)
      | with_reducible refine iv_bi ?_ (fun _ _ _ _ => ?_)
      | with_reducible refine hF _ _ _ _ ?_ ?_
      | assumption
      | with_reducible refine i54_sI ?_ (by decide) (by decide)
      | with_reducible refine i54_sJ ?_
      | with_reducible refine i54_sA ?_ (by decide) (by decide)
      | with_reducible exact ivA_o (by decide) (by decide)
      | with_reducible refine ivA_47 ?_
      | with_reducible refine ivA_142 ?_
      | decide
theorem iv_rb_Exprs_varOfTerm (hF : ivF F) (T : gSt) (p1 : Int32) (h : I54 T) : iv (rb_Exprs_varOfTerm F nf T p1) := by
    unfold rb_Exprs_varOfTerm
    repeat' first
      | with_reducible exact iv_none
      | with_reducible refine iv_some ?_
      | with_reducible refine iv_ite (fun _ => ?_) (fun _ => ?_)
      | with_reducible refine iv_gd ?_
      | with_reducible refine iv_stK ?_ (fun _ _ => ?_)
      | with_reducible refine iv_vK (fun _ => ?_)
      | with_reducible refine iv_lK (fun _ => ?_)
      | with_reducible refine iv_bi ?_ (fun _ _ _ _ => ?_)
      | with_reducible refine hF _ _ _ _ ?_ ?_
      | with_reducible refine iv_rj_Exprs_varOfTerm_39 hF  _ _ _ ?_
      | assumption
      | with_reducible refine i54_sI ?_ (by decide) (by decide)
      | with_reducible refine i54_sJ ?_
      | with_reducible refine i54_sA ?_ (by decide) (by decide)
      | with_reducible exact ivA_o (by decide) (by decide)
      | with_reducible refine ivA_47 ?_
      | with_reducible refine ivA_142 ?_
      | decide
theorem iv_rl_Steps_check_2 (hF : ivF F) : ∀ (n : Nat) (T : gSt) (x0 : Int32), I54 T → iv (rl_Steps_check_2 F nf n T x0) := by
  intro n
  induction n with
  | zero =>
    intro T x0 h
    rw [rl_Steps_check_2]
    exact iv_none
  | succ n ih =>
    intro T x0 h
    rw [rl_Steps_check_2]
    repeat' first
      | with_reducible exact iv_none
      | with_reducible refine iv_some ?_
      | with_reducible refine iv_ite (fun _ => ?_) (fun _ => ?_)
      | with_reducible refine iv_gd ?_
      | with_reducible refine iv_stK ?_ (fun _ _ => ?_)
      | with_reducible refine iv_vK (fun _ => ?_)
      | with_reducible refine iv_lK (fun _ => ?_)
      | with_reducible refine iv_bi ?_ (fun _ _ _ _ => ?_)
      | with_reducible refine hF _ _ _ _ ?_ ?_
      | with_reducible refine ih _ _ ?_
      | assumption
      | with_reducible refine i54_sI ?_ (by decide) (by decide)
      | with_reducible refine i54_sJ ?_
      | with_reducible refine i54_sA ?_ (by decide) (by decide)
      | with_reducible exact ivA_o (by decide) (by decide)
      | with_reducible refine ivA_47 ?_
      | with_reducible refine ivA_142 ?_
      | decide
theorem iv_rb_Steps_check (hF : ivF F) (T : gSt) (h : I54 T) : iv (rb_Steps_check F nf T) := by
    unfold rb_Steps_check
    repeat' first
      | with_reducible exact iv_none
      | with_reducible refine iv_some ?_
      | with_reducible refine iv_ite (fun _ => ?_) (fun _ => ?_)
      | with_reducible refine iv_gd ?_
      | with_reducible refine iv_stK ?_ (fun _ _ => ?_)
      | with_reducible refine iv_vK (fun _ => ?_)
      | with_reducible refine iv_lK (fun _ => ?_)
      | with_reducible refine iv_bi ?_ (fun _ _ _ _ => ?_)
      | with_reducible refine hF _ _ _ _ ?_ ?_
      | with_reducible refine iv_rl_Steps_check_2 hF  _ _ _ ?_
      | assumption
      | with_reducible refine i54_sI ?_ (by decide) (by decide)
      | with_reducible refine i54_sJ ?_
      | with_reducible refine i54_sA ?_ (by decide) (by decide)
      | with_reducible exact ivA_o (by decide) (by decide)
      | with_reducible refine ivA_47 ?_
      | with_reducible refine ivA_142 ?_
      | decide
theorem iv_rb_Steps_checkFun (hF : ivF F) (T : gSt) (p1 : Int32) (h : I54 T) : iv (rb_Steps_checkFun F nf T p1) := by
    unfold rb_Steps_checkFun
    repeat' first
      | with_reducible exact iv_none
      | with_reducible refine iv_some ?_
      | with_reducible refine iv_ite (fun _ => ?_) (fun _ => ?_)
      | with_reducible refine iv_gd ?_
      | with_reducible refine iv_stK ?_ (fun _ _ => ?_)
      | with_reducible refine iv_vK (fun _ => ?_)
      | with_reducible refine iv_lK (fun _ => ?_)
      | with_reducible refine iv_bi ?_ (fun _ _ _ _ => ?_)
      | with_reducible refine hF _ _ _ _ ?_ ?_
      | assumption
      | with_reducible refine i54_sI ?_ (by decide) (by decide)
      | with_reducible refine i54_sJ ?_
      | with_reducible refine i54_sA ?_ (by decide) (by decide)
      | with_reducible exact ivA_o (by decide) (by decide)
      | with_reducible refine ivA_47 ?_
      | with_reducible refine ivA_142 ?_
      | decide
theorem iv_rl_Steps_checkBlock_21 (hF : ivF F) : ∀ (n : Nat) (T : gSt) (x0 : Int32) (x1 : Int32) (x2 : Int32) (x3 : Int32), I54 T → iv (rl_Steps_checkBlock_21 F nf n T x0 x1 x2 x3) := by
  intro n
  induction n with
  | zero =>
    intro T x0 x1 x2 x3 h
    rw [rl_Steps_checkBlock_21]
    exact iv_none
  | succ n ih =>
    intro T x0 x1 x2 x3 h
    rw [rl_Steps_checkBlock_21]
    repeat' first
      | with_reducible exact iv_none
      | with_reducible refine iv_some ?_
      | with_reducible refine iv_ite (fun _ => ?_) (fun _ => ?_)
      | with_reducible refine iv_gd ?_
      | with_reducible refine iv_stK ?_ (fun _ _ => ?_)
      | with_reducible refine iv_vK (fun _ => ?_)
      | with_reducible refine iv_lK (fun _ => ?_)
      | with_reducible refine iv_bi ?_ (fun _ _ _ _ => ?_)
      | with_reducible refine hF _ _ _ _ ?_ ?_
      | with_reducible refine ih _ _ _ _ _ ?_
      | assumption
      | with_reducible refine i54_sI ?_ (by decide) (by decide)
      | with_reducible refine i54_sJ ?_
      | with_reducible refine i54_sA ?_ (by decide) (by decide)
      | with_reducible exact ivA_o (by decide) (by decide)
      | with_reducible refine ivA_47 ?_
      | with_reducible refine ivA_142 ?_
      | decide
theorem iv_rb_Steps_checkBlock (hF : ivF F) (T : gSt) (p1 : Int32) (p2 : Int32) (h : I54 T) : iv (rb_Steps_checkBlock F nf T p1 p2) := by
    unfold rb_Steps_checkBlock
    repeat' first
      | with_reducible exact iv_none
      | with_reducible refine iv_some ?_
      | with_reducible refine iv_ite (fun _ => ?_) (fun _ => ?_)
      | with_reducible refine iv_gd ?_
      | with_reducible refine iv_stK ?_ (fun _ _ => ?_)
      | with_reducible refine iv_vK (fun _ => ?_)
      | with_reducible refine iv_lK (fun _ => ?_)
      | with_reducible refine iv_bi ?_ (fun _ _ _ _ => ?_)
      | with_reducible refine hF _ _ _ _ ?_ ?_
      | with_reducible refine iv_rl_Steps_checkBlock_21 hF  _ _ _ _ _ _ ?_
      | assumption
      | with_reducible refine i54_sI ?_ (by decide) (by decide)
      | with_reducible refine i54_sJ ?_
      | with_reducible refine i54_sA ?_ (by decide) (by decide)
      | with_reducible exact ivA_o (by decide) (by decide)
      | with_reducible refine ivA_47 ?_
      | with_reducible refine ivA_142 ?_
      | decide
theorem iv_rj_Steps_checkStep_382 (hF : ivF F) (T : gSt) (x1 : Int32) (x2 : Int32) (h : I54 T) : iv (rj_Steps_checkStep_382 F nf T x1 x2) := by
    unfold rj_Steps_checkStep_382
    repeat' first
      | with_reducible exact iv_none
      | with_reducible refine iv_some ?_
      | with_reducible refine iv_ite (fun _ => ?_) (fun _ => ?_)
      | with_reducible refine iv_gd ?_
      | with_reducible refine iv_stK ?_ (fun _ _ => ?_)
      | with_reducible refine iv_vK (fun _ => ?_)
      | with_reducible refine iv_lK (fun _ => ?_)
      | with_reducible refine iv_bi ?_ (fun _ _ _ _ => ?_)
      | with_reducible refine hF _ _ _ _ ?_ ?_
      | assumption
      | with_reducible refine i54_sI ?_ (by decide) (by decide)
      | with_reducible refine i54_sJ ?_
      | with_reducible refine i54_sA ?_ (by decide) (by decide)
      | with_reducible exact ivA_o (by decide) (by decide)
      | with_reducible refine ivA_47 ?_
      | with_reducible refine ivA_142 ?_
      | decide
theorem iv_rb_Steps_checkStep (hF : ivF F) (T : gSt) (p1 : Int32) (p2 : Int32) (h : I54 T) : iv (rb_Steps_checkStep F nf T p1 p2) := by
    unfold rb_Steps_checkStep
    repeat' first
      | with_reducible exact iv_none
      | with_reducible refine iv_some ?_
      | with_reducible refine iv_ite (fun _ => ?_) (fun _ => ?_)
      | with_reducible refine iv_gd ?_
      | with_reducible refine iv_stK ?_ (fun _ _ => ?_)
      | with_reducible refine iv_vK (fun _ => ?_)
      | with_reducible refine iv_lK (fun _ => ?_)
      | with_reducible refine iv_bi ?_ (fun _ _ _ _ => ?_)
      | with_reducible refine hF _ _ _ _ ?_ ?_
      | with_reducible refine iv_rj_Steps_checkStep_382 hF  _ _ _ ?_
      | assumption
      | with_reducible refine i54_sI ?_ (by decide) (by decide)
      | with_reducible refine i54_sJ ?_
      | with_reducible refine i54_sA ?_ (by decide) (by decide)
      | with_reducible exact ivA_o (by decide) (by decide)
      | with_reducible refine ivA_47 ?_
      | with_reducible refine ivA_142 ?_
      | decide
theorem iv_rb_Steps_checkNumber (hF : ivF F) (T : gSt) (p1 : Int32) (p2 : Int32) (h : I54 T) : iv (rb_Steps_checkNumber F nf T p1 p2) := by
    unfold rb_Steps_checkNumber
    repeat' first
      | with_reducible exact iv_none
      | with_reducible refine iv_some ?_
      | with_reducible refine iv_ite (fun _ => ?_) (fun _ => ?_)
      | with_reducible refine iv_gd ?_
      | with_reducible refine iv_stK ?_ (fun _ _ => ?_)
      | with_reducible refine iv_vK (fun _ => ?_)
      | with_reducible refine iv_lK (fun _ => ?_)
      | with_reducible refine iv_bi ?_ (fun _ _ _ _ => ?_)
      | with_reducible refine hF _ _ _ _ ?_ ?_
      | assumption
      | with_reducible refine i54_sI ?_ (by decide) (by decide)
      | with_reducible refine i54_sJ ?_
      | with_reducible refine i54_sA ?_ (by decide) (by decide)
      | with_reducible exact ivA_o (by decide) (by decide)
      | with_reducible refine ivA_47 ?_
      | with_reducible refine ivA_142 ?_
      | decide
theorem iv_rj_Steps_checkVar_104 (hF : ivF F) (T : gSt) (x3 : Int32) (x4 : Int32) (x5 : Int32) (x6 : Int32) (y0 : Int32) (h : I54 T) : iv (rj_Steps_checkVar_104 F nf T x3 x4 x5 x6 y0) := by
    unfold rj_Steps_checkVar_104
    repeat' first
      | with_reducible exact iv_none
      | with_reducible refine iv_some ?_
      | with_reducible refine iv_ite (fun _ => ?_) (fun _ => ?_)
      | with_reducible refine iv_gd ?_
      | with_reducible refine iv_stK ?_ (fun _ _ => ?_)
      | with_reducible refine iv_vK (fun _ => ?_)
      | with_reducible refine iv_lK (fun _ => ?_)
      | with_reducible refine iv_bi ?_ (fun _ _ _ _ => ?_)
      | with_reducible refine hF _ _ _ _ ?_ ?_
      | assumption
      | with_reducible refine i54_sI ?_ (by decide) (by decide)
      | with_reducible refine i54_sJ ?_
      | with_reducible refine i54_sA ?_ (by decide) (by decide)
      | with_reducible exact ivA_o (by decide) (by decide)
      | with_reducible refine ivA_47 ?_
      | with_reducible refine ivA_142 ?_
      | decide
theorem iv_rj_Steps_checkVar_76 (hF : ivF F) (T : gSt) (x3 : Int32) (x4 : Int32) (x5 : Int32) (x6 : Int32) (h : I54 T) : iv (rj_Steps_checkVar_76 F nf T x3 x4 x5 x6) := by
    unfold rj_Steps_checkVar_76
    repeat' first
      | with_reducible exact iv_none
      | with_reducible refine iv_some ?_
      | with_reducible refine iv_ite (fun _ => ?_) (fun _ => ?_)
      | with_reducible refine iv_gd ?_
      | with_reducible refine iv_stK ?_ (fun _ _ => ?_)
      | with_reducible refine iv_vK (fun _ => ?_)
      | with_reducible refine iv_lK (fun _ => ?_)
      | with_reducible refine iv_bi ?_ (fun _ _ _ _ => ?_)
      | with_reducible refine hF _ _ _ _ ?_ ?_
      | with_reducible refine iv_rj_Steps_checkVar_104 hF  _ _ _ _ _ _ ?_
      | assumption
      | with_reducible refine i54_sI ?_ (by decide) (by decide)
      | with_reducible refine i54_sJ ?_
      | with_reducible refine i54_sA ?_ (by decide) (by decide)
      | with_reducible exact ivA_o (by decide) (by decide)
      | with_reducible refine ivA_47 ?_
      | with_reducible refine ivA_142 ?_
      | decide
theorem iv_rb_Steps_checkVar (hF : ivF F) (T : gSt) (p1 : Int32) (p2 : Int32) (h : I54 T) : iv (rb_Steps_checkVar F nf T p1 p2) := by
    unfold rb_Steps_checkVar
    repeat' first
      | with_reducible exact iv_none
      | with_reducible refine iv_some ?_
      | with_reducible refine iv_ite (fun _ => ?_) (fun _ => ?_)
      | with_reducible refine iv_gd ?_
      | with_reducible refine iv_stK ?_ (fun _ _ => ?_)
      | with_reducible refine iv_vK (fun _ => ?_)
      | with_reducible refine iv_lK (fun _ => ?_)
      | with_reducible refine iv_bi ?_ (fun _ _ _ _ => ?_)
      | with_reducible refine hF _ _ _ _ ?_ ?_
      | with_reducible refine iv_rj_Steps_checkVar_76 hF  _ _ _ _ _ ?_
      | assumption
      | with_reducible refine i54_sI ?_ (by decide) (by decide)
      | with_reducible refine i54_sJ ?_
      | with_reducible refine i54_sA ?_ (by decide) (by decide)
      | with_reducible exact ivA_o (by decide) (by decide)
      | with_reducible refine ivA_47 ?_
      | with_reducible refine ivA_142 ?_
      | decide
theorem iv_rj_Steps_checkReturn_58 (hF : ivF F) (T : gSt) (x1 : Int32) (x2 : Int32) (x3 : Int32) (x4 : Int32) (y0 : Int32) (h : I54 T) : iv (rj_Steps_checkReturn_58 F nf T x1 x2 x3 x4 y0) := by
    unfold rj_Steps_checkReturn_58
    repeat' first
      | with_reducible exact iv_none
      | with_reducible refine iv_some ?_
      | with_reducible refine iv_ite (fun _ => ?_) (fun _ => ?_)
      | with_reducible refine iv_gd ?_
      | with_reducible refine iv_stK ?_ (fun _ _ => ?_)
      | with_reducible refine iv_vK (fun _ => ?_)
      | with_reducible refine iv_lK (fun _ => ?_)
      | with_reducible refine iv_bi ?_ (fun _ _ _ _ => ?_)
      | with_reducible refine hF _ _ _ _ ?_ ?_
      | assumption
      | with_reducible refine i54_sI ?_ (by decide) (by decide)
      | with_reducible refine i54_sJ ?_
      | with_reducible refine i54_sA ?_ (by decide) (by decide)
      | with_reducible exact ivA_o (by decide) (by decide)
      | with_reducible refine ivA_47 ?_
      | with_reducible refine ivA_142 ?_
      | decide
theorem iv_rj_Steps_checkReturn_40 (hF : ivF F) (T : gSt) (x1 : Int32) (x2 : Int32) (x3 : Int32) (x4 : Int32) (y0 : Int32) (h : I54 T) : iv (rj_Steps_checkReturn_40 F nf T x1 x2 x3 x4 y0) := by
    unfold rj_Steps_checkReturn_40
    repeat' first
      | with_reducible exact iv_none
      | with_reducible refine iv_some ?_
      | with_reducible refine iv_ite (fun _ => ?_) (fun _ => ?_)
      | with_reducible refine iv_gd ?_
      | with_reducible refine iv_stK ?_ (fun _ _ => ?_)
      | with_reducible refine iv_vK (fun _ => ?_)
      | with_reducible refine iv_lK (fun _ => ?_)
      | with_reducible refine iv_bi ?_ (fun _ _ _ _ => ?_)
      | with_reducible refine hF _ _ _ _ ?_ ?_
      | with_reducible refine iv_rj_Steps_checkReturn_58 hF  _ _ _ _ _ _ ?_
      | assumption
      | with_reducible refine i54_sI ?_ (by decide) (by decide)
      | with_reducible refine i54_sJ ?_
      | with_reducible refine i54_sA ?_ (by decide) (by decide)
      | with_reducible exact ivA_o (by decide) (by decide)
      | with_reducible refine ivA_47 ?_
      | with_reducible refine ivA_142 ?_
      | decide
theorem iv_rb_Steps_checkReturn (hF : ivF F) (T : gSt) (p1 : Int32) (p2 : Int32) (h : I54 T) : iv (rb_Steps_checkReturn F nf T p1 p2) := by
    unfold rb_Steps_checkReturn
    repeat' first
      | with_reducible exact iv_none
      | with_reducible refine iv_some ?_
      | with_reducible refine iv_ite (fun _ => ?_) (fun _ => ?_)
      | with_reducible refine iv_gd ?_
      | with_reducible refine iv_stK ?_ (fun _ _ => ?_)
      | with_reducible refine iv_vK (fun _ => ?_)
      | with_reducible refine iv_lK (fun _ => ?_)
      | with_reducible refine iv_bi ?_ (fun _ _ _ _ => ?_)
      | with_reducible refine hF _ _ _ _ ?_ ?_
      | with_reducible refine iv_rj_Steps_checkReturn_40 hF  _ _ _ _ _ _ ?_
      | assumption
      | with_reducible refine i54_sI ?_ (by decide) (by decide)
      | with_reducible refine i54_sJ ?_
      | with_reducible refine i54_sA ?_ (by decide) (by decide)
      | with_reducible exact ivA_o (by decide) (by decide)
      | with_reducible refine ivA_47 ?_
      | with_reducible refine ivA_142 ?_
      | decide
theorem iv_rb_Steps_checkQuestion (hF : ivF F) (T : gSt) (p1 : Int32) (p2 : Int32) (h : I54 T) : iv (rb_Steps_checkQuestion F nf T p1 p2) := by
    unfold rb_Steps_checkQuestion
    repeat' first
      | with_reducible exact iv_none
      | with_reducible refine iv_some ?_
      | with_reducible refine iv_ite (fun _ => ?_) (fun _ => ?_)
      | with_reducible refine iv_gd ?_
      | with_reducible refine iv_stK ?_ (fun _ _ => ?_)
      | with_reducible refine iv_vK (fun _ => ?_)
      | with_reducible refine iv_lK (fun _ => ?_)
      | with_reducible refine iv_bi ?_ (fun _ _ _ _ => ?_)
      | with_reducible refine hF _ _ _ _ ?_ ?_
      | assumption
      | with_reducible refine i54_sI ?_ (by decide) (by decide)
      | with_reducible refine i54_sJ ?_
      | with_reducible refine i54_sA ?_ (by decide) (by decide)
      | with_reducible exact ivA_o (by decide) (by decide)
      | with_reducible refine ivA_47 ?_
      | with_reducible refine ivA_142 ?_
      | decide
theorem iv_rj_Steps_checkIf_173 (hF : ivF F) (T : gSt) (x1 : Int32) (x7 : Int64) (h : I54 T) : iv (rj_Steps_checkIf_173 F nf T x1 x7) := by
    unfold rj_Steps_checkIf_173
    repeat' first
      | with_reducible exact iv_none
      | with_reducible refine iv_some ?_
      | with_reducible refine iv_ite (fun _ => ?_) (fun _ => ?_)
      | with_reducible refine iv_gd ?_
      | with_reducible refine iv_stK ?_ (fun _ _ => ?_)
      | with_reducible refine iv_vK (fun _ => ?_)
      | with_reducible refine iv_lK (fun _ => ?_)
      | with_reducible refine iv_bi ?_ (fun _ _ _ _ => ?_)
      | with_reducible refine hF _ _ _ _ ?_ ?_
      | assumption
      | with_reducible refine i54_sI ?_ (by decide) (by decide)
      | with_reducible refine i54_sJ ?_
      | with_reducible refine i54_sA ?_ (by decide) (by decide)
      | with_reducible exact ivA_o (by decide) (by decide)
      | with_reducible refine ivA_47 ?_
      | with_reducible refine ivA_142 ?_
      | decide
theorem iv_rb_Steps_checkIf (hF : ivF F) (T : gSt) (p1 : Int32) (p2 : Int32) (h : I54 T) : iv (rb_Steps_checkIf F nf T p1 p2) := by
    unfold rb_Steps_checkIf
    repeat' first
      | with_reducible exact iv_none
      | with_reducible refine iv_some ?_
      | with_reducible refine iv_ite (fun _ => ?_) (fun _ => ?_)
      | with_reducible refine iv_gd ?_
      | with_reducible refine iv_stK ?_ (fun _ _ => ?_)
      | with_reducible refine iv_vK (fun _ => ?_)
      | with_reducible refine iv_lK (fun _ => ?_)
      | with_reducible refine iv_bi ?_ (fun _ _ _ _ => ?_)
      | with_reducible refine hF _ _ _ _ ?_ ?_
      | with_reducible refine iv_rj_Steps_checkIf_173 hF  _ _ _ ?_
      | assumption
      | with_reducible refine i54_sI ?_ (by decide) (by decide)
      | with_reducible refine i54_sJ ?_
      | with_reducible refine i54_sA ?_ (by decide) (by decide)
      | with_reducible exact ivA_o (by decide) (by decide)
      | with_reducible refine ivA_47 ?_
      | with_reducible refine ivA_142 ?_
      | decide
theorem iv_rj_Steps_checkWhile_133 (hF : ivF F) (T : gSt) (x1 : Int32) (x3 : Int32) (x4 : Int32) (x5 : Int32) (x6 : Int64) (y0 : Int32) (h : I54 T) : iv (rj_Steps_checkWhile_133 F nf T x1 x3 x4 x5 x6 y0) := by
    unfold rj_Steps_checkWhile_133
    repeat' first
      | with_reducible exact iv_none
      | with_reducible refine iv_some ?_
      | with_reducible refine iv_ite (fun _ => ?_) (fun _ => ?_)
      | with_reducible refine iv_gd ?_
      | with_reducible refine iv_stK ?_ (fun _ _ => ?_)
      | with_reducible refine iv_vK (fun _ => ?_)
      | with_reducible refine iv_lK (fun _ => ?_)
      | with_reducible refine iv_bi ?_ (fun _ _ _ _ => ?_)
      | with_reducible refine hF _ _ _ _ ?_ ?_
      | assumption
      | with_reducible refine i54_sI ?_ (by decide) (by decide)
      | with_reducible refine i54_sJ ?_
      | with_reducible refine i54_sA ?_ (by decide) (by decide)
      | with_reducible exact ivA_o (by decide) (by decide)
      | with_reducible refine ivA_47 ?_
      | with_reducible refine ivA_142 ?_
      | decide
theorem iv_rb_Steps_checkWhile (hF : ivF F) (T : gSt) (p1 : Int32) (p2 : Int32) (h : I54 T) : iv (rb_Steps_checkWhile F nf T p1 p2) := by
    unfold rb_Steps_checkWhile
    repeat' first
      | with_reducible exact iv_none
      | with_reducible refine iv_some ?_
      | with_reducible refine iv_ite (fun _ => ?_) (fun _ => ?_)
      | with_reducible refine iv_gd ?_
      | with_reducible refine iv_stK ?_ (fun _ _ => ?_)
      | with_reducible refine iv_vK (fun _ => ?_)
      | with_reducible refine iv_lK (fun _ => ?_)
      | with_reducible refine iv_bi ?_ (fun _ _ _ _ => ?_)
      | with_reducible refine hF _ _ _ _ ?_ ?_
      | with_reducible refine iv_rj_Steps_checkWhile_133 hF  _ _ _ _ _ _ _ ?_
      | assumption
      | with_reducible refine i54_sI ?_ (by decide) (by decide)
      | with_reducible refine i54_sJ ?_
      | with_reducible refine i54_sA ?_ (by decide) (by decide)
      | with_reducible exact ivA_o (by decide) (by decide)
      | with_reducible refine ivA_47 ?_
      | with_reducible refine ivA_142 ?_
      | decide
theorem iv_rj_Steps_checkRegion_36 (hF : ivF F) (T : gSt) (x1 : Int32) (x2 : Int32) (x3 : Int32) (y0 : Int32) (h : I54 T) : iv (rj_Steps_checkRegion_36 F nf T x1 x2 x3 y0) := by
    unfold rj_Steps_checkRegion_36
    repeat' first
      | with_reducible exact iv_none
      | with_reducible refine iv_some ?_
      | with_reducible refine iv_ite (fun _ => ?_) (fun _ => ?_)
      | with_reducible refine iv_gd ?_
      | with_reducible refine iv_stK ?_ (fun _ _ => ?_)
      | with_reducible refine iv_vK (fun _ => ?_)
      | with_reducible refine iv_lK (fun _ => ?_)
      | with_reducible refine iv_bi ?_ (fun _ _ _ _ => ?_)
      | with_reducible refine hF _ _ _ _ ?_ ?_
      | assumption
      | with_reducible refine i54_sI ?_ (by decide) (by decide)
      | with_reducible refine i54_sJ ?_
      | with_reducible refine i54_sA ?_ (by decide) (by decide)
      | with_reducible exact ivA_o (by decide) (by decide)
      | with_reducible refine ivA_47 ?_
      | with_reducible refine ivA_142 ?_
      | decide
theorem iv_rb_Steps_checkRegion (hF : ivF F) (T : gSt) (p1 : Int32) (p2 : Int32) (h : I54 T) : iv (rb_Steps_checkRegion F nf T p1 p2) := by
    unfold rb_Steps_checkRegion
    repeat' first
      | with_reducible exact iv_none
      | with_reducible refine iv_some ?_
      | with_reducible refine iv_ite (fun _ => ?_) (fun _ => ?_)
      | with_reducible refine iv_gd ?_
      | with_reducible refine iv_stK ?_ (fun _ _ => ?_)
      | with_reducible refine iv_vK (fun _ => ?_)
      | with_reducible refine iv_lK (fun _ => ?_)
      | with_reducible refine iv_bi ?_ (fun _ _ _ _ => ?_)
      | with_reducible refine hF _ _ _ _ ?_ ?_
      | with_reducible refine iv_rj_Steps_checkRegion_36 hF  _ _ _ _ _ ?_
      | assumption
      | with_reducible refine i54_sI ?_ (by decide) (by decide)
      | with_reducible refine i54_sJ ?_
      | with_reducible refine i54_sA ?_ (by decide) (by decide)
      | with_reducible exact ivA_o (by decide) (by decide)
      | with_reducible refine ivA_47 ?_
      | with_reducible refine ivA_142 ?_
      | decide
theorem iv_rj_Steps_checkClose_42 (hF : ivF F) (T : gSt) (x2 : Int32) (x3 : Int32) (y0 : Int32) (h : I54 T) : iv (rj_Steps_checkClose_42 F nf T x2 x3 y0) := by
    unfold rj_Steps_checkClose_42
    repeat' first
      | with_reducible exact iv_none
      | with_reducible refine iv_some ?_
      | with_reducible refine iv_ite (fun _ => ?_) (fun _ => ?_)
      | with_reducible refine iv_gd ?_
      | with_reducible refine iv_stK ?_ (fun _ _ => ?_)
      | with_reducible refine iv_vK (fun _ => ?_)
      | with_reducible refine iv_lK (fun _ => ?_)
      | with_reducible refine iv_bi ?_ (fun _ _ _ _ => ?_)
      | with_reducible refine hF _ _ _ _ ?_ ?_
      | assumption
      | with_reducible refine i54_sI ?_ (by decide) (by decide)
      | with_reducible refine i54_sJ ?_
      | with_reducible refine i54_sA ?_ (by decide) (by decide)
      | with_reducible exact ivA_o (by decide) (by decide)
      | with_reducible refine ivA_47 ?_
      | with_reducible refine ivA_142 ?_
      | decide
theorem iv_rb_Steps_checkClose (hF : ivF F) (T : gSt) (p1 : Int32) (h : I54 T) : iv (rb_Steps_checkClose F nf T p1) := by
    unfold rb_Steps_checkClose
    repeat' first
      | with_reducible exact iv_none
      | with_reducible refine iv_some ?_
      | with_reducible refine iv_ite (fun _ => ?_) (fun _ => ?_)
      | with_reducible refine iv_gd ?_
      | with_reducible refine iv_stK ?_ (fun _ _ => ?_)
      | with_reducible refine iv_vK (fun _ => ?_)
      | with_reducible refine iv_lK (fun _ => ?_)
      | with_reducible refine iv_bi ?_ (fun _ _ _ _ => ?_)
      | with_reducible refine hF _ _ _ _ ?_ ?_
      | with_reducible refine iv_rj_Steps_checkClose_42 hF  _ _ _ _ ?_
      | assumption
      | with_reducible refine i54_sI ?_ (by decide) (by decide)
      | with_reducible refine i54_sJ ?_
      | with_reducible refine i54_sA ?_ (by decide) (by decide)
      | with_reducible exact ivA_o (by decide) (by decide)
      | with_reducible refine ivA_47 ?_
      | with_reducible refine ivA_142 ?_
      | decide
theorem iv_rb_Steps_checkTry (hF : ivF F) (T : gSt) (p1 : Int32) (p2 : Int32) (h : I54 T) : iv (rb_Steps_checkTry F nf T p1 p2) := by
    unfold rb_Steps_checkTry
    repeat' first
      | with_reducible exact iv_none
      | with_reducible refine iv_some ?_
      | with_reducible refine iv_ite (fun _ => ?_) (fun _ => ?_)
      | with_reducible refine iv_gd ?_
      | with_reducible refine iv_stK ?_ (fun _ _ => ?_)
      | with_reducible refine iv_vK (fun _ => ?_)
      | with_reducible refine iv_lK (fun _ => ?_)
      | with_reducible refine iv_bi ?_ (fun _ _ _ _ => ?_)
      | with_reducible refine hF _ _ _ _ ?_ ?_
      | assumption
      | with_reducible refine i54_sI ?_ (by decide) (by decide)
      | with_reducible refine i54_sJ ?_
      | with_reducible refine i54_sA ?_ (by decide) (by decide)
      | with_reducible exact ivA_o (by decide) (by decide)
      | with_reducible refine ivA_47 ?_
      | with_reducible refine ivA_142 ?_
      | decide
theorem iv_rj_Steps_varsGiven_115 (hF : ivF F) {rec_16 : gSt → Int32 → Int32 → Int32 → Int32 → gR} (hrec_16 : ∀ T a0 a1 a2 a3, I54 T → iv (rec_16 T a0 a1 a2 a3)) (T : gSt) (x2 : Int32) (x3 : Int32) (x4 : Int32) (x5 : Int32) (h : I54 T) : iv (rj_Steps_varsGiven_115 F nf rec_16 T x2 x3 x4 x5) := by
    unfold rj_Steps_varsGiven_115
    repeat' first
      | with_reducible exact iv_none
      | with_reducible refine iv_some ?_
      | with_reducible refine iv_ite (fun _ => ?_) (fun _ => ?_)
      | with_reducible refine iv_gd ?_
      | with_reducible refine iv_stK ?_ (fun _ _ => ?_)
      | with_reducible refine iv_vK (fun _ => ?_)
      | with_reducible refine iv_lK (fun _ => ?_)
      | with_reducible refine iv_bi ?_ (fun _ _ _ _ => ?_)
      | with_reducible refine hF _ _ _ _ ?_ ?_
      | with_reducible refine hrec_16 _ _ _ _ _ ?_
      | assumption
      | with_reducible refine i54_sI ?_ (by decide) (by decide)
      | with_reducible refine i54_sJ ?_
      | with_reducible refine i54_sA ?_ (by decide) (by decide)
      | with_reducible exact ivA_o (by decide) (by decide)
      | with_reducible refine ivA_47 ?_
      | with_reducible refine ivA_142 ?_
      | decide
end IVS
