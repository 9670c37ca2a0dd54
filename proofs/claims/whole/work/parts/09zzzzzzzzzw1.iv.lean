section IVS
variable {F : gF} {nf : Nat}
theorem iv_rb_Parser_parsePlain (hF : ivF F) (T : gSt) (p1 : Int32) (h : I54 T) : iv (rb_Parser_parsePlain F nf T p1) := by
    unfold rb_Parser_parsePlain
    repeat' first
      | with_reducible exact iv_none
      | with_reducible refine iv_some ?_
      | with_reducible refine iv_ite (fun _ => ?_) (fun _ => ?_)
      | with_reducible refine iv_gd ?_
      | with_reducible refine iv_stK ?_ (fun _ _ => ?_)
      | with_reducible refine iv_vK (fun _ => ?_)
      | with_reducible refine iv_lK (fun _ => ?_)
      | with_reducible refine iv_bi ?_ (fun _ _ _ _ => ?_)
      | with_reducible refine hF _ _ _ _ ?_ ?_
      | assumption
      | with_reducible refine i54_sI ?_ (by decide) (by decide)
      | with_reducible refine i54_sJ ?_
      | with_reducible refine i54_sA ?_ (by decide) (by decide)
      | with_reducible exact ivA_o (by decide) (by decide)
      | with_reducible refine ivA_47 ?_
      | with_reducible refine ivA_142 ?_
      | decide
theorem iv_rl_Parser_parseExpr_11 (hF : ivF F) : ∀ (n : Nat) (T : gSt) (x0 : Int32) (x1 : Int32) (x2 : Int32) (x3 : Int32), I54 T → iv (rl_Parser_parseExpr_11 F nf n T x0 x1 x2 x3) := by
  intro n
  induction n with
  | zero =>
    intro T x0 x1 x2 x3 h
    rw [rl_Parser_parseExpr_11]
    exact iv_none
  | succ n ih =>
    intro T x0 x1 x2 x3 h
    rw [rl_Parser_parseExpr_11]
    repeat' first
      | with_reducible exact iv_none
      | with_reducible refine iv_some ?_
      | with_reducible refine iv_ite (fun _ => ?_) (fun _ => ?_)
      | with_reducible refine iv_gd ?_
      | with_reducible refine iv_stK ?_ (fun _ _ => ?_)
      | with_reducible refine iv_vK (fun _ => ?_)
      | with_reducible refine iv_lK (fun _ => ?_)
      | with_reducible refine iv_bi ?_ (fun _ _ _ _ => ?_)
      | with_reducible refine hF _ _ _ _ ?_ ?_
      | with_reducible refine ih _ _ _ _ _ ?_
      | assumption
      | with_reducible refine i54_sI ?_ (by decide) (by decide)
      | with_reducible refine i54_sJ ?_
      | with_reducible refine i54_sA ?_ (by decide) (by decide)
      | with_reducible exact ivA_o (by decide) (by decide)
      | with_reducible refine ivA_47 ?_
      | with_reducible refine ivA_142 ?_
      | decide
theorem iv_rb_Parser_parseExpr (hF : ivF F) (T : gSt) (p1 : Int32) (h : I54 T) : iv (rb_Parser_parseExpr F nf T p1) := by
    unfold rb_Parser_parseExpr
    repeat' first
      | with_reducible exact iv_none
      | with_reducible refine iv_some ?_
      | with_reducible refine iv_ite (fun _ => ?_) (fun _ => ?_)
      | with_reducible refine iv_gd ?_
      | with_reducible refine iv_stK ?_ (fun _ _ => ?_)
      | with_reducible refine iv_vK (fun _ => ?_)
      | with_reducible refine iv_lK (fun _ => ?_)
      | with_reducible refine iv_bi ?_ (fun _ _ _ _ => ?_)
      | with_reducible refine hF _ _ _ _ ?_ ?_
      | with_reducible refine iv_rl_Parser_parseExpr_11 hF  _ _ _ _ _ _ ?_
      | assumption
      | with_reducible refine i54_sI ?_ (by decide) (by decide)
      | with_reducible refine i54_sJ ?_
      | with_reducible refine i54_sA ?_ (by decide) (by decide)
      | with_reducible exact ivA_o (by decide) (by decide)
      | with_reducible refine ivA_47 ?_
      | with_reducible refine ivA_142 ?_
      | decide
theorem iv_rj_Parser_seesOperator_18 (hF : ivF F) (T : gSt) (h : I54 T) : iv (rj_Parser_seesOperator_18 F nf T) := by
    unfold rj_Parser_seesOperator_18
    repeat' first
      | with_reducible exact iv_none
      | with_reducible refine iv_some ?_
      | with_reducible refine iv_ite (fun _ => ?_) (fun _ => ?_)
      | with_reducible refine iv_gd ?_
      | with_reducible refine iv_stK ?_ (fun _ _ => ?_)
      | with_reducible refine iv_vK (fun _ => ?_)
      | with_reducible refine iv_lK (fun _ => ?_)
      | with_reducible refine iv_bi ?_ (fun _ _ _ _ => ?_)
      | with_reducible refine hF _ _ _ _ ?_ ?_
      | assumption
      | with_reducible refine i54_sI ?_ (by decide) (by decide)
      | with_reducible refine i54_sJ ?_
      | with_reducible refine i54_sA ?_ (by decide) (by decide)
      | with_reducible exact ivA_o (by decide) (by decide)
      | with_reducible refine ivA_47 ?_
      | with_reducible refine ivA_142 ?_
      | decide
theorem iv_rb_Parser_seesOperator (hF : ivF F) (T : gSt) (h : I54 T) : iv (rb_Parser_seesOperator F nf T) := by
    unfold rb_Parser_seesOperator
    repeat' first
      | with_reducible exact iv_none
      | with_reducible refine iv_some ?_
      | with_reducible refine iv_ite (fun _ => ?_) (fun _ => ?_)
      | with_reducible refine iv_gd ?_
      | with_reducible refine iv_stK ?_ (fun _ _ => ?_)
      | with_reducible refine iv_vK (fun _ => ?_)
      | with_reducible refine iv_lK (fun _ => ?_)
      | with_reducible refine iv_bi ?_ (fun _ _ _ _ => ?_)
      | with_reducible refine hF _ _ _ _ ?_ ?_
      | with_reducible refine iv_rj_Parser_seesOperator_18 hF  _  ?_
      | assumption
      | with_reducible refine i54_sI ?_ (by decide) (by decide)
      | with_reducible refine i54_sJ ?_
      | with_reducible refine i54_sA ?_ (by decide) (by decide)
      | with_reducible exact ivA_o (by decide) (by decide)
      | with_reducible refine ivA_47 ?_
      | with_reducible refine ivA_142 ?_
      | decide
theorem iv_rj_Parser_parseTerm_67 (hF : ivF F) {rec_23 : gSt → Int32 → Int32 → Int32 → Int32 → gR} (hrec_23 : ∀ T a0 a1 a2 a3, I54 T → iv (rec_23 T a0 a1 a2 a3)) (T : gSt) (x1 : Int32) (x2 : Int32) (x3 : Int32) (x4 : Int32) (h : I54 T) : iv (rj_Parser_parseTerm_67 F nf rec_23 T x1 x2 x3 x4) := by
    unfold rj_Parser_parseTerm_67
    repeat' first
      | with_reducible exact iv_none
      | with_reducible refine iv_some ?_
      | with_reducible refine iv_ite (fun _ => ?_) (fun _ => ?_)
      | with_reducible refine iv_gd ?_
      | with_reducible refine iv_stK ?_ (fun _ _ => ?_)
      | with_reducible refine iv_vK (fun _ => ?_)
      | with_reducible refine iv_lK (fun _ => ?_)
      | with_reducible refine iv_bi ?_ (fun _ _ _ _ => ?_)
      | with_reducible refine hF _ _ _ _ ?_ ?_
      | with_reducible refine hrec_23 _ _ _ _ _ ?_
      | assumption
      | with_reducible refine i54_sI ?_ (by decide) (by decide)
      | with_reducible refine i54_sJ ?_
      | with_reducible refine i54_sA ?_ (by decide) (by decide)
      | with_reducible exact ivA_o (by decide) (by decide)
      | with_reducible refine ivA_47 ?_
      | with_reducible refine ivA_142 ?_
      | decide
theorem iv_rl_Parser_parseTerm_23 (hF : ivF F) : ∀ (n : Nat) (T : gSt) (x0 : Int32) (x1 : Int32) (x2 : Int32) (x3 : Int32), I54 T → iv (rl_Parser_parseTerm_23 F nf n T x0 x1 x2 x3) := by
  intro n
  induction n with
  | zero =>
    intro T x0 x1 x2 x3 h
    rw [rl_Parser_parseTerm_23]
    exact iv_none
  | succ n ih =>
    intro T x0 x1 x2 x3 h
    rw [rl_Parser_parseTerm_23]
    repeat' first
      | with_reducible exact iv_none
      | with_reducible refine iv_some ?_
      | with_reducible refine iv_ite (fun _ => ?_) (fun _ => ?_)
      | with_reducible refine iv_gd ?_
      | with_reducible refine iv_stK ?_ (fun _ _ => ?_)
      | with_reducible refine iv_vK (fun _ => ?_)
      | with_reducible refine iv_lK (fun _ => ?_)
      | with_reducible refine iv_bi ?_ (fun _ _ _ _ => ?_)
      | with_reducible refine hF _ _ _ _ ?_ ?_
      | with_reducible refine iv_rj_Parser_parseTerm_67 hF ?_ _ _ _ _ _ ?_
      | with_reducible refine ih _ _ _ _ _ ?_
      | assumption
      | with_reducible refine i54_sI ?_ (by decide) (by decide)
      | with_reducible refine i54_sJ ?_
      | with_reducible refine i54_sA ?_ (by decide) (by decide)
      | with_reducible exact ivA_o (by decide) (by decide)
      | with_reducible refine ivA_47 ?_
      | with_reducible refine ivA_142 ?_
      | decide
theorem iv_rb_Parser_parseTerm (hF : ivF F) (T : gSt) (p1 : Int32) (h : I54 T) : iv (rb_Parser_parseTerm F nf T p1) := by
    unfold rb_Parser_parseTerm
    repeat' first
      | with_reducible exact iv_none
      | with_reducible refine iv_some ?_
      | with_reducible refine iv_ite (fun _ => ?_) (fun _ => ?_)
      | with_reducible refine iv_gd ?_
      | with_reducible refine iv_stK ?_ (fun _ _ => ?_)
      | with_reducible refine iv_vK (fun _ => ?_)
      | with_reducible refine iv_lK (fun _ => ?_)
      | with_reducible refine iv_bi ?_ (fun _ _ _ _ => ?_)
      | with_reducible refine hF _ _ _ _ ?_ ?_
      | with_reducible refine iv_rl_Parser_parseTerm_23 hF  _ _ _ _ _ _ ?_
      | assumption
      | with_reducible refine i54_sI ?_ (by decide) (by decide)
      | with_reducible refine i54_sJ ?_
      | with_reducible refine i54_sA ?_ (by decide) (by decide)
      | with_reducible exact ivA_o (by decide) (by decide)
      | with_reducible refine ivA_47 ?_
      | with_reducible refine ivA_142 ?_
      | decide
theorem iv_rb_Parser_parseTail (hF : ivF F) (T : gSt) (p1 : Int32) (h : I54 T) : iv (rb_Parser_parseTail F nf T p1) := by
    unfold rb_Parser_parseTail
    repeat' first
      | with_reducible exact iv_none
      | with_reducible refine iv_some ?_
      | with_reducible refine iv_ite (fun _ => ?_) (fun _ => ?_)
      | with_reducible refine iv_gd ?_
      | with_reducible refine iv_stK ?_ (fun _ _ => ?_)
      | with_reducible refine iv_vK (fun _ => ?_)
      | with_reducible refine iv_lK (fun _ => ?_)
      | with_reducible refine iv_bi ?_ (fun _ _ _ _ => ?_)
      | with_reducible refine hF _ _ _ _ ?_ ?_
      | assumption
      | with_reducible refine i54_sI ?_ (by decide) (by decide)
      | with_reducible refine i54_sJ ?_
      | with_reducible refine i54_sA ?_ (by decide) (by decide)
      | with_reducible exact ivA_o (by decide) (by decide)
      | with_reducible refine ivA_47 ?_
      | with_reducible refine ivA_142 ?_
      | decide
theorem iv_rj_Parser_parsePrimary_164 (hF : ivF F) (T : gSt) (x1 : Int32) (x3 : Int32) (h : I54 T) : iv (rj_Parser_parsePrimary_164 F nf T x1 x3) := by
    unfold rj_Parser_parsePrimary_164
    repeat' first
      | with_reducible exact iv_none
      | with_reducible refine iv_some ?_
      | with_reducible refine iv_ite (fun _ => ?_) (fun _ => ?_)
      | with_reducible refine iv_gd ?_
      | with_reducible refine iv_stK ?_ (fun _ _ => ?_)
      | with_reducible refine iv_vK (fun _ => ?_)
      | with_reducible refine iv_lK (fun _ => ?_)
      | with_reducible refine iv_bi ?_ (fun _ _ _ _ => ?_)
      | with_reducible refine hF _ _ _ _ ?_ ?_
      | assumption
      | with_reducible refine i54_sI ?_ (by decide) (by decide)
      | with_reducible refine i54_sJ ?_
      | with_reducible refine i54_sA ?_ (by decide) (by decide)
      | with_reducible exact ivA_o (by decide) (by decide)
      | with_reducible refine ivA_47 ?_
      | with_reducible refine ivA_142 ?_
      | decide
theorem iv_rb_Parser_parsePrimary (hF : ivF F) (T : gSt) (p1 : Int32) (h : I54 T) : iv (rb_Parser_parsePrimary F nf T p1) := by
    unfold rb_Parser_parsePrimary
    repeat' first
      | with_reducible exact iv_none
      | with_reducible refine iv_some ?_
      | with_reducible refine iv_ite (fun _ => ?_) (fun _ => ?_)
      | with_reducible refine iv_gd ?_
      | with_reducible refine iv_stK ?_ (fun _ _ => ?_)
      | with_reducible refine iv_vK (fun _ => ?_)
      | with_reducible refine iv_lK (fun _ => ?_)
      | with_reducible refine iv_bi ?_ (fun _ _ _ _ => ?_)
      | with_reducible refine hF _ _ _ _ ?_ ?_
      | with_reducible refine iv_rj_Parser_parsePrimary_164 hF  _ _ _ ?_
      | assumption
      | with_reducible refine i54_sI ?_ (by decide) (by decide)
      | with_reducible refine i54_sJ ?_
      | with_reducible refine i54_sA ?_ (by decide) (by decide)
      | with_reducible exact ivA_o (by decide) (by decide)
      | with_reducible refine ivA_47 ?_
      | with_reducible refine ivA_142 ?_
      | decide
theorem iv_rb_Parser_parseNew (hF : ivF F) (T : gSt) (p1 : Int32) (p2 : Int32) (h : I54 T) : iv (rb_Parser_parseNew F nf T p1 p2) := by
    unfold rb_Parser_parseNew
    repeat' first
      | with_reducible exact iv_none
      | with_reducible refine iv_some ?_
      | with_reducible refine iv_ite (fun _ => ?_) (fun _ => ?_)
      | with_reducible refine iv_gd ?_
      | with_reducible refine iv_stK ?_ (fun _ _ => ?_)
      | with_reducible refine iv_vK (fun _ => ?_)
      | with_reducible refine iv_lK (fun _ => ?_)
      | with_reducible refine iv_bi ?_ (fun _ _ _ _ => ?_)
      | with_reducible refine hF _ _ _ _ ?_ ?_
      | assumption
      | with_reducible refine i54_sI ?_ (by decide) (by decide)
      | with_reducible refine i54_sJ ?_
      | with_reducible refine i54_sA ?_ (by decide) (by decide)
      | with_reducible exact ivA_o (by decide) (by decide)
      | with_reducible refine ivA_47 ?_
      | with_reducible refine ivA_142 ?_
      | decide
theorem iv_rb_Parser_parseMaking (hF : ivF F) (T : gSt) (p1 : Int32) (p2 : Int32) (p3 : Int32) (h : I54 T) : iv (rb_Parser_parseMaking F nf T p1 p2 p3) := by
    unfold rb_Parser_parseMaking
    repeat' first
      | with_reducible exact iv_none
      | with_reducible refine iv_some ?_
      | with_reducible refine iv_ite (fun _ => ?_) (fun _ => ?_)
      | with_reducible refine iv_gd ?_
      | with_reducible refine iv_stK ?_ (fun _ _ => ?_)
      | with_reducible refine iv_vK (fun _ => ?_)
      | with_reducible refine iv_lK (fun _ => ?_)
      | with_reducible refine iv_bi ?_ (fun _ _ _ _ => ?_)
      | with_reducible refine hF _ _ _ _ ?_ ?_
      | assumption
      | with_reducible refine i54_sI ?_ (by decide) (by decide)
      | with_reducible refine i54_sJ ?_
      | with_reducible refine i54_sA ?_ (by decide) (by decide)
      | with_reducible exact ivA_o (by decide) (by decide)
      | with_reducible refine ivA_47 ?_
      | with_reducible refine ivA_142 ?_
      | decide
theorem iv_rj_Parser_parseArguments_49 (hF : ivF F) {rec_22 : gSt → Int32 → Int32 → Int32 → Int32 → Int32 → gR} (hrec_22 : ∀ T a0 a1 a2 a3 a4, I54 T → iv (rec_22 T a0 a1 a2 a3 a4)) (T : gSt) (x1 : Int32) (x2 : Int32) (x3 : Int32) (x4 : Int32) (x5 : Int32) (h : I54 T) : iv (rj_Parser_parseArguments_49 F nf rec_22 T x1 x2 x3 x4 x5) := by
    unfold rj_Parser_parseArguments_49
    repeat' first
      | with_reducible exact iv_none
      | with_reducible refine iv_some ?_
      | with_reducible refine iv_ite (fun _ => ?_) (fun _ => ?_)
      | with_reducible refine iv_gd ?_
      | with_reducible refine iv_stK ?_ (fun _ _ => ?_)
      | with_reducible refine iv_vK (fun _ => ?_)
      | with_reducible refine iv_lK (fun _ => ?_)
      | with_reducible refine iv_bi ?_ (fun _ _ _ _ => ?_)
      | with_reducible refine hF _ _ _ _ ?_ ?_
      | with_reducible refine hrec_22 _ _ _ _ _ _ ?_
      | assumption
      | with_reducible refine i54_sI ?_ (by decide) (by decide)
      | with_reducible refine i54_sJ ?_
      | with_reducible refine i54_sA ?_ (by decide) (by decide)
      | with_reducible exact ivA_o (by decide) (by decide)
      | with_reducible refine ivA_47 ?_
      | with_reducible refine ivA_142 ?_
      | decide
theorem iv_rl_Parser_parseArguments_22 (hF : ivF F) : ∀ (n : Nat) (T : gSt) (x0 : Int32) (x1 : Int32) (x2 : Int32) (x3 : Int32) (x4 : Int32), I54 T → iv (rl_Parser_parseArguments_22 F nf n T x0 x1 x2 x3 x4) := by
  intro n
  induction n with
  | zero =>
    intro T x0 x1 x2 x3 x4 h
    rw [rl_Parser_parseArguments_22]
    exact iv_none
  | succ n ih =>
    intro T x0 x1 x2 x3 x4 h
    rw [rl_Parser_parseArguments_22]
    repeat' first
      | with_reducible exact iv_none
      | with_reducible refine iv_some ?_
      | with_reducible refine iv_ite (fun _ => ?_) (fun _ => ?_)
      | with_reducible refine iv_gd ?_
      | with_reducible refine iv_stK ?_ (fun _ _ => ?_)
      | with_reducible refine iv_vK (fun _ => ?_)
      | with_reducible refine iv_lK (fun _ => ?_)
      | with_reducible refine iv_bi ?_ (fun _ _ _ _ => ?_)
      | with_reducible refine hF _ _ _ _ ?_ ?_
      | with_reducible refine iv_rj_Parser_parseArguments_49 hF ?_ _ _ _ _ _ _ ?_
      | with_reducible refine ih _ _ _ _ _ _ ?_
      | assumption
      | with_reducible refine i54_sI ?_ (by decide) (by decide)
      | with_reducible refine i54_sJ ?_
      | with_reducible refine i54_sA ?_ (by decide) (by decide)
      | with_reducible exact ivA_o (by decide) (by decide)
      | with_reducible refine ivA_47 ?_
      | with_reducible refine ivA_142 ?_
      | decide
theorem iv_rb_Parser_parseArguments (hF : ivF F) (T : gSt) (p1 : Int32) (p2 : Int32) (h : I54 T) : iv (rb_Parser_parseArguments F nf T p1 p2) := by
    unfold rb_Parser_parseArguments
    repeat' first
      | with_reducible exact iv_none
      | with_reducible refine iv_some ?_
      | with_reducible refine iv_ite (fun _ => ?_) (fun _ => ?_)
      | with_reducible refine iv_gd ?_
      | with_reducible refine iv_stK ?_ (fun _ _ => ?_)
      | with_reducible refine iv_vK (fun _ => ?_)
      | with_reducible refine iv_lK (fun _ => ?_)
      | with_reducible refine iv_bi ?_ (fun _ _ _ _ => ?_)
      | with_reducible refine hF _ _ _ _ ?_ ?_
      | with_reducible refine iv_rl_Parser_parseArguments_22 hF  _ _ _ _ _ _ _ ?_
      | assumption
      | with_reducible refine i54_sI ?_ (by decide) (by decide)
      | with_reducible refine i54_sJ ?_
      | with_reducible refine i54_sA ?_ (by decide) (by decide)
      | with_reducible exact ivA_o (by decide) (by decide)
      | with_reducible refine ivA_47 ?_
      | with_reducible refine ivA_142 ?_
      | decide
theorem iv_rb_Types_clear (hF : ivF F) (T : gSt) (h : I54 T) : iv (rb_Types_clear F nf T) := by
    unfold rb_Types_clear
    repeat' first
      | with_reducible exact iv_none
      | with_reducible refine iv_some ?_
      | with_reducible refine iv_ite (fun _ => ?_) (fun _ => ?_)
      | with_reducible refine iv_gd ?_
      | with_reducible refine iv_stK ?_ (fun _ _ => ?_)
      | with_reducible refine iv_vK (fun _ => ?_)
      | with_reducible refine iv_lK (fun _ => ?_)
      | with_reducible refine iv_bi ?_ (fun _ _ _ _ => ?_)
      | with_reducible refine hF _ _ _ _ ?_ ?_
      | assumption
      | with_reducible refine i54_sI ?_ (by decide) (by decide)
      | with_reducible refine i54_sJ ?_
      | with_reducible refine i54_sA ?_ (by decide) (by decide)
      | with_reducible exact ivA_o (by decide) (by decide)
      | with_reducible refine ivA_47 ?_
      | with_reducible refine ivA_142 ?_
      | decide
theorem iv_rj_Types_keep_58 (hF : ivF F) {rec_24 : gSt → Int64 → Int32 → Int32 → gR} (hrec_24 : ∀ T a0 a1 a2, I54 T → iv (rec_24 T a0 a1 a2)) (T : gSt) (x3 : Int64) (x5 : Int32) (x6 : Int32) (h : I54 T) : iv (rj_Types_keep_58 F nf rec_24 T x3 x5 x6) := by
    unfold rj_Types_keep_58
    repeat' first
      | with_reducible exact iv_none
      | with_reducible refine iv_some ?_
      | with_reducible refine iv_ite (fun _ => ?_) (fun _ => ?_)
      | with_reducible refine iv_gd ?_
      | with_reducible refine iv_stK ?_ (fun _ _ => ?_)
      | with_reducible refine iv_vK (fun _ => ?_)
      | with_reducible refine iv_lK (fun _ => ?_)
      | with_reducible refine iv_bi ?_ (fun _ _ _ _ => ?_)
      | with_reducible refine hF _ _ _ _ ?_ ?_
      | with_reducible refine hrec_24 _ _ _ _ ?_
      | assumption
      | with_reducible refine i54_sI ?_ (by decide) (by decide)
      | with_reducible refine i54_sJ ?_
      | with_reducible refine i54_sA ?_ (by decide) (by decide)
      | with_reducible exact ivA_o (by decide) (by decide)
      | with_reducible refine ivA_47 ?_
      | with_reducible refine ivA_142 ?_
      | decide
theorem iv_rl_Types_keep_24 (hF : ivF F) : ∀ (n : Nat) (T : gSt) (x0 : Int64) (x1 : Int32) (x2 : Int32), I54 T → iv (rl_Types_keep_24 F nf n T x0 x1 x2) := by
  intro n
  induction n with
  | zero =>
    intro T x0 x1 x2 h
    rw [rl_Types_keep_24]
    exact iv_none
  | succ n ih =>
    intro T x0 x1 x2 h
    rw [rl_Types_keep_24]
    repeat' first
      | with_reducible exact iv_none
      | with_reducible refine iv_some ?_
      | with_reducible refine iv_ite (fun _ => ?_) (fun _ => ?_)
      | with_reducible refine iv_gd ?_
      | with_reducible refine iv_stK ?_ (fun _ _ => ?_)
      | with_reducible refine iv_vK (fun _ => ?_)
      | with_reducible refine iv_lK (fun _ => ?_)
      | with_reducible refine iv_bi ?_ (fun _ _ _ _ => ?_)
      | with_reducible refine hF _ _ _ _ ?_ ?_
      | with_reducible refine iv_rj_Types_keep_58 hF ?_ _ _ _ _ ?_
      | with_reducible refine ih _ _ _ _ ?_
      | assumption
      | with_reducible refine i54_sI ?_ (by decide) (by decide)
      | with_reducible refine i54_sJ ?_
      | with_reducible refine i54_sA ?_ (by decide) (by decide)
      | with_reducible exact ivA_o (by decide) (by decide)
      | with_reducible refine ivA_47 ?_
      | with_reducible refine ivA_142 ?_
      | decide
theorem iv_rb_Types_keep (hF : ivF F) (T : gSt) (p1 : Int64) (h : I54 T) : iv (rb_Types_keep F nf T p1) := by
    unfold rb_Types_keep
    repeat' first
      | with_reducible exact iv_none
      | with_reducible refine iv_some ?_
      | with_reducible refine iv_ite (fun _ => ?_) (fun _ => ?_)
      | with_reducible refine iv_gd ?_
      | with_reducible refine iv_stK ?_ (fun _ _ => ?_)
      | with_reducible refine iv_vK (fun _ => ?_)
      | with_reducible refine iv_lK (fun _ => ?_)
      | with_reducible refine iv_bi ?_ (fun _ _ _ _ => ?_)
      | with_reducible refine hF _ _ _ _ ?_ ?_
      | with_reducible refine iv_rl_Types_keep_24 hF  _ _ _ _ _ ?_
      | assumption
      | with_reducible refine i54_sI ?_ (by decide) (by decide)
      | with_reducible refine i54_sJ ?_
      | with_reducible refine i54_sA ?_ (by decide) (by decide)
      | with_reducible exact ivA_o (by decide) (by decide)
      | with_reducible refine ivA_47 ?_
      | with_reducible refine ivA_142 ?_
      | decide
theorem iv_rb_Types_pointer (hF : ivF F) (T : gSt) (p1 : Int32) (p2 : Int32) (p3 : Int32) (h : I54 T) : iv (rb_Types_pointer F nf T p1 p2 p3) := by
    unfold rb_Types_pointer
    repeat' first
      | with_reducible exact iv_none
      | with_reducible refine iv_some ?_
      | with_reducible refine iv_ite (fun _ => ?_) (fun _ => ?_)
      | with_reducible refine iv_gd ?_
      | with_reducible refine iv_stK ?_ (fun _ _ => ?_)
      | with_reducible refine iv_vK (fun _ => ?_)
      | with_reducible refine iv_lK (fun _ => ?_)
      | with_reducible refine iv_bi ?_ (fun _ _ _ _ => ?_)
      | with_reducible refine hF _ _ _ _ ?_ ?_
      | assumption
      | with_reducible refine i54_sI ?_ (by decide) (by decide)
      | with_reducible refine i54_sJ ?_
      | with_reducible refine i54_sA ?_ (by decide) (by decide)
      | with_reducible exact ivA_o (by decide) (by decide)
      | with_reducible refine ivA_47 ?_
      | with_reducible refine ivA_142 ?_
      | decide
theorem iv_rb_Types_thing (hF : ivF F) (T : gSt) (p1 : Int32) (p2 : Int32) (h : I54 T) : iv (rb_Types_thing F nf T p1 p2) := by
    unfold rb_Types_thing
    repeat' first
      | with_reducible exact iv_none
      | with_reducible refine iv_some ?_
      | with_reducible refine iv_ite (fun _ => ?_) (fun _ => ?_)
      | with_reducible refine iv_gd ?_
      | with_reducible refine iv_stK ?_ (fun _ _ => ?_)
      | with_reducible refine iv_vK (fun _ => ?_)
      | with_reducible refine iv_lK (fun _ => ?_)
      | with_reducible refine iv_bi ?_ (fun _ _ _ _ => ?_)
      | with_reducible refine hF _ _ _ _ ?_ ?_
      | assumption
      | with_reducible refine i54_sI ?_ (by decide) (by decide)
      | with_reducible refine i54_sJ ?_
      | with_reducible refine i54_sA ?_ (by decide) (by decide)
      | with_reducible exact ivA_o (by decide) (by decide)
      | with_reducible refine ivA_47 ?_
      | with_reducible refine ivA_142 ?_
      | decide
theorem iv_rb_Types_keyOf (hF : ivF F) (T : gSt) (p1 : Int32) (h : I54 T) : iv (rb_Types_keyOf F nf T p1) := by
    unfold rb_Types_keyOf
    repeat' first
      | with_reducible exact iv_none
      | with_reducible refine iv_some ?_
      | with_reducible refine iv_ite (fun _ => ?_) (fun _ => ?_)
      | with_reducible refine iv_gd ?_
      | with_reducible refine iv_stK ?_ (fun _ _ => ?_)
      | with_reducible refine iv_vK (fun _ => ?_)
      | with_reducible refine iv_lK (fun _ => ?_)
      | with_reducible refine iv_bi ?_ (fun _ _ _ _ => ?_)
      | with_reducible refine hF _ _ _ _ ?_ ?_
      | assumption
      | with_reducible refine i54_sI ?_ (by decide) (by decide)
      | with_reducible refine i54_sJ ?_
      | with_reducible refine i54_sA ?_ (by decide) (by decide)
      | with_reducible exact ivA_o (by decide) (by decide)
      | with_reducible refine ivA_47 ?_
      | with_reducible refine ivA_142 ?_
      | decide
theorem iv_rb_Types_kindOf (hF : ivF F) (T : gSt) (p1 : Int32) (h : I54 T) : iv (rb_Types_kindOf F nf T p1) := by
    unfold rb_Types_kindOf
    repeat' first
      | with_reducible exact iv_none
      | with_reducible refine iv_some ?_
      | with_reducible refine iv_ite (fun _ => ?_) (fun _ => ?_)
      | with_reducible refine iv_gd ?_
      | with_reducible refine iv_stK ?_ (fun _ _ => ?_)
      | with_reducible refine iv_vK (fun _ => ?_)
      | with_reducible refine iv_lK (fun _ => ?_)
      | with_reducible refine iv_bi ?_ (fun _ _ _ _ => ?_)
      | with_reducible refine hF _ _ _ _ ?_ ?_
      | assumption
      | with_reducible refine i54_sI ?_ (by decide) (by decide)
      | with_reducible refine i54_sJ ?_
      | with_reducible refine i54_sA ?_ (by decide) (by decide)
      | with_reducible exact ivA_o (by decide) (by decide)
      | with_reducible refine ivA_47 ?_
      | with_reducible refine ivA_142 ?_
      | decide
theorem iv_rb_Types_regionOf (hF : ivF F) (T : gSt) (p1 : Int32) (h : I54 T) : iv (rb_Types_regionOf F nf T p1) := by
    unfold rb_Types_regionOf
    repeat' first
      | with_reducible exact iv_none
      | with_reducible refine iv_some ?_
      | with_reducible refine iv_ite (fun _ => ?_) (fun _ => ?_)
      | with_reducible refine iv_gd ?_
      | with_reducible refine iv_stK ?_ (fun _ _ => ?_)
      | with_reducible refine iv_vK (fun _ => ?_)
      | with_reducible refine iv_lK (fun _ => ?_)
      | with_reducible refine iv_bi ?_ (fun _ _ _ _ => ?_)
      | with_reducible refine hF _ _ _ _ ?_ ?_
      | assumption
      | with_reducible refine i54_sI ?_ (by decide) (by decide)
      | with_reducible refine i54_sJ ?_
      | with_reducible refine i54_sA ?_ (by decide) (by decide)
      | with_reducible exact ivA_o (by decide) (by decide)
      | with_reducible refine ivA_47 ?_
      | with_reducible refine ivA_142 ?_
      | decide
theorem iv_rb_Types_behind (hF : ivF F) (T : gSt) (p1 : Int32) (h : I54 T) : iv (rb_Types_behind F nf T p1) := by
    unfold rb_Types_behind
    repeat' first
      | with_reducible exact iv_none
      | with_reducible refine iv_some ?_
      | with_reducible refine iv_ite (fun _ => ?_) (fun _ => ?_)
      | with_reducible refine iv_gd ?_
      | with_reducible refine iv_stK ?_ (fun _ _ => ?_)
      | with_reducible refine iv_vK (fun _ => ?_)
      | with_reducible refine iv_lK (fun _ => ?_)
      | with_reducible refine iv_bi ?_ (fun _ _ _ _ => ?_)
      | with_reducible refine hF _ _ _ _ ?_ ?_
      | assumption
      | with_reducible refine i54_sI ?_ (by decide) (by decide)
      | with_reducible refine i54_sJ ?_
      | with_reducible refine i54_sA ?_ (by decide) (by decide)
      | with_reducible exact ivA_o (by decide) (by decide)
      | with_reducible refine ivA_47 ?_
      | with_reducible refine ivA_142 ?_
      | decide
theorem iv_rj_Types_titleBehind_21 (hF : ivF F) (T : gSt) (y0 : Int32) (h : I54 T) : iv (rj_Types_titleBehind_21 F nf T y0) := by
    unfold rj_Types_titleBehind_21
    repeat' first
      | with_reducible exact iv_none
      | with_reducible refine iv_some ?_
      | with_reducible refine iv_ite (fun _ => ?_) (fun _ => ?_)
      | with_reducible refine iv_gd ?_
      | with_reducible refine iv_stK ?_ (fun _ _ => ?_)
      | with_reducible refine iv_vK (fun _ => ?_)
      | with_reducible refine iv_lK (fun _ => ?_)
      | with_reducible refine iv_bi ?_ (fun _ _ _ _ => ?_)
      | with_reducible refine hF _ _ _ _ ?_ ?_
      | assumption
      | with_reducible refine i54_sI ?_ (by decide) (by decide)
      | with_reducible refine i54_sJ ?_
      | with_reducible refine i54_sA ?_ (by decide) (by decide)
      | with_reducible exact ivA_o (by decide) (by decide)
      | with_reducible refine ivA_47 ?_
      | with_reducible refine ivA_142 ?_
      | decide
theorem iv_rb_Types_titleBehind (hF : ivF F) (T : gSt) (p1 : Int32) (h : I54 T) : iv (rb_Types_titleBehind F nf T p1) := by
    unfold rb_Types_titleBehind
    repeat' first
      | with_reducible exact iv_none
      | with_reducible refine iv_some ?_
      | with_reducible refine iv_ite (fun _ => ?_) (fun _ => ?_)
      | with_reducible refine iv_gd ?_
      | with_reducible refine iv_stK ?_ (fun _ _ => ?_)
      | with_reducible refine iv_vK (fun _ => ?_)
      | with_reducible refine iv_lK (fun _ => ?_)
      | with_reducible refine iv_bi ?_ (fun _ _ _ _ => ?_)
      | with_reducible refine hF _ _ _ _ ?_ ?_
      | with_reducible refine iv_rj_Types_titleBehind_21 hF  _ _ ?_
      | assumption
      | with_reducible refine i54_sI ?_ (by decide) (by decide)
      | with_reducible refine i54_sJ ?_
      | with_reducible refine i54_sA ?_ (by decide) (by decide)
      | with_reducible exact ivA_o (by decide) (by decide)
      | with_reducible refine ivA_47 ?_
      | with_reducible refine ivA_142 ?_
      | decide
theorem iv_rb_Types_regionsBehind (hF : ivF F) (T : gSt) (p1 : Int32) (h : I54 T) : iv (rb_Types_regionsBehind F nf T p1) := by
    unfold rb_Types_regionsBehind
    repeat' first
      | with_reducible exact iv_none
      | with_reducible refine iv_some ?_
      | with_reducible refine iv_ite (fun _ => ?_) (fun _ => ?_)
      | with_reducible refine iv_gd ?_
      | with_reducible refine iv_stK ?_ (fun _ _ => ?_)
      | with_reducible refine iv_vK (fun _ => ?_)
      | with_reducible refine iv_lK (fun _ => ?_)
      | with_reducible refine iv_bi ?_ (fun _ _ _ _ => ?_)
      | with_reducible refine hF _ _ _ _ ?_ ?_
      | assumption
      | with_reducible refine i54_sI ?_ (by decide) (by decide)
      | with_reducible refine i54_sJ ?_
      | with_reducible refine i54_sA ?_ (by decide) (by decide)
      | with_reducible exact ivA_o (by decide) (by decide)
      | with_reducible refine ivA_47 ?_
      | with_reducible refine ivA_142 ?_
      | decide
theorem iv_rb_Types_isPointed (hF : ivF F) (T : gSt) (p1 : Int32) (h : I54 T) : iv (rb_Types_isPointed F nf T p1) := by
    unfold rb_Types_isPointed
    repeat' first
      | with_reducible exact iv_none
      | with_reducible refine iv_some ?_
      | with_reducible refine iv_ite (fun _ => ?_) (fun _ => ?_)
      | with_reducible refine iv_gd ?_
      | with_reducible refine iv_stK ?_ (fun _ _ => ?_)
      | with_reducible refine iv_vK (fun _ => ?_)
      | with_reducible refine iv_lK (fun _ => ?_)
      | with_reducible refine iv_bi ?_ (fun _ _ _ _ => ?_)
      | with_reducible refine hF _ _ _ _ ?_ ?_
      | assumption
      | with_reducible refine i54_sI ?_ (by decide) (by decide)
      | with_reducible refine i54_sJ ?_
      | with_reducible refine i54_sA ?_ (by decide) (by decide)
      | with_reducible exact ivA_o (by decide) (by decide)
      | with_reducible refine ivA_47 ?_
      | with_reducible refine ivA_142 ?_
      | decide
theorem iv_rb_Types_wordsOf (hF : ivF F) (T : gSt) (p1 : Int32) (h : I54 T) : iv (rb_Types_wordsOf F nf T p1) := by
    unfold rb_Types_wordsOf
    repeat' first
      | with_reducible exact iv_none
      | with_reducible refine iv_some ?_
      | with_reducible refine iv_ite (fun _ => ?_) (fun _ => ?_)
      | with_reducible refine iv_gd ?_
      | with_reducible refine iv_stK ?_ (fun _ _ => ?_)
      | with_reducible refine iv_vK (fun _ => ?_)
      | with_reducible refine iv_lK (fun _ => ?_)
      | with_reducible refine iv_bi ?_ (fun _ _ _ _ => ?_)
      | with_reducible refine hF _ _ _ _ ?_ ?_
      | assumption
      | with_reducible refine i54_sI ?_ (by decide) (by decide)
      | with_reducible refine i54_sJ ?_
      | with_reducible refine i54_sA ?_ (by decide) (by decide)
      | with_reducible exact ivA_o (by decide) (by decide)
      | with_reducible refine ivA_47 ?_
      | with_reducible refine ivA_142 ?_
      | decide
theorem iv_rb_Types_told (hF : ivF F) (T : gSt) (p1 : Int32) (p2 : Int32) (p3 : Int32) (h : I54 T) : iv (rb_Types_told F nf T p1 p2 p3) := by
    unfold rb_Types_told
    repeat' first
      | with_reducible exact iv_none
      | with_reducible refine iv_some ?_
      | with_reducible refine iv_ite (fun _ => ?_) (fun _ => ?_)
      | with_reducible refine iv_gd ?_
      | with_reducible refine iv_stK ?_ (fun _ _ => ?_)
      | with_reducible refine iv_vK (fun _ => ?_)
      | with_reducible refine iv_lK (fun _ => ?_)
      | with_reducible refine iv_bi ?_ (fun _ _ _ _ => ?_)
      | with_reducible refine hF _ _ _ _ ?_ ?_
      | assumption
      | with_reducible refine i54_sI ?_ (by decide) (by decide)
      | with_reducible refine i54_sJ ?_
      | with_reducible refine i54_sA ?_ (by decide) (by decide)
      | with_reducible exact ivA_o (by decide) (by decide)
      | with_reducible refine ivA_47 ?_
      | with_reducible refine ivA_142 ?_
      | decide
theorem iv_rl_Types_toldAll_4 (hF : ivF F) : ∀ (n : Nat) (T : gSt) (x0 : Int32) (x1 : Int32) (x2 : Int32) (x3 : Int32), I54 T → iv (rl_Types_toldAll_4 F nf n T x0 x1 x2 x3) := by
  intro n
  induction n with
  | zero =>
    intro T x0 x1 x2 x3 h
    rw [rl_Types_toldAll_4]
    exact iv_none
  | succ n ih =>
    intro T x0 x1 x2 x3 h
    rw [rl_Types_toldAll_4]
    repeat' first
      | with_reducible exact iv_none
      | with_reducible refine iv_some ?_
      | with_reducible refine iv_ite (fun _ => ?_) (fun _ => ?_)
      | with_reducible refine iv_gd ?_
      | with_reducible refine iv_stK ?_ (fun _ _ => ?_)
      | with_reducible refine iv_vK (fun _ => ?_)
      | with_reducible refine iv_lK (fun _ => ?_)
      | with_reducible refine iv_bi ?_ (fun _ _ _ _ => ?_)
      | with_reducible refine hF _ _ _ _ ?_ ?_
      | with_reducible refine ih _ _ _ _ _ ?_
      | assumption
      | with_reducible refine i54_sI ?_ (by decide) (by decide)
      | with_reducible refine i54_sJ ?_
      | with_reducible refine i54_sA ?_ (by decide) (by decide)
      | with_reducible exact ivA_o (by decide) (by decide)
      | with_reducible refine ivA_47 ?_
      | with_reducible refine ivA_142 ?_
      | decide
theorem iv_rb_Types_toldAll (hF : ivF F) (T : gSt) (p1 : Int32) (p2 : Int32) (h : I54 T) : iv (rb_Types_toldAll F nf T p1 p2) := by
    unfold rb_Types_toldAll
    repeat' first
      | with_reducible exact iv_none
      | with_reducible refine iv_some ?_
      | with_reducible refine iv_ite (fun _ => ?_) (fun _ => ?_)
      | with_reducible refine iv_gd ?_
      | with_reducible refine iv_stK ?_ (fun _ _ => ?_)
      | with_reducible refine iv_vK (fun _ => ?_)
      | with_reducible refine iv_lK (fun _ => ?_)
      | with_reducible refine iv_bi ?_ (fun _ _ _ _ => ?_)
      | with_reducible refine hF _ _ _ _ ?_ ?_
      | with_reducible refine iv_rl_Types_toldAll_4 hF  _ _ _ _ _ _ ?_
      | assumption
      | with_reducible refine i54_sI ?_ (by decide) (by decide)
      | with_reducible refine i54_sJ ?_
      | with_reducible refine i54_sA ?_ (by decide) (by decide)
      | with_reducible exact ivA_o (by decide) (by decide)
      | with_reducible refine ivA_47 ?_
      | with_reducible refine ivA_142 ?_
      | decide
theorem iv_rb_Types_toldOne (hF : ivF F) (T : gSt) (p1 : Int32) (p2 : Int32) (h : I54 T) : iv (rb_Types_toldOne F nf T p1 p2) := by
    unfold rb_Types_toldOne
    repeat' first
      | with_reducible exact iv_none
      | with_reducible refine iv_some ?_
      | with_reducible refine iv_ite (fun _ => ?_) (fun _ => ?_)
      | with_reducible refine iv_gd ?_
      | with_reducible refine iv_stK ?_ (fun _ _ => ?_)
      | with_reducible refine iv_vK (fun _ => ?_)
      | with_reducible refine iv_lK (fun _ => ?_)
      | with_reducible refine iv_bi ?_ (fun _ _ _ _ => ?_)
      | with_reducible refine hF _ _ _ _ ?_ ?_
      | assumption
      | with_reducible refine i54_sI ?_ (by decide) (by decide)
      | with_reducible refine i54_sJ ?_
      | with_reducible refine i54_sA ?_ (by decide) (by decide)
      | with_reducible exact ivA_o (by decide) (by decide)
      | with_reducible refine ivA_47 ?_
      | with_reducible refine ivA_142 ?_
      | decide
theorem iv_rl_Scope_enterHead_32 (hF : ivF F) : ∀ (n : Nat) (T : gSt) (x0 : Int32), I54 T → iv (rl_Scope_enterHead_32 F nf n T x0) := by
  intro n
  induction n with
  | zero =>
    intro T x0 h
    rw [rl_Scope_enterHead_32]
    exact iv_none
  | succ n ih =>
    intro T x0 h
    rw [rl_Scope_enterHead_32]
    repeat' first
      | with_reducible exact iv_none
      | with_reducible refine iv_some ?_
      | with_reducible refine iv_ite (fun _ => ?_) (fun _ => ?_)
      | with_reducible refine iv_gd ?_
      | with_reducible refine iv_stK ?_ (fun _ _ => ?_)
      | with_reducible refine iv_vK (fun _ => ?_)
      | with_reducible refine iv_lK (fun _ => ?_)
      | with_reducible refine iv_bi ?_ (fun _ _ _ _ => ?_)
      | with_reducible refine hF _ _ _ _ ?_ ?_
      | with_reducible refine ih _ _ ?_
      | assumption
      | with_reducible refine i54_sI ?_ (by decide) (by decide)
      | with_reducible refine i54_sJ ?_
      | with_reducible refine i54_sA ?_ (by decide) (by decide)
      | with_reducible exact ivA_o (by decide) (by decide)
      | with_reducible refine ivA_47 ?_
      | with_reducible refine ivA_142 ?_
      | decide
theorem iv_rb_Scope_enterHead (hF : ivF F) (T : gSt) (p1 : Int32) (h : I54 T) : iv (rb_Scope_enterHead F nf T p1) := by
    unfold rb_Scope_enterHead
    repeat' first
      | with_reducible exact iv_none
      | with_reducible refine iv_some ?_
      | with_reducible refine iv_ite (fun _ => ?_) (fun _ => ?_)
      | with_reducible refine iv_gd ?_
      | with_reducible refine iv_stK ?_ (fun _ _ => ?_)
      | with_reducible refine iv_vK (fun _ => ?_)
      | with_reducible refine iv_lK (fun _ => ?_)
      | with_reducible refine iv_bi ?_ (fun _ _ _ _ => ?_)
      | with_reducible refine hF _ _ _ _ ?_ ?_
      | with_reducible refine iv_rl_Scope_enterHead_32 hF  _ _ _ ?_
      | assumption
      | with_reducible refine i54_sI ?_ (by decide) (by decide)
      | with_reducible refine i54_sJ ?_
      | with_reducible refine i54_sA ?_ (by decide) (by decide)
      | with_reducible exact ivA_o (by decide) (by decide)
      | with_reducible refine ivA_47 ?_
      | with_reducible refine ivA_142 ?_
      | decide
theorem iv_rl_Scope_enterFun_67 (hF : ivF F) : ∀ (n : Nat) (T : gSt) (x0 : Int32), I54 T → iv (rl_Scope_enterFun_67 F nf n T x0) := by
  intro n
  induction n with
  | zero =>
    intro T x0 h
    rw [rl_Scope_enterFun_67]
    exact iv_none
  | succ n ih =>
    intro T x0 h
    rw [rl_Scope_enterFun_67]
    repeat' first
      | with_reducible exact iv_none
      | with_reducible refine iv_some ?_
      | with_reducible refine iv_ite (fun _ => ?_) (fun _ => ?_)
      | with_reducible refine iv_gd ?_
      | with_reducible refine iv_stK ?_ (fun _ _ => ?_)
      | with_reducible refine iv_vK (fun _ => ?_)
      | with_reducible refine iv_lK (fun _ => ?_)
      | with_reducible refine iv_bi ?_ (fun _ _ _ _ => ?_)
      | with_reducible refine hF _ _ _ _ ?_ ?_
      | with_reducible refine ih _ _ ?_
      | assumption
      | with_reducible refine i54_sI ?_ (by decide) (by decide)
      | with_reducible refine i54_sJ ?_
      | with_reducible refine i54_sA ?_ (by decide) (by decide)
      | with_reducible exact ivA_o (by decide) (by decide)
      | with_reducible refine ivA_47 ?_
      | with_reducible refine ivA_142 ?_
      | decide
theorem iv_rl_Scope_enterFun_14 (hF : ivF F) : ∀ (n : Nat) (T : gSt) (x0 : Int32), I54 T → iv (rl_Scope_enterFun_14 F nf n T x0) := by
  intro n
  induction n with
  | zero =>
    intro T x0 h
    rw [rl_Scope_enterFun_14]
    exact iv_none
  | succ n ih =>
    intro T x0 h
    rw [rl_Scope_enterFun_14]
    repeat' first
      | with_reducible exact iv_none
      | with_reducible refine iv_some ?_
      | with_reducible refine iv_ite (fun _ => ?_) (fun _ => ?_)
      | with_reducible refine iv_gd ?_
      | with_reducible refine iv_stK ?_ (fun _ _ => ?_)
      | with_reducible refine iv_vK (fun _ => ?_)
      | with_reducible refine iv_lK (fun _ => ?_)
      | with_reducible refine iv_bi ?_ (fun _ _ _ _ => ?_)
      | with_reducible refine hF _ _ _ _ ?_ ?_
      | with_reducible refine iv_rl_Scope_enterFun_67 hF  _ _ _ ?_
      | with_reducible refine ih _ _ ?_
      | assumption
      | with_reducible refine i54_sI ?_ (by decide) (by decide)
      | with_reducible refine i54_sJ ?_
      | with_reducible refine i54_sA ?_ (by decide) (by decide)
      | with_reducible exact ivA_o (by decide) (by decide)
      | with_reducible refine ivA_47 ?_
      | with_reducible refine ivA_142 ?_
      | decide
theorem iv_rb_Scope_enterFun (hF : ivF F) (T : gSt) (p1 : Int32) (h : I54 T) : iv (rb_Scope_enterFun F nf T p1) := by
    unfold rb_Scope_enterFun
    repeat' first
      | with_reducible exact iv_none
      | with_reducible refine iv_some ?_
      | with_reducible refine iv_ite (fun _ => ?_) (fun _ => ?_)
      | with_reducible refine iv_gd ?_
      | with_reducible refine iv_stK ?_ (fun _ _ => ?_)
      | with_reducible refine iv_vK (fun _ => ?_)
      | with_reducible refine iv_lK (fun _ => ?_)
      | with_reducible refine iv_bi ?_ (fun _ _ _ _ => ?_)
      | with_reducible refine hF _ _ _ _ ?_ ?_
      | with_reducible refine iv_rl_Scope_enterFun_14 hF  _ _ _ ?_
      | assumption
      | with_reducible refine i54_sI ?_ (by decide) (by decide)
      | with_reducible refine i54_sJ ?_
      | with_reducible refine i54_sA ?_ (by decide) (by decide)
      | with_reducible exact ivA_o (by decide) (by decide)
      | with_reducible refine ivA_47 ?_
      | with_reducible refine ivA_142 ?_
      | decide
theorem iv_rl_Scope_findRegion_12 (hF : ivF F) : ∀ (n : Nat) (T : gSt) (x0 : Int64) (x1 : Int32), I54 T → iv (rl_Scope_findRegion_12 F nf n T x0 x1) := by
  intro n
  induction n with
  | zero =>
    intro T x0 x1 h
    rw [rl_Scope_findRegion_12]
    exact iv_none
  | succ n ih =>
    intro T x0 x1 h
    rw [rl_Scope_findRegion_12]
    repeat' first
      | with_reducible exact iv_none
      | with_reducible refine iv_some ?_
      | with_reducible refine iv_ite (fun _ => ?_) (fun _ => ?_)
      | with_reducible refine iv_gd ?_
      | with_reducible refine iv_stK ?_ (fun _ _ => ?_)
      | with_reducible refine iv_vK (fun _ => ?_)
      | with_reducible refine iv_lK (fun _ => ?_)
      | with_reducible refine iv_bi ?_ (fun _ _ _ _ => ?_)
      | with_reducible refine hF _ _ _ _ ?_ ?_
      | with_reducible refine ih _ _ _ ?_
      | assumption
      | with_reducible refine i54_sI ?_ (by decide) (by decide)
      | with_reducible refine i54_sJ ?_
      | with_reducible refine i54_sA ?_ (by decide) (by decide)
      | with_reducible exact ivA_o (by decide) (by decide)
      | with_reducible refine ivA_47 ?_
      | with_reducible refine ivA_142 ?_
      | decide
theorem iv_rb_Scope_findRegion (hF : ivF F) (T : gSt) (p1 : Int64) (h : I54 T) : iv (rb_Scope_findRegion F nf T p1) := by
    unfold rb_Scope_findRegion
    repeat' first
      | with_reducible exact iv_none
      | with_reducible refine iv_some ?_
      | with_reducible refine iv_ite (fun _ => ?_) (fun _ => ?_)
      | with_reducible refine iv_gd ?_
      | with_reducible refine iv_stK ?_ (fun _ _ => ?_)
      | with_reducible refine iv_vK (fun _ => ?_)
      | with_reducible refine iv_lK (fun _ => ?_)
      | with_reducible refine iv_bi ?_ (fun _ _ _ _ => ?_)
      | with_reducible refine hF _ _ _ _ ?_ ?_
      | with_reducible refine iv_rl_Scope_findRegion_12 hF  _ _ _ _ ?_
      | assumption
      | with_reducible refine i54_sI ?_ (by decide) (by decide)
      | with_reducible refine i54_sJ ?_
      | with_reducible refine i54_sA ?_ (by decide) (by decide)
      | with_reducible exact ivA_o (by decide) (by decide)
      | with_reducible refine ivA_47 ?_
      | with_reducible refine ivA_142 ?_
      | decide
theorem iv_rb_Scope_openRegion (hF : ivF F) (T : gSt) (p1 : Int64) (h : I54 T) : iv (rb_Scope_openRegion F nf T p1) := by
    unfold rb_Scope_openRegion
    repeat' first
      | with_reducible exact iv_none
      | with_reducible refine iv_some ?_
      | with_reducible refine iv_ite (fun _ => ?_) (fun _ => ?_)
      | with_reducible refine iv_gd ?_
      | with_reducible refine iv_stK ?_ (fun _ _ => ?_)
      | with_reducible refine iv_vK (fun _ => ?_)
      | with_reducible refine iv_lK (fun _ => ?_)
      | with_reducible refine iv_bi ?_ (fun _ _ _ _ => ?_)
      | with_reducible refine hF _ _ _ _ ?_ ?_
      | assumption
      | with_reducible refine i54_sI ?_ (by decide) (by decide)
      | with_reducible refine i54_sJ ?_
      | with_reducible refine i54_sA ?_ (by decide) (by decide)
      | with_reducible exact ivA_o (by decide) (by decide)
      | with_reducible refine ivA_47 ?_
      | with_reducible refine ivA_142 ?_
      | decide
theorem iv_rb_Scope_leaveRegion (hF : ivF F) (T : gSt) (p1 : Int32) (h : I54 T) : iv (rb_Scope_leaveRegion F nf T p1) := by
    unfold rb_Scope_leaveRegion
    repeat' first
      | with_reducible exact iv_none
      | with_reducible refine iv_some ?_
      | with_reducible refine iv_ite (fun _ => ?_) (fun _ => ?_)
      | with_reducible refine iv_gd ?_
      | with_reducible refine iv_stK ?_ (fun _ _ => ?_)
      | with_reducible refine iv_vK (fun _ => ?_)
      | with_reducible refine iv_lK (fun _ => ?_)
      | with_reducible refine iv_bi ?_ (fun _ _ _ _ => ?_)
      | with_reducible refine hF _ _ _ _ ?_ ?_
      | assumption
      | with_reducible refine i54_sI ?_ (by decide) (by decide)
      | with_reducible refine i54_sJ ?_
      | with_reducible refine i54_sA ?_ (by decide) (by decide)
      | with_reducible exact ivA_o (by decide) (by decide)
      | with_reducible refine ivA_47 ?_
      | with_reducible refine ivA_142 ?_
      | decide
theorem iv_rl_Scope_mayClose_29 (hF : ivF F) : ∀ (n : Nat) (T : gSt) (x0 : Int32) (x1 : Int32) (x2 : Int32), I54 T → iv (rl_Scope_mayClose_29 F nf n T x0 x1 x2) := by
  intro n
  induction n with
  | zero =>
    intro T x0 x1 x2 h
    rw [rl_Scope_mayClose_29]
    exact iv_none
  | succ n ih =>
    intro T x0 x1 x2 h
    rw [rl_Scope_mayClose_29]
    repeat' first
      | with_reducible exact iv_none
      | with_reducible refine iv_some ?_
      | with_reducible refine iv_ite (fun _ => ?_) (fun _ => ?_)
      | with_reducible refine iv_gd ?_
      | with_reducible refine iv_stK ?_ (fun _ _ => ?_)
      | with_reducible refine iv_vK (fun _ => ?_)
      | with_reducible refine iv_lK (fun _ => ?_)
      | with_reducible refine iv_bi ?_ (fun _ _ _ _ => ?_)
      | with_reducible refine hF _ _ _ _ ?_ ?_
      | with_reducible refine ih _ _ _ _ ?_
      | assumption
      | with_reducible refine i54_sI ?_ (by decide) (by decide)
      | with_reducible refine i54_sJ ?_
      | with_reducible refine i54_sA ?_ (by decide) (by decide)
      | with_reducible exact ivA_o (by decide) (by decide)
      | with_reducible refine ivA_47 ?_
      | with_reducible refine ivA_142 ?_
      | decide
theorem iv_rb_Scope_mayClose (hF : ivF F) (T : gSt) (p1 : Int32) (h : I54 T) : iv (rb_Scope_mayClose F nf T p1) := by
    unfold rb_Scope_mayClose
    repeat' first
      | with_reducible exact iv_none
      | with_reducible refine iv_some ?_
      | with_reducible refine iv_ite (fun _ => ?_) (fun _ => ?_)
      | with_reducible refine iv_gd ?_
      | with_reducible refine iv_stK ?_ (fun _ _ => ?_)
      | with_reducible refine iv_vK (fun _ => ?_)
      | with_reducible refine iv_lK (fun _ => ?_)
      | with_reducible refine iv_bi ?_ (fun _ _ _ _ => ?_)
      | with_reducible refine hF _ _ _ _ ?_ ?_
      | with_reducible refine iv_rl_Scope_mayClose_29 hF  _ _ _ _ _ ?_
      | assumption
      | with_reducible refine i54_sI ?_ (by decide) (by decide)
      | with_reducible refine i54_sJ ?_
      | with_reducible refine i54_sA ?_ (by decide) (by decide)
      | with_reducible exact ivA_o (by decide) (by decide)
      | with_reducible refine ivA_47 ?_
      | with_reducible refine ivA_142 ?_
      | decide
theorem iv_rb_Scope_isLive (hF : ivF F) (T : gSt) (p1 : Int32) (h : I54 T) : iv (rb_Scope_isLive F nf T p1) := by
    unfold rb_Scope_isLive
    repeat' first
      | with_reducible exact iv_none
      | with_reducible refine iv_some ?_
      | with_reducible refine iv_ite (fun _ => ?_) (fun _ => ?_)
      | with_reducible refine iv_gd ?_
      | with_reducible refine iv_stK ?_ (fun _ _ => ?_)
      | with_reducible refine iv_vK (fun _ => ?_)
      | with_reducible refine iv_lK (fun _ => ?_)
      | with_reducible refine iv_bi ?_ (fun _ _ _ _ => ?_)
      | with_reducible refine hF _ _ _ _ ?_ ?_
      | assumption
      | with_reducible refine i54_sI ?_ (by decide) (by decide)
      | with_reducible refine i54_sJ ?_
      | with_reducible refine i54_sA ?_ (by decide) (by decide)
      | with_reducible exact ivA_o (by decide) (by decide)
      | with_reducible refine ivA_47 ?_
      | with_reducible refine ivA_142 ?_
      | decide
theorem iv_rb_Scope_setLive (hF : ivF F) (T : gSt) (p1 : Int32) (p2 : Int32) (h : I54 T) : iv (rb_Scope_setLive F nf T p1 p2) := by
    unfold rb_Scope_setLive
    repeat' first
      | with_reducible exact iv_none
      | with_reducible refine iv_some ?_
      | with_reducible refine iv_ite (fun _ => ?_) (fun _ => ?_)
      | with_reducible refine iv_gd ?_
      | with_reducible refine iv_stK ?_ (fun _ _ => ?_)
      | with_reducible refine iv_vK (fun _ => ?_)
      | with_reducible refine iv_lK (fun _ => ?_)
      | with_reducible refine iv_bi ?_ (fun _ _ _ _ => ?_)
      | with_reducible refine hF _ _ _ _ ?_ ?_
      | assumption
      | with_reducible refine i54_sI ?_ (by decide) (by decide)
      | with_reducible refine i54_sJ ?_
      | with_reducible refine i54_sA ?_ (by decide) (by decide)
      | with_reducible exact ivA_o (by decide) (by decide)
      | with_reducible refine ivA_47 ?_
      | with_reducible refine ivA_142 ?_
      | decide
theorem iv_rb_Scope_outlives (hF : ivF F) (T : gSt) (p1 : Int32) (p2 : Int32) (h : I54 T) : iv (rb_Scope_outlives F nf T p1 p2) := by
    unfold rb_Scope_outlives
    repeat' first
      | with_reducible exact iv_none
      | with_reducible refine iv_some ?_
      | with_reducible refine iv_ite (fun _ => ?_) (fun _ => ?_)
      | with_reducible refine iv_gd ?_
      | with_reducible refine iv_stK ?_ (fun _ _ => ?_)
      | with_reducible refine iv_vK (fun _ => ?_)
      | with_reducible refine iv_lK (fun _ => ?_)
      | with_reducible refine iv_bi ?_ (fun _ _ _ _ => ?_)
      | with_reducible refine hF _ _ _ _ ?_ ?_
      | assumption
      | with_reducible refine i54_sI ?_ (by decide) (by decide)
      | with_reducible refine i54_sJ ?_
      | with_reducible refine i54_sA ?_ (by decide) (by decide)
      | with_reducible exact ivA_o (by decide) (by decide)
      | with_reducible refine ivA_47 ?_
      | with_reducible refine ivA_142 ?_
      | decide
theorem iv_rb_Scope_aboveBit (hF : ivF F) (T : gSt) (p1 : Int32) (p2 : Int32) (h : I54 T) : iv (rb_Scope_aboveBit F nf T p1 p2) := by
    unfold rb_Scope_aboveBit
    repeat' first
      | with_reducible exact iv_none
      | with_reducible refine iv_some ?_
      | with_reducible refine iv_ite (fun _ => ?_) (fun _ => ?_)
      | with_reducible refine iv_gd ?_
      | with_reducible refine iv_stK ?_ (fun _ _ => ?_)
      | with_reducible refine iv_vK (fun _ => ?_)
      | with_reducible refine iv_lK (fun _ => ?_)
      | with_reducible refine iv_bi ?_ (fun _ _ _ _ => ?_)
      | with_reducible refine hF _ _ _ _ ?_ ?_
      | assumption
      | with_reducible refine i54_sI ?_ (by decide) (by decide)
      | with_reducible refine i54_sJ ?_
      | with_reducible refine i54_sA ?_ (by decide) (by decide)
      | with_reducible exact ivA_o (by decide) (by decide)
      | with_reducible refine ivA_47 ?_
      | with_reducible refine ivA_142 ?_
      | decide
theorem iv_rb_Scope_varsSeen (hF : ivF F) (T : gSt) (h : I54 T) : iv (rb_Scope_varsSeen F nf T) := by
    unfold rb_Scope_varsSeen
    repeat' first
      | with_reducible exact iv_none
      | with_reducible refine iv_some ?_
      | with_reducible refine iv_ite (fun _ => ?_) (fun _ => ?_)
      | with_reducible refine iv_gd ?_
      | with_reducible refine iv_stK ?_ (fun _ _ => ?_)
      | with_reducible refine iv_vK (fun _ => ?_)
      | with_reducible refine iv_lK (fun _ => ?_)
      | with_reducible refine iv_bi ?_ (fun _ _ _ _ => ?_)
      | with_reducible refine hF _ _ _ _ ?_ ?_
      | assumption
      | with_reducible refine i54_sI ?_ (by decide) (by decide)
      | with_reducible refine i54_sJ ?_
      | with_reducible refine i54_sA ?_ (by decide) (by decide)
      | with_reducible exact ivA_o (by decide) (by decide)
      | with_reducible refine ivA_47 ?_
      | with_reducible refine ivA_142 ?_
      | decide
theorem iv_rb_Scope_forgetVars (hF : ivF F) (T : gSt) (p1 : Int32) (h : I54 T) : iv (rb_Scope_forgetVars F nf T p1) := by
    unfold rb_Scope_forgetVars
    repeat' first
      | with_reducible exact iv_none
      | with_reducible refine iv_some ?_
      | with_reducible refine iv_ite (fun _ => ?_) (fun _ => ?_)
      | with_reducible refine iv_gd ?_
      | with_reducible refine iv_stK ?_ (fun _ _ => ?_)
      | with_reducible refine iv_vK (fun _ => ?_)
      | with_reducible refine iv_lK (fun _ => ?_)
      | with_reducible refine iv_bi ?_ (fun _ _ _ _ => ?_)
      | with_reducible refine hF _ _ _ _ ?_ ?_
      | assumption
      | with_reducible refine i54_sI ?_ (by decide) (by decide)
      | with_reducible refine i54_sJ ?_
      | with_reducible refine i54_sA ?_ (by decide) (by decide)
      | with_reducible exact ivA_o (by decide) (by decide)
      | with_reducible refine ivA_47 ?_
      | with_reducible refine ivA_142 ?_
      | decide
theorem iv_rl_Scope_findVar_2 (hF : ivF F) : ∀ (n : Nat) (T : gSt) (x0 : Int64) (x1 : Int32), I54 T → iv (rl_Scope_findVar_2 F nf n T x0 x1) := by
  intro n
  induction n with
  | zero =>
    intro T x0 x1 h
    rw [rl_Scope_findVar_2]
    exact iv_none
  | succ n ih =>
    intro T x0 x1 h
    rw [rl_Scope_findVar_2]
    repeat' first
      | with_reducible exact iv_none
      | with_reducible refine iv_some ?_
      | with_reducible refine iv_ite (fun _ => ?_) (fun _ => ?_)
      | with_reducible refine iv_gd ?_
      | with_reducible refine iv_stK ?_ (fun _ _ => ?_)
      | with_reducible refine iv_vK (fun _ => ?_)
      | with_reducible refine iv_lK (fun _ => ?_)
      | with_reducible refine iv_bi ?_ (fun _ _ _ _ => ?_)
      | with_reducible refine hF _ _ _ _ ?_ ?_
      | with_reducible refine ih _ _ _ ?_
      | assumption
      | with_reducible refine i54_sI ?_ (by decide) (by decide)
      | with_reducible refine i54_sJ ?_
      | with_reducible refine i54_sA ?_ (by decide) (by decide)
      | with_reducible exact ivA_o (by decide) (by decide)
      | with_reducible refine ivA_47 ?_
      | with_reducible refine ivA_142 ?_
      | decide
theorem iv_rb_Scope_findVar (hF : ivF F) (T : gSt) (p1 : Int64) (h : I54 T) : iv (rb_Scope_findVar F nf T p1) := by
    unfold rb_Scope_findVar
    repeat' first
      | with_reducible exact iv_none
      | with_reducible refine iv_some ?_
      | with_reducible refine iv_ite (fun _ => ?_) (fun _ => ?_)
      | with_reducible refine iv_gd ?_
      | with_reducible refine iv_stK ?_ (fun _ _ => ?_)
      | with_reducible refine iv_vK (fun _ => ?_)
      | with_reducible refine iv_lK (fun _ => ?_)
      | with_reducible refine iv_bi ?_ (fun _ _ _ _ => ?_)
      | with_reducible refine hF _ _ _ _ ?_ ?_
      | with_reducible refine iv_rl_Scope_findVar_2 hF  _ _ _ _ ?_
      | assumption
      | with_reducible refine i54_sI ?_ (by decide) (by decide)
      | with_reducible refine i54_sJ ?_
      | with_reducible refine i54_sA ?_ (by decide) (by decide)
      | with_reducible exact ivA_o (by decide) (by decide)
      | with_reducible refine ivA_47 ?_
      | with_reducible refine ivA_142 ?_
      | decide
theorem iv_rb_Scope_addVar (hF : ivF F) (T : gSt) (p1 : Int64) (p2 : Int32) (h : I54 T) : iv (rb_Scope_addVar F nf T p1 p2) := by
    unfold rb_Scope_addVar
    repeat' first
      | with_reducible exact iv_none
      | with_reducible refine iv_some ?_
      | with_reducible refine iv_ite (fun _ => ?_) (fun _ => ?_)
      | with_reducible refine iv_gd ?_
      | with_reducible refine iv_stK ?_ (fun _ _ => ?_)
      | with_reducible refine iv_vK (fun _ => ?_)
      | with_reducible refine iv_lK (fun _ => ?_)
      | with_reducible refine iv_bi ?_ (fun _ _ _ _ => ?_)
      | with_reducible refine hF _ _ _ _ ?_ ?_
      | assumption
      | with_reducible refine i54_sI ?_ (by decide) (by decide)
      | with_reducible refine i54_sJ ?_
      | with_reducible refine i54_sA ?_ (by decide) (by decide)
      | with_reducible exact ivA_o (by decide) (by decide)
      | with_reducible refine ivA_47 ?_
      | with_reducible refine ivA_142 ?_
      | decide
theorem iv_rb_Scope_typeOf (hF : ivF F) (T : gSt) (p1 : Int32) (h : I54 T) : iv (rb_Scope_typeOf F nf T p1) := by
    unfold rb_Scope_typeOf
    repeat' first
      | with_reducible exact iv_none
      | with_reducible refine iv_some ?_
      | with_reducible refine iv_ite (fun _ => ?_) (fun _ => ?_)
      | with_reducible refine iv_gd ?_
      | with_reducible refine iv_stK ?_ (fun _ _ => ?_)
      | with_reducible refine iv_vK (fun _ => ?_)
      | with_reducible refine iv_lK (fun _ => ?_)
      | with_reducible refine iv_bi ?_ (fun _ _ _ _ => ?_)
      | with_reducible refine hF _ _ _ _ ?_ ?_
      | assumption
      | with_reducible refine i54_sI ?_ (by decide) (by decide)
      | with_reducible refine i54_sJ ?_
      | with_reducible refine i54_sA ?_ (by decide) (by decide)
      | with_reducible exact ivA_o (by decide) (by decide)
      | with_reducible refine ivA_47 ?_
      | with_reducible refine ivA_142 ?_
      | decide
theorem iv_rb_Scope_slotOf (hF : ivF F) (T : gSt) (p1 : Int32) (h : I54 T) : iv (rb_Scope_slotOf F nf T p1) := by
    unfold rb_Scope_slotOf
    repeat' first
      | with_reducible exact iv_none
      | with_reducible refine iv_some ?_
      | with_reducible refine iv_ite (fun _ => ?_) (fun _ => ?_)
      | with_reducible refine iv_gd ?_
      | with_reducible refine iv_stK ?_ (fun _ _ => ?_)
      | with_reducible refine iv_vK (fun _ => ?_)
      | with_reducible refine iv_lK (fun _ => ?_)
      | with_reducible refine iv_bi ?_ (fun _ _ _ _ => ?_)
      | with_reducible refine hF _ _ _ _ ?_ ?_
      | assumption
      | with_reducible refine i54_sI ?_ (by decide) (by decide)
      | with_reducible refine i54_sJ ?_
      | with_reducible refine i54_sA ?_ (by decide) (by decide)
      | with_reducible exact ivA_o (by decide) (by decide)
      | with_reducible refine ivA_47 ?_
      | with_reducible refine ivA_142 ?_
      | decide
theorem iv_rb_Scope_isReached (hF : ivF F) (T : gSt) (h : I54 T) : iv (rb_Scope_isReached F nf T) := by
    unfold rb_Scope_isReached
    repeat' first
      | with_reducible exact iv_none
      | with_reducible refine iv_some ?_
      | with_reducible refine iv_ite (fun _ => ?_) (fun _ => ?_)
      | with_reducible refine iv_gd ?_
      | with_reducible refine iv_stK ?_ (fun _ _ => ?_)
      | with_reducible refine iv_vK (fun _ => ?_)
      | with_reducible refine iv_lK (fun _ => ?_)
      | with_reducible refine iv_bi ?_ (fun _ _ _ _ => ?_)
      | with_reducible refine hF _ _ _ _ ?_ ?_
      | assumption
      | with_reducible refine i54_sI ?_ (by decide) (by decide)
      | with_reducible refine i54_sJ ?_
      | with_reducible refine i54_sA ?_ (by decide) (by decide)
      | with_reducible exact ivA_o (by decide) (by decide)
      | with_reducible refine ivA_47 ?_
      | with_reducible refine ivA_142 ?_
      | decide
theorem iv_rb_Scope_leave (hF : ivF F) (T : gSt) (h : I54 T) : iv (rb_Scope_leave F nf T) := by
    unfold rb_Scope_leave
    repeat' first
      | with_reducible exact iv_none
      | with_reducible refine iv_some ?_
      | with_reducible refine iv_ite (fun _ => ?_) (fun _ => ?_)
      | with_reducible refine iv_gd ?_
      | with_reducible refine iv_stK ?_ (fun _ _ => ?_)
      | with_reducible refine iv_vK (fun _ => ?_)
      | with_reducible refine iv_lK (fun _ => ?_)
      | with_reducible refine iv_bi ?_ (fun _ _ _ _ => ?_)
      | with_reducible refine hF _ _ _ _ ?_ ?_
      | assumption
      | with_reducible refine i54_sI ?_ (by decide) (by decide)
      | with_reducible refine i54_sJ ?_
      | with_reducible refine i54_sA ?_ (by decide) (by decide)
      | with_reducible exact ivA_o (by decide) (by decide)
      | with_reducible refine ivA_47 ?_
      | with_reducible refine ivA_142 ?_
      | decide
theorem iv_rb_Scope_isSet (hF : ivF F) (T : gSt) (p1 : Int32) (h : I54 T) : iv (rb_Scope_isSet F nf T p1) := by
    unfold rb_Scope_isSet
    repeat' first
      | with_reducible exact iv_none
      | with_reducible refine iv_some ?_
      | with_reducible refine iv_ite (fun _ => ?_) (fun _ => ?_)
      | with_reducible refine iv_gd ?_
      | with_reducible refine iv_stK ?_ (fun _ _ => ?_)
      | with_reducible refine iv_vK (fun _ => ?_)
      | with_reducible refine iv_lK (fun _ => ?_)
      | with_reducible refine iv_bi ?_ (fun _ _ _ _ => ?_)
      | with_reducible refine hF _ _ _ _ ?_ ?_
      | assumption
      | with_reducible refine i54_sI ?_ (by decide) (by decide)
      | with_reducible refine i54_sJ ?_
      | with_reducible refine i54_sA ?_ (by decide) (by decide)
      | with_reducible exact ivA_o (by decide) (by decide)
      | with_reducible refine ivA_47 ?_
      | with_reducible refine ivA_142 ?_
      | decide
theorem iv_rb_Scope_isKnown (hF : ivF F) (T : gSt) (p1 : Int32) (h : I54 T) : iv (rb_Scope_isKnown F nf T p1) := by
    unfold rb_Scope_isKnown
    repeat' first
      | with_reducible exact iv_none
      | with_reducible refine iv_some ?_
      | with_reducible refine iv_ite (fun _ => ?_) (fun _ => ?_)
      | with_reducible refine iv_gd ?_
      | with_reducible refine iv_stK ?_ (fun _ _ => ?_)
      | with_reducible refine iv_vK (fun _ => ?_)
      | with_reducible refine iv_lK (fun _ => ?_)
      | with_reducible refine iv_bi ?_ (fun _ _ _ _ => ?_)
      | with_reducible refine hF _ _ _ _ ?_ ?_
      | assumption
      | with_reducible refine i54_sI ?_ (by decide) (by decide)
      | with_reducible refine i54_sJ ?_
      | with_reducible refine i54_sA ?_ (by decide) (by decide)
      | with_reducible exact ivA_o (by decide) (by decide)
      | with_reducible refine ivA_47 ?_
      | with_reducible refine ivA_142 ?_
      | decide
theorem iv_rb_Scope_give (hF : ivF F) (T : gSt) (p1 : Int32) (p2 : Int32) (h : I54 T) : iv (rb_Scope_give F nf T p1 p2) := by
    unfold rb_Scope_give
    repeat' first
      | with_reducible exact iv_none
      | with_reducible refine iv_some ?_
      | with_reducible refine iv_ite (fun _ => ?_) (fun _ => ?_)
      | with_reducible refine iv_gd ?_
      | with_reducible refine iv_stK ?_ (fun _ _ => ?_)
      | with_reducible refine iv_vK (fun _ => ?_)
      | with_reducible refine iv_lK (fun _ => ?_)
      | with_reducible refine iv_bi ?_ (fun _ _ _ _ => ?_)
      | with_reducible refine hF _ _ _ _ ?_ ?_
      | assumption
      | with_reducible refine i54_sI ?_ (by decide) (by decide)
      | with_reducible refine i54_sJ ?_
      | with_reducible refine i54_sA ?_ (by decide) (by decide)
      | with_reducible exact ivA_o (by decide) (by decide)
      | with_reducible refine ivA_47 ?_
      | with_reducible refine ivA_142 ?_
      | decide
theorem iv_rb_Scope_know (hF : ivF F) (T : gSt) (p1 : Int32) (h : I54 T) : iv (rb_Scope_know F nf T p1) := by
    unfold rb_Scope_know
    repeat' first
      | with_reducible exact iv_none
      | with_reducible refine iv_some ?_
      | with_reducible refine iv_ite (fun _ => ?_) (fun _ => ?_)
      | with_reducible refine iv_gd ?_
      | with_reducible refine iv_stK ?_ (fun _ _ => ?_)
      | with_reducible refine iv_vK (fun _ => ?_)
      | with_reducible refine iv_lK (fun _ => ?_)
      | with_reducible refine iv_bi ?_ (fun _ _ _ _ => ?_)
      | with_reducible refine hF _ _ _ _ ?_ ?_
      | assumption
      | with_reducible refine i54_sI ?_ (by decide) (by decide)
      | with_reducible refine i54_sJ ?_
      | with_reducible refine i54_sA ?_ (by decide) (by decide)
      | with_reducible exact ivA_o (by decide) (by decide)
      | with_reducible refine ivA_47 ?_
      | with_reducible refine ivA_142 ?_
      | decide
theorem iv_rb_Scope_forgetKnown (hF : ivF F) (T : gSt) (p1 : Int32) (h : I54 T) : iv (rb_Scope_forgetKnown F nf T p1) := by
    unfold rb_Scope_forgetKnown
    repeat' first
      | with_reducible exact iv_none
      | with_reducible refine iv_some ?_
      | with_reducible refine iv_ite (fun _ => ?_) (fun _ => ?_)
      | with_reducible refine iv_gd ?_
      | with_reducible refine iv_stK ?_ (fun _ _ => ?_)
      | with_reducible refine iv_vK (fun _ => ?_)
      | with_reducible refine iv_lK (fun _ => ?_)
      | with_reducible refine iv_bi ?_ (fun _ _ _ _ => ?_)
      | with_reducible refine hF _ _ _ _ ?_ ?_
      | assumption
      | with_reducible refine i54_sI ?_ (by decide) (by decide)
      | with_reducible refine i54_sJ ?_
      | with_reducible refine i54_sA ?_ (by decide) (by decide)
      | with_reducible exact ivA_o (by decide) (by decide)
      | with_reducible refine ivA_47 ?_
      | with_reducible refine ivA_142 ?_
      | decide
theorem iv_rb_Scope_sameLive (hF : ivF F) (T : gSt) (p1 : Int64) (p2 : Int64) (h : I54 T) : iv (rb_Scope_sameLive F nf T p1 p2) := by
    unfold rb_Scope_sameLive
    repeat' first
      | with_reducible exact iv_none
      | with_reducible refine iv_some ?_
      | with_reducible refine iv_ite (fun _ => ?_) (fun _ => ?_)
      | with_reducible refine iv_gd ?_
      | with_reducible refine iv_stK ?_ (fun _ _ => ?_)
      | with_reducible refine iv_vK (fun _ => ?_)
      | with_reducible refine iv_lK (fun _ => ?_)
      | with_reducible refine iv_bi ?_ (fun _ _ _ _ => ?_)
      | with_reducible refine hF _ _ _ _ ?_ ?_
      | assumption
      | with_reducible refine i54_sI ?_ (by decide) (by decide)
      | with_reducible refine i54_sJ ?_
      | with_reducible refine i54_sA ?_ (by decide) (by decide)
      | with_reducible exact ivA_o (by decide) (by decide)
      | with_reducible refine ivA_47 ?_
      | with_reducible refine ivA_142 ?_
      | decide
theorem iv_rj_Scope_meet_17 (hF : ivF F) (T : gSt) (x1 : Int64) (x3 : Int64) (y0 : Int32) (h : I54 T) : iv (rj_Scope_meet_17 F nf T x1 x3 y0) := by
    unfold rj_Scope_meet_17
    repeat' first
      | with_reducible exact iv_none
      | with_reducible refine iv_some ?_
      | with_reducible refine iv_ite (fun _ => ?_) (fun _ => ?_)
      | with_reducible refine iv_gd ?_
      | with_reducible refine iv_stK ?_ (fun _ _ => ?_)
      | with_reducible refine iv_vK (fun _ => ?_)
      | with_reducible refine iv_lK (fun _ => ?_)
      | with_reducible refine iv_bi ?_ (fun _ _ _ _ => ?_)
      | with_reducible refine hF _ _ _ _ ?_ ?_
      | assumption
      | with_reducible refine i54_sI ?_ (by decide) (by decide)
      | with_reducible refine i54_sJ ?_
      | with_reducible refine i54_sA ?_ (by decide) (by decide)
      | with_reducible exact ivA_o (by decide) (by decide)
      | with_reducible refine ivA_47 ?_
      | with_reducible refine ivA_142 ?_
      | decide
theorem iv_rb_Scope_meet (hF : ivF F) (T : gSt) (p1 : Int64) (p2 : Int64) (h : I54 T) : iv (rb_Scope_meet F nf T p1 p2) := by
    unfold rb_Scope_meet
    repeat' first
      | with_reducible exact iv_none
      | with_reducible refine iv_some ?_
      | with_reducible refine iv_ite (fun _ => ?_) (fun _ => ?_)
      | with_reducible refine iv_gd ?_
      | with_reducible refine iv_stK ?_ (fun _ _ => ?_)
      | with_reducible refine iv_vK (fun _ => ?_)
      | with_reducible refine iv_lK (fun _ => ?_)
      | with_reducible refine iv_bi ?_ (fun _ _ _ _ => ?_)
      | with_reducible refine hF _ _ _ _ ?_ ?_
      | with_reducible refine iv_rj_Scope_meet_17 hF  _ _ _ _ ?_
      | assumption
      | with_reducible refine i54_sI ?_ (by decide) (by decide)
      | with_reducible refine i54_sJ ?_
      | with_reducible refine i54_sA ?_ (by decide) (by decide)
      | with_reducible exact ivA_o (by decide) (by decide)
      | with_reducible refine ivA_47 ?_
      | with_reducible refine ivA_142 ?_
      | decide
theorem iv_rl_Heads_check_9 (hF : ivF F) : ∀ (n : Nat) (T : gSt) (x0 : Int32), I54 T → iv (rl_Heads_check_9 F nf n T x0) := by
  intro n
  induction n with
  | zero =>
    intro T x0 h
    rw [rl_Heads_check_9]
    exact iv_none
  | succ n ih =>
    intro T x0 h
    rw [rl_Heads_check_9]
    repeat' first
      | with_reducible exact iv_none
      | with_reducible refine iv_some ?_
      | with_reducible refine iv_ite (fun _ => ?_) (fun _ => ?_)
      | with_reducible refine iv_gd ?_
      | with_reducible refine iv_stK ?_ (fun _ _ => ?_)
      | with_reducible refine iv_vK (fun _ => ?_)
      | with_reducible refine iv_lK (fun _ => ?_)
      | with_reducible refine iv_bi ?_ (fun _ _ _ _ => ?_)
      | with_reducible refine hF _ _ _ _ ?_ ?_
      | with_reducible refine ih _ _ ?_
      | assumption
      | with_reducible refine i54_sI ?_ (by decide) (by decide)
      | with_reducible refine i54_sJ ?_
      | with_reducible refine i54_sA ?_ (by decide) (by decide)
      | with_reducible exact ivA_o (by decide) (by decide)
      | with_reducible refine ivA_47 ?_
      | with_reducible refine ivA_142 ?_
      | decide
theorem iv_rb_Heads_check (hF : ivF F) (T : gSt) (h : I54 T) : iv (rb_Heads_check F nf T) := by
    unfold rb_Heads_check
    repeat' first
      | with_reducible exact iv_none
      | with_reducible refine iv_some ?_
      | with_reducible refine iv_ite (fun _ => ?_) (fun _ => ?_)
      | with_reducible refine iv_gd ?_
      | with_reducible refine iv_stK ?_ (fun _ _ => ?_)
      | with_reducible refine iv_vK (fun _ => ?_)
      | with_reducible refine iv_lK (fun _ => ?_)
      | with_reducible refine iv_bi ?_ (fun _ _ _ _ => ?_)
      | with_reducible refine hF _ _ _ _ ?_ ?_
      | with_reducible refine iv_rl_Heads_check_9 hF  _ _ _ ?_
      | assumption
      | with_reducible refine i54_sI ?_ (by decide) (by decide)
      | with_reducible refine i54_sJ ?_
      | with_reducible refine i54_sA ?_ (by decide) (by decide)
      | with_reducible exact ivA_o (by decide) (by decide)
      | with_reducible refine ivA_47 ?_
      | with_reducible refine ivA_142 ?_
      | decide
theorem iv_rb_Heads_mainName (hF : ivF F) (T : gSt) (h : I54 T) : iv (rb_Heads_mainName F nf T) := by
    unfold rb_Heads_mainName
    repeat' first
      | with_reducible exact iv_none
      | with_reducible refine iv_some ?_
      | with_reducible refine iv_ite (fun _ => ?_) (fun _ => ?_)
      | with_reducible refine iv_gd ?_
      | with_reducible refine iv_stK ?_ (fun _ _ => ?_)
      | with_reducible refine iv_vK (fun _ => ?_)
      | with_reducible refine iv_lK (fun _ => ?_)
      | with_reducible refine iv_bi ?_ (fun _ _ _ _ => ?_)
      | with_reducible refine hF _ _ _ _ ?_ ?_
      | assumption
      | with_reducible refine i54_sI ?_ (by decide) (by decide)
      | with_reducible refine i54_sJ ?_
      | with_reducible refine i54_sA ?_ (by decide) (by decide)
      | with_reducible exact ivA_o (by decide) (by decide)
      | with_reducible refine ivA_47 ?_
      | with_reducible refine ivA_142 ?_
      | decide
theorem iv_rl_Heads_checkHead_75 (hF : ivF F) : ∀ (n : Nat) (T : gSt) (x0 : Int32) (x1 : Int32) (x2 : Int32), I54 T → iv (rl_Heads_checkHead_75 F nf n T x0 x1 x2) := by
  intro n
  induction n with
  | zero =>
    intro T x0 x1 x2 h
    rw [rl_Heads_checkHead_75]
    exact iv_none
  | succ n ih =>
    intro T x0 x1 x2 h
    rw [rl_Heads_checkHead_75]
    repeat' first
      | with_reducible exact iv_none
      | with_reducible refine iv_some ?_
      | with_reducible refine iv_ite (fun _ => ?_) (fun _ => ?_)
      | with_reducible refine iv_gd ?_
      | with_reducible refine iv_stK ?_ (fun _ _ => ?_)
      | with_reducible refine iv_vK (fun _ => ?_)
      | with_reducible refine iv_lK (fun _ => ?_)
      | with_reducible refine iv_bi ?_ (fun _ _ _ _ => ?_)
      | with_reducible refine hF _ _ _ _ ?_ ?_
      | with_reducible refine ih _ _ _ _ ?_
      | assumption
      | with_reducible refine i54_sI ?_ (by decide) (by decide)
      | with_reducible refine i54_sJ ?_
      | with_reducible refine i54_sA ?_ (by decide) (by decide)
      | with_reducible exact ivA_o (by decide) (by decide)
      | with_reducible refine ivA_47 ?_
      | with_reducible refine ivA_142 ?_
      | decide
theorem iv_rj_Heads_checkHead_42 (hF : ivF F) (T : gSt) (x1 : Int32) (x2 : Int32) (y0 : Int32) (y1 : Int64) (h : I54 T) : iv (rj_Heads_checkHead_42 F nf T x1 x2 y0 y1) := by
    unfold rj_Heads_checkHead_42
    repeat' first
      | with_reducible exact iv_none
      | with_reducible refine iv_some ?_
      | with_reducible refine iv_ite (fun _ => ?_) (fun _ => ?_)
      | with_reducible refine iv_gd ?_
      | with_reducible refine iv_stK ?_ (fun _ _ => ?_)
      | with_reducible refine iv_vK (fun _ => ?_)
      | with_reducible refine iv_lK (fun _ => ?_)
      | with_reducible refine iv_bi ?_ (fun _ _ _ _ => ?_)
      | with_reducible refine hF _ _ _ _ ?_ ?_
      | with_reducible refine iv_rl_Heads_checkHead_75 hF  _ _ _ _ _ ?_
      | assumption
      | with_reducible refine i54_sI ?_ (by decide) (by decide)
      | with_reducible refine i54_sJ ?_
      | with_reducible refine i54_sA ?_ (by decide) (by decide)
      | with_reducible exact ivA_o (by decide) (by decide)
      | with_reducible refine ivA_47 ?_
      | with_reducible refine ivA_142 ?_
      | decide
theorem iv_rb_Heads_checkHead (hF : ivF F) (T : gSt) (p1 : Int32) (h : I54 T) : iv (rb_Heads_checkHead F nf T p1) := by
    unfold rb_Heads_checkHead
    repeat' first
      | with_reducible exact iv_none
      | with_reducible refine iv_some ?_
      | with_reducible refine iv_ite (fun _ => ?_) (fun _ => ?_)
      | with_reducible refine iv_gd ?_
      | with_reducible refine iv_stK ?_ (fun _ _ => ?_)
      | with_reducible refine iv_vK (fun _ => ?_)
      | with_reducible refine iv_lK (fun _ => ?_)
      | with_reducible refine iv_bi ?_ (fun _ _ _ _ => ?_)
      | with_reducible refine hF _ _ _ _ ?_ ?_
      | with_reducible refine iv_rj_Heads_checkHead_42 hF  _ _ _ _ _ ?_
      | assumption
      | with_reducible refine i54_sI ?_ (by decide) (by decide)
      | with_reducible refine i54_sJ ?_
      | with_reducible refine i54_sA ?_ (by decide) (by decide)
      | with_reducible exact ivA_o (by decide) (by decide)
      | with_reducible refine ivA_47 ?_
      | with_reducible refine ivA_142 ?_
      | decide
theorem iv_rj_Heads_checkParts_119 (hF : ivF F) {rec_28 : gSt → Int32 → Int32 → Int32 → Int32 → Int32 → gR} (hrec_28 : ∀ T a0 a1 a2 a3 a4, I54 T → iv (rec_28 T a0 a1 a2 a3 a4)) (T : gSt) (x1 : Int32) (x2 : Int32) (x3 : Int32) (x4 : Int32) (x5 : Int32) (x7 : Int32) (y0 : Int32) (y1 : Int32) (y2 : Int32) (y3 : Int32) (h : I54 T) : iv (rj_Heads_checkParts_119 F nf rec_28 T x1 x2 x3 x4 x5 x7 y0 y1 y2 y3) := by
    unfold rj_Heads_checkParts_119
    repeat' first
      | with_reducible exact iv_none
      | with_reducible refine iv_some ?_
      | with_reducible refine iv_ite (fun _ => ?_) (fun _ => ?_)
      | with_reducible refine iv_gd ?_
      | with_reducible refine iv_stK ?_ (fun _ _ => ?_)
      | with_reducible refine iv_vK (fun _ => ?_)
      | with_reducible refine iv_lK (fun _ => ?_)
      | with_reducible refine iv_bi ?_ (fun _ _ _ _ => ?_)
      | with_reducible refine hF _ _ _ _ ?_ ?_
      | with_reducible refine hrec_28 _ _ _ _ _ _ ?_
      | assumption
      | with_reducible refine i54_sI ?_ (by decide) (by decide)
      | with_reducible refine i54_sJ ?_
      | with_reducible refine i54_sA ?_ (by decide) (by decide)
      | with_reducible exact ivA_o (by decide) (by decide)
      | with_reducible refine ivA_47 ?_
      | with_reducible refine ivA_142 ?_
      | decide
theorem iv_rj_Heads_checkParts_90 (hF : ivF F) {rec_28 : gSt → Int32 → Int32 → Int32 → Int32 → Int32 → gR} (hrec_28 : ∀ T a0 a1 a2 a3 a4, I54 T → iv (rec_28 T a0 a1 a2 a3 a4)) (T : gSt) (x1 : Int32) (x2 : Int32) (x3 : Int32) (x4 : Int32) (x5 : Int32) (x6 : Int32) (h : I54 T) : iv (rj_Heads_checkParts_90 F nf rec_28 T x1 x2 x3 x4 x5 x6) := by
    unfold rj_Heads_checkParts_90
    repeat' first
      | with_reducible exact iv_none
      | with_reducible refine iv_some ?_
      | with_reducible refine iv_ite (fun _ => ?_) (fun _ => ?_)
      | with_reducible refine iv_gd ?_
      | with_reducible refine iv_stK ?_ (fun _ _ => ?_)
      | with_reducible refine iv_vK (fun _ => ?_)
      | with_reducible refine iv_lK (fun _ => ?_)
      | with_reducible refine iv_bi ?_ (fun _ _ _ _ => ?_)
      | with_reducible refine hF _ _ _ _ ?_ ?_
      | with_reducible refine iv_rj_Heads_checkParts_119 hF ?_ _ _ _ _ _ _ _ _ _ _ _ ?_
      | with_reducible refine hrec_28 _ _ _ _ _ _ ?_
      | assumption
      | with_reducible refine i54_sI ?_ (by decide) (by decide)
      | with_reducible refine i54_sJ ?_
      | with_reducible refine i54_sA ?_ (by decide) (by decide)
      | with_reducible exact ivA_o (by decide) (by decide)
      | with_reducible refine ivA_47 ?_
      | with_reducible refine ivA_142 ?_
      | decide
theorem iv_rl_Heads_checkParts_28 (hF : ivF F) : ∀ (n : Nat) (T : gSt) (x0 : Int32) (x1 : Int32) (x2 : Int32) (x3 : Int32) (x4 : Int32), I54 T → iv (rl_Heads_checkParts_28 F nf n T x0 x1 x2 x3 x4) := by
  intro n
  induction n with
  | zero =>
    intro T x0 x1 x2 x3 x4 h
    rw [rl_Heads_checkParts_28]
    exact iv_none
  | succ n ih =>
    intro T x0 x1 x2 x3 x4 h
    rw [rl_Heads_checkParts_28]
    repeat' first
      | with_reducible exact iv_none
      | with_reducible refine iv_some ?_
      | with_reducible refine iv_ite (fun _ => ?_) (fun _ => ?_)
      | with_reducible refine iv_gd ?_
      | with_reducible refine iv_stK ?_ (fun _ _ => ?_)
      | with_reducible refine iv_vK (fun _ => ?_)
      | with_reducible refine iv_lK (fun _ => ?_)
      | with_reducible refine iv_bi ?_ (fun _ _ _ _ => ?_)
      | with_reducible refine hF _ _ _ _ ?_ ?_
      | with_reducible refine iv_rj_Heads_checkParts_90 hF ?_ _ _ _ _ _ _ _ ?_
      | with_reducible refine ih _ _ _ _ _ _ ?_
      | assumption
      | with_reducible refine i54_sI ?_ (by decide) (by decide)
      | with_reducible refine i54_sJ ?_
      | with_reducible refine i54_sA ?_ (by decide) (by decide)
      | with_reducible exact ivA_o (by decide) (by decide)
      | with_reducible refine ivA_47 ?_
      | with_reducible refine ivA_142 ?_
      | decide
theorem iv_rb_Heads_checkParts (hF : ivF F) (T : gSt) (p1 : Int32) (h : I54 T) : iv (rb_Heads_checkParts F nf T p1) := by
    unfold rb_Heads_checkParts
    repeat' first
      | with_reducible exact iv_none
      | with_reducible refine iv_some ?_
      | with_reducible refine iv_ite (fun _ => ?_) (fun _ => ?_)
      | with_reducible refine iv_gd ?_
      | with_reducible refine iv_stK ?_ (fun _ _ => ?_)
      | with_reducible refine iv_vK (fun _ => ?_)
      | with_reducible refine iv_lK (fun _ => ?_)
      | with_reducible refine iv_bi ?_ (fun _ _ _ _ => ?_)
      | with_reducible refine hF _ _ _ _ ?_ ?_
      | with_reducible refine iv_rl_Heads_checkParts_28 hF  _ _ _ _ _ _ _ ?_
      | assumption
      | with_reducible refine i54_sI ?_ (by decide) (by decide)
      | with_reducible refine i54_sJ ?_
      | with_reducible refine i54_sA ?_ (by decide) (by decide)
      | with_reducible exact ivA_o (by decide) (by decide)
      | with_reducible refine ivA_47 ?_
      | with_reducible refine ivA_142 ?_
      | decide
theorem iv_rl_Heads_findPart_3 (hF : ivF F) : ∀ (n : Nat) (T : gSt) (x0 : Int32) (x1 : Int64) (x2 : Int32), I54 T → iv (rl_Heads_findPart_3 F nf n T x0 x1 x2) := by
  intro n
  induction n with
  | zero =>
    intro T x0 x1 x2 h
    rw [rl_Heads_findPart_3]
    exact iv_none
  | succ n ih =>
    intro T x0 x1 x2 h
    rw [rl_Heads_findPart_3]
    repeat' first
      | with_reducible exact iv_none
      | with_reducible refine iv_some ?_
      | with_reducible refine iv_ite (fun _ => ?_) (fun _ => ?_)
      | with_reducible refine iv_gd ?_
      | with_reducible refine iv_stK ?_ (fun _ _ => ?_)
      | with_reducible refine iv_vK (fun _ => ?_)
      | with_reducible refine iv_lK (fun _ => ?_)
      | with_reducible refine iv_bi ?_ (fun _ _ _ _ => ?_)
      | with_reducible refine hF _ _ _ _ ?_ ?_
      | with_reducible refine ih _ _ _ _ ?_
      | assumption
      | with_reducible refine i54_sI ?_ (by decide) (by decide)
      | with_reducible refine i54_sJ ?_
      | with_reducible refine i54_sA ?_ (by decide) (by decide)
      | with_reducible exact ivA_o (by decide) (by decide)
      | with_reducible refine ivA_47 ?_
      | with_reducible refine ivA_142 ?_
      | decide
theorem iv_rb_Heads_findPart (hF : ivF F) (T : gSt) (p1 : Int32) (p2 : Int64) (h : I54 T) : iv (rb_Heads_findPart F nf T p1 p2) := by
    unfold rb_Heads_findPart
    repeat' first
      | with_reducible exact iv_none
      | with_reducible refine iv_some ?_
      | with_reducible refine iv_ite (fun _ => ?_) (fun _ => ?_)
      | with_reducible refine iv_gd ?_
      | with_reducible refine iv_stK ?_ (fun _ _ => ?_)
      | with_reducible refine iv_vK (fun _ => ?_)
      | with_reducible refine iv_lK (fun _ => ?_)
      | with_reducible refine iv_bi ?_ (fun _ _ _ _ => ?_)
      | with_reducible refine hF _ _ _ _ ?_ ?_
      | with_reducible refine iv_rl_Heads_findPart_3 hF  _ _ _ _ _ ?_
      | assumption
      | with_reducible refine i54_sI ?_ (by decide) (by decide)
      | with_reducible refine i54_sJ ?_
      | with_reducible refine i54_sA ?_ (by decide) (by decide)
      | with_reducible exact ivA_o (by decide) (by decide)
      | with_reducible refine ivA_47 ?_
      | with_reducible refine ivA_142 ?_
      | decide
theorem iv_rl_Heads_readDead_50 (hF : ivF F) : ∀ (n : Nat) (T : gSt) (x0 : Int32) (x1 : Int32) (x2 : Int32) (x3 : Int32), I54 T → iv (rl_Heads_readDead_50 F nf n T x0 x1 x2 x3) := by
  intro n
  induction n with
  | zero =>
    intro T x0 x1 x2 x3 h
    rw [rl_Heads_readDead_50]
    exact iv_none
  | succ n ih =>
    intro T x0 x1 x2 x3 h
    rw [rl_Heads_readDead_50]
    repeat' first
      | with_reducible exact iv_none
      | with_reducible refine iv_some ?_
      | with_reducible refine iv_ite (fun _ => ?_) (fun _ => ?_)
      | with_reducible refine iv_gd ?_
      | with_reducible refine iv_stK ?_ (fun _ _ => ?_)
      | with_reducible refine iv_vK (fun _ => ?_)
      | with_reducible refine iv_lK (fun _ => ?_)
      | with_reducible refine iv_bi ?_ (fun _ _ _ _ => ?_)
      | with_reducible refine hF _ _ _ _ ?_ ?_
      | with_reducible refine ih _ _ _ _ _ ?_
      | assumption
      | with_reducible refine i54_sI ?_ (by decide) (by decide)
      | with_reducible refine i54_sJ ?_
      | with_reducible refine i54_sA ?_ (by decide) (by decide)
      | with_reducible exact ivA_o (by decide) (by decide)
      | with_reducible refine ivA_47 ?_
      | with_reducible refine ivA_142 ?_
      | decide
theorem iv_rb_Heads_readDead (hF : ivF F) (T : gSt) (p1 : Int32) (h : I54 T) : iv (rb_Heads_readDead F nf T p1) := by
    unfold rb_Heads_readDead
    repeat' first
      | with_reducible exact iv_none
      | with_reducible refine iv_some ?_
      | with_reducible refine iv_ite (fun _ => ?_) (fun _ => ?_)
      | with_reducible refine iv_gd ?_
      | with_reducible refine iv_stK ?_ (fun _ _ => ?_)
      | with_reducible refine iv_vK (fun _ => ?_)
      | with_reducible refine iv_lK (fun _ => ?_)
      | with_reducible refine iv_bi ?_ (fun _ _ _ _ => ?_)
      | with_reducible refine hF _ _ _ _ ?_ ?_
      | with_reducible refine iv_rl_Heads_readDead_50 hF  _ _ _ _ _ _ ?_
      | assumption
      | with_reducible refine i54_sI ?_ (by decide) (by decide)
      | with_reducible refine i54_sJ ?_
      | with_reducible refine i54_sA ?_ (by decide) (by decide)
      | with_reducible exact ivA_o (by decide) (by decide)
      | with_reducible refine ivA_47 ?_
      | with_reducible refine ivA_142 ?_
      | decide
theorem iv_rl_Heads_readWhere_53 (hF : ivF F) : ∀ (n : Nat) (T : gSt) (x0 : Int32) (x1 : Int32) (x2 : Int32) (x3 : Int32), I54 T → iv (rl_Heads_readWhere_53 F nf n T x0 x1 x2 x3) := by
  intro n
  induction n with
  | zero =>
    intro T x0 x1 x2 x3 h
    rw [rl_Heads_readWhere_53]
    exact iv_none
  | succ n ih =>
    intro T x0 x1 x2 x3 h
    rw [rl_Heads_readWhere_53]
    repeat' first
      | with_reducible exact iv_none
      | with_reducible refine iv_some ?_
      | with_reducible refine iv_ite (fun _ => ?_) (fun _ => ?_)
      | with_reducible refine iv_gd ?_
      | with_reducible refine iv_stK ?_ (fun _ _ => ?_)
      | with_reducible refine iv_vK (fun _ => ?_)
      | with_reducible refine iv_lK (fun _ => ?_)
      | with_reducible refine iv_bi ?_ (fun _ _ _ _ => ?_)
      | with_reducible refine hF _ _ _ _ ?_ ?_
      | with_reducible refine ih _ _ _ _ _ ?_
      | assumption
      | with_reducible refine i54_sI ?_ (by decide) (by decide)
      | with_reducible refine i54_sJ ?_
      | with_reducible refine i54_sA ?_ (by decide) (by decide)
      | with_reducible exact ivA_o (by decide) (by decide)
      | with_reducible refine ivA_47 ?_
      | with_reducible refine ivA_142 ?_
      | decide
theorem iv_rb_Heads_readWhere (hF : ivF F) (T : gSt) (p1 : Int32) (h : I54 T) : iv (rb_Heads_readWhere F nf T p1) := by
    unfold rb_Heads_readWhere
    repeat' first
      | with_reducible exact iv_none
      | with_reducible refine iv_some ?_
      | with_reducible refine iv_ite (fun _ => ?_) (fun _ => ?_)
      | with_reducible refine iv_gd ?_
      | with_reducible refine iv_stK ?_ (fun _ _ => ?_)
      | with_reducible refine iv_vK (fun _ => ?_)
      | with_reducible refine iv_lK (fun _ => ?_)
      | with_reducible refine iv_bi ?_ (fun _ _ _ _ => ?_)
      | with_reducible refine hF _ _ _ _ ?_ ?_
      | with_reducible refine iv_rl_Heads_readWhere_53 hF  _ _ _ _ _ _ ?_
      | assumption
      | with_reducible refine i54_sI ?_ (by decide) (by decide)
      | with_reducible refine i54_sJ ?_
      | with_reducible refine i54_sA ?_ (by decide) (by decide)
      | with_reducible exact ivA_o (by decide) (by decide)
      | with_reducible refine ivA_47 ?_
      | with_reducible refine ivA_142 ?_
      | decide
theorem iv_rj_Heads_closed_51 (hF : ivF F) {rec_4 : gSt → Int32 → Int32 → gR} {rec_11 : gSt → Int32 → Int32 → Int32 → gR} {rec_19 : gSt → Int32 → Int32 → Int32 → Int32 → gR} (hrec_4 : ∀ T a0 a1, I54 T → iv (rec_4 T a0 a1)) (hrec_11 : ∀ T a0 a1 a2, I54 T → iv (rec_11 T a0 a1 a2)) (hrec_19 : ∀ T a0 a1 a2 a3, I54 T → iv (rec_19 T a0 a1 a2 a3)) (T : gSt) (x1 : Int32) (x2 : Int32) (x3 : Int32) (x4 : Int32) (y0 : Int32) (h : I54 T) : iv (rj_Heads_closed_51 F nf rec_4 rec_11 rec_19 T x1 x2 x3 x4 y0) := by
    unfold rj_Heads_closed_51
    repeat' first
      | with_reducible exact iv_none
      | with_reducible refine iv_some ?_
      | with_reducible refine iv_ite (fun _ => ?_) (fun _ => ?_)
      | with_reducible refine iv_gd ?_
      | with_reducible refine iv_stK ?_ (fun _ _ => ?_)
      | with_reducible refine iv_vK (fun _ => ?_)
      | with_reducible refine iv_lK (fun _ => ?_)
      | with_reducible refine iv_bi ?_ (fun _ _ _ _ => ?_)
      | with_reducible refine hF _ _ _ _ ?_ ?_
      | with_reducible refine hrec_4 _ _ _ ?_
      | with_reducible refine hrec_11 _ _ _ _ ?_
      | with_reducible refine hrec_19 _ _ _ _ _ ?_
      | assumption
      | with_reducible refine i54_sI ?_ (by decide) (by decide)
      | with_reducible refine i54_sJ ?_
      | with_reducible refine i54_sA ?_ (by decide) (by decide)
      | with_reducible exact ivA_o (by decide) (by decide)
      | with_reducible refine ivA_47 ?_
      | with_reducible refine ivA_142 ?_
      | decide
theorem iv_rl_Heads_closed_19 (hF : ivF F) {rec_4 : gSt → Int32 → Int32 → gR} {rec_11 : gSt → Int32 → Int32 → Int32 → gR} (hrec_4 : ∀ T a0 a1, I54 T → iv (rec_4 T a0 a1)) (hrec_11 : ∀ T a0 a1 a2, I54 T → iv (rec_11 T a0 a1 a2)) : ∀ (n : Nat) (T : gSt) (x0 : Int32) (x1 : Int32) (x2 : Int32) (x3 : Int32), I54 T → iv (rl_Heads_closed_19 F nf rec_4 rec_11 n T x0 x1 x2 x3) := by
  intro n
  induction n with
  | zero =>
    intro T x0 x1 x2 x3 h
    rw [rl_Heads_closed_19]
    exact iv_none
  | succ n ih =>
    intro T x0 x1 x2 x3 h
    rw [rl_Heads_closed_19]
    repeat' first
      | with_reducible exact iv_none
      | with_reducible refine iv_some ?_
      | with_reducible refine iv_ite (fun _ => ?_) (fun _ => ?_)
      | with_reducible refine iv_gd ?_
      | with_reducible refine iv_stK ?_ (fun _ _ => ?_)
      | with_reducible refine iv_vK (fun _ => ?_)
      | with_reducible refine iv_lK (fun _ => ?_)
      | with_reducible refine iv_bi ?_ (fun _ _ _ _ => ?_)
      | with_reducible refine hF _ _ _ _ ?_ ?_
      | with_reducible refine iv_rj_Heads_closed_51 hF ?_ ?_ ?_ _ _ _ _ _ _ ?_
      | with_reducible refine ih _ _ _ _ _ ?_
      | with_reducible refine hrec_4 _ _ _ ?_
      | with_reducible refine hrec_11 _ _ _ _ ?_
      | assumption
      | with_reducible refine i54_sI ?_ (by decide) (by decide)
      | with_reducible refine i54_sJ ?_
      | with_reducible refine i54_sA ?_ (by decide) (by decide)
      | with_reducible exact ivA_o (by decide) (by decide)
      | with_reducible refine ivA_47 ?_
      | with_reducible refine ivA_142 ?_
      | decide
theorem iv_rl_Heads_closed_11 (hF : ivF F) {rec_4 : gSt → Int32 → Int32 → gR} (hrec_4 : ∀ T a0 a1, I54 T → iv (rec_4 T a0 a1)) : ∀ (n : Nat) (T : gSt) (x0 : Int32) (x1 : Int32) (x2 : Int32), I54 T → iv (rl_Heads_closed_11 F nf rec_4 n T x0 x1 x2) := by
  intro n
  induction n with
  | zero =>
    intro T x0 x1 x2 h
    rw [rl_Heads_closed_11]
    exact iv_none
  | succ n ih =>
    intro T x0 x1 x2 h
    rw [rl_Heads_closed_11]
    repeat' first
      | with_reducible exact iv_none
      | with_reducible refine iv_some ?_
      | with_reducible refine iv_ite (fun _ => ?_) (fun _ => ?_)
      | with_reducible refine iv_gd ?_
      | with_reducible refine iv_stK ?_ (fun _ _ => ?_)
      | with_reducible refine iv_vK (fun _ => ?_)
      | with_reducible refine iv_lK (fun _ => ?_)
      | with_reducible refine iv_bi ?_ (fun _ _ _ _ => ?_)
      | with_reducible refine hF _ _ _ _ ?_ ?_
      | with_reducible refine iv_rl_Heads_closed_19 hF ?_ ?_ _ _ _ _ _ _ ?_
      | with_reducible refine ih _ _ _ _ ?_
      | with_reducible refine hrec_4 _ _ _ ?_
      | assumption
      | with_reducible refine i54_sI ?_ (by decide) (by decide)
      | with_reducible refine i54_sJ ?_
      | with_reducible refine i54_sA ?_ (by decide) (by decide)
      | with_reducible exact ivA_o (by decide) (by decide)
      | with_reducible refine ivA_47 ?_
      | with_reducible refine ivA_142 ?_
      | decide
theorem iv_rl_Heads_closed_4 (hF : ivF F) : ∀ (n : Nat) (T : gSt) (x0 : Int32) (x1 : Int32), I54 T → iv (rl_Heads_closed_4 F nf n T x0 x1) := by
  intro n
  induction n with
  | zero =>
    intro T x0 x1 h
    rw [rl_Heads_closed_4]
    exact iv_none
  | succ n ih =>
    intro T x0 x1 h
    rw [rl_Heads_closed_4]
    repeat' first
      | with_reducible exact iv_none
      | with_reducible refine iv_some ?_
      | with_reducible refine iv_ite (fun _ => ?_) (fun _ => ?_)
      | with_reducible refine iv_gd ?_
      | with_reducible refine iv_stK ?_ (fun _ _ => ?_)
      | with_reducible refine iv_vK (fun _ => ?_)
      | with_reducible refine iv_lK (fun _ => ?_)
      | with_reducible refine iv_bi ?_ (fun _ _ _ _ => ?_)
      | with_reducible refine hF _ _ _ _ ?_ ?_
      | with_reducible refine iv_rl_Heads_closed_11 hF ?_ _ _ _ _ _ ?_
      | with_reducible refine ih _ _ _ ?_
      | assumption
      | with_reducible refine i54_sI ?_ (by decide) (by decide)
      | with_reducible refine i54_sJ ?_
      | with_reducible refine i54_sA ?_ (by decide) (by decide)
      | with_reducible exact ivA_o (by decide) (by decide)
      | with_reducible refine ivA_47 ?_
      | with_reducible refine ivA_142 ?_
      | decide
theorem iv_rb_Heads_closed (hF : ivF F) (T : gSt) (p1 : Int32) (h : I54 T) : iv (rb_Heads_closed F nf T p1) := by
    unfold rb_Heads_closed
    repeat' first
      | with_reducible exact iv_none
      | with_reducible refine iv_some ?_
      | with_reducible refine iv_ite (fun _ => ?_) (fun _ => ?_)
      | with_reducible refine iv_gd ?_
      | with_reducible refine iv_stK ?_ (fun _ _ => ?_)
      | with_reducible refine iv_vK (fun _ => ?_)
      | with_reducible refine iv_lK (fun _ => ?_)
      | with_reducible refine iv_bi ?_ (fun _ _ _ _ => ?_)
      | with_reducible refine hF _ _ _ _ ?_ ?_
      | with_reducible refine iv_rl_Heads_closed_4 hF  _ _ _ _ ?_
      | assumption
      | with_reducible refine i54_sI ?_ (by decide) (by decide)
      | with_reducible refine i54_sJ ?_
      | with_reducible refine i54_sA ?_ (by decide) (by decide)
      | with_reducible exact ivA_o (by decide) (by decide)
      | with_reducible refine ivA_47 ?_
      | with_reducible refine ivA_142 ?_
      | decide
theorem iv_rb_Heads_ownRegion (hF : ivF F) (T : gSt) (p1 : Int32) (h : I54 T) : iv (rb_Heads_ownRegion F nf T p1) := by
    unfold rb_Heads_ownRegion
    repeat' first
      | with_reducible exact iv_none
      | with_reducible refine iv_some ?_
      | with_reducible refine iv_ite (fun _ => ?_) (fun _ => ?_)
      | with_reducible refine iv_gd ?_
      | with_reducible refine iv_stK ?_ (fun _ _ => ?_)
      | with_reducible refine iv_vK (fun _ => ?_)
      | with_reducible refine iv_lK (fun _ => ?_)
      | with_reducible refine iv_bi ?_ (fun _ _ _ _ => ?_)
      | with_reducible refine hF _ _ _ _ ?_ ?_
      | assumption
      | with_reducible refine i54_sI ?_ (by decide) (by decide)
      | with_reducible refine i54_sJ ?_
      | with_reducible refine i54_sA ?_ (by decide) (by decide)
      | with_reducible exact ivA_o (by decide) (by decide)
      | with_reducible refine ivA_47 ?_
      | with_reducible refine ivA_142 ?_
      | decide
theorem iv_rb_Heads_readRegion (hF : ivF F) (T : gSt) (p1 : Int32) (h : I54 T) : iv (rb_Heads_readRegion F nf T p1) := by
    unfold rb_Heads_readRegion
    repeat' first
      | with_reducible exact iv_none
      | with_reducible refine iv_some ?_
      | with_reducible refine iv_ite (fun _ => ?_) (fun _ => ?_)
      | with_reducible refine iv_gd ?_
      | with_reducible refine iv_stK ?_ (fun _ _ => ?_)
      | with_reducible refine iv_vK (fun _ => ?_)
      | with_reducible refine iv_lK (fun _ => ?_)
      | with_reducible refine iv_bi ?_ (fun _ _ _ _ => ?_)
      | with_reducible refine hF _ _ _ _ ?_ ?_
      | assumption
      | with_reducible refine i54_sI ?_ (by decide) (by decide)
      | with_reducible refine i54_sJ ?_
      | with_reducible refine i54_sA ?_ (by decide) (by decide)
      | with_reducible exact ivA_o (by decide) (by decide)
      | with_reducible refine ivA_47 ?_
      | with_reducible refine ivA_142 ?_
      | decide
end IVS
